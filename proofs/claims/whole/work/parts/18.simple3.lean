/-! count, sign -/
theorem count_RC {A : AS} {σ ρ : Mem} (h : RepC A σ) (g : RepR A ρ) (hA : WfA A) (a : Int32) : f_X9_count a ρ = some (f_X8_count a σ) := by
  have ho : onA A < 65536 := hA.2.2.2.2.1
  unfold f_X9_count f_X8_count
  simp only [show (0 : Int32).toNatClampNeg = 0 from rfl, show (1 : Int32).toNatClampNeg = 1 from rfl, show (2 : Int32).toNatClampNeg = 2 from rfl, g.2.1.1, g.2.2.1.1, g.2.2.1.2.1, g.2.2.1.2.2.1, g.1.1, h.2.2.1.1, h.2.2.2.1.1, h.2.2.2.1.2, h.2.2.2.2.1.1, h.1.1, bitsIn_R ho, bitCount_C ho, Option.bind_some]
  split
  · rfl
  · split
    · rfl
    · split
      · rfl
      · split
        · rfl
        · split <;> rfl
theorem hasT_C {σ : Mem} {t n : Nat} (ht : σ.1 t 4 = nI n) (hn : n ≤ 31) (a : Int32) : (∃ j, j < n ∧ a = nI j ∧ f_X7_has t a σ = 1) ∨ ((∀ j, j < n → a ≠ nI j) ∧ f_X7_has t a σ = 0) := by
  unfold f_X7_has
  rw [ht]
  rcases n_of a with h | ⟨j, hj, rfl⟩
  · refine Or.inr ⟨fun j hj e => ?_, by rw [if_pos h]⟩
    rw [e, n_neg (by omega)] at h
    exact h
  · rw [if_neg (by rw [n_neg hj]; exact fun h => h)]
    simp only [n_le (show n < 2147483648 by omega) hj]
    by_cases hjn : j < n
    · refine Or.inl ⟨j, hjn, rfl, ?_⟩
      rw [if_neg (by omega), if_neg (by rw [show (31 : Int32) = nI 31 from rfl, n_le (by omega) hj]; omega)]
    · refine Or.inr ⟨fun i hi e => ?_, by rw [if_pos (by omega)]⟩
      rw [n_eq (by omega) (by omega)] at e
      omega
theorem isNode_R {A : AS} {σ : Mem} (h : RepR A σ) (hA : WfA A) (a : Int32) : (∃ j, j < (trA A).length ∧ a = nI j ∧ f_X9_isNode a σ = some 1) ∨ ((∀ j, j < (trA A).length → a ≠ nI j) ∧ f_X9_isNode a σ = some 0) := by
  have h3 := h.2.2.1.2.2.1
  have hl : (trA A).length < 2147483648 := by have := hA.2.2.2.2.2.2.1.2.1; omega
  unfold f_X9_isNode
  rw [show (2 : Int32).toNatClampNeg = 0 + 2 from rfl, h3]
  rcases in_lt a hl with ⟨j, h1, h2, h3⟩ | ⟨h1, h2⟩
  · exact Or.inl ⟨j, h1, h2, by rw [h3]; exact gd_yes (by decide)⟩
  · exact Or.inr ⟨h1, by rw [h2]; exact gd_yes (by decide)⟩
theorem armsN_inj {a b : Nat} : (nI (armsN a) = nI (armsN b)) = (armsN a = armsN b) := n_eq (by have := armsN_le a; omega) (by have := armsN_le b; omega)
/-- a sign changed to one with as many arms: the spans stay -/
theorem needs_set : ∀ (l : List Nat) (k i s : Nat), i < l.length → armsN s = armsN (sgn l i) → needs k (l.set i s) = needs k l
  | [], _, i, _, h, _ => absurd h (Nat.not_lt_zero i)
  | x :: l, 0, 0, s, _, _ => rfl
  | x :: l, 0, i + 1, s, _, _ => rfl
  | x :: l, k + 1, 0, s, _, e => by
    have e : armsN s = armsN x := e
    show needs (k + armsN s) l = needs (k + armsN x) l
    rw [e]
  | x :: l, k + 1, i + 1, s, h, e => needs_set l (k + armsN x) i s (Nat.lt_of_succ_lt_succ h) e
theorem span_set : ∀ (l : List Nat) (k i s : Nat), i < l.length → armsN s = armsN (sgn l i) → span k (l.set i s) = span k l
  | [], _, i, _, h, _ => absurd h (Nat.not_lt_zero i)
  | x :: l, 0, i, s, _, _ => by cases i <;> rfl
  | x :: l, k + 1, 0, s, _, e => by
    have e : armsN s = armsN x := e
    show 1 + span (k + armsN s) l = 1 + span (k + armsN x) l
    rw [e]
  | x :: l, k + 1, i + 1, s, h, e => by
    show 1 + span (k + armsN x) (l.set i s) = 1 + span (k + armsN x) l
    rw [span_set l (k + armsN x) i s (Nat.lt_of_succ_lt_succ h) e]
theorem sgn_set {l : List Nat} {i j s : Nat} (h : i < l.length) : sgn (l.set i s) j = if j = i then s else sgn l j := by
  unfold sgn
  rw [List.getD_eq_getElem?_getD, List.getD_eq_getElem?_getD]
  by_cases hj : j = i
  · subst hj
    rw [List.getElem?_set_self h, if_pos rfl]
    rfl
  · rw [List.getElem?_set_ne (Ne.symm hj), if_neg hj]
theorem partL_set {l : List Nat} {i s : Nat} (h : i < l.length) (e : armsN s = armsN (sgn l i)) (j : Nat) : partL (l.set i s) j = partL l j := by
  unfold partL
  by_cases hij : i < j
  · rw [List.drop_set_of_lt hij]
  · rw [List.drop_set, if_neg hij]
    by_cases hl : i - j < (l.drop j).length
    · refine span_set _ _ _ _ hl ?_
      rw [e]
      unfold sgn
      rw [List.getD_eq_getElem?_getD, List.getD_eq_getElem?_getD, List.getElem?_drop, show j + (i - j) = i by omega]
    · rw [List.set_eq_of_length_le (by omega)]
theorem isArm_set {l : List Nat} {i s k j : Nat} (h : i < l.length) (e : armsN s = armsN (sgn l i)) : isArm (l.set i s) k j ↔ isArm l k j := by
  have ha : armsN (sgn (l.set i s) k) = armsN (sgn l k) := by
    rw [sgn_set h]
    by_cases hk : k = i
    · rw [if_pos hk, hk, e]
    · rw [if_neg hk]
  unfold isArm
  rw [ha, partL_set h e]
theorem WfT.set {l : List Nat} {i s : Nat} (hw : WfT l) (h : i < l.length) (e : armsN s = armsN (sgn l i)) (hs : s < 8) : WfT (l.set i s) := by
  obtain ⟨h1, h2, h3⟩ := hw
  refine ⟨fun x hx => ?_, by rw [List.length_set]; exact h2, Or.inr ?_⟩
  · rcases List.mem_or_eq_of_mem_set hx with q | q
    · exact h1 x q
    · rw [q]; exact hs
  · rw [needs_set _ _ _ _ h e]
    rcases h3 with q | q
    · rw [q] at h; exact absurd h (Nat.not_lt_zero i)
    · exact q
