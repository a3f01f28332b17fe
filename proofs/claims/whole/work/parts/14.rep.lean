/-! how the two memories hold an abstract state -/
/-- how many signs it takes until k trees are whole -/
def span : Nat → List Nat → Nat
  | 0, _ => 0
  | _ + 1, [] => 0
  | k + 1, s :: l => 1 + span (k + armsN s) l
def partL (l : List Nat) (i : Nat) : Nat := span 1 (l.drop i)
def sgn (l : List Nat) (i : Nat) : Nat := l.getD i 0
def isArm (l : List Nat) (k j : Nat) : Prop := (0 < armsN (sgn l k) ∧ j = k + 1) ∨ (1 < armsN (sgn l k) ∧ j = k + 1 + partL l (k + 1))
def ruA (rl : List Ru) (j : Nat) : Ru := rl.getD j (0, 0, 0, 0)
def armV (r : Ru) (a : Nat) (f : Nat) : Int32 := if a ≤ armsN r.1 then nI f else -9
/-- the rules in four rows a b c d of the memory -/
def LawM (σ : Mem) (a b c d : Nat) (rl : List Ru) : Prop := ∀ j, j < rl.length → σ.1 a j = nI (ruA rl j).1 ∧ σ.1 b j = armV (ruA rl j) 1 (ruA rl j).2.1 ∧ σ.1 c j = armV (ruA rl j) 2 (ruA rl j).2.2.1 ∧ σ.1 d j = nI (ruA rl j).2.2.2
/-- reference: what stands at a place of 'now' -/
def StR (σ : Mem) (at0 : Nat) (o g : Nat) (t : List Nat) : Prop := σ.1 7 at0 = nI o ∧ σ.1 7 (at0 + 1) = nI g ∧ σ.1 7 (at0 + 2) = nI t.length ∧ ∀ j, j < t.length → σ.1 7 (at0 + 3 + j) = nI (sgn t j)
def ImR (σ : Mem) (k : Nat) : Option (Nat × Nat × List Nat) → Prop
  | none => σ.1 8 k = 0
  | some (o, g, t) => σ.1 8 k = 1 ∧ StR σ (34 * (1 + k)) o g t
def RepR (A : AS) (σ : Mem) : Prop :=
  (σ.1 0 2 = nI (txA A).length ∧ ∀ j, j < (txA A).length → σ.1 1 j &&& 255 = nI ((txA A).getD j 0)) ∧
  (σ.1 2 0 = nI (rlA A).length ∧ LawM σ 3 4 5 6 (rlA A)) ∧ StR σ 0 (onA A) (gdA A) (trA A) ∧ (∀ k, k < 2 → ImR σ k (imA A k)) ∧ σ.2.1 0 0 = tcA A
/-- class: a Law, a Tree, an Image -/
def LawC (σ : Mem) (t : Nat) (rl : List Ru) : Prop := σ.1 t 4 = nI rl.length ∧ LawM σ (t + 1) (t + 2) (t + 3) (t + 4) rl
def TreeC (σ : Mem) (t : Nat) (l : List Nat) : Prop := σ.1 t 4 = nI l.length ∧ ∀ j, j < l.length → σ.1 (t + 1) j = nI (sgn l j) ∧ σ.1 (t + 2) j = nI (partL l j) ∧ (j = 0 → σ.1 (t + 3) j = -9) ∧ (0 < j → ∃ k, k < j ∧ isArm l k j ∧ σ.1 (t + 3) j = nI k)
def ImC (σ : Mem) (k : Nat) : Option (Nat × Nat × List Nat) → Prop
  | none => σ.1 (54 + 6 * k) 0 = 0
  | some (o, g, t) => σ.1 (54 + 6 * k) 0 = 1 ∧ σ.1 (54 + 6 * k) 1 = nI o ∧ σ.1 (54 + 6 * k) 2 = nI g ∧ TreeC σ (55 + 6 * k) t
/-- the mutable references of the class -/
def RfC (σ : Mem) : Prop := ((σ.2.2 4 = 34 ∧ σ.2.2 5 = 39) ∨ (σ.2.2 4 = 39 ∧ σ.2.2 5 = 34)) ∧ ((σ.2.2 6 = 44 ∧ σ.2.2 7 = 49) ∨ (σ.2.2 6 = 49 ∧ σ.2.2 7 = 44))
def RepC (A : AS) (σ : Mem) : Prop :=
  (σ.1 1 1 = nI (txA A).length ∧ ∀ j, j < (txA A).length → σ.1 2 j = nI ((txA A).getD j 0)) ∧
  RfC σ ∧ LawC σ (σ.2.2 4) (rlA A) ∧ (σ.1 0 8 = nI (onA A) ∧ σ.1 0 9 = nI (gdA A)) ∧ TreeC σ (σ.2.2 6) (trA A) ∧ (∀ k, k < 2 → ImC σ k (imA A k)) ∧ σ.2.1 0 10 = tcA A
/-- what Pairs and its parts hold hasn't changed -/
def PF (σ σ' : Mem) : Prop := (∀ o, 9 ≤ o → o ≤ 33 → σ'.1 o = σ.1 o) ∧ σ'.2.1 23 = σ.2.1 23
theorem PF.rf {σ : Mem} : PF σ σ := ⟨fun _ _ _ => rfl, rfl⟩
theorem PF.tr {σ1 σ2 σ3 : Mem} (h : PF σ1 σ2) (g : PF σ2 σ3) : PF σ1 σ3 := ⟨fun o h1 h2 => (g.1 o h1 h2).trans (h.1 o h1 h2), g.2.trans h.2⟩
theorem PF.sI {σ : Mem} {o k : Nat} {v : Int32} (h : o < 9 ∨ 33 < o) : PF σ (sI σ o k v) := ⟨fun q h1 h2 => sI_o (by omega), rfl⟩
theorem PF.sJ {σ : Mem} {o k : Nat} {v : Int64} (h : o ≠ 23) : PF σ (sJ σ o k v) := ⟨fun _ _ _ => rfl, sJ_o (Ne.symm h)⟩
theorem PF.sR {σ : Mem} {k v : Nat} : PF σ (sR σ k v) := ⟨fun _ _ _ => rfl, rfl⟩
/-! small helpers of both sides -/
theorem in_yes {j lo hi : Nat} (h1 : lo ≤ j) (h2 : j ≤ hi) (h3 : hi < 2147483648) : f_X9_in (nI j) (nI lo) (nI hi) = 1 := by
  have e1 : ¬ nI j < nI lo := by rw [n_lt (by omega) (by omega)]; omega
  have e2 : ¬ nI hi < nI j := by rw [n_lt (by omega) (by omega)]; omega
  simp [f_X9_in, e1, e2]
theorem in_no {a : Int32} {lo hi : Nat} (h3 : hi < 2147483647) (hl : lo ≤ hi + 1) (h : ∀ j, lo ≤ j → j ≤ hi → a ≠ nI j) : f_X9_in a (nI lo) (nI hi) = 0 := by
  unfold f_X9_in
  by_cases h1 : a < nI lo
  · rw [if_pos h1]
  · rw [if_neg h1]
    by_cases h2 : nI hi < a
    · rw [if_pos h2]
    · exfalso
      rcases n_of a with h0 | ⟨j, hj, rfl⟩
      · exact h1 (by rw [Int32.lt_iff_toInt_lt, n_toInt (by omega)]; rw [Int32.lt_iff_toInt_lt] at h0; have : (0 : Int32).toInt = 0 := (by decide); omega)
      · rw [n_lt (by omega) (by omega)] at h1 h2
        exact h j (by omega) (by omega) rfl
/-- 0 .. n - 1, as the reference asks it -/
theorem in_lt (a : Int32) {n : Nat} (hn : n < 2147483648) : (∃ j, j < n ∧ a = nI j ∧ f_X9_in a 0 (nI n - 1) = 1) ∨ ((∀ j, j < n → a ≠ nI j) ∧ f_X9_in a 0 (nI n - 1) = 0) := by
  by_cases h : ∃ j, j < n ∧ a = nI j
  · obtain ⟨j, hj, rfl⟩ := h
    refine Or.inl ⟨j, hj, rfl, ?_⟩
    rw [show (1 : Int32) = nI 1 from rfl, n_sub (by omega), show (0 : Int32) = nI 0 from rfl]
    exact in_yes (by omega) (by omega) (by omega)
  · refine Or.inr ⟨fun j hj e => h ⟨j, hj, e⟩, ?_⟩
    by_cases h0 : n = 0
    · subst h0
      unfold f_X9_in
      by_cases h1 : a < 0
      · rw [if_pos h1]
      · rw [if_neg h1, if_pos]
        rw [Int32.lt_iff_toInt_lt] at h1 ⊢
        have e1 : (0 : Int32).toInt = 0 := by decide
        have e2 : (nI 0 - 1).toInt = -1 := by decide
        omega
    · rw [show (1 : Int32) = nI 1 from rfl, n_sub (by omega), show (0 : Int32) = nI 0 from rfl]
      exact in_no (by omega) (by omega) (fun j _ h2 e => h ⟨j, by omega, e⟩)
/-- lo .. hi, as the reference asks it -/
theorem in_cs (a : Int32) (lo hi : Nat) (h3 : hi < 2147483647) (hl : lo ≤ hi + 1) : (∃ j, lo ≤ j ∧ j ≤ hi ∧ a = nI j ∧ f_X9_in a (nI lo) (nI hi) = 1) ∨ ((∀ j, lo ≤ j → j ≤ hi → a ≠ nI j) ∧ f_X9_in a (nI lo) (nI hi) = 0) := by
  by_cases h : ∃ j, lo ≤ j ∧ j ≤ hi ∧ a = nI j
  · obtain ⟨j, h1, h2, rfl⟩ := h
    exact Or.inl ⟨j, h1, h2, rfl, in_yes h1 h2 (by omega)⟩
  · exact Or.inr ⟨fun j h1 h2 e => h ⟨j, h1, h2, e⟩, in_no h3 hl (fun j h1 h2 e => h ⟨j, h1, h2, e⟩)⟩
theorem arms_R {s : Nat} (h : s < 2147483648) : f_X9_armsOf (nI s) = nI (armsN s) := by
  unfold f_X9_armsOf armsN
  rw [show (4 : Int32) = nI 4 from rfl, show (6 : Int32) = nI 6 from rfl]
  simp only [n_le (show 4 < 2147483648 by omega) h, n_le (show 6 < 2147483648 by omega) h]
  by_cases h4 : s < 4
  · rw [if_neg (by omega), if_pos h4]; rfl
  · rw [if_pos (by omega), if_neg h4]
    by_cases h6 : s < 6
    · rw [if_neg (by omega), if_pos h6]; rfl
    · rw [if_pos (by omega), if_neg h6]; rfl
theorem arms_C {s : Nat} (h : s < 2147483648) : f_X8_armsOf (nI s) = nI (armsN s) := by
  unfold f_X8_armsOf armsN
  rw [show (4 : Int32) = nI 4 from rfl, show (6 : Int32) = nI 6 from rfl]
  simp only [n_le (show 4 < 2147483648 by omega) h, n_le (show 6 < 2147483648 by omega) h]
  by_cases h4 : s < 4
  · rw [if_neg (by omega), if_pos h4]; rfl
  · rw [if_pos (by omega), if_neg h4]
    by_cases h6 : s < 6
    · rw [if_neg (by omega), if_pos h6]; rfl
    · rw [if_pos (by omega), if_neg h6]; rfl
theorem armsN_le (s : Nat) : armsN s ≤ 2 := by unfold armsN; split <;> (try split) <;> omega
