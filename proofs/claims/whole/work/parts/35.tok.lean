/-! tokens of a law's text -/
def chT (tx : List Nat) (p : Nat) : Nat := tx.getD p 0
noncomputable def cwh (P : Nat → Prop) : List Nat → Nat
  | [] => 0
  | c :: l => by
    classical
    exact if P c then cwh P l + 1 else 0
noncomputable def runE (P : Nat → Prop) (tx : List Nat) (p : Nat) : Nat := p + cwh P (tx.drop p)
theorem chT_drop {tx : List Nat} {p : Nat} (hp : p < tx.length) : tx.drop p = chT tx p :: tx.drop (p + 1) := by
  rw [List.drop_eq_getElem_cons hp]
  unfold chT
  rw [List.getD_eq_getElem?_getD, List.getElem?_eq_getElem hp]
  rfl
theorem run_step {P : Nat → Prop} {tx : List Nat} {p : Nat} (hp : p < tx.length) (h : P (chT tx p)) : runE P tx p = runE P tx (p + 1) := by
  unfold runE
  rw [chT_drop hp, cwh, if_pos h]
  omega
theorem run_stop {P : Nat → Prop} {tx : List Nat} {p : Nat} (h : tx.length ≤ p ∨ ¬ P (chT tx p)) : runE P tx p = p := by
  unfold runE
  by_cases hp : p < tx.length
  · rcases h with h | h
    · omega
    · rw [chT_drop hp, cwh, if_neg h]
      omega
  · rw [List.drop_eq_nil_of_le (by omega)]
    rfl
theorem run_ge {P : Nat → Prop} (tx : List Nat) (p : Nat) : p ≤ runE P tx p := by
  unfold runE; omega
theorem cwh_le {P : Nat → Prop} : ∀ l : List Nat, cwh P l ≤ l.length
  | [] => Nat.le_refl _
  | c :: l => by
    rw [cwh]
    have := cwh_le (P := P) l
    split
    · show _ ≤ l.length + 1
      omega
    · exact Nat.zero_le _
theorem run_le {P : Nat → Prop} {tx : List Nat} {p : Nat} (h : p ≤ tx.length) : runE P tx p ≤ tx.length := by
  unfold runE
  have := cwh_le (P := P) (tx.drop p)
  rw [List.length_drop] at this
  omega
def isBl (c : Nat) : Prop := c = 32
def isLe (c : Nat) : Prop := 97 ≤ c ∧ c ≤ 122
def isDi (c : Nat) : Prop := 48 ≤ c ∧ c ≤ 57
noncomputable def skT (tx : List Nat) (p : Nat) : Nat := runE isBl tx p
noncomputable def leE (tx : List Nat) (p : Nat) : Nat := runE isLe tx p
noncomputable def diE (tx : List Nat) (p : Nat) : Nat := runE isDi tx p
theorem skT_step {tx : List Nat} {p : Nat} (hp : p < tx.length) (h : chT tx p = 32) : skT tx p = skT tx (p + 1) := run_step hp h
theorem skT_stop {tx : List Nat} {p : Nat} (h : tx.length ≤ p ∨ ¬ chT tx p = 32) : skT tx p = p := run_stop h
theorem skT_ge (tx : List Nat) (p : Nat) : p ≤ skT tx p := run_ge tx p
theorem skT_le {tx : List Nat} {p : Nat} (h : p ≤ tx.length) : skT tx p ≤ tx.length := run_le h
theorem leE_step {tx : List Nat} {p : Nat} (hp : p < tx.length) (h : isLe (chT tx p)) : leE tx p = leE tx (p + 1) := run_step hp h
theorem leE_stop {tx : List Nat} {p : Nat} (h : tx.length ≤ p ∨ ¬ isLe (chT tx p)) : leE tx p = p := run_stop h
theorem leE_ge (tx : List Nat) (p : Nat) : p ≤ leE tx p := run_ge tx p
theorem leE_le {tx : List Nat} {p : Nat} (h : p ≤ tx.length) : leE tx p ≤ tx.length := run_le h
theorem diE_step {tx : List Nat} {p : Nat} (hp : p < tx.length) (h : isDi (chT tx p)) : diE tx p = diE tx (p + 1) := run_step hp h
theorem diE_stop {tx : List Nat} {p : Nat} (h : tx.length ≤ p ∨ ¬ isDi (chT tx p)) : diE tx p = p := run_stop h
theorem diE_ge (tx : List Nat) (p : Nat) : p ≤ diE tx p := run_ge tx p
theorem diE_le {tx : List Nat} {p : Nat} (h : p ≤ tx.length) : diE tx p ≤ tx.length := run_le h
/-- kind, value, place behind, of the token that begins at q: kinds 0 end, 1 sign, 2 good, 3 number, 4 stop, 5 wrong -/
noncomputable def tokQ (tx : List Nat) (q : Nat) : Nat × Nat × Nat := by
  classical
  exact if tx.length ≤ q then (0, 0, q) else
    if isLe (chT tx q) then
      (if leE tx q - q = 1 ∧ chT tx q < 105 then (1, chT tx q - 97, leE tx q) else
        if leE tx q - q = 4 ∧ chT tx q = 103 ∧ chT tx (q + 1) = 111 ∧ chT tx (q + 2) = 111 ∧ chT tx (q + 3) = 100 then (2, 0, leE tx q) else (5, 0, leE tx q))
    else if isDi (chT tx q) then
      (if 2 < diE tx q - q ∨ (1 < diE tx q - q ∧ chT tx q = 48) then (5, 0, diE tx q) else
        (3, if diE tx q - q = 1 then chT tx q - 48 else 10 * (chT tx q - 48) + (chT tx (q + 1) - 48), diE tx q))
    else (if chT tx q = 59 then 4 else 5, 0, q + 1)
noncomputable def tkS (tx : List Nat) (p : Nat) : Nat := skT tx p
noncomputable def tkK (tx : List Nat) (p : Nat) : Nat := (tokQ tx (skT tx p)).1
noncomputable def tkV (tx : List Nat) (p : Nat) : Nat := (tokQ tx (skT tx p)).2.1
noncomputable def tkA (tx : List Nat) (p : Nat) : Nat := (tokQ tx (skT tx p)).2.2
theorem tokQ_end {tx : List Nat} {q : Nat} (h : tx.length ≤ q) : tokQ tx q = (0, 0, q) := by
  unfold tokQ
  rw [if_pos h]
theorem tokQ_sign {tx : List Nat} {q : Nat} (h : q < tx.length) (h1 : isLe (chT tx q)) (h2 : leE tx q - q = 1 ∧ chT tx q < 105) : tokQ tx q = (1, chT tx q - 97, leE tx q) := by
  unfold tokQ
  rw [if_neg (by omega), if_pos h1, if_pos h2]
theorem tokQ_good {tx : List Nat} {q : Nat} (h : q < tx.length) (h1 : isLe (chT tx q)) (h2 : leE tx q - q = 4 ∧ chT tx q = 103 ∧ chT tx (q + 1) = 111 ∧ chT tx (q + 2) = 111 ∧ chT tx (q + 3) = 100) : tokQ tx q = (2, 0, leE tx q) := by
  unfold tokQ
  rw [if_neg (by omega), if_pos h1, if_neg (by omega), if_pos h2]
theorem tokQ_word {tx : List Nat} {q : Nat} (h : q < tx.length) (h1 : isLe (chT tx q)) (h2 : ¬ (leE tx q - q = 1 ∧ chT tx q < 105)) (h3 : ¬ (leE tx q - q = 4 ∧ chT tx q = 103 ∧ chT tx (q + 1) = 111 ∧ chT tx (q + 2) = 111 ∧ chT tx (q + 3) = 100)) : tokQ tx q = (5, 0, leE tx q) := by
  unfold tokQ
  rw [if_neg (by omega), if_pos h1, if_neg h2, if_neg h3]
theorem tokQ_digW {tx : List Nat} {q : Nat} (h : q < tx.length) (h1 : ¬ isLe (chT tx q)) (h2 : isDi (chT tx q)) (h3 : 2 < diE tx q - q ∨ (1 < diE tx q - q ∧ chT tx q = 48)) : tokQ tx q = (5, 0, diE tx q) := by
  unfold tokQ
  rw [if_neg (by omega), if_neg h1, if_pos h2, if_pos h3]
theorem tokQ_num {tx : List Nat} {q : Nat} (h : q < tx.length) (h1 : ¬ isLe (chT tx q)) (h2 : isDi (chT tx q)) (h3 : ¬ (2 < diE tx q - q ∨ (1 < diE tx q - q ∧ chT tx q = 48))) : tokQ tx q = (3, if diE tx q - q = 1 then chT tx q - 48 else 10 * (chT tx q - 48) + (chT tx (q + 1) - 48), diE tx q) := by
  unfold tokQ
  rw [if_neg (by omega), if_neg h1, if_pos h2, if_neg h3]
theorem tokQ_else {tx : List Nat} {q : Nat} (h : q < tx.length) (h1 : ¬ isLe (chT tx q)) (h2 : ¬ isDi (chT tx q)) : tokQ tx q = (if chT tx q = 59 then 4 else 5, 0, q + 1) := by
  unfold tokQ
  rw [if_neg (by omega), if_neg h1, if_neg h2]
/-- what is sure of every token -/
theorem tokQ_ok {tx : List Nat} {q : Nat} (h : q ≤ tx.length) : (tokQ tx q).1 < 6 ∧ (tokQ tx q).2.2 ≤ tx.length ∧ ((tokQ tx q).1 = 0 → tx.length ≤ q) ∧ ((tokQ tx q).1 ≠ 0 → q < (tokQ tx q).2.2) ∧ ((tokQ tx q).1 = 1 → (tokQ tx q).2.1 < 8) ∧ (tokQ tx q).2.1 < 1000000 := by
  by_cases h0 : tx.length ≤ q
  · rw [tokQ_end h0]
    exact ⟨by simp, h, fun _ => h0, fun w => absurd rfl w, fun w => absurd w (by simp), by simp⟩
  · by_cases h1 : isLe (chT tx q)
    · have e1 := leE_step (by omega) h1
      have e2 := leE_ge tx (q + 1)
      have e3 := leE_le h
      have h1' := h1
      unfold isLe at h1'
      by_cases h2 : leE tx q - q = 1 ∧ chT tx q < 105
      · rw [tokQ_sign (by omega) h1 h2]
        exact ⟨by simp, e3, fun w => absurd w (by simp), fun _ => by simp only; omega, fun _ => by simp only; omega, by simp only; omega⟩
      · by_cases h3 : leE tx q - q = 4 ∧ chT tx q = 103 ∧ chT tx (q + 1) = 111 ∧ chT tx (q + 2) = 111 ∧ chT tx (q + 3) = 100
        · rw [tokQ_good (by omega) h1 h3]
          exact ⟨by simp, e3, fun w => absurd w (by simp), fun _ => by simp only; omega, fun w => absurd w (by simp), by simp⟩
        · rw [tokQ_word (by omega) h1 h2 h3]
          exact ⟨by simp, e3, fun w => absurd w (by simp), fun _ => by simp only; omega, fun w => absurd w (by simp), by simp⟩
    · by_cases h2 : isDi (chT tx q)
      · have e1 := diE_step (by omega) h2
        have e2 := diE_ge tx (q + 1)
        have e3 := diE_le h
        have h2' := h2
        unfold isDi at h2'
        by_cases h3 : 2 < diE tx q - q ∨ (1 < diE tx q - q ∧ chT tx q = 48)
        · rw [tokQ_digW (by omega) h1 h2 h3]
          exact ⟨by simp, e3, fun w => absurd w (by simp), fun _ => by simp only; omega, fun w => absurd w (by simp), by simp⟩
        · rw [tokQ_num (by omega) h1 h2 h3]
          refine ⟨by simp, e3, fun w => absurd w (by simp), fun _ => by simp only; omega, fun w => absurd w (by simp), ?_⟩
          simp only
          split
          · omega
          · by_cases h4 : q + 1 < tx.length ∧ isDi (chT tx (q + 1))
            · have := h4.2
              unfold isDi at this
              omega
            · have := diE_stop (tx := tx) (p := q + 1) (by by_cases w : q + 1 < tx.length; exact Or.inr (fun z => h4 ⟨w, z⟩); exact Or.inl (by omega))
              omega
      · rw [tokQ_else (by omega) h1 h2]
        refine ⟨?_, by simp only; omega, ?_, fun _ => by simp only; omega, ?_, by simp⟩
        · simp only; split <;> omega
        · simp only; split <;> (intro w; omega)
        · simp only; split <;> (intro w; omega)
theorem tk_ok {tx : List Nat} {p : Nat} (h : p ≤ tx.length) : p ≤ tkS tx p ∧ tkS tx p ≤ tx.length ∧ tkK tx p < 6 ∧ tkA tx p ≤ tx.length ∧ (tkK tx p ≠ 0 → p < tkA tx p) ∧ (tkK tx p = 1 → tkV tx p < 8) ∧ tkV tx p < 1000000 := by
  have h1 := skT_ge tx p
  have h2 := skT_le h
  obtain ⟨a, b, c, d, e, f⟩ := tokQ_ok h2
  refine ⟨h1, h2, a, b, fun w => ?_, e, f⟩
  have := d w
  unfold tkA
  omega
