/-! the class's reading of a token -/
def F1 (L : List Nat) (σ τ : Mem) : Prop := (∀ j, j ∉ L → τ.1 1 j = σ.1 1 j) ∧ (∀ o, o ≠ 1 → τ.1 o = σ.1 o) ∧ τ.2 = σ.2
theorem F1.rf {L : List Nat} {σ : Mem} : F1 L σ σ := ⟨fun _ _ => rfl, fun _ _ => rfl, rfl⟩
theorem F1.sI {L : List Nat} {σ τ : Mem} {j : Nat} {v : Int32} (h : F1 L σ τ) (hj : j ∈ L) : F1 L σ (sI τ 1 j v) := by
  refine ⟨fun i hi => ?_, fun o ho => ?_, h.2.2⟩
  · rw [sI_slot (fun e => hi (by rw [e]; exact hj))]; exact h.1 i hi
  · rw [sI_o ho]; exact h.2.1 o ho
theorem F1.tr {L : List Nat} {σ τ υ : Mem} (h : F1 L σ τ) (g : F1 L τ υ) : F1 L σ υ := ⟨fun j hj => (g.1 j hj).trans (h.1 j hj), fun o ho => (g.2.1 o ho).trans (h.2.1 o ho), g.2.2.trans h.2.2⟩
theorem F1.wk {L M : List Nat} {σ τ : Mem} (h : F1 L σ τ) (hs : ∀ j, j ∈ L → j ∈ M) : F1 M σ τ := ⟨fun j hj => h.1 j (fun w => hj (hs j w)), h.2.1, h.2.2⟩
theorem F1.tx {L : List Nat} {σ τ : Mem} {tx : List Nat} (h : F1 L σ τ) (h1 : 1 ∉ L) (t : TxC σ tx) : TxC τ tx := ⟨by rw [h.1 1 h1]; exact t.1, by rw [h.2.1 2 (by omega)]; exact t.2⟩
def TokC (σ : Mem) (tx : List Nat) (p : Nat) : Prop := σ.1 1 2 = nI (tkS tx p) ∧ σ.1 1 3 = nI (tkK tx p) ∧ ((tkK tx p = 1 ∨ tkK tx p = 3) → σ.1 1 4 = nI (tkV tx p)) ∧ σ.1 1 5 = nI (tkA tx p)
theorem isLet_yes {c : Nat} (hc : c < 256) (h : isLe c) : f_X6_isLetter (nI c) = 1 := by
  unfold f_X6_isLetter
  unfold isLe at h
  rw [if_neg (by rw [show (97 : Int32) = nI 97 from rfl, n_lt (by omega) (by omega)]; omega), if_neg (by rw [show (122 : Int32) = nI 122 from rfl, n_lt (by omega) (by omega)]; omega)]
theorem isLet_no {c : Nat} (hc : c < 256) (h : ¬ isLe c) : f_X6_isLetter (nI c) = 0 := by
  unfold f_X6_isLetter
  unfold isLe at h
  by_cases q : c < 97
  · rw [if_pos (by rw [show (97 : Int32) = nI 97 from rfl, n_lt (by omega) (by omega)]; omega)]
  · rw [if_neg (by rw [show (97 : Int32) = nI 97 from rfl, n_lt (by omega) (by omega)]; omega), if_pos (by rw [show (122 : Int32) = nI 122 from rfl, n_lt (by omega) (by omega)]; omega)]
theorem isDig_yes {c : Nat} (hc : c < 256) (h : isDi c) : f_X6_isDigit (nI c) = 1 := by
  unfold f_X6_isDigit
  unfold isDi at h
  rw [if_neg (by rw [show (48 : Int32) = nI 48 from rfl, n_lt (by omega) (by omega)]; omega), if_neg (by rw [show (57 : Int32) = nI 57 from rfl, n_lt (by omega) (by omega)]; omega)]
theorem isDig_no {c : Nat} (hc : c < 256) (h : ¬ isDi c) : f_X6_isDigit (nI c) = 0 := by
  unfold f_X6_isDigit
  unfold isDi at h
  by_cases q : c < 48
  · rw [if_pos (by rw [show (48 : Int32) = nI 48 from rfl, n_lt (by omega) (by omega)]; omega)]
  · rw [if_neg (by rw [show (48 : Int32) = nI 48 from rfl, n_lt (by omega) (by omega)]; omega), if_pos (by rw [show (57 : Int32) = nI 57 from rfl, n_lt (by omega) (by omega)]; omega)]
theorem chT_lt {tx : List Nat} (h : ∀ x ∈ tx, x < 256) {k : Nat} (hk : k < tx.length) : chT tx k < 256 := tx_lt h hk
/-- the blanks ahead -/
theorem blanks_C {σ : Mem} {tx : List Nat} {p : Nat} (h : TxC σ tx) (hx : ∀ x ∈ tx, x < 256) (hl : tx.length ≤ 300) (hp : p ≤ tx.length) (h5 : σ.1 1 5 = nI p) : Ok (Lim (T := Mem) (fun s => b_X6_next_2 s.1 s.2) ((0 : Int32), σ)) (fun τ => τ.1 1 5 = nI (skT tx p) ∧ F1 [5] σ τ) := by
  refine Ok.wf (fun m s => ∃ k, p + k + m = tx.length ∧ s.1 = nI k ∧ skT tx (p + k) = skT tx p ∧ s.2.1 1 5 = nI (p + k) ∧ F1 [5] σ s.2) ?_ (tx.length - p) _ ⟨0, by omega, rfl, rfl, h5, F1.rf⟩
  rintro m ⟨v, τ⟩ ⟨k, e1, e2, e3, e4, e5⟩
  simp only at e2 e4 e5
  subst e2
  show Ok (b_X6_next_2 (nI k) τ) _
  have txc := e5.tx (by decide) h
  unfold b_X6_next_2
  by_cases c : 300 ≤ k
  · rw [if_pos (by rw [show (300 : Int32) = nI 300 from rfl, n_le (by omega) (by omega)]; exact c)]
    refine Ok.some ⟨?_, e5⟩
    rw [← e3, skT_stop (Or.inl (by omega))]; exact e4
  · rw [if_neg (by rw [show (300 : Int32) = nI 300 from rfl, n_le (by omega) (by omega)]; exact c), e4]
    by_cases c2 : p + k < tx.length
    · have hc := chT_lt hx c2
      rw [byte_C txc hl c2, Option.bind_some]
      show Ok (if nI (chT tx (p + k)) = 32 then _ else _) _
      simp only [show (32 : Int32) = nI 32 from rfl, n_eq (show chT tx (p + k) < 2147483648 by omega) (show 32 < 2147483648 by omega)]
      by_cases c3 : chT tx (p + k) = 32
      · rw [if_pos c3]
        refine Ok.lt (Ok.lt (Ok.some ⟨m - 1, by omega, k + 1, by omega, n_suc k, ?_, ?_, e5.sI (by decide)⟩))
        · rw [← e3, skT_step c2 c3]; rfl
        · rw [sI_same, n_suc]; rfl
      · rw [if_neg c3]
        refine Ok.some ⟨?_, e5⟩
        rw [← e3, skT_stop (Or.inr c3)]; exact e4
    · rw [byte_no txc hl (by omega) (by omega), Option.bind_some, if_neg (by decide)]
      refine Ok.some ⟨?_, e5⟩
      rw [← e3, skT_stop (Or.inl (by omega))]; exact e4
theorem word_C {σ : Mem} {tx : List Nat} {q : Nat} (h : TxC σ tx) (hx : ∀ x ∈ tx, x < 256) (hl : tx.length ≤ 300) (hq : q < tx.length) (h5 : σ.1 1 5 = nI q) (h2 : σ.1 1 2 = nI q) (hc : isLe (chT tx q)) : Ok (f_X6_readWord σ) (fun τ => F1 [3, 4, 5] σ τ ∧ τ.1 1 3 = nI (tokQ tx q).1 ∧ ((tokQ tx q).1 = 1 → τ.1 1 4 = nI (tokQ tx q).2.1) ∧ (tokQ tx q).1 ≠ 3 ∧ τ.1 1 5 = nI (tokQ tx q).2.2) := by
  unfold f_X6_readWord
  refine Ok.bind (P := fun τ => τ.1 1 5 = nI (leE tx q) ∧ F1 [5] σ τ) ?_ ?_
  · refine Ok.wf (fun m s => ∃ k, q + k + m = tx.length ∧ s.1 = nI k ∧ leE tx (q + k) = leE tx q ∧ s.2.1 1 5 = nI (q + k) ∧ F1 [5] σ s.2) ?_ (tx.length - q) _ ⟨0, by omega, rfl, rfl, h5, F1.rf⟩
    rintro m ⟨v, τ⟩ ⟨k, e1, e2, e3, e4, e5⟩
    simp only at e2 e4 e5
    subst e2
    show Ok (b_X6_readWord_2 (nI k) τ) _
    have txc := e5.tx (by decide) h
    unfold b_X6_readWord_2
    by_cases c : 300 ≤ k
    · rw [if_pos (by rw [show (300 : Int32) = nI 300 from rfl, n_le (by omega) (by omega)]; exact c)]
      refine Ok.some ⟨?_, e5⟩
      rw [← e3, leE_stop (Or.inl (by omega))]; exact e4
    · rw [if_neg (by rw [show (300 : Int32) = nI 300 from rfl, n_le (by omega) (by omega)]; exact c), e4]
      by_cases c2 : q + k < tx.length
      · have hc := chT_lt hx c2
        rw [byte_C txc hl c2, Option.bind_some]
        show Ok (if f_X6_isLetter (nI (chT tx (q + k))) = 0 then _ else _) _
        by_cases c3 : isLe (chT tx (q + k))
        · rw [isLet_yes hc c3, if_neg (by decide)]
          refine Ok.lt (Ok.lt (Ok.some ⟨m - 1, by omega, k + 1, by omega, n_suc k, ?_, ?_, e5.sI (by decide)⟩))
          · rw [← e3, leE_step c2 c3]; rfl
          · rw [sI_same, n_suc]; rfl
        · rw [isLet_no hc c3, if_pos (by decide)]
          refine Ok.some ⟨?_, e5⟩
          rw [← e3, leE_stop (Or.inr c3)]; exact e4
      · rw [byte_no txc hl (by omega) (by omega), Option.bind_some, if_pos (by decide)]
        refine Ok.some ⟨?_, e5⟩
        rw [← e3, leE_stop (Or.inl (by omega))]; exact e4
  · rintro τ ⟨e1, e2⟩
    have txc := e2.tx (by decide) h
    have hcl := chT_lt hx hq
    have g1 := leE_step hq hc
    have g2 := leE_ge tx (q + 1)
    have g3 := leE_le (tx := tx) (p := q) (by omega)
    have hc' := hc
    unfold isLe at hc'
    have s2 : τ.1 1 2 = nI q := by rw [e2.1 2 (by decide)]; exact h2
    have bt : ∀ j, q + j < tx.length → f_X6_byteAt (nI (q + j)) τ = some (nI (chT tx (q + j))) := fun j hj => byte_C txc hl hj
    have b0 : f_X6_byteAt (nI q) τ = some (nI (chT tx q)) := bt 0 hq
    unfold j_X6_readWord_39
    rw [s2, b0, Option.bind_some, n_97 (by omega), e1, n_sub (by omega)]
    refine Ok.lt ?_
    have w83 : ¬ (leE tx q - q = 1 ∧ chT tx q < 105) → Ok (j_X6_readWord_83 τ) (fun τ => F1 [3, 4, 5] σ τ ∧ τ.1 1 3 = nI (tokQ tx q).1 ∧ ((tokQ tx q).1 = 1 → τ.1 1 4 = nI (tokQ tx q).2.1) ∧ (tokQ tx q).1 ≠ 3 ∧ τ.1 1 5 = nI (tokQ tx q).2.2) := by
      intro no
      have g4 : f_X6_isGoodWord τ = some 1 ∧ (leE tx q - q = 4 ∧ chT tx q = 103 ∧ chT tx (q + 1) = 111 ∧ chT tx (q + 2) = 111 ∧ chT tx (q + 3) = 100) ∨ f_X6_isGoodWord τ = some 0 ∧ ¬ (leE tx q - q = 4 ∧ chT tx q = 103 ∧ chT tx (q + 1) = 111 ∧ chT tx (q + 2) = 111 ∧ chT tx (q + 3) = 100) := by
        unfold f_X6_isGoodWord
        rw [s2, e1, n_sub (by omega)]
        by_cases c : leE tx q - q = 4
        · have d1 := chT_lt hx (show q + 1 < tx.length by omega)
          have d2 := chT_lt hx (show q + 2 < tx.length by omega)
          have d3 := chT_lt hx (show q + 3 < tx.length by omega)
          rw [if_pos (by rw [c]; rfl), b0, Option.bind_some]
          simp only [show (103 : Int32) = nI 103 from rfl, show (111 : Int32) = nI 111 from rfl, show (100 : Int32) = nI 100 from rfl, n_eq (show chT tx q < 2147483648 by omega) (show 103 < 2147483648 by omega)]
          by_cases c0 : chT tx q = 103
          · rw [if_pos c0, show nI q + 1 = nI (q + 1) from n_suc q, bt 1 (by omega), Option.bind_some]
            simp only [n_eq (show chT tx (q + 1) < 2147483648 by omega) (show 111 < 2147483648 by omega)]
            by_cases c1 : chT tx (q + 1) = 111
            · rw [if_pos c1, show nI q + 2 = nI (q + 2) from n_add q 2, bt 2 (by omega), Option.bind_some]
              simp only [n_eq (show chT tx (q + 2) < 2147483648 by omega) (show 111 < 2147483648 by omega)]
              by_cases c2 : chT tx (q + 2) = 111
              · rw [if_pos c2, show nI q + 3 = nI (q + 3) from n_add q 3, bt 3 (by omega), Option.bind_some]
                simp only [n_eq (show chT tx (q + 3) < 2147483648 by omega) (show 100 < 2147483648 by omega)]
                by_cases c3 : chT tx (q + 3) = 100
                · rw [if_pos c3]; exact Or.inl ⟨rfl, c, c0, c1, c2, c3⟩
                · rw [if_neg c3]; exact Or.inr ⟨rfl, fun w => c3 w.2.2.2.2⟩
              · rw [if_neg c2]; exact Or.inr ⟨rfl, fun w => c2 w.2.2.2.1⟩
            · rw [if_neg c1]; exact Or.inr ⟨rfl, fun w => c1 w.2.2.1⟩
          · rw [if_neg c0]; exact Or.inr ⟨rfl, fun w => c0 w.2.1⟩
        · rw [if_neg (by rw [show (4 : Int32) = nI 4 from rfl, n_eq (by omega) (by omega)]; exact c)]
          exact Or.inr ⟨rfl, fun w => c w.1⟩
      unfold j_X6_readWord_83 j_X6_readWord_96
      rcases g4 with ⟨g4, g5⟩ | ⟨g4, g5⟩
      · rw [g4, Option.bind_some, if_neg (by decide), tokQ_good hq hc g5]
        refine Ok.lt (Ok.some ⟨(e2.wk (by decide)).sI (by decide), sI_same _ _ _ _, fun w => absurd w (by simp), by simp, ?_⟩)
        rw [sI_slot (by omega)]; exact e1
      · rw [g4, Option.bind_some, if_pos (by decide), tokQ_word hq hc no g5]
        refine Ok.lt (Ok.some ⟨(e2.wk (by decide)).sI (by decide), sI_same _ _ _ _, fun w => absurd w (by simp), by simp, ?_⟩)
        rw [sI_slot (by omega)]; exact e1
    by_cases c : leE tx q - q = 1
    · rw [if_pos (by rw [c]; rfl)]
      by_cases c2 : chT tx q < 105
      · rw [if_neg (by rw [show (8 : Int32) = nI 8 from rfl, n_le (by omega) (by omega)]; omega), tokQ_sign hq hc ⟨c, c2⟩]
        refine Ok.lt (Ok.lt (Ok.some ⟨((e2.wk (by decide)).sI (by decide)).sI (by decide), ?_, fun _ => sI_same _ _ _ _, by simp, ?_⟩))
        · rw [sI_slot (by omega)]; exact sI_same _ _ _ _
        · rw [sI_slot (by omega), sI_slot (by omega)]; exact e1
      · rw [if_pos (by rw [show (8 : Int32) = nI 8 from rfl, n_le (by omega) (by omega)]; omega)]
        exact w83 (fun w => c2 w.2)
    · rw [if_neg (by rw [show (1 : Int32) = nI 1 from rfl, n_eq (by omega) (by omega)]; exact c)]
      exact w83 (fun w => c w.1)
theorem num_C {σ : Mem} {tx : List Nat} {q : Nat} (h : TxC σ tx) (hx : ∀ x ∈ tx, x < 256) (hl : tx.length ≤ 300) (hq : q < tx.length) (h5 : σ.1 1 5 = nI q) (h2 : σ.1 1 2 = nI q) (h4 : σ.1 1 4 = 0) (hn : ¬ isLe (chT tx q)) (hc : isDi (chT tx q)) : Ok (f_X6_readNumber σ) (fun τ => F1 [3, 4, 5] σ τ ∧ τ.1 1 3 = nI (tokQ tx q).1 ∧ (tokQ tx q).1 ≠ 1 ∧ ((tokQ tx q).1 = 3 → τ.1 1 4 = nI (tokQ tx q).2.1) ∧ τ.1 1 5 = nI (tokQ tx q).2.2) := by
  have hc' := hc
  unfold isDi at hc'
  have hcl := chT_lt hx hq
  unfold f_X6_readNumber
  refine Ok.bind (P := fun τ => τ.1 1 5 = nI (diE tx q) ∧ (diE tx q - q = 1 → τ.1 1 4 = nI (chT tx q - 48)) ∧ (2 ≤ diE tx q - q → τ.1 1 4 = nI (10 * (chT tx q - 48) + (chT tx (q + 1) - 48))) ∧ F1 [4, 5] σ τ) ?_ ?_
  · refine Ok.wf (fun m s => ∃ k, q + k + m = tx.length ∧ s.1 = nI k ∧ diE tx (q + k) = diE tx q ∧ s.2.1 1 5 = nI (q + k) ∧ (k = 0 → s.2.1 1 4 = nI 0) ∧ (k = 1 → s.2.1 1 4 = nI (chT tx q - 48)) ∧ (2 ≤ k → s.2.1 1 4 = nI (10 * (chT tx q - 48) + (chT tx (q + 1) - 48))) ∧ F1 [4, 5] σ s.2) ?_ (tx.length - q) _ ⟨0, by omega, rfl, rfl, h5, fun _ => h4, fun w => by omega, fun w => by omega, F1.rf⟩
    rintro m ⟨v, τ⟩ ⟨k, e1, e2, e3, e4, e5, e6, e7, e8⟩
    simp only at e2 e4 e5 e6 e7 e8
    subst e2
    show Ok (b_X6_readNumber_2 (nI k) τ) _
    have txc := e8.tx (by decide) h
    have done : diE tx (q + k) = q + k → Ok (some (Sum.inr τ) : Option ((Int32 × Mem) ⊕ Mem)) (SumP (fun s => ∃ m', m' < m ∧ ∃ k, q + k + m' = tx.length ∧ s.1 = nI k ∧ diE tx (q + k) = diE tx q ∧ s.2.1 1 5 = nI (q + k) ∧ (k = 0 → s.2.1 1 4 = nI 0) ∧ (k = 1 → s.2.1 1 4 = nI (chT tx q - 48)) ∧ (2 ≤ k → s.2.1 1 4 = nI (10 * (chT tx q - 48) + (chT tx (q + 1) - 48))) ∧ F1 [4, 5] σ s.2) (fun τ => τ.1 1 5 = nI (diE tx q) ∧ (diE tx q - q = 1 → τ.1 1 4 = nI (chT tx q - 48)) ∧ (2 ≤ diE tx q - q → τ.1 1 4 = nI (10 * (chT tx q - 48) + (chT tx (q + 1) - 48))) ∧ F1 [4, 5] σ τ)) := by
      intro w
      rw [w] at e3
      exact Ok.some ⟨by rw [← e3]; exact e4, fun z => e6 (by omega), fun z => e7 (by omega), e8⟩
    unfold b_X6_readNumber_2
    by_cases c : 300 ≤ k
    · rw [if_pos (by rw [show (300 : Int32) = nI 300 from rfl, n_le (by omega) (by omega)]; exact c)]
      exact done (diE_stop (Or.inl (by omega)))
    · rw [if_neg (by rw [show (300 : Int32) = nI 300 from rfl, n_le (by omega) (by omega)]; exact c), e4]
      by_cases c2 : q + k < tx.length
      · have hcc := chT_lt hx c2
        have bb := byte_C txc hl c2
        rw [bb, Option.bind_some]
        show Ok (if f_X6_isDigit (nI (chT tx (q + k))) = 0 then _ else _) _
        by_cases c3 : isDi (chT tx (q + k))
        · have c3' := c3
          unfold isDi at c3'
          rw [isDig_yes hcc c3, if_neg (by decide)]
          by_cases c4 : 2 ≤ k
          · rw [if_pos (by rw [show (2 : Int32) = nI 2 from rfl, n_le (by omega) (by omega)]; exact c4)]
            unfold j_X6_readNumber_51
            refine Ok.lt (Ok.lt (Ok.some ⟨m - 1, by omega, k + 1, by omega, n_suc k, ?_, ?_, fun w => by omega, fun w => by omega, fun w => ?_, e8.sI (by decide)⟩))
            · rw [← e3, diE_step c2 c3]; rfl
            · rw [sI_same, e4, n_suc]; rfl
            · rw [sI_slot (by omega)]; exact e7 c4
          · rw [if_neg (by rw [show (2 : Int32) = nI 2 from rfl, n_le (by omega) (by omega)]; exact c4), Option.bind_some]
            unfold j_X6_readNumber_51
            refine Ok.lt (Ok.lt (Ok.lt (Ok.some ⟨m - 1, by omega, k + 1, by omega, n_suc k, ?_, ?_, fun w => by omega, fun w => ?_, fun w => ?_, (e8.sI (by decide)).sI (by decide)⟩)))
            · rw [← e3, diE_step c2 c3]; rfl
            · rw [sI_same, sI_slot (by omega), e4, n_suc]; rfl
            · have k0 : k = 0 := by omega
              subst k0
              rw [sI_slot (by omega), sI_same, e5 rfl]
              show nI 0 * 10 + nI (chT tx (q + 0)) - 48 = _
              rw [show (10 : Int32) = nI 10 from rfl, n_mul, n_add, show (48 : Int32) = nI 48 from rfl, n_sub (by omega)]
              simp
            · have k1 : k = 1 := by omega
              subst k1
              rw [sI_slot (by omega), sI_same, e6 rfl]
              show nI (chT tx q - 48) * 10 + nI (chT tx (q + 1)) - 48 = _
              rw [show (10 : Int32) = nI 10 from rfl, n_mul, n_add, show (48 : Int32) = nI 48 from rfl, n_sub (by omega)]
              congr 1
              omega
        · rw [isDig_no hcc c3, if_pos (by decide)]
          exact done (diE_stop (Or.inr c3))
      · rw [byte_no txc hl (by omega) (by omega), Option.bind_some, if_pos (by decide)]
        exact done (diE_stop (Or.inl (by omega)))
  · rintro τ ⟨e1, e2, e3, e4⟩
    have txc := e4.tx (by decide) h
    have g1 := diE_step hq hc
    have g2 := diE_ge tx (q + 1)
    have g3 := diE_le (tx := tx) (p := q) (by omega)
    have s2 : τ.1 1 2 = nI q := by rw [e4.1 2 (by decide)]; exact h2
    have b0 : f_X6_byteAt (nI q) τ = some (nI (chT tx q)) := byte_C txc hl hq
    have wr : (2 < diE tx q - q ∨ (1 < diE tx q - q ∧ chT tx q = 48)) → Ok (j_X6_readNumber_111 τ) (fun τ => F1 [3, 4, 5] σ τ ∧ τ.1 1 3 = nI (tokQ tx q).1 ∧ (tokQ tx q).1 ≠ 1 ∧ ((tokQ tx q).1 = 3 → τ.1 1 4 = nI (tokQ tx q).2.1) ∧ τ.1 1 5 = nI (tokQ tx q).2.2) := by
      intro w
      unfold j_X6_readNumber_111 j_X6_readNumber_116
      rw [tokQ_digW hq hn hc w]
      refine Ok.lt (Ok.some ⟨(e4.wk (by decide)).sI (by decide), sI_same _ _ _ _, by simp, fun w => absurd w (by simp), ?_⟩)
      rw [sI_slot (by omega)]; exact e1
    have nm : ¬ (2 < diE tx q - q ∨ (1 < diE tx q - q ∧ chT tx q = 48)) → Ok (j_X6_readNumber_116 3 τ) (fun τ => F1 [3, 4, 5] σ τ ∧ τ.1 1 3 = nI (tokQ tx q).1 ∧ (tokQ tx q).1 ≠ 1 ∧ ((tokQ tx q).1 = 3 → τ.1 1 4 = nI (tokQ tx q).2.1) ∧ τ.1 1 5 = nI (tokQ tx q).2.2) := by
      intro w
      unfold j_X6_readNumber_116
      rw [tokQ_num hq hn hc w]
      refine Ok.lt (Ok.some ⟨(e4.wk (by decide)).sI (by decide), sI_same _ _ _ _, by simp, fun _ => ?_, ?_⟩)
      · rw [sI_slot (by omega)]
        by_cases z : diE tx q - q = 1
        · rw [if_pos z]; exact e2 z
        · rw [if_neg z]; exact e3 (by omega)
      · rw [sI_slot (by omega)]; exact e1
    unfold j_X6_readNumber_67 j_X6_readNumber_99 j_X6_readNumber_100
    rw [s2, e1, n_sub (by omega)]
    refine Ok.lt ?_
    by_cases c : diE tx q - q ≤ 1
    · rw [if_pos (by rw [show (1 : Int32) = nI 1 from rfl, n_le (by omega) (by omega)]; exact c), if_neg (by rw [show (2 : Int32) = nI 2 from rfl, n_lt (by omega) (by omega)]; omega), if_pos rfl]
      exact nm (by omega)
    · rw [if_neg (by rw [show (1 : Int32) = nI 1 from rfl, n_le (by omega) (by omega)]; exact c), b0, Option.bind_some]
      simp only [show (48 : Int32) = nI 48 from rfl, n_eq (show chT tx q < 2147483648 by omega) (show 48 < 2147483648 by omega)]
      by_cases c2 : chT tx q = 48
      · rw [if_pos c2]
        by_cases c3 : 2 < diE tx q - q
        · rw [if_pos (by rw [show (2 : Int32) = nI 2 from rfl, n_lt (by omega) (by omega)]; omega)]
          exact wr (Or.inl c3)
        · rw [if_neg (by rw [show (2 : Int32) = nI 2 from rfl, n_lt (by omega) (by omega)]; omega), if_neg (by decide)]
          exact wr (Or.inr ⟨by omega, c2⟩)
      · rw [if_neg c2]
        by_cases c3 : 2 < diE tx q - q
        · rw [if_pos (by rw [show (2 : Int32) = nI 2 from rfl, n_lt (by omega) (by omega)]; omega)]
          exact wr (Or.inl c3)
        · rw [if_neg (by rw [show (2 : Int32) = nI 2 from rfl, n_lt (by omega) (by omega)]; omega), if_pos trivial]
          exact nm (by omega)
theorem next_C {σ : Mem} {tx : List Nat} {p : Nat} (h : TxC σ tx) (hx : ∀ x ∈ tx, x < 256) (hl : tx.length ≤ 300) (hp : p ≤ tx.length) (h5 : σ.1 1 5 = nI p) : Ok (f_X6_next σ) (fun τ => TokC τ tx p ∧ F1 [2, 3, 4, 5] σ τ) := by
  have q1 := skT_le hp
  unfold f_X6_next
  refine Ok.bind (blanks_C h hx hl hp h5) ?_
  rintro τ ⟨e1, e2⟩
  unfold j_X6_next_38
  refine Ok.lt (Ok.lt ?_)
  rw [e1]
  generalize hυ : sI (sI τ 1 2 (nI (skT tx p))) 1 4 0 = υ
  have f : F1 [2, 3, 4, 5] σ υ := by rw [← hυ]; exact ((e2.wk (by decide)).sI (by decide)).sI (by decide)
  have txc := f.tx (by decide) h
  have u2 : υ.1 1 2 = nI (skT tx p) := by rw [← hυ, sI_slot (by omega), sI_same]
  have u4 : υ.1 1 4 = 0 := by rw [← hυ, sI_same]
  have u5 : υ.1 1 5 = nI (skT tx p) := by rw [← hυ, sI_slot (by omega), sI_slot (by omega)]; exact e1
  rw [u5]
  unfold TokC tkS tkK tkV tkA
  generalize skT tx p = q at *
  by_cases c : q < tx.length
  · have hc := chT_lt hx c
    rw [byte_C txc hl c, Option.bind_some]
    show Ok (if 0 ≤ nI (chT tx q) then _ else _) _
    rw [if_pos (by rw [n_nn (by omega)]; trivial)]
    by_cases c1 : isLe (chT tx q)
    · show Ok (if f_X6_isLetter (nI (chT tx q)) = 0 then _ else _) _
      rw [isLet_yes hc c1, if_neg (by decide)]
      refine Ok.bind (word_C txc hx hl c u5 u2 c1) (fun ω hω => Ok.some ⟨⟨?_, hω.2.1, fun w => ?_, hω.2.2.2.2⟩, f.tr (hω.1.wk (by decide))⟩)
      · rw [hω.1.1 2 (by decide)]; exact u2
      · rcases w with w | w
        · exact hω.2.2.1 w
        · exact absurd w hω.2.2.2.1
    · show Ok (if f_X6_isLetter (nI (chT tx q)) = 0 then (if f_X6_isDigit (nI (chT tx q)) = 0 then (if nI (chT tx q) = 59 then _ else _) else _) else _) _
      rw [isLet_no hc c1, if_pos (by decide)]
      by_cases c2 : isDi (chT tx q)
      · rw [isDig_yes hc c2, if_neg (by decide)]
        refine Ok.bind (num_C txc hx hl c u5 u2 u4 c1 c2) (fun ω hω => Ok.some ⟨⟨?_, hω.2.1, fun w => ?_, hω.2.2.2.2⟩, f.tr (hω.1.wk (by decide))⟩)
        · rw [hω.1.1 2 (by decide)]; exact u2
        · rcases w with w | w
          · exact absurd w hω.2.2.1
          · exact hω.2.2.2.1 w
      · rw [isDig_no hc c2, if_pos (by decide), tokQ_else c c1 c2]
        unfold j_X6_next_112
        simp only [show (59 : Int32) = nI 59 from rfl, n_eq (show chT tx q < 2147483648 by omega) (show 59 < 2147483648 by omega)]
        by_cases c3 : chT tx q = 59
        · rw [if_pos c3, if_pos c3]
          refine Ok.lt (Ok.lt (Ok.some ⟨⟨?_, ?_, fun w => by simp at w, ?_⟩, (f.sI (by decide)).sI (by decide)⟩))
          · rw [sI_slot (by omega), sI_slot (by omega)]; exact u2
          · rw [sI_slot (by omega), sI_same]; rfl
          · rw [sI_same, sI_slot (by omega), u5, n_suc]
        · rw [if_neg c3, if_neg c3]
          refine Ok.lt (Ok.lt (Ok.some ⟨⟨?_, ?_, fun w => by simp at w, ?_⟩, (f.sI (by decide)).sI (by decide)⟩))
          · rw [sI_slot (by omega), sI_slot (by omega)]; exact u2
          · rw [sI_slot (by omega), sI_same]; rfl
          · rw [sI_same, sI_slot (by omega), u5, n_suc]
  · rw [byte_no txc hl (by omega) (by omega), Option.bind_some, if_neg (by decide), tokQ_end (by omega)]
    refine Ok.lt (Ok.some ⟨⟨?_, sI_same _ _ _ _, fun w => by simp at w, ?_⟩, f.sI (by decide)⟩)
    · rw [sI_slot (by omega)]; exact u2
    · rw [sI_slot (by omega)]; exact u5
