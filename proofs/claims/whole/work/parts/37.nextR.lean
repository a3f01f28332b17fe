/-! the reference's reading of a token -/
def FrZ (L : List Nat) (σ τ : Mem) : Prop := (∀ j, j ∉ L → τ.1 0 j = σ.1 0 j) ∧ (∀ o, o ≠ 0 → τ.1 o = σ.1 o) ∧ τ.2 = σ.2
theorem FrZ.rf {L : List Nat} {σ : Mem} : FrZ L σ σ := ⟨fun _ _ => rfl, fun _ _ => rfl, rfl⟩
theorem FrZ.sI {L : List Nat} {σ τ : Mem} {j : Nat} {v : Int32} (h : FrZ L σ τ) (hj : j ∈ L) : FrZ L σ (sI τ 0 j v) := by
  refine ⟨fun i hi => ?_, fun o ho => ?_, h.2.2⟩
  · rw [sI_slot (fun e => hi (by rw [e]; exact hj))]; exact h.1 i hi
  · rw [sI_o ho]; exact h.2.1 o ho
theorem FrZ.tr {L : List Nat} {σ τ υ : Mem} (h : FrZ L σ τ) (g : FrZ L τ υ) : FrZ L σ υ := ⟨fun j hj => (g.1 j hj).trans (h.1 j hj), fun o ho => (g.2.1 o ho).trans (h.2.1 o ho), g.2.2.trans h.2.2⟩
theorem FrZ.wk {L M : List Nat} {σ τ : Mem} (h : FrZ L σ τ) (hs : ∀ j, j ∈ L → j ∈ M) : FrZ M σ τ := ⟨fun j hj => h.1 j (fun w => hj (hs j w)), h.2.1, h.2.2⟩
theorem FrZ.tx {L : List Nat} {σ τ : Mem} {tx : List Nat} (h : FrZ L σ τ) (h1 : 2 ∉ L) (t : TxR σ tx) : TxR τ tx := ⟨by rw [h.1 2 h1]; exact t.1, by rw [h.2.1 1 (by omega)]; exact t.2⟩
def rkN (k : Nat) : Nat := if k = 0 then 4 else if k = 1 then 0 else if k = 2 then 1 else if k = 3 then 2 else if k = 4 then 3 else 5
def TokR (ρ : Mem) (tx : List Nat) (p : Nat) : Prop := ρ.1 0 9 = nI (tkS tx p) ∧ ρ.1 0 10 = nI (rkN (tkK tx p)) ∧ ((tkK tx p = 1 ∨ tkK tx p = 3) → ρ.1 0 11 = nI (tkV tx p)) ∧ ρ.1 0 8 = nI (tkA tx p)
theorem here_R {ρ : Mem} {tx : List Nat} {q : Nat} (h : TxR ρ tx) (hl : tx.length ≤ 300) (h8 : ρ.1 0 8 = nI q) (hq : q < tx.length) : f_X9_here ρ = some (nI (chT tx q)) := by
  unfold f_X9_here
  rw [h8, h.1, if_neg (by rw [n_le (by omega) (by omega)]; omega), gd_ix (by omega) (by omega), n_cl (by omega), h.2 q hq]
  rfl
theorem here_no {ρ : Mem} {tx : List Nat} {q : Nat} (h : TxR ρ tx) (hl : tx.length ≤ 300) (h8 : ρ.1 0 8 = nI q) (hq : tx.length ≤ q) (hq2 : q < 2147483648) : f_X9_here ρ = some (-1) := by
  unfold f_X9_here
  rw [h8, h.1, if_pos (by rw [n_le (by omega) (by omega)]; omega)]
theorem inN_yes {c lo hi : Nat} (hc : c < 2147483647) (hh : hi < 2147483647) (h : lo ≤ c ∧ c ≤ hi) : f_X9_in (nI c) (nI lo) (nI hi) = 1 := in_yes h.1 h.2 (by omega)
theorem inN_no {c lo hi : Nat} (hc : c < 2147483647) (hh : hi < 2147483647) (hl : lo ≤ hi) (h : ¬ (lo ≤ c ∧ c ≤ hi)) : f_X9_in (nI c) (nI lo) (nI hi) = 0 := by
  refine in_no hh (by omega) (fun j h1 h2 e => ?_)
  rw [n_eq (by omega) (by omega)] at e
  exact h (by omega)
theorem blanks_R {ρ : Mem} {tx : List Nat} {p : Nat} (h : TxR ρ tx) (hx : ∀ x ∈ tx, x < 256) (hl : tx.length ≤ 300) (hp : p ≤ tx.length) (h8 : ρ.1 0 8 = nI p) : Ok (Lim (T := Mem) (fun s => b_X9_next_0 s) ρ) (fun τ => τ.1 0 8 = nI (skT tx p) ∧ FrZ [8] ρ τ) := by
  refine Ok.wf (fun m s => ∃ q, q + m = tx.length ∧ skT tx q = skT tx p ∧ s.1 0 8 = nI q ∧ FrZ [8] ρ s) ?_ (tx.length - p) _ ⟨p, by omega, rfl, h8, FrZ.rf⟩
  rintro m τ ⟨q, e1, e3, e4, e5⟩
  have txc := e5.tx (by decide) h
  unfold b_X9_next_0
  by_cases c2 : q < tx.length
  · have hc := chT_lt hx c2
    rw [here_R txc hl e4 c2, Option.bind_some]
    simp only [show (32 : Int32) = nI 32 from rfl, n_eq (show chT tx q < 2147483648 by omega) (show 32 < 2147483648 by omega)]
    by_cases c3 : chT tx q = 32
    · rw [if_pos c3]
      refine Ok.lt (Ok.some ⟨m - 1, by omega, q + 1, by omega, ?_, ?_, e5.sI (by decide)⟩)
      · rw [← e3, skT_step c2 c3]
      · rw [sI_same, e4, n_suc]
    · rw [if_neg c3]
      refine Ok.some ⟨?_, e5⟩
      rw [← e3, skT_stop (Or.inr c3)]; exact e4
  · rw [here_no txc hl e4 (by omega) (by omega), Option.bind_some, if_neg (by decide)]
    refine Ok.some ⟨?_, e5⟩
    rw [← e3, skT_stop (Or.inl (by omega))]; exact e4
def cdN (tx : List Nat) (q : Nat) : Nat → Nat
  | 0 => 0
  | k + 1 => 27 * cdN tx q k + (chT tx (q + k) - 96)
theorem word_R {ρ : Mem} {tx : List Nat} {q : Nat} (h : TxR ρ tx) (hx : ∀ x ∈ tx, x < 256) (hl : tx.length ≤ 300) (hq : q < tx.length) (h8 : ρ.1 0 8 = nI q) (h9 : ρ.1 0 9 = nI q) (hc : isLe (chT tx q)) : Ok ((Lim (T := (Int32 × Mem)) (fun s => b_X9_next_65 s.1 s.2) ((0 : Int32), ρ)).bind (fun r18 => if ((r18.2.1 0 8) - (r18.2.1 0 9)) ≤ (4 : Int32) then (j_X9_next_140 r18.1 r18.2) else (j_X9_next_140 (0 : Int32) r18.2))) (fun τ => FrZ [8, 10, 11] ρ τ ∧ τ.1 0 10 = nI (rkN (tokQ tx q).1) ∧ ((tokQ tx q).1 = 1 → τ.1 0 11 = nI (tokQ tx q).2.1) ∧ (tokQ tx q).1 ≠ 3 ∧ τ.1 0 8 = nI (tokQ tx q).2.2) := by
  refine Ok.bind (P := fun r => r.2.1 0 8 = nI (leE tx q) ∧ (∀ j, q + j < leE tx q → isLe (chT tx (q + j))) ∧ (leE tx q - q ≤ 4 → r.1 = nI (cdN tx q (leE tx q - q))) ∧ FrZ [8] ρ r.2) ?_ ?_
  · refine Ok.wf (fun m s => ∃ k, q + k + m = tx.length ∧ leE tx (q + k) = leE tx q ∧ s.2.1 0 8 = nI (q + k) ∧ (∀ j, j < k → isLe (chT tx (q + j))) ∧ (k ≤ 4 → s.1 = nI (cdN tx q k)) ∧ FrZ [8] ρ s.2) ?_ (tx.length - q) _ ⟨0, by omega, rfl, h8, fun j hj => by omega, fun _ => rfl, FrZ.rf⟩
    rintro m ⟨v, τ⟩ ⟨k, e1, e3, e4, e5, e6, e7⟩
    simp only at e4 e6 e7
    show Ok (b_X9_next_65 v τ) _
    have txc := e7.tx (by decide) h
    have h9' : τ.1 0 9 = nI q := by rw [e7.1 9 (by decide)]; exact h9
    have done : leE tx (q + k) = q + k → Ok (some (Sum.inr (v, τ)) : Option ((Int32 × Mem) ⊕ (Int32 × Mem))) (SumP (fun s => ∃ m', m' < m ∧ ∃ k, q + k + m' = tx.length ∧ leE tx (q + k) = leE tx q ∧ s.2.1 0 8 = nI (q + k) ∧ (∀ j, j < k → isLe (chT tx (q + j))) ∧ (k ≤ 4 → s.1 = nI (cdN tx q k)) ∧ FrZ [8] ρ s.2) (fun r => r.2.1 0 8 = nI (leE tx q) ∧ (∀ j, q + j < leE tx q → isLe (chT tx (q + j))) ∧ (leE tx q - q ≤ 4 → r.1 = nI (cdN tx q (leE tx q - q))) ∧ FrZ [8] ρ r.2)) := by
      intro w
      rw [w] at e3
      refine Ok.some ⟨by rw [← e3]; exact e4, fun j hj => e5 j (by omega), fun z => ?_, e7⟩
      rw [← e3, show q + k - q = k by omega]
      exact e6 (by omega)
    unfold b_X9_next_65
    by_cases c2 : q + k < tx.length
    · have hcc := chT_lt hx c2
      have hr := here_R txc hl e4 c2
      rw [hr, Option.bind_some]
      by_cases c3 : isLe (chT tx (q + k))
      · have c3' := c3
        unfold isLe at c3'
        rw [show (97 : Int32) = nI 97 from rfl, show (122 : Int32) = nI 122 from rfl, inN_yes (by omega) (by omega) c3, if_neg (by decide), e4, h9', n_sub (by omega), show q + k - q = k by omega]
        have e5' : ∀ j, j < k + 1 → isLe (chT tx (q + j)) := by
          intro j hj
          by_cases w : j = k
          · rw [w]; exact c3
          · exact e5 j (by omega)
        by_cases c4 : 4 ≤ k
        · rw [if_pos (by rw [show (4 : Int32) = nI 4 from rfl, n_le (by omega) (by omega)]; exact c4)]
          unfold j_X9_next_108
          refine Ok.lt (Ok.some ⟨m - 1, by omega, k + 1, by omega, ?_, ?_, e5', fun w => by omega, e7.sI (by decide)⟩)
          · rw [← e3, leE_step c2 c3]; rfl
          · rw [sI_same, e4, n_suc]; rfl
        · rw [if_neg (by rw [show (4 : Int32) = nI 4 from rfl, n_le (by omega) (by omega)]; exact c4), Option.bind_some]
          unfold j_X9_next_108
          refine Ok.lt (Ok.some ⟨m - 1, by omega, k + 1, by omega, ?_, ?_, e5', fun w => ?_, e7.sI (by decide)⟩)
          · rw [← e3, leE_step c2 c3]; rfl
          · rw [sI_same, e4, n_suc]; rfl
          · show 27 * v + nI (chT tx (q + k)) - 96 = nI (cdN tx q (k + 1))
            rw [e6 (by omega), show (27 : Int32) = nI 27 from rfl, n_mul, n_add, show (96 : Int32) = nI 96 from rfl, n_sub (by omega), cdN]
            congr 1
            omega
      · rw [show (97 : Int32) = nI 97 from rfl, show (122 : Int32) = nI 122 from rfl, inN_no (by omega) (by omega) (by omega) c3, if_pos (by decide)]
        exact done (leE_stop (Or.inr c3))
    · rw [here_no txc hl e4 (by omega) (by omega), Option.bind_some, if_pos (by decide)]
      exact done (leE_stop (Or.inl (by omega)))
  · rintro ⟨v, τ⟩ ⟨e1, e2, e3, e4⟩
    simp only at e1 e3 e4
    have g1 := leE_step hq hc
    have g2 := leE_ge tx (q + 1)
    have g3 := leE_le (tx := tx) (p := q) (by omega)
    have h9' : τ.1 0 9 = nI q := by rw [e4.1 9 (by decide)]; exact h9
    show Ok (if τ.1 0 8 - τ.1 0 9 ≤ 4 then j_X9_next_140 v τ else j_X9_next_140 0 τ) _
    have fin : ∀ Z, Z < 1000000 → (Z = 149125 ↔ (leE tx q - q = 4 ∧ chT tx q = 103 ∧ chT tx (q + 1) = 111 ∧ chT tx (q + 2) = 111 ∧ chT tx (q + 3) = 100)) → ((1 ≤ Z ∧ Z ≤ 8) ↔ (leE tx q - q = 1 ∧ chT tx q < 105)) → (1 ≤ Z ∧ Z ≤ 8 → Z = chT tx q - 96) → Ok (j_X9_next_140 (nI Z) τ) (fun τ => FrZ [8, 10, 11] ρ τ ∧ τ.1 0 10 = nI (rkN (tokQ tx q).1) ∧ ((tokQ tx q).1 = 1 → τ.1 0 11 = nI (tokQ tx q).2.1) ∧ (tokQ tx q).1 ≠ 3 ∧ τ.1 0 8 = nI (tokQ tx q).2.2) := by
      intro Z hZ z1 z2 z3
      unfold j_X9_next_140 j_X9_next_167
      simp only [show (149125 : Int32) = nI 149125 from rfl, n_eq (show Z < 2147483648 by omega) (show 149125 < 2147483648 by omega)]
      by_cases c1 : Z = 149125
      · rw [if_pos c1, tokQ_good hq hc (z1.mp c1)]
        refine Ok.lt (Ok.lt (Ok.some ⟨((e4.wk (by decide)).sI (by decide)).sI (by decide), ?_, fun w => by simp at w, by simp, ?_⟩))
        · rw [sI_slot (by omega), sI_same]; rfl
        · rw [sI_slot (by omega), sI_slot (by omega)]; exact e1
      · rw [if_neg c1]
        by_cases c2 : 1 ≤ Z ∧ Z ≤ 8
        · rw [show (1 : Int32) = nI 1 from rfl, show (8 : Int32) = nI 8 from rfl, inN_yes (by omega) (by omega) c2, if_neg (by decide), tokQ_sign hq hc (z2.mp c2)]
          refine Ok.lt (Ok.lt (Ok.some ⟨((e4.wk (by decide)).sI (by decide)).sI (by decide), ?_, fun w => ?_, by simp, ?_⟩))
          · rw [sI_slot (by omega), sI_same]; rfl
          · rw [sI_same, n_sub c2.1, z3 c2]
            congr 1
          · rw [sI_slot (by omega), sI_slot (by omega)]; exact e1
        · rw [show (1 : Int32) = nI 1 from rfl, show (8 : Int32) = nI 8 from rfl, inN_no (by omega) (by omega) (by omega) c2, if_pos (by decide), tokQ_word hq hc (fun w => c2 (z2.mpr w)) (fun w => c1 (z1.mpr w))]
          refine Ok.lt (Ok.lt (Ok.some ⟨((e4.wk (by decide)).sI (by decide)).sI (by decide), ?_, fun w => by simp at w, by simp, ?_⟩))
          · rw [sI_slot (by omega), sI_same]; rfl
          · rw [sI_slot (by omega), sI_slot (by omega)]; exact e1
    rw [e1, h9', n_sub (by omega)]
    by_cases c : leE tx q - q ≤ 4
    · rw [if_pos (by rw [show (4 : Int32) = nI 4 from rfl, n_le (by omega) (by omega)]; exact c), e3 c]
      have d0 := hc
      unfold isLe at d0
      rcases (show leE tx q - q = 1 ∨ leE tx q - q = 2 ∨ leE tx q - q = 3 ∨ leE tx q - q = 4 by omega) with w | w | w | w
      · have ez : cdN tx q (leE tx q - q) = chT tx q - 96 := by rw [w]; show 27 * 0 + (chT tx (q + 0) - 96) = _; rw [Nat.add_zero]; omega
        rw [ez]
        exact fin _ (by omega) (by omega) (by omega) (by omega)
      · have d1 := e2 1 (by omega)
        unfold isLe at d1
        have ez : cdN tx q (leE tx q - q) = 27 * (chT tx q - 96) + (chT tx (q + 1) - 96) := by rw [w]; show 27 * (27 * 0 + (chT tx (q + 0) - 96)) + (chT tx (q + 1) - 96) = _; rw [Nat.add_zero]; omega
        rw [ez]
        exact fin _ (by omega) (by omega) (by omega) (by omega)
      · have d1 := e2 1 (by omega)
        have d2 := e2 2 (by omega)
        unfold isLe at d1 d2
        have ez : cdN tx q (leE tx q - q) = 27 * (27 * (chT tx q - 96) + (chT tx (q + 1) - 96)) + (chT tx (q + 2) - 96) := by rw [w]; show 27 * (27 * (27 * 0 + (chT tx (q + 0) - 96)) + (chT tx (q + 1) - 96)) + (chT tx (q + 2) - 96) = _; rw [Nat.add_zero]; omega
        rw [ez]
        exact fin _ (by omega) (by omega) (by omega) (by omega)
      · have d1 := e2 1 (by omega)
        have d2 := e2 2 (by omega)
        have d3 := e2 3 (by omega)
        unfold isLe at d1 d2 d3
        have ez : cdN tx q (leE tx q - q) = 27 * (27 * (27 * (chT tx q - 96) + (chT tx (q + 1) - 96)) + (chT tx (q + 2) - 96)) + (chT tx (q + 3) - 96) := by rw [w]; show 27 * (27 * (27 * (27 * 0 + (chT tx (q + 0) - 96)) + (chT tx (q + 1) - 96)) + (chT tx (q + 2) - 96)) + (chT tx (q + 3) - 96) = _; rw [Nat.add_zero]; omega
        rw [ez]
        exact fin _ (by omega) (by omega) (by omega) (by omega)
    · rw [if_neg (by rw [show (4 : Int32) = nI 4 from rfl, n_le (by omega) (by omega)]; exact c)]
      exact fin 0 (by omega) (by omega) (by omega) (by omega)
theorem num_R {ρ : Mem} {tx : List Nat} {q : Nat} (h : TxR ρ tx) (hx : ∀ x ∈ tx, x < 256) (hl : tx.length ≤ 300) (hq : q < tx.length) (h8 : ρ.1 0 8 = nI q) (h9 : ρ.1 0 9 = nI q) (h11 : ρ.1 0 11 = 0) (hn : ¬ isLe (chT tx q)) (hc : isDi (chT tx q)) : Ok ((Lim (T := (Int32 × Mem)) (fun s => b_X9_next_191 s.1 s.2) (nI (chT tx q), ρ)).bind (fun r13 => if (99 : Int32) < (r13.2.1 0 11) then (j_X9_next_282 r13.2) else (if r13.1 = (48 : Int32) then (if ((r13.2.1 0 8) - (r13.2.1 0 9)) ≤ (1 : Int32) then (j_X9_next_286 r13.2) else (j_X9_next_282 r13.2)) else (j_X9_next_286 r13.2)))) (fun τ => FrZ [8, 10, 11] ρ τ ∧ τ.1 0 10 = nI (rkN (tokQ tx q).1) ∧ (tokQ tx q).1 ≠ 1 ∧ ((tokQ tx q).1 = 3 → τ.1 0 11 = nI (tokQ tx q).2.1) ∧ τ.1 0 8 = nI (tokQ tx q).2.2) := by
  have hc' := hc
  unfold isDi at hc'
  have hcl := chT_lt hx hq
  have g1 := diE_step hq hc
  have g2 := diE_ge tx (q + 1)
  have g3 := diE_le (tx := tx) (p := q) (by omega)
  refine Ok.bind (P := fun r => ∃ V, r.1 = nI (chT tx q) ∧ r.2.1 0 8 = nI (diE tx q) ∧ r.2.1 0 11 = nI V ∧ V < 1000 ∧ (diE tx q - q = 1 → V = chT tx q - 48) ∧ (diE tx q - q = 2 → V = 10 * (chT tx q - 48) + (chT tx (q + 1) - 48) ∧ chT tx (q + 1) ≤ 57) ∧ (2 < diE tx q - q → chT tx q ≠ 48 → 100 ≤ V) ∧ FrZ [8, 11] ρ r.2) ?_ ?_
  · refine Ok.wf (fun m s => ∃ k V, q + k + m = tx.length ∧ diE tx (q + k) = diE tx q ∧ s.1 = nI (chT tx q) ∧ s.2.1 0 8 = nI (q + k) ∧ s.2.1 0 11 = nI V ∧ V < 1000 ∧ (k = 0 → V = 0) ∧ (k = 1 → V = chT tx q - 48) ∧ (k = 2 → V = 10 * (chT tx q - 48) + (chT tx (q + 1) - 48) ∧ chT tx (q + 1) ≤ 57) ∧ (2 < k → chT tx q ≠ 48 → 100 ≤ V) ∧ FrZ [8, 11] ρ s.2) ?_ (tx.length - q) _ ⟨0, 0, by omega, rfl, rfl, h8, h11, by omega, fun _ => rfl, fun w => by omega, fun w => by omega, fun w => by omega, FrZ.rf⟩
    rintro m ⟨v, τ⟩ ⟨k, V, e1, e2, e3, e4, e5, e6, e7, e8, e9, e10, e11⟩
    simp only at e3 e4 e5 e11
    subst e3
    show Ok (b_X9_next_191 (nI (chT tx q)) τ) _
    have txc := e11.tx (by decide) h
    have done : diE tx (q + k) = q + k → Ok (some (Sum.inr (nI (chT tx q), τ)) : Option ((Int32 × Mem) ⊕ (Int32 × Mem))) (SumP (fun s => ∃ m', m' < m ∧ ∃ k V, q + k + m' = tx.length ∧ diE tx (q + k) = diE tx q ∧ s.1 = nI (chT tx q) ∧ s.2.1 0 8 = nI (q + k) ∧ s.2.1 0 11 = nI V ∧ V < 1000 ∧ (k = 0 → V = 0) ∧ (k = 1 → V = chT tx q - 48) ∧ (k = 2 → V = 10 * (chT tx q - 48) + (chT tx (q + 1) - 48) ∧ chT tx (q + 1) ≤ 57) ∧ (2 < k → chT tx q ≠ 48 → 100 ≤ V) ∧ FrZ [8, 11] ρ s.2) (fun r => ∃ V, r.1 = nI (chT tx q) ∧ r.2.1 0 8 = nI (diE tx q) ∧ r.2.1 0 11 = nI V ∧ V < 1000 ∧ (diE tx q - q = 1 → V = chT tx q - 48) ∧ (diE tx q - q = 2 → V = 10 * (chT tx q - 48) + (chT tx (q + 1) - 48) ∧ chT tx (q + 1) ≤ 57) ∧ (2 < diE tx q - q → chT tx q ≠ 48 → 100 ≤ V) ∧ FrZ [8, 11] ρ r.2)) := by
      intro w
      rw [w] at e2
      exact Ok.some ⟨V, rfl, by rw [← e2]; exact e4, e5, e6, fun z => e8 (by omega), fun z => e9 (by omega), fun z1 z2 => e10 (by omega) z2, e11⟩
    unfold b_X9_next_191
    by_cases c2 : q + k < tx.length
    · have hcc := chT_lt hx c2
      have hr := here_R txc hl e4 c2
      rw [hr, Option.bind_some]
      by_cases c3 : isDi (chT tx (q + k))
      · have c3' := c3
        unfold isDi at c3'
        have es : diE tx (q + (k + 1)) = diE tx q := by rw [← e2, diE_step c2 c3]; rfl
        rw [show (48 : Int32) = nI 48 from rfl, show (57 : Int32) = nI 57 from rfl, inN_yes (by omega) (by omega) c3, if_neg (by decide), e5]
        by_cases c4 : V ≤ 99
        · rw [if_pos (by rw [show (99 : Int32) = nI 99 from rfl, n_le (by omega) (by omega)]; exact c4), Option.bind_some]
          unfold j_X9_next_237
          rw [show (10 : Int32) = nI 10 from rfl, n_mul, n_add, n_sub (by omega)]
          refine Ok.lt (Ok.lt (Ok.some ⟨m - 1, by omega, k + 1, 10 * V + chT tx (q + k) - 48, by omega, es, rfl, ?_, ?_, by omega, fun w => by omega, fun w => ?_, fun w => ?_, fun w1 w2 => ?_, (e11.sI (by decide)).sI (by decide)⟩))
          · rw [sI_same, sI_slot (by omega), e4, n_suc]; rfl
          · rw [sI_slot (by omega), sI_same]
          · have k0 : k = 0 := by omega
            subst k0
            have := e7 rfl
            rw [Nat.add_zero]
            omega
          · have k1 : k = 1 := by omega
            subst k1
            have := e8 rfl
            omega
          · by_cases k2 : k = 2
            · have := e9 k2
              omega
            · have := e10 (by omega) w2
              omega
        · rw [if_neg (by rw [show (99 : Int32) = nI 99 from rfl, n_le (by omega) (by omega)]; exact c4)]
          unfold j_X9_next_237
          refine Ok.lt (Ok.lt (Ok.some ⟨m - 1, by omega, k + 1, V, by omega, es, rfl, ?_, ?_, by omega, fun w => by omega, fun w => ?_, fun w => ?_, fun w1 w2 => by omega, (e11.sI (by decide)).sI (by decide)⟩))
          · rw [sI_same, sI_slot (by omega), e4, n_suc]; rfl
          · rw [sI_slot (by omega), sI_same]
          · have := e7 (by omega)
            omega
          · have := e8 (by omega)
            omega
      · rw [show (48 : Int32) = nI 48 from rfl, show (57 : Int32) = nI 57 from rfl, inN_no (by omega) (by omega) (by omega) c3, if_pos (by decide)]
        exact done (diE_stop (Or.inr c3))
    · rw [here_no txc hl e4 (by omega) (by omega), Option.bind_some, if_pos (by decide)]
      exact done (diE_stop (Or.inl (by omega)))
  · rintro ⟨v, τ⟩ ⟨V, e1, e2, e3, e4, e5, e6, e7, e8⟩
    simp only at e1 e2 e3 e8
    subst e1
    have h9' : τ.1 0 9 = nI q := by rw [e8.1 9 (by decide)]; exact h9
    have wr : (2 < diE tx q - q ∨ (1 < diE tx q - q ∧ chT tx q = 48)) → Ok (j_X9_next_282 τ) (fun τ => FrZ [8, 10, 11] ρ τ ∧ τ.1 0 10 = nI (rkN (tokQ tx q).1) ∧ (tokQ tx q).1 ≠ 1 ∧ ((tokQ tx q).1 = 3 → τ.1 0 11 = nI (tokQ tx q).2.1) ∧ τ.1 0 8 = nI (tokQ tx q).2.2) := by
      intro w
      unfold j_X9_next_282 j_X9_next_287
      rw [tokQ_digW hq hn hc w]
      refine Ok.lt (Ok.some ⟨(e8.wk (by decide)).sI (by decide), sI_same _ _ _ _, by simp, fun w => absurd w (by simp), ?_⟩)
      rw [sI_slot (by omega)]; exact e2
    have nm : ¬ (2 < diE tx q - q ∨ (1 < diE tx q - q ∧ chT tx q = 48)) → Ok (j_X9_next_286 τ) (fun τ => FrZ [8, 10, 11] ρ τ ∧ τ.1 0 10 = nI (rkN (tokQ tx q).1) ∧ (tokQ tx q).1 ≠ 1 ∧ ((tokQ tx q).1 = 3 → τ.1 0 11 = nI (tokQ tx q).2.1) ∧ τ.1 0 8 = nI (tokQ tx q).2.2) := by
      intro w
      unfold j_X9_next_286 j_X9_next_287
      rw [tokQ_num hq hn hc w]
      refine Ok.lt (Ok.some ⟨(e8.wk (by decide)).sI (by decide), sI_same _ _ _ _, by simp, fun _ => ?_, ?_⟩)
      · rw [sI_slot (by omega), e3]
        by_cases z : diE tx q - q = 1
        · rw [if_pos z, e5 z]
        · rw [if_neg z, (e6 (by omega)).1]
      · rw [sI_slot (by omega)]; exact e2
    show Ok (if (99 : Int32) < τ.1 0 11 then j_X9_next_282 τ else (if nI (chT tx q) = 48 then (if τ.1 0 8 - τ.1 0 9 ≤ 1 then j_X9_next_286 τ else j_X9_next_282 τ) else j_X9_next_286 τ)) _
    rw [e3, e2, h9', n_sub (by omega)]
    by_cases c : 99 < V
    · rw [if_pos (by rw [show (99 : Int32) = nI 99 from rfl, n_lt (by omega) (by omega)]; exact c)]
      refine wr (Or.inl ?_)
      by_cases w1 : diE tx q - q = 1
      · have := e5 w1; omega
      · by_cases w2 : diE tx q - q = 2
        · have := e6 w2; omega
        · omega
    · rw [if_neg (by rw [show (99 : Int32) = nI 99 from rfl, n_lt (by omega) (by omega)]; exact c)]
      simp only [show (48 : Int32) = nI 48 from rfl, n_eq (show chT tx q < 2147483648 by omega) (show 48 < 2147483648 by omega)]
      by_cases c2 : chT tx q = 48
      · rw [if_pos c2]
        by_cases c3 : diE tx q - q ≤ 1
        · rw [if_pos (by rw [show (1 : Int32) = nI 1 from rfl, n_le (by omega) (by omega)]; exact c3)]
          exact nm (by omega)
        · rw [if_neg (by rw [show (1 : Int32) = nI 1 from rfl, n_le (by omega) (by omega)]; exact c3)]
          exact wr (Or.inr ⟨by omega, c2⟩)
      · rw [if_neg c2]
        refine nm (fun w => ?_)
        rcases w with w | w
        · have := e7 w c2; omega
        · exact c2 w.2
theorem next_R {ρ : Mem} {tx : List Nat} {p : Nat} (h : TxR ρ tx) (hx : ∀ x ∈ tx, x < 256) (hl : tx.length ≤ 300) (hp : p ≤ tx.length) (h8 : ρ.1 0 8 = nI p) : Ok (f_X9_next ρ) (fun τ => TokR τ tx p ∧ FrZ [8, 9, 10, 11] ρ τ) := by
  have q1 := skT_le hp
  unfold f_X9_next
  refine Ok.bind (blanks_R h hx hl hp h8) ?_
  rintro τ ⟨e1, e2⟩
  refine Ok.lt (Ok.lt ?_)
  rw [e1]
  generalize hυ : sI (sI τ 0 9 (nI (skT tx p))) 0 11 0 = υ
  have f : FrZ [8, 9, 10, 11] ρ υ := by rw [← hυ]; exact ((e2.wk (by decide)).sI (by decide)).sI (by decide)
  have txc := f.tx (by decide) h
  have u9 : υ.1 0 9 = nI (skT tx p) := by rw [← hυ, sI_slot (by omega), sI_same]
  have u11 : υ.1 0 11 = 0 := by rw [← hυ, sI_same]
  have u8 : υ.1 0 8 = nI (skT tx p) := by rw [← hυ, sI_slot (by omega), sI_slot (by omega)]; exact e1
  unfold TokR tkS tkK tkV tkA
  generalize skT tx p = q at *
  by_cases c : q < tx.length
  · have hc := chT_lt hx c
    rw [here_R txc hl u8 c, Option.bind_some, if_pos (by rw [n_nn (by omega)]; trivial), show (97 : Int32) = nI 97 from rfl, show (122 : Int32) = nI 122 from rfl]
    by_cases c1 : isLe (chT tx q)
    · rw [inN_yes (by omega) (by omega) c1, if_neg (by decide)]
      refine (word_R txc hx hl c u8 u9 c1).mono (fun ω hω => ⟨⟨?_, hω.2.1, fun w => ?_, hω.2.2.2.2⟩, f.tr (hω.1.wk (by decide))⟩)
      · rw [hω.1.1 9 (by decide)]; exact u9
      · rcases w with w | w
        · exact hω.2.2.1 w
        · exact absurd w hω.2.2.2.1
    · rw [inN_no (by omega) (by omega) (by omega) c1, if_pos (by decide), show (48 : Int32) = nI 48 from rfl, show (57 : Int32) = nI 57 from rfl]
      by_cases c2 : isDi (chT tx q)
      · rw [inN_yes (by omega) (by omega) c2, if_neg (by decide)]
        refine (num_R txc hx hl c u8 u9 u11 c1 c2).mono (fun ω hω => ⟨⟨?_, hω.2.1, fun w => ?_, hω.2.2.2.2⟩, f.tr (hω.1.wk (by decide))⟩)
        · rw [hω.1.1 9 (by decide)]; exact u9
        · rcases w with w | w
          · exact absurd w hω.2.2.1
          · exact hω.2.2.2.1 w
      · rw [inN_no (by omega) (by omega) (by omega) c2, if_pos (by decide), tokQ_else c c1 c2]
        unfold j_X9_next_315
        simp only [show (59 : Int32) = nI 59 from rfl, n_eq (show chT tx q < 2147483648 by omega) (show 59 < 2147483648 by omega)]
        by_cases c3 : chT tx q = 59
        · rw [if_pos c3]
          refine Ok.lt ?_
          rw [if_pos c3]
          refine Ok.lt (Ok.some ⟨⟨?_, ?_, fun w => by simp at w, ?_⟩, (f.sI (by decide)).sI (by decide)⟩)
          · rw [sI_slot (by omega), sI_slot (by omega)]; exact u9
          · rw [sI_same]; rfl
          · rw [sI_slot (by omega), sI_same, u8, n_suc]
        · rw [if_neg c3]
          refine Ok.lt ?_
          rw [if_neg c3]
          refine Ok.lt (Ok.some ⟨⟨?_, ?_, fun w => by simp at w, ?_⟩, (f.sI (by decide)).sI (by decide)⟩)
          · rw [sI_slot (by omega), sI_slot (by omega)]; exact u9
          · rw [sI_same]; rfl
          · rw [sI_slot (by omega), sI_same, u8, n_suc]
  · rw [here_no txc hl u8 (by omega) (by omega), Option.bind_some, if_neg (by decide), tokQ_end (by omega)]
    refine Ok.lt (Ok.some ⟨⟨?_, ?_, fun w => by simp at w, ?_⟩, f.sI (by decide)⟩)
    · rw [sI_slot (by omega)]; exact u9
    · rw [sI_same]; rfl
    · rw [sI_slot (by omega)]; exact u8
