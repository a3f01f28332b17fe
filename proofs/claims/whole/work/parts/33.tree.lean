/-! tree -/
def TxC (σ : Mem) (tx : List Nat) : Prop := σ.1 1 1 = nI tx.length ∧ ∀ j, j < tx.length → σ.1 2 j = nI (tx.getD j 0)
def TxR (ρ : Mem) (tx : List Nat) : Prop := ρ.1 0 2 = nI tx.length ∧ ∀ j, j < tx.length → ρ.1 1 j &&& 255 = nI (tx.getD j 0)
theorem tx_lt {tx : List Nat} (h : ∀ x ∈ tx, x < 256) {k : Nat} (hk : k < tx.length) : tx.getD k 0 < 256 := by
  rw [List.getD_eq_getElem?_getD, List.getElem?_eq_getElem hk]
  exact h _ (List.getElem_mem hk)
theorem byte_C {σ : Mem} {tx : List Nat} (h : TxC σ tx) (hl : tx.length ≤ 300) {k : Nat} (hk : k < tx.length) : f_X6_byteAt (nI k) σ = some (nI (tx.getD k 0)) := by
  unfold f_X6_byteAt
  rw [if_neg (not_n0 (by omega)), h.1, if_neg (by rw [n_le (by omega) (by omega)]; omega), if_neg (by rw [show (300 : Int32) = nI 300 from rfl, n_le (by omega) (by omega)]; omega), gd_ix (by omega) (by omega), n_cl (by omega), h.2 k hk]
theorem byte_no {σ : Mem} {tx : List Nat} (h : TxC σ tx) (hl : tx.length ≤ 300) {k : Nat} (hk : tx.length ≤ k) (hk2 : k < 2147483648) : f_X6_byteAt (nI k) σ = some (-1) := by
  unfold f_X6_byteAt
  rw [if_neg (not_n0 (by omega)), h.1, if_pos (by rw [n_le (by omega) (by omega)]; omega)]
theorem lo97 : ∀ c, c < 97 → nI c - 97 < 0 := by decide
theorem n_97 {c : Nat} (h : 97 ≤ c) : nI c - 97 = nI (c - 97) := n_sub (a := c) (b := 97) h
theorem n_am1 {a b : Nat} (h : 1 ≤ a) : nI a + (nI b - 1) = nI (a + b - 1) := by
  rw [Int32.sub_eq_add_neg, ← Int32.add_assoc, n_add, ← n_sub1, show (1 : Int32) = nI 1 from rfl, n_sub (by omega)]
theorem read_C {σ : Mem} {tx : List Nat} {t : Nat} (h : TxC σ tx) (hx : ∀ x ∈ tx, x < 256) (hl : tx.length ≤ 300) (ht : 2 < t) : Ok (f_X7_read t σ) (fun r => ((∃ k, faT tx k ∧ r.1 = -10 - nI k) ∨ (okTo tx tx.length ∧ 0 < (rdT tx tx.length).2 ∧ r.1 = -10 - nI tx.length) ∨ (okTo tx tx.length ∧ (rdT tx tx.length).2 = 0 ∧ r.1 = nI (rdT tx tx.length).1.length ∧ TreeC r.2 t (rdT tx tx.length).1)) ∧ (∀ o, o < t ∨ t + 3 < o → r.2.1 o = σ.1 o) ∧ r.2.2 = σ.2) := by
  unfold f_X7_read
  refine Ok.lt (Ok.bind (P := fun r => match r with | .inl x => (∃ k, faT tx k ∧ x.1 = nI k) ∧ (∀ o, o < t ∨ t + 1 < o → x.2.1 o = σ.1 o) ∧ x.2.2 = σ.2 | .inr x => okTo tx tx.length ∧ x.1 = nI (rdT tx tx.length).2 ∧ SgC x.2 t (rdT tx tx.length).1 ∧ (∀ o, o < t ∨ t + 1 < o → x.2.1 o = σ.1 o) ∧ x.2.2 = σ.2) ?_ ?_)
  · refine Ok.for tx.length (fun k s => s.1 = nI (rdT tx k).2 ∧ s.2.1 = nI k ∧ okTo tx k ∧ SgC s.2.2 t (rdT tx k).1 ∧ (∀ o, o < t ∨ t + 1 < o → s.2.2.1 o = σ.1 o) ∧ s.2.2.2 = σ.2) ?_ ?_ 0 (by omega) _ ⟨rfl, rfl, fun j hj => by omega, ⟨sI_same _ _ _ _, fun j hj => absurd hj (Nat.not_lt_zero j)⟩, fun o ho => sI_o (by omega), rfl⟩
    · rintro k ⟨v2, v3, τ⟩ hk ⟨e1, e2, e3, e4, e5, e6⟩
      simp only at e1 e2 e3 e4 e5 e6
      subst e1 e2
      show Ok (b_X7_read_9 t (nI (rdT tx k).2) (nI k) τ) _
      obtain ⟨d1, d2, d3, d4⟩ := rdT_ok k e3
      have hc := tx_lt hx hk
      have txc : TxC τ tx := ⟨by rw [e5 1 (by omega)]; exact h.1, by rw [e5 2 (by omega)]; exact h.2⟩
      have fault : ¬ okC (rdT tx k) (tx.getD k 0) → Ok (some (Sum.inr (Sum.inl (nI k, τ))) : Option ((Int32 × Int32 × Mem) ⊕ ((Int32 × Mem) ⊕ (Int32 × Mem)))) (SumP (fun s => s.1 = nI (rdT tx (k + 1)).2 ∧ s.2.1 = nI (k + 1) ∧ okTo tx (k + 1) ∧ SgC s.2.2 t (rdT tx (k + 1)).1 ∧ (∀ o, o < t ∨ t + 1 < o → s.2.2.1 o = σ.1 o) ∧ s.2.2.2 = σ.2) (fun r => match r with | .inl x => (∃ k, faT tx k ∧ x.1 = nI k) ∧ (∀ o, o < t ∨ t + 1 < o → x.2.1 o = σ.1 o) ∧ x.2.2 = σ.2 | .inr x => okTo tx tx.length ∧ x.1 = nI (rdT tx tx.length).2 ∧ SgC x.2 t (rdT tx tx.length).1 ∧ (∀ o, o < t ∨ t + 1 < o → x.2.1 o = σ.1 o) ∧ x.2.2 = σ.2)) := fun q => Ok.some ⟨⟨k, ⟨hk, e3, q⟩, rfl⟩, e5, e6⟩
      have okN : okC (rdT tx k) (tx.getD k 0) → okTo tx (k + 1) := by
        intro q j hj
        by_cases w : j = k
        · rw [w]; exact q
        · exact e3 j (by omega)
      unfold b_X7_read_9
      rw [txc.1, if_neg (by rw [n_le (by omega) (by omega)]; omega), byte_C txc hl hk, Option.bind_some]
      simp only [show (32 : Int32) = nI 32 from rfl, n_eq (show tx.getD k 0 < 2147483648 by omega) (show 32 < 2147483648 by omega)]
      by_cases c1 : tx.getD k 0 = 32
      · rw [if_pos c1]
        unfold j_X7_read_102
        have er : rdT tx (k + 1) = rdT tx k := by show rdS (rdT tx k) (tx.getD k 0) = _; rw [rdS, if_pos c1]
        refine Ok.lt (Ok.some ⟨?_, n_suc k, okN (Or.inl c1), ?_, e5, e6⟩)
        · rw [er]
        · rw [er]; exact e4
      · rw [if_neg c1]
        refine Ok.lt ?_
        by_cases c2 : tx.getD k 0 < 97
        · rw [if_pos (lo97 _ c2)]
          refine fault (fun q => ?_)
          rcases q with q | q <;> omega
        · rw [n_97 (by omega), if_neg (not_n0 (by omega))]
          by_cases c3 : 104 < tx.getD k 0
          · rw [if_pos (by rw [show (8 : Int32) = nI 8 from rfl, n_le (by omega) (by omega)]; omega)]
            refine fault (fun q => ?_)
            rcases q with q | q <;> omega
          · rw [if_neg (by rw [show (8 : Int32) = nI 8 from rfl, n_le (by omega) (by omega)]; omega)]
            by_cases c4 : (rdT tx k).2 = 0
            · rw [c4, if_pos (by decide)]
              refine fault (fun q => ?_)
              rcases q with q | q
              · omega
              · exact q.2.2.1 c4
            · rw [if_neg (by rw [show (0 : Int32) = nI 0 from rfl, n_eq (by omega) (by omega)]; exact c4), e4.1]
              by_cases c5 : (rdT tx k).1.length < 31
              · rw [if_pos (by rw [show (31 : Int32) = nI 31 from rfl, n_lt (by omega) (by omega)]; exact c5), gd_ix c5 (by omega), n_cl (by omega), arms_C (by omega), n_am1 (by omega)]
                unfold j_X7_read_102
                have er : rdT tx (k + 1) = ((rdT tx k).1 ++ [tx.getD k 0 - 97], (rdT tx k).2 + armsN (tx.getD k 0 - 97) - 1) := by show rdS (rdT tx k) (tx.getD k 0) = _; rw [rdS, if_neg c1]
                refine Ok.lt (Ok.lt (Ok.lt (Ok.lt (Ok.some ⟨?_, n_suc k, okN (Or.inr ⟨by omega, by omega, c4, c5⟩), ?_, fun o ho => ?_, e6⟩))))
                · rw [er]
                · rw [er]
                  refine ⟨?_, fun j hj => ?_⟩
                  · show (sI (sI τ (t + 1) (rdT tx k).1.length (nI (tx.getD k 0 - 97))) t 4 ((sI τ (t + 1) (rdT tx k).1.length (nI (tx.getD k 0 - 97))).1 t 4 + 1)).1 t 4 = _
                    rw [sI_same, sI_off (by omega), e4.1, n_suc]
                    simp
                  · show (sI (sI τ (t + 1) (rdT tx k).1.length (nI (tx.getD k 0 - 97))) t 4 ((sI τ (t + 1) (rdT tx k).1.length (nI (tx.getD k 0 - 97))).1 t 4 + 1)).1 (t + 1) j = nI (sgn ((rdT tx k).1 ++ [tx.getD k 0 - 97]) j)
                    have hj : j < ((rdT tx k).1 ++ [tx.getD k 0 - 97]).length := hj
                    rw [List.length_append, List.length_singleton] at hj
                    rw [sI_off (by omega), sI_get]
                    unfold sgn
                    rw [getD_app hj]
                    by_cases w : j = (rdT tx k).1.length
                    · rw [if_pos ⟨rfl, w⟩, if_pos w]
                    · rw [if_neg (fun q => w q.2), if_neg w]; exact e4.2 j (by omega)
                · show (sI (sI τ (t + 1) (rdT tx k).1.length (nI (tx.getD k 0 - 97))) t 4 ((sI τ (t + 1) (rdT tx k).1.length (nI (tx.getD k 0 - 97))).1 t 4 + 1)).1 o = _
                  rw [sI_o (by omega), sI_o (by omega)]; exact e5 o ho
              · rw [if_neg (by rw [show (31 : Int32) = nI 31 from rfl, n_lt (by omega) (by omega)]; exact c5)]
                refine fault (fun q => ?_)
                rcases q with q | q <;> omega
    · rintro ⟨v2, v3, τ⟩ ⟨e1, e2, e3, e4, e5, e6⟩
      simp only at e1 e2 e3 e4 e5 e6
      subst e1 e2
      show Ok (b_X7_read_9 t (nI (rdT tx tx.length).2) (nI tx.length) τ) _
      unfold b_X7_read_9
      rw [e5 1 (by omega), h.1, if_pos (by rw [n_le (by omega) (by omega)]; omega)]
      exact Ok.some ⟨e3, rfl, e4, e5, e6⟩
  · rintro r hr
    cases r with
    | inl x =>
      obtain ⟨v, τ⟩ := x
      obtain ⟨⟨k, k1, k2⟩, k3, k4⟩ := hr
      have k2 : v = nI k := k2
      subst k2
      exact Ok.some ⟨Or.inl ⟨k, k1, rfl⟩, fun o ho => k3 o (by omega), k4⟩
    | inr x =>
      obtain ⟨v, τ⟩ := x
      obtain ⟨k1, k2, k3, k4, k5⟩ := hr
      have k2 : v = nI (rdT tx tx.length).2 := k2
      subst k2
      obtain ⟨d1, d2, d3, d4⟩ := rdT_ok tx.length k1
      show Ok (if nI (rdT tx tx.length).2 ≤ 0 then _ else _) _
      by_cases c : (rdT tx tx.length).2 = 0
      · rw [if_pos (by rw [c]; decide)]
        obtain ⟨w1, w2⟩ := rdT_WfT k1 c
        refine Ok.bind (settle_C k3 w1 w2) (fun υ hυ => Ok.some ⟨Or.inr (Or.inr ⟨k1, c, ?_, hυ.1⟩), fun o ho => (hυ.2.1 o (by omega) (by omega)).trans (k4 o (by omega)), hυ.2.2.trans k5⟩)
        exact hυ.1.1
      · rw [if_neg (by rw [show (0 : Int32) = nI 0 from rfl, n_le (by omega) (by omega)]; omega)]
        refine Ok.some ⟨Or.inr (Or.inl ⟨k1, by omega, ?_⟩), fun o ho => k4 o (by omega), k5⟩
        show -10 - τ.1 1 1 = _
        have k41 : τ.1 1 = σ.1 1 := k4 1 (by omega)
        rw [k41, h.1]
