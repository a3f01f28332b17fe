/-! tree, reference and both -/
theorem tree_R {ρ : Mem} {tx : List Nat} (h : TxR ρ tx) (hx : ∀ x ∈ tx, x < 256) (hl : tx.length ≤ 300) : Ok (f_X9_tree ρ) (fun r => (((∃ k, faT tx k ∧ r.1 = -10 - nI k) ∨ (okTo tx tx.length ∧ 0 < (rdT tx tx.length).2 ∧ r.1 = -10 - nI tx.length)) ∧ (∀ o, o ≠ 9 → r.2.1 o = ρ.1 o) ∧ r.2.2 = ρ.2) ∨ (okTo tx tx.length ∧ (rdT tx tx.length).2 = 0 ∧ r.1 = nI (rdT tx tx.length).1.length ∧ SgR r.2 (rdT tx tx.length).1 ∧ r.2.1 0 2 = 0 ∧ (∀ o, o ≠ 0 → o ≠ 7 → o ≠ 9 → r.2.1 o = ρ.1 o) ∧ (∀ j, j < 2 ∨ 34 ≤ j → r.2.1 7 j = ρ.1 7 j) ∧ r.2.2 = ρ.2)) := by
  unfold f_X9_tree
  refine Ok.bind (P := fun r => match r with | .inl x => (∃ k, faT tx k ∧ x.1 = nI k) ∧ (∀ o, o ≠ 9 → x.2.1 o = ρ.1 o) ∧ x.2.2 = ρ.2 | .inr x => okTo tx tx.length ∧ x.1 = nI (rdT tx tx.length).1.length ∧ x.2.1 = nI (rdT tx tx.length).2 ∧ (∀ j, j < (rdT tx tx.length).1.length → x.2.2.1 9 j = nI (sgn (rdT tx tx.length).1 j)) ∧ (∀ o, o ≠ 9 → x.2.2.1 o = ρ.1 o) ∧ x.2.2.2 = ρ.2) ?_ ?_
  · refine Ok.for tx.length (fun k s => s.1 = nI (rdT tx k).1.length ∧ s.2.1 = nI (rdT tx k).2 ∧ s.2.2.1 = nI k ∧ okTo tx k ∧ (∀ j, j < (rdT tx k).1.length → s.2.2.2.1 9 j = nI (sgn (rdT tx k).1 j)) ∧ (∀ o, o ≠ 9 → s.2.2.2.1 o = ρ.1 o) ∧ s.2.2.2.2 = ρ.2) ?_ ?_ 0 (by omega) _ ⟨rfl, rfl, rfl, fun j hj => by omega, fun j hj => absurd hj (Nat.not_lt_zero j), fun o ho => rfl, rfl⟩
    · rintro k ⟨v1, v2, v3, τ⟩ hk ⟨e0, e1, e2, e3, e4, e5, e6⟩
      simp only at e0 e1 e2 e3 e4 e5 e6
      subst e0 e1 e2
      show Ok (b_X9_tree_6 (nI (rdT tx k).1.length) (nI (rdT tx k).2) (nI k) τ) _
      obtain ⟨d1, d2, d3, d4⟩ := rdT_ok k e3
      have hc := tx_lt hx hk
      have fault : ¬ okC (rdT tx k) (tx.getD k 0) → Ok (some (Sum.inr (Sum.inl (nI k, τ))) : Option ((Int32 × Int32 × Int32 × Mem) ⊕ ((Int32 × Mem) ⊕ (Int32 × Int32 × Mem)))) (SumP (fun s => s.1 = nI (rdT tx (k + 1)).1.length ∧ s.2.1 = nI (rdT tx (k + 1)).2 ∧ s.2.2.1 = nI (k + 1) ∧ okTo tx (k + 1) ∧ (∀ j, j < (rdT tx (k + 1)).1.length → s.2.2.2.1 9 j = nI (sgn (rdT tx (k + 1)).1 j)) ∧ (∀ o, o ≠ 9 → s.2.2.2.1 o = ρ.1 o) ∧ s.2.2.2.2 = ρ.2) (fun r => match r with | .inl x => (∃ k, faT tx k ∧ x.1 = nI k) ∧ (∀ o, o ≠ 9 → x.2.1 o = ρ.1 o) ∧ x.2.2 = ρ.2 | .inr x => okTo tx tx.length ∧ x.1 = nI (rdT tx tx.length).1.length ∧ x.2.1 = nI (rdT tx tx.length).2 ∧ (∀ j, j < (rdT tx tx.length).1.length → x.2.2.1 9 j = nI (sgn (rdT tx tx.length).1 j)) ∧ (∀ o, o ≠ 9 → x.2.2.1 o = ρ.1 o) ∧ x.2.2.2 = ρ.2)) := fun q => Ok.some ⟨⟨k, ⟨hk, e3, q⟩, rfl⟩, e5, e6⟩
      have okN : okC (rdT tx k) (tx.getD k 0) → okTo tx (k + 1) := by
        intro q j hj
        by_cases w : j = k
        · rw [w]; exact q
        · exact e3 j (by omega)
      unfold b_X9_tree_6
      rw [e5 0 (by omega), h.1, if_neg (by rw [n_le (by omega) (by omega)]; omega), gd_ix (by omega) (by omega), n_cl (by omega), e5 1 (by omega), h.2 k hk]
      refine Ok.lt ?_
      simp only [show (32 : Int32) = nI 32 from rfl, n_eq (show tx.getD k 0 < 2147483648 by omega) (show 32 < 2147483648 by omega)]
      by_cases c1 : tx.getD k 0 = 32
      · rw [if_pos c1]
        unfold j_X9_tree_87
        have er : rdT tx (k + 1) = rdT tx k := by show rdS (rdT tx k) (tx.getD k 0) = _; rw [rdS, if_pos c1]
        refine Ok.lt (Ok.some ⟨?_, ?_, n_suc k, okN (Or.inl c1), ?_, e5, e6⟩)
        · rw [er]
        · rw [er]
        · rw [er]; exact e4
      · rw [if_neg c1]
        by_cases c2 : 97 ≤ tx.getD k 0 ∧ tx.getD k 0 ≤ 104
        · rw [show (97 : Int32) = nI 97 from rfl, show (104 : Int32) = nI 104 from rfl, in_yes c2.1 c2.2 (by omega), if_neg (by decide)]
          by_cases c4 : (rdT tx k).2 = 0
          · rw [c4, if_pos (by decide)]
            refine fault (fun q => ?_)
            rcases q with q | q
            · omega
            · exact q.2.2.1 c4
          · rw [if_neg (by rw [show (0 : Int32) = nI 0 from rfl, n_eq (by omega) (by omega)]; exact c4)]
            by_cases c5 : (rdT tx k).1.length < 31
            · rw [if_neg (by rw [show (31 : Int32) = nI 31 from rfl, n_eq (by omega) (by omega)]; omega), gd_ix c5 (by omega), n_cl (by omega), n_sub (by omega), arms_R (by omega), n_am1 (by omega)]
              unfold j_X9_tree_87
              have er : rdT tx (k + 1) = ((rdT tx k).1 ++ [tx.getD k 0 - 97], (rdT tx k).2 + armsN (tx.getD k 0 - 97) - 1) := by show rdS (rdT tx k) (tx.getD k 0) = _; rw [rdS, if_neg c1]
              refine Ok.lt (Ok.lt (Ok.lt (Ok.lt (Ok.some ⟨?_, ?_, n_suc k, okN (Or.inr ⟨by omega, by omega, c4, c5⟩), fun j hj => ?_, fun o ho => ?_, e6⟩))))
              · rw [er, n_suc]; simp
              · rw [er]
              · rw [er] at hj ⊢
                have hj : j < ((rdT tx k).1 ++ [tx.getD k 0 - 97]).length := hj
                rw [List.length_append, List.length_singleton] at hj
                show (sI τ 9 (rdT tx k).1.length (nI (tx.getD k 0 - 97))).1 9 j = nI (sgn ((rdT tx k).1 ++ [tx.getD k 0 - 97]) j)
                rw [sI_get]
                unfold sgn
                rw [getD_app hj]
                by_cases w : j = (rdT tx k).1.length
                · rw [if_pos ⟨rfl, w⟩, if_pos w]
                · rw [if_neg (fun q => w q.2), if_neg w]; exact e4 j (by omega)
              · show (sI τ 9 (rdT tx k).1.length (nI (tx.getD k 0 - 97))).1 o = _
                rw [sI_o ho]; exact e5 o ho
            · rw [if_pos (by rw [show (31 : Int32) = nI 31 from rfl, n_eq (by omega) (by omega)]; omega)]
              refine fault (fun q => ?_)
              rcases q with q | q <;> omega
        · rw [show (97 : Int32) = nI 97 from rfl, show (104 : Int32) = nI 104 from rfl, in_no (by omega) (by omega) (fun j h1 h2 e => ?_), if_pos (by decide)]
          · refine fault (fun q => ?_)
            rcases q with q | q
            · omega
            · exact c2 ⟨q.1, q.2.1⟩
          · rw [n_eq (by omega) (by omega)] at e
            exact c2 (by omega)
    · rintro ⟨v1, v2, v3, τ⟩ ⟨e0, e1, e2, e3, e4, e5, e6⟩
      simp only at e0 e1 e2 e3 e4 e5 e6
      subst e0 e1 e2
      show Ok (b_X9_tree_6 (nI (rdT tx tx.length).1.length) (nI (rdT tx tx.length).2) (nI tx.length) τ) _
      unfold b_X9_tree_6
      rw [e5 0 (by omega), h.1, if_pos (by rw [n_le (by omega) (by omega)]; omega)]
      exact Ok.some ⟨e3, rfl, rfl, e4, e5, e6⟩
  · rintro r hr
    cases r with
    | inl x =>
      obtain ⟨v, τ⟩ := x
      obtain ⟨⟨k, k1, k2⟩, k3, k4⟩ := hr
      have k2 : v = nI k := k2
      subst k2
      exact Ok.some (Or.inl ⟨Or.inl ⟨k, k1, rfl⟩, k3, k4⟩)
    | inr x =>
      obtain ⟨v, v2, τ⟩ := x
      obtain ⟨k1, k0, k2, k3, k4, k5⟩ := hr
      simp only at k0 k2 k3 k4 k5
      subst k0 k2
      obtain ⟨d1, d2, d3, d4⟩ := rdT_ok tx.length k1
      show Ok (if nI (rdT tx tx.length).2 ≤ 0 then _ else _) _
      by_cases c : (rdT tx tx.length).2 = 0
      · rw [if_pos (by rw [c]; decide)]
        generalize hd : (rdT tx tx.length).1 = d at *
        refine Ok.bind (P := fun r => r.1 = nI d.length ∧ (∀ j, j < d.length → r.2.1 7 (3 + j) = nI (sgn d j)) ∧ (∀ j, j < 3 ∨ 34 ≤ j → r.2.1 7 j = ρ.1 7 j) ∧ (∀ o, o ≠ 7 → o ≠ 9 → r.2.1 o = ρ.1 o) ∧ r.2.2 = ρ.2) ?_ ?_
        · refine Ok.for d.length (fun k s => s.1 = nI d.length ∧ s.2.1 = nI k ∧ (∀ j, j < k → s.2.2.1 7 (3 + j) = nI (sgn d j)) ∧ (∀ j, j < 3 ∨ 34 ≤ j → s.2.2.1 7 j = ρ.1 7 j) ∧ (∀ o, o ≠ 7 → s.2.2.1 o = τ.1 o) ∧ s.2.2.2 = ρ.2) ?_ ?_ 0 (by omega) _ ⟨rfl, rfl, fun j hj => by omega, fun j hj => ?_, fun o ho => rfl, k5⟩
          · rintro k ⟨v1, v3, υ⟩ hk ⟨f1, f2, f3, f4, f5, f6⟩
            simp only at f1 f2 f3 f4 f5 f6
            subst f1 f2
            show Ok (b_X9_tree_107 (nI d.length) (nI k) υ) _
            unfold b_X9_tree_107
            rw [if_neg (by rw [n_le (by omega) (by omega)]; omega)]
            simp only [n_3, gd_ix (show k < 31 by omega) (by omega), gd_ix (show 3 + k < 102 by omega) (by omega), n_cl (show k < 2147483648 by omega), n_cl (show 3 + k < 2147483648 by omega), lt_eq, n_suc]
            refine Ok.some ⟨rfl, rfl, fun j hj => ?_, fun j hj => ?_, fun o ho => ?_, f6⟩
            · show (sI υ 7 (3 + k) (υ.1 9 k)).1 7 (3 + j) = _
              rw [sI_get, f5 9 (by omega), k3 k hk]
              by_cases w : j = k
              · rw [if_pos ⟨rfl, by omega⟩, w]
              · rw [if_neg (fun q => w (by omega))]; exact f3 j (by omega)
            · show (sI υ 7 (3 + k) (υ.1 9 k)).1 7 j = _
              rw [sI_slot (by omega)]; exact f4 j hj
            · show (sI υ 7 (3 + k) (υ.1 9 k)).1 o = _
              rw [sI_o ho]; exact f5 o ho
          · rintro ⟨v1, v3, υ⟩ ⟨f1, f2, f3, f4, f5, f6⟩
            simp only at f1 f2 f3 f4 f5 f6
            subst f1 f2
            show Ok (b_X9_tree_107 (nI d.length) (nI d.length) υ) _
            unfold b_X9_tree_107
            rw [if_pos (by rw [n_le (by omega) (by omega)]; omega)]
            exact Ok.some ⟨rfl, f3, f4, fun o o1 o2 => (f5 o o1).trans (k4 o o2), f6⟩
          · show τ.1 7 j = _
            rw [k4 7 (by omega)]
        · rintro ⟨v1, υ⟩ ⟨f1, f2, f3, f4, f5⟩
          simp only at f1 f2 f3 f4 f5
          subst f1
          rw [show (2 : Int32).toNatClampNeg = 2 from rfl]
          refine Ok.lt (Ok.lt (Ok.some (Or.inr ⟨k1, c, rfl, ⟨?_, fun j hj => ?_⟩, ?_, fun o o1 o2 o3 => ?_, fun j hj => ?_, f5⟩)))
          · show (sI (sI υ 7 2 (nI d.length)) 0 2 0).1 7 2 = _
            rw [sI_off (by omega), sI_same]
          · show (sI (sI υ 7 2 (nI d.length)) 0 2 0).1 7 (3 + j) = _
            rw [sI_off (by omega), sI_slot (by omega)]; exact f2 j hj
          · show (sI (sI υ 7 2 (nI d.length)) 0 2 0).1 0 2 = _
            rw [sI_same]
          · show (sI (sI υ 7 2 (nI d.length)) 0 2 0).1 o = _
            rw [sI_o o1, sI_o o2]; exact f4 o o2 o3
          · show (sI (sI υ 7 2 (nI d.length)) 0 2 0).1 7 j = _
            rw [sI_off (by omega), sI_slot (by omega)]; exact f3 j (by omega)
      · rw [if_neg (by rw [show (0 : Int32) = nI 0 from rfl, n_le (by omega) (by omega)]; omega)]
        refine Ok.some (Or.inl ⟨Or.inr ⟨k1, by omega, ?_⟩, k4, k5⟩)
        show -10 - τ.1 0 2 = _
        rw [k4 0 (by omega), h.1]
set_option maxRecDepth 20000 in
theorem m10_neg : ∀ k, k < 301 → ¬ (0 : Int32) ≤ -10 - nI k := by decide +kernel
theorem tree_RC {A : AS} {σ ρ : Mem} (h : RepC A σ) (g : RepR A ρ) (hA : WfA A) : Both A σ (f_X8_tree σ) (f_X9_tree ρ) := by
  have hx := hA.1
  have hl := hA.2.1
  have q7 : (σ.2.2 6 = 44 ∧ σ.2.2 7 = 49) ∨ (σ.2.2 6 = 49 ∧ σ.2.2 7 = 44) := h.2.1.2
  obtain ⟨q1, _⟩ := h.2.1.law
  obtain ⟨⟨c1, c2⟩, c3, c4, c5, c6⟩ := read_C (t := σ.2.2 7) h.1 hx hl (by omega)
  obtain ⟨⟨r1, r2⟩, r3, r4⟩ := tree_R g.1 hx hl
  simp only at c4 c5 c6 r4
  have fa : ∀ v, ¬ (0 : Int32) ≤ v → c1 = v → r1 = v → (∀ o, o ≠ 9 → r2.1 o = ρ.1 o) → r2.2 = ρ.2 → Both A σ (f_X8_tree σ) (f_X9_tree ρ) := by
    intro v hv e1 e2 e3 e4
    subst e1
    subst e2
    refine ⟨_, A, c2, r2, ?_, r3, ?_, ?_, hA, rfl, ?_⟩
    · unfold f_X8_tree
      rw [c3, Option.bind_some]
      simp only [lt_eq]
      rw [if_neg hv]
    · obtain ⟨⟨h1, h2⟩, h3, h4, ⟨h5, h5'⟩, h6, h7, h8⟩ := h
      have e22 : c2.2.2 = σ.2.2 := by rw [c6]
      refine ⟨⟨?_, ?_⟩, ?_, ?_, ⟨?_, ?_⟩, ?_, fun k hk => ?_, ?_⟩
      · rw [c5 1 (by omega)]; exact h1
      · rw [c5 2 (by omega)]; exact h2
      · unfold RfC; rw [e22]; exact h3
      · rw [e22]; exact h4.cg (fun o k1 k2 => c5 o (by omega))
      · rw [c5 0 (by omega)]; exact h5
      · rw [c5 0 (by omega)]; exact h5'
      · rw [e22]; exact h6.cg (fun o k1 k2 => c5 o (by omega))
      · exact (h7 k hk).cg (fun o k1 k2 => c5 o (by omega))
      · rw [c6]; exact h8
    · exact g.scr (by rw [e3 0 (by omega)]) (fun o o1 o2 => e3 o (by omega)) (by rw [e4])
    · exact ⟨fun o o1 o2 => c5 o (by omega), by rw [c6]⟩
  rcases r4 with ⟨r4 | r4, r5, r6⟩ | ⟨r4, r5, r6, r7, r8, r9, r10, r11⟩
  · obtain ⟨k, k1, k2⟩ := r4
    have hk : k < 301 := by have := k1.1; omega
    rcases c4 with ⟨k', k1', k2'⟩ | ⟨k1', k2', k3'⟩ | ⟨k1', k2', k3', k4'⟩
    · have := faT_one k1 k1'
      subst this
      exact fa (-10 - nI k) (m10_neg k hk) k2' k2 r5 r6
    · exact absurd (k1' k k1.1) k1.2.2
    · exact absurd (k1' k k1.1) k1.2.2
  · obtain ⟨k1, k2, k3⟩ := r4
    rcases c4 with ⟨k', k1', k2'⟩ | ⟨k1', k2', k3'⟩ | ⟨k1', k2', k3', k4'⟩
    · exact absurd (k1 k' k1'.1) k1'.2.2
    · exact fa (-10 - nI (txA A).length) (m10_neg _ (by omega)) k3' k3 r5 r6
    · omega
  · rcases c4 with ⟨k', k1', k2'⟩ | ⟨k1', k2', k3'⟩ | ⟨k1', k2', k3', k4'⟩
    · exact absurd (r4 k' k1'.1) k1'.2.2
    · omega
    · obtain ⟨w1, w2⟩ := rdT_WfT r4 r5
      generalize (rdT (txA A) (txA A).length).1 = d at *
      have hd := w1.2.1
      subst k3'
      subst r6
      refine ⟨nI d.length, setTx (setTr A d) [], sI (sR (sR c2 6 (c2.2.2 7)) 7 (c2.2.2 6)) 1 1 0, r2, ?_, r3, ?_, ?_, ?_, rfl, ?_⟩
      · unfold f_X8_tree
        rw [c3, Option.bind_some]
        simp only [lt_eq]
        rw [if_pos (by rw [n_nn (by omega)]; trivial)]
      · obtain ⟨⟨h1, h2⟩, h3, h4, ⟨h5, h5'⟩, h6, h7, h8⟩ := h
        have e22 : c2.2.2 = σ.2.2 := by rw [c6]
        have f4 : (sI (sR (sR c2 6 (c2.2.2 7)) 7 (c2.2.2 6)) 1 1 0).2.2 4 = σ.2.2 4 := by rw [sI_R, sR_get, if_neg (by omega), sR_get, if_neg (by omega), e22]
        have f5 : (sI (sR (sR c2 6 (c2.2.2 7)) 7 (c2.2.2 6)) 1 1 0).2.2 5 = σ.2.2 5 := by rw [sI_R, sR_get, if_neg (by omega), sR_get, if_neg (by omega), e22]
        have f6 : (sI (sR (sR c2 6 (c2.2.2 7)) 7 (c2.2.2 6)) 1 1 0).2.2 6 = σ.2.2 7 := by rw [sI_R, sR_get, if_neg (by omega), sR_get, if_pos rfl, e22]
        have f7 : (sI (sR (sR c2 6 (c2.2.2 7)) 7 (c2.2.2 6)) 1 1 0).2.2 7 = σ.2.2 6 := by rw [sI_R, sR_get, if_pos rfl, e22]
        have fr : ∀ o, o ≠ 1 → (sI (sR (sR c2 6 (c2.2.2 7)) 7 (c2.2.2 6)) 1 1 0).1 o = c2.1 o := fun o ho => by rw [sI_o ho]; rfl
        refine ⟨⟨sI_same _ _ _ _, fun j hj => absurd hj (Nat.not_lt_zero j)⟩, ?_, ?_, ⟨?_, ?_⟩, ?_, fun k hk => ?_, ?_⟩
        · unfold RfC; rw [f4, f5, f6, f7]
          exact ⟨h3.1, q7.symm.imp And.symm And.symm⟩
        · rw [f4]
          show LawC _ (σ.2.2 4) (rlA A)
          exact h4.cg (fun o k1 k2 => by rw [fr o (by omega)]; exact c5 o (by omega))
        · rw [fr 0 (by omega), c5 0 (by omega)]; exact h5
        · rw [fr 0 (by omega), c5 0 (by omega)]; exact h5'
        · rw [f6]
          show TreeC _ (σ.2.2 7) d
          exact k4'.cg (fun o k1 k2 => fr o (by omega))
        · show ImC _ k (imA A k)
          exact (h7 k hk).cg (fun o k1 k2 => by rw [fr o (by omega)]; exact c5 o (by omega))
        · show c2.2.1 0 10 = _
          rw [c6]; exact h8
      · obtain ⟨⟨g1, g2⟩, ⟨g3, g4⟩, ⟨g5, g5b, g5c, g5d⟩, g6, g7⟩ := g
        refine ⟨⟨r8, fun j hj => absurd hj (Nat.not_lt_zero j)⟩, ⟨?_, g4.cg (r9 3 (by omega) (by omega) (by omega)) (r9 4 (by omega) (by omega) (by omega)) (r9 5 (by omega) (by omega) (by omega)) (r9 6 (by omega) (by omega) (by omega))⟩, ⟨?_, ?_, r7.1, fun i hi => ?_⟩, fun k hk => ?_, ?_⟩
        · rw [r9 2 (by omega) (by omega) (by omega)]; exact g3
        · rw [r10 0 (by omega)]; exact g5
        · rw [r10 1 (by omega)]; exact g5b
        · show r2.1 7 (0 + 3 + i) = _
          rw [show 0 + 3 + i = 3 + i by omega]
          exact r7.2 i hi
        · have := g6 k hk
          show ImR r2 k (imA A k)
          cases hx : imA A k with
          | none => rw [hx] at this; show r2.1 8 k = 0; rw [r9 8 (by omega) (by omega) (by omega)]; exact this
          | some y =>
            obtain ⟨o, gg, t⟩ := y
            rw [hx] at this
            refine ⟨by rw [r9 8 (by omega) (by omega) (by omega)]; exact this.1, this.2.cg (hA.2.2.2.2.2.2.2 k o gg t hx).2.2.2.1 (fun i hi => r10 _ (by omega))⟩
        · rw [r11]; exact g7
      · obtain ⟨u1, u2, u3, u4, u5, u6, u7, u8⟩ := hA
        exact ⟨fun x hx => absurd hx List.not_mem_nil, Nat.zero_le _, u3, u4, u5, u6, w1, u8⟩
      · refine ⟨fun o o1 o2 => ?_, ?_⟩
        · rw [sI_o (by omega)]; exact c5 o (by omega)
        · show c2.2.1 23 = _
          rw [c6]
