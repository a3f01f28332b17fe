/-! exchange, reference and both -/
theorem swap_R {ρ : Mem} {i : Nat} {l : List Nat} (h : SgR ρ l) (hw : WfT l) (hi : i < l.length) (ha : armsN (sgn l i) = 2) (hN : f_X9_isNode (nI i) ρ = some 1) : Ok (f_X9_exchange (nI i) ρ) (fun r => r.1 = 1 ∧ SgR r.2 (exL l (i + 1) (i + 1 + partL l (i + 1)) (i + partL l i)) ∧ (∀ o, o ≠ 7 → o ≠ 9 → o ≠ 10 → r.2.1 o = ρ.1 o) ∧ (∀ j, j < 3 ∨ 34 ≤ j → r.2.1 7 j = ρ.1 7 j) ∧ r.2.2 = ρ.2) := by
  have hl := hw.2.1
  have nd := hw.nd hi
  have h8 := sgn_lt hw hi
  obtain ⟨p1, p2⟩ := part_2 nd hi ha
  have q1 := part_pos (l := l) (i := i + 1) (by omega)
  have q2 := part_pos p2
  have q3 := part_le (l := l) (i := i) (by omega)
  unfold f_X9_exchange
  rw [hN, Option.bind_some, if_neg (by decide), n_3, gd_ix (by omega) (by omega), n_cl (by omega), h.2 i hi, arms_R (by omega), ha, if_pos (by decide)]
  refine Ok.bind (parts_R h hw) ?_
  rintro τ0 ⟨k1, k2, k3⟩
  have zz : f_X9_second (nI i) τ0 = some (nI (i + 1 + partL l (i + 1))) := by
    unfold f_X9_second
    rw [n_suc, gd_ix (by omega) (by omega), n_cl (by omega), k1 (i + 1) (by omega), n_add]
  have pz := k1 (i + 1 + partL l (i + 1)) p2
  have pe : i + 1 + partL l (i + 1) + partL l (i + 1 + partL l (i + 1)) = i + partL l i := by omega
  generalize hone : i + 1 = one at *
  generalize hz : one + partL l one = z at *
  generalize hen : i + partL l i = en at *
  have o1 : one ≤ z := by omega
  have o2 : z ≤ en := by omega
  have o3 : en ≤ l.length := q3
  have sg0 : ∀ j, j < l.length → τ0.1 7 (3 + j) = nI (sgn l j) := fun j hj => by rw [k2 7 (by omega)]; exact h.2 j hj
  rw [n_suc, hone]
  refine Ok.lt ?_
  rw [zz, Option.bind_some]
  refine Ok.bind (P := fun r => r.1 = nI one ∧ r.2.1 = nI z ∧ r.2.2.1 = nI (en - z) ∧ (∀ j, j < en - z → r.2.2.2.1 9 j = nI (sgn l (z + j))) ∧ (∀ o, o ≠ 9 → r.2.2.2.1 o = τ0.1 o) ∧ r.2.2.2.2 = τ0.2) ?_ ?_
  · refine Ok.for (en - z) (fun k s => s.1 = nI one ∧ s.2.1 = nI z ∧ s.2.2.1 = nI k ∧ s.2.2.2.1 = nI (z + k) ∧ (∀ j, j < k → s.2.2.2.2.1 9 j = nI (sgn l (z + j))) ∧ (∀ o, o ≠ 9 → s.2.2.2.2.1 o = τ0.1 o) ∧ s.2.2.2.2.2 = τ0.2) ?_ ?_ 0 (by omega) _ ⟨rfl, rfl, rfl, rfl, fun j hj => by omega, fun o _ => rfl, rfl⟩
    · rintro k ⟨v2, v3, v4, v5, τ⟩ hk ⟨e1, e2, e3, e4, e6, e7, e8⟩
      simp only at e1 e2 e3 e4 e6 e7 e8
      subst e1 e2 e3 e4
      show Ok (b_X9_exchange_48 (nI i) (nI one) (nI z) (nI k) (nI (z + k)) τ) _
      have ez : τ.1 10 z = nI (partL l z) := by rw [e7 10 (by omega)]; exact pz
      unfold b_X9_exchange_48
      simp only [gd_ix (show z < 32 by omega) (by omega), n_cl (show z < 2147483648 by omega), ez, n_add, pe]
      rw [if_neg (by rw [n_le (by omega) (by omega)]; omega)]
      simp only [n_3, gd_ix (show 3 + (z + k) < 102 by omega) (by omega), gd_ix (show k < 31 by omega) (by omega), n_cl (show 3 + (z + k) < 2147483648 by omega), n_cl (show k < 2147483648 by omega), lt_eq, n_suc]
      refine Ok.some ⟨rfl, rfl, rfl, rfl, fun j hj => ?_, fun o ho => ?_, e8⟩
      · show (sI τ 9 k (τ.1 7 (3 + (z + k)))).1 9 j = _
        rw [sI_get, e7 7 (by omega), sg0 (z + k) (by omega)]
        by_cases q : j = k
        · rw [if_pos ⟨rfl, q⟩, q]
        · rw [if_neg (fun w => q w.2)]; exact e6 j (by omega)
      · show (sI τ 9 k (τ.1 7 (3 + (z + k)))).1 o = _
        rw [sI_o ho]; exact e7 o ho
    · rintro ⟨v2, v3, v4, v5, τ⟩ ⟨e1, e2, e3, e4, e6, e7, e8⟩
      simp only at e1 e2 e3 e4 e6 e7 e8
      subst e1 e2 e3 e4
      show Ok (b_X9_exchange_48 (nI i) (nI one) (nI z) (nI (en - z)) (nI (z + (en - z))) τ) _
      have ez : τ.1 10 z = nI (partL l z) := by rw [e7 10 (by omega)]; exact pz
      unfold b_X9_exchange_48
      simp only [gd_ix (show z < 32 by omega) (by omega), n_cl (show z < 2147483648 by omega), ez, n_add, pe]
      rw [if_pos (by rw [n_le (by omega) (by omega)]; omega)]
      exact Ok.some ⟨rfl, rfl, rfl, e6, e7, e8⟩
  · rintro ⟨v2, v3, v5, τ⟩ ⟨e1, e2, e3, e4, e5, e6⟩
    simp only at e1 e2 e3 e4 e5 e6
    subst e1 e2 e3
    refine Ok.lt (Ok.bind (P := fun r => r.1 = nI one ∧ r.2.1 = nI (en - one) ∧ (∀ j, j < en - one → r.2.2.1 9 j = nI (bfN l one z en j)) ∧ (∀ o, o ≠ 9 → r.2.2.1 o = τ0.1 o) ∧ r.2.2.2 = τ0.2) ?_ ?_)
    · refine Ok.for (z - one) (fun k s => s.1 = nI one ∧ s.2.1 = nI z ∧ s.2.2.1 = nI (en - z + k) ∧ s.2.2.2.1 = nI (one + k) ∧ (∀ j, j < en - z + k → s.2.2.2.2.1 9 j = nI (bfN l one z en j)) ∧ (∀ o, o ≠ 9 → s.2.2.2.2.1 o = τ0.1 o) ∧ s.2.2.2.2.2 = τ0.2) ?_ ?_ 0 (by omega) _ ⟨rfl, rfl, rfl, rfl, fun j hj => ?_, e5, e6⟩
      · rintro k ⟨v2, v3, v5, v6, υ⟩ hk ⟨f1, f2, f3, f4, f5, f6, f7⟩
        simp only at f1 f2 f3 f4 f5 f6 f7
        subst f1 f2 f3 f4
        show Ok (b_X9_exchange_89 (nI i) (nI one) (nI z) (nI (en - z + k)) (nI (one + k)) υ) _
        unfold b_X9_exchange_89
        rw [if_neg (by rw [n_le (by omega) (by omega)]; omega)]
        simp only [n_3, gd_ix (show 3 + (one + k) < 102 by omega) (by omega), gd_ix (show en - z + k < 31 by omega) (by omega), n_cl (show 3 + (one + k) < 2147483648 by omega), n_cl (show en - z + k < 2147483648 by omega), lt_eq, n_suc]
        refine Ok.some ⟨rfl, rfl, rfl, rfl, fun j hj => ?_, fun o ho => ?_, f7⟩
        · show (sI υ 9 (en - z + k) (υ.1 7 (3 + (one + k)))).1 9 j = _
          rw [sI_get, f6 7 (by omega), sg0 (one + k) (by omega)]
          by_cases q : j = en - z + k
          · rw [if_pos ⟨rfl, q⟩, q]
            unfold bfN
            rw [if_neg (by omega), show en - z + k - (en - z) = k by omega]
          · rw [if_neg (fun w => q w.2)]; exact f5 j (by omega)
        · show (sI υ 9 (en - z + k) (υ.1 7 (3 + (one + k)))).1 o = _
          rw [sI_o ho]; exact f6 o ho
      · rintro ⟨v2, v3, v5, v6, υ⟩ ⟨f1, f2, f3, f4, f5, f6, f7⟩
        simp only at f1 f2 f3 f4 f5 f6 f7
        subst f1 f2 f3 f4
        show Ok (b_X9_exchange_89 (nI i) (nI one) (nI z) (nI (en - z + (z - one))) (nI (one + (z - one))) υ) _
        unfold b_X9_exchange_89
        rw [if_pos (by rw [n_le (by omega) (by omega)]; omega)]
        refine Ok.some ⟨rfl, ?_, fun j hj => f5 j (by omega), f6, f7⟩
        show nI (en - z + (z - one)) = _
        rw [show en - z + (z - one) = en - one by omega]
      · show τ.1 9 j = _
        rw [e4 j (by omega)]
        unfold bfN
        rw [if_pos (by omega)]
    · rintro ⟨v2, v5, υ⟩ ⟨f1, f2, f3, f4, f5⟩
      simp only at f1 f2 f3 f4 f5
      subst f1 f2
      refine Ok.bind (P := fun r => (∀ j, j < l.length → r.1 7 (3 + j) = nI (sgn (exL l one z en) j)) ∧ (∀ j, j < 3 ∨ 34 ≤ j → r.1 7 j = τ0.1 7 j) ∧ (∀ o, o ≠ 7 → o ≠ 9 → r.1 o = τ0.1 o) ∧ r.2 = τ0.2) ?_ ?_
      · refine Ok.for (en - one) (fun k s => s.1 = nI one ∧ s.2.1 = nI (en - one) ∧ s.2.2.1 = nI k ∧ (∀ j, j < l.length → s.2.2.2.1 7 (3 + j) = if one ≤ j ∧ j < one + k then nI (bfN l one z en (j - one)) else nI (sgn l j)) ∧ (∀ j, j < 3 ∨ 34 ≤ j → s.2.2.2.1 7 j = τ0.1 7 j) ∧ (∀ o, o ≠ 7 → s.2.2.2.1 o = υ.1 o) ∧ s.2.2.2.2 = τ0.2) ?_ ?_ 0 (by omega) _ ⟨rfl, rfl, rfl, fun j hj => ?_, fun j hj => ?_, fun o _ => rfl, f5⟩
        · rintro k ⟨v2, v5, v6, ω⟩ hk ⟨g1, g2, g3, g4, g45, g5, g6⟩
          simp only at g1 g2 g3 g4 g45 g5 g6
          subst g1 g2 g3
          show Ok (b_X9_exchange_123 (nI i) (nI one) (nI (en - one)) (nI k) ω) _
          unfold b_X9_exchange_123
          rw [if_neg (by rw [n_le (by omega) (by omega)]; omega), n_3, n_add]
          simp only [gd_ix (show 3 + one + k < 102 by omega) (by omega), gd_ix (show k < 31 by omega) (by omega), n_cl (show 3 + one + k < 2147483648 by omega), n_cl (show k < 2147483648 by omega), lt_eq, n_suc]
          refine Ok.some ⟨rfl, rfl, rfl, fun j hj => ?_, fun j hj => ?_, fun o ho => ?_, g6⟩
          · show (sI ω 7 (3 + one + k) (ω.1 9 k)).1 7 (3 + j) = _
            rw [sI_get, g5 9 (by omega), f3 k (by omega)]
            by_cases q : j = one + k
            · rw [if_pos ⟨rfl, by omega⟩, if_pos (by omega), q, show one + k - one = k by omega]
            · rw [if_neg (fun w => q (by omega)), g4 j hj]
              by_cases q2 : one ≤ j ∧ j < one + k
              · rw [if_pos q2, if_pos (by omega)]
              · rw [if_neg q2, if_neg (by omega)]
          · show (sI ω 7 (3 + one + k) (ω.1 9 k)).1 7 j = _
            rw [sI_slot (by omega)]; exact g45 j hj
          · show (sI ω 7 (3 + one + k) (ω.1 9 k)).1 o = _
            rw [sI_o ho]; exact g5 o ho
        · rintro ⟨v2, v5, v6, ω⟩ ⟨g1, g2, g3, g4, g45, g5, g6⟩
          simp only at g1 g2 g3 g4 g45 g5 g6
          subst g1 g2 g3
          show Ok (b_X9_exchange_123 (nI i) (nI one) (nI (en - one)) (nI (en - one)) ω) _
          unfold b_X9_exchange_123
          rw [if_pos (by rw [n_le (by omega) (by omega)]; omega)]
          refine Ok.some ⟨fun j hj => ?_, g45, fun o o1 o2 => (g5 o o1).trans (f4 o o2), g6⟩
          rw [g4 j hj, sgn_bf o1 o2 o3]
          by_cases q : j < one
          · rw [if_neg (by omega), if_pos q]
          · rw [if_neg q]
            by_cases q2 : j < en
            · rw [if_pos (by omega), if_pos q2]
            · rw [if_neg (by omega), if_neg q2]
        · show υ.1 7 (3 + j) = _
          rw [f4 7 (by omega), sg0 j hj, if_neg (by omega)]
        · show υ.1 7 j = _
          rw [f4 7 (by omega)]
      · rintro ω ⟨g1, g15, g2, g3⟩
        have len := exL_len (t := l) o1 o2 o3
        refine Ok.some ⟨rfl, ⟨?_, ?_⟩, fun o w1 w2 w3 => (g2 o w1 w2).trans (k2 o w3), fun j hj => ?_, g3.trans k3⟩
        · show ω.1 7 2 = _
          rw [g15 2 (by omega), len, k2 7 (by omega)]; exact h.1
        · rw [len]; exact g1
        · show ω.1 7 j = _
          rw [g15 j hj, k2 7 (by omega)]
theorem exch_RC {A : AS} {σ ρ : Mem} (h : RepC A σ) (g : RepR A ρ) (hA : WfA A) (a : Int32) : Both A σ (f_X8_exchange a σ) (f_X9_exchange a ρ) := by
  have hw : WfT (trA A) := hA.2.2.2.2.2.2.1
  have hl : (trA A).length ≤ 31 := hw.2.1
  obtain ⟨q1, q2⟩ := h.2.1.law
  rcases hasT_C h.2.2.2.2.1.1 hl a with ⟨j, hj, rfl, h1⟩ | ⟨hn, h1⟩
  · have h8 := sgn_lt hw hj
    have hN := isNode_yes g hA hj
    by_cases c : armsN (sgn (trA A) j) = 2
    · refine Both.mk (B := setTr A (exL (trA A) (j + 1) (j + 1 + partL (trA A) (j + 1)) (j + partL (trA A) j))) (v := 1) ?_ ?_ ?_ rfl
      · unfold f_X8_exchange
        rw [h1, if_neg (by decide), gd_ix (by omega) (by omega), n_cl (by omega), h.sg rfl hj, arms_C (by omega), c, if_pos (by decide)]
        refine Ok.bind (swap_C h.2.2.2.2.1 hw hj c) (fun r hr => Ok.some ⟨rfl, ?_, ?_⟩)
        · obtain ⟨r1, r2, r3⟩ := hr
          obtain ⟨⟨h1, h2⟩, h3, h4, ⟨h5, h5'⟩, h6, h7, h8⟩ := h
          have e22 : r.2.2 = σ.2.2 := by rw [r3]
          refine ⟨⟨?_, ?_⟩, ?_, ?_, ⟨?_, ?_⟩, ?_, fun k hk => ?_, ?_⟩
          · rw [r2 1 (by rcases q2 with q | q <;> omega)]; exact h1
          · rw [r2 2 (by rcases q2 with q | q <;> omega)]; exact h2
          · unfold RfC; rw [e22]; exact h3
          · show LawC r (r.2.2 4) (rlA A)
            rw [e22]; exact h4.cg (fun o k1 k2 => r2 o (by rcases q1 with q | q <;> rcases q2 with q' | q' <;> omega))
          · rw [r2 0 (by rcases q2 with q | q <;> omega)]; exact h5
          · rw [r2 0 (by rcases q2 with q | q <;> omega)]; exact h5'
          · show TreeC r (r.2.2 6) _
            rw [e22]; exact r1
          · exact (h7 k hk).cg (fun o k1 k2 => r2 o (by rcases q2 with q' | q' <;> omega))
          · show r.2.1 0 10 = _
            rw [r3]; exact h8
        · exact ⟨fun o o1 o2 => hr.2.1 o (by rcases q2 with q | q <;> omega), by rw [hr.2.2]⟩
      · refine (swap_R g.sg hw hj c hN).mono ?_
        rintro ⟨v, r⟩ ⟨r1, r2, r3, r4, r5⟩
        refine ⟨r1, ?_⟩
        simp only at r2 r3 r4 r5
        obtain ⟨⟨g1, g2⟩, ⟨g3, g4⟩, ⟨g5, g5b, g5c, g5d⟩, g6, g7⟩ := g
        refine ⟨⟨?_, ?_⟩, ⟨?_, g4.cg (r3 3 (by omega) (by omega) (by omega)) (r3 4 (by omega) (by omega) (by omega)) (r3 5 (by omega) (by omega) (by omega)) (r3 6 (by omega) (by omega) (by omega))⟩, ⟨?_, ?_, r2.1, fun i hi => ?_⟩, fun k hk => ?_, ?_⟩
        · show r.1 0 2 = _
          rw [r3 0 (by omega) (by omega) (by omega)]; exact g1
        · show ∀ j, j < (txA A).length → r.1 1 j &&& 255 = _
          rw [r3 1 (by omega) (by omega) (by omega)]; exact g2
        · show r.1 2 0 = _
          rw [r3 2 (by omega) (by omega) (by omega)]; exact g3
        · show r.1 7 0 = _
          rw [r4 0 (by omega)]; exact g5
        · show r.1 7 1 = _
          rw [r4 1 (by omega)]; exact g5b
        · show r.1 7 (0 + 3 + i) = _
          rw [show 0 + 3 + i = 3 + i by omega]
          exact r2.2 i hi
        · have := g6 k hk
          show ImR r k (imA A k)
          cases hx : imA A k with
          | none => rw [hx] at this; show r.1 8 k = 0; rw [r3 8 (by omega) (by omega) (by omega)]; exact this
          | some y =>
            obtain ⟨o, gg, t⟩ := y
            rw [hx] at this
            refine ⟨by rw [r3 8 (by omega) (by omega) (by omega)]; exact this.1, this.2.cg (hA.2.2.2.2.2.2.2 k o gg t hx).2.2.2.1 (fun i hi => r4 _ (by omega))⟩
        · show r.2.1 0 0 = _
          rw [r5]; exact g7
      · obtain ⟨w1, w2, w3, w4, w5, w6, w7, w8⟩ := hA
        exact ⟨w1, w2, w3, w4, w5, w6, exL_WfT hw hj c, w8⟩
    · refine ⟨-2, A, σ, ρ, ?_, ?_, h, g, hA, rfl, PF.rf⟩
      · unfold f_X8_exchange
        rw [h1, if_neg (by decide), gd_ix (by omega) (by omega), n_cl (by omega), h.sg rfl hj, arms_C (by omega), if_neg]
        rw [show (2 : Int32) = nI 2 from rfl, n_eq (by have := armsN_le (sgn (trA A) j); omega) (by omega)]; exact c
      · unfold f_X9_exchange
        rw [hN, Option.bind_some, if_neg (by decide), n_3, gd_ix (by omega) (by omega), n_cl (by omega), g.sg.2 j hj, arms_R (by omega), if_neg]
        rw [show (2 : Int32) = nI 2 from rfl, n_eq (by have := armsN_le (sgn (trA A) j); omega) (by omega)]; exact c
  · refine ⟨-1, A, σ, ρ, ?_, ?_, h, g, hA, rfl, PF.rf⟩
    · unfold f_X8_exchange
      rw [h1, if_pos (by decide)]
    · unfold f_X9_exchange
      rw [isNode_no g hA hn, Option.bind_some, if_pos (by decide)]
