/-! exchange -/
def bfN (l : List Nat) (one two en j : Nat) : Nat := if j < en - two then sgn l (two + j) else sgn l (one + (j - (en - two)))
theorem sgn_bf {l : List Nat} {one two en : Nat} (h1 : one ≤ two) (h2 : two ≤ en) (h3 : en ≤ l.length) (j : Nat) : sgn (exL l one two en) j = if j < one then sgn l j else if j < en then bfN l one two en (j - one) else sgn l j := by
  rw [sgn_exL h1 h2 h3]
  by_cases c1 : j < one
  · rw [if_pos c1, if_pos c1]
  · rw [if_neg c1, if_neg c1]
    unfold bfN
    by_cases c2 : j < one + (en - two)
    · rw [if_pos c2, if_pos (by omega), if_pos (by omega)]
    · rw [if_neg c2]
      by_cases c3 : j < en
      · rw [if_pos c3, if_pos c3, if_neg (by omega)]
      · rw [if_neg c3, if_neg c3]
theorem swap_C {σ : Mem} {t i : Nat} {l : List Nat} (h : TreeC σ t l) (hw : WfT l) (hi : i < l.length) (ha : armsN (sgn l i) = 2) : Ok (f_X7_swapArms t (nI i) σ) (fun σ' => TreeC σ' t (exL l (i + 1) (i + 1 + partL l (i + 1)) (i + partL l i)) ∧ (∀ o, o < t ∨ t + 4 < o → σ'.1 o = σ.1 o) ∧ σ'.2 = σ.2) := by
  have hl := hw.2.1
  have nd := hw.nd hi
  obtain ⟨p1, p2⟩ := part_2 nd hi ha
  have q1 := part_pos (l := l) (i := i + 1) (by omega)
  have q2 := part_pos p2
  have q3 := part_le (l := l) (i := i) (by omega)
  obtain ⟨z, z1, z2, z3, z4⟩ := second_C h hl hi
  have z3 := z3 (by omega)
  have hpi := (h.2 i hi).2.1
  generalize hone : i + 1 = one at *
  generalize htwo : one + partL l one = two at *
  generalize hen : i + partL l i = en at *
  subst z3
  have o1 : one ≤ z := by omega
  have o2 : z ≤ en := by omega
  have o3 : en ≤ l.length := q3
  unfold f_X7_swapArms
  rw [z2]
  simp only [n_suc, hone, Option.bind_some, lt_eq, gd_ix (show i < 31 by omega) (by omega), n_cl (show i < 2147483648 by omega), hpi, n_add, hen]
  refine Ok.bind (P := fun r => r.1 = nI one ∧ r.2.1 = nI z ∧ r.2.2.1 = nI (en - z) ∧ (∀ j, j < en - z → r.2.2.2.1 (t + 4) j = nI (sgn l (z + j))) ∧ (∀ o, o ≠ t + 4 → r.2.2.2.1 o = σ.1 o) ∧ r.2.2.2.2 = σ.2) ?_ ?_
  · refine Ok.for (en - z) (fun k s => s.1 = nI one ∧ s.2.1 = nI z ∧ s.2.2.1 = nI en ∧ s.2.2.2.1 = nI k ∧ s.2.2.2.2.1 = nI (z + k) ∧ (∀ j, j < k → s.2.2.2.2.2.1 (t + 4) j = nI (sgn l (z + j))) ∧ (∀ o, o ≠ t + 4 → s.2.2.2.2.2.1 o = σ.1 o) ∧ s.2.2.2.2.2.2 = σ.2) ?_ ?_ 0 (by omega) _ ⟨rfl, rfl, rfl, rfl, rfl, fun j hj => by omega, fun o _ => rfl, rfl⟩
    · rintro k ⟨v2, v3, v4, v5, v6, τ⟩ hk ⟨e1, e2, e3, e4, e5, e6, e7, e8⟩
      simp only at e1 e2 e3 e4 e5 e6 e7 e8
      subst e1 e2 e3 e4 e5
      show Ok (b_X7_swapArms_26 t (nI i) (nI one) (nI z) (nI en) (nI k) (nI (z + k)) τ) _
      have et : τ.1 t 4 = nI l.length := by rw [e7 t (by omega)]; exact h.1
      unfold b_X7_swapArms_26
      rw [if_neg (by rw [n_le (by omega) (by omega)]; omega), has_yes et hl (by omega), if_neg (by decide)]
      simp only [gd_ix (show z + k < 31 by omega) (by omega), gd_ix (show k < 31 by omega) (by omega), n_cl (show z + k < 2147483648 by omega), n_cl (show k < 2147483648 by omega), lt_eq, n_suc]
      refine Ok.some ⟨rfl, rfl, rfl, rfl, rfl, fun j hj => ?_, fun o ho => ?_, e8⟩
      · show (sI τ (t + 4) k (τ.1 (t + 1) (z + k))).1 (t + 4) j = _
        rw [sI_get, e7 (t + 1) (by omega), (h.2 (z + k) (by omega)).1]
        by_cases q : j = k
        · rw [if_pos ⟨rfl, q⟩, q]
        · rw [if_neg (fun w => q w.2)]; exact e6 j (by omega)
      · show (sI τ (t + 4) k (τ.1 (t + 1) (z + k))).1 o = _
        rw [sI_o ho]; exact e7 o ho
    · rintro ⟨v2, v3, v4, v5, v6, τ⟩ ⟨e1, e2, e3, e4, e5, e6, e7, e8⟩
      simp only at e1 e2 e3 e4 e5 e6 e7 e8
      subst e1 e2 e3 e4 e5
      show Ok (b_X7_swapArms_26 t (nI i) (nI one) (nI z) (nI en) (nI (en - z)) (nI (z + (en - z))) τ) _
      unfold b_X7_swapArms_26
      rw [if_pos (by rw [n_le (by omega) (by omega)]; omega)]
      exact Ok.some ⟨rfl, rfl, rfl, e6, e7, e8⟩
  · rintro ⟨v2, v3, v5, τ⟩ ⟨e1, e2, e3, e4, e5, e6⟩
    simp only at e1 e2 e3 e4 e5 e6
    subst e1 e2 e3
    show Ok (j_X7_swapArms_65 t (nI i) (nI one) (nI z) (nI (en - z)) τ) _
    unfold j_X7_swapArms_65
    refine Ok.bind (P := fun r => r.1 = nI one ∧ r.2.1 = nI (en - one) ∧ (∀ j, j < en - one → r.2.2.1 (t + 4) j = nI (bfN l one z en j)) ∧ (∀ o, o ≠ t + 4 → r.2.2.1 o = σ.1 o) ∧ r.2.2.2 = σ.2) ?_ ?_
    · refine Ok.for (z - one) (fun k s => s.1 = nI one ∧ s.2.1 = nI z ∧ s.2.2.1 = nI (en - z + k) ∧ s.2.2.2.1 = nI (one + k) ∧ (∀ j, j < en - z + k → s.2.2.2.2.1 (t + 4) j = nI (bfN l one z en j)) ∧ (∀ o, o ≠ t + 4 → s.2.2.2.2.1 o = σ.1 o) ∧ s.2.2.2.2.2 = σ.2) ?_ ?_ 0 (by omega) _ ⟨rfl, rfl, rfl, rfl, fun j hj => ?_, e5, e6⟩
      · rintro k ⟨v2, v3, v5, v6, υ⟩ hk ⟨f1, f2, f3, f4, f5, f6, f7⟩
        simp only at f1 f2 f3 f4 f5 f6 f7
        subst f1 f2 f3 f4
        show Ok (b_X7_swapArms_68 t (nI i) (nI one) (nI z) (nI (en - z + k)) (nI (one + k)) υ) _
        have et : υ.1 t 4 = nI l.length := by rw [f6 t (by omega)]; exact h.1
        unfold b_X7_swapArms_68
        rw [if_neg (by rw [n_le (by omega) (by omega)]; omega), has_yes et hl (by omega), if_neg (by decide)]
        simp only [gd_ix (show one + k < 31 by omega) (by omega), gd_ix (show en - z + k < 31 by omega) (by omega), n_cl (show one + k < 2147483648 by omega), n_cl (show en - z + k < 2147483648 by omega), lt_eq, n_suc]
        refine Ok.some ⟨rfl, rfl, rfl, rfl, fun j hj => ?_, fun o ho => ?_, f7⟩
        · show (sI υ (t + 4) (en - z + k) (υ.1 (t + 1) (one + k))).1 (t + 4) j = _
          rw [sI_get, f6 (t + 1) (by omega), (h.2 (one + k) (by omega)).1]
          by_cases q : j = en - z + k
          · rw [if_pos ⟨rfl, q⟩, q]
            unfold bfN
            rw [if_neg (by omega), show en - z + k - (en - z) = k by omega]
          · rw [if_neg (fun w => q w.2)]; exact f5 j (by omega)
        · show (sI υ (t + 4) (en - z + k) (υ.1 (t + 1) (one + k))).1 o = _
          rw [sI_o ho]; exact f6 o ho
      · rintro ⟨v2, v3, v5, v6, υ⟩ ⟨f1, f2, f3, f4, f5, f6, f7⟩
        simp only at f1 f2 f3 f4 f5 f6 f7
        subst f1 f2 f3 f4
        show Ok (b_X7_swapArms_68 t (nI i) (nI one) (nI z) (nI (en - z + (z - one))) (nI (one + (z - one))) υ) _
        unfold b_X7_swapArms_68
        rw [if_pos (by rw [n_le (by omega) (by omega)]; omega)]
        refine Ok.some ⟨rfl, ?_, fun j hj => f5 j (by omega), f6, f7⟩
        show nI (en - z + (z - one)) = _
        rw [show en - z + (z - one) = en - one by omega]
      · show τ.1 (t + 4) j = _
        rw [e4 j (by omega)]
        unfold bfN
        rw [if_pos (by omega)]
    · rintro ⟨v2, v5, υ⟩ ⟨f1, f2, f3, f4, f5⟩
      simp only at f1 f2 f3 f4 f5
      subst f1 f2
      show Ok (j_X7_swapArms_106 t (nI i) (nI one) (nI (en - one)) υ) _
      unfold j_X7_swapArms_106
      refine Ok.bind (P := fun r => (∀ j, j < l.length → r.1 (t + 1) j = nI (sgn (exL l one z en) j)) ∧ (∀ o, o ≠ t + 4 → o ≠ t + 1 → r.1 o = σ.1 o) ∧ r.2 = σ.2) ?_ ?_
      · refine Ok.for (en - one) (fun k s => s.1 = nI one ∧ s.2.1 = nI (en - one) ∧ s.2.2.1 = nI k ∧ (∀ j, j < l.length → s.2.2.2.1 (t + 1) j = if one ≤ j ∧ j < one + k then nI (bfN l one z en (j - one)) else nI (sgn l j)) ∧ (∀ o, o ≠ t + 1 → s.2.2.2.1 o = υ.1 o) ∧ s.2.2.2.2 = σ.2) ?_ ?_ 0 (by omega) _ ⟨rfl, rfl, rfl, fun j hj => ?_, fun o _ => rfl, f5⟩
        · rintro k ⟨v2, v5, v6, ω⟩ hk ⟨g1, g2, g3, g4, g5, g6⟩
          simp only at g1 g2 g3 g4 g5 g6
          subst g1 g2 g3
          show Ok (b_X7_swapArms_109 t (nI i) (nI one) (nI (en - one)) (nI k) ω) _
          have et : ω.1 t 4 = nI l.length := by rw [g5 t (by omega), f4 t (by omega)]; exact h.1
          unfold b_X7_swapArms_109
          rw [if_neg (by rw [n_le (by omega) (by omega)]; omega), n_add, has_yes et hl (by omega), if_neg (by decide)]
          simp only [gd_ix (show one + k < 31 by omega) (by omega), gd_ix (show k < 31 by omega) (by omega), n_cl (show one + k < 2147483648 by omega), n_cl (show k < 2147483648 by omega), lt_eq, n_suc]
          refine Ok.some ⟨rfl, rfl, rfl, fun j hj => ?_, fun o ho => ?_, g6⟩
          · show (sI ω (t + 1) (one + k) (ω.1 (t + 4) k)).1 (t + 1) j = _
            rw [sI_get, g5 (t + 4) (by omega), f3 k (by omega)]
            by_cases q : j = one + k
            · rw [if_pos ⟨rfl, q⟩, if_pos (by omega), q, show one + k - one = k by omega]
            · rw [if_neg (fun w => q w.2), g4 j hj]
              by_cases q2 : one ≤ j ∧ j < one + k
              · rw [if_pos q2, if_pos (by omega)]
              · rw [if_neg q2, if_neg (by omega)]
          · show (sI ω (t + 1) (one + k) (ω.1 (t + 4) k)).1 o = _
            rw [sI_o ho]; exact g5 o ho
        · rintro ⟨v2, v5, v6, ω⟩ ⟨g1, g2, g3, g4, g5, g6⟩
          simp only at g1 g2 g3 g4 g5 g6
          subst g1 g2 g3
          show Ok (b_X7_swapArms_109 t (nI i) (nI one) (nI (en - one)) (nI (en - one)) ω) _
          unfold b_X7_swapArms_109
          rw [if_pos (by rw [n_le (by omega) (by omega)]; omega)]
          refine Ok.some ⟨fun j hj => ?_, fun o o1 o2 => (g5 o o2).trans (f4 o o1), g6⟩
          rw [g4 j hj, sgn_bf o1 o2 o3]
          by_cases q : j < one
          · rw [if_neg (by omega), if_pos q]
          · rw [if_neg q]
            by_cases q2 : j < en
            · rw [if_pos (by omega), if_pos q2]
            · rw [if_neg (by omega), if_neg q2]
        · show υ.1 (t + 1) j = _
          rw [f4 (t + 1) (by omega), (h.2 j hj).1, if_neg (by omega)]
      · rintro ω ⟨g1, g2, g3⟩
        have len := exL_len (t := l) o1 o2 o3
        unfold j_X7_swapArms_149
        have wf := exL_WfT hw hi ha
        have nd2 := exL_needs nd hi ha
        rw [hone, htwo, hen] at wf nd2
        refine Ok.bind (settle_C (l := exL l one z en) ⟨?_, ?_⟩ wf nd2) (fun r hr => Ok.some ⟨hr.1, fun o ho => (hr.2.1 o (by omega) (by omega)).trans (g2 o (by omega) (by omega)), hr.2.2.trans g3⟩)
        · rw [g2 t (by omega) (by omega), len]; exact h.1
        · rw [len]; exact g1
