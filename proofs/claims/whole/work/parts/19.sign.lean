/-! sign -/
theorem isSign_R (a : Int32) : (∃ q, q < 8 ∧ a = nI q ∧ f_X9_in a 0 7 = 1) ∨ ((∀ q, q < 8 → a ≠ nI q) ∧ f_X9_in a 0 7 = 0) := by
  rcases in_cs a 0 7 (by omega) (by omega) with ⟨j, -, h2, h3, h4⟩ | ⟨h1, h2⟩
  · exact Or.inl ⟨j, by omega, h3, h4⟩
  · exact Or.inr ⟨fun b hb => h1 b (by omega) (by omega), h2⟩
theorem sgn_lt {l : List Nat} (h : WfT l) {j : Nat} (hj : j < l.length) : sgn l j < 8 := by
  unfold sgn
  rw [List.getD_eq_getElem?_getD, List.getElem?_eq_getElem hj]
  exact h.1 _ (List.getElem_mem hj)
theorem RepR.sign {A : AS} {σ : Mem} {i s : Nat} (h : RepR A σ) (hA : WfA A) (hi : i < (trA A).length) : RepR (setTr A ((trA A).set i s)) (sI σ 7 (3 + i) (nI s)) := by
  have hl : (trA A).length ≤ 31 := hA.2.2.2.2.2.2.1.2.1
  obtain ⟨⟨h1, h2⟩, ⟨h3, h4⟩, ⟨h5, h5b, h5c, h5d⟩, h6, h7⟩ := h
  refine ⟨⟨h1, h2⟩, ⟨h3, h4⟩, ⟨?_, ?_, ?_, fun j hj => ?_⟩, fun k hk => ?_, h7⟩
  · rw [sI_slot (by omega)]; exact h5
  · rw [sI_slot (by omega)]; exact h5b
  · rw [sI_slot (by omega)]
    show σ.1 7 (0 + 2) = nI ((trA A).set i s).length
    rw [List.length_set]; exact h5c
  · have hj : j < ((trA A).set i s).length := hj
    rw [List.length_set] at hj
    show (sI σ 7 (3 + i) (nI s)).1 7 (0 + 3 + j) = nI (sgn ((trA A).set i s) j)
    rw [sgn_set hi]
    by_cases e : j = i
    · subst e
      rw [if_pos rfl, show 0 + 3 + j = 3 + j by omega]
      exact sI_same _ _ _ _
    · rw [if_neg e, sI_slot (by omega)]
      exact h5d j hj
  · have := h6 k hk
    show ImR (sI σ 7 (3 + i) (nI s)) k (imA A k)
    cases hx : imA A k with
    | none => rw [hx] at this; exact this
    | some y =>
      obtain ⟨o, g, t⟩ := y
      rw [hx] at this
      obtain ⟨a1, a2, a3, a4, a5⟩ := this
      refine ⟨a1, ?_, ?_, ?_, fun j hj => ?_⟩
      · rw [sI_slot (by omega)]; exact a2
      · rw [sI_slot (by omega)]; exact a3
      · rw [sI_slot (by omega)]; exact a4
      · rw [sI_slot (by omega)]; exact a5 j hj
theorem TreeC.sign {σ : Mem} {t i s : Nat} {l : List Nat} (h : TreeC σ t l) (hi : i < l.length) (e : armsN s = armsN (sgn l i)) : TreeC (sI σ (t + 1) i (nI s)) t (l.set i s) := by
  refine ⟨by rw [sI_off (by omega), List.length_set]; exact h.1, fun j hj => ?_⟩
  rw [List.length_set] at hj
  obtain ⟨h1, h2, h3, h4⟩ := h.2 j hj
  rw [sgn_set hi, partL_set hi e]
  refine ⟨?_, by rw [sI_off (by omega)]; exact h2, fun q => by rw [sI_off (by omega)]; exact h3 q, fun q => ?_⟩
  · by_cases hji : j = i
    · subst hji; rw [if_pos rfl]; exact sI_same _ _ _ _
    · rw [if_neg hji, sI_slot hji]; exact h1
  · obtain ⟨k, k1, k2, k3⟩ := h4 q
    exact ⟨k, k1, (isArm_set hi e).mpr k2, by rw [sI_off (by omega)]; exact k3⟩
theorem RepC.sign {A : AS} {σ : Mem} {i s : Nat} (h : RepC A σ) (hi : i < (trA A).length) (e : armsN s = armsN (sgn (trA A) i)) : RepC (setTr A ((trA A).set i s)) (sI σ (σ.2.2 6 + 1) i (nI s)) ∧ PF σ (sI σ (σ.2.2 6 + 1) i (nI s)) := by
  obtain ⟨⟨h1, h2⟩, h3, h4, ⟨h5, h5'⟩, h6, h7, h8⟩ := h
  obtain ⟨q1, q2⟩ := h3.law
  refine ⟨⟨⟨?_, fun j hj => ?_⟩, h3, h4.cg (fun o k1 k2 => sI_o (by rcases q1 with q | q <;> rcases q2 with q' | q' <;> omega)), ⟨?_, ?_⟩, h6.sign hi e, fun k hk => (h7 k hk).cg (fun o k1 k2 => sI_o (by rcases q2 with q' | q' <;> omega)), h8⟩, PF.sI (by rcases q2 with q' | q' <;> omega)⟩
  · rw [sI_off (by rcases q2 with q' | q' <;> omega)]; exact h1
  · rw [sI_off (by rcases q2 with q' | q' <;> omega)]; exact h2 j hj
  · rw [sI_off (by rcases q2 with q' | q' <;> omega)]; exact h5
  · rw [sI_off (by rcases q2 with q' | q' <;> omega)]; exact h5'
theorem isSign_C (b : Int32) : (∃ q, q < 8 ∧ b = nI q ∧ ¬ b < 0 ∧ ¬ (8 : Int32) ≤ b) ∨ ((∀ q, q < 8 → b ≠ nI q) ∧ (b < 0 ∨ (8 : Int32) ≤ b)) := by
  rcases n_of b with h | ⟨j, hj, rfl⟩
  · refine Or.inr ⟨fun j hj e => ?_, Or.inl h⟩
    rw [e, n_neg (by omega)] at h
    exact h
  · by_cases h8 : j < 8
    · exact Or.inl ⟨j, h8, rfl, by rw [n_neg hj]; exact fun h => h, by rw [show (8 : Int32) = nI 8 from rfl, n_le (by omega) hj]; omega⟩
    · refine Or.inr ⟨fun i hi e => ?_, Or.inr (by rw [show (8 : Int32) = nI 8 from rfl, n_le (by omega) hj]; omega)⟩
      rw [n_eq (by omega) (by omega)] at e
      omega
theorem sign_RC {A : AS} {σ ρ : Mem} (h : RepC A σ) (g : RepR A ρ) (hA : WfA A) (a b : Int32) : Both A σ (f_X8_sign a b σ) (f_X9_sign a b ρ) := by
  have hw : WfT (trA A) := hA.2.2.2.2.2.2.1
  have hl : (trA A).length ≤ 31 := hw.2.1
  have same : ∀ (fc : Option (Int32 × Mem)) (fr : Option (Int32 × Mem)), fc = some (-1, σ) → fr = some (-1, ρ) → Both A σ fc fr := fun fc fr h1 h2 => ⟨-1, A, σ, ρ, h1, h2, h, g, hA, rfl, PF.rf⟩
  rcases hasT_C h.2.2.2.2.1.1 hl a with ⟨j, hj, rfl, h1⟩ | ⟨hn, h1⟩
  · have e1 : f_X9_isNode (nI j) ρ = some 1 := by
      rcases isNode_R g hA (nI j) with ⟨_, _, _, h1⟩ | ⟨hn, h1⟩
      · exact h1
      · exact absurd rfl (hn j hj)
    obtain ⟨m1, m2, m3, m4⟩ := h.2.2.2.2.1.2 j hj
    have r1 := g.2.2.1.2.2.2 j hj
    rw [show 0 + 3 + j = 3 + j by omega] at r1
    have hs8 := sgn_lt hw hj
    rcases isSign_C b with ⟨q, hq, rfl, b1, b2⟩ | ⟨hn, b1⟩
    · have e2 : f_X9_in (nI q) 0 7 = 1 := by
        rcases isSign_R (nI q) with ⟨_, _, _, h1⟩ | ⟨hn, h1⟩
        · exact h1
        · exact absurd rfl (hn q hq)
      have x3 : (3 : Int32) + nI j = nI (3 + j) := by rw [show (3 : Int32) = nI 3 from rfl, n_add]
      by_cases hs : armsN q = armsN (sgn (trA A) j)
      · obtain ⟨k1, k2⟩ := h.sign hj hs
        refine ⟨nI (sgn (trA A) j), setTr A ((trA A).set j q), _, _, ?_, ?_, k1, g.sign hA hj, ?_, rfl, k2⟩
        · unfold f_X8_sign
          rw [h1, if_neg (by decide), if_neg b1, if_neg b2]
          simp only [gd_ix (show j < 31 by omega) (by omega), n_cl (show j < 2147483648 by omega), m1, arms_C (show q < 2147483648 by omega), arms_C (show sgn (trA A) j < 2147483648 by omega), hs, if_true, lt_eq]
        · unfold f_X9_sign
          rw [e1, Option.bind_some, if_neg (by decide), e2, if_neg (by decide)]
          simp only [x3, gd_ix (show 3 + j < 102 by omega) (by omega), n_cl (show 3 + j < 2147483648 by omega), r1, arms_R (show q < 2147483648 by omega), arms_R (show sgn (trA A) j < 2147483648 by omega), hs, if_true, lt_eq]
        · obtain ⟨w1, w2, w3, w4, w5, w6, w7, w8⟩ := hA
          exact ⟨w1, w2, w3, w4, w5, w6, hw.set hj hs hq, w8⟩
      · refine same _ _ ?_ ?_
        · unfold f_X8_sign
          rw [h1, if_neg (by decide), if_neg b1, if_neg b2]
          simp only [gd_ix (show j < 31 by omega) (by omega), n_cl (show j < 2147483648 by omega), m1, arms_C (show q < 2147483648 by omega), arms_C (show sgn (trA A) j < 2147483648 by omega), armsN_inj, hs, if_false]
        · unfold f_X9_sign
          rw [e1, Option.bind_some, if_neg (by decide), e2, if_neg (by decide)]
          simp only [x3, gd_ix (show 3 + j < 102 by omega) (by omega), n_cl (show 3 + j < 2147483648 by omega), r1, arms_R (show q < 2147483648 by omega), arms_R (show sgn (trA A) j < 2147483648 by omega), armsN_inj, hs, if_false]
    · refine same _ _ ?_ ?_
      · unfold f_X8_sign
        rw [h1, if_neg (by decide)]
        by_cases b0 : b < 0
        · rw [if_pos b0]
        · rw [if_neg b0, if_pos (b1.resolve_left b0)]
      · unfold f_X9_sign
        have e2 : f_X9_in b 0 7 = 0 := by
          rcases isSign_R b with ⟨q, h1, h2, _⟩ | ⟨_, h1⟩
          · exact absurd h2 (hn q h1)
          · exact h1
        rw [e1, Option.bind_some, if_neg (by decide), e2, if_pos rfl]
  · refine same _ _ ?_ ?_
    · unfold f_X8_sign
      rw [h1, if_pos rfl]
    · unfold f_X9_sign
      have e1 : f_X9_isNode a ρ = some 0 := by
        rcases isNode_R g hA a with ⟨j, h1, h2, _⟩ | ⟨_, h1⟩
        · exact absurd h2 (hn j h1)
        · exact h1
      rw [e1, Option.bind_some, if_pos rfl]
