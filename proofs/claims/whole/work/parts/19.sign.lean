/-! sign -/
theorem isSign_R (a : Int32) : (∃ q, q < 8 ∧ a = nI q ∧ f_X9_in a 0 7 = 1) ∨ ((∀ q, q < 8 → a ≠ nI q) ∧ f_X9_in a 0 7 = 0) := by
  rcases in_cs a 0 7 (by omega) (by omega) with ⟨j, -, h2, h3, h4⟩ | ⟨h1, h2⟩
  · exact Or.inl ⟨j, by omega, h3, h4⟩
  · exact Or.inr ⟨fun b hb => h1 b (by omega) (by omega), h2⟩
theorem sgn_lt {l : List Nat} (h : WfT l) {j : Nat} (hj : j < l.length) : sgn l j < 8 := by
  unfold sgn
  rw [List.getD_eq_getElem?_getD, List.getElem?_eq_getElem hj]
  exact h.1 _ (List.getElem_mem hj)
theorem RepR.sign {A : AS} {σ : Mem} {i s : Nat} (h : RepR A σ) (hA : WfA A) (hi : i < (trA A).length) : RepR (setTr A ((trA A).set i s)) (sI σ 7 (3 + i) (nI s)) := by
  have hl : (trA A).length ≤ 31 := hA.2.2.2.2.2.2.1.2.1
  obtain ⟨⟨h1, h2⟩, ⟨h3, h4⟩, ⟨h5, h5b, h5c, h5d⟩, h6, h7⟩ := h
  refine ⟨⟨h1, h2⟩, ⟨h3, h4⟩, ⟨?_, ?_, ?_, fun j hj => ?_⟩, fun k hk => ?_, h7⟩
  · rw [sI_slot (by omega)]; exact h5
  · rw [sI_slot (by omega)]; exact h5b
  · rw [sI_slot (by omega)]
    show σ.1 7 (0 + 2) = nI ((trA A).set i s).length
    rw [List.length_set]; exact h5c
  · have hj : j < ((trA A).set i s).length := hj
    rw [List.length_set] at hj
    show (sI σ 7 (3 + i) (nI s)).1 7 (0 + 3 + j) = nI (sgn ((trA A).set i s) j)
    rw [sgn_set hi]
    by_cases e : j = i
    · subst e
      rw [if_pos rfl, show 0 + 3 + j = 3 + j by omega]
      exact sI_same _ _ _ _
    · rw [if_neg e, sI_slot (by omega)]
      exact h5d j hj
  · have := h6 k hk
    show ImR (sI σ 7 (3 + i) (nI s)) k (imA A k)
    cases hx : imA A k with
    | none => rw [hx] at this; exact this
    | some y =>
      obtain ⟨o, g, t⟩ := y
      rw [hx] at this
      obtain ⟨a1, a2, a3, a4, a5⟩ := this
      refine ⟨a1, ?_, ?_, ?_, fun j hj => ?_⟩
      · rw [sI_slot (by omega)]; exact a2
      · rw [sI_slot (by omega)]; exact a3
      · rw [sI_slot (by omega)]; exact a4
      · rw [sI_slot (by omega)]; exact a5 j hj
theorem TreeC.sign {σ : Mem} {t i s : Nat} {l : List Nat} (h : TreeC σ t l) (hi : i < l.length) (e : armsN s = armsN (sgn l i)) : TreeC (sI σ (t + 1) i (nI s)) t (l.set i s) := by
  refine ⟨by rw [sI_off (by omega), List.length_set]; exact h.1, fun j hj => ?_⟩
  rw [List.length_set] at hj
  obtain ⟨h1, h2, h3, h4⟩ := h.2 j hj
  rw [sgn_set hi, partL_set hi e]
  refine ⟨?_, by rw [sI_off (by omega)]; exact h2, fun q => by rw [sI_off (by omega)]; exact h3 q, fun q => ?_⟩
  · by_cases hji : j = i
    · subst hji; rw [if_pos rfl]; exact sI_same _ _ _ _
    · rw [if_neg hji, sI_slot hji]; exact h1
  · obtain ⟨k, k1, k2, k3⟩ := h4 q
    exact ⟨k, k1, (isArm_set hi e).mpr k2, by rw [sI_off (by omega)]; exact k3⟩
