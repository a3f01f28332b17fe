/-! settle, exchange -/
def SgC (σ : Mem) (t : Nat) (l : List Nat) : Prop := σ.1 t 4 = nI l.length ∧ ∀ j, j < l.length → σ.1 (t + 1) j = nI (sgn l j)
theorem settle_in {σ : Mem} {t i : Nat} {l : List Nat} (hn : σ.1 t 4 = nI l.length) (hl : l.length ≤ 31) (nd : needs 1 l = true) (hi : i < l.length) (hp : ∀ j, i < j → j < l.length → σ.1 (t + 2) j = nI (partL l j)) : Ok (Lim (T := (Int32 × Int32 × Mem)) (fun s => b_X7_settle_31 t s.1 s.2.1 s.2.2.1 s.2.2.2.1 s.2.2.2.2.1 s.2.2.2.2.2) (nI i, nI (armsN (sgn l i)), 1, nI (i + 1), 0, σ)) (fun r => r.1 = nI i ∧ r.2.1 = nI (partL l i) ∧ (∀ j, isArm l i j → r.2.2.1 (t + 3) j = nI i) ∧ (∀ j, ¬ isArm l i j → r.2.2.1 (t + 3) j = σ.1 (t + 3) j) ∧ (∀ o, o ≠ t + 3 → r.2.2.1 o = σ.1 o) ∧ r.2.2.2 = σ.2) := by
  have one : ∀ (a p all : Nat) (τ : Mem), p < l.length → i < p → τ.1 t 4 = nI l.length → τ.1 (t + 2) p = nI (partL l p) → a < armsN (sgn l i) → b_X7_settle_31 t (nI i) (nI (armsN (sgn l i))) (nI all) (nI p) (nI a) τ = some (.inl (nI i, nI (armsN (sgn l i)), nI (all + partL l p), nI (p + partL l p), nI (a + 1), sI τ (t + 3) p (nI i))) := by
    intro a p all τ h1 h2 h3 h4 h5
    have := armsN_le (sgn l i)
    unfold b_X7_settle_31
    rw [if_neg (by rw [n_le (by omega) (by omega)]; omega), has_yes h3 hl h1, if_neg (by decide)]
    simp only [gd_ix (show p < 31 by omega) (by omega), n_cl (show p < 2147483648 by omega), lt_eq, sI_off (show t + 2 ≠ t + 3 by omega), h4, n_add, n_suc]
  have out : ∀ (all p : Int32) (τ : Mem), b_X7_settle_31 t (nI i) (nI (armsN (sgn l i))) all p (nI (armsN (sgn l i))) τ = some (.inr (nI i, all, τ)) := by
    intro all p τ
    unfold b_X7_settle_31
    rw [if_pos (by rw [n_le (by have := armsN_le (sgn l i); omega) (by have := armsN_le (sgn l i); omega)]; omega)]
  rcases arms_cases (sgn l i) with a0 | a0 | a0
  · refine ⟨_, Lim_out (r := (nI i, 1, σ)) ?_, rfl, ?_, fun j hj => ?_, fun j _ => rfl, fun o _ => rfl, rfl⟩
    · have := out 1 (nI (i + 1)) σ
      rw [a0] at this ⊢
      exact this
    · rw [part_0 hi a0]; rfl
    · rcases hj with ⟨q, _⟩ | ⟨q, _⟩ <;> omega
  · obtain ⟨p1, p2⟩ := part_1 nd hi a0
    have s1 := one 0 (i + 1) 1 σ p2 (by omega) hn (hp _ (by omega) p2) (by omega)
    have s2 := out (nI (1 + partL l (i + 1))) (nI (i + 1 + partL l (i + 1))) (sI σ (t + 3) (i + 1) (nI i))
    rw [a0] at s1 s2
    refine ⟨(nI i, nI (1 + partL l (i + 1)), sI σ (t + 3) (i + 1) (nI i)), ?_, rfl, ?_, fun j hj => ?_, fun j hj => ?_, fun o ho => sI_o ho, rfl⟩
    · rw [a0, Lim_step (s' := (nI i, nI 1, nI (1 + partL l (i + 1)), nI (i + 1 + partL l (i + 1)), nI (0 + 1), sI σ (t + 3) (i + 1) (nI i))) s1]
      exact Lim_out s2
    · rw [p1]
    · show (sI σ (t + 3) (i + 1) (nI i)).1 (t + 3) j = nI i
      rcases hj with ⟨q, rfl⟩ | ⟨q, _⟩
      · exact sI_same _ _ _ _
      · omega
    · exact sI_slot (fun e => hj (Or.inl ⟨by omega, e⟩))
  · obtain ⟨p1, p2⟩ := part_2 nd hi a0
    have q1 := part_pos (l := l) (i := i + 1) (by omega)
    have s1 := one 0 (i + 1) 1 σ (by omega) (by omega) hn (hp _ (by omega) (by omega)) (by omega)
    have s2 := one 1 (i + 1 + partL l (i + 1)) (1 + partL l (i + 1)) (sI σ (t + 3) (i + 1) (nI i)) p2 (by omega) (by rw [sI_off (by omega)]; exact hn) (by rw [sI_off (by omega)]; exact hp _ (by omega) p2) (by omega)
    have s3 := out (nI (1 + partL l (i + 1) + partL l (i + 1 + partL l (i + 1)))) (nI (i + 1 + partL l (i + 1) + partL l (i + 1 + partL l (i + 1)))) (sI (sI σ (t + 3) (i + 1) (nI i)) (t + 3) (i + 1 + partL l (i + 1)) (nI i))
    rw [a0] at s1 s2 s3
    refine ⟨(nI i, nI (1 + partL l (i + 1) + partL l (i + 1 + partL l (i + 1))), sI (sI σ (t + 3) (i + 1) (nI i)) (t + 3) (i + 1 + partL l (i + 1)) (nI i)), ?_, rfl, ?_, fun j hj => ?_, fun j hj => ?_, fun o ho => ?_, rfl⟩
    · rw [a0, Lim_step (s' := (nI i, nI 2, nI (1 + partL l (i + 1)), nI (i + 1 + partL l (i + 1)), nI (0 + 1), sI σ (t + 3) (i + 1) (nI i))) s1, Lim_step (s' := (nI i, nI 2, nI (1 + partL l (i + 1) + partL l (i + 1 + partL l (i + 1))), nI (i + 1 + partL l (i + 1) + partL l (i + 1 + partL l (i + 1))), nI (1 + 1), sI (sI σ (t + 3) (i + 1) (nI i)) (t + 3) (i + 1 + partL l (i + 1)) (nI i))) s2]
      exact Lim_out s3
    · rw [p1]
    · show (sI (sI σ (t + 3) (i + 1) (nI i)) (t + 3) (i + 1 + partL l (i + 1)) (nI i)).1 (t + 3) j = nI i
      rcases hj with ⟨q, rfl⟩ | ⟨q, rfl⟩
      · rw [sI_slot (by omega)]; exact sI_same _ _ _ _
      · exact sI_same _ _ _ _
    · show (sI (sI σ (t + 3) (i + 1) (nI i)) (t + 3) (i + 1 + partL l (i + 1)) (nI i)).1 (t + 3) j = _
      rw [sI_slot (fun e => hj (Or.inr ⟨by omega, e⟩)), sI_slot (fun e => hj (Or.inl ⟨by omega, e⟩))]
    · show (sI (sI σ (t + 3) (i + 1) (nI i)) (t + 3) (i + 1 + partL l (i + 1)) (nI i)).1 o = _
      rw [sI_o ho, sI_o ho]
theorem settle_C {σ : Mem} {t : Nat} {l : List Nat} (h : SgC σ t l) (hw : WfT l) (nd : needs 1 l = true) : Ok (f_X7_settle t σ) (fun σ' => TreeC σ' t l ∧ (∀ o, o ≠ t + 2 → o ≠ t + 3 → σ'.1 o = σ.1 o) ∧ σ'.2 = σ.2) := by
  have hl := hw.2.1
  unfold f_X7_settle
  rw [h.1, n_sub1]
  refine Ok.lt (Ok.bind (P := fun τ => (∀ j, j < l.length → τ.1 (t + 2) j = nI (partL l j)) ∧ (∀ j, 0 < j → j < l.length → ∃ k, k < j ∧ isArm l k j ∧ τ.1 (t + 3) j = nI k) ∧ (∀ o, o ≠ t + 2 → o ≠ t + 3 → τ.1 o = σ.1 o) ∧ τ.2 = σ.2) ?_ ?_)
  · refine Ok.down (fun m s => s.1 = nI m + (-1) ∧ m ≤ l.length ∧ (∀ j, m ≤ j → j < l.length → s.2.1 (t + 2) j = nI (partL l j)) ∧ (∀ j, j < l.length → (∃ k, m ≤ k ∧ k < l.length ∧ isArm l k j) → ∃ k, k < j ∧ isArm l k j ∧ s.2.1 (t + 3) j = nI k) ∧ (∀ o, o ≠ t + 2 → o ≠ t + 3 → s.2.1 o = σ.1 o) ∧ s.2.2 = σ.2) ?_ ?_ l.length _ ⟨rfl, Nat.le_refl _, fun j h1 h2 => by omega, fun j h1 ⟨k, h2, h3, _⟩ => by omega, fun o _ _ => rfl, rfl⟩
    · rintro m ⟨v, τ⟩ ⟨e1, e2, e3, e4, e5, e6⟩
      have e1 : v = nI (m + 1) + (-1) := e1
      rw [m1_S] at e1
      subst e1
      have hm : m < l.length := by omega
      have h8 := sgn_lt hw hm
      show Ok (b_X7_settle_7 t (nI m) τ) _
      have et : τ.1 t 4 = nI l.length := by rw [e5 t (by omega) (by omega)]; exact h.1
      have es : τ.1 (t + 1) m = nI (sgn l m) := by rw [e5 (t + 1) (by omega) (by omega)]; exact h.2 m hm
      unfold b_X7_settle_7
      rw [if_neg (not_n0 (by omega)), gd_ix (by omega) (by omega), n_cl (by omega), es, arms_C (by omega), n_suc]
      refine Ok.lt (Ok.lt (Ok.bind (settle_in et hl nd hm (fun j h1 h2 => e3 j h1 h2)) ?_))
      rintro ⟨r1, r2, r3⟩ ⟨w1, w2, w3, w4, w5, w6⟩
      have w1 : r1 = nI m := w1
      have w2 : r2 = nI (partL l m) := w2
      subst w1 w2
      show Ok (j_X7_settle_82 t (nI m) (nI (partL l m)) r3) _
      unfold j_X7_settle_82
      rw [gd_ix (by omega) (by omega), n_cl (by omega)]
      refine Ok.lt (Ok.lt (Ok.some ⟨rfl, by omega, fun j h1 h2 => ?_, fun j h1 h2 => ?_, fun o o1 o2 => ?_, ?_⟩))
      · show (sI r3 (t + 2) m (nI (partL l m))).1 (t + 2) j = _
        rw [sI_get]
        by_cases q : j = m
        · rw [if_pos ⟨rfl, q⟩, q]
        · rw [if_neg (fun w => q w.2), w5 (t + 2) (by omega)]; exact e3 j (by omega) h2
      · show ∃ k, k < j ∧ isArm l k j ∧ (sI r3 (t + 2) m (nI (partL l m))).1 (t + 3) j = nI k
        rw [sI_off (by omega)]
        by_cases q : isArm l m j
        · exact ⟨m, (arm_in nd hm q).1, q, w3 j q⟩
        · have w4j : r3.1 (t + 3) j = τ.1 (t + 3) j := w4 j q
          rw [w4j]
          obtain ⟨k, k1, k2, k3⟩ := h2
          refine e4 j h1 ⟨k, ?_, k2, k3⟩
          by_cases w : k = m
          · rw [w] at k3; exact absurd k3 q
          · omega
      · show (sI r3 (t + 2) m (nI (partL l m))).1 o = _
        rw [sI_o o1, w5 o o2]; exact e5 o o1 o2
      · exact w6.trans e6
    · rintro ⟨v, τ⟩ ⟨e1, e2, e3, e4, e5, e6⟩
      have e1 : v = nI 0 + (-1) := e1
      subst e1
      show Ok (b_X7_settle_7 t (nI 0 + (-1)) τ) _
      unfold b_X7_settle_7
      rw [if_pos m1_lt0]
      refine Ok.some ⟨fun j hj => e3 j (by omega) hj, fun j h0 hj => ?_, e5, e6⟩
      obtain ⟨k, k1, k2⟩ := arm_some nd h0 hj
      exact e4 j hj ⟨k, by omega, by omega, k2⟩
  · rintro τ ⟨e1, e2, e3, e4⟩
    rw [show (0 : Int32).toNatClampNeg = 0 from rfl]
    refine Ok.lt (Ok.some ⟨⟨?_, fun j hj => ⟨?_, ?_, fun q => ?_, fun q => ?_⟩⟩, fun o o1 o2 => ?_, e4⟩)
    · rw [sI_off (by omega), e3 t (by omega) (by omega)]; exact h.1
    · rw [sI_off (by omega), e3 (t + 1) (by omega) (by omega)]; exact h.2 j hj
    · rw [sI_off (by omega)]; exact e1 j hj
    · rw [q]; exact sI_same _ _ _ _
    · rw [sI_slot (by omega)]; exact e2 j q hj
    · rw [sI_o o2]; exact e3 o o1 o2
