/-! the class: is a candidate less than a record -/
theorem isLess_C {σ : Mem} {rl : List Ru} {on on' n : Nat} {xs : Nat → PX} {z : Nat → Nat} {W : Nat → List Nat} {F : Nat → Bool} (h : LrI σ rl on on' n xs z W F) {k s C : Nat} {o1 o2 : Option Nat} (hk : k < n) (hs : s < 8) (hsh : ShA n F s o1 o2) (hC : C = min (1 + zO z o1 + zO z o2) 32) : (f_X4_isLess (nI C) (nI s) (aI o1) (aI o2) (nI k) σ = some 1 ∧ (C < z k ∨ (C = z k ∧ C < 32 ∧ lx (s :: (wO W o1 ++ wO W o2)) (W k)))) ∨ (f_X4_isLess (nI C) (nI s) (aI o1) (aI o2) (nI k) σ = some 0 ∧ (z k < C ∨ (z k = C ∧ (C < 32 → lq (W k) (s :: (wO W o1 ++ wO W o2)))))) := by
  have n120 : n ≤ 120 := h.1.2.2.1
  obtain ⟨t, q1, q2, t8, u13, u14, u15, u16, u17, ush, uzz, uz1, uxx, uwr⟩ := h.2 k hk
  have zk : z k ≤ 32 := by omega
  unfold f_X4_isLess
  rw [gd_ix (by omega) (by omega)]
  simp only [n_cl (show k < 2147483648 by omega), u13, u14, u15, u16, gd_ix (show k < 120 by omega) (by omega), n_eq (show C < 2147483648 by omega) (show z k < 2147483648 by omega), show (32 : Int32) = nI 32 from rfl, n_eq (show C < 2147483648 by omega) (show 32 < 2147483648 by omega), n_eq (show s < 2147483648 by omega) (show t < 2147483648 by omega), n_le (show t < 2147483648 by omega) (show s < 2147483648 by omega)]
  have j17 : (j_X4_isLess_17 (nI C) (nI s) (aI o1) (aI o2) (nI k) σ = some 1 ∧ C < z k) ∨ (j_X4_isLess_17 (nI C) (nI s) (aI o1) (aI o2) (nI k) σ = some 0 ∧ z k ≤ C) := by
    unfold j_X4_isLess_17
    rw [gd_ix (by omega) (by omega)]
    simp only [n_cl (show k < 2147483648 by omega), u13, n_le (show z k < 2147483648 by omega) (show C < 2147483648 by omega)]
    by_cases c : z k ≤ C
    · rw [if_pos c]; exact Or.inr ⟨rfl, c⟩
    · rw [if_neg c]; exact Or.inl ⟨rfl, by omega⟩
  by_cases c1 : C = z k
  · rw [if_pos c1]
    by_cases c2 : C = 32
    · rw [if_pos c2]
      rcases j17 with ⟨e, e2⟩ | ⟨e, e2⟩
      · omega
      · exact Or.inr ⟨e, Or.inr ⟨c1.symm, fun w => by omega⟩⟩
    · rw [if_neg c2]
      obtain ⟨v1, v2, v3⟩ := uwr (by omega)
      rw [v1]
      by_cases c3 : s = t
      · rw [if_pos c3]
        subst c3
        -- both have the same arms; the first difference of the arms decides
        have dec : ∀ i j, i < n → j < n → z i < 32 → z j < 32 → i ≠ j → (∃ b, f_X4_comesBefore (nI i) (nI j) σ = some b ∧ ((b = 1 ∧ lx (W i) (W j)) ∨ (b = 0 ∧ lx (W j) (W i)))) := by
          intro i j hi hj zi zj hij
          rcases comesBefore_C h hi hj zi zj hij with ⟨e1, e2⟩ | ⟨e1, e2⟩
          · exact ⟨1, e2, Or.inl ⟨rfl, e1⟩⟩
          · exact ⟨0, e2, Or.inr ⟨rfl, e1⟩⟩
        have out : ∀ (b : Int32) (X Y : List Nat), ((b = 1 ∧ lx X Y) ∨ (b = 0 ∧ lq Y X)) → ((some b).bind (fun r1 => gd (r1 &&& 1 = r1) (some r1)) = some 1 ∧ (C < z k ∨ (C = z k ∧ C < 32 ∧ lx (s :: X) (s :: Y)))) ∨ ((some b).bind (fun r1 => gd (r1 &&& 1 = r1) (some r1)) = some 0 ∧ (z k < C ∨ (z k = C ∧ (C < 32 → lq (s :: Y) (s :: X))))) := by
          intro b X Y hb
          rcases hb with ⟨rfl, hb⟩ | ⟨rfl, hb⟩
          · refine Or.inl ⟨?_, Or.inr ⟨c1, by omega, Or.inr ⟨rfl, hb⟩⟩⟩
            rw [Option.bind_some, gd_yes (by decide)]
          · refine Or.inr ⟨?_, Or.inr ⟨c1.symm, fun _ => lq_cons hb⟩⟩
            rw [Option.bind_some, gd_yes (by decide)]
        rcases hsh with ⟨a0, rfl, rfl⟩ | ⟨a0, ⟨i, i1, i2, rfl⟩, rfl⟩ | ⟨a0, ⟨i, i1, i2, rfl⟩, ⟨j, j1, j2, rfl⟩⟩
        · rcases ush with ⟨b0, rfl, rfl⟩ | ⟨b0, _⟩ | ⟨b0, _⟩
          · rw [if_pos rfl, comesBefore_same]
            exact out 0 _ _ (Or.inr ⟨rfl, Or.inl rfl⟩)
          · omega
          · omega
        · rcases ush with ⟨b0, _⟩ | ⟨b0, ⟨i', i1', i2', rfl⟩, rfl⟩ | ⟨b0, _⟩
          · omega
          · have zi : C = min (1 + z i + 0) 32 := hC
            have zi' : z k = min (1 + z i' + 0) 32 := uzz
            by_cases hii : i = i'
            · subst hii
              rw [if_pos rfl, comesBefore_same]
              exact out 0 _ _ (Or.inr ⟨rfl, Or.inl rfl⟩)
            · rw [if_neg (show ¬ aI (some i) = aI (some i') by show ¬ nI i = nI i'; rw [n_eq (by omega) (by omega)]; exact hii)]
              obtain ⟨b, e1, e2⟩ := dec i i' i1 i1' (by omega) (by omega) hii
              show ((f_X4_comesBefore (nI i) (nI i') σ).bind _ = some 1 ∧ _) ∨ ((f_X4_comesBefore (nI i) (nI i') σ).bind _ = some 0 ∧ _)
              rw [e1]
              refine out b (W i ++ []) (W i' ++ []) (e2.imp (fun w => ⟨w.1, lx_app _ _ w.2⟩) (fun w => ⟨w.1, Or.inr (lx_app _ _ w.2)⟩))
          · omega
        · rcases ush with ⟨b0, _⟩ | ⟨b0, _⟩ | ⟨b0, ⟨i', i1', i2', rfl⟩, ⟨j', j1', j2', rfl⟩⟩
          · omega
          · omega
          · have zi : C = min (1 + z i + z j) 32 := hC
            have zi' : z k = min (1 + z i' + z j') 32 := uzz
            by_cases hii : i = i'
            · subst hii
              rw [if_pos rfl]
              by_cases hjj : j = j'
              · subst hjj
                rw [comesBefore_same]
                exact out 0 _ _ (Or.inr ⟨rfl, Or.inl rfl⟩)
              · obtain ⟨b, e1, e2⟩ := dec j j' j1 j1' (by omega) (by omega) hjj
                show ((f_X4_comesBefore (nI j) (nI j') σ).bind _ = some 1 ∧ _) ∨ ((f_X4_comesBefore (nI j) (nI j') σ).bind _ = some 0 ∧ _)
                rw [e1]
                exact out b (W i ++ W j) (W i ++ W j') (e2.imp (fun w => ⟨w.1, lx_pre _ w.2⟩) (fun w => ⟨w.1, Or.inr (lx_pre _ w.2)⟩))
            · rw [if_neg (show ¬ aI (some i) = aI (some i') by show ¬ nI i = nI i'; rw [n_eq (by omega) (by omega)]; exact hii)]
              obtain ⟨b, e1, e2⟩ := dec i i' i1 i1' (by omega) (by omega) hii
              show ((f_X4_comesBefore (nI i) (nI i') σ).bind _ = some 1 ∧ _) ∨ ((f_X4_comesBefore (nI i) (nI i') σ).bind _ = some 0 ∧ _)
              rw [e1]
              exact out b (W i ++ W j) (W i' ++ W j') (e2.imp (fun w => ⟨w.1, lx_app _ _ w.2⟩) (fun w => ⟨w.1, Or.inr (lx_app _ _ w.2)⟩))
      · rw [if_neg c3]
        by_cases c4 : t ≤ s
        · rw [if_pos c4]
          exact Or.inr ⟨rfl, Or.inr ⟨c1.symm, fun _ => Or.inr (Or.inl (by omega))⟩⟩
        · rw [if_neg c4]
          exact Or.inl ⟨rfl, Or.inr ⟨c1, by omega, Or.inl (by omega)⟩⟩
  · rw [if_neg c1]
    rcases j17 with ⟨e, e2⟩ | ⟨e, e2⟩
    · exact Or.inl ⟨e, Or.inl e2⟩
    · exact Or.inr ⟨e, Or.inl (by omega)⟩
theorem sizeOver_C {σ : Mem} {rl : List Ru} {on on' n : Nat} {xs : Nat → PX} {z : Nat → Nat} {W : Nat → List Nat} {F : Nat → Bool} (h : LrI σ rl on on' n xs z W F) {o1 o2 : Option Nat} (h1 : ∀ i, o1 = some i → i < n) (h2 : ∀ i, o2 = some i → i < n) : f_X4_sizeOver (aI o1) (aI o2) σ = some (nI (min (1 + zO z o1 + zO z o2) 32)) := by
  have n120 : n ≤ 120 := h.1.2.2.1
  have zr : ∀ i, i < n → σ.1 13 i = nI (z i) ∧ z i ≤ 32 := by
    intro i hi
    obtain ⟨_, _, _, _, k1, _, _, _, _, _, k2, _, _, _⟩ := h.2 i hi
    exact ⟨k1, by omega⟩
  have fin : ∀ a b m, m < 2147483648 → j_X4_sizeOver_28 a b (nI m) σ = some (nI (min m 32)) := by
    intro a b m hm
    unfold j_X4_sizeOver_28 f_J9_min_7cf53
    simp only [show (32 : Int32) = nI 32 from rfl, n_lt (show 32 < 2147483648 by omega) hm]
    by_cases c : 32 < m
    · rw [if_pos c, show min m 32 = 32 by omega]
    · rw [if_neg c, show min m 32 = m by omega]
  have s15 : ∀ a m, m ≤ 33 → j_X4_sizeOver_15 a (aI o2) (nI m) σ = some (nI (min (m + zO z o2) 32)) := by
    intro a m hm
    unfold j_X4_sizeOver_15
    cases o2 with
    | none =>
      rw [if_pos (show aI none < 0 by decide)]
      exact fin _ _ m (by omega)
    | some j =>
      obtain ⟨g1, g2⟩ := zr j (h2 j rfl)
      have hj := h2 j rfl
      show (if nI j < 0 then _ else gd (ix (nI j) 120) (lt (nI m + σ.1 13 (nI j).toNatClampNeg) _)) = _
      rw [if_neg (not_n0 (by omega)), gd_ix (by omega) (by omega), n_cl (by omega), g1, n_add, lt_eq]
      exact fin _ _ (m + z j) (by omega)
  unfold f_X4_sizeOver
  cases o1 with
  | none =>
    rw [if_pos (show aI none < 0 by decide)]
    exact s15 _ 1 (by omega)
  | some i =>
    obtain ⟨g1, g2⟩ := zr i (h1 i rfl)
    have hi := h1 i rfl
    show (if nI i < 0 then _ else gd (ix (nI i) 120) (lt (1 + σ.1 13 (nI i).toNatClampNeg) _)) = _
    rw [if_neg (not_n0 (by omega)), gd_ix (by omega) (by omega), n_cl (by omega), g1, n_1a, lt_eq]
    exact s15 _ (1 + z i) (by omega)
