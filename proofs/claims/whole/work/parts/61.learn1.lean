/-! the class's records of least trees -/
def aI : Option Nat → Int32
  | none => -1
  | some i => nI i
def zO (z : Nat → Nat) : Option Nat → Nat
  | none => 0
  | some i => z i
def wO (W : Nat → List Nat) : Option Nat → List Nat
  | none => []
  | some i => W i
def xO (xs : Nat → PX) : Option Nat → PX
  | none => zX
  | some i => xs i
/-- arms of a sign, all final -/
def ShA (n : Nat) (F : Nat → Bool) (s : Nat) (o1 o2 : Option Nat) : Prop := (armsN s = 0 ∧ o1 = none ∧ o2 = none) ∨ (armsN s = 1 ∧ (∃ i, i < n ∧ F i = true ∧ o1 = some i) ∧ o2 = none) ∨ (armsN s = 2 ∧ (∃ i, i < n ∧ F i = true ∧ o1 = some i) ∧ ∃ j, j < n ∧ F j = true ∧ o2 = some j)
def RcI (σ : Mem) (st : Nat → PX → PX → PX) (n : Nat) (xs : Nat → PX) (z : Nat → Nat) (W : Nat → List Nat) (F : Nat → Bool) (p : Nat) : Prop := ∃ s o1 o2, s < 8 ∧ σ.1 13 p = nI (z p) ∧ σ.1 14 p = nI s ∧ σ.1 15 p = aI o1 ∧ σ.1 16 p = aI o2 ∧ σ.1 17 p = (if F p = true then 1 else 0) ∧ ShA n F s o1 o2 ∧ z p = min (1 + zO z o1 + zO z o2) 32 ∧ 1 ≤ z p ∧ xs p = st s (xO xs o1) (xO xs o2) ∧ (z p < 32 → W p = s :: (wO W o1 ++ wO W o2) ∧ (W p).length = z p ∧ TrW st (W p) (xs p))
def LrI (σ : Mem) (rl : List Ru) (on on' n : Nat) (xs : Nat → PX) (z : Nat → Nat) (W : Nat → List Nat) (F : Nat → Bool) : Prop := PCx σ rl on on' n xs ∧ ∀ p, p < n → RcI σ (stX rl on on') n xs z W F p
theorem lx_cancel : ∀ (a : List Nat) {c d : List Nat}, lx (a ++ c) (a ++ d) → lx c d
  | [], _, _, h => h
  | a :: l, c, d, h => by
    have h : a < a ∨ (a = a ∧ lx (l ++ c) (l ++ d)) := h
    rcases h with h | h
    · omega
    · exact lx_cancel l h.2
theorem comesBefore_C {σ : Mem} {rl : List Ru} {on on' n : Nat} {xs : Nat → PX} {z : Nat → Nat} {W : Nat → List Nat} {F : Nat → Bool} (h : LrI σ rl on on' n xs z W F) {a b : Nat} (ha : a < n) (hb : b < n) (za : z a < 32) (zb : z b < 32) (hab : a ≠ b) : (lx (W a) (W b) ∧ f_X4_comesBefore (nI a) (nI b) σ = some 1) ∨ (lx (W b) (W a) ∧ f_X4_comesBefore (nI a) (nI b) σ = some 0) := by
  have n120 : n ≤ 120 := h.1.2.2.1
  have dis : ∀ i j, i < n → j < n → xs i = xs j → i = j := h.1.2.2.2.1.1
  have neW : ∀ i j, i < n → j < n → z i < 32 → z j < 32 → i ≠ j → W i ≠ W j := by
    intro i j hi hj zi zj hij e
    obtain ⟨_, _, _, _, _, _, _, _, _, _, _, _, _, k1⟩ := h.2 i hi
    obtain ⟨_, _, _, _, _, _, _, _, _, _, _, _, _, k2⟩ := h.2 j hj
    have t1 := (k1 zi).2.2
    have t2 := (k2 zj).2.2
    rw [e] at t1
    exact hij (dis i j hi hj (TrW.uni _ rfl t1 t2))
  have tot : ∀ i j, i < n → j < n → z i < 32 → z j < 32 → i ≠ j → lx (W i) (W j) ∨ lx (W j) (W i) := by
    intro i j hi hj zi zj hij
    obtain ⟨_, _, _, _, _, _, _, _, _, _, _, _, _, k1⟩ := h.2 i hi
    obtain ⟨_, _, _, _, _, _, _, _, _, _, _, _, _, k2⟩ := h.2 j hj
    rcases tr_total (k1 zi).2.2 (k2 zj).2.2 with e | e | e
    · exact absurd e (neW i j hi hj zi zj hij)
    · exact Or.inl e
    · exact Or.inr e
  have loop : Ok (Lim (T := ((Int32 × Int32) ⊕ Unit)) (fun s => b_X4_comesBefore_8 (nI a) (nI b) s.1 s.2.1 s.2.2 σ) (nI a, nI b, (0 : Int32))) (fun r => ∃ a' b' s t, r = .inl (nI a', nI b') ∧ a' < n ∧ b' < n ∧ σ.1 14 a' = nI s ∧ σ.1 14 b' = nI t ∧ s < 8 ∧ t < 8 ∧ s ≠ t ∧ (lx (W a) (W b) ↔ s < t)) := by
    refine Ok.wf (fun m s => ∃ a' b' k, s = (nI a', nI b', nI k) ∧ a' < n ∧ b' < n ∧ z a' = m ∧ m + k ≤ 31 ∧ z b' < 32 ∧ a' ≠ b' ∧ (lx (W a) (W b) ↔ lx (W a') (W b'))) ?_ (z a) _ ⟨a, b, 0, rfl, ha, hb, rfl, by omega, zb, hab, Iff.rfl⟩
    rintro m _ ⟨a', b', k, rfl, k1, k2, k3, k4, k5, k6, k7⟩
    show Ok (b_X4_comesBefore_8 (nI a) (nI b) (nI a') (nI b') (nI k) σ) _
    obtain ⟨s, o1, o2, s8, r13, r14, r15, r16, r17, sh, zz, z1', xx, wr⟩ := h.2 a' k1
    obtain ⟨t, q1, q2, t8, u13, u14, u15, u16, u17, ush, uzz, uz1, uxx, uwr⟩ := h.2 b' k2
    obtain ⟨w1, w2, w3⟩ := wr (by omega)
    obtain ⟨v1, v2, v3⟩ := uwr k5
    unfold b_X4_comesBefore_8
    rw [if_neg (by rw [show (31 : Int32) = nI 31 from rfl, n_le (by omega) (by omega)]; omega), if_neg (not_n0 (by omega)), if_neg (not_n0 (by omega)), if_neg (by rw [n_eq (by omega) (by omega)]; exact k6), gd_ix (by omega) (by omega), gd_ix (by omega) (by omega)]
    simp only [n_cl (show a' < 2147483648 by omega), n_cl (show b' < 2147483648 by omega), r14, u14, r15, u15, n_eq (show s < 2147483648 by omega) (show t < 2147483648 by omega), gd_ix (show a' < 120 by omega) (by omega), gd_ix (show b' < 120 by omega) (by omega)]
    by_cases c : s = t
    · rw [if_pos c]
      subst c
      -- into the arms
      have go : ∀ i j, i < n → j < n → z i < z a' → z j < 32 → i ≠ j → (lx (W a') (W b') ↔ lx (W i) (W j)) → Ok (lt (nI k + 1) (fun x1 => some (Sum.inl (nI i, nI j, x1))) : Option ((Int32 × Int32 × Int32) ⊕ ((Int32 × Int32) ⊕ Unit))) (SumP (fun s => ∃ m', m' < m ∧ ∃ a' b' k, s = (nI a', nI b', nI k) ∧ a' < n ∧ b' < n ∧ z a' = m' ∧ m' + k ≤ 31 ∧ z b' < 32 ∧ a' ≠ b' ∧ (lx (W a) (W b) ↔ lx (W a') (W b'))) (fun r => ∃ a' b' s t, r = .inl (nI a', nI b') ∧ a' < n ∧ b' < n ∧ σ.1 14 a' = nI s ∧ σ.1 14 b' = nI t ∧ s < 8 ∧ t < 8 ∧ s ≠ t ∧ (lx (W a) (W b) ↔ s < t))) := fun i j hi hj hz hz2 hij e => Ok.lt (Ok.some ⟨z i, by omega, i, j, k + 1, by rw [n_suc], hi, hj, rfl, by omega, hz2, hij, k7.trans e⟩)
      have iffc : ∀ {c d : List Nat}, lx (s :: c) (s :: d) ↔ lx c d := fun {c d} => ⟨fun q => by
        rcases q with q | q
        · omega
        · exact q.2, fun q => Or.inr ⟨rfl, q⟩⟩
      rcases sh with ⟨a0, rfl, rfl⟩ | ⟨a0, ⟨i, i1, i2, rfl⟩, rfl⟩ | ⟨a0, ⟨i, i1, i2, rfl⟩, ⟨j, j1, j2, rfl⟩⟩
      · rcases ush with ⟨b0, rfl, rfl⟩ | ⟨b0, _⟩ | ⟨b0, _⟩
        · exact absurd (by rw [w1, v1]) (neW a' b' k1 k2 (by omega) k5 k6)
        · omega
        · omega
      · rcases ush with ⟨b0, _⟩ | ⟨b0, ⟨i', i1', i2', rfl⟩, rfl⟩ | ⟨b0, _⟩
        · omega
        · have hii : i ≠ i' := fun e => neW a' b' k1 k2 (by omega) k5 k6 (by rw [w1, v1, e])
          have zi : z a' = min (1 + z i + 0) 32 := zz
          have zi' : z b' = min (1 + z i' + 0) 32 := uzz
          rw [if_neg (show ¬ aI (some i) = aI (some i') by show ¬ nI i = nI i'; rw [n_eq (by omega) (by omega)]; exact hii)]
          unfold j_X4_comesBefore_89
          rw [if_pos rfl, gd_ix (by omega) (by omega), n_cl (by omega), r15]
          unfold j_X4_comesBefore_111
          rw [if_pos rfl, gd_ix (by omega) (by omega), n_cl (by omega), u15]
          unfold j_X4_comesBefore_134
          refine go i i' i1 i1' (by omega) (by omega) hii ?_
          rw [w1, v1, iffc]
          show lx (W i ++ []) (W i' ++ []) ↔ _
          rw [List.append_nil, List.append_nil]
        · omega
      · rcases ush with ⟨b0, _⟩ | ⟨b0, _⟩ | ⟨b0, ⟨i', i1', i2', rfl⟩, ⟨j', j1', j2', rfl⟩⟩
        · omega
        · omega
        · have zi : z a' = min (1 + z i + z j) 32 := zz
          have zi' : z b' = min (1 + z i' + z j') 32 := uzz
          by_cases hii : i = i'
          · subst hii
            have hjj : j ≠ j' := fun e => neW a' b' k1 k2 (by omega) k5 k6 (by rw [w1, v1, e])
            rw [if_pos rfl]
            unfold j_X4_comesBefore_89
            rw [if_neg (by decide), gd_ix (by omega) (by omega), n_cl (by omega), r16]
            unfold j_X4_comesBefore_111
            rw [if_neg (by decide), gd_ix (by omega) (by omega), n_cl (by omega), u16]
            unfold j_X4_comesBefore_134
            refine go j j' j1 j1' (by omega) (by omega) hjj ?_
            rw [w1, v1, iffc]
            exact ⟨lx_cancel _, lx_pre _⟩
          · rw [if_neg (show ¬ aI (some i) = aI (some i') by show ¬ nI i = nI i'; rw [n_eq (by omega) (by omega)]; exact hii)]
            unfold j_X4_comesBefore_89
            rw [if_pos rfl, gd_ix (by omega) (by omega), n_cl (by omega), r15]
            unfold j_X4_comesBefore_111
            rw [if_pos rfl, gd_ix (by omega) (by omega), n_cl (by omega), u15]
            unfold j_X4_comesBefore_134
            refine go i i' i1 i1' (by omega) (by omega) hii ?_
            rw [w1, v1, iffc]
            constructor
            · intro q
              rcases tot i i' i1 i1' (by omega) (by omega) hii with e | e
              · exact e
              · exact absurd (lx_app (W j') (W j) e) (fun e2 => lx_asym q e2)
            · intro q
              exact lx_app _ _ q
    · rw [if_neg c]
      refine Ok.some ⟨a', b', s, t, rfl, k1, k2, r14, u14, s8, t8, c, k7.trans ?_⟩
      rw [w1, v1]
      constructor
      · intro q
        rcases q with q | q
        · exact q
        · exact absurd q.1 c
      · intro q; exact Or.inl q
  obtain ⟨r, l1, a', b', s, t, rfl, k1, k2, k3, k4, k5, k6, k7, k8⟩ := loop
  unfold f_X4_comesBefore
  rw [l1, Option.bind_some]
  simp only [gd_ix (show a' < 120 by omega) (by omega), gd_ix (show b' < 120 by omega) (by omega), n_cl (show a' < 2147483648 by omega), n_cl (show b' < 2147483648 by omega), k3, k4, n_le (show t < 2147483648 by omega) (show s < 2147483648 by omega)]
  by_cases c : s < t
  · rw [if_neg (by omega)]
    exact Or.inl ⟨k8.mpr c, rfl⟩
  · rw [if_pos (by omega)]
    refine Or.inr ⟨?_, rfl⟩
    rcases tot a b ha hb za zb hab with e | e
    · exact absurd (k8.mp e) c
    · exact e
theorem comesBefore_same {σ : Mem} {a : Int32} : f_X4_comesBefore a a σ = some 0 := by
  have e : Lim (T := ((Int32 × Int32) ⊕ Unit)) (fun s => b_X4_comesBefore_8 a a s.1 s.2.1 s.2.2 σ) (a, a, (0 : Int32)) = some (.inr ()) := by
    refine Lim_out ?_
    show b_X4_comesBefore_8 a a a a 0 σ = _
    unfold b_X4_comesBefore_8
    rw [if_neg (by decide)]
    by_cases c : a < 0
    · rw [if_pos c]
    · rw [if_neg c, if_neg c, if_pos rfl]
  unfold f_X4_comesBefore
  rw [e, Option.bind_some]
