/-! the reference's list of pairs -/
/-- what its lists are made over: rules, those on, those on there -/
def BaR (ρ : Mem) (rl : List Ru) (on on' : Nat) : Prop := ρ.1 2 0 = nI rl.length ∧ LawM ρ 3 4 5 6 rl ∧ ρ.1 7 0 = nI on ∧ ρ.1 0 28 = nI on'
def PRx (ρ : Mem) (st : Nat → PX → PX → PX) (n : Nat) (xs : Nat → PX) : Prop := ρ.1 0 22 = nI n ∧ n ≤ 120 ∧ (∀ k, k < n → ρ.1 15 k = nI (xs k).1 ∧ ρ.1 16 k = nI (xs k).2 ∧ (xs k).1 < 64 ∧ (xs k).2 < 64) ∧ LsX st n xs
/-- only the list and the flag have changed -/
def FrP (ρ τ : Mem) : Prop := (∀ o, o ≠ 0 → o ≠ 15 → o ≠ 16 → τ.1 o = ρ.1 o) ∧ (∀ j, j ≠ 22 → j ≠ 30 → τ.1 0 j = ρ.1 0 j) ∧ τ.2 = ρ.2
theorem BaR.fr {ρ τ : Mem} {rl : List Ru} {on on' : Nat} (h : BaR ρ rl on on') (e : ∀ o, 2 ≤ o → o ≤ 7 → τ.1 o = ρ.1 o) (e0 : τ.1 0 28 = ρ.1 0 28) : BaR τ rl on on' := by
  obtain ⟨h1, h2, h3, h4⟩ := h
  exact ⟨by rw [e 2 (by omega) (by omega)]; exact h1, h2.cg (e 3 (by omega) (by omega)) (e 4 (by omega) (by omega)) (e 5 (by omega) (by omega)) (e 6 (by omega) (by omega)), by rw [e 7 (by omega) (by omega)]; exact h3, by rw [e0]; exact h4⟩
theorem BaR.frP {ρ τ : Mem} {rl : List Ru} {on on' : Nat} (h : BaR ρ rl on on') (f : FrP ρ τ) : BaR τ rl on on' := h.fr (fun o h1 h2 => f.1 o (by omega) (by omega) (by omega)) (f.2.1 28 (by omega) (by omega))
/-- an arm of the call: none, or one of the list -/
def ArmX (n : Nat) (xs : Nat → PX) (a : Int32) (x : PX) : Prop := (a = -1 ∧ x = zX) ∨ ∃ i, i < n ∧ a = nI i ∧ x = xs i
theorem pairOf_R {ρ : Mem} {rl : List Ru} {on on' n s : Nat} {xs : Nat → PX} {a b : Int32} {x y : PX} (hrl : ∀ r ∈ rl, OkRu r) (hll : rl.length ≤ 16) (ho : on < 65536) (ho' : on' < 65536) (hB : BaR ρ rl on on') (hP : PRx ρ (stX rl on on') n xs) (hs : s < 8) (ha : ArmX n xs a x) (hb : ArmX n xs b y) (hR : Rch (stX rl on on') (stX rl on on' s x y)) : Ok (f_X9_pairOf (nI s) a b ρ) (fun r => ∃ n' xs' k, n ≤ n' ∧ (∀ i, i < n → xs' i = xs i) ∧ PRx r.2 (stX rl on on') n' xs' ∧ k < n' ∧ r.1 = nI k ∧ FrP ρ r.2 ∧ ((r.2.1 0 30 = ρ.1 0 30 ∧ xs' k = stX rl on on' s x y) ∨ (r.2.1 0 30 = 1 ∧ Many (stX rl on on')))) := by
  obtain ⟨p1, p2, p3, p4⟩ := hP
  obtain ⟨b1, b2, b3, b4⟩ := hB
  have arm : ∀ (a : Int32) (x : PX), ArmX n xs a x → x.1 < 64 ∧ x.2 < 64 := by
    intro a x h
    rcases h with ⟨_, rfl⟩ | ⟨i, hi, _, rfl⟩
    · exact ⟨by decide, by decide⟩
    · exact (p3 i hi).2.2
  have hx := arm a x ha
  have hy := arm b y hb
  -- the last step: look the pair up
  have fin : Ok (j_X9_pairOf_75 (nI s) a b (nI on') (nI s) (nI x.2) (nI y.2) (nI (outc rl on s x.1 y.1)) ρ) (fun r => ∃ n' xs' k, n ≤ n' ∧ (∀ i, i < n → xs' i = xs i) ∧ PRx r.2 (stX rl on on') n' xs' ∧ k < n' ∧ r.1 = nI k ∧ FrP ρ r.2 ∧ ((r.2.1 0 30 = ρ.1 0 30 ∧ xs' k = stX rl on on' s x y) ∨ (r.2.1 0 30 = 1 ∧ Many (stX rl on on')))) := by
    have lA := outc_lt hrl on s x.1 y.1
    have lB := outc_lt hrl on' s x.2 y.2
    unfold j_X9_pairOf_75
    rw [makes_R b1 b2 hrl hll ho' hs hx.2 hy.2, Option.bind_some]
    generalize hA : outc rl on s x.1 y.1 = A at *
    generalize hB : outc rl on' s x.2 y.2 = B at *
    have est : stX rl on on' s x y = (A, B) := by unfold stX; rw [hA, hB]
    refine Ok.bind (P := fun r => match r with | .inl v => ∃ k, k < n ∧ v = nI k ∧ xs k = (A, B) | .inr v => v = (nI A, nI B) ∧ ∀ k, k < n → xs k ≠ (A, B)) ?_ ?_
    · refine Ok.for n (fun k st => st = (nI A, nI B, nI k) ∧ ∀ j, j < k → xs j ≠ (A, B)) ?_ ?_ 0 (by omega) _ ⟨rfl, fun j hj => by omega⟩
      · rintro k _ hk ⟨rfl, e⟩
        show Ok (b_X9_pairOf_83 (nI s) a b (nI A) (nI B) (nI k) ρ) _
        obtain ⟨q1, q2, q3, q4⟩ := p3 k hk
        unfold b_X9_pairOf_83 j_X9_pairOf_119
        rw [p1, if_neg (by rw [n_le (by omega) (by omega)]; omega)]
        simp only [gd_ix (show k < 120 by omega) (by omega), n_cl (show k < 2147483648 by omega), q1, q2, n_eq (show (xs k).1 < 2147483648 by omega) (show A < 2147483648 by omega), n_eq (show (xs k).2 < 2147483648 by omega) (show B < 2147483648 by omega)]
        have next : xs k ≠ (A, B) → ∀ j, j < k + 1 → xs j ≠ (A, B) := by
          intro w j hj
          by_cases c : j = k
          · rw [c]; exact w
          · exact e j (by omega)
        by_cases c1 : (xs k).1 = A
        · rw [if_pos c1]
          by_cases c2 : (xs k).2 = B
          · rw [if_pos c2]
            exact Ok.some ⟨k, hk, rfl, by rw [← c1, ← c2]⟩
          · rw [if_neg c2]
            exact Ok.lt (Ok.some ⟨by rw [n_suc], next (fun w => c2 (by rw [w]))⟩)
        · rw [if_neg c1]
          exact Ok.lt (Ok.some ⟨by rw [n_suc], next (fun w => c1 (by rw [w]))⟩)
      · rintro _ ⟨rfl, e⟩
        show Ok (b_X9_pairOf_83 (nI s) a b (nI A) (nI B) (nI n) ρ) _
        unfold b_X9_pairOf_83
        rw [p1, if_pos (by rw [n_le (by omega) (by omega)]; omega)]
        exact Ok.some ⟨rfl, e⟩
    · rintro r hr
      cases r with
      | inl v =>
        obtain ⟨k, k1, rfl, k3⟩ := hr
        exact Ok.some ⟨n, xs, k, Nat.le_refl _, fun _ _ => rfl, ⟨p1, p2, p3, p4⟩, k1, rfl, ⟨fun _ _ _ _ => rfl, fun _ _ _ => rfl, rfl⟩, Or.inl ⟨rfl, by rw [k3, est]⟩⟩
      | inr v =>
        obtain ⟨rfl, e⟩ := hr
        show Ok (if ρ.1 0 22 = 120 then _ else _) _
        have ext : LsX (stX rl on on') (n + 1) (fun i => if i < n then xs i else (A, B)) := by
          refine ⟨fun i j hi hj h => ?_, fun i hi => ?_⟩
          · by_cases ci : i < n
            · by_cases cj : j < n
              · simp only [if_pos ci, if_pos cj] at h
                exact p4.1 i j ci cj h
              · simp only [if_pos ci, if_neg cj] at h
                exact absurd h (e i ci)
            · by_cases cj : j < n
              · simp only [if_neg ci, if_pos cj] at h
                exact absurd h.symm (e j cj)
              · omega
          · by_cases ci : i < n
            · simp only [if_pos ci]; exact p4.2 i ci
            · simp only [if_neg ci]; rw [← est]; exact hR
        rw [p1]
        by_cases c : n = 120
        · rw [if_pos (by rw [c]; rfl)]
          refine Ok.lt (Ok.some ⟨n, xs, 0, Nat.le_refl _, fun _ _ => rfl, ⟨?_, p2, p3, p4⟩, by omega, rfl, ⟨fun o o1 _ _ => sI_o o1, fun j _ j2 => sI_slot j2, rfl⟩, Or.inr ⟨sI_same _ _ _ _, ?_⟩⟩)
          · show (sI ρ 0 30 1).1 0 22 = _
            rw [sI_slot (by omega)]; exact p1
          · subst c
            exact ⟨_, ext⟩
        · rw [if_neg (by rw [show (120 : Int32) = nI 120 from rfl, n_eq (by omega) (by omega)]; exact c), gd_ix (by omega) (by omega), n_cl (by omega)]
          refine Ok.lt ?_
          rw [sI_off (by omega), p1, gd_ix (by omega) (by omega), n_cl (by omega)]
          refine Ok.lt ?_
          rw [sI_off (by omega), sI_off (by omega), p1, n_suc]
          refine Ok.lt (Ok.some ⟨n + 1, fun i => if i < n then xs i else (A, B), n, by omega, fun i hi => if_pos hi, ⟨sI_same _ _ _ _, by omega, fun k hk => ?_, ext⟩, by omega, ?_, ⟨fun o o1 o2 o3 => ?_, fun j j1 _ => ?_, rfl⟩, Or.inl ⟨?_, ?_⟩⟩)
          · show (sI (sI (sI ρ 15 n (nI A)) 16 n (nI B)) 0 22 (nI (n + 1))).1 15 k = _ ∧ (sI (sI (sI ρ 15 n (nI A)) 16 n (nI B)) 0 22 (nI (n + 1))).1 16 k = _ ∧ _
            have q15 : (sI (sI (sI ρ 15 n (nI A)) 16 n (nI B)) 0 22 (nI (n + 1))).1 15 k = if k = n then nI A else ρ.1 15 k := by
              rw [sI_off (by omega), sI_off (by omega), sI_get]
              by_cases z : k = n
              · rw [if_pos ⟨rfl, z⟩, if_pos z]
              · rw [if_neg (fun w => z w.2), if_neg z]
            have q16 : (sI (sI (sI ρ 15 n (nI A)) 16 n (nI B)) 0 22 (nI (n + 1))).1 16 k = if k = n then nI B else ρ.1 16 k := by
              rw [sI_off (by omega), sI_get]
              by_cases z : k = n
              · rw [if_pos ⟨rfl, z⟩, if_pos z]
              · rw [if_neg (fun w => z w.2), if_neg z, sI_off (by omega)]
            rw [q15, q16]
            by_cases ck : k < n
            · simp only [if_pos ck]
              rw [if_neg (by omega), if_neg (by omega)]
              exact p3 k ck
            · have ek : k = n := by omega
              simp only [if_neg ck]
              rw [if_pos ek, if_pos ek]
              exact ⟨rfl, rfl, lA, lB⟩
          · show (sI (sI (sI ρ 15 n (nI A)) 16 n (nI B)) 0 22 (nI (n + 1))).1 0 22 - 1 = nI n
            rw [sI_same, show (1 : Int32) = nI 1 from rfl, n_sub (by omega)]
            rfl
          · show (sI (sI (sI ρ 15 n (nI A)) 16 n (nI B)) 0 22 (nI (n + 1))).1 o = _
            rw [sI_o o1, sI_o o3, sI_o o2]
          · show (sI (sI (sI ρ 15 n (nI A)) 16 n (nI B)) 0 22 (nI (n + 1))).1 0 j = _
            rw [sI_slot j1, sI_off (by omega), sI_off (by omega)]
          · show (sI (sI (sI ρ 15 n (nI A)) 16 n (nI B)) 0 22 (nI (n + 1))).1 0 30 = _
            rw [sI_slot (by omega), sI_off (by omega), sI_off (by omega)]
          · show (if n < n then xs n else (A, B)) = _
            rw [if_neg (by omega), est]
  -- the arms looked up
  have s61 : ∀ v4, v4 = nI (outc rl on s x.1 y.1) → j_X9_pairOf_61 (nI s) a b (nI on') (nI s) (nI x.2) v4 ρ = j_X9_pairOf_75 (nI s) a b (nI on') (nI s) (nI x.2) (nI y.2) (nI (outc rl on s x.1 y.1)) ρ := by
    rintro v4 rfl
    unfold j_X9_pairOf_61
    rcases hb with ⟨rfl, rfl⟩ | ⟨j, hj, rfl, rfl⟩
    · rw [if_neg (by decide)]
      rfl
    · rw [if_pos (by rw [n_nn (by omega)]; trivial), gd_ix (by omega) (by omega), n_cl (by omega), (p3 j hj).2.1]
  have s36 : j_X9_pairOf_36 (nI s) a b (nI on) (nI s) (nI x.1) (nI y.1) ρ = j_X9_pairOf_75 (nI s) a b (nI on') (nI s) (nI x.2) (nI y.2) (nI (outc rl on s x.1 y.1)) ρ := by
    unfold j_X9_pairOf_36
    rw [makes_R b1 b2 hrl hll ho hs hx.1 hy.1, Option.bind_some, b4]
    rcases ha with ⟨rfl, rfl⟩ | ⟨i, hi, rfl, rfl⟩
    · rw [if_neg (by decide)]
      exact s61 _ rfl
    · rw [if_pos (by rw [n_nn (by omega)]; trivial), gd_ix (by omega) (by omega), n_cl (by omega), (p3 i hi).2.1]
      exact s61 _ rfl
  have s22 : j_X9_pairOf_22 (nI s) a b (nI on) (nI s) (nI x.1) ρ = j_X9_pairOf_36 (nI s) a b (nI on) (nI s) (nI x.1) (nI y.1) ρ := by
    unfold j_X9_pairOf_22
    rcases hb with ⟨rfl, rfl⟩ | ⟨j, hj, rfl, rfl⟩
    · rw [if_neg (by decide)]
      rfl
    · rw [if_pos (by rw [n_nn (by omega)]; trivial), gd_ix (by omega) (by omega), n_cl (by omega), (p3 j hj).1]
  have s0 : f_X9_pairOf (nI s) a b ρ = j_X9_pairOf_22 (nI s) a b (nI on) (nI s) (nI x.1) ρ := by
    unfold f_X9_pairOf
    rw [show (0 : Int32).toNatClampNeg = 0 from rfl, b3]
    rcases ha with ⟨rfl, rfl⟩ | ⟨i, hi, rfl, rfl⟩
    · rw [if_neg (by decide)]
      rfl
    · rw [if_pos (by rw [n_nn (by omega)]; trivial), gd_ix (by omega) (by omega), n_cl (by omega), (p3 i hi).1]
  rw [s0, s22, s36]
  exact fin
