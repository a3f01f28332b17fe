/-! what rules make, on both sides -/
theorem n_p2 {m : Nat} (h : m < 31) : (1 : Int32) <<< (nI m &&& 31) = nI (2 ^ m) := by
  have : 2 ^ m < 2 ^ 31 := Nat.pow_lt_pow_right (by omega) h
  rw [show (1 : Int32) = nI 1 from rfl, n_shl (by omega) (by omega), Nat.one_mul]
theorem ruL_ok {rl : List Ru} (h : ∀ r ∈ rl, OkRu r) {j : Nat} (hj : j < rl.length) : OkRu (ruA rl j) := by
  unfold ruA
  rw [List.getD_eq_getElem?_getD, List.getElem?_eq_getElem hj]
  exact h _ (List.getElem_mem hj)
theorem armV_yes {r : Ru} {a f : Nat} (h : a ≤ armsN r.1) : armV r a f = nI f := if_pos h
theorem z0 : nI 0 = (0 : Int32) := rfl
theorem z1 : nI 1 = (1 : Int32) := rfl
theorem b01 {a k : Nat} (h : ¬ bN a k = 1) : bN a k = 0 := by have := bN_lt a k; omega
theorem makes_R {ρ : Mem} {rl : List Ru} {on s x y : Nat} (h2 : ρ.1 2 0 = nI rl.length) (hL : LawM ρ 3 4 5 6 rl) (hrl : ∀ r ∈ rl, OkRu r) (hl : rl.length ≤ 16) (ho : on < 65536) (hs : s < 8) (hx : x < 64) (hy : y < 64) : f_X9_makesOf (nI on) (nI s) (nI x) (nI y) ρ = some (nI (outc rl on s x y)) := by
  refine Ok.eq ?_
  unfold f_X9_makesOf
  rw [arms_R (by omega)]
  refine Ok.lt (Ok.bind (P := fun r => r = nI (outc rl on s x y)) ?_ (fun r hr => Ok.some hr))
  refine Ok.for rl.length (fun k st => st = (nI (outK rl on s x y k), nI (armsN s), nI k)) ?_ ?_ 0 (by omega) _ (by rw [outK]; rfl)
  · rintro k _ hk rfl
    show Ok (b_X9_makesOf_12 (nI on) (nI s) (nI x) (nI y) (nI (outK rl on s x y k)) (nI (armsN s)) (nI k) ρ) _
    obtain ⟨m1, m2, m3, m4⟩ := hL k hk
    obtain ⟨r1, r2, r3, r4⟩ := ruL_ok hrl hk
    have ha := armsN_le s
    have no : ¬ (bN on k = 1 ∧ (ruA rl k).1 = s ∧ fitR (ruA rl k) x y) → Ok (j_X9_makesOf_100 (nI on) (nI s) (nI x) (nI y) (nI (outK rl on s x y k)) (nI (armsN s)) (nI k) ρ) (SumP (fun st => st = (nI (outK rl on s x y (k + 1)), nI (armsN s), nI (k + 1))) (fun r => r = nI (outc rl on s x y))) := by
      intro q
      unfold j_X9_makesOf_100 j_X9_makesOf_101 j_X9_makesOf_123
      rw [if_pos rfl]
      refine Ok.lt (Ok.lt (Ok.some ?_))
      rw [outK_no q, show (0 : Int32) = nI 0 from rfl, n_or, n_suc, Nat.or_zero]
    have yes : (bN on k = 1 ∧ (ruA rl k).1 = s ∧ fitR (ruA rl k) x y) → Ok (j_X9_makesOf_96 (nI on) (nI s) (nI x) (nI y) (nI (outK rl on s x y k)) (nI (armsN s)) (nI k) ρ) (SumP (fun st => st = (nI (outK rl on s x y (k + 1)), nI (armsN s), nI (k + 1))) (fun r => r = nI (outc rl on s x y))) := by
      intro q
      unfold j_X9_makesOf_96 j_X9_makesOf_101 j_X9_makesOf_123
      rw [if_neg (by decide), gd_ix (by omega) (by omega), n_cl (by omega), m4, n_p2 (by omega)]
      refine Ok.lt (Ok.lt (Ok.some ?_))
      rw [outK_yes q, n_or, n_suc]
    unfold b_X9_makesOf_12
    rw [show (0 : Int32).toNatClampNeg = 0 from rfl, h2, if_neg (by rw [n_le (by omega) (by omega)]; omega), has_R (by omega) (by omega)]
    by_cases c1 : bN on k = 1
    · rw [c1, if_neg (by decide), gd_ix (by omega) (by omega), n_cl (by omega), m1]
      simp only [n_eq (show (ruA rl k).1 < 2147483648 by omega) (show s < 2147483648 by omega)]
      by_cases c2 : (ruA rl k).1 = s
      · rw [if_pos c2]
        unfold j_X9_makesOf_48
        rw [if_neg (by decide)]
        have st75 : (1 ≤ armsN s → bN x (ruA rl k).2.1 = 1) → Ok (j_X9_makesOf_75 (nI on) (nI s) (nI x) (nI y) (nI (outK rl on s x y k)) (nI (armsN s)) (nI k) ρ) (SumP (fun st => st = (nI (outK rl on s x y (k + 1)), nI (armsN s), nI (k + 1))) (fun r => r = nI (outc rl on s x y))) := by
          intro q1
          unfold j_X9_makesOf_75
          by_cases c4 : armsN s < 2
          · rw [if_pos (by rw [show (2 : Int32) = nI 2 from rfl, n_lt (by omega) (by omega)]; exact c4)]
            exact yes ⟨c1, c2, fun _ => q1 (by rw [← c2]; assumption), fun q => by rw [c2] at q; omega⟩
          · rw [if_neg (by rw [show (2 : Int32) = nI 2 from rfl, n_lt (by omega) (by omega)]; exact c4), gd_ix (by omega) (by omega), n_cl (by omega), m3, armV_yes (by rw [c2]; omega), has_R (by omega) (by omega)]
            by_cases c5 : bN y (ruA rl k).2.2.1 = 1
            · rw [c5, if_neg (by decide)]
              exact yes ⟨c1, c2, fun _ => q1 (by rw [← c2]; assumption), fun q => c5⟩
            · rw [b01 c5, if_pos z0]
              exact no (fun q => c5 (q.2.2.2 (by rw [c2]; omega)))
        by_cases c3 : armsN s < 1
        · rw [if_pos (by rw [show (1 : Int32) = nI 1 from rfl, n_lt (by omega) (by omega)]; exact c3)]
          exact st75 (fun q => by omega)
        · rw [if_neg (by rw [show (1 : Int32) = nI 1 from rfl, n_lt (by omega) (by omega)]; exact c3), gd_ix (by omega) (by omega), n_cl (by omega), m2, armV_yes (by rw [c2]; omega), has_R (by omega) (by omega)]
          by_cases c5 : bN x (ruA rl k).2.1 = 1
          · rw [c5, if_neg (by decide)]
            exact st75 (fun _ => c5)
          · rw [b01 c5, if_pos z0]
            exact no (fun q => c5 (q.2.2.1 (by rw [c2]; omega)))
      · rw [if_neg c2]
        unfold j_X9_makesOf_47 j_X9_makesOf_48
        rw [if_pos rfl]
        exact no (fun q => c2 q.2.1)
    · rw [b01 c1, if_pos z0]
      unfold j_X9_makesOf_47 j_X9_makesOf_48
      rw [if_pos rfl]
      exact no (fun q => c1 q.1)
  · rintro _ rfl
    show Ok (b_X9_makesOf_12 (nI on) (nI s) (nI x) (nI y) (nI (outK rl on s x y rl.length)) (nI (armsN s)) (nI rl.length) ρ) _
    unfold b_X9_makesOf_12
    rw [show (0 : Int32).toNatClampNeg = 0 from rfl, h2, if_pos (by rw [n_le (by omega) (by omega)]; omega)]
    exact Ok.some rfl
theorem fits_C {σ : Mem} {t : Nat} {rl : List Ru} {x y k : Nat} (hL : LawC σ t rl) (hrl : ∀ r ∈ rl, OkRu r) (hl : rl.length ≤ 16) (hk : k < rl.length) (hx : x < 2147483648) (hy : y < 2147483648) : (fitR (ruA rl k) x y ∧ f_X3_fits t (nI k) (nI x) (nI y) σ = some 1) ∨ (¬ fitR (ruA rl k) x y ∧ f_X3_fits t (nI k) (nI x) (nI y) σ = some 0) := by
  obtain ⟨m1, m2, m3, m4⟩ := hL.2 k hk
  obtain ⟨r1, r2, r3, r4⟩ := ruL_ok hrl hk
  have ha := armsN_le (ruA rl k).1
  have st : (1 ≤ armsN (ruA rl k).1 → bN x (ruA rl k).2.1 = 1) → ((fitR (ruA rl k) x y ∧ j_X3_fits_31 t (nI k) (nI x) (nI y) (nI (armsN (ruA rl k).1)) σ = some 1) ∨ (¬ fitR (ruA rl k) x y ∧ j_X3_fits_31 t (nI k) (nI x) (nI y) (nI (armsN (ruA rl k).1)) σ = some 0)) := by
    intro q1
    unfold j_X3_fits_31 j_X3_fits_51
    by_cases c4 : armsN (ruA rl k).1 < 2
    · rw [if_pos (by rw [show (2 : Int32) = nI 2 from rfl, n_lt (by omega) (by omega)]; exact c4)]
      exact Or.inl ⟨⟨q1, fun q => by omega⟩, rfl⟩
    · rw [if_neg (by rw [show (2 : Int32) = nI 2 from rfl, n_lt (by omega) (by omega)]; exact c4), gd_ix (by omega) (by omega), n_cl (by omega), m3, armV_yes (by omega), bit_C (by omega) (by omega)]
      by_cases c5 : bN y (ruA rl k).2.2.1 = 1
      · rw [c5, if_pos z1]
        exact Or.inl ⟨⟨q1, fun q => c5⟩, rfl⟩
      · rw [b01 c5, if_neg (by decide)]
        exact Or.inr ⟨fun q => c5 (q.2 (by omega)), rfl⟩
  unfold f_X3_fits
  rw [gd_ix (by omega) (by omega)]
  simp only [n_cl (show k < 2147483648 by omega), m1, m2, arms_C (show (ruA rl k).1 < 2147483648 by omega), lt_eq]
  by_cases c3 : armsN (ruA rl k).1 < 1
  · rw [if_pos (by rw [show (1 : Int32) = nI 1 from rfl, n_lt (by omega) (by omega)]; exact c3)]
    exact st (fun q => by omega)
  · rw [if_neg (by rw [show (1 : Int32) = nI 1 from rfl, n_lt (by omega) (by omega)]; exact c3), gd_ix (by omega) (by omega), armV_yes (by omega), bit_C (by omega) (by omega)]
    by_cases c5 : bN x (ruA rl k).2.1 = 1
    · rw [c5, if_pos z1]
      exact st (fun _ => c5)
    · rw [b01 c5, if_neg (by decide)]
      exact Or.inr ⟨fun q => c5 (q.1 (by omega)), rfl⟩
theorem outc_C {σ : Mem} {t : Nat} {rl : List Ru} {on s x y : Nat} (hL : LawC σ t rl) (hrl : ∀ r ∈ rl, OkRu r) (hl : rl.length ≤ 16) (ho : on < 65536) (hs : s < 8) (hx : x < 64) (hy : y < 64) : f_X3_outcomes t (nI s) (nI on) (nI x) (nI y) σ = some (nI (outc rl on s x y)) := by
  refine Ok.eq ?_
  unfold f_X3_outcomes
  refine Ok.bind (P := fun r => r = nI (outc rl on s x y)) ?_ (fun r hr => Ok.some hr)
  refine Ok.for rl.length (fun k st => st = (nI (outK rl on s x y k), nI k)) ?_ ?_ 0 (by omega) _ (by rw [outK]; rfl)
  · rintro k _ hk rfl
    show Ok (b_X3_outcomes_6 t (nI s) (nI on) (nI x) (nI y) (nI (outK rl on s x y k)) (nI k) σ) _
    obtain ⟨m1, m2, m3, m4⟩ := hL.2 k hk
    obtain ⟨r1, r2, r3, r4⟩ := ruL_ok hrl hk
    have no : ¬ (bN on k = 1 ∧ (ruA rl k).1 = s ∧ fitR (ruA rl k) x y) → Ok (j_X3_outcomes_62 t (nI s) (nI on) (nI x) (nI y) (nI (outK rl on s x y k)) (nI k) σ) (SumP (fun st => st = (nI (outK rl on s x y (k + 1)), nI (k + 1))) (fun r => r = nI (outc rl on s x y))) := by
      intro q
      unfold j_X3_outcomes_62
      refine Ok.lt (Ok.some ?_)
      rw [outK_no q, n_suc]
    unfold b_X3_outcomes_6
    rw [hL.1, if_neg (by rw [n_le (by omega) (by omega)]; omega), bit_C (by omega) (by omega)]
    by_cases c1 : bN on k = 1
    · rw [c1, if_pos z1, gd_ix (by omega) (by omega)]
      simp only [n_cl (show k < 2147483648 by omega), m1, m4, n_eq (show (ruA rl k).1 < 2147483648 by omega) (show s < 2147483648 by omega)]
      by_cases c2 : (ruA rl k).1 = s
      · rw [if_pos c2]
        rcases fits_C (x := x) (y := y) hL hrl hl hk (by omega) (by omega) with ⟨c3, e⟩ | ⟨c3, e⟩
        · rw [e, Option.bind_some, if_neg (by decide), gd_ix (by omega) (by omega), n_p2 (by omega)]
          unfold j_X3_outcomes_62
          refine Ok.lt (Ok.lt (Ok.some ?_))
          rw [outK_yes ⟨c1, c2, c3⟩, n_or, n_suc]
        · rw [e, Option.bind_some, if_pos rfl]
          exact no (fun q => c3 q.2.2)
      · rw [if_neg c2]
        exact no (fun q => c2 q.2.1)
    · rw [b01 c1, if_neg (by decide)]
      exact no (fun q => c1 q.1)
  · rintro _ rfl
    show Ok (b_X3_outcomes_6 t (nI s) (nI on) (nI x) (nI y) (nI (outK rl on s x y rl.length)) (nI rl.length) σ) _
    unfold b_X3_outcomes_6
    rw [hL.1, if_pos (by rw [n_le (by omega) (by omega)]; omega)]
    exact Ok.some rfl
