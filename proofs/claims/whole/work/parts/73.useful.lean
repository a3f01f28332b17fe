/-! useful -/
theorem reached_C {σ : Mem} {t : Nat} {rl : List Ru} {on : Nat} (hL : LawC σ t rl) (hrl : ∀ r ∈ rl, OkRu r) (hll : rl.length ≤ 16) (ho : on < 65536) : f_X3_reachedStates t (nI on) σ = some (nI (rchS rl on)) := by
  have ok : ∀ S, S < 64 → (fun S => psR rl on S rl.length) S < 64 ∧ subB S ((fun S => psR rl on S rl.length) S) := fun S hS => psR_ok hrl on hS _ (Nat.le_refl _)
  refine Ok.eq ?_
  unfold f_X3_reachedStates
  refine Ok.bind (P := fun r => r = nI (rchS rl on)) ?_ (fun r hr => Ok.some hr)
  refine Ok.for 6 (fun m st => st = (nI (itrN (fun S => psR rl on S rl.length) m 0), nI m)) ?_ ?_ 0 (by omega) _ rfl
  · rintro m _ hm rfl
    show Ok (b_X3_reachedStates_4 t (nI on) (nI (itrN (fun S => psR rl on S rl.length) m 0)) (nI m) σ) _
    have lt := itrN_ok ok (S := 0) (by omega) m
    generalize hS : itrN (fun S => psR rl on S rl.length) m 0 = S at *
    unfold b_X3_reachedStates_4
    rw [if_neg (by rw [show (6 : Int32) = nI 6 from rfl, n_le (by omega) (by omega)]; omega)]
    refine Ok.bind (P := fun r => r = (nI (psR rl on S rl.length), nI m)) ?_ ?_
    · refine Ok.for rl.length (fun k st => st = (nI (psR rl on S k), nI m, nI k)) ?_ ?_ 0 (by omega) _ rfl
      · rintro k _ hk rfl
        show Ok (b_X3_reachedStates_13 t (nI on) (nI (psR rl on S k)) (nI m) (nI k) σ) _
        obtain ⟨m1, m2, m3, m4⟩ := hL.2 k hk
        obtain ⟨r1, r2, r3, r4⟩ := ruL_ok hrl hk
        have l2 := (psR_ok hrl on lt k (by omega)).1
        have no : ¬ (bN on k = 1 ∧ fitR (ruA rl k) (psR rl on S k) (psR rl on S k)) → Ok (j_X3_reachedStates_55 t (nI on) (nI (psR rl on S k)) (nI m) (nI k) σ) (SumP (fun st => st = (nI (psR rl on S (k + 1)), nI m, nI (k + 1))) (fun r => r = (nI (psR rl on S rl.length), nI m))) := by
          intro q
          unfold j_X3_reachedStates_55
          refine Ok.lt (Ok.some ?_)
          rw [psR_no q, n_suc]
        unfold b_X3_reachedStates_13
        rw [hL.1, if_neg (by rw [n_le (by omega) (by omega)]; omega), bit_C (by omega) (by omega)]
        by_cases c1 : bN on k = 1
        · rw [c1, if_pos z1]
          rcases fits_C (x := psR rl on S k) (y := psR rl on S k) hL hrl hll hk (by omega) (by omega) with ⟨c3, e⟩ | ⟨c3, e⟩
          · rw [e, Option.bind_some, if_neg (by decide), gd_ix (by omega) (by omega), n_cl (by omega), m4, n_p2 (by omega)]
            unfold j_X3_reachedStates_55
            refine Ok.lt (Ok.lt (Ok.some ?_))
            rw [psR_yes ⟨c1, c3⟩, n_or, n_suc]
          · rw [e, Option.bind_some, if_pos rfl]
            exact no (fun q => c3 q.2)
        · rw [b01 c1, if_neg (by decide)]
          exact no (fun q => c1 q.1)
      · rintro _ rfl
        show Ok (b_X3_reachedStates_13 t (nI on) (nI (psR rl on S rl.length)) (nI m) (nI rl.length) σ) _
        unfold b_X3_reachedStates_13
        rw [hL.1, if_pos (by rw [n_le (by omega) (by omega)]; omega)]
        exact Ok.some rfl
    · rintro _ rfl
      refine Ok.lt (Ok.some ?_)
      show (nI (psR rl on S rl.length), nI m + 1) = (nI (psR rl on (itrN (fun S => psR rl on S rl.length) m 0) rl.length), nI (m + 1))
      rw [hS, n_suc]
  · rintro _ rfl
    exact Ok.some rfl
theorem armStates_C {σ : Mem} {t : Nat} {rl : List Ru} {k : Nat} (hL : LawC σ t rl) (hrl : ∀ r ∈ rl, OkRu r) (hll : rl.length ≤ 16) (hk : k < rl.length) : f_X3_armStates t (nI k) σ = some (nI (armS (ruA rl k))) := by
  obtain ⟨m1, m2, m3, m4⟩ := hL.2 k hk
  obtain ⟨r1, r2, r3, r4⟩ := ruL_ok hrl hk
  unfold f_X3_armStates armS
  rw [gd_ix (by omega) (by omega)]
  simp only [n_cl (show k < 2147483648 by omega), m1, m2, arms_C (show (ruA rl k).1 < 2147483648 by omega), lt_eq]
  unfold j_X3_armStates_26
  rcases arms_cases (ruA rl k).1 with a0 | a0 | a0
  · rw [a0, if_pos (by decide), if_pos (by decide), if_neg (by omega), if_neg (by omega)]
    rfl
  · rw [armV_yes (by omega), a0, if_neg (by decide), gd_ix (by omega) (by omega), if_pos (by decide), if_pos (by omega), if_neg (by omega), n_p2 (by omega), Nat.or_zero]
  · rw [armV_yes (by omega), a0, if_neg (by decide), gd_ix (by omega) (by omega), if_neg (by decide), gd_ix (by omega) (by omega), n_cl (by omega), m3, armV_yes (by omega), if_pos (by omega), if_pos (by omega), n_p2 (by omega), n_p2 (by omega), n_or]
theorem useful_C {σ : Mem} {t : Nat} {rl : List Ru} {on g : Nat} (hL : LawC σ t rl) (hrl : ∀ r ∈ rl, OkRu r) (hll : rl.length ≤ 16) (ho : on < 65536) (hg : g < 64) : f_X3_usefulStates t (nI on) (nI g) σ = some (nI (useS rl on g)) := by
  have ok0 : ∀ S, S < 64 → (fun S => psR rl on S rl.length) S < 64 ∧ subB S ((fun S => psR rl on S rl.length) S) := fun S hS => psR_ok hrl on hS _ (Nat.le_refl _)
  have rlt : rchS rl on < 64 := itrN_ok ok0 (by omega) 6
  have ok : ∀ S, S < 64 → (fun S => psU rl on (rchS rl on) S rl.length) S < 64 ∧ subB S ((fun S => psU rl on (rchS rl on) S rl.length) S) := fun S hS => psU_ok hrl on _ hS _ (Nat.le_refl _)
  have s0 : rchS rl on &&& g < 64 := Nat.lt_of_le_of_lt Nat.and_le_left rlt
  refine Ok.eq ?_
  unfold f_X3_usefulStates
  rw [reached_C hL hrl hll ho, Option.bind_some, n_and]
  refine Ok.lt (Ok.bind (P := fun r => r = nI (useS rl on g)) ?_ (fun r hr => Ok.some hr))
  unfold useS
  generalize rchS rl on = R at *
  refine Ok.for 6 (fun m st => st = (nI R, nI (itrN (fun S => psU rl on R S rl.length) m (R &&& g)), nI m)) ?_ ?_ 0 (by omega) _ rfl
  · rintro m _ hm rfl
    show Ok (b_X3_usefulStates_14 t (nI on) (nI g) (nI R) (nI (itrN (fun S => psU rl on R S rl.length) m (R &&& g))) (nI m) σ) _
    have lt := itrN_ok ok s0 m
    generalize hS : itrN (fun S => psU rl on R S rl.length) m (R &&& g) = S at *
    unfold b_X3_usefulStates_14
    rw [if_neg (by rw [show (6 : Int32) = nI 6 from rfl, n_le (by omega) (by omega)]; omega)]
    refine Ok.bind (P := fun r => r = (nI R, nI (psU rl on R S rl.length), nI m)) ?_ ?_
    · refine Ok.for rl.length (fun k st => st = (nI R, nI (psU rl on R S k), nI m, nI k)) ?_ ?_ 0 (by omega) _ rfl
      · rintro k _ hk rfl
        show Ok (b_X3_usefulStates_24 t (nI on) (nI g) (nI R) (nI (psU rl on R S k)) (nI m) (nI k) σ) _
        obtain ⟨m1, m2, m3, m4⟩ := hL.2 k hk
        obtain ⟨r1, r2, r3, r4⟩ := ruL_ok hrl hk
        have l2 := (psU_ok hrl on R lt k (by omega)).1
        have no : ¬ (bN on k = 1 ∧ bN (psU rl on R S k) (ruA rl k).2.2.2 = 1 ∧ fitR (ruA rl k) R R) → Ok (j_X3_usefulStates_81 t (nI on) (nI g) (nI R) (nI (psU rl on R S k)) (nI m) (nI k) σ) (SumP (fun st => st = (nI R, nI (psU rl on R S (k + 1)), nI m, nI (k + 1))) (fun r => r = (nI R, nI (psU rl on R S rl.length), nI m))) := by
          intro q
          unfold j_X3_usefulStates_81
          refine Ok.lt (Ok.some ?_)
          rw [psU_no q, n_suc]
        unfold b_X3_usefulStates_24
        rw [hL.1, if_neg (by rw [n_le (by omega) (by omega)]; omega), bit_C (by omega) (by omega)]
        by_cases c1 : bN on k = 1
        · rw [c1, if_pos z1, gd_ix (by omega) (by omega), n_cl (by omega), m4, bit_C (by omega) (by omega)]
          by_cases c2 : bN (psU rl on R S k) (ruA rl k).2.2.2 = 1
          · rw [c2, if_pos z1]
            rcases fits_C (x := R) (y := R) hL hrl hll hk (by omega) (by omega) with ⟨c3, e⟩ | ⟨c3, e⟩
            · rw [e, Option.bind_some, if_neg (by decide), armStates_C hL hrl hll hk, Option.bind_some, n_or]
              unfold j_X3_usefulStates_81
              refine Ok.lt (Ok.lt (Ok.some ?_))
              rw [psU_yes ⟨c1, c2, c3⟩, n_suc]
            · rw [e, Option.bind_some, if_pos rfl]
              exact no (fun q => c3 q.2.2)
          · rw [b01 c2, if_neg (by decide)]
            exact no (fun q => c2 q.2.1)
        · rw [b01 c1, if_neg (by decide)]
          exact no (fun q => c1 q.1)
      · rintro _ rfl
        show Ok (b_X3_usefulStates_24 t (nI on) (nI g) (nI R) (nI (psU rl on R S rl.length)) (nI m) (nI rl.length) σ) _
        unfold b_X3_usefulStates_24
        rw [hL.1, if_pos (by rw [n_le (by omega) (by omega)]; omega)]
        exact Ok.some rfl
    · rintro _ rfl
      refine Ok.lt (Ok.some ?_)
      show (nI R, nI (psU rl on R S rl.length), nI m + 1) = (nI R, nI (psU rl on R (itrN (fun S => psU rl on R S rl.length) m (R &&& g)) rl.length), nI (m + 1))
      rw [hS, n_suc]
  · rintro _ rfl
    exact Ok.some rfl
/-- one pass of the reference -/
theorem pass_R {ρ : Mem} {rl : List Ru} {on R S : Nat} {w : Int32} (h2 : ρ.1 2 0 = nI rl.length) (hL : LawM ρ 3 4 5 6 rl) (h7 : ρ.1 7 0 = nI on) (hrl : ∀ r ∈ rl, OkRu r) (hll : rl.length ≤ 16) (ho : on < 65536) (hR : R < 64) (hS : S < 64) : Ok (Lim (T := (Int32 × Int32 × Int32)) (fun s => b_X9_useful_52 s.1 s.2.1 s.2.2.1 s.2.2.2 ρ) (nI R, nI S, w, (0 : Int32))) (fun r => r = (nI R, nI (psU rl on R S rl.length), w)) := by
  refine Ok.for rl.length (fun k st => st = (nI R, nI (psU rl on R S k), w, nI k)) ?_ ?_ 0 (by omega) _ rfl
  · rintro k _ hk rfl
    show Ok (b_X9_useful_52 (nI R) (nI (psU rl on R S k)) w (nI k) ρ) _
    obtain ⟨m1, m2, m3, m4⟩ := hL k hk
    obtain ⟨r1, r2, r3, r4⟩ := ruL_ok hrl hk
    have l2 := (psU_ok hrl on R hS k (by omega)).1
    have ha := armsN_le (ruA rl k).1
    have no : ¬ (bN on k = 1 ∧ bN (psU rl on R S k) (ruA rl k).2.2.2 = 1 ∧ fitR (ruA rl k) R R) → Ok (j_X9_useful_147 (nI R) (nI (psU rl on R S k)) w (nI k) (nI (armsN (ruA rl k).1)) ρ) (SumP (fun st => st = (nI R, nI (psU rl on R S (k + 1)), w, nI (k + 1))) (fun r => r = (nI R, nI (psU rl on R S rl.length), w))) := by
      intro q
      unfold j_X9_useful_147 j_X9_useful_148 j_X9_useful_173 j_X9_useful_174 j_X9_useful_200 j_X9_useful_201
      rw [if_pos rfl]
      refine Ok.lt ?_
      rw [if_pos rfl]
      refine Ok.lt (Ok.lt (Ok.some ?_))
      rw [psU_no q, n_suc, show (0 : Int32) = nI 0 from rfl, n_or, n_or, Nat.or_zero, Nat.or_zero]
    have yes : (bN on k = 1 ∧ bN (psU rl on R S k) (ruA rl k).2.2.2 = 1 ∧ fitR (ruA rl k) R R) → Ok (j_X9_useful_143 (nI R) (nI (psU rl on R S k)) w (nI k) (nI (armsN (ruA rl k).1)) ρ) (SumP (fun st => st = (nI R, nI (psU rl on R S (k + 1)), w, nI (k + 1))) (fun r => r = (nI R, nI (psU rl on R S rl.length), w))) := by
      intro q
      have e := psU_yes q
      unfold armS at e
      unfold j_X9_useful_143 j_X9_useful_148
      rw [if_neg (by decide)]
      rcases arms_cases (ruA rl k).1 with a0 | a0 | a0
      · rw [a0, if_neg (by omega), if_neg (by omega)] at e
        rw [a0, if_pos (by decide)]
        unfold j_X9_useful_173 j_X9_useful_174 j_X9_useful_200 j_X9_useful_201
        refine Ok.lt ?_
        rw [if_neg (by decide), if_pos (by decide)]
        refine Ok.lt (Ok.lt (Ok.some ?_))
        rw [e, n_suc, show (0 : Int32) = nI 0 from rfl, n_or, n_or, Nat.or_assoc]
      · rw [a0, if_pos (by omega), if_neg (by omega)] at e
        rw [a0, if_neg (by decide), gd_ix (by omega) (by omega), n_cl (by omega), m2, armV_yes (by omega), n_p2 (by omega)]
        unfold j_X9_useful_174 j_X9_useful_200 j_X9_useful_201
        refine Ok.lt ?_
        rw [if_neg (by decide), if_pos (by decide)]
        refine Ok.lt (Ok.lt (Ok.some ?_))
        rw [e, n_suc, show (0 : Int32) = nI 0 from rfl, n_or, n_or, Nat.or_zero, Nat.or_zero]
      · rw [a0, if_pos (by omega), if_pos (by omega)] at e
        rw [a0, if_neg (by decide), gd_ix (by omega) (by omega), n_cl (by omega), m2, armV_yes (by omega), n_p2 (by omega)]
        unfold j_X9_useful_174 j_X9_useful_201
        refine Ok.lt ?_
        rw [if_neg (by decide), if_neg (by decide), gd_ix (by omega) (by omega), n_cl (by omega), m3, armV_yes (by omega), n_p2 (by omega)]
        refine Ok.lt (Ok.lt (Ok.some ?_))
        rw [e, n_suc, n_or, n_or, Nat.or_assoc]
    unfold b_X9_useful_52
    rw [show (0 : Int32).toNatClampNeg = 0 from rfl, h2, if_neg (by rw [n_le (by omega) (by omega)]; omega), gd_ix (by omega) (by omega)]
    simp only [n_cl (show k < 2147483648 by omega), m1, m2, m4, h7, arms_R (show (ruA rl k).1 < 2147483648 by omega), gd_ix (show k < 32 by omega) (by omega), has_R (show on < 2147483648 by omega) (show k < 32 by omega), has_R (show psU rl on R S k < 2147483648 by omega) (show (ruA rl k).2.2.2 < 32 by omega)]
    refine Ok.lt ?_
    by_cases c1 : bN on k = 1
    · rw [c1, if_neg (by decide)]
      by_cases c2 : bN (psU rl on R S k) (ruA rl k).2.2.2 = 1
      · rw [c2, if_neg (by decide)]
        have s123 : (1 ≤ armsN (ruA rl k).1 → bN R (ruA rl k).2.1 = 1) → Ok (j_X9_useful_123 (nI R) (nI (psU rl on R S k)) w (nI k) (nI (armsN (ruA rl k).1)) ρ) (SumP (fun st => st = (nI R, nI (psU rl on R S (k + 1)), w, nI (k + 1))) (fun r => r = (nI R, nI (psU rl on R S rl.length), w))) := by
          intro f1
          unfold j_X9_useful_123
          by_cases c4 : armsN (ruA rl k).1 < 2
          · rw [if_pos (by rw [show (2 : Int32) = nI 2 from rfl, n_lt (by omega) (by omega)]; exact c4)]
            exact yes ⟨c1, c2, f1, fun z => by omega⟩
          · rw [if_neg (by rw [show (2 : Int32) = nI 2 from rfl, n_lt (by omega) (by omega)]; exact c4), gd_ix (by omega) (by omega), n_cl (by omega), m3, armV_yes (by omega), has_R (by omega) (by omega)]
            by_cases c5 : bN R (ruA rl k).2.2.1 = 1
            · rw [c5, if_neg (by decide)]
              exact yes ⟨c1, c2, f1, fun _ => c5⟩
            · rw [b01 c5, if_pos z0]
              exact no (fun q => c5 (q.2.2.2 (by omega)))
        by_cases c3 : armsN (ruA rl k).1 < 1
        · rw [if_pos (by rw [show (1 : Int32) = nI 1 from rfl, n_lt (by omega) (by omega)]; exact c3)]
          exact s123 (fun z => by omega)
        · rw [if_neg (by rw [show (1 : Int32) = nI 1 from rfl, n_lt (by omega) (by omega)]; exact c3), armV_yes (by omega), has_R (by omega) (by omega)]
          by_cases c5 : bN R (ruA rl k).2.1 = 1
          · rw [c5, if_neg (by decide)]
            exact s123 (fun _ => c5)
          · rw [b01 c5, if_pos z0]
            exact no (fun q => c5 (q.2.2.1 (by omega)))
      · rw [b01 c2, if_pos z0]
        exact no (fun q => c2 q.2.1)
    · rw [b01 c1, if_pos z0]
      exact no (fun q => c1 q.1)
  · rintro _ rfl
    show Ok (b_X9_useful_52 (nI R) (nI (psU rl on R S rl.length)) w (nI rl.length) ρ) _
    unfold b_X9_useful_52
    rw [show (0 : Int32).toNatClampNeg = 0 from rfl, h2, if_pos (by rw [n_le (by omega) (by omega)]; omega)]
    exact Ok.some rfl
