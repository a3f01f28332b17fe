/-! useful: the reference's loops -/
def orX (xs : Nat → PX) : Nat → Nat
  | 0 => 0
  | k + 1 => orX xs k ||| (xs k).1
theorem orX_in (xs : Nat → PX) (q : Nat) : ∀ k, bN (orX xs k) q = 1 ↔ ∃ i, i < k ∧ bN (xs i).1 q = 1
  | 0 => by
    rw [orX, bN_zero]
    exact ⟨fun h => absurd h (by omega), fun ⟨i, h, _⟩ => by omega⟩
  | k + 1 => by
    rw [orX, bN_or, orX_in xs q k]
    constructor
    · rintro (⟨i, h, g⟩ | g)
      · exact ⟨i, by omega, g⟩
      · exact ⟨k, by omega, g⟩
    · rintro ⟨i, h, g⟩
      by_cases c : i = k
      · subst c; exact Or.inr g
      · exact Or.inl ⟨i, by omega, g⟩
theorem orX_lt {xs : Nat → PX} {n : Nat} (h : ∀ k, k < n → (xs k).1 < 64) : ∀ k, k ≤ n → orX xs k < 64
  | 0, _ => by rw [orX]; decide
  | k + 1, hk => Nat.or_lt_two_pow (n := 6) (orX_lt h k (by omega)) (h k (by omega))
theorem bN_ext {a b : Nat} (h : ∀ k, bN a k = 1 ↔ bN b k = 1) : a = b := by
  apply Nat.eq_of_testBit_eq
  intro i
  have e := h i
  rw [bN_test, bN_test] at e
  cases ha : a.testBit i <;> cases hb : b.testBit i <;> simp_all
theorem not_m1 {a : Nat} (h : a < 2147483648) : ¬ nI a = -1 := fun e => absurd (show nI a < 0 by rw [e]; decide) (not_n0 h)
theorem useful_RC {A : AS} {σ ρ : Mem} (h : RepC A σ) (g : RepR A ρ) (hA : WfA A) : ∃ v ρ', f_X8_useful σ = some v ∧ f_X9_useful ρ = some (v, ρ') ∧ RepR A ρ' := by
  have hrl := hA.2.2.1
  have hll := hA.2.2.2.1
  have ho := hA.2.2.2.2.1
  have hgd := hA.2.2.2.2.2.1
  obtain ⟨ρ', r1, r2, r3, n, xs, r4⟩ := findOwn_R g hA
  refine ⟨nI (useS (rlA A) (onA A) (gdA A)), ρ', ?_, ?_, r2⟩
  · unfold f_X8_useful
    rw [h.2.2.2.1.1, h.2.2.2.1.2, useful_C h.2.2.1 hrl hll ho hgd]
    rfl
  · have h2 := r2.2.1.1
    have hL := r2.2.1.2
    have h7 := r2.2.2.1.1
    have h71 := r2.2.2.1.2.1
    have ok0 : ∀ S, S < 64 → (fun S => psR (rlA A) (onA A) S (rlA A).length) S < 64 ∧ subB S ((fun S => psR (rlA A) (onA A) S (rlA A).length) S) := fun S hS => psR_ok hrl (onA A) hS _ (Nat.le_refl _)
    have rlt : rchS (rlA A) (onA A) < 64 := itrN_ok ok0 (by omega) 6
    have ok : ∀ S, S < 64 → (fun S => psU (rlA A) (onA A) (rchS (rlA A) (onA A)) S (rlA A).length) S < 64 ∧ subB S ((fun S => psU (rlA A) (onA A) (rchS (rlA A) (onA A)) S (rlA A).length) S) := fun S hS => psU_ok hrl (onA A) _ hS _ (Nat.le_refl _)
    have s0 : rchS (rlA A) (onA A) &&& gdA A < 64 := Nat.lt_of_le_of_lt Nat.and_le_left rlt
    have n120 := r4.1.2.1
    have eR : orX xs n = rchS (rlA A) (onA A) := by
      apply bN_ext
      intro q
      rw [orX_in, rch_iff hrl]
      constructor
      · rintro ⟨i, i1, i2⟩
        exact ⟨xs i, r4.1.2.2.2.2 i i1, i2⟩
      · rintro ⟨x, x1, x2⟩
        obtain ⟨k, k1, k2⟩ := r4.cl.all x1
        exact ⟨k, k1, by rw [k2]; exact x2⟩
    refine Ok.eq ?_
    unfold f_X9_useful
    rw [r1, Option.bind_some]
    refine Ok.bind (P := fun r => r = nI (rchS (rlA A) (onA A))) ?_ ?_
    · refine Ok.for n (fun k st => st = (nI (orX xs k), nI k)) ?_ ?_ 0 (by omega) _ rfl
      · rintro k _ hk rfl
        show Ok (b_X9_useful_8 (nI (orX xs k)) (nI k) ρ') _
        unfold b_X9_useful_8
        rw [r4.1.1, if_neg (by rw [n_le (by omega) (by omega)]; omega), gd_ix (by omega) (by omega), n_cl (by omega), (r4.1.2.2.1 k hk).1]
        refine Ok.lt (Ok.lt (Ok.some ?_))
        rw [n_or, n_suc]
        rfl
      · rintro _ rfl
        show Ok (b_X9_useful_8 (nI (orX xs n)) (nI n) ρ') _
        unfold b_X9_useful_8
        rw [r4.1.1, if_pos (by rw [n_le (by omega) (by omega)]; omega)]
        refine Ok.some ?_
        show nI (orX xs n) = _
        rw [eR]
    · rintro _ rfl
      rw [show (1 : Int32).toNatClampNeg = 0 + 1 from rfl, h71, n_and]
      refine Ok.lt (Ok.bind (P := fun r => r = nI (useS (rlA A) (onA A) (gdA A))) ?_ ?_)
      · unfold useS
        generalize rchS (rlA A) (onA A) = R at *
        generalize hf : (fun S => psU (rlA A) (onA A) R S (rlA A).length) = f at *
        have f6 : f (itrN f 6 (R &&& gdA A)) = itrN f 6 (R &&& gdA A) := fix6 ok s0
        refine Ok.for 7 (fun m st => ∃ w, st = (nI R, nI (itrN f m (R &&& gdA A)), w) ∧ ((m = 0 ∧ w = -1) ∨ ∃ k, m = k + 1 ∧ w = nI (itrN f k (R &&& gdA A)))) ?_ ?_ 0 (by omega) _ ⟨-1, rfl, Or.inl ⟨rfl, rfl⟩⟩
        · rintro m _ hm ⟨w, rfl, hw⟩
          show Ok (b_X9_useful_42 (nI R) (nI (itrN f m (R &&& gdA A))) w ρ') _
          unfold b_X9_useful_42
          have lt := itrN_ok ok s0 m
          refine Ok.ite (fun c => ?_) (fun c => ?_)
          · refine Ok.some ?_
            show nI (itrN f m (R &&& gdA A)) = nI (itrN f 6 (R &&& gdA A))
            rcases hw with ⟨e, e2⟩ | ⟨k, e, e2⟩
            · rw [e2] at c
              exact absurd c (not_m1 (by omega))
            · have lt2 := itrN_ok ok s0 k
              rw [e2, n_eq (by omega) (by omega)] at c
              subst e
              rw [itrN_fix (n := k) c 6 (by omega), c]
          · refine Ok.bind (pass_R h2 hL h7 hrl hll ho rlt lt) ?_
            rintro _ rfl
            refine Ok.some ?_
            refine ⟨_, ?_, Or.inr ⟨m, rfl, rfl⟩⟩
            rw [← hf]
            rfl
        · rintro _ ⟨w, rfl, hw⟩
          show Ok (b_X9_useful_42 (nI R) (nI (itrN f 7 (R &&& gdA A))) w ρ') _
          unfold b_X9_useful_42
          rcases hw with ⟨e, e2⟩ | ⟨k, e, e2⟩
          · omega
          · have : k = 6 := by omega
            subst this
            have e7 : itrN f 7 (R &&& gdA A) = itrN f 6 (R &&& gdA A) := f6
            rw [e2, e7, if_pos rfl]
            exact Ok.some rfl
      · rintro _ rfl
        exact Ok.some rfl
