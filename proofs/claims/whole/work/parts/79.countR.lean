/-! the reference's trees -/
def adR (q k : Nat) : Nat := 120 * k + q
theorem adR_inj {N : Nat} (hN : N ≤ 120) : InjA adR N := by
  intro q k e n hq he hk hn h
  unfold adR at h
  constructor <;> omega
theorem cmpPos {v : Nat} (h : v < 9223372036854775808) : (lg_cmp (nJ v) 0 ≤ 0) ↔ v = 0 := by
  unfold lg_cmp
  by_cases c : v = 0
  · subst c
    exact ⟨fun _ => rfl, fun _ => by decide⟩
  · have : (0 : Int64) < nJ v := by
      rw [show (0 : Int64) = nJ 0 from rfl, nJ_lt (by omega) h]; omega
    rw [if_pos this]
    exact ⟨fun z => absurd z (by decide), fun z => absurd z c⟩
theorem addTwo_R {ρ : Mem} {st : Nat → PX → PX → PX} {N n k i s : Nat} {xs : Nat → PX} {T : Nat → Nat → Nat} (h : TA ρ 25 adR N T) (hN : N ≤ 120) (h22 : ρ.1 0 22 = nI N) (hd : ∀ i j, i < N → j < N → xs i = xs j → i = j) (hU : ∀ j, j < N → T2 ρ st N xs s i j) (hn : n < 16) (hk1 : 1 ≤ k) (hk : k + 1 < n) (hi : i < N) (hs : s < 2) (hb : T i k < 9223372036854775808) : Ok (f_X9_addTwo (nI n) (nI k) (nI i) (nI s) ρ) (fun τ => TA τ 25 adR N (addC T n (fun q => sumN (fun j => T i k * T j (n - 1 - k) * i01 (st (6 + s) (xs i) (xs j) = xs q)) N)) ∧ FrJ 25 ρ τ) := by
  unfold f_X9_addTwo
  rw [show (120 : Int32) = nI 120 from rfl, n_mul, n_add, gd_ix (by omega) (by omega), n_cl (by omega)]
  have r := h i k hi (by omega)
  unfold adR at r
  rw [r]
  refine Ok.lt (Ok.bind (P := fun τ => TA τ 25 adR N (addC T n (fun q => sumN (fun j => T i k * T j (n - 1 - k) * i01 (st (6 + s) (xs i) (xs j) = xs q)) N)) ∧ FrJ 25 ρ τ) ?_ (fun τ hτ => Ok.some hτ))
  refine Ok.for N (fun j z => z.1 = nJ (T i k) ∧ z.2.1 = nI j ∧ TA z.2.2 25 adR N (addC T n (fun q => sumN (fun j => T i k * T j (n - 1 - k) * i01 (st (6 + s) (xs i) (xs j) = xs q)) j)) ∧ FrJ 25 ρ z.2.2) ?_ ?_ 0 (by omega) _ ⟨rfl, rfl, ?_, FrJ.rf⟩
  · rintro j ⟨_, _, τ⟩ hj ⟨rfl, rfl, hT, fr⟩
    simp only at hT fr
    show Ok (b_X9_addTwo_16 (nI n) (nI k) (nI i) (nI s) (nJ (T i k)) (nI j) τ) _
    unfold b_X9_addTwo_16
    rw [fr.1, h22, if_neg (by rw [n_le (by omega) (by omega)]; omega)]
    by_cases c : T i k = 0
    · rw [if_pos ((cmpPos hb).mpr c)]
      refine Ok.some ⟨hT.cg (fun q hq => ?_), fr⟩
      rw [sumN_0 (fun a _ => by rw [c, Nat.zero_mul, Nat.zero_mul]), sumN_0 (fun a _ => by rw [c, Nat.zero_mul, Nat.zero_mul])]
    · rw [if_neg (fun z => c ((cmpPos hb).mp z))]
      obtain ⟨e, e1, e2, e3⟩ := hU j hj
      simp only [show (120 : Int32) = nI 120 from rfl, show (14400 : Int32) = nI 14400 from rfl, show (1 : Int32) = nI 1 from rfl, n_mul, n_add, n_sub (show 1 ≤ n by omega), n_sub (show k ≤ n - 1 by omega), n_cl (show 14400 * s + 120 * i + j < 2147483648 by omega), fr.1, e2, gd_ix (show 14400 * s + 120 * i + j < 28800 by omega) (by omega), gd_ix (show 120 * n + e < 1920 by omega) (by omega), gd_ix (show 120 * (n - 1 - k) + j < 1920 by omega) (by omega), n_cl (show 120 * n + e < 2147483648 by omega), n_cl (show 120 * (n - 1 - k) + j < 2147483648 by omega)]
      have r2 := hT j (n - 1 - k) hj (by omega)
      rw [addC_ne (by omega)] at r2
      unfold adR at r2
      rw [r2, nJ_mul]
      refine Ok.lt (Ok.lt (Ok.some ⟨rfl, rfl, ?_, fr.tr FrJ.sJ⟩))
      have := TA.add (v := T i k * T j (n - 1 - k)) hT (adR_inj hN) e1 hn
      rw [addC_add] at this
      refine TA.cg this (fun q hq => ?_)
      rw [sumN, hit hd e1 hq e3]
  · rintro ⟨_, _, τ⟩ ⟨rfl, rfl, hT, fr⟩
    simp only at hT fr
    show Ok (b_X9_addTwo_16 (nI n) (nI k) (nI i) (nI s) (nJ (T i k)) (nI N) τ) _
    unfold b_X9_addTwo_16
    rw [fr.1, h22, if_pos (by rw [n_le (by omega) (by omega)]; omega)]
    exact Ok.some ⟨hT, fr⟩
  · show TA ρ 25 adR N (addC T n (fun _ => 0))
    rw [addC_0]; exact h
/-- all splits over one left arm and one sign -/
theorem splits_R {ρ : Mem} {st : Nat → PX → PX → PX} {N n i s : Nat} {a1 : Int32} {xs : Nat → PX} {T : Nat → Nat → Nat} (h : TA ρ 25 adR N T) (hN : N ≤ 120) (h22 : ρ.1 0 22 = nI N) (hd : ∀ i j, i < N → j < N → xs i = xs j → i = j) (hU : ∀ j, j < N → T2 ρ st N xs s i j) (hn : n < 16) (hn2 : 2 ≤ n) (hi : i < N) (hs : s < 2) (h0 : T i 0 = 0) (hb : ∀ k, k < n → k ≤ 13 → T i k < 9223372036854775808) : Ok (Lim (T := (Int32 × Int32 × Int32 × Mem)) (fun z => b_X9_findTrees_120 a1 z.1 z.2.1 z.2.2.1 z.2.2.2.1 z.2.2.2.2) (nI n, nI i, nI s, (1 : Int32), ρ)) (fun r => r.1 = nI n ∧ r.2.1 = nI i ∧ r.2.2.1 = nI s ∧ TA r.2.2.2 25 adR N (addC T n (fun q => sumN (fun k => T i k * sumN (fun j => T j (n - 1 - k) * i01 (st (6 + s) (xs i) (xs j) = xs q)) N) (n - 1))) ∧ FrJ 25 ρ r.2.2.2) := by
  refine Ok.for (n - 1) (fun k z => 1 ≤ k ∧ z.1 = nI n ∧ z.2.1 = nI i ∧ z.2.2.1 = nI s ∧ z.2.2.2.1 = nI k ∧ TA z.2.2.2.2 25 adR N (addC T n (fun q => sumN (fun k => T i k * sumN (fun j => T j (n - 1 - k) * i01 (st (6 + s) (xs i) (xs j) = xs q)) N) k)) ∧ FrJ 25 ρ z.2.2.2.2) ?_ ?_ 1 (by omega) _ ⟨Nat.le_refl _, rfl, rfl, rfl, rfl, ?_, FrJ.rf⟩
  · rintro k ⟨_, _, _, _, τ⟩ hk ⟨k1, rfl, rfl, rfl, rfl, hT, fr⟩
    simp only at hT fr
    show Ok (b_X9_findTrees_120 a1 (nI n) (nI i) (nI s) (nI k) τ) _
    unfold b_X9_findTrees_120
    rw [show (1 : Int32) = nI 1 from rfl, n_sub (by omega), if_neg (by rw [n_le (by omega) (by omega)]; omega)]
    refine Ok.bind (addTwo_R (st := st) (xs := xs) hT hN (by rw [fr.1]; exact h22) hd (fun j hj => by unfold T2; rw [fr.1]; exact hU j hj) hn k1 (by omega) hi hs (by rw [addC_ne (by omega)]; exact hb k (by omega) (by omega))) ?_
    rintro υ ⟨hυ, fυ⟩
    refine Ok.lt (Ok.some ⟨by omega, rfl, rfl, rfl, n_add k 1, ?_, fr.tr fυ⟩)
    rw [addC_add] at hυ
    refine TA.cg hυ (fun q hq => ?_)
    rw [sumN]
    congr 1
    rw [← sumN_mul]
    refine sumN_ext (fun j hj => ?_)
    rw [addC_ne (by omega), addC_ne (by omega), Nat.mul_assoc]
  · rintro ⟨_, _, _, _, τ⟩ ⟨k1, rfl, rfl, rfl, rfl, hT, fr⟩
    simp only at hT fr
    show Ok (b_X9_findTrees_120 a1 (nI n) (nI i) (nI s) (nI (n - 1)) τ) _
    unfold b_X9_findTrees_120
    rw [show (1 : Int32) = nI 1 from rfl, n_sub (by omega), if_pos (by rw [n_le (by omega) (by omega)]; omega)]
    exact Ok.some ⟨rfl, rfl, rfl, hT, fr⟩
  · show TA ρ 25 adR N (addC T n (fun q => 0 + T i 0 * _))
    rw [h0]
    simp only [Nat.zero_mul, Nat.add_zero]
    rw [addC_0]; exact h
