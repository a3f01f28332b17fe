/-! the class's pairs: results of rules, a pair added -/
theorem one32F : ∀ i : Fin 32, ¬ i.val = 0 → (1#32)[i.val] = false := by decide
theorem bit32 {a k : Nat} (ha : a < 4294967296) (hk : k < 32) : f_X8_bit (nI a) (nI k) = nI (bN a k) := by
  show (nI a >>> (nI k &&& 31)) &&& 1 = nI (bN a k)
  have hs : ((nI k &&& 31).toBitVec.smod 32).toNat = k := sh31 k hk
  rw [← Int32.toBitVec_inj, Int32.toBitVec_and, Int32.toBitVec_shiftRight]
  show (BitVec.ofNat 32 a).sshiftRight' _ &&& 1#32 = BitVec.ofNat 32 (bN a k)
  rw [BitVec.sshiftRight', hs]
  have hb := bN_lt a k
  apply BitVec.eq_of_getElem_eq
  intro i hi
  rw [BitVec.getElem_and, BitVec.getElem_sshiftRight]
  by_cases c : i = 0
  · subst c
    have h0 : (BitVec.ofNat 32 a).getLsbD k = a.testBit k := by rw [BitVec.getLsbD_ofNat]; simp [hk]
    have e : (BitVec.ofNat 32 (bN a k))[0] = decide (bN a k = 1) := by
      rcases (show bN a k = 0 ∨ bN a k = 1 by omega) with w | w <;> rw [w] <;> simp
    rw [e]
    have e2 : decide (bN a k = 1) = a.testBit k := by
      have := bN_test a k
      by_cases z : bN a k = 1
      · rw [this.mp z]; simp [z]
      · have : a.testBit k ≠ true := fun w => z (this.mpr w)
        simp only [Bool.not_eq_true] at this
        rw [this]; simp [z]
    rw [e2]
    simp [hk]
    rw [← BitVec.getLsbD_eq_getElem]
    exact h0
  · have e1 : (1#32)[i] = false := by
      exact one32F ⟨i, hi⟩ c
    have e2 : (BitVec.ofNat 32 (bN a k))[i] = false := by
      rcases (show bN a k = 0 ∨ bN a k = 1 by omega) with w | w
      · rw [w]; simp
      · rw [w]; exact e1
    rw [e1, e2]
    simp
theorem nI_zero {v : Nat} (hv : v < 4294967296) : nI v = 0 ↔ v = 0 := by
  constructor
  · intro e
    have h2 : (nI v).toBitVec.toNat = (0 : Int32).toBitVec.toNat := by rw [e]
    have e1 : (nI v).toBitVec.toNat = v := by
      show (BitVec.ofNat 32 v).toNat = v
      rw [BitVec.toNat_ofNat, Nat.mod_eq_of_lt hv]
    rw [e1] at h2
    exact h2
  · rintro rfl
    rfl
theorem n_16 (k : Nat) : nI k + 16 = nI (k + 16) := n_add k 16
theorem n_6 (k : Nat) : nI k + 6 = nI (k + 6) := n_add k 6
theorem results_C {σ : Mem} {rl : List Ru} {on on' s v : Nat} {x y : PX} (hL : LawC σ 29 rl) (hrl : ∀ r ∈ rl, OkRu r) (hll : rl.length ≤ 16) (hv : v < 4294967296) (hf : FitV rl on on' s x y v) : f_X4_resultsOf (nI v) σ = some (nI (encX (stX rl on on' s x y))) := by
  refine Ok.eq ?_
  unfold f_X4_resultsOf
  refine Ok.bind (P := fun r => r = nI (encX (stX rl on on' s x y))) ?_ (fun r hr => Ok.some hr)
  refine Ok.for rl.length (fun k st => st = (nI (outK rl on s x.1 y.1 k + 64 * outK rl on' s x.2 y.2 k), nI k)) ?_ ?_ 0 (by omega) _ (by rw [outK, outK]; rfl)
  · rintro k _ hk rfl
    show Ok (b_X4_resultsOf_4 (nI v) (nI (outK rl on s x.1 y.1 k + 64 * outK rl on' s x.2 y.2 k)) (nI k) σ) _
    obtain ⟨m1, m2, m3, m4⟩ := hL.2 k hk
    obtain ⟨r1, r2, r3, r4⟩ := ruL_ok hrl hk
    obtain ⟨f1, f2⟩ := hf k (by omega)
    have b1 := bN_lt v k
    have b2 := bN_lt v (k + 16)
    have pl : 2 ^ (ruA rl k).2.2.2 ≤ 2 ^ 5 := Nat.pow_le_pow_right (by omega) (by omega)
    have pe : 2 ^ ((ruA rl k).2.2.2 + 6) = 2 ^ (ruA rl k).2.2.2 * 64 := by rw [Nat.pow_add]
    have q1 : bN v k * 2 ^ (ruA rl k).2.2.2 < 64 := by
      rcases (show bN v k = 0 ∨ bN v k = 1 by omega) with w | w <;> rw [w] <;> omega
    have q2 : bN v (k + 16) * 2 ^ (ruA rl k).2.2.2 < 64 := by
      rcases (show bN v (k + 16) = 0 ∨ bN v (k + 16) = 1 by omega) with w | w <;> rw [w] <;> omega
    unfold b_X4_resultsOf_4
    rw [hL.1, if_neg (by rw [n_le (by omega) (by omega)]; omega)]
    by_cases z : v = 0
    · rw [if_pos ((nI_zero hv).mpr z)]
      refine Ok.some ?_
      have n1 : ∀ k, k < rl.length → ¬ (bN on k = 1 ∧ (ruA rl k).1 = s ∧ fitR (ruA rl k) x.1 y.1) := by
        intro j hj w
        have := (hf j (by omega)).1.mpr ⟨hj, w⟩
        rw [z, bN_zero] at this
        omega
      have n2 : ∀ k, k < rl.length → ¬ (bN on' k = 1 ∧ (ruA rl k).1 = s ∧ fitR (ruA rl k) x.2 y.2) := by
        intro j hj w
        have := (hf j (by omega)).2.mpr ⟨hj, w⟩
        rw [z, bN_zero] at this
        omega
      unfold encX stX outc
      rw [outK_none n1 k (by omega), outK_none n2 k (by omega), outK_none n1 _ (Nat.le_refl _), outK_none n2 _ (Nat.le_refl _)]
    · rw [if_neg (fun w => z ((nI_zero hv).mp w)), gd_ix (by omega) (by omega)]
      simp only [n_cl (show k < 2147483648 by omega), m4, bit32 hv (show k < 32 by omega), n_16, n_6, bit32 hv (show k + 16 < 32 by omega), gd_ix (show k < 16 by omega) (by omega), lt_eq, n_suc]
      rw [n_shl (by omega) (by omega), n_shl (by omega) (by rw [pe, ← Nat.mul_assoc]; omega), n_or, n_or]
      refine Ok.some ?_
      rw [pe, ← Nat.mul_assoc, or64 (outK_lt hrl on s x.1 y.1 k (by omega)) q1, outK_bit b1 (by rw [f1]; exact ⟨fun w => w.2, fun w => ⟨hk, w⟩⟩), outK_bit b2 (by rw [f2]; exact ⟨fun w => w.2, fun w => ⟨hk, w⟩⟩)]
  · rintro _ rfl
    show Ok (b_X4_resultsOf_4 (nI v) (nI (outK rl on s x.1 y.1 rl.length + 64 * outK rl on' s x.2 y.2 rl.length)) (nI rl.length) σ) _
    unfold b_X4_resultsOf_4
    rw [hL.1, if_pos (by rw [n_le (by omega) (by omega)]; omega)]
    exact Ok.some rfl
