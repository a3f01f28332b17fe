/-! long numbers -/
def nJ (n : Nat) : Int64 := Int64.ofNat n
theorem nJ_or (a b : Nat) : nJ a ||| nJ b = nJ (a ||| b) := by
  rw [← Int64.toBitVec_inj, Int64.toBitVec_or]
  show BitVec.ofNat 64 a ||| BitVec.ofNat 64 b = BitVec.ofNat 64 (a ||| b)
  rw [BitVec.ofNat_or]
theorem nJ_add (a b : Nat) : nJ a + nJ b = nJ (a + b) := by
  rw [← Int64.toBitVec_inj, Int64.toBitVec_add]
  show BitVec.ofNat 64 a + BitVec.ofNat 64 b = BitVec.ofNat 64 (a + b)
  rw [BitVec.ofNat_add]
theorem nJ_mul (a b : Nat) : nJ a * nJ b = nJ (a * b) := by
  rw [← Int64.toBitVec_inj, Int64.toBitVec_mul]
  show BitVec.ofNat 64 a * BitVec.ofNat 64 b = BitVec.ofNat 64 (a * b)
  rw [BitVec.ofNat_mul]
theorem nJ_toInt {a : Nat} (h : a < 9223372036854775808) : (nJ a).toInt = a := Int64.toInt_ofNat_of_lt (by simpa using h)
theorem nJ_le {a b : Nat} (ha : a < 9223372036854775808) (hb : b < 9223372036854775808) : (nJ a ≤ nJ b) = (a ≤ b) := by
  apply propext
  rw [Int64.le_iff_toInt_le, nJ_toInt ha, nJ_toInt hb]
  omega
theorem nJ_lt {a b : Nat} (ha : a < 9223372036854775808) (hb : b < 9223372036854775808) : (nJ a < nJ b) = (a < b) := by
  apply propext
  rw [Int64.lt_iff_toInt_lt, nJ_toInt ha, nJ_toInt hb]
  omega
theorem nJ_inj {a b : Nat} (ha : a < 9223372036854775808) (hb : b < 9223372036854775808) : (nJ a = nJ b) = (a = b) := by
  apply propext
  constructor
  · intro e
    have := congrArg Int64.toInt e
    rw [nJ_toInt ha, nJ_toInt hb] at this
    omega
  · intro e
    rw [e]
theorem nJ_toI (m : Nat) : (nJ m).toInt32 = nI m := by
  rw [← Int32.toBitVec_inj, Int64.toBitVec_toInt32]
  show (BitVec.ofNat 64 m).signExtend 32 = BitVec.ofNat 32 m
  rw [BitVec.signExtend_eq_setWidth_of_le _ (by decide)]
  apply BitVec.eq_of_toNat_eq
  simp
set_option maxRecDepth 20000 in
theorem codeStep : ∀ i : Fin 31, ∀ st : Fin 4, f_X0_codeOfStep (nI st.val) (nI i.val) = nJ (st.val * 4 ^ (30 - i.val)) := by decide +kernel
set_option maxRecDepth 20000 in
theorem shAmt : ∀ i : Fin 31, ((((2 : Int32) * ((30 : Int32) - nI i.val)).toInt64 &&& 63).toBitVec.smod 64).toNat = 2 * (30 - i.val) := by decide +kernel
theorem stepIn {d i : Nat} (hd : d < 9223372036854775808) (hi : i < 31) : f_X0_stepInCode (nJ d) (nI i) = nI (d / 4 ^ (30 - i) % 4) := by
  have hs := shAmt ⟨i, hi⟩
  simp only at hs
  have e : (nJ d) >>> (((2 : Int32) * ((30 : Int32) - nI i)).toInt64 &&& 63) = nJ (d / 4 ^ (30 - i)) := by
    rw [← Int64.toBitVec_inj]
    rw [Int64.toBitVec_shiftRight]
    show (BitVec.ofNat 64 d).sshiftRight' _ = BitVec.ofNat 64 (d / 4 ^ (30 - i))
    rw [BitVec.sshiftRight', hs, BitVec.sshiftRight_eq_of_msb_false]
    · apply BitVec.eq_of_toNat_eq
      rw [BitVec.toNat_ushiftRight, BitVec.toNat_ofNat, BitVec.toNat_ofNat, Nat.mod_eq_of_lt (by omega), Nat.shiftRight_eq_div_pow, show (4 : Nat) = 2 ^ 2 from rfl, ← Nat.pow_mul]
      rw [Nat.mod_eq_of_lt]
      exact Nat.lt_of_le_of_lt (Nat.div_le_self _ _) (by omega)
    · rw [BitVec.msb_eq_decide, BitVec.toNat_ofNat, Nat.mod_eq_of_lt (by omega)]
      simp
      omega
  unfold f_X0_stepInCode
  rw [e, nJ_toI, show (3 : Int32) = nI 3 from rfl, n_and]
  congr 1
  exact Nat.and_two_pow_sub_one_eq_mod (d / 4 ^ (30 - i)) 2
theorem or_add {a b k : Nat} (ha : 4 ^ k ∣ a) (hb : b < 4 ^ k) : a ||| b = a + b := by
  obtain ⟨m, rfl⟩ := ha
  rw [show (4 : Nat) = 2 ^ 2 from rfl, ← Nat.pow_mul] at hb ⊢
  exact (Nat.two_pow_add_eq_or_of_lt hb m).symm
