/-! type -/
theorem byte_twice (x : Int32) : x.toInt8.toInt32.toInt8.toInt32 = x.toInt8.toInt32 := by simp
theorem hi255F : ∀ i : Fin 32, ¬ i.val < 8 → (255#32)[i.val] = false := by decide
theorem hi255 (i : Nat) (hi : i < 32) (h : ¬ i < 8) : (255#32)[i] = false := hi255F ⟨i, hi⟩ h
theorem byte_and (x : Int32) : x.toInt8.toInt32 &&& 255 = x &&& 255 := by
  rw [← Int32.toBitVec_inj]
  simp only [Int32.toBitVec_and, Int8.toBitVec_toInt32, Int32.toBitVec_toInt8]
  rw [show (255 : Int32).toBitVec = 255#32 from rfl]
  ext i hi
  simp only [BitVec.getElem_and]
  by_cases h8 : i < 8
  · simp [BitVec.getElem_signExtend, h8, hi]
  · have : (255#32)[i] = false := hi255 i hi h8
    rw [this]
    simp
theorem long_and (x : Int64) : (x &&& 255).toInt32 &&& 255 = x.toInt32 &&& 255 := by
  rw [← Int32.toBitVec_inj]
  simp only [Int32.toBitVec_and, Int64.toBitVec_toInt32, Int64.toBitVec_and]
  rw [show (255 : Int32).toBitVec = 255#32 from rfl, show (255 : Int64).toBitVec = 255#64 from rfl]
  ext i hi
  simp only [BitVec.getElem_and, BitVec.getElem_setWidth]
  by_cases h8 : i < 8
  · have h : ∀ i : Fin 32, i.val < 8 → (255#64).getLsbD i.val = true := by decide
    simp [h ⟨i, hi⟩ h8]
  · have : (255#32)[i] = false := hi255 i hi h8
    rw [this]
    simp
