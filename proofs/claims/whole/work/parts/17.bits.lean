/-! Integer.bitCount of at most sixteen bits -/
def bc1 (x : Nat) : Nat := x - (x / 2 &&& 1431655765)
def bc2 (y : Nat) : Nat := (y &&& 858993459) + (y / 4 &&& 858993459)
def bc3 (z : Nat) : Nat := (z + z / 16) &&& 252645135
def bcN (x : Nat) : Nat := (let w := bc3 (bc2 (bc1 x)); let u := w + w / 256; (u + u / 65536) &&& 63)
theorem bc_0 : ∀ a, a < 8 → ∀ b, b < 256 → bcN (256 * (0 + a) + b) = pop (256 * (0 + a) + b) 16 := by decide +kernel
theorem bc_1 : ∀ a, a < 8 → ∀ b, b < 256 → bcN (256 * (8 + a) + b) = pop (256 * (8 + a) + b) 16 := by decide +kernel
theorem bc_2 : ∀ a, a < 8 → ∀ b, b < 256 → bcN (256 * (16 + a) + b) = pop (256 * (16 + a) + b) 16 := by decide +kernel
theorem bc_3 : ∀ a, a < 8 → ∀ b, b < 256 → bcN (256 * (24 + a) + b) = pop (256 * (24 + a) + b) 16 := by decide +kernel
theorem bc_4 : ∀ a, a < 8 → ∀ b, b < 256 → bcN (256 * (32 + a) + b) = pop (256 * (32 + a) + b) 16 := by decide +kernel
theorem bc_5 : ∀ a, a < 8 → ∀ b, b < 256 → bcN (256 * (40 + a) + b) = pop (256 * (40 + a) + b) 16 := by decide +kernel
theorem bc_6 : ∀ a, a < 8 → ∀ b, b < 256 → bcN (256 * (48 + a) + b) = pop (256 * (48 + a) + b) 16 := by decide +kernel
theorem bc_7 : ∀ a, a < 8 → ∀ b, b < 256 → bcN (256 * (56 + a) + b) = pop (256 * (56 + a) + b) 16 := by decide +kernel
theorem bc_8 : ∀ a, a < 8 → ∀ b, b < 256 → bcN (256 * (64 + a) + b) = pop (256 * (64 + a) + b) 16 := by decide +kernel
theorem bc_9 : ∀ a, a < 8 → ∀ b, b < 256 → bcN (256 * (72 + a) + b) = pop (256 * (72 + a) + b) 16 := by decide +kernel
theorem bc_10 : ∀ a, a < 8 → ∀ b, b < 256 → bcN (256 * (80 + a) + b) = pop (256 * (80 + a) + b) 16 := by decide +kernel
theorem bc_11 : ∀ a, a < 8 → ∀ b, b < 256 → bcN (256 * (88 + a) + b) = pop (256 * (88 + a) + b) 16 := by decide +kernel
theorem bc_12 : ∀ a, a < 8 → ∀ b, b < 256 → bcN (256 * (96 + a) + b) = pop (256 * (96 + a) + b) 16 := by decide +kernel
theorem bc_13 : ∀ a, a < 8 → ∀ b, b < 256 → bcN (256 * (104 + a) + b) = pop (256 * (104 + a) + b) 16 := by decide +kernel
theorem bc_14 : ∀ a, a < 8 → ∀ b, b < 256 → bcN (256 * (112 + a) + b) = pop (256 * (112 + a) + b) 16 := by decide +kernel
theorem bc_15 : ∀ a, a < 8 → ∀ b, b < 256 → bcN (256 * (120 + a) + b) = pop (256 * (120 + a) + b) 16 := by decide +kernel
theorem bc_16 : ∀ a, a < 8 → ∀ b, b < 256 → bcN (256 * (128 + a) + b) = pop (256 * (128 + a) + b) 16 := by decide +kernel
theorem bc_17 : ∀ a, a < 8 → ∀ b, b < 256 → bcN (256 * (136 + a) + b) = pop (256 * (136 + a) + b) 16 := by decide +kernel
theorem bc_18 : ∀ a, a < 8 → ∀ b, b < 256 → bcN (256 * (144 + a) + b) = pop (256 * (144 + a) + b) 16 := by decide +kernel
theorem bc_19 : ∀ a, a < 8 → ∀ b, b < 256 → bcN (256 * (152 + a) + b) = pop (256 * (152 + a) + b) 16 := by decide +kernel
theorem bc_20 : ∀ a, a < 8 → ∀ b, b < 256 → bcN (256 * (160 + a) + b) = pop (256 * (160 + a) + b) 16 := by decide +kernel
theorem bc_21 : ∀ a, a < 8 → ∀ b, b < 256 → bcN (256 * (168 + a) + b) = pop (256 * (168 + a) + b) 16 := by decide +kernel
theorem bc_22 : ∀ a, a < 8 → ∀ b, b < 256 → bcN (256 * (176 + a) + b) = pop (256 * (176 + a) + b) 16 := by decide +kernel
theorem bc_23 : ∀ a, a < 8 → ∀ b, b < 256 → bcN (256 * (184 + a) + b) = pop (256 * (184 + a) + b) 16 := by decide +kernel
theorem bc_24 : ∀ a, a < 8 → ∀ b, b < 256 → bcN (256 * (192 + a) + b) = pop (256 * (192 + a) + b) 16 := by decide +kernel
theorem bc_25 : ∀ a, a < 8 → ∀ b, b < 256 → bcN (256 * (200 + a) + b) = pop (256 * (200 + a) + b) 16 := by decide +kernel
theorem bc_26 : ∀ a, a < 8 → ∀ b, b < 256 → bcN (256 * (208 + a) + b) = pop (256 * (208 + a) + b) 16 := by decide +kernel
theorem bc_27 : ∀ a, a < 8 → ∀ b, b < 256 → bcN (256 * (216 + a) + b) = pop (256 * (216 + a) + b) 16 := by decide +kernel
theorem bc_28 : ∀ a, a < 8 → ∀ b, b < 256 → bcN (256 * (224 + a) + b) = pop (256 * (224 + a) + b) 16 := by decide +kernel
theorem bc_29 : ∀ a, a < 8 → ∀ b, b < 256 → bcN (256 * (232 + a) + b) = pop (256 * (232 + a) + b) 16 := by decide +kernel
theorem bc_30 : ∀ a, a < 8 → ∀ b, b < 256 → bcN (256 * (240 + a) + b) = pop (256 * (240 + a) + b) 16 := by decide +kernel
theorem bc_31 : ∀ a, a < 8 → ∀ b, b < 256 → bcN (256 * (248 + a) + b) = pop (256 * (248 + a) + b) 16 := by decide +kernel
theorem bc_pop {x : Nat} (hx : x < 65536) : bcN x = pop x 16 := by
  have h1 : x / 256 % 8 < 8 := by omega
  have h2 : x % 256 < 256 := by omega
  have h3 : x / 2048 < 32 := by omega
  have e : x = 256 * (8 * (x / 2048) + x / 256 % 8) + x % 256 := by omega
  rw [e]
  generalize x / 256 % 8 = a at h1 ⊢
  generalize x % 256 = b at h2 ⊢
  generalize x / 2048 = k at h3 ⊢
  match k, h3 with
  | 0, _ => exact bc_0 a h1 b h2
  | 1, _ => exact bc_1 a h1 b h2
  | 2, _ => exact bc_2 a h1 b h2
  | 3, _ => exact bc_3 a h1 b h2
  | 4, _ => exact bc_4 a h1 b h2
  | 5, _ => exact bc_5 a h1 b h2
  | 6, _ => exact bc_6 a h1 b h2
  | 7, _ => exact bc_7 a h1 b h2
  | 8, _ => exact bc_8 a h1 b h2
  | 9, _ => exact bc_9 a h1 b h2
  | 10, _ => exact bc_10 a h1 b h2
  | 11, _ => exact bc_11 a h1 b h2
  | 12, _ => exact bc_12 a h1 b h2
  | 13, _ => exact bc_13 a h1 b h2
  | 14, _ => exact bc_14 a h1 b h2
  | 15, _ => exact bc_15 a h1 b h2
  | 16, _ => exact bc_16 a h1 b h2
  | 17, _ => exact bc_17 a h1 b h2
  | 18, _ => exact bc_18 a h1 b h2
  | 19, _ => exact bc_19 a h1 b h2
  | 20, _ => exact bc_20 a h1 b h2
  | 21, _ => exact bc_21 a h1 b h2
  | 22, _ => exact bc_22 a h1 b h2
  | 23, _ => exact bc_23 a h1 b h2
  | 24, _ => exact bc_24 a h1 b h2
  | 25, _ => exact bc_25 a h1 b h2
  | 26, _ => exact bc_26 a h1 b h2
  | 27, _ => exact bc_27 a h1 b h2
  | 28, _ => exact bc_28 a h1 b h2
  | 29, _ => exact bc_29 a h1 b h2
  | 30, _ => exact bc_30 a h1 b h2
  | 31, _ => exact bc_31 a h1 b h2
  | k + 32, h => exact absurd h (by omega)
theorem n_ush {n k : Nat} (hn : n < 4294967296) (s : Int32) (hs : ((s.toUInt32 &&& Int32.toUInt32 31).toBitVec % 32).toNat = k) : ((nI n).toUInt32 >>> (s.toUInt32 &&& Int32.toUInt32 31)).toInt32 = nI (n / 2 ^ k) := pk_ushrN (by simpa using hn) s k hs
theorem bitCount_C {x : Nat} (hx : x < 65536) : f_J6_bitCount_0f7a4 (nI x) = nI (pop x 16) := by
  rw [← bc_pop hx]
  unfold f_J6_bitCount_0f7a4
  simp only [lt_eq]
  have hb1 : bc1 x < 65536 := by unfold bc1; omega
  have hb2 : bc2 (bc1 x) < 4294967296 := by
    unfold bc2
    have h1 : bc1 x &&& 858993459 ≤ 858993459 := Nat.and_le_right
    have h2 : bc1 x / 4 &&& 858993459 ≤ 858993459 := Nat.and_le_right
    omega
  have hb3 : bc3 (bc2 (bc1 x)) ≤ 252645135 := Nat.and_le_right
  have e1 : nI x - ((((nI x).toUInt32 >>> ((1 : Int32).toUInt32 &&& Int32.toUInt32 31)).toInt32) &&& (1431655765 : Int32)) = nI (bc1 x) := by
    rw [n_ush (k := 1) (by omega) 1 (by decide), show (1431655765 : Int32) = nI 1431655765 from rfl, n_and, n_sub]
    · rfl
    · have : x / 2 ^ 1 &&& 1431655765 ≤ x / 2 ^ 1 := Nat.and_le_left
      omega
  rw [e1]
  have e2 : (nI (bc1 x) &&& (858993459 : Int32)) + ((((nI (bc1 x)).toUInt32 >>> ((2 : Int32).toUInt32 &&& Int32.toUInt32 31)).toInt32) &&& (858993459 : Int32)) = nI (bc2 (bc1 x)) := by
    rw [n_ush (k := 2) (by omega) 2 (by decide), show (858993459 : Int32) = nI 858993459 from rfl, n_and, n_and, n_add]
    rfl
  rw [e2]
  have e3 : (nI (bc2 (bc1 x)) + (((nI (bc2 (bc1 x))).toUInt32 >>> ((4 : Int32).toUInt32 &&& Int32.toUInt32 31)).toInt32)) &&& (252645135 : Int32) = nI (bc3 (bc2 (bc1 x))) := by
    rw [n_ush (k := 4) hb2 4 (by decide), show (252645135 : Int32) = nI 252645135 from rfl, n_add, n_and]
    rfl
  rw [e3]
  rw [n_ush (k := 8) (by omega) 8 (by decide), n_add, n_ush (k := 16) (by omega) 16 (by decide), n_add, show (63 : Int32) = nI 63 from rfl, n_and]
  rfl
