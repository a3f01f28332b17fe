/-! the law: worlds out of the constructors, calls of both sides -/
def σc0 : Mem := (fun o => if o = 9 then (fun k => if k = 15 then -1 else if k = 16 then -1 else 0) else fun _ => 0, fun _ _ => 0, fun k => if k = 4 then 34 else if k = 5 then 39 else if k = 6 then 44 else 49)
def σr0 : Mem := (fun _ _ => 0, fun _ _ => 0, fun _ => 0)
theorem arrV_cong {cA : ClassId} {n : Nat} {f g : Nat → Value} (h : ∀ j, j < n → f j = g j) : arrV cA n f = arrV cA n g := by
  unfold arrV
  congr 1
  apply Array.ext
  · simp
  · intro i h1 h2
    simp only [Array.getElem_ofFn]
    exact h i (by simpa using h1)
theorem conv_D {A : Nat → Prop} {ws : va_W} {w : Nat} {ad : Nat → Nat} (hD : va_D A ws) (h : ∀ i, i < NW w → ∃ e, ws[i]? = some (ad i, e)) : InjW w ad ∧ ∀ i, i < NW w → A (ad i) := by
  refine ⟨fun i j hi hj hij => ?_, fun i hi => ?_⟩
  · obtain ⟨e1, h1⟩ := h i hi
    obtain ⟨e2, h2⟩ := h j hj
    exact hD.1 i j _ _ h1 h2 hij
  · obtain ⟨e1, h1⟩ := h i hi
    exact hD.2 i _ h1
theorem conv_P {D : va_G} {cy : Nat → ClassId} {w : Nat} {ad : Nat → Nat} {σ : Mem} {H : Heap} (h : ∀ i, i < NW w → va_at D classes (ad i, cellW w cy ad σ i) H) : va_P D classes (wsW w cy ad σ) H := by
  intro k q hk
  obtain ⟨h1, rfl⟩ := ws_some hk
  exact h k h1
theorem conv_X9m_0 (cy : Nat → ClassId) (ad : Nat → Nat) : cellW 0 cy ad σr0 0 = .inr (9, [.long 0, .ref (ad 1), .int 0, .ref (ad 2), .ref (ad 3), .ref (ad 4), .ref (ad 5), .ref (ad 6), .int 0, .int 0, .int 0, .int 0, .int 0, .int 0, .ref (ad 7), .ref (ad 8), .ref (ad 9), .ref (ad 10), .ref (ad 11), .ref (ad 12), .ref (ad 13), .ref (ad 14), .int 0, .ref (ad 15), .ref (ad 16), .ref (ad 17), .ref (ad 18), .ref (ad 19), .int 0, .int 0, .int 0, .ref (ad 20), .ref (ad 21), .ref (ad 22), .ref (ad 23), .ref (ad 24), .ref (ad 25)]) := (cell_o o0_0).trans (by rfl)
theorem conv_X9m_1 (cy : Nat → ClassId) (ad : Nat → Nat) : cellW 0 cy ad σr0 1 = .inl (cy 2, 300, .inl (fun _ => 0)) := cell_i a0_1 (by decide) (by decide)
theorem conv_X9m_2 (cy : Nat → ClassId) (ad : Nat → Nat) : cellW 0 cy ad σr0 2 = .inl (cy 0, 2, .inl (fun _ => 0)) := cell_i a0_2 (by decide) (by decide)
theorem conv_X9m_3 (cy : Nat → ClassId) (ad : Nat → Nat) : cellW 0 cy ad σr0 3 = .inl (cy 0, 32, .inl (fun _ => 0)) := cell_i a0_3 (by decide) (by decide)
theorem conv_X9m_4 (cy : Nat → ClassId) (ad : Nat → Nat) : cellW 0 cy ad σr0 4 = .inl (cy 0, 32, .inl (fun _ => 0)) := cell_i a0_4 (by decide) (by decide)
theorem conv_X9m_5 (cy : Nat → ClassId) (ad : Nat → Nat) : cellW 0 cy ad σr0 5 = .inl (cy 0, 32, .inl (fun _ => 0)) := cell_i a0_5 (by decide) (by decide)
theorem conv_X9m_6 (cy : Nat → ClassId) (ad : Nat → Nat) : cellW 0 cy ad σr0 6 = .inl (cy 0, 32, .inl (fun _ => 0)) := cell_i a0_6 (by decide) (by decide)
theorem conv_X9m_7 (cy : Nat → ClassId) (ad : Nat → Nat) : cellW 0 cy ad σr0 7 = .inl (cy 0, 102, .inl (fun _ => 0)) := cell_i a0_7 (by decide) (by decide)
theorem conv_X9m_8 (cy : Nat → ClassId) (ad : Nat → Nat) : cellW 0 cy ad σr0 8 = .inl (cy 4, 2, .inl (fun _ => 0)) := cell_i a0_8 (by decide) (by decide)
theorem conv_X9m_9 (cy : Nat → ClassId) (ad : Nat → Nat) : cellW 0 cy ad σr0 9 = .inl (cy 0, 31, .inl (fun _ => 0)) := cell_i a0_9 (by decide) (by decide)
theorem conv_X9m_10 (cy : Nat → ClassId) (ad : Nat → Nat) : cellW 0 cy ad σr0 10 = .inl (cy 0, 32, .inl (fun _ => 0)) := cell_i a0_10 (by decide) (by decide)
theorem conv_X9m_11 (cy : Nat → ClassId) (ad : Nat → Nat) : cellW 0 cy ad σr0 11 = .inl (cy 0, 31, .inl (fun _ => 0)) := cell_i a0_11 (by decide) (by decide)
theorem conv_X9m_12 (cy : Nat → ClassId) (ad : Nat → Nat) : cellW 0 cy ad σr0 12 = .inl (cy 1, 186, .inr (.inl (fun _ => 0))) := cell_j a0_12
theorem conv_X9m_13 (cy : Nat → ClassId) (ad : Nat → Nat) : cellW 0 cy ad σr0 13 = .inl (cy 0, 186, .inl (fun _ => 0)) := cell_i a0_13 (by decide) (by decide)
theorem conv_X9m_14 (cy : Nat → ClassId) (ad : Nat → Nat) : cellW 0 cy ad σr0 14 = .inl (cy 0, 31, .inl (fun _ => 0)) := cell_i a0_14 (by decide) (by decide)
theorem conv_X9m_15 (cy : Nat → ClassId) (ad : Nat → Nat) : cellW 0 cy ad σr0 15 = .inl (cy 0, 120, .inl (fun _ => 0)) := cell_i a0_15 (by decide) (by decide)
theorem conv_X9m_16 (cy : Nat → ClassId) (ad : Nat → Nat) : cellW 0 cy ad σr0 16 = .inl (cy 0, 120, .inl (fun _ => 0)) := cell_i a0_16 (by decide) (by decide)
theorem conv_X9m_17 (cy : Nat → ClassId) (ad : Nat → Nat) : cellW 0 cy ad σr0 17 = .inl (cy 0, 4, .inl (fun _ => 0)) := cell_i a0_17 (by decide) (by decide)
theorem conv_X9m_18 (cy : Nat → ClassId) (ad : Nat → Nat) : cellW 0 cy ad σr0 18 = .inl (cy 0, 240, .inl (fun _ => 0)) := cell_i a0_18 (by decide) (by decide)
theorem conv_X9m_19 (cy : Nat → ClassId) (ad : Nat → Nat) : cellW 0 cy ad σr0 19 = .inl (cy 0, 28800, .inl (fun _ => 0)) := cell_i a0_19 (by decide) (by decide)
theorem conv_X9m_20 (cy : Nat → ClassId) (ad : Nat → Nat) : cellW 0 cy ad σr0 20 = .inl (cy 0, 64, .inl (fun _ => 0)) := cell_i a0_20 (by decide) (by decide)
theorem conv_X9m_21 (cy : Nat → ClassId) (ad : Nat → Nat) : cellW 0 cy ad σr0 21 = .inl (cy 0, 64, .inl (fun _ => 0)) := cell_i a0_21 (by decide) (by decide)
theorem conv_X9m_22 (cy : Nat → ClassId) (ad : Nat → Nat) : cellW 0 cy ad σr0 22 = .inl (cy 0, 120, .inl (fun _ => 0)) := cell_i a0_22 (by decide) (by decide)
theorem conv_X9m_23 (cy : Nat → ClassId) (ad : Nat → Nat) : cellW 0 cy ad σr0 23 = .inl (cy 0, 3720, .inl (fun _ => 0)) := cell_i a0_23 (by decide) (by decide)
theorem conv_X9m_24 (cy : Nat → ClassId) (ad : Nat → Nat) : cellW 0 cy ad σr0 24 = .inl (cy 0, 31, .inl (fun _ => 0)) := cell_i a0_24 (by decide) (by decide)
theorem conv_X9m_25 (cy : Nat → ClassId) (ad : Nat → Nat) : cellW 0 cy ad σr0 25 = .inl (cy 1, 1920, .inr (.inl (fun _ => 0))) := cell_j a0_25
set_option maxRecDepth 100000 in
set_option maxHeartbeats 4000000 in
theorem conv_X9m {D : va_G} {cy : Nat → ClassId} {H : Heap} {A : Nat → Prop} {h0 : Nat} {ws : va_W} (hp : po_X9 cy h0 ws) (hP : va_P D classes ws H) (hD : va_D A ws) : ∃ ad : Nat → Nat, ad 0 = h0 ∧ InjW 0 ad ∧ (∀ i, i < NW 0 → A (ad i)) ∧ va_P D classes (wsW 0 cy ad σr0) H ∧ (∀ i, i < NW 0 → ∃ e, ws[i]? = some (ad i, e)) := by
  obtain ⟨q1, q2, q3, q4, q5, q6, q7, q8, q9, q10, q11, q12, q13, q14, q15, q16, q17, q18, q19, q20, q21, q22, q23, q24, q25, rfl⟩ := hp
  obtain ⟨ad, rfl, rfl, rfl, rfl, rfl, rfl, rfl, rfl, rfl, rfl, rfl, rfl, rfl, rfl, rfl, rfl, rfl, rfl, rfl, rfl, rfl, rfl, rfl, rfl, rfl, rfl⟩ : ∃ ad : Nat → Nat, ad 0 = h0 ∧ ad 1 = q1 ∧ ad 2 = q2 ∧ ad 3 = q3 ∧ ad 4 = q4 ∧ ad 5 = q5 ∧ ad 6 = q6 ∧ ad 7 = q7 ∧ ad 8 = q8 ∧ ad 9 = q9 ∧ ad 10 = q10 ∧ ad 11 = q11 ∧ ad 12 = q12 ∧ ad 13 = q13 ∧ ad 14 = q14 ∧ ad 15 = q15 ∧ ad 16 = q16 ∧ ad 17 = q17 ∧ ad 18 = q18 ∧ ad 19 = q19 ∧ ad 20 = q20 ∧ ad 21 = q21 ∧ ad 22 = q22 ∧ ad 23 = q23 ∧ ad 24 = q24 ∧ ad 25 = q25 := ⟨fun i => [h0, q1, q2, q3, q4, q5, q6, q7, q8, q9, q10, q11, q12, q13, q14, q15, q16, q17, q18, q19, q20, q21, q22, q23, q24, q25].getD i 0, rfl, rfl, rfl, rfl, rfl, rfl, rfl, rfl, rfl, rfl, rfl, rfl, rfl, rfl, rfl, rfl, rfl, rfl, rfl, rfl, rfl, rfl, rfl, rfl, rfl, rfl⟩
  have hm : ∀ i, i < NW 0 → ∃ e, ([(ad 0, .inr (9, [.long 0, .ref (ad 1), .int 0, .ref (ad 2), .ref (ad 3), .ref (ad 4), .ref (ad 5), .ref (ad 6), .int 0, .int 0, .int 0, .int 0, .int 0, .int 0, .ref (ad 7), .ref (ad 8), .ref (ad 9), .ref (ad 10), .ref (ad 11), .ref (ad 12), .ref (ad 13), .ref (ad 14), .int 0, .ref (ad 15), .ref (ad 16), .ref (ad 17), .ref (ad 18), .ref (ad 19), .int 0, .int 0, .int 0, .ref (ad 20), .ref (ad 21), .ref (ad 22), .ref (ad 23), .ref (ad 24), .ref (ad 25)])), (ad 1, .inl (cy 2, 300, .inl (fun _ => 0))), (ad 2, .inl (cy 0, 2, .inl (fun _ => 0))), (ad 3, .inl (cy 0, 32, .inl (fun _ => 0))), (ad 4, .inl (cy 0, 32, .inl (fun _ => 0))), (ad 5, .inl (cy 0, 32, .inl (fun _ => 0))), (ad 6, .inl (cy 0, 32, .inl (fun _ => 0))), (ad 7, .inl (cy 0, 102, .inl (fun _ => 0))), (ad 8, .inl (cy 4, 2, .inl (fun _ => 0))), (ad 9, .inl (cy 0, 31, .inl (fun _ => 0))), (ad 10, .inl (cy 0, 32, .inl (fun _ => 0))), (ad 11, .inl (cy 0, 31, .inl (fun _ => 0))), (ad 12, .inl (cy 1, 186, .inr (.inl (fun _ => 0)))), (ad 13, .inl (cy 0, 186, .inl (fun _ => 0))), (ad 14, .inl (cy 0, 31, .inl (fun _ => 0))), (ad 15, .inl (cy 0, 120, .inl (fun _ => 0))), (ad 16, .inl (cy 0, 120, .inl (fun _ => 0))), (ad 17, .inl (cy 0, 4, .inl (fun _ => 0))), (ad 18, .inl (cy 0, 240, .inl (fun _ => 0))), (ad 19, .inl (cy 0, 28800, .inl (fun _ => 0))), (ad 20, .inl (cy 0, 64, .inl (fun _ => 0))), (ad 21, .inl (cy 0, 64, .inl (fun _ => 0))), (ad 22, .inl (cy 0, 120, .inl (fun _ => 0))), (ad 23, .inl (cy 0, 3720, .inl (fun _ => 0))), (ad 24, .inl (cy 0, 31, .inl (fun _ => 0))), (ad 25, .inl (cy 1, 1920, .inr (.inl (fun _ => 0))))] : va_W)[i]? = some (ad i, e) := by
    intro i hi
    have h : i < 26 := hi
    match i, h with
    | 0, _ => exact ⟨_, rfl⟩
    | 1, _ => exact ⟨_, rfl⟩
    | 2, _ => exact ⟨_, rfl⟩
    | 3, _ => exact ⟨_, rfl⟩
    | 4, _ => exact ⟨_, rfl⟩
    | 5, _ => exact ⟨_, rfl⟩
    | 6, _ => exact ⟨_, rfl⟩
    | 7, _ => exact ⟨_, rfl⟩
    | 8, _ => exact ⟨_, rfl⟩
    | 9, _ => exact ⟨_, rfl⟩
    | 10, _ => exact ⟨_, rfl⟩
    | 11, _ => exact ⟨_, rfl⟩
    | 12, _ => exact ⟨_, rfl⟩
    | 13, _ => exact ⟨_, rfl⟩
    | 14, _ => exact ⟨_, rfl⟩
    | 15, _ => exact ⟨_, rfl⟩
    | 16, _ => exact ⟨_, rfl⟩
    | 17, _ => exact ⟨_, rfl⟩
    | 18, _ => exact ⟨_, rfl⟩
    | 19, _ => exact ⟨_, rfl⟩
    | 20, _ => exact ⟨_, rfl⟩
    | 21, _ => exact ⟨_, rfl⟩
    | 22, _ => exact ⟨_, rfl⟩
    | 23, _ => exact ⟨_, rfl⟩
    | 24, _ => exact ⟨_, rfl⟩
    | 25, _ => exact ⟨_, rfl⟩
    | k + 26, h => exact absurd h (by omega)
  have hA := conv_D (w := 0) (ad := ad) hD hm
  refine ⟨ad, rfl, hA.1, hA.2, conv_P (fun i hi => ?_), hm⟩
  have h : i < 26 := hi
  match i, h with
  | 0, _ => rw [conv_X9m_0]; exact hP 0 _ rfl
  | 1, _ => rw [conv_X9m_1]; exact hP 1 _ rfl
  | 2, _ => rw [conv_X9m_2]; exact hP 2 _ rfl
  | 3, _ => rw [conv_X9m_3]; exact hP 3 _ rfl
  | 4, _ => rw [conv_X9m_4]; exact hP 4 _ rfl
  | 5, _ => rw [conv_X9m_5]; exact hP 5 _ rfl
  | 6, _ => rw [conv_X9m_6]; exact hP 6 _ rfl
  | 7, _ => rw [conv_X9m_7]; exact hP 7 _ rfl
  | 8, _ => rw [conv_X9m_8]; exact hP 8 _ rfl
  | 9, _ => rw [conv_X9m_9]; exact hP 9 _ rfl
  | 10, _ => rw [conv_X9m_10]; exact hP 10 _ rfl
  | 11, _ => rw [conv_X9m_11]; exact hP 11 _ rfl
  | 12, _ => rw [conv_X9m_12]; exact hP 12 _ rfl
  | 13, _ => rw [conv_X9m_13]; exact hP 13 _ rfl
  | 14, _ => rw [conv_X9m_14]; exact hP 14 _ rfl
  | 15, _ => rw [conv_X9m_15]; exact hP 15 _ rfl
  | 16, _ => rw [conv_X9m_16]; exact hP 16 _ rfl
  | 17, _ => rw [conv_X9m_17]; exact hP 17 _ rfl
  | 18, _ => rw [conv_X9m_18]; exact hP 18 _ rfl
  | 19, _ => rw [conv_X9m_19]; exact hP 19 _ rfl
  | 20, _ => rw [conv_X9m_20]; exact hP 20 _ rfl
  | 21, _ => rw [conv_X9m_21]; exact hP 21 _ rfl
  | 22, _ => rw [conv_X9m_22]; exact hP 22 _ rfl
  | 23, _ => rw [conv_X9m_23]; exact hP 23 _ rfl
  | 24, _ => rw [conv_X9m_24]; exact hP 24 _ rfl
  | 25, _ => rw [conv_X9m_25]; exact hP 25 _ rfl
  | k + 26, h => exact absurd h (by omega)
theorem conv_X8m_0 (cy : Nat → ClassId) (ad : Nat → Nat) : cellW 1 cy ad σc0 0 = .inr (8, [.ref (ad 1), .ref (ad 3), .ref (ad 4), .ref (ad 9), .ref (ad 34), .ref (ad 39), .ref (ad 44), .ref (ad 49), .int 0, .int 0, .long 0]) := (cell_o o1_0).trans (by rfl)
theorem conv_X8m_1 (cy : Nat → ClassId) (ad : Nat → Nat) : cellW 1 cy ad σc0 1 = .inr (6, [.ref (ad 2), .int 0, .int 0, .int 0, .int 0, .int 0]) := (cell_o o1_1).trans (by rfl)
theorem conv_X8m_2 (cy : Nat → ClassId) (ad : Nat → Nat) : cellW 1 cy ad σc0 2 = .inl (cy 0, 300, .inl (fun _ => 0)) := cell_i a1_2 (by decide) (by decide)
theorem conv_X8m_4 (cy : Nat → ClassId) (ad : Nat → Nat) : cellW 1 cy ad σc0 4 = .inr (0, [.ref (ad 5), .ref (ad 6), .ref (ad 7), .ref (ad 8)]) := (cell_o o1_4).trans (by rfl)
theorem conv_X8m_5 (cy : Nat → ClassId) (ad : Nat → Nat) : cellW 1 cy ad σc0 5 = .inl (cy 0, 31, .inl (fun _ => 0)) := cell_i a1_5 (by decide) (by decide)
theorem conv_X8m_6 (cy : Nat → ClassId) (ad : Nat → Nat) : cellW 1 cy ad σc0 6 = .inl (cy 1, 186, .inr (.inl (fun _ => 0))) := cell_j a1_6
theorem conv_X8m_7 (cy : Nat → ClassId) (ad : Nat → Nat) : cellW 1 cy ad σc0 7 = .inl (cy 0, 186, .inl (fun _ => 0)) := cell_i a1_7 (by decide) (by decide)
theorem conv_X8m_8 (cy : Nat → ClassId) (ad : Nat → Nat) : cellW 1 cy ad σc0 8 = .inl (cy 1, 186, .inr (.inl (fun _ => 0))) := cell_j a1_8
theorem conv_X8m_9 (cy : Nat → ClassId) (ad : Nat → Nat) : cellW 1 cy ad σc0 9 = .inr (4, [.ref (ad 10), .ref (ad 11), .ref (ad 12), .ref (ad 13), .ref (ad 14), .ref (ad 15), .ref (ad 16), .ref (ad 17), .ref (ad 18), .ref (ad 19), .ref (ad 20), .ref (ad 21), .ref (ad 22), .ref (ad 25), .ref (ad 29), .int (-1), .int (-1), .int 0, .int 0]) := (cell_o o1_9).trans (by rfl)
theorem conv_X8m_10 (cy : Nat → ClassId) (ad : Nat → Nat) : cellW 1 cy ad σc0 10 = .inl (cy 0, 120, .inl (fun _ => 0)) := cell_i a1_10 (by decide) (by decide)
theorem conv_X8m_11 (cy : Nat → ClassId) (ad : Nat → Nat) : cellW 1 cy ad σc0 11 = .inl (cy 0, 120, .inl (fun _ => 0)) := cell_i a1_11 (by decide) (by decide)
theorem conv_X8m_12 (cy : Nat → ClassId) (ad : Nat → Nat) : cellW 1 cy ad σc0 12 = .inl (cy 0, 120, .inl (fun _ => 0)) := cell_i a1_12 (by decide) (by decide)
theorem conv_X8m_13 (cy : Nat → ClassId) (ad : Nat → Nat) : cellW 1 cy ad σc0 13 = .inl (cy 0, 120, .inl (fun _ => 0)) := cell_i a1_13 (by decide) (by decide)
theorem conv_X8m_14 (cy : Nat → ClassId) (ad : Nat → Nat) : cellW 1 cy ad σc0 14 = .inl (cy 0, 120, .inl (fun _ => 0)) := cell_i a1_14 (by decide) (by decide)
theorem conv_X8m_15 (cy : Nat → ClassId) (ad : Nat → Nat) : cellW 1 cy ad σc0 15 = .inl (cy 0, 120, .inl (fun _ => 0)) := cell_i a1_15 (by decide) (by decide)
theorem conv_X8m_16 (cy : Nat → ClassId) (ad : Nat → Nat) : cellW 1 cy ad σc0 16 = .inl (cy 0, 120, .inl (fun _ => 0)) := cell_i a1_16 (by decide) (by decide)
theorem conv_X8m_17 (cy : Nat → ClassId) (ad : Nat → Nat) : cellW 1 cy ad σc0 17 = .inl (cy 4, 120, .inl (fun _ => 0)) := cell_i a1_17 (by decide) (by decide)
theorem conv_X8m_18 (cy : Nat → ClassId) (ad : Nat → Nat) : cellW 1 cy ad σc0 18 = .inl (cy 3, 4096, .inl (fun _ => 0)) := cell_i a1_18 (by decide) (by decide)
theorem conv_X8m_19 (cy : Nat → ClassId) (ad : Nat → Nat) : cellW 1 cy ad σc0 19 = .inl (cy 0, 8, .inl (fun _ => 0)) := cell_i a1_19 (by decide) (by decide)
theorem conv_X8m_20 (cy : Nat → ClassId) (ad : Nat → Nat) : cellW 1 cy ad σc0 20 = .inl (cy 3, 120, .inl (fun _ => 0)) := cell_i a1_20 (by decide) (by decide)
theorem conv_X8m_21 (cy : Nat → ClassId) (ad : Nat → Nat) : cellW 1 cy ad σc0 21 = .inl (cy 3, 14400, .inl (fun _ => 0)) := cell_i a1_21 (by decide) (by decide)
theorem conv_X8m_22 (cy : Nat → ClassId) (ad : Nat → Nat) : cellW 1 cy ad σc0 22 = .inr (5, [.ref (ad 23), .ref (ad 24), .int 0]) := (cell_o o1_22).trans (by rfl)
theorem conv_X8m_23 (cy : Nat → ClassId) (ad : Nat → Nat) : cellW 1 cy ad σc0 23 = .inl (cy 1, 2048, .inr (.inl (fun _ => 0))) := cell_j a1_23
theorem conv_X8m_24 (cy : Nat → ClassId) (ad : Nat → Nat) : cellW 1 cy ad σc0 24 = .inl (cy 0, 4, .inl (fun _ => 0)) := cell_i a1_24 (by decide) (by decide)
theorem conv_X8m_25 (cy : Nat → ClassId) (ad : Nat → Nat) : cellW 1 cy ad σc0 25 = .inr (2, [.ref (ad 26), .ref (ad 27), .ref (ad 28)]) := (cell_o o1_25).trans (by rfl)
theorem conv_X8m_26 (cy : Nat → ClassId) (ad : Nat → Nat) : cellW 1 cy ad σc0 26 = .inl (cy 0, 128, .inl (fun _ => 0)) := cell_i a1_26 (by decide) (by decide)
theorem conv_X8m_27 (cy : Nat → ClassId) (ad : Nat → Nat) : cellW 1 cy ad σc0 27 = .inl (cy 0, 128, .inl (fun _ => 0)) := cell_i a1_27 (by decide) (by decide)
theorem conv_X8m_28 (cy : Nat → ClassId) (ad : Nat → Nat) : cellW 1 cy ad σc0 28 = .inl (cy 0, 128, .inl (fun _ => 0)) := cell_i a1_28 (by decide) (by decide)
theorem conv_X8m_29 (cy : Nat → ClassId) (ad : Nat → Nat) : cellW 1 cy ad σc0 29 = .inr (3, [.ref (ad 30), .ref (ad 31), .ref (ad 32), .ref (ad 33), .int 0, .int 0]) := (cell_o o1_29).trans (by rfl)
theorem conv_X8m_30 (cy : Nat → ClassId) (ad : Nat → Nat) : cellW 1 cy ad σc0 30 = .inl (cy 0, 16, .inl (fun _ => 0)) := cell_i a1_30 (by decide) (by decide)
theorem conv_X8m_31 (cy : Nat → ClassId) (ad : Nat → Nat) : cellW 1 cy ad σc0 31 = .inl (cy 0, 16, .inl (fun _ => 0)) := cell_i a1_31 (by decide) (by decide)
theorem conv_X8m_32 (cy : Nat → ClassId) (ad : Nat → Nat) : cellW 1 cy ad σc0 32 = .inl (cy 0, 16, .inl (fun _ => 0)) := cell_i a1_32 (by decide) (by decide)
theorem conv_X8m_33 (cy : Nat → ClassId) (ad : Nat → Nat) : cellW 1 cy ad σc0 33 = .inl (cy 0, 16, .inl (fun _ => 0)) := cell_i a1_33 (by decide) (by decide)
theorem conv_X8m_34 (cy : Nat → ClassId) (ad : Nat → Nat) : cellW 1 cy ad σc0 34 = .inr (3, [.ref (ad 35), .ref (ad 36), .ref (ad 37), .ref (ad 38), .int 0, .int 0]) := (cell_o o1_34).trans (by rfl)
theorem conv_X8m_35 (cy : Nat → ClassId) (ad : Nat → Nat) : cellW 1 cy ad σc0 35 = .inl (cy 0, 16, .inl (fun _ => 0)) := cell_i a1_35 (by decide) (by decide)
theorem conv_X8m_36 (cy : Nat → ClassId) (ad : Nat → Nat) : cellW 1 cy ad σc0 36 = .inl (cy 0, 16, .inl (fun _ => 0)) := cell_i a1_36 (by decide) (by decide)
theorem conv_X8m_37 (cy : Nat → ClassId) (ad : Nat → Nat) : cellW 1 cy ad σc0 37 = .inl (cy 0, 16, .inl (fun _ => 0)) := cell_i a1_37 (by decide) (by decide)
theorem conv_X8m_38 (cy : Nat → ClassId) (ad : Nat → Nat) : cellW 1 cy ad σc0 38 = .inl (cy 0, 16, .inl (fun _ => 0)) := cell_i a1_38 (by decide) (by decide)
theorem conv_X8m_39 (cy : Nat → ClassId) (ad : Nat → Nat) : cellW 1 cy ad σc0 39 = .inr (3, [.ref (ad 40), .ref (ad 41), .ref (ad 42), .ref (ad 43), .int 0, .int 0]) := (cell_o o1_39).trans (by rfl)
theorem conv_X8m_40 (cy : Nat → ClassId) (ad : Nat → Nat) : cellW 1 cy ad σc0 40 = .inl (cy 0, 16, .inl (fun _ => 0)) := cell_i a1_40 (by decide) (by decide)
theorem conv_X8m_41 (cy : Nat → ClassId) (ad : Nat → Nat) : cellW 1 cy ad σc0 41 = .inl (cy 0, 16, .inl (fun _ => 0)) := cell_i a1_41 (by decide) (by decide)
theorem conv_X8m_42 (cy : Nat → ClassId) (ad : Nat → Nat) : cellW 1 cy ad σc0 42 = .inl (cy 0, 16, .inl (fun _ => 0)) := cell_i a1_42 (by decide) (by decide)
theorem conv_X8m_43 (cy : Nat → ClassId) (ad : Nat → Nat) : cellW 1 cy ad σc0 43 = .inl (cy 0, 16, .inl (fun _ => 0)) := cell_i a1_43 (by decide) (by decide)
theorem conv_X8m_44 (cy : Nat → ClassId) (ad : Nat → Nat) : cellW 1 cy ad σc0 44 = .inr (7, [.ref (ad 45), .ref (ad 46), .ref (ad 47), .ref (ad 48), .int 0]) := (cell_o o1_44).trans (by rfl)
theorem conv_X8m_45 (cy : Nat → ClassId) (ad : Nat → Nat) : cellW 1 cy ad σc0 45 = .inl (cy 0, 31, .inl (fun _ => 0)) := cell_i a1_45 (by decide) (by decide)
theorem conv_X8m_46 (cy : Nat → ClassId) (ad : Nat → Nat) : cellW 1 cy ad σc0 46 = .inl (cy 0, 31, .inl (fun _ => 0)) := cell_i a1_46 (by decide) (by decide)
theorem conv_X8m_47 (cy : Nat → ClassId) (ad : Nat → Nat) : cellW 1 cy ad σc0 47 = .inl (cy 0, 31, .inl (fun _ => 0)) := cell_i a1_47 (by decide) (by decide)
theorem conv_X8m_48 (cy : Nat → ClassId) (ad : Nat → Nat) : cellW 1 cy ad σc0 48 = .inl (cy 0, 31, .inl (fun _ => 0)) := cell_i a1_48 (by decide) (by decide)
theorem conv_X8m_49 (cy : Nat → ClassId) (ad : Nat → Nat) : cellW 1 cy ad σc0 49 = .inr (7, [.ref (ad 50), .ref (ad 51), .ref (ad 52), .ref (ad 53), .int 0]) := (cell_o o1_49).trans (by rfl)
theorem conv_X8m_50 (cy : Nat → ClassId) (ad : Nat → Nat) : cellW 1 cy ad σc0 50 = .inl (cy 0, 31, .inl (fun _ => 0)) := cell_i a1_50 (by decide) (by decide)
theorem conv_X8m_51 (cy : Nat → ClassId) (ad : Nat → Nat) : cellW 1 cy ad σc0 51 = .inl (cy 0, 31, .inl (fun _ => 0)) := cell_i a1_51 (by decide) (by decide)
theorem conv_X8m_52 (cy : Nat → ClassId) (ad : Nat → Nat) : cellW 1 cy ad σc0 52 = .inl (cy 0, 31, .inl (fun _ => 0)) := cell_i a1_52 (by decide) (by decide)
theorem conv_X8m_53 (cy : Nat → ClassId) (ad : Nat → Nat) : cellW 1 cy ad σc0 53 = .inl (cy 0, 31, .inl (fun _ => 0)) := cell_i a1_53 (by decide) (by decide)
theorem conv_X8m_54 (cy : Nat → ClassId) (ad : Nat → Nat) : cellW 1 cy ad σc0 54 = .inr (1, [.int 0, .int 0, .int 0, .ref (ad 55)]) := (cell_o o1_54).trans (by rfl)
theorem conv_X8m_55 (cy : Nat → ClassId) (ad : Nat → Nat) : cellW 1 cy ad σc0 55 = .inr (7, [.ref (ad 56), .ref (ad 57), .ref (ad 58), .ref (ad 59), .int 0]) := (cell_o o1_55).trans (by rfl)
theorem conv_X8m_56 (cy : Nat → ClassId) (ad : Nat → Nat) : cellW 1 cy ad σc0 56 = .inl (cy 0, 31, .inl (fun _ => 0)) := cell_i a1_56 (by decide) (by decide)
theorem conv_X8m_57 (cy : Nat → ClassId) (ad : Nat → Nat) : cellW 1 cy ad σc0 57 = .inl (cy 0, 31, .inl (fun _ => 0)) := cell_i a1_57 (by decide) (by decide)
theorem conv_X8m_58 (cy : Nat → ClassId) (ad : Nat → Nat) : cellW 1 cy ad σc0 58 = .inl (cy 0, 31, .inl (fun _ => 0)) := cell_i a1_58 (by decide) (by decide)
theorem conv_X8m_59 (cy : Nat → ClassId) (ad : Nat → Nat) : cellW 1 cy ad σc0 59 = .inl (cy 0, 31, .inl (fun _ => 0)) := cell_i a1_59 (by decide) (by decide)
theorem conv_X8m_60 (cy : Nat → ClassId) (ad : Nat → Nat) : cellW 1 cy ad σc0 60 = .inr (1, [.int 0, .int 0, .int 0, .ref (ad 61)]) := (cell_o o1_60).trans (by rfl)
theorem conv_X8m_61 (cy : Nat → ClassId) (ad : Nat → Nat) : cellW 1 cy ad σc0 61 = .inr (7, [.ref (ad 62), .ref (ad 63), .ref (ad 64), .ref (ad 65), .int 0]) := (cell_o o1_61).trans (by rfl)
theorem conv_X8m_62 (cy : Nat → ClassId) (ad : Nat → Nat) : cellW 1 cy ad σc0 62 = .inl (cy 0, 31, .inl (fun _ => 0)) := cell_i a1_62 (by decide) (by decide)
theorem conv_X8m_63 (cy : Nat → ClassId) (ad : Nat → Nat) : cellW 1 cy ad σc0 63 = .inl (cy 0, 31, .inl (fun _ => 0)) := cell_i a1_63 (by decide) (by decide)
theorem conv_X8m_64 (cy : Nat → ClassId) (ad : Nat → Nat) : cellW 1 cy ad σc0 64 = .inl (cy 0, 31, .inl (fun _ => 0)) := cell_i a1_64 (by decide) (by decide)
theorem conv_X8m_65 (cy : Nat → ClassId) (ad : Nat → Nat) : cellW 1 cy ad σc0 65 = .inl (cy 0, 31, .inl (fun _ => 0)) := cell_i a1_65 (by decide) (by decide)
set_option maxRecDepth 100000 in
set_option maxHeartbeats 4000000 in
theorem conv_X8m {D : va_G} {cy : Nat → ClassId} {H : Heap} {A : Nat → Prop} {h0 : Nat} {ws : va_W} (hp : po_X8 cy h0 ws) (hP : va_P D classes ws H) (hD : va_D A ws) : ∃ ad : Nat → Nat, ad 0 = h0 ∧ InjW 1 ad ∧ (∀ i, i < NW 1 → A (ad i)) ∧ va_P D classes (wsW 1 cy ad σc0) H ∧ (∀ i, i < NW 1 → ∃ e, ws[i]? = some (ad i, e)) := by
  obtain ⟨q1, q2, q3, q4, q5, q6, q7, q8, q9, q10, q11, q12, q13, q14, q15, q16, q17, q18, q19, q20, q21, q22, q23, q24, q25, q26, q27, q28, q29, q30, q31, q32, q33, q34, q35, q36, q37, q38, q39, q40, q41, q42, q43, q44, q45, q46, q47, q48, q49, q50, q51, q52, q53, q54, q55, q56, q57, q58, q59, q60, q61, q62, q63, q64, q65, rfl⟩ := hp
  obtain ⟨ad, rfl, rfl, rfl, rfl, rfl, rfl, rfl, rfl, rfl, rfl, rfl, rfl, rfl, rfl, rfl, rfl, rfl, rfl, rfl, rfl, rfl, rfl, rfl, rfl, rfl, rfl, rfl, rfl, rfl, rfl, rfl, rfl, rfl, rfl, rfl, rfl, rfl, rfl, rfl, rfl, rfl, rfl, rfl, rfl, rfl, rfl, rfl, rfl, rfl, rfl, rfl, rfl, rfl, rfl, rfl, rfl, rfl, rfl, rfl, rfl, rfl, rfl, rfl, rfl, rfl, rfl⟩ : ∃ ad : Nat → Nat, ad 0 = h0 ∧ ad 1 = q1 ∧ ad 2 = q2 ∧ ad 3 = q3 ∧ ad 4 = q4 ∧ ad 5 = q5 ∧ ad 6 = q6 ∧ ad 7 = q7 ∧ ad 8 = q8 ∧ ad 9 = q9 ∧ ad 10 = q10 ∧ ad 11 = q11 ∧ ad 12 = q12 ∧ ad 13 = q13 ∧ ad 14 = q14 ∧ ad 15 = q15 ∧ ad 16 = q16 ∧ ad 17 = q17 ∧ ad 18 = q18 ∧ ad 19 = q19 ∧ ad 20 = q20 ∧ ad 21 = q21 ∧ ad 22 = q22 ∧ ad 23 = q23 ∧ ad 24 = q24 ∧ ad 25 = q25 ∧ ad 26 = q26 ∧ ad 27 = q27 ∧ ad 28 = q28 ∧ ad 29 = q29 ∧ ad 30 = q30 ∧ ad 31 = q31 ∧ ad 32 = q32 ∧ ad 33 = q33 ∧ ad 34 = q34 ∧ ad 35 = q35 ∧ ad 36 = q36 ∧ ad 37 = q37 ∧ ad 38 = q38 ∧ ad 39 = q39 ∧ ad 40 = q40 ∧ ad 41 = q41 ∧ ad 42 = q42 ∧ ad 43 = q43 ∧ ad 44 = q44 ∧ ad 45 = q45 ∧ ad 46 = q46 ∧ ad 47 = q47 ∧ ad 48 = q48 ∧ ad 49 = q49 ∧ ad 50 = q50 ∧ ad 51 = q51 ∧ ad 52 = q52 ∧ ad 53 = q53 ∧ ad 54 = q54 ∧ ad 55 = q55 ∧ ad 56 = q56 ∧ ad 57 = q57 ∧ ad 58 = q58 ∧ ad 59 = q59 ∧ ad 60 = q60 ∧ ad 61 = q61 ∧ ad 62 = q62 ∧ ad 63 = q63 ∧ ad 64 = q64 ∧ ad 65 = q65 := ⟨fun i => [h0, q1, q2, q3, q4, q5, q6, q7, q8, q9, q10, q11, q12, q13, q14, q15, q16, q17, q18, q19, q20, q21, q22, q23, q24, q25, q26, q27, q28, q29, q30, q31, q32, q33, q34, q35, q36, q37, q38, q39, q40, q41, q42, q43, q44, q45, q46, q47, q48, q49, q50, q51, q52, q53, q54, q55, q56, q57, q58, q59, q60, q61, q62, q63, q64, q65].getD i 0, rfl, rfl, rfl, rfl, rfl, rfl, rfl, rfl, rfl, rfl, rfl, rfl, rfl, rfl, rfl, rfl, rfl, rfl, rfl, rfl, rfl, rfl, rfl, rfl, rfl, rfl, rfl, rfl, rfl, rfl, rfl, rfl, rfl, rfl, rfl, rfl, rfl, rfl, rfl, rfl, rfl, rfl, rfl, rfl, rfl, rfl, rfl, rfl, rfl, rfl, rfl, rfl, rfl, rfl, rfl, rfl, rfl, rfl, rfl, rfl, rfl, rfl, rfl, rfl, rfl, rfl⟩
  have hm : ∀ i, i < NW 1 → ∃ e, ([(ad 0, .inr (8, [.ref (ad 1), .ref (ad 3), .ref (ad 4), .ref (ad 9), .ref (ad 34), .ref (ad 39), .ref (ad 44), .ref (ad 49), .int 0, .int 0, .long 0])), (ad 1, .inr (6, [.ref (ad 2), .int 0, .int 0, .int 0, .int 0, .int 0])), (ad 2, .inl (cy 0, 300, .inl (fun _ => 0))), (ad 3, .inl (cy 5, 2, .inr (.inr (.inr (.inr (va_up (va_up (fun _ => none) 0 (some (ad 54))) 1 (some (ad 60)))))))), (ad 4, .inr (0, [.ref (ad 5), .ref (ad 6), .ref (ad 7), .ref (ad 8)])), (ad 5, .inl (cy 0, 31, .inl (fun _ => 0))), (ad 6, .inl (cy 1, 186, .inr (.inl (fun _ => 0)))), (ad 7, .inl (cy 0, 186, .inl (fun _ => 0))), (ad 8, .inl (cy 1, 186, .inr (.inl (fun _ => 0)))), (ad 9, .inr (4, [.ref (ad 10), .ref (ad 11), .ref (ad 12), .ref (ad 13), .ref (ad 14), .ref (ad 15), .ref (ad 16), .ref (ad 17), .ref (ad 18), .ref (ad 19), .ref (ad 20), .ref (ad 21), .ref (ad 22), .ref (ad 25), .ref (ad 29), .int (-1), .int (-1), .int 0, .int 0])), (ad 10, .inl (cy 0, 120, .inl (fun _ => 0))), (ad 11, .inl (cy 0, 120, .inl (fun _ => 0))), (ad 12, .inl (cy 0, 120, .inl (fun _ => 0))), (ad 13, .inl (cy 0, 120, .inl (fun _ => 0))), (ad 14, .inl (cy 0, 120, .inl (fun _ => 0))), (ad 15, .inl (cy 0, 120, .inl (fun _ => 0))), (ad 16, .inl (cy 0, 120, .inl (fun _ => 0))), (ad 17, .inl (cy 4, 120, .inl (fun _ => 0))), (ad 18, .inl (cy 3, 4096, .inl (fun _ => 0))), (ad 19, .inl (cy 0, 8, .inl (fun _ => 0))), (ad 20, .inl (cy 3, 120, .inl (fun _ => 0))), (ad 21, .inl (cy 3, 14400, .inl (fun _ => 0))), (ad 22, .inr (5, [.ref (ad 23), .ref (ad 24), .int 0])), (ad 23, .inl (cy 1, 2048, .inr (.inl (fun _ => 0)))), (ad 24, .inl (cy 0, 4, .inl (fun _ => 0))), (ad 25, .inr (2, [.ref (ad 26), .ref (ad 27), .ref (ad 28)])), (ad 26, .inl (cy 0, 128, .inl (fun _ => 0))), (ad 27, .inl (cy 0, 128, .inl (fun _ => 0))), (ad 28, .inl (cy 0, 128, .inl (fun _ => 0))), (ad 29, .inr (3, [.ref (ad 30), .ref (ad 31), .ref (ad 32), .ref (ad 33), .int 0, .int 0])), (ad 30, .inl (cy 0, 16, .inl (fun _ => 0))), (ad 31, .inl (cy 0, 16, .inl (fun _ => 0))), (ad 32, .inl (cy 0, 16, .inl (fun _ => 0))), (ad 33, .inl (cy 0, 16, .inl (fun _ => 0))), (ad 34, .inr (3, [.ref (ad 35), .ref (ad 36), .ref (ad 37), .ref (ad 38), .int 0, .int 0])), (ad 35, .inl (cy 0, 16, .inl (fun _ => 0))), (ad 36, .inl (cy 0, 16, .inl (fun _ => 0))), (ad 37, .inl (cy 0, 16, .inl (fun _ => 0))), (ad 38, .inl (cy 0, 16, .inl (fun _ => 0))), (ad 39, .inr (3, [.ref (ad 40), .ref (ad 41), .ref (ad 42), .ref (ad 43), .int 0, .int 0])), (ad 40, .inl (cy 0, 16, .inl (fun _ => 0))), (ad 41, .inl (cy 0, 16, .inl (fun _ => 0))), (ad 42, .inl (cy 0, 16, .inl (fun _ => 0))), (ad 43, .inl (cy 0, 16, .inl (fun _ => 0))), (ad 44, .inr (7, [.ref (ad 45), .ref (ad 46), .ref (ad 47), .ref (ad 48), .int 0])), (ad 45, .inl (cy 0, 31, .inl (fun _ => 0))), (ad 46, .inl (cy 0, 31, .inl (fun _ => 0))), (ad 47, .inl (cy 0, 31, .inl (fun _ => 0))), (ad 48, .inl (cy 0, 31, .inl (fun _ => 0))), (ad 49, .inr (7, [.ref (ad 50), .ref (ad 51), .ref (ad 52), .ref (ad 53), .int 0])), (ad 50, .inl (cy 0, 31, .inl (fun _ => 0))), (ad 51, .inl (cy 0, 31, .inl (fun _ => 0))), (ad 52, .inl (cy 0, 31, .inl (fun _ => 0))), (ad 53, .inl (cy 0, 31, .inl (fun _ => 0))), (ad 54, .inr (1, [.int 0, .int 0, .int 0, .ref (ad 55)])), (ad 55, .inr (7, [.ref (ad 56), .ref (ad 57), .ref (ad 58), .ref (ad 59), .int 0])), (ad 56, .inl (cy 0, 31, .inl (fun _ => 0))), (ad 57, .inl (cy 0, 31, .inl (fun _ => 0))), (ad 58, .inl (cy 0, 31, .inl (fun _ => 0))), (ad 59, .inl (cy 0, 31, .inl (fun _ => 0))), (ad 60, .inr (1, [.int 0, .int 0, .int 0, .ref (ad 61)])), (ad 61, .inr (7, [.ref (ad 62), .ref (ad 63), .ref (ad 64), .ref (ad 65), .int 0])), (ad 62, .inl (cy 0, 31, .inl (fun _ => 0))), (ad 63, .inl (cy 0, 31, .inl (fun _ => 0))), (ad 64, .inl (cy 0, 31, .inl (fun _ => 0))), (ad 65, .inl (cy 0, 31, .inl (fun _ => 0)))] : va_W)[i]? = some (ad i, e) := by
    intro i hi
    have h : i < 66 := hi
    match i, h with
    | 0, _ => exact ⟨_, rfl⟩
    | 1, _ => exact ⟨_, rfl⟩
    | 2, _ => exact ⟨_, rfl⟩
    | 3, _ => exact ⟨_, rfl⟩
    | 4, _ => exact ⟨_, rfl⟩
    | 5, _ => exact ⟨_, rfl⟩
    | 6, _ => exact ⟨_, rfl⟩
    | 7, _ => exact ⟨_, rfl⟩
    | 8, _ => exact ⟨_, rfl⟩
    | 9, _ => exact ⟨_, rfl⟩
    | 10, _ => exact ⟨_, rfl⟩
    | 11, _ => exact ⟨_, rfl⟩
    | 12, _ => exact ⟨_, rfl⟩
    | 13, _ => exact ⟨_, rfl⟩
    | 14, _ => exact ⟨_, rfl⟩
    | 15, _ => exact ⟨_, rfl⟩
    | 16, _ => exact ⟨_, rfl⟩
    | 17, _ => exact ⟨_, rfl⟩
    | 18, _ => exact ⟨_, rfl⟩
    | 19, _ => exact ⟨_, rfl⟩
    | 20, _ => exact ⟨_, rfl⟩
    | 21, _ => exact ⟨_, rfl⟩
    | 22, _ => exact ⟨_, rfl⟩
    | 23, _ => exact ⟨_, rfl⟩
    | 24, _ => exact ⟨_, rfl⟩
    | 25, _ => exact ⟨_, rfl⟩
    | 26, _ => exact ⟨_, rfl⟩
    | 27, _ => exact ⟨_, rfl⟩
    | 28, _ => exact ⟨_, rfl⟩
    | 29, _ => exact ⟨_, rfl⟩
    | 30, _ => exact ⟨_, rfl⟩
    | 31, _ => exact ⟨_, rfl⟩
    | 32, _ => exact ⟨_, rfl⟩
    | 33, _ => exact ⟨_, rfl⟩
    | 34, _ => exact ⟨_, rfl⟩
    | 35, _ => exact ⟨_, rfl⟩
    | 36, _ => exact ⟨_, rfl⟩
    | 37, _ => exact ⟨_, rfl⟩
    | 38, _ => exact ⟨_, rfl⟩
    | 39, _ => exact ⟨_, rfl⟩
    | 40, _ => exact ⟨_, rfl⟩
    | 41, _ => exact ⟨_, rfl⟩
    | 42, _ => exact ⟨_, rfl⟩
    | 43, _ => exact ⟨_, rfl⟩
    | 44, _ => exact ⟨_, rfl⟩
    | 45, _ => exact ⟨_, rfl⟩
    | 46, _ => exact ⟨_, rfl⟩
    | 47, _ => exact ⟨_, rfl⟩
    | 48, _ => exact ⟨_, rfl⟩
    | 49, _ => exact ⟨_, rfl⟩
    | 50, _ => exact ⟨_, rfl⟩
    | 51, _ => exact ⟨_, rfl⟩
    | 52, _ => exact ⟨_, rfl⟩
    | 53, _ => exact ⟨_, rfl⟩
    | 54, _ => exact ⟨_, rfl⟩
    | 55, _ => exact ⟨_, rfl⟩
    | 56, _ => exact ⟨_, rfl⟩
    | 57, _ => exact ⟨_, rfl⟩
    | 58, _ => exact ⟨_, rfl⟩
    | 59, _ => exact ⟨_, rfl⟩
    | 60, _ => exact ⟨_, rfl⟩
    | 61, _ => exact ⟨_, rfl⟩
    | 62, _ => exact ⟨_, rfl⟩
    | 63, _ => exact ⟨_, rfl⟩
    | 64, _ => exact ⟨_, rfl⟩
    | 65, _ => exact ⟨_, rfl⟩
    | k + 66, h => exact absurd h (by omega)
  have hA := conv_D (w := 1) (ad := ad) hD hm
  refine ⟨ad, rfl, hA.1, hA.2, conv_P (fun i hi => ?_), hm⟩
  have h : i < 66 := hi
  match i, h with
  | 0, _ => rw [conv_X8m_0]; exact hP 0 _ rfl
  | 1, _ => rw [conv_X8m_1]; exact hP 1 _ rfl
  | 2, _ => rw [conv_X8m_2]; exact hP 2 _ rfl
  | 3, _ =>
    rw [cell_q a1_3]
    have h := hP 3 _ rfl
    refine Eq.trans (b := some (vp_cell (cy 5) (2, .inr (.inr (.inr (.inr (va_up (va_up (fun _ => none) 0 (some (ad 54))) 1 (some (ad 60))))))))) h ?_
    rw [vp_cell_q, vp_cell_q]
    congr 1
  | 4, _ => rw [conv_X8m_4]; exact hP 4 _ rfl
  | 5, _ => rw [conv_X8m_5]; exact hP 5 _ rfl
  | 6, _ => rw [conv_X8m_6]; exact hP 6 _ rfl
  | 7, _ => rw [conv_X8m_7]; exact hP 7 _ rfl
  | 8, _ => rw [conv_X8m_8]; exact hP 8 _ rfl
  | 9, _ => rw [conv_X8m_9]; exact hP 9 _ rfl
  | 10, _ => rw [conv_X8m_10]; exact hP 10 _ rfl
  | 11, _ => rw [conv_X8m_11]; exact hP 11 _ rfl
  | 12, _ => rw [conv_X8m_12]; exact hP 12 _ rfl
  | 13, _ => rw [conv_X8m_13]; exact hP 13 _ rfl
  | 14, _ => rw [conv_X8m_14]; exact hP 14 _ rfl
  | 15, _ => rw [conv_X8m_15]; exact hP 15 _ rfl
  | 16, _ => rw [conv_X8m_16]; exact hP 16 _ rfl
  | 17, _ => rw [conv_X8m_17]; exact hP 17 _ rfl
  | 18, _ => rw [conv_X8m_18]; exact hP 18 _ rfl
  | 19, _ => rw [conv_X8m_19]; exact hP 19 _ rfl
  | 20, _ => rw [conv_X8m_20]; exact hP 20 _ rfl
  | 21, _ => rw [conv_X8m_21]; exact hP 21 _ rfl
  | 22, _ => rw [conv_X8m_22]; exact hP 22 _ rfl
  | 23, _ => rw [conv_X8m_23]; exact hP 23 _ rfl
  | 24, _ => rw [conv_X8m_24]; exact hP 24 _ rfl
  | 25, _ => rw [conv_X8m_25]; exact hP 25 _ rfl
  | 26, _ => rw [conv_X8m_26]; exact hP 26 _ rfl
  | 27, _ => rw [conv_X8m_27]; exact hP 27 _ rfl
  | 28, _ => rw [conv_X8m_28]; exact hP 28 _ rfl
  | 29, _ => rw [conv_X8m_29]; exact hP 29 _ rfl
  | 30, _ => rw [conv_X8m_30]; exact hP 30 _ rfl
  | 31, _ => rw [conv_X8m_31]; exact hP 31 _ rfl
  | 32, _ => rw [conv_X8m_32]; exact hP 32 _ rfl
  | 33, _ => rw [conv_X8m_33]; exact hP 33 _ rfl
  | 34, _ => rw [conv_X8m_34]; exact hP 34 _ rfl
  | 35, _ => rw [conv_X8m_35]; exact hP 35 _ rfl
  | 36, _ => rw [conv_X8m_36]; exact hP 36 _ rfl
  | 37, _ => rw [conv_X8m_37]; exact hP 37 _ rfl
  | 38, _ => rw [conv_X8m_38]; exact hP 38 _ rfl
  | 39, _ => rw [conv_X8m_39]; exact hP 39 _ rfl
  | 40, _ => rw [conv_X8m_40]; exact hP 40 _ rfl
  | 41, _ => rw [conv_X8m_41]; exact hP 41 _ rfl
  | 42, _ => rw [conv_X8m_42]; exact hP 42 _ rfl
  | 43, _ => rw [conv_X8m_43]; exact hP 43 _ rfl
  | 44, _ => rw [conv_X8m_44]; exact hP 44 _ rfl
  | 45, _ => rw [conv_X8m_45]; exact hP 45 _ rfl
  | 46, _ => rw [conv_X8m_46]; exact hP 46 _ rfl
  | 47, _ => rw [conv_X8m_47]; exact hP 47 _ rfl
  | 48, _ => rw [conv_X8m_48]; exact hP 48 _ rfl
  | 49, _ => rw [conv_X8m_49]; exact hP 49 _ rfl
  | 50, _ => rw [conv_X8m_50]; exact hP 50 _ rfl
  | 51, _ => rw [conv_X8m_51]; exact hP 51 _ rfl
  | 52, _ => rw [conv_X8m_52]; exact hP 52 _ rfl
  | 53, _ => rw [conv_X8m_53]; exact hP 53 _ rfl
  | 54, _ => rw [conv_X8m_54]; exact hP 54 _ rfl
  | 55, _ => rw [conv_X8m_55]; exact hP 55 _ rfl
  | 56, _ => rw [conv_X8m_56]; exact hP 56 _ rfl
  | 57, _ => rw [conv_X8m_57]; exact hP 57 _ rfl
  | 58, _ => rw [conv_X8m_58]; exact hP 58 _ rfl
  | 59, _ => rw [conv_X8m_59]; exact hP 59 _ rfl
  | 60, _ => rw [conv_X8m_60]; exact hP 60 _ rfl
  | 61, _ => rw [conv_X8m_61]; exact hP 61 _ rfl
  | 62, _ => rw [conv_X8m_62]; exact hP 62 _ rfl
  | 63, _ => rw [conv_X8m_63]; exact hP 63 _ rfl
  | 64, _ => rw [conv_X8m_64]; exact hP 64 _ rfl
  | 65, _ => rw [conv_X8m_65]; exact hP 65 _ rfl
  | k + 66, h => exact absurd h (by omega)
theorem wt0 : WT 1 σc0 := fun _ => ⟨by decide, by decide, by decide, by decide⟩
theorem arr_known {args : Array Value} {s : State} {ty : FieldType} (h : (Cond.arrayClass ty).before args s = true) : ∃ cA, ArrOfT s cA ty ∧ s.vm.findClass ("[" ++ ty.toString) = some cA := by
  obtain ⟨c, k, comp, h1, h2, h3⟩ := Cond.arrayClass_spec h
  exact ⟨c, fun n z => ⟨fun k h => (by cases h), k, h2, comp, h3⟩, h1⟩
theorem tk_start {args : Array Value} {s : State} (hts : ∀ x ∈ lw_tbl, x.before args s = true) : ∃ (D : va_G) (cy : Nat → ClassId), TK D cy s ∧ va_AO RX1 s := by
  obtain ⟨c0, i0, hk0⟩ := u_known (C := RX0) (T := TX0) (N := 4) (n := 4) hts (fun x hx => (List.mem_filter.mp (in0 x hx)).1) (hts (.instantiable RX0 4) (List.mem_of_getElem? (i := 121) (by decide +kernel)))
  obtain ⟨c1, i1, hk1⟩ := u_known (C := RX1) (T := TX1) (N := 4) (n := 4) hts (fun x hx => (List.mem_filter.mp (in1 x hx)).1) (hts (.instantiable RX1 4) (List.mem_of_getElem? (i := 318) (by decide +kernel)))
  obtain ⟨c2, i2, hk2⟩ := u_known (C := RX2) (T := TX2) (N := 3) (n := 3) hts (fun x hx => (List.mem_filter.mp (in2 x hx)).1) (hts (.instantiable RX2 3) (List.mem_of_getElem? (i := 168) (by decide +kernel)))
  obtain ⟨c3, i3, hk3⟩ := u_known (C := RX3) (T := TX3) (N := 6) (n := 6) hts (fun x hx => (List.mem_filter.mp (in3 x hx)).1) (hts (.instantiable RX3 6) (List.mem_of_getElem? (i := 184) (by decide +kernel)))
  obtain ⟨c4, i4, hk4⟩ := u_known (C := RX4) (T := TX4) (N := 19) (n := 19) hts (fun x hx => (List.mem_filter.mp (in4 x hx)).1) (hts (.instantiable RX4 19) (List.mem_of_getElem? (i := 144) (by decide +kernel)))
  obtain ⟨c5, i5, hk5⟩ := u_known (C := RX5) (T := TX5) (N := 3) (n := 3) hts (fun x hx => (List.mem_filter.mp (in5 x hx)).1) (hts (.instantiable RX5 3) (List.mem_of_getElem? (i := 150) (by decide +kernel)))
  obtain ⟨c6, i6, hk6⟩ := u_known (C := RX6) (T := TX6) (N := 6) (n := 6) hts (fun x hx => (List.mem_filter.mp (in6 x hx)).1) (hts (.instantiable RX6 6) (List.mem_of_getElem? (i := 88) (by decide +kernel)))
  obtain ⟨c7, i7, hk7⟩ := u_known (C := RX7) (T := TX7) (N := 5) (n := 5) hts (fun x hx => (List.mem_filter.mp (in7 x hx)).1) (hts (.instantiable RX7 5) (List.mem_of_getElem? (i := 291) (by decide +kernel)))
  obtain ⟨c8, i8, hk8⟩ := u_known (C := RX8) (T := TX8) (N := 11) (n := 11) hts (fun x hx => (List.mem_filter.mp (in8 x hx)).1) (hts (.instantiable RX8 11) (List.mem_of_getElem? (i := 80) (by decide +kernel)))
  obtain ⟨c9, i9, hk9⟩ := u_known (C := RX9) (T := TX9) (N := 37) (n := 37) hts (fun x hx => (List.mem_filter.mp (in9 x hx)).1) (hts (.instantiable RX9 37) (List.mem_of_getElem? (i := 852) (by decide +kernel)))
  obtain ⟨y0, ya0, yb0⟩ := arr_known (hts (.arrayClass .int) (List.mem_of_getElem? (i := 117) (by decide +kernel)))
  obtain ⟨y1, ya1, yb1⟩ := arr_known (hts (.arrayClass .long) (List.mem_of_getElem? (i := 142) (by decide +kernel)))
  obtain ⟨y2, ya2, yb2⟩ := arr_known (hts (.arrayClass .byte) (List.mem_of_getElem? (i := 969) (by decide +kernel)))
  obtain ⟨y3, ya3, yb3⟩ := arr_known (hts (.arrayClass .short) (List.mem_of_getElem? (i := 166) (by decide +kernel)))
  obtain ⟨y4, ya4, yb4⟩ := arr_known (hts (.arrayClass .boolean) (List.mem_of_getElem? (i := 165) (by decide +kernel)))
  have hO : va_AO RX1 s := va_AO.of (hts (.arrayOver (.object RX1)) (List.mem_of_getElem? (i := 119) (by decide +kernel)))
  obtain ⟨comp, y5, k5, f1, f2, f3, f4, f5⟩ := Cond.arrayOver_spec hO
  refine ⟨(fun k => [c0, c1, c2, c3, c4, c5, c6, c7, c8, c9].getD k c0, fun k => [i0, i1, i2, i3, i4, i5, i6, i7, i8, i9].getD k i0), fun t => [y0, y1, y2, y3, y4, y5].getD t y0, ⟨⟨fun k q hq => ?_, fun k q hq => ?_⟩, fun x hx => va_Nw.of (nest_tab (List.mem_filter.mp hx).2) (hts x (List.mem_filter.mp hx).1)⟩, hO⟩
  · match k, hq with
    | 0, hq => cases hq; exact hk0
    | 1, hq => cases hq; exact hk1
    | 2, hq => cases hq; exact hk2
    | 3, hq => cases hq; exact hk3
    | 4, hq => cases hq; exact hk4
    | 5, hq => cases hq; exact hk5
    | 6, hq => cases hq; exact hk6
    | 7, hq => cases hq; exact hk7
    | 8, hq => cases hq; exact hk8
    | 9, hq => cases hq; exact hk9
    | k + 10, hq => simp [classes] at hq
  · match k, hq with
    | 0, hq => cases hq; exact ⟨ya0, yb0⟩
    | 1, hq => cases hq; exact ⟨ya1, yb1⟩
    | 2, hq => cases hq; exact ⟨ya2, yb2⟩
    | 3, hq => cases hq; exact ⟨ya3, yb3⟩
    | 4, hq => cases hq; exact ⟨ya4, yb4⟩
    | 5, hq => cases hq; exact ⟨fun n z => ⟨fun k h => (by cases h), k5, f3, comp, f4⟩, k5, comp, f3, f4, f1, f5⟩
    | k + 6, hq => simp [tyW] at hq
/-- what stays at the law's level -/
def LX (D : va_G) (cy : Nat → ClassId) (adc adr : Nat → Nat) (p : Program) (s : State) (m : MethodId) (args : Array Value) (c : Code) : Prop :=
  p.tables.exec = Jvm.exec ∧ c.code = cL_law ∧ c.maxLocals = 4 ∧ s.vm.findClass RL = some m.cls ∧ (∀ x ∈ gw_tbl, x.before args s = true) ∧ TK D cy s ∧ InjW 1 adc ∧ InjW 0 adr ∧ (∀ i, i < NW 1 → s.heap.size ≤ adc i) ∧ (∀ i, i < NW 0 → s.heap.size ≤ adr i) ∧ ∀ i j, i < NW 1 → j < NW 0 → adc i ≠ adr j
def LW (D : va_G) (cy : Nat → ClassId) (adc adr : Nat → Nat) (s : State) (σc σr : Mem) (H : Heap) (locs : List Loc) : Prop :=
  va_P D classes (wsW 1 cy adc σc) H ∧ va_P D classes (wsW 0 cy adr σr) H ∧ WT 1 σc ∧ va_S (fun q : Nat => s.heap.size ≤ q) s.heap H locs
theorem ws_kept {D : va_G} {cy : Nat → ClassId} {w w2 : Nat} {ad ad2 : Nat → Nat} {σ2 : Mem} {H H1 : Heap} (h : va_P D classes (wsW w2 cy ad2 σ2) H) (hk : ∀ q : Nat, q < H.size → ¬ AW w ad q → H1[q]? = H[q]?) (hd : ∀ i j, i < NW w → j < NW w2 → ad i ≠ ad2 j) : va_P D classes (wsW w2 cy ad2 σ2) H1 := by
  refine h.kept (fun k q hq => ?_)
  have hl := (h k q hq).lt
  obtain ⟨h1, rfl⟩ := ws_some hq
  refine hk _ hl (fun ⟨i, hi, e⟩ => hd i k hi h1 e.symm)
section LC
variable {D : va_G} {cy : Nat → ClassId} {adc adr : Nat → Nat} {p : Program} {l : Launch} {e : Env} {s : State} {m : MethodId} {args : Array Value} {below : List Frame} {meth : Method} {c : Code} {H : Heap} {locs : List Loc} {cells slots : Nat} {Q : State → Prop} {σc σr σ' : Mem} {pc : Nat} {ls : Array Slot} {rest st0 : List Value}
  {y : MethodName} {b2 : ByteArray} {n2 : Nat} {ret2 : Option FieldType} {d2 np index : Nat} {As : List Value} {Qc : Array Value → State → Outcome → State → Prop}
theorem law_run {w : Nat} {ad : Nat → Nat} {σ : Mem} (hx : p.tables.exec = Jvm.exec) (hb : c.code = cL_law) (hml : c.maxLocals = 4) (hown : s.vm.findClass RL = some m.cls) (hts : ∀ x ∈ gw_tbl, x.before args s = true) (hK : TK D cy s) (hP : va_P D classes (wsW w cy ad σ) H) (hT : WT w σ) (hM : Met l y (.code y b2 n2 ret2 :: gw_tbl) (rmD d2) (PcW w D cy ad (.ref (ad 0) :: As) σ) Qc 0 0 (AW w ad)) (hI : MI y b2 n2 ret2 np) (hV : MV y) {ci : Nat} (ho : IsO w 0 ci) {q : vw_C} (hc : classes[ci]? = some q) (hq : q.1 = y.cls) (hl : Cond.methodLink RL index y ∈ gw_tbl) (hd : d2 ≤ 100) (hn2 : n2 ≤ 21) (hn : As.length = np) (hsz : ls.size = 4) (hst : st0 = As.reverse ++ .ref (ad 0) :: rest) (hr : (rest.map fun v => v.category).sum ≤ 8) (hdg : decode cL_law pc = .ok (.invokevirtual index, 3)) (hcs : cells ≤ 600000 ∧ slots ≤ 7302250) :
    va_Run p l e room_1 s m args below meth c H locs cells slots 0 0 (F0 m pc ls st0) rest (Qc (Value.ref (ad 0) :: As).toArray) (AW w ad) := by
  have hrecv := va_recv hK.1 hP hc ((ws_get ho.1).trans (by rw [cell_o ho]))
  rw [hq] at hrecv
  have hB : CallB room_1 s args RL index y b2 n2 ret2 (.code y b2 n2 ret2 :: gw_tbl) (rmD d2) 0 0 np := callB_of np hts (gw_good' hI.1) rfl rfl rfl (hts _ hI.2.1) (hts _ hl) hI.2.2 ⟨by show d2 + 1 ≤ 2048; omega, by show 8 + (n2 + 11) + 40 * d2 ≤ 84000; omega⟩
  exact va_runV (b := ad 0) (C := y.cls) ⟨hx, hb, hml, hown, hts⟩ hM ⟨hB, hts _ hV.1, hts _ hV.2⟩ ⟨pc_blind, hrecv, fun U hU hW => ⟨rfl, hK.warm hW, by rw [hU]; exact ⟨hP, hT⟩⟩⟩ rfl hn hsz hst (lv_room hr) hdg ⟨hcs.1, hcs.2⟩
theorem lc_I {v : Int32} (X : LX D cy adc adr p s m args c) (hW : LW D cy adc adr s σc σr H locs) (hM : CI 1 D cy adc l y b2 n2 ret2 d2 (.ref (adc 0) :: As) σc v σ') (hI : MI y b2 n2 ret2 np) (hV : MV y) (hq : RX8 = y.cls) (hl : Cond.methodLink RL index y ∈ gw_tbl) (hd : d2 ≤ 100) (hn2 : n2 ≤ 21) (hn : As.length = np) (hsz : ls.size = 4) (hst : st0 = As.reverse ++ .ref (adc 0) :: rest) (hr : (rest.map fun v => v.category).sum ≤ 8) (hdg : decode cL_law pc = .ok (.invokevirtual index, 3)) (hcs : cells ≤ 600000 ∧ slots ≤ 7302250)
    (kk : ∀ (H1 : Heap) (locs1 : List Loc), LW D cy adc adr s σ' σr H1 locs1 → W p l e room_1 s m args below meth c H1 locs1 cells slots Q (F0 m (pc + 3) ls (.int v :: rest))) : W p l e room_1 s m args below meth c H locs cells slots Q (F0 m pc ls st0) := by
  obtain ⟨hx, hb, hml, hown, hts, hK, hjc, hjr, hac, har, hdis⟩ := X
  obtain ⟨hPc, hPr, hT, hS⟩ := hW
  refine va_calli (law_run (cells := cells) (slots := slots) hx hb hml hown hts hK hPc hT hM hI hV (ci := 8) o1_0 rfl hq hl hd hn2 hn hsz hst hr hdg hcs) hS (fun q _ ⟨i, hi, e⟩ => by rw [e]; exact hac i hi) (fun q ⟨i, hi, e⟩ => by rw [e]; exact hac i hi) (fun r u t H1 locs1 ht _ hp hB hz hk hS1 => ?_)
  obtain ⟨rfl, rfl⟩ := hp
  rw [ht] at hB
  exact kk H1 locs1 ⟨hB.1, ws_kept (w := 1) (ad := adc) hPr hk hdis, hB.2, hS1⟩
theorem lc_L {v : Int64} (X : LX D cy adc adr p s m args c) (hW : LW D cy adc adr s σc σr H locs) (hM : CL 1 D cy adc l y b2 n2 ret2 d2 (.ref (adc 0) :: As) σc v σ') (hI : MI y b2 n2 ret2 np) (hV : MV y) (hq : RX8 = y.cls) (hl : Cond.methodLink RL index y ∈ gw_tbl) (hd : d2 ≤ 100) (hn2 : n2 ≤ 21) (hn : As.length = np) (hsz : ls.size = 4) (hst : st0 = As.reverse ++ .ref (adc 0) :: rest) (hr : (rest.map fun v => v.category).sum ≤ 8) (hdg : decode cL_law pc = .ok (.invokevirtual index, 3)) (hcs : cells ≤ 600000 ∧ slots ≤ 7302250)
    (kk : ∀ (H1 : Heap) (locs1 : List Loc), LW D cy adc adr s σ' σr H1 locs1 → W p l e room_1 s m args below meth c H1 locs1 cells slots Q (F0 m (pc + 3) ls (.long v :: rest))) : W p l e room_1 s m args below meth c H locs cells slots Q (F0 m pc ls st0) := by
  obtain ⟨hx, hb, hml, hown, hts, hK, hjc, hjr, hac, har, hdis⟩ := X
  obtain ⟨hPc, hPr, hT, hS⟩ := hW
  refine va_calll (law_run (cells := cells) (slots := slots) hx hb hml hown hts hK hPc hT hM hI hV (ci := 8) o1_0 rfl hq hl hd hn2 hn hsz hst hr hdg hcs) hS (fun q _ ⟨i, hi, e⟩ => by rw [e]; exact hac i hi) (fun q ⟨i, hi, e⟩ => by rw [e]; exact hac i hi) (fun r u t H1 locs1 ht _ hp hB hz hk hS1 => ?_)
  obtain ⟨rfl, rfl⟩ := hp
  rw [ht] at hB
  exact kk H1 locs1 ⟨hB.1, ws_kept (w := 1) (ad := adc) hPr hk hdis, hB.2, hS1⟩
theorem lr_I {v : Int32} (X : LX D cy adc adr p s m args c) (hW : LW D cy adc adr s σc σr H locs) (hM : CI 0 D cy adr l y b2 n2 ret2 d2 (.ref (adr 0) :: As) σr v σ') (hI : MI y b2 n2 ret2 np) (hV : MV y) (hq : RX9 = y.cls) (hl : Cond.methodLink RL index y ∈ gw_tbl) (hd : d2 ≤ 100) (hn2 : n2 ≤ 21) (hn : As.length = np) (hsz : ls.size = 4) (hst : st0 = As.reverse ++ .ref (adr 0) :: rest) (hr : (rest.map fun v => v.category).sum ≤ 8) (hdg : decode cL_law pc = .ok (.invokevirtual index, 3)) (hcs : cells ≤ 600000 ∧ slots ≤ 7302250)
    (kk : ∀ (H1 : Heap) (locs1 : List Loc), LW D cy adc adr s σc σ' H1 locs1 → W p l e room_1 s m args below meth c H1 locs1 cells slots Q (F0 m (pc + 3) ls (.int v :: rest))) : W p l e room_1 s m args below meth c H locs cells slots Q (F0 m pc ls st0) := by
  obtain ⟨hx, hb, hml, hown, hts, hK, hjc, hjr, hac, har, hdis⟩ := X
  obtain ⟨hPc, hPr, hT, hS⟩ := hW
  refine va_calli (law_run (cells := cells) (slots := slots) hx hb hml hown hts hK hPr (fun h => absurd h (by decide)) hM hI hV (ci := 9) o0_0 rfl hq hl hd hn2 hn hsz hst hr hdg hcs) hS (fun q _ ⟨i, hi, e⟩ => by rw [e]; exact har i hi) (fun q ⟨i, hi, e⟩ => by rw [e]; exact har i hi) (fun r u t H1 locs1 ht _ hp hB hz hk hS1 => ?_)
  obtain ⟨rfl, rfl⟩ := hp
  rw [ht] at hB
  exact kk H1 locs1 ⟨ws_kept (w := 0) (ad := adr) hPc hk (fun i j hi hj e => hdis j i hj hi e.symm), hB.1, hT, hS1⟩
theorem lr_L {v : Int64} (X : LX D cy adc adr p s m args c) (hW : LW D cy adc adr s σc σr H locs) (hM : CL 0 D cy adr l y b2 n2 ret2 d2 (.ref (adr 0) :: As) σr v σ') (hI : MI y b2 n2 ret2 np) (hV : MV y) (hq : RX9 = y.cls) (hl : Cond.methodLink RL index y ∈ gw_tbl) (hd : d2 ≤ 100) (hn2 : n2 ≤ 21) (hn : As.length = np) (hsz : ls.size = 4) (hst : st0 = As.reverse ++ .ref (adr 0) :: rest) (hr : (rest.map fun v => v.category).sum ≤ 8) (hdg : decode cL_law pc = .ok (.invokevirtual index, 3)) (hcs : cells ≤ 600000 ∧ slots ≤ 7302250)
    (kk : ∀ (H1 : Heap) (locs1 : List Loc), LW D cy adc adr s σc σ' H1 locs1 → W p l e room_1 s m args below meth c H1 locs1 cells slots Q (F0 m (pc + 3) ls (.long v :: rest))) : W p l e room_1 s m args below meth c H locs cells slots Q (F0 m pc ls st0) := by
  obtain ⟨hx, hb, hml, hown, hts, hK, hjc, hjr, hac, har, hdis⟩ := X
  obtain ⟨hPc, hPr, hT, hS⟩ := hW
  refine va_calll (law_run (cells := cells) (slots := slots) hx hb hml hown hts hK hPr (fun h => absurd h (by decide)) hM hI hV (ci := 9) o0_0 rfl hq hl hd hn2 hn hsz hst hr hdg hcs) hS (fun q _ ⟨i, hi, e⟩ => by rw [e]; exact har i hi) (fun q ⟨i, hi, e⟩ => by rw [e]; exact har i hi) (fun r u t H1 locs1 ht _ hp hB hz hk hS1 => ?_)
  obtain ⟨rfl, rfl⟩ := hp
  rw [ht] at hB
  exact kk H1 locs1 ⟨ws_kept (w := 0) (ad := adr) hPc hk (fun i j hi hj e => hdis j i hj hi e.symm), hB.1, hT, hS1⟩
end LC
theorem lk_L_15 : Cond.methodLink RL 15 yX8_type ∈ gw_tbl := gw_in (List.mem_of_getElem? (i := 373) (by decide +kernel)) rfl
theorem lk_L_19 : Cond.methodLink RL 19 yX9_type ∈ gw_tbl := gw_in (List.mem_of_getElem? (i := 970) (by decide +kernel)) rfl
theorem lk_L_20 : Cond.methodLink RL 20 yX8_clear ∈ gw_tbl := gw_in (List.mem_of_getElem? (i := 381) (by decide +kernel)) rfl
theorem lk_L_24 : Cond.methodLink RL 24 yX9_clear ∈ gw_tbl := gw_in (List.mem_of_getElem? (i := 978) (by decide +kernel)) rfl
theorem lk_L_25 : Cond.methodLink RL 25 yX8_law ∈ gw_tbl := gw_in (List.mem_of_getElem? (i := 385) (by decide +kernel)) rfl
theorem lk_L_28 : Cond.methodLink RL 28 yX9_law ∈ gw_tbl := gw_in (List.mem_of_getElem? (i := 982) (by decide +kernel)) rfl
theorem lk_L_29 : Cond.methodLink RL 29 yX8_tree ∈ gw_tbl := gw_in (List.mem_of_getElem? (i := 454) (by decide +kernel)) rfl
theorem lk_L_32 : Cond.methodLink RL 32 yX9_tree ∈ gw_tbl := gw_in (List.mem_of_getElem? (i := 1010) (by decide +kernel)) rfl
theorem lk_L_33 : Cond.methodLink RL 33 yX8_rule ∈ gw_tbl := gw_in (List.mem_of_getElem? (i := 472) (by decide +kernel)) rfl
theorem lk_L_37 : Cond.methodLink RL 37 yX9_rule ∈ gw_tbl := gw_in (List.mem_of_getElem? (i := 1014) (by decide +kernel)) rfl
theorem lk_L_38 : Cond.methodLink RL 38 yX8_turn ∈ gw_tbl := gw_in (List.mem_of_getElem? (i := 483) (by decide +kernel)) rfl
theorem lk_L_41 : Cond.methodLink RL 41 yX9_turn ∈ gw_tbl := gw_in (List.mem_of_getElem? (i := 1022) (by decide +kernel)) rfl
theorem lk_L_42 : Cond.methodLink RL 42 yX8_good ∈ gw_tbl := gw_in (List.mem_of_getElem? (i := 493) (by decide +kernel)) rfl
theorem lk_L_45 : Cond.methodLink RL 45 yX9_good ∈ gw_tbl := gw_in (List.mem_of_getElem? (i := 1026) (by decide +kernel)) rfl
theorem lk_L_46 : Cond.methodLink RL 46 yX8_node ∈ gw_tbl := gw_in (List.mem_of_getElem? (i := 498) (by decide +kernel)) rfl
theorem lk_L_49 : Cond.methodLink RL 49 yX9_node ∈ gw_tbl := gw_in (List.mem_of_getElem? (i := 1030) (by decide +kernel)) rfl
theorem lk_L_50 : Cond.methodLink RL 50 yX8_sign ∈ gw_tbl := gw_in (List.mem_of_getElem? (i := 529) (by decide +kernel)) rfl
theorem lk_L_53 : Cond.methodLink RL 53 yX9_sign ∈ gw_tbl := gw_in (List.mem_of_getElem? (i := 1061) (by decide +kernel)) rfl
theorem lk_L_54 : Cond.methodLink RL 54 yX8_exchange ∈ gw_tbl := gw_in (List.mem_of_getElem? (i := 534) (by decide +kernel)) rfl
theorem lk_L_58 : Cond.methodLink RL 58 yX9_exchange ∈ gw_tbl := gw_in (List.mem_of_getElem? (i := 1065) (by decide +kernel)) rfl
theorem lk_L_59 : Cond.methodLink RL 59 yX8_isGood ∈ gw_tbl := gw_in (List.mem_of_getElem? (i := 543) (by decide +kernel)) rfl
theorem lk_L_62 : Cond.methodLink RL 62 yX9_isGood ∈ gw_tbl := gw_in (List.mem_of_getElem? (i := 1069) (by decide +kernel)) rfl
theorem lk_L_63 : Cond.methodLink RL 63 yX8_runs ∈ gw_tbl := gw_in (List.mem_of_getElem? (i := 547) (by decide +kernel)) rfl
theorem lk_L_66 : Cond.methodLink RL 66 yX9_runs ∈ gw_tbl := gw_in (List.mem_of_getElem? (i := 1073) (by decide +kernel)) rfl
theorem lk_L_67 : Cond.methodLink RL 67 yX8_places ∈ gw_tbl := gw_in (List.mem_of_getElem? (i := 570) (by decide +kernel)) rfl
theorem lk_L_70 : Cond.methodLink RL 70 yX9_places ∈ gw_tbl := gw_in (List.mem_of_getElem? (i := 1078) (by decide +kernel)) rfl
theorem lk_L_71 : Cond.methodLink RL 71 yX8_mend ∈ gw_tbl := gw_in (List.mem_of_getElem? (i := 574) (by decide +kernel)) rfl
theorem lk_L_74 : Cond.methodLink RL 74 yX9_mend ∈ gw_tbl := gw_in (List.mem_of_getElem? (i := 1082) (by decide +kernel)) rfl
theorem lk_L_75 : Cond.methodLink RL 75 yX8_sets ∈ gw_tbl := gw_in (List.mem_of_getElem? (i := 604) (by decide +kernel)) rfl
theorem lk_L_78 : Cond.methodLink RL 78 yX9_sets ∈ gw_tbl := gw_in (List.mem_of_getElem? (i := 1090) (by decide +kernel)) rfl
theorem lk_L_79 : Cond.methodLink RL 79 yX8_classes ∈ gw_tbl := gw_in (List.mem_of_getElem? (i := 673) (by decide +kernel)) rfl
theorem lk_L_82 : Cond.methodLink RL 82 yX9_classes ∈ gw_tbl := gw_in (List.mem_of_getElem? (i := 1106) (by decide +kernel)) rfl
theorem lk_L_83 : Cond.methodLink RL 83 yX8_useful ∈ gw_tbl := gw_in (List.mem_of_getElem? (i := 711) (by decide +kernel)) rfl
theorem lk_L_86 : Cond.methodLink RL 86 yX9_useful ∈ gw_tbl := gw_in (List.mem_of_getElem? (i := 1118) (by decide +kernel)) rfl
theorem lk_L_87 : Cond.methodLink RL 87 yX8_least ∈ gw_tbl := gw_in (List.mem_of_getElem? (i := 727) (by decide +kernel)) rfl
theorem lk_L_90 : Cond.methodLink RL 90 yX9_least ∈ gw_tbl := gw_in (List.mem_of_getElem? (i := 1122) (by decide +kernel)) rfl
theorem lk_L_91 : Cond.methodLink RL 91 yX8_many ∈ gw_tbl := gw_in (List.mem_of_getElem? (i := 752) (by decide +kernel)) rfl
theorem lk_L_95 : Cond.methodLink RL 95 yX9_many ∈ gw_tbl := gw_in (List.mem_of_getElem? (i := 1162) (by decide +kernel)) rfl
theorem lk_L_96 : Cond.methodLink RL 96 yX8_alike ∈ gw_tbl := gw_in (List.mem_of_getElem? (i := 789) (by decide +kernel)) rfl
theorem lk_L_99 : Cond.methodLink RL 99 yX9_alike ∈ gw_tbl := gw_in (List.mem_of_getElem? (i := 1179) (by decide +kernel)) rfl
theorem lk_L_100 : Cond.methodLink RL 100 yX8_apart ∈ gw_tbl := gw_in (List.mem_of_getElem? (i := 801) (by decide +kernel)) rfl
theorem lk_L_103 : Cond.methodLink RL 103 yX9_apart ∈ gw_tbl := gw_in (List.mem_of_getElem? (i := 1187) (by decide +kernel)) rfl
theorem lk_L_104 : Cond.methodLink RL 104 yX8_both ∈ gw_tbl := gw_in (List.mem_of_getElem? (i := 805) (by decide +kernel)) rfl
theorem lk_L_108 : Cond.methodLink RL 108 yX9_both ∈ gw_tbl := gw_in (List.mem_of_getElem? (i := 1191) (by decide +kernel)) rfl
theorem lk_L_109 : Cond.methodLink RL 109 yX8_mark ∈ gw_tbl := gw_in (List.mem_of_getElem? (i := 811) (by decide +kernel)) rfl
theorem lk_L_112 : Cond.methodLink RL 112 yX9_mark ∈ gw_tbl := gw_in (List.mem_of_getElem? (i := 1195) (by decide +kernel)) rfl
theorem lk_L_113 : Cond.methodLink RL 113 yX8_keep ∈ gw_tbl := gw_in (List.mem_of_getElem? (i := 831) (by decide +kernel)) rfl
theorem lk_L_116 : Cond.methodLink RL 116 yX9_keep ∈ gw_tbl := gw_in (List.mem_of_getElem? (i := 1208) (by decide +kernel)) rfl
theorem lk_L_117 : Cond.methodLink RL 117 yX8_back ∈ gw_tbl := gw_in (List.mem_of_getElem? (i := 839) (by decide +kernel)) rfl
theorem lk_L_120 : Cond.methodLink RL 120 yX9_back ∈ gw_tbl := gw_in (List.mem_of_getElem? (i := 1216) (by decide +kernel)) rfl
theorem lk_L_121 : Cond.methodLink RL 121 yX8_count ∈ gw_tbl := gw_in (List.mem_of_getElem? (i := 843) (by decide +kernel)) rfl
theorem lk_L_124 : Cond.methodLink RL 124 yX9_count ∈ gw_tbl := gw_in (List.mem_of_getElem? (i := 1220) (by decide +kernel)) rfl
theorem lk_L_125 : Cond.methodLink RL 125 yX8_trace ∈ gw_tbl := gw_in (List.mem_of_getElem? (i := 847) (by decide +kernel)) rfl
theorem lk_L_129 : Cond.methodLink RL 129 yX9_trace ∈ gw_tbl := gw_in (List.mem_of_getElem? (i := 1224) (by decide +kernel)) rfl
theorem kl_L_13 : Cond.constantLong RL 13 (4294967295) ∈ gw_tbl := gw_in (List.mem_of_getElem? (i := 1228) (by decide +kernel)) rfl
