/-! good, sign, clear, trace: both sides -/
/-- a call of both sides that leaves rules and pairs as they were -/
def Both (A : AS) (σ : Mem) (fc fr : Option (Int32 × Mem)) : Prop := ∃ (v : Int32) (B : AS) (σ' ρ' : Mem), fc = some (v, σ') ∧ fr = some (v, ρ') ∧ RepC B σ' ∧ RepR B ρ' ∧ WfA B ∧ rlA B = rlA A ∧ PF σ σ'
theorem good_RC {A : AS} {σ ρ : Mem} (h : RepC A σ) (g : RepR A ρ) (hA : WfA A) (a b : Int32) : Both A σ (f_X8_good a b σ) (f_X9_good a b ρ) := by
  have hg : gdA A < 64 := hA.2.2.2.2.2.1
  rcases isState_C a with ⟨j, hj, rfl, h1⟩ | ⟨hn, h1⟩
  · have e1 : f_X9_in (nI j) 0 5 = 1 := by
      rcases isState_R (nI j) with ⟨_, _, _, h1⟩ | ⟨hn, h1⟩
      · exact h1
      · exact absurd rfl (hn j hj)
    rcases isBit_C b σ with ⟨q, hq, rfl, h2⟩ | ⟨hn, h2⟩
    · have e2 : f_X9_in (nI q) 0 1 = 1 := by
        rcases isBit_R (nI q) with ⟨_, _, _, h1⟩ | ⟨hn, h1⟩
        · exact h1
        · exact absurd rfl (hn q hq)
      refine ⟨nI (bN (gdA A) j), setGd A (stB (gdA A) j q), sI σ 0 9 (nI (stB (gdA A) j q)), sI ρ 7 1 (nI (stB (gdA A) j q)), ?_, ?_, h.gd, g.now1, ?_, rfl, PF.sI (by omega)⟩
      · unfold f_X8_good
        rw [h1, if_neg (by decide), h2, if_neg (by decide)]
        simp only [lt_eq, h.2.2.2.1.2, bit_C (show gdA A < 2147483648 by omega) (show j < 32 by omega), stB_C hq]
      · unfold f_X9_good
        rw [e1, if_neg (by decide), e2, if_neg (by decide)]
        simp only [lt_eq, show (1 : Int32).toNatClampNeg = 1 from rfl, g.2.2.1.2.1, n_bit (show gdA A < 2147483648 by omega) (show j < 32 by omega), stB_R]
      · obtain ⟨w1, w2, w3, w4, w5, w6, w7, w8⟩ := hA
        exact ⟨w1, w2, w3, w4, w5, stB_lt (n := 6) hq (by omega) hg (by omega), w7, w8⟩
    · refine ⟨-1, A, σ, ρ, ?_, ?_, h, g, hA, rfl, PF.rf⟩
      · unfold f_X8_good
        rw [h1, if_neg (by decide), h2, if_pos rfl]
      · unfold f_X9_good
        have e2 : f_X9_in b 0 1 = 0 := by
          rcases isBit_R b with ⟨q, h1, h2, _⟩ | ⟨_, h1⟩
          · exact absurd h2 (hn q h1)
          · exact h1
        rw [e1, if_neg (by decide), e2, if_pos rfl]
  · have e1 : f_X9_in a 0 5 = 0 := by
      rcases isState_R a with ⟨q, h1, h2, _⟩ | ⟨_, h1⟩
      · exact absurd h2 (hn q h1)
      · exact h1
    refine ⟨-1, A, σ, ρ, ?_, ?_, h, g, hA, rfl, PF.rf⟩
    · unfold f_X8_good
      rw [h1, if_pos rfl]
    · unfold f_X9_good
      rw [e1, if_pos rfl]
theorem clear_RC {A : AS} {σ ρ : Mem} (h : RepC A σ) (g : RepR A ρ) (hA : WfA A) : Both A σ (f_X8_clear σ) (f_X9_clear ρ) := by
  obtain ⟨⟨v, σ'⟩, h1, h2, h3, h4⟩ := C_clear h
  obtain ⟨⟨v2, ρ'⟩, g1, g2, g3⟩ := R_clear g
  have e : v = v2 := h2.trans g2.symm
  subst e
  refine ⟨v, setTx A [], σ', ρ', h1, g1, h3, g3, ?_, rfl, h4⟩
  obtain ⟨w1, w2, w3, w4, w5, w6, w7, w8⟩ := hA
  exact ⟨fun x hx => absurd hx List.not_mem_nil, Nat.zero_le _, w3, w4, w5, w6, w7, w8⟩
theorem trace_RC {A : AS} {σ ρ : Mem} (h : RepC A σ) (g : RepR A ρ) : f_X8_trace σ = f_X9_trace ρ := h.2.2.2.2.2.2.trans g.2.2.2.2.symm
/-! the number of bits -/
def pop : Nat → Nat → Nat
  | _, 0 => 0
  | x, k + 1 => pop x k + bN x k
theorem pop_le (x : Nat) : ∀ k, pop x k ≤ k
  | 0 => Nat.le_refl _
  | k + 1 => by have := pop_le x k; have := bN_lt x k; unfold pop; omega
theorem bitsIn_R {x : Nat} (hx : x < 65536) (σ : Mem) : f_X9_bitsIn (nI x) σ = some (nI (pop x 16)) := by
  unfold f_X9_bitsIn
  have key : Ok (Lim (T := Int32) (fun s => b_X9_bitsIn_4 (nI x) s.1 s.2 σ) (0, 0)) (fun r => r = nI (pop x 16)) := by
    refine Ok.loop (I := fun s : Int32 × Int32 => ∃ k, k ≤ 16 ∧ s = (nI (pop x k), nI k)) (μ := fun s => 16 - s.2.toNatClampNeg) ?_ _ ⟨0, by omega, rfl⟩
    rintro _ ⟨k, hk, rfl⟩
    have hp := pop_le x k
    show Ok (b_X9_bitsIn_4 (nI x) (nI (pop x k)) (nI k) σ) _
    unfold b_X9_bitsIn_4
    rw [show (16 : Int32) = nI 16 from rfl]
    by_cases h : 16 ≤ k
    · rw [if_pos (by rw [n_le (by omega) (by omega)]; exact h)]
      refine Ok.some ?_
      have : k = 16 := by omega
      rw [this]
    · rw [if_neg (by rw [n_le (by omega) (by omega)]; exact h)]
      refine Ok.lt (Ok.lt (Ok.some ⟨⟨k + 1, by omega, ?_⟩, ?_⟩))
      · rw [n_bit (by omega) (by omega), n_add, show (1 : Int32) = nI 1 from rfl, n_add]
        rfl
      · show 16 - (nI k + 1).toNatClampNeg < 16 - (nI k).toNatClampNeg
        rw [show (1 : Int32) = nI 1 from rfl, n_add, n_cl (by omega), n_cl (by omega)]
        omega
  obtain ⟨r, h1, rfl⟩ := key
  rw [h1]
  rfl
