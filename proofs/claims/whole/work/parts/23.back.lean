/-! back -/
theorem back_C {A : AS} {σ : Mem} (h : RepC A σ) (hA : WfA A) {k o g : Nat} {t : List Nat} (hk : k < 2) (hx : imA A k = some (o, g, t)) : Ok (f_X8_back (nI k) σ) (fun r => r.1 = nI (pop o 16) ∧ RepC (setTr (setGd (setOn A o) g) t) r.2 ∧ PF σ r.2) := by
  have hi : f_X8_isImage (nI k) = 1 := by
    rcases isImage_C (nI k) with ⟨_, _, _, h1⟩ | ⟨hn, h1⟩
    · exact h1
    · exact absurd rfl (hn k hk)
  obtain ⟨q1, q2⟩ := h.2.1.law
  obtain ⟨w1, w2, w3⟩ := hA.2.2.2.2.2.2.2 k o g t hx
  have hm := h.2.2.2.2.2.1 k hk
  rw [hx] at hm
  obtain ⟨m1, m2, m3, m4⟩ := hm
  have hr : f_X8_refusalOf (nI k) σ = some 0 := by
    unfold f_X8_refusalOf
    rw [hi, if_neg (by decide), gd_ix hk (by omega), n_cl (by omega), m1, if_neg (by decide)]
  unfold f_X8_back
  rw [hr, Option.bind_some, if_pos rfl, gd_ix hk (by omega), n_cl (by omega)]
  simp only [lt_eq]
  generalize hτ : sI (sI σ 0 8 (σ.1 (54 + 6 * k) 1)) 0 9 ((sI σ 0 8 (σ.1 (54 + 6 * k) 1)).1 (54 + 6 * k) 2) = τ
  have t1 : ∀ o, o ≠ 0 → τ.1 o = σ.1 o := fun o ho => by rw [← hτ, sI_o ho, sI_o ho]
  have t2 : τ.2 = σ.2 := by rw [← hτ]; rfl
  have t4 : τ.1 0 8 = nI o := by rw [← hτ, sI_slot (by omega), sI_same]; exact m2
  have t5 : τ.1 0 9 = nI g := by rw [← hτ, sI_same, sI_off (by omega)]; exact m3
  have t6 : TreeC τ (55 + 6 * k) t := m4.cg (fun o k1 k2 => t1 o (by omega))
  rw [show τ.2.2 = σ.2.2 by rw [t2], show 54 + 6 * k + 1 = 55 + 6 * k by omega]
  refine Ok.bind (copyT (t0 := σ.2.2 6) t6 w3.2.1 (by rcases q2 with q | q <;> omega)) (fun r hr => Ok.some ?_)
  obtain ⟨r1, r2, r3⟩ := hr
  have r32 : r.2.2 = σ.2.2 := by rw [r3, t2]
  have rr : ∀ p, p ≠ 0 → p < σ.2.2 6 ∨ σ.2.2 6 + 3 < p → r.1 p = σ.1 p := fun p h1 h2 => (r2 p h2).trans (t1 p h1)
  obtain ⟨⟨h1, h2⟩, h3, h4, ⟨h5, h5'⟩, h6, h7, h8⟩ := h
  have s0 : r.1 0 = τ.1 0 := r2 0 (by rcases q2 with q | q <;> omega)
  refine ⟨?_, ⟨⟨?_, ?_⟩, ?_, ?_, ⟨?_, ?_⟩, ?_, fun i hi => ?_, ?_⟩, fun p o1 o2 => rr p (by omega) (by rcases q2 with q | q <;> omega), by rw [r3, t2]⟩
  · show f_J6_bitCount_0f7a4 (r.1 0 8) = _
    rw [s0, t4, bitCount_C w1]
  · rw [rr 1 (by omega) (by rcases q2 with q | q <;> omega)]; exact h1
  · rw [rr 2 (by omega) (by rcases q2 with q | q <;> omega)]; exact h2
  · unfold RfC; rw [r32]; exact h3
  · show LawC r (r.2.2 4) (rlA A)
    rw [r32]; exact h4.cg (fun p k1 k2 => rr p (by rcases q1 with q | q <;> omega) (by rcases q1 with q | q <;> rcases q2 with q' | q' <;> omega))
  · show r.1 0 8 = nI o
    rw [s0]; exact t4
  · show r.1 0 9 = nI g
    rw [s0]; exact t5
  · show TreeC r (r.2.2 6) t
    rw [r32]; exact r1
  · show ImC r i (imA A i)
    exact (h7 i hi).cg (fun p k1 k2 => rr p (by omega) (by rcases q2 with q | q <;> omega))
  · show r.2.1 0 10 = tcA A
    rw [r3, t2]; exact h8
theorem back_R {A : AS} {σ : Mem} (h : RepR A σ) (hA : WfA A) {k o g : Nat} {t : List Nat} (hk : k < 2) (hx : imA A k = some (o, g, t)) : Ok (f_X9_back (nI k) σ) (fun r => r.1 = nI (pop o 16) ∧ RepR (setTr (setGd (setOn A o) g) t) r.2) := by
  have hi : f_X9_in (nI k) 0 1 = 1 := by
    rcases isImage_R (nI k) with ⟨_, _, _, h1⟩ | ⟨hn, h1⟩
    · exact h1
    · exact absurd rfl (hn k hk)
  obtain ⟨w1, w2, w3⟩ := hA.2.2.2.2.2.2.2 k o g t hx
  have hm := h.2.2.2.1 k hk
  rw [hx] at hm
  obtain ⟨m1, m2⟩ := hm
  unfold f_X9_back
  rw [hi, if_neg (by decide), gd_ix hk (by omega), n_cl (by omega), m1, if_neg (by decide), show (34 : Int32) * ((1 : Int32) + nI k) = nI (34 * (1 + k)) by rw [show (1 : Int32) = nI 1 from rfl, show (34 : Int32) = nI 34 from rfl, n_add, n_mul]]
  refine Ok.bind (copyR (σ := σ) (x := 1 + k) (y := 0) (by omega) (by omega) (by omega)) (fun r hr => ?_)
  obtain ⟨r1, r2, r3, r4⟩ := hr
  have st0 : StR r 0 o g t := m2.cg w3.2.1 (fun j hj => by have := r1 j hj; rw [show 34 * 0 + j = 0 + j by omega] at this; exact this)
  rw [show (0 : Int32).toNatClampNeg = 0 from rfl, st0.1, bitsIn_R w1]
  refine Ok.some ⟨rfl, ?_⟩
  obtain ⟨⟨h1, h2⟩, ⟨h3, h4⟩, h5, h6, h7⟩ := h
  refine ⟨⟨?_, fun j hj => ?_⟩, ⟨?_, h4.cg ?_ ?_ ?_ ?_⟩, st0, fun i hi => ?_, ?_⟩
  · rw [r3 0 (by omega)]; exact h1
  · rw [r3 1 (by omega)]; exact h2 j hj
  · rw [r3 2 (by omega)]; exact h3
  · rw [r3 3 (by omega)]
  · rw [r3 4 (by omega)]
  · rw [r3 5 (by omega)]
  · rw [r3 6 (by omega)]
  · show ImR r i (imA A i)
    have := h6 i hi
    cases hy : imA A i with
    | none =>
      rw [hy] at this
      show r.1 8 i = 0
      rw [r3 8 (by omega)]; exact this
    | some y =>
      obtain ⟨o, g, t⟩ := y
      rw [hy] at this
      refine ⟨by rw [r3 8 (by omega)]; exact this.1, this.2.cg (hA.2.2.2.2.2.2.2 i o g t hy).2.2.2.1 (fun j hj => ?_)⟩
      rw [r2 _ (by omega)]
  · show r.2.1 0 0 = _
    rw [r4]; exact h7
theorem back_RC {A : AS} {σ ρ : Mem} (h : RepC A σ) (g : RepR A ρ) (hA : WfA A) (a : Int32) : Both A σ (f_X8_back a σ) (f_X9_back a ρ) := by
  rcases isImage_C a with ⟨k, hk, rfl, h1⟩ | ⟨hn, h1⟩
  · cases hx : imA A k with
    | none =>
      have m1 := h.2.2.2.2.2.1 k hk
      have m2 := g.2.2.2.1 k hk
      rw [hx] at m1 m2
      have m1 : σ.1 (54 + 6 * k) 0 = 0 := m1
      have m2 : ρ.1 8 k = 0 := m2
      refine ⟨-2, A, σ, ρ, ?_, ?_, h, g, hA, rfl, PF.rf⟩
      · have e : f_X8_refusalOf (nI k) σ = some (-2) := by
          unfold f_X8_refusalOf
          rw [h1, if_neg (by decide), gd_ix hk (by omega), n_cl (by omega), m1, if_pos rfl]
        unfold f_X8_back
        rw [e, Option.bind_some, if_neg (by decide)]
      · have e : f_X9_in (nI k) 0 1 = 1 := by
          rcases isImage_R (nI k) with ⟨_, _, _, h1⟩ | ⟨hn, h1⟩
          · exact h1
          · exact absurd rfl (hn k hk)
        unfold f_X9_back
        rw [e, if_neg (by decide), gd_ix hk (by omega), n_cl (by omega), m2, if_pos rfl]
    | some y =>
      obtain ⟨o, gg, t⟩ := y
      obtain ⟨⟨c1, c2⟩, c3, c4, c5, c6⟩ := back_C h hA hk hx
      obtain ⟨⟨r1, r2⟩, r3, r4, r5⟩ := back_R g hA hk hx
      have c4 : c1 = _ := c4
      have r4 : r1 = _ := r4
      subst c4 r4
      refine ⟨_, _, c2, r2, c3, r3, c5, r5, ?_, rfl, c6⟩
      obtain ⟨w1, w2, w3, w4, w5, w6, w7, w8⟩ := hA
      obtain ⟨u1, u2, u3⟩ := w8 k o gg t hx
      exact ⟨w1, w2, w3, w4, u1, u2, u3, w8⟩
  · refine ⟨-1, A, σ, ρ, ?_, ?_, h, g, hA, rfl, PF.rf⟩
    · unfold f_X8_back f_X8_refusalOf
      rw [h1, if_pos rfl, Option.bind_some, if_neg (by decide)]
    · have e : f_X9_in a 0 1 = 0 := by
        rcases isImage_R a with ⟨k, k1, k2, _⟩ | ⟨_, h1⟩
        · exact absurd k2 (hn k k1)
        · exact h1
      unfold f_X9_back
      rw [e, if_pos rfl]
