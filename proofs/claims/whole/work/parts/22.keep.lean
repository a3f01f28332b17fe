/-! loops by their index; keep, back -/
/-! a tree copied -/
theorem copyT {σ : Mem} {t0 t1 : Nat} {l : List Nat} (h : TreeC σ t1 l) (hl : l.length ≤ 31) (hd : t0 + 3 < t1 ∨ t1 + 3 < t0) : Ok (f_X7_copyFrom t0 t1 σ) (fun σ' => TreeC σ' t0 l ∧ (∀ o, o < t0 ∨ t0 + 3 < o → σ'.1 o = σ.1 o) ∧ σ'.2 = σ.2) := by
  unfold f_X7_copyFrom
  refine Ok.lt (Ok.bind (P := fun σ' => (∀ j, j < 31 → σ'.1 (t0 + 1) j = σ.1 (t1 + 1) j ∧ σ'.1 (t0 + 2) j = σ.1 (t1 + 2) j ∧ σ'.1 (t0 + 3) j = σ.1 (t1 + 3) j) ∧ σ'.1 t0 4 = σ.1 t1 4 ∧ (∀ o, o < t0 ∨ t0 + 3 < o → σ'.1 o = σ.1 o) ∧ σ'.2 = σ.2) ?_ ?_)
  · refine Ok.for 31 (fun k s => s.1 = nI k ∧ (∀ j, j < k → s.2.1 (t0 + 1) j = σ.1 (t1 + 1) j ∧ s.2.1 (t0 + 2) j = σ.1 (t1 + 2) j ∧ s.2.1 (t0 + 3) j = σ.1 (t1 + 3) j) ∧ s.2.1 t0 4 = σ.1 t1 4 ∧ (∀ o, o < t0 ∨ t0 + 3 < o → s.2.1 o = σ.1 o) ∧ s.2.2 = σ.2) ?_ ?_ 0 (by omega) _ ⟨rfl, fun j hj => by omega, sI_same _ _ _ _, fun o ho => sI_o (by omega), rfl⟩
    · rintro k ⟨v, τ⟩ hk ⟨e1, e2, e3, e4, e5⟩
      have e1 : v = nI k := e1
      subst e1
      show Ok (b_X7_copyFrom_10 t0 t1 (nI k) τ) _
      unfold b_X7_copyFrom_10
      rw [if_neg (by rw [show (31 : Int32) = nI 31 from rfl, n_le (by omega) (by omega)]; omega)]
      simp only [gd_ix hk (by omega), n_cl (show k < 2147483648 by omega), lt_eq, n_suc]
      refine Ok.some ⟨rfl, fun j hj => ?_, ?_, fun o ho => ?_, e5⟩
      · simp only [sI_get, show ¬ t0 + 1 = t0 + 3 by omega, show ¬ t0 + 1 = t0 + 2 by omega, show ¬ t0 + 2 = t0 + 3 by omega, show ¬ t0 + 2 = t0 + 1 by omega, show ¬ t0 + 3 = t0 + 1 by omega, show ¬ t0 + 3 = t0 + 2 by omega, show ¬ t1 + 2 = t0 + 1 by omega, show ¬ t1 + 3 = t0 + 1 by omega, show ¬ t1 + 3 = t0 + 2 by omega, false_and, true_and, if_false]
        rw [e4 (t1 + 1) (by omega), e4 (t1 + 2) (by omega), e4 (t1 + 3) (by omega)]
        by_cases hj2 : j = k
        · subst hj2
          rw [if_pos rfl, if_pos rfl, if_pos rfl]
          exact ⟨rfl, rfl, rfl⟩
        · rw [if_neg hj2, if_neg hj2, if_neg hj2]
          exact e2 j (by omega)
      · rw [sI_off (by omega), sI_off (by omega), sI_off (by omega)]; exact e3
      · rw [sI_o (by omega), sI_o (by omega), sI_o (by omega)]; exact e4 o ho
    · rintro ⟨v, τ⟩ ⟨e1, e2⟩
      have e1 : v = nI 31 := e1
      subst e1
      exact Ok.some e2
  · rintro τ ⟨e2, e3, e4, e5⟩
    refine Ok.some ⟨⟨e3.trans h.1, fun j hj => ?_⟩, e4, e5⟩
    obtain ⟨q1, q2, q3⟩ := e2 j (by omega)
    rw [q1, q2, q3]
    exact h.2 j hj
theorem copyR {σ : Mem} {x y : Nat} (hx : x < 3) (hy : y < 3) (hxy : x ≠ y) : Ok (f_X9_copy (nI (34 * x)) (nI (34 * y)) σ) (fun σ' => (∀ j, j < 34 → σ'.1 7 (34 * y + j) = σ.1 7 (34 * x + j)) ∧ (∀ j, (j < 34 * y ∨ 34 * y + 34 ≤ j) → σ'.1 7 j = σ.1 7 j) ∧ (∀ o, o ≠ 7 → σ'.1 o = σ.1 o) ∧ σ'.2 = σ.2) := by
  unfold f_X9_copy
  refine Ok.bind (P := fun σ' => (∀ j, j < 34 → σ'.1 7 (34 * y + j) = σ.1 7 (34 * x + j)) ∧ (∀ j, (j < 34 * y ∨ 34 * y + 34 ≤ j) → σ'.1 7 j = σ.1 7 j) ∧ (∀ o, o ≠ 7 → σ'.1 o = σ.1 o) ∧ σ'.2 = σ.2) ?_ (fun r hr => Ok.some hr)
  refine Ok.for 34 (fun k s => s.1 = nI k ∧ (∀ j, j < k → s.2.1 7 (34 * y + j) = σ.1 7 (34 * x + j)) ∧ (∀ j, (j < 34 * y ∨ 34 * y + 34 ≤ j) → s.2.1 7 j = σ.1 7 j) ∧ (∀ o, o ≠ 7 → s.2.1 o = σ.1 o) ∧ s.2.2 = σ.2) ?_ ?_ 0 (by omega) _ ⟨rfl, fun j hj => by omega, fun j hj => rfl, fun o ho => rfl, rfl⟩
  · rintro k ⟨v, τ⟩ hk ⟨e1, e2, e3, e4, e5⟩
    have e1 : v = nI k := e1
    subst e1
    show Ok (b_X9_copy_2 (nI (34 * x)) (nI (34 * y)) (nI k) τ) _
    unfold b_X9_copy_2
    rw [if_neg (by rw [show (34 : Int32) = nI 34 from rfl, n_le (by omega) (by omega)]; omega)]
    simp only [n_add, gd_ix (show 34 * x + k < 102 by omega) (by omega), gd_ix (show 34 * y + k < 102 by omega) (by omega), n_cl (show 34 * x + k < 2147483648 by omega), n_cl (show 34 * y + k < 2147483648 by omega), lt_eq, n_suc]
    refine Ok.some ⟨rfl, fun j hj => ?_, fun j hj => ?_, fun o ho => ?_, e5⟩
    · rw [sI_get, e3 (34 * x + k) (by omega)]
      by_cases hj2 : j = k
      · subst hj2; rw [if_pos ⟨rfl, rfl⟩]
      · rw [if_neg (by omega)]; exact e2 j (by omega)
    · rw [sI_slot (by omega)]; exact e3 j hj
    · rw [sI_o ho]; exact e4 o ho
  · rintro ⟨v, τ⟩ ⟨e1, e2⟩
    have e1 : v = nI 34 := e1
    subst e1
    exact Ok.some e2
theorem isImage_R (a : Int32) : (∃ q, q < 2 ∧ a = nI q ∧ f_X9_in a 0 1 = 1) ∨ ((∀ q, q < 2 → a ≠ nI q) ∧ f_X9_in a 0 1 = 0) := by
  rcases in_cs a 0 1 (by omega) (by omega) with ⟨j, -, h2, h3, h4⟩ | ⟨h1, h2⟩
  · exact Or.inl ⟨j, by omega, h3, h4⟩
  · exact Or.inr ⟨fun b hb => h1 b (by omega) (by omega), h2⟩
theorem isImage_C (a : Int32) : (∃ q, q < 2 ∧ a = nI q ∧ f_X8_isImage a = 1) ∨ ((∀ q, q < 2 → a ≠ nI q) ∧ f_X8_isImage a = 0) := by
  unfold f_X8_isImage
  rcases n_of a with h | ⟨j, hj, rfl⟩
  · refine Or.inr ⟨fun j hj e => ?_, by rw [if_pos h]⟩
    rw [e, n_neg (by omega)] at h
    exact h
  · rw [if_neg (by rw [n_neg hj]; exact fun h => h)]
    by_cases h6 : j < 2
    · exact Or.inl ⟨j, h6, rfl, by rw [if_neg (by rw [show (2 : Int32) = nI 2 from rfl, n_le (by omega) hj]; omega)]⟩
    · refine Or.inr ⟨fun i hi e => ?_, by rw [if_pos (by rw [show (2 : Int32) = nI 2 from rfl, n_le (by omega) hj]; omega)]⟩
      rw [n_eq (by omega) (by omega)] at e
      omega
/-- image k is now x -/
def putIm (A : AS) (k : Nat) (x : Option (Nat × Nat × List Nat)) : AS := setIm A (fun i => if i = k then x else imA A i)
theorem RepC.im {A : AS} {σ σ' : Mem} {k : Nat} {x : Option (Nat × Nat × List Nat)} (h : RepC A σ) (hk : k < 2) (e : ∀ o, o < 54 + 6 * k ∨ 58 + 6 * k < o → σ'.1 o = σ.1 o) (e2 : σ'.2 = σ.2) (hx : ImC σ' k x) : RepC (putIm A k x) σ' := by
  obtain ⟨⟨h1, h2⟩, h3, h4, ⟨h5, h5'⟩, h6, h7, h8⟩ := h
  obtain ⟨q1, q2⟩ := h3.law
  have e22 : σ'.2.2 = σ.2.2 := by rw [e2]
  refine ⟨⟨?_, ?_⟩, ?_, ?_, ⟨?_, ?_⟩, ?_, fun i hi => ?_, ?_⟩
  · rw [e 1 (by omega)]; exact h1
  · rw [e 2 (by omega)]; exact h2
  · unfold RfC; rw [e22]; exact h3
  · rw [e22]; exact h4.cg (fun o k1 k2 => e o (by rcases q1 with q | q <;> omega))
  · rw [e 0 (by omega)]; exact h5
  · rw [e 0 (by omega)]; exact h5'
  · rw [e22]; exact h6.cg (fun o k1 k2 => e o (by rcases q2 with q | q <;> omega))
  · show ImC σ' i (if i = k then x else imA A i)
    by_cases hik : i = k
    · rw [if_pos hik, hik]; exact hx
    · rw [if_neg hik]
      exact (h7 i hi).cg (fun o k1 k2 => e o (by omega))
  · rw [e2]; exact h8
theorem keep_C {A : AS} {σ : Mem} (h : RepC A σ) (hA : WfA A) {k : Nat} (hk : k < 2) : Ok (f_X8_keep (nI k) σ) (fun r => r.1 = nI (pop (onA A) 16) ∧ RepC (putIm A k (some (onA A, gdA A, trA A))) r.2 ∧ PF σ r.2) := by
  have hi : f_X8_isImage (nI k) = 1 := by
    rcases isImage_C (nI k) with ⟨_, _, _, h1⟩ | ⟨hn, h1⟩
    · exact h1
    · exact absurd rfl (hn k hk)
  obtain ⟨q1, q2⟩ := h.2.1.law
  have ho : onA A < 65536 := hA.2.2.2.2.1
  unfold f_X8_keep
  rw [hi, if_neg (by decide), gd_ix hk (by omega), n_cl (by omega)]
  simp only [lt_eq]
  generalize hτ : sI (sI (sI σ (54 + 6 * k) 0 1) (54 + 6 * k) 1 ((sI σ (54 + 6 * k) 0 1).1 0 8)) (54 + 6 * k) 2 ((sI (sI σ (54 + 6 * k) 0 1) (54 + 6 * k) 1 ((sI σ (54 + 6 * k) 0 1).1 0 8)).1 0 9) = τ
  have t1 : ∀ o, o ≠ 54 + 6 * k → τ.1 o = σ.1 o := fun o ho => by rw [← hτ, sI_o ho, sI_o ho, sI_o ho]
  have t2 : τ.2 = σ.2 := by rw [← hτ]; rfl
  have t3 : τ.1 (54 + 6 * k) 0 = 1 := by rw [← hτ, sI_slot (by omega), sI_slot (by omega), sI_same]
  have t4 : τ.1 (54 + 6 * k) 1 = nI (onA A) := by rw [← hτ, sI_slot (by omega), sI_same, sI_off (by omega)]; exact h.2.2.2.1.1
  have t5 : τ.1 (54 + 6 * k) 2 = nI (gdA A) := by rw [← hτ, sI_same, sI_off (by omega), sI_off (by omega)]; exact h.2.2.2.1.2
  have t6 : TreeC τ (σ.2.2 6) (trA A) := h.2.2.2.2.1.cg (fun o k1 k2 => t1 o (by rcases q2 with q | q <;> omega))
  rw [show τ.2.2 = σ.2.2 by rw [t2], show 54 + 6 * k + 1 = 55 + 6 * k by omega]
  refine Ok.bind (copyT t6 hA.2.2.2.2.2.2.1.2.1 (by rcases q2 with q | q <;> omega)) (fun r hr => Ok.some ?_)
  obtain ⟨r1, r2, r3⟩ := hr
  have rr : ∀ o, o < 54 + 6 * k ∨ 58 + 6 * k < o → r.1 o = σ.1 o := fun o ho => (r2 o (by omega)).trans (t1 o (by omega))
  refine ⟨?_, h.im hk rr (r3.trans t2) ⟨?_, ?_, ?_, r1⟩, fun o o1 o2 => rr o (by omega), by rw [r3, t2]⟩
  · show f_J6_bitCount_0f7a4 (r.1 0 8) = _
    rw [rr 0 (by omega), h.2.2.2.1.1, bitCount_C ho]
  · show r.1 (54 + 6 * k) 0 = 1
    rw [r2 _ (by omega)]; exact t3
  · show r.1 (54 + 6 * k) 1 = _
    rw [r2 _ (by omega)]; exact t4
  · show r.1 (54 + 6 * k) 2 = _
    rw [r2 _ (by omega)]; exact t5
theorem StR.cg {σ σ' : Mem} {x y o g : Nat} {t : List Nat} (h : StR σ x o g t) (hl : t.length ≤ 31) (e : ∀ j, j < 34 → σ'.1 7 (y + j) = σ.1 7 (x + j)) : StR σ' y o g t := by
  obtain ⟨h1, h2, h3, h4⟩ := h
  refine ⟨?_, ?_, ?_, fun j hj => ?_⟩
  · rw [show y = y + 0 from rfl, e 0 (by omega)]; exact h1
  · rw [e 1 (by omega)]; exact h2
  · rw [e 2 (by omega)]; exact h3
  · rw [show y + 3 + j = y + (3 + j) by omega, e (3 + j) (by omega), show x + (3 + j) = x + 3 + j by omega]; exact h4 j hj
theorem keep_R {A : AS} {σ : Mem} (h : RepR A σ) (hA : WfA A) {k : Nat} (hk : k < 2) : Ok (f_X9_keep (nI k) σ) (fun r => r.1 = nI (pop (onA A) 16) ∧ RepR (putIm A k (some (onA A, gdA A, trA A))) r.2) := by
  have hi : f_X9_in (nI k) 0 1 = 1 := by
    rcases isImage_R (nI k) with ⟨_, _, _, h1⟩ | ⟨hn, h1⟩
    · exact h1
    · exact absurd rfl (hn k hk)
  have ho : onA A < 65536 := hA.2.2.2.2.1
  have hl : (trA A).length ≤ 31 := hA.2.2.2.2.2.2.1.2.1
  unfold f_X9_keep
  rw [hi, if_neg (by decide), show (34 : Int32) * ((1 : Int32) + nI k) = nI (34 * (1 + k)) by rw [show (1 : Int32) = nI 1 from rfl, show (34 : Int32) = nI 34 from rfl, n_add, n_mul]]
  refine Ok.bind (copyR (σ := σ) (x := 0) (y := 1 + k) (by omega) (by omega) (by omega)) (fun r hr => ?_)
  obtain ⟨r1, r2, r3, r4⟩ := hr
  rw [gd_ix hk (by omega), n_cl (show k < 2147483648 by omega), show vp_nar .boolean (1 : Int32) = 1 from by decide]
  refine Ok.lt ?_
  have e7 : (sI r 8 k 1).1 7 = r.1 7 := sI_o (by omega)
  rw [show (0 : Int32).toNatClampNeg = 0 from rfl, e7, r2 0 (by omega), h.2.2.1.1, bitsIn_R ho]
  refine Ok.some ⟨rfl, ?_⟩
  have st0 : StR (sI r 8 k 1) (34 * (1 + k)) (onA A) (gdA A) (trA A) := h.2.2.1.cg hl (fun j hj => by rw [e7, r1 j hj])
  obtain ⟨⟨h1, h2⟩, ⟨h3, h4⟩, h5, h6, h7⟩ := h
  refine ⟨⟨?_, fun j hj => ?_⟩, ⟨?_, h4.cg ?_ ?_ ?_ ?_⟩, h5.cg hl (fun j hj => ?_), fun i hi => ?_, ?_⟩
  · rw [sI_off (by omega), r3 0 (by omega)]; exact h1
  · rw [sI_off (by omega), r3 1 (by omega)]; exact h2 j hj
  · rw [sI_off (by omega), r3 2 (by omega)]; exact h3
  · rw [sI_o (by omega), r3 3 (by omega)]
  · rw [sI_o (by omega), r3 4 (by omega)]
  · rw [sI_o (by omega), r3 5 (by omega)]
  · rw [sI_o (by omega), r3 6 (by omega)]
  · rw [e7, r2 _ (by omega)]
  · show ImR (sI r 8 k 1) i (if i = k then some (onA A, gdA A, trA A) else imA A i)
    by_cases hik : i = k
    · rw [if_pos hik, hik]
      exact ⟨sI_same _ _ _ _, st0⟩
    · rw [if_neg hik]
      have := h6 i hi
      cases hx : imA A i with
      | none =>
        rw [hx] at this
        show (sI r 8 k 1).1 8 i = 0
        rw [sI_slot hik, r3 8 (by omega)]; exact this
      | some y =>
        obtain ⟨o, g, t⟩ := y
        rw [hx] at this
        refine ⟨by rw [sI_slot hik, r3 8 (by omega)]; exact this.1, this.2.cg (hA.2.2.2.2.2.2.2 i o g t hx).2.2.2.1 (fun j hj => ?_)⟩
        rw [e7, r2 _ (by omega)]
  · show r.2.1 0 0 = _
    rw [r4]; exact h7
theorem keep_RC {A : AS} {σ ρ : Mem} (h : RepC A σ) (g : RepR A ρ) (hA : WfA A) (a : Int32) : Both A σ (f_X8_keep a σ) (f_X9_keep a ρ) := by
  rcases isImage_C a with ⟨k, hk, rfl, h1⟩ | ⟨hn, h1⟩
  · obtain ⟨⟨c1, c2⟩, c3, c4, c5, c6⟩ := keep_C h hA hk
    obtain ⟨⟨r1, r2⟩, r3, r4, r5⟩ := keep_R g hA hk
    have c4 : c1 = _ := c4
    have r4 : r1 = _ := r4
    subst c4 r4
    refine ⟨_, _, c2, r2, c3, r3, c5, r5, ?_, rfl, c6⟩
    obtain ⟨w1, w2, w3, w4, w5, w6, w7, w8⟩ := hA
    refine ⟨w1, w2, w3, w4, w5, w6, w7, fun i o g t hx => ?_⟩
    have hx : (if i = k then some (onA A, gdA A, trA A) else imA A i) = some (o, g, t) := hx
    by_cases hik : i = k
    · rw [if_pos hik] at hx
      cases hx
      exact ⟨w5, w6, w7⟩
    · rw [if_neg hik] at hx
      exact w8 i o g t hx
  · refine ⟨-1, A, σ, ρ, ?_, ?_, h, g, hA, rfl, PF.rf⟩
    · unfold f_X8_keep
      rw [h1, if_pos rfl]
    · have e : f_X9_in a 0 1 = 0 := by
        rcases isImage_R a with ⟨k, k1, k2, _⟩ | ⟨_, h1⟩
        · exact absurd k2 (hn k k1)
        · exact h1
      unfold f_X9_keep
      rw [e, if_pos rfl]
