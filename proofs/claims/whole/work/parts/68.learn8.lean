/-! the class: learn -/
/-- what learning leaves -/
def LnOk (rl : List Ru) (on on' : Nat) (σ : Mem) : Prop := ∃ n xs z W F, LrI σ rl on on' n xs z W F ∧ ((σ.1 9 18 = 0 ∧ (∀ p, p < n → Lst (stX rl on on') (xs p) (z p) (W p)) ∧ TbC σ (stX rl on on') n xs (fun _ => True) (fun _ => True) (fun _ _ => True)) ∨ (σ.1 9 18 = 1 ∧ Many (stX rl on on')))
theorem round_C {rl : List Ru} {on on' n p t1' : Nat} {σ0 σ : Mem} {xs : Nat → PX} {z : Nat → Nat} {W : Nat → List Nat} {F : Nat → Bool} {a2 a3 v4 : Int32} (hrl : ∀ r ∈ rl, OkRu r) (hll : rl.length ≤ 16) (hS : SeC rl on on' σ0 σ n xs z W F (Done σ (stX rl on on') n xs z W F)) (fl : σ.1 9 18 = 0) (hp : p < n) (hpF : F p = false) (hn : ∀ q, q < n → F q = false → z p ≤ z q) : Ok (gd (ix (nI p) 120) (lt (sI σ 17 (nI p).toNatClampNeg (vp_nar .boolean (1 : Int32))) (fun σ7 => gd (ix (nI p) 120) ((f_X4_offer ((σ7.1 19 (4 : Int32).toNatClampNeg) &&& (σ7.1 11 (nI p).toNatClampNeg)) (4 : Int32) (nI p) (-1 : Int32) σ7).bind (fun r8 => lt r8.1 (fun x9 => gd (ix (nI p) 120) ((f_X4_offer ((r8.2.1 19 (5 : Int32).toNatClampNeg) &&& (r8.2.1 11 (nI p).toNatClampNeg)) (5 : Int32) (nI p) (-1 : Int32) r8.2).bind (fun r10 => lt r10.1 (fun x11 => gd (ix (nI p) 120) (lt (sI r10.2 20 (nI p).toNatClampNeg (vp_nar .short ((x9 ||| (x11 <<< ((7 : Int32) &&& 31))).toInt16.toInt32))) (fun σ12 => (Lim (T := (Int32 × Mem)) (fun s => b_X4_learn_147 t1' a2 a3 s.1 s.2.1 s.2.2.1 s.2.2.2) (v4, (nI p), (0 : Int32), σ12)).bind (fun r16 => j_X4_learn_195 t1' a2 a3 r16.1 r16.2)))))))))))) (SumP (fun st => st.1 = v4 + 1 ∧ ∃ n' xs' z' W', ExX n xs n' xs' ∧ SeC rl on on' σ0 st.2 n' xs' z' W' (upF F p) (Done st.2 (stX rl on on') n' xs' z' W' (upF F p))) (fun _ => False)) := by
  have n120 : n ≤ 120 := hS.1.1.2.2.1
  have S0 := final_C hS fl hp hpF hn
  have hpF' : upF F p p = true := upF_yes F p
  rw [gd_ix (by omega) (by omega)]
  simp only [n_cl (show p < 2147483648 by omega), show vp_nar .boolean (1 : Int32) = 1 from by decide, gd_ix (show p < 120 by omega) (by omega), show (4 : Int32).toNatClampNeg = 4 from rfl, show (5 : Int32).toNatClampNeg = 5 from rfl]
  refine Ok.lt ?_
  have and32 : ∀ a b : Nat, a < 4294967296 → a &&& b < 4294967296 := fun a b h => Nat.lt_of_le_of_lt Nat.and_le_left h
  obtain ⟨u, u1, u2, u3⟩ := (S0.1.1.2.2.2.2.1 p hp).2.2.2.1
  obtain ⟨r4, a1, a2', a3'⟩ := S0.1.1.2.2.2.2.2.2 4 (by omega)
  rw [u2, a2', n_and]
  refine Ok.bind (offerS_C (s := 4) (o1 := some p) (o2 := none) hrl hll S0 (by omega) (Or.inr (Or.inl ⟨armsN_1 (by omega) (by omega), ⟨p, hp, hpF', rfl⟩, rfl⟩)) (and32 _ _ a1) (fit1 a3' u3 (armsN_1 (by omega) (by omega)))) ?_
  rintro ⟨v, τ⟩ ⟨n1, xs1, z1', W1, k1, x1, m1, b1, rfl, f1, c1⟩
  simp only at f1 c1
  refine Ok.lt ?_
  have S1 := c1 (CdS (stX rl on on') n1 xs1 z1' W1 (upF F p) (fun _ => True) (fun s i => i ≠ p ∨ (s = 4 ∧ i = p)) (fun _ i j => i ≠ p ∧ j ≠ p) ∧ TbC τ (stX rl on on') n1 xs1 (fun _ => True) (fun i => F i = true) (fun i j => F i = true ∧ F j = true) ∧ xs1 k1 = stX rl on on' 4 (xs1 p) zX) (fun D kx cd => by
    have cm := D.1.mono S0.2.1 x1 m1
    refine ⟨⟨cm.1, fun s i h1 h2 h3 h4 h5 => ?_, cm.2.2⟩, ⟨fun s h1 h2 => (D.2.1 s h1 h2).ext x1 (by rw [f1.1 24 (by omega)]), fun i h1 h2 => ?_, fun i j h1 h2 h3 => ?_⟩, by rw [kx, x1.2 p hp]; rfl⟩
    · by_cases c : i = p
      · subst c
        have e : s = 4 := by omega
        subst e
        obtain ⟨q1, q2⟩ := m1.1 i hp hpF'
        rw [q1, q2, x1.2 i hp]
        have := cd
        simp only [zO, wO, xO, Nat.add_zero, List.append_nil] at this
        exact this
      · exact cm.2.1 s i h1 h2 h3 h4 c
    · have := hS.2.1 i h2
      exact (D.2.2.1 i this h2).ext this x1 (by rw [f1.1 20 (by omega)])
    · have hi := hS.2.1 i h3.1
      have hj := hS.2.1 j h3.2
      exact (D.2.2.2 i j hi hj h3).ext hi hj x1 (by rw [f1.1 21 (by omega)]))
  have hp1 : p < n1 := by have := x1.1; omega
  have n1120 : n1 ≤ 120 := S1.1.1.2.2.1
  obtain ⟨u', u1', u2', u3'⟩ := (S1.1.1.2.2.2.2.1 p hp1).2.2.2.1
  obtain ⟨r5, d1, d2, d3⟩ := S1.1.1.2.2.2.2.2.2 5 (by omega)
  rw [u2', d2, n_and]
  refine Ok.bind (offerS_C (s := 5) (o1 := some p) (o2 := none) hrl hll S1 (by omega) (Or.inr (Or.inl ⟨armsN_1 (by omega) (by omega), ⟨p, hp1, hpF', rfl⟩, rfl⟩)) (and32 _ _ d1) (fit1 d3 u3' (armsN_1 (by omega) (by omega)))) ?_
  rintro ⟨v, υ⟩ ⟨n2, xs2, z2', W2, k2, x2, m2, b2, rfl, f2, c2⟩
  simp only at f2 c2
  refine Ok.lt ?_
  have S2 := c2 (CdS (stX rl on on') n2 xs2 z2' W2 (upF F p) (fun _ => True) (fun _ _ => True) (fun _ i j => i ≠ p ∧ j ≠ p) ∧ TbC υ (stX rl on on') n2 xs2 (fun _ => True) (fun i => F i = true) (fun i j => F i = true ∧ F j = true) ∧ xs2 k1 = stX rl on on' 4 (xs2 p) zX ∧ xs2 k2 = stX rl on on' 5 (xs2 p) zX) (fun D kx cd => by
    have cm := D.1.mono S1.2.1 x2 m2
    refine ⟨⟨cm.1, fun s i h1 h2 h3 h4 _ => ?_, cm.2.2⟩, ⟨fun s h1 h2 => (D.2.1.1 s h1 h2).ext x2 (by rw [f2.1 24 (by omega)]), fun i h1 h2 => ?_, fun i j h1 h2 h3 => ?_⟩, by rw [x2.2 k1 b1, x2.2 p hp1]; exact D.2.2, by rw [kx, x2.2 p hp1]; rfl⟩
    · by_cases c : i = p
      · by_cases c4 : s = 4
        · exact cm.2.1 s i h1 h2 h3 h4 (Or.inr ⟨c4, c⟩)
        · subst c
          have e : s = 5 := by omega
          subst e
          obtain ⟨q1, q2⟩ := m2.1 i hp1 hpF'
          rw [q1, q2, x2.2 i hp1]
          have := cd
          simp only [zO, wO, xO, Nat.add_zero, List.append_nil] at this
          exact this
      · exact cm.2.1 s i h1 h2 h3 h4 (Or.inl c)
    · have : i < n1 := by have := hS.2.1 i h2; have := x1.1; omega
      exact (D.2.1.2.1 i this h2).ext this x2 (by rw [f2.1 20 (by omega)])
    · have hi : i < n1 := by have := hS.2.1 i h3.1; have := x1.1; omega
      have hj : j < n1 := by have := hS.2.1 j h3.2; have := x1.1; omega
      exact (D.2.1.2.2 i j hi hj h3).ext hi hj x2 (by rw [f2.1 21 (by omega)]))
  have n2120 : n2 ≤ 120 := S2.1.1.2.2.1
  have hp2 : p < n2 := by have := x2.1; omega
  have hk1 : k1 < n2 := by have := x2.1; omega
  rw [pack_n (by omega) (by omega), short_n (by omega), vshort_n (by omega)]
  refine Ok.lt ?_
  have S3 := S2.put (o := 20) (p := p) (v := nI (k1 + 128 * k2)) (by omega) (CdS (stX rl on on') n2 xs2 z2' W2 (upF F p) (fun _ => True) (fun _ _ => True) (fun _ i j => i ≠ p ∧ j ≠ p) ∧ TbC (sI υ 20 p (nI (k1 + 128 * k2))) (stX rl on on') n2 xs2 (fun _ => True) (fun i => upF F p i = true) (fun i j => upF F p i = true ∧ upF F p j = true ∧ i ≠ p ∧ j ≠ p)) (fun D => by
    refine ⟨D.1, fun s h1 h2 => (D.2.1.1 s h1 h2).ext ⟨Nat.le_refl _, fun _ _ => rfl⟩ (sI_off (by omega)), fun i h1 h2 => ?_, fun i j h1 h2 h3 => (D.2.1.2.2 i j h1 h2 ⟨upF_ne h3.1 h3.2.2.1, upF_ne h3.2.1 h3.2.2.2⟩).ext h1 h2 ⟨Nat.le_refl _, fun _ _ => rfl⟩ (sI_off (by omega))⟩
    by_cases c : i = p
    · subst c
      exact ⟨k1, k2, hk1, b2, sI_same _ _ _ _, D.2.2.1, D.2.2.2⟩
    · exact (D.2.1.2.1 i h1 (upF_ne h2 c)).ext h1 ⟨Nat.le_refl _, fun _ _ => rfl⟩ (sI_slot c))
  refine Ok.bind (joins_C hrl hll hp2 hpF' S3) ?_
  rintro ⟨v, ω⟩ ⟨rfl, n3, xs3, z3', W3, x3, m3, S4⟩
  show Ok (j_X4_learn_195 t1' a2 a3 v ω) _
  unfold j_X4_learn_195
  exact Ok.lt (Ok.some ⟨rfl, n3, xs3, z3', W3, ⟨by have := x1.1; have := x2.1; have := x3.1; omega, fun i hi => by rw [x3.2 i (by have := x1.1; have := x2.1; omega), x2.2 i (by have := x1.1; omega), x1.2 i hi]⟩, S4⟩)
theorem rounds_C {rl : List Ru} {on on' t1' : Nat} {σ0 σ : Mem} {n : Nat} {xs : Nat → PX} {z : Nat → Nat} {W : Nat → List Nat} {a2 a3 : Int32} (hrl : ∀ r ∈ rl, OkRu r) (hll : rl.length ≤ 16) (hS : SeC rl on on' σ0 σ n xs z W (fun _ => false) (Done σ (stX rl on on') n xs z W (fun _ => false))) : Ok (Lim (T := (Mem ⊕ Mem)) (fun s => b_X4_learn_46 t1' a2 a3 s.1 s.2) ((0 : Int32), σ)) (fun r => ∃ τ, (r = .inl τ ∨ r = .inr τ) ∧ LnOk rl on on' τ ∧ FrL σ0 τ) := by
  have fin : ∀ τ n xs z W F, SeC rl on on' σ0 τ n xs z W F (Done τ (stX rl on on') n xs z W F) → (τ.1 9 18 = 0 → ∀ p, p < n → F p = true) → LnOk rl on on' τ ∧ FrL σ0 τ := by
    intro τ n xs z W F S all
    refine ⟨⟨n, xs, z, W, F, S.1, ?_⟩, S.2.2.2.1⟩
    rcases S.2.2.2.2 with ⟨fl, D⟩ | mn
    · have a := all fl
      exact Or.inl ⟨fl, fun p hp => S.2.2.1 p hp (a p hp), D.2.1, fun p hp _ => D.2.2.1 p hp (a p hp), fun p q hp hq _ => D.2.2.2 p q hp hq ⟨a p hp, a q hq⟩⟩
    · exact Or.inr mn
  refine Ok.for 120 (fun k st => st.1 = nI k ∧ ∃ n xs z W F, SeC rl on on' σ0 st.2 n xs z W F (Done st.2 (stX rl on on') n xs z W F) ∧ ∃ fp : Nat → Nat, (∀ i, i < k → fp i < n ∧ F (fp i) = true) ∧ (∀ i j, i < k → j < k → fp i = fp j → i = j)) ?_ ?_ 0 (by omega) _ ⟨rfl, n, xs, z, W, _, hS, fun _ => 0, fun i hi => by omega, fun i j hi => by omega⟩
  · rintro k ⟨v, τ⟩ hk ⟨e1, n, xs, z, W, F, S, fp, p1, p2⟩
    simp only at e1 S
    subst e1
    show Ok (b_X4_learn_46 t1' a2 a3 (nI k) τ) _
    unfold b_X4_learn_46
    rw [if_neg (by rw [show (120 : Int32) = nI 120 from rfl, n_le (by omega) (by omega)]; omega)]
    rcases S.2.2.2.2 with ⟨fl, D⟩ | ⟨fl, mn⟩
    · rw [fl, if_pos rfl]
      refine Ok.bind (near_C S.1) ?_
      rintro v hv
      rcases hv with ⟨rfl, all⟩ | ⟨p, hp, rfl, hpF, hn⟩
      · rw [if_neg (by decide)]
        exact Ok.some ⟨τ, Or.inl rfl, fin τ n xs z W F S (fun _ => all)⟩
      · have n120 : n ≤ 120 := S.1.1.2.2.1
        rw [if_pos (by rw [n_nn (by omega)]; trivial)]
        refine (round_C hrl hll S fl hp hpF hn).mono ?_
        intro x hx
        cases x with
        | inr r => exact absurd hx id
        | inl st =>
          obtain ⟨h1, n', xs', z', W', h2, h3⟩ := hx
          have fpF : ∀ i, i < k → fp i ≠ p := fun i hi e => by
            have := (p1 i hi).2
            rw [e, hpF] at this
            exact absurd this (by decide)
          refine ⟨by rw [h1, n_suc], n', xs', z', W', upF F p, h3, fun i => if i < k then fp i else p, fun i hi => ?_, fun i j hi hj e => ?_⟩
          · by_cases c : i < k
            · simp only [if_pos c]
              exact ⟨by have := (p1 i c).1; have := h2.1; omega, upF_of (p1 i c).2⟩
            · simp only [if_neg c]
              exact ⟨by have := h2.1; omega, upF_yes F p⟩
          · by_cases ci : i < k
            · by_cases cj : j < k
              · simp only [if_pos ci, if_pos cj] at e
                exact p2 i j ci cj e
              · simp only [if_pos ci, if_neg cj] at e
                exact absurd e (fpF i ci)
            · by_cases cj : j < k
              · simp only [if_neg ci, if_pos cj] at e
                exact absurd e.symm (fpF j cj)
              · omega
    · rw [fl, if_neg (by decide)]
      exact Ok.some ⟨τ, Or.inr rfl, fin τ n xs z W F S (fun w => by rw [fl] at w; exact absurd w (by decide))⟩
  · rintro ⟨v, τ⟩ ⟨e1, n, xs, z, W, F, S, fp, p1, p2⟩
    simp only at e1 S
    subst e1
    show Ok (b_X4_learn_46 t1' a2 a3 (nI 120) τ) _
    unfold b_X4_learn_46
    rw [if_pos (by decide)]
    refine Ok.some ⟨τ, Or.inr rfl, fin τ n xs z W F S (fun _ p hp => ?_)⟩
    have n120 : n ≤ 120 := S.1.1.2.2.1
    cases hF : F p with
    | true => rfl
    | false =>
      have := php n 121 (fun i => if i < 120 then fp i else p) (fun i hi => by
        by_cases c : i < 120
        · simp only [if_pos c]; exact (p1 i c).1
        · simp only [if_neg c]; exact hp) (fun i j hi hj e => by
        have fpF : ∀ i, i < 120 → fp i ≠ p := fun i hi e => by
          have := (p1 i hi).2
          rw [e, hF] at this
          exact absurd this (by decide)
        by_cases ci : i < 120
        · by_cases cj : j < 120
          · simp only [if_pos ci, if_pos cj] at e
            exact p2 i j ci cj e
          · simp only [if_pos ci, if_neg cj] at e
            exact absurd e (fpF i ci)
        · by_cases cj : j < 120
          · simp only [if_neg ci, if_pos cj] at e
            exact absurd e.symm (fpF j cj)
          · omega)
      omega
