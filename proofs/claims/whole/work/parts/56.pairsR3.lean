/-! the reference's findPairs -/
theorem row66_R {rl : List Ru} {on on' : Nat} {ρ0 ρ : Mem} {n i : Nat} {xs : Nat → PX} {a1 a2 : Int32} (hrl : ∀ r ∈ rl, OkRu r) (hll : rl.length ≤ 16) (ho : on < 65536) (ho' : on' < 65536) (hi : i < n) (hS : SeR rl on on' ρ0 ρ n xs (TbR ρ (stX rl on on') n xs (fun _ j => j < i) (fun _ j k => j < i ∧ k < i))) : Ok (Lim (T := (Int32 × Mem)) (fun s => b_X9_findPairs_66 a1 a2 s.1 s.2.1 s.2.2) (nI i, (0 : Int32), ρ)) (fun r => r.1 = nI i ∧ ∃ n' xs', ExX n xs n' xs' ∧ SeR rl on on' ρ0 r.2 n' xs' (TbR r.2 (stX rl on on') n' xs' (fun _ j => j < i + 1) (fun _ j k => j < i + 1 ∧ k < i + 1))) := by
  refine Ok.for 2 (fun s st => st.1 = nI i ∧ st.2.1 = nI s ∧ ∃ n' xs', ExX n xs n' xs' ∧ SeR rl on on' ρ0 st.2.2 n' xs' (TbR st.2.2 (stX rl on on') n' xs' (fun s' j => j < i ∨ (j = i ∧ s' < s)) (fun s' j k => (j < i ∧ k < i) ∨ (s' < s ∧ ((j = i ∧ k ≤ i) ∨ (k = i ∧ j ≤ i)))))) ?_ ?_ 0 (by omega) _ ⟨rfl, rfl, n, xs, ⟨Nat.le_refl _, fun _ _ => rfl⟩, hS.wk (fun t => t.wk (fun _ _ _ _ z => z.resolve_right (by omega)) (fun _ _ _ _ _ _ z => z.resolve_right (by omega)))⟩
  · rintro s ⟨v3, v4, τ⟩ hs ⟨e1, e2, n1, xs1, e4, e5⟩
    simp only at e1 e2 e5
    subst e1 e2
    show Ok (b_X9_findPairs_66 a1 a2 (nI i) (nI s) τ) _
    have hin : i < n1 := by have := e4.1; omega
    have r0 := e5.2.1.2.2.2.2
    have n120 := e5.2.1.2.1
    unfold b_X9_findPairs_66
    rw [if_neg (by rw [show (2 : Int32) = nI 2 from rfl, n_le (by omega) (by omega)]; omega), show (4 : Int32) + nI s = nI (4 + s) from n_add 4 s, show ((120 : Int32) * nI s) + nI i = nI (120 * s + i) by rw [show (120 : Int32) = nI 120 from rfl, n_mul, n_add]]
    refine Ok.bind (step_R (o := 18) (p := 120 * s + i) hrl hll ho ho' e5 (by omega) (Armx_some hin) Armx_none (Rch.one (by omega) (by omega) (r0 i hin)) (by omega) (by omega)) ?_
    rintro ⟨v, υ⟩ ⟨n2, xs2, k2, x2, rfl, w2⟩
    simp only at w2
    have hin2 : i < n2 := by have := x2.1; omega
    rw [gd_ix (by omega) (by omega), n_cl (by omega)]
    refine Ok.lt ?_
    have S2 := w2 (TbR (sI υ 18 (120 * s + i) (nI k2)) (stX rl on on') n2 xs2 (fun s' j => j < i ∨ (j = i ∧ s' < s + 1)) (fun s' j k => (j < i ∧ k < i) ∨ (s' < s ∧ ((j = i ∧ k ≤ i) ∨ (k = i ∧ j ≤ i))))) (fun t fr kn kp kx => by
      refine ⟨fun s' h => (t.1 s' h).ext x2 (fr 17 _ (by omega) (by omega) (by omega)), fun s' j h1 h2 h3 => ?_, fun s' j k h1 h2 h3 h4 => ?_⟩
      · by_cases c : s' = s ∧ j = i
        · obtain ⟨rfl, rfl⟩ := c
          exact ⟨k2, kn, kp, by rw [kx, x2.2 j hin]⟩
        · have h5 : j < i ∨ (j = i ∧ s' < s) := by omega
          exact (t.2.1 s' j h1 (by omega) h5).ext (by omega) x2 (fr 18 _ (by omega) (by omega) (by omega))
      · exact (t.2.2 s' j k h1 (by omega) (by omega) h4).ext (by omega) (by omega) x2 (fr 19 _ (by omega) (by omega) (by omega)))
    refine Ok.bind (row97_R hrl hll ho ho' hin2 hs (fun s' j z => by omega) (fun s' j k z => by omega) S2) ?_
    rintro ⟨v3, v4, ω⟩ ⟨f1, f2, n3, xs3, x3, f3⟩
    simp only at f1 f2 f3
    subst f1 f2
    show Ok (j_X9_findPairs_178 a1 a2 (nI i) (nI s) ω) _
    unfold j_X9_findPairs_178
    refine Ok.lt (Ok.some ⟨rfl, n_suc s, n3, xs3, ⟨by have := e4.1; have := x2.1; have := x3.1; omega, fun j hj => ?_⟩, f3.wk (fun t => t.wk (fun _ _ _ _ z => z) (fun s' j k _ _ _ z => ?_))⟩)
    · rw [x3.2 j (by have := e4.1; have := x2.1; omega), x2.2 j (by have := e4.1; omega), e4.2 j hj]
    · rcases z with z | ⟨z1, z2⟩
      · exact Or.inl (Or.inl z)
      · by_cases c : s' = s
        · exact Or.inr ⟨c, z2⟩
        · exact Or.inl (Or.inr ⟨by omega, z2⟩)
  · rintro ⟨v3, v4, τ⟩ ⟨e1, e2, n1, xs1, e4, e5⟩
    simp only at e1 e2 e5
    subst e1 e2
    show Ok (b_X9_findPairs_66 a1 a2 (nI i) (nI 2) τ) _
    unfold b_X9_findPairs_66
    rw [if_pos (by decide)]
    refine Ok.some ⟨rfl, n1, xs1, e4, e5.wk (fun t => t.wk (fun s' j h1 _ z => ?_) (fun s' j k h1 _ _ z => ?_))⟩
    · omega
    · omega
/-- what findPairs leaves: the list, and the tables, or the flag -/
def FPok (ρ : Mem) (st : Nat → PX → PX → PX) (n : Nat) (xs : Nat → PX) : Prop := PRx ρ st n xs ∧ TbR ρ st n xs (fun _ _ => True) (fun _ _ _ => True)
theorem FPok.cl {ρ : Mem} {st : Nat → PX → PX → PX} {n : Nat} {xs : Nat → PX} (h : FPok ρ st n xs) : ClX st n xs := by
  refine ⟨fun s hs => ?_, fun s i h1 h2 hi => ?_, fun s i j h1 h2 hi hj => ?_⟩
  · obtain ⟨k, k1, _, k3⟩ := h.2.1 s hs
    exact ⟨k, k1, k3⟩
  · obtain ⟨k, k1, _, k3⟩ := h.2.2.1 (s - 4) i (by omega) hi trivial
    rw [show 4 + (s - 4) = s by omega] at k3
    exact ⟨k, k1, k3⟩
  · obtain ⟨k, k1, _, k3⟩ := h.2.2.2 (s - 6) i j (by omega) hi hj trivial
    rw [show 6 + (s - 6) = s by omega] at k3
    exact ⟨k, k1, k3⟩
def FrG (ρ τ : Mem) : Prop := (∀ o, o ≠ 0 → o < 15 ∨ 19 < o → τ.1 o = ρ.1 o) ∧ (∀ j, j ≠ 22 → j ≠ 28 → j ≠ 29 → j ≠ 30 → τ.1 0 j = ρ.1 0 j) ∧ τ.2 = ρ.2
theorem findPairs_R {rl : List Ru} {on on' g' : Nat} {ρ : Mem} (hrl : ∀ r ∈ rl, OkRu r) (hll : rl.length ≤ 16) (ho : on < 65536) (ho' : on' < 65536) (h2 : ρ.1 2 0 = nI rl.length) (hL : LawM ρ 3 4 5 6 rl) (h7 : ρ.1 7 0 = nI on) : Ok (f_X9_findPairs (nI on') (nI g') ρ) (fun τ => FrG ρ τ ∧ τ.1 0 29 = nI g' ∧ ∃ n xs, PRx τ (stX rl on on') n xs ∧ ((τ.1 0 30 = 0 ∧ FPok τ (stX rl on on') n xs) ∨ (τ.1 0 30 = 1 ∧ Many (stX rl on on')))) := by
  unfold f_X9_findPairs
  refine Ok.lt (Ok.lt (Ok.lt (Ok.lt ?_)))
  generalize hσ : sI (sI (sI (sI ρ 0 28 (nI on')) 0 29 (nI g')) 0 22 0) 0 30 0 = σ
  have so : ∀ o, o ≠ 0 → σ.1 o = ρ.1 o := fun o h => by rw [← hσ, sI_o h, sI_o h, sI_o h, sI_o h]
  have s28 : σ.1 0 28 = nI on' := by rw [← hσ, sI_slot (by omega), sI_slot (by omega), sI_slot (by omega), sI_same]
  have s29 : σ.1 0 29 = nI g' := by rw [← hσ, sI_slot (by omega), sI_slot (by omega), sI_same]
  have s22 : σ.1 0 22 = nI 0 := by rw [← hσ, sI_slot (by omega), sI_same]; rfl
  have s30 : σ.1 0 30 = 0 := by rw [← hσ, sI_same]
  have sj : ∀ j, j ≠ 22 → j ≠ 28 → j ≠ 29 → j ≠ 30 → σ.1 0 j = ρ.1 0 j := fun j a b c d => by rw [← hσ, sI_slot d, sI_slot a, sI_slot c, sI_slot b]
  have s2 : σ.2 = ρ.2 := by rw [← hσ]; rfl
  clear hσ
  have B0 : BaR σ rl on on' := ⟨by rw [so 2 (by omega)]; exact h2, hL.cg (so 3 (by omega)) (so 4 (by omega)) (so 5 (by omega)) (so 6 (by omega)), by rw [so 7 (by omega)]; exact h7, s28⟩
  refine Ok.bind (P := fun τ => ∃ n xs, SeR rl on on' σ τ n xs (TbR τ (stX rl on on') n xs (fun _ _ => False) (fun _ _ _ => False))) ?_ ?_
  · refine Ok.for 4 (fun s st => st.1 = nI s ∧ ∃ n xs, SeR rl on on' σ st.2 n xs (∀ j, j < s → T0 st.2 (stX rl on on') n xs j)) ?_ ?_ 0 (by omega) _ ⟨rfl, 0, fun _ => zX, B0, ⟨s22, by omega, fun k hk => by omega, fun i j hi => by omega, fun i hi => by omega⟩, FrF.rf, Or.inl ⟨s30, fun j hj => by omega⟩⟩
    · rintro s ⟨v, τ⟩ hs ⟨e1, n, xs, e2⟩
      simp only at e1 e2
      subst e1
      show Ok (b_X9_findPairs_22 (nI on') (nI g') (nI s) τ) _
      unfold b_X9_findPairs_22
      rw [if_neg (by rw [show (4 : Int32) = nI 4 from rfl, n_le (by omega) (by omega)]; omega)]
      refine Ok.bind (step_R (o := 17) (p := s) hrl hll ho ho' e2 (by omega) Armx_none Armx_none (Rch.leaf hs) (by omega) (by omega)) ?_
      rintro ⟨v, υ⟩ ⟨n2, xs2, k2, x2, rfl, w2⟩
      simp only at w2
      rw [gd_ix (by omega) (by omega), n_cl (by omega)]
      refine Ok.lt (Ok.lt (Ok.some ⟨n_suc s, n2, xs2, w2 _ (fun t fr kn kp kx j hj => ?_)⟩))
      by_cases c : j = s
      · subst c
        exact ⟨k2, kn, kp, kx⟩
      · exact (t j (by omega)).ext x2 (fr 17 _ (by omega) (by omega) (by omega))
    · rintro ⟨v, τ⟩ ⟨e1, n, xs, e2⟩
      simp only at e1 e2
      subst e1
      show Ok (b_X9_findPairs_22 (nI on') (nI g') (nI 4) τ) _
      unfold b_X9_findPairs_22
      rw [if_pos (by decide)]
      exact Ok.some ⟨n, xs, e2.wk (fun t => ⟨t, fun _ _ _ _ z => absurd z id, fun _ _ _ _ _ _ z => absurd z id⟩)⟩
  · rintro τ ⟨n, xs, e⟩
    refine Ok.bind (P := fun τ => ∃ n xs, BaR τ rl on on' ∧ PRx τ (stX rl on on') n xs ∧ FrF σ τ ∧ ((τ.1 0 30 = 0 ∧ FPok τ (stX rl on on') n xs) ∨ (τ.1 0 30 = 1 ∧ Many (stX rl on on')))) ?_ ?_
    · refine Ok.wf (fun m s => ∃ i n xs, i + m = 120 ∧ s.1 = nI i ∧ i ≤ n ∧ SeR rl on on' σ s.2 n xs (TbR s.2 (stX rl on on') n xs (fun _ j => j < i) (fun _ j k => j < i ∧ k < i))) ?_ 120 _ ⟨0, n, xs, by omega, rfl, by omega, e.wk (fun t => t.wk (fun _ _ _ _ z => by omega) (fun _ _ _ _ _ _ z => by omega))⟩
      rintro m ⟨v, υ⟩ ⟨i, n, xs, f1, f2, f3, f4⟩
      simp only at f2 f4
      subst f2
      show Ok (b_X9_findPairs_48 (nI on') (nI g') (nI i) υ) _
      have n120 := f4.2.1.2.1
      unfold b_X9_findPairs_48
      rw [f4.2.1.1]
      by_cases c : n ≤ i
      · rw [if_pos (by rw [n_le (by omega) (by omega)]; exact c)]
        refine Ok.some ⟨n, xs, f4.1, f4.2.1, f4.2.2.1, f4.2.2.2.imp (fun z => ⟨z.1, f4.2.1, z.2.wk (fun _ _ _ _ _ => by omega) (fun _ _ _ _ _ _ _ => by omega)⟩) id⟩
      · rw [if_neg (by rw [n_le (by omega) (by omega)]; exact c)]
        rcases f4.2.2.2 with ⟨fl, tb⟩ | ⟨fl, mn⟩
        · rw [fl, if_pos rfl]
          refine Ok.bind (row66_R hrl hll ho ho' (by omega) f4) ?_
          rintro ⟨v3, ω⟩ ⟨g1, n', xs', x', g2⟩
          simp only at g1 g2
          subst g1
          exact Ok.lt (Ok.some ⟨m - 1, by omega, i + 1, n', xs', by omega, n_suc i, by have := x'.1; omega, g2⟩)
        · rw [fl, if_neg (by decide)]
          exact Ok.some ⟨n, xs, f4.1, f4.2.1, f4.2.2.1, Or.inr ⟨fl, mn⟩⟩
    · rintro υ ⟨n, xs, f1, f2, f3, f4⟩
      refine Ok.some ⟨⟨fun o o1 o2 => (f3.1 o o1 o2).trans (so o o1), fun j a b c d => (f3.2.1 j a d).trans (sj j a b c d), f3.2.2.trans s2⟩, ?_, n, xs, f2, f4⟩
      rw [f3.2.1 29 (by omega) (by omega)]; exact s29
theorem RepR.frG {A : AS} {ρ τ : Mem} (h : RepR A ρ) (f : FrG ρ τ) : RepR A τ := h.scr (f.2.1 2 (by omega) (by omega) (by omega) (by omega)) (fun o o1 o2 => f.1 o (by omega) (by omega)) (by rw [f.2.2])
theorem RepR.pairs {A : AS} {ρ : Mem} (h : RepR A ρ) (hA : WfA A) {on' g' : Nat} (ho' : on' < 65536) : Ok (f_X9_findPairs (nI on') (nI g') ρ) (fun τ => RepR A τ ∧ τ.1 0 29 = nI g' ∧ ∃ n xs, PRx τ (stX (rlA A) (onA A) on') n xs ∧ ((τ.1 0 30 = 0 ∧ FPok τ (stX (rlA A) (onA A) on') n xs) ∨ (τ.1 0 30 = 1 ∧ Many (stX (rlA A) (onA A) on')))) := by
  refine (findPairs_R hA.2.2.1 hA.2.2.2.1 hA.2.2.2.2.1 ho' h.2.1.1 h.2.1.2 h.2.2.1.1).mono ?_
  rintro τ ⟨e1, e2, e3⟩
  exact ⟨h.frG e1, e2, e3⟩
