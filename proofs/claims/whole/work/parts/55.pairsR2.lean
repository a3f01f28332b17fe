/-! the reference's list of pairs, with its tables -/
def T0 (ρ : Mem) (st : Nat → PX → PX → PX) (n : Nat) (xs : Nat → PX) (s : Nat) : Prop := ∃ k, k < n ∧ ρ.1 17 s = nI k ∧ xs k = st s zX zX
def T1 (ρ : Mem) (st : Nat → PX → PX → PX) (n : Nat) (xs : Nat → PX) (s i : Nat) : Prop := ∃ k, k < n ∧ ρ.1 18 (120 * s + i) = nI k ∧ xs k = st (4 + s) (xs i) zX
def T2 (ρ : Mem) (st : Nat → PX → PX → PX) (n : Nat) (xs : Nat → PX) (s i j : Nat) : Prop := ∃ k, k < n ∧ ρ.1 19 (14400 * s + 120 * i + j) = nI k ∧ xs k = st (6 + s) (xs i) (xs j)
def ExX (n : Nat) (xs : Nat → PX) (n' : Nat) (xs' : Nat → PX) : Prop := n ≤ n' ∧ ∀ i, i < n → xs' i = xs i
theorem T0.ext {ρ τ : Mem} {st : Nat → PX → PX → PX} {n n' : Nat} {xs xs' : Nat → PX} {s : Nat} (h : T0 ρ st n xs s) (x : ExX n xs n' xs') (e : τ.1 17 s = ρ.1 17 s) : T0 τ st n' xs' s := by
  obtain ⟨k, k1, k2, k3⟩ := h
  exact ⟨k, by have := x.1; omega, by rw [e]; exact k2, by rw [x.2 k k1]; exact k3⟩
theorem T1.ext {ρ τ : Mem} {st : Nat → PX → PX → PX} {n n' : Nat} {xs xs' : Nat → PX} {s i : Nat} (h : T1 ρ st n xs s i) (hi : i < n) (x : ExX n xs n' xs') (e : τ.1 18 (120 * s + i) = ρ.1 18 (120 * s + i)) : T1 τ st n' xs' s i := by
  obtain ⟨k, k1, k2, k3⟩ := h
  exact ⟨k, by have := x.1; omega, by rw [e]; exact k2, by rw [x.2 k k1, x.2 i hi]; exact k3⟩
theorem T2.ext {ρ τ : Mem} {st : Nat → PX → PX → PX} {n n' : Nat} {xs xs' : Nat → PX} {s i j : Nat} (h : T2 ρ st n xs s i j) (hi : i < n) (hj : j < n) (x : ExX n xs n' xs') (e : τ.1 19 (14400 * s + 120 * i + j) = ρ.1 19 (14400 * s + 120 * i + j)) : T2 τ st n' xs' s i j := by
  obtain ⟨k, k1, k2, k3⟩ := h
  exact ⟨k, by have := x.1; omega, by rw [e]; exact k2, by rw [x.2 k k1, x.2 i hi, x.2 j hj]; exact k3⟩
/-- findPairs may change so much -/
def FrF (ρ τ : Mem) : Prop := (∀ o, o ≠ 0 → o < 15 ∨ 19 < o → τ.1 o = ρ.1 o) ∧ (∀ j, j ≠ 22 → j ≠ 30 → τ.1 0 j = ρ.1 0 j) ∧ τ.2 = ρ.2
theorem FrF.rf {ρ : Mem} : FrF ρ ρ := ⟨fun _ _ _ => rfl, fun _ _ _ => rfl, rfl⟩
theorem FrF.frP {ρ τ υ : Mem} (h : FrF ρ τ) (g : FrP τ υ) : FrF ρ υ := ⟨fun o o1 o2 => (g.1 o o1 (by omega) (by omega)).trans (h.1 o o1 o2), fun j j1 j2 => (g.2.1 j j1 j2).trans (h.2.1 j j1 j2), g.2.2.trans h.2.2⟩
theorem FrF.put {ρ τ : Mem} {o k : Nat} {v : Int32} (h : FrF ρ τ) (h1 : 15 ≤ o) (h2 : o ≤ 19) : FrF ρ (sI τ o k v) := ⟨fun q q1 q2 => by rw [sI_o (by omega)]; exact h.1 q q1 q2, fun j j1 j2 => by rw [sI_off (by omega)]; exact h.2.1 j j1 j2, h.2.2⟩
/-- the state of the search: D if the flag is down -/
def SeR (rl : List Ru) (on on' : Nat) (ρ0 ρ : Mem) (n : Nat) (xs : Nat → PX) (D : Prop) : Prop := BaR ρ rl on on' ∧ PRx ρ (stX rl on on') n xs ∧ FrF ρ0 ρ ∧ ((ρ.1 0 30 = 0 ∧ D) ∨ (ρ.1 0 30 = 1 ∧ Many (stX rl on on')))
/-- one pair asked for and written into a table -/
theorem step_R {rl : List Ru} {on on' n s o p : Nat} {ρ0 ρ : Mem} {xs : Nat → PX} {D : Prop} {a b : Int32} {x y : PX} (hrl : ∀ r ∈ rl, OkRu r) (hll : rl.length ≤ 16) (ho : on < 65536) (ho' : on' < 65536) (hS : SeR rl on on' ρ0 ρ n xs D) (hs : s < 8) (ha : ArmX n xs a x) (hb : ArmX n xs b y) (hR : Rch (stX rl on on') (stX rl on on' s x y)) (h17 : 17 ≤ o) (h19 : o ≤ 19) : Ok (f_X9_pairOf (nI s) a b ρ) (fun r => ∃ n' xs' k, ExX n xs n' xs' ∧ r.1 = nI k ∧ ∀ D' : Prop, (D → (∀ q j, 17 ≤ q → q ≤ 19 → ¬ (q = o ∧ j = p) → (sI r.2 o p (nI k)).1 q j = ρ.1 q j) → k < n' → (sI r.2 o p (nI k)).1 o p = nI k → xs' k = stX rl on on' s x y → D') → SeR rl on on' ρ0 (sI r.2 o p (nI k)) n' xs' D') := by
  obtain ⟨hB, hP, hF, hD⟩ := hS
  refine (pairOf_R hrl hll ho ho' hB hP hs ha hb hR).mono ?_
  rintro ⟨v, τ⟩ ⟨n', xs', k, e1, e2, e3, e4, e5, e6, e7⟩
  simp only at e3 e5 e6 e7
  refine ⟨n', xs', k, ⟨e1, e2⟩, e5, fun D' hD' => ?_⟩
  show SeR rl on on' ρ0 (sI τ o p (nI k)) n' xs' D'
  obtain ⟨p1, p2, p3, p4⟩ := e3
  refine ⟨(hB.frP e6).fr (fun q q1 q2 => sI_o (by omega)) (sI_off (by omega)), ⟨?_, p2, fun j hj => ?_, p4⟩, (hF.frP e6).put (by omega) h19, ?_⟩
  · rw [sI_off (by omega)]; exact p1
  · rw [sI_off (by omega), sI_off (by omega)]; exact p3 j hj
  · rw [sI_off (by omega)]
    rcases e7 with ⟨f1, f2⟩ | ⟨f1, f2⟩
    · rcases hD with ⟨d1, d2⟩ | ⟨d1, d2⟩
      · refine Or.inl ⟨by rw [f1]; exact d1, hD' d2 (fun q j q1 q2 q3 => ?_) e4 (sI_same _ _ _ _) f2⟩
        show (sI τ o p (nI k)).1 q j = _
        rw [sI_get, if_neg q3, e6.1 q (by omega) (by omega) (by omega)]
      · exact Or.inr ⟨by rw [f1]; exact d1, d2⟩
    · exact Or.inr ⟨f1, f2⟩
/-- the tables as far as the pairs below m, and in row m the signs below t -/
def TbR (ρ : Mem) (st : Nat → PX → PX → PX) (n : Nat) (xs : Nat → PX) (d1 : Nat → Nat → Prop) (d2 : Nat → Nat → Nat → Prop) : Prop := (∀ s, s < 4 → T0 ρ st n xs s) ∧ (∀ s i, s < 2 → i < n → d1 s i → T1 ρ st n xs s i) ∧ (∀ s i j, s < 2 → i < n → j < n → d2 s i j → T2 ρ st n xs s i j)
theorem TbR.wk {ρ : Mem} {st : Nat → PX → PX → PX} {n : Nat} {xs : Nat → PX} {d1 e1 : Nat → Nat → Prop} {d2 e2 : Nat → Nat → Nat → Prop} (h : TbR ρ st n xs d1 d2) (h1 : ∀ s i, s < 2 → i < n → e1 s i → d1 s i) (h2 : ∀ s i j, s < 2 → i < n → j < n → e2 s i j → d2 s i j) : TbR ρ st n xs e1 e2 := ⟨h.1, fun s i a b c => h.2.1 s i a b (h1 s i a b c), fun s i j a b c d => h.2.2 s i j a b c (h2 s i j a b c d)⟩
theorem SeR.wk {rl : List Ru} {on on' n : Nat} {ρ0 ρ : Mem} {xs : Nat → PX} {D E : Prop} (h : SeR rl on on' ρ0 ρ n xs D) (hw : D → E) : SeR rl on on' ρ0 ρ n xs E := ⟨h.1, h.2.1, h.2.2.1, h.2.2.2.imp (fun z => ⟨z.1, hw z.2⟩) id⟩
theorem Armx_none {n : Nat} {xs : Nat → PX} : ArmX n xs (-1) zX := Or.inl ⟨rfl, rfl⟩
theorem Armx_some {n : Nat} {xs : Nat → PX} {i : Nat} (h : i < n) : ArmX n xs (nI i) (xs i) := Or.inr ⟨i, h, rfl, rfl⟩
theorem row97_R {rl : List Ru} {on on' : Nat} {ρ0 ρ : Mem} {n i s : Nat} {xs : Nat → PX} {a1 a2 : Int32} {d1 : Nat → Nat → Prop} {d2 : Nat → Nat → Nat → Prop} (hrl : ∀ r ∈ rl, OkRu r) (hll : rl.length ≤ 16) (ho : on < 65536) (ho' : on' < 65536) (hi : i < n) (hs : s < 2) (hd1 : ∀ s' j, d1 s' j → j ≤ i) (hd2 : ∀ s' j k, d2 s' j k → j ≤ i ∧ k ≤ i) (hS : SeR rl on on' ρ0 ρ n xs (TbR ρ (stX rl on on') n xs d1 d2)) : Ok (Lim (T := (Int32 × Int32 × Mem)) (fun s => b_X9_findPairs_97 a1 a2 s.1 s.2.1 s.2.2.1 s.2.2.2) (nI i, nI s, (0 : Int32), ρ)) (fun r => r.1 = nI i ∧ r.2.1 = nI s ∧ ∃ n' xs', ExX n xs n' xs' ∧ SeR rl on on' ρ0 r.2.2 n' xs' (TbR r.2.2 (stX rl on on') n' xs' d1 (fun s' j k => d2 s' j k ∨ (s' = s ∧ ((j = i ∧ k ≤ i) ∨ (k = i ∧ j ≤ i)))))) := by
  have hi120 : i < 120 := by have := hS.2.1.2.1; omega
  refine Ok.for (i + 1) (fun m st => st.1 = nI i ∧ st.2.1 = nI s ∧ st.2.2.1 = nI m ∧ ∃ n' xs', ExX n xs n' xs' ∧ SeR rl on on' ρ0 st.2.2.2 n' xs' (TbR st.2.2.2 (stX rl on on') n' xs' d1 (fun s' j k => d2 s' j k ∨ (s' = s ∧ ((j = i ∧ k < m) ∨ (k = i ∧ j < m)))))) ?_ ?_ 0 (by omega) _ ⟨rfl, rfl, rfl, n, xs, ⟨Nat.le_refl _, fun _ _ => rfl⟩, hS.wk (fun t => t.wk (fun _ _ _ _ z => z) (fun s' j k _ _ _ z => z.resolve_right (by omega)))⟩
  · rintro m ⟨v3, v4, v5, τ⟩ hm ⟨e1, e2, e3, n1, xs1, e4, e5⟩
    simp only at e1 e2 e3 e5
    subst e1 e2 e3
    show Ok (b_X9_findPairs_97 a1 a2 (nI i) (nI s) (nI m) τ) _
    have hin : i < n1 := by have := e4.1; omega
    have hmn : m < n1 := by omega
    have r0 := e5.2.1.2.2.2.2
    have n120 := e5.2.1.2.1
    unfold b_X9_findPairs_97
    rw [if_neg (by rw [n_lt (by omega) (by omega)]; omega), show (6 : Int32) + nI s = nI (6 + s) from n_add 6 s]
    rcases e5.2.2.2 with ⟨fl, tb⟩ | ⟨fl, mn⟩
    · rw [fl, if_pos rfl]
      rw [show ((14400 : Int32) * nI s) + ((120 : Int32) * nI i) + nI m = nI (14400 * s + 120 * i + m) by rw [show (14400 : Int32) = nI 14400 from rfl, show (120 : Int32) = nI 120 from rfl, n_mul, n_mul, n_add, n_add], show ((14400 : Int32) * nI s) + ((120 : Int32) * nI m) + nI i = nI (14400 * s + 120 * m + i) by rw [show (14400 : Int32) = nI 14400 from rfl, show (120 : Int32) = nI 120 from rfl, n_mul, n_mul, n_add, n_add]]
      refine Ok.bind (step_R (o := 19) (p := 14400 * s + 120 * i + m) hrl hll ho ho' e5 (by omega) (Armx_some hin) (Armx_some hmn) (Rch.two (by omega) (by omega) (r0 i hin) (r0 m hmn)) (by omega) (by omega)) ?_
      rintro ⟨v, υ⟩ ⟨n2, xs2, k2, x2, rfl, w2⟩
      simp only at w2
      have hin2 : i < n2 := by have := x2.1; omega
      have hmn2 : m < n2 := by have := x2.1; omega
      rw [gd_ix (by omega) (by omega), n_cl (by omega)]
      refine Ok.lt ?_
      have S2 := w2 (TbR (sI υ 19 (14400 * s + 120 * i + m) (nI k2)) (stX rl on on') n2 xs2 d1 (fun s' j k => d2 s' j k ∨ (s' = s ∧ ((j = i ∧ k < m) ∨ (k = i ∧ j < m))) ∨ (s' = s ∧ j = i ∧ k = m))) (fun t fr kn kp kx => by
        refine ⟨fun s' h => (t.1 s' h).ext x2 (fr 17 _ (by omega) (by omega) (by omega)), fun s' j h1 h2 h3 => ?_, fun s' j k h1 h2 h3 h4 => ?_⟩
        · have : j < n1 := by have := hd1 s' j h3; omega
          exact (t.2.1 s' j h1 this h3).ext this x2 (fr 18 _ (by omega) (by omega) (by omega))
        · by_cases c : s' = s ∧ j = i ∧ k = m
          · obtain ⟨rfl, rfl, rfl⟩ := c
            exact ⟨k2, kn, kp, by rw [kx, x2.2 j hin, x2.2 k hmn]⟩
          · have h5 : d2 s' j k ∨ (s' = s ∧ ((j = i ∧ k < m) ∨ (k = i ∧ j < m))) := by
              rcases h4 with h4 | h4 | h4
              · exact Or.inl h4
              · exact Or.inr h4
              · exact absurd h4 c
            have hj : j < n1 ∧ k < n1 := by
              rcases h5 with h5 | h5
              · have := hd2 s' j k h5; omega
              · omega
            exact (t.2.2 s' j k h1 hj.1 hj.2 h5).ext hj.1 hj.2 x2 (fr 19 _ (by omega) (by omega) (by omega)))
      have r2 := S2.2.1.2.2.2.2
      have n220 := S2.2.1.2.1
      refine Ok.bind (step_R (o := 19) (p := 14400 * s + 120 * m + i) hrl hll ho ho' S2 (by omega) (Armx_some hmn2) (Armx_some hin2) (Rch.two (by omega) (by omega) (r2 m hmn2) (r2 i hin2)) (by omega) (by omega)) ?_
      rintro ⟨v, ω⟩ ⟨n3, xs3, k3, x3, rfl, w3⟩
      simp only at w3
      rw [gd_ix (by omega) (by omega), n_cl (by omega)]
      refine Ok.lt (Ok.lt (Ok.some ⟨rfl, rfl, n_suc m, n3, xs3, ⟨by have := e4.1; have := x2.1; have := x3.1; omega, fun j hj => ?_⟩, ?_⟩))
      · rw [x3.2 j (by have := e4.1; have := x2.1; omega), x2.2 j (by have := e4.1; omega), e4.2 j hj]
      · refine w3 _ (fun t fr kn kp kx => ?_)
        refine ⟨fun s' h => (t.1 s' h).ext x3 (fr 17 _ (by omega) (by omega) (by omega)), fun s' j h1 h2 h3 => ?_, fun s' j k h1 h2 h3 h4 => ?_⟩
        · have : j < n2 := by have := hd1 s' j h3; omega
          exact (t.2.1 s' j h1 this h3).ext this x3 (fr 18 _ (by omega) (by omega) (by omega))
        · by_cases c : s' = s ∧ j = m ∧ k = i
          · obtain ⟨rfl, rfl, rfl⟩ := c
            exact ⟨k3, kn, kp, by rw [kx, x3.2 j hmn2, x3.2 k hin2]⟩
          · have h5 : d2 s' j k ∨ (s' = s ∧ ((j = i ∧ k < m) ∨ (k = i ∧ j < m))) ∨ (s' = s ∧ j = i ∧ k = m) := by
              rcases h4 with h4 | ⟨h4, h5⟩
              · exact Or.inl h4
              · rcases h5 with ⟨h5, h6⟩ | ⟨h5, h6⟩
                · by_cases z : k = m
                  · exact Or.inr (Or.inr ⟨h4, h5, z⟩)
                  · exact Or.inr (Or.inl ⟨h4, Or.inl ⟨h5, by omega⟩⟩)
                · by_cases z : j = m
                  · exact absurd ⟨h4, z, h5⟩ c
                  · exact Or.inr (Or.inl ⟨h4, Or.inr ⟨h5, by omega⟩⟩)
            have hj : j < n2 ∧ k < n2 := by
              rcases h5 with h5 | h5
              · have := hd2 s' j k h5; omega
              · omega
            exact (t.2.2 s' j k h1 hj.1 hj.2 h5).ext hj.1 hj.2 x3 (fr 19 _ (by omega) (by omega) (by omega))
    · rw [fl, if_neg (by decide)]
      refine Ok.some ⟨rfl, rfl, n1, xs1, e4, e5.1, e5.2.1, e5.2.2.1, Or.inr ⟨fl, mn⟩⟩
  · rintro ⟨v3, v4, v5, τ⟩ ⟨e1, e2, e3, n1, xs1, e4, e5⟩
    simp only at e1 e2 e3 e5
    subst e1 e2 e3
    show Ok (b_X9_findPairs_97 a1 a2 (nI i) (nI s) (nI (i + 1)) τ) _
    unfold b_X9_findPairs_97
    rw [if_pos (by rw [n_lt (by omega) (by omega)]; omega)]
    exact Ok.some ⟨rfl, rfl, n1, xs1, e4, e5.wk (fun t => t.wk (fun _ _ _ _ z => z) (fun s' j k _ _ _ z => z.imp id (fun w => ⟨w.1, w.2.imp (fun u => ⟨u.1, by omega⟩) (fun u => ⟨u.1, by omega⟩)⟩)))⟩
