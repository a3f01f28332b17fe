/-! what the class keeps between calls -/
def Tal (rl : List Ru) (σ : Mem) : Prop := σ.1 22 2 = 0 ∨ ∀ on on' n xs, on < 65536 → on' < 65536 → σ.1 9 15 = nI on → σ.1 9 16 = nI on' → n ≤ 120 → σ.1 9 17 = nI n → (∀ p, p < n → σ.1 10 p = nI (encX (xs p)) ∧ (xs p).1 < 64 ∧ (xs p).2 < 64) → TaF σ (stX rl on on') n xs
def Ca (rl : List Ru) (σ : Mem) : Prop := CaI σ rl ∧ Tal rl σ
theorem Tal.use {rl : List Ru} {σ : Mem} {on on' N : Nat} {xs : Nat → PX} {z : Nat → Nat} {W : Nat → List Nat} {F : Nat → Bool} (h : Tal rl σ) (hI : LrI σ rl on on' N xs z W F) (ho : on < 65536) (ho' : on' < 65536) : σ.1 22 2 = 0 ∨ TaF σ (stX rl on on') N xs := by
  rcases h with h | h
  · exact Or.inl h
  · exact Or.inr (h on on' N xs ho ho' hI.1.2.1.1 hI.1.2.1.2.1 hI.1.2.2.1 hI.1.2.1.2.2 (fun p hp => ⟨(hI.1.2.2.2.2.1 p hp).2.2.1, (hI.1.2.2.2.2.1 p hp).1, (hI.1.2.2.2.2.1 p hp).2.1⟩))
theorem encX_lt {x : PX} (h1 : x.1 < 64) (h2 : x.2 < 64) : encX x < 4096 := by
  unfold encX; omega
theorem Tal.mk {rl : List Ru} {σ : Mem} {on on' N : Nat} {xs : Nat → PX} {z : Nat → Nat} {W : Nat → List Nat} {F : Nat → Bool} (hI : LrI σ rl on on' N xs z W F) (ho : on < 65536) (ho' : on' < 65536) (hT : TaF σ (stX rl on on') N xs) : Tal rl σ := by
  refine Or.inr (fun on2 on2' n ys h1 h2 e1 e2 hn e3 he => ?_)
  rw [hI.1.2.1.1, n_eq (by omega) (by omega)] at e1
  rw [hI.1.2.1.2.1, n_eq (by omega) (by omega)] at e2
  have := hI.1.2.2.1
  rw [hI.1.2.1.2.2, n_eq (by omega) (by omega)] at e3
  subst e1 e2 e3
  intro q k hq hk
  obtain ⟨y1, y2, y3⟩ := he q hq
  obtain ⟨x1, x2, x3, _⟩ := hI.1.2.2.2.2.1 q hq
  have l1 := encX_lt x1 x2
  have l2 := encX_lt y2 y3
  rw [x3, n_eq (by omega) (by omega)] at y1
  rw [hT q k hq hk, encX_inj x1 y2 y1]
theorem Tal.lrn {rl : List Ru} {σ τ : Mem} (h : Tal rl σ) (l : Lrn σ τ) : Tal rl τ := by
  rcases l with rfl | ⟨l, _⟩
  · exact h
  · exact Or.inl l
theorem Ca.learnt {rl : List Ru} {on on' : Nat} {σ τ : Mem} (h : Ca rl σ) (ho : on < 65536) (ho' : on' < 65536) (hL : LnOk rl on on' τ) (e1 : τ.1 9 15 = nI on) (e2 : τ.1 9 16 = nI on') (l : Lrn σ τ) : Ca rl τ := ⟨⟨hL.base, Or.inr ⟨on, on', ho, ho', e1, e2, hL⟩⟩, h.2.lrn l⟩
theorem BothP.ca {A : AS} {σ : Mem} {fc fr : Option (Int32 × Mem)} (h : BothP A σ fc fr) (hA : WfA A) (hC : Ca (rlA A) σ) : ∃ v σ' ρ', fc = some (v, σ') ∧ fr = some (v, ρ') ∧ RepC A σ' ∧ RepR A ρ' ∧ Ca (rlA A) σ' := by
  obtain ⟨v, σ', ρ', h1, h2, h3, h4, h5⟩ := h
  refine ⟨v, σ', ρ', h1, h2, h3, h4, ?_⟩
  rcases h5 with rfl | ⟨on', a, b, c, d, e⟩
  · exact hC
  · exact hC.learnt hA.2.2.2.2.1 a b c d e
theorem LrI.fr {σ τ : Mem} {rl : List Ru} {on on' N : Nat} {xs : Nat → PX} {z : Nat → Nat} {W : Nat → List Nat} {F : Nat → Bool} (h : LrI σ rl on on' N xs z W F) (e : ∀ o, 9 ≤ o → o ≤ 33 → o ≠ 22 → τ.1 o = σ.1 o) : LrI τ rl on on' N xs z W F := by
  unfold LrI PCx LawC LawM RcI at *
  simp only [e 9 (by omega) (by omega) (by omega), e 10 (by omega) (by omega) (by omega), e 11 (by omega) (by omega) (by omega), e 12 (by omega) (by omega) (by omega), e 13 (by omega) (by omega) (by omega), e 14 (by omega) (by omega) (by omega), e 15 (by omega) (by omega) (by omega), e 16 (by omega) (by omega) (by omega), e 17 (by omega) (by omega) (by omega), e 18 (by omega) (by omega) (by omega), e 19 (by omega) (by omega) (by omega), e 29 (by omega) (by omega) (by omega), e (29 + 1) (by omega) (by omega) (by omega), e (29 + 2) (by omega) (by omega) (by omega), e (29 + 3) (by omega) (by omega) (by omega), e (29 + 4) (by omega) (by omega) (by omega)]
  exact h
theorem TbC.fr {σ τ : Mem} {st : Nat → PX → PX → PX} {n : Nat} {xs : Nat → PX} {t0 t1 : Nat → Prop} {t2 : Nat → Nat → Prop} (h : TbC σ st n xs t0 t1 t2) (e : ∀ o, 9 ≤ o → o ≤ 33 → o ≠ 22 → τ.1 o = σ.1 o) : TbC τ st n xs t0 t1 t2 := by
  unfold TbC U0 U1 U2 at *
  simp only [e 20 (by omega) (by omega) (by omega), e 21 (by omega) (by omega) (by omega), e 24 (by omega) (by omega) (by omega)]
  exact h
theorem LnOk.fr {σ τ : Mem} {rl : List Ru} {on on' : Nat} (h : LnOk rl on on' σ) (e : ∀ o, 9 ≤ o → o ≤ 33 → o ≠ 22 → τ.1 o = σ.1 o) : LnOk rl on on' τ := by
  obtain ⟨n, xs, z, W, F, l1, l2⟩ := h
  refine ⟨n, xs, z, W, F, l1.fr e, ?_⟩
  rw [e 9 (by omega) (by omega) (by omega)]
  rcases l2 with ⟨a, b, c⟩ | l2
  · exact Or.inl ⟨a, b, c.fr e⟩
  · exact Or.inr l2
theorem RepC.ft {A : AS} {σ σ' : Mem} (h : RepC A σ) (e : FrT σ σ') : RepC A σ' := by
  obtain ⟨k1, k2, k3, k4⟩ := h.hi (fun o ho => e.1 o (by omega)) e.2.1
  obtain ⟨⟨h1, h2⟩, h3, h4, ⟨h5, h5'⟩, h6, h7, h8⟩ := h
  refine ⟨⟨?_, ?_⟩, k1, k2, ⟨?_, ?_⟩, k3, k4, ?_⟩
  · rw [e.1 1 (by omega)]; exact h1
  · rw [e.1 2 (by omega)]; exact h2
  · rw [e.1 0 (by omega)]; exact h5
  · rw [e.1 0 (by omega)]; exact h5'
  · rw [e.2.2 0 (by omega)]; exact h8
/-- two laws: their pairs on both sides, or too many on both -/
theorem two_RC {A : AS} {σ ρ : Mem} (h : RepC A σ) (g : RepR A ρ) (hA : WfA A) (hC : CaI σ (rlA A)) {k o gg : Nat} {t : List Nat} (hk : k < 2) (hx : imA A k = some (o, gg, t)) : ∃ (kk : Nat) (rv : Int32) (σ' ρ' : Mem), f_X8_pairsWith (nI o) σ = some (kk, σ') ∧ kk = 9 ∧ f_X9_refuses (nI k) 1 ρ = some (rv, ρ') ∧ RepC A σ' ∧ RepR A ρ' ∧ ρ'.1 0 29 = nI gg ∧ LnOk (rlA A) (onA A) o σ' ∧ σ'.1 9 15 = nI (onA A) ∧ σ'.1 9 16 = nI o ∧ Lrn σ σ' ∧ ((rv = 0 ∧ σ'.1 9 18 = 0 ∧ ∃ n xs z W F m ys, LrI σ' (rlA A) (onA A) o n xs z W F ∧ (∀ p, p < n → Lst (stX (rlA A) (onA A) o) (xs p) (z p) (W p)) ∧ TbC σ' (stX (rlA A) (onA A) o) n xs (fun _ => True) (fun _ => True) (fun _ _ => True) ∧ FPok ρ' (stX (rlA A) (onA A) o) m ys) ∨ (rv = -3 ∧ σ'.1 9 18 = 1)) := by
  obtain ⟨w1, w2, w3⟩ := hA.2.2.2.2.2.2.2 k o gg t hx
  obtain ⟨⟨kk, σ'⟩, c1, c2, c3, c4, c5, c6, c7⟩ := pairsWith_C h hA hC w1
  obtain ⟨⟨rv, ρ'⟩, r1, r2, r3, r4⟩ := refuses_R g hA hk hx
  simp only at c2 c3 c4 c5 c6 c7 r2 r3 r4
  refine ⟨kk, rv, σ', ρ', c1, c2, r1, c3, r2, r3, c4, c5, c6, c7, ?_⟩
  obtain ⟨n, xs, z, W, F, l1, l2⟩ := c4
  rcases l2 with ⟨f0, l3, l2⟩ | ⟨f1, l2⟩
  · rcases r4 with ⟨rfl, m, ys, fp⟩ | ⟨rfl, mn⟩
    · exact Or.inl ⟨rfl, f0, n, xs, z, W, F, m, ys, l1, l3, l2, fp⟩
    · exact absurd mn (Many.no l2.cl l1.1.2.2.1)
  · rcases r4 with ⟨rfl, m, ys, fp⟩ | ⟨rfl, mn⟩
    · exact absurd l2 (Many.no fp.cl fp.1.2.1)
    · exact Or.inr ⟨rfl, f1⟩
/-- one law: its pairs on both sides -/
theorem own_both {A : AS} {σ ρ : Mem} (h : RepC A σ) (g : RepR A ρ) (hA : WfA A) (hC : CaI σ (rlA A)) : ∃ (kk : Nat) (σ' ρ' : Mem), f_X8_pairsWith 0 σ = some (kk, σ') ∧ kk = 9 ∧ f_X9_findOwn ρ = some ρ' ∧ RepC A σ' ∧ RepR A ρ' ∧ ρ'.1 0 29 = nI (gdA A) ∧ LnOk (rlA A) (onA A) 0 σ' ∧ σ'.1 9 15 = nI (onA A) ∧ σ'.1 9 16 = nI 0 ∧ Lrn σ σ' ∧ ∃ n xs z W F m ys, LrI σ' (rlA A) (onA A) 0 n xs z W F ∧ (∀ p, p < n → Lst (stX (rlA A) (onA A) 0) (xs p) (z p) (W p)) ∧ TbC σ' (stX (rlA A) (onA A) 0) n xs (fun _ => True) (fun _ => True) (fun _ _ => True) ∧ FPok ρ' (stX (rlA A) (onA A) (onA A)) m ys := by
  obtain ⟨⟨k, σ'⟩, c1, c2, c3, c4, c5, c6, c7⟩ := pairsWith_C h hA hC (on' := 0) (by omega)
  obtain ⟨ρ', r1, r2, r3, m, ys, r4⟩ := findOwn_R g hA
  simp only at c2 c3 c4 c5 c6 c7
  refine ⟨k, σ', ρ', c1, c2, r1, c3, r2, r3, c4, c5, c6, c7, ?_⟩
  obtain ⟨n, xs, z, W, F, l1, l2⟩ := c4
  rcases l2 with ⟨_, l3, l2⟩ | ⟨_, l2⟩
  · exact ⟨n, xs, z, W, F, m, ys, l1, l3, l2, r4⟩
  · exact absurd l2 (own_few_C hA.2.2.1)
/-- sums over the class's list -/
def gW (g x : Nat) : Nat := if gB g x = 0 then 0 else 1
theorem gW_0 {g x : Nat} (h : gB g x = 0) : gW g x = 0 := if_pos h
theorem gW_1 {g x : Nat} (h : ¬ gB g x = 0) : gW g x = 1 := if_neg h
theorem manyLoop_C {σ : Mem} {rl : List Ru} {on on' N k g : Nat} {xs : Nat → PX} {z : Nat → Nat} {W : Nat → List Nat} {F : Nat → Bool} (hI : LrI σ rl on on' N xs z W F) (hl : ∀ p, p < N → Lst (stX rl on on') (xs p) (z p) (W p)) (ht : TbC σ (stX rl on on') N xs (fun _ => True) (fun _ => True) (fun _ _ => True)) (hT : σ.1 22 2 = 0 ∨ TaF σ (stX rl on on') N xs) (h9 : σ.1 0 9 = nI g) (hg : g < 64) (hk : k < 16) : Ok (Lim (T := (Int64 × Mem)) (fun s => b_X8_many_22 (nI k) s.1 s.2.1 s.2.2) ((0 : Int64), (0 : Int32), σ)) (fun r => r.1 = nJ (sumN (fun p => cnV (stX rl on on') k (xs p) * gW g (xs p).1) N) ∧ (r.2 = σ ∨ TaF r.2 (stX rl on on') N xs) ∧ FrT σ r.2) := by
  have hN := hI.1.2.2.1
  have h17 := hI.1.2.1.2.2
  refine Ok.for N (fun p s => s.1 = nJ (sumN (fun p => cnV (stX rl on on') k (xs p) * gW g (xs p).1) p) ∧ s.2.1 = nI p ∧ (s.2.2 = σ ∨ TaF s.2.2 (stX rl on on') N xs) ∧ FrT σ s.2.2) ?_ ?_ 0 (by omega) _ ⟨rfl, rfl, Or.inl rfl, FrT.rf⟩
  · rintro p ⟨_, _, τ⟩ hp ⟨rfl, rfl, hτ, fr⟩
    simp only at hτ fr
    show Ok (b_X8_many_22 (nI k) (nJ (sumN (fun p => cnV (stX rl on on') k (xs p) * gW g (xs p).1) p)) (nI p) τ) _
    have hI' := hI.fr (τ := τ) (fun o _ _ h => fr.1 o h)
    unfold b_X8_many_22
    rw [hI'.1.2.1.2.2, if_neg (by rw [n_le (by omega) (by omega)]; omega), fr.1 0 (by omega), h9, goodHere_C hI'.1 hp hg, Option.bind_some]
    by_cases c : gB g (xs p).1 = 0
    · rw [if_pos c]
      unfold j_X8_many_58
      refine Ok.lt (Ok.some ⟨?_, n_suc p, hτ, fr⟩)
      show nJ _ = nJ (sumN _ (p + 1))
      rw [sumN, gW_0 c, Nat.mul_zero, Nat.add_zero]
    · rw [if_neg c]
      refine Ok.bind (treesOf_C hI' hl (ht.fr (fun o _ _ h => fr.1 o h)) (by rcases hτ with rfl | hτ; exact hT; exact Or.inr hτ) hp hk) ?_
      rintro ⟨v, υ⟩ ⟨e1, e2, e3⟩
      simp only at e1 e2 e3
      unfold j_X8_many_58
      refine Ok.lt (Ok.lt (Ok.some ⟨?_, n_suc p, Or.inr e2, fr.tr e3⟩))
      show nJ _ + v = nJ (sumN _ (p + 1))
      rw [sumN, e1, nJ_add, gW_1 c, Nat.mul_one]
  · rintro ⟨_, _, τ⟩ ⟨rfl, rfl, hτ, fr⟩
    simp only at hτ fr
    show Ok (b_X8_many_22 (nI k) (nJ (sumN (fun p => cnV (stX rl on on') k (xs p) * gW g (xs p).1) N)) (nI N) τ) _
    unfold b_X8_many_22
    rw [fr.1 9 (by omega), h17, if_pos (by rw [n_le (by omega) (by omega)]; omega)]
    exact Ok.some ⟨rfl, hτ, fr⟩
theorem bothLoop_C {σ : Mem} {rl : List Ru} {on on' N k g g' im : Nat} {xs : Nat → PX} {z : Nat → Nat} {W : Nat → List Nat} {F : Nat → Bool} (hI : LrI σ rl on on' N xs z W F) (hl : ∀ p, p < N → Lst (stX rl on on') (xs p) (z p) (W p)) (ht : TbC σ (stX rl on on') N xs (fun _ => True) (fun _ => True) (fun _ _ => True)) (hT : σ.1 22 2 = 0 ∨ TaF σ (stX rl on on') N xs) (h9 : σ.1 0 9 = nI g) (hg : g < 64) (him : im < 2) (hi2 : σ.1 (54 + 6 * im) 2 = nI g') (hg' : g' < 64) (hk : k < 16) : Ok (Lim (T := (Int64 × Mem)) (fun s => b_X8_both_57 (nI im) (nI k) s.1 s.2.1 s.2.2) ((0 : Int64), (0 : Int32), σ)) (fun r => r.1 = nJ (sumN (fun p => cnV (stX rl on on') k (xs p) * (gW g (xs p).1 * gW g' (xs p).2)) N) ∧ (r.2 = σ ∨ TaF r.2 (stX rl on on') N xs) ∧ FrT σ r.2) := by
  have hN := hI.1.2.2.1
  have h17 := hI.1.2.1.2.2
  refine Ok.for N (fun p s => s.1 = nJ (sumN (fun p => cnV (stX rl on on') k (xs p) * (gW g (xs p).1 * gW g' (xs p).2)) p) ∧ s.2.1 = nI p ∧ (s.2.2 = σ ∨ TaF s.2.2 (stX rl on on') N xs) ∧ FrT σ s.2.2) ?_ ?_ 0 (by omega) _ ⟨rfl, rfl, Or.inl rfl, FrT.rf⟩
  · rintro p ⟨_, _, τ⟩ hp ⟨rfl, rfl, hτ, fr⟩
    simp only at hτ fr
    show Ok (b_X8_both_57 (nI im) (nI k) (nJ (sumN (fun p => cnV (stX rl on on') k (xs p) * (gW g (xs p).1 * gW g' (xs p).2)) p)) (nI p) τ) _
    have hI' := hI.fr (τ := τ) (fun o _ _ h => fr.1 o h)
    unfold b_X8_both_57
    rw [hI'.1.2.1.2.2, if_neg (by rw [n_le (by omega) (by omega)]; omega), fr.1 0 (by omega), h9, goodHere_C hI'.1 hp hg, Option.bind_some]
    by_cases c : gB g (xs p).1 = 0
    · rw [if_pos c]
      unfold j_X8_both_118
      refine Ok.lt (Ok.some ⟨?_, n_suc p, hτ, fr⟩)
      show nJ _ = nJ (sumN _ (p + 1))
      rw [sumN, gW_0 c, Nat.zero_mul, Nat.mul_zero, Nat.add_zero]
    · rw [if_neg c, gd_ix him (by omega), n_cl (by omega), fr.1 (54 + 6 * im) (by omega), hi2, goodThere_C hI'.1 hp hg', Option.bind_some]
      by_cases d : gB g' (xs p).2 = 0
      · rw [if_pos d]
        unfold j_X8_both_118
        refine Ok.lt (Ok.some ⟨?_, n_suc p, hτ, fr⟩)
        show nJ _ = nJ (sumN _ (p + 1))
        rw [sumN, gW_0 d, Nat.mul_zero, Nat.mul_zero, Nat.add_zero]
      · rw [if_neg d]
        refine Ok.bind (treesOf_C hI' hl (ht.fr (fun o _ _ h => fr.1 o h)) (by rcases hτ with rfl | hτ; exact hT; exact Or.inr hτ) hp hk) ?_
        rintro ⟨v, υ⟩ ⟨e1, e2, e3⟩
        simp only at e1 e2 e3
        unfold j_X8_both_118
        refine Ok.lt (Ok.lt (Ok.some ⟨?_, n_suc p, Or.inr e2, fr.tr e3⟩))
        show nJ _ + v = nJ (sumN _ (p + 1))
        rw [sumN, e1, nJ_add, gW_1 c, gW_1 d, Nat.mul_one]
  · rintro ⟨_, _, τ⟩ ⟨rfl, rfl, hτ, fr⟩
    simp only at hτ fr
    show Ok (b_X8_both_57 (nI im) (nI k) (nJ (sumN (fun p => cnV (stX rl on on') k (xs p) * (gW g (xs p).1 * gW g' (xs p).2)) N)) (nI N) τ) _
    unfold b_X8_both_57
    rw [fr.1 9 (by omega), h17, if_pos (by rw [n_le (by omega) (by omega)]; omega)]
    exact Ok.some ⟨rfl, hτ, fr⟩
