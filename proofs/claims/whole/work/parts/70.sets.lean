/-! sets, alike -/
theorem RepC.lrn {A : AS} {σ σ' : Mem} (h : RepC A σ) (e : ∀ o, o < 9 ∨ 33 < o → σ'.1 o = σ.1 o) (e2 : σ'.2 = σ.2) : RepC A σ' := by
  obtain ⟨k1, k2, k3, k4⟩ := h.hi (fun o ho => e o (by omega)) (by rw [e2])
  obtain ⟨⟨h1, h2⟩, h3, h4, ⟨h5, h5'⟩, h6, h7, h8⟩ := h
  refine ⟨⟨?_, ?_⟩, k1, k2, ⟨?_, ?_⟩, k3, k4, ?_⟩
  · rw [e 1 (by omega)]; exact h1
  · rw [e 2 (by omega)]; exact h2
  · rw [e 0 (by omega)]; exact h5
  · rw [e 0 (by omega)]; exact h5'
  · rw [e2]; exact h8
/-- learning left the tally as it was, or fresh -/
def Lrn (σ τ : Mem) : Prop := τ = σ ∨ (τ.1 22 2 = 0 ∧ (∀ o, o < 9 ∨ 33 < o → τ.1 o = σ.1 o) ∧ τ.2 = σ.2)
theorem pairsWith_C {A : AS} {σ : Mem} (h : RepC A σ) (hA : WfA A) (hC : CaI σ (rlA A)) {on' : Nat} (ho' : on' < 65536) : Ok (f_X8_pairsWith (nI on') σ) (fun r => r.1 = 9 ∧ RepC A r.2 ∧ LnOk (rlA A) (onA A) on' r.2 ∧ r.2.1 9 15 = nI (onA A) ∧ r.2.1 9 16 = nI on' ∧ Lrn σ r.2) := by
  obtain ⟨q1, _⟩ := h.2.1.law
  unfold f_X8_pairsWith
  rw [h.2.2.2.1.1]
  refine Ok.bind (learn_C hC h.2.2.1 (by rcases q1 with q | q <;> omega) hA.2.2.1 hA.2.2.2.1 hA.2.2.2.2.1 ho') ?_
  rintro τ ⟨a, b, c, d⟩
  refine Ok.some ⟨rfl, ?_, a, b, c, d⟩
  rcases d with rfl | ⟨_, d2, d3⟩
  · exact h
  · exact h.lrn d2 d3
theorem TbC.cl {σ : Mem} {st : Nat → PX → PX → PX} {n : Nat} {xs : Nat → PX} (h : TbC σ st n xs (fun _ => True) (fun _ => True) (fun _ _ => True)) : ClX st n xs := by
  refine ⟨fun s hs => ?_, fun s i h1 h2 hi => ?_, fun s i j h1 h2 hi hj => ?_⟩
  · obtain ⟨k, k1, _, k3⟩ := h.1 s hs trivial
    exact ⟨k, k1, k3⟩
  · obtain ⟨e, f, e1, f1, _, e2, f2⟩ := h.2.1 i hi trivial
    by_cases c : s = 4
    · subst c; exact ⟨e, e1, e2⟩
    · have : s = 5 := by omega
      subst this; exact ⟨f, f1, f2⟩
  · obtain ⟨e, f, e1, f1, _, e2, f2⟩ := h.2.2 i j hi hj trivial
    by_cases c : s = 6
    · subst c; exact ⟨e, e1, e2⟩
    · have : s = 7 := by omega
      subst this; exact ⟨f, f1, f2⟩
/-! one law: there no rule is on, or the same -/
theorem outc_0 {rl : List Ru} {s x y : Nat} : outc rl 0 s x y = 0 := outK_none (fun k _ h => by rw [bN_zero] at h; exact absurd h.1 (by omega)) _ (Nat.le_refl _)
theorem own_CR {rl : List Ru} {on : Nat} {w : List Nat} {x : PX} (h : TrW (stX rl on 0) w x) : x.2 = 0 ∧ TrW (stX rl on on) w (x.1, x.1) := by
  refine h (fun w x => x.2 = 0 ∧ TrW (stX rl on on) w (x.1, x.1)) (fun s hs => ⟨outc_0, TrW.leaf hs⟩) (fun s u y h1 h2 hu => ⟨outc_0, ?_⟩) (fun s u y v z h1 h2 hu hv => ⟨outc_0, ?_⟩)
  · exact TrW.one h1 h2 hu.2
  · exact TrW.two h1 h2 hu.2 hv.2
theorem own_RC {rl : List Ru} {on : Nat} {w : List Nat} {x : PX} (h : TrW (stX rl on on) w x) : x.2 = x.1 ∧ TrW (stX rl on 0) w (x.1, 0) := by
  refine h (fun w x => x.2 = x.1 ∧ TrW (stX rl on 0) w (x.1, 0)) (fun s hs => ⟨rfl, ?_⟩) (fun s u y h1 h2 hu => ⟨?_, ?_⟩) (fun s u y v z h1 h2 hu hv => ⟨?_, ?_⟩)
  · have := TrW.leaf (st := stX rl on 0) hs
    unfold stX at this ⊢
    rw [outc_0] at this
    exact this
  · show outc rl on s y.2 zX.2 = outc rl on s y.1 zX.1
    rw [hu.1]; rfl
  · have := TrW.one h1 h2 hu.2
    unfold stX at this ⊢
    rw [outc_0] at this
    exact this
  · show outc rl on s y.2 z.2 = outc rl on s y.1 z.1
    rw [hu.1, hv.1]
  · have := TrW.two h1 h2 hu.2 hv.2
    unfold stX at this ⊢
    rw [outc_0] at this
    exact this
theorem Rch.lt {rl : List Ru} (hrl : ∀ r ∈ rl, OkRu r) {on on' : Nat} {x : PX} (h : Rch (stX rl on on') x) : x.1 < 64 ∧ x.2 < 64 := h.ind (fun x => x.1 < 64 ∧ x.2 < 64) (fun s _ => ⟨outc_lt hrl _ _ _ _, outc_lt hrl _ _ _ _⟩) (fun s y _ _ _ => ⟨outc_lt hrl _ _ _ _, outc_lt hrl _ _ _ _⟩) (fun s y z _ _ _ _ => ⟨outc_lt hrl _ _ _ _, outc_lt hrl _ _ _ _⟩)
/-- one law reaches no more than 64 sets -/
theorem own_few {rl : List Ru} (hrl : ∀ r ∈ rl, OkRu r) {on on' : Nat} (hd : ∀ x y, Rch (stX rl on on') x → Rch (stX rl on on') y → x.1 = y.1 → x = y) : ¬ Many (stX rl on on') := by
  rintro ⟨xs, h1, h2⟩
  have := php 64 121 (fun i => (xs i).1) (fun i hi => ((h2 i hi).lt hrl).1) (fun i j hi hj e => h1 i j hi hj (hd _ _ (h2 i hi) (h2 j hj) e))
  omega
theorem own_few_C {rl : List Ru} (hrl : ∀ r ∈ rl, OkRu r) {on : Nat} : ¬ Many (stX rl on 0) := own_few hrl (fun x y ⟨u, hu⟩ ⟨v, hv⟩ e => Prod.ext e ((own_CR hu).1.trans (own_CR hv).1.symm))
theorem own_few_R {rl : List Ru} (hrl : ∀ r ∈ rl, OkRu r) {on : Nat} : ¬ Many (stX rl on on) := own_few hrl (fun x y ⟨u, hu⟩ ⟨v, hv⟩ e => Prod.ext e (by rw [(own_RC hu).1, (own_RC hv).1, e]))
theorem own_eq {rl : List Ru} {on n m : Nat} {xs ys : Nat → PX} (hx : LsX (stX rl on 0) n xs) (cx : ClX (stX rl on 0) n xs) (hy : LsX (stX rl on on) m ys) (cy : ClX (stX rl on on) m ys) : n = m := by
  have h1 : n ≤ m := hx.le (st' := stX rl on on) (m := m) (ys := ys) (fun x => (x.1, x.1)) (fun x y ⟨u, hu⟩ ⟨v, hv⟩ e => Prod.ext (Prod.mk.inj e).1 ((own_CR hu).1.trans (own_CR hv).1.symm)) (fun x ⟨u, hu⟩ => cy.all ⟨u, (own_CR hu).2⟩)
  have h2 : m ≤ n := hy.le (st' := stX rl on 0) (m := n) (ys := xs) (fun x => (x.1, 0)) (fun x y ⟨u, hu⟩ ⟨v, hv⟩ e => Prod.ext (Prod.mk.inj e).1 (by rw [(own_RC hu).1, (own_RC hv).1]; exact (Prod.mk.inj e).1)) (fun x ⟨u, hu⟩ => cx.all ⟨u, (own_RC hu).2⟩)
  omega
/-- a call that asks the pairs: the abstract state stays, the pairs are learnt -/
def BothP (A : AS) (σ : Mem) (fc fr : Option (Int32 × Mem)) : Prop := ∃ (v : Int32) (σ' ρ' : Mem), fc = some (v, σ') ∧ fr = some (v, ρ') ∧ RepC A σ' ∧ RepR A ρ' ∧ (σ' = σ ∨ ∃ on', on' < 65536 ∧ LnOk (rlA A) (onA A) on' σ' ∧ σ'.1 9 15 = nI (onA A) ∧ σ'.1 9 16 = nI on' ∧ Lrn σ σ')
theorem findOwn_R {A : AS} {ρ : Mem} (h : RepR A ρ) (hA : WfA A) : Ok (f_X9_findOwn ρ) (fun τ => RepR A τ ∧ τ.1 0 29 = nI (gdA A) ∧ ∃ n xs, FPok τ (stX (rlA A) (onA A) (onA A)) n xs) := by
  unfold f_X9_findOwn
  rw [show (0 : Int32).toNatClampNeg = 0 from rfl, show (1 : Int32).toNatClampNeg = 0 + 1 from rfl, h.2.2.1.1, h.2.2.1.2.1]
  refine Ok.bind (h.pairs hA hA.2.2.2.2.1) ?_
  rintro τ ⟨a, b, n, xs, c, d⟩
  refine Ok.some ⟨a, b, n, xs, ?_⟩
  rcases d with ⟨_, d⟩ | ⟨_, d⟩
  · exact d
  · exact absurd d (own_few_R hA.2.2.1)
theorem sets_RC {A : AS} {σ ρ : Mem} (h : RepC A σ) (g : RepR A ρ) (hA : WfA A) (hC : CaI σ (rlA A)) : BothP A σ (f_X8_sets σ) (f_X9_sets ρ) := by
  obtain ⟨⟨k, σ'⟩, c1, c2, c3, c4, c5, c6, c7⟩ := pairsWith_C h hA hC (on' := 0) (by omega)
  obtain ⟨ρ', r1, r2, r3, m, ys, r4⟩ := findOwn_R g hA
  simp only at c2 c3 c4 c5 c6 c7
  obtain ⟨n, xs, z, W, F, l1, l2⟩ := c4
  rcases l2 with ⟨_, _, l2⟩ | ⟨_, l2⟩
  · have e := own_eq l1.1.2.2.2.1 l2.cl r4.1.2.2.2 r4.cl
    refine ⟨nI n, σ', ρ', ?_, ?_, c3, r2, Or.inr ⟨0, by omega, ⟨n, xs, z, W, F, l1, Or.inl ⟨‹_›, ‹_›, l2⟩⟩, c5, c6, c7⟩⟩
    · unfold f_X8_sets
      have c1 : f_X8_pairsWith 0 σ = some (k, σ') := c1
      rw [c1, Option.bind_some]
      show some (σ'.1 9 17, σ') = _
      rw [l1.1.2.1.2.2]
    · unfold f_X9_sets
      rw [r1, Option.bind_some, r4.1.1, e]
  · exact absurd l2 (own_few_C hA.2.2.1)
