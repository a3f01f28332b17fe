/-! pairs of sets of states; trees as words with their pair -/
abbrev PX : Type := Nat × Nat
noncomputable def stX (rl : List Ru) (on on' s : Nat) (x y : PX) : PX := (outc rl on s x.1 y.1, outc rl on' s x.2 y.2)
def zX : PX := (0, 0)
/-- the word w is a tree that comes to x -/
def TrW (st : Nat → PX → PX → PX) (w : List Nat) (x : PX) : Prop := ∀ P : List Nat → PX → Prop, (∀ s, s < 4 → P [s] (st s zX zX)) → (∀ s u y, 4 ≤ s → s < 6 → P u y → P (s :: u) (st s y zX)) → (∀ s u y v z, 6 ≤ s → s < 8 → P u y → P v z → P (s :: (u ++ v)) (st s y z)) → P w x
theorem TrW.leaf {st : Nat → PX → PX → PX} {s : Nat} (h : s < 4) : TrW st [s] (st s zX zX) := fun _ a _ _ => a s h
theorem TrW.one {st : Nat → PX → PX → PX} {s : Nat} {u : List Nat} {y : PX} (h1 : 4 ≤ s) (h2 : s < 6) (h : TrW st u y) : TrW st (s :: u) (st s y zX) := fun P a b c => b s u y h1 h2 (h P a b c)
theorem TrW.two {st : Nat → PX → PX → PX} {s : Nat} {u v : List Nat} {y z : PX} (h1 : 6 ≤ s) (h2 : s < 8) (h : TrW st u y) (g : TrW st v z) : TrW st (s :: (u ++ v)) (st s y z) := fun P a b c => c s u y v z h1 h2 (h P a b c) (g P a b c)
/-- reached by some tree -/
def Rch (st : Nat → PX → PX → PX) (x : PX) : Prop := ∃ w, TrW st w x
theorem Rch.leaf {st : Nat → PX → PX → PX} {s : Nat} (h : s < 4) : Rch st (st s zX zX) := ⟨_, TrW.leaf h⟩
theorem Rch.one {st : Nat → PX → PX → PX} {s : Nat} {y : PX} (h1 : 4 ≤ s) (h2 : s < 6) (h : Rch st y) : Rch st (st s y zX) := by
  obtain ⟨u, hu⟩ := h
  exact ⟨_, TrW.one h1 h2 hu⟩
theorem Rch.two {st : Nat → PX → PX → PX} {s : Nat} {y z : PX} (h1 : 6 ≤ s) (h2 : s < 8) (h : Rch st y) (g : Rch st z) : Rch st (st s y z) := by
  obtain ⟨u, hu⟩ := h
  obtain ⟨v, hv⟩ := g
  exact ⟨_, TrW.two h1 h2 hu hv⟩
theorem Rch.ind {st : Nat → PX → PX → PX} {x : PX} (h : Rch st x) (P : PX → Prop) (a : ∀ s, s < 4 → P (st s zX zX)) (b : ∀ s y, 4 ≤ s → s < 6 → P y → P (st s y zX)) (c : ∀ s y z, 6 ≤ s → s < 8 → P y → P z → P (st s y z)) : P x := by
  obtain ⟨w, hw⟩ := h
  exact hw (fun _ x => P x) a (fun s _ y h1 h2 h => b s y h1 h2 h) (fun s _ y _ z h1 h2 h g => c s y z h1 h2 h g)
/-- pigeons -/
theorem php : ∀ (m n : Nat) (f : Nat → Nat), (∀ i, i < n → f i < m) → (∀ i j, i < n → j < n → f i = f j → i = j) → n ≤ m
  | 0, n, f, h, _ => by
    cases n with
    | zero => exact Nat.le_refl _
    | succ n => exact absurd (h 0 (Nat.succ_pos n)) (Nat.not_lt_zero _)
  | m + 1, n, f, h, g => by
    cases n with
    | zero => exact Nat.zero_le _
    | succ n =>
      have := php m n (fun i => if f i = m then f n else f i) (fun i hi => by
        by_cases c : f i = m
        · simp only [if_pos c]
          have h1 := h n (by omega)
          have h2 : f n ≠ m := fun e => by
            have := g i n (by omega) (by omega) (by omega)
            omega
          omega
        · simp only [if_neg c]
          have := h i (by omega)
          omega) (fun i j hi hj e => by
        by_cases c : f i = m
        · by_cases d : f j = m
          · exact g i j (by omega) (by omega) (by omega)
          · simp only [if_pos c, if_neg d] at e
            have := g n j (by omega) (by omega) e
            omega
        · by_cases d : f j = m
          · simp only [if_neg c, if_pos d] at e
            have := g i n (by omega) (by omega) e
            omega
          · simp only [if_neg c, if_neg d] at e
            exact g i j (by omega) (by omega) e)
      omega
/-- a list of pairs xs 0 .. xs (n - 1): no doubles, all reached -/
def LsX (st : Nat → PX → PX → PX) (n : Nat) (xs : Nat → PX) : Prop := (∀ i j, i < n → j < n → xs i = xs j → i = j) ∧ ∀ i, i < n → Rch st (xs i)
/-- more pairs than 120 are reached -/
def Many (st : Nat → PX → PX → PX) : Prop := ∃ xs, LsX st 121 xs
/-- all that is reached stands in the list -/
def ClX (st : Nat → PX → PX → PX) (n : Nat) (xs : Nat → PX) : Prop := (∀ s, s < 4 → ∃ k, k < n ∧ xs k = st s zX zX) ∧ (∀ s i, 4 ≤ s → s < 6 → i < n → ∃ k, k < n ∧ xs k = st s (xs i) zX) ∧ (∀ s i j, 6 ≤ s → s < 8 → i < n → j < n → ∃ k, k < n ∧ xs k = st s (xs i) (xs j))
theorem ClX.all {st : Nat → PX → PX → PX} {n : Nat} {xs : Nat → PX} (h : ClX st n xs) {x : PX} (hx : Rch st x) : ∃ k, k < n ∧ xs k = x := by
  refine hx.ind (fun x => ∃ k, k < n ∧ xs k = x) h.1 (fun s y h1 h2 ⟨i, i1, i2⟩ => ?_) (fun s y z h1 h2 ⟨i, i1, i2⟩ ⟨j, j1, j2⟩ => ?_)
  · obtain ⟨k, k1, k2⟩ := h.2.1 s i h1 h2 i1
    exact ⟨k, k1, by rw [k2, i2]⟩
  · obtain ⟨k, k1, k2⟩ := h.2.2 s i j h1 h2 i1 j1
    exact ⟨k, k1, by rw [k2, i2, j2]⟩
/-- two lists of which the one stands in the other, by f -/
theorem LsX.le {st st' : Nat → PX → PX → PX} {n m : Nat} {xs ys : Nat → PX} (h : LsX st n xs) (f : PX → PX) (hf : ∀ x y, Rch st x → Rch st y → f x = f y → x = y) (hr : ∀ x, Rch st x → ∃ k, k < m ∧ ys k = f x) : n ≤ m := by
  classical
  let g : Nat → Nat := fun i => if hi : i < n then (hr (xs i) (h.2 i hi)).choose else 0
  have gs : ∀ i (hi : i < n), g i < m ∧ ys (g i) = f (xs i) := fun i hi => by
    have e : g i = (hr (xs i) (h.2 i hi)).choose := by simp only [g, dif_pos hi]
    rw [e]
    exact (hr (xs i) (h.2 i hi)).choose_spec
  refine php m n g (fun i hi => (gs i hi).1) (fun i j hi hj e => ?_)
  have e1 := (gs i hi).2
  have e2 := (gs j hj).2
  rw [e, e2] at e1
  exact h.1 i j hi hj (hf _ _ (h.2 i hi) (h.2 j hj) e1.symm)
theorem Many.no {st : Nat → PX → PX → PX} {n : Nat} {xs : Nat → PX} (h : ClX st n xs) (hn : n ≤ 120) : ¬ Many st := by
  rintro ⟨ys, hy⟩
  have := hy.le (st' := st) (m := n) (ys := xs) id (fun _ _ _ _ e => e) (fun x hx => h.all hx)
  omega
