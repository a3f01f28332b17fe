/-! least, apart: the reference's words, size by size -/
theorem TrW.pos {st : Nat → PX → PX → PX} {w : List Nat} {x : PX} (h : TrW st w x) : 1 ≤ w.length := by
  have := h.nd.1
  cases w with
  | nil => exact absurd this (by simp [needs])
  | cons c u => exact Nat.succ_le_succ (Nat.zero_le _)
theorem len1 {l : List Nat} : 1 ≤ l.length ↔ l ≠ [] := by
  cases l with
  | nil => simp
  | cons a l => simp
/-- all words of fewer than n signs are found -/
def SgW (st : Nat → PX → PX → PX) (N : Nat) (xs : Nat → PX) (n : Nat) (V : Nat → List Nat) : Prop := ∀ k, k < N → (V k = [] ∧ ∀ u, TrW st u (xs k) → n ≤ u.length) ∨ ((V k).length < n ∧ TrW st (V k) (xs k) ∧ ∀ u, TrW st u (xs k) → leW (V k) u)
def InW (st : Nat → PX → PX → PX) (N : Nat) (xs : Nat → PX) (n : Nat) (V0 V : Nat → List Nat) : Prop := ∀ k, k < N → V k = V0 k ∨ (V0 k = [] ∧ (V k).length = n ∧ TrW st (V k) (xs k))
def MoW (N : Nat) (V V' : Nat → List Nat) : Prop := ∀ k, k < N → V k ≠ [] → V' k ≠ [] ∧ (V' k).length = (V k).length ∧ lq (V' k) (V k)
def CdW (V : Nat → List Nat) (k : Nat) (u : List Nat) : Prop := V k ≠ [] ∧ ((V k).length = u.length → lq (V k) u)
theorem MoW.rf {N : Nat} {V : Nat → List Nat} : MoW N V V := fun _ _ h => ⟨h, rfl, Or.inl rfl⟩
theorem MoW.tr {N : Nat} {V V' V'' : Nat → List Nat} (h : MoW N V V') (g : MoW N V' V'') : MoW N V V'' := fun k hk hv => by
  obtain ⟨a, b, c⟩ := h k hk hv
  obtain ⟨a', b', c'⟩ := g k hk a
  exact ⟨a', b'.trans b, lq_tr c' c⟩
theorem CdW.mo {N k : Nat} {V V' : Nat → List Nat} {u : List Nat} (h : CdW V k u) (m : MoW N V V') (hk : k < N) : CdW V' k u := by
  obtain ⟨a, b, c⟩ := m k hk h.1
  exact ⟨a, fun e => lq_tr c (h.2 (b.symm.trans e))⟩
theorem InW.same {st : Nat → PX → PX → PX} {N n k : Nat} {xs : Nat → PX} {V0 V : Nat → List Nat} (h : InW st N xs n V0 V) (hk : k < N) (h0 : V0 k ≠ []) : V k = V0 k := by
  rcases h k hk with h | h
  · exact h
  · exact absurd h.1 h0
def Cn0 (st : Nat → PX → PX → PX) (N : Nat) (xs : Nat → PX) (V : Nat → List Nat) (s : Nat) : Prop := ∃ k, k < N ∧ xs k = st s zX zX ∧ CdW V k [s]
def Cn1 (st : Nat → PX → PX → PX) (N : Nat) (xs : Nat → PX) (n : Nat) (V0 V : Nat → List Nat) (i s : Nat) : Prop := n = 1 + (V0 i).length → V0 i ≠ [] → ∃ k, k < N ∧ xs k = st (4 + s) (xs i) zX ∧ CdW V k ((4 + s) :: V0 i)
def Cn2 (st : Nat → PX → PX → PX) (N : Nat) (xs : Nat → PX) (n : Nat) (V0 V : Nat → List Nat) (i j s : Nat) : Prop := n = 1 + (V0 i).length + (V0 j).length → V0 i ≠ [] → V0 j ≠ [] → ∃ k, k < N ∧ xs k = st (6 + s) (xs i) (xs j) ∧ CdW V k ((6 + s) :: (V0 i ++ V0 j))
theorem Cn0.mo {st : Nat → PX → PX → PX} {N s : Nat} {xs : Nat → PX} {V V' : Nat → List Nat} (h : Cn0 st N xs V s) (m : MoW N V V') : Cn0 st N xs V' s := by
  obtain ⟨k, a, b, c⟩ := h
  exact ⟨k, a, b, c.mo m a⟩
theorem Cn1.mo {st : Nat → PX → PX → PX} {N n i s : Nat} {xs : Nat → PX} {V0 V V' : Nat → List Nat} (h : Cn1 st N xs n V0 V i s) (m : MoW N V V') : Cn1 st N xs n V0 V' i s := fun h1 h2 => by
  obtain ⟨k, a, b, c⟩ := h h1 h2
  exact ⟨k, a, b, c.mo m a⟩
theorem Cn2.mo {st : Nat → PX → PX → PX} {N n i j s : Nat} {xs : Nat → PX} {V0 V V' : Nat → List Nat} (h : Cn2 st N xs n V0 V i j s) (m : MoW N V V') : Cn2 st N xs n V0 V' i j s := fun h1 h2 h3 => by
  obtain ⟨k, a, b, c⟩ := h h1 h2 h3
  exact ⟨k, a, b, c.mo m a⟩
/-- all candidates of n signs are seen: one size more -/
theorem SgW.step {st : Nat → PX → PX → PX} {N n : Nat} {xs : Nat → PX} {V0 V : Nat → List Nat} (hx : ∀ i j, i < N → j < N → xs i = xs j → i = j) (hc : ClX st N xs) (hn : 1 ≤ n) (hS : SgW st N xs n V0) (hI : InW st N xs n V0 V) (h0 : n = 1 → ∀ s, s < 4 → Cn0 st N xs V s) (h1 : ∀ i s, i < N → s < 2 → Cn1 st N xs n V0 V i s) (h2 : ∀ i j s, i < N → j < N → s < 2 → Cn2 st N xs n V0 V i j s) : SgW st N xs (n + 1) V := by
  have cand : ∀ k, k < N → (∀ u, TrW st u (xs k) → n ≤ u.length) → ∀ u, TrW st u (xs k) → u.length = n → ∃ c, c.length = n ∧ lq c u ∧ CdW V k c := by
    intro k hk hmin u hu hl
    have small : ∀ i v, i < N → TrW st v (xs i) → v.length < n → V0 i ≠ [] ∧ TrW st (V0 i) (xs i) ∧ leW (V0 i) v := by
      intro i v hi hv hlt
      rcases hS i hi with ⟨_, a⟩ | ⟨a, b, c⟩
      · have := a v hv
        omega
      · exact ⟨len1.mp b.pos, b, c v hv⟩
    rcases hu.inv with ⟨s, s1, s2, s3⟩ | ⟨s, v, a, s1, s2, s3, s4, s5⟩ | ⟨s, v, a, v', b, s1, s2, s3, s3', s4, s5⟩
    · have e : n = 1 := by rw [← hl, s2]; rfl
      obtain ⟨k', k1, k2, k3⟩ := h0 e s s1
      have := hx k' k k1 hk (by rw [k2, s3])
      subst this
      exact ⟨[s], e.symm, Or.inl s2.symm, k3⟩
    · obtain ⟨i, i1, rfl⟩ := hc.all ⟨v, s3⟩
      have hlv : u.length = v.length + 1 := by rw [s4]; rfl
      obtain ⟨a1, a2, a3⟩ := small i v i1 s3 (by omega)
      have tr := TrW.one s1 s2 a2
      rw [← s5] at tr
      have hlc := hmin _ tr
      have e1 : (s :: V0 i).length = (V0 i).length + 1 := rfl
      rcases a3 with a3 | ⟨a3, a4⟩
      · omega
      · obtain ⟨k', k1, k2, k3⟩ := h1 i (s - 4) i1 (by omega) (by omega) a1
        rw [show 4 + (s - 4) = s by omega] at k2 k3
        have := hx k' k k1 hk (by rw [k2, s5])
        subst this
        exact ⟨s :: V0 i, by omega, by rw [s4]; exact lq_cons a4, k3⟩
    · obtain ⟨i, i1, rfl⟩ := hc.all ⟨v, s3⟩
      obtain ⟨j, j1, rfl⟩ := hc.all ⟨v', s3'⟩
      have hlv : u.length = v.length + v'.length + 1 := by rw [s4]; simp
      obtain ⟨a1, a2, a3⟩ := small i v i1 s3 (by omega)
      obtain ⟨b1, b2, b3⟩ := small j v' j1 s3' (by omega)
      have tr := TrW.two s1 s2 a2 b2
      rw [← s5] at tr
      have hlc := hmin _ tr
      have e1 : (s :: (V0 i ++ V0 j)).length = (V0 i).length + (V0 j).length + 1 := by simp
      have la : (V0 i).length ≤ v.length := by
        rcases a3 with a3 | a3 <;> omega
      have lb : (V0 j).length ≤ v'.length := by
        rcases b3 with b3 | b3 <;> omega
      rcases a3 with a3 | ⟨a3, a4⟩
      · omega
      · rcases b3 with b3 | ⟨b3, b4⟩
        · omega
        · obtain ⟨k', k1, k2, k3⟩ := h2 i j (s - 6) i1 j1 (by omega) (by omega) a1 b1
          rw [show 6 + (s - 6) = s by omega] at k2 k3
          have := hx k' k k1 hk (by rw [k2, s5])
          subst this
          exact ⟨s :: (V0 i ++ V0 j), by omega, by rw [s4]; exact lq_cons (lq_app a4 b4), k3⟩
  intro k hk
  rcases hI k hk with e | ⟨e, e1, e2⟩
  · rcases hS k hk with ⟨a, b⟩ | ⟨a, b, c⟩
    · refine Or.inl ⟨by rw [e]; exact a, fun u hu => ?_⟩
      have := b u hu
      by_cases d : u.length = n
      · obtain ⟨c, _, _, c3, _⟩ := cand k hk b u hu d
        exact absurd (e.trans a) c3
      · omega
    · rw [e]
      exact Or.inr ⟨by omega, b, c⟩
  · rcases hS k hk with ⟨a, b⟩ | ⟨a, b, c⟩
    · refine Or.inr ⟨by omega, e2, fun u hu => ?_⟩
      have := b u hu
      by_cases d : u.length = n
      · obtain ⟨c, c1, c2, c3, c4⟩ := cand k hk b u hu d
        exact Or.inr ⟨by omega, lq_tr (c4 (by omega)) c2⟩
      · exact Or.inl (by omega)
    · have := b.pos
      rw [e] at this
      exact absurd this (by decide)
theorem FPok.fw {ρ τ : Mem} {st : Nat → PX → PX → PX} {N : Nat} {xs : Nat → PX} (h : FPok ρ st N xs) (f : FrW ρ τ) : FPok τ st N xs := by
  unfold FPok PRx TbR T0 T1 T2 at *
  rw [f.1 0 (by omega) (by omega) (by omega), f.1 15 (by omega) (by omega) (by omega), f.1 16 (by omega) (by omega) (by omega), f.1 17 (by omega) (by omega) (by omega), f.1 18 (by omega) (by omega) (by omega), f.1 19 (by omega) (by omega) (by omega)]
  exact h
/-- the state within a size -/
def StW (ρ0 : Mem) (st : Nat → PX → PX → PX) (N : Nat) (xs : Nat → PX) (n : Nat) (V0 : Nat → List Nat) (ρ : Mem) (V : Nat → List Nat) : Prop := FrW ρ0 ρ ∧ WrR ρ N V ∧ InW st N xs n V0 V
/-- a tree offered for its pair -/
theorem offerW_R {ρ0 ρ : Mem} {st : Nat → PX → PX → PX} {N n q : Nat} {xs : Nat → PX} {V0 V : Nat → List Nat} {u : List Nat} (hN : N ≤ 120) (hS : SgW st N xs n V0) (h : StW ρ0 st N xs n V0 ρ V) (hT : TdR ρ u) (hq : q < N) (hu : TrW st u (xs q)) (hl : u.length = n) (hn : n ≤ 31) : Ok (f_X9_offer (nI q) (nI n) ρ) (fun τ => ∃ V', StW ρ0 st N xs n V0 τ V' ∧ MoW N V V' ∧ CdW V' q u) := by
  subst hl
  have up := hu.pos
  refine (offer_R hN h.2.1 hT hq up hn hu.nd.2).mono ?_
  rintro τ ⟨f, V', w1, w2, w3⟩
  rcases w3 with ⟨w3, w4⟩ | ⟨w3, w4, w5⟩
  · have z0 : V0 q = [] := by
      rcases h.2.2 q hq with e | ⟨e, _⟩
      · rcases w4 with w4 | ⟨w4, _⟩
        · rw [← e]; exact w4
        · rcases hS q hq with ⟨a, _⟩ | ⟨a, _⟩
          · exact a
          · rw [e] at w4; omega
      · exact e
    refine ⟨V', ⟨h.1.tr f, w1, fun k hk => ?_⟩, fun k hk hv => ?_, ?_⟩
    · by_cases c : k = q
      · subst c
        exact Or.inr ⟨z0, by rw [w3], by rw [w3]; exact hu⟩
      · rw [w2 k c]
        exact h.2.2 k hk
    · by_cases c : k = q
      · subst c
        rcases w4 with w4 | ⟨w4, w5⟩
        · exact absurd w4 hv
        · rw [w3]
          exact ⟨len1.mp up, w4.symm, Or.inr w5⟩
      · rw [w2 k c]
        exact ⟨hv, rfl, Or.inl rfl⟩
    · unfold CdW
      rw [w3]
      exact ⟨len1.mp up, fun _ => Or.inl rfl⟩
  · have e : ∀ k, V' k = V k := fun k => by
      by_cases c : k = q
      · subst c; exact w3
      · exact w2 k c
    refine ⟨V', ⟨h.1.tr f, w1, fun k hk => ?_⟩, fun k hk hv => ?_, ?_⟩
    · rw [e k]
      exact h.2.2 k hk
    · rw [e k]
      exact ⟨hv, rfl, Or.inl rfl⟩
    · unfold CdW
      rw [e q]
      exact ⟨w4, w5⟩
theorem TdR.one {ρ : Mem} {s : Nat} : TdR (sI ρ 24 0 (nI s)) [s] := fun j hj => by
  have : j = 0 := by
    have : j < 1 := hj
    omega
  subst this
  rw [sI_same]
  rfl
theorem WrR.td {ρ τ : Mem} {N : Nat} {V : Nat → List Nat} (h : WrR ρ N V) (e : ∀ o, o ≠ 24 → τ.1 o = ρ.1 o) : WrR τ N V := by
  unfold WrR at *
  rw [e 22 (by omega), e 23 (by omega)]
  exact h
theorem StW.td {ρ0 ρ τ : Mem} {st : Nat → PX → PX → PX} {N n : Nat} {xs : Nat → PX} {V0 V : Nat → List Nat} (h : StW ρ0 st N xs n V0 ρ V) (e : ∀ o, o ≠ 24 → τ.1 o = ρ.1 o) (e2 : τ.2 = ρ.2) : StW ρ0 st N xs n V0 τ V := ⟨h.1.tr ⟨fun o _ _ h => e o h, e2⟩, h.2.1.td e, h.2.2⟩
theorem sI24 {ρ : Mem} {k : Nat} {v : Int32} : ∀ o, o ≠ 24 → (sI ρ 24 k v).1 o = ρ.1 o := fun _ h => sI_o h
/-- trees of one arm over i -/
theorem ones_R {ρ0 ρ : Mem} {st : Nat → PX → PX → PX} {N n i : Nat} {xs : Nat → PX} {V0 V : Nat → List Nat} (hP : FPok ρ0 st N xs) (hS : SgW st N xs n V0) (h : StW ρ0 st N xs n V0 ρ V) (hi : i < N) (h0 : V0 i ≠ []) (hn : n = 1 + (V0 i).length) (hn2 : n ≤ 31) : Ok (Lim (T := (Int32 × Int32 × Mem)) (fun s => b_X9_findWords_86 s.1 s.2.1 s.2.2.1 s.2.2.2) (nI n, nI i, (0 : Int32), ρ)) (fun r => r.1 = nI n ∧ r.2.1 = nI i ∧ ∃ V', StW ρ0 st N xs n V0 r.2.2 V' ∧ MoW N V V' ∧ ∀ s, s < 2 → Cn1 st N xs n V0 V' i s) := by
  have hN := hP.1.2.1
  have tri : TrW st (V0 i) (xs i) := by
    rcases hS i hi with ⟨a, _⟩ | ⟨_, b, _⟩
    · exact absurd a h0
    · exact b
  refine Ok.for 2 (fun k s => ∃ τ V', s = (nI n, nI i, nI k, τ) ∧ StW ρ0 st N xs n V0 τ V' ∧ MoW N V V' ∧ ∀ s, s < k → Cn1 st N xs n V0 V' i s) ?_ ?_ 0 (by omega) _ ⟨ρ, V, rfl, h, MoW.rf, fun s hs => by omega⟩
  · rintro k _ hk ⟨τ, V', rfl, h1, h2, h3⟩
    show Ok (b_X9_findWords_86 (nI n) (nI i) (nI k) τ) _
    have vi := h1.2.2.same hi h0
    unfold b_X9_findWords_86
    rw [if_neg (by rw [show (2 : Int32) = nI 2 from rfl, n_le (by omega) (by omega)]; omega), show (0 : Int32).toNatClampNeg = 0 from rfl, show (4 : Int32) = nI 4 from rfl, n_add]
    refine Ok.lt ?_
    have h1' := h1.td (τ := sI τ 24 0 (nI (4 + k))) sI24 rfl
    refine Ok.bind (put_R (f := 1) hN h1'.2.1 TdR.one hi rfl (by rw [vi]; show 1 + _ ≤ 31; omega)) ?_
    rintro τ2 ⟨p1, p2, p3⟩
    have h2' := h1'.td p2 p3
    obtain ⟨q, q1, q2, q3⟩ := (hP.fw h2'.1).2.2.1 k i hk hi trivial
    rw [show (120 : Int32) = nI 120 from rfl, n_mul, n_add, gd_ix (by omega) (by omega), n_cl (by omega), q2]
    rw [vi] at p1
    have trc : TrW st ((4 + k) :: V0 i) (xs q) := by rw [q3]; exact TrW.one (by omega) (by omega) tri
    refine Ok.bind (offerW_R hN hS h2' p1 q1 trc (by show (V0 i).length + 1 = n; omega) hn2) ?_
    rintro τ3 ⟨V3, a1, a2, a3⟩
    refine Ok.lt (Ok.some ⟨τ3, V3, by rw [n_suc], a1, h2.tr a2, fun s hs => ?_⟩)
    by_cases c : s = k
    · subst c
      exact fun _ _ => ⟨q, q1, q3, a3⟩
    · exact (h3 s (by omega)).mo a2
  · rintro _ ⟨τ, V', rfl, h1, h2, h3⟩
    show Ok (b_X9_findWords_86 (nI n) (nI i) (nI 2) τ) _
    unfold b_X9_findWords_86
    rw [if_pos (by decide)]
    exact Ok.some ⟨rfl, rfl, V', h1, h2, h3⟩
/-- trees of two arms over i and j -/
theorem twos_R {ρ0 ρ : Mem} {st : Nat → PX → PX → PX} {N n i j : Nat} {xs : Nat → PX} {V0 V : Nat → List Nat} (hP : FPok ρ0 st N xs) (hS : SgW st N xs n V0) (h : StW ρ0 st N xs n V0 ρ V) (hi : i < N) (hj : j < N) (h0 : V0 i ≠ []) (h0' : V0 j ≠ []) (hn : n = 1 + (V0 i).length + (V0 j).length) (hn2 : n ≤ 31) : Ok (Lim (T := (Int32 × Mem)) (fun s => b_X9_offerTwo_50 (nI n) (nI i) s.1 s.2.1 s.2.2) (nI j, (0 : Int32), ρ)) (fun r => r.1 = nI j ∧ ∃ V', StW ρ0 st N xs n V0 r.2 V' ∧ MoW N V V' ∧ ∀ s, s < 2 → Cn2 st N xs n V0 V' i j s) := by
  have hN := hP.1.2.1
  have tri : TrW st (V0 i) (xs i) := by
    rcases hS i hi with ⟨a, _⟩ | ⟨_, b, _⟩
    · exact absurd a h0
    · exact b
  have trj : TrW st (V0 j) (xs j) := by
    rcases hS j hj with ⟨a, _⟩ | ⟨_, b, _⟩
    · exact absurd a h0'
    · exact b
  refine Ok.for 2 (fun k s => ∃ τ V', s = (nI j, nI k, τ) ∧ StW ρ0 st N xs n V0 τ V' ∧ MoW N V V' ∧ ∀ s, s < k → Cn2 st N xs n V0 V' i j s) ?_ ?_ 0 (by omega) _ ⟨ρ, V, rfl, h, MoW.rf, fun s hs => by omega⟩
  · rintro k _ hk ⟨τ, V', rfl, h1, h2, h3⟩
    show Ok (b_X9_offerTwo_50 (nI n) (nI i) (nI j) (nI k) τ) _
    have vi := h1.2.2.same hi h0
    have vj := h1.2.2.same hj h0'
    unfold b_X9_offerTwo_50
    rw [if_neg (by rw [show (2 : Int32) = nI 2 from rfl, n_le (by omega) (by omega)]; omega), show (0 : Int32).toNatClampNeg = 0 from rfl, show (6 : Int32) = nI 6 from rfl, n_add]
    refine Ok.lt ?_
    have h1' := h1.td (τ := sI τ 24 0 (nI (6 + k))) sI24 rfl
    refine Ok.bind (put_R (f := 1) hN h1'.2.1 TdR.one hi rfl (by rw [vi]; show 1 + _ ≤ 31; omega)) ?_
    rintro τ2 ⟨p1, p2, p3⟩
    have h2' := h1'.td p2 p3
    rw [vi] at p1
    rw [gd_ix (by omega) (by omega), n_cl (by omega), (h2'.2.1 i hi).1, vi, show (1 : Int32) = nI 1 from rfl, n_add]
    refine Ok.bind (put_R hN h2'.2.1 p1 hj (by simp; omega) (by rw [vj]; simp; omega)) ?_
    rintro τ4 ⟨p4, p5, p6⟩
    have h4' := h2'.td p5 p6
    rw [vj] at p4
    obtain ⟨q, q1, q2, q3⟩ := (hP.fw h4'.1).2.2.2 k i j hk hi hj trivial
    rw [show (14400 : Int32) = nI 14400 from rfl, show (120 : Int32) = nI 120 from rfl, n_mul, n_mul, n_add, n_add, gd_ix (by omega) (by omega), n_cl (by omega), q2]
    have trc : TrW st ((6 + k) :: (V0 i ++ V0 j)) (xs q) := by rw [q3]; exact TrW.two (by omega) (by omega) tri trj
    refine Ok.bind (offerW_R hN hS h4' p4 q1 trc (by simp; omega) hn2) ?_
    rintro τ3 ⟨V3, a1, a2, a3⟩
    refine Ok.lt (Ok.some ⟨τ3, V3, by rw [n_add], a1, h2.tr a2, fun s hs => ?_⟩)
    by_cases c : s = k
    · subst c
      exact fun _ _ _ => ⟨q, q1, q3, a3⟩
    · exact (h3 s (by omega)).mo a2
  · rintro _ ⟨τ, V', rfl, h1, h2, h3⟩
    show Ok (b_X9_offerTwo_50 (nI n) (nI i) (nI j) (nI 2) τ) _
    unfold b_X9_offerTwo_50
    rw [if_pos (by decide)]
    exact Ok.some ⟨rfl, V', h1, h2, h3⟩
