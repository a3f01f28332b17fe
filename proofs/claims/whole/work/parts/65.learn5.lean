/-! the class: learning, candidates and tables -/
theorem Cnd.mono {st : Nat → PX → PX → PX} {n n' c : Nat} {xs xs' : Nat → PX} {z z' : Nat → Nat} {W W' : Nat → List Nat} {F : Nat → Bool} {v : PX} {u : List Nat} (h : Cnd st n xs z W v c u) (x : ExX n xs n' xs') (m : MonO n F z W z' W') : Cnd st n' xs' z' W' v c u := by
  obtain ⟨k, k1, k2, k3, k4⟩ := h
  obtain ⟨m1, m2⟩ := m.2 k k1
  refine ⟨k, by have := x.1; omega, by rw [x.2 k k1]; exact k2, by omega, fun e1 e2 => ?_⟩
  exact lq_tr (m2 (by omega) (by omega)) (k4 (by omega) e2)
/-- the candidates seen -/
def CdS (st : Nat → PX → PX → PX) (n : Nat) (xs : Nat → PX) (z : Nat → Nat) (W : Nat → List Nat) (F : Nat → Bool) (d0 : Nat → Prop) (d1 : Nat → Nat → Prop) (d2 : Nat → Nat → Nat → Prop) : Prop := (∀ s, s < 4 → d0 s → Cnd st n xs z W (st s zX zX) 1 [s]) ∧ (∀ s i, 4 ≤ s → s < 6 → i < n → F i = true → d1 s i → Cnd st n xs z W (st s (xs i) zX) (1 + z i) (s :: W i)) ∧ (∀ s i j, 6 ≤ s → s < 8 → i < n → j < n → F i = true → F j = true → d2 s i j → Cnd st n xs z W (st s (xs i) (xs j)) (1 + z i + z j) (s :: (W i ++ W j)))
theorem CdS.mono {st : Nat → PX → PX → PX} {n n' : Nat} {xs xs' : Nat → PX} {z z' : Nat → Nat} {W W' : Nat → List Nat} {F : Nat → Bool} {d0 : Nat → Prop} {d1 : Nat → Nat → Prop} {d2 : Nat → Nat → Nat → Prop} (h : CdS st n xs z W F d0 d1 d2) (hF : ∀ i, F i = true → i < n) (x : ExX n xs n' xs') (m : MonO n F z W z' W') : CdS st n' xs' z' W' F d0 d1 d2 := by
  refine ⟨fun s h1 h2 => (h.1 s h1 h2).mono x m, fun s i h1 h2 _ h4 h5 => ?_, fun s i j h1 h2 _ _ h5 h6 h7 => ?_⟩
  · have hi := hF i h4
    obtain ⟨e1, e2⟩ := m.1 i hi h4
    rw [e1, e2, x.2 i hi]
    exact (h.2.1 s i h1 h2 hi h4 h5).mono x m
  · have hi := hF i h5
    have hj := hF j h6
    obtain ⟨e1, e2⟩ := m.1 i hi h5
    obtain ⟨e3, e4⟩ := m.1 j hj h6
    rw [e1, e2, e3, e4, x.2 i hi, x.2 j hj]
    exact (h.2.2 s i j h1 h2 hi hj h5 h6 h7).mono x m
def U0 (σ : Mem) (st : Nat → PX → PX → PX) (n : Nat) (xs : Nat → PX) (s : Nat) : Prop := ∃ k, k < n ∧ σ.1 24 s = nI k ∧ xs k = st s zX zX
def U1 (σ : Mem) (st : Nat → PX → PX → PX) (n : Nat) (xs : Nat → PX) (p : Nat) : Prop := ∃ e f, e < n ∧ f < n ∧ σ.1 20 p = nI (e + 128 * f) ∧ xs e = st 4 (xs p) zX ∧ xs f = st 5 (xs p) zX
def U2 (σ : Mem) (st : Nat → PX → PX → PX) (n : Nat) (xs : Nat → PX) (p q : Nat) : Prop := ∃ e f, e < n ∧ f < n ∧ σ.1 21 (120 * p + q) = nI (e + 128 * f) ∧ xs e = st 6 (xs p) (xs q) ∧ xs f = st 7 (xs p) (xs q)
def TbC (σ : Mem) (st : Nat → PX → PX → PX) (n : Nat) (xs : Nat → PX) (t0 t1 : Nat → Prop) (t2 : Nat → Nat → Prop) : Prop := (∀ s, s < 4 → t0 s → U0 σ st n xs s) ∧ (∀ p, p < n → t1 p → U1 σ st n xs p) ∧ (∀ p q, p < n → q < n → t2 p q → U2 σ st n xs p q)
theorem U0.ext {σ τ : Mem} {st : Nat → PX → PX → PX} {n n' s : Nat} {xs xs' : Nat → PX} (h : U0 σ st n xs s) (x : ExX n xs n' xs') (e : τ.1 24 s = σ.1 24 s) : U0 τ st n' xs' s := by
  obtain ⟨k, k1, k2, k3⟩ := h
  exact ⟨k, by have := x.1; omega, by rw [e]; exact k2, by rw [x.2 k k1]; exact k3⟩
theorem U1.ext {σ τ : Mem} {st : Nat → PX → PX → PX} {n n' p : Nat} {xs xs' : Nat → PX} (h : U1 σ st n xs p) (hp : p < n) (x : ExX n xs n' xs') (e : τ.1 20 p = σ.1 20 p) : U1 τ st n' xs' p := by
  obtain ⟨a, b, k1, k2, k3, k4, k5⟩ := h
  exact ⟨a, b, by have := x.1; omega, by have := x.1; omega, by rw [e]; exact k3, by rw [x.2 a k1, x.2 p hp]; exact k4, by rw [x.2 b k2, x.2 p hp]; exact k5⟩
theorem U2.ext {σ τ : Mem} {st : Nat → PX → PX → PX} {n n' p q : Nat} {xs xs' : Nat → PX} (h : U2 σ st n xs p q) (hp : p < n) (hq : q < n) (x : ExX n xs n' xs') (e : τ.1 21 (120 * p + q) = σ.1 21 (120 * p + q)) : U2 τ st n' xs' p q := by
  obtain ⟨a, b, k1, k2, k3, k4, k5⟩ := h
  exact ⟨a, b, by have := x.1; omega, by have := x.1; omega, by rw [e]; exact k3, by rw [x.2 a k1, x.2 p hp, x.2 q hq]; exact k4, by rw [x.2 b k2, x.2 p hp, x.2 q hq]; exact k5⟩
/-- learning may change so much -/
def FrL (σ τ : Mem) : Prop := (∀ o, o < 9 ∨ 24 < o ∨ o = 22 ∨ o = 23 → τ.1 o = σ.1 o) ∧ τ.2 = σ.2
def SeC (rl : List Ru) (on on' : Nat) (σ0 σ : Mem) (n : Nat) (xs : Nat → PX) (z : Nat → Nat) (W : Nat → List Nat) (F : Nat → Bool) (D : Prop) : Prop := LrI σ rl on on' n xs z W F ∧ (∀ i, F i = true → i < n) ∧ (∀ i, i < n → F i = true → Lst (stX rl on on') (xs i) (z i) (W i)) ∧ FrL σ0 σ ∧ ((σ.1 9 18 = 0 ∧ D) ∨ (σ.1 9 18 = 1 ∧ Many (stX rl on on')))
theorem SeC.wk {rl : List Ru} {on on' n : Nat} {σ0 σ : Mem} {xs : Nat → PX} {z : Nat → Nat} {W : Nat → List Nat} {F : Nat → Bool} {D E : Prop} (h : SeC rl on on' σ0 σ n xs z W F D) (hw : D → E) : SeC rl on on' σ0 σ n xs z W F E := ⟨h.1, h.2.1, h.2.2.1, h.2.2.2.1, h.2.2.2.2.imp (fun z => ⟨z.1, hw z.2⟩) id⟩
/-- one candidate offered, in the state of learning -/
theorem offerS_C {rl : List Ru} {on on' n s v : Nat} {σ0 σ : Mem} {xs : Nat → PX} {z : Nat → Nat} {W : Nat → List Nat} {F : Nat → Bool} {D : Prop} {o1 o2 : Option Nat} (hrl : ∀ r ∈ rl, OkRu r) (hll : rl.length ≤ 16) (hS : SeC rl on on' σ0 σ n xs z W F D) (hs : s < 8) (hsh : ShA n F s o1 o2) (hv : v < 4294967296) (hf : FitV rl on on' s (xO xs o1) (xO xs o2) v) : Ok (f_X4_offer (nI v) (nI s) (aI o1) (aI o2) σ) (fun r => ∃ n' xs' z' W' k, ExX n xs n' xs' ∧ MonO n F z W z' W' ∧ k < n' ∧ r.1 = nI k ∧ FrO σ r.2 ∧ ∀ D' : Prop, (D → xs' k = stX rl on on' s (xO xs o1) (xO xs o2) → Cnd (stX rl on on') n' xs' z' W' (stX rl on on' s (xO xs o1) (xO xs o2)) (1 + zO z o1 + zO z o2) (s :: (wO W o1 ++ wO W o2)) → D') → SeC rl on on' σ0 r.2 n' xs' z' W' F D') := by
  obtain ⟨h1, h2, h3, h4, h5⟩ := hS
  refine (offer_C h1 hrl hll h2 h3 hs hsh hv hf).mono ?_
  rintro ⟨r, τ⟩ ⟨f1, f2⟩
  simp only at f1 f2
  have fl : FrL σ0 τ := ⟨fun o ho => (f1.1 o (by omega)).trans (h4.1 o ho), f1.2.2.trans h4.2⟩
  rcases f2 with ⟨g1, g2, g3, g4, g5⟩ | ⟨g1, n', xs', z', W', k, e1, e2, e3, e4, e5, e6, e7, e8⟩
  · exact ⟨n, xs, z, W, 0, ⟨Nat.le_refl _, fun _ _ => rfl⟩, ⟨fun _ _ _ => ⟨rfl, rfl⟩, fun _ _ => ⟨Nat.le_refl _, fun _ _ => Or.inl rfl⟩⟩, by omega, g1, f1, fun D' _ => ⟨g5, h2, h3, fl, Or.inr ⟨g2, g3⟩⟩⟩
  · refine ⟨n', xs', z', W', k, e1, e6, e2, e3, f1, fun D' hD' => ⟨e5, fun i hi => by have := h2 i hi; have := e1.1; omega, fun i _ hF => ?_, fl, ?_⟩⟩
    · have hi := h2 i hF
      obtain ⟨q1, q2⟩ := e6.1 i hi hF
      rw [q1, q2, e1.2 i hi]
      exact h3 i hi hF
    · show (τ.1 9 18 = 0 ∧ D') ∨ (τ.1 9 18 = 1 ∧ _)
      rw [g1]
      rcases h5 with ⟨q1, q2⟩ | q
      · exact Or.inl ⟨q1, hD' q2 e4 ⟨k, e2, e4, e7, e8⟩⟩
      · exact Or.inr q
/-- a table written -/
theorem SeC.put {rl : List Ru} {on on' n o p : Nat} {σ0 σ : Mem} {xs : Nat → PX} {z : Nat → Nat} {W : Nat → List Nat} {F : Nat → Bool} {D : Prop} {v : Int32} (h : SeC rl on on' σ0 σ n xs z W F D) (ho : o = 20 ∨ o = 21 ∨ o = 24) : ∀ D' : Prop, (D → D') → SeC rl on on' σ0 (sI σ o p v) n xs z W F D' := by
  intro D' hD'
  obtain ⟨⟨⟨hL, ⟨p15, p16, p17⟩, pn, ls, ent, num, ro⟩, rc⟩, h2, h3, h4, h5⟩ := h
  refine ⟨⟨⟨hL.cg (fun q q1 q2 => sI_o (by omega)), ⟨?_, ?_, ?_⟩, pn, ls, ?_, ?_, ?_⟩, fun i hi => ?_⟩, h2, h3, ⟨fun q hq => ?_, h4.2⟩, ?_⟩
  · rw [sI_off (by omega)]; exact p15
  · rw [sI_off (by omega)]; exact p16
  · rw [sI_off (by omega)]; exact p17
  · rw [sI_o (by omega), sI_o (by omega), sI_o (by omega), sI_o (by omega)]; exact ent
  · rw [sI_o (by omega)]; exact num
  · rw [sI_o (by omega)]; exact ro
  · obtain ⟨s', p1, p2, b1, b2, b3, b4, b5, b6, b7⟩ := rc i hi
    refine ⟨s', p1, p2, b1, ?_, ?_, ?_, ?_, ?_, b7⟩
    · rw [sI_off (by omega)]; exact b2
    · rw [sI_off (by omega)]; exact b3
    · rw [sI_off (by omega)]; exact b4
    · rw [sI_off (by omega)]; exact b5
    · rw [sI_off (by omega)]; exact b6
  · rw [sI_o (by omega)]; exact h4.1 q hq
  · rw [sI_off (by omega)]
    exact h5.imp (fun w => ⟨w.1, hD' w.2⟩) id
theorem pack_n {e f : Nat} (he : e < 128) (hf : f < 128) : (nI e ||| (nI f <<< ((7 : Int32) &&& 31))) = nI (e + 128 * f) := by
  rw [show (7 : Int32) = nI 7 from rfl, n_shl (by omega) (by omega), n_or]
  congr 1
  have : 2 ^ 7 * f + e = 2 ^ 7 * f ||| e := Nat.two_pow_add_eq_or_of_lt (i := 7) he f
  rw [Nat.or_comm, Nat.mul_comm f, ← this]
  omega
/-- p and q joined -/
theorem join_C {rl : List Ru} {on on' n p q : Nat} {σ0 σ : Mem} {xs : Nat → PX} {z : Nat → Nat} {W : Nat → List Nat} {F : Nat → Bool} {d0 : Nat → Prop} {d1 : Nat → Nat → Prop} {d2 : Nat → Nat → Nat → Prop} {t0 t1 : Nat → Prop} {t2 : Nat → Nat → Prop} (hrl : ∀ r ∈ rl, OkRu r) (hll : rl.length ≤ 16) (hp : p < n) (hq : q < n) (hpF : F p = true) (hqF : F q = true) (hS : SeC rl on on' σ0 σ n xs z W F (CdS (stX rl on on') n xs z W F d0 d1 d2 ∧ TbC σ (stX rl on on') n xs t0 t1 t2)) (ht1 : ∀ i, t1 i → F i = true) (ht2 : ∀ i j, t2 i j → F i = true ∧ F j = true) : Ok (f_X4_join (nI p) (nI q) σ) (fun τ => ∃ n' xs' z' W', ExX n xs n' xs' ∧ MonO n F z W z' W' ∧ SeC rl on on' σ0 τ n' xs' z' W' F (CdS (stX rl on on') n' xs' z' W' F d0 d1 (fun s i j => d2 s i j ∨ (i = p ∧ j = q)) ∧ TbC τ (stX rl on on') n' xs' t0 t1 (fun i j => t2 i j ∨ (i = p ∧ j = q)))) := by
  have n120 : n ≤ 120 := hS.1.1.2.2.1
  obtain ⟨u, u1, u2, u3⟩ := (hS.1.1.2.2.2.2.1 p hp).2.2.2.1
  obtain ⟨w, w1, w2, w3⟩ := (hS.1.1.2.2.2.2.1 q hq).2.2.2.2.1
  obtain ⟨r6, a1, a2, a3⟩ := hS.1.1.2.2.2.2.2.2 6 (by omega)
  have and32 : ∀ a b : Nat, a < 4294967296 → a &&& b < 4294967296 := fun a b h => Nat.lt_of_le_of_lt Nat.and_le_left h
  have sh : ∀ s, armsN s = 2 → ShA n F s (some p) (some q) := fun s e => Or.inr (Or.inr ⟨e, ⟨p, hp, hpF, rfl⟩, ⟨q, hq, hqF, rfl⟩⟩)
  unfold f_X4_join
  rw [gd_ix (by omega) (by omega), gd_ix (by omega) (by omega), n_cl (by omega), n_cl (by omega), u2, w2, n_and]
  refine Ok.lt ?_
  rw [show (6 : Int32).toNatClampNeg = 6 from rfl, a2, n_and]
  refine Ok.bind (offerS_C (s := 6) (o1 := some p) (o2 := some q) hrl hll hS (by omega) (sh 6 (armsN_2 (by omega))) (and32 _ _ a1) (fit2 a3 u3 w3 (armsN_2 (by omega)))) ?_
  rintro ⟨v, τ⟩ ⟨n1, xs1, z1', W1, k1, x1, m1, e1, rfl, f1, c1⟩
  simp only at f1 c1
  refine Ok.lt ?_
  have S1 := c1 (CdS (stX rl on on') n1 xs1 z1' W1 F d0 d1 (fun s i j => d2 s i j ∨ (s = 6 ∧ i = p ∧ j = q)) ∧ TbC τ (stX rl on on') n1 xs1 t0 t1 t2 ∧ xs1 k1 = stX rl on on' 6 (xs1 p) (xs1 q)) (fun D kx cd => by
    have cm := D.1.mono hS.2.1 x1 m1
    refine ⟨⟨cm.1, cm.2.1, fun s i j h1 h2 h3 h4 h5 h6 h7 => ?_⟩, ⟨fun s h1 h2 => (D.2.1 s h1 h2).ext x1 (by rw [f1.1 24 (by omega)]), fun i h1 h2 => ?_, fun i j h1 h2 h3 => ?_⟩, ?_⟩
    · rcases h7 with h7 | ⟨rfl, rfl, rfl⟩
      · exact cm.2.2 s i j h1 h2 h3 h4 h5 h6 h7
      · obtain ⟨q1, q2⟩ := m1.1 i hp hpF
        obtain ⟨q3, q4⟩ := m1.1 j hq hqF
        rw [q1, q2, q3, q4, x1.2 i hp, x1.2 j hq]
        exact cd
    · have := hS.2.1 i (ht1 i h2)
      exact (D.2.2.1 i this h2).ext this x1 (by rw [f1.1 20 (by omega)])
    · have hi := hS.2.1 i (ht2 i j h3).1
      have hj := hS.2.1 j (ht2 i j h3).2
      exact (D.2.2.2 i j hi hj h3).ext hi hj x1 (by rw [f1.1 21 (by omega)])
    · rw [kx, x1.2 p hp, x1.2 q hq]; rfl)
  have hp1 : p < n1 := by have := x1.1; omega
  have hq1 : q < n1 := by have := x1.1; omega
  have n1120 : n1 ≤ 120 := S1.1.1.2.2.1
  obtain ⟨r7, b1, b2, b3⟩ := S1.1.1.2.2.2.2.2.2 7 (by omega)
  have sh1 : ShA n1 F 7 (some p) (some q) := Or.inr (Or.inr ⟨armsN_2 (by omega), ⟨p, hp1, hpF, rfl⟩, ⟨q, hq1, hqF, rfl⟩⟩)
  have u3' : AfV rl rl.length (xs1 p) u := by rw [x1.2 p hp]; exact u3
  have w3' : AsV rl rl.length (xs1 q) w := by rw [x1.2 q hq]; exact w3
  rw [show (7 : Int32).toNatClampNeg = 7 from rfl, b2, n_and]
  refine Ok.bind (offerS_C (s := 7) (o1 := some p) (o2 := some q) hrl hll S1 (by omega) sh1 (and32 _ _ b1) (fit2 b3 u3' w3' (armsN_2 (by omega)))) ?_
  rintro ⟨v, υ⟩ ⟨n2, xs2, z2', W2, k2, x2, m2, e2, rfl, f2, c2⟩
  simp only at f2 c2
  refine Ok.lt ?_
  rw [show nI p * (120 : Int32) + nI q = nI (120 * p + q) by rw [show (120 : Int32) = nI 120 from rfl, n_mul, n_add, Nat.mul_comm], gd_ix (by omega) (by omega), n_cl (by omega)]
  have S2 := c2 (CdS (stX rl on on') n2 xs2 z2' W2 F d0 d1 (fun s i j => d2 s i j ∨ (i = p ∧ j = q)) ∧ TbC υ (stX rl on on') n2 xs2 t0 t1 t2 ∧ (k1 < n2 ∧ xs2 k1 = stX rl on on' 6 (xs2 p) (xs2 q)) ∧ xs2 k2 = stX rl on on' 7 (xs2 p) (xs2 q)) (fun D kx cd => by
    have cm := D.1.mono S1.2.1 x2 m2
    refine ⟨⟨cm.1, cm.2.1, fun s i j h1 h2 h3 h4 h5 h6 h7 => ?_⟩, ⟨fun s h1 h2 => (D.2.1.1 s h1 h2).ext x2 (by rw [f2.1 24 (by omega)]), fun i h1 h2 => ?_, fun i j h1 h2 h3 => ?_⟩, ⟨by have := x2.1; omega, ?_⟩, ?_⟩
    · rcases h7 with h7 | ⟨rfl, rfl⟩
      · exact cm.2.2 s i j h1 h2 h3 h4 h5 h6 (Or.inl h7)
      · by_cases c : s = 6
        · exact cm.2.2 s i j h1 h2 h3 h4 h5 h6 (Or.inr ⟨c, rfl, rfl⟩)
        · have e : s = 7 := by omega
          subst e
          obtain ⟨q1, q2⟩ := m2.1 i hp1 hpF
          obtain ⟨q3, q4⟩ := m2.1 j hq1 hqF
          rw [q1, q2, q3, q4, x2.2 i hp1, x2.2 j hq1]
          exact cd
    · have := S1.2.1 i (ht1 i h2)
      exact (D.2.1.2.1 i this h2).ext this x2 (by rw [f2.1 20 (by omega)])
    · have hi := S1.2.1 i (ht2 i j h3).1
      have hj := S1.2.1 j (ht2 i j h3).2
      exact (D.2.1.2.2 i j hi hj h3).ext hi hj x2 (by rw [f2.1 21 (by omega)])
    · rw [x2.2 k1 e1, x2.2 p hp1, x2.2 q hq1]; exact D.2.2
    · rw [kx, x2.2 p hp1, x2.2 q hq1]; rfl)
  have n2120 : n2 ≤ 120 := S2.1.1.2.2.1
  have hk1 : k1 < n2 := by have := x2.1; omega
  rw [pack_n (by omega) (by omega), short_n (by omega), vshort_n (by omega)]
  refine Ok.lt (Ok.some ⟨n2, xs2, z2', W2, ⟨by have := x1.1; have := x2.1; omega, fun i hi => by rw [x2.2 i (by have := x1.1; omega), x1.2 i hi]⟩, ⟨fun i hi hF => ?_, fun i hi => ?_⟩, S2.put (by omega) _ (fun D => ⟨D.1, fun s h1 h2 => (D.2.1.1 s h1 h2).ext ⟨Nat.le_refl _, fun _ _ => rfl⟩ (sI_off (by omega)), fun i h1 h2 => (D.2.1.2.1 i h1 h2).ext h1 ⟨Nat.le_refl _, fun _ _ => rfl⟩ (sI_off (by omega)), fun i j h1 h2 h3 => ?_⟩)⟩)
  · obtain ⟨q1, q2⟩ := m1.1 i hi hF
    obtain ⟨q3, q4⟩ := m2.1 i (by have := x1.1; omega) hF
    exact ⟨q3.trans q1, q4.trans q2⟩
  · obtain ⟨q1, q2⟩ := m1.2 i hi
    obtain ⟨q3, q4⟩ := m2.2 i (by have := x1.1; omega)
    exact ⟨by omega, fun w1 w2 => lq_tr (q4 (by omega) (by omega)) (q2 (by omega) w2)⟩
  · by_cases c : i = p ∧ j = q
    · obtain ⟨rfl, rfl⟩ := c
      exact ⟨k1, k2, hk1, e2, sI_same _ _ _ _, D.2.2.1.2, D.2.2.2⟩
    · have h3 := h3.resolve_right c
      have hi := S2.2.1 i (ht2 i j h3).1
      have hj := S2.2.1 j (ht2 i j h3).2
      exact (D.2.1.2.2 i j hi hj h3).ext hi hj ⟨Nat.le_refl _, fun _ _ => rfl⟩ (sI_slot (by omega))
