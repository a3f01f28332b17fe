/-! the class's pairs: a pair added -/
theorem short_n {m : Nat} (h : m < 32768) : (nI m).toInt16.toInt32 = nI m := by
  rw [← Int32.toInt_inj, Int16.toInt_toInt32, Int32.toInt_toInt16, n_toInt (by omega)]
  unfold Int.bmod
  have e : (m : Int) % (2 ^ 16 : Nat) = m := by omega
  simp only [e]
  rw [if_pos]
  omega
theorem vshort_n {m : Nat} (h : m < 32768) : vp_nar .short (nI m) = nI m := by rw [vp_nar_short, short_n h]
theorem bN_lo {a b f : Nat} (ha : a < 64) (hf : f < 6) : bN (a + 64 * b) f = bN a f := by
  unfold bN
  have e : 64 * b = b * 2 ^ (6 - f) * 2 ^ f := by
    rw [Nat.mul_assoc, ← Nat.pow_add, show 6 - f + f = 6 by omega]
    omega
  have e2 : b * 2 ^ (6 - f) = 2 * (b * 2 ^ (5 - f)) := by
    rw [show 6 - f = (5 - f) + 1 by omega, Nat.pow_succ]
    rw [← Nat.mul_assoc, Nat.mul_comm]
  rw [e, Nat.add_mul_div_right _ _ (Nat.pow_pos (by omega)), e2]
  omega
theorem bN_hi {a b f : Nat} (ha : a < 64) : bN (a + 64 * b) (f + 6) = bN b f := by
  unfold bN
  rw [Nat.pow_add, Nat.mul_comm (2 ^ f), ← Nat.div_div_eq_div_mul, show (a + 64 * b) / 2 ^ 6 = b by omega]
def PCx (σ : Mem) (rl : List Ru) (on on' n : Nat) (xs : Nat → PX) : Prop :=
  LawC σ 29 rl ∧ (σ.1 9 15 = nI on ∧ σ.1 9 16 = nI on' ∧ σ.1 9 17 = nI n) ∧ n ≤ 120 ∧ LsX (stX rl on on') n xs ∧
  (∀ p, p < n → (xs p).1 < 64 ∧ (xs p).2 < 64 ∧ σ.1 10 p = nI (encX (xs p)) ∧ (∃ v, v < 4294967296 ∧ σ.1 11 p = nI v ∧ AfV rl rl.length (xs p) v) ∧ (∃ v, v < 4294967296 ∧ σ.1 12 p = nI v ∧ AsV rl rl.length (xs p) v) ∧ σ.1 18 (encX (xs p)) = nI (p + 1)) ∧
  (∀ b, b < 4096 → (∀ p, p < n → encX (xs p) ≠ b) → σ.1 18 b = 0) ∧
  (∀ s, s < 8 → ∃ v, v < 4294967296 ∧ σ.1 19 s = nI v ∧ RoV rl on on' s v)
theorem or32 {a b : Nat} (ha : a < 4294967296) (hb : b < 4294967296) : a ||| b < 4294967296 := Nat.or_lt_two_pow (n := 32) ha hb
/-- a rule's bits, here and there -/
theorem ruleBits_C {x : PX} {f k : Nat} (h1 : x.1 < 64) (h2 : x.2 < 64) (hf : f < 6) (hk : k < 16) : f_X4_ruleBits (nI (encX x)) (nI f) (nI k) = nI (bN x.1 f * 2 ^ k ||| bN x.2 f * 2 ^ (k + 16)) ∧ (bN x.1 f * 2 ^ k ||| bN x.2 f * 2 ^ (k + 16)) < 4294967296 := by
  have he : encX x < 4294967296 := by unfold encX; omega
  have b1 := bN_lt x.1 f
  have b2 := bN_lt x.2 f
  have p1 : 2 ^ k < 2 ^ 16 := Nat.pow_lt_pow_right (by omega) hk
  have p2 : 2 ^ (k + 16) < 2 ^ 32 := Nat.pow_lt_pow_right (by omega) (by omega)
  have q1 : bN x.1 f * 2 ^ k < 4294967296 := by rcases (show bN x.1 f = 0 ∨ bN x.1 f = 1 by omega) with w | w <;> rw [w] <;> omega
  have q2 : bN x.2 f * 2 ^ (k + 16) < 4294967296 := by rcases (show bN x.2 f = 0 ∨ bN x.2 f = 1 by omega) with w | w <;> rw [w] <;> omega
  refine ⟨?_, or32 q1 q2⟩
  unfold f_X4_ruleBits
  rw [n_6, n_16, bit32 he (by omega), bit32 he (by omega), show encX x = x.1 + 64 * x.2 from rfl, bN_lo h1 hf, bN_hi h1, n_shl (by omega) q1, n_shl (by omega) q2, n_or]
theorem AfV.step {rl : List Ru} {x : PX} {u k : Nat} (h : AfV rl k x u) (hk : k < 16) (ha : 1 ≤ armsN (ruA rl k).1) : AfV rl (k + 1) x (u ||| (bN x.1 (ruA rl k).2.1 * 2 ^ k ||| bN x.2 (ruA rl k).2.1 * 2 ^ (k + 16))) := by
  intro j hj
  obtain ⟨h1, h2⟩ := h j hj
  rw [bN_or, bN_or, bN_or, bN_or, bN_shl (bN_lt _ _), bN_shl (bN_lt _ _), bN_shl (bN_lt _ _), bN_shl (bN_lt _ _), h1, h2]
  constructor
  · constructor
    · rintro (⟨a, b, c⟩ | ⟨a, b⟩ | ⟨a, b⟩)
      · exact ⟨by omega, b, c⟩
      · subst b; exact ⟨by omega, ha, a⟩
      · omega
    · rintro ⟨a, b, c⟩
      by_cases e : j = k
      · subst e; exact Or.inr (Or.inl ⟨c, rfl⟩)
      · exact Or.inl ⟨by omega, b, c⟩
  · constructor
    · rintro (⟨a, b, c⟩ | ⟨a, b⟩ | ⟨a, b⟩)
      · exact ⟨by omega, b, c⟩
      · omega
      · have b : j = k := by omega
        subst b; exact ⟨by omega, ha, a⟩
    · rintro ⟨a, b, c⟩
      by_cases e : j = k
      · subst e; exact Or.inr (Or.inr ⟨c, rfl⟩)
      · exact Or.inl ⟨by omega, b, c⟩
theorem AfV.skip {rl : List Ru} {x : PX} {u k : Nat} (h : AfV rl k x u) (ha : ¬ 1 ≤ armsN (ruA rl k).1) : AfV rl (k + 1) x u := by
  intro j hj
  obtain ⟨h1, h2⟩ := h j hj
  rw [h1, h2]
  have key : ∀ P : Prop, (j < k ∧ 1 ≤ armsN (ruA rl j).1 ∧ P) ↔ (j < k + 1 ∧ 1 ≤ armsN (ruA rl j).1 ∧ P) := by
    intro P
    constructor
    · rintro ⟨a, b, c⟩; exact ⟨by omega, b, c⟩
    · rintro ⟨a, b, c⟩
      refine ⟨?_, b, c⟩
      by_cases e : j = k
      · subst e; exact absurd b ha
      · omega
  exact ⟨key _, key _⟩
theorem AsV.step {rl : List Ru} {x : PX} {u k : Nat} (h : AsV rl k x u) (hk : k < 16) (ha : 2 ≤ armsN (ruA rl k).1) : AsV rl (k + 1) x (u ||| (bN x.1 (ruA rl k).2.2.1 * 2 ^ k ||| bN x.2 (ruA rl k).2.2.1 * 2 ^ (k + 16))) := by
  intro j hj
  obtain ⟨h1, h2⟩ := h j hj
  rw [bN_or, bN_or, bN_or, bN_or, bN_shl (bN_lt _ _), bN_shl (bN_lt _ _), bN_shl (bN_lt _ _), bN_shl (bN_lt _ _), h1, h2]
  constructor
  · constructor
    · rintro (⟨a, b, c⟩ | ⟨a, b⟩ | ⟨a, b⟩)
      · exact ⟨by omega, b, c⟩
      · subst b; exact ⟨by omega, ha, a⟩
      · omega
    · rintro ⟨a, b, c⟩
      by_cases e : j = k
      · subst e; exact Or.inr (Or.inl ⟨c, rfl⟩)
      · exact Or.inl ⟨by omega, b, c⟩
  · constructor
    · rintro (⟨a, b, c⟩ | ⟨a, b⟩ | ⟨a, b⟩)
      · exact ⟨by omega, b, c⟩
      · omega
      · have b : j = k := by omega
        subst b; exact ⟨by omega, ha, a⟩
    · rintro ⟨a, b, c⟩
      by_cases e : j = k
      · subst e; exact Or.inr (Or.inr ⟨c, rfl⟩)
      · exact Or.inl ⟨by omega, b, c⟩
theorem AsV.skip {rl : List Ru} {x : PX} {u k : Nat} (h : AsV rl k x u) (ha : ¬ 2 ≤ armsN (ruA rl k).1) : AsV rl (k + 1) x u := by
  intro j hj
  obtain ⟨h1, h2⟩ := h j hj
  rw [h1, h2]
  have key : ∀ P : Prop, (j < k ∧ 2 ≤ armsN (ruA rl j).1 ∧ P) ↔ (j < k + 1 ∧ 2 ≤ armsN (ruA rl j).1 ∧ P) := by
    intro P
    constructor
    · rintro ⟨a, b, c⟩; exact ⟨by omega, b, c⟩
    · rintro ⟨a, b, c⟩
      refine ⟨?_, b, c⟩
      by_cases e : j = k
      · subst e; exact absurd b ha
      · omega
  exact ⟨key _, key _⟩
theorem AfV.zero {rl : List Ru} {x : PX} : AfV rl 0 x 0 := fun j _ => by rw [bN_zero, bN_zero]; exact ⟨⟨fun z => absurd z (by omega), fun z => by omega⟩, ⟨fun z => absurd z (by omega), fun z => by omega⟩⟩
theorem AsV.zero {rl : List Ru} {x : PX} : AsV rl 0 x 0 := fun j _ => by rw [bN_zero, bN_zero]; exact ⟨⟨fun z => absurd z (by omega), fun z => by omega⟩, ⟨fun z => absurd z (by omega), fun z => by omega⟩⟩
/-- the rows of the new pair's rule bits -/
theorem add56_C {σ : Mem} {rl : List Ru} {x : PX} {n : Nat} (hL : LawC σ 29 rl) (hrl : ∀ r ∈ rl, OkRu r) (hll : rl.length ≤ 16) (h1 : x.1 < 64) (h2 : x.2 < 64) (hn : n < 120) (z1' : σ.1 11 n = nI 0) (z2' : σ.1 12 n = nI 0) : Ok (Lim (T := Mem) (fun s => b_X4_add_56 (nI (encX x)) s.1 s.2.1 s.2.2) (nI n, (0 : Int32), σ)) (fun τ => (∃ v, v < 4294967296 ∧ τ.1 11 n = nI v ∧ AfV rl rl.length x v) ∧ (∃ v, v < 4294967296 ∧ τ.1 12 n = nI v ∧ AsV rl rl.length x v) ∧ (∀ o, o ≠ 11 → o ≠ 12 → τ.1 o = σ.1 o) ∧ (∀ o p, p ≠ n → τ.1 o p = σ.1 o p) ∧ τ.2 = σ.2) := by
  refine Ok.for rl.length (fun k s => s.1 = nI n ∧ s.2.1 = nI k ∧ (∃ v, v < 4294967296 ∧ s.2.2.1 11 n = nI v ∧ AfV rl k x v) ∧ (∃ v, v < 4294967296 ∧ s.2.2.1 12 n = nI v ∧ AsV rl k x v) ∧ (∀ o, o ≠ 11 → o ≠ 12 → s.2.2.1 o = σ.1 o) ∧ (∀ o p, p ≠ n → s.2.2.1 o p = σ.1 o p) ∧ s.2.2.2 = σ.2) ?_ ?_ 0 (by omega) _ ⟨rfl, rfl, ⟨0, by omega, z1', AfV.zero⟩, ⟨0, by omega, z2', AsV.zero⟩, fun _ _ _ => rfl, fun _ _ _ => rfl, rfl⟩
  · rintro k ⟨v2, v3, τ⟩ hk ⟨e1, e2, ⟨u, u1, u2, u3⟩, ⟨w, w1, w2, w3⟩, e5, e6, e7⟩
    simp only at e1 e2 u2 w2 e5 e6 e7
    subst e1 e2
    show Ok (b_X4_add_56 (nI (encX x)) (nI n) (nI k) τ) _
    have hL' : LawC τ 29 rl := hL.cg (fun o o1 o2 => e5 o (by omega) (by omega))
    obtain ⟨m1, m2, m3, m4⟩ := hL'.2 k hk
    obtain ⟨r1, r2, r3, r4⟩ := ruL_ok hrl hk
    have ha := armsN_le (ruA rl k).1
    -- the second arm, after the first
    have snd : ∀ υ : Mem, (∃ v, v < 4294967296 ∧ υ.1 11 n = nI v ∧ AfV rl (k + 1) x v) → υ.1 12 n = nI w → (∀ o, o ≠ 11 → υ.1 o = τ.1 o) → (∀ o p, p ≠ n → υ.1 o p = τ.1 o p) → υ.2 = τ.2 → Ok (j_X4_add_105 (nI (encX x)) (nI n) (nI k) υ) (SumP (fun s => s.1 = nI n ∧ s.2.1 = nI (k + 1) ∧ (∃ v, v < 4294967296 ∧ s.2.2.1 11 n = nI v ∧ AfV rl (k + 1) x v) ∧ (∃ v, v < 4294967296 ∧ s.2.2.1 12 n = nI v ∧ AsV rl (k + 1) x v) ∧ (∀ o, o ≠ 11 → o ≠ 12 → s.2.2.1 o = σ.1 o) ∧ (∀ o p, p ≠ n → s.2.2.1 o p = σ.1 o p) ∧ s.2.2.2 = σ.2) (fun τ => (∃ v, v < 4294967296 ∧ τ.1 11 n = nI v ∧ AfV rl rl.length x v) ∧ (∃ v, v < 4294967296 ∧ τ.1 12 n = nI v ∧ AsV rl rl.length x v) ∧ (∀ o, o ≠ 11 → o ≠ 12 → τ.1 o = σ.1 o) ∧ (∀ o p, p ≠ n → τ.1 o p = σ.1 o p) ∧ τ.2 = σ.2)) := by
      intro υ y1 y2 y3 y4 y5
      unfold j_X4_add_105 j_X4_add_144
      rw [y3 (29 + 1) (by omega), y3 (29 + 3) (by omega), gd_ix (by omega) (by omega)]
      simp only [n_cl (show k < 2147483648 by omega), n_cl (show n < 2147483648 by omega), m1, m3, arms_C (show (ruA rl k).1 < 2147483648 by omega), gd_ix (show n < 120 by omega) (by omega), gd_ix (show k < 16 by omega) (by omega), y2]
      by_cases c : armsN (ruA rl k).1 ≤ 1
      · rw [if_pos (by rw [show (1 : Int32) = nI 1 from rfl, n_le (by omega) (by omega)]; exact c)]
        exact Ok.lt (Ok.some ⟨rfl, n_suc k, y1, ⟨w, w1, y2, w3.skip (by omega)⟩, fun o o1 o2 => (y3 o o1).trans (e5 o o1 o2), fun o p hp => (y4 o p hp).trans (e6 o p hp), y5.trans e7⟩)
      · obtain ⟨g1, g2⟩ := ruleBits_C (k := k) h1 h2 r3 (by omega)
        rw [if_neg (by rw [show (1 : Int32) = nI 1 from rfl, n_le (by omega) (by omega)]; exact c), armV_yes (by omega), g1, n_or]
        obtain ⟨q, q1, q2, q3⟩ := y1
        refine Ok.lt (Ok.lt (Ok.some ⟨rfl, n_suc k, ⟨q, q1, ?_, q3⟩, ⟨_, or32 w1 g2, sI_same _ _ _ _, w3.step (by omega) (by omega)⟩, fun o o1 o2 => ?_, fun o p hp => ?_, y5.trans e7⟩))
        · rw [sI_off (by omega)]; exact q2
        · rw [sI_o o2]; exact (y3 o o1).trans (e5 o o1 o2)
        · rw [sI_get, if_neg (fun z => hp z.2)]; exact (y4 o p hp).trans (e6 o p hp)
    unfold b_X4_add_56
    rw [hL'.1, if_neg (by rw [n_le (by omega) (by omega)]; omega), gd_ix (by omega) (by omega)]
    simp only [n_cl (show k < 2147483648 by omega), n_cl (show n < 2147483648 by omega), m1, m2, arms_C (show (ruA rl k).1 < 2147483648 by omega), gd_ix (show n < 120 by omega) (by omega), gd_ix (show k < 16 by omega) (by omega), u2]
    by_cases c : armsN (ruA rl k).1 ≤ 0
    · rw [if_pos (by rw [show (0 : Int32) = nI 0 from rfl, n_le (by omega) (by omega)]; exact c)]
      exact snd τ ⟨u, u1, u2, u3.skip (by omega)⟩ w2 (fun _ _ => rfl) (fun _ _ _ => rfl) rfl
    · obtain ⟨g1, g2⟩ := ruleBits_C (k := k) h1 h2 r2 (by omega)
      rw [if_neg (by rw [show (0 : Int32) = nI 0 from rfl, n_le (by omega) (by omega)]; exact c), armV_yes (by omega), g1, n_or]
      refine Ok.lt (snd _ ⟨_, or32 u1 g2, sI_same _ _ _ _, u3.step (by omega) (by omega)⟩ ?_ (fun o ho => sI_o ho) (fun o p hp => ?_) rfl)
      · rw [sI_off (by omega)]; exact w2
      · rw [sI_get, if_neg (fun z => hp z.2)]
  · rintro ⟨v2, v3, τ⟩ ⟨e1, e2, e3, e4, e5, e6, e7⟩
    simp only at e1 e2 e3 e4 e5 e6 e7
    subst e1 e2
    show Ok (b_X4_add_56 (nI (encX x)) (nI n) (nI rl.length) τ) _
    unfold b_X4_add_56
    rw [e5 29 (by omega) (by omega), hL.1, if_pos (by rw [n_le (by omega) (by omega)]; omega)]
    exact Ok.some ⟨e3, e4, e5, e6, e7⟩
