/-! alike -/
def gB (g a : Nat) : Int32 := if a &&& g = 0 then 0 else 1
theorem gB01 (g a : Nat) : gB g a = 0 ∨ gB g a = 1 := by
  unfold gB
  by_cases c : a &&& g = 0
  · rw [if_pos c]; exact Or.inl rfl
  · rw [if_neg c]; exact Or.inr rfl
theorem and_lo {a b g : Nat} (ha : a < 64) (hg : g < 64) : (a + 64 * b) &&& g = a &&& g := by
  apply Nat.eq_of_testBit_eq
  intro i
  rw [Nat.testBit_and, Nat.testBit_and]
  by_cases c : i < 6
  · have := bN_lo (a := a) (b := b) ha c
    have e : (a + 64 * b).testBit i = a.testBit i := by
      have h1 := bN_test (a + 64 * b) i
      have h2 := bN_test a i
      rw [this] at h1
      cases h3 : (a + 64 * b).testBit i <;> cases h4 : a.testBit i
      · rfl
      · rw [h3] at h1; rw [h4] at h2; exact absurd (h1.mp (h2.mpr rfl)) (by decide)
      · rw [h3] at h1; rw [h4] at h2; exact absurd (h2.mp (h1.mpr rfl)) (by decide)
      · rfl
    rw [e]
  · have : g.testBit i = false := Nat.testBit_lt_two_pow (Nat.lt_of_lt_of_le hg (Nat.pow_le_pow_right (n := 2) (by omega) (show 6 ≤ i by omega)))
    rw [this]; simp
theorem goodHere_C {σ : Mem} {rl : List Ru} {on on' n p g : Nat} {xs : Nat → PX} (h : PCx σ rl on on' n xs) (hp : p < n) (hg : g < 64) : f_X4_isGoodHere (nI p) (nI g) σ = some (gB g (xs p).1) := by
  have n120 := h.2.2.1
  obtain ⟨x1, x2, x3, _⟩ := h.2.2.2.2.1 p hp
  unfold f_X4_isGoodHere gB
  rw [gd_ix (by omega) (by omega), n_cl (by omega), x3, n_and, show encX (xs p) = (xs p).1 + 64 * (xs p).2 from rfl, and_lo x1 hg]
  have : (xs p).1 &&& g < 2147483648 := Nat.lt_of_le_of_lt Nat.and_le_left (by omega)
  simp only [show (0 : Int32) = nI 0 from rfl, n_eq this (show 0 < 2147483648 by omega)]
  by_cases c : (xs p).1 &&& g = 0
  · rw [if_pos c, if_pos c]
  · rw [if_neg c, if_neg c]
theorem goodThere_C {σ : Mem} {rl : List Ru} {on on' n p g : Nat} {xs : Nat → PX} (h : PCx σ rl on on' n xs) (hp : p < n) (hg : g < 64) : f_X4_isGoodThere (nI p) (nI g) σ = some (gB g (xs p).2) := by
  have n120 := h.2.2.1
  obtain ⟨x1, x2, x3, _⟩ := h.2.2.2.2.1 p hp
  unfold f_X4_isGoodThere gB
  rw [gd_ix (by omega) (by omega), n_cl (by omega), x3, show (6 : Int32) = nI 6 from rfl, show encX (xs p) = (xs p).1 + 64 * (xs p).2 from rfl, n_shr (by omega) (by omega), show ((xs p).1 + 64 * (xs p).2) / 2 ^ 6 = (xs p).2 by omega, n_and]
  have : (xs p).2 &&& g < 2147483648 := Nat.lt_of_le_of_lt Nat.and_le_left (by omega)
  simp only [show (0 : Int32) = nI 0 from rfl, n_eq this (show 0 < 2147483648 by omega)]
  by_cases c : (xs p).2 &&& g = 0
  · rw [if_pos c, if_pos c]
  · rw [if_neg c, if_neg c]
theorem apart_C {σ : Mem} {rl : List Ru} {on on' n p g g' : Nat} {xs : Nat → PX} (h : PCx σ rl on on' n xs) (hp : p < n) (hg : g < 64) (hg' : g' < 64) : f_X4_isApart (nI p) (nI g) (nI g') σ = some (if gB g (xs p).1 = gB g' (xs p).2 then 0 else 1) := by
  unfold f_X4_isApart
  rw [goodHere_C h hp hg, Option.bind_some, goodThere_C h hp hg', Option.bind_some]
  by_cases c : gB g (xs p).1 = gB g' (xs p).2
  · rw [if_pos c, if_pos c]
  · rw [if_neg c, if_neg c]
theorem goodA_R {ρ : Mem} {st : Nat → PX → PX → PX} {n k g : Nat} {xs : Nat → PX} (h : PRx ρ st n xs) (hk : k < n) (hg : ρ.1 7 1 = nI g) (hg2 : g < 64) : f_X9_isGoodA (nI k) ρ = some (gB g (xs k).1) := by
  have n120 := h.2.1
  obtain ⟨x1, x2, x3, x4⟩ := h.2.2.1 k hk
  unfold f_X9_isGoodA gB
  rw [gd_ix (by omega) (by omega), n_cl (by omega), x1, show (1 : Int32).toNatClampNeg = 1 from rfl, hg, n_and]
  have : (xs k).1 &&& g < 2147483648 := Nat.lt_of_le_of_lt Nat.and_le_left (by omega)
  simp only [show (0 : Int32) = nI 0 from rfl, n_eq this (show 0 < 2147483648 by omega)]
  by_cases c : (xs k).1 &&& g = 0
  · rw [if_pos c, if_pos c]
  · rw [if_neg c, if_neg c]
theorem goodB_R {ρ : Mem} {st : Nat → PX → PX → PX} {n k g : Nat} {xs : Nat → PX} (h : PRx ρ st n xs) (hk : k < n) (hg : ρ.1 0 29 = nI g) (hg2 : g < 64) : f_X9_isGoodB (nI k) ρ = some (gB g (xs k).2) := by
  have n120 := h.2.1
  obtain ⟨x1, x2, x3, x4⟩ := h.2.2.1 k hk
  unfold f_X9_isGoodB gB
  rw [gd_ix (by omega) (by omega), n_cl (by omega), x2, hg, n_and]
  have : (xs k).2 &&& g < 2147483648 := Nat.lt_of_le_of_lt Nat.and_le_left (by omega)
  simp only [show (0 : Int32) = nI 0 from rfl, n_eq this (show 0 < 2147483648 by omega)]
  by_cases c : (xs k).2 &&& g = 0
  · rw [if_pos c, if_pos c]
  · rw [if_neg c, if_neg c]
/-- the reference's refusal, or the pairs of both laws -/
theorem refuses_R {A : AS} {ρ : Mem} (h : RepR A ρ) (hA : WfA A) {k o g : Nat} {t : List Nat} (hk : k < 2) (hx : imA A k = some (o, g, t)) : Ok (f_X9_refuses (nI k) 1 ρ) (fun r => RepR A r.2 ∧ r.2.1 0 29 = nI g ∧ ((r.1 = 0 ∧ ∃ n xs, FPok r.2 (stX (rlA A) (onA A) o) n xs) ∨ (r.1 = -3 ∧ Many (stX (rlA A) (onA A) o)))) := by
  obtain ⟨w1, w2, w3⟩ := hA.2.2.2.2.2.2.2 k o g t hx
  have hm := h.2.2.2.1 k hk
  rw [hx] at hm
  obtain ⟨m1, m2⟩ := hm
  have hi : f_X9_in (nI k) 0 1 = 1 := by
    rcases isImage_R (nI k) with ⟨_, _, _, h1⟩ | ⟨hn, h1⟩
    · exact h1
    · exact absurd rfl (hn k hk)
  unfold f_X9_refuses
  rw [if_neg (by decide), hi, if_neg (by decide), gd_ix hk (by omega), n_cl (by omega), m1, if_neg (by decide), show (34 : Int32) * ((1 : Int32) + nI k) = nI (34 * (1 + k)) by rw [show (1 : Int32) = nI 1 from rfl, show (34 : Int32) = nI 34 from rfl, n_add, n_mul]]
  refine Ok.lt ?_
  rw [show nI (34 * (1 + k)) + 0 = nI (34 * (1 + k)) from n_add _ 0, n_suc, gd_ix (by omega) (by omega), gd_ix (by omega) (by omega), n_cl (by omega), n_cl (by omega), m2.1, m2.2.1]
  refine Ok.bind (h.pairs hA w1) ?_
  rintro τ ⟨a, b, n, xs, c, d⟩
  rcases d with ⟨d1, d2⟩ | ⟨d1, d2⟩
  · rw [d1, if_pos rfl]
    exact Ok.some ⟨a, b, Or.inl ⟨rfl, n, xs, d2⟩⟩
  · rw [d1, if_neg (by decide)]
    exact Ok.some ⟨a, b, Or.inr ⟨rfl, d2⟩⟩
theorem refusal_yes {A : AS} {σ : Mem} (h : RepC A σ) {k o g : Nat} {t : List Nat} (hk : k < 2) (hx : imA A k = some (o, g, t)) : f_X8_refusalOf (nI k) σ = some 0 ∧ σ.1 (54 + 6 * k) 1 = nI o ∧ σ.1 (54 + 6 * k) 2 = nI g := by
  have hm := h.2.2.2.2.2.1 k hk
  rw [hx] at hm
  obtain ⟨m1, m2, m3, m4⟩ := hm
  refine ⟨?_, m2, m3⟩
  have hi : f_X8_isImage (nI k) = 1 := by
    rcases isImage_C (nI k) with ⟨_, _, _, h1⟩ | ⟨hn, h1⟩
    · exact h1
    · exact absurd rfl (hn k hk)
  unfold f_X8_refusalOf
  rw [hi, if_neg (by decide), gd_ix hk (by omega), n_cl (by omega), m1, if_neg (by decide)]
theorem refusal_none {A : AS} {σ : Mem} (h : RepC A σ) {k : Nat} (hk : k < 2) (hx : imA A k = none) : f_X8_refusalOf (nI k) σ = some (-2) := by
  have hm := h.2.2.2.2.2.1 k hk
  rw [hx] at hm
  have hm : σ.1 (54 + 6 * k) 0 = 0 := hm
  have hi : f_X8_isImage (nI k) = 1 := by
    rcases isImage_C (nI k) with ⟨_, _, _, h1⟩ | ⟨hn, h1⟩
    · exact h1
    · exact absurd rfl (hn k hk)
  unfold f_X8_refusalOf
  rw [hi, if_neg (by decide), gd_ix hk (by omega), n_cl (by omega), hm, if_pos rfl]
theorem refuses_none {A : AS} {ρ : Mem} (h : RepR A ρ) {k : Nat} (hk : k < 2) (hx : imA A k = none) : f_X9_refuses (nI k) 1 ρ = some (-2, ρ) := by
  have hm := h.2.2.2.1 k hk
  rw [hx] at hm
  have hm : ρ.1 8 k = 0 := hm
  have hi : f_X9_in (nI k) 0 1 = 1 := by
    rcases isImage_R (nI k) with ⟨_, _, _, h1⟩ | ⟨hn, h1⟩
    · exact h1
    · exact absurd rfl (hn k hk)
  unfold f_X9_refuses
  rw [if_neg (by decide), hi, if_neg (by decide), gd_ix hk (by omega), n_cl (by omega), hm, if_pos rfl]
theorem alike_RC {A : AS} {σ ρ : Mem} (h : RepC A σ) (g : RepR A ρ) (hA : WfA A) (hC : CaI σ (rlA A)) (a : Int32) : BothP A σ (f_X8_alike a σ) (f_X9_alike a ρ) := by
  have hgd := hA.2.2.2.2.2.1
  rcases isImage_C a with ⟨k, hk, rfl, h1⟩ | ⟨hn, h1⟩
  · cases hx : imA A k with
    | none =>
      refine ⟨-2, σ, ρ, ?_, ?_, h, g, Or.inl rfl⟩
      · unfold f_X8_alike
        rw [refusal_none h hk hx, Option.bind_some, if_neg (by decide)]
      · unfold f_X9_alike
        rw [refuses_none g hk hx, Option.bind_some, lt_eq]
        exact if_neg (show ¬ (-2 : Int32) = 0 by decide)
    | some y =>
      obtain ⟨o, gg, t⟩ := y
      obtain ⟨w1, w2, w3⟩ := hA.2.2.2.2.2.2.2 k o gg t hx
      obtain ⟨i1, i2, i3⟩ := refusal_yes h hk hx
      obtain ⟨⟨kk, σ'⟩, c1, c2, c3, c4, c5, c6, c7⟩ := pairsWith_C h hA hC w1
      obtain ⟨⟨rv, ρ'⟩, r1, r2, r3, r4⟩ := refuses_R g hA hk hx
      simp only at c2 c3 c4 c5 c6 c7 r2 r3 r4
      have i3' := (refusal_yes c3 hk hx).2.2
      obtain ⟨n, xs, z, W, F, l1, l2⟩ := c4
      have cls : ∀ v, (if σ'.1 9 18 = 0 then ((Lim (T := (Unit ⊕ Unit)) (fun s => b_X8_alike_39 (nI k) s σ') (0 : Int32)).bind (fun r7 => (match r7 with | .inl r7_0 => (some ((0 : Int32), σ')) | .inr r7_1 => (some ((1 : Int32), σ'))))) else (some ((-3 : Int32), σ'))) = some (v, σ') → f_X8_alike (nI k) σ = some (v, σ') := by
        intro v hv
        unfold f_X8_alike
        rw [i1, Option.bind_some, if_pos rfl, gd_ix hk (by omega), n_cl (by omega), i2, c1, Option.bind_some]
        exact hv
      have ref : ∀ v, (if rv = 0 then ((Lim (T := (Unit ⊕ Unit)) (fun s => b_X9_alike_15 (nI k) s ρ') (0 : Int32)).bind (fun r6 => (match r6 with | .inl r6_0 => (some ((0 : Int32), ρ')) | .inr r6_1 => (some ((1 : Int32), ρ'))))) else (some (rv, ρ'))) = some (v, ρ') → f_X9_alike (nI k) ρ = some (v, ρ') := by
        intro v hv
        unfold f_X9_alike
        rw [r1, Option.bind_some]
        exact hv
      have post : σ' = σ ∨ ∃ on', on' < 65536 ∧ LnOk (rlA A) (onA A) on' σ' ∧ σ'.1 9 15 = nI (onA A) ∧ σ'.1 9 16 = nI on' ∧ Lrn σ σ' := Or.inr ⟨o, w1, ⟨n, xs, z, W, F, l1, l2⟩, c5, c6, c7⟩
      rcases l2 with ⟨f0, _, l2⟩ | ⟨f1, l2⟩
      · rcases r4 with ⟨rfl, m, ys, fp⟩ | ⟨rfl, mn⟩
        · -- both lists are full: the same pairs are asked
          have n120 := l1.1.2.2.1
          have m120 := fp.1.2.1
          have loopC : Ok (Lim (T := (Unit ⊕ Unit)) (fun s => b_X8_alike_39 (nI k) s σ') (0 : Int32)) (fun r => (r = .inl () ∧ ∃ x, Rch (stX (rlA A) (onA A) o) x ∧ gB (gdA A) x.1 ≠ gB gg x.2) ∨ (r = .inr () ∧ ∀ x, Rch (stX (rlA A) (onA A) o) x → gB (gdA A) x.1 = gB gg x.2)) := by
            refine Ok.for n (fun p s => s = nI p ∧ ∀ i, i < p → gB (gdA A) (xs i).1 = gB gg (xs i).2) ?_ ?_ 0 (by omega) _ ⟨rfl, fun i hi => by omega⟩
            · rintro p _ hp ⟨rfl, e⟩
              show Ok (b_X8_alike_39 (nI k) (nI p) σ') _
              unfold b_X8_alike_39
              rw [l1.1.2.1.2.2, if_neg (by rw [n_le (by omega) (by omega)]; omega), gd_ix hk (by omega), n_cl (by omega), c3.2.2.2.1.2, i3', apart_C l1.1 hp hgd w2, Option.bind_some]
              by_cases c : gB (gdA A) (xs p).1 = gB gg (xs p).2
              · rw [if_pos c, if_pos rfl]
                refine Ok.lt (Ok.some ⟨n_suc p, fun i hi => ?_⟩)
                by_cases w : i = p
                · rw [w]; exact c
                · exact e i (by omega)
              · rw [if_neg c, if_neg (by decide)]
                exact Ok.some (Or.inl ⟨rfl, xs p, l1.1.2.2.2.1.2 p hp, c⟩)
            · rintro _ ⟨rfl, e⟩
              show Ok (b_X8_alike_39 (nI k) (nI n) σ') _
              unfold b_X8_alike_39
              rw [l1.1.2.1.2.2, if_pos (by rw [n_le (by omega) (by omega)]; omega)]
              refine Ok.some (Or.inr ⟨rfl, fun x hx => ?_⟩)
              obtain ⟨i, i1, i2⟩ := l2.cl.all hx
              rw [← i2]; exact e i i1
          have h71 : ρ'.1 7 1 = nI (gdA A) := r2.2.2.1.2.1
          have loopR : Ok (Lim (T := (Unit ⊕ Unit)) (fun s => b_X9_alike_15 (nI k) s ρ') (0 : Int32)) (fun r => (r = .inl () ∧ ∃ x, Rch (stX (rlA A) (onA A) o) x ∧ gB (gdA A) x.1 ≠ gB gg x.2) ∨ (r = .inr () ∧ ∀ x, Rch (stX (rlA A) (onA A) o) x → gB (gdA A) x.1 = gB gg x.2)) := by
            refine Ok.for m (fun p s => s = nI p ∧ ∀ i, i < p → gB (gdA A) (ys i).1 = gB gg (ys i).2) ?_ ?_ 0 (by omega) _ ⟨rfl, fun i hi => by omega⟩
            · rintro p _ hp ⟨rfl, e⟩
              show Ok (b_X9_alike_15 (nI k) (nI p) ρ') _
              unfold b_X9_alike_15
              rw [fp.1.1, if_neg (by rw [n_le (by omega) (by omega)]; omega), goodA_R fp.1 hp h71 hgd, Option.bind_some, goodB_R fp.1 hp r3 w2, Option.bind_some]
              by_cases c : gB (gdA A) (ys p).1 = gB gg (ys p).2
              · rw [if_pos c]
                refine Ok.lt (Ok.some ⟨n_suc p, fun i hi => ?_⟩)
                by_cases w : i = p
                · rw [w]; exact c
                · exact e i (by omega)
              · rw [if_neg c]
                exact Ok.some (Or.inl ⟨rfl, ys p, fp.1.2.2.2.2 p hp, c⟩)
            · rintro _ ⟨rfl, e⟩
              show Ok (b_X9_alike_15 (nI k) (nI m) ρ') _
              unfold b_X9_alike_15
              rw [fp.1.1, if_pos (by rw [n_le (by omega) (by omega)]; omega)]
              refine Ok.some (Or.inr ⟨rfl, fun x hx => ?_⟩)
              obtain ⟨i, i1, i2⟩ := fp.cl.all hx
              rw [← i2]; exact e i i1
          obtain ⟨x, x1, x2⟩ := loopC
          obtain ⟨y, y1, y2⟩ := loopR
          rcases x2 with ⟨rfl, x2⟩ | ⟨rfl, x2⟩
          · rcases y2 with ⟨rfl, y2⟩ | ⟨rfl, y2⟩
            · exact ⟨0, σ', ρ', cls 0 (by rw [f0, if_pos rfl, x1, Option.bind_some]), ref 0 (by rw [if_pos rfl, y1, Option.bind_some]), c3, r2, post⟩
            · obtain ⟨u, u1, u2⟩ := x2
              exact absurd (y2 u u1) u2
          · rcases y2 with ⟨rfl, y2⟩ | ⟨rfl, y2⟩
            · obtain ⟨u, u1, u2⟩ := y2
              exact absurd (x2 u u1) u2
            · exact ⟨1, σ', ρ', cls 1 (by rw [f0, if_pos rfl, x1, Option.bind_some]), ref 1 (by rw [if_pos rfl, y1, Option.bind_some]), c3, r2, post⟩
        · exact absurd mn (Many.no l2.cl l1.1.2.2.1)
      · rcases r4 with ⟨rfl, m, ys, fp⟩ | ⟨rfl, mn⟩
        · exact absurd l2 (Many.no fp.cl fp.1.2.1)
        · exact ⟨-3, σ', ρ', cls (-3) (by rw [f1, if_neg (by decide)]), ref (-3) (by rw [if_neg (by decide)]), c3, r2, post⟩
  · refine ⟨-1, σ, ρ, ?_, ?_, h, g, Or.inl rfl⟩
    · unfold f_X8_alike f_X8_refusalOf
      rw [h1, if_pos rfl, Option.bind_some, if_neg (by decide)]
    · have e : f_X9_in a 0 1 = 0 := by
        rcases isImage_R a with ⟨k, k1, k2, _⟩ | ⟨_, h1⟩
        · exact absurd k2 (hn k k1)
        · exact h1
      unfold f_X9_alike f_X9_refuses
      rw [if_neg (by decide), e, if_pos rfl, Option.bind_some, lt_eq]
      exact if_neg (show ¬ (-1 : Int32) = 0 by decide)
