/-! the class: a round of learning -/
theorem near_C {σ : Mem} {rl : List Ru} {on on' n : Nat} {xs : Nat → PX} {z : Nat → Nat} {W : Nat → List Nat} {F : Nat → Bool} (h : LrI σ rl on on' n xs z W F) : Ok (f_X4_nearest σ) (fun v => (v = -1 ∧ ∀ p, p < n → F p = true) ∨ (∃ p, p < n ∧ v = nI p ∧ F p = false ∧ ∀ q, q < n → F q = false → z p ≤ z q)) := by
  have n120 : n ≤ 120 := h.1.2.2.1
  have rcd : ∀ i, i < n → σ.1 13 i = nI (z i) ∧ z i ≤ 32 ∧ σ.1 17 i = (if F i = true then 1 else 0) := by
    intro i hi
    obtain ⟨_, _, _, _, k1, _, _, _, k3, _, k2, _, _, _⟩ := h.2 i hi
    exact ⟨k1, by omega, k3⟩
  unfold f_X4_nearest
  refine Ok.bind (P := fun v => (v = -1 ∧ ∀ p, p < n → F p = true) ∨ (∃ p, p < n ∧ v = nI p ∧ F p = false ∧ ∀ q, q < n → F q = false → z p ≤ z q)) ?_ (fun v hv => Ok.some hv)
  refine Ok.for n (fun m st => st.2 = nI m ∧ ((st.1 = -1 ∧ ∀ p, p < m → F p = true) ∨ (∃ p, p < m ∧ st.1 = nI p ∧ F p = false ∧ ∀ q, q < m → F q = false → z p ≤ z q))) ?_ ?_ 0 (by omega) _ ⟨rfl, Or.inl ⟨rfl, fun p hp => by omega⟩⟩
  · rintro m ⟨v1, v2⟩ hm ⟨e1, e2⟩
    simp only at e1 e2
    subst e1
    show Ok (b_X4_nearest_4 v1 (nI m) σ) _
    obtain ⟨r1, r2, r3⟩ := rcd m hm
    unfold b_X4_nearest_4 j_X4_nearest_40 j_X4_nearest_42
    rw [h.1.2.1.2.2, if_neg (by rw [n_le (by omega) (by omega)]; omega), gd_ix (by omega) (by omega)]
    simp only [n_cl (show m < 2147483648 by omega)]
    cases hF : F m with
    | true =>
      have r31 : σ.1 17 m = 1 := by rw [r3, hF]; rfl
      rw [r31, if_neg (by decide)]
      refine Ok.lt (Ok.some ⟨n_suc m, ?_⟩)
      rcases e2 with ⟨a, b⟩ | ⟨p, a, b, c, d⟩
      · refine Or.inl ⟨a, fun p hp => ?_⟩
        by_cases e : p = m
        · rw [e]; exact hF
        · exact b p (by omega)
      · refine Or.inr ⟨p, by omega, b, c, fun q hq hqF => ?_⟩
        by_cases e : q = m
        · rw [e, hF] at hqF; exact absurd hqF (by decide)
        · exact d q (by omega) hqF
    | false =>
      have r30 : σ.1 17 m = 0 := by rw [r3, hF]; rfl
      rw [r30, if_pos rfl]
      rcases e2 with ⟨a, b⟩ | ⟨p, a, b, c, d⟩
      · subst a
        rw [if_pos (by decide)]
        refine Ok.lt (Ok.some ⟨n_suc m, Or.inr ⟨m, by omega, rfl, hF, fun q hq hqF => ?_⟩⟩)
        by_cases e : q = m
        · rw [e]; exact Nat.le_refl _
        · rw [b q (by omega)] at hqF; exact absurd hqF (by decide)
      · subst b
        obtain ⟨s1, s2, s3⟩ := rcd p (by omega)
        rw [if_neg (not_n0 (by omega)), gd_ix (by omega) (by omega), gd_ix (by omega) (by omega)]
        simp only [n_cl (show p < 2147483648 by omega), s1, r1, n_le (show z p < 2147483648 by omega) (show z m < 2147483648 by omega)]
        by_cases cc : z p ≤ z m
        · rw [if_pos cc]
          refine Ok.lt (Ok.some ⟨n_suc m, Or.inr ⟨p, by omega, rfl, c, fun q hq hqF => ?_⟩⟩)
          by_cases e : q = m
          · rw [e]; exact cc
          · exact d q (by omega) hqF
        · rw [if_neg cc]
          refine Ok.lt (Ok.some ⟨n_suc m, Or.inr ⟨m, by omega, rfl, hF, fun q hq hqF => ?_⟩⟩)
          by_cases e : q = m
          · rw [e]; exact Nat.le_refl _
          · have := d q (by omega) hqF
            omega
  · rintro ⟨v1, v2⟩ ⟨e1, e2⟩
    simp only at e1 e2
    subst e1
    show Ok (b_X4_nearest_4 v1 (nI n) σ) _
    unfold b_X4_nearest_4
    rw [h.1.2.1.2.2, if_pos (by rw [n_le (by omega) (by omega)]; omega)]
    exact Ok.some e2
/-- p made final -/
def upF (F : Nat → Bool) (p : Nat) : Nat → Bool := fun i => if i = p then true else F i
theorem upF_yes (F : Nat → Bool) (p : Nat) : upF F p p = true := if_pos rfl
theorem upF_of {F : Nat → Bool} {p i : Nat} (h : F i = true) : upF F p i = true := by
  unfold upF
  by_cases c : i = p
  · rw [if_pos c]
  · rw [if_neg c]; exact h
theorem upF_ne {F : Nat → Bool} {p i : Nat} (h : upF F p i = true) (hi : i ≠ p) : F i = true := by
  unfold upF at h
  rw [if_neg hi] at h
  exact h
theorem ShA.up {n s p : Nat} {F : Nat → Bool} {o1 o2 : Option Nat} (h : ShA n F s o1 o2) : ShA n (upF F p) s o1 o2 := by
  rcases h with h | ⟨a0, ⟨i, i1, i2, i3⟩, h2⟩ | ⟨a0, ⟨i, i1, i2, i3⟩, ⟨j, j1, j2, j3⟩⟩
  · exact Or.inl h
  · exact Or.inr (Or.inl ⟨a0, ⟨i, i1, upF_of i2, i3⟩, h2⟩)
  · exact Or.inr (Or.inr ⟨a0, ⟨i, i1, upF_of i2, i3⟩, ⟨j, j1, upF_of j2, j3⟩⟩)
/-- all candidates over final pairs are seen, all their tables written -/
def Done (σ : Mem) (st : Nat → PX → PX → PX) (n : Nat) (xs : Nat → PX) (z : Nat → Nat) (W : Nat → List Nat) (F : Nat → Bool) : Prop := CdS st n xs z W F (fun _ => True) (fun _ _ => True) (fun _ _ _ => True) ∧ TbC σ st n xs (fun _ => True) (fun p => F p = true) (fun p q => F p = true ∧ F q = true)
theorem final_C {rl : List Ru} {on on' n p : Nat} {σ0 σ : Mem} {xs : Nat → PX} {z : Nat → Nat} {W : Nat → List Nat} {F : Nat → Bool} (hS : SeC rl on on' σ0 σ n xs z W F (Done σ (stX rl on on') n xs z W F)) (fl : σ.1 9 18 = 0) (hp : p < n) (hpF : F p = false) (hn : ∀ q, q < n → F q = false → z p ≤ z q) : SeC rl on on' σ0 (sI σ 17 p 1) n xs z W (upF F p) (CdS (stX rl on on') n xs z W (upF F p) (fun _ => True) (fun _ i => i ≠ p) (fun _ i j => i ≠ p ∧ j ≠ p) ∧ TbC (sI σ 17 p 1) (stX rl on on') n xs (fun _ => True) (fun i => F i = true) (fun i j => F i = true ∧ F j = true)) := by
  obtain ⟨⟨⟨hL, ⟨p15, p16, p17⟩, pn, ls, ent, num, ro⟩, rc⟩, h2, h3, h4, h5⟩ := hS
  rcases h5 with ⟨_, dn⟩ | ⟨w, _⟩
  · have least : Lst (stX rl on on') (xs p) (z p) (W p) := by
      refine nearest_least (F := fun i => F i = true) ls.1 h3 (fun s hs => dn.1.1 s hs trivial) (fun s i a b c d => dn.1.2.1 s i a b c d trivial) (fun s i j a b c d e f => dn.1.2.2 s i j a b c d e f trivial) hp (by rw [hpF]; decide) (fun q hq hqF => hn q hq (by simpa using hqF))
    refine ⟨⟨⟨hL.cg (fun q q1 q2 => sI_o (by omega)), ⟨?_, ?_, ?_⟩, pn, ls, ?_, ?_, ?_⟩, fun i hi => ?_⟩, fun i hi => ?_, fun i hi hF => ?_, ⟨fun q hq => ?_, h4.2⟩, Or.inl ⟨?_, ⟨dn.1.1, fun s i a b c d e => dn.1.2.1 s i a b c (upF_ne d e) trivial, fun s i j a b c d e f g => dn.1.2.2 s i j a b c d (upF_ne e g.1) (upF_ne f g.2) trivial⟩, ?_, ?_, ?_⟩⟩
    · rw [sI_off (by omega)]; exact p15
    · rw [sI_off (by omega)]; exact p16
    · rw [sI_off (by omega)]; exact p17
    · rw [sI_o (by omega), sI_o (by omega), sI_o (by omega), sI_o (by omega)]; exact ent
    · rw [sI_o (by omega)]; exact num
    · rw [sI_o (by omega)]; exact ro
    · obtain ⟨s', p1, p2, b1, b2, b3, b4, b5, b6, b7, b8⟩ := rc i hi
      refine ⟨s', p1, p2, b1, ?_, ?_, ?_, ?_, ?_, b7.up, b8⟩
      · rw [sI_off (by omega)]; exact b2
      · rw [sI_off (by omega)]; exact b3
      · rw [sI_off (by omega)]; exact b4
      · rw [sI_off (by omega)]; exact b5
      · by_cases c : i = p
        · subst c
          rw [upF_yes, if_pos rfl]; exact sI_same _ _ _ _
        · rw [sI_slot c, b6]
          unfold upF
          rw [if_neg c]
    · by_cases c : i = p
      · omega
      · exact h2 i (upF_ne hi c)
    · by_cases c : i = p
      · rw [c]; exact least
      · exact h3 i hi (upF_ne hF c)
    · rw [sI_o (by omega)]; exact h4.1 q hq
    · rw [sI_off (by omega)]; exact fl
    · exact fun s h1 h2 => (dn.2.1 s h1 h2).ext ⟨Nat.le_refl _, fun _ _ => rfl⟩ (sI_off (by omega))
    · exact fun i h1 h2 => (dn.2.2.1 i h1 h2).ext h1 ⟨Nat.le_refl _, fun _ _ => rfl⟩ (sI_off (by omega))
    · exact fun i j h1 h2 h3 => (dn.2.2.2 i j h1 h2 h3).ext h1 h2 ⟨Nat.le_refl _, fun _ _ => rfl⟩ (sI_off (by omega))
  · rw [fl] at w; exact absurd w (by decide)
/-- p joined with all final pairs -/
theorem joins_C {rl : List Ru} {on on' n p t1' : Nat} {σ0 σ : Mem} {xs : Nat → PX} {z : Nat → Nat} {W : Nat → List Nat} {F : Nat → Bool} {a2 a3 v4 : Int32} (hrl : ∀ r ∈ rl, OkRu r) (hll : rl.length ≤ 16) (hp : p < n) (hpF : F p = true) (hS : SeC rl on on' σ0 σ n xs z W F (CdS (stX rl on on') n xs z W F (fun _ => True) (fun _ _ => True) (fun _ i j => i ≠ p ∧ j ≠ p) ∧ TbC σ (stX rl on on') n xs (fun _ => True) (fun i => F i = true) (fun i j => F i = true ∧ F j = true ∧ i ≠ p ∧ j ≠ p))) : Ok (Lim (T := (Int32 × Mem)) (fun s => b_X4_learn_147 t1' a2 a3 s.1 s.2.1 s.2.2.1 s.2.2.2) (v4, nI p, (0 : Int32), σ)) (fun r => r.1 = v4 ∧ ∃ n' xs' z' W', ExX n xs n' xs' ∧ MonO n F z W z' W' ∧ SeC rl on on' σ0 r.2 n' xs' z' W' F (Done r.2 (stX rl on on') n' xs' z' W' F)) := by
  refine Ok.wf (fun m st => ∃ q n' xs' z' W', q + m = 120 ∧ st.1 = v4 ∧ st.2.1 = nI p ∧ st.2.2.1 = nI q ∧ q ≤ n' ∧ ExX n xs n' xs' ∧ MonO n F z W z' W' ∧ SeC rl on on' σ0 st.2.2.2 n' xs' z' W' F (CdS (stX rl on on') n' xs' z' W' F (fun _ => True) (fun _ _ => True) (fun _ i j => (i ≠ p ∧ j ≠ p) ∨ (i = p ∧ j < q) ∨ (j = p ∧ i < q)) ∧ TbC st.2.2.2 (stX rl on on') n' xs' (fun _ => True) (fun i => F i = true) (fun i j => F i = true ∧ F j = true ∧ ((i ≠ p ∧ j ≠ p) ∨ (i = p ∧ j < q) ∨ (j = p ∧ i < q))))) ?_ 120 _ ⟨0, n, xs, z, W, by omega, rfl, rfl, rfl, by omega, ⟨Nat.le_refl _, fun _ _ => rfl⟩, ⟨fun _ _ _ => ⟨rfl, rfl⟩, fun _ _ => ⟨Nat.le_refl _, fun _ _ => Or.inl rfl⟩⟩, hS.wk (fun D => ⟨⟨D.1.1, D.1.2.1, fun s i j a b c d e f g => D.1.2.2 s i j a b c d e f (g.resolve_right (by omega))⟩, D.2.1, D.2.2.1, fun i j a b g => D.2.2.2 i j a b ⟨g.1, g.2.1, g.2.2.resolve_right (by omega)⟩⟩)⟩
  rintro m ⟨w4, w5, w8, τ⟩ ⟨q, n1, xs1, z1', W1, e1, e2, e3, e4, e5, x1, m1, S1⟩
  simp only at e2 e3 e4 S1
  subst e2 e3 e4
  show Ok (b_X4_learn_147 t1' a2 a3 w4 (nI p) (nI q) τ) _
  have n120 : n1 ≤ 120 := S1.1.1.2.2.1
  have hp1 : p < n1 := by have := x1.1; omega
  unfold b_X4_learn_147
  rw [S1.1.1.2.1.2.2]
  by_cases c : n1 ≤ q
  · rw [if_pos (by rw [n_le (by omega) (by omega)]; exact c)]
    refine Ok.some ⟨rfl, n1, xs1, z1', W1, x1, m1, S1.wk (fun D => ⟨⟨D.1.1, D.1.2.1, fun s i j a b c d e f _ => D.1.2.2 s i j a b c d e f (by omega)⟩, D.2.1, D.2.2.1, fun i j a b g => D.2.2.2 i j a b ⟨g.1, g.2, by omega⟩⟩)⟩
  · rw [if_neg (by rw [n_le (by omega) (by omega)]; exact c)]
    rcases S1.2.2.2.2 with ⟨fl, D⟩ | ⟨fl, mn⟩
    · rw [fl, if_pos rfl, gd_ix (by omega) (by omega), n_cl (by omega)]
      obtain ⟨_, _, _, _, _, _, _, _, r17, _⟩ := S1.1.2 q (by omega)
      unfold j_X4_learn_189
      cases hqF : F q with
      | false =>
        have r170 : τ.1 17 q = 0 := by rw [r17, hqF]; rfl
        rw [r170, if_pos rfl]
        refine Ok.lt (Ok.some ⟨m - 1, by omega, q + 1, n1, xs1, z1', W1, by omega, rfl, rfl, n_suc q, by omega, x1, m1, S1.wk (fun D => ⟨⟨D.1.1, D.1.2.1, fun s i j a b c d e f g => D.1.2.2 s i j a b c d e f ?_⟩, D.2.1, D.2.2.1, fun i j a b g => D.2.2.2 i j a b ⟨g.1, g.2.1, ?_⟩⟩)⟩)
        · have ni : i ≠ q := fun w => by rw [w, hqF] at e; exact absurd e (by decide)
          have nj : j ≠ q := fun w => by rw [w, hqF] at f; exact absurd f (by decide)
          omega
        · have ni : i ≠ q := fun w => by have := g.1; rw [w, hqF] at this; exact absurd this (by decide)
          have nj : j ≠ q := fun w => by have := g.2.1; rw [w, hqF] at this; exact absurd this (by decide)
          have := g.2.2
          omega
      | true =>
        have r171 : τ.1 17 q = 1 := by rw [r17, hqF]; rfl
        rw [r171, if_neg (by decide)]
        refine Ok.bind (join_C hrl hll hp1 (by omega) hpF hqF S1 (fun i h => h) (fun i j h => ⟨h.1, h.2.1⟩)) ?_
        rintro υ ⟨n2, xs2, z2', W2, x2, m2, S2⟩
        have hp2 : p < n2 := by have := x2.1; omega
        have hq2 : q < n2 := by have := x2.1; omega
        refine Ok.bind (join_C hrl hll hq2 hp2 hqF hpF S2 (fun i h => h) (fun i j h => ?_)) ?_
        · rcases h with h | ⟨h1, h2⟩
          · exact ⟨h.1, h.2.1⟩
          · rw [h1, h2]; exact ⟨hpF, hqF⟩
        · rintro ω ⟨n3, xs3, z3', W3, x3, m3, S3⟩
          refine Ok.lt (Ok.some ⟨m - 1, by omega, q + 1, n3, xs3, z3', W3, by omega, rfl, rfl, n_suc q, by have := x3.1; omega, ⟨by have := x1.1; have := x2.1; have := x3.1; omega, fun i hi => ?_⟩, ⟨fun i hi hF => ?_, fun i hi => ?_⟩, S3.wk (fun D => ⟨⟨D.1.1, D.1.2.1, fun s i j a b c d e f g => D.1.2.2 s i j a b c d e f ?_⟩, D.2.1, D.2.2.1, fun i j a b g => D.2.2.2 i j a b ?_⟩)⟩)
          · rw [x3.2 i (by have := x1.1; have := x2.1; omega), x2.2 i (by have := x1.1; omega), x1.2 i hi]
          · obtain ⟨q1, q2⟩ := m1.1 i hi hF
            obtain ⟨q3, q4⟩ := m2.1 i (by have := x1.1; omega) hF
            obtain ⟨q5, q6⟩ := m3.1 i (by have := x1.1; have := x2.1; omega) hF
            exact ⟨(q5.trans q3).trans q1, (q6.trans q4).trans q2⟩
          · obtain ⟨q1, q2⟩ := m1.2 i hi
            obtain ⟨q3, q4⟩ := m2.2 i (by have := x1.1; omega)
            obtain ⟨q5, q6⟩ := m3.2 i (by have := x1.1; have := x2.1; omega)
            exact ⟨by omega, fun w1 w2 => lq_tr (q6 (by omega) (by omega)) (lq_tr (q4 (by omega) (by omega)) (q2 (by omega) w2))⟩
          · rcases g with g | ⟨g1, g2⟩ | ⟨g1, g2⟩
            · exact Or.inl (Or.inl (Or.inl g))
            · by_cases w : j = q
              · exact Or.inl (Or.inr ⟨g1, w⟩)
              · exact Or.inl (Or.inl (Or.inr (Or.inl ⟨g1, by omega⟩)))
            · by_cases w : i = q
              · exact Or.inr ⟨w, g1⟩
              · exact Or.inl (Or.inl (Or.inr (Or.inr ⟨g1, by omega⟩)))
          · obtain ⟨g1, g2, g3⟩ := g
            rcases g3 with g | ⟨g3, g4⟩ | ⟨g3, g4⟩
            · exact Or.inl (Or.inl ⟨g1, g2, Or.inl g⟩)
            · by_cases w : j = q
              · exact Or.inl (Or.inr ⟨g3, w⟩)
              · exact Or.inl (Or.inl ⟨g1, g2, Or.inr (Or.inl ⟨g3, by omega⟩)⟩)
            · by_cases w : i = q
              · exact Or.inr ⟨w, g3⟩
              · exact Or.inl (Or.inl ⟨g1, g2, Or.inr (Or.inr ⟨g3, by omega⟩)⟩)
    · rw [fl, if_neg (by decide)]
      exact Ok.some ⟨rfl, n1, xs1, z1', W1, x1, m1, S1.1, S1.2.1, S1.2.2.1, S1.2.2.2.1, Or.inr ⟨fl, mn⟩⟩
