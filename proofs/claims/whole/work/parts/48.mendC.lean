/-! mend: the class's costs and codes -/
def CellC (σ : Mem) (p i : Nat) (l : List Nat) (S : List Nat → Prop) : Prop := ∃ c d, σ.1 7 p = nI c ∧ σ.2.1 8 p = nJ d ∧ c ≤ 1000 ∧ d < 4611686018427387904 ∧ Bst 1000 S (cs (l.drop i)) (co i) c d
theorem firstSign_C : ∀ a, a < 3 → f_X8_firstSignWith (nI a) = nI (fsN a) := by decide
theorem weigh187_C {σ : Mem} {t1 t2 i k res C D : Nat} {l : List Nat} {S S' U : List Nat → Prop} (hr : σ.1 (t2 + 4) k = nI res) (hk : k < 16) (hi : i < 31) (hres : res < 6) (hc : CellC σ (6 * i + res) i l S) (hC : C ≤ 3000) (hD : D < 4611686018427387904) (hU : ∀ w, U w ↔ (S w ∨ S' w)) (h' : (1000 ≤ C ∧ ∀ w, ¬ S' w) ∨ Bst 1000 S' (cs (l.drop i)) (co i) C D) : Ok (j_X0_weighRule_187 t1 t2 (nI i) (nI k) (nI C) (nJ D) σ) (fun σ' => CellC σ' (6 * i + res) i l U ∧ (∀ o, o ≠ 7 → σ'.1 o = σ.1 o) ∧ (∀ p, p ≠ 6 * i + res → σ'.1 7 p = σ.1 7 p) ∧ (∀ o, o ≠ 8 → σ'.2.1 o = σ.2.1 o) ∧ (∀ p, p ≠ 6 * i + res → σ'.2.1 8 p = σ.2.1 8 p) ∧ σ'.2.2 = σ.2.2) := by
  obtain ⟨c, d, c1, c2, c3, c4, c5⟩ := hc
  obtain ⟨j1, j2⟩ := c5.join hU h'
  unfold j_X0_weighRule_187
  rw [gd_ix hk (by omega), n_cl (by omega), hr, show nI i * (6 : Int32) + nI res = nI (6 * i + res) by rw [show (6 : Int32) = nI 6 from rfl, n_mul, n_add, Nat.mul_comm]]
  refine Ok.lt ?_
  rw [gd_ix (by omega) (by omega)]
  simp only [n_cl (show 6 * i + res < 2147483648 by omega), c1, c2, gd_ix (show 6 * i + res < 186 by omega) (by omega)]
  have upd : (C < c ∨ (C < 1000 ∧ C = c ∧ D < d)) → Ok (j_X0_weighRule_246 t1 t2 (nI i) (nI k) (nI C) (nJ D) (nI (6 * i + res)) σ) (fun σ' => CellC σ' (6 * i + res) i l U ∧ (∀ o, o ≠ 7 → σ'.1 o = σ.1 o) ∧ (∀ p, p ≠ 6 * i + res → σ'.1 7 p = σ.1 7 p) ∧ (∀ o, o ≠ 8 → σ'.2.1 o = σ.2.1 o) ∧ (∀ p, p ≠ 6 * i + res → σ'.2.1 8 p = σ.2.1 8 p) ∧ σ'.2.2 = σ.2.2) := by
    intro b
    unfold j_X0_weighRule_246
    simp only [gd_ix (show 6 * i + res < 186 by omega) (by omega), n_cl (show 6 * i + res < 2147483648 by omega), lt_eq]
    refine Ok.some ⟨⟨C, D, ?_, sJ_same _ _ _ _, by omega, hD, j1 b⟩, fun o ho => ?_, fun p hp => ?_, fun o ho => ?_, fun p hp => ?_, rfl⟩
    · show (sI σ 7 (6 * i + res) (nI C)).1 7 (6 * i + res) = _
      exact sI_same _ _ _ _
    · show (sI σ 7 (6 * i + res) (nI C)).1 o = _
      exact sI_o ho
    · show (sI σ 7 (6 * i + res) (nI C)).1 7 p = _
      exact sI_slot hp
    · exact sJ_o ho
    · exact sJ_slot hp
  have keep : ¬ (C < c ∨ (C < 1000 ∧ C = c ∧ D < d)) → Ok (some σ) (fun σ' => CellC σ' (6 * i + res) i l U ∧ (∀ o, o ≠ 7 → σ'.1 o = σ.1 o) ∧ (∀ p, p ≠ 6 * i + res → σ'.1 7 p = σ.1 7 p) ∧ (∀ o, o ≠ 8 → σ'.2.1 o = σ.2.1 o) ∧ (∀ p, p ≠ 6 * i + res → σ'.2.1 8 p = σ.2.1 8 p) ∧ σ'.2.2 = σ.2.2) := fun b => Ok.some ⟨⟨c, d, c1, c2, c3, c4, j2 b⟩, fun _ _ => rfl, fun _ _ => rfl, fun _ _ => rfl, fun _ _ => rfl, rfl⟩
  simp only [n_lt (show C < 2147483648 by omega) (show c < 2147483648 by omega), show (1000 : Int32) = nI 1000 from rfl, n_le (show 1000 < 2147483648 by omega) (show C < 2147483648 by omega), n_eq (show C < 2147483648 by omega) (show c < 2147483648 by omega), lg_cmp_ge, nJ_le (show d < 9223372036854775808 by omega) (show D < 9223372036854775808 by omega)]
  by_cases b1 : C < c
  · rw [if_pos b1]; exact upd (Or.inl b1)
  · rw [if_neg b1]
    by_cases b2 : 1000 ≤ C
    · rw [if_pos b2]; exact keep (by omega)
    · rw [if_neg b2]
      by_cases b3 : C = c
      · rw [if_pos b3]
        by_cases b4 : d ≤ D
        · rw [if_pos b4]; exact keep (by omega)
        · rw [if_neg b4]; exact upd (Or.inr ⟨by omega, b3, by omega⟩)
      · rw [if_neg b3]; exact keep (by omega)
theorem weighRule_C {σ : Mem} {t1 t2 i k on : Nat} {l : List Nat} {rl : List Ru} (hT : TreeC σ t1 l) (hL : LawC σ t2 rl) (hw : WfT l) (hrl : ∀ r ∈ rl, OkRu r) (hll : rl.length ≤ 16) (hi : i < l.length) (hk : k < rl.length) (hon : bN on k = 1) (hs : armsN (ruA rl k).1 = armsN (sgn l i)) (hA : ∀ j q, i < j → j < l.length → q < 6 → CellC σ (6 * j + q) j l (ws rl on l j q)) (hc : CellC σ (6 * i + (ruA rl k).2.2.2) i l (wsN rl on (sgn l i) (ws rl on l (i + 1)) (ws rl on l (i + 1 + partL l (i + 1))) k (ruA rl k).2.2.2)) : Ok (f_X0_weighRule t1 t2 (nI i) (nI k) σ) (fun σ' => CellC σ' (6 * i + (ruA rl k).2.2.2) i l (wsN rl on (sgn l i) (ws rl on l (i + 1)) (ws rl on l (i + 1 + partL l (i + 1))) (k + 1) (ruA rl k).2.2.2) ∧ (∀ o, o ≠ 7 → σ'.1 o = σ.1 o) ∧ (∀ p, p ≠ 6 * i + (ruA rl k).2.2.2 → σ'.1 7 p = σ.1 7 p) ∧ (∀ o, o ≠ 8 → σ'.2.1 o = σ.2.1 o) ∧ (∀ p, p ≠ 6 * i + (ruA rl k).2.2.2 → σ'.2.1 8 p = σ.2.1 8 p) ∧ σ'.2.2 = σ.2.2) := by
  have hl := hw.2.1
  have nd := hw.nd hi
  have h8 := sgn_lt hw hi
  obtain ⟨m1, m2, m3, m4⟩ := hL.2 k hk
  obtain ⟨r1, r2, r3, r4⟩ := ruL_ok hrl hk
  have dc := drop_cons hi
  have hU : ∀ w, wsN rl on (sgn l i) (ws rl on l (i + 1)) (ws rl on l (i + 1 + partL l (i + 1))) (k + 1) (ruA rl k).2.2.2 w ↔ (wsN rl on (sgn l i) (ws rl on l (i + 1)) (ws rl on l (i + 1 + partL l (i + 1))) k (ruA rl k).2.2.2 w ∨ wsK rl on (sgn l i) (ws rl on l (i + 1)) (ws rl on l (i + 1 + partL l (i + 1))) k (ruA rl k).2.2.2 w) := by
    intro w
    constructor
    · rintro ⟨j, j1, j2⟩
      by_cases e : j = k
      · rw [e] at j2; exact Or.inr j2
      · exact Or.inl ⟨j, by omega, j2⟩
    · rintro (⟨j, j1, j2⟩ | j2)
      · exact ⟨j, by omega, j2⟩
      · exact ⟨k, by omega, j2⟩
  -- the sign's own cost and code
  have e0 : ∃ e, e ≤ 1 ∧ (if (ruA rl k).1 = sgn l i then 0 else 1) = e ∧ f_X0_weighRule t1 t2 (nI i) (nI k) σ = j_X0_weighRule_33 t1 t2 (nI i) (nI k) (nI e) (nI (armsN (ruA rl k).1)) σ := by
    unfold f_X0_weighRule
    rw [gd_ix (by omega) (by omega)]
    simp only [n_cl (show k < 2147483648 by omega), n_cl (show i < 2147483648 by omega), m1, (hT.2 i hi).1, arms_C (show (ruA rl k).1 < 2147483648 by omega), lt_eq, gd_ix (show k < 16 by omega) (by omega), gd_ix (show i < 31 by omega) (by omega), n_eq (show (ruA rl k).1 < 2147483648 by omega) (show sgn l i < 2147483648 by omega)]
    by_cases c : (ruA rl k).1 = sgn l i
    · exact ⟨0, by omega, by rw [if_pos c], by rw [if_pos c]; rfl⟩
    · exact ⟨1, by omega, by rw [if_neg c], by rw [if_neg c]; rfl⟩
  obtain ⟨e, e1, e2, e3⟩ := e0
  rw [e3]
  have st4 := stpN_lt r1
  have cstep : f_X0_codeOfStep (nI (ruA rl k).1 - f_X8_firstSignWith (nI (armsN (ruA rl k).1))) (nI i) = nJ (stpN (ruA rl k).1 * 4 ^ (30 - i)) := by
    have sb := stp_back r1
    have ha := armsN_le (ruA rl k).1
    rw [firstSign_C _ (by omega), n_sub (by omega), show (ruA rl k).1 - fsN (armsN (ruA rl k).1) = stpN (ruA rl k).1 by omega]
    exact codeStep ⟨i, by omega⟩ ⟨stpN (ruA rl k).1, st4⟩
  have pw : 4 ^ (31 - i) = 4 * 4 ^ (30 - i) := p4 (by omega)
  have pw2 : 4 ^ (31 - i) ≤ 4 ^ 31 := Nat.pow_le_pow_right (by omega) (by omega)
  have stlt : stpN (ruA rl k).1 * 4 ^ (30 - i) ≤ 3 * 4 ^ (30 - i) := Nat.mul_le_mul_right _ (by omega)
  have sd : 4 ^ (30 - i) ∣ stpN (ruA rl k).1 * 4 ^ (30 - i) := Nat.dvd_mul_left _ _
  have pw3 : (4 : Nat) ^ 31 = 4611686018427387904 := by decide
  unfold j_X0_weighRule_33
  rw [gd_ix (by omega) (by omega)]
  simp only [n_cl (show k < 2147483648 by omega), m1, m2, cstep, lt_eq, n_suc]
  -- cost of a word by this rule
  have cst : ∀ w1 w2 : List Nat, w1.length + w2.length + 1 ≤ 31 → w1.length ≤ (l.drop (i + 1)).length → cs (l.drop i) ((ruA rl k).1 :: (w1 ++ w2)) = e + cs (l.drop (i + 1)) w1 + cs (l.drop (i + 1 + w1.length)) w2 ∧ co i ((ruA rl k).1 :: (w1 ++ w2)) = stpN (ruA rl k).1 * 4 ^ (30 - i) + co (i + 1) w1 + co (i + 1 + w1.length) w2 ∧ cs (l.drop i) ((ruA rl k).1 :: (w1 ++ w2)) < 1000 := by
    intro w1 w2 h1 h2
    have a1 : cs (l.drop i) ((ruA rl k).1 :: (w1 ++ w2)) = e + cs (l.drop (i + 1)) w1 + cs (l.drop (i + 1 + w1.length)) w2 := by
      rw [dc]
      show (if (ruA rl k).1 = sgn l i then 0 else 1) + cs (l.drop (i + 1)) (w1 ++ w2) = _
      rw [e2, cs_app _ _ _ h2, List.drop_drop]
      omega
    have a2 := cs_le (l.drop (i + 1)) w1
    have a3 := cs_le (l.drop (i + 1 + w1.length)) w2
    refine ⟨a1, ?_, by omega⟩
    show stpN (ruA rl k).1 * 4 ^ (30 - i) + co (i + 1) (w1 ++ w2) = _
    rw [co_app]
    omega
  have okw := ws_ok hrl on nd
  rcases arms_cases (sgn l i) with a0 | a0 | a0
  · rw [hs, a0, if_pos (by decide)]
    unfold j_X0_weighRule_119
    rw [if_pos (by decide)]
    have b := Bst.over (far := 1000) (h := (ruA rl k).1) (e := e) (a := stpN (ruA rl k).1 * 4 ^ (30 - i)) (f := cs (l.drop i)) (g := co i) (Bst.nil (by omega) (f := cs (l.drop (i + 1))) (g := co (i + 1)) (cs_nil _) rfl) (Bst.nil (by omega) (f := cs (l.drop (i + 1))) (g := co (i + 1)) (cs_nil _) rfl) (by
      intro w1 w2 h1 h2
      subst h1 h2
      have := cst [] [] (by simp) (by simp)
      simpa [cs_nil, co] using this)
    have eS : ∀ w, (∃ w1 w2, w1 = [] ∧ w2 = [] ∧ w = (ruA rl k).1 :: (w1 ++ w2)) ↔ wsK rl on (sgn l i) (ws rl on l (i + 1)) (ws rl on l (i + 1 + partL l (i + 1))) k (ruA rl k).2.2.2 w := by
      intro w
      constructor
      · rintro ⟨w1, w2, h1, h2, h3⟩
        exact ⟨hon, hs, rfl, w1, w2, fun q => by omega, fun _ => h1, fun q => by omega, fun _ => h2, h3⟩
      · rintro ⟨_, _, _, w1, w2, _, h2, _, h4, h5⟩
        exact ⟨w1, w2, h2 a0, h4 (by omega), h5⟩
    refine weigh187_C (C := e + 0 + 0) (D := stpN (ruA rl k).1 * 4 ^ (30 - i) + 0 + 0) m4 (by omega) (by omega) r4 hc (by omega) (by omega) hU ?_
    rcases b with ⟨b1, b2⟩ | b
    · exact Or.inl ⟨b1, fun w hw => b2 w ((eS w).mpr hw)⟩
    · exact Or.inr (b.cg eS)
  · obtain ⟨p1, p2⟩ := part_1 nd hi a0
    obtain ⟨c1, d1, x1, x2, x3, x4, x5⟩ := hA (i + 1) _ (by omega) p2 r2
    rw [hs, a0, if_neg (by decide), gd_ix (by omega) (by omega), armV_yes (by omega), place_C hT.1 hl p2 r2, if_pos (by rw [n_nn (by omega)]; trivial), gd_ix (by omega) (by omega), n_cl (by omega), x1]
    unfold j_X0_weighRule_95 j_X0_weighRule_116 j_X0_weighRule_119
    simp only [lt_eq]
    rw [if_pos (by rw [n_nn (by omega)]; trivial), gd_ix (by omega) (by omega), n_cl (by omega), x2, n_add, if_pos (by decide), nJ_or]
    have lw : ∀ w1, ws rl on l (i + 1) (ruA rl k).2.1 w1 → w1.length = partL l (i + 1) ∧ shp (l.drop (i + 1)) w1 := fun w1 h => okw _ (i + 1) _ w1 rfl h
    have hle := part_le (l := l) (i := i + 1) (by omega)
    have b := Bst.over (far := 1000) (h := (ruA rl k).1) (e := e) (a := stpN (ruA rl k).1 * 4 ^ (30 - i)) (f := cs (l.drop i)) (g := co i) x5 (Bst.nil (by omega) (f := cs (l.drop (i + 1 + partL l (i + 1)))) (g := co (i + 1 + partL l (i + 1))) (cs_nil _) rfl) (by
      intro w1 w2 h1 h2
      subst h2
      obtain ⟨g1, g2⟩ := lw w1 h1
      have := cst w1 [] (by simp; omega) (by rw [List.length_drop]; omega)
      rw [g1] at this
      exact this)
    have eS : ∀ w, (∃ w1 w2, ws rl on l (i + 1) (ruA rl k).2.1 w1 ∧ w2 = [] ∧ w = (ruA rl k).1 :: (w1 ++ w2)) ↔ wsK rl on (sgn l i) (ws rl on l (i + 1)) (ws rl on l (i + 1 + partL l (i + 1))) k (ruA rl k).2.2.2 w := by
      intro w
      constructor
      · rintro ⟨w1, w2, h1, h2, h3⟩
        exact ⟨hon, hs, rfl, w1, w2, fun _ => h1, fun q => by omega, fun q => by omega, fun _ => h2, h3⟩
      · rintro ⟨_, _, _, w1, w2, h1, h2, _, h4, h5⟩
        exact ⟨w1, w2, h1 (by omega), h4 (by omega), h5⟩
    have orlt : stpN (ruA rl k).1 * 4 ^ (30 - i) ||| d1 < 4611686018427387904 := by
      have : stpN (ruA rl k).1 * 4 ^ (30 - i) < 2 ^ 62 := by omega
      have : d1 < 2 ^ 62 := by omega
      have := Nat.or_lt_two_pow (n := 62) (x := stpN (ruA rl k).1 * 4 ^ (30 - i)) (y := d1) (by omega) (by omega)
      omega
    refine weigh187_C (C := e + c1) (D := stpN (ruA rl k).1 * 4 ^ (30 - i) ||| d1) m4 (by omega) (by omega) r4 hc (by omega) orlt hU ?_
    rcases b with ⟨b1, b2⟩ | b
    · exact Or.inl ⟨by omega, fun w hw => b2 w ((eS w).mpr hw)⟩
    · refine Or.inr ?_
      have b' := b.cg eS
      rw [Nat.add_zero, Nat.add_zero] at b'
      have hd : stpN (ruA rl k).1 * 4 ^ (30 - i) ||| d1 = stpN (ruA rl k).1 * 4 ^ (30 - i) + d1 ∨ c1 = 1000 := by
        rcases x5 with ⟨y1, _⟩ | ⟨y1, ⟨u, y2, y3, y4⟩, y5⟩
        · exact Or.inr y1
        · obtain ⟨g1, g2⟩ := lw u y2
          have := co_lt u (i + 1) (shp_lt _ _ g2) (by omega)
          rw [show 31 - (i + 1) = 30 - i by omega, y4] at this
          exact Or.inl (or_add sd this)
      rcases hd with hd | hd
      · rw [hd]; exact b'
      · rcases b' with ⟨z1, z2⟩ | ⟨z1, _⟩
        · exact Or.inl ⟨z1, z2⟩
        · omega
  · obtain ⟨p1, p2⟩ := part_2 nd hi a0
    have q1 := part_pos (l := l) (i := i + 1) (by omega)
    obtain ⟨c1, d1, x1, x2, x3, x4, x5⟩ := hA (i + 1) _ (by omega) (by omega) r2
    obtain ⟨c2, d2, y1, y2, y3, y4, y5⟩ := hA (i + 1 + partL l (i + 1)) _ (by omega) p2 r3
    obtain ⟨p, z1, z2, z3, z4⟩ := second_C hT hl hi
    have z3 := z3 (by omega)
    subst z3
    rw [hs, a0, if_neg (by decide), gd_ix (by omega) (by omega), armV_yes (by omega), place_C hT.1 hl (by omega) r2, if_pos (by rw [n_nn (by omega)]; trivial), gd_ix (by omega) (by omega), n_cl (by omega), x1]
    unfold j_X0_weighRule_95 j_X0_weighRule_116 j_X0_weighRule_119
    simp only [lt_eq]
    rw [if_pos (by rw [n_nn (by omega)]; trivial), gd_ix (by omega) (by omega), n_cl (by omega), x2, n_add, if_neg (by decide), nJ_or, z2, Option.bind_some, gd_ix (by omega) (by omega)]
    simp only [n_cl (show k < 2147483648 by omega), m3, armV_yes (show 2 ≤ armsN (ruA rl k).1 by omega), place_C hT.1 hl p2 r3]
    rw [if_pos (by rw [n_nn (by omega)]; trivial), gd_ix (by omega) (by omega), n_cl (by omega), y1]
    unfold j_X0_weighRule_163 j_X0_weighRule_184
    simp only [lt_eq]
    rw [if_pos (by rw [n_nn (by omega)]; trivial), gd_ix (by omega) (by omega), n_cl (by omega), y2, n_add, nJ_or]
    have lw1 : ∀ w1, ws rl on l (i + 1) (ruA rl k).2.1 w1 → w1.length = partL l (i + 1) ∧ shp (l.drop (i + 1)) w1 := fun w1 h => okw _ (i + 1) _ w1 rfl h
    have lw2 : ∀ w1, ws rl on l (i + 1 + partL l (i + 1)) (ruA rl k).2.2.1 w1 → w1.length = partL l (i + 1 + partL l (i + 1)) ∧ shp (l.drop (i + 1 + partL l (i + 1))) w1 := fun w1 h => okw _ _ _ w1 rfl h
    have hle := part_le (l := l) (i := i) (by omega)
    have b := Bst.over (far := 1000) (h := (ruA rl k).1) (e := e) (a := stpN (ruA rl k).1 * 4 ^ (30 - i)) (f := cs (l.drop i)) (g := co i) x5 y5 (by
      intro w1 w2 h1 h2
      obtain ⟨g1, g2⟩ := lw1 w1 h1
      obtain ⟨g3, g4⟩ := lw2 w2 h2
      have := cst w1 w2 (by omega) (by rw [List.length_drop]; omega)
      rw [g1] at this
      exact this)
    have eS : ∀ w, (∃ w1 w2, ws rl on l (i + 1) (ruA rl k).2.1 w1 ∧ ws rl on l (i + 1 + partL l (i + 1)) (ruA rl k).2.2.1 w2 ∧ w = (ruA rl k).1 :: (w1 ++ w2)) ↔ wsK rl on (sgn l i) (ws rl on l (i + 1)) (ws rl on l (i + 1 + partL l (i + 1))) k (ruA rl k).2.2.2 w := by
      intro w
      constructor
      · rintro ⟨w1, w2, h1, h2, h3⟩
        exact ⟨hon, hs, rfl, w1, w2, fun _ => h1, fun q => by omega, fun _ => h2, fun q => by omega, h3⟩
      · rintro ⟨_, _, _, w1, w2, h1, h2, h3, h4, h5⟩
        exact ⟨w1, w2, h1 (by omega), h3 (by omega), h5⟩
    have orlt : stpN (ruA rl k).1 * 4 ^ (30 - i) ||| d1 ||| d2 < 4611686018427387904 := by
      have w1 := Nat.or_lt_two_pow (n := 62) (x := stpN (ruA rl k).1 * 4 ^ (30 - i)) (y := d1) (by omega) (by omega)
      have w2 := Nat.or_lt_two_pow (n := 62) (x := stpN (ruA rl k).1 * 4 ^ (30 - i) ||| d1) (y := d2) w1 (by omega)
      omega
    refine weigh187_C (C := e + c1 + c2) (D := stpN (ruA rl k).1 * 4 ^ (30 - i) ||| d1 ||| d2) m4 (by omega) (by omega) r4 hc (by omega) orlt hU ?_
    rcases b with ⟨b1, b2⟩ | b
    · exact Or.inl ⟨by omega, fun w hw => b2 w ((eS w).mpr hw)⟩
    · refine Or.inr ?_
      have b' := b.cg eS
      have hd : stpN (ruA rl k).1 * 4 ^ (30 - i) ||| d1 ||| d2 = stpN (ruA rl k).1 * 4 ^ (30 - i) + d1 + d2 ∨ 1000 ≤ e + c1 + c2 := by
        rcases x5 with ⟨u1, _⟩ | ⟨u1, ⟨u, u2, u3, u4⟩, u5⟩
        · exact Or.inr (by omega)
        · rcases y5 with ⟨v1, _⟩ | ⟨v1, ⟨v, v2, v3, v4⟩, v5⟩
          · exact Or.inr (by omega)
          · obtain ⟨g1, g2⟩ := lw1 u u2
            obtain ⟨g3, g4⟩ := lw2 v v2
            have k1 := co_lt u (i + 1) (shp_lt _ _ g2) (by omega)
            have k2 := co_lt v (i + 1 + partL l (i + 1)) (shp_lt _ _ g4) (by omega)
            have k3 := co_dvd u (i + 1) (by omega)
            rw [show 31 - (i + 1) = 30 - i by omega, u4] at k1
            rw [v4] at k2
            rw [u4, g1] at k3
            refine Or.inl ?_
            rw [or_add sd k1, or_add (k := 31 - (i + 1 + partL l (i + 1))) ?_ k2]
            refine Nat.dvd_add (Nat.dvd_trans (Nat.pow_dvd_pow 4 ?_) sd) k3
            omega
      rcases hd with hd | hd
      · rw [hd]; exact b'
      · rcases b' with ⟨z1, z2⟩ | ⟨z1, _⟩
        · exact Or.inl ⟨z1, z2⟩
        · omega
