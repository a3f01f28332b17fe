/-! runs -/
def remL (x : Int64) : Int64 := x - x / (1000003 : Int64) * (1000003 : Int64)
def wyV (r : Ru) (X Y : Nat → Int64) : Int64 := if armsN r.1 = 0 then 1 else if armsN r.1 = 1 then X r.2.1 else remL (X r.2.1 * Y r.2.2.1)
noncomputable def wyK (rl : List Ru) (on s : Nat) (X Y : Nat → Int64) : Nat → Nat → Int64
  | 0, _ => 0
  | k + 1, q => by
    classical
    exact if bN on k = 1 ∧ (ruA rl k).1 = s ∧ (ruA rl k).2.2.2 = q then remL (wyK rl on s X Y k q + wyV (ruA rl k) X Y) else wyK rl on s X Y k q
theorem wyK_yes {rl : List Ru} {on s : Nat} {X Y : Nat → Int64} {k q : Nat} (h : bN on k = 1 ∧ (ruA rl k).1 = s ∧ (ruA rl k).2.2.2 = q) : wyK rl on s X Y (k + 1) q = remL (wyK rl on s X Y k q + wyV (ruA rl k) X Y) := by
  rw [wyK, if_pos h]
theorem wyK_no {rl : List Ru} {on s : Nat} {X Y : Nat → Int64} {k q : Nat} (h : ¬ (bN on k = 1 ∧ (ruA rl k).1 = s ∧ (ruA rl k).2.2.2 = q)) : wyK rl on s X Y (k + 1) q = wyK rl on s X Y k q := by
  rw [wyK, if_neg h]
noncomputable def wyF (rl : List Ru) (on s : Nat) (X Y : Nat → Int64) : Nat → Int64 := wyK rl on s X Y rl.length
noncomputable def wyA (rl : List Ru) (on : Nat) (t : List Nat) (i : Nat) : Nat → Int64 := upA (wyF rl on) (fun _ => 0) t i
noncomputable def gwK (f : Nat → Int64) (g : Nat) : Nat → Int64
  | 0 => 0
  | k + 1 => by
    classical
    exact if bN g k = 1 then gwK f g k + f k else gwK f g k
theorem gwK_yes {f : Nat → Int64} {g k : Nat} (h : bN g k = 1) : gwK f g (k + 1) = gwK f g k + f k := by rw [gwK, if_pos h]
theorem gwK_no {f : Nat → Int64} {g k : Nat} (h : ¬ bN g k = 1) : gwK f g (k + 1) = gwK f g k := by rw [gwK, if_neg h]
theorem place_C {σ : Mem} {t n p f : Nat} (h : σ.1 t 4 = nI n) (hn : n ≤ 31) (hp : p < n) (hf : f < 6) : f_X0_placeOf t (nI p) (nI f) σ = nI (6 * p + f) := by
  have hi : f_X8_isState (nI f) = 1 := by
    rcases isState_C (nI f) with ⟨_, _, _, e⟩ | ⟨hn, e⟩
    · exact e
    · exact absurd rfl (hn _ hf)
  unfold f_X0_placeOf
  rw [has_yes h hn hp, if_neg (by decide), hi, if_neg (by decide), show (6 : Int32) = nI 6 from rfl, n_mul, n_add, Nat.mul_comm]
/-- row i of the ways from the arms' rows on -/
theorem waysBy_C {σ : Mem} {t1 t2 i k : Nat} {l : List Nat} {rl : List Ru} {X Y : Nat → Int64} (hT : TreeC σ t1 l) (hL : LawC σ t2 rl) (hw : WfT l) (hrl : ∀ r ∈ rl, OkRu r) (hll : rl.length ≤ 16) (hi : i < l.length) (hk : k < rl.length) (hs : (ruA rl k).1 = sgn l i) (hX : ∀ q, q < 6 → i + 1 < l.length → σ.2.1 6 (6 * (i + 1) + q) = X q) (hY : ∀ q, q < 6 → i + 1 + partL l (i + 1) < l.length → σ.2.1 6 (6 * (i + 1 + partL l (i + 1)) + q) = Y q) : f_X0_waysBy t1 t2 (nI i) (nI k) σ = some (wyV (ruA rl k) X Y) := by
  have hl := hw.2.1
  have nd := hw.nd hi
  obtain ⟨m1, m2, m3, m4⟩ := hL.2 k hk
  obtain ⟨r1, r2, r3, r4⟩ := ruL_ok hrl hk
  unfold f_X0_waysBy
  rw [gd_ix (by omega) (by omega)]
  simp only [n_cl (show k < 2147483648 by omega), m1, m2, arms_C (show (ruA rl k).1 < 2147483648 by omega), lt_eq, n_suc]
  rcases arms_cases (sgn l i) with a0 | a0 | a0
  · have rv : wyV (ruA rl k) X Y = 1 := by unfold wyV; rw [hs, if_pos a0]
    rw [rv, hs, a0, if_pos (by decide)]
    unfold j_X0_waysBy_54 j_X0_waysBy_103
    rw [if_pos (by decide)]
  · obtain ⟨p1, p2⟩ := part_1 nd hi a0
    have rv : wyV (ruA rl k) X Y = X (ruA rl k).2.1 := by unfold wyV; rw [hs, if_neg (by omega), if_pos a0]
    rw [rv, armV_yes (by rw [hs, a0]; omega), hs, a0, if_neg (by decide), gd_ix (by omega) (by omega), place_C hT.1 hl p2 r2, if_pos (by rw [n_nn (by omega)]; trivial), gd_ix (by omega) (by omega), n_cl (by omega), hX _ r2 p2]
    unfold j_X0_waysBy_52 j_X0_waysBy_54 j_X0_waysBy_103
    rw [if_pos (by decide)]
  · obtain ⟨p1, p2⟩ := part_2 nd hi a0
    have q1 := part_pos (l := l) (i := i + 1) (by omega)
    have rv : wyV (ruA rl k) X Y = remL (X (ruA rl k).2.1 * Y (ruA rl k).2.2.1) := by unfold wyV; rw [hs, if_neg (by omega), if_neg (by omega)]
    obtain ⟨p, z1, z2, z3, z4⟩ := second_C hT hl hi
    have z3 := z3 (by omega)
    subst z3
    rw [rv, armV_yes (by rw [hs, a0]; omega), hs, a0, if_neg (by decide), gd_ix (by omega) (by omega), place_C hT.1 hl (by omega) r2, if_pos (by rw [n_nn (by omega)]; trivial), gd_ix (by omega) (by omega), n_cl (by omega), hX _ r2 (by omega)]
    unfold j_X0_waysBy_52 j_X0_waysBy_54 j_X0_waysBy_101 j_X0_waysBy_103
    rw [if_neg (by decide), z2, Option.bind_some, gd_ix (by omega) (by omega)]
    simp only [n_cl (show k < 2147483648 by omega), m3, armV_yes (show 2 ≤ armsN (ruA rl k).1 by rw [hs, a0]; omega), place_C hT.1 hl p2 r3, lt_eq]
    rw [if_pos (by rw [n_nn (by omega)]; trivial), gd_ix (by omega) (by omega), n_cl (by omega), hY _ r3 p2]
    rfl
theorem ways_C {σ : Mem} {t1 t2 : Nat} {l : List Nat} {rl : List Ru} {on : Nat} (hT : TreeC σ t1 l) (hL : LawC σ t2 rl) (hw : WfT l) (hrl : ∀ r ∈ rl, OkRu r) (hll : rl.length ≤ 16) (ho : on < 65536) : Ok (f_X0_countWays t1 t2 (nI on) σ) (fun σ' => (∀ j q, j < l.length → q < 6 → σ'.2.1 6 (6 * j + q) = wyA rl on l j q) ∧ σ'.1 = σ.1 ∧ (∀ o, o ≠ 6 → σ'.2.1 o = σ.2.1 o) ∧ σ'.2.2 = σ.2.2) := by
  have hl := hw.2.1
  unfold f_X0_countWays
  rw [hT.1, n_sub1]
  refine Ok.lt (Ok.bind (P := fun σ' => (∀ j q, j < l.length → q < 6 → σ'.2.1 6 (6 * j + q) = wyA rl on l j q) ∧ σ'.1 = σ.1 ∧ (∀ o, o ≠ 6 → σ'.2.1 o = σ.2.1 o) ∧ σ'.2.2 = σ.2.2) ?_ (fun r hr => Ok.some hr))
  refine Ok.down (fun m s => s.1 = nI m + (-1) ∧ m ≤ l.length ∧ (∀ j q, m ≤ j → j < l.length → q < 6 → s.2.2.1 6 (6 * j + q) = wyA rl on l j q) ∧ s.2.1 = σ.1 ∧ (∀ o, o ≠ 6 → s.2.2.1 o = σ.2.1 o) ∧ s.2.2.2 = σ.2.2) ?_ ?_ l.length _ ⟨rfl, Nat.le_refl _, fun j q h1 h2 => by omega, rfl, fun o _ => rfl, rfl⟩
  · rintro i ⟨v, υ⟩ ⟨e1, e2, e3, e4, e5, e6⟩
    simp only at e1 e3 e4 e5 e6
    rw [m1_S] at e1
    subst e1
    have hi : i < l.length := by omega
    show Ok (b_X0_countWays_8 t1 t2 (nI on) (nI i) υ) _
    unfold b_X0_countWays_8
    rw [if_neg (not_n0 (by omega))]
    refine Ok.bind (P := fun r => r.1 = nI i ∧ (∀ q, q < 6 → r.2.2.1 6 (6 * i + q) = 0) ∧ (∀ j q, i + 1 ≤ j → j < l.length → q < 6 → r.2.2.1 6 (6 * j + q) = wyA rl on l j q) ∧ r.2.1 = σ.1 ∧ (∀ o, o ≠ 6 → r.2.2.1 o = σ.2.1 o) ∧ r.2.2.2 = σ.2.2) ?_ ?_
    · refine Ok.for 6 (fun k s => s.1 = nI i ∧ s.2.1 = nI k ∧ (∀ q, q < k → s.2.2.2.1 6 (6 * i + q) = 0) ∧ (∀ j q, i + 1 ≤ j → j < l.length → q < 6 → s.2.2.2.1 6 (6 * j + q) = wyA rl on l j q) ∧ s.2.2.1 = σ.1 ∧ (∀ o, o ≠ 6 → s.2.2.2.1 o = σ.2.1 o) ∧ s.2.2.2.2 = σ.2.2) ?_ ?_ 0 (by omega) _ ⟨rfl, rfl, fun q hq => by omega, e3, e4, e5, e6⟩
      · rintro k ⟨v4, v5, τ⟩ hk ⟨f1, f2, f3, f4, f5, f6, f7⟩
        simp only at f1 f2 f3 f4 f5 f6 f7
        subst f1 f2
        show Ok (b_X0_countWays_16 t1 t2 (nI on) (nI i) (nI k) τ) _
        unfold b_X0_countWays_16
        rw [if_neg (by rw [show (6 : Int32) = nI 6 from rfl, n_le (by omega) (by omega)]; omega), show nI i * (6 : Int32) + nI k = nI (6 * i + k) by rw [show (6 : Int32) = nI 6 from rfl, n_mul, n_add, Nat.mul_comm]]
        simp only [gd_ix (show 6 * i + k < 186 by omega) (by omega), n_cl (show 6 * i + k < 2147483648 by omega), lt_eq, n_suc]
        refine Ok.some ⟨rfl, rfl, fun q hq => ?_, fun j q h1 h2 h3 => ?_, f5, fun o ho => ?_, f7⟩
        · show (sJ τ 6 (6 * i + k) 0).2.1 6 (6 * i + q) = 0
          by_cases w : q = k
          · rw [w]; exact sJ_same _ _ _ _
          · rw [sJ_slot (by omega)]; exact f3 q (by omega)
        · show (sJ τ 6 (6 * i + k) 0).2.1 6 (6 * j + q) = _
          rw [sJ_slot (by omega)]; exact f4 j q h1 h2 h3
        · show (sJ τ 6 (6 * i + k) 0).2.1 o = _
          rw [sJ_o ho]; exact f6 o ho
      · rintro ⟨v4, v5, τ⟩ ⟨f1, f2, f3, f4, f5, f6, f7⟩
        simp only at f1 f2 f3 f4 f5 f6 f7
        subst f1 f2
        show Ok (b_X0_countWays_16 t1 t2 (nI on) (nI i) (nI 6) τ) _
        unfold b_X0_countWays_16
        rw [if_pos (by decide)]
        exact Ok.some ⟨rfl, f3, f4, f5, f6, f7⟩
    · rintro ⟨v4, τ⟩ ⟨f1, f3, f4, f5, f6, f7⟩
      simp only at f1 f3 f4 f5 f6 f7
      subst f1
      refine Ok.bind (P := fun r => r.1 = nI i ∧ (∀ j q, i ≤ j → j < l.length → q < 6 → r.2.2.1 6 (6 * j + q) = wyA rl on l j q) ∧ r.2.1 = σ.1 ∧ (∀ o, o ≠ 6 → r.2.2.1 o = σ.2.1 o) ∧ r.2.2.2 = σ.2.2) ?_ ?_
      · refine Ok.for rl.length (fun k s => s.1 = nI i ∧ s.2.1 = nI k ∧ (∀ q, q < 6 → s.2.2.2.1 6 (6 * i + q) = wyK rl on (sgn l i) (wyA rl on l (i + 1)) (wyA rl on l (i + 1 + partL l (i + 1))) k q) ∧ (∀ j q, i + 1 ≤ j → j < l.length → q < 6 → s.2.2.2.1 6 (6 * j + q) = wyA rl on l j q) ∧ s.2.2.1 = σ.1 ∧ (∀ o, o ≠ 6 → s.2.2.2.1 o = σ.2.1 o) ∧ s.2.2.2.2 = σ.2.2) ?_ ?_ 0 (by omega) _ ⟨rfl, rfl, fun q hq => by rw [wyK]; exact f3 q hq, f4, f5, f6, f7⟩
        · rintro k ⟨v4, v5, ω⟩ hk ⟨g1, g2, g3, g4, g5, g6, g7⟩
          simp only at g1 g2 g3 g4 g5 g6 g7
          subst g1 g2
          show Ok (b_X0_countWays_46 t1 t2 (nI on) (nI i) (nI k) ω) _
          obtain ⟨m1, m2, m3, m4⟩ := hL.2 k hk
          obtain ⟨r1, r2, r3, r4⟩ := ruL_ok hrl hk
          have h8 := sgn_lt hw hi
          have hT' : TreeC ω t1 l := hT.cg (fun o _ _ => by rw [g5])
          have hL' : LawC ω t2 rl := hL.cg (fun o _ _ => by rw [g5])
          have no : ¬ (bN on k = 1 ∧ (ruA rl k).1 = sgn l i) → Ok (j_X0_countWays_126 t1 t2 (nI on) (nI i) (nI k) ω) (SumP (fun s => s.1 = nI i ∧ s.2.1 = nI (k + 1) ∧ (∀ q, q < 6 → s.2.2.2.1 6 (6 * i + q) = wyK rl on (sgn l i) (wyA rl on l (i + 1)) (wyA rl on l (i + 1 + partL l (i + 1))) (k + 1) q) ∧ (∀ j q, i + 1 ≤ j → j < l.length → q < 6 → s.2.2.2.1 6 (6 * j + q) = wyA rl on l j q) ∧ s.2.2.1 = σ.1 ∧ (∀ o, o ≠ 6 → s.2.2.2.1 o = σ.2.1 o) ∧ s.2.2.2.2 = σ.2.2) (fun r => r.1 = nI i ∧ (∀ j q, i ≤ j → j < l.length → q < 6 → r.2.2.1 6 (6 * j + q) = wyA rl on l j q) ∧ r.2.1 = σ.1 ∧ (∀ o, o ≠ 6 → r.2.2.1 o = σ.2.1 o) ∧ r.2.2.2 = σ.2.2)) := by
            intro w
            unfold j_X0_countWays_126
            exact Ok.lt (Ok.some ⟨rfl, n_suc k, fun q hq => by rw [wyK_no (fun z => w ⟨z.1, z.2.1⟩)]; exact g3 q hq, g4, g5, g6, g7⟩)
          unfold b_X0_countWays_46
          rw [hL'.1, if_neg (by rw [n_le (by omega) (by omega)]; omega), bit_C (by omega) (by omega)]
          by_cases c1 : bN on k = 1
          · rw [c1, if_pos z1, gd_ix (by omega) (by omega), gd_ix (by omega) (by omega)]
            simp only [n_cl (show k < 2147483648 by omega), n_cl (show i < 2147483648 by omega), (hL'.2 k hk).1, (hL'.2 k hk).2.2.2, (hT'.2 i hi).1, n_eq (show (ruA rl k).1 < 2147483648 by omega) (show sgn l i < 2147483648 by omega)]
            by_cases c2 : (ruA rl k).1 = sgn l i
            · rw [if_pos c2, gd_ix (by omega) (by omega), show nI i * (6 : Int32) + nI (ruA rl k).2.2.2 = nI (6 * i + (ruA rl k).2.2.2) by rw [show (6 : Int32) = nI 6 from rfl, n_mul, n_add, Nat.mul_comm]]
              refine Ok.lt ?_
              rw [gd_ix (by omega) (by omega), waysBy_C hT' hL' hw hrl hll hi hk c2 (X := wyA rl on l (i + 1)) (Y := wyA rl on l (i + 1 + partL l (i + 1))) (fun q h1 h2 => g4 _ q (Nat.le_refl _) h2 h1) (fun q h1 h2 => g4 _ q (by omega) h2 h1), Option.bind_some, gd_ix (by omega) (by omega), n_cl (by omega)]
              unfold j_X0_countWays_126
              refine Ok.lt (Ok.lt (Ok.some ⟨rfl, n_suc k, fun q hq => ?_, fun j q h1 h2 h3 => ?_, g5, fun o ho => ?_, g7⟩))
              · show (sJ ω 6 (6 * i + (ruA rl k).2.2.2) _).2.1 6 (6 * i + q) = _
                by_cases w : q = (ruA rl k).2.2.2
                · rw [w, sJ_same, g3 _ r4, wyK_yes ⟨c1, c2, rfl⟩]
                  rfl
                · rw [sJ_slot (by omega), wyK_no (fun z => w z.2.2.symm)]; exact g3 q hq
              · show (sJ ω 6 (6 * i + (ruA rl k).2.2.2) _).2.1 6 (6 * j + q) = _
                rw [sJ_slot (by omega)]; exact g4 j q h1 h2 h3
              · show (sJ ω 6 (6 * i + (ruA rl k).2.2.2) _).2.1 o = _
                rw [sJ_o ho]; exact g6 o ho
            · rw [if_neg c2]; exact no (fun z => c2 z.2)
          · rw [b01 c1, if_neg (by decide)]; exact no (fun z => c1 z.1)
        · rintro ⟨v4, v5, ω⟩ ⟨g1, g2, g3, g4, g5, g6, g7⟩
          simp only at g1 g2 g3 g4 g5 g6 g7
          subst g1 g2
          show Ok (b_X0_countWays_46 t1 t2 (nI on) (nI i) (nI rl.length) ω) _
          unfold b_X0_countWays_46
          rw [g5, hL.1, if_pos (by rw [n_le (by omega) (by omega)]; omega)]
          refine Ok.some ⟨rfl, fun j q h1 h2 h3 => ?_, g5, g6, g7⟩
          by_cases w : j = i
          · show ω.2.1 6 (6 * j + q) = _
            rw [w, g3 q h3]
            show _ = upA (wyF rl on) (fun _ => 0) l i q
            rw [upA_get _ _ hi]
            rfl
          · exact g4 j q (by omega) h2 h3
      · rintro ⟨v4, ω⟩ ⟨g1, g4, g5, g6, g7⟩
        simp only at g1 g4 g5 g6 g7
        subst g1
        exact Ok.lt (Ok.some ⟨rfl, by omega, g4, g5, g6, g7⟩)
  · rintro ⟨v, υ⟩ ⟨e1, e2, e3, e4, e5, e6⟩
    simp only at e1 e3 e4 e5 e6
    subst e1
    show Ok (b_X0_countWays_8 t1 t2 (nI on) (nI 0 + (-1)) υ) _
    unfold b_X0_countWays_8
    rw [if_pos m1_lt0]
    exact Ok.some ⟨fun j q hj hq => e3 j q (by omega) hj hq, e4, e5, e6⟩
theorem runs_C {A : AS} {σ : Mem} (h : RepC A σ) (hA : WfA A) (hne : 0 < (trA A).length) : Ok (f_X8_runs σ) (fun r => r.1 = (remL (gwK (wyA (rlA A) (onA A) (trA A) 0) (gdA A) 6)).toInt32 ∧ RepC A r.2 ∧ PF σ r.2) := by
  have hl := hA.2.2.2.2.2.2.1.2.1
  have hg := hA.2.2.2.2.2.1
  unfold f_X8_runs
  rw [h.2.2.2.2.1.1, if_neg (by rw [show (0 : Int32) = nI 0 from rfl, n_eq (by omega) (by omega)]; omega), h.2.2.2.1.1]
  refine Ok.bind (ways_C h.2.2.2.2.1 h.2.2.1 hA.2.2.2.2.2.2.1 hA.2.2.1 hA.2.2.2.1 hA.2.2.2.2.1) ?_
  rintro τ ⟨e1, e2, e3, e4⟩
  rw [e2, h.2.2.2.1.2]
  have key : f_X0_goodWays (nI (gdA A)) τ = some (remL (gwK (wyA (rlA A) (onA A) (trA A) 0) (gdA A) 6)).toInt32 := by
    refine Ok.eq ?_
    unfold f_X0_goodWays
    refine Ok.bind (P := fun v => v = gwK (wyA (rlA A) (onA A) (trA A) 0) (gdA A) 6) ?_ (fun v hv => Ok.some (by rw [hv]; rfl))
    refine Ok.for 6 (fun k s => s = (gwK (wyA (rlA A) (onA A) (trA A) 0) (gdA A) k, nI k)) ?_ ?_ 0 (by omega) _ (by rw [gwK]; rfl)
    · rintro k _ hk rfl
      show Ok (b_X0_goodWays_5 (nI (gdA A)) (gwK (wyA (rlA A) (onA A) (trA A) 0) (gdA A) k) (nI k) τ) _
      unfold b_X0_goodWays_5 j_X0_goodWays_32
      rw [if_neg (by rw [show (6 : Int32) = nI 6 from rfl, n_le (by omega) (by omega)]; omega), bit_C (by omega) (by omega)]
      by_cases c : bN (gdA A) k = 1
      · rw [c, if_pos z1, gd_ix (by omega) (by omega), n_cl (by omega)]
        refine Ok.lt (Ok.lt (Ok.some ?_))
        have := e1 0 k hne hk
        rw [show 6 * 0 + k = k by omega] at this
        rw [gwK_yes c, this, n_suc]
      · rw [b01 c, if_neg (by decide)]
        refine Ok.lt (Ok.some ?_)
        rw [gwK_no c, n_suc]
    · rintro _ rfl
      exact Ok.some rfl
  rw [key, Option.bind_some]
  exact Ok.some ⟨rfl, h.climb (fun o _ => by rw [e2]) (e3 0 (by omega)) e4, fun o _ _ => by rw [e2], e3 23 (by omega)⟩
