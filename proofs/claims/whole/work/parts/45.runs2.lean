/-! runs, reference and both -/
theorem ways_R {A : AS} {ρ : Mem} (h : RepR A ρ) (hA : WfA A) {τ0 : Mem} (g1 : ∀ j, j < (trA A).length → τ0.1 10 j = nI (partL (trA A) j)) (g2 : ∀ o, o ≠ 10 → τ0.1 o = ρ.1 o) (g3 : τ0.2 = ρ.2) : Ok (Lim (T := Mem) (fun s => b_X9_runs_25 s.1 s.2) (nI (trA A).length + (-1), τ0)) (fun τ => (∀ j q, j < (trA A).length → q < 6 → τ.2.1 12 (6 * j + q) = wyA (rlA A) (onA A) (trA A) j q) ∧ τ.1 = τ0.1 ∧ (∀ o, o ≠ 12 → τ.2.1 o = ρ.2.1 o)) := by
  have hw : WfT (trA A) := hA.2.2.2.2.2.2.1
  have hl := hw.2.1
  have hrl := hA.2.2.1
  have hll := hA.2.2.2.1
  have ho := hA.2.2.2.2.1
  generalize hrl' : rlA A = rl at *
  generalize htr : trA A = l at *
  generalize hon : onA A = on at *
  have sg : SgR ρ l := by rw [← htr]; exact h.sg
  have L2 : ρ.1 2 0 = nI rl.length := by rw [← hrl']; exact h.2.1.1
  have LM : LawM ρ 3 4 5 6 rl := by rw [← hrl']; exact h.2.1.2
  have L7 : ρ.1 7 0 = nI on := by rw [← hon]; exact h.2.2.1.1
  refine Ok.down (fun m s => s.1 = nI m + (-1) ∧ m ≤ l.length ∧ (∀ j q, m ≤ j → j < l.length → q < 6 → s.2.2.1 12 (6 * j + q) = wyA rl on l j q) ∧ s.2.1 = τ0.1 ∧ (∀ o, o ≠ 12 → s.2.2.1 o = ρ.2.1 o)) ?_ ?_ l.length _ ⟨rfl, Nat.le_refl _, fun j q h1 h2 => by omega, rfl, fun o _ => by rw [g3]⟩
  · rintro i ⟨v, υ⟩ ⟨e1, e2, e3, e4, e5⟩
    simp only at e1 e3 e4 e5
    rw [m1_S] at e1
    subst e1
    have hi : i < l.length := by omega
    have nd := hw.nd hi
    have h8 := sgn_lt hw hi
    have ha := armsN_le (sgn l i)
    show Ok (b_X9_runs_25 (nI i) υ) _
    unfold b_X9_runs_25
    rw [if_neg (not_n0 (by omega)), n_3, gd_ix (by omega) (by omega), n_cl (by omega), e4, g2 7 (by omega), sg.2 i hi]
    refine Ok.lt ?_
    rw [arms_R (by omega)]
    refine Ok.lt (Ok.bind (P := fun r => r.1 = nI i ∧ r.2.1 = nI (sgn l i) ∧ r.2.2.1 = nI (armsN (sgn l i)) ∧ (∀ q, q < 6 → r.2.2.2.2.1 12 (6 * i + q) = 0) ∧ (∀ j q, i + 1 ≤ j → j < l.length → q < 6 → r.2.2.2.2.1 12 (6 * j + q) = wyA rl on l j q) ∧ r.2.2.2.1 = τ0.1 ∧ (∀ o, o ≠ 12 → r.2.2.2.2.1 o = ρ.2.1 o)) ?_ ?_)
    · refine Ok.for 6 (fun k s => s.1 = nI i ∧ s.2.1 = nI (sgn l i) ∧ s.2.2.1 = nI (armsN (sgn l i)) ∧ s.2.2.2.1 = nI k ∧ (∀ q, q < k → s.2.2.2.2.2.1 12 (6 * i + q) = 0) ∧ (∀ j q, i + 1 ≤ j → j < l.length → q < 6 → s.2.2.2.2.2.1 12 (6 * j + q) = wyA rl on l j q) ∧ s.2.2.2.2.1 = τ0.1 ∧ (∀ o, o ≠ 12 → s.2.2.2.2.2.1 o = ρ.2.1 o)) ?_ ?_ 0 (by omega) _ ⟨rfl, rfl, rfl, rfl, fun q hq => by omega, e3, e4, e5⟩
      · rintro k ⟨v1, v2, v3, v4, τ⟩ hk ⟨f0, f00, f000, f2, f3, f4, f5, f6⟩
        simp only at f0 f00 f000 f2 f3 f4 f5 f6
        subst f0 f00 f000 f2
        show Ok (b_X9_runs_46 (nI i) (nI (sgn l i)) (nI (armsN (sgn l i))) (nI k) τ) _
        unfold b_X9_runs_46
        rw [if_neg (by rw [show (6 : Int32) = nI 6 from rfl, n_le (by omega) (by omega)]; omega), show (6 : Int32) * nI i + nI k = nI (6 * i + k) by rw [show (6 : Int32) = nI 6 from rfl, n_mul, n_add]]
        simp only [gd_ix (show 6 * i + k < 186 by omega) (by omega), n_cl (show 6 * i + k < 2147483648 by omega), lt_eq, n_suc]
        refine Ok.some ⟨rfl, rfl, rfl, rfl, fun q hq => ?_, fun j q h1 h2 h3 => ?_, f5, fun o ho => ?_⟩
        · show (sJ τ 12 (6 * i + k) 0).2.1 12 (6 * i + q) = 0
          by_cases w : q = k
          · rw [w]; exact sJ_same _ _ _ _
          · rw [sJ_slot (by omega)]; exact f3 q (by omega)
        · show (sJ τ 12 (6 * i + k) 0).2.1 12 (6 * j + q) = _
          rw [sJ_slot (by omega)]; exact f4 j q h1 h2 h3
        · show (sJ τ 12 (6 * i + k) 0).2.1 o = _
          rw [sJ_o ho]; exact f6 o ho
      · rintro ⟨v1, v2, v3, v4, τ⟩ ⟨f0, f00, f000, f2, f3, f4, f5, f6⟩
        simp only at f0 f00 f000 f2 f3 f4 f5 f6
        subst f0 f00 f000 f2
        show Ok (b_X9_runs_46 (nI i) (nI (sgn l i)) (nI (armsN (sgn l i))) (nI 6) τ) _
        unfold b_X9_runs_46
        rw [if_pos (by decide)]
        exact Ok.some ⟨rfl, rfl, rfl, f3, f4, f5, f6⟩
    · rintro ⟨v1, v2, v3, τ⟩ ⟨f0, f00, f000, f3, f4, f5, f6⟩
      simp only at f0 f00 f000 f3 f4 f5 f6
      subst f0 f00 f000
      refine Ok.bind (P := fun r => r.1 = nI i ∧ (∀ j q, i ≤ j → j < l.length → q < 6 → r.2.2.1 12 (6 * j + q) = wyA rl on l j q) ∧ r.2.1 = τ0.1 ∧ (∀ o, o ≠ 12 → r.2.2.1 o = ρ.2.1 o)) ?_ ?_
      · refine Ok.for rl.length (fun k s => s.1 = nI i ∧ s.2.1 = nI (sgn l i) ∧ s.2.2.1 = nI (armsN (sgn l i)) ∧ s.2.2.2.1 = nI k ∧ (∀ q, q < 6 → s.2.2.2.2.2.1 12 (6 * i + q) = wyK rl on (sgn l i) (wyA rl on l (i + 1)) (wyA rl on l (i + 1 + partL l (i + 1))) k q) ∧ (∀ j q, i + 1 ≤ j → j < l.length → q < 6 → s.2.2.2.2.2.1 12 (6 * j + q) = wyA rl on l j q) ∧ s.2.2.2.2.1 = τ0.1 ∧ (∀ o, o ≠ 12 → s.2.2.2.2.2.1 o = ρ.2.1 o)) ?_ ?_ 0 (by omega) _ ⟨rfl, rfl, rfl, rfl, fun q hq => by rw [wyK]; exact f3 q hq, f4, f5, f6⟩
        · rintro k ⟨v1, v2, v3, v4, ω⟩ hk ⟨g0, g00, g000, k2, k3, k4, k5, k6⟩
          simp only at g0 g00 g000 k2 k3 k4 k5 k6
          subst g0 g00 g000 k2
          show Ok (b_X9_runs_75 (nI i) (nI (sgn l i)) (nI (armsN (sgn l i))) (nI k) ω) _
          have eo : ∀ o, o ≠ 10 → ω.1 o = ρ.1 o := fun o ho => by rw [k5]; exact g2 o ho
          obtain ⟨m1, m2, m3, m4⟩ := LM k hk
          obtain ⟨r1, r2, r3, r4⟩ := ruL_ok hrl hk
          have no : ¬ (bN on k = 1 ∧ (ruA rl k).1 = sgn l i) → Ok (j_X9_runs_221 (nI i) (nI (sgn l i)) (nI (armsN (sgn l i))) (nI k) ω) (SumP (fun s => s.1 = nI i ∧ s.2.1 = nI (sgn l i) ∧ s.2.2.1 = nI (armsN (sgn l i)) ∧ s.2.2.2.1 = nI (k + 1) ∧ (∀ q, q < 6 → s.2.2.2.2.2.1 12 (6 * i + q) = wyK rl on (sgn l i) (wyA rl on l (i + 1)) (wyA rl on l (i + 1 + partL l (i + 1))) (k + 1) q) ∧ (∀ j q, i + 1 ≤ j → j < l.length → q < 6 → s.2.2.2.2.2.1 12 (6 * j + q) = wyA rl on l j q) ∧ s.2.2.2.2.1 = τ0.1 ∧ (∀ o, o ≠ 12 → s.2.2.2.2.2.1 o = ρ.2.1 o)) (fun r => r.1 = nI i ∧ (∀ j q, i ≤ j → j < l.length → q < 6 → r.2.2.1 12 (6 * j + q) = wyA rl on l j q) ∧ r.2.1 = τ0.1 ∧ (∀ o, o ≠ 12 → r.2.2.1 o = ρ.2.1 o))) := by
            intro w
            unfold j_X9_runs_221
            exact Ok.lt (Ok.some ⟨rfl, rfl, rfl, n_suc k, fun q hq => by rw [wyK_no (fun z => w ⟨z.1, z.2.1⟩)]; exact k3 q hq, k4, k5, k6⟩)
          have fin : ∀ z, bN on k = 1 → (ruA rl k).1 = sgn l i → z = wyV (ruA rl k) (wyA rl on l (i + 1)) (wyA rl on l (i + 1 + partL l (i + 1))) → Ok (j_X9_runs_178 z (nI i) (nI (sgn l i)) (nI (armsN (sgn l i))) (nI k) ω) (SumP (fun s => s.1 = nI i ∧ s.2.1 = nI (sgn l i) ∧ s.2.2.1 = nI (armsN (sgn l i)) ∧ s.2.2.2.1 = nI (k + 1) ∧ (∀ q, q < 6 → s.2.2.2.2.2.1 12 (6 * i + q) = wyK rl on (sgn l i) (wyA rl on l (i + 1)) (wyA rl on l (i + 1 + partL l (i + 1))) (k + 1) q) ∧ (∀ j q, i + 1 ≤ j → j < l.length → q < 6 → s.2.2.2.2.2.1 12 (6 * j + q) = wyA rl on l j q) ∧ s.2.2.2.2.1 = τ0.1 ∧ (∀ o, o ≠ 12 → s.2.2.2.2.2.1 o = ρ.2.1 o)) (fun r => r.1 = nI i ∧ (∀ j q, i ≤ j → j < l.length → q < 6 → r.2.2.1 12 (6 * j + q) = wyA rl on l j q) ∧ r.2.1 = τ0.1 ∧ (∀ o, o ≠ 12 → r.2.2.1 o = ρ.2.1 o))) := by
            intro z c1 c2 hz
            unfold j_X9_runs_178 j_X9_runs_221
            simp only [gd_ix (show k < 32 by omega) (by omega), n_cl (show k < 2147483648 by omega), eo 6 (by omega), m4, show (6 : Int32) * nI i + nI (ruA rl k).2.2.2 = nI (6 * i + (ruA rl k).2.2.2) by rw [show (6 : Int32) = nI 6 from rfl, n_mul, n_add], gd_ix (show 6 * i + (ruA rl k).2.2.2 < 186 by omega) (by omega), n_cl (show 6 * i + (ruA rl k).2.2.2 < 2147483648 by omega), lt_eq, n_suc]
            refine Ok.some ⟨rfl, rfl, rfl, rfl, fun q hq => ?_, fun j q h1 h2 h3 => ?_, k5, fun o ho => ?_⟩
            · show (sJ ω 12 (6 * i + (ruA rl k).2.2.2) _).2.1 12 (6 * i + q) = _
              by_cases w : q = (ruA rl k).2.2.2
              · rw [w, sJ_same, k3 _ r4, wyK_yes ⟨c1, c2, rfl⟩, hz]
                rfl
              · rw [sJ_slot (by omega), wyK_no (fun z => w z.2.2.symm)]; exact k3 q hq
            · show (sJ ω 12 (6 * i + (ruA rl k).2.2.2) _).2.1 12 (6 * j + q) = _
              rw [sJ_slot (by omega)]; exact k4 j q h1 h2 h3
            · show (sJ ω 12 (6 * i + (ruA rl k).2.2.2) _).2.1 o = _
              rw [sJ_o ho]; exact k6 o ho
          unfold b_X9_runs_75
          simp only [show (0 : Int32).toNatClampNeg = 0 from rfl, eo 2 (by omega), eo 3 (by omega), eo 4 (by omega), eo 7 (by omega), L2, L7]
          rw [if_neg (by rw [n_le (by omega) (by omega)]; omega), has_R (by omega) (by omega)]
          by_cases c1 : bN on k = 1
          · rw [c1, if_neg (by decide), gd_ix (by omega) (by omega)]
            simp only [n_cl (show k < 2147483648 by omega), m1, m2, n_eq (show (ruA rl k).1 < 2147483648 by omega) (show sgn l i < 2147483648 by omega)]
            by_cases c2 : (ruA rl k).1 = sgn l i
            · rw [if_pos c2]
              have second : armsN (sgn l i) = 2 → f_X9_second (nI i) ω = some (nI (i + 1 + partL l (i + 1))) := by
                intro a0
                obtain ⟨p1, p2⟩ := part_2 nd hi a0
                unfold f_X9_second
                rw [n_suc, gd_ix (by omega) (by omega), n_cl (by omega), k5, g1 (i + 1) (by omega), n_add]
              rcases arms_cases (sgn l i) with a0 | a0 | a0
              · rw [if_pos (by rw [a0]; decide)]
                unfold j_X9_runs_138
                rw [if_pos (by rw [a0]; decide)]
                refine fin _ c1 c2 ?_
                unfold wyV
                rw [if_pos (by rw [c2]; exact a0)]
              · obtain ⟨p1, p2⟩ := part_1 nd hi a0
                rw [if_neg (by rw [a0]; decide), gd_ix (by omega) (by omega), armV_yes (by rw [c2, a0]; omega), n_suc, show (6 : Int32) * nI (i + 1) + nI (ruA rl k).2.1 = nI (6 * (i + 1) + (ruA rl k).2.1) by rw [show (6 : Int32) = nI 6 from rfl, n_mul, n_add], gd_ix (by omega) (by omega), n_cl (by omega), k4 _ _ (Nat.le_refl _) p2 r2]
                unfold j_X9_runs_138
                rw [if_pos (by rw [a0]; decide)]
                refine fin _ c1 c2 ?_
                unfold wyV
                rw [c2, if_neg (by omega), if_pos a0]
              · obtain ⟨p1, p2⟩ := part_2 nd hi a0
                rw [if_neg (by rw [a0]; decide), gd_ix (by omega) (by omega), armV_yes (by rw [c2, a0]; omega), n_suc, show (6 : Int32) * nI (i + 1) + nI (ruA rl k).2.1 = nI (6 * (i + 1) + (ruA rl k).2.1) by rw [show (6 : Int32) = nI 6 from rfl, n_mul, n_add], gd_ix (by omega) (by omega), n_cl (by omega), k4 _ _ (Nat.le_refl _) (by omega) r2]
                unfold j_X9_runs_138
                rw [if_neg (by rw [a0]; decide), second a0, Option.bind_some, gd_ix (by omega) (by omega)]
                simp only [n_cl (show k < 2147483648 by omega), eo 5 (by omega), m3, armV_yes (show 2 ≤ armsN (ruA rl k).1 by rw [c2, a0]; omega), show (6 : Int32) * nI (i + 1 + partL l (i + 1)) + nI (ruA rl k).2.2.1 = nI (6 * (i + 1 + partL l (i + 1)) + (ruA rl k).2.2.1) by rw [show (6 : Int32) = nI 6 from rfl, n_mul, n_add], gd_ix (show 6 * (i + 1 + partL l (i + 1)) + (ruA rl k).2.2.1 < 186 by omega) (by omega), n_cl (show 6 * (i + 1 + partL l (i + 1)) + (ruA rl k).2.2.1 < 2147483648 by omega), k4 (i + 1 + partL l (i + 1)) _ (by omega) p2 r3]
                refine fin _ c1 c2 ?_
                unfold wyV
                rw [c2, if_neg (by omega), if_neg (by omega)]
                rfl
            · rw [if_neg c2]; exact no (fun z => c2 z.2)
          · rw [b01 c1, if_pos z0]; exact no (fun z => c1 z.1)
        · rintro ⟨v1, v2, v3, v4, ω⟩ ⟨g0, g00, g000, k2, k3, k4, k5, k6⟩
          simp only at g0 g00 g000 k2 k3 k4 k5 k6
          subst g0 g00 g000 k2
          show Ok (b_X9_runs_75 (nI i) (nI (sgn l i)) (nI (armsN (sgn l i))) (nI rl.length) ω) _
          unfold b_X9_runs_75
          rw [show (0 : Int32).toNatClampNeg = 0 from rfl, k5, g2 2 (by omega), L2, if_pos (by rw [n_le (by omega) (by omega)]; omega)]
          refine Ok.some ⟨rfl, fun j q h1 h2 h3 => ?_, k5, k6⟩
          by_cases w : j = i
          · show ω.2.1 12 (6 * j + q) = _
            rw [w, k3 q h3]
            show _ = upA (wyF rl on) (fun _ => 0) l i q
            rw [upA_get _ _ hi]
            rfl
          · exact k4 j q (by omega) h2 h3
      · rintro ⟨v1, ω⟩ ⟨k1, k4, k5, k6⟩
        simp only at k1 k4 k5 k6
        subst k1
        exact Ok.lt (Ok.some ⟨rfl, by omega, k4, k5, k6⟩)
  · rintro ⟨v, υ⟩ ⟨e1, e2, e3, e4, e5⟩
    simp only at e1 e3 e4 e5
    subst e1
    show Ok (b_X9_runs_25 (nI 0 + (-1)) υ) _
    unfold b_X9_runs_25
    rw [if_pos m1_lt0]
    exact Ok.some ⟨fun j q hj hq => e3 j q (by omega) hj hq, e4, e5⟩
theorem runs_R {A : AS} {ρ : Mem} (h : RepR A ρ) (hA : WfA A) (hne : 0 < (trA A).length) : Ok (f_X9_runs ρ) (fun r => r.1 = (remL (gwK (wyA (rlA A) (onA A) (trA A) 0) (gdA A) 6)).toInt32 ∧ RepR A r.2) := by
  have hw := hA.2.2.2.2.2.2.1
  have hl := hw.2.1
  have hg := hA.2.2.2.2.2.1
  unfold f_X9_runs
  rw [show (2 : Int32).toNatClampNeg = 2 from rfl, h.sg.1, if_neg (by rw [show (0 : Int32) = nI 0 from rfl, n_eq (by omega) (by omega)]; omega)]
  refine Ok.bind (parts_R h.sg hw) ?_
  rintro τ ⟨g1, g2, g3⟩
  rw [g2 7 (by omega), h.sg.1, n_sub1]
  refine Ok.lt (Ok.bind (ways_R h hA g1 g2 g3) ?_)
  rintro υ ⟨e1, e2, e3⟩
  have e7 : υ.1 7 = ρ.1 7 := by rw [e2]; exact g2 7 (by omega)
  have key : Ok (Lim (T := Int64) (fun s => b_X9_runs_237 s.1 s.2 υ) ((0 : Int64), (0 : Int32))) (fun v => v = gwK (wyA (rlA A) (onA A) (trA A) 0) (gdA A) 6) := by
    refine Ok.for 6 (fun k s => s = (gwK (wyA (rlA A) (onA A) (trA A) 0) (gdA A) k, nI k)) ?_ ?_ 0 (by omega) _ (by rw [gwK]; rfl)
    · rintro k _ hk rfl
      show Ok (b_X9_runs_237 (gwK (wyA (rlA A) (onA A) (trA A) 0) (gdA A) k) (nI k) υ) _
      unfold b_X9_runs_237 j_X9_runs_267
      rw [if_neg (by rw [show (6 : Int32) = nI 6 from rfl, n_le (by omega) (by omega)]; omega), show (1 : Int32).toNatClampNeg = 0 + 1 from rfl, e7, h.2.2.1.2.1, has_R (by omega) (by omega)]
      by_cases c : bN (gdA A) k = 1
      · rw [c, if_neg (by decide), gd_ix (by omega) (by omega), n_cl (by omega)]
        refine Ok.lt (Ok.lt (Ok.some ?_))
        have := e1 0 k hne hk
        rw [show 6 * 0 + k = k by omega] at this
        rw [gwK_yes c, this, n_suc]
      · rw [b01 c, if_pos z0]
        refine Ok.lt (Ok.lt (Ok.some ?_))
        rw [gwK_no c, n_suc, Int64.add_zero]
    · rintro _ rfl
      exact Ok.some rfl
  refine Ok.bind key (fun v hv => Ok.some ⟨by rw [hv]; rfl, ?_⟩)
  exact h.scr (by rw [e2, g2 0 (by omega)]) (fun o o1 o2 => by rw [e2]; exact g2 o (by omega)) (by rw [e3 0 (by omega)])
theorem runs_RC {A : AS} {σ ρ : Mem} (h : RepC A σ) (g : RepR A ρ) (hA : WfA A) : Both A σ (f_X8_runs σ) (f_X9_runs ρ) := by
  have hl := hA.2.2.2.2.2.2.1.2.1
  by_cases z : (trA A).length = 0
  · refine ⟨-2, A, σ, ρ, ?_, ?_, h, g, hA, rfl, PF.rf⟩
    · unfold f_X8_runs
      rw [h.2.2.2.2.1.1, z, if_pos (by decide)]
    · unfold f_X9_runs
      rw [show (2 : Int32).toNatClampNeg = 2 from rfl, g.sg.1, z, if_pos (by decide)]
  · exact Both.mk (runs_C h hA (by omega)) (runs_R g hA (by omega)) hA rfl
