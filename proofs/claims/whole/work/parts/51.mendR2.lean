/-! mend: the reference, and both -/
theorem wsN_cpt {rl : List Ru} {on s k q i : Nat} {X Y : Nat → List Nat → Prop} {st : Nat → Option Nat} (h : ¬ (bN on k = 1 ∧ armsN (ruA rl k).1 = armsN s ∧ (ruA rl k).2.2.2 = q ∧ (st i = none ∨ st i = some (ruA rl k).1))) (w : List Nat) : (wsN rl on s X Y k q w ∧ cpt st i w) ↔ (wsN rl on s X Y (k + 1) q w ∧ cpt st i w) := by
  constructor
  · rintro ⟨⟨j, j1, j2⟩, j3⟩
    exact ⟨⟨j, by omega, j2⟩, j3⟩
  · rintro ⟨⟨j, j1, j2⟩, j3⟩
    by_cases e : j = k
    · rw [e] at j2
      obtain ⟨a1, a2, a3, w1, w2, _, _, _, _, a4⟩ := j2
      rw [a4] at j3
      exact absurd ⟨a1, a2, a3, j3.1⟩ h
    · exact ⟨⟨j, by omega, j2⟩, j3⟩
theorem costs_R {ρ : Mem} {l : List Nat} {rl : List Ru} {on : Nat} {st : Nat → Option Nat} (hM : RefM ρ rl on l st) (hw : WfT l) (hrl : ∀ r ∈ rl, OkRu r) (hll : rl.length ≤ 16) (ho : on < 65536) : Ok (Lim (T := Mem) (fun s => b_X9_costAll_9 s.1 s.2) (nI l.length + (-1), ρ)) (fun τ => (∀ j q, j < l.length → q < 6 → CellR τ (6 * j + q) j l (fun w => ws rl on l j q w ∧ cpt st j w)) ∧ (∀ o, o ≠ 13 → τ.1 o = ρ.1 o) ∧ τ.2 = ρ.2) := by
  have hl := hw.2.1
  refine Ok.down (fun m s => s.1 = nI m + (-1) ∧ m ≤ l.length ∧ (∀ j q, m ≤ j → j < l.length → q < 6 → CellR s.2 (6 * j + q) j l (fun w => ws rl on l j q w ∧ cpt st j w)) ∧ (∀ o, o ≠ 13 → s.2.1 o = ρ.1 o) ∧ s.2.2 = ρ.2) ?_ ?_ l.length _ ⟨rfl, Nat.le_refl _, fun j q h1 h2 => by omega, fun o _ => rfl, rfl⟩
  · rintro i ⟨v, υ⟩ ⟨e1, e2, e3, e4, e5⟩
    simp only at e1 e3 e4 e5
    rw [m1_S] at e1
    subst e1
    have hi : i < l.length := by omega
    have h8 := sgn_lt hw hi
    have ha := armsN_le (sgn l i)
    have M1 := hM.cg e4
    show Ok (b_X9_costAll_9 (nI i) υ) _
    unfold b_X9_costAll_9
    rw [if_neg (not_n0 (by omega)), n_3, gd_ix (by omega) (by omega), n_cl (by omega), M1.1.2 i hi, arms_R (by omega)]
    refine Ok.lt (Ok.bind (P := fun r => r.1 = nI i ∧ r.2.1 = nI (armsN (sgn l i)) ∧ (∀ q, q < 6 → CellR r.2.2 (6 * i + q) i l (fun w => wsN rl on (sgn l i) (ws rl on l (i + 1)) (ws rl on l (i + 1 + partL l (i + 1))) 0 q w ∧ cpt st i w)) ∧ (∀ j q, i + 1 ≤ j → j < l.length → q < 6 → CellR r.2.2 (6 * j + q) j l (fun w => ws rl on l j q w ∧ cpt st j w)) ∧ (∀ o, o ≠ 13 → r.2.2.1 o = ρ.1 o) ∧ r.2.2.2 = ρ.2) ?_ ?_)
    · refine Ok.for 6 (fun k s => s.1 = nI i ∧ s.2.1 = nI (armsN (sgn l i)) ∧ s.2.2.1 = nI k ∧ (∀ q, q < k → CellR s.2.2.2 (6 * i + q) i l (fun w => wsN rl on (sgn l i) (ws rl on l (i + 1)) (ws rl on l (i + 1 + partL l (i + 1))) 0 q w ∧ cpt st i w)) ∧ (∀ j q, i + 1 ≤ j → j < l.length → q < 6 → CellR s.2.2.2 (6 * j + q) j l (fun w => ws rl on l j q w ∧ cpt st j w)) ∧ (∀ o, o ≠ 13 → s.2.2.2.1 o = ρ.1 o) ∧ s.2.2.2.2 = ρ.2) ?_ ?_ 0 (by omega) _ ⟨rfl, rfl, rfl, fun q hq => by omega, e3, e4, e5⟩
      · rintro k ⟨v1, v2, v3, τ⟩ hk ⟨f0, f1, f2, f3, f4, f5, f6⟩
        simp only at f0 f1 f2 f3 f4 f5 f6
        subst f0 f1 f2
        show Ok (b_X9_costAll_27 (nI i) (nI (armsN (sgn l i))) (nI k) τ) _
        unfold b_X9_costAll_27
        rw [if_neg (by rw [show (6 : Int32) = nI 6 from rfl, n_le (by omega) (by omega)]; omega), show (6 : Int32) * nI i + nI k = nI (6 * i + k) by rw [show (6 : Int32) = nI 6 from rfl, n_mul, n_add]]
        simp only [gd_ix (show 6 * i + k < 186 by omega) (by omega), n_cl (show 6 * i + k < 2147483648 by omega), lt_eq, n_suc]
        refine Ok.some ⟨rfl, rfl, rfl, fun q hq => ?_, fun j q h1 h2 h3 => ?_, fun o ho => ?_, f6⟩
        · by_cases w : q = k
          · rw [w]
            exact ⟨999, sI_same _ _ _ _, by omega, Or.inl ⟨rfl, fun w ⟨⟨j, j1, _⟩, _⟩ => by omega⟩⟩
          · exact (f3 q (by omega)).cg (sI_slot (by omega)) (fun _ => Iff.rfl)
        · exact (f4 j q h1 h2 h3).cg (sI_slot (by omega)) (fun _ => Iff.rfl)
        · show (sI τ 13 (6 * i + k) 999).1 o = _
          rw [sI_o ho]; exact f5 o ho
      · rintro ⟨v1, v2, v3, τ⟩ ⟨f0, f1, f2, f3, f4, f5, f6⟩
        simp only at f0 f1 f2 f3 f4 f5 f6
        subst f0 f1 f2
        show Ok (b_X9_costAll_27 (nI i) (nI (armsN (sgn l i))) (nI 6) τ) _
        unfold b_X9_costAll_27
        rw [if_pos (by decide)]
        exact Ok.some ⟨rfl, rfl, f3, f4, f5, f6⟩
    · rintro ⟨v1, v2, τ⟩ ⟨f0, f1, f3, f4, f5, f6⟩
      simp only at f0 f1 f3 f4 f5 f6
      subst f0 f1
      refine Ok.bind (P := fun r => r.1 = nI i ∧ (∀ j q, i ≤ j → j < l.length → q < 6 → CellR r.2 (6 * j + q) j l (fun w => ws rl on l j q w ∧ cpt st j w)) ∧ (∀ o, o ≠ 13 → r.2.1 o = ρ.1 o) ∧ r.2.2 = ρ.2) ?_ ?_
      · refine Ok.for rl.length (fun k s => s.1 = nI i ∧ s.2.1 = nI (armsN (sgn l i)) ∧ s.2.2.1 = nI k ∧ (∀ q, q < 6 → CellR s.2.2.2 (6 * i + q) i l (fun w => wsN rl on (sgn l i) (ws rl on l (i + 1)) (ws rl on l (i + 1 + partL l (i + 1))) k q w ∧ cpt st i w)) ∧ (∀ j q, i + 1 ≤ j → j < l.length → q < 6 → CellR s.2.2.2 (6 * j + q) j l (fun w => ws rl on l j q w ∧ cpt st j w)) ∧ (∀ o, o ≠ 13 → s.2.2.2.1 o = ρ.1 o) ∧ s.2.2.2.2 = ρ.2) ?_ ?_ 0 (by omega) _ ⟨rfl, rfl, rfl, f3, f4, f5, f6⟩
        · rintro k ⟨v1, v2, v3, ω⟩ hk ⟨g0, g1, g2, g3, g4, g5, g6⟩
          simp only at g0 g1 g2 g3 g4 g5 g6
          subst g0 g1 g2
          show Ok (b_X9_costAll_55 (nI i) (nI (armsN (sgn l i))) (nI k) ω) _
          have M2 := hM.cg g5
          obtain ⟨m1, m2, m3, m4⟩ := M2.2.2.1 k hk
          obtain ⟨r1, r2, r3, r4⟩ := ruL_ok hrl hk
          have no : ¬ (bN on k = 1 ∧ armsN (ruA rl k).1 = armsN (sgn l i) ∧ (st i = none ∨ st i = some (ruA rl k).1)) → Ok (j_X9_costAll_121 (nI i) (nI (armsN (sgn l i))) (nI k) ω) (SumP (fun s => s.1 = nI i ∧ s.2.1 = nI (armsN (sgn l i)) ∧ s.2.2.1 = nI (k + 1) ∧ (∀ q, q < 6 → CellR s.2.2.2 (6 * i + q) i l (fun w => wsN rl on (sgn l i) (ws rl on l (i + 1)) (ws rl on l (i + 1 + partL l (i + 1))) (k + 1) q w ∧ cpt st i w)) ∧ (∀ j q, i + 1 ≤ j → j < l.length → q < 6 → CellR s.2.2.2 (6 * j + q) j l (fun w => ws rl on l j q w ∧ cpt st j w)) ∧ (∀ o, o ≠ 13 → s.2.2.2.1 o = ρ.1 o) ∧ s.2.2.2.2 = ρ.2) (fun r => r.1 = nI i ∧ (∀ j q, i ≤ j → j < l.length → q < 6 → CellR r.2 (6 * j + q) j l (fun w => ws rl on l j q w ∧ cpt st j w)) ∧ (∀ o, o ≠ 13 → r.2.1 o = ρ.1 o) ∧ r.2.2 = ρ.2)) := by
            intro w
            unfold j_X9_costAll_121 j_X9_costAll_122 j_X9_costAll_262
            rw [if_pos rfl]
            exact Ok.lt (Ok.some ⟨rfl, rfl, n_suc k, fun q hq => (g3 q hq).cg rfl (wsN_cpt (fun z => w ⟨z.1, z.2.1, z.2.2.2⟩)), g4, g5, g6⟩)
          have yes : bN on k = 1 → armsN (ruA rl k).1 = armsN (sgn l i) → (st i = none ∨ st i = some (ruA rl k).1) → Ok (j_X9_costAll_117 (nI i) (nI (armsN (sgn l i))) (nI k) ω) (SumP (fun s => s.1 = nI i ∧ s.2.1 = nI (armsN (sgn l i)) ∧ s.2.2.1 = nI (k + 1) ∧ (∀ q, q < 6 → CellR s.2.2.2 (6 * i + q) i l (fun w => wsN rl on (sgn l i) (ws rl on l (i + 1)) (ws rl on l (i + 1 + partL l (i + 1))) (k + 1) q w ∧ cpt st i w)) ∧ (∀ j q, i + 1 ≤ j → j < l.length → q < 6 → CellR s.2.2.2 (6 * j + q) j l (fun w => ws rl on l j q w ∧ cpt st j w)) ∧ (∀ o, o ≠ 13 → s.2.2.2.1 o = ρ.1 o) ∧ s.2.2.2.2 = ρ.2) (fun r => r.1 = nI i ∧ (∀ j q, i ≤ j → j < l.length → q < 6 → CellR r.2 (6 * j + q) j l (fun w => ws rl on l j q w ∧ cpt st j w)) ∧ (∀ o, o ≠ 13 → r.2.1 o = ρ.1 o) ∧ r.2.2 = ρ.2)) := by
            intro c1 c2 c3
            unfold j_X9_costAll_117
            refine (costRule_R M2 hw hrl hll hi hk c1 c2 c3 (fun j q h1 h2 h3 => g4 j q h1 h2 h3) (g3 _ r4)).mono ?_
            intro x hx
            cases x with
            | inr r => exact absurd hx id
            | inl s =>
              obtain ⟨s1, s2, s3, s4, s5, s6, s7⟩ := hx
              refine ⟨s1, s2, s3, fun q hq => ?_, fun j q h1 h2 h3 => ?_, fun o ho => (s5 o ho).trans (g5 o ho), s7.trans g6⟩
              · by_cases w : q = (ruA rl k).2.2.2
                · rw [w]; exact s4
                · exact (g3 q hq).cg (s6 _ (by omega)) (wsN_cpt (fun z => w z.2.2.1.symm))
              · exact (g4 j q h1 h2 h3).cg (s6 _ (by omega)) (fun _ => Iff.rfl)
          unfold b_X9_costAll_55
          rw [show (0 : Int32).toNatClampNeg = 0 from rfl, M2.2.1, if_neg (by rw [n_le (by omega) (by omega)]; omega), M2.2.2.2.1, has_R (by omega) (by omega)]
          by_cases c1 : bN on k = 1
          · rw [c1, if_neg (by decide), gd_ix (by omega) (by omega)]
            simp only [n_cl (show k < 2147483648 by omega), n_cl (show i < 2147483648 by omega), m1, arms_R (show (ruA rl k).1 < 2147483648 by omega), armsN_inj, gd_ix (show i < 31 by omega) (by omega), gd_ix (show k < 32 by omega) (by omega)]
            by_cases c2 : armsN (ruA rl k).1 = armsN (sgn l i)
            · rw [if_pos c2]
              have hst := M2.2.2.2.2.2 i (by omega)
              cases hs : st i with
              | none =>
                rw [hs] at hst
                have hst : ω.1 14 i = -9 := hst
                rw [hst, if_pos (by decide)]
                exact yes c1 c2 (Or.inl hs)
              | some v =>
                rw [hs] at hst
                obtain ⟨t1, t2⟩ := hst
                rw [t1, if_neg (n_ne9 (by omega))]
                simp only [n_eq (show v < 2147483648 by omega) (show (ruA rl k).1 < 2147483648 by omega)]
                by_cases c3 : v = (ruA rl k).1
                · rw [if_pos c3]; exact yes c1 c2 (Or.inr (by rw [hs, c3]))
                · rw [if_neg c3]
                  refine no (fun z => ?_)
                  rcases z.2.2 with z | z
                  · rw [hs] at z; exact absurd z (by simp)
                  · rw [hs] at z; exact c3 (Option.some.inj z)
            · rw [if_neg c2]; exact no (fun z => c2 z.2.1)
          · rw [b01 c1, if_pos z0]; exact no (fun z => c1 z.1)
        · rintro ⟨v1, v2, v3, ω⟩ ⟨g0, g1, g2, g3, g4, g5, g6⟩
          simp only at g0 g1 g2 g3 g4 g5 g6
          subst g0 g1 g2
          show Ok (b_X9_costAll_55 (nI i) (nI (armsN (sgn l i))) (nI rl.length) ω) _
          unfold b_X9_costAll_55
          rw [show (0 : Int32).toNatClampNeg = 0 from rfl, (hM.cg g5).2.1, if_pos (by rw [n_le (by omega) (by omega)]; omega)]
          refine Ok.some ⟨rfl, fun j q h1 h2 h3 => ?_, g5, g6⟩
          by_cases w : j = i
          · rw [w]
            refine (g3 q h3).cg rfl (fun u => ?_)
            show _ ↔ (upA (wsF rl on) (fun _ _ => False) l i q u ∧ cpt st i u)
            rw [upA_get _ _ hi]
            exact Iff.rfl
          · exact g4 j q (by omega) h2 h3
      · rintro ⟨v1, ω⟩ ⟨g1, g4, g5, g6⟩
        simp only at g1 g4 g5 g6
        subst g1
        exact Ok.lt (Ok.some ⟨rfl, by omega, g4, g5, g6⟩)
  · rintro ⟨v, υ⟩ ⟨e1, e2, e3, e4, e5⟩
    simp only at e1 e3 e4 e5
    subst e1
    show Ok (b_X9_costAll_9 (nI 0 + (-1)) υ) _
    unfold b_X9_costAll_9
    rw [if_pos m1_lt0]
    exact Ok.some ⟨fun j q hj hq => e3 j q (by omega) hj hq, e4, e5⟩
theorem costAll_R {ρ : Mem} {l : List Nat} {rl : List Ru} {on g : Nat} {st : Nat → Option Nat} (hM : RefM ρ rl on l st) (hw : WfT l) (hne : 0 < l.length) (hrl : ∀ r ∈ rl, OkRu r) (hll : rl.length ≤ 16) (ho : on < 65536) (hg : g < 64) (h71 : ρ.1 7 1 = nI g) : Ok (f_X9_costAll ρ) (fun r => (∃ c, r.1 = nI c ∧ c ≤ 999 ∧ Bst 999 (fun w => gdW rl on l g 6 w ∧ cpt st 0 w) (cs l) (fun _ => 0) c 0) ∧ (∀ o, o ≠ 13 → r.2.1 o = ρ.1 o) ∧ r.2.2 = ρ.2) := by
  unfold f_X9_costAll
  rw [show (2 : Int32).toNatClampNeg = 2 from rfl, hM.1.1, n_sub1]
  refine Ok.lt (Ok.bind (costs_R hM hw hrl hll ho) ?_)
  rintro τ ⟨e1, e2, e3⟩
  refine Ok.bind (P := fun v => ∃ c, v = nI c ∧ c ≤ 999 ∧ Bst 999 (fun w => gdW rl on l g 6 w ∧ cpt st 0 w) (cs l) (fun _ => 0) c 0) ?_ (fun v hv => Ok.some ⟨hv, e2, e3⟩)
  refine Ok.for 6 (fun k s => s.2 = nI k ∧ ∃ c, s.1 = nI c ∧ c ≤ 999 ∧ Bst 999 (fun w => gdW rl on l g k w ∧ cpt st 0 w) (cs l) (fun _ => 0) c 0) ?_ ?_ 0 (by omega) _ ⟨rfl, 999, rfl, by omega, Or.inl ⟨rfl, fun w ⟨⟨q, q1, _⟩, _⟩ => by omega⟩⟩
  · rintro k ⟨v1, v2⟩ hk ⟨f1, c, f2, f3, f4⟩
    simp only at f1 f2
    subst f1 f2
    show Ok (b_X9_costAll_280 (nI c) (nI k) τ) _
    obtain ⟨C, x1, x3, x5⟩ := e1 0 k hne hk
    rw [List.drop_zero] at x5
    rw [show 6 * 0 + k = k by omega] at x1
    unfold b_X9_costAll_280 j_X9_costAll_318 j_X9_costAll_319
    rw [if_neg (by rw [show (6 : Int32) = nI 6 from rfl, n_le (by omega) (by omega)]; omega), show (1 : Int32).toNatClampNeg = 1 from rfl, e2 7 (by omega), h71, has_R (by omega) (by omega)]
    by_cases b : bN g k = 1
    · have hU : ∀ w, (gdW rl on l g (k + 1) w ∧ cpt st 0 w) ↔ ((gdW rl on l g k w ∧ cpt st 0 w) ∨ (ws rl on l 0 k w ∧ cpt st 0 w)) := by
        intro w
        rw [gdW_S b w, or_and_right]
      obtain ⟨j1, j2⟩ := f4.join hU (Or.inr x5)
      rw [b, if_neg (by decide), gd_ix (by omega) (by omega)]
      simp only [n_cl (show k < 2147483648 by omega), x1, gd_ix (show k < 186 by omega) (by omega), n_le (show c < 2147483648 by omega) (show C < 2147483648 by omega)]
      by_cases b2 : c ≤ C
      · rw [if_pos b2]
        exact Ok.lt (Ok.some ⟨n_suc k, c, rfl, f3, j2 (by omega)⟩)
      · rw [if_neg b2]
        exact Ok.lt (Ok.some ⟨n_suc k, C, rfl, x3, j1 (by omega)⟩)
    · rw [b01 b, if_pos z0]
      refine Ok.lt (Ok.some ⟨n_suc k, c, rfl, f3, f4.cg (fun w => ?_)⟩)
      rw [gdW_N b w]
  · rintro ⟨v1, v2⟩ ⟨f1, c, f2, f3, f4⟩
    simp only at f1 f2
    subst f1 f2
    show Ok (b_X9_costAll_280 (nI c) (nI 6) τ) _
    unfold b_X9_costAll_280
    rw [if_pos (by decide)]
    exact Ok.some ⟨c, rfl, f3, f4⟩
