/-! mend: the class -/
theorem CellC.cg {σ σ' : Mem} {p i : Nat} {l : List Nat} {S S' : List Nat → Prop} (h : CellC σ p i l S) (e1 : σ'.1 7 p = σ.1 7 p) (e2 : σ'.2.1 8 p = σ.2.1 8 p) (e : ∀ w, S w ↔ S' w) : CellC σ' p i l S' := by
  obtain ⟨c, d, h1, h2, h3, h4, h5⟩ := h
  exact ⟨c, d, by rw [e1]; exact h1, by rw [e2]; exact h2, h3, h4, h5.cg e⟩
theorem wsN_other {rl : List Ru} {on s k q : Nat} {X Y : Nat → List Nat → Prop} (h : ¬ (bN on k = 1 ∧ armsN (ruA rl k).1 = armsN s ∧ (ruA rl k).2.2.2 = q)) (w : List Nat) : wsN rl on s X Y k q w ↔ wsN rl on s X Y (k + 1) q w := by
  constructor
  · rintro ⟨j, j1, j2⟩
    exact ⟨j, by omega, j2⟩
  · rintro ⟨j, j1, j2⟩
    by_cases e : j = k
    · rw [e] at j2
      exact absurd ⟨j2.1, j2.2.1, j2.2.2.1⟩ h
    · exact ⟨j, by omega, j2⟩
theorem weigh_C {σ : Mem} {t1 t2 : Nat} {l : List Nat} {rl : List Ru} {on : Nat} (hT : TreeC σ t1 l) (hL : LawC σ t2 rl) (hw : WfT l) (hrl : ∀ r ∈ rl, OkRu r) (hll : rl.length ≤ 16) (ho : on < 65536) (d1 : 7 < t1) (d2 : 7 < t2) : Ok (f_X0_weighChanges t1 t2 (nI on) σ) (fun σ' => (∀ j q, j < l.length → q < 6 → CellC σ' (6 * j + q) j l (ws rl on l j q)) ∧ (∀ o, o ≠ 7 → σ'.1 o = σ.1 o) ∧ (∀ o, o ≠ 8 → σ'.2.1 o = σ.2.1 o) ∧ σ'.2.2 = σ.2.2) := by
  have hl := hw.2.1
  unfold f_X0_weighChanges
  rw [hT.1, n_sub1]
  refine Ok.lt (Ok.bind (P := fun σ' => (∀ j q, j < l.length → q < 6 → CellC σ' (6 * j + q) j l (ws rl on l j q)) ∧ (∀ o, o ≠ 7 → σ'.1 o = σ.1 o) ∧ (∀ o, o ≠ 8 → σ'.2.1 o = σ.2.1 o) ∧ σ'.2.2 = σ.2.2) ?_ (fun r hr => Ok.some hr))
  refine Ok.down (fun m s => s.1 = nI m + (-1) ∧ m ≤ l.length ∧ (∀ j q, m ≤ j → j < l.length → q < 6 → CellC s.2 (6 * j + q) j l (ws rl on l j q)) ∧ (∀ o, o ≠ 7 → s.2.1 o = σ.1 o) ∧ (∀ o, o ≠ 8 → s.2.2.1 o = σ.2.1 o) ∧ s.2.2.2 = σ.2.2) ?_ ?_ l.length _ ⟨rfl, Nat.le_refl _, fun j q h1 h2 => by omega, fun o _ => rfl, fun o _ => rfl, rfl⟩
  · rintro i ⟨v, υ⟩ ⟨e1, e2, e3, e4, e5, e6⟩
    simp only at e1 e3 e4 e5 e6
    rw [m1_S] at e1
    subst e1
    have hi : i < l.length := by omega
    show Ok (b_X0_weighChanges_8 t1 t2 (nI on) (nI i) υ) _
    unfold b_X0_weighChanges_8
    rw [if_neg (not_n0 (by omega))]
    refine Ok.bind (P := fun r => r.1 = nI i ∧ (∀ q, q < 6 → CellC r.2 (6 * i + q) i l (wsN rl on (sgn l i) (ws rl on l (i + 1)) (ws rl on l (i + 1 + partL l (i + 1))) 0 q)) ∧ (∀ j q, i + 1 ≤ j → j < l.length → q < 6 → CellC r.2 (6 * j + q) j l (ws rl on l j q)) ∧ (∀ o, o ≠ 7 → r.2.1 o = σ.1 o) ∧ (∀ o, o ≠ 8 → r.2.2.1 o = σ.2.1 o) ∧ r.2.2.2 = σ.2.2) ?_ ?_
    · refine Ok.for 6 (fun k s => s.1 = nI i ∧ s.2.1 = nI k ∧ (∀ q, q < k → CellC s.2.2 (6 * i + q) i l (wsN rl on (sgn l i) (ws rl on l (i + 1)) (ws rl on l (i + 1 + partL l (i + 1))) 0 q)) ∧ (∀ j q, i + 1 ≤ j → j < l.length → q < 6 → CellC s.2.2 (6 * j + q) j l (ws rl on l j q)) ∧ (∀ o, o ≠ 7 → s.2.2.1 o = σ.1 o) ∧ (∀ o, o ≠ 8 → s.2.2.2.1 o = σ.2.1 o) ∧ s.2.2.2.2 = σ.2.2) ?_ ?_ 0 (by omega) _ ⟨rfl, rfl, fun q hq => by omega, e3, e4, e5, e6⟩
      · rintro k ⟨v4, v5, τ⟩ hk ⟨f1, f2, f3, f4, f5, f6, f7⟩
        simp only at f1 f2 f3 f4 f5 f6 f7
        subst f1 f2
        show Ok (b_X0_weighChanges_16 t1 t2 (nI on) (nI i) (nI k) τ) _
        unfold b_X0_weighChanges_16
        rw [if_neg (by rw [show (6 : Int32) = nI 6 from rfl, n_le (by omega) (by omega)]; omega), show nI i * (6 : Int32) + nI k = nI (6 * i + k) by rw [show (6 : Int32) = nI 6 from rfl, n_mul, n_add, Nat.mul_comm]]
        simp only [gd_ix (show 6 * i + k < 186 by omega) (by omega), n_cl (show 6 * i + k < 2147483648 by omega), lt_eq, n_suc]
        have ne : ∀ p, p ≠ 6 * i + k → (sJ (sI τ 7 (6 * i + k) 1000) 8 (6 * i + k) 0).1 7 p = τ.1 7 p ∧ (sJ (sI τ 7 (6 * i + k) 1000) 8 (6 * i + k) 0).2.1 8 p = τ.2.1 8 p := fun p hp => ⟨by show (sI τ 7 (6 * i + k) 1000).1 7 p = _; exact sI_slot hp, by rw [sJ_slot hp]; rfl⟩
        refine Ok.some ⟨rfl, rfl, fun q hq => ?_, fun j q h1 h2 h3 => ?_, fun o ho => ?_, fun o ho => ?_, f7⟩
        · by_cases w : q = k
          · rw [w]
            refine ⟨1000, 0, ?_, sJ_same _ _ _ _, by omega, by omega, Or.inl ⟨rfl, fun w ⟨j, j1, _⟩ => by omega⟩⟩
            show (sI τ 7 (6 * i + k) 1000).1 7 (6 * i + k) = _
            exact sI_same _ _ _ _
          · obtain ⟨n1, n2⟩ := ne (6 * i + q) (by omega)
            exact (f3 q (by omega)).cg n1 n2 (fun _ => Iff.rfl)
        · obtain ⟨n1, n2⟩ := ne (6 * j + q) (by omega)
          exact (f4 j q h1 h2 h3).cg n1 n2 (fun _ => Iff.rfl)
        · show (sI τ 7 (6 * i + k) 1000).1 o = _
          rw [sI_o ho]; exact f5 o ho
        · show (sJ (sI τ 7 (6 * i + k) 1000) 8 (6 * i + k) 0).2.1 o = _
          rw [sJ_o ho]; exact f6 o ho
      · rintro ⟨v4, v5, τ⟩ ⟨f1, f2, f3, f4, f5, f6, f7⟩
        simp only at f1 f2 f3 f4 f5 f6 f7
        subst f1 f2
        show Ok (b_X0_weighChanges_16 t1 t2 (nI on) (nI i) (nI 6) τ) _
        unfold b_X0_weighChanges_16
        rw [if_pos (by decide)]
        exact Ok.some ⟨rfl, f3, f4, f5, f6, f7⟩
    · rintro ⟨v4, τ⟩ ⟨f1, f3, f4, f5, f6, f7⟩
      simp only at f1 f3 f4 f5 f6 f7
      subst f1
      refine Ok.bind (P := fun r => r.1 = nI i ∧ (∀ j q, i ≤ j → j < l.length → q < 6 → CellC r.2 (6 * j + q) j l (ws rl on l j q)) ∧ (∀ o, o ≠ 7 → r.2.1 o = σ.1 o) ∧ (∀ o, o ≠ 8 → r.2.2.1 o = σ.2.1 o) ∧ r.2.2.2 = σ.2.2) ?_ ?_
      · refine Ok.for rl.length (fun k s => s.1 = nI i ∧ s.2.1 = nI k ∧ (∀ q, q < 6 → CellC s.2.2 (6 * i + q) i l (wsN rl on (sgn l i) (ws rl on l (i + 1)) (ws rl on l (i + 1 + partL l (i + 1))) k q)) ∧ (∀ j q, i + 1 ≤ j → j < l.length → q < 6 → CellC s.2.2 (6 * j + q) j l (ws rl on l j q)) ∧ (∀ o, o ≠ 7 → s.2.2.1 o = σ.1 o) ∧ (∀ o, o ≠ 8 → s.2.2.2.1 o = σ.2.1 o) ∧ s.2.2.2.2 = σ.2.2) ?_ ?_ 0 (by omega) _ ⟨rfl, rfl, f3, f4, f5, f6, f7⟩
        · rintro k ⟨v4, v5, ω⟩ hk ⟨g1, g2, g3, g4, g5, g6, g7⟩
          simp only at g1 g2 g3 g4 g5 g6 g7
          subst g1 g2
          show Ok (b_X0_weighChanges_62 t1 t2 (nI on) (nI i) (nI k) ω) _
          obtain ⟨r1, r2, r3, r4⟩ := ruL_ok hrl hk
          have h8 := sgn_lt hw hi
          have hT' : TreeC ω t1 l := hT.cg (fun o h1 h2 => g5 o (by omega))
          have hL' : LawC ω t2 rl := hL.cg (fun o h1 h2 => g5 o (by omega))
          have no : ¬ (bN on k = 1 ∧ armsN (ruA rl k).1 = armsN (sgn l i)) → Ok (j_X0_weighChanges_114 t1 t2 (nI on) (nI i) (nI k) ω) (SumP (fun s => s.1 = nI i ∧ s.2.1 = nI (k + 1) ∧ (∀ q, q < 6 → CellC s.2.2 (6 * i + q) i l (wsN rl on (sgn l i) (ws rl on l (i + 1)) (ws rl on l (i + 1 + partL l (i + 1))) (k + 1) q)) ∧ (∀ j q, i + 1 ≤ j → j < l.length → q < 6 → CellC s.2.2 (6 * j + q) j l (ws rl on l j q)) ∧ (∀ o, o ≠ 7 → s.2.2.1 o = σ.1 o) ∧ (∀ o, o ≠ 8 → s.2.2.2.1 o = σ.2.1 o) ∧ s.2.2.2.2 = σ.2.2) (fun r => r.1 = nI i ∧ (∀ j q, i ≤ j → j < l.length → q < 6 → CellC r.2 (6 * j + q) j l (ws rl on l j q)) ∧ (∀ o, o ≠ 7 → r.2.1 o = σ.1 o) ∧ (∀ o, o ≠ 8 → r.2.2.1 o = σ.2.1 o) ∧ r.2.2.2 = σ.2.2)) := by
            intro w
            unfold j_X0_weighChanges_114
            exact Ok.lt (Ok.some ⟨rfl, n_suc k, fun q hq => (g3 q hq).cg rfl rfl (wsN_other (fun z => w ⟨z.1, z.2.1⟩)), g4, g5, g6, g7⟩)
          unfold b_X0_weighChanges_62
          rw [hL'.1, if_neg (by rw [n_le (by omega) (by omega)]; omega), bit_C (by omega) (by omega)]
          by_cases c1 : bN on k = 1
          · rw [c1, if_pos z1, gd_ix (by omega) (by omega), gd_ix (by omega) (by omega)]
            simp only [n_cl (show k < 2147483648 by omega), n_cl (show i < 2147483648 by omega), (hL'.2 k hk).1, (hT'.2 i hi).1, arms_C (show (ruA rl k).1 < 2147483648 by omega), arms_C (show sgn l i < 2147483648 by omega), armsN_inj]
            by_cases c2 : armsN (ruA rl k).1 = armsN (sgn l i)
            · rw [if_pos c2]
              refine Ok.bind (weighRule_C (on := on) hT' hL' hw hrl hll hi hk c1 c2 (fun j q h1 h2 h3 => g4 j q h1 h2 h3) (g3 _ r4)) ?_
              rintro ψ ⟨w1, w2, w3, w4, w5, w6⟩
              unfold j_X0_weighChanges_114
              refine Ok.lt (Ok.some ⟨rfl, n_suc k, fun q hq => ?_, fun j q h1 h2 h3 => ?_, fun o ho => (w2 o ho).trans (g5 o ho), fun o ho => (w4 o ho).trans (g6 o ho), w6.trans g7⟩)
              · by_cases w : q = (ruA rl k).2.2.2
                · rw [w]; exact w1
                · exact (g3 q hq).cg (w3 _ (by omega)) (w5 _ (by omega)) (wsN_other (fun z => w z.2.2.symm))
              · exact (g4 j q h1 h2 h3).cg (w3 _ (by omega)) (w5 _ (by omega)) (fun _ => Iff.rfl)
            · rw [if_neg c2]; exact no (fun z => c2 z.2)
          · rw [b01 c1, if_neg (by decide)]; exact no (fun z => c1 z.1)
        · rintro ⟨v4, v5, ω⟩ ⟨g1, g2, g3, g4, g5, g6, g7⟩
          simp only at g1 g2 g3 g4 g5 g6 g7
          subst g1 g2
          show Ok (b_X0_weighChanges_62 t1 t2 (nI on) (nI i) (nI rl.length) ω) _
          unfold b_X0_weighChanges_62
          rw [g5 t2 (by omega), hL.1, if_pos (by rw [n_le (by omega) (by omega)]; omega)]
          refine Ok.some ⟨rfl, fun j q h1 h2 h3 => ?_, g5, g6, g7⟩
          by_cases w : j = i
          · rw [w]
            refine (g3 q h3).cg rfl rfl (fun u => ?_)
            show _ ↔ upA (wsF rl on) (fun _ _ => False) l i q u
            rw [upA_get _ _ hi]
            exact Iff.rfl
          · exact g4 j q (by omega) h2 h3
      · rintro ⟨v4, ω⟩ ⟨g1, g4, g5, g6, g7⟩
        simp only at g1 g4 g5 g6 g7
        subst g1
        exact Ok.lt (Ok.some ⟨rfl, by omega, g4, g5, g6, g7⟩)
  · rintro ⟨v, υ⟩ ⟨e1, e2, e3, e4, e5, e6⟩
    simp only at e1 e3 e4 e5 e6
    subst e1
    show Ok (b_X0_weighChanges_8 t1 t2 (nI on) (nI 0 + (-1)) υ) _
    unfold b_X0_weighChanges_8
    rw [if_pos m1_lt0]
    exact Ok.some ⟨fun j q hj hq => e3 j q (by omega) hj hq, e4, e5, e6⟩
/-- the words that are good -/
def gdW (rl : List Ru) (on : Nat) (t : List Nat) (g n : Nat) (w : List Nat) : Prop := ∃ q, q < n ∧ bN g q = 1 ∧ ws rl on t 0 q w
theorem gdW_S {rl : List Ru} {on : Nat} {t : List Nat} {g n : Nat} (h : bN g n = 1) (w : List Nat) : gdW rl on t g (n + 1) w ↔ (gdW rl on t g n w ∨ ws rl on t 0 n w) := by
  constructor
  · rintro ⟨q, q1, q2, q3⟩
    by_cases e : q = n
    · rw [e] at q3; exact Or.inr q3
    · exact Or.inl ⟨q, by omega, q2, q3⟩
  · rintro (⟨q, q1, q2, q3⟩ | q3)
    · exact ⟨q, by omega, q2, q3⟩
    · exact ⟨n, by omega, h, q3⟩
theorem gdW_N {rl : List Ru} {on : Nat} {t : List Nat} {g n : Nat} (h : ¬ bN g n = 1) (w : List Nat) : gdW rl on t g n w ↔ gdW rl on t g (n + 1) w := by
  constructor
  · rintro ⟨q, q1, q2, q3⟩
    exact ⟨q, by omega, q2, q3⟩
  · rintro ⟨q, q1, q2, q3⟩
    by_cases e : q = n
    · rw [e] at q2; exact absurd q2 h
    · exact ⟨q, by omega, q2, q3⟩
theorem cheap_C {σ : Mem} {l : List Nat} {rl : List Ru} {on g : Nat} (hg : g < 64) (hc : ∀ q, q < 6 → CellC σ q 0 l (ws rl on l 0 q)) : Ok (f_X0_cheapestOf (nI g) σ) (fun v => (v = -9 ∧ ∀ w, ¬ gdW rl on l g 6 w) ∨ (∃ s c d, s < 6 ∧ v = nI s ∧ σ.1 7 s = nI c ∧ σ.2.1 8 s = nJ d ∧ c < 1000 ∧ d < 4611686018427387904 ∧ Bst 1000 (gdW rl on l g 6) (cs l) (co 0) c d)) := by
  unfold f_X0_cheapestOf
  refine Ok.bind (P := fun v => (v = -9 ∧ ∀ w, ¬ gdW rl on l g 6 w) ∨ (∃ s c d, s < 6 ∧ v = nI s ∧ σ.1 7 s = nI c ∧ σ.2.1 8 s = nJ d ∧ c < 1000 ∧ d < 4611686018427387904 ∧ Bst 1000 (gdW rl on l g 6) (cs l) (co 0) c d)) ?_ (fun v hv => Ok.some hv)
  refine Ok.for 6 (fun k st => st.2 = nI k ∧ ((st.1 = -9 ∧ ∀ w, ¬ gdW rl on l g k w) ∨ (∃ s c d, s < 6 ∧ st.1 = nI s ∧ σ.1 7 s = nI c ∧ σ.2.1 8 s = nJ d ∧ c < 1000 ∧ d < 4611686018427387904 ∧ Bst 1000 (gdW rl on l g k) (cs l) (co 0) c d))) ?_ ?_ 0 (by omega) _ ⟨rfl, Or.inl ⟨rfl, fun w ⟨q, q1, _⟩ => by omega⟩⟩
  · rintro k ⟨v2, v3⟩ hk ⟨e1, e2⟩
    simp only at e1 e2
    subst e1
    show Ok (b_X0_cheapestOf_5 (nI g) v2 (nI k) σ) _
    obtain ⟨C, D, x1, x2, x3, x4, x5⟩ := hc k hk
    rw [List.drop_zero] at x5
    unfold b_X0_cheapestOf_5
    rw [if_neg (by rw [show (6 : Int32) = nI 6 from rfl, n_le (by omega) (by omega)]; omega), bit_C (by omega) (by omega)]
    by_cases b : bN g k = 1
    · have hU := gdW_S (rl := rl) (on := on) (t := l) b
      rw [b, if_pos z1, gd_ix (by omega) (by omega)]
      simp only [n_cl (show k < 2147483648 by omega), x1, show (1000 : Int32) = nI 1000 from rfl, n_le (show 1000 < 2147483648 by omega) (show C < 2147483648 by omega)]
      unfold j_X0_cheapestOf_45 j_X0_cheapestOf_47
      by_cases b1 : 1000 ≤ C
      · rw [if_pos b1]
        have em : ∀ w, ¬ ws rl on l 0 k w := by
          rcases x5 with ⟨y1, y2⟩ | ⟨y1, _⟩
          · exact y2
          · omega
        have eq : ∀ w, gdW rl on l g k w ↔ gdW rl on l g (k + 1) w := fun w => ⟨fun z => (hU w).mpr (Or.inl z), fun z => ((hU w).mp z).resolve_right (em w)⟩
        refine Ok.lt (Ok.some ⟨n_suc k, ?_⟩)
        rcases e2 with ⟨y1, y2⟩ | ⟨s, c, d, y1, y2, y3, y4, y5, y6, y7⟩
        · exact Or.inl ⟨y1, fun w hw => y2 w ((eq w).mpr hw)⟩
        · exact Or.inr ⟨s, c, d, y1, y2, y3, y4, y5, y6, y7.cg eq⟩
      · rw [if_neg b1]
        rcases e2 with ⟨y1, y2⟩ | ⟨s, c, d, y1, y2, y3, y4, y5, y6, y7⟩
        · subst y1
          rw [if_pos (by decide)]
          have bb := (Bst.join (far := 1000) (c := 1000) (d := 0) (f := cs l) (g := co 0) (Or.inl ⟨rfl, y2⟩) hU (Or.inr x5)).1 (Or.inl (by omega))
          exact Ok.lt (Ok.some ⟨n_suc k, Or.inr ⟨k, C, D, hk, rfl, x1, x2, by omega, x4, bb⟩⟩)
        · subst y2
          rw [if_neg (not_n0 (by omega))]
          obtain ⟨j1, j2⟩ := Bst.join y7 hU (Or.inr x5)
          have ib : ((C < c ∨ (C < 1000 ∧ C = c ∧ D < d)) ∧ f_X0_isBetter (nI k) (nI s) σ = some 1) ∨ (¬ (C < c ∨ (C < 1000 ∧ C = c ∧ D < d)) ∧ f_X0_isBetter (nI k) (nI s) σ = some 0) := by
            unfold f_X0_isBetter j_X0_isBetter_46
            rw [gd_ix (by omega) (by omega), gd_ix (by omega) (by omega)]
            simp only [n_cl (show k < 2147483648 by omega), n_cl (show s < 2147483648 by omega), x1, x2, y3, y4, gd_ix (show k < 186 by omega) (by omega), gd_ix (show s < 186 by omega) (by omega), n_lt (show C < 2147483648 by omega) (show c < 2147483648 by omega), n_eq (show C < 2147483648 by omega) (show c < 2147483648 by omega), lg_cmp_ge, nJ_le (show d < 9223372036854775808 by omega) (show D < 9223372036854775808 by omega)]
            by_cases u1 : C < c
            · rw [if_pos u1]; exact Or.inl ⟨Or.inl u1, rfl⟩
            · rw [if_neg u1]
              by_cases u2 : C = c
              · rw [if_pos u2]
                by_cases u3 : d ≤ D
                · rw [if_pos u3]; exact Or.inr ⟨by omega, rfl⟩
                · rw [if_neg u3]; exact Or.inl ⟨Or.inr ⟨by omega, u2, by omega⟩, rfl⟩
              · rw [if_neg u2]; exact Or.inr ⟨by omega, rfl⟩
          rcases ib with ⟨i1, i2⟩ | ⟨i1, i2⟩
          · rw [i2, Option.bind_some, if_neg (by decide)]
            exact Ok.lt (Ok.some ⟨n_suc k, Or.inr ⟨k, C, D, hk, rfl, x1, x2, by omega, x4, j1 i1⟩⟩)
          · rw [i2, Option.bind_some, if_pos (by decide)]
            exact Ok.lt (Ok.some ⟨n_suc k, Or.inr ⟨s, c, d, y1, rfl, y3, y4, y5, y6, j2 i1⟩⟩)
    · have eq := gdW_N (rl := rl) (on := on) (t := l) b
      rw [b01 b, if_neg (by decide)]
      unfold j_X0_cheapestOf_47
      refine Ok.lt (Ok.some ⟨n_suc k, ?_⟩)
      rcases e2 with ⟨y1, y2⟩ | ⟨s, c, d, y1, y2, y3, y4, y5, y6, y7⟩
      · exact Or.inl ⟨y1, fun w hw => y2 w ((eq w).mpr hw)⟩
      · exact Or.inr ⟨s, c, d, y1, y2, y3, y4, y5, y6, y7.cg eq⟩
  · rintro ⟨v2, v3⟩ ⟨e1, e2⟩
    simp only at e1 e2
    subst e1
    show Ok (b_X0_cheapestOf_5 (nI g) v2 (nI 6) σ) _
    unfold b_X0_cheapestOf_5
    rw [if_pos (by decide)]
    exact Ok.some e2
/-- the least good word: the least cost, then the first signs -/
def lstW (rl : List Ru) (on : Nat) (t : List Nat) (g : Nat) (w : List Nat) : Prop := gdW rl on t g 6 w ∧ ∀ u, gdW rl on t g 6 u → cs t w < cs t u ∨ (cs t w = cs t u ∧ co 0 w ≤ co 0 u)
theorem mend18_C {A : AS} {σ : Mem} (h : RepC A σ) (hA : WfA A) (hne : 0 < (trA A).length) {a : Int32} (ha : a = -1 ∨ ∃ i, i < (trA A).length ∧ a = nI i) : Ok (j_X8_mend_18 a σ) (fun r => ((r.1 = -9 ∧ ∀ w, ¬ gdW (rlA A) (onA A) (trA A) (gdA A) 6 w) ∨ (∃ w, lstW (rlA A) (onA A) (trA A) (gdA A) w ∧ (a = -1 → r.1 = nI (cs (trA A) w)) ∧ (∀ i, i < (trA A).length → a = nI i → r.1 = nI (sgn w i)))) ∧ RepC A r.2 ∧ PF σ r.2) := by
  have hw := hA.2.2.2.2.2.2.1
  have hl := hw.2.1
  have hg := hA.2.2.2.2.2.1
  obtain ⟨q1, q2⟩ := h.2.1.law
  unfold j_X8_mend_18
  rw [h.2.2.2.2.1.1, if_neg (by rw [show (0 : Int32) = nI 0 from rfl, n_eq (by omega) (by omega)]; omega), h.2.2.2.1.1]
  refine Ok.bind (weigh_C h.2.2.2.2.1 h.2.2.1 hw hA.2.2.1 hA.2.2.2.1 hA.2.2.2.2.1 (by rcases q2 with q | q <;> omega) (by rcases q1 with q | q <;> omega)) ?_
  rintro τ ⟨e1, e2, e3, e4⟩
  have rc : RepC A τ := h.climb (fun o ho => e2 o (by omega)) (e3 0 (by omega)) e4
  have pf : PF σ τ := ⟨fun o o1 o2 => e2 o (by omega), e3 23 (by omega)⟩
  rw [rc.2.2.2.1.2]
  refine Ok.bind (cheap_C hg (fun q hq => by have := e1 0 q hne hq; rw [show 6 * 0 + q = q by omega] at this; exact this)) ?_
  rintro v hv
  rcases hv with ⟨y1, y2⟩ | ⟨s, c, d, y1, y2, y3, y4, y5, y6, y7⟩
  · subst y1
    rw [if_pos (by decide)]
    exact Ok.some ⟨Or.inl ⟨rfl, y2⟩, rc, pf⟩
  · subst y2
    have hs : f_X8_isState (nI s) = 1 := by
      rcases isState_C (nI s) with ⟨_, _, _, h1⟩ | ⟨hn, h1⟩
      · exact h1
      · exact absurd rfl (hn s y1)
    rw [hs, if_neg (by decide)]
    rcases y7 with ⟨w1, _⟩ | ⟨w1, ⟨w, w2, w3, w4⟩, w5⟩
    · omega
    · have lw : lstW (rlA A) (onA A) (trA A) (gdA A) w := ⟨w2, fun u hu => by rw [w3, w4]; exact w5 u hu⟩
      obtain ⟨q0, q1, q2, q3⟩ := w2
      obtain ⟨k1, k2⟩ := ws_ok hA.2.2.1 (onA A) (hw.nd hne) _ 0 q0 w rfl q3
      rw [part_all (hw.nd hne)] at k1
      rw [List.drop_zero] at k2
      by_cases c : a = -1
      · rw [if_pos c, gd_ix (by omega) (by omega), n_cl (by omega)]
        refine Ok.some ⟨Or.inr ⟨w, lw, fun _ => ?_, fun i hi e => ?_⟩, rc, pf⟩
        · rw [w3]; exact y3
        · rw [c] at e
          have := congrArg Int32.toInt e
          rw [n_toInt (by omega)] at this
          have e2 : (-1 : Int32).toInt = -1 := by decide
          omega
      · rcases ha with ha | ⟨i, hi, rfl⟩
        · exact absurd ha c
        · rw [if_neg c, gd_ix (by omega) (by omega), gd_ix (by omega) (by omega), n_cl (by omega), n_cl (by omega)]
          refine Ok.some ⟨Or.inr ⟨w, lw, fun z => absurd z c, fun j hj e => ?_⟩, rc, pf⟩
          rw [n_eq (by omega) (by omega)] at e
          subst e
          obtain ⟨a1, a2⟩ := shp_arms _ _ i k2 (by omega)
          have h8 := sgn_lt hw hi
          have am := armsN_le (sgn (trA A) i)
          have st := co_step w 0 i (shp_lt _ _ k2) (by omega) (by omega)
          rw [Nat.zero_add, w4] at st
          show f_X8_firstSignWith (f_X8_armsOf (τ.1 (τ.2.2 6 + 1) i)) + f_X0_stepInCode (τ.2.1 8 s) (nI i) = nI (sgn w i)
          rw [rc.sg rfl hi, arms_C (by omega), firstSign_C _ (by omega), y4, stepIn (by omega) (by omega), st, n_add, ← a2, stp_back a1]
