/-! the class's reading of a law: items -/
theorem CS.next {σ τ : Mem} {t : Nat} {tx : List Nat} {p : Nat} {rl : List Ru} {g : Nat} (h : CS σ t tx p rl g) (ht : 2 < t) (hx : ∀ x ∈ tx, x < 256) (hl : tx.length ≤ 300) (hp : p ≤ tx.length) {g' : Nat} (hτ : ∀ o, o ≠ t → τ.1 o = σ.1 o) (h2 : τ.2 = σ.2) (h4 : τ.1 t 4 = σ.1 t 4) (h5 : τ.1 t 5 = nI g') : Ok (f_X6_next τ) (fun υ => CS υ t tx (tkA tx p) rl g' ∧ FrC t σ υ) := by
  obtain ⟨hT, hK, hL, hg⟩ := h
  obtain ⟨-, -, -, pa, -⟩ := tk_ok hp
  have tT : TxC τ tx := ⟨by rw [hτ 1 (by omega)]; exact hT.1, by rw [hτ 2 (by omega)]; exact hT.2⟩
  refine (next_C tT hx hl pa (by rw [hτ 1 (by omega)]; exact hK.2.2.2)).mono ?_
  rintro υ ⟨u1, u2⟩
  have e : ∀ q, q ≠ 1 → q ≠ t → υ.1 q = σ.1 q := fun q q1 q2 => (u2.2.1 q q1).trans (hτ q q2)
  have et : υ.1 t = τ.1 t := u2.2.1 t (by omega)
  refine ⟨⟨⟨?_, ?_⟩, u1, ⟨?_, ?_⟩, ?_⟩, fun o o1 o2 => e o o1 (by omega), ?_, u2.2.2.trans h2⟩
  · rw [u2.1 1 (by decide)]; exact tT.1
  · rw [u2.2.1 2 (by omega)]; exact tT.2
  · rw [et, h4]; exact hL.1
  · exact hL.2.cg (e _ (by omega) (by omega)) (e _ (by omega) (by omega)) (e _ (by omega) (by omega)) (e _ (by omega) (by omega))
  · rw [et]; exact h5
  · rw [u2.1 1 (by decide), hτ 1 (by omega)]
theorem readGood_C {σ : Mem} {t : Nat} {tx : List Nat} {p : Nat} {rl : List Ru} {g : Nat} (h : CS σ t tx p rl g) (hx : ∀ x ∈ tx, x < 256) (hl : tx.length ≤ 300) (hp : p ≤ tx.length) (hg : g < 64) (ht : 2 < t) (hk : tkK tx p = 2) : Ok (f_X3_readGood t σ) (fun r => FrC t σ r.2 ∧ ((isSt tx (tkA tx p) ∧ r.1 = 1 ∧ CS r.2 t tx (gdP tx 301 (tkA tx p) g).1 rl (gdP tx 301 (tkA tx p) g).2) ∨ (¬ isSt tx (tkA tx p) ∧ r.1 = 0 ∧ r.2.1 1 2 = nI (tkS tx (tkA tx p))))) := by
  obtain ⟨-, -, -, pa, pb, -⟩ := tk_ok hp
  have pb := pb (by omega)
  unfold f_X3_readGood
  refine Ok.bind (h.next ht hx hl hp (τ := σ) (fun _ _ => rfl) rfl rfl h.2.2.2) ?_
  rintro τ ⟨c1, f1⟩
  generalize tkA tx p = p1 at *
  by_cases h1 : isSt tx p1
  · rw [(isSN_yes c1.2.1 h1).1, if_neg (by decide)]
    refine Ok.bind (P := fun υ => CS υ t tx (gdP tx 301 p1 g).1 rl (gdP tx 301 p1 g).2 ∧ FrC t σ υ) ?_ (fun υ hυ => Ok.some ⟨hυ.2, Or.inl ⟨h1, rfl, hυ.1⟩⟩)
    refine Ok.wf (fun m s => ∃ q k f g', q + m = tx.length ∧ p1 + k ≤ q ∧ f + k = 301 ∧ g' < 64 ∧ s.1 = nI k ∧ CS s.2 t tx q rl g' ∧ gdP tx f q g' = gdP tx 301 p1 g ∧ FrC t σ s.2) ?_ (tx.length - p1) _ ⟨p1, 0, 301, g, by omega, by omega, by omega, hg, rfl, c1, rfl, f1⟩
    rintro m ⟨v, υ⟩ ⟨q, k, f, g', e1, e2, e3, e4, e5, e6, e7, e8⟩
    simp only at e5 e6 e8
    subst e5
    show Ok (b_X3_readGood_15 t (nI k) υ) _
    unfold b_X3_readGood_15
    rw [if_neg (by rw [show (300 : Int32) = nI 300 from rfl, n_le (by omega) (by omega)]; omega)]
    by_cases h2 : isSt tx q
    · obtain ⟨i1, i2⟩ := isSN_yes e6.2.1 h2
      have nx := isSt_next (by omega) h2
      have v6 := h2.2
      rw [i1, if_neg (by decide), i2, n_p2 (by omega), e6.2.2.2, n_or]
      refine Ok.lt (Ok.bind (e6.next ht hx hl (by omega) (τ := sI υ t 5 (nI (g' ||| 2 ^ tkV tx q))) (fun o ho => sI_o ho) rfl (sI_slot (by omega)) (sI_same _ _ _ _)) ?_)
      rintro ω ⟨w1, w2⟩
      obtain ⟨f', rfl⟩ : ∃ f', f = f' + 1 := ⟨f - 1, by omega⟩
      rw [gdP_yes h2] at e7
      exact Ok.lt (Ok.some ⟨tx.length - tkA tx q, by omega, tkA tx q, k + 1, f', _, by omega, by omega, by omega, Nat.or_lt_two_pow (n := 6) e4 (Nat.pow_lt_pow_right (by omega) h2.2), n_suc k, w1, e7, e8.tr w2⟩)
    · rw [isSN_no e6.2.1 (by omega) h2, if_pos (by decide)]
      rw [gdP_no h2] at e7
      refine Ok.some ⟨?_, e8⟩
      rw [← e7]; exact e6
  · rw [isSN_no c1.2.1 pa h1, if_pos (by decide)]
    exact Ok.some ⟨f1, Or.inr ⟨h1, rfl, c1.2.1.1⟩⟩
theorem readItem_C {σ : Mem} {t : Nat} {tx : List Nat} {p : Nat} {rl : List Ru} {g : Nat} (h : CS σ t tx p rl g) (hx : ∀ x ∈ tx, x < 256) (hl : tx.length ≤ 300) (hp : p ≤ tx.length) (hr : rl.length ≤ 16) (hg : g < 64) (ht : 2 < t) : Ok (f_X3_readItem t σ) (fun r => FrC t σ r.2 ∧ ((∃ p' rl' g', r.1 = 1 ∧ CS r.2 t tx p' rl' g' ∧ p' ≤ tx.length ∧ itP tx p rl g = finP tx p' rl' g') ∨ (∃ q, r.1 = 0 ∧ itP tx p rl g = .inl q ∧ r.2.1 1 2 = nI q))) := by
  obtain ⟨-, -, p6, pa, pb, pv, -⟩ := tk_ok hp
  unfold f_X3_readItem
  rw [h.2.1.2.1]
  by_cases c1 : tkK tx p = 1
  · rw [c1, if_pos (by decide), h.2.2.1.1]
    by_cases c2 : rl.length < 16
    · rw [if_neg (by rw [show (16 : Int32) = nI 16 from rfl, n_le (by omega) (by omega)]; omega)]
      refine Ok.bind (readRule_C h hx hl hp c2 ht c1) ?_
      rintro ⟨v, τ⟩ ⟨f1, hr⟩
      rcases hr with ⟨x, x1, x2, x3⟩ | ⟨q, x1, x2, x3⟩
      · have x2 : v = 1 := x2
        subst x2
        show Ok (if (1 : Int32) = 0 then _ else some ((1 : Int32), τ)) _
        rw [if_neg (by decide)]
        refine Ok.some ⟨f1, Or.inl ⟨x.1, rl ++ [x.2], g, rfl, x3, ((ruP_ok pa (pv c1)).2 x x1).2.1, ?_⟩⟩
        unfold itP
        rw [if_pos ⟨c1, c2⟩, x1]
      · have x2 : v = 0 := x2
        subst x2
        show Ok (if (0 : Int32) = 0 then some ((0 : Int32), τ) else _) _
        rw [if_pos rfl]
        refine Ok.some ⟨f1, Or.inr ⟨q, rfl, ?_, x3⟩⟩
        unfold itP
        rw [if_pos ⟨c1, c2⟩, x1]
    · rw [if_pos (by rw [show (16 : Int32) = nI 16 from rfl, n_le (by omega) (by omega)]; omega)]
      refine Ok.some ⟨FrC.rf, Or.inr ⟨tkS tx p, rfl, ?_, h.2.1.1⟩⟩
      unfold itP
      rw [if_neg (by omega), if_neg (by omega)]
  · rw [if_neg (by rw [show (1 : Int32) = nI 1 from rfl, n_eq (by omega) (by omega)]; exact c1)]
    by_cases c2 : tkK tx p = 2
    · rw [c2, if_pos (by decide)]
      refine Ok.bind (readGood_C h hx hl hp hg ht c2) ?_
      rintro ⟨v, τ⟩ ⟨f1, hr⟩
      rcases hr with ⟨x1, x2, x3⟩ | ⟨x1, x2, x3⟩
      · have x2 : v = 1 := x2
        subst x2
        show Ok (if (1 : Int32) = 0 then _ else some ((1 : Int32), τ)) _
        rw [if_neg (by decide)]
        refine Ok.some ⟨f1, Or.inl ⟨_, _, _, rfl, x3, (gdP_ok 301 _ _ pa hg).2.1, ?_⟩⟩
        unfold itP
        rw [if_neg (fun w => c1 w.1), if_pos c2, ndS_yes x1]
      · have x2 : v = 0 := x2
        subst x2
        show Ok (if (0 : Int32) = 0 then some ((0 : Int32), τ) else _) _
        rw [if_pos rfl]
        refine Ok.some ⟨f1, Or.inr ⟨_, rfl, ?_, x3⟩⟩
        unfold itP
        rw [if_neg (fun w => c1 w.1), if_pos c2, ndS_no x1]
    · rw [if_neg (by rw [show (2 : Int32) = nI 2 from rfl, n_eq (by omega) (by omega)]; exact c2)]
      refine Ok.some ⟨FrC.rf, Or.inr ⟨tkS tx p, rfl, ?_, h.2.1.1⟩⟩
      unfold itP
      rw [if_neg (fun w => c1 w.1), if_neg c2]
/-- what law() reads -/
noncomputable def lawR (tx : List Nat) : Nat ⊕ (Nat × List Ru × Nat) := lwP tx 302 0 [] 0 0
theorem readLaw_C {σ : Mem} {t : Nat} {tx : List Nat} (h : TxC σ tx) (hx : ∀ x ∈ tx, x < 256) (hl : tx.length ≤ 300) (ht : 2 < t) : Ok (f_X3_read t σ) (fun r => FrC t σ r.2 ∧ ((∃ q, q ≤ 300 ∧ lawR tx = .inl q ∧ r.1 = -10 - nI q) ∨ (∃ n rl g, n ≤ 300 ∧ lawR tx = .inr (n, rl, g) ∧ r.1 = nI n ∧ LawC r.2 t rl ∧ r.2.1 t 5 = nI g ∧ (∀ r ∈ rl, OkRu r) ∧ rl.length ≤ 16 ∧ g < 64))) := by
  unfold f_X3_read
  refine Ok.lt (Ok.lt ?_)
  generalize hσ : sI (sI σ t 4 0) t 5 0 = σ2
  have f0 : FrC t σ σ2 := by rw [← hσ]; exact (FrC.rf.sI (by omega) (by omega) (by omega)).sI (by omega) (by omega) (by omega)
  have l0 : LawC σ2 t [] := ⟨by rw [← hσ, sI_slot (by omega)]; exact sI_same _ _ _ _, fun j hj => absurd hj (Nat.not_lt_zero j)⟩
  have g0 : σ2.1 t 5 = nI 0 := by rw [← hσ]; exact sI_same _ _ _ _
  refine Ok.bind (P := fun τ => CS τ t tx 0 [] 0 ∧ FrC t σ τ) ?_ ?_
  · unfold f_X6_begin
    refine Ok.lt (Ok.bind (next_C (σ := sI σ2 1 5 0) (p := 0) ⟨?_, ?_⟩ hx hl (Nat.zero_le _) (sI_same _ _ _ _)) (fun τ hτ => Ok.some ?_))
    · rw [sI_slot (by omega)]; exact (f0.tx ht h).1
    · rw [sI_o (by omega)]; exact (f0.tx ht h).2
    · obtain ⟨u1, u2⟩ := hτ
      have e : ∀ o, o ≠ 1 → τ.1 o = σ2.1 o := fun o ho => by rw [u2.2.1 o ho, sI_o ho]
      refine ⟨⟨⟨?_, ?_⟩, u1, ⟨?_, fun j hj => absurd hj (Nat.not_lt_zero j)⟩, ?_⟩, fun o o1 o2 => (e o o1).trans (f0.1 o o1 o2), ?_, u2.2.2.trans f0.2.2⟩
      · rw [u2.1 1 (by decide), sI_slot (by omega)]; exact (f0.tx ht h).1
      · rw [e 2 (by omega)]; exact (f0.tx ht h).2
      · rw [e t (by omega)]; exact l0.1
      · rw [e t (by omega)]; exact g0
      · rw [u2.1 1 (by decide), sI_slot (by omega)]; exact f0.2.1
  · rintro τ ⟨c0, f1⟩
    refine Ok.bind (P := fun r => match r with | .inl υ => FrC t σ υ ∧ ∃ q, q ≤ 300 ∧ lawR tx = .inl q ∧ υ.1 1 2 = nI q | .inr x => FrC t σ x.2 ∧ ∃ n rl g, n ≤ 300 ∧ lawR tx = .inr (n, rl, g) ∧ x.1 = nI n ∧ LawC x.2 t rl ∧ x.2.1 t 5 = nI g ∧ (∀ r ∈ rl, OkRu r) ∧ rl.length ≤ 16 ∧ g < 64) ?_ ?_
    · refine Ok.wf (fun m s => ∃ p rl g n f, p + m = tx.length ∧ n ≤ p ∧ f + n = 302 ∧ s.1 = nI n ∧ s.2.1 = nI n ∧ CS s.2.2 t tx p rl g ∧ lwP tx f p rl g n = lawR tx ∧ FrC t σ s.2.2 ∧ (∀ r ∈ rl, OkRu r) ∧ rl.length ≤ 16 ∧ g < 64) ?_ tx.length _ ⟨0, [], 0, 0, 302, by omega, by omega, by omega, rfl, rfl, c0, rfl, f1, fun r hr => absurd hr List.not_mem_nil, Nat.zero_le _, by omega⟩
      rintro m ⟨v2, v3, υ⟩ ⟨p, rl, g, n, f, e1, e2, e3, e4, e5, e6, e7, e8, e9, e10, e11⟩
      simp only at e4 e5 e6 e8
      subst e4 e5
      show Ok (b_X3_read_18 t (nI n) (nI n) υ) _
      obtain ⟨f', rfl⟩ : ∃ f', f = f' + 1 := ⟨f - 1, by omega⟩
      have hp : p ≤ tx.length := by omega
      obtain ⟨ps, pl, p6, pa, pb, -⟩ := tk_ok hp
      rw [lwP] at e7
      have done : tkK tx p = 0 → Ok (some (Sum.inr (Sum.inr (nI n, υ))) : Option ((Int32 × Int32 × Mem) ⊕ (Mem ⊕ (Int32 × Mem)))) (SumP (fun s => ∃ m', m' < m ∧ ∃ p rl g n f, p + m' = tx.length ∧ n ≤ p ∧ f + n = 302 ∧ s.1 = nI n ∧ s.2.1 = nI n ∧ CS s.2.2 t tx p rl g ∧ lwP tx f p rl g n = lawR tx ∧ FrC t σ s.2.2 ∧ (∀ r ∈ rl, OkRu r) ∧ rl.length ≤ 16 ∧ g < 64) (fun r => match r with | .inl υ => FrC t σ υ ∧ ∃ q, q ≤ 300 ∧ lawR tx = .inl q ∧ υ.1 1 2 = nI q | .inr x => FrC t σ x.2 ∧ ∃ n rl g, n ≤ 300 ∧ lawR tx = .inr (n, rl, g) ∧ x.1 = nI n ∧ LawC x.2 t rl ∧ x.2.1 t 5 = nI g ∧ (∀ r ∈ rl, OkRu r) ∧ rl.length ≤ 16 ∧ g < 64)) := by
        intro w
        rw [if_pos w] at e7
        exact Ok.some ⟨e8, n, rl, g, by omega, e7.symm, rfl, e6.2.2.1, e6.2.2.2, e9, e10, e11⟩
      have fault : ∀ q ω, itP tx p rl g = .inl q → tkK tx p ≠ 0 → ω.1 1 2 = nI q → FrC t σ ω → Ok (some (Sum.inr (Sum.inl ω)) : Option ((Int32 × Int32 × Mem) ⊕ (Mem ⊕ (Int32 × Mem)))) (SumP (fun s => ∃ m', m' < m ∧ ∃ p rl g n f, p + m' = tx.length ∧ n ≤ p ∧ f + n = 302 ∧ s.1 = nI n ∧ s.2.1 = nI n ∧ CS s.2.2 t tx p rl g ∧ lwP tx f p rl g n = lawR tx ∧ FrC t σ s.2.2 ∧ (∀ r ∈ rl, OkRu r) ∧ rl.length ≤ 16 ∧ g < 64) (fun r => match r with | .inl υ => FrC t σ υ ∧ ∃ q, q ≤ 300 ∧ lawR tx = .inl q ∧ υ.1 1 2 = nI q | .inr x => FrC t σ x.2 ∧ ∃ n rl g, n ≤ 300 ∧ lawR tx = .inr (n, rl, g) ∧ x.1 = nI n ∧ LawC x.2 t rl ∧ x.2.1 t 5 = nI g ∧ (∀ r ∈ rl, OkRu r) ∧ rl.length ≤ 16 ∧ g < 64)) := by
        intro q ω w1 w2 w3 w4
        rw [if_neg w2, w1] at e7
        exact Ok.some ⟨w4, q, by have := (itP_ok hp e9 e10 e11).1 q w1; omega, e7.symm, w3⟩
      unfold b_X3_read_18
      by_cases c : 300 ≤ n
      · rw [if_pos (by rw [show (300 : Int32) = nI 300 from rfl, n_le (by omega) (by omega)]; exact c)]
        refine done ?_
        unfold tkK
        rw [skT_stop (Or.inl (by omega)), tokQ_end (by omega)]
      · rw [if_neg (by rw [show (300 : Int32) = nI 300 from rfl, n_le (by omega) (by omega)]; exact c), e6.2.1.2.1]
        by_cases c0 : tkK tx p = 0
        · rw [c0, if_pos (by decide)]
          exact done c0
        · rw [if_neg (by rw [show (0 : Int32) = nI 0 from rfl, n_eq (by omega) (by omega)]; exact c0)]
          refine Ok.bind (readItem_C e6 hx hl hp e10 e11 ht) ?_
          rintro ⟨v, ω⟩ ⟨w1, w2⟩
          rcases w2 with ⟨p', rl', g', w2, w3, w4, w5⟩ | ⟨q, w2, w3, w4⟩
          · have w2 : v = 1 := w2
            subst w2
            show Ok (if (1 : Int32) = 0 then _ else (if ω.1 1 3 = 4 then (f_X6_next ω).bind _ else some (Sum.inr (Sum.inl ω)))) _
            obtain ⟨-, -, q6, qa, qb, -⟩ := tk_ok w4
            rw [if_neg (by decide), w3.2.1.2.1]
            by_cases c4 : tkK tx p' = 4
            · rw [c4, if_pos (by decide)]
              refine Ok.bind (w3.next ht hx hl w4 (τ := ω) (fun _ _ => rfl) rfl rfl w3.2.2.2) ?_
              rintro ψ ⟨z1, z2⟩
              have ei : itP tx p rl g = .inr (tkA tx p', rl', g') := by rw [w5]; unfold finP; rw [if_pos c4]
              obtain ⟨y1, y2, y3, y4, y5⟩ := (itP_ok hp e9 e10 e11).2 _ ei
              rw [if_neg c0, ei] at e7
              refine Ok.lt (Ok.lt (Ok.some ⟨tx.length - tkA tx p', ?_, tkA tx p', rl', g', n + 1, f', ?_, ?_, by omega, n_suc n, n_suc n, z1, e7, (e8.tr w1).tr z2, y3, y4, y5⟩))
              · simp only at y1 y2; omega
              · simp only at y1 y2; omega
              · simp only at y1 y2; omega
            · rw [if_neg (by rw [show (4 : Int32) = nI 4 from rfl, n_eq (by omega) (by omega)]; exact c4)]
              exact fault (tkS tx p') ω (by rw [w5]; unfold finP; rw [if_neg c4]) c0 w3.2.1.1 (e8.tr w1)
          · have w2 : v = 0 := w2
            subst w2
            show Ok (if (0 : Int32) = 0 then some (Sum.inr (Sum.inl ω)) else _) _
            rw [if_pos rfl]
            exact fault q ω w3 c0 w4 (e8.tr w1)
    · rintro r hr
      cases r with
      | inl υ =>
        obtain ⟨r1, q, r2, r3, r4⟩ := hr
        refine Ok.some ⟨r1, Or.inl ⟨q, r2, r3, ?_⟩⟩
        show -10 - υ.1 1 2 = _
        rw [r4]
      | inr x =>
        obtain ⟨r1, r2⟩ := hr
        exact Ok.some ⟨r1, Or.inr r2⟩
