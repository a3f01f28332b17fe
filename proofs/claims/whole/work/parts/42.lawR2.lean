/-! the reference's reading of a law: items, the law -/
theorem finOut.tr {ρ τ υ : Mem} {tx : List Nat} {x : Nat ⊕ (Nat × List Ru × Nat)} (f : FrR ρ τ) (h : finOut τ υ tx x) : finOut ρ υ tx x := by
  cases x with
  | inl q => exact ⟨f.tr h.1, h.2⟩
  | inr x => exact ⟨f.tr h.1, h.2⟩
theorem G165 {ρ0 ρ : Mem} {tx : List Nat} {p p1 : Nat} {rl : List Ru} {g g1 v : Nat} (f : FrR ρ0 ρ) (h : RS ρ tx p) (d : RD ρ rl g1) (hx : ∀ x ∈ tx, x < 256) (hl : tx.length ≤ 300) (hp : p ≤ tx.length) (h1 : p1 < p) (hg1 : g1 < 64) (hv : v < 6) (hr : rl.length ≤ 16) (hgd : gdP tx 300 p (g1 ||| 2 ^ v) = gdP tx 301 p1 g) : Ok (j_X9_readItem_165 (nI g1) (nI (2 ^ v)) ρ) (fun τ => finOut ρ0 τ tx (finP tx (gdP tx 301 p1 g).1 rl (gdP tx 301 p1 g).2)) := by
  unfold j_X9_readItem_165
  rw [n_or]
  refine Ok.lt (Ok.bind (P := fun τ => (∃ q g', (q, g') = gdP tx 301 p1 g ∧ FrR ρ0 τ ∧ RS τ tx q ∧ RD τ rl g' ∧ q ≤ tx.length) ∨ (∃ q, Flt ρ0 τ q ∧ q ≤ 300 ∧ finP tx (gdP tx 301 p1 g).1 rl (gdP tx 301 p1 g).2 = .inl q)) ?_ ?_)
  · refine Ok.wf (fun m s => (∃ q f g' k, q + m = tx.length ∧ p1 + k < q ∧ f + k = 300 ∧ gdP tx f q g' = gdP tx 301 p1 g ∧ FrR ρ0 s ∧ RS s tx q ∧ RD s rl g' ∧ g' < 64) ∨ (∃ q, Flt ρ0 s q ∧ q ≤ 300 ∧ finP tx (gdP tx 301 p1 g).1 rl (gdP tx 301 p1 g).2 = .inl q)) ?_ (tx.length - p) _ (Or.inl ⟨p, 300, g1 ||| 2 ^ v, 0, by omega, by omega, by omega, hgd, f.s0 (by omega), ?_, ?_, Nat.or_lt_two_pow (n := 6) hg1 (Nat.pow_lt_pow_right (by omega) hv)⟩)
    · rintro m τ hI
      unfold b_X9_readItem_169
      rcases hI with ⟨q, f', g', k, e1, e2, e3, e4, e5, e6, e7, e8⟩ | ⟨q, e1, e2, e3⟩
      · have hq : q ≤ tx.length := by omega
        obtain ⟨-, ql, q6, qa, -⟩ := tk_ok hq
        rw [e6.2.1, if_pos (by decide), e6.2.2.2.1]
        by_cases c3 : tkK tx q = 3
        · rw [c3, if_pos (by decide)]
          by_cases h2 : isSt tx q
          · have nx := isSt_next hq h2
            have v6 := h2.2
            refine Ok.bind (state_Y e6 hx hl hq h2) ?_
            rintro ⟨w, υ⟩ ⟨u1, u2, u3⟩
            have u1 : w = nI (tkV tx q) := u1
            subst u1
            simp only at u2 u3
            refine Ok.lt ?_
            show Ok (if υ.1 0 12 = -9 then j_X9_readItem_212 (υ.1 0 13) ((1 : Int32) <<< (nI (tkV tx q) &&& 31)) υ else _) _
            have d2 := e7.fr u3 (by decide)
            rw [u2.2.1, if_pos (by decide), d2.2.2, n_p2 (by omega)]
            unfold j_X9_readItem_212
            rw [n_or]
            obtain ⟨f2, rfl⟩ : ∃ f2, f' = f2 + 1 := ⟨f' - 1, by omega⟩
            rw [gdP_yes h2] at e4
            refine Ok.lt (Ok.some ⟨tx.length - tkA tx q, by omega, Or.inl ⟨tkA tx q, f2, g' ||| 2 ^ tkV tx q, k + 1, by omega, by omega, by omega, e4, (e5.tr (u3.frR (by decide))).s0 (by omega), ?_, ?_, Nat.or_lt_two_pow (n := 6) e8 (Nat.pow_lt_pow_right (by omega) h2.2)⟩⟩)
            · refine ⟨⟨?_, ?_⟩, ?_, ?_, ?_, fun w => ?_, ?_⟩
              · rw [sI_slot (by omega)]; exact u2.1.1
              · rw [sI_o (by omega)]; exact u2.1.2
              · rw [sI_slot (by omega)]; exact u2.2.1
              · rw [sI_slot (by omega)]; exact u2.2.2.1
              · rw [sI_slot (by omega)]; exact u2.2.2.2.1
              · rw [sI_slot (by omega)]; exact u2.2.2.2.2.1 w
              · rw [sI_slot (by omega)]; exact u2.2.2.2.2.2
            · refine ⟨by rw [sI_off (by omega)]; exact d2.1, fun j hj => ?_, sI_same _ _ _ _⟩
              rw [sI_off (by omega), sI_off (by omega), sI_off (by omega), sI_off (by omega)]
              exact d2.2.1 j hj
          · rw [state_N e6 hq h2, Option.bind_some]
            refine Ok.lt ?_
            show Ok (if (sI τ 0 12 (nI (tkS tx q))).1 0 12 = -9 then _ else j_X9_readItem_212 ((sI τ 0 12 (nI (tkS tx q))).1 0 13) 0 (sI τ 0 12 (nI (tkS tx q)))) _
            rw [sI_same, if_neg (n_ne9 (by omega))]
            unfold j_X9_readItem_212
            rw [gdP_no h2] at e4
            have hm : 0 < m ∨ m = 0 := by omega
            have qlt : q < tx.length := by
              by_cases z : q < tx.length
              · exact z
              · have : tkK tx q = 0 := by unfold tkK; rw [skT_stop (Or.inl (by omega)), tokQ_end (by omega)]
                omega
            refine Ok.lt (Ok.some ⟨0, by omega, Or.inr ⟨tkS tx q, ⟨(e5.s0 (by omega)).s0 (by omega), ?_⟩, by omega, ?_⟩⟩)
            · rw [sI_slot (by omega)]; exact sI_same _ _ _ _
            · rw [← e4]
              unfold finP
              rw [if_neg (by show ¬ tkK tx q = 4; omega)]
        · rw [if_neg]
          · have h2 : ¬ isSt tx q := fun w => c3 w.1
            rw [gdP_no h2] at e4
            exact Ok.some (Or.inl ⟨q, g', e4, e5, e6, e7, hq⟩)
          · rw [show (2 : Int32) = nI 2 from rfl, n_eq (by have := rkN_lt _ q6; omega) (by omega), rkN_2 _ q6]
            exact c3
      · rw [e1.2, if_neg (n_ne9 (by omega))]
        exact Ok.some (Or.inr ⟨q, e1, e2, e3⟩)
    · refine ⟨⟨?_, ?_⟩, ?_, ?_, ?_, fun w => ?_, ?_⟩
      · rw [sI_slot (by omega)]; exact h.1.1
      · rw [sI_o (by omega)]; exact h.1.2
      · rw [sI_slot (by omega)]; exact h.2.1
      · rw [sI_slot (by omega)]; exact h.2.2.1
      · rw [sI_slot (by omega)]; exact h.2.2.2.1
      · rw [sI_slot (by omega)]; exact h.2.2.2.2.1 w
      · rw [sI_slot (by omega)]; exact h.2.2.2.2.2
    · refine ⟨by rw [sI_off (by omega)]; exact d.1, fun j hj => ?_, sI_same _ _ _ _⟩
      rw [sI_off (by omega), sI_off (by omega), sI_off (by omega), sI_off (by omega)]
      exact d.2.1 j hj
  · rintro τ hτ
    rcases hτ with ⟨q, g', e1, e2, e3, e4, e5⟩ | ⟨q, e1, e2, e3⟩
    · rw [← e1]
      exact G219 e2 e3 e4 hx hl e5
    · rw [F219 e1.2 (by omega), e3]
      exact Ok.some e1
theorem readItem_R {ρ : Mem} {tx : List Nat} {p : Nat} {rl : List Ru} {g : Nat} (h : RS ρ tx p) (d : RD ρ rl g) (hx : ∀ x ∈ tx, x < 256) (hl : tx.length ≤ 300) (hp : p ≤ tx.length) (hr : rl.length ≤ 16) (hg : g < 64) : Ok (f_X9_readItem ρ) (fun τ => finOut ρ τ tx (itP tx p rl g)) := by
  obtain ⟨-, pl, p6, pa, pb, pv, -⟩ := tk_ok hp
  obtain ⟨-, pl1, -⟩ := tk_ok pa
  have rk6 := rkN_lt _ p6
  have flt : ∀ v w : Int32, itP tx p rl g = .inl (tkS tx p) → Ok (j_X9_readItem_35 v w ρ) (fun τ => finOut ρ τ tx (itP tx p rl g)) := by
    intro v w e
    unfold j_X9_readItem_35 j_X9_readItem_36
    rw [due_N h, Option.bind_some, e]
    show Ok (if (sI ρ 0 12 (nI (tkS tx p))).1 0 12 = -9 then _ else some (sI ρ 0 12 (nI (tkS tx p)))) _
    rw [sI_same, if_neg (n_ne9 (by omega))]
    exact Ok.some ⟨FrR.rf.s0 (by omega), sI_same _ _ _ _⟩
  unfold f_X9_readItem
  refine Ok.lt (Ok.lt ?_)
  rw [h.2.2.2.1]
  simp only [show (1 : Int32) = nI 1 from rfl, show (0 : Int32) = nI 0 from rfl, n_eq (show rkN (tkK tx p) < 2147483648 by omega) (show 1 < 2147483648 by omega), n_eq (show rkN (tkK tx p) < 2147483648 by omega) (show 0 < 2147483648 by omega), rkN_1 _ p6, rkN_0 _ p6]
  by_cases c2 : tkK tx p = 2
  · rw [if_pos c2, c2]
    have ei : itP tx p rl g = ndS tx (tkA tx p) (fun _ _ => finP tx (gdP tx 301 (tkA tx p) g).1 rl (gdP tx 301 (tkA tx p) g).2) := by
      unfold itP
      rw [if_neg (by omega), if_pos c2]
    rw [ei]
    unfold j_X9_readItem_31 j_X9_readItem_36
    refine Ok.bind (due_Y h hx hl hp) ?_
    rintro ⟨v, τ⟩ ⟨-, u2, u3⟩
    simp only at u2 u3
    have pbb := pb (by omega)
    show Ok (if τ.1 0 12 = -9 then (if nI (rkN 2) = 0 then _ else (f_X9_state τ).bind (fun r4 => lt r4.1 (fun x5 => if (r4.2.1 0 12) = (-9 : Int32) then (j_X9_readItem_165 (r4.2.1 0 13) ((1 : Int32) <<< (x5 &&& 31)) r4.2) else (j_X9_readItem_165 (r4.2.1 0 13) (0 : Int32) r4.2)))) else some τ) _
    rw [u2.2.1, if_pos (by decide), if_neg (by decide)]
    have f1 := u3.frR (by decide)
    have d1 := d.fr u3 (by decide)
    generalize tkA tx p = p1 at *
    by_cases h1 : isSt tx p1
    · have nx := isSt_next pa h1
      have v6 := h1.2
      rw [ndS_yes h1]
      refine Ok.bind (state_Y u2 hx hl pa h1) ?_
      rintro ⟨w, υ⟩ ⟨w1, w2, w3⟩
      have w1 : w = nI (tkV tx p1) := w1
      subst w1
      simp only at w2 w3
      refine Ok.lt ?_
      show Ok (if υ.1 0 12 = -9 then (j_X9_readItem_165 (υ.1 0 13) ((1 : Int32) <<< (nI (tkV tx p1) &&& 31)) υ) else _) _
      have d2 := d1.fr w3 (by decide)
      rw [w2.2.1, if_pos (by decide), d2.2.2, n_p2 (by omega)]
      exact G165 (f1.tr (w3.frR (by decide))) w2 d2 hx hl nx.2 nx.1 hg h1.2 hr (gdP_yes h1).symm
    · rw [ndS_no h1, state_N u2 pa h1, Option.bind_some]
      refine Ok.lt ?_
      show Ok (if (sI τ 0 12 (nI (tkS tx p1))).1 0 12 = -9 then _ else (j_X9_readItem_165 ((sI τ 0 12 (nI (tkS tx p1))).1 0 13) 0 (sI τ 0 12 (nI (tkS tx p1))))) _
      rw [sI_same, if_neg (n_ne9 (by omega))]
      unfold j_X9_readItem_165
      refine Ok.lt ?_
      generalize hυ : sI (sI τ 0 12 (nI (tkS tx p1))) 0 13 ((sI τ 0 12 (nI (tkS tx p1))).1 0 13 ||| 0) = υ
      have fu : Flt ρ υ (tkS tx p1) := by rw [← hυ]; exact ⟨(f1.s0 (by omega)).s0 (by omega), by rw [sI_slot (by omega)]; exact sI_same _ _ _ _⟩
      have lo : Lim (T := Mem) (fun s => b_X9_readItem_169 s) υ = some υ := by
        refine Lim_out ?_
        unfold b_X9_readItem_169
        rw [fu.2, if_neg (n_ne9 (by omega))]
      rw [lo, Option.bind_some, F219 fu.2 (by omega)]
      exact Ok.some fu
  · rw [if_neg c2]
    by_cases c1 : tkK tx p = 1
    · have hv := h.2.2.2.2.1 (Or.inl c1)
      rw [if_pos c1, show (nI 1).toNatClampNeg = 1 from rfl, d.1]
      by_cases c16 : rl.length < 16
      · rw [if_neg (by rw [show (16 : Int32) = nI 16 from rfl, n_le (by omega) (by omega)]; omega), c1, hv]
        have ei : itP tx p rl g = (match ruP tx (tkA tx p) (tkV tx p) with | .inl q => .inl q | .inr x => finP tx x.1 (rl ++ [x.2]) g) := by
          unfold itP
          rw [if_pos ⟨c1, c16⟩]
          cases ruP tx (tkA tx p) (tkV tx p) <;> rfl
        rw [ei]
        unfold j_X9_readItem_31 j_X9_readItem_36
        refine Ok.bind (due_Y h hx hl hp) ?_
        rintro ⟨v, τ⟩ ⟨-, u2, u3⟩
        simp only at u2 u3
        show Ok (if τ.1 0 12 = -9 then (if nI (rkN 1) = 0 then _ else _) else some τ) _
        rw [u2.2.1, if_pos (by decide), if_pos (by decide)]
        exact G36 (u3.frR (by decide)) u2 (d.fr u3 (by decide)) hx hl pa c16 (pv c1)
      · rw [if_pos (by rw [show (16 : Int32) = nI 16 from rfl, n_le (by omega) (by omega)]; omega)]
        refine flt _ _ ?_
        unfold itP
        rw [if_neg (fun w => c16 w.2), if_neg c2]
    · rw [if_neg c1]
      refine flt _ _ ?_
      unfold itP
      rw [if_neg (fun w => c1 w.1), if_neg c2]
theorem law_R {ρ : Mem} {tx : List Nat} (h : TxR ρ tx) (hx : ∀ x ∈ tx, x < 256) (hl : tx.length ≤ 300) : Ok (f_X9_law ρ) (fun r => (∃ q, lawR tx = .inl q ∧ r.1 = -10 - nI q ∧ FrR ρ r.2) ∨ (∃ n rl g, lawR tx = .inr (n, rl, g) ∧ r.1 = nI n ∧ r.2.1 2 0 = nI rl.length ∧ LawM r.2 3 4 5 6 rl ∧ r.2.1 7 0 = nI (2 ^ rl.length - 1) ∧ r.2.1 7 1 = nI g ∧ r.2.1 8 0 = 0 ∧ r.2.1 8 1 = 0 ∧ r.2.1 0 2 = 0 ∧ (∀ j, 2 ≤ j → r.2.1 7 j = ρ.1 7 j) ∧ r.2.2 = ρ.2)) := by
  unfold f_X9_law
  rw [show (1 : Int32).toNatClampNeg = 1 from rfl]
  refine Ok.lt (Ok.lt (Ok.lt (Ok.lt ?_)))
  generalize hσ : sI (sI (sI (sI ρ 0 8 0) 0 12 (-9)) 2 1 0) 0 13 0 = σ
  have f0 : FrR ρ σ := by rw [← hσ]; exact (((FrR.rf.s0 (by omega)).s0 (by omega)).s2).s0 (by omega)
  have s8 : σ.1 0 8 = nI 0 := by rw [← hσ, sI_slot (by omega), sI_off (by omega), sI_slot (by omega), sI_same]; rfl
  have s12 : σ.1 0 12 = -9 := by rw [← hσ, sI_slot (by omega), sI_off (by omega), sI_same]
  have s13 : σ.1 0 13 = nI 0 := by rw [← hσ, sI_same]; rfl
  have s21 : σ.1 2 1 = nI 0 := by rw [← hσ, sI_off (by omega), sI_same]; rfl
  refine Ok.bind (next_R (f0.tx h) hx hl (Nat.zero_le _) s8) ?_
  rintro τ0 ⟨t1, t2⟩
  have r0 : RS τ0 tx 0 := ⟨t2.tx (by decide) (f0.tx h), by rw [t2.1 12 (by decide)]; exact s12, t1⟩
  have d0 : RD τ0 [] 0 := ⟨by rw [t2.2.1 2 (by omega)]; exact s21, fun j hj => absurd hj (Nat.not_lt_zero j), by rw [t2.1 13 (by decide)]; exact s13⟩
  have f1 : FrR ρ τ0 := f0.tr (t2.frR (by decide))
  refine Ok.bind (P := fun r => (∃ q, lawR tx = .inl q ∧ q ≤ 300 ∧ Flt ρ r.2 q) ∨ (∃ n rl g, lawR tx = .inr (n, rl, g) ∧ r.1 = nI n ∧ RD r.2 rl g ∧ r.2.1 0 12 = -9 ∧ FrR ρ r.2 ∧ rl.length ≤ 16)) ?_ ?_
  · refine Ok.wf (fun m s => (∃ p rl g n f, p + m = tx.length ∧ n ≤ p ∧ f + n = 302 ∧ s.1 = nI n ∧ RS s.2 tx p ∧ RD s.2 rl g ∧ lwP tx f p rl g n = lawR tx ∧ FrR ρ s.2 ∧ (∀ r ∈ rl, OkRu r) ∧ rl.length ≤ 16 ∧ g < 64) ∨ (∃ q, lawR tx = .inl q ∧ q ≤ 300 ∧ Flt ρ s.2 q)) ?_ tx.length _ (Or.inl ⟨0, [], 0, 0, 302, by omega, by omega, by omega, rfl, r0, d0, rfl, f1, fun r hr => absurd hr List.not_mem_nil, Nat.zero_le _, by omega⟩)
    rintro m ⟨v, τ⟩ hI
    show Ok (b_X9_law_29 v τ) _
    unfold b_X9_law_29
    rcases hI with ⟨p, rl, g, n, f, e1, e2, e3, e4, e5, e6, e7, e8, e9, e10, e11⟩ | ⟨q, e1, e2, e3⟩
    · simp only at e4 e5 e6 e8
      subst e4
      have hp : p ≤ tx.length := by omega
      obtain ⟨-, pl, p6, -⟩ := tk_ok hp
      have rk6 := rkN_lt _ p6
      obtain ⟨f', rfl⟩ : ∃ f', f = f' + 1 := ⟨f - 1, by omega⟩
      rw [lwP] at e7
      rw [e5.2.1, if_pos (by decide), e5.2.2.2.1]
      by_cases c : tkK tx p = 0
      · rw [c, if_pos (by decide)]
        rw [if_pos c] at e7
        exact Ok.some (Or.inr ⟨n, rl, g, e7.symm, rfl, e6, e5.2.1, e8, e10⟩)
      · rw [if_neg (by rw [show (4 : Int32) = nI 4 from rfl, n_eq (by omega) (by omega), rkN_4 _ p6]; exact c)]
        rw [if_neg c] at e7
        refine Ok.bind (readItem_R e5 e6 hx hl hp e10 e11) ?_
        rintro υ hυ
        obtain ⟨i1, i2⟩ := itP_ok hp e9 e10 e11
        have plt : p < tx.length := by
          by_cases z : p < tx.length
          · exact z
          · have : tkK tx p = 0 := by unfold tkK; rw [skT_stop (Or.inl (by omega)), tokQ_end (by omega)]
            omega
        cases hi : itP tx p rl g with
        | inl q =>
          rw [hi] at hυ e7
          have := i1 q hi
          exact Ok.lt (Ok.some ⟨0, by omega, Or.inr ⟨q, e7.symm, by omega, e8.tr hυ.1, hυ.2⟩⟩)
        | inr x =>
          rw [hi] at hυ e7
          obtain ⟨y1, y2, y3, y4, y5⟩ := i2 x hi
          exact Ok.lt (Ok.some ⟨tx.length - x.1, by omega, Or.inl ⟨x.1, x.2.1, x.2.2, n + 1, f', by omega, by omega, by omega, n_suc n, hυ.2.1, hυ.2.2, e7, e8.tr hυ.1, y3, y4, y5⟩⟩)
    · have e32 : τ.1 0 12 = nI q := e3.2
      rw [e32, if_neg (n_ne9 (by omega))]
      exact Ok.some (Or.inl ⟨q, e1, e2, e3⟩)
  · rintro ⟨v, τ⟩ hτ
    show Ok (j_X9_law_56 v τ) _
    unfold j_X9_law_56
    rcases hτ with ⟨q, e1, e2, e3⟩ | ⟨n, rl, g, e1, e2, e3, e4, e5, e6⟩
    · have e32 : τ.1 0 12 = nI q := e3.2
      rw [e32, if_neg (n_ne9 (by omega))]
      exact Ok.some (Or.inl ⟨q, e1, rfl, e3.1⟩)
    · simp only at e2 e3 e4 e5
      subst e2
      rw [e4, if_pos (by decide), show (1 : Int32).toNatClampNeg = 1 from rfl, show (0 : Int32).toNatClampNeg = 0 from rfl, e3.1]
      refine Ok.lt (Ok.bind (P := fun r => r.1 = nI n ∧ r.2.1 2 0 = nI rl.length ∧ LawM r.2 3 4 5 6 rl ∧ (∀ o, o < 3 ∨ 6 < o → r.2.1 o = (sI τ 2 0 (nI rl.length)).1 o) ∧ r.2.2 = τ.2) ?_ ?_)
      · refine Ok.for 16 (fun k s => s.1 = nI n ∧ s.2.1 = nI k ∧ (∀ o j, 3 ≤ o → o ≤ 6 → j < k → s.2.2.1 o j = τ.1 o (16 + j)) ∧ (∀ o j, 16 ≤ j → s.2.2.1 o j = (sI τ 2 0 (nI rl.length)).1 o j) ∧ (∀ o, o < 3 ∨ 6 < o → s.2.2.1 o = (sI τ 2 0 (nI rl.length)).1 o) ∧ s.2.2.2 = τ.2) ?_ ?_ 0 (by omega) _ ⟨rfl, rfl, fun o j _ _ hj => by omega, fun o j _ => rfl, fun o _ => rfl, rfl⟩
        · rintro k ⟨v1, v2, υ⟩ hk ⟨g1, g2, g3, g4, g5, g6⟩
          simp only at g1 g2 g3 g4 g5 g6
          subst g1 g2
          show Ok (b_X9_law_87 (nI n) (nI k) υ) _
          unfold b_X9_law_87
          rw [if_neg (by rw [show (16 : Int32) = nI 16 from rfl, n_le (by omega) (by omega)]; omega), show (16 : Int32) + nI k = nI (16 + k) from n_add 16 k]
          simp only [gd_ix (show 16 + k < 32 by omega) (by omega), gd_ix (show k < 32 by omega) (by omega), n_cl (show 16 + k < 2147483648 by omega), n_cl (show k < 2147483648 by omega), lt_eq, n_suc]
          have hsrc : ∀ o, 3 ≤ o → o ≤ 6 → υ.1 o (16 + k) = τ.1 o (16 + k) := fun o h1 h2 => by rw [g4 o (16 + k) (by omega), sI_off (by omega)]
          refine Ok.some ⟨rfl, rfl, fun o j h1 h2 h3 => ?_, fun o j hj => ?_, fun o ho => ?_, g6⟩
          · simp only [sI_get, show ¬ (16 + k = k) by omega, and_false, if_false]
            by_cases w : j = k
            · subst w
              rcases (show o = 3 ∨ o = 4 ∨ o = 5 ∨ o = 6 by omega) with rfl | rfl | rfl | rfl
              · simp only [show ¬ (3 = 6) by omega, show ¬ (3 = 5) by omega, show ¬ (3 = 4) by omega, false_and, if_false, and_self, if_true]; exact hsrc 3 (by omega) (by omega)
              · simp only [show ¬ (4 = 6) by omega, show ¬ (4 = 5) by omega, false_and, if_false, and_self, if_true]; exact hsrc 4 (by omega) (by omega)
              · simp only [show ¬ (5 = 6) by omega, false_and, if_false, and_self, if_true]; exact hsrc 5 (by omega) (by omega)
              · simp only [and_self, if_true]; exact hsrc 6 (by omega) (by omega)
            · simp only [w, and_false, if_false]
              exact g3 o j h1 h2 (by omega)
          · simp only [sI_get, show ¬ (j = k) by omega, and_false, if_false]
            have := g4 o j hj
            rw [sI_get] at this
            exact this
          · rw [sI_o (by omega), sI_o (by omega), sI_o (by omega), sI_o (by omega)]; exact g5 o ho
        · rintro ⟨v1, v2, υ⟩ ⟨g1, g2, g3, g4, g5, g6⟩
          simp only at g1 g2 g3 g4 g5 g6
          subst g1 g2
          show Ok (b_X9_law_87 (nI n) (nI 16) υ) _
          unfold b_X9_law_87
          rw [if_pos (by decide)]
          refine Ok.some ⟨rfl, ?_, fun j hj => ?_, g5, g6⟩
          · show υ.1 2 0 = _
            rw [g5 2 (by omega)]; exact sI_same _ _ _ _
          · show υ.1 3 j = _ ∧ υ.1 4 j = _ ∧ υ.1 5 j = _ ∧ υ.1 6 j = _
            rw [g3 3 j (by omega) (by omega) (by omega), g3 4 j (by omega) (by omega) (by omega), g3 5 j (by omega) (by omega) (by omega), g3 6 j (by omega) (by omega) (by omega)]
            exact e3.2.1 j hj
      · rintro ⟨v1, υ⟩ ⟨g1, g2, g3, g4, g5⟩
        simp only at g1 g2 g3 g4 g5
        subst g1
        have hp2 : 2 ^ rl.length < 2147483648 := Nat.lt_of_le_of_lt (Nat.pow_le_pow_right (by omega) e6) (by decide)
        have hp1 : 1 ≤ 2 ^ rl.length := Nat.one_le_two_pow
        rw [g2, n_p2 (by omega), show (1 : Int32) = nI 1 from rfl, n_sub hp1, show vp_nar .boolean (0 : Int32) = 0 from by decide]
        refine Ok.lt (Ok.lt (Ok.lt (Ok.lt (Ok.lt (Ok.some (Or.inr ⟨n, rl, g, e1, rfl, ?_, ?_, ?_, ?_, ?_, ?_, ?_, fun j hj => ?_, ?_⟩))))))
        · show (sI (sI (sI (sI (sI υ 7 0 (nI (2 ^ rl.length - 1))) 7 1 ((sI υ 7 0 (nI (2 ^ rl.length - 1))).1 0 13)) 8 0 0) 8 1 0) 0 2 0).1 2 0 = _
          rw [sI_off (by omega), sI_off (by omega), sI_off (by omega), sI_off (by omega), sI_off (by omega)]; exact g2
        · refine g3.cg ?_ ?_ ?_ ?_
          · rw [sI_o (by omega), sI_o (by omega), sI_o (by omega), sI_o (by omega), sI_o (by omega)]
          · rw [sI_o (by omega), sI_o (by omega), sI_o (by omega), sI_o (by omega), sI_o (by omega)]
          · rw [sI_o (by omega), sI_o (by omega), sI_o (by omega), sI_o (by omega), sI_o (by omega)]
          · rw [sI_o (by omega), sI_o (by omega), sI_o (by omega), sI_o (by omega), sI_o (by omega)]
        · show (sI (sI (sI (sI (sI υ 7 0 (nI (2 ^ rl.length - 1))) 7 1 ((sI υ 7 0 (nI (2 ^ rl.length - 1))).1 0 13)) 8 0 0) 8 1 0) 0 2 0).1 7 0 = _
          rw [sI_off (by omega), sI_off (by omega), sI_off (by omega), sI_slot (by omega)]; exact sI_same _ _ _ _
        · show (sI (sI (sI (sI (sI υ 7 0 (nI (2 ^ rl.length - 1))) 7 1 ((sI υ 7 0 (nI (2 ^ rl.length - 1))).1 0 13)) 8 0 0) 8 1 0) 0 2 0).1 7 1 = _
          rw [sI_off (by omega), sI_off (by omega), sI_off (by omega), sI_same, sI_off (by omega), g4 0 (by omega), sI_off (by omega)]; exact e3.2.2
        · show (sI (sI (sI (sI (sI υ 7 0 (nI (2 ^ rl.length - 1))) 7 1 ((sI υ 7 0 (nI (2 ^ rl.length - 1))).1 0 13)) 8 0 0) 8 1 0) 0 2 0).1 8 0 = _
          rw [sI_off (by omega), sI_slot (by omega)]; exact sI_same _ _ _ _
        · show (sI (sI (sI (sI (sI υ 7 0 (nI (2 ^ rl.length - 1))) 7 1 ((sI υ 7 0 (nI (2 ^ rl.length - 1))).1 0 13)) 8 0 0) 8 1 0) 0 2 0).1 8 1 = _
          rw [sI_off (by omega)]; exact sI_same _ _ _ _
        · exact sI_same _ _ _ _
        · show (sI (sI (sI (sI (sI υ 7 0 (nI (2 ^ rl.length - 1))) 7 1 ((sI υ 7 0 (nI (2 ^ rl.length - 1))).1 0 13)) 8 0 0) 8 1 0) 0 2 0).1 7 j = _
          rw [sI_off (by omega), sI_off (by omega), sI_off (by omega), sI_slot (by omega), sI_slot (by omega), g4 7 (by omega), sI_o (by omega), e5.2.1 7 (by omega)]
        · exact g5.trans e5.2.2.2.2
