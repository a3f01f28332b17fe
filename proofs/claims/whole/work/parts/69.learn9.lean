/-! the class: learn, from any state of the pairs -/
theorem learn_new {rl : List Ru} {on on' t : Nat} {σ : Mem} (hP : PBase σ) (hL : LawC σ t rl) (ht : 33 < t) (hrl : ∀ r ∈ rl, OkRu r) (hll : rl.length ≤ 16) (ho : on < 65536) (ho' : on' < 65536) : Ok (j_X4_learn_17 t (nI on) (nI on') σ) (fun τ => LnOk rl on on' τ ∧ τ.1 9 15 = nI on ∧ τ.1 9 16 = nI on' ∧ τ.1 22 2 = 0 ∧ (∀ o, o < 9 ∨ 33 < o → τ.1 o = σ.1 o) ∧ τ.2 = σ.2) := by
  unfold j_X4_learn_17
  refine Ok.bind (forget_C hP) ?_
  rintro τ1 ⟨a1, a2, a3⟩
  refine Ok.bind (copyLaw_C (hL.cg (fun o o1 o2 => a2 o (by omega) (by omega))) hll ht) ?_
  rintro τ2 ⟨b1, b2, b3⟩
  refine Ok.lt (Ok.lt ?_)
  generalize hσ : sI (sI τ2 9 15 (nI on)) 9 16 (nI on') = τ3
  have c0 : ∀ o, o ≠ 9 → τ3.1 o = τ2.1 o := fun o h => by rw [← hσ, sI_o h, sI_o h]
  have c15 : τ3.1 9 15 = nI on := by rw [← hσ, sI_slot (by omega)]; exact sI_same _ _ _ _
  have c16 : τ3.1 9 16 = nI on' := by rw [← hσ]; exact sI_same _ _ _ _
  have cj : ∀ j, j ≠ 15 → j ≠ 16 → τ3.1 9 j = τ1.1 9 j := fun j j1 j2 => by rw [← hσ, sI_slot j2, sI_slot j1, b2 9 (by omega)]
  have c2 : τ3.2 = τ2.2 := by rw [← hσ]; rfl
  clear hσ
  generalize hσ : sI τ3 22 2 0 = τ4
  have d0 : ∀ o, o ≠ 22 → τ4.1 o = τ3.1 o := fun o h => by rw [← hσ, sI_o h]
  have d22 : τ4.1 22 2 = 0 := by rw [← hσ]; exact sI_same _ _ _ _
  have d2 : τ4.2 = τ3.2 := by rw [← hσ]; rfl
  have hL4 : LawC τ4 29 rl := b1.cg (fun o o1 o2 => (d0 o (by omega)).trans (c0 o (by omega)))
  refine Ok.bind (P := fun τ => ∃ n xs z W, SeC rl on on' τ4 τ n xs z W (fun _ => false) (Done τ (stX rl on on') n xs z W (fun _ => false))) ?_ ?_
  · unfold f_X4_begin f_X5_begin
    rw [lt_eq, Option.bind_some, hσ, ← Option.bind_assoc]
    refine Ok.bind (rules_C hL4 hrl hll ho ho' (by rw [d0 9 (by omega)]; exact c15) (by rw [d0 9 (by omega)]; exact c16)) ?_
    rintro τ5 ⟨e1, e2, e3⟩
    have e9 : τ5.1 9 = τ3.1 9 := (e2 9 (by omega)).trans (d0 9 (by omega))
    have fl : τ5.1 9 18 = 0 := by rw [e9, cj 18 (by omega) (by omega)]; exact a1.2.2.2.1
    refine Ok.bind (leaves_C (σ0 := τ4) (on := on) (on' := on') (xs := fun _ => zX) (z := fun _ => 0) (W := fun _ => []) hrl hll ⟨⟨⟨hL4.cg (fun o o1 o2 => e2 o (by omega)), ⟨?_, ?_, ?_⟩, by omega, ⟨fun i j hi => by omega, fun i hi => by omega⟩, fun p hp => by omega, fun b hb _ => ?_, e1⟩, fun p hp => by omega⟩, fun i hi => absurd hi (by simp), fun i hi => by omega, ⟨fun o ho => e2 o (by omega), e3⟩, Or.inl ⟨fl, trivial⟩⟩ fl) (fun r hr => Ok.some hr)
    · rw [e9]; exact c15
    · rw [e9]; exact c16
    · rw [e9, cj 17 (by omega) (by omega)]; exact a1.2.2.1
    · rw [e2 18 (by omega), d0 18 (by omega), c0 18 (by omega), b2 18 (by omega)]; exact a1.2.2.2.2 b hb
  · rintro τ6 ⟨n, xs, z, W, S⟩
    refine Ok.bind (rounds_C hrl hll S) ?_
    rintro r ⟨τ, hr, ln, fr⟩
    have res : Ok (some τ) (fun τ => LnOk rl on on' τ ∧ τ.1 9 15 = nI on ∧ τ.1 9 16 = nI on' ∧ τ.1 22 2 = 0 ∧ (∀ o, o < 9 ∨ 33 < o → τ.1 o = σ.1 o) ∧ τ.2 = σ.2) := by
      refine Ok.some ⟨ln, ?_, ?_, ?_, fun o ho => ?_, ?_⟩
      · obtain ⟨n, xs, z, W, F, l1, _⟩ := ln
        exact l1.1.2.1.1
      · obtain ⟨n, xs, z, W, F, l1, _⟩ := ln
        exact l1.1.2.1.2.1
      · rw [fr.1 22 (by omega)]; exact d22
      · rw [fr.1 o (by omega), d0 o (by omega), c0 o (by omega), b2 o (by omega), a2 o (by omega) (by omega)]
      · rw [fr.2, d2, c2, b3, a3]
    rcases hr with rfl | rfl
    · exact res
    · exact res
/-- the pairs between calls, but for the tally: none learnt, or learnt -/
def CaI (σ : Mem) (rl : List Ru) : Prop := PBase σ ∧ ((∀ on, on < 65536 → σ.1 9 15 ≠ nI on) ∨ ∃ on on', on < 65536 ∧ on' < 65536 ∧ σ.1 9 15 = nI on ∧ σ.1 9 16 = nI on' ∧ LnOk rl on on' σ)
theorem LnOk.base {σ : Mem} {rl : List Ru} {on on' : Nat} (h : LnOk rl on on' σ) : PBase σ := by
  obtain ⟨n, xs, z, W, F, ⟨⟨hL, ⟨p15, p16, p17⟩, pn, ls, ent, num, ro⟩, rc⟩, _⟩ := h
  refine ⟨n, pn, p17, fun j hj => ⟨encX (xs j), ?_, (ent j hj).2.2.1⟩, fun b hb nb => num b hb (fun p hp e => ?_)⟩
  · have := (ent j hj).1
    have := (ent j hj).2.1
    unfold encX
    omega
  · exact nb p hp (by rw [(ent p hp).2.2.1, e])
theorem learn_C {rl : List Ru} {on on' t : Nat} {σ : Mem} (hC : CaI σ rl) (hL : LawC σ t rl) (ht : 33 < t) (hrl : ∀ r ∈ rl, OkRu r) (hll : rl.length ≤ 16) (ho : on < 65536) (ho' : on' < 65536) : Ok (f_X4_learn t (nI on) (nI on') σ) (fun τ => LnOk rl on on' τ ∧ τ.1 9 15 = nI on ∧ τ.1 9 16 = nI on' ∧ ((τ = σ) ∨ (τ.1 22 2 = 0 ∧ (∀ o, o < 9 ∨ 33 < o → τ.1 o = σ.1 o) ∧ τ.2 = σ.2))) := by
  have new : Ok (j_X4_learn_17 t (nI on) (nI on') σ) (fun τ => LnOk rl on on' τ ∧ τ.1 9 15 = nI on ∧ τ.1 9 16 = nI on' ∧ ((τ = σ) ∨ (τ.1 22 2 = 0 ∧ (∀ o, o < 9 ∨ 33 < o → τ.1 o = σ.1 o) ∧ τ.2 = σ.2))) := by
    refine (learn_new hC.1 hL ht hrl hll ho ho').mono ?_
    rintro τ ⟨a, b, c, d, e, f⟩
    exact ⟨a, b, c, Or.inr ⟨d, e, f⟩⟩
  unfold f_X4_learn
  by_cases c1 : nI on = σ.1 9 15
  · rw [if_pos c1]
    by_cases c2 : nI on' = σ.1 9 16
    · rw [if_pos c2]
      rcases hC.2 with h | ⟨o1, o2, h1, h2, h3, h4, h5⟩
      · exact absurd c1.symm (h on ho)
      · rw [h3, n_eq (by omega) (by omega)] at c1
        rw [h4, n_eq (by omega) (by omega)] at c2
        subst c1 c2
        exact Ok.some ⟨h5, h3, h4, Or.inl rfl⟩
    · rw [if_neg c2]; exact new
  · rw [if_neg c1]; exact new
