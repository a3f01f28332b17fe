/-! law, both -/
def PBase (σ : Mem) : Prop := ∃ n, n ≤ 120 ∧ σ.1 9 17 = nI n ∧ (∀ j, j < n → ∃ s, s < 4096 ∧ σ.1 10 j = nI s) ∧ (∀ b, b < 4096 → (∀ j, j < n → σ.1 10 j ≠ nI b) → σ.1 18 b = 0)
def PNone (σ : Mem) : Prop := σ.1 9 15 = -1 ∧ σ.1 9 16 = -1 ∧ σ.1 9 17 = 0 ∧ σ.1 9 18 = 0 ∧ ∀ b, b < 4096 → σ.1 18 b = 0
theorem forget_C {σ : Mem} (h : PBase σ) : Ok (f_X4_forget σ) (fun τ => PNone τ ∧ (∀ o, o ≠ 9 → o ≠ 18 → τ.1 o = σ.1 o) ∧ τ.2 = σ.2) := by
  obtain ⟨n, h1, h2, h3, h4⟩ := h
  unfold f_X4_forget
  refine Ok.bind (P := fun τ => (∀ b, b < 4096 → τ.1 18 b = 0) ∧ (∀ o, o ≠ 18 → τ.1 o = σ.1 o) ∧ τ.2 = σ.2) ?_ ?_
  · refine Ok.for n (fun k s => s.1 = nI k ∧ (∀ b, b < 4096 → s.2.1 18 b = 0 ∨ (s.2.1 18 b = σ.1 18 b ∧ ∀ j, j < k → σ.1 10 j ≠ nI b)) ∧ (∀ o, o ≠ 18 → s.2.1 o = σ.1 o) ∧ s.2.2 = σ.2) ?_ ?_ 0 (by omega) _ ⟨rfl, fun b hb => Or.inr ⟨rfl, fun j hj => by omega⟩, fun o _ => rfl, rfl⟩
    · rintro k ⟨v, τ⟩ hk ⟨e1, e2, e3, e4⟩
      simp only at e1 e2 e3 e4
      subst e1
      show Ok (b_X4_forget_2 (nI k) τ) _
      obtain ⟨s, s1, s2⟩ := h3 k hk
      unfold b_X4_forget_2
      rw [e3 9 (by omega), h2, if_neg (by rw [n_le (by omega) (by omega)]; omega), e3 10 (by omega)]
      simp only [gd_ix (show k < 120 by omega) (by omega), n_cl (show k < 2147483648 by omega), s2, gd_ix s1 (show 4096 < 2147483648 by omega), n_cl (show s < 2147483648 by omega), lt_eq, n_suc, show vp_nar .short (0 : Int32) = 0 from by decide]
      refine Ok.some ⟨rfl, fun b hb => ?_, fun o ho => ?_, e4⟩
      · show (sI τ 18 s 0).1 18 b = 0 ∨ ((sI τ 18 s 0).1 18 b = σ.1 18 b ∧ _)
        by_cases w : b = s
        · rw [w]; exact Or.inl (sI_same _ _ _ _)
        · rw [sI_slot w]
          rcases e2 b hb with q | ⟨q1, q2⟩
          · exact Or.inl q
          · refine Or.inr ⟨q1, fun j hj => ?_⟩
            by_cases w2 : j = k
            · rw [w2, s2]
              intro e
              rw [n_eq (by omega) (by omega)] at e
              exact w e.symm
            · exact q2 j (by omega)
      · show (sI τ 18 s 0).1 o = _
        rw [sI_o ho]; exact e3 o ho
    · rintro ⟨v, τ⟩ ⟨e1, e2, e3, e4⟩
      simp only at e1 e2 e3 e4
      subst e1
      show Ok (b_X4_forget_2 (nI n) τ) _
      unfold b_X4_forget_2
      rw [e3 9 (by omega), h2, if_pos (by rw [n_le (by omega) (by omega)]; omega)]
      refine Ok.some ⟨fun b hb => ?_, e3, e4⟩
      rcases e2 b hb with q | ⟨q1, q2⟩
      · exact q
      · rw [q1]; exact h4 b hb q2
  · rintro τ ⟨e1, e2, e3⟩
    refine Ok.lt (Ok.lt (Ok.lt (Ok.lt (Ok.some ⟨⟨?_, ?_, ?_, ?_, fun b hb => ?_⟩, fun o o1 o2 => ?_, e3⟩))))
    · rw [sI_slot (by omega), sI_same]
    · rw [sI_same]
    · rw [sI_slot (by omega), sI_slot (by omega), sI_slot (by omega), sI_same]
    · rw [sI_slot (by omega), sI_slot (by omega), sI_same]
    · rw [sI_off (by omega), sI_off (by omega), sI_off (by omega), sI_off (by omega)]; exact e1 b hb
    · rw [sI_o o1, sI_o o1, sI_o o1, sI_o o1]; exact e2 o o2
theorem RepC.frC {A : AS} {σ τ : Mem} (h : RepC A σ) (f : FrC (σ.2.2 5) σ τ) : RepC A τ ∧ PF σ τ := by
  have q5 : (σ.2.2 4 = 34 ∧ σ.2.2 5 = 39) ∨ (σ.2.2 4 = 39 ∧ σ.2.2 5 = 34) := h.2.1.1
  obtain ⟨_, q6⟩ := h.2.1.law
  obtain ⟨k1, k2, k3⟩ := f
  obtain ⟨⟨h1, h2⟩, h3, h4, ⟨h5, h5'⟩, h6, h7, h8⟩ := h
  have e22 : τ.2.2 = σ.2.2 := by rw [k3]
  refine ⟨⟨⟨?_, ?_⟩, ?_, ?_, ⟨?_, ?_⟩, ?_, fun k hk => ?_, ?_⟩, fun o o1 o2 => k1 o (by omega) (by omega), by rw [k3]⟩
  · rw [k2]; exact h1
  · rw [k1 2 (by omega) (by omega)]; exact h2
  · unfold RfC; rw [e22]; exact h3
  · rw [e22]; exact h4.cg (fun o w1 w2 => k1 o (by omega) (by omega))
  · rw [k1 0 (by omega) (by omega)]; exact h5
  · rw [k1 0 (by omega) (by omega)]; exact h5'
  · rw [e22]; exact h6.cg (fun o w1 w2 => k1 o (by omega) (by omega))
  · exact (h7 k hk).cg (fun o w1 w2 => k1 o (by omega) (by omega))
  · rw [k3]; exact h8
theorem RepR.frR {A : AS} {ρ τ : Mem} (g : RepR A ρ) (hA : WfA A) (r6 : FrR ρ τ) : RepR A τ := by
  obtain ⟨⟨g1, g2⟩, ⟨g3, g4⟩, ⟨g5, g5b, g5c, g5d⟩, g6, g7⟩ := g
  have e7 : τ.1 7 = ρ.1 7 := r6.2.1 7 (by omega)
  have e8 : τ.1 8 = ρ.1 8 := r6.2.1 8 (by omega)
  refine ⟨⟨by rw [r6.1]; exact g1, by rw [r6.2.1 1 (by omega)]; exact g2⟩, ⟨by rw [r6.2.2.1]; exact g3, fun j hj => ?_⟩, ⟨by rw [e7]; exact g5, by rw [e7]; exact g5b, by rw [e7]; exact g5c, by rw [e7]; exact g5d⟩, fun k hk => ?_, by rw [r6.2.2.2.2]; exact g7⟩
  · have hj16 : j < 16 := by have := hA.2.2.2.1; omega
    rw [r6.2.2.2.1 3 j (by omega) (by omega) hj16, r6.2.2.2.1 4 j (by omega) (by omega) hj16, r6.2.2.2.1 5 j (by omega) (by omega) hj16, r6.2.2.2.1 6 j (by omega) (by omega) hj16]
    exact g4 j hj
  · have := g6 k hk
    cases hx : imA A k with
    | none => rw [hx] at this; show τ.1 8 k = 0; rw [e8]; exact this
    | some y =>
      obtain ⟨o, gg, t⟩ := y
      rw [hx] at this
      show τ.1 8 k = 1 ∧ StR τ (34 * (1 + k)) o gg t
      unfold StR
      rw [e8, e7]
      exact this
def lawB (A : AS) (rl : List Ru) (o g : Nat) : AS := ([], rl, o, g, trA A, (fun _ => none), tcA A)
theorem lawB_R {A : AS} {ρ τ : Mem} {rl : List Ru} {o g : Nat} (h : RepR A ρ) (r6 : τ.1 2 0 = nI rl.length) (r7 : LawM τ 3 4 5 6 rl) (r8 : τ.1 7 0 = nI o) (r9 : τ.1 7 1 = nI g) (r10 : τ.1 8 0 = 0) (r11 : τ.1 8 1 = 0) (r12 : τ.1 0 2 = 0) (r13 : ∀ j, 2 ≤ j → τ.1 7 j = ρ.1 7 j) (r14 : τ.2 = ρ.2) : RepR (lawB A rl o g) τ := by
  obtain ⟨⟨g1, g2⟩, ⟨g3, g4⟩, ⟨g5, g5b, g5c, g5d⟩, g6, g7⟩ := h
  refine ⟨⟨r12, fun j hj => absurd hj (Nat.not_lt_zero j)⟩, ⟨r6, r7⟩, ⟨r8, r9, ?_, fun j hj => ?_⟩, fun k hk => ?_, ?_⟩
  · rw [r13 _ (by omega)]; exact g5c
  · rw [r13 _ (by omega)]; exact g5d j hj
  · rcases (show k = 0 ∨ k = 1 by omega) with rfl | rfl
    · exact r10
    · exact r11
  · show τ.2.1 0 0 = tcA A
    rw [r14]; exact g7
theorem lawB_W {A : AS} {rl : List Ru} {o g : Nat} (hA : WfA A) (d6 : ∀ r ∈ rl, OkRu r) (d7 : rl.length ≤ 16) (ho : o < 65536) (d8 : g < 64) : WfA (lawB A rl o g) := by
  obtain ⟨u1, u2, u3, u4, u5, u6, u7, u8⟩ := hA
  exact ⟨fun x hx => absurd hx List.not_mem_nil, Nat.zero_le _, d6, d7, ho, d8, u7, fun k o g t e => by cases e⟩
theorem images0 {υ : Mem} {v : Int32} : Ok (Lim (T := (Int32 × Mem)) (fun s => b_X8_law_68 s.1 s.2.1 s.2.2) (v, (0 : Int32), υ)) (fun r => r.1 = v ∧ (∀ k, k < 2 → r.2.1 (54 + 6 * k) 0 = 0) ∧ (∀ o, o ≠ 54 → o ≠ 60 → r.2.1 o = υ.1 o) ∧ r.2.2 = υ.2) := by
  refine Ok.for 2 (fun k s => s.1 = v ∧ s.2.1 = nI k ∧ (∀ i, i < k → s.2.2.1 (54 + 6 * i) 0 = 0) ∧ (∀ o, o ≠ 54 → o ≠ 60 → s.2.2.1 o = υ.1 o) ∧ s.2.2.2 = υ.2) ?_ ?_ 0 (by omega) _ ⟨rfl, rfl, fun i hi => by omega, fun o _ _ => rfl, rfl⟩
  · rintro k ⟨v1, v3, ω⟩ hk ⟨w1, w2, w3, w4, w5⟩
    simp only at w1 w2 w3 w4 w5
    subst w1 w2
    show Ok (b_X8_law_68 v1 (nI k) ω) _
    unfold b_X8_law_68
    rw [if_neg (by rw [show (2 : Int32) = nI 2 from rfl, n_le (by omega) (by omega)]; omega)]
    simp only [gd_ix hk (show 2 < 2147483648 by omega), n_cl (show k < 2147483648 by omega), lt_eq, n_suc]
    refine Ok.some ⟨rfl, rfl, fun i hi => ?_, fun o o1 o2 => ?_, w5⟩
    · show (sI ω (54 + 6 * k) 0 0).1 (54 + 6 * i) 0 = 0
      by_cases w : i = k
      · rw [w]; exact sI_same _ _ _ _
      · rw [sI_off (by omega)]; exact w3 i (by omega)
    · show (sI ω (54 + 6 * k) 0 0).1 o = _
      rw [sI_o (by omega)]; exact w4 o o1 o2
  · rintro ⟨v1, v3, ω⟩ ⟨w1, w2, w3, w4, w5⟩
    simp only at w1 w2 w3 w4 w5
    subst w1 w2
    show Ok (b_X8_law_68 v1 (nI 2) ω) _
    unfold b_X8_law_68
    rw [if_pos (by decide)]
    exact Ok.some ⟨rfl, w3, w4, w5⟩
theorem lawB_C {A : AS} {σ c2 : Mem} {rl : List Ru} {n o gg : Nat} (h : RepC A σ) (hP : PBase σ) (k : FrC (σ.2.2 5) σ c2) (c3 : f_X3_read (σ.2.2 5) σ = some (nI n, c2)) (hn : n < 2147483648) (d4 : LawC c2 (σ.2.2 5) rl) (d5 : c2.1 (σ.2.2 5) 5 = nI gg) (al : ∀ τ : Mem, τ.1 (σ.2.2 5) 4 = nI rl.length → f_X3_allOn (σ.2.2 5) τ = nI o) : Ok (f_X8_law σ) (fun r => r.1 = nI n ∧ RepC (lawB A rl o gg) r.2 ∧ PNone r.2) := by
  have q5 : (σ.2.2 4 = 34 ∧ σ.2.2 5 = 39) ∨ (σ.2.2 4 = 39 ∧ σ.2.2 5 = 34) := h.2.1.1
  obtain ⟨_, q6⟩ := h.2.1.law
  obtain ⟨k1, k2, k3⟩ := k
  have e22 : c2.2.2 = σ.2.2 := by rw [k3]
  have e4 : c2.2.2 4 = σ.2.2 4 := by rw [e22]
  have e5 : c2.2.2 5 = σ.2.2 5 := by rw [e22]
  unfold f_X8_law
  rw [c3, Option.bind_some]
  refine Ok.lt ?_
  show Ok (if 0 ≤ nI n then _ else _) _
  rw [if_pos (by rw [n_nn hn]; trivial)]
  refine Ok.lt (Ok.lt (Ok.lt ?_))
  show Ok (lt (sI (sI (sR (sR c2 4 (c2.2.2 5)) 5 (c2.2.2 4)) 1 1 0) 0 8 (f_X3_allOn ((sI (sR (sR c2 4 (c2.2.2 5)) 5 (c2.2.2 4)) 1 1 0).2.2 4) (sI (sR (sR c2 4 (c2.2.2 5)) 5 (c2.2.2 4)) 1 1 0))) _) _
  generalize hτ : sI (sR (sR c2 4 (c2.2.2 5)) 5 (c2.2.2 4)) 1 1 0 = τ
  have t4 : τ.2.2 4 = σ.2.2 5 := by rw [← hτ, sI_R, sR_get, if_neg (by omega), sR_get, if_pos rfl, e5]
  have t5 : τ.2.2 5 = σ.2.2 4 := by rw [← hτ, sI_R, sR_get, if_pos rfl, e4]
  have t6 : τ.2.2 6 = σ.2.2 6 := by rw [← hτ, sI_R, sR_get, if_neg (by omega), sR_get, if_neg (by omega), e22]
  have t7 : τ.2.2 7 = σ.2.2 7 := by rw [← hτ, sI_R, sR_get, if_neg (by omega), sR_get, if_neg (by omega), e22]
  have tf : ∀ o, o ≠ 1 → τ.1 o = c2.1 o := fun o ho => by rw [← hτ, sI_o ho]; rfl
  have tj : τ.2.1 = σ.2.1 := by rw [← hτ]; show c2.2.1 = _; rw [k3]
  have t1 : τ.1 1 1 = nI 0 := by rw [← hτ]; exact sI_same _ _ _ _
  clear hτ
  rw [t4, al τ (by rw [tf _ (by omega)]; exact d4.1)]
  refine Ok.lt ?_
  have gt : (sI τ 0 8 (nI o)).1 ((sI τ 0 8 (nI o)).2.2 4) 5 = nI gg := by
    rw [sI_R, t4, sI_off (by omega), tf _ (by omega)]; exact d5
  rw [gt]
  refine Ok.lt ?_
  generalize hυ : sI (sI τ 0 8 (nI o)) 0 9 (nI gg) = υ
  have uf : ∀ o, o ≠ 0 → υ.1 o = τ.1 o := fun o ho => by rw [← hυ, sI_o ho, sI_o ho]
  have u8 : υ.1 0 8 = nI o := by rw [← hυ, sI_slot (by omega)]; exact sI_same _ _ _ _
  have u9 : υ.1 0 9 = nI gg := by rw [← hυ]; exact sI_same _ _ _ _
  have u2 : υ.2 = τ.2 := by rw [← hυ]; rfl
  clear hυ
  refine Ok.bind images0 ?_
  rintro ⟨v1, ω⟩ ⟨w1, w2, w3, w4⟩
  simp only at w1 w2 w3 w4
  subst w1
  have wf : ∀ o, 2 ≤ o → o < 34 → ω.1 o = σ.1 o := fun o o1 o2 => by rw [w3 o (by omega) (by omega), uf o (by omega), tf o (by omega), k1 o (by omega) (by omega)]
  have pb : PBase ω := by
    obtain ⟨m, m1, m2, m3, m4⟩ := hP
    exact ⟨m, m1, by rw [wf 9 (by omega) (by omega)]; exact m2, by rw [wf 10 (by omega) (by omega)]; exact m3, by rw [wf 10 (by omega) (by omega), wf 18 (by omega) (by omega)]; exact m4⟩
  refine Ok.bind (forget_C pb) ?_
  rintro ψ ⟨p1, p2, p3⟩
  have pf : ∀ o, o ≠ 0 → o ≠ 1 → o ≠ 9 → o ≠ 18 → o ≠ 54 → o ≠ 60 → ψ.1 o = c2.1 o := fun o a1 a2 a3 a4 a5 a6 => by rw [p2 o a3 a4, w3 o a5 a6, uf o a1, tf o a2]
  have pr : ψ.2.2 = τ.2.2 := by rw [p3, w4, u2]
  have p54 : ∀ k, k < 2 → ψ.1 (54 + 6 * k) 0 = 0 := fun k hk => by rw [p2 _ (by omega) (by omega)]; exact w2 k hk
  refine Ok.some ⟨rfl, ?_, p1⟩
  obtain ⟨⟨h1, h2⟩, h3, h4, ⟨h5, h5'⟩, h6, h7, h8⟩ := h
  refine ⟨⟨?_, fun j hj => absurd hj (Nat.not_lt_zero j)⟩, ?_, ?_, ⟨?_, ?_⟩, ?_, fun k hk => ?_, ?_⟩
  · show ψ.1 1 1 = nI 0
    rw [p2 1 (by omega) (by omega), w3 1 (by omega) (by omega), uf 1 (by omega)]; exact t1
  · unfold RfC; rw [pr, t4, t5, t6, t7]
    exact ⟨q5.symm.imp And.symm And.symm, h3.2⟩
  · show LawC ψ (ψ.2.2 4) rl
    rw [pr, t4]
    exact d4.cg (fun o w1 w2 => pf o (by omega) (by omega) (by omega) (by omega) (by omega) (by omega))
  · show ψ.1 0 8 = nI o
    rw [p2 0 (by omega) (by omega), w3 0 (by omega) (by omega)]; exact u8
  · show ψ.1 0 9 = nI gg
    rw [p2 0 (by omega) (by omega), w3 0 (by omega) (by omega)]; exact u9
  · show TreeC ψ (ψ.2.2 6) (trA A)
    rw [pr, t6]
    exact h6.cg (fun o w1 w2 => (pf o (by omega) (by omega) (by omega) (by omega) (by omega) (by omega)).trans (k1 o (by omega) (by omega)))
  · exact p54 k hk
  · show ψ.2.1 0 10 = tcA A
    rw [p3, w4, u2, tj]; exact h8
theorem law_RC {A : AS} {σ ρ : Mem} (h : RepC A σ) (g : RepR A ρ) (hA : WfA A) (hP : PBase σ) : ∃ (v : Int32) (B : AS) (σ' ρ' : Mem), f_X8_law σ = some (v, σ') ∧ f_X9_law ρ = some (v, ρ') ∧ RepC B σ' ∧ RepR B ρ' ∧ WfA B ∧ ((rlA B = rlA A ∧ PF σ σ') ∨ PNone σ') := by
  have hx := hA.1
  have hl := hA.2.1
  have q5 : (σ.2.2 4 = 34 ∧ σ.2.2 5 = 39) ∨ (σ.2.2 4 = 39 ∧ σ.2.2 5 = 34) := h.2.1.1
  obtain ⟨⟨c1, c2⟩, c3, c4, c5⟩ := readLaw_C (t := σ.2.2 5) h.1 hx hl (by omega)
  obtain ⟨⟨r1, r2⟩, r3, r4⟩ := law_R g.1 hx hl
  simp only at c4 c5 r4
  rcases r4 with ⟨q, r4, r5, r6⟩ | ⟨n, rl, gg, r4, r5, r6, r7, r8, r9, r10, r11, r12, r13, r14⟩
  · rcases c5 with ⟨q', d1, d2, d3⟩ | ⟨n, rl, gg, d1, d2, d3, d4, d5, d6, d7, d8⟩
    · rw [r4] at d2
      have d2 : q = q' := Sum.inl.inj d2
      subst d2
      subst r5
      subst d3
      obtain ⟨k1, k2⟩ := h.frC c4
      refine ⟨_, A, c2, r2, ?_, r3, k1, g.frR hA r6, hA, Or.inl ⟨rfl, k2⟩⟩
      unfold f_X8_law
      rw [c3, Option.bind_some, lt_eq]
      exact if_neg (m10_neg _ (by omega))
    · rw [r4] at d2
      exact absurd d2 (by simp)
  · rcases c5 with ⟨q', d1, d2, d3⟩ | ⟨n', rl', g', d1, d2, d3, d4, d5, d6, d7, d8⟩
    · rw [r4] at d2
      exact absurd d2 (by simp)
    · rw [r4] at d2
      have d2 := Sum.inr.inj d2
      have e1 : n = n' := congrArg Prod.fst d2
      have e2 : rl = rl' := congrArg (fun x => x.2.1) d2
      have e3 : gg = g' := congrArg (fun x => x.2.2) d2
      subst e1 e2 e3
      subst r5
      subst d3
      have hp2 : 2 ^ rl.length ≤ 2 ^ 16 := Nat.pow_le_pow_right (by omega) d7
      have hp1 : 1 ≤ 2 ^ rl.length := Nat.one_le_two_pow
      have al : ∀ τ : Mem, τ.1 (σ.2.2 5) 4 = nI rl.length → f_X3_allOn (σ.2.2 5) τ = nI (2 ^ rl.length - 1) := by
        intro τ e
        unfold f_X3_allOn
        rw [e, n_p2 (by omega), show (1 : Int32) = nI 1 from rfl, n_sub hp1]
      have ho : 2 ^ rl.length - 1 < 65536 := by omega
      generalize 2 ^ rl.length - 1 = o at r8 al ho
      obtain ⟨⟨v, ψ⟩, x1, x2, x3, x4⟩ := lawB_C h hP c4 c3 (by omega) d4 d5 al
      have x2 : v = nI n := x2
      subst x2
      exact ⟨nI n, lawB A rl o gg, ψ, r2, x1, r3, x3, lawB_R g r6 r7 r8 r9 r10 r11 r12 r13 r14, lawB_W hA d6 d7 ho d8, Or.inr x4⟩
