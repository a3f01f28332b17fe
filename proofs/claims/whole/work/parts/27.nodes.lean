/-! node, isGood, places, mark -/
theorem over_R {ρ : Mem} {t : List Nat} (h : SgR ρ t) (hw : WfT t) (hp : ∀ j, j < t.length → ρ.1 10 j = nI (partL t j)) {i : Nat} (hi : i < t.length) : Ok (f_X9_over (nI i) ρ) (fun v => (i = 0 → v = -9) ∧ (0 < i → ∃ k, k < i ∧ isArm t k i ∧ v = nI k)) := by
  have hl := hw.2.1
  have nd := hw.nd hi
  unfold f_X9_over
  refine Ok.bind (P := fun v => (i = 0 → v = -9) ∧ (0 < i → ∃ k, k < i ∧ isArm t k i ∧ v = nI k)) ?_ (fun r hr => Ok.some hr)
  refine Ok.for i (fun k st => st.2 = nI k ∧ ((st.1 = -9 ∧ ∀ k', k' < k → ¬ isArm t k' i) ∨ ∃ k', k' < k ∧ isArm t k' i ∧ st.1 = nI k')) ?_ ?_ 0 (by omega) _ ⟨rfl, Or.inl ⟨rfl, fun k' hk' => by omega⟩⟩
  · rintro k ⟨v2, v3⟩ hk ⟨e1, e2⟩
    have e1 : v3 = nI k := e1
    subst e1
    have e2 : (v2 = -9 ∧ ∀ k', k' < k → ¬ isArm t k' i) ∨ ∃ k', k' < k ∧ isArm t k' i ∧ v2 = nI k' := e2
    show Ok (b_X9_over_5 (nI i) v2 (nI k) ρ) _
    have hkl : k < t.length := by omega
    have h8 := sgn_lt hw hkl
    have ha := armsN_le (sgn t k)
    have yes : isArm t k i → Ok (j_X9_over_50 (nI i) (nI k) ρ) (SumP (fun st => st.2 = nI (k + 1) ∧ ((st.1 = -9 ∧ ∀ k', k' < k + 1 → ¬ isArm t k' i) ∨ ∃ k', k' < k + 1 ∧ isArm t k' i ∧ st.1 = nI k')) (fun v => (i = 0 → v = -9) ∧ (0 < i → ∃ k, k < i ∧ isArm t k i ∧ v = nI k))) := by
      intro q
      unfold j_X9_over_50 j_X9_over_55
      exact Ok.lt (Ok.some ⟨n_suc k, Or.inr ⟨k, by omega, q, rfl⟩⟩)
    have no : ¬ isArm t k i → Ok (j_X9_over_54 (nI i) v2 (nI k) ρ) (SumP (fun st => st.2 = nI (k + 1) ∧ ((st.1 = -9 ∧ ∀ k', k' < k + 1 → ¬ isArm t k' i) ∨ ∃ k', k' < k + 1 ∧ isArm t k' i ∧ st.1 = nI k')) (fun v => (i = 0 → v = -9) ∧ (0 < i → ∃ k, k < i ∧ isArm t k i ∧ v = nI k))) := by
      intro q
      unfold j_X9_over_54 j_X9_over_55
      refine Ok.lt (Ok.some ⟨n_suc k, ?_⟩)
      rcases e2 with ⟨e2, e3⟩ | ⟨k', e2, e3, e4⟩
      · refine Or.inl ⟨e2, fun k' hk' => ?_⟩
        by_cases w : k' = k
        · rw [w]; exact q
        · exact e3 k' (by omega)
      · exact Or.inr ⟨k', by omega, e3, e4⟩
    have s35 : (armsN (sgn t k) ≤ 0 ∨ k + 1 ≠ i) → Ok (j_X9_over_35 (nI i) v2 (nI k) (nI (armsN (sgn t k))) ρ) (SumP (fun st => st.2 = nI (k + 1) ∧ ((st.1 = -9 ∧ ∀ k', k' < k + 1 → ¬ isArm t k' i) ∨ ∃ k', k' < k + 1 ∧ isArm t k' i ∧ st.1 = nI k')) (fun v => (i = 0 → v = -9) ∧ (0 < i → ∃ k, k < i ∧ isArm t k i ∧ v = nI k))) := by
      intro q
      unfold j_X9_over_35
      by_cases c : armsN (sgn t k) ≤ 1
      · rw [if_pos (by rw [show (1 : Int32) = nI 1 from rfl, n_le (by omega) (by omega)]; exact c)]
        refine no (fun w => ?_)
        rcases w with ⟨w1, w2⟩ | ⟨w1, w2⟩ <;> omega
      · obtain ⟨p1, p2⟩ := part_2 nd hkl (by omega)
        rw [if_neg (by rw [show (1 : Int32) = nI 1 from rfl, n_le (by omega) (by omega)]; exact c)]
        unfold f_X9_second
        rw [n_suc, gd_ix (by omega) (by omega), n_cl (by omega), hp (k + 1) (by omega), n_add, Option.bind_some]
        simp only [n_eq (show k + 1 + partL t (k + 1) < 2147483648 by omega) (show i < 2147483648 by omega)]
        by_cases c2 : k + 1 + partL t (k + 1) = i
        · rw [if_pos c2]; exact yes (Or.inr ⟨by omega, c2.symm⟩)
        · rw [if_neg c2]
          refine no (fun w => ?_)
          rcases w with ⟨w1, w2⟩ | ⟨w1, w2⟩ <;> omega
    unfold b_X9_over_5
    rw [if_neg (by rw [n_le (by omega) (by omega)]; omega), n_3, gd_ix (by omega) (by omega), n_cl (by omega), h.2 k hkl, arms_R (by omega)]
    refine Ok.lt ?_
    by_cases c : armsN (sgn t k) ≤ 0
    · rw [if_pos (by rw [show (0 : Int32) = nI 0 from rfl, n_le (by omega) (by omega)]; exact c)]
      exact s35 (Or.inl c)
    · rw [if_neg (by rw [show (0 : Int32) = nI 0 from rfl, n_le (by omega) (by omega)]; exact c), n_suc]
      simp only [n_eq (show k + 1 < 2147483648 by omega) (show i < 2147483648 by omega)]
      by_cases c2 : k + 1 = i
      · rw [if_pos c2]; exact yes (Or.inl ⟨by omega, c2.symm⟩)
      · rw [if_neg c2]; exact s35 (Or.inr c2)
  · rintro ⟨v2, v3⟩ ⟨e1, e2⟩
    have e1 : v3 = nI i := e1
    subst e1
    have e2 : (v2 = -9 ∧ ∀ k', k' < i → ¬ isArm t k' i) ∨ ∃ k', k' < i ∧ isArm t k' i ∧ v2 = nI k' := e2
    show Ok (b_X9_over_5 (nI i) v2 (nI i) ρ) _
    unfold b_X9_over_5
    rw [if_pos (by rw [n_le (by omega) (by omega)]; omega)]
    refine Ok.some ⟨fun q => ?_, fun q => ?_⟩
    · rcases e2 with ⟨e2, e3⟩ | ⟨k', e2, e3, e4⟩
      · exact e2
      · omega
    · rcases e2 with ⟨e2, e3⟩ | e2
      · obtain ⟨p, p1, p2⟩ := arm_some nd q hi
        exact absurd p2 (e3 p p1)
      · exact e2
theorem RepC.come {A : AS} {σ : Mem} (h : RepC A σ) (hA : WfA A) : Ok (f_X0_come (σ.2.2 6) (σ.2.2 4) (σ.1 0 8) σ) (fun σ' => (∀ j, j < (trA A).length → σ'.1 5 j = nI (cmA (rlA A) (onA A) (trA A) j)) ∧ RepC A σ' ∧ PF σ σ' ∧ σ'.2 = σ.2) := by
  obtain ⟨q1, q2⟩ := h.2.1.law
  rw [h.2.2.2.1.1]
  refine (come_C h.2.2.2.2.1 h.2.2.1 hA.2.2.2.2.2.2.1 hA.2.2.1 hA.2.2.2.1 hA.2.2.2.2.1 (by rcases q2 with q | q <;> omega) (by rcases q1 with q | q <;> omega)).mono ?_
  rintro τ ⟨e1, e2, e3⟩
  exact ⟨e1, h.climb (fun o ho => e2 o (by omega)) (by rw [e3]) (by rw [e3]), ⟨fun o h1 h2 => e2 o (by omega), by rw [e3]⟩, e3⟩
theorem comesTo_C {A : AS} {σ : Mem} (h : RepC A σ) (hA : WfA A) {j : Nat} (hj : j < (trA A).length) : Ok (f_X8_comesTo (nI j) σ) (fun r => r.1 = nI (cmA (rlA A) (onA A) (trA A) j) ∧ RepC A r.2 ∧ PF σ r.2) := by
  have hl := hA.2.2.2.2.2.2.1.2.1
  unfold f_X8_comesTo
  refine Ok.bind (h.come hA) (fun r hr => ?_)
  rw [gd_ix (by omega) (by omega), n_cl (by omega)]
  exact Ok.some ⟨hr.1 j hj, hr.2.1, hr.2.2.1⟩
theorem Both.mk {A B : AS} {σ : Mem} {fc fr : Option (Int32 × Mem)} {v : Int32} (hc : Ok fc (fun r => r.1 = v ∧ RepC B r.2 ∧ PF σ r.2)) (hr : Ok fr (fun r => r.1 = v ∧ RepR B r.2)) (hB : WfA B) (hl : rlA B = rlA A) : Both A σ fc fr := by
  obtain ⟨⟨c1, c2⟩, c3, c4, c5, c6⟩ := hc
  obtain ⟨⟨r1, r2⟩, r3, r4, r5⟩ := hr
  have c4 : c1 = _ := c4
  have r4 : r1 = _ := r4
  subst c4
  subst r4
  exact ⟨_, B, c2, r2, c3, r3, c5, r5, hB, hl, c6⟩
theorem isNode_yes {A : AS} {ρ : Mem} (h : RepR A ρ) (hA : WfA A) {j : Nat} (hj : j < (trA A).length) : f_X9_isNode (nI j) ρ = some 1 := by
  rcases isNode_R h hA (nI j) with ⟨_, _, _, h1⟩ | ⟨hn, h1⟩
  · exact h1
  · exact absurd rfl (hn j hj)
theorem isNode_no {A : AS} {ρ : Mem} (h : RepR A ρ) (hA : WfA A) {a : Int32} (hn : ∀ j, j < (trA A).length → a ≠ nI j) : f_X9_isNode a ρ = some 0 := by
  rcases isNode_R h hA a with ⟨j, h1, h2, _⟩ | ⟨_, h1⟩
  · exact absurd h2 (hn j h1)
  · exact h1
theorem RepR.comes {A : AS} {ρ : Mem} (h : RepR A ρ) (hA : WfA A) : Ok (f_X9_findComes ρ) (fun ρ' => (∀ j, j < (trA A).length → ρ'.1 10 j = nI (partL (trA A) j) ∧ ρ'.1 11 j = nI (cmA (rlA A) (onA A) (trA A) j)) ∧ RepR A ρ') := by
  refine (comes_R h hA).mono ?_
  rintro τ ⟨e1, e2, e3⟩
  exact ⟨e1, h.scr (by rw [e2 0 (by omega) (by omega)]) (fun o h1 h2 => e2 o (by omega) (by omega)) (by rw [e3])⟩
theorem node_RC {A : AS} {σ ρ : Mem} (h : RepC A σ) (g : RepR A ρ) (hA : WfA A) (a b : Int32) : Both A σ (f_X8_node a b σ) (f_X9_node a b ρ) := by
  have hw : WfT (trA A) := hA.2.2.2.2.2.2.1
  have hl : (trA A).length ≤ 31 := hw.2.1
  have same : ∀ (fc : Option (Int32 × Mem)) (fr : Option (Int32 × Mem)), fc = some (-1, σ) → fr = some (-1, ρ) → Both A σ fc fr := fun fc fr h1 h2 => ⟨-1, A, σ, ρ, h1, h2, h, g, hA, rfl, PF.rf⟩
  rcases hasT_C h.2.2.2.2.1.1 hl a with ⟨j, hj, rfl, h1⟩ | ⟨hn, h1⟩
  · obtain ⟨m1, m2, m3, m4⟩ := h.2.2.2.2.1.2 j hj
    have nd := hw.nd hj
    rcases in_cs b 0 3 (by omega) (by omega) with ⟨q, q0, q1, rfl, q2⟩ | ⟨qn, q2⟩
    · have q2 : f_X9_in (nI q) 0 3 = 1 := q2
      have ref : ∀ v, (∀ ρ', (∀ j, j < (trA A).length → ρ'.1 10 j = nI (partL (trA A) j) ∧ ρ'.1 11 j = nI (cmA (rlA A) (onA A) (trA A) j)) → RepR A ρ' → (if nI q = 0 then (gd (ix ((3 : Int32) + nI j) 102) (some (ρ'.1 7 ((3 : Int32) + nI j).toNatClampNeg, ρ'))) else (if nI q = (1 : Int32) then (gd (ix (nI j) 32) (some (ρ'.1 10 (nI j).toNatClampNeg, ρ'))) else (if nI q = (2 : Int32) then ((f_X9_over (nI j) ρ').bind (fun r3 => some (r3, ρ'))) else (gd (ix (nI j) 31) (some (ρ'.1 11 (nI j).toNatClampNeg, ρ')))))) = some (v, ρ')) → Ok (f_X9_node (nI j) (nI q) ρ) (fun r => r.1 = v ∧ RepR A r.2) := by
        intro v hv
        unfold f_X9_node
        rw [isNode_yes g hA hj, Option.bind_some, if_neg (by decide), q2, if_neg (by decide)]
        refine Ok.bind (g.comes hA) (fun r hr => ?_)
        rw [hv r hr.1 hr.2]
        exact Ok.some ⟨rfl, hr.2⟩
      rcases (show q = 0 ∨ q = 1 ∨ q = 2 ∨ q = 3 by omega) with rfl | rfl | rfl | rfl
      · refine Both.mk (B := A) (v := nI (sgn (trA A) j)) ?_ (ref _ ?_) hA rfl
        · unfold f_X8_node
          rw [h1, if_neg (by decide), if_pos (by decide), gd_ix (by omega) (by omega), n_cl (by omega)]
          exact Ok.some ⟨m1, h, PF.rf⟩
        · intro ρ' e1 e2
          rw [if_pos (by decide), n_3, gd_ix (by omega) (by omega), n_cl (by omega), e2.sg.2 j hj]
      · refine Both.mk (B := A) (v := nI (partL (trA A) j)) ?_ (ref _ ?_) hA rfl
        · unfold f_X8_node
          rw [h1, if_neg (by decide), if_neg (by decide), if_pos (by decide), gd_ix (by omega) (by omega), n_cl (by omega)]
          exact Ok.some ⟨m2, h, PF.rf⟩
        · intro ρ' e1 e2
          rw [if_neg (by decide), if_pos (by decide), gd_ix (by omega) (by omega), n_cl (by omega), (e1 j hj).1]
      · refine Both.mk (B := A) (v := σ.1 (σ.2.2 6 + 3) j) ?_ (ref _ ?_) hA rfl
        · unfold f_X8_node
          rw [h1, if_neg (by decide), if_neg (by decide), if_neg (by decide), if_pos (by decide), gd_ix (by omega) (by omega), n_cl (by omega)]
          exact Ok.some ⟨rfl, h, PF.rf⟩
        · intro ρ' e1 e2
          obtain ⟨v, w1, w2, w3⟩ := over_R e2.sg hw (fun j hj => (e1 j hj).1) hj
          rw [if_neg (by decide), if_neg (by decide), if_pos (by decide), w1, Option.bind_some]
          by_cases z : j = 0
          · rw [w2 z, m3 z]
          · obtain ⟨k, k1, k2, k3⟩ := w3 (by omega)
            obtain ⟨k', k1', k2', k3'⟩ := m4 (by omega)
            rw [k3, k3', arm_one nd (by omega) (by omega) k2 k2']
      · refine Both.mk (B := A) (v := nI (cmA (rlA A) (onA A) (trA A) j)) ?_ (ref _ ?_) hA rfl
        · unfold f_X8_node
          rw [h1, if_neg (by decide), if_neg (by decide), if_neg (by decide), if_neg (by decide), if_pos (by decide)]
          exact Ok.bind (comesTo_C h hA hj) (fun r hr => Ok.some hr)
        · intro ρ' e1 e2
          rw [if_neg (by decide), if_neg (by decide), if_neg (by decide), gd_ix (by omega) (by omega), n_cl (by omega), (e1 j hj).2]
    · refine same _ _ ?_ ?_
      · unfold f_X8_node
        rw [h1, if_neg (by decide), if_neg (show ¬ b = 0 from qn 0 (by omega) (by omega)), if_neg (show ¬ b = 1 from qn 1 (by omega) (by omega)), if_neg (show ¬ b = 2 from qn 2 (by omega) (by omega)), if_neg (show ¬ b = 3 from qn 3 (by omega) (by omega))]
      · unfold f_X9_node
        rw [isNode_yes g hA hj, Option.bind_some, if_neg (by decide), show f_X9_in b 0 3 = 0 from q2, if_pos (by decide)]
  · refine same _ _ ?_ ?_
    · unfold f_X8_node
      rw [h1, if_pos (by decide)]
    · unfold f_X9_node
      rw [isNode_no g hA hn, Option.bind_some, if_pos (by decide)]
theorem isGood_RC {A : AS} {σ ρ : Mem} (h : RepC A σ) (g : RepR A ρ) (hA : WfA A) : Both A σ (f_X8_isGood σ) (f_X9_isGood ρ) := by
  have hl : (trA A).length ≤ 31 := hA.2.2.2.2.2.2.1.2.1
  unfold f_X8_isGood f_X9_isGood
  rw [h.2.2.2.2.1.1, show (2 : Int32).toNatClampNeg = 2 from rfl, g.sg.1]
  simp only [show (0 : Int32) = nI 0 from rfl, n_eq (show (trA A).length < 2147483648 by omega) (show 0 < 2147483648 by omega)]
  by_cases z : (trA A).length = 0
  · rw [if_pos z, if_pos z]
    exact ⟨-2, A, σ, ρ, rfl, rfl, h, g, hA, rfl, PF.rf⟩
  · rw [if_neg z, if_neg z]
    refine Both.mk (B := A) (v := if nI (cmA (rlA A) (onA A) (trA A) 0) &&& nI (gdA A) = nI 0 then nI 0 else 1) ?_ ?_ hA rfl
    · refine Ok.bind (comesTo_C h hA (j := 0) (by omega)) (fun r hr => ?_)
      rw [hr.1, hr.2.1.2.2.2.1.2]
      by_cases c : nI (cmA (rlA A) (onA A) (trA A) 0) &&& nI (gdA A) = nI 0
      · rw [if_pos c, if_pos c]; exact Ok.some ⟨rfl, hr.2⟩
      · rw [if_neg c, if_neg c]; exact Ok.some ⟨rfl, hr.2⟩
    · refine Ok.bind (g.comes hA) (fun r hr => ?_)
      rw [show (nI 0).toNatClampNeg = 0 from rfl, (hr.1 0 (by omega)).2, show (1 : Int32).toNatClampNeg = 0 + 1 from rfl, hr.2.2.2.1.2.1]
      by_cases c : nI (cmA (rlA A) (onA A) (trA A) 0) &&& nI (gdA A) = nI 0
      · rw [if_pos c, if_pos c]; exact Ok.some ⟨rfl, hr.2⟩
      · rw [if_neg c, if_neg c]; exact Ok.some ⟨rfl, hr.2⟩
/-- the nodes that can come to a state -/
noncomputable def plK (f : Nat → Nat) (q : Nat) : Nat → Nat
  | 0 => 0
  | k + 1 => plK f q k ||| (bN (f k) q * 2 ^ k)
theorem places_RC {A : AS} {σ ρ : Mem} (h : RepC A σ) (g : RepR A ρ) (hA : WfA A) (a : Int32) : Both A σ (f_X8_places a σ) (f_X9_places a ρ) := by
  have hl : (trA A).length ≤ 31 := hA.2.2.2.2.2.2.1.2.1
  have hc := cmA_lt hA.2.2.1 (onA A) (trA A)
  rcases isState_C a with ⟨q, hq, rfl, h1⟩ | ⟨hn, h1⟩
  · have e1 : f_X9_in (nI q) 0 5 = 1 := by
      rcases isState_R (nI q) with ⟨_, _, _, h1⟩ | ⟨hn, h1⟩
      · exact h1
      · exact absurd rfl (hn q hq)
    refine Both.mk (B := A) (v := nI (plK (cmA (rlA A) (onA A) (trA A)) q (trA A).length)) ?_ ?_ hA rfl
    · unfold f_X8_places
      rw [h1, if_neg (by decide)]
      refine Ok.bind (h.come hA) (fun r hr => ?_)
      obtain ⟨r1, r2, r3, r4⟩ := hr
      refine Ok.bind (P := fun v => v = nI (plK (cmA (rlA A) (onA A) (trA A)) q (trA A).length)) ?_ (fun v hv => Ok.some ⟨hv, r2, r3⟩)
      refine Ok.for (trA A).length (fun k st => st = (nI (plK (cmA (rlA A) (onA A) (trA A)) q k), nI k)) ?_ ?_ 0 (by omega) _ rfl
      · rintro k _ hk rfl
        show Ok (b_X8_places_32 (nI q) (nI (plK (cmA (rlA A) (onA A) (trA A)) q k)) (nI k) r) _
        have := hc k
        have b1 := bN_lt (cmA (rlA A) (onA A) (trA A) k) q
        have b2 : bN (cmA (rlA A) (onA A) (trA A) k) q * 2 ^ k < 4294967296 := by
          have : 2 ^ k < 2 ^ 31 := Nat.pow_lt_pow_right (by omega) (by omega)
          rcases (show bN (cmA (rlA A) (onA A) (trA A) k) q = 0 ∨ bN (cmA (rlA A) (onA A) (trA A) k) q = 1 by omega) with w | w <;> rw [w] <;> omega
        unfold b_X8_places_32
        rw [r2.2.2.2.2.1.1, if_neg (by rw [n_le (by omega) (by omega)]; omega), gd_ix (by omega) (by omega), n_cl (by omega), r1 k hk, bit_C (by omega) (by omega), n_shl (by omega) b2, n_or, n_suc]
        exact Ok.lt (Ok.lt (Ok.some rfl))
      · rintro _ rfl
        show Ok (b_X8_places_32 (nI q) (nI (plK (cmA (rlA A) (onA A) (trA A)) q (trA A).length)) (nI (trA A).length) r) _
        unfold b_X8_places_32
        rw [r2.2.2.2.2.1.1, if_pos (by rw [n_le (by omega) (by omega)]; omega)]
        exact Ok.some rfl
    · unfold f_X9_places
      rw [e1, if_neg (by decide)]
      refine Ok.bind (g.comes hA) (fun r hr => ?_)
      obtain ⟨r1, r2⟩ := hr
      refine Ok.bind (P := fun v => v = nI (plK (cmA (rlA A) (onA A) (trA A)) q (trA A).length)) ?_ (fun v hv => Ok.some ⟨hv, r2⟩)
      refine Ok.for (trA A).length (fun k st => st = (nI (plK (cmA (rlA A) (onA A) (trA A)) q k), nI k)) ?_ ?_ 0 (by omega) _ rfl
      · rintro k _ hk rfl
        show Ok (b_X9_places_19 (nI q) (nI (plK (cmA (rlA A) (onA A) (trA A)) q k)) (nI k) r) _
        have := hc k
        unfold b_X9_places_19
        rw [show (2 : Int32).toNatClampNeg = 2 from rfl, r2.sg.1, if_neg (by rw [n_le (by omega) (by omega)]; omega), gd_ix (by omega) (by omega), n_cl (by omega), (r1 k hk).2, has_R (by omega) (by omega)]
        by_cases c : bN (cmA (rlA A) (onA A) (trA A) k) q = 1
        · rw [c, if_neg (by decide), n_p2 (by omega)]
          unfold j_X9_places_50
          rw [n_or, n_suc]
          refine Ok.lt (Ok.lt (Ok.some ?_))
          rw [plK, c, Nat.one_mul]
        · rw [b01 c, if_pos (by decide), show (0 : Int32) = nI 0 from rfl]
          unfold j_X9_places_50
          rw [n_or, n_suc]
          refine Ok.lt (Ok.lt (Ok.some ?_))
          rw [plK, b01 c, Nat.zero_mul]
      · rintro _ rfl
        show Ok (b_X9_places_19 (nI q) (nI (plK (cmA (rlA A) (onA A) (trA A)) q (trA A).length)) (nI (trA A).length) r) _
        unfold b_X9_places_19
        rw [show (2 : Int32).toNatClampNeg = 2 from rfl, r2.sg.1, if_pos (by rw [n_le (by omega) (by omega)]; omega)]
        exact Ok.some rfl
  · have e1 : f_X9_in a 0 5 = 0 := by
      rcases isState_R a with ⟨q, h1, h2, _⟩ | ⟨_, h1⟩
      · exact absurd h2 (hn q h1)
      · exact h1
    refine ⟨-1, A, σ, ρ, ?_, ?_, h, g, hA, rfl, PF.rf⟩
    · unfold f_X8_places
      rw [h1, if_pos (by decide)]
    · unfold f_X9_places
      rw [e1, if_pos (by decide)]
