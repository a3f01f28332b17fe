/-! the relation of the two memories: every call keeps it, the new objects have it -/
def RelX (σ ρ : Mem) : Prop := ∃ A : AS, WfA A ∧ RepC A σ ∧ RepR A ρ ∧ Ca (rlA A) σ
theorem Ca.pf {rl : List Ru} {σ τ : Mem} (h : Ca rl σ) (f : PF σ τ) : Ca rl τ := by
  obtain ⟨⟨h1, h2⟩, h3⟩ := h
  refine ⟨⟨?_, ?_⟩, ?_⟩
  · unfold PBase at *
    rw [f.1 9 (by omega) (by omega), f.1 10 (by omega) (by omega), f.1 18 (by omega) (by omega)]
    exact h1
  · rw [f.1 9 (by omega) (by omega)]
    rcases h2 with h2 | ⟨on, on', a, b, c, d, e⟩
    · exact Or.inl h2
    · exact Or.inr ⟨on, on', a, b, c, d, e.fr (fun o o1 o2 _ => f.1 o o1 o2)⟩
  · unfold Tal TaF at *
    rw [f.1 22 (by omega) (by omega), f.1 9 (by omega) (by omega), f.1 10 (by omega) (by omega), f.2]
    exact h3
theorem m1_no {on : Nat} (h : on < 65536) : (-1 : Int32) ≠ nI on := fun e => by
  have : (nI on < 0) = True := by rw [← e]; decide
  rw [n_neg (by omega)] at this
  exact absurd this (by simp)
theorem Ca.none {rl : List Ru} {σ : Mem} (h : PNone σ) : Ca rl σ := by
  obtain ⟨h1, h2, h3, h4, h5⟩ := h
  refine ⟨⟨⟨0, by omega, h3, fun j hj => by omega, fun b hb _ => h5 b hb⟩, Or.inl (fun on ho => ?_)⟩, Or.inr (fun on on' n xs ho _ e => ?_)⟩
  · rw [h1]; exact m1_no ho
  · rw [h1] at e
    exact absurd e (m1_no ho)
theorem Both.rel {A : AS} {σ : Mem} {fc fr : Option (Int32 × Mem)} (h : Both A σ fc fr) (hC : Ca (rlA A) σ) : ∃ (v : Int32) (σ' ρ' : Mem), fc = some (v, σ') ∧ fr = some (v, ρ') ∧ RelX σ' ρ' := by
  obtain ⟨v, B, σ', ρ', h1, h2, h3, h4, h5, h6, h7⟩ := h
  exact ⟨v, σ', ρ', h1, h2, B, h5, h3, h4, by rw [h6]; exact hC.pf h7⟩
theorem BothP.rel {A : AS} {σ : Mem} {fc fr : Option (Int32 × Mem)} (h : BothP A σ fc fr) (hA : WfA A) (hC : Ca (rlA A) σ) : ∃ (v : Int32) (σ' ρ' : Mem), fc = some (v, σ') ∧ fr = some (v, ρ') ∧ RelX σ' ρ' := by
  obtain ⟨v, σ', ρ', h1, h2, h3, h4, h5⟩ := h.ca hA hC
  exact ⟨v, σ', ρ', h1, h2, A, hA, h3, h4, h5⟩
theorem BothJ.rel {A : AS} {fc fr : Option (Int64 × Mem)} (h : BothJ A fc fr) (hA : WfA A) : ∃ (v : Int64) (σ' ρ' : Mem), fc = some (v, σ') ∧ fr = some (v, ρ') ∧ RelX σ' ρ' := by
  obtain ⟨v, σ', ρ', h1, h2, h3, h4, h5⟩ := h
  exact ⟨v, σ', ρ', h1, h2, A, hA, h3, h4, h5⟩
theorem sim_all : SimAll RelX := by
  refine ⟨?_, ?_, ?_, ?_, ?_, ?_, ?_, ?_, ?_, ?_, ?_, ?_, ?_, ?_, ?_, ?_, ?_, ?_, ?_, ?_, ?_, ?_, ?_, ?_, ?_, ?_, ?_⟩
  · rintro a b σ ρ ⟨A, hA, h, g, hC⟩
    exact (type_RC h g hA a b).rel hC
  · rintro σ ρ ⟨A, hA, h, g, hC⟩
    exact (clear_RC h g hA).rel hC
  · rintro σ ρ ⟨A, hA, h, g, hC⟩
    obtain ⟨v, B, σ', ρ', h1, h2, h3, h4, h5, h6⟩ := law_RC h g hA hC.1.1
    refine ⟨v, σ', ρ', h1, h2, B, h5, h3, h4, ?_⟩
    rcases h6 with ⟨e, f⟩ | e
    · rw [e]; exact hC.pf f
    · exact Ca.none e
  · rintro σ ρ ⟨A, hA, h, g, hC⟩
    exact (tree_RC h g hA).rel hC
  · rintro a b σ ρ ⟨A, hA, h, g, hC⟩
    exact ⟨_, σ, ρ, ⟨C_rule h hA a b, rfl⟩, ⟨R_rule g hA a b, rfl⟩, A, hA, h, g, hC⟩
  · rintro a b σ ρ ⟨A, hA, h, g, hC⟩
    exact Both.rel (turn_RC h g hA a b) hC
  · rintro a b σ ρ ⟨A, hA, h, g, hC⟩
    exact (good_RC h g hA a b).rel hC
  · rintro a b σ ρ ⟨A, hA, h, g, hC⟩
    exact (node_RC h g hA a b).rel hC
  · rintro a b σ ρ ⟨A, hA, h, g, hC⟩
    exact (sign_RC h g hA a b).rel hC
  · rintro a σ ρ ⟨A, hA, h, g, hC⟩
    exact (exch_RC h g hA a).rel hC
  · rintro σ ρ ⟨A, hA, h, g, hC⟩
    exact (isGood_RC h g hA).rel hC
  · rintro σ ρ ⟨A, hA, h, g, hC⟩
    exact (runs_RC h g hA).rel hC
  · rintro a σ ρ ⟨A, hA, h, g, hC⟩
    exact (places_RC h g hA a).rel hC
  · rintro a σ ρ ⟨A, hA, h, g, hC⟩
    exact (mend_RC h g hA a).rel hC
  · rintro σ ρ ⟨A, hA, h, g, hC⟩
    exact (sets_RC h g hA hC.1).rel hA hC
  · rintro σ ρ ⟨A, hA, h, g, hC⟩
    obtain ⟨v, σ', ρ', h1, h2, h3, h4, h5⟩ := classes_RC h g hA hC
    exact ⟨v, σ', ρ', h1, h2, A, hA, h3, h4, h5⟩
  · rintro σ ρ ⟨A, hA, h, g, hC⟩
    obtain ⟨v, ρ', h1, h2, h3⟩ := useful_RC h g hA
    exact ⟨v, σ, ρ', ⟨h1, rfl⟩, h2, A, hA, h, h3, hC⟩
  · rintro a σ ρ ⟨A, hA, h, g, hC⟩
    exact (least_RC h g hA hC.1 a).rel hA hC
  · rintro a σ ρ ⟨A, hA, h, g, hC⟩
    exact (many_RC h g hA hC a).rel hA
  · rintro a σ ρ ⟨A, hA, h, g, hC⟩
    exact (alike_RC h g hA hC.1 a).rel hA hC
  · rintro a b σ ρ ⟨A, hA, h, g, hC⟩
    exact (apart_RC h g hA hC.1 a b).rel hA hC
  · rintro a b σ ρ ⟨A, hA, h, g, hC⟩
    exact (both_RC h g hA hC a b).rel hA
  · rintro a b σ ρ ⟨A, hA, h, g, hC⟩
    exact (mark_RC h g hA a b).rel hC
  · rintro a σ ρ ⟨A, hA, h, g, hC⟩
    exact (keep_RC h g hA a).rel hC
  · rintro a σ ρ ⟨A, hA, h, g, hC⟩
    exact (back_RC h g hA a).rel hC
  · rintro a σ ρ ⟨A, hA, h, g, hC⟩
    exact ⟨_, σ, ρ, ⟨rfl, rfl⟩, ⟨count_RC h g hA a, rfl⟩, A, hA, h, g, hC⟩
  · rintro σ ρ ⟨A, hA, h, g, hC⟩
    exact ⟨_, σ, ρ, ⟨rfl, rfl⟩, ⟨(trace_RC h g).symm, rfl⟩, A, hA, h, g, hC⟩
def A0X : AS := ([], [], 0, 0, [], fun _ => none, 0)
theorem rel_0 : RelX σc0 σr0 := by
  refine ⟨A0X, ⟨fun x h => absurd h (by simp [A0X, txA]), by simp [A0X, txA], fun r h => absurd h (by simp [A0X, rlA]), by simp [A0X, rlA], by simp [A0X, onA], by simp [A0X, gdA], ⟨fun x h => absurd h (by simp [A0X, trA]), by simp [A0X, trA], Or.inl rfl⟩, fun k o g t h => by simp [A0X, imA] at h⟩, ?_, ?_, Ca.none ⟨rfl, rfl, rfl, rfl, fun b _ => rfl⟩⟩
  · refine ⟨⟨rfl, fun j hj => absurd hj (by simp [A0X, txA])⟩, ⟨Or.inl ⟨rfl, rfl⟩, Or.inl ⟨rfl, rfl⟩⟩, ⟨rfl, fun j hj => absurd hj (by simp [A0X, rlA])⟩, ⟨rfl, rfl⟩, ⟨rfl, fun j hj => absurd hj (by simp [A0X, trA])⟩, fun k hk => ?_, rfl⟩
    show σc0.1 (54 + 6 * k) 0 = 0
    unfold σc0
    simp only
    rw [if_neg (by omega)]
  · exact ⟨⟨rfl, fun j hj => absurd hj (by simp [A0X, txA])⟩, ⟨rfl, fun j hj => absurd hj (by simp [A0X, rlA])⟩, ⟨rfl, rfl, rfl, fun j hj => absurd hj (by simp [A0X, trA])⟩, fun k hk => rfl, rfl⟩
