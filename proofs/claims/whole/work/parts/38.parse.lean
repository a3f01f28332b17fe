/-! what a law's text says -/
def isSt (tx : List Nat) (p : Nat) : Prop := tkK tx p = 3 ∧ tkV tx p < 6
noncomputable def ndS {α : Type} (tx : List Nat) (p : Nat) (k : Nat → Nat → Nat ⊕ α) : Nat ⊕ α := by
  classical
  exact if isSt tx p then k (tkV tx p) (tkA tx p) else .inl (tkS tx p)
theorem ndS_yes {α : Type} {tx : List Nat} {p : Nat} {k : Nat → Nat → Nat ⊕ α} (h : isSt tx p) : ndS tx p k = k (tkV tx p) (tkA tx p) := by
  unfold ndS
  rw [if_pos h]
theorem ndS_no {α : Type} {tx : List Nat} {p : Nat} {k : Nat → Nat → Nat ⊕ α} (h : ¬ isSt tx p) : ndS tx p k = .inl (tkS tx p) := by
  unfold ndS
  rw [if_neg h]
noncomputable def ruP (tx : List Nat) (p s : Nat) : Nat ⊕ (Nat × Ru) :=
  if armsN s = 0 then ndS tx p (fun d p => .inr (p, (s, 0, 0, d)))
  else if armsN s = 1 then ndS tx p (fun a p => ndS tx p (fun d p => .inr (p, (s, a, 0, d))))
  else ndS tx p (fun a p => ndS tx p (fun b p => ndS tx p (fun d p => .inr (p, (s, a, b, d)))))
noncomputable def gdP (tx : List Nat) : Nat → Nat → Nat → Nat × Nat
  | 0, p, g => (p, g)
  | f + 1, p, g => by
    classical
    exact if isSt tx p then gdP tx f (tkA tx p) (g ||| 2 ^ tkV tx p) else (p, g)
theorem gdP_yes {tx : List Nat} {f p g : Nat} (h : isSt tx p) : gdP tx (f + 1) p g = gdP tx f (tkA tx p) (g ||| 2 ^ tkV tx p) := by
  rw [gdP, if_pos h]
theorem gdP_no {tx : List Nat} {f p g : Nat} (h : ¬ isSt tx p) : gdP tx f p g = (p, g) := by
  cases f with
  | zero => rfl
  | succ f => rw [gdP, if_neg h]
noncomputable def finP (tx : List Nat) (p : Nat) (rl : List Ru) (g : Nat) : Nat ⊕ (Nat × List Ru × Nat) := if tkK tx p = 4 then .inr (tkA tx p, rl, g) else .inl (tkS tx p)
noncomputable def itP (tx : List Nat) (p : Nat) (rl : List Ru) (g : Nat) : Nat ⊕ (Nat × List Ru × Nat) :=
  if tkK tx p = 1 ∧ rl.length < 16 then (match ruP tx (tkA tx p) (tkV tx p) with | .inl q => .inl q | .inr x => finP tx x.1 (rl ++ [x.2]) g)
  else if tkK tx p = 2 then ndS tx (tkA tx p) (fun _ _ => finP tx (gdP tx 301 (tkA tx p) g).1 rl (gdP tx 301 (tkA tx p) g).2)
  else .inl (tkS tx p)
noncomputable def lwP (tx : List Nat) : Nat → Nat → List Ru → Nat → Nat → Nat ⊕ (Nat × List Ru × Nat)
  | 0, _, _, _, _ => .inl 0
  | f + 1, p, rl, g, n => if tkK tx p = 0 then .inr (n, rl, g) else (match itP tx p rl g with | .inl q => .inl q | .inr x => lwP tx f x.1 x.2.1 x.2.2 (n + 1))
theorem isSt_next {tx : List Nat} {p : Nat} (hp : p ≤ tx.length) (h : isSt tx p) : p < tkA tx p ∧ tkA tx p ≤ tx.length := by
  obtain ⟨a, b, c, d, e, f, g⟩ := tk_ok hp
  exact ⟨e (by rw [h.1]; omega), d⟩
theorem ruP_ok {tx : List Nat} {p s : Nat} (hp : p ≤ tx.length) (hs : s < 8) : (∀ q, ruP tx p s = .inl q → q ≤ tx.length) ∧ (∀ x, ruP tx p s = .inr x → p < x.1 ∧ x.1 ≤ tx.length ∧ OkRu x.2) := by
  obtain ⟨-, s1, -⟩ := tk_ok hp
  unfold ruP
  by_cases c0 : armsN s = 0
  · rw [if_pos c0]
    by_cases h1 : isSt tx p
    · have n1 := isSt_next hp h1
      rw [ndS_yes h1]
      refine ⟨fun q e => by simp at e, fun x e => ?_⟩
      cases e
      exact ⟨n1.1, n1.2, hs, Nat.zero_lt_succ 5, Nat.zero_lt_succ 5, h1.2⟩
    · rw [ndS_no h1]
      refine ⟨fun q e => ?_, fun x e => by simp at e⟩
      cases e
      exact s1
  · rw [if_neg c0]
    by_cases h1 : isSt tx p
    · have n1 := isSt_next hp h1
      obtain ⟨-, s2, -⟩ := tk_ok n1.2
      by_cases c1 : armsN s = 1
      · rw [if_pos c1, ndS_yes h1]
        by_cases h2 : isSt tx (tkA tx p)
        · have n2 := isSt_next n1.2 h2
          rw [ndS_yes h2]
          refine ⟨fun q e => by simp at e, fun x e => ?_⟩
          cases e
          exact ⟨by simp only; omega, n2.2, hs, h1.2, Nat.zero_lt_succ 5, h2.2⟩
        · rw [ndS_no h2]
          refine ⟨fun q e => ?_, fun x e => by simp at e⟩
          cases e
          exact s2
      · rw [if_neg c1, ndS_yes h1]
        by_cases h2 : isSt tx (tkA tx p)
        · have n2 := isSt_next n1.2 h2
          obtain ⟨-, s3, -⟩ := tk_ok n2.2
          rw [ndS_yes h2]
          by_cases h3 : isSt tx (tkA tx (tkA tx p))
          · have n3 := isSt_next n2.2 h3
            rw [ndS_yes h3]
            refine ⟨fun q e => by simp at e, fun x e => ?_⟩
            cases e
            exact ⟨by simp only; omega, n3.2, hs, h1.2, h2.2, h3.2⟩
          · rw [ndS_no h3]
            refine ⟨fun q e => ?_, fun x e => by simp at e⟩
            cases e
            exact s3
        · rw [ndS_no h2]
          refine ⟨fun q e => ?_, fun x e => by simp at e⟩
          cases e
          exact s2
    · have e1 : ∀ k k' : Nat → Nat → Nat ⊕ (Nat × Ru), (if armsN s = 1 then ndS tx p k else ndS tx p k') = .inl (tkS tx p) := by
        intro k k'
        by_cases c1 : armsN s = 1
        · rw [if_pos c1, ndS_no h1]
        · rw [if_neg c1, ndS_no h1]
      rw [e1]
      refine ⟨fun q e => ?_, fun x e => by simp at e⟩
      cases e
      exact s1
theorem gdP_ok {tx : List Nat} : ∀ f p g, p ≤ tx.length → g < 64 → p ≤ (gdP tx f p g).1 ∧ (gdP tx f p g).1 ≤ tx.length ∧ (gdP tx f p g).2 < 64
  | 0, p, g, hp, hg => ⟨Nat.le_refl _, hp, hg⟩
  | f + 1, p, g, hp, hg => by
    by_cases h : isSt tx p
    · have n := isSt_next hp h
      rw [gdP_yes h]
      have hg2 : g ||| 2 ^ tkV tx p < 64 := Nat.or_lt_two_pow (n := 6) hg (Nat.pow_lt_pow_right (by omega) h.2)
      obtain ⟨a, b, c⟩ := gdP_ok f (tkA tx p) (g ||| 2 ^ tkV tx p) n.2 hg2
      exact ⟨by omega, b, c⟩
    · rw [gdP_no h]
      exact ⟨Nat.le_refl _, hp, hg⟩
theorem finP_ok {tx : List Nat} {p : Nat} {rl : List Ru} {g : Nat} (hp : p ≤ tx.length) : (∀ q, finP tx p rl g = .inl q → q ≤ tx.length) ∧ (∀ x, finP tx p rl g = .inr x → p < x.1 ∧ x.1 ≤ tx.length ∧ x.2 = (rl, g)) := by
  obtain ⟨a, b, c, d, e, f⟩ := tk_ok hp
  unfold finP
  by_cases h : tkK tx p = 4
  · rw [if_pos h]
    refine ⟨fun q e => by simp at e, fun x w => ?_⟩
    cases w
    exact ⟨e (by omega), d, rfl⟩
  · rw [if_neg h]
    refine ⟨fun q w => ?_, fun x e => by simp at e⟩
    cases w
    exact b
theorem okRl_app {rl : List Ru} {r : Ru} (h : ∀ x ∈ rl, OkRu x) (hr : OkRu r) : ∀ x ∈ rl ++ [r], OkRu x := by
  intro x hx
  rcases List.mem_append.mp hx with q | q
  · exact h x q
  · rw [List.mem_singleton.mp q]; exact hr
theorem itP_ok {tx : List Nat} {p : Nat} {rl : List Ru} {g : Nat} (hp : p ≤ tx.length) (hrl : ∀ r ∈ rl, OkRu r) (hl : rl.length ≤ 16) (hg : g < 64) : (∀ q, itP tx p rl g = .inl q → q ≤ tx.length) ∧ (∀ x, itP tx p rl g = .inr x → p < x.1 ∧ x.1 ≤ tx.length ∧ (∀ r ∈ x.2.1, OkRu r) ∧ x.2.1.length ≤ 16 ∧ x.2.2 < 64) := by
  obtain ⟨a, b, c, d, e, f, g1⟩ := tk_ok hp
  unfold itP
  by_cases c1 : tkK tx p = 1 ∧ rl.length < 16
  · rw [if_pos c1]
    have n := e (by omega)
    obtain ⟨r1, r2⟩ := ruP_ok (tx := tx) d (f c1.1)
    cases hr : ruP tx (tkA tx p) (tkV tx p) with
    | inl q =>
      refine ⟨fun q' w => ?_, fun x w => by simp at w⟩
      cases w
      exact r1 q hr
    | inr x =>
      obtain ⟨x1, x2, x3⟩ := r2 x hr
      obtain ⟨f1, f2⟩ := finP_ok (rl := rl ++ [x.2]) (g := g) x2
      refine ⟨f1, fun y w => ?_⟩
      obtain ⟨y1, y2, y3⟩ := f2 y w
      rw [y3]
      exact ⟨by omega, y2, okRl_app hrl x3, by simp; omega, hg⟩
  · rw [if_neg c1]
    by_cases c2 : tkK tx p = 2
    · rw [if_pos c2]
      have n := e (by omega)
      by_cases h1 : isSt tx (tkA tx p)
      · rw [ndS_yes h1]
        obtain ⟨g2, g3, g4⟩ := gdP_ok 301 (tkA tx p) g d hg
        obtain ⟨f1, f2⟩ := finP_ok (rl := rl) (g := (gdP tx 301 (tkA tx p) g).2) g3
        refine ⟨f1, fun y w => ?_⟩
        obtain ⟨y1, y2, y3⟩ := f2 y w
        rw [y3]
        exact ⟨by omega, y2, hrl, hl, g4⟩
      · obtain ⟨-, s1, -⟩ := tk_ok d
        rw [ndS_no h1]
        refine ⟨fun q w => ?_, fun x w => by simp at w⟩
        cases w
        exact s1
    · rw [if_neg c2]
      refine ⟨fun q w => ?_, fun x w => by simp at w⟩
      cases w
      exact b
