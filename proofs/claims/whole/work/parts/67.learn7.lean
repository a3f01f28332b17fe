/-! the class: the beginning of learning -/
theorem copyLaw_C {σ : Mem} {t : Nat} {rl : List Ru} (h : LawC σ t rl) (hl : rl.length ≤ 16) (ht : 33 < t) : Ok (f_X3_copyFrom 29 t σ) (fun σ' => LawC σ' 29 rl ∧ (∀ o, o < 29 ∨ 33 < o → σ'.1 o = σ.1 o) ∧ σ'.2 = σ.2) := by
  unfold f_X3_copyFrom
  refine Ok.lt (Ok.lt (Ok.bind (P := fun σ' => (∀ j, j < 16 → σ'.1 30 j = σ.1 (t + 1) j ∧ σ'.1 31 j = σ.1 (t + 2) j ∧ σ'.1 32 j = σ.1 (t + 3) j ∧ σ'.1 33 j = σ.1 (t + 4) j) ∧ σ'.1 29 4 = σ.1 t 4 ∧ (∀ o, o < 29 ∨ 33 < o → σ'.1 o = σ.1 o) ∧ σ'.2 = σ.2) ?_ ?_))
  · refine Ok.for 16 (fun k s => s.1 = nI k ∧ (∀ j, j < k → s.2.1 30 j = σ.1 (t + 1) j ∧ s.2.1 31 j = σ.1 (t + 2) j ∧ s.2.1 32 j = σ.1 (t + 3) j ∧ s.2.1 33 j = σ.1 (t + 4) j) ∧ s.2.1 29 4 = σ.1 t 4 ∧ (∀ o, o < 29 ∨ 33 < o → s.2.1 o = σ.1 o) ∧ s.2.2 = σ.2) ?_ ?_ 0 (by omega) _ ⟨rfl, fun j hj => by omega, ?_, fun o ho => ?_, rfl⟩
    · rintro k ⟨v, τ⟩ hk ⟨e1, e2, e3, e4, e5⟩
      simp only at e1 e2 e3 e4 e5
      subst e1
      show Ok (b_X3_copyFrom_18 29 t (nI k) τ) _
      unfold b_X3_copyFrom_18
      rw [if_neg (by rw [show (16 : Int32) = nI 16 from rfl, n_le (by omega) (by omega)]; omega)]
      simp only [gd_ix hk (show 16 < 2147483648 by omega), n_cl (show k < 2147483648 by omega), lt_eq, n_suc]
      have src : ∀ q, t ≤ q → q ≤ t + 4 → ∀ j, τ.1 q j = σ.1 q j := fun q q1 q2 j => by rw [e4 q (by omega)]
      refine Ok.some ⟨rfl, fun j hj => ?_, ?_, fun o ho => ?_, e5⟩
      · simp only [sI_get, show (29 + 1 : Nat) = 30 from rfl, show (29 + 2 : Nat) = 31 from rfl, show (29 + 3 : Nat) = 32 from rfl, show (29 + 4 : Nat) = 33 from rfl, show ¬ (30 = 33) by omega, show ¬ (30 = 32) by omega, show ¬ (30 = 31) by omega, show ¬ (31 = 33) by omega, show ¬ (31 = 32) by omega, show ¬ (31 = 30) by omega, show ¬ (32 = 33) by omega, show ¬ (32 = 31) by omega, show ¬ (32 = 30) by omega, show ¬ (33 = 32) by omega, show ¬ (33 = 31) by omega, show ¬ (33 = 30) by omega, show ¬ (t + 2 = 30) by omega, show ¬ (t + 3 = 30) by omega, show ¬ (t + 3 = 31) by omega, show ¬ (t + 4 = 30) by omega, show ¬ (t + 4 = 31) by omega, show ¬ (t + 4 = 32) by omega, false_and, true_and, if_false]
        by_cases c : j = k
        · subst c
          simp only [if_true]
          exact ⟨src _ (by omega) (by omega) j, src _ (by omega) (by omega) j, src _ (by omega) (by omega) j, src _ (by omega) (by omega) j⟩
        · simp only [if_neg c]
          exact e2 j (by omega)
      · rw [sI_off (by omega), sI_off (by omega), sI_off (by omega), sI_off (by omega)]; exact e3
      · rw [sI_o (by omega), sI_o (by omega), sI_o (by omega), sI_o (by omega)]; exact e4 o ho
    · rintro ⟨v, τ⟩ ⟨e1, e2⟩
      simp only at e1 e2
      subst e1
      show Ok (b_X3_copyFrom_18 29 t (nI 16) τ) _
      unfold b_X3_copyFrom_18
      rw [if_pos (by decide)]
      exact Ok.some e2
    · show (sI (sI σ 29 4 (σ.1 t 4)) 29 5 ((sI σ 29 4 (σ.1 t 4)).1 t 5)).1 29 4 = σ.1 t 4
      rw [sI_slot (by omega)]; exact sI_same _ _ _ _
    · show (sI (sI σ 29 4 (σ.1 t 4)) 29 5 ((sI σ 29 4 (σ.1 t 4)).1 t 5)).1 o = σ.1 o
      rw [sI_o (by omega), sI_o (by omega)]
  · rintro τ ⟨e1, e2, e3, e4⟩
    refine Ok.some ⟨⟨e2.trans h.1, fun j hj => ?_⟩, e3, e4⟩
    obtain ⟨a, b, c, d⟩ := e1 j (by omega)
    show τ.1 30 j = _ ∧ τ.1 31 j = _ ∧ τ.1 32 j = _ ∧ τ.1 33 j = _
    rw [a, b, c, d]
    exact h.2 j hj
def RoK (rl : List Ru) (on on' K s v : Nat) : Prop := ∀ k, k < 16 → ((bN v k = 1 ↔ (k < K ∧ bN on k = 1 ∧ (ruA rl k).1 = s)) ∧ (bN v (k + 16) = 1 ↔ (k < K ∧ bN on' k = 1 ∧ (ruA rl k).1 = s)))
theorem RoK.step {rl : List Ru} {on on' K s v : Nat} (h : RoK rl on on' K s v) (hK : K < 16) (hs : (ruA rl K).1 = s) : RoK rl on on' (K + 1) s (v ||| (bN on K * 2 ^ K ||| bN on' K * 2 ^ (K + 16))) := by
  intro j hj
  obtain ⟨h1, h2⟩ := h j hj
  rw [bN_or, bN_or, bN_or, bN_or, bN_shl (bN_lt _ _), bN_shl (bN_lt _ _), bN_shl (bN_lt _ _), bN_shl (bN_lt _ _), h1, h2]
  constructor
  · constructor
    · rintro (⟨a, b, c⟩ | ⟨a, b⟩ | ⟨a, b⟩)
      · exact ⟨by omega, b, c⟩
      · subst b; exact ⟨by omega, a, hs⟩
      · omega
    · rintro ⟨a, b, c⟩
      by_cases e : j = K
      · subst e; exact Or.inr (Or.inl ⟨b, rfl⟩)
      · exact Or.inl ⟨by omega, b, c⟩
  · constructor
    · rintro (⟨a, b, c⟩ | ⟨a, b⟩ | ⟨a, b⟩)
      · exact ⟨by omega, b, c⟩
      · omega
      · have b : j = K := by omega
        subst b; exact ⟨by omega, a, hs⟩
    · rintro ⟨a, b, c⟩
      by_cases e : j = K
      · subst e; exact Or.inr (Or.inr ⟨b, rfl⟩)
      · exact Or.inl ⟨by omega, b, c⟩
theorem RoK.skip {rl : List Ru} {on on' K s v : Nat} (h : RoK rl on on' K s v) (hs : (ruA rl K).1 ≠ s) : RoK rl on on' (K + 1) s v := by
  intro j hj
  obtain ⟨h1, h2⟩ := h j hj
  rw [h1, h2]
  have key : ∀ P : Prop, (j < K ∧ P ∧ (ruA rl j).1 = s) ↔ (j < K + 1 ∧ P ∧ (ruA rl j).1 = s) := by
    intro P
    constructor
    · rintro ⟨a, b, c⟩; exact ⟨by omega, b, c⟩
    · rintro ⟨a, b, c⟩
      refine ⟨?_, b, c⟩
      by_cases e : j = K
      · subst e; exact absurd c hs
      · omega
  exact ⟨key _, key _⟩
/-- the rules of each sign -/
theorem rules_C {σ : Mem} {rl : List Ru} {on on' : Nat} (hL : LawC σ 29 rl) (hrl : ∀ r ∈ rl, OkRu r) (hll : rl.length ≤ 16) (ho : on < 65536) (ho' : on' < 65536) (h15 : σ.1 9 15 = nI on) (h16 : σ.1 9 16 = nI on') : Ok ((Lim (T := Mem) (fun s => b_X4_begin_9 s.1 s.2) ((0 : Int32), σ)).bind (fun r4 => Lim (T := Mem) (fun s => b_X4_begin_30 s.1 s.2) ((0 : Int32), r4))) (fun τ => (∀ s, s < 8 → ∃ v, v < 4294967296 ∧ τ.1 19 s = nI v ∧ RoV rl on on' s v) ∧ (∀ o, o ≠ 19 → τ.1 o = σ.1 o) ∧ τ.2 = σ.2) := by
  refine Ok.bind (P := fun τ => (∀ s, s < 8 → τ.1 19 s = nI 0) ∧ (∀ o, o ≠ 19 → τ.1 o = σ.1 o) ∧ τ.2 = σ.2) ?_ ?_
  · refine Ok.for 8 (fun k s => s.1 = nI k ∧ (∀ j, j < k → s.2.1 19 j = nI 0) ∧ (∀ o, o ≠ 19 → s.2.1 o = σ.1 o) ∧ s.2.2 = σ.2) ?_ ?_ 0 (by omega) _ ⟨rfl, fun j hj => by omega, fun _ _ => rfl, rfl⟩
    · rintro k ⟨v, τ⟩ hk ⟨e1, e2, e3, e4⟩
      simp only at e1 e2 e3 e4
      subst e1
      show Ok (b_X4_begin_9 (nI k) τ) _
      unfold b_X4_begin_9
      rw [if_neg (by rw [show (8 : Int32) = nI 8 from rfl, n_le (by omega) (by omega)]; omega)]
      simp only [gd_ix hk (show 8 < 2147483648 by omega), n_cl (show k < 2147483648 by omega), lt_eq, n_suc]
      refine Ok.some ⟨rfl, fun j hj => ?_, fun o ho => ?_, e4⟩
      · show (sI τ 19 k 0).1 19 j = _
        by_cases c : j = k
        · rw [c]; exact sI_same _ _ _ _
        · rw [sI_slot c]; exact e2 j (by omega)
      · show (sI τ 19 k 0).1 o = _
        rw [sI_o ho]; exact e3 o ho
    · rintro ⟨v, τ⟩ ⟨e1, e2⟩
      simp only at e1 e2
      subst e1
      show Ok (b_X4_begin_9 (nI 8) τ) _
      unfold b_X4_begin_9
      rw [if_pos (by decide)]
      exact Ok.some e2
  · rintro τ0 ⟨f1, f2, f3⟩
    refine Ok.for rl.length (fun k s => s.1 = nI k ∧ (∀ j, j < 8 → ∃ v, v < 4294967296 ∧ s.2.1 19 j = nI v ∧ RoK rl on on' k j v) ∧ (∀ o, o ≠ 19 → s.2.1 o = σ.1 o) ∧ s.2.2 = σ.2) ?_ ?_ 0 (by omega) _ ⟨rfl, fun j hj => ⟨0, by omega, f1 j hj, fun i _ => by rw [bN_zero, bN_zero]; exact ⟨⟨fun w => absurd w (by omega), fun w => by omega⟩, ⟨fun w => absurd w (by omega), fun w => by omega⟩⟩⟩, f2, f3⟩
    · rintro k ⟨v, τ⟩ hk ⟨e1, e2, e3, e4⟩
      simp only at e1 e2 e3 e4
      subst e1
      show Ok (b_X4_begin_30 (nI k) τ) _
      have hL' : LawC τ 29 rl := hL.cg (fun o o1 o2 => e3 o (by omega))
      obtain ⟨m1, m2, m3, m4⟩ := hL'.2 k hk
      obtain ⟨r1, r2, r3, r4⟩ := ruL_ok hrl hk
      obtain ⟨u, u1, u2, u3⟩ := e2 _ r1
      have b1 := bN_lt on k
      have b2 := bN_lt on' k
      have p1 : 2 ^ k < 2 ^ 16 := Nat.pow_lt_pow_right (by omega) (by omega)
      have p2 : 2 ^ (k + 16) < 2 ^ 32 := Nat.pow_lt_pow_right (by omega) (by omega)
      have q1 : bN on k * 2 ^ k < 4294967296 := by rcases (show bN on k = 0 ∨ bN on k = 1 by omega) with w | w <;> rw [w] <;> omega
      have q2 : bN on' k * 2 ^ (k + 16) < 4294967296 := by rcases (show bN on' k = 0 ∨ bN on' k = 1 by omega) with w | w <;> rw [w] <;> omega
      unfold b_X4_begin_30
      rw [hL'.1, if_neg (by rw [n_le (by omega) (by omega)]; omega), gd_ix (by omega) (by omega)]
      simp only [n_cl (show k < 2147483648 by omega), m1, gd_ix (show (ruA rl k).1 < 8 by omega) (by omega), n_cl (show (ruA rl k).1 < 2147483648 by omega), u2, e3 9 (by omega), h15, h16, bit_C (show on < 2147483648 by omega) (show k < 32 by omega), bit_C (show on' < 2147483648 by omega) (show k < 32 by omega), n_16, n_shl (show k < 32 by omega) q1, n_shl (show k + 16 < 32 by omega) q2, n_or, lt_eq, n_suc]
      refine Ok.some ⟨rfl, fun j hj => ?_, fun o ho => ?_, e4⟩
      · show ∃ v, v < 4294967296 ∧ (sI τ 19 (ruA rl k).1 (nI (u ||| (bN on k * 2 ^ k ||| bN on' k * 2 ^ (k + 16))))).1 19 j = nI v ∧ _
        by_cases c : j = (ruA rl k).1
        · subst c
          exact ⟨_, or32 u1 (or32 q1 q2), sI_same _ _ _ _, u3.step (by omega) rfl⟩
        · obtain ⟨w, w1, w2, w3⟩ := e2 j hj
          exact ⟨w, w1, by rw [sI_slot c]; exact w2, w3.skip (fun e => c e.symm)⟩
      · show (sI τ 19 (ruA rl k).1 _).1 o = _
        rw [sI_o ho]; exact e3 o ho
    · rintro ⟨v, τ⟩ ⟨e1, e2, e3, e4⟩
      simp only at e1 e2 e3 e4
      subst e1
      show Ok (b_X4_begin_30 (nI rl.length) τ) _
      unfold b_X4_begin_30
      rw [e3 29 (by omega), hL.1, if_pos (by rw [n_le (by omega) (by omega)]; omega)]
      exact Ok.some ⟨e2, e3, e4⟩
/-- the leaves offered -/
theorem leaves_C {rl : List Ru} {on on' : Nat} {σ0 σ : Mem} {xs : Nat → PX} {z : Nat → Nat} {W : Nat → List Nat} (hrl : ∀ r ∈ rl, OkRu r) (hll : rl.length ≤ 16) (hS : SeC rl on on' σ0 σ 0 xs z W (fun _ => false) True) (fl : σ.1 9 18 = 0) : Ok (Lim (T := Mem) (fun s => b_X4_begin_90 s.1 s.2) ((0 : Int32), σ)) (fun τ => ∃ n xs z W, SeC rl on on' σ0 τ n xs z W (fun _ => false) (Done τ (stX rl on on') n xs z W (fun _ => false))) := by
  refine Ok.for 4 (fun s st => st.1 = nI s ∧ ∃ n xs z W, SeC rl on on' σ0 st.2 n xs z W (fun _ => false) (CdS (stX rl on on') n xs z W (fun _ => false) (fun j => j < s) (fun _ _ => True) (fun _ _ _ => True) ∧ ∀ j, j < s → U0 st.2 (stX rl on on') n xs j)) ?_ ?_ 0 (by omega) _ ⟨rfl, 0, xs, z, W, hS.wk (fun _ => ⟨⟨fun s _ w => by omega, fun s i _ _ hi => by omega, fun s i j _ _ hi => by omega⟩, fun j hj => by omega⟩)⟩
  · rintro s ⟨v, τ⟩ hs ⟨e1, n, xs, z, W, S1⟩
    simp only at e1 S1
    subst e1
    show Ok (b_X4_begin_90 (nI s) τ) _
    obtain ⟨r, a1, a2, a3⟩ := S1.1.1.2.2.2.2.2.2 s (by omega)
    unfold b_X4_begin_90
    rw [if_neg (by rw [show (4 : Int32) = nI 4 from rfl, n_le (by omega) (by omega)]; omega), gd_ix (by omega) (by omega), n_cl (by omega), a2]
    refine Ok.bind (offerS_C (s := s) (o1 := none) (o2 := none) hrl hll S1 (by omega) (Or.inl ⟨armsN_0 hs, rfl, rfl⟩) a1 (fit0 a3 (armsN_0 hs))) ?_
    rintro ⟨v, υ⟩ ⟨n1, xs1, z1', W1, k1, x1, m1, b1, rfl, f1, c1⟩
    simp only at f1 c1
    have S2 := c1 (CdS (stX rl on on') n1 xs1 z1' W1 (fun _ => false) (fun j => j < s + 1) (fun _ _ => True) (fun _ _ _ => True) ∧ (∀ j, j < s → U0 υ (stX rl on on') n1 xs1 j) ∧ xs1 k1 = stX rl on on' s zX zX) (fun D kx cd => by
      have cm := D.1.mono S1.2.1 x1 m1
      refine ⟨⟨fun s' h1 h2 => ?_, cm.2.1, cm.2.2⟩, fun j hj => (D.2 j hj).ext x1 (by rw [f1.1 24 (by omega)]), kx⟩
      by_cases c : s' = s
      · subst c; exact cd
      · exact cm.1 s' h1 (by omega))
    have put : f_X5_putLeaf (nI s) (nI k1) υ = some (sI υ 24 s (nI k1)) := by
      unfold f_X5_putLeaf
      rw [if_neg (not_n0 (by omega)), if_neg (by rw [show (4 : Int32) = nI 4 from rfl, n_le (by omega) (by omega)]; omega), gd_ix (by omega) (by omega), n_cl (by omega), lt_eq]
    show Ok ((f_X5_putLeaf (nI s) (nI k1) υ).bind _) _
    rw [put, Option.bind_some]
    refine Ok.lt (Ok.some ⟨n_suc s, n1, xs1, z1', W1, S2.put (by omega) _ (fun D => ⟨D.1, fun j hj => ?_⟩)⟩)
    by_cases c : j = s
    · subst c
      exact ⟨k1, b1, sI_same _ _ _ _, D.2.2⟩
    · exact (D.2.1 j (by omega)).ext ⟨Nat.le_refl _, fun _ _ => rfl⟩ (sI_slot c)
  · rintro ⟨v, τ⟩ ⟨e1, n, xs, z, W, S1⟩
    simp only at e1 S1
    subst e1
    show Ok (b_X4_begin_90 (nI 4) τ) _
    unfold b_X4_begin_90
    rw [if_pos (by decide)]
    refine Ok.some ⟨n, xs, z, W, S1.wk (fun D => ⟨⟨fun s h1 _ => D.1.1 s h1 h1, D.1.2.1, D.1.2.2⟩, fun s h1 _ => D.2 s h1, fun p _ h => absurd (show false = true from h) (by decide), fun p q _ _ h => absurd (show false = true from h.1) (by decide)⟩)⟩
