/-! classes: the class -/
def KnM (σ : Mem) (t n : Nat) (κ : Nat → Nat) : Prop := ∀ i, i < n → σ.1 t i = nI (κ i) ∧ κ i < 128
def KeC (E : Nat → Nat → Prop) (n : Nat) (zs κ : Nat → Nat) : Prop := ∀ i j, i < n → j < n → (κ i = κ j ↔ E (zs i) (zs j))
theorem pair_iff {E : Nat → Nat → Prop} {n : Nat} {zs κ : Nat → Nat} (hE : KeC E n zs κ) {e f e' f' s0 : Nat} {A B : Nat → Nat} (he : e < n) (hf : f < n) (he' : e' < n) (hf' : f' < n) (h1 : zs e = A s0) (h2 : zs f = A (s0 + 1)) (h3 : zs e' = B s0) (h4 : zs f' = B (s0 + 1)) : (κ e = κ e' ∧ κ f = κ f') ↔ ∀ s, s0 ≤ s → s < s0 + 2 → E (A s) (B s) := by
  rw [hE e e' he he', hE f f' hf hf', h1, h2, h3, h4]
  refine ⟨fun z s a b => ?_, fun z => ⟨z s0 (by omega) (by omega), z (s0 + 1) (by omega) (by omega)⟩⟩
  by_cases c : s = s0
  · rw [c]; exact z.1
  · rw [show s = s0 + 1 by omega]; exact z.2
theorem areKinds_C {σ : Mem} {n e f e' f' : Nat} {κ : Nat → Nat} (hK : KnM σ 26 n κ) (hn : n ≤ 120) (he : e < n) (hf : f < n) (he' : e' < n) (hf' : f' < n) : (f_X2_areKinds (nI (e + 128 * f)) (nI (e' + 128 * f')) σ = some 1 ∧ (κ e = κ e' ∧ κ f = κ f')) ∨ (f_X2_areKinds (nI (e + 128 * f)) (nI (e' + 128 * f')) σ = some 0 ∧ ¬ (κ e = κ e' ∧ κ f = κ f')) := by
  obtain ⟨a1, a2⟩ := hK e he
  obtain ⟨b1, b2⟩ := hK f hf
  obtain ⟨c1, c2⟩ := hK e' he'
  obtain ⟨d1, d2⟩ := hK f' hf'
  unfold f_X2_areKinds
  simp only [low_n (show e < 128 by omega) (show f < 128 by omega), low_n (show e' < 128 by omega) (show f' < 128 by omega), high_n (show e < 128 by omega) (show f < 128 by omega), high_n (show e' < 128 by omega) (show f' < 128 by omega), gd_ix (show e < 128 by omega) (show 128 < 2147483648 by omega), gd_ix (show f < 128 by omega) (show 128 < 2147483648 by omega), gd_ix (show e' < 128 by omega) (show 128 < 2147483648 by omega), gd_ix (show f' < 128 by omega) (show 128 < 2147483648 by omega), n_cl (show e < 2147483648 by omega), n_cl (show f < 2147483648 by omega), n_cl (show e' < 2147483648 by omega), n_cl (show f' < 2147483648 by omega), a1, b1, c1, d1, n_eq (show κ e < 2147483648 by omega) (show κ e' < 2147483648 by omega), n_eq (show κ f < 2147483648 by omega) (show κ f' < 2147483648 by omega)]
  by_cases x : κ e = κ e'
  · rw [if_pos x]
    by_cases y : κ f = κ f'
    · rw [if_pos y]
      exact Or.inl ⟨rfl, x, y⟩
    · rw [if_neg y]
      exact Or.inr ⟨rfl, fun z => y z.2⟩
  · rw [if_neg x]
    exact Or.inr ⟨rfl, fun z => x z.1⟩
theorem isLike_C {σ : Mem} {rl : List Ru} {on n g k p q : Nat} {xs : Nat → PX} {R : Nat → Prop} {κ : Nat → Nat} (h17 : σ.1 9 17 = nI n) (hn : n ≤ 120) (ht : TbC σ (stX rl on 0) n xs (fun _ => True) (fun _ => True) (fun _ _ => True)) (hl : LsR R n (fun i => (xs i).1)) (hK : KnM σ 26 n κ) (hE : KeC (KE (outc rl on) R g k) n (fun i => (xs i).1) κ) (hp : p < n) (hq : q < n) : Ok (f_X2_isLike (nI p) (nI q) σ) (fun v => (v = 1 ∧ KE (outc rl on) R g (k + 1) (xs p).1 (xs q).1) ∨ (v = 0 ∧ ¬ KE (outc rl on) R g (k + 1) (xs p).1 (xs q).1)) := by
  obtain ⟨p1, p2⟩ := hK p hp
  obtain ⟨q1, q2⟩ := hK q hq
  obtain ⟨e, f, e1, f1, ef, e2, f2⟩ := ht.2.1 p hp trivial
  obtain ⟨e', f', e1', f1', ef', e2', f2'⟩ := ht.2.1 q hq trivial
  have one := pair_iff hE (A := fun s => outc rl on s (xs p).1 0) (B := fun s => outc rl on s (xs q).1 0) (s0 := 4) e1 f1 e1' f1' (by rw [e2]; rfl) (by rw [f2]; rfl) (by rw [e2']; rfl) (by rw [f2']; rfl)
  unfold f_X2_isLike
  rw [gd_ix (by omega) (by omega), gd_ix (by omega) (by omega), n_cl (by omega), n_cl (by omega), p1, q1]
  by_cases c : κ p = κ q
  · rw [if_pos (by rw [c])]
    unfold f_X4_overOne
    rw [gd_ix (by omega) (by omega), gd_ix (by omega) (by omega), Option.bind_some, Option.bind_some, n_cl (by omega), n_cl (by omega), ef, ef']
    rcases areKinds_C hK hn e1 f1 e1' f1' with ⟨a, b⟩ | ⟨a, b⟩
    · rw [a, Option.bind_some, if_neg (by decide)]
      have o1 := one.mp b
      refine Ok.bind (P := fun r => (r = .inl () ∧ ¬ KE (outc rl on) R g (k + 1) (xs p).1 (xs q).1) ∨ (r = .inr () ∧ ∀ r, r < n → ∀ s, 6 ≤ s → s < 8 → KE (outc rl on) R g k (outc rl on s (xs p).1 (xs r).1) (outc rl on s (xs q).1 (xs r).1) ∧ KE (outc rl on) R g k (outc rl on s (xs r).1 (xs p).1) (outc rl on s (xs r).1 (xs q).1))) ?_ ?_
      · refine Ok.for n (fun m s => s = nI m ∧ ∀ r, r < m → ∀ s, 6 ≤ s → s < 8 → KE (outc rl on) R g k (outc rl on s (xs p).1 (xs r).1) (outc rl on s (xs q).1 (xs r).1) ∧ KE (outc rl on) R g k (outc rl on s (xs r).1 (xs p).1) (outc rl on s (xs r).1 (xs q).1)) ?_ ?_ 0 (by omega) _ ⟨rfl, fun r hr => by omega⟩
        · rintro m _ hm ⟨rfl, hh⟩
          show Ok (b_X2_isLike_37 (nI p) (nI q) (nI m) σ) _
          obtain ⟨u, v, u1, v1, uv, u2, v2⟩ := ht.2.2 p m hp hm trivial
          obtain ⟨u', v', u1', v1', uv', u2', v2'⟩ := ht.2.2 q m hq hm trivial
          obtain ⟨w, y, w1, y1, wy, w2, y2⟩ := ht.2.2 m p hm hp trivial
          obtain ⟨w', y', w1', y1', wy', w2', y2'⟩ := ht.2.2 m q hm hq trivial
          have t1 := pair_iff hE (A := fun s => outc rl on s (xs p).1 (xs m).1) (B := fun s => outc rl on s (xs q).1 (xs m).1) (s0 := 6) u1 v1 u1' v1' (by rw [u2]; rfl) (by rw [v2]; rfl) (by rw [u2']; rfl) (by rw [v2']; rfl)
          have t2 := pair_iff hE (A := fun s => outc rl on s (xs m).1 (xs p).1) (B := fun s => outc rl on s (xs m).1 (xs q).1) (s0 := 6) w1 y1 w1' y1' (by rw [w2]; rfl) (by rw [y2]; rfl) (by rw [w2']; rfl) (by rw [y2']; rfl)
          have ov : ∀ a b, a < n → b < n → f_X4_overTwo (nI a) (nI b) σ = some (σ.1 21 (120 * a + b)) := fun a b ha hb => by
            unfold f_X4_overTwo
            rw [show (120 : Int32) = nI 120 from rfl, n_mul, n_add, gd_ix (by omega) (by omega), n_cl (by omega), Nat.mul_comm]
          unfold b_X2_isLike_37
          rw [h17, if_neg (by rw [n_le (by omega) (by omega)]; omega), ov p m hp hm, Option.bind_some, ov q m hq hm, Option.bind_some, uv, uv']
          rcases areKinds_C hK hn u1 v1 u1' v1' with ⟨a', b'⟩ | ⟨a', b'⟩
          · rw [a', Option.bind_some, if_neg (by decide), ov m p hm hp, Option.bind_some, ov m q hm hq, Option.bind_some, wy, wy']
            rcases areKinds_C hK hn w1 y1 w1' y1' with ⟨a'', b''⟩ | ⟨a'', b''⟩
            · rw [a'', Option.bind_some, if_neg (by decide)]
              refine Ok.lt (Ok.some ⟨n_suc m, fun r hr s s1 s2 => ?_⟩)
              by_cases x : r = m
              · rw [x]
                exact ⟨t1.mp b' s s1 s2, t2.mp b'' s s1 s2⟩
              · exact hh r (by omega) s s1 s2
            · rw [a'', Option.bind_some, if_pos rfl]
              exact Ok.some (Or.inl ⟨rfl, fun z => b'' (t2.mpr (fun s s1 s2 => (z.2.2 _ (hl.1 m hm) s s1 s2).2))⟩)
          · rw [a', Option.bind_some, if_pos rfl]
            exact Ok.some (Or.inl ⟨rfl, fun z => b' (t1.mpr (fun s s1 s2 => (z.2.2 _ (hl.1 m hm) s s1 s2).1))⟩)
        · rintro _ ⟨rfl, hh⟩
          show Ok (b_X2_isLike_37 (nI p) (nI q) (nI n) σ) _
          unfold b_X2_isLike_37
          rw [h17, if_pos (by rw [n_le (by omega) (by omega)]; omega)]
          exact Ok.some (Or.inr ⟨rfl, hh⟩)
      · rintro r (⟨rfl, h⟩ | ⟨rfl, h⟩)
        · exact Ok.some (Or.inr ⟨rfl, h⟩)
        · refine Ok.some (Or.inl ⟨rfl, (hE p q hp hq).mp c, o1, fun r hr s s1 s2 => ?_⟩)
          obtain ⟨i, i1, rfl⟩ := hl.2 r hr
          exact h i i1 s s1 s2
    · rw [a, Option.bind_some, if_pos rfl]
      exact Ok.some (Or.inr ⟨rfl, fun z => b (one.mpr z.2.1)⟩)
  · rw [if_neg (by rw [n_eq (by omega) (by omega)]; exact c)]
    exact Ok.some (Or.inr ⟨rfl, fun z => c ((hE p q hp hq).mpr z.1)⟩)
def FrK (σ τ : Mem) : Prop := (∀ o, o ≠ 26 → o ≠ 27 → o ≠ 28 → τ.1 o = σ.1 o) ∧ τ.2 = σ.2
theorem FrK.rf {σ : Mem} : FrK σ σ := ⟨fun _ _ _ _ => rfl, rfl⟩
theorem FrK.tr {σ τ υ : Mem} (h : FrK σ τ) (g : FrK τ υ) : FrK σ υ := ⟨fun o a b c => (g.1 o a b c).trans (h.1 o a b c), g.2.trans h.2⟩
theorem FrK.put {σ τ : Mem} {o k : Nat} {v : Int32} (h : FrK σ τ) (ho : o = 26 ∨ o = 27 ∨ o = 28) : FrK σ (sI τ o k v) := ⟨fun q a b c => by rw [sI_o (by omega)]; exact h.1 q a b c, h.2⟩
theorem TbC.fk {σ τ : Mem} {st : Nat → PX → PX → PX} {n : Nat} {xs : Nat → PX} {t0 t1 : Nat → Prop} {t2 : Nat → Nat → Prop} (h : TbC σ st n xs t0 t1 t2) (e : FrK σ τ) : TbC τ st n xs t0 t1 t2 := by
  unfold TbC U0 U1 U2 at *
  simp only [e.1 20 (by omega) (by omega) (by omega), e.1 21 (by omega) (by omega) (by omega), e.1 24 (by omega) (by omega) (by omega)]
  exact h
theorem split_C {σ : Mem} {rl : List Ru} {on n g k : Nat} {xs : Nat → PX} {R : Nat → Prop} {κ : Nat → Nat} (h17 : σ.1 9 17 = nI n) (hn : n ≤ 120) (ht : TbC σ (stX rl on 0) n xs (fun _ => True) (fun _ => True) (fun _ _ => True)) (hl : LsR R n (fun i => (xs i).1)) (hK : KnM σ 26 n κ) (hE : KeC (KE (outc rl on) R g k) n (fun i => (xs i).1) κ) : Ok (f_X2_splitByMoves σ) (fun r => FrK σ r.2 ∧ ∃ M κ', r.1 = nI M ∧ KnM r.2 26 n κ' ∧ Kd (KE (outc rl on) R g (k + 1)) n (fun i => (xs i).1) κ' M) := by
  have hEq := KE_eq (o := outc rl on) (R := R) (g := g) (k + 1)
  unfold f_X2_splitByMoves
  refine Ok.bind (P := fun r => FrK σ r.2 ∧ r.2.1 26 = σ.1 26 ∧ ∃ M κ', r.1 = nI M ∧ KnM r.2 27 n κ' ∧ Kd (KE (outc rl on) R g (k + 1)) n (fun i => (xs i).1) κ' M) ?_ ?_
  · refine Ok.for n (fun p s => ∃ τ M κ' rep, s = (nI M, nI p, τ) ∧ FrK σ τ ∧ τ.1 26 = σ.1 26 ∧ KnM τ 27 p κ' ∧ Kd (KE (outc rl on) R g (k + 1)) p (fun i => (xs i).1) κ' M ∧ ∀ v, v < M → τ.1 28 v = nI (rep v) ∧ rep v < p ∧ κ' (rep v) = v) ?_ ?_ 0 (by omega) _ ⟨σ, 0, fun _ => 0, fun _ => 0, rfl, FrK.rf, rfl, fun i hi => by omega, ⟨fun i hi => by omega, fun v hv => by omega, fun i j hi => by omega⟩, fun v hv => by omega⟩
    · rintro p _ hp ⟨τ, M, κ', rep, rfl, h1, h2, h3, h4, h5⟩
      show Ok (b_X2_splitByMoves_4 (nI M) (nI p) τ) _
      have hM := h4.leN
      have hK' : KnM τ 26 n κ := by unfold KnM; rw [h2]; exact hK
      have h17' : τ.1 9 17 = nI n := by rw [h1.1 9 (by omega) (by omega) (by omega)]; exact h17
      unfold b_X2_splitByMoves_4
      rw [h17', if_neg (by rw [n_le (by omega) (by omega)]; omega)]
      refine Ok.bind (P := fun r => ∃ m, r = (nI M, nI p, nI m) ∧ ((m = M ∧ ∀ v, v < M → ¬ KE (outc rl on) R g (k + 1) (xs (rep v)).1 (xs p).1) ∨ (m < M ∧ KE (outc rl on) R g (k + 1) (xs (rep m)).1 (xs p).1))) ?_ ?_
      · refine Ok.for M (fun m s => s = (nI M, nI p, nI m) ∧ ∀ v, v < m → ¬ KE (outc rl on) R g (k + 1) (xs (rep v)).1 (xs p).1) ?_ ?_ 0 (by omega) _ ⟨rfl, fun v hv => by omega⟩
        · rintro m _ hm ⟨rfl, hh⟩
          show Ok (b_X2_splitByMoves_15 (nI M) (nI p) (nI m) τ) _
          obtain ⟨r1, r2, r3⟩ := h5 m hm
          unfold b_X2_splitByMoves_15
          rw [if_neg (by rw [n_le (by omega) (by omega)]; omega), gd_ix (by omega) (by omega), n_cl (by omega), r1]
          refine Ok.bind (isLike_C h17' hn (ht.fk h1) hl hK' hE (show rep m < n by omega) hp) ?_
          rintro v (⟨rfl, hv⟩ | ⟨rfl, hv⟩)
          · rw [if_neg (by decide)]
            exact Ok.some ⟨m, rfl, Or.inr ⟨hm, hv⟩⟩
          · rw [if_pos rfl]
            refine Ok.lt (Ok.some ⟨by rw [n_suc], fun v hv' => ?_⟩)
            by_cases x : v = m
            · rw [x]; exact hv
            · exact hh v (by omega)
        · rintro _ ⟨rfl, hh⟩
          show Ok (b_X2_splitByMoves_15 (nI M) (nI p) (nI M) τ) _
          unfold b_X2_splitByMoves_15
          rw [if_pos (by rw [n_le (by omega) (by omega)]; omega)]
          exact Ok.some ⟨M, rfl, Or.inl ⟨rfl, hh⟩⟩
      · rintro _ ⟨m, rfl, hm⟩
        show Ok (j_X2_splitByMoves_43 (nI M) (nI p) (nI m) τ) _
        unfold j_X2_splitByMoves_43
        rcases hm with ⟨rfl, hm⟩ | ⟨hm, hr⟩
        · rw [if_pos rfl, gd_ix (by omega) (by omega), n_cl (by omega)]
          refine Ok.lt (Ok.lt ?_)
          unfold j_X2_splitByMoves_59
          rw [gd_ix (by omega) (by omega), n_cl (by omega)]
          have new := h4.new hEq (fun j hj z => by
            have jm := h4.1 j hj
            obtain ⟨r1, r2, r3⟩ := h5 (κ' j) jm
            have := (h4.2.2 (rep (κ' j)) j r2 hj).mp r3
            exact hm _ jm (hEq.2.2 _ _ _ this (hEq.2.1 _ _ z)))
          refine Ok.lt (Ok.lt (Ok.some ⟨_, m + 1, _, fun v => if v = m then p else rep v, by rw [n_suc, n_suc], (h1.put (Or.inr (Or.inr rfl))).put (Or.inr (Or.inl rfl)), ?_, fun i hi => ?_, new, fun v hv => ?_⟩))
          · rw [sI_o (by omega), sI_o (by omega)]; exact h2
          · by_cases c : i = p
            · subst c
              simp only [if_pos]
              rw [sI_same]
              exact ⟨rfl, by omega⟩
            · simp only [if_neg c]
              rw [sI_slot c, sI_off (by omega)]
              exact h3 i (by omega)
          · by_cases c : v = m
            · subst c
              simp only [if_pos]
              rw [sI_off (by omega), sI_same]
              exact ⟨rfl, by omega, trivial⟩
            · obtain ⟨r1, r2, r3⟩ := h5 v (by omega)
              simp only [if_neg c]
              rw [sI_off (by omega), sI_slot c]
              exact ⟨r1, by omega, by rw [if_neg (by omega)]; exact r3⟩
        · rw [if_neg (by rw [n_eq (by omega) (by omega)]; omega)]
          unfold j_X2_splitByMoves_59
          rw [gd_ix (by omega) (by omega), n_cl (by omega)]
          obtain ⟨r1, r2, r3⟩ := h5 m hm
          have old := h4.old hEq r2 (hEq.2.1 _ _ hr)
          rw [r3] at old
          refine Ok.lt (Ok.lt (Ok.some ⟨_, M, _, rep, by rw [n_suc], h1.put (Or.inr (Or.inl rfl)), ?_, fun i hi => ?_, old, fun v hv => ?_⟩))
          · rw [sI_o (by omega)]; exact h2
          · by_cases c : i = p
            · subst c
              simp only [if_pos]
              rw [sI_same]
              exact ⟨rfl, by omega⟩
            · simp only [if_neg c]
              rw [sI_slot c]
              exact h3 i (by omega)
          · obtain ⟨r1, r2, r3⟩ := h5 v hv
            rw [sI_off (by omega)]
            exact ⟨r1, by omega, by simp only [if_neg (show ¬ rep v = p by omega)]; exact r3⟩
    · rintro _ ⟨τ, M, κ', rep, rfl, h1, h2, h3, h4, h5⟩
      show Ok (b_X2_splitByMoves_4 (nI M) (nI n) τ) _
      have h17' : τ.1 9 17 = nI n := by rw [h1.1 9 (by omega) (by omega) (by omega)]; exact h17
      unfold b_X2_splitByMoves_4
      rw [h17', if_pos (by rw [n_le (by omega) (by omega)]; omega)]
      exact Ok.some ⟨h1, h2, M, κ', rfl, h3, h4⟩
  · rintro ⟨r1, τ⟩ ⟨h1, h2, M, κ', rfl, h3, h4⟩
    simp only at h1 h2 h3 ⊢
    refine Ok.bind (P := fun r => FrK σ r.2 ∧ r.1 = nI M ∧ KnM r.2 26 n κ') ?_ ?_
    · refine Ok.for n (fun p s => ∃ υ : Mem, s = (nI M, nI p, υ) ∧ FrK σ υ ∧ υ.1 27 = τ.1 27 ∧ ∀ i, i < p → υ.1 26 i = nI (κ' i)) ?_ ?_ 0 (by omega) _ ⟨τ, rfl, h1, rfl, fun i hi => by omega⟩
      · rintro p _ hp ⟨υ, rfl, u1, u2, u3⟩
        show Ok (b_X2_splitByMoves_75 (nI M) (nI p) υ) _
        have h17' : υ.1 9 17 = nI n := by rw [u1.1 9 (by omega) (by omega) (by omega)]; exact h17
        unfold b_X2_splitByMoves_75
        rw [h17', if_neg (by rw [n_le (by omega) (by omega)]; omega), gd_ix (by omega) (by omega), gd_ix (by omega) (by omega), n_cl (by omega), u2, (h3 p hp).1]
        refine Ok.lt (Ok.lt (Ok.some ⟨_, by rw [n_suc], u1.put (Or.inl rfl), by rw [sI_o (by omega)]; exact u2, fun i hi => ?_⟩))
        by_cases c : i = p
        · subst c; rw [sI_same]
        · rw [sI_slot c]; exact u3 i (by omega)
      · rintro _ ⟨υ, rfl, u1, u2, u3⟩
        show Ok (b_X2_splitByMoves_75 (nI M) (nI n) υ) _
        have h17' : υ.1 9 17 = nI n := by rw [u1.1 9 (by omega) (by omega) (by omega)]; exact h17
        unfold b_X2_splitByMoves_75
        rw [h17', if_pos (by rw [n_le (by omega) (by omega)]; omega)]
        exact Ok.some ⟨u1, rfl, fun i hi => ⟨u3 i hi, (h3 i hi).2⟩⟩
    · rintro ⟨r2, υ⟩ ⟨u1, rfl, u3⟩
      exact Ok.some ⟨u1, M, κ', rfl, u3, h4⟩
theorem countKinds_C {σ : Mem} {rl : List Ru} {on n g : Nat} {xs : Nat → PX} {R : Nat → Prop} (hP : PCx σ rl on 0 n xs) (hn : n ≤ 64) (hn1 : 1 ≤ n) (hg : g < 64) (ht : TbC σ (stX rl on 0) n xs (fun _ => True) (fun _ => True) (fun _ _ => True)) (hl : LsR R n (fun i => (xs i).1)) (fp : ∀ τ, FrK σ τ → PCx τ rl on 0 n xs) : Ok (f_X2_countKinds (nI g) σ) (fun r => FrK σ r.2 ∧ ∃ M, r.1 = nI M ∧ CntK (outc rl on) R g n (fun i => (xs i).1) M) := by
  have h17 := hP.2.1.2.2
  have f17 : ∀ τ, FrK σ τ → τ.1 9 17 = nI n := fun τ f => by rw [f.1 9 (by omega) (by omega) (by omega)]; exact h17
  unfold f_X2_countKinds
  refine Ok.bind (P := fun τ => FrK σ τ ∧ ∃ κ, KnM τ 26 n κ ∧ KeC (KE (outc rl on) R g 0) n (fun i => (xs i).1) κ) ?_ ?_
  · have kg : ∀ i, nI (gW g (xs i).1) = gB g (xs i).1 := fun i => by
      rcases gB01 g (xs i).1 with e | e
      · rw [gW_0 e, e]; rfl
      · rw [gW_1 (by rw [e]; decide), e]; rfl
    refine Ok.for n (fun p s => ∃ τ : Mem, s = (nI p, τ) ∧ FrK σ τ ∧ ∀ i, i < p → τ.1 26 i = nI (gW g (xs i).1)) ?_ ?_ 0 (by omega) _ ⟨σ, rfl, FrK.rf, fun i hi => by omega⟩
    · rintro p _ hp ⟨τ, rfl, h1, h2⟩
      show Ok (b_X2_countKinds_2 (nI g) (nI p) τ) _
      have fin : ∀ v : Int32, v = nI (gW g (xs p).1) → Ok (j_X2_countKinds_29 (nI g) (nI p) v (nI p) τ) (SumP (fun s => ∃ τ : Mem, s = (nI (p + 1), τ) ∧ FrK σ τ ∧ ∀ i, i < p + 1 → τ.1 26 i = nI (gW g (xs i).1)) (fun τ => FrK σ τ ∧ ∃ κ, KnM τ 26 n κ ∧ KeC (KE (outc rl on) R g 0) n (fun i => (xs i).1) κ)) := by
        rintro v rfl
        unfold j_X2_countKinds_29
        rw [gd_ix (by omega) (by omega), n_cl (by omega)]
        refine Ok.lt (Ok.lt (Ok.some ⟨_, by rw [n_suc], h1.put (Or.inl rfl), fun i hi => ?_⟩))
        by_cases c : i = p
        · subst c; rw [sI_same]
        · rw [sI_slot c]; exact h2 i (by omega)
      unfold b_X2_countKinds_2
      rw [f17 τ h1, if_neg (by rw [n_le (by omega) (by omega)]; omega), goodHere_C (fp τ h1) hp hg, Option.bind_some]
      rcases gB01 g (xs p).1 with e | e
      · rw [e, if_pos rfl]
        exact fin 0 (by rw [kg, e])
      · rw [e, if_neg (by decide)]
        exact fin 1 (by rw [kg, e])
    · rintro _ ⟨τ, rfl, h1, h2⟩
      show Ok (b_X2_countKinds_2 (nI g) (nI n) τ) _
      unfold b_X2_countKinds_2
      rw [f17 τ h1, if_pos (by rw [n_le (by omega) (by omega)]; omega)]
      have l2 : ∀ i, gW g (xs i).1 < 128 := fun i => by
        unfold gW
        split <;> omega
      refine Ok.some ⟨h1, fun i => gW g (xs i).1, fun i hi => ⟨h2 i hi, l2 i⟩, fun i j hi hj => ?_⟩
      show gW g (xs i).1 = gW g (xs j).1 ↔ gB g (xs i).1 = gB g (xs j).1
      have a1 := l2 i
      have a2 := l2 j
      rw [← kg i, ← kg j, n_eq (by omega) (by omega)]
  · rintro τ ⟨h1, κ, h2, h3⟩
    refine Ok.bind (P := fun r => ∃ M υ, (r = .inl (nI M, υ)) ∧ FrK σ υ ∧ CntK (outc rl on) R g n (fun i => (xs i).1) M) ?_ ?_
    · refine Ok.for 120 (fun k s => ∃ υ had κ, s = (nI had, nI k, υ) ∧ FrK σ υ ∧ KnM υ 26 n κ ∧ KeC (KE (outc rl on) R g k) n (fun i => (xs i).1) κ ∧ k ≤ had ∧ had ≤ n ∧ ((k = 0 ∧ had = 0) ∨ Kd (KE (outc rl on) R g k) n (fun i => (xs i).1) κ had)) ?_ ?_ 0 (by omega) _ ⟨τ, 0, κ, rfl, h1, h2, h3, by omega, by omega, Or.inl ⟨rfl, rfl⟩⟩
      · rintro k _ hk ⟨υ, had, κ, rfl, u1, u2, u3, u4, u5, u6⟩
        show Ok (b_X2_countKinds_41 (nI g) (nI had) (nI k) υ) _
        unfold b_X2_countKinds_41
        rw [if_neg (by rw [show (120 : Int32) = nI 120 from rfl, n_le (by omega) (by omega)]; omega)]
        refine Ok.bind (split_C (f17 υ u1) (by omega) (ht.fk u1) hl u2 u3) ?_
        rintro ⟨r1, ω⟩ ⟨w1, M, κ', rfl, w2, w3⟩
        have hM := w3.leN
        have hM1 : 1 ≤ M := by
          have := w3.1 0 (by omega)
          omega
        refine Ok.lt ?_
        show Ok (if nI M = nI had then _ else _) _
        by_cases c : M = had
        · rw [if_pos (by rw [c])]
          rcases u6 with u6 | u6
          · omega
          · subst c
            have stk := StK.of hl u6 w3
            exact Ok.some ⟨M, ω, rfl, u1.tr w1, k, κ, stk, u6⟩
        · rw [if_neg (by rw [n_eq (by omega) (by omega)]; exact c)]
          have lt' : had < M := by
            rcases u6 with u6 | u6
            · omega
            · have := u6.le w3 (fun i hi => ⟨i, hi, rfl⟩) (fun i j _ _ z => z.1)
              omega
          exact Ok.lt (Ok.some ⟨ω, M, κ', by rw [n_suc], u1.tr w1, w2, w3.2.2, by omega, hM, Or.inr w3⟩)
      · rintro _ ⟨υ, had, κ, rfl, u1, u2, u3, u4, u5, u6⟩
        omega
    · rintro _ ⟨M, υ, rfl, u1, u2⟩
      exact Ok.some ⟨u1, M, rfl, u2⟩
