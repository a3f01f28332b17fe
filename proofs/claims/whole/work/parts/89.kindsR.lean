/-! classes: the reference -/
def FrQ (ρ τ : Mem) : Prop := (∀ o, o ≠ 20 → o ≠ 21 → τ.1 o = ρ.1 o) ∧ τ.2 = ρ.2
theorem FrQ.rf {ρ : Mem} : FrQ ρ ρ := ⟨fun _ _ _ => rfl, rfl⟩
theorem FrQ.tr {ρ τ υ : Mem} (h : FrQ ρ τ) (g : FrQ τ υ) : FrQ ρ υ := ⟨fun o a b => (g.1 o a b).trans (h.1 o a b), g.2.trans h.2⟩
theorem FrQ.put {ρ τ : Mem} {o k : Nat} {v : Int32} (h : FrQ ρ τ) (ho : o = 20 ∨ o = 21) : FrQ ρ (sI τ o k v) := ⟨fun q a b => by rw [sI_o (by omega)]; exact h.1 q a b, h.2⟩
theorem FPok.fq {ρ τ : Mem} {st : Nat → PX → PX → PX} {N : Nat} {xs : Nat → PX} (h : FPok ρ st N xs) (f : FrQ ρ τ) : FPok τ st N xs := by
  unfold FPok PRx TbR T0 T1 T2 at *
  rw [f.1 0 (by omega) (by omega), f.1 15 (by omega) (by omega), f.1 16 (by omega) (by omega), f.1 17 (by omega) (by omega), f.1 18 (by omega) (by omega), f.1 19 (by omega) (by omega)]
  exact h
theorem i120 (s i : Nat) : (120 : Int32) * nI s + nI i = nI (120 * s + i) := by rw [show (120 : Int32) = nI 120 from rfl, n_mul, n_add]
theorem i144 (s i j : Nat) : (14400 : Int32) * nI s + (120 : Int32) * nI i + nI j = nI (14400 * s + 120 * i + j) := by rw [show (14400 : Int32) = nI 14400 from rfl, show (120 : Int32) = nI 120 from rfl, n_mul, n_mul, n_add, n_add]
theorem isSame_R {ρ : Mem} {rl : List Ru} {on N g k i j : Nat} {xs : Nat → PX} {R : Nat → Prop} {κ : Nat → Nat} (hP : FPok ρ (stX rl on on) N xs) (hN : N ≤ 64) (hl : LsR R N (fun i => (xs i).1)) (hK : KnM ρ 20 N κ) (hE : KeC (KE (outc rl on) R g k) N (fun i => (xs i).1) κ) (hi : i < N) (hj : j < N) : Ok (f_X9_isSame (nI i) (nI j) ρ) (fun v => (v = 1 ∧ KE (outc rl on) R g (k + 1) (xs i).1 (xs j).1) ∨ (v = 0 ∧ ¬ KE (outc rl on) R g (k + 1) (xs i).1 (xs j).1)) := by
  obtain ⟨p1, p2⟩ := hK i hi
  obtain ⟨q1, q2⟩ := hK j hj
  unfold f_X9_isSame
  rw [gd_ix (by omega) (by omega), gd_ix (by omega) (by omega), n_cl (by omega), n_cl (by omega), p1, q1]
  by_cases c : κ i = κ j
  · rw [if_pos (by rw [c])]
    refine Ok.bind (P := fun r => ((r = .inl () ∨ r = .inr (.inl ())) ∧ ¬ KE (outc rl on) R g (k + 1) (xs i).1 (xs j).1) ∨ (r = .inr (.inr ()) ∧ KE (outc rl on) R g (k + 1) (xs i).1 (xs j).1)) ?_ ?_
    · refine Ok.for 2 (fun m s => s = nI m ∧ ∀ s, s < m → KE (outc rl on) R g k (outc rl on (4 + s) (xs i).1 0) (outc rl on (4 + s) (xs j).1 0) ∧ ∀ r, r < N → KE (outc rl on) R g k (outc rl on (6 + s) (xs i).1 (xs r).1) (outc rl on (6 + s) (xs j).1 (xs r).1) ∧ KE (outc rl on) R g k (outc rl on (6 + s) (xs r).1 (xs i).1) (outc rl on (6 + s) (xs r).1 (xs j).1)) ?_ ?_ 0 (by omega) _ ⟨rfl, fun s hs => by omega⟩
      · rintro m _ hm ⟨rfl, hh⟩
        show Ok (b_X9_isSame_19 (nI i) (nI j) (nI m) ρ) _
        obtain ⟨e, e1, e2, e3⟩ := hP.2.2.1 m i hm hi trivial
        obtain ⟨f, f1, f2, f3⟩ := hP.2.2.1 m j hm hj trivial
        obtain ⟨ke1, ke2⟩ := hK e e1
        obtain ⟨kf1, kf2⟩ := hK f f1
        have ef : κ e = κ f ↔ KE (outc rl on) R g k (outc rl on (4 + m) (xs i).1 0) (outc rl on (4 + m) (xs j).1 0) := by
          have := hE e f e1 f1
          simp only [e3, f3] at this
          exact this
        unfold b_X9_isSame_19
        rw [if_neg (by rw [show (2 : Int32) = nI 2 from rfl, n_le (by omega) (by omega)]; omega)]
        simp only [i120, gd_ix (show 120 * m + i < 240 by omega) (show 240 < 2147483648 by omega), gd_ix (show 120 * m + j < 240 by omega) (show 240 < 2147483648 by omega), n_cl (show 120 * m + i < 2147483648 by omega), n_cl (show 120 * m + j < 2147483648 by omega), e2, f2, gd_ix (show e < 64 by omega) (show 64 < 2147483648 by omega), gd_ix (show f < 64 by omega) (show 64 < 2147483648 by omega), n_cl (show e < 2147483648 by omega), n_cl (show f < 2147483648 by omega), ke1, kf1, n_eq (show κ e < 2147483648 by omega) (show κ f < 2147483648 by omega)]
        by_cases d : κ e = κ f
        · rw [if_pos d]
          refine Ok.bind (P := fun r => (r = .inl () ∧ ¬ KE (outc rl on) R g (k + 1) (xs i).1 (xs j).1) ∨ (r = .inr (nI m) ∧ ∀ r, r < N → KE (outc rl on) R g k (outc rl on (6 + m) (xs i).1 (xs r).1) (outc rl on (6 + m) (xs j).1 (xs r).1) ∧ KE (outc rl on) R g k (outc rl on (6 + m) (xs r).1 (xs i).1) (outc rl on (6 + m) (xs r).1 (xs j).1))) ?_ ?_
          · refine Ok.for N (fun p s => s = (nI m, nI p) ∧ ∀ r, r < p → KE (outc rl on) R g k (outc rl on (6 + m) (xs i).1 (xs r).1) (outc rl on (6 + m) (xs j).1 (xs r).1) ∧ KE (outc rl on) R g k (outc rl on (6 + m) (xs r).1 (xs i).1) (outc rl on (6 + m) (xs r).1 (xs j).1)) ?_ ?_ 0 (by omega) _ ⟨rfl, fun r hr => by omega⟩
            · rintro p _ hp ⟨rfl, gg⟩
              show Ok (b_X9_isSame_64 (nI i) (nI j) (nI m) (nI p) ρ) _
              obtain ⟨a, a1, a2, a3⟩ := hP.2.2.2 m i p hm hi hp trivial
              obtain ⟨b, b1, b2, b3⟩ := hP.2.2.2 m j p hm hj hp trivial
              obtain ⟨u, u1, u2, u3⟩ := hP.2.2.2 m p i hm hp hi trivial
              obtain ⟨v, v1, v2, v3⟩ := hP.2.2.2 m p j hm hp hj trivial
              obtain ⟨ka1, ka2⟩ := hK a a1
              obtain ⟨kb1, kb2⟩ := hK b b1
              obtain ⟨ku1, ku2⟩ := hK u u1
              obtain ⟨kv1, kv2⟩ := hK v v1
              have ab : κ a = κ b ↔ KE (outc rl on) R g k (outc rl on (6 + m) (xs i).1 (xs p).1) (outc rl on (6 + m) (xs j).1 (xs p).1) := by
                have := hE a b a1 b1
                simp only [a3, b3] at this
                exact this
              have uv : κ u = κ v ↔ KE (outc rl on) R g k (outc rl on (6 + m) (xs p).1 (xs i).1) (outc rl on (6 + m) (xs p).1 (xs j).1) := by
                have := hE u v u1 v1
                simp only [u3, v3] at this
                exact this
              unfold b_X9_isSame_64
              rw [hP.1.1, if_neg (by rw [n_le (by omega) (by omega)]; omega)]
              simp only [i144]
              refine Ok.lt (Ok.lt (Ok.lt (Ok.lt ?_)))
              simp only [gd_ix (show 14400 * m + 120 * i + p < 28800 by omega) (show 28800 < 2147483648 by omega), gd_ix (show 14400 * m + 120 * j + p < 28800 by omega) (show 28800 < 2147483648 by omega), gd_ix (show 14400 * m + 120 * p + i < 28800 by omega) (show 28800 < 2147483648 by omega), gd_ix (show 14400 * m + 120 * p + j < 28800 by omega) (show 28800 < 2147483648 by omega), n_cl (show 14400 * m + 120 * i + p < 2147483648 by omega), n_cl (show 14400 * m + 120 * j + p < 2147483648 by omega), n_cl (show 14400 * m + 120 * p + i < 2147483648 by omega), n_cl (show 14400 * m + 120 * p + j < 2147483648 by omega), a2, b2, u2, v2, gd_ix (show a < 64 by omega) (show 64 < 2147483648 by omega), gd_ix (show b < 64 by omega) (show 64 < 2147483648 by omega), gd_ix (show u < 64 by omega) (show 64 < 2147483648 by omega), gd_ix (show v < 64 by omega) (show 64 < 2147483648 by omega), n_cl (show a < 2147483648 by omega), n_cl (show b < 2147483648 by omega), n_cl (show u < 2147483648 by omega), n_cl (show v < 2147483648 by omega), ka1, kb1, ku1, kv1, n_eq (show κ a < 2147483648 by omega) (show κ b < 2147483648 by omega), n_eq (show κ u < 2147483648 by omega) (show κ v < 2147483648 by omega)]
              by_cases x : κ a = κ b
              · rw [if_pos x]
                by_cases y : κ u = κ v
                · rw [if_pos y]
                  refine Ok.lt (Ok.some ⟨by rw [n_suc], fun r hr => ?_⟩)
                  by_cases w : r = p
                  · rw [w]
                    exact ⟨ab.mp x, uv.mp y⟩
                  · exact gg r (by omega)
                · rw [if_neg y]
                  exact Ok.some (Or.inl ⟨rfl, fun z => y (uv.mpr (z.2.2 _ (hl.1 p hp) (6 + m) (by omega) (by omega)).2)⟩)
              · rw [if_neg x]
                exact Ok.some (Or.inl ⟨rfl, fun z => x (ab.mpr (z.2.2 _ (hl.1 p hp) (6 + m) (by omega) (by omega)).1)⟩)
            · rintro _ ⟨rfl, gg⟩
              show Ok (b_X9_isSame_64 (nI i) (nI j) (nI m) (nI N) ρ) _
              unfold b_X9_isSame_64
              rw [hP.1.1, if_pos (by rw [n_le (by omega) (by omega)]; omega)]
              exact Ok.some (Or.inr ⟨rfl, gg⟩)
          · rintro r (⟨rfl, z⟩ | ⟨rfl, z⟩)
            · exact Ok.some (Or.inl ⟨Or.inr rfl, z⟩)
            · refine Ok.lt (Ok.some ⟨n_suc m, fun s hs => ?_⟩)
              by_cases w : s = m
              · rw [w]
                exact ⟨ef.mp d, z⟩
              · exact hh s (by omega)
        · rw [if_neg d]
          exact Ok.some (Or.inl ⟨Or.inl rfl, fun z => d (ef.mpr (z.2.1 (4 + m) (by omega) (by omega)))⟩)
      · rintro _ ⟨rfl, hh⟩
        show Ok (b_X9_isSame_19 (nI i) (nI j) (nI 2) ρ) _
        unfold b_X9_isSame_19
        rw [if_pos (by decide)]
        refine Ok.some (Or.inr ⟨rfl, (hE i j hi hj).mp c, fun s s1 s2 => ?_, fun r hr s s1 s2 => ?_⟩)
        · have := (hh (s - 4) (by omega)).1
          rw [show 4 + (s - 4) = s by omega] at this
          exact this
        · obtain ⟨r', r1, rfl⟩ := hl.2 r hr
          have := (hh (s - 6) (by omega)).2 r' r1
          rw [show 6 + (s - 6) = s by omega] at this
          exact this
    · rintro r (⟨rfl | rfl, z⟩ | ⟨rfl, z⟩)
      · exact Ok.some (Or.inr ⟨rfl, z⟩)
      · exact Ok.some (Or.inr ⟨rfl, z⟩)
      · exact Ok.some (Or.inl ⟨rfl, z⟩)
  · rw [if_neg (by rw [n_eq (by omega) (by omega)]; exact c)]
    exact Ok.some (Or.inr ⟨rfl, fun z => c ((hE i j hi hj).mpr z.1)⟩)
/-- one split -/
theorem split_R {ρ : Mem} {rl : List Ru} {on N g k : Nat} {xs : Nat → PX} {R : Nat → Prop} {κ : Nat → Nat} {had : Int32} (hP : FPok ρ (stX rl on on) N xs) (hN : N ≤ 64) (hl : LsR R N (fun i => (xs i).1)) (hK : KnM ρ 20 N κ) (hE : KeC (KE (outc rl on) R g k) N (fun i => (xs i).1) κ) : Ok ((Lim (T := (Int32 × Int32 × Mem)) (fun s => b_X9_classes_54 s.1 s.2.1 s.2.2.1 s.2.2.2) (had, (0 : Int32), (0 : Int32), ρ)).bind (fun r12 => Lim (T := (Int32 × Int32 × Mem)) (fun s => b_X9_classes_126 s.1 s.2.1 s.2.2.1 s.2.2.2) (r12.1, r12.2.1, (0 : Int32), r12.2.2))) (fun r => r.1 = had ∧ FrQ ρ r.2.2 ∧ ∃ M κ', r.2.1 = nI M ∧ KnM r.2.2 20 N κ' ∧ Kd (KE (outc rl on) R g (k + 1)) N (fun i => (xs i).1) κ' M) := by
  have hEq := KE_eq (o := outc rl on) (R := R) (g := g) (k + 1)
  refine Ok.bind (P := fun r => r.1 = had ∧ FrQ ρ r.2.2 ∧ ∃ M κ', r.2.1 = nI M ∧ KnM r.2.2 21 N κ' ∧ Kd (KE (outc rl on) R g (k + 1)) N (fun i => (xs i).1) κ' M) ?_ ?_
  · refine Ok.for N (fun p s => ∃ τ M κ', s = (had, nI M, nI p, τ) ∧ FrQ ρ τ ∧ τ.1 20 = ρ.1 20 ∧ KnM τ 21 p κ' ∧ Kd (KE (outc rl on) R g (k + 1)) p (fun i => (xs i).1) κ' M) ?_ ?_ 0 (by omega) _ ⟨ρ, 0, fun _ => 0, rfl, FrQ.rf, rfl, fun i hi => by omega, ⟨fun i hi => by omega, fun v hv => by omega, fun i j hi => by omega⟩⟩
    · rintro p _ hp ⟨τ, M, κ', rfl, h1, h2, h3, h4⟩
      show Ok (b_X9_classes_54 had (nI M) (nI p) τ) _
      have hM := h4.leN
      have hK' : KnM τ 20 N κ := by unfold KnM; rw [h2]; exact hK
      unfold b_X9_classes_54
      rw [(hP.fq h1).1.1, if_neg (by rw [n_le (by omega) (by omega)]; omega)]
      refine Ok.bind (P := fun r => ∃ m, r = (had, nI M, nI p, nI m) ∧ m ≤ p ∧ KE (outc rl on) R g (k + 1) (xs p).1 (xs m).1 ∧ ∀ v, v < m → ¬ KE (outc rl on) R g (k + 1) (xs p).1 (xs v).1) ?_ ?_
      · refine Ok.for p (fun m s => s = (had, nI M, nI p, nI m) ∧ ∀ v, v < m → ¬ KE (outc rl on) R g (k + 1) (xs p).1 (xs v).1) ?_ ?_ 0 (by omega) _ ⟨rfl, fun v hv => by omega⟩
        · rintro m _ hm ⟨rfl, hh⟩
          show Ok (b_X9_classes_65 had (nI M) (nI p) (nI m) τ) _
          unfold b_X9_classes_65
          refine Ok.bind (isSame_R (hP.fq h1) hN hl hK' hE hp (show m < N by omega)) ?_
          rintro v (⟨rfl, hv⟩ | ⟨rfl, hv⟩)
          · rw [if_neg (by decide)]
            exact Ok.some ⟨m, rfl, by omega, hv, hh⟩
          · rw [if_pos rfl]
            refine Ok.lt (Ok.some ⟨by rw [n_suc], fun v hv' => ?_⟩)
            by_cases x : v = m
            · rw [x]; exact hv
            · exact hh v (by omega)
        · rintro _ ⟨rfl, hh⟩
          show Ok (b_X9_classes_65 had (nI M) (nI p) (nI p) τ) _
          unfold b_X9_classes_65
          refine Ok.bind (isSame_R (hP.fq h1) hN hl hK' hE hp hp) ?_
          rintro v (⟨rfl, hv⟩ | ⟨rfl, hv⟩)
          · rw [if_neg (by decide)]
            exact Ok.some ⟨p, rfl, by omega, hv, hh⟩
          · exact absurd (hEq.1 _) hv
      · rintro _ ⟨m, rfl, m1, m2, m3⟩
        show Ok (if nI m = nI p then (j_X9_classes_103 (nI p) (nI M) had (nI M) (nI p) (nI m) τ) else (gd (ix (nI m) 64) (j_X9_classes_103 (nI p) (τ.1 21 (nI m).toNatClampNeg) had (nI M) (nI p) (nI m) τ))) _
        by_cases c : m = p
        · subst c
          rw [if_pos rfl]
          unfold j_X9_classes_103 j_X9_classes_116
          rw [gd_ix (by omega) (by omega), n_cl (by omega)]
          refine Ok.lt ?_
          rw [if_pos rfl]
          refine Ok.lt (Ok.lt (Ok.some ⟨_, M + 1, _, by rw [n_suc, n_suc], h1.put (Or.inr rfl), by rw [sI_o (by omega)]; exact h2, fun i hi => ?_, h4.new hEq m3⟩))
          by_cases d : i = m
          · subst d
            simp only [if_pos]
            rw [sI_same]
            exact ⟨rfl, by omega⟩
          · simp only [if_neg d]
            rw [sI_slot d]
            exact h3 i (by omega)
        · have mp : m < p := by omega
          rw [if_neg (by rw [n_eq (by omega) (by omega)]; exact c), gd_ix (by omega) (by omega), n_cl (by omega), (h3 m mp).1]
          unfold j_X9_classes_103 j_X9_classes_116
          rw [gd_ix (by omega) (by omega), n_cl (by omega)]
          refine Ok.lt ?_
          rw [if_neg (by rw [n_eq (by omega) (by omega)]; exact c)]
          refine Ok.lt (Ok.lt (Ok.some ⟨_, M, _, by rw [n_suc, show nI M + 0 = nI M from n_add M 0], h1.put (Or.inr rfl), by rw [sI_o (by omega)]; exact h2, fun i hi => ?_, h4.old hEq mp m2⟩))
          by_cases d : i = p
          · subst d
            simp only [if_pos]
            rw [sI_same]
            exact ⟨rfl, (h3 m mp).2⟩
          · simp only [if_neg d]
            rw [sI_slot d]
            exact h3 i (by omega)
    · rintro _ ⟨τ, M, κ', rfl, h1, h2, h3, h4⟩
      show Ok (b_X9_classes_54 had (nI M) (nI N) τ) _
      unfold b_X9_classes_54
      rw [(hP.fq h1).1.1, if_pos (by rw [n_le (by omega) (by omega)]; omega)]
      exact Ok.some ⟨rfl, h1, M, κ', rfl, h3, h4⟩
  · rintro ⟨r1, r2, τ⟩ ⟨rfl, h1, M, κ', rfl, h3, h4⟩
    simp only at h1 h3 ⊢
    refine Ok.for N (fun p s => ∃ υ : Mem, s = (r1, nI M, nI p, υ) ∧ FrQ ρ υ ∧ υ.1 21 = τ.1 21 ∧ ∀ i, i < p → υ.1 20 i = nI (κ' i)) ?_ ?_ 0 (by omega) _ ⟨τ, rfl, h1, rfl, fun i hi => by omega⟩
    · rintro p _ hp ⟨υ, rfl, u1, u2, u3⟩
      show Ok (b_X9_classes_126 r1 (nI M) (nI p) υ) _
      unfold b_X9_classes_126
      rw [(hP.fq u1).1.1, if_neg (by rw [n_le (by omega) (by omega)]; omega), gd_ix (by omega) (by omega), gd_ix (by omega) (by omega), n_cl (by omega), u2, (h3 p hp).1]
      refine Ok.lt (Ok.lt (Ok.some ⟨_, by rw [n_suc], u1.put (Or.inl rfl), by rw [sI_o (by omega)]; exact u2, fun i hi => ?_⟩))
      by_cases c : i = p
      · subst c; rw [sI_same]
      · rw [sI_slot c]; exact u3 i (by omega)
    · rintro _ ⟨υ, rfl, u1, u2, u3⟩
      show Ok (b_X9_classes_126 r1 (nI M) (nI N) υ) _
      unfold b_X9_classes_126
      rw [(hP.fq u1).1.1, if_pos (by rw [n_le (by omega) (by omega)]; omega)]
      exact Ok.some ⟨rfl, u1, M, κ', rfl, fun i hi => ⟨u3 i hi, (h3 i hi).2⟩, h4⟩
/-- all in one kind: no step tells more -/
theorem StK.all {o : Nat → Nat → Nat → Nat} {R : Nat → Prop} {g k n : Nat} {zs κ : Nat → Nat} (hR : ClR o R) (hl : LsR R n zs) (h : Kd (KE o R g k) n zs κ 1) : StK o R g k := by
  have all : ∀ a b, R a → R b → KE o R g k a b := fun a b ha hb => by
    obtain ⟨i, i1, rfl⟩ := hl.2 a ha
    obtain ⟨j, j1, rfl⟩ := hl.2 b hb
    have := h.1 i i1
    have := h.1 j j1
    exact (h.2.2 i j i1 j1).mp (by omega)
  exact fun a b ha hb e => ⟨e, fun s h1 h2 => all _ _ (hR.1 s a h1 h2 ha) (hR.1 s b h1 h2 hb), fun r hr s h1 h2 => ⟨all _ _ (hR.2 s a r h1 h2 ha hr) (hR.2 s b r h1 h2 hb hr), all _ _ (hR.2 s r a h1 h2 hr ha) (hR.2 s r b h1 h2 hr hb)⟩⟩
theorem kindsAll_R {ρ : Mem} {rl : List Ru} {on N g : Nat} {xs : Nat → PX} {R : Nat → Prop} {κ : Nat → Nat} (hP : FPok ρ (stX rl on on) N xs) (hN : N ≤ 64) (hN1 : 1 ≤ N) (hR : ClR (outc rl on) R) (hl : LsR R N (fun i => (xs i).1)) (hK : KnM ρ 20 N κ) (hE : KeC (KE (outc rl on) R g 0) N (fun i => (xs i).1) κ) : Ok (Lim (T := (Int32 × Mem)) (fun s => b_X9_classes_43 s.1 s.2.1 s.2.2) ((0 : Int32), (1 : Int32), ρ)) (fun r => FrQ ρ r.2 ∧ ∃ M, r.1 = nI M ∧ CntK (outc rl on) R g N (fun i => (xs i).1) M) := by
  refine Ok.wf (fun μ s => ∃ τ had many k κ, s = (nI had, nI many, τ) ∧ FrQ ρ τ ∧ KnM τ 20 N κ ∧ KeC (KE (outc rl on) R g k) N (fun i => (xs i).1) κ ∧ had ≤ 64 ∧ many ≤ 64 ∧ 1 ≤ many ∧ (μ = if many = had then 0 else 66 - many) ∧ ((k = 0 ∧ had = 0 ∧ many = 1) ∨ (Kd (KE (outc rl on) R g k) N (fun i => (xs i).1) κ many ∧ (many = had → StK (outc rl on) R g k)))) ?_ 65 _ ⟨ρ, 0, 1, 0, κ, rfl, FrQ.rf, hK, hE, by omega, by omega, by omega, rfl, Or.inl ⟨rfl, rfl, rfl⟩⟩
  rintro μ _ ⟨τ, had, many, k, κ, rfl, h1, h2, h3, h4, h5, h5', h6, h7⟩
  show Ok (b_X9_classes_43 (nI had) (nI many) τ) _
  unfold b_X9_classes_43
  by_cases c : many = had
  · rw [if_pos (by rw [c])]
    rcases h7 with h7 | ⟨h7, h8⟩
    · omega
    · exact Ok.some ⟨h1, many, rfl, k, κ, h8 c, h7⟩
  · rw [if_neg (by rw [n_eq (by omega) (by omega)]; exact c), ← Option.bind_assoc]
    rw [if_neg c] at h6
    refine Ok.bind (split_R (had := nI many) (hP.fq h1) hN hl h2 h3) ?_
    rintro ⟨r1, r2, υ⟩ ⟨rfl, u1, M, κ', rfl, u2, u3⟩
    have hM := u3.leN
    have hM1 : 1 ≤ M := by
      have := u3.1 0 (by omega)
      omega
    have ge : many ≤ M := by
      rcases h7 with h7 | ⟨h7, h8⟩
      · omega
      · exact h7.le u3 (fun i hi => ⟨i, hi, rfl⟩) (fun i j _ _ z => z.1)
    refine Ok.some ⟨if M = many then 0 else 66 - M, ?_, υ, many, M, k + 1, κ', rfl, h1.tr u1, u2, u3.2.2, h5, by omega, hM1, rfl, Or.inr ⟨u3, fun e => ?_⟩⟩
    · split <;> omega
    · rcases h7 with h7 | ⟨h7, h8⟩
      · have : M = 1 := by omega
        rw [this] at u3
        exact StK.all hR hl u3
      · rw [e] at u3
        exact (StK.of hl h7 u3).suc hR
