/-! many, both -/
theorem manyOf_R {ρ : Mem} {st : Nat → PX → PX → PX} {N k g : Nat} {a2 : Int32} {xs : Nat → PX} {w2 : Nat → Nat} (h : FPok ρ st N xs) (hk : k < 16) (hk1 : 1 ≤ k) (h71 : ρ.1 7 1 = nI g) (hg : g < 64) (hw : (a2 = 0 ∧ ∀ p, w2 p = 1) ∨ (a2 = 1 ∧ ∃ g', g' < 64 ∧ ρ.1 0 29 = nI g' ∧ ∀ p, w2 p = gW g' (xs p).2)) : Ok (f_X9_manyOf (nI k) a2 ρ) (fun r => r.1 = nJ (sumN (fun p => cnV st k (xs p) * (gW g (xs p).1 * w2 p)) N) ∧ FrJ 25 ρ r.2) := by
  have hN := h.1.2.1
  have h22 := h.1.1
  unfold f_X9_manyOf
  refine Ok.bind (findTrees_R h hk hk1) ?_
  rintro τ ⟨hT, fr⟩
  have hP : PRx τ st N xs := by unfold PRx; rw [fr.1]; exact h.1
  refine Ok.bind (P := fun r => r = nJ (sumN (fun p => cnV st k (xs p) * (gW g (xs p).1 * w2 p)) N)) ?_ ?_
  · refine Ok.for N (fun p s => s = (nJ (sumN (fun p => cnV st k (xs p) * (gW g (xs p).1 * w2 p)) p), nI p)) ?_ ?_ 0 (by omega) _ rfl
    · rintro p _ hp rfl
      show Ok (b_X9_manyOf_10 (nI k) a2 (nJ (sumN (fun p => cnV st k (xs p) * (gW g (xs p).1 * w2 p)) p)) (nI p) τ) _
      have no : gW g (xs p).1 * w2 p = 0 → Ok (j_X9_manyOf_57 (nI k) a2 (nJ (sumN (fun p => cnV st k (xs p) * (gW g (xs p).1 * w2 p)) p)) (nI p) τ) (SumP (fun s => s = (nJ (sumN (fun p => cnV st k (xs p) * (gW g (xs p).1 * w2 p)) (p + 1)), nI (p + 1))) (fun r => r = nJ (sumN (fun p => cnV st k (xs p) * (gW g (xs p).1 * w2 p)) N))) := by
        intro e
        unfold j_X9_manyOf_57 j_X9_manyOf_58
        refine Ok.lt (Ok.lt (Ok.some ?_))
        rw [n_suc, sumN, e, Nat.mul_zero, Int64.add_zero, Nat.add_zero]
      have yes : gW g (xs p).1 * w2 p = 1 → Ok (j_X9_manyOf_42 (nI k) a2 (nJ (sumN (fun p => cnV st k (xs p) * (gW g (xs p).1 * w2 p)) p)) (nI p) τ) (SumP (fun s => s = (nJ (sumN (fun p => cnV st k (xs p) * (gW g (xs p).1 * w2 p)) (p + 1)), nI (p + 1))) (fun r => r = nJ (sumN (fun p => cnV st k (xs p) * (gW g (xs p).1 * w2 p)) N))) := by
        intro e
        unfold j_X9_manyOf_42 j_X9_manyOf_58
        rw [show (120 : Int32) = nI 120 from rfl, n_mul, n_add, gd_ix (by omega) (by omega), n_cl (by omega), hT p hp]
        refine Ok.lt (Ok.lt (Ok.some ?_))
        rw [n_suc, sumN, e, Nat.mul_one, nJ_add]
      unfold b_X9_manyOf_10
      rw [hP.1, if_neg (by rw [n_le (by omega) (by omega)]; omega), goodA_R hP hp (by rw [fr.1]; exact h71) hg, Option.bind_some]
      by_cases c : gB g (xs p).1 = 0
      · rw [if_pos c]
        exact no (by rw [gW_0 c, Nat.zero_mul])
      · rw [if_neg c]
        rcases hw with ⟨rfl, e⟩ | ⟨rfl, g', g1, g2, e⟩
        · rw [if_pos rfl]
          exact yes (by rw [gW_1 c, e])
        · rw [if_neg (by decide), goodB_R hP hp (by rw [fr.1]; exact g2) g1, Option.bind_some]
          by_cases d : gB g' (xs p).2 = 0
          · rw [if_pos d]
            exact no (by rw [e, gW_0 d, Nat.mul_zero])
          · rw [if_neg d]
            exact yes (by rw [e, gW_1 c, gW_1 d])
    · rintro _ rfl
      show Ok (b_X9_manyOf_10 (nI k) a2 (nJ (sumN (fun p => cnV st k (xs p) * (gW g (xs p).1 * w2 p)) N)) (nI N) τ) _
      unfold b_X9_manyOf_10
      rw [hP.1, if_pos (by rw [n_le (by omega) (by omega)]; omega)]
      exact Ok.some rfl
  · rintro _ rfl
    exact Ok.some ⟨rfl, fr⟩
theorem RepR.fj {A : AS} {ρ τ : Mem} (h : RepR A ρ) (fr : FrJ 25 ρ τ) : RepR A τ := by
  unfold RepR LawM StR at *
  rw [fr.1, fr.2.2 0 (by omega)]
  obtain ⟨h1, h2, h3, h4, h5⟩ := h
  refine ⟨h1, h2, h3, fun k hk => ?_, h5⟩
  have := h4 k hk
  unfold ImR StR at *
  rw [fr.1]; exact this
theorem counted_RC (a : Int32) : (∃ k, 1 ≤ k ∧ k ≤ 15 ∧ a = nI k ∧ f_X8_isCounted a = 1 ∧ f_X9_in a 1 15 = 1) ∨ (f_X8_isCounted a = 0 ∧ f_X9_in a 1 15 = 0) := by
  unfold f_X8_isCounted
  rcases in_cs a 1 15 (by omega) (by omega) with ⟨j, h1, h2, rfl, h4⟩ | ⟨h1, h2⟩
  · refine Or.inl ⟨j, h1, h2, rfl, ?_, h4⟩
    rw [show (1 : Int32) = nI 1 from rfl, show (15 : Int32) = nI 15 from rfl, if_neg (by rw [n_lt (by omega) (by omega)]; omega), if_neg (by rw [n_lt (by omega) (by omega)]; omega)]
  · refine Or.inr ⟨?_, h2⟩
    rcases n_of a with h | ⟨j, hj, rfl⟩
    · rw [if_pos (Int32.lt_trans h (by decide))]
    · rw [show (1 : Int32) = nI 1 from rfl, show (15 : Int32) = nI 15 from rfl]
      by_cases c : j < 1
      · rw [if_pos (by rw [n_lt (by omega) (by omega)]; exact c)]
      · rw [if_neg (by rw [n_lt (by omega) (by omega)]; exact c)]
        by_cases d : 15 < j
        · rw [if_pos (by rw [n_lt (by omega) (by omega)]; exact d)]
        · exact absurd rfl (h1 j (by omega) (by omega))
/-- a call that counts: a long number, the abstract state stays -/
def BothJ (A : AS) (fc fr : Option (Int64 × Mem)) : Prop := ∃ (v : Int64) (σ' ρ' : Mem), fc = some (v, σ') ∧ fr = some (v, ρ') ∧ RepC A σ' ∧ RepR A ρ' ∧ Ca (rlA A) σ'
theorem Ca.tallied {rl : List Ru} {on on' N : Nat} {xs : Nat → PX} {z : Nat → Nat} {W : Nat → List Nat} {F : Nat → Bool} {σ τ : Mem} (h : Ca rl σ) (ho : on < 65536) (ho' : on' < 65536) (hL : LnOk rl on on' σ) (hI : LrI σ rl on on' N xs z W F) (fr : FrT σ τ) (hT : τ = σ ∨ TaF τ (stX rl on on') N xs) : Ca rl τ := by
  rcases hT with rfl | hT
  · exact h
  · have hL' := hL.fr (τ := τ) (fun o _ _ h => fr.1 o h)
    have hI' := hI.fr (τ := τ) (fun o _ _ h => fr.1 o h)
    exact ⟨⟨hL'.base, Or.inr ⟨on, on', ho, ho', hI'.1.2.1.1, hI'.1.2.1.2.1, hL'⟩⟩, Tal.mk hI' ho ho' hT⟩
theorem sum_VN {st : Nat → PX → PX → PX} {N k : Nat} {xs : Nat → PX} (hx : LsX st N xs) (hc : ClX st N xs) (w : PX → Nat) : sumN (fun p => cnV st k (xs p) * w (xs p)) N = ((VN st k).map w).sum := by
  rw [sum_list hx.1 w _ (fun x h => ?_)]
  · rfl
  · obtain ⟨u, u1, _⟩ := VN_ind k x h
    exact hc.all ⟨u, u1⟩
theorem many_RC {A : AS} {σ ρ : Mem} (h : RepC A σ) (g : RepR A ρ) (hA : WfA A) (hC : Ca (rlA A) σ) (a : Int32) : BothJ A (f_X8_many a σ) (f_X9_many a ρ) := by
  have hgd := hA.2.2.2.2.2.1
  have ho := hA.2.2.2.2.1
  rcases counted_RC a with ⟨k, k1, k2, rfl, q1, q2⟩ | ⟨q1, q2⟩
  · obtain ⟨kk, σ', ρ', c1, c2, r1, c3, r2, r3, ln, c5, c6, c7, n, xs, z, W, F, m, ys, l1, l2, l3, fp⟩ := own_both h g hA hC.1
    have hC' := hC.learnt ho (by omega) ln c5 c6 c7
    obtain ⟨⟨v, σ''⟩, e1, e2, e3, e4⟩ := manyLoop_C (k := k) l1 l2 l3 (hC'.2.use l1 ho (by omega)) c3.2.2.2.1.2 hgd (by omega)
    obtain ⟨⟨w, ρ''⟩, d1, d2, d3⟩ := manyOf_R (k := k) (a2 := 0) (w2 := fun _ => 1) fp (by omega) k1 r2.2.2.1.2.1 hgd (Or.inl ⟨rfl, fun _ => rfl⟩)
    simp only at e2 e3 e4 d2 d3
    have ev : v = w := by
      rw [e2, d2]
      congr 1
      rw [sum_VN l1.1.2.2.2.1 l3.cl (fun x => gW (gdA A) x.1)]
      have := sum_VN (k := k) fp.1.2.2.2 fp.cl (fun x => gW (gdA A) x.1)
      rw [sumN_ext (g := fun p => cnV (stX (rlA A) (onA A) (onA A)) k (ys p) * gW (gdA A) (ys p).1) (fun p _ => by rw [Nat.mul_one]), this]
      have f : ∀ L : List PX, L.map (fun x => gW (gdA A) x.1) = (L.map Prod.fst).map (gW (gdA A)) := fun L => by rw [List.map_map]; rfl
      rw [f, f, VN_fst]
    refine ⟨v, σ'', ρ'', ?_, ?_, c3.ft e4, r2.fj d3, hC'.tallied ho (by omega) ln l1 e4 e3⟩
    · unfold f_X8_many
      rw [q1, if_neg (by decide), c1, Option.bind_some, e1, Option.bind_some]
    · unfold f_X9_many
      rw [q2, if_neg (by decide), r1, Option.bind_some, d1, Option.bind_some, ev]
  · refine ⟨-1, σ, ρ, ?_, ?_, h, g, hC⟩
    · unfold f_X8_many
      rw [q1, if_pos rfl]
    · unfold f_X9_many
      rw [q2, if_pos rfl]
theorem both_RC {A : AS} {σ ρ : Mem} (h : RepC A σ) (g : RepR A ρ) (hA : WfA A) (hC : Ca (rlA A) σ) (a b : Int32) : BothJ A (f_X8_both a b σ) (f_X9_both a b ρ) := by
  have hgd := hA.2.2.2.2.2.1
  have ho := hA.2.2.2.2.1
  rcases counted_RC b with ⟨k, k1, k2, rfl, q1, q2⟩ | ⟨q1, q2⟩
  · rcases isImage_C a with ⟨i, hi, rfl, h1⟩ | ⟨hn, h1⟩
    · cases hx : imA A i with
      | none =>
        refine ⟨-2, σ, ρ, ?_, ?_, h, g, hC⟩
        · unfold f_X8_both
          rw [q1, if_neg (by decide), refusal_none h hi hx, Option.bind_some]
          unfold j_X8_both_16
          rw [if_neg (by decide)]
          rfl
        · unfold f_X9_both
          rw [q2, refuses_none g hi hx, Option.bind_some, lt_eq]
          exact if_neg (show ¬ (-2 : Int32) = 0 by decide)
      | some y =>
        obtain ⟨o, gg, t⟩ := y
        obtain ⟨w1, w2, w3⟩ := hA.2.2.2.2.2.2.2 i o gg t hx
        obtain ⟨i1, i2, i3⟩ := refusal_yes h hi hx
        obtain ⟨kk, rv, σ', ρ', c1, c2, r1, c3, r2, r3, ln, c5, c6, c7, cs⟩ := two_RC h g hA hC.1 hi hx
        have hC' := hC.learnt ho w1 ln c5 c6 c7
        have cls : ∀ v τ, (if σ'.1 9 18 = 0 then ((Lim (T := (Int64 × Mem)) (fun s => b_X8_both_57 (nI i) (nI k) s.1 s.2.1 s.2.2) ((0 : Int64), (0 : Int32), σ')).bind (fun r9 => some (r9.1, r9.2))) else (some ((-3 : Int64), σ'))) = some (v, τ) → f_X8_both (nI i) (nI k) σ = some (v, τ) := by
          intro v τ hv
          unfold f_X8_both
          rw [q1, if_neg (by decide), i1, Option.bind_some]
          unfold j_X8_both_16
          rw [if_pos rfl, gd_ix hi (by omega), n_cl (by omega), i2, c1, Option.bind_some]
          exact hv
        have ref : ∀ v τ, (if rv = 0 then ((f_X9_manyOf (nI k) (1 : Int32) ρ').bind (fun r3 => some (r3.1, r3.2))) else (some (rv.toInt64, ρ'))) = some (v, τ) → f_X9_both (nI i) (nI k) ρ = some (v, τ) := by
          intro v τ hv
          unfold f_X9_both
          rw [q2, r1, Option.bind_some]
          exact hv
        rcases cs with ⟨rfl, f0, n, xs, z, W, F, m, ys, l1, l2, l3, fp⟩ | ⟨rfl, f1⟩
        · obtain ⟨⟨v, σ''⟩, e1, e2, e3, e4⟩ := bothLoop_C (k := k) (im := i) l1 l2 l3 (hC'.2.use l1 ho w1) c3.2.2.2.1.2 hgd hi (refusal_yes c3 hi hx).2.2 w2 (by omega)
          obtain ⟨⟨w, ρ''⟩, d1, d2, d3⟩ := manyOf_R (k := k) (a2 := 1) (w2 := fun p => gW gg (ys p).2) fp (by omega) k1 r2.2.2.1.2.1 hgd (Or.inr ⟨rfl, gg, w2, r3, fun _ => rfl⟩)
          simp only at e2 e3 e4 d2 d3
          have ev : v = w := by
            rw [e2, d2]
            congr 1
            have s1 := sum_VN (k := k) l1.1.2.2.2.1 l3.cl (fun x => gW (gdA A) x.1 * gW gg x.2)
            have s2 := sum_VN (k := k) fp.1.2.2.2 fp.cl (fun x => gW (gdA A) x.1 * gW gg x.2)
            rw [s1, s2]
          refine ⟨v, σ'', ρ'', cls _ _ ?_, ref _ _ ?_, c3.ft e4, r2.fj d3, hC'.tallied ho w1 ln l1 e4 e3⟩
          · rw [f0, if_pos rfl, e1, Option.bind_some]
          · rw [if_pos rfl, d1, Option.bind_some, ev]
        · refine ⟨-3, σ', ρ', cls _ _ ?_, ref _ _ ?_, c3, r2, hC'⟩
          · rw [f1, if_neg (by decide)]
          · rw [if_neg (by decide)]
            rfl
    · refine ⟨-1, σ, ρ, ?_, ?_, h, g, hC⟩
      · unfold f_X8_both f_X8_refusalOf
        rw [q1, if_neg (by decide), h1, if_pos rfl, Option.bind_some]
        unfold j_X8_both_16
        rw [if_neg (by decide)]
        rfl
      · have e : f_X9_in a 0 1 = 0 := by
          rcases isImage_R a with ⟨k, k1, k2, _⟩ | ⟨_, h1⟩
          · exact absurd k2 (hn k k1)
          · exact h1
        unfold f_X9_both f_X9_refuses
        rw [q2, if_neg (by decide), e, if_pos rfl, Option.bind_some, lt_eq]
        exact if_neg (show ¬ (-1 : Int32) = 0 by decide)
  · refine ⟨-1, σ, ρ, ?_, ?_, h, g, hC⟩
    · unfold f_X8_both
      rw [q1, if_pos rfl]
      unfold j_X8_both_16
      rw [if_neg (by decide)]
      rfl
    · unfold f_X9_both f_X9_refuses
      rw [q2, if_pos rfl, Option.bind_some, lt_eq]
      exact if_neg (show ¬ (-1 : Int32) = 0 by decide)
