/-! least, apart -/
theorem told_R {ρ : Mem} {N p : Nat} {V : Nat → List Nat} (hN : N ≤ 120) (h : WrR ρ N V) (hp : p < N) (a : Int32) : f_X9_toldOf (nI p) a ρ = some (tolW (V p) a) := by
  obtain ⟨v1, v2, v3, v4⟩ := h p hp
  unfold f_X9_toldOf tolW
  have e9 : ¬ nI p = -9 := fun e => by
    have : (nI p < 0) = True := by rw [e]; exact m9_neg
    rw [n_neg (by omega)] at this
    exact absurd this (by simp)
  rw [if_neg e9, gd_ix (by omega) (by omega), gd_ix (by omega) (by omega), n_cl (by omega), v1]
  by_cases c : 0 ≤ a
  · rw [if_pos c, if_pos c]
    rcases n_of a with h0 | ⟨j, hj, rfl⟩
    · rw [Int32.le_iff_toInt_le] at c
      rw [Int32.lt_iff_toInt_lt] at h0
      omega
    · by_cases d : (V p).length ≤ j
      · rw [if_pos (by rw [n_le (by omega) (by omega)]; exact d), if_pos (by rw [n_le (by omega) (by omega)]; exact d)]
      · rw [if_neg (by rw [n_le (by omega) (by omega)]; exact d), if_neg (by rw [n_le (by omega) (by omega)]; exact d), i31, gd_ix (by omega) (by omega), n_cl (by omega), n_cl (by omega), v4 j (by omega)]
  · rw [if_neg c, if_neg c]
theorem leastOf_R {ρ0 : Mem} {st : Nat → PX → PX → PX} {N : Nat} {xs : Nat → PX} (hP : FPok ρ0 st N xs) {P : PX → Prop} {a1 : Int32} (hw : ∀ τ, FrW ρ0 τ → ∀ k, k < N → (f_X9_isWanted (nI k) a1 τ = some 0 ∧ ¬ P (xs k)) ∨ (f_X9_isWanted (nI k) a1 τ = some 1 ∧ P (xs k))) (a : Int32) : Ok ((f_X9_leastOf a1 ρ0).bind (fun r => (f_X9_toldOf r.1 a r.2).bind (fun r3 => some (r3, r.2)))) (fun r => TolW st P a r.1 ∧ FrW ρ0 r.2) := by
  have hN := hP.1.2.1
  refine Ok.bind (P := fun r => FrW ρ0 r.2 ∧ ∃ V, WrR r.2 N V ∧ ((r.1 = -9 ∧ NonW st P) ∨ (∃ p, p < N ∧ r.1 = nI p ∧ LeaW st P (V p)))) ?_ ?_
  · unfold f_X9_leastOf
    refine Ok.bind (findWords_R hP) ?_
    rintro τ ⟨f, V, hV, hS⟩
    have hS1 : ∀ k, k < N → V k ≠ [] → TrW st (V k) (xs k) ∧ (V k).length < 32 ∧ ∀ u, TrW st u (xs k) → leW (V k) u := fun k hk h => by
      rcases hS k hk with ⟨a, _⟩ | ⟨a, b, c⟩
      · exact absurd a h
      · exact ⟨b, a, c⟩
    have hS0 : ∀ k, k < N → V k = [] → ∀ u, TrW st u (xs k) → 32 ≤ u.length := fun k hk h => by
      rcases hS k hk with ⟨_, b⟩ | ⟨a, b, c⟩
      · exact b
      · exact absurd h (len1.mp b.pos)
    refine Ok.bind (P := fun v => (v = -9 ∧ ∀ i, i < N → P (xs i) → V i = []) ∨ (∃ p, p < N ∧ v = nI p ∧ V p ≠ [] ∧ P (xs p) ∧ ∀ i, i < N → P (xs i) → V i ≠ [] → leW (V p) (V i))) ?_ ?_
    · refine Ok.for N (fun k s => ∃ b, s = (b, nI k) ∧ ((b = -9 ∧ ∀ i, i < k → P (xs i) → V i = []) ∨ (∃ p, p < N ∧ b = nI p ∧ V p ≠ [] ∧ P (xs p) ∧ ∀ i, i < k → P (xs i) → V i ≠ [] → leW (V p) (V i)))) ?_ ?_ 0 (by omega) _ ⟨-9, rfl, Or.inl ⟨rfl, fun i hi => by omega⟩⟩
      · rintro k _ hk ⟨b, rfl, hb⟩
        show Ok (b_X9_leastOf_9 a1 b (nI k) τ) _
        have skip : (P (xs k) → V k ≠ [] → ∃ p, p < N ∧ b = nI p ∧ leW (V p) (V k)) → Ok (j_X9_leastOf_52 a1 b (nI k) τ) (SumP (fun s => ∃ b, s = (b, nI (k + 1)) ∧ ((b = -9 ∧ ∀ i, i < k + 1 → P (xs i) → V i = []) ∨ (∃ p, p < N ∧ b = nI p ∧ V p ≠ [] ∧ P (xs p) ∧ ∀ i, i < k + 1 → P (xs i) → V i ≠ [] → leW (V p) (V i)))) (fun v => (v = -9 ∧ ∀ i, i < N → P (xs i) → V i = []) ∨ (∃ p, p < N ∧ v = nI p ∧ V p ≠ [] ∧ P (xs p) ∧ ∀ i, i < N → P (xs i) → V i ≠ [] → leW (V p) (V i)))) := by
          intro hs
          unfold j_X9_leastOf_52
          refine Ok.lt (Ok.some ⟨b, by rw [n_suc], ?_⟩)
          rcases hb with ⟨rfl, hb⟩ | ⟨p, p1, rfl, p3, p4, p5⟩
          · refine Or.inl ⟨rfl, fun i hi ha => ?_⟩
            by_cases e : i = k
            · subst e
              by_cases d : V i = []
              · exact d
              · obtain ⟨p, p1, p2, _⟩ := hs ha d
                have : (nI p < 0) = True := by rw [← p2]; exact m9_neg
                rw [n_neg (by omega)] at this
                exact absurd this (by simp)
            · exact hb i (by omega) ha
          · refine Or.inr ⟨p, p1, rfl, p3, p4, fun i hi ha hz => ?_⟩
            by_cases e : i = k
            · subst e
              obtain ⟨q, q1, q2, q3⟩ := hs ha hz
              rw [n_eq (by omega) (by omega)] at q2
              rw [q2]; exact q3
            · exact p5 i (by omega) ha hz
        have take : V k ≠ [] → P (xs k) → (∀ p, p < N → b = nI p → leW (V k) (V p)) → Ok (j_X9_leastOf_50 a1 (nI k) τ) (SumP (fun s => ∃ b, s = (b, nI (k + 1)) ∧ ((b = -9 ∧ ∀ i, i < k + 1 → P (xs i) → V i = []) ∨ (∃ p, p < N ∧ b = nI p ∧ V p ≠ [] ∧ P (xs p) ∧ ∀ i, i < k + 1 → P (xs i) → V i ≠ [] → leW (V p) (V i)))) (fun v => (v = -9 ∧ ∀ i, i < N → P (xs i) → V i = []) ∨ (∃ p, p < N ∧ v = nI p ∧ V p ≠ [] ∧ P (xs p) ∧ ∀ i, i < N → P (xs i) → V i ≠ [] → leW (V p) (V i)))) := by
          intro hz ha hs
          unfold j_X9_leastOf_50 j_X9_leastOf_52
          refine Ok.lt (Ok.some ⟨nI k, by rw [n_suc], Or.inr ⟨k, hk, rfl, hz, ha, fun i hi ia iz => ?_⟩⟩)
          by_cases e : i = k
          · rw [e]; exact leW_rf _
          · rcases hb with ⟨rfl, hb⟩ | ⟨p, p1, rfl, p3, p4, p5⟩
            · exact absurd (hb i (by omega) ia) iz
            · exact leW_tr (hs p p1 rfl) (p5 i (by omega) ia iz)
        obtain ⟨k1, k2, _⟩ := hV k hk
        unfold b_X9_leastOf_9
        rw [(hP.fw f).1.1, if_neg (by rw [n_le (by omega) (by omega)]; omega), gd_ix (by omega) (by omega), n_cl (by omega), k1]
        by_cases c : V k = []
        · rw [c, if_pos (by decide)]
          exact skip (fun _ h => absurd c h)
        · have := len1.mpr c
          rw [if_neg (by rw [n_le0 (by omega)]; omega)]
          rcases hw τ f k hk with ⟨w1, w2⟩ | ⟨w1, w2⟩
          · rw [w1, Option.bind_some, if_pos rfl]
            exact skip (fun h => absurd h w2)
          · rw [w1, Option.bind_some, if_neg (by decide)]
            rcases hb with ⟨rfl, hb'⟩ | ⟨p, p1, rfl, p3, p4, p5⟩
            · rw [if_pos rfl]
              refine take c w2 (fun p hp e => ?_)
              have : (nI p < 0) = True := by rw [← e]; exact m9_neg
              rw [n_neg (by omega)] at this
              exact absurd this (by simp)
            · rw [if_neg (fun e => by
                have : (nI p < 0) = True := by rw [e]; exact m9_neg
                rw [n_neg (by omega)] at this
                exact absurd this (by simp))]
              rcases isLess_R hN hV hk p1 with ⟨o, q⟩ | ⟨o, q⟩
              · rw [o, Option.bind_some, if_neg (by decide)]
                refine take c w2 (fun q' hq e' => ?_)
                rw [n_eq (by omega) (by omega)] at e'
                subst e'
                exact q
              · rw [o, Option.bind_some, if_pos rfl]
                exact skip (fun _ _ => ⟨p, p1, rfl, q⟩)
      · rintro _ ⟨b, rfl, hb⟩
        show Ok (b_X9_leastOf_9 a1 b (nI N) τ) _
        unfold b_X9_leastOf_9
        rw [(hP.fw f).1.1, if_pos (by rw [n_le (by omega) (by omega)]; omega)]
        exact Ok.some hb
    · rintro v hv
      refine Ok.some ⟨f, V, hV, ?_⟩
      rcases hv with ⟨rfl, hb⟩ | ⟨p, p1, p2, p3, p4, p5⟩
      · refine Or.inl ⟨rfl, fun u x hu hx => ?_⟩
        obtain ⟨i, i1, rfl⟩ := hP.cl.all ⟨u, hu⟩
        exact hS0 i i1 (hb i i1 hx) u hu
      · obtain ⟨t1, t2, t3⟩ := hS1 p p1 p3
        refine Or.inr ⟨p, p1, p2, ⟨xs p, t1, p4⟩, t2, fun u x hu hx => ?_⟩
        obtain ⟨i, i1, rfl⟩ := hP.cl.all ⟨u, hu⟩
        by_cases c : V i = []
        · have := hS0 i i1 c u hu
          exact Or.inl (by omega)
        · exact leW_tr (p5 i i1 hx c) ((hS1 i i1 c).2.2 u hu)
  · rintro ⟨v, τ⟩ ⟨f, V, hV, hv⟩
    simp only at f hV hv ⊢
    rcases hv with ⟨rfl, hn⟩ | ⟨p, p1, rfl, p2⟩
    · unfold f_X9_toldOf
      rw [if_pos rfl, Option.bind_some]
      exact Ok.some ⟨Or.inr ⟨hn, rfl⟩, f⟩
    · rw [told_R hN hV p1, Option.bind_some]
      exact Ok.some ⟨Or.inl ⟨V p, p2, rfl⟩, f⟩
theorem RepR.fw {A : AS} {ρ τ : Mem} (h : RepR A ρ) (f : FrW ρ τ) : RepR A τ := h.scr (by rw [f.1 0 (by omega) (by omega) (by omega)]) (fun o o1 o2 => f.1 o (by omega) (by omega) (by omega)) (by rw [f.2])
theorem gB_none (x : Nat) : gB 0 x = 0 := by
  unfold gB
  rw [if_pos (Nat.and_zero x)]
theorem wanted0 {ρ : Mem} {st : Nat → PX → PX → PX} {n k g : Nat} {xs : Nat → PX} (h : PRx ρ st n xs) (hk : k < n) (hg : ρ.1 7 1 = nI g) (hg2 : g < 64) : (f_X9_isWanted (nI k) 0 ρ = some 0 ∧ ¬ gB g (xs k).1 ≠ 0) ∨ (f_X9_isWanted (nI k) 0 ρ = some 1 ∧ gB g (xs k).1 ≠ 0) := by
  unfold f_X9_isWanted
  rw [if_pos rfl, goodA_R h hk hg hg2, Option.bind_some]
  rcases gB01 g (xs k).1 with e | e
  · rw [e]
    exact Or.inl ⟨by rw [gd_yes (by decide)], fun z => z rfl⟩
  · rw [e]
    exact Or.inr ⟨by rw [gd_yes (by decide)], by decide⟩
theorem wanted1 {ρ : Mem} {st : Nat → PX → PX → PX} {n k g g' : Nat} {xs : Nat → PX} (h : PRx ρ st n xs) (hk : k < n) (hg : ρ.1 7 1 = nI g) (hg2 : g < 64) (hb : ρ.1 0 29 = nI g') (hb2 : g' < 64) : (f_X9_isWanted (nI k) 1 ρ = some 0 ∧ ¬ gB g (xs k).1 ≠ gB g' (xs k).2) ∨ (f_X9_isWanted (nI k) 1 ρ = some 1 ∧ gB g (xs k).1 ≠ gB g' (xs k).2) := by
  unfold f_X9_isWanted
  rw [if_neg (by decide), goodA_R h hk hg hg2, Option.bind_some, goodB_R h hk hb hb2, Option.bind_some]
  by_cases c : gB g (xs k).1 = gB g' (xs k).2
  · rw [if_pos c]
    exact Or.inl ⟨rfl, fun z => z c⟩
  · rw [if_neg c]
    exact Or.inr ⟨rfl, c⟩
theorem least_RC {A : AS} {σ ρ : Mem} (h : RepC A σ) (g : RepR A ρ) (hA : WfA A) (hC : CaI σ (rlA A)) (a : Int32) : BothP A σ (f_X8_least a σ) (f_X9_least a ρ) := by
  have hgd := hA.2.2.2.2.2.1
  have ho := hA.2.2.2.2.1
  by_cases c : -1 ≤ a
  · obtain ⟨kk, σ', ρ', c1, c2, r1, c3, r2, r3, ln, c5, c6, c7, n, xs, z, W, F, m, ys, l1, l2, l3, fp⟩ := own_both h g hA hC
    obtain ⟨v, e1, e2⟩ := told_C l1 l2 l3.cl hgd (show 0 < 64 by omega) a
    obtain ⟨⟨w, ρ''⟩, d1, d2, d3⟩ := leastOf_R fp (P := fun x => gB (gdA A) x.1 ≠ 0) (a1 := 0) (fun τ f k hk => wanted0 (fp.fw f).1 hk (by rw [f.1 7 (by omega) (by omega) (by omega)]; exact r2.2.2.1.2.1) hgd) a
    simp only at d2 d3
    have e3 : TolW (stX (rlA A) (onA A) (onA A)) (fun x => gB (gdA A) x.1 ≠ 0) a v := e2.map (fun w x hx px => ⟨(x.1, x.1), (own_CR hx).2, fun z => px (by rw [gB_none]; exact z)⟩) (fun w y hy py => ⟨(y.1, 0), (own_RC hy).2, fun z => py (by rw [gB_none] at z; exact z)⟩)
    have ev := e3.uni d2
    subst ev
    refine ⟨v, σ', ρ'', ?_, ?_, c3, r2.fw d3, Or.inr ⟨0, by omega, ln, c5, c6, c7⟩⟩
    · unfold f_X8_least
      rw [if_pos c, c1, Option.bind_some]
      show (f_X4_leastApart (σ'.1 0 9) (0 : Int32) σ').bind (fun r2 => (f_X4_tellTree r2 a σ').bind (fun r3 => some (r3, σ'))) = _
      rw [c3.2.2.2.1.2, ← Option.bind_assoc]
      have e1 : (f_X4_leastApart (nI (gdA A)) 0 σ').bind (fun r2 => f_X4_tellTree r2 a σ') = some v := e1
      rw [e1, Option.bind_some]
    · unfold f_X9_least
      rw [if_pos c, r1, Option.bind_some]
      exact d1
  · refine ⟨-1, σ, ρ, ?_, ?_, h, g, Or.inl rfl⟩
    · unfold f_X8_least
      rw [if_neg c]
    · unfold f_X9_least
      rw [if_neg c]
theorem apart_RC {A : AS} {σ ρ : Mem} (h : RepC A σ) (g : RepR A ρ) (hA : WfA A) (hC : CaI σ (rlA A)) (a b : Int32) : BothP A σ (f_X8_apart a b σ) (f_X9_apart a b ρ) := by
  have hgd := hA.2.2.2.2.2.1
  have ho := hA.2.2.2.2.1
  have flip : (-1 ≤ b) ↔ ¬ b < -1 := by
    rw [Int32.le_iff_toInt_le, Int32.lt_iff_toInt_lt]
    omega
  by_cases c : -1 ≤ b
  · rcases isImage_C a with ⟨k, hk, rfl, h1⟩ | ⟨hn, h1⟩
    · cases hx : imA A k with
      | none =>
        refine ⟨-2, σ, ρ, ?_, ?_, h, g, Or.inl rfl⟩
        · unfold f_X8_apart
          rw [if_pos c, refusal_none h hk hx, Option.bind_some]
          unfold j_X8_apart_14
          rw [if_neg (by decide)]
        · unfold f_X9_apart j_X9_apart_12
          rw [if_neg (flip.mp c), refuses_none g hk hx, Option.bind_some, lt_eq]
          exact if_neg (show ¬ (-2 : Int32) = 0 by decide)
      | some y =>
        obtain ⟨o, gg, t⟩ := y
        obtain ⟨w1, w2, w3⟩ := hA.2.2.2.2.2.2.2 k o gg t hx
        obtain ⟨i1, i2, i3⟩ := refusal_yes h hk hx
        obtain ⟨kk, rv, σ', ρ', c1, c2, r1, c3, r2, r3, ln, c5, c6, c7, cs⟩ := two_RC h g hA hC hk hx
        have i3' := (refusal_yes c3 hk hx).2.2
        have cls : ∀ v, (if σ'.1 9 18 = 0 then ((f_X4_leastApart (nI (gdA A)) (nI gg) σ').bind (fun r5 => (f_X4_tellTree r5 b σ').bind (fun r6 => some (r6, σ')))) else (some ((-3 : Int32), σ'))) = some (v, σ') → f_X8_apart (nI k) b σ = some (v, σ') := by
          intro v hv
          unfold f_X8_apart
          rw [if_pos c, i1, Option.bind_some]
          unfold j_X8_apart_14
          rw [if_pos rfl]
          simp only [gd_ix hk (show 2 < 2147483648 by omega), n_cl (show k < 2147483648 by omega)]
          rw [i2, c1, Option.bind_some]
          show (if σ'.1 9 18 = 0 then ((f_X4_leastApart (σ'.1 0 9) (σ'.1 (54 + 6 * k) 2) σ').bind (fun r5 => (f_X4_tellTree r5 b σ').bind (fun r6 => some (r6, σ')))) else (some ((-3 : Int32), σ'))) = _
          rw [i3', c3.2.2.2.1.2]
          exact hv
        have ref : ∀ v τ, (if rv = 0 then ((f_X9_leastOf (1 : Int32) ρ').bind (fun r3 => (f_X9_toldOf r3.1 b r3.2).bind (fun r4 => some (r4, r3.2)))) else (some (rv, ρ'))) = some (v, τ) → f_X9_apart (nI k) b ρ = some (v, τ) := by
          intro v τ hv
          unfold f_X9_apart j_X9_apart_12
          rw [if_neg (flip.mp c), r1, Option.bind_some]
          exact hv
        have post : σ' = σ ∨ ∃ on', on' < 65536 ∧ LnOk (rlA A) (onA A) on' σ' ∧ σ'.1 9 15 = nI (onA A) ∧ σ'.1 9 16 = nI on' ∧ Lrn σ σ' := Or.inr ⟨o, w1, ln, c5, c6, c7⟩
        rcases cs with ⟨rfl, f0, n, xs, z, W, F, m, ys, l1, l2, l3, fp⟩ | ⟨rfl, f1⟩
        · obtain ⟨v, e1, e2⟩ := told_C l1 l2 l3.cl hgd w2 b
          obtain ⟨⟨w, ρ''⟩, d1, d2, d3⟩ := leastOf_R fp (P := fun x => gB (gdA A) x.1 ≠ gB gg x.2) (a1 := 1) (fun τ f k hk => wanted1 (fp.fw f).1 hk (by rw [f.1 7 (by omega) (by omega) (by omega)]; exact r2.2.2.1.2.1) hgd (by rw [f.1 0 (by omega) (by omega) (by omega)]; exact r3) w2) b
          simp only at d2 d3
          have ev := e2.uni d2
          subst ev
          refine ⟨v, σ', ρ'', cls v ?_, ref v ρ'' ?_, c3, r2.fw d3, post⟩
          · rw [f0, if_pos rfl, ← Option.bind_assoc, e1, Option.bind_some]
          · rw [if_pos rfl]
            exact d1
        · refine ⟨-3, σ', ρ', cls _ ?_, ref _ _ ?_, c3, r2, post⟩
          · rw [f1, if_neg (by decide)]
          · rw [if_neg (by decide)]
    · refine ⟨-1, σ, ρ, ?_, ?_, h, g, Or.inl rfl⟩
      · unfold f_X8_apart f_X8_refusalOf
        rw [if_pos c, h1, if_pos rfl, Option.bind_some]
        unfold j_X8_apart_14
        rw [if_neg (by decide)]
      · have e : f_X9_in a 0 1 = 0 := by
          rcases isImage_R a with ⟨k, k1, k2, _⟩ | ⟨_, h1⟩
          · exact absurd k2 (hn k k1)
          · exact h1
        unfold f_X9_apart j_X9_apart_12 f_X9_refuses
        rw [if_neg (flip.mp c), if_neg (by decide), e, if_pos rfl, Option.bind_some, lt_eq]
        exact if_neg (show ¬ (-1 : Int32) = 0 by decide)
  · have c' : b < -1 := by
      by_cases z : b < -1
      · exact z
      · exact absurd (flip.mpr z) c
    refine ⟨-1, σ, ρ, ?_, ?_, h, g, Or.inl rfl⟩
    · unfold f_X8_apart j_X8_apart_14
      rw [if_neg c, if_neg (by decide)]
    · unfold f_X9_apart j_X9_apart_12 f_X9_refuses
      rw [if_pos c', if_pos rfl, Option.bind_some, lt_eq]
      exact if_neg (show ¬ (-1 : Int32) = 0 by decide)
