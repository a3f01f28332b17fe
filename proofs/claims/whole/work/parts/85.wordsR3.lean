/-! least, apart: all the reference's words -/
theorem n_le0 {a : Nat} (h : a < 2147483648) : (nI a ≤ 0) = (a = 0) := by
  rw [show (0 : Int32) = nI 0 from rfl, n_le h (by omega)]
  simp
theorem offerTwo_R {ρ0 ρ : Mem} {st : Nat → PX → PX → PX} {N n i : Nat} {xs : Nat → PX} {V0 V : Nat → List Nat} (hP : FPok ρ0 st N xs) (hS : SgW st N xs n V0) (h : StW ρ0 st N xs n V0 ρ V) (hi : i < N) (hn1 : 1 ≤ n) (hn2 : n ≤ 31) : Ok (f_X9_offerTwo (nI n) (nI i) ρ) (fun τ => ∃ V', StW ρ0 st N xs n V0 τ V' ∧ MoW N V V' ∧ ∀ j s, j < N → s < 2 → Cn2 st N xs n V0 V' i j s) := by
  have hN := hP.1.2.1
  unfold f_X9_offerTwo
  refine Ok.bind (P := fun τ => ∃ V', StW ρ0 st N xs n V0 τ V' ∧ MoW N V V' ∧ ∀ j s, j < N → s < 2 → Cn2 st N xs n V0 V' i j s) ?_ (fun τ h => Ok.some h)
  refine Ok.for N (fun k s => ∃ τ V', s = (nI k, τ) ∧ StW ρ0 st N xs n V0 τ V' ∧ MoW N V V' ∧ ∀ j s, j < k → s < 2 → Cn2 st N xs n V0 V' i j s) ?_ ?_ 0 (by omega) _ ⟨ρ, V, rfl, h, MoW.rf, fun j s hj => by omega⟩
  · rintro k _ hk ⟨τ, V', rfl, h1, h2, h3⟩
    show Ok (b_X9_offerTwo_2 (nI n) (nI i) (nI k) τ) _
    have skip : (n = 1 + (V0 i).length + (V0 k).length → V0 i ≠ [] → V0 k ≠ [] → False) → Ok (j_X9_offerTwo_115 (nI n) (nI i) (nI k) τ) (SumP (fun s => ∃ τ V', s = (nI (k + 1), τ) ∧ StW ρ0 st N xs n V0 τ V' ∧ MoW N V V' ∧ ∀ j s, j < k + 1 → s < 2 → Cn2 st N xs n V0 V' i j s) (fun τ => ∃ V', StW ρ0 st N xs n V0 τ V' ∧ MoW N V V' ∧ ∀ j s, j < N → s < 2 → Cn2 st N xs n V0 V' i j s)) := by
      intro hs
      unfold j_X9_offerTwo_115
      refine Ok.lt (Ok.some ⟨τ, V', by rw [n_suc], h1, h2, fun j s hj hs' => ?_⟩)
      by_cases c : j = k
      · subst c
        exact fun a b d => absurd (hs a b d) id
      · exact h3 j s (by omega) hs'
    obtain ⟨i1, i2, _⟩ := h1.2.1 i hi
    obtain ⟨k1, k2, _⟩ := h1.2.1 k hk
    unfold b_X9_offerTwo_2
    rw [(hP.fw h1.1).1.1, if_neg (by rw [n_le (by omega) (by omega)]; omega)]
    simp only [gd_ix (show i < 120 by omega) (show 120 < 2147483648 by omega), gd_ix (show k < 120 by omega) (show 120 < 2147483648 by omega), n_cl (show i < 2147483648 by omega), n_cl (show k < 2147483648 by omega), i1, k1]
    by_cases c : (V' i).length = 0
    · rw [if_pos (by rw [n_le0 (by omega)]; exact c)]
      refine skip (fun _ a _ => ?_)
      rw [h1.2.2.same hi a] at c
      have := len1.mpr a
      omega
    · rw [if_neg (by rw [n_le0 (by omega)]; exact c)]
      by_cases d : (V' k).length = 0
      · rw [if_pos (by rw [n_le0 (by omega)]; exact d)]
        refine skip (fun _ _ a => ?_)
        rw [h1.2.2.same hk a] at d
        have := len1.mpr a
        omega
      · rw [if_neg (by rw [n_le0 (by omega)]; exact d), n_add, show (1 : Int32) = nI 1 from rfl, n_sub hn1]
        by_cases e : (V' i).length + (V' k).length = n - 1
        · rw [if_pos (by rw [e])]
          have a0 : V' i = V0 i := by
            rcases h1.2.2 i hi with a | ⟨_, a, _⟩
            · exact a
            · omega
          have b0 : V' k = V0 k := by
            rcases h1.2.2 k hk with a | ⟨_, a, _⟩
            · exact a
            · omega
          rw [a0] at c e
          rw [b0] at d e
          refine Ok.bind (twos_R hP hS h1 hi hk (len1.mp (by omega)) (len1.mp (by omega)) (by omega) hn2) ?_
          rintro ⟨r1, r2⟩ ⟨rfl, V3, q1, q2, q3⟩
          show Ok (j_X9_offerTwo_115 (nI n) (nI i) (nI k) r2) _
          unfold j_X9_offerTwo_115
          refine Ok.lt (Ok.some ⟨r2, V3, by rw [n_suc], q1, h2.tr q2, fun j s hj hs' => ?_⟩)
          by_cases w : j = k
          · subst w
            exact q3 s hs'
          · exact (h3 j s (by omega) hs').mo q2
        · rw [if_neg (by rw [n_eq (by omega) (by omega)]; exact e)]
          refine skip (fun a b d => ?_)
          rw [h1.2.2.same hi b, h1.2.2.same hk d] at e
          omega
  · rintro _ ⟨τ, V', rfl, h1, h2, h3⟩
    show Ok (b_X9_offerTwo_2 (nI n) (nI i) (nI N) τ) _
    unfold b_X9_offerTwo_2
    rw [(hP.fw h1.1).1.1, if_pos (by rw [n_le (by omega) (by omega)]; omega)]
    exact Ok.some ⟨V', h1, h2, h3⟩
/-- all trees of n signs -/
theorem size_R {ρ0 ρ : Mem} {st : Nat → PX → PX → PX} {N n : Nat} {xs : Nat → PX} {V0 : Nat → List Nat} (hP : FPok ρ0 st N xs) (hS : SgW st N xs n V0) (f0 : FrW ρ0 ρ) (hW : WrR ρ N V0) (hn1 : 2 ≤ n) (hn2 : n ≤ 31) : Ok (Lim (T := (Int32 × Mem)) (fun s => b_X9_findWords_64 s.1 s.2.1 s.2.2) (nI n, (0 : Int32), ρ)) (fun r => r.1 = nI n ∧ FrW ρ0 r.2 ∧ ∃ V', WrR r.2 N V' ∧ SgW st N xs (n + 1) V') := by
  have hN := hP.1.2.1
  refine Ok.for N (fun k s => ∃ τ V', s = (nI n, nI k, τ) ∧ StW ρ0 st N xs n V0 τ V' ∧ (∀ i s, i < k → s < 2 → Cn1 st N xs n V0 V' i s) ∧ ∀ i j s, i < k → j < N → s < 2 → Cn2 st N xs n V0 V' i j s) ?_ ?_ 0 (by omega) _ ⟨ρ, V0, rfl, ⟨f0, hW, fun k _ => Or.inl rfl⟩, fun i s hi => by omega, fun i j s hi => by omega⟩
  · rintro k _ hk ⟨τ, V, rfl, h1, h2, h3⟩
    show Ok (b_X9_findWords_64 (nI n) (nI k) τ) _
    obtain ⟨k1, k2, _⟩ := h1.2.1 k hk
    have rest : ∀ τ2 V2, StW ρ0 st N xs n V0 τ2 V2 → MoW N V V2 → (∀ s, s < 2 → Cn1 st N xs n V0 V2 k s) → Ok (j_X9_findWords_128 (nI n) (nI k) τ2) (SumP (fun s => ∃ τ V', s = (nI n, nI (k + 1), τ) ∧ StW ρ0 st N xs n V0 τ V' ∧ (∀ i s, i < k + 1 → s < 2 → Cn1 st N xs n V0 V' i s) ∧ ∀ i j s, i < k + 1 → j < N → s < 2 → Cn2 st N xs n V0 V' i j s) (fun r => r.1 = nI n ∧ FrW ρ0 r.2 ∧ ∃ V', WrR r.2 N V' ∧ SgW st N xs (n + 1) V')) := by
      intro τ2 V2 a1 a2 a3
      unfold j_X9_findWords_128
      refine Ok.bind (offerTwo_R hP hS a1 hk (by omega) hn2) ?_
      rintro τ3 ⟨V3, b1, b2, b3⟩
      refine Ok.lt (Ok.some ⟨τ3, V3, by rw [n_suc], b1, fun i s hi hs => ?_, fun i j s hi hj hs => ?_⟩)
      · by_cases c : i = k
        · subst c
          exact (a3 s hs).mo b2
        · exact (h2 i s (by omega) hs).mo (a2.tr b2)
      · by_cases c : i = k
        · subst c
          exact b3 j s hj hs
        · exact (h3 i j s (by omega) hj hs).mo (a2.tr b2)
    unfold b_X9_findWords_64
    rw [(hP.fw h1.1).1.1, if_neg (by rw [n_le (by omega) (by omega)]; omega), gd_ix (by omega) (by omega), n_cl (by omega), k1, show (1 : Int32) = nI 1 from rfl, n_sub (by omega)]
    by_cases c : (V k).length = n - 1
    · rw [if_pos (by rw [c])]
      have v0 : V k = V0 k := by
        rcases h1.2.2 k hk with a | ⟨_, a, _⟩
        · exact a
        · omega
      rw [v0] at c
      refine Ok.bind (ones_R hP hS h1 hk (len1.mp (by omega)) (by omega) hn2) ?_
      rintro ⟨r1, r2, r3⟩ ⟨rfl, rfl, V3, q1, q2, q3⟩
      exact rest r3 V3 q1 q2 q3
    · rw [if_neg (by rw [n_eq (by omega) (by omega)]; exact c)]
      refine rest τ V h1 MoW.rf (fun s _ a b => ?_)
      rw [h1.2.2.same hk b] at c
      omega
  · rintro _ ⟨τ, V, rfl, h1, h2, h3⟩
    show Ok (b_X9_findWords_64 (nI n) (nI N) τ) _
    unfold b_X9_findWords_64
    rw [(hP.fw h1.1).1.1, if_pos (by rw [n_le (by omega) (by omega)]; omega)]
    exact Ok.some ⟨rfl, h1.1, V, h1.2.1, SgW.step hP.1.2.2.2.1 hP.cl (by omega) hS h1.2.2 (fun e => by omega) h2 h3⟩
theorem findWords_R {ρ0 : Mem} {st : Nat → PX → PX → PX} {N : Nat} {xs : Nat → PX} (hP : FPok ρ0 st N xs) : Ok (f_X9_findWords ρ0) (fun τ => FrW ρ0 τ ∧ ∃ V, WrR τ N V ∧ SgW st N xs 32 V) := by
  have hN := hP.1.2.1
  unfold f_X9_findWords
  refine Ok.bind (P := fun τ => FrW ρ0 τ ∧ WrR τ N (fun _ => [])) ?_ ?_
  · refine Ok.for N (fun k s => ∃ τ : Mem, s = (nI k, τ) ∧ FrW ρ0 τ ∧ ∀ i, i < k → τ.1 22 i = nI 0) ?_ ?_ 0 (by omega) _ ⟨ρ0, rfl, FrW.rf, fun i hi => by omega⟩
    · rintro k _ hk ⟨τ, rfl, h1, h2⟩
      show Ok (b_X9_findWords_2 (nI k) τ) _
      unfold b_X9_findWords_2
      rw [(hP.fw h1).1.1, if_neg (by rw [n_le (by omega) (by omega)]; omega), gd_ix (by omega) (by omega), n_cl (by omega)]
      refine Ok.lt (Ok.lt (Ok.some ⟨_, by rw [n_suc], h1.put (Or.inl rfl), fun i hi => ?_⟩))
      by_cases c : i = k
      · subst c; rw [sI_same]; rfl
      · rw [sI_slot c]; exact h2 i (by omega)
    · rintro _ ⟨τ, rfl, h1, h2⟩
      show Ok (b_X9_findWords_2 (nI N) τ) _
      unfold b_X9_findWords_2
      rw [(hP.fw h1).1.1, if_pos (by rw [n_le (by omega) (by omega)]; omega)]
      exact Ok.some ⟨h1, fun k hk => ⟨h2 k hk, by simp, by simp, fun j hj => absurd hj (by simp)⟩⟩
  · rintro ρ1 ⟨f1, w1⟩
    have S1 : SgW st N xs 1 (fun _ => []) := fun k hk => Or.inl ⟨rfl, fun u hu => hu.pos⟩
    refine Ok.bind (P := fun τ => FrW ρ0 τ ∧ ∃ V, WrR τ N V ∧ SgW st N xs 2 V) ?_ ?_
    · refine Ok.for 4 (fun k s => ∃ τ V, s = (nI k, τ) ∧ StW ρ0 st N xs 1 (fun _ => []) τ V ∧ ∀ s, s < k → Cn0 st N xs V s) ?_ ?_ 0 (by omega) _ ⟨ρ1, fun _ => [], rfl, ⟨f1, w1, fun k _ => Or.inl rfl⟩, fun s hs => by omega⟩
      · rintro k _ hk ⟨τ, V, rfl, h1, h2⟩
        show Ok (b_X9_findWords_25 (nI k) τ) _
        unfold b_X9_findWords_25
        rw [if_neg (by rw [show (4 : Int32) = nI 4 from rfl, n_le (by omega) (by omega)]; omega), show (0 : Int32).toNatClampNeg = 0 from rfl]
        refine Ok.lt ?_
        have h1' := h1.td (τ := sI τ 24 0 (nI k)) sI24 rfl
        obtain ⟨q, q1, q2, q3⟩ := (hP.fw h1'.1).2.1 k hk
        rw [gd_ix hk (by omega), n_cl (by omega), q2]
        have trc : TrW st [k] (xs q) := by rw [q3]; exact TrW.leaf hk
        refine Ok.bind (offerW_R (n := 1) hN S1 h1' TdR.one q1 trc rfl (by omega)) ?_
        rintro τ3 ⟨V3, a1, a2, a3⟩
        refine Ok.lt (Ok.some ⟨τ3, V3, by rw [n_suc], a1, fun s hs => ?_⟩)
        by_cases c : s = k
        · subst c
          exact ⟨q, q1, q3, a3⟩
        · exact (h2 s (by omega)).mo a2
      · rintro _ ⟨τ, V, rfl, h1, h2⟩
        show Ok (b_X9_findWords_25 (nI 4) τ) _
        unfold b_X9_findWords_25
        rw [if_pos (by decide)]
        exact Ok.some ⟨h1.1, V, h1.2.1, SgW.step hP.1.2.2.2.1 hP.cl (by omega) S1 h1.2.2 (fun _ => h2) (fun i s _ _ _ a => absurd rfl a) (fun i j s _ _ _ _ a => absurd rfl a)⟩
    · rintro ρ2 ⟨f2, V2, w2, S2⟩
      refine Ok.bind (P := fun τ => FrW ρ0 τ ∧ ∃ V, WrR τ N V ∧ SgW st N xs 32 V) ?_ (fun τ h => Ok.some h)
      refine Ok.for 32 (fun k s => ∃ τ V, s = (nI k, τ) ∧ 2 ≤ k ∧ FrW ρ0 τ ∧ WrR τ N V ∧ SgW st N xs k V) ?_ ?_ 2 (by omega) _ ⟨ρ2, V2, rfl, by omega, f2, w2, S2⟩
      · rintro k _ hk ⟨τ, V, rfl, k2, h1, h2, h3⟩
        show Ok (b_X9_findWords_56 (nI k) τ) _
        unfold b_X9_findWords_56
        rw [if_neg (by rw [show (31 : Int32) = nI 31 from rfl, n_lt (by omega) (by omega)]; omega)]
        refine Ok.bind (size_R hP h3 h1 h2 k2 (by omega)) ?_
        rintro ⟨r1, r2⟩ ⟨rfl, a1, V3, a2, a3⟩
        exact Ok.lt (Ok.some ⟨r2, V3, by rw [n_suc], by omega, a1, a2, a3⟩)
      · rintro _ ⟨τ, V, rfl, k2, h1, h2, h3⟩
        show Ok (b_X9_findWords_56 (nI 32) τ) _
        unfold b_X9_findWords_56
        rw [if_pos (by decide)]
        exact Ok.some ⟨h1, V, h2, h3⟩
theorem isLess_R {ρ : Mem} {N a b : Nat} {V : Nat → List Nat} (hN : N ≤ 120) (h : WrR ρ N V) (ha : a < N) (hb : b < N) : (f_X9_isLess (nI a) (nI b) ρ = some 1 ∧ leW (V a) (V b)) ∨ (f_X9_isLess (nI a) (nI b) ρ = some 0 ∧ leW (V b) (V a)) := by
  obtain ⟨a1, a2, a3, a4⟩ := h a ha
  obtain ⟨b1, b2, b3, b4⟩ := h b hb
  have key : Ok (f_X9_isLess (nI a) (nI b) ρ) (fun v => (v = 1 ∧ leW (V a) (V b)) ∨ (v = 0 ∧ leW (V b) (V a))) := by
    unfold f_X9_isLess
    rw [gd_ix (by omega) (by omega), gd_ix (by omega) (by omega), gd_ix (by omega) (by omega), gd_ix (by omega) (by omega), n_cl (by omega), n_cl (by omega), a1, b1]
    by_cases c : (V a).length = (V b).length
    · rw [if_pos (by rw [c])]
      refine Ok.bind (P := fun r => (∃ x y, r = Sum.inl (nI x - nI y) ∧ x < 8 ∧ y < 8 ∧ x ≠ y ∧ (x < y → lx (V a) (V b)) ∧ (y < x → lx (V b) (V a))) ∨ (r = .inr () ∧ V a = V b)) ?_ ?_
      · refine Ok.for (V a).length (fun k s => s = nI k ∧ ∀ j, j < k → (V a).getD j 0 = (V b).getD j 0) ?_ ?_ 0 (by omega) _ ⟨rfl, fun j hj => by omega⟩
        · rintro k _ hk ⟨rfl, e⟩
          show Ok (b_X9_isLess_38 (nI a) (nI b) (nI k) ρ) _
          unfold b_X9_isLess_38
          rw [gd_ix (by omega) (by omega), n_cl (by omega), a1, if_neg (by rw [n_le (by omega) (by omega)]; omega), i31, i31, gd_ix (by omega) (by omega), gd_ix (by omega) (by omega), n_cl (by omega), n_cl (by omega), a4 k hk, b4 k (by omega)]
          refine Ok.lt ?_
          obtain ⟨s1, s2, s3⟩ := sub8 (getD_8 a3 k) (getD_8 b3 k)
          by_cases f : (V a).getD k 0 = (V b).getD k 0
          · rw [if_pos (s3.mpr f)]
            refine Ok.lt (Ok.some ⟨n_suc k, fun j hj => ?_⟩)
            by_cases w : j = k
            · subst w; exact f
            · exact e j (by omega)
          · rw [if_neg (fun z => f (s3.mp z))]
            exact Ok.some (Or.inl ⟨_, _, rfl, getD_8 a3 k, getD_8 b3 k, f, fun w => lx_at k _ _ hk (by omega) e w, fun w => lx_at k _ _ (by omega) hk (fun j hj => (e j hj).symm) w⟩)
        · rintro _ ⟨rfl, e⟩
          show Ok (b_X9_isLess_38 (nI a) (nI b) (nI (V a).length) ρ) _
          unfold b_X9_isLess_38
          rw [gd_ix (by omega) (by omega), n_cl (by omega), a1, if_pos (by rw [n_le (by omega) (by omega)]; omega)]
          exact Ok.some (Or.inr ⟨rfl, l_ext _ _ c e⟩)
      · rintro r (⟨x, y, rfl, x1, y1, xy, l1, l2⟩ | ⟨rfl, e⟩)
        · obtain ⟨s1, s2, s3⟩ := sub8 x1 y1
          show Ok (if 0 ≤ nI x - nI y then _ else _) _
          by_cases f : y ≤ x
          · rw [if_pos (s2.mpr f)]
            exact Ok.some (Or.inr ⟨rfl, Or.inr ⟨c.symm, Or.inr (l2 (by omega))⟩⟩)
          · rw [if_neg (fun z => f (s2.mp z))]
            exact Ok.some (Or.inl ⟨rfl, Or.inr ⟨c, Or.inr (l1 (by omega))⟩⟩)
        · exact Ok.some (Or.inr ⟨rfl, by rw [e]; exact leW_rf _⟩)
    · rw [if_neg (by rw [n_eq (by omega) (by omega)]; exact c)]
      by_cases d : (V b).length ≤ (V a).length
      · rw [if_pos (by rw [n_le (by omega) (by omega)]; exact d)]
        exact Ok.some (Or.inr ⟨rfl, Or.inl (by omega)⟩)
      · rw [if_neg (by rw [n_le (by omega) (by omega)]; exact d)]
        exact Ok.some (Or.inl ⟨rfl, Or.inl (by omega)⟩)
  obtain ⟨v, v1, ⟨rfl, v2⟩ | ⟨rfl, v2⟩⟩ := key
  · exact Or.inl ⟨v1, v2⟩
  · exact Or.inr ⟨v1, v2⟩
