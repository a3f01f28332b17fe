/-! the class: a candidate offered -/
theorem num_find {σ : Mem} {rl : List Ru} {on on' n : Nat} {xs : Nat → PX} (h : PCx σ rl on on' n xs) {x : PX} (h1 : x.1 < 64) (h2 : x.2 < 64) : (∃ k, k < n ∧ xs k = x ∧ σ.1 18 (encX x) = nI (k + 1)) ∨ ((∀ p, p < n → xs p ≠ x) ∧ σ.1 18 (encX x) = 0) := by
  classical
  obtain ⟨hL, _, pn, ls, ent, num, ro⟩ := h
  by_cases c : ∃ k, k < n ∧ xs k = x
  · obtain ⟨k, k1, k2⟩ := c
    refine Or.inl ⟨k, k1, k2, ?_⟩
    rw [← k2]; exact (ent k k1).2.2.2.2.2
  · refine Or.inr ⟨fun p hp e => c ⟨p, hp, e⟩, ?_⟩
    refine num _ (by unfold encX; omega) (fun p hp e => c ⟨p, hp, encX_inj (ent p hp).1 h1 e⟩)
theorem offer_C {σ : Mem} {rl : List Ru} {on on' n s v : Nat} {xs : Nat → PX} {z : Nat → Nat} {W : Nat → List Nat} {F : Nat → Bool} {o1 o2 : Option Nat} (h : LrI σ rl on on' n xs z W F) (hrl : ∀ r ∈ rl, OkRu r) (hll : rl.length ≤ 16) (hFn : ∀ i, F i = true → i < n) (hF : ∀ i, i < n → F i = true → Lst (stX rl on on') (xs i) (z i) (W i)) (hs : s < 8) (hsh : ShA n F s o1 o2) (hv : v < 4294967296) (hf : FitV rl on on' s (xO xs o1) (xO xs o2) v) : Ok (f_X4_offer (nI v) (nI s) (aI o1) (aI o2) σ) (fun r => FrO σ r.2 ∧ ((r.1 = nI 0 ∧ r.2.1 9 18 = 1 ∧ Many (stX rl on on') ∧ n = 120 ∧ LrI r.2 rl on on' n xs z W F) ∨ (r.2.1 9 18 = σ.1 9 18 ∧ ∃ n' xs' z' W' k, ExX n xs n' xs' ∧ k < n' ∧ r.1 = nI k ∧ xs' k = stX rl on on' s (xO xs o1) (xO xs o2) ∧ LrI r.2 rl on on' n' xs' z' W' F ∧ MonO n F z W z' W' ∧ z' k ≤ min (1 + zO z o1 + zO z o2) 32 ∧ (z' k = 1 + zO z o1 + zO z o2 → 1 + zO z o1 + zO z o2 < 32 → lq (W' k) (s :: (wO W o1 ++ wO W o2)))))) := by
  have n120 : n ≤ 120 := h.1.2.2.1
  obtain ⟨al, bl⟩ := hsh.lt
  have hR := hsh.reach (rl := rl) (on := on) (on' := on') hs h.1.2.2.2.1.2
  have x1 : (stX rl on on' s (xO xs o1) (xO xs o2)).1 < 64 := outc_lt hrl _ _ _ _
  have x2 : (stX rl on on' s (xO xs o1) (xO xs o2)).2 < 64 := outc_lt hrl _ _ _ _
  have he : encX (stX rl on on' s (xO xs o1) (xO xs o2)) < 4096 := by unfold encX; omega
  unfold f_X4_offer
  rw [results_C h.1.1 hrl hll hv hf, Option.bind_some, gd_ix he (by omega), n_cl (by omega), sizeOver_C h (fun i e => (al i e).1) (fun i e => (bl i e).1)]
  generalize hX : stX rl on on' s (xO xs o1) (xO xs o2) = X at *
  generalize hC : min (1 + zO z o1 + zO z o2) 32 = C
  refine Ok.lt ?_
  rw [Option.bind_some]
  have same : ∀ k, k < n → xs k = X → (z k < C ∨ (z k = C ∧ (C < 32 → lq (W k) (s :: (wO W o1 ++ wO W o2))))) → Ok (some (nI k, σ)) (fun r => FrO σ r.2 ∧ ((r.1 = nI 0 ∧ r.2.1 9 18 = 1 ∧ Many (stX rl on on') ∧ n = 120 ∧ LrI r.2 rl on on' n xs z W F) ∨ (r.2.1 9 18 = σ.1 9 18 ∧ ∃ n' xs' z' W' k, ExX n xs n' xs' ∧ k < n' ∧ r.1 = nI k ∧ xs' k = X ∧ LrI r.2 rl on on' n' xs' z' W' F ∧ MonO n F z W z' W' ∧ z' k ≤ C ∧ (z' k = 1 + zO z o1 + zO z o2 → 1 + zO z o1 + zO z o2 < 32 → lq (W' k) (s :: (wO W o1 ++ wO W o2)))))) := by
    intro k k1 k2 k3
    refine Ok.some ⟨FrO.rf, Or.inr ⟨rfl, n, xs, z, W, k, ⟨Nat.le_refl _, fun _ _ => rfl⟩, k1, rfl, k2, h, ⟨fun _ _ _ => ⟨rfl, rfl⟩, fun _ _ => ⟨Nat.le_refl _, fun _ _ => Or.inl rfl⟩⟩, by omega, fun e1 e2 => ?_⟩⟩
    rcases k3 with k3 | k3
    · omega
    · exact k3.2 (by omega)
  rcases num_find h.1 (x := X) x1 x2 with ⟨k, k1, k2, k3⟩ | ⟨k1, k2⟩
  · rw [k3, show nI (k + 1) - 1 = nI k by rw [show (1 : Int32) = nI 1 from rfl, n_sub (by omega)]; rfl, if_pos (by rw [n_nn (by omega)]; trivial), gd_ix (by omega) (by omega), n_cl (by omega)]
    obtain ⟨t, q1, q2, t8, u13, u14, u15, u16, u17, ush, uzz, uz1, uxx, uwr⟩ := h.2 k k1
    by_cases cF : F k = true
    · rw [u17, cF, if_pos rfl, if_neg (by decide)]
      -- a final pair: its record stays, and is the least of all
      refine Ok.some ⟨FrO.rf, Or.inr ⟨rfl, n, xs, z, W, k, ⟨Nat.le_refl _, fun _ _ => rfl⟩, k1, rfl, k2, h, ⟨fun _ _ _ => ⟨rfl, rfl⟩, fun _ _ => ⟨Nat.le_refl _, fun _ _ => Or.inl rfl⟩⟩, ?_, ?_⟩⟩
      · by_cases c32 : 1 + zO z o1 + zO z o2 < 32
        · obtain ⟨l1, l2⟩ := hsh.word (rl := rl) (on := on) (on' := on') (xs := xs) (z := z) (W := W) hs c32 (fun i hi zi => by
            obtain ⟨_, _, _, _, _, _, _, _, _, _, _, _, _, q⟩ := h.2 i hi
            exact (q zi).2)
          have := (hF k k1 cF _ (by rw [k2, ← hX]; exact l2)).1
          omega
        · omega
      · intro e1 e2
        obtain ⟨l1, l2⟩ := hsh.word (rl := rl) (on := on) (on' := on') (xs := xs) (z := z) (W := W) hs e2 (fun i hi zi => by
          obtain ⟨_, _, _, _, _, _, _, _, _, _, _, _, _, q⟩ := h.2 i hi
          exact (q zi).2)
        exact (hF k k1 cF _ (by rw [k2, ← hX]; exact l2)).2 (by omega) (by omega)
    · have cF' : F k = false := by simpa using cF
      have u170 : σ.1 17 k = 0 := by rw [u17, cF']; rfl
      rw [u170, if_pos rfl]
      rcases isLess_C h (k := k) k1 hs hsh hC.symm with ⟨e1, e2⟩ | ⟨e1, e2⟩
      · rw [e1, Option.bind_some, if_neg (by decide)]
        refine (put91_C h h.1 ⟨Nat.le_refl _, fun _ _ => rfl⟩ (Or.inl rfl) k1 cF' hFn (fun _ _ _ _ _ => rfl) (by rw [u17, cF']; rfl) hs hsh hC.symm (by rw [k2, hX])).mono ?_
        rintro ⟨r, τ⟩ ⟨g1, g2, g3, g4⟩
        simp only at g1 g2 g3 g4
        refine ⟨g2, Or.inr ⟨g3, n, xs, _, _, k, ⟨Nat.le_refl _, fun _ _ => rfl⟩, k1, g1, k2, g4, ⟨fun i i1 i2 => ?_, fun i i1 => ?_⟩, ?_, fun _ _ => ?_⟩⟩
        · have : i ≠ k := fun e => by rw [e] at i2; exact cF i2
          exact ⟨if_neg this, if_neg this⟩
        · by_cases c : i = k
          · subst c
            simp only [if_true]
            refine ⟨by omega, fun e3 e4 => ?_⟩
            rcases e2 with e2 | e2
            · omega
            · exact Or.inr e2.2.2
          · simp only [if_neg c]
            exact ⟨Nat.le_refl _, fun _ _ => Or.inl rfl⟩
        · simp only [if_true]; exact Nat.le_refl _
        · simp only [if_true]; exact Or.inl rfl
      · rw [e1, Option.bind_some, if_pos rfl]
        exact same k k1 k2 e2
  · rw [k2, if_neg (by decide), h.1.2.1.2.2]
    by_cases c : n < 120
    · rw [if_pos (by rw [show (120 : Int32) = nI 120 from rfl, n_lt (by omega) (by omega)]; exact c)]
      refine Ok.lt (Ok.bind (add_C h.1 hrl hll c x1 x2 k1 hR) ?_)
      rintro τ ⟨a1, a2, a3, a4, a5, a6⟩
      have fn : F n = false := by
        cases e : F n with
        | false => rfl
        | true => exact absurd (hFn n e) (by omega)
      have ex : ExX n xs (n + 1) (fun i => if i < n then xs i else X) := ⟨by omega, fun i hi => if_pos hi⟩
      refine (put91_C h a1 ex (Or.inr ⟨rfl, rfl⟩) (by omega) fn hFn (fun o p o1 o2 hp => ?_) a5 hs hsh hC.symm ?_).mono ?_
      · by_cases w : o = 17
        · rw [w]; exact a4 p (by omega)
        · rw [a2 o (by omega)]
      · show (if n < n then xs n else X) = _
        rw [if_neg (by omega), hX]
      · rintro ⟨r, υ⟩ ⟨g1, g2, g3, g4⟩
        simp only at g1 g2 g3 g4
        have fr : FrO σ τ := ⟨fun o ho => a2 o (by omega), fun j j1 _ => a3 j j1, a6⟩
        refine ⟨fr.tr g2, Or.inr ⟨by rw [g3]; exact a3 18 (by omega), n + 1, _, _, _, n, ex, by omega, g1, ?_, g4, ⟨fun i i1 i2 => ?_, fun i i1 => ?_⟩, ?_, fun _ _ => ?_⟩⟩
        · show (if n < n then xs n else X) = _
          rw [if_neg (by omega)]
        · have : i ≠ n := by omega
          exact ⟨if_neg this, if_neg this⟩
        · have : i ≠ n := by omega
          simp only [if_neg this]
          exact ⟨Nat.le_refl _, fun _ _ => Or.inl rfl⟩
        · simp only [if_true]; exact Nat.le_refl _
        · simp only [if_true]; exact Or.inl rfl
    · rw [if_neg (by rw [show (120 : Int32) = nI 120 from rfl, n_lt (by omega) (by omega)]; exact c)]
      have e : n = 120 := by omega
      refine Ok.lt (Ok.some ⟨⟨fun o ho => sI_o (by omega), fun j _ j2 => sI_slot j2, rfl⟩, Or.inl ⟨rfl, sI_same _ _ _ _, ?_, e, ?_⟩⟩)
      · subst e
        refine ⟨fun i => if i < 120 then xs i else X, fun i j hi hj e => ?_, fun i hi => ?_⟩
        · by_cases ci : i < 120
          · by_cases cj : j < 120
            · simp only [if_pos ci, if_pos cj] at e
              exact h.1.2.2.2.1.1 i j ci cj e
            · simp only [if_pos ci, if_neg cj] at e
              exact absurd e (k1 i ci)
          · by_cases cj : j < 120
            · simp only [if_neg ci, if_pos cj] at e
              exact absurd e.symm (k1 j cj)
            · omega
        · by_cases ci : i < 120
          · simp only [if_pos ci]; exact h.1.2.2.2.1.2 i ci
          · simp only [if_neg ci]; exact hR
      · obtain ⟨⟨hL, ⟨p15, p16, p17⟩, pn, ls, ent, num, ro⟩, rc⟩ := h
        refine ⟨⟨hL.cg (fun o o1 o2 => sI_o (by omega)), ⟨?_, ?_, ?_⟩, pn, ls, ?_, ?_, ?_⟩, fun p hp => ?_⟩
        · show (sI σ 9 18 1).1 9 15 = _; rw [sI_slot (by omega)]; exact p15
        · show (sI σ 9 18 1).1 9 16 = _; rw [sI_slot (by omega)]; exact p16
        · show (sI σ 9 18 1).1 9 17 = _; rw [sI_slot (by omega)]; exact p17
        · show ∀ p, p < n → _ ∧ _ ∧ (sI σ 9 18 1).1 10 p = _ ∧ (∃ v, v < 4294967296 ∧ (sI σ 9 18 1).1 11 p = nI v ∧ _) ∧ (∃ v, v < 4294967296 ∧ (sI σ 9 18 1).1 12 p = nI v ∧ _) ∧ (sI σ 9 18 1).1 18 _ = _
          rw [sI_o (by omega), sI_o (by omega), sI_o (by omega), sI_o (by omega)]; exact ent
        · show ∀ b, b < 4096 → _ → (sI σ 9 18 1).1 18 b = 0
          rw [sI_o (by omega)]; exact num
        · show ∀ s, s < 8 → ∃ v, v < 4294967296 ∧ (sI σ 9 18 1).1 19 s = nI v ∧ _
          rw [sI_o (by omega)]; exact ro
        · obtain ⟨s', p1, p2, b1, b2, b3, b4, b5, b6, b7⟩ := rc p hp
          refine ⟨s', p1, p2, b1, ?_, ?_, ?_, ?_, ?_, b7⟩
          · show (sI σ 9 18 1).1 13 p = _; rw [sI_off (by omega)]; exact b2
          · show (sI σ 9 18 1).1 14 p = _; rw [sI_off (by omega)]; exact b3
          · show (sI σ 9 18 1).1 15 p = _; rw [sI_off (by omega)]; exact b4
          · show (sI σ 9 18 1).1 16 p = _; rw [sI_off (by omega)]; exact b5
          · show (sI σ 9 18 1).1 17 p = _; rw [sI_off (by omega)]; exact b6
