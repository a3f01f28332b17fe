/-! the class: a pair added, a candidate offered -/
theorem add_C {σ : Mem} {rl : List Ru} {on on' n : Nat} {xs : Nat → PX} {x : PX} (hP : PCx σ rl on on' n xs) (hrl : ∀ r ∈ rl, OkRu r) (hll : rl.length ≤ 16) (hn : n < 120) (h1 : x.1 < 64) (h2 : x.2 < 64) (new : ∀ p, p < n → xs p ≠ x) (hR : Rch (stX rl on on') x) : Ok (f_X4_add (nI (encX x)) σ) (fun τ => PCx τ rl on on' (n + 1) (fun i => if i < n then xs i else x) ∧ (∀ o, o < 9 ∨ (12 < o ∧ o ≠ 17 ∧ o ≠ 18) → τ.1 o = σ.1 o) ∧ (∀ j, j ≠ 17 → τ.1 9 j = σ.1 9 j) ∧ (∀ p, p ≠ n → τ.1 17 p = σ.1 17 p) ∧ τ.1 17 n = 0 ∧ τ.2 = σ.2) := by
  obtain ⟨hL, ⟨p15, p16, p17⟩, pn, ls, ent, num, ro⟩ := hP
  have he : encX x < 4096 := by unfold encX; omega
  have ne : ∀ p, p < n → encX (xs p) ≠ encX x := fun p hp e => new p hp (encX_inj (ent p hp).1 h1 e)
  unfold f_X4_add
  rw [p17]
  refine Ok.lt (Ok.lt ?_)
  rw [gd_ix he (by omega), n_cl (by omega), sI_same, n_suc, short_n (by omega), vshort_n (by omega)]
  refine Ok.lt ?_
  rw [gd_ix hn (by omega)]
  simp only [n_cl (show n < 2147483648 by omega), show vp_nar .boolean (0 : Int32) = 0 from by decide]
  refine Ok.lt (Ok.gd (n_ix hn (by omega)) (Ok.lt (Ok.gd (n_ix hn (by omega)) (Ok.lt (Ok.gd (n_ix hn (by omega)) (Ok.lt ?_))))))
  generalize hτ : sI (sI (sI (sI (sI (sI σ 9 17 (nI (n + 1))) 18 (encX x) (nI (n + 1))) 10 n (nI (encX x))) 17 n 0) 11 n 0) 12 n 0 = τ
  have t9 : τ.1 9 17 = nI (n + 1) := by rw [← hτ, sI_off (by omega), sI_off (by omega), sI_off (by omega), sI_off (by omega), sI_off (by omega)]; exact sI_same _ _ _ _
  have t9j : ∀ j, j ≠ 17 → τ.1 9 j = σ.1 9 j := fun j hj => by rw [← hτ, sI_off (by omega), sI_off (by omega), sI_off (by omega), sI_off (by omega), sI_off (by omega), sI_slot hj]
  have t18 : τ.1 18 (encX x) = nI (n + 1) := by rw [← hτ, sI_off (by omega), sI_off (by omega), sI_off (by omega), sI_off (by omega)]; exact sI_same _ _ _ _
  have t18b : ∀ b, b ≠ encX x → τ.1 18 b = σ.1 18 b := fun b hb => by rw [← hτ, sI_off (by omega), sI_off (by omega), sI_off (by omega), sI_off (by omega), sI_slot hb, sI_off (by omega)]
  have t10 : τ.1 10 n = nI (encX x) := by rw [← hτ, sI_off (by omega), sI_off (by omega), sI_off (by omega)]; exact sI_same _ _ _ _
  have t17 : τ.1 17 n = 0 := by rw [← hτ, sI_off (by omega), sI_off (by omega)]; exact sI_same _ _ _ _
  have t11 : τ.1 11 n = nI 0 := by rw [← hτ, sI_off (by omega)]; exact sI_same _ _ _ _
  have t12 : τ.1 12 n = nI 0 := by rw [← hτ]; exact sI_same _ _ _ _
  have tp : ∀ o p, o ≠ 9 → o ≠ 18 → p ≠ n → τ.1 o p = σ.1 o p := fun o p o1 o2 hp => by
    rw [← hτ, sI_get, if_neg (fun w => hp w.2), sI_get, if_neg (fun w => hp w.2), sI_get, if_neg (fun w => hp w.2), sI_get, if_neg (fun w => hp w.2), sI_off o2, sI_off o1]
  have to : ∀ o, o < 9 ∨ (12 < o ∧ o ≠ 17 ∧ o ≠ 18) → τ.1 o = σ.1 o := fun o ho => by
    rw [← hτ, sI_o (by omega), sI_o (by omega), sI_o (by omega), sI_o (by omega), sI_o (by omega), sI_o (by omega)]
  have t2 : τ.2 = σ.2 := by rw [← hτ]; rfl
  clear hτ
  have hL' : LawC τ 29 rl := hL.cg (fun o o1 o2 => to o (by omega))
  refine Ok.bind (add56_C hL' hrl hll h1 h2 hn t11 t12) ?_
  rintro υ ⟨u11, u12, uo, up, u2⟩
  refine Ok.some ⟨⟨hL'.cg (fun o o1 o2 => uo o (by omega) (by omega)), ⟨?_, ?_, ?_⟩, by omega, ⟨fun i j hi hj e => ?_, fun i hi => ?_⟩, fun p hp => ?_, fun b hb nb => ?_, fun s hs => ?_⟩, fun o ho => ?_, fun j hj => ?_, fun p hp => ?_, ?_, u2.trans t2⟩
  · rw [uo 9 (by omega) (by omega), t9j 15 (by omega)]; exact p15
  · rw [uo 9 (by omega) (by omega), t9j 16 (by omega)]; exact p16
  · rw [uo 9 (by omega) (by omega)]; exact t9
  · by_cases ci : i < n
    · by_cases cj : j < n
      · simp only [if_pos ci, if_pos cj] at e
        exact ls.1 i j ci cj e
      · simp only [if_pos ci, if_neg cj] at e
        exact absurd e (new i ci)
    · by_cases cj : j < n
      · simp only [if_neg ci, if_pos cj] at e
        exact absurd e.symm (new j cj)
      · omega
  · by_cases ci : i < n
    · simp only [if_pos ci]; exact ls.2 i ci
    · simp only [if_neg ci]; exact hR
  · by_cases ci : p < n
    · simp only [if_pos ci]
      obtain ⟨a1, a2, a3, a4, a5, a6⟩ := ent p ci
      refine ⟨a1, a2, ?_, ?_, ?_, ?_⟩
      · rw [uo 10 (by omega) (by omega), tp 10 p (by omega) (by omega) (by omega)]; exact a3
      · rw [up 11 p (by omega), tp 11 p (by omega) (by omega) (by omega)]; exact a4
      · rw [up 12 p (by omega), tp 12 p (by omega) (by omega) (by omega)]; exact a5
      · rw [uo 18 (by omega) (by omega), t18b _ (ne p ci)]; exact a6
    · have e : p = n := by omega
      subst e
      simp only [if_neg ci]
      refine ⟨h1, h2, ?_, u11, u12, ?_⟩
      · rw [uo 10 (by omega) (by omega)]; exact t10
      · rw [uo 18 (by omega) (by omega)]; exact t18
  · have nx : b ≠ encX x := by
      have := nb n (by omega)
      simp only [if_neg (show ¬ n < n by omega)] at this
      exact this.symm
    rw [uo 18 (by omega) (by omega), t18b b nx]
    refine num b hb (fun p hp => ?_)
    have := nb p (by omega)
    simp only [if_pos hp] at this
    exact this
  · rw [uo 19 (by omega) (by omega), to 19 (by omega)]; exact ro s hs
  · rw [uo o (by omega) (by omega)]; exact to o ho
  · rw [uo 9 (by omega) (by omega)]; exact t9j j hj
  · rw [uo 17 (by omega) (by omega)]; exact tp 17 p (by omega) (by omega) hp
  · rw [uo 17 (by omega) (by omega)]; exact t17
/-- the pairs' lists alone have changed -/
def FrO (σ τ : Mem) : Prop := (∀ o, o < 9 ∨ 18 < o → τ.1 o = σ.1 o) ∧ (∀ j, j ≠ 17 → j ≠ 18 → τ.1 9 j = σ.1 9 j) ∧ τ.2 = σ.2
theorem FrO.rf {σ : Mem} : FrO σ σ := ⟨fun _ _ => rfl, fun _ _ _ => rfl, rfl⟩
theorem FrO.tr {σ τ υ : Mem} (h : FrO σ τ) (g : FrO τ υ) : FrO σ υ := ⟨fun o ho => (g.1 o ho).trans (h.1 o ho), fun j a b => (g.2.1 j a b).trans (h.2.1 j a b), g.2.2.trans h.2.2⟩
/-- records never grow; those of final pairs stay -/
def MonO (n : Nat) (F : Nat → Bool) (z : Nat → Nat) (W : Nat → List Nat) (z' : Nat → Nat) (W' : Nat → List Nat) : Prop := (∀ i, i < n → F i = true → z' i = z i ∧ W' i = W i) ∧ (∀ i, i < n → z' i ≤ z i ∧ (z' i = z i → z i < 32 → lq (W' i) (W i)))
theorem ShA.reach {rl : List Ru} {on on' n s : Nat} {F : Nat → Bool} {xs : Nat → PX} {o1 o2 : Option Nat} (h : ShA n F s o1 o2) (hs : s < 8) (hx : ∀ i, i < n → Rch (stX rl on on') (xs i)) : Rch (stX rl on on') (stX rl on on' s (xO xs o1) (xO xs o2)) := by
  have as : armsN s = 0 → s < 4 := fun e => by
    by_cases c : s < 4
    · exact c
    · by_cases d : s < 6
      · rw [armsN_1 (by omega) d] at e; omega
      · rw [armsN_2 (by omega)] at e; omega
  have as1 : armsN s = 1 → 4 ≤ s ∧ s < 6 := fun e => by
    by_cases c : s < 4
    · rw [armsN_0 c] at e; omega
    · by_cases d : s < 6
      · omega
      · rw [armsN_2 (by omega)] at e; omega
  have as2 : armsN s = 2 → 6 ≤ s := fun e => by
    by_cases c : s < 4
    · rw [armsN_0 c] at e; omega
    · by_cases d : s < 6
      · rw [armsN_1 (by omega) d] at e; omega
      · omega
  rcases h with ⟨a0, rfl, rfl⟩ | ⟨a0, ⟨i, i1, i2, rfl⟩, rfl⟩ | ⟨a0, ⟨i, i1, i2, rfl⟩, ⟨j, j1, j2, rfl⟩⟩
  · exact Rch.leaf (as a0)
  · exact Rch.one (as1 a0).1 (as1 a0).2 (hx i i1)
  · exact Rch.two (as2 a0) hs (hx i i1) (hx j j1)
/-- the word over the arms' least words -/
theorem ShA.word {rl : List Ru} {on on' n s : Nat} {F : Nat → Bool} {xs : Nat → PX} {z : Nat → Nat} {W : Nat → List Nat} {o1 o2 : Option Nat} (h : ShA n F s o1 o2) (hs : s < 8) (hz : 1 + zO z o1 + zO z o2 < 32) (hw : ∀ i, i < n → z i < 32 → (W i).length = z i ∧ TrW (stX rl on on') (W i) (xs i)) : (s :: (wO W o1 ++ wO W o2)).length = 1 + zO z o1 + zO z o2 ∧ TrW (stX rl on on') (s :: (wO W o1 ++ wO W o2)) (stX rl on on' s (xO xs o1) (xO xs o2)) := by
  have as : armsN s = 0 → s < 4 := fun e => by
    by_cases c : s < 4
    · exact c
    · by_cases d : s < 6
      · rw [armsN_1 (by omega) d] at e; omega
      · rw [armsN_2 (by omega)] at e; omega
  have as1 : armsN s = 1 → 4 ≤ s ∧ s < 6 := fun e => by
    by_cases c : s < 4
    · rw [armsN_0 c] at e; omega
    · by_cases d : s < 6
      · omega
      · rw [armsN_2 (by omega)] at e; omega
  have as2 : armsN s = 2 → 6 ≤ s := fun e => by
    by_cases c : s < 4
    · rw [armsN_0 c] at e; omega
    · by_cases d : s < 6
      · rw [armsN_1 (by omega) d] at e; omega
      · omega
  rcases h with ⟨a0, rfl, rfl⟩ | ⟨a0, ⟨i, i1, i2, rfl⟩, rfl⟩ | ⟨a0, ⟨i, i1, i2, rfl⟩, ⟨j, j1, j2, rfl⟩⟩
  · exact ⟨rfl, TrW.leaf (as a0)⟩
  · have zi : 1 + z i + 0 < 32 := hz
    obtain ⟨l1, l2⟩ := hw i i1 (by omega)
    refine ⟨?_, ?_⟩
    · show (s :: (W i ++ [])).length = 1 + z i + 0
      rw [List.append_nil]
      show (W i).length + 1 = _
      omega
    · show TrW _ (s :: (W i ++ [])) _
      rw [List.append_nil]
      exact TrW.one (as1 a0).1 (as1 a0).2 l2
  · have zi : 1 + z i + z j < 32 := hz
    obtain ⟨l1, l2⟩ := hw i i1 (by omega)
    obtain ⟨l3, l4⟩ := hw j j1 (by omega)
    refine ⟨?_, TrW.two (as2 a0) hs l2 l4⟩
    show (W i ++ W j).length + 1 = 1 + z i + z j
    rw [List.length_append]
    omega
theorem ShA.mono {n n' s : Nat} {F : Nat → Bool} {o1 o2 : Option Nat} (h : ShA n F s o1 o2) (hn : n ≤ n') : ShA n' F s o1 o2 := by
  rcases h with h | ⟨a0, ⟨i, i1, i2, i3⟩, h2⟩ | ⟨a0, ⟨i, i1, i2, i3⟩, ⟨j, j1, j2, j3⟩⟩
  · exact Or.inl h
  · exact Or.inr (Or.inl ⟨a0, ⟨i, by omega, i2, i3⟩, h2⟩)
  · exact Or.inr (Or.inr ⟨a0, ⟨i, by omega, i2, i3⟩, ⟨j, by omega, j2, j3⟩⟩)
theorem ShA.lt {n s : Nat} {F : Nat → Bool} {o1 o2 : Option Nat} (h : ShA n F s o1 o2) : (∀ i, o1 = some i → i < n ∧ F i = true) ∧ (∀ i, o2 = some i → i < n ∧ F i = true) := by
  rcases h with ⟨a0, rfl, rfl⟩ | ⟨a0, ⟨i, i1, i2, rfl⟩, rfl⟩ | ⟨a0, ⟨i, i1, i2, rfl⟩, ⟨j, j1, j2, rfl⟩⟩
  · exact ⟨fun i e => (by cases e), fun i e => (by cases e)⟩
  · exact ⟨fun k e => (by cases e; exact ⟨i1, i2⟩), fun k e => (by cases e)⟩
  · exact ⟨fun k e => (by cases e; exact ⟨i1, i2⟩), fun k e => (by cases e; exact ⟨j1, j2⟩)⟩
theorem zO_cg {z z' : Nat → Nat} {o : Option Nat} (h : ∀ i, o = some i → z' i = z i) : zO z' o = zO z o := by
  cases o with
  | none => rfl
  | some i => exact h i rfl
theorem wO_cg {W W' : Nat → List Nat} {o : Option Nat} (h : ∀ i, o = some i → W' i = W i) : wO W' o = wO W o := by
  cases o with
  | none => rfl
  | some i => exact h i rfl
theorem xO_cg {xs xs' : Nat → PX} {o : Option Nat} (h : ∀ i, o = some i → xs' i = xs i) : xO xs' o = xO xs o := by
  cases o with
  | none => rfl
  | some i => exact h i rfl
/-- the record of k is written anew -/
theorem put91_C {a0 : Int32} {σ τ : Mem} {rl : List Ru} {on on' n n' k s C : Nat} {xs xs' : Nat → PX} {z : Nat → Nat} {W : Nat → List Nat} {F : Nat → Bool} {o1 o2 : Option Nat} (h : LrI σ rl on on' n xs z W F) (hP : PCx τ rl on on' n' xs') (hx : ExX n xs n' xs') (hkn : n' = n ∨ (n' = n + 1 ∧ k = n)) (hk : k < n') (hkF : F k = false) (hFn : ∀ i, F i = true → i < n) (hτ : ∀ o p, 13 ≤ o → o ≤ 17 → p < n → τ.1 o p = σ.1 o p) (hk17 : τ.1 17 k = 0) (hs : s < 8) (hsh : ShA n F s o1 o2) (hC : C = min (1 + zO z o1 + zO z o2) 32) (hxk : xs' k = stX rl on on' s (xO xs o1) (xO xs o2)) : Ok (j_X4_offer_91 a0 (nI s) (aI o1) (aI o2) (nI k) (nI C) τ) (fun r => r.1 = nI k ∧ FrO τ r.2 ∧ r.2.1 9 18 = τ.1 9 18 ∧ LrI r.2 rl on on' n' xs' (fun i => if i = k then C else z i) (fun i => if i = k then s :: (wO W o1 ++ wO W o2) else W i) F) := by
  have n120 : n' ≤ 120 := hP.2.2.1
  obtain ⟨al, bl⟩ := hsh.lt
  have nk : ∀ i, F i = true → i ≠ k := fun i e e2 => by rw [e2, hkF] at e; exact absurd e (by decide)
  unfold j_X4_offer_91
  simp only [gd_ix (show k < 120 by omega) (by omega), n_cl (show k < 2147483648 by omega), lt_eq]
  generalize hυ : sI (sI (sI (sI τ 13 k (nI C)) 14 k (nI s)) 15 k (aI o1)) 16 k (aI o2) = υ
  have uo : ∀ o, o < 13 ∨ 16 < o → υ.1 o = τ.1 o := fun o ho => by rw [← hυ, sI_o (by omega), sI_o (by omega), sI_o (by omega), sI_o (by omega)]
  have up : ∀ o p, p ≠ k → υ.1 o p = τ.1 o p := fun o p hp => by rw [← hυ, sI_get, if_neg (fun w => hp w.2), sI_get, if_neg (fun w => hp w.2), sI_get, if_neg (fun w => hp w.2), sI_get, if_neg (fun w => hp w.2)]
  have u13 : υ.1 13 k = nI C := by rw [← hυ, sI_off (by omega), sI_off (by omega), sI_off (by omega)]; exact sI_same _ _ _ _
  have u14 : υ.1 14 k = nI s := by rw [← hυ, sI_off (by omega), sI_off (by omega)]; exact sI_same _ _ _ _
  have u15 : υ.1 15 k = aI o1 := by rw [← hυ, sI_off (by omega)]; exact sI_same _ _ _ _
  have u16 : υ.1 16 k = aI o2 := by rw [← hυ]; exact sI_same _ _ _ _
  have u2 : υ.2 = τ.2 := by rw [← hυ]; rfl
  clear hυ
  have hnn : n ≤ n' := hx.1
  refine Ok.some ⟨rfl, ⟨fun o ho => uo o (by omega), fun j _ _ => by rw [uo 9 (by omega)], u2⟩, by show υ.1 9 18 = _; rw [uo 9 (by omega)], ?_, fun p hp => ?_⟩
  · obtain ⟨hL, ⟨p15, p16, p17⟩, pn, ls, ent, num, ro⟩ := hP
    refine ⟨hL.cg (fun o o1 o2 => uo o (by omega)), ⟨?_, ?_, ?_⟩, pn, ls, ?_, ?_, ?_⟩
    · show υ.1 9 15 = _; rw [uo 9 (by omega)]; exact p15
    · show υ.1 9 16 = _; rw [uo 9 (by omega)]; exact p16
    · show υ.1 9 17 = _; rw [uo 9 (by omega)]; exact p17
    · show ∀ p, p < n' → _ ∧ _ ∧ υ.1 10 p = _ ∧ (∃ v, v < 4294967296 ∧ υ.1 11 p = nI v ∧ _) ∧ (∃ v, v < 4294967296 ∧ υ.1 12 p = nI v ∧ _) ∧ υ.1 18 _ = _
      rw [uo 10 (by omega), uo 11 (by omega), uo 12 (by omega), uo 18 (by omega)]; exact ent
    · show ∀ b, b < 4096 → _ → υ.1 18 b = 0
      rw [uo 18 (by omega)]; exact num
    · show ∀ s, s < 8 → ∃ v, v < 4294967296 ∧ υ.1 19 s = nI v ∧ _
      rw [uo 19 (by omega)]; exact ro
  · show RcI υ _ n' xs' _ _ F p
    by_cases c : p = k
    · subst c
      have zz1 : zO (fun i => if i = p then C else z i) o1 = zO z o1 := zO_cg (fun i e => if_neg (nk i (al i e).2))
      have zz2 : zO (fun i => if i = p then C else z i) o2 = zO z o2 := zO_cg (fun i e => if_neg (nk i (bl i e).2))
      have ww1 : wO (fun i => if i = p then s :: (wO W o1 ++ wO W o2) else W i) o1 = wO W o1 := wO_cg (fun i e => if_neg (nk i (al i e).2))
      have ww2 : wO (fun i => if i = p then s :: (wO W o1 ++ wO W o2) else W i) o2 = wO W o2 := wO_cg (fun i e => if_neg (nk i (bl i e).2))
      have xx1 : xO xs' o1 = xO xs o1 := xO_cg (fun i e => hx.2 i (al i e).1)
      have xx2 : xO xs' o2 = xO xs o2 := xO_cg (fun i e => hx.2 i (bl i e).1)
      refine ⟨s, o1, o2, hs, ?_, u14, u15, u16, ?_, hsh.mono hnn, ?_, ?_, ?_, fun hz => ?_⟩
      · simp only [if_pos rfl]; exact u13
      · rw [uo 17 (by omega), hk17, hkF, if_neg (by decide)]
      · simp only [if_pos rfl]; rw [zz1, zz2]; exact hC
      · show 1 ≤ (if p = p then C else z p)
        rw [if_pos rfl, hC]; omega
      · rw [xx1, xx2]; exact hxk
      · have hz : (if p = p then C else z p) < 32 := hz
        rw [if_pos rfl] at hz
        have ew : (fun i => if i = p then s :: (wO W o1 ++ wO W o2) else W i) p = s :: (wO W o1 ++ wO W o2) := if_pos rfl
        have ez : (fun i => if i = p then C else z i) p = C := if_pos rfl
        rw [ww1, ww2, hxk, ew, ez]
        obtain ⟨l1, l2⟩ := hsh.word (rl := rl) (on := on) (on' := on') (xs := xs) (z := z) (W := W) hs (by omega) (fun i hi zi => by
          obtain ⟨_, _, _, _, _, _, _, _, _, _, _, _, _, q⟩ := h.2 i hi
          exact (q zi).2)
        exact ⟨rfl, by omega, l2⟩
    · have hpn : p < n := by omega
      obtain ⟨s', p1, p2, a1, a2, a3, a4, a5, a6, a7, a8, a9, a10, a11⟩ := h.2 p hpn
      obtain ⟨cl, dl⟩ := a7.lt
      have zz1 : zO (fun i => if i = k then C else z i) p1 = zO z p1 := zO_cg (fun i e => if_neg (nk i (cl i e).2))
      have zz2 : zO (fun i => if i = k then C else z i) p2 = zO z p2 := zO_cg (fun i e => if_neg (nk i (dl i e).2))
      have ww1 : wO (fun i => if i = k then s :: (wO W o1 ++ wO W o2) else W i) p1 = wO W p1 := wO_cg (fun i e => if_neg (nk i (cl i e).2))
      have ww2 : wO (fun i => if i = k then s :: (wO W o1 ++ wO W o2) else W i) p2 = wO W p2 := wO_cg (fun i e => if_neg (nk i (dl i e).2))
      have xx1 : xO xs' p1 = xO xs p1 := xO_cg (fun i e => hx.2 i (cl i e).1)
      have xx2 : xO xs' p2 = xO xs p2 := xO_cg (fun i e => hx.2 i (dl i e).1)
      refine ⟨s', p1, p2, a1, ?_, ?_, ?_, ?_, ?_, a7.mono hnn, ?_, ?_, ?_, fun hz => ?_⟩
      · simp only [if_neg c]; rw [up 13 p c, hτ 13 p (by omega) (by omega) hpn]; exact a2
      · rw [up 14 p c, hτ 14 p (by omega) (by omega) hpn]; exact a3
      · rw [up 15 p c, hτ 15 p (by omega) (by omega) hpn]; exact a4
      · rw [up 16 p c, hτ 16 p (by omega) (by omega) hpn]; exact a5
      · rw [up 17 p c, hτ 17 p (by omega) (by omega) hpn]; exact a6
      · simp only [if_neg c]; rw [zz1, zz2]; exact a8
      · simp only [if_neg c]; exact a9
      · rw [hx.2 p hpn, xx1, xx2]; exact a10
      · simp only [if_neg c] at hz ⊢
        rw [ww1, ww2, hx.2 p hpn]
        exact a11 hz
