/-! least, apart: the order of trees; the class -/
/-- by their size, then by their signs -/
def leW (a b : List Nat) : Prop := a.length < b.length ∨ (a.length = b.length ∧ lq a b)
theorem leW_rf (a : List Nat) : leW a a := Or.inr ⟨rfl, Or.inl rfl⟩
theorem leW_tr {a b c : List Nat} (h : leW a b) (g : leW b c) : leW a c := by
  rcases h with h | ⟨h, h2⟩
  · rcases g with g | ⟨g, g2⟩
    · exact Or.inl (by omega)
    · exact Or.inl (by omega)
  · rcases g with g | ⟨g, g2⟩
    · exact Or.inl (by omega)
    · exact Or.inr ⟨by omega, lq_tr h2 g2⟩
theorem leW_as {a b : List Nat} (h : leW a b) (g : leW b a) : a = b := by
  rcases h with h | ⟨h, h2⟩
  · rcases g with g | ⟨g, g2⟩
    · omega
    · omega
  · rcases g with g | ⟨g, g2⟩
    · omega
    · rcases h2 with h2 | h2
      · exact h2
      · rcases g2 with g2 | g2
        · exact g2.symm
        · exact absurd (lx_asym h2 g2) id
/-- w is the least of the trees with P, and short enough -/
def LeaW (st : Nat → PX → PX → PX) (P : PX → Prop) (w : List Nat) : Prop := (∃ x, TrW st w x ∧ P x) ∧ w.length < 32 ∧ ∀ u x, TrW st u x → P x → leW w u
def NonW (st : Nat → PX → PX → PX) (P : PX → Prop) : Prop := ∀ u x, TrW st u x → P x → 32 ≤ u.length
/-- what is told of a tree -/
noncomputable def tolW (w : List Nat) (a : Int32) : Int32 := if 0 ≤ a then (if nI w.length ≤ a then -5 else nI (w.getD a.toNatClampNeg 0)) else nI w.length
def TolW (st : Nat → PX → PX → PX) (P : PX → Prop) (a v : Int32) : Prop := (∃ w, LeaW st P w ∧ v = tolW w a) ∨ (NonW st P ∧ v = -9)
theorem TolW.uni {st : Nat → PX → PX → PX} {P : PX → Prop} {a v v' : Int32} (h : TolW st P a v) (g : TolW st P a v') : v = v' := by
  rcases h with ⟨w, ⟨⟨x, x1, x2⟩, w1, w2⟩, rfl⟩ | ⟨h, rfl⟩
  · rcases g with ⟨u, ⟨⟨y, y1, y2⟩, u1, u2⟩, rfl⟩ | ⟨g, rfl⟩
    · rw [leW_as (w2 u y y1 y2) (u2 w x x1 x2)]
    · have := g w x x1 x2
      omega
  · rcases g with ⟨u, ⟨⟨y, y1, y2⟩, u1, u2⟩, rfl⟩ | ⟨g, rfl⟩
    · have := h u y y1 y2
      omega
    · rfl
theorem TolW.map {st st' : Nat → PX → PX → PX} {P P' : PX → Prop} {a v : Int32} (f : ∀ w x, TrW st w x → P x → ∃ y, TrW st' w y ∧ P' y) (f' : ∀ w y, TrW st' w y → P' y → ∃ x, TrW st w x ∧ P x) (h : TolW st P a v) : TolW st' P' a v := by
  rcases h with ⟨w, ⟨⟨x, x1, x2⟩, w1, w2⟩, rfl⟩ | ⟨h, rfl⟩
  · refine Or.inl ⟨w, ⟨f w x x1 x2, w1, fun u y y1 y2 => ?_⟩, rfl⟩
    obtain ⟨x', h1, h2⟩ := f' u y y1 y2
    exact w2 u x' h1 h2
  · refine Or.inr ⟨fun u y y1 y2 => ?_, rfl⟩
    obtain ⟨x', h1, h2⟩ := f' u y y1 y2
    exact h u x' h1 h2
theorem m9_neg : ((-9 : Int32) < 0) = True := by decide
theorem leastApart_C {σ : Mem} {rl : List Ru} {on on' n g g' : Nat} {xs : Nat → PX} {z : Nat → Nat} {W : Nat → List Nat} {F : Nat → Bool} (h : LrI σ rl on on' n xs z W F) (hl : ∀ p, p < n → Lst (stX rl on on') (xs p) (z p) (W p)) (hc : ClX (stX rl on on') n xs) (hg : g < 64) (hg' : g' < 64) : Ok (f_X4_leastApart (nI g) (nI g') σ) (fun v => (∃ p, p < n ∧ v = nI p ∧ z p < 32 ∧ LeaW (stX rl on on') (fun x => gB g x.1 ≠ gB g' x.2) (W p)) ∨ (v = -9 ∧ NonW (stX rl on on') (fun x => gB g x.1 ≠ gB g' x.2))) := by
  have n120 : n ≤ 120 := h.1.2.2.1
  have zle : ∀ p, p < n → z p ≤ 32 := fun p hp => by
    obtain ⟨_, _, _, _, _, _, _, _, _, _, zz, _⟩ := h.2 p hp
    omega
  have z13 : ∀ p, p < n → σ.1 13 p = nI (z p) := fun p hp => by
    obtain ⟨_, _, _, _, zz, _⟩ := h.2 p hp
    exact zz
  have wl : ∀ p, p < n → z p < 32 → (W p).length = z p ∧ TrW (stX rl on on') (W p) (xs p) := fun p hp hz => by
    obtain ⟨_, _, _, _, _, _, _, _, _, _, _, _, _, k1⟩ := h.2 p hp
    exact (k1 hz).2
  unfold f_X4_leastApart
  refine Ok.bind (P := fun v => (v = -9 ∧ ∀ i, i < n → gB g (xs i).1 ≠ gB g' (xs i).2 → z i = 32) ∨ (∃ p, p < n ∧ v = nI p ∧ z p < 32 ∧ gB g (xs p).1 ≠ gB g' (xs p).2 ∧ ∀ i, i < n → gB g (xs i).1 ≠ gB g' (xs i).2 → z i < 32 → leW (W p) (W i))) ?_ ?_
  · refine Ok.for n (fun k s => ∃ b, s = (b, nI k) ∧ ((b = -9 ∧ ∀ i, i < k → gB g (xs i).1 ≠ gB g' (xs i).2 → z i = 32) ∨ (∃ p, p < n ∧ p < k ∧ b = nI p ∧ z p < 32 ∧ gB g (xs p).1 ≠ gB g' (xs p).2 ∧ ∀ i, i < k → gB g (xs i).1 ≠ gB g' (xs i).2 → z i < 32 → leW (W p) (W i)))) ?_ ?_ 0 (by omega) _ ⟨-9, rfl, Or.inl ⟨rfl, fun i hi => by omega⟩⟩
    · rintro k _ hk ⟨b, rfl, hb⟩
      show Ok (b_X4_leastApart_6 (nI g) (nI g') b (nI k) σ) _
      have skip : (gB g (xs k).1 ≠ gB g' (xs k).2 → z k < 32 → ∃ p, p < n ∧ p < k ∧ b = nI p ∧ leW (W p) (W k)) → Ok (j_X4_leastApart_87 (nI g) (nI g') b (nI k) σ) (SumP (fun s => ∃ b, s = (b, nI (k + 1)) ∧ ((b = -9 ∧ ∀ i, i < k + 1 → gB g (xs i).1 ≠ gB g' (xs i).2 → z i = 32) ∨ (∃ p, p < n ∧ p < k + 1 ∧ b = nI p ∧ z p < 32 ∧ gB g (xs p).1 ≠ gB g' (xs p).2 ∧ ∀ i, i < k + 1 → gB g (xs i).1 ≠ gB g' (xs i).2 → z i < 32 → leW (W p) (W i)))) (fun v => (v = -9 ∧ ∀ i, i < n → gB g (xs i).1 ≠ gB g' (xs i).2 → z i = 32) ∨ (∃ p, p < n ∧ v = nI p ∧ z p < 32 ∧ gB g (xs p).1 ≠ gB g' (xs p).2 ∧ ∀ i, i < n → gB g (xs i).1 ≠ gB g' (xs i).2 → z i < 32 → leW (W p) (W i)))) := by
        intro hs
        unfold j_X4_leastApart_87
        refine Ok.lt (Ok.some ⟨b, by rw [n_suc], ?_⟩)
        rcases hb with ⟨rfl, hb⟩ | ⟨p, p1, p2, rfl, p3, p4, p5⟩
        · refine Or.inl ⟨rfl, fun i hi ha => ?_⟩
          by_cases e : i = k
          · subst e
            by_cases d : z i < 32
            · obtain ⟨p, p1, _, p2, _⟩ := hs ha d
              have : (nI p < 0) = True := by rw [← p2]; exact m9_neg
              rw [n_neg (by omega)] at this
              exact absurd this (by simp)
            · have := zle i hk
              omega
          · exact hb i (by omega) ha
        · refine Or.inr ⟨p, p1, by omega, rfl, p3, p4, fun i hi ha hz => ?_⟩
          by_cases e : i = k
          · subst e
            obtain ⟨q, q1, _, q2, q3⟩ := hs ha hz
            rw [n_eq (by omega) (by omega)] at q2
            rw [q2]; exact q3
          · exact p5 i (by omega) ha hz
      have take : z k < 32 → gB g (xs k).1 ≠ gB g' (xs k).2 → (∀ p, p < n → b = nI p → leW (W k) (W p)) → Ok (j_X4_leastApart_84 (nI g) (nI g') (nI k) σ) (SumP (fun s => ∃ b, s = (b, nI (k + 1)) ∧ ((b = -9 ∧ ∀ i, i < k + 1 → gB g (xs i).1 ≠ gB g' (xs i).2 → z i = 32) ∨ (∃ p, p < n ∧ p < k + 1 ∧ b = nI p ∧ z p < 32 ∧ gB g (xs p).1 ≠ gB g' (xs p).2 ∧ ∀ i, i < k + 1 → gB g (xs i).1 ≠ gB g' (xs i).2 → z i < 32 → leW (W p) (W i)))) (fun v => (v = -9 ∧ ∀ i, i < n → gB g (xs i).1 ≠ gB g' (xs i).2 → z i = 32) ∨ (∃ p, p < n ∧ v = nI p ∧ z p < 32 ∧ gB g (xs p).1 ≠ gB g' (xs p).2 ∧ ∀ i, i < n → gB g (xs i).1 ≠ gB g' (xs i).2 → z i < 32 → leW (W p) (W i)))) := by
        intro hz ha hs
        unfold j_X4_leastApart_84 j_X4_leastApart_87
        refine Ok.lt (Ok.some ⟨nI k, by rw [n_suc], Or.inr ⟨k, hk, by omega, rfl, hz, ha, fun i hi ia iz => ?_⟩⟩)
        by_cases e : i = k
        · rw [e]; exact leW_rf _
        · rcases hb with ⟨rfl, hb⟩ | ⟨p, p1, p2, rfl, p3, p4, p5⟩
          · have := hb i (by omega) ia
            omega
          · exact leW_tr (hs p p1 rfl) (p5 i (by omega) ia iz)
      unfold b_X4_leastApart_6
      rw [h.1.2.1.2.2, if_neg (by rw [n_le (by omega) (by omega)]; omega), gd_ix (by omega) (by omega)]
      simp only [n_cl (show k < 2147483648 by omega), z13 k hk]
      have zk := zle k hk
      by_cases c : z k = 32
      · rw [c, if_pos (by decide)]
        exact skip (fun _ hz => by omega)
      · rw [if_neg (by rw [show (32 : Int32) = nI 32 from rfl, n_eq (by omega) (by omega)]; exact c), apart_C h.1 hk hg hg', Option.bind_some]
        by_cases d : gB g (xs k).1 = gB g' (xs k).2
        · rw [if_pos d, if_pos rfl]
          exact skip (fun hd _ => absurd d hd)
        · rw [if_neg d, if_neg (by decide)]
          rcases hb with ⟨rfl, hb'⟩ | ⟨p, p1, p2, rfl, p3, p4, p5⟩
          · rw [if_pos (by decide)]
            refine take (by omega) d (fun p hp e => ?_)
            have : (nI p < 0) = True := by rw [← e]; exact m9_neg
            rw [n_neg (by omega)] at this
            exact absurd this (by simp)
          · have lk := wl k hk (by omega)
            have lp := wl p p1 p3
            rw [if_neg (by rw [n_neg (by omega)]; exact id)]
            simp only [gd_ix (show k < 120 by omega) (show 120 < 2147483648 by omega), gd_ix (show p < 120 by omega) (show 120 < 2147483648 by omega), n_cl (show p < 2147483648 by omega), z13 p p1]
            by_cases e : z k < z p
            · rw [if_pos (by rw [n_lt (by omega) (by omega)]; exact e)]
              refine take (by omega) d (fun q hq e' => ?_)
              rw [n_eq (by omega) (by omega)] at e'
              subst e'
              exact Or.inl (by omega)
            · rw [if_neg (by rw [n_lt (by omega) (by omega)]; exact e)]
              by_cases f : z k = z p
              · rw [if_pos (by rw [f])]
                rcases comesBefore_C h hk p1 (by omega) p3 (by omega) with ⟨o, q⟩ | ⟨o, q⟩
                · rw [q, Option.bind_some, if_neg (by decide)]
                  refine take (by omega) d (fun q hq e' => ?_)
                  rw [n_eq (by omega) (by omega)] at e'
                  subst e'
                  exact Or.inr ⟨by omega, Or.inr o⟩
                · rw [q, Option.bind_some, if_pos rfl]
                  exact skip (fun _ _ => ⟨p, p1, p2, rfl, Or.inr ⟨by omega, Or.inr o⟩⟩)
              · rw [if_neg (by rw [n_eq (by omega) (by omega)]; exact f)]
                exact skip (fun _ _ => ⟨p, p1, p2, rfl, Or.inl (by omega)⟩)
    · rintro _ ⟨b, rfl, hb⟩
      show Ok (b_X4_leastApart_6 (nI g) (nI g') b (nI n) σ) _
      unfold b_X4_leastApart_6
      rw [h.1.2.1.2.2, if_pos (by rw [n_le (by omega) (by omega)]; omega)]
      refine Ok.some ?_
      rcases hb with ⟨rfl, hb⟩ | ⟨p, p1, p2, p3, p4, p5, p6⟩
      · exact Or.inl ⟨rfl, hb⟩
      · exact Or.inr ⟨p, p1, p3, p4, p5, p6⟩
  · rintro v hv
    refine Ok.some ?_
    rcases hv with ⟨rfl, hb⟩ | ⟨p, p1, p3, p4, p5, p6⟩
    · refine Or.inr ⟨rfl, fun u x hu hx => ?_⟩
      obtain ⟨i, i1, rfl⟩ := hc.all ⟨u, hu⟩
      have := (hl i i1 u hu).1
      have := hb i i1 hx
      omega
    · have lp := wl p p1 p4
      refine Or.inl ⟨p, p1, p3, p4, ⟨xs p, lp.2, p5⟩, by omega, fun u x hu hx => ?_⟩
      obtain ⟨i, i1, rfl⟩ := hc.all ⟨u, hu⟩
      obtain ⟨l1, l2⟩ := hl i i1 u hu
      by_cases c : z i < 32
      · have li := wl i i1 c
        refine leW_tr (p6 i i1 hx c) ?_
        by_cases d : z i = u.length
        · exact Or.inr ⟨by omega, l2 d c⟩
        · exact Or.inl (by omega)
      · exact Or.inl (by omega)
theorem aI_neg (o : Option Nat) (h : ∀ i, o = some i → i < 2147483648) : (aI o < 0) = (o = none) := by
  cases o with
  | none =>
    show ((-1 : Int32) < 0) = _
    simp
  | some i =>
    show (nI i < 0) = _
    rw [n_neg (h i rfl)]
    simp
theorem getD_cons {s : Nat} {l : List Nat} {j : Nat} (h : j ≠ 0) : (s :: l).getD j 0 = l.getD (j - 1) 0 := by
  cases j with
  | zero => exact absurd rfl h
  | succ j => rfl
theorem getD_left {a b : List Nat} {j : Nat} (h : j < a.length) : (a ++ b).getD j 0 = a.getD j 0 := by
  rw [List.getD_eq_getElem?_getD, List.getD_eq_getElem?_getD, List.getElem?_append_left h]
theorem getD_right {a b : List Nat} {j : Nat} (h : a.length ≤ j) : (a ++ b).getD j 0 = b.getD (j - a.length) 0 := by
  rw [List.getD_eq_getElem?_getD, List.getD_eq_getElem?_getD, List.getElem?_append_right h]
theorem signAt_C {σ : Mem} {rl : List Ru} {on on' n : Nat} {xs : Nat → PX} {z : Nat → Nat} {W : Nat → List Nat} {F : Nat → Bool} (h : LrI σ rl on on' n xs z W F) {p i : Nat} (hp : p < n) (hz : z p < 32) (hi : i < z p) : f_X4_signAt (nI p) (nI i) σ = some (nI ((W p).getD i 0)) := by
  have n120 : n ≤ 120 := h.1.2.2.1
  refine Ok.eq ?_
  unfold f_X4_signAt
  refine Ok.bind (P := fun r => ∃ q, q < n ∧ r = nI q ∧ σ.1 14 q = nI ((W p).getD i 0)) ?_ ?_
  · refine Ok.for 31 (fun k s => ∃ q j, s = (nI q, nI j, nI k) ∧ q < n ∧ z q < 32 ∧ j < z q ∧ k + z q ≤ 31 ∧ (W q).getD j 0 = (W p).getD i 0) ?_ ?_ 0 (by omega) _ ⟨p, i, rfl, hp, hz, hi, by omega, rfl⟩
    · rintro k _ hk ⟨q, j, rfl, q1, q2, q3, q4, q5⟩
      show Ok (b_X4_signAt_8 (nI p) (nI i) (nI q) (nI j) (nI k) σ) _
      obtain ⟨s, o1, o2, s8, r13, r14, r15, r16, r17, sh, zz, z1', xx, wr⟩ := h.2 q q1
      obtain ⟨w1, w2, w3⟩ := wr q2
      unfold b_X4_signAt_8
      rw [if_neg (by rw [show (31 : Int32) = nI 31 from rfl, n_le (by omega) (by omega)]; omega)]
      by_cases c : j = 0
      · subst c
        rw [if_pos (by decide)]
        refine Ok.some ⟨q, q1, rfl, ?_⟩
        rw [r14, ← q5, w1]
        rfl
      · rw [if_neg (by rw [show (0 : Int32) = nI 0 from rfl, n_le (by omega) (by omega)]; omega)]
        simp only [gd_ix (show q < 120 by omega) (show 120 < 2147483648 by omega), n_cl (show q < 2147483648 by omega), r15, r16]
        have e0 : (W q).getD j 0 = (wO W o1 ++ wO W o2).getD (j - 1) 0 := by rw [w1, getD_cons c]
        have step : ∀ a m, a < n → z a < 32 → m < z a → z a + 1 ≤ z q → (W a).getD m 0 = (W q).getD j 0 → Ok (j_X4_signAt_81 (nI p) (nI i) (nI m) (nI k) (nI a) σ) (SumP (fun s => ∃ q j, s = (nI q, nI j, nI (k + 1)) ∧ q < n ∧ z q < 32 ∧ j < z q ∧ (k + 1) + z q ≤ 31 ∧ (W q).getD j 0 = (W p).getD i 0) (fun r => ∃ q, q < n ∧ r = nI q ∧ σ.1 14 q = nI ((W p).getD i 0))) := by
          intro a m a1 a2 a3 a4 a5
          unfold j_X4_signAt_81
          exact Ok.lt (Ok.some ⟨a, m, by rw [n_suc], a1, a2, a3, by omega, a5.trans q5⟩)
        have len1 : ∀ a, a < n → z a < 32 → (W a).length = z a := fun a a1 a2 => by
          obtain ⟨_, _, _, _, _, _, _, _, _, _, _, _, _, k1⟩ := h.2 a a1
          exact (k1 a2).2.1
        have g13 : ∀ a, a < n → σ.1 13 a = nI (z a) := fun a a1 => by
          obtain ⟨_, _, _, _, zz, _⟩ := h.2 a a1
          exact zz
        rcases sh with ⟨a0, rfl, rfl⟩ | ⟨a0, ⟨a, a1, a2, rfl⟩, rfl⟩ | ⟨a0, ⟨a, a1, a2, rfl⟩, ⟨b, b1, b2, rfl⟩⟩
        · have : z q = min (1 + 0 + 0) 32 := zz
          omega
        · have zz : z q = min (1 + z a + 0) 32 := zz
          have la := len1 a a1 (by omega)
          rw [if_neg (by show ¬ nI a < 0; rw [n_neg (by omega)]; exact id)]
          show Ok (lt (nI a) _) _
          refine Ok.lt (Ok.lt ?_)
          rw [n_m1 (by omega)]
          simp only [gd_ix (show a < 120 by omega) (show 120 < 2147483648 by omega), n_cl (show a < 2147483648 by omega), g13 a a1]
          rw [if_pos (by rw [n_lt (by omega) (by omega)]; omega)]
          refine step a (j - 1) a1 (by omega) (by omega) (by omega) ?_
          rw [e0]
          show _ = (W a ++ []).getD (j - 1) 0
          rw [List.append_nil]
        · have zz : z q = min (1 + z a + z b) 32 := zz
          have la := len1 a a1 (by omega)
          have lb := len1 b b1 (by omega)
          rw [if_neg (by show ¬ nI a < 0; rw [n_neg (by omega)]; exact id)]
          show Ok (lt (nI a) _) _
          refine Ok.lt (Ok.lt ?_)
          rw [n_m1 (by omega)]
          simp only [gd_ix (show a < 120 by omega) (show 120 < 2147483648 by omega), n_cl (show a < 2147483648 by omega), g13 a a1]
          by_cases d : j - 1 < z a
          · rw [if_pos (by rw [n_lt (by omega) (by omega)]; omega)]
            refine step a (j - 1) a1 (by omega) (by omega) (by omega) ?_
            rw [e0]
            show _ = (W a ++ W b).getD (j - 1) 0
            rw [getD_left (by omega)]
          · rw [if_neg (by rw [n_lt (by omega) (by omega)]; omega), if_neg (by show ¬ nI b < 0; rw [n_neg (by omega)]; exact id)]
            refine Ok.lt ?_
            show Ok (lt (nI b) _) _
            refine Ok.lt ?_
            rw [n_sub (by omega)]
            refine step b (j - 1 - z a) b1 (by omega) (by omega) (by omega) ?_
            rw [e0]
            show _ = (W a ++ W b).getD (j - 1) 0
            rw [getD_right (by omega), la]
    · rintro _ ⟨q, j, rfl, q1, q2, q3, q4, q5⟩
      omega
  · rintro _ ⟨q, q1, rfl, q2⟩
    unfold j_X4_signAt_90
    rw [gd_ix (by omega) (by omega), n_cl (by omega), q2]
    exact Ok.some rfl
theorem tell_C {σ : Mem} {rl : List Ru} {on on' n : Nat} {xs : Nat → PX} {z : Nat → Nat} {W : Nat → List Nat} {F : Nat → Bool} (h : LrI σ rl on on' n xs z W F) {p : Nat} (hp : p < n) (hz : z p < 32) (a : Int32) : f_X4_tellTree (nI p) a σ = some (tolW (W p) a) := by
  have n120 : n ≤ 120 := h.1.2.2.1
  obtain ⟨_, _, _, _, z13, _, _, _, _, _, _, _, _, k1⟩ := h.2 p hp
  have lp := (k1 hz).2.1
  unfold f_X4_tellTree tolW
  rw [if_neg (by rw [n_neg (by omega)]; exact id), h.1.2.1.2.2, if_pos (by rw [n_lt (by omega) (by omega)]; exact hp), gd_ix (by omega) (by omega), gd_ix (by omega) (by omega), n_cl (by omega), z13, lp]
  by_cases c : 0 ≤ a
  · rw [if_pos c, if_pos c]
    rcases n_of a with h0 | ⟨j, hj, rfl⟩
    · rw [Int32.le_iff_toInt_le] at c
      rw [Int32.lt_iff_toInt_lt] at h0
      omega
    · by_cases d : z p ≤ j
      · rw [if_pos (by rw [n_le (by omega) (by omega)]; exact d), if_pos (by rw [n_le (by omega) (by omega)]; exact d)]
      · rw [if_neg (by rw [n_le (by omega) (by omega)]; exact d), if_neg (by rw [n_le (by omega) (by omega)]; exact d), signAt_C h hp hz (by omega), Option.bind_some, n_cl (by omega)]
  · rw [if_neg c, if_neg c]
theorem tellNone_C {a : Int32} {σ : Mem} : f_X4_tellTree (-9) a σ = some (-9) := by
  unfold f_X4_tellTree
  rw [if_pos (by decide)]
theorem told_C {σ : Mem} {rl : List Ru} {on on' n g g' : Nat} {xs : Nat → PX} {z : Nat → Nat} {W : Nat → List Nat} {F : Nat → Bool} (h : LrI σ rl on on' n xs z W F) (hl : ∀ p, p < n → Lst (stX rl on on') (xs p) (z p) (W p)) (hc : ClX (stX rl on on') n xs) (hg : g < 64) (hg' : g' < 64) (a : Int32) : Ok ((f_X4_leastApart (nI g) (nI g') σ).bind (fun r2 => f_X4_tellTree r2 a σ)) (fun v => TolW (stX rl on on') (fun x => gB g x.1 ≠ gB g' x.2) a v) := by
  refine Ok.bind (leastApart_C h hl hc hg hg') ?_
  rintro v (⟨p, p1, rfl, p2, p3⟩ | ⟨rfl, p1⟩)
  · rw [tell_C h p1 p2]
    exact Ok.some (Or.inl ⟨W p, p3, rfl⟩)
  · rw [tellNone_C]
    exact Ok.some (Or.inr ⟨p1, rfl⟩)
