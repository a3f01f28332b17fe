/-! mend: the reference's costs, with some signs settled -/
def cpt (st : Nat → Option Nat) : Nat → List Nat → Prop
  | _, [] => True
  | i, b :: w => (st i = none ∨ st i = some b) ∧ cpt st (i + 1) w
theorem cpt_app (st : Nat → Option Nat) : ∀ (w1 w2 : List Nat) (i : Nat), cpt st i (w1 ++ w2) ↔ (cpt st i w1 ∧ cpt st (i + w1.length) w2)
  | [], w2, i => by simp [cpt]
  | b :: w1, w2, i => by
    show ((st i = none ∨ st i = some b) ∧ cpt st (i + 1) (w1 ++ w2)) ↔ (((st i = none ∨ st i = some b) ∧ cpt st (i + 1) w1) ∧ cpt st (i + (w1.length + 1)) w2)
    rw [cpt_app st w1 w2 (i + 1), show i + 1 + w1.length = i + (w1.length + 1) by omega, and_assoc]
def StM (ρ : Mem) (st : Nat → Option Nat) : Prop := ∀ j, j < 31 → match st j with | none => ρ.1 14 j = -9 | some v => ρ.1 14 j = nI v ∧ v < 8
def CellR (ρ : Mem) (p i : Nat) (l : List Nat) (S : List Nat → Prop) : Prop := ∃ c, ρ.1 13 p = nI c ∧ c ≤ 999 ∧ Bst 999 S (cs (l.drop i)) (fun _ => 0) c 0
theorem CellR.cg {σ σ' : Mem} {p i : Nat} {l : List Nat} {S S' : List Nat → Prop} (h : CellR σ p i l S) (e1 : σ'.1 13 p = σ.1 13 p) (e : ∀ w, S w ↔ S' w) : CellR σ' p i l S' := by
  obtain ⟨c, h1, h3, h5⟩ := h
  exact ⟨c, by rw [e1]; exact h1, h3, h5.cg e⟩
/-- what the reference's tables are made over -/
def RefM (ρ : Mem) (rl : List Ru) (on : Nat) (l : List Nat) (st : Nat → Option Nat) : Prop := SgR ρ l ∧ ρ.1 2 0 = nI rl.length ∧ LawM ρ 3 4 5 6 rl ∧ ρ.1 7 0 = nI on ∧ (∀ j, j < l.length → ρ.1 10 j = nI (partL l j)) ∧ StM ρ st
theorem RefM.cg {ρ τ : Mem} {rl : List Ru} {on : Nat} {l : List Nat} {st : Nat → Option Nat} (h : RefM ρ rl on l st) (e : ∀ o, o ≠ 13 → τ.1 o = ρ.1 o) : RefM τ rl on l st := by
  obtain ⟨⟨h1, h2⟩, h3, h4, h5, h6, h7⟩ := h
  refine ⟨⟨by rw [e 7 (by omega)]; exact h1, by rw [e 7 (by omega)]; exact h2⟩, by rw [e 2 (by omega)]; exact h3, h4.cg (e 3 (by omega)) (e 4 (by omega)) (e 5 (by omega)) (e 6 (by omega)), by rw [e 7 (by omega)]; exact h5, by rw [e 10 (by omega)]; exact h6, ?_⟩
  unfold StM
  rw [e 14 (by omega)]
  exact h7
theorem cost215_R {ρ : Mem} {i k res e C v2 : Nat} {l : List Nat} {S S' U : List Nat → Prop} (hr : ρ.1 6 k = nI res) (hk : k < 32) (hi : i < 31) (hres : res < 6) (hc : CellR ρ (6 * i + res) i l S) (hC : e + C ≤ 3000) (hU : ∀ w, U w ↔ (S w ∨ S' w)) (h' : (999 ≤ e + C ∧ ∀ w, ¬ S' w) ∨ Bst 999 S' (cs (l.drop i)) (fun _ => 0) (e + C) 0) : Ok (j_X9_costAll_215 (nI e) (nI C) (nI i) (nI v2) (nI k) ρ) (SumP (fun s => s.1 = nI i ∧ s.2.1 = nI v2 ∧ s.2.2.1 = nI (k + 1) ∧ CellR s.2.2.2 (6 * i + res) i l U ∧ (∀ o, o ≠ 13 → s.2.2.2.1 o = ρ.1 o) ∧ (∀ p, p ≠ 6 * i + res → s.2.2.2.1 13 p = ρ.1 13 p) ∧ s.2.2.2.2 = ρ.2) (fun _ => False)) := by
  obtain ⟨c, c1, c3, c5⟩ := hc
  obtain ⟨j1, j2⟩ := c5.join hU h'
  unfold j_X9_costAll_215 j_X9_costAll_261 j_X9_costAll_262
  rw [n_add]
  refine Ok.lt ?_
  rw [gd_ix hk (by omega), n_cl (by omega), hr, show (6 : Int32) * nI i + nI res = nI (6 * i + res) by rw [show (6 : Int32) = nI 6 from rfl, n_mul, n_add]]
  refine Ok.lt ?_
  rw [gd_ix (by omega) (by omega)]
  simp only [n_cl (show 6 * i + res < 2147483648 by omega), c1, gd_ix (show 6 * i + res < 186 by omega) (by omega), n_le (show c < 2147483648 by omega) (show e + C < 2147483648 by omega)]
  by_cases b : c ≤ e + C
  · rw [if_pos b]
    refine Ok.lt (Ok.lt (Ok.some ⟨rfl, rfl, n_suc k, ⟨c, sI_same _ _ _ _, c3, j2 (by omega)⟩, fun o ho => sI_o ho, fun p hp => sI_slot hp, rfl⟩))
  · rw [if_neg b]
    refine Ok.lt (Ok.lt (Ok.some ⟨rfl, rfl, n_suc k, ⟨e + C, sI_same _ _ _ _, by omega, j1 (by omega)⟩, fun o ho => sI_o ho, fun p hp => sI_slot hp, rfl⟩))
theorem costRule_R {ρ : Mem} {i k on : Nat} {l : List Nat} {rl : List Ru} {st : Nat → Option Nat} (hM : RefM ρ rl on l st) (hw : WfT l) (hrl : ∀ r ∈ rl, OkRu r) (hll : rl.length ≤ 16) (hi : i < l.length) (hk : k < rl.length) (hon : bN on k = 1) (hs : armsN (ruA rl k).1 = armsN (sgn l i)) (hst : st i = none ∨ st i = some (ruA rl k).1) (hA : ∀ j q, i < j → j < l.length → q < 6 → CellR ρ (6 * j + q) j l (fun w => ws rl on l j q w ∧ cpt st j w)) (hc : CellR ρ (6 * i + (ruA rl k).2.2.2) i l (fun w => wsN rl on (sgn l i) (ws rl on l (i + 1)) (ws rl on l (i + 1 + partL l (i + 1))) k (ruA rl k).2.2.2 w ∧ cpt st i w)) : Ok (j_X9_costAll_122 1 (nI i) (nI (armsN (sgn l i))) (nI k) ρ) (SumP (fun s => s.1 = nI i ∧ s.2.1 = nI (armsN (sgn l i)) ∧ s.2.2.1 = nI (k + 1) ∧ CellR s.2.2.2 (6 * i + (ruA rl k).2.2.2) i l (fun w => wsN rl on (sgn l i) (ws rl on l (i + 1)) (ws rl on l (i + 1 + partL l (i + 1))) (k + 1) (ruA rl k).2.2.2 w ∧ cpt st i w) ∧ (∀ o, o ≠ 13 → s.2.2.2.1 o = ρ.1 o) ∧ (∀ p, p ≠ 6 * i + (ruA rl k).2.2.2 → s.2.2.2.1 13 p = ρ.1 13 p) ∧ s.2.2.2.2 = ρ.2) (fun _ => False)) := by
  have hl := hw.2.1
  have nd := hw.nd hi
  have h8 := sgn_lt hw hi
  obtain ⟨sg, L2, LM, L7, hp, hSt⟩ := hM
  obtain ⟨m1, m2, m3, m4⟩ := LM k hk
  obtain ⟨r1, r2, r3, r4⟩ := ruL_ok hrl hk
  have dc := drop_cons hi
  have hU : ∀ w, (wsN rl on (sgn l i) (ws rl on l (i + 1)) (ws rl on l (i + 1 + partL l (i + 1))) (k + 1) (ruA rl k).2.2.2 w ∧ cpt st i w) ↔ ((wsN rl on (sgn l i) (ws rl on l (i + 1)) (ws rl on l (i + 1 + partL l (i + 1))) k (ruA rl k).2.2.2 w ∧ cpt st i w) ∨ (wsK rl on (sgn l i) (ws rl on l (i + 1)) (ws rl on l (i + 1 + partL l (i + 1))) k (ruA rl k).2.2.2 w ∧ cpt st i w)) := by
    intro w
    constructor
    · rintro ⟨⟨j, j1, j2⟩, j3⟩
      by_cases e : j = k
      · rw [e] at j2; exact Or.inr ⟨j2, j3⟩
      · exact Or.inl ⟨⟨j, by omega, j2⟩, j3⟩
    · rintro (⟨⟨j, j1, j2⟩, j3⟩ | ⟨j2, j3⟩)
      · exact ⟨⟨j, by omega, j2⟩, j3⟩
      · exact ⟨⟨k, by omega, j2⟩, j3⟩
  have e0 : ∃ e, e ≤ 1 ∧ (if (ruA rl k).1 = sgn l i then 0 else 1) = e ∧ j_X9_costAll_122 1 (nI i) (nI (armsN (sgn l i))) (nI k) ρ = j_X9_costAll_151 (nI e) (nI i) (nI (armsN (sgn l i))) (nI k) ρ := by
    have e00 : j_X9_costAll_122 1 (nI i) (nI (armsN (sgn l i))) (nI k) ρ = (if (ruA rl k).1 = sgn l i then j_X9_costAll_151 0 (nI i) (nI (armsN (sgn l i))) (nI k) ρ else j_X9_costAll_151 1 (nI i) (nI (armsN (sgn l i))) (nI k) ρ) := by
      unfold j_X9_costAll_122
      rw [if_neg (by decide), gd_ix (by omega) (by omega), n_3, gd_ix (by omega) (by omega)]
      simp only [n_cl (show k < 2147483648 by omega), n_cl (show 3 + i < 2147483648 by omega), m1, sg.2 i hi, n_eq (show (ruA rl k).1 < 2147483648 by omega) (show sgn l i < 2147483648 by omega)]
    by_cases c : (ruA rl k).1 = sgn l i
    · exact ⟨0, by omega, if_pos c, by rw [e00, if_pos c]; rfl⟩
    · exact ⟨1, by omega, if_neg c, by rw [e00, if_neg c]; rfl⟩
  obtain ⟨e, e1, e2, e3⟩ := e0
  rw [e3]
  have cst : ∀ w1 w2 : List Nat, w1.length + w2.length + 1 ≤ 31 → w1.length ≤ (l.drop (i + 1)).length → cs (l.drop i) ((ruA rl k).1 :: (w1 ++ w2)) = e + cs (l.drop (i + 1)) w1 + cs (l.drop (i + 1 + w1.length)) w2 ∧ cs (l.drop i) ((ruA rl k).1 :: (w1 ++ w2)) < 999 := by
    intro w1 w2 h1 h2
    have a1 : cs (l.drop i) ((ruA rl k).1 :: (w1 ++ w2)) = e + cs (l.drop (i + 1)) w1 + cs (l.drop (i + 1 + w1.length)) w2 := by
      rw [dc]
      show (if (ruA rl k).1 = sgn l i then 0 else 1) + cs (l.drop (i + 1)) (w1 ++ w2) = _
      rw [e2, cs_app _ _ _ h2, List.drop_drop]
      omega
    have a2 := cs_le (l.drop (i + 1)) w1
    have a3 := cs_le (l.drop (i + 1 + w1.length)) w2
    exact ⟨a1, by omega⟩
  have okw := ws_ok hrl on nd
  unfold j_X9_costAll_151
  rcases arms_cases (sgn l i) with a0 | a0 | a0
  · rw [if_pos (by rw [a0]; decide)]
    unfold j_X9_costAll_181
    refine Ok.lt ?_
    rw [if_pos (by rw [a0]; decide), show nI e + 0 = nI (e + 0) from n_add e 0]
    have b := Bst.over (far := 999) (h := (ruA rl k).1) (e := e) (a := 0) (f := cs (l.drop i)) (g := fun _ => 0) (Bst.nil (by omega) (f := cs (l.drop (i + 1))) (g := fun _ => 0) (cs_nil _) rfl) (Bst.nil (by omega) (f := cs (l.drop (i + 1))) (g := fun _ => 0) (cs_nil _) rfl) (by
      intro w1 w2 h1 h2
      subst h1 h2
      have := cst [] [] (by simp) (by simp)
      simpa [cs_nil] using this)
    have eS : ∀ w, (∃ w1 w2, w1 = [] ∧ w2 = [] ∧ w = (ruA rl k).1 :: (w1 ++ w2)) ↔ (wsK rl on (sgn l i) (ws rl on l (i + 1)) (ws rl on l (i + 1 + partL l (i + 1))) k (ruA rl k).2.2.2 w ∧ cpt st i w) := by
      intro w
      constructor
      · rintro ⟨w1, w2, h1, h2, h3⟩
        refine ⟨⟨hon, hs, rfl, w1, w2, fun q => by omega, fun _ => h1, fun q => by omega, fun _ => h2, h3⟩, ?_⟩
        rw [h3, h1, h2]
        exact ⟨hst, trivial⟩
      · rintro ⟨⟨_, _, _, w1, w2, _, h2, _, h4, h5⟩, _⟩
        exact ⟨w1, w2, h2 a0, h4 (by omega), h5⟩
    refine (cost215_R (e := e + 0) (C := 0) m4 (by omega) (by omega) r4 hc (by omega) hU ?_).mono (fun r hr => hr)
    rcases b with ⟨b1, b2⟩ | b
    · exact Or.inl ⟨b1, fun w hw => b2 w ((eS w).mpr hw)⟩
    · exact Or.inr (b.cg eS)
  · obtain ⟨p1, p2⟩ := part_1 nd hi a0
    obtain ⟨c1, x1, x3, x5⟩ := hA (i + 1) _ (by omega) p2 r2
    rw [if_neg (by rw [a0]; decide), gd_ix (by omega) (by omega)]
    simp only [n_cl (show k < 2147483648 by omega), m2, armV_yes (show 1 ≤ armsN (ruA rl k).1 by omega), n_suc, show (6 : Int32) * nI (i + 1) + nI (ruA rl k).2.1 = nI (6 * (i + 1) + (ruA rl k).2.1) by rw [show (6 : Int32) = nI 6 from rfl, n_mul, n_add], gd_ix (show 6 * (i + 1) + (ruA rl k).2.1 < 186 by omega) (by omega), n_cl (show 6 * (i + 1) + (ruA rl k).2.1 < 2147483648 by omega), x1]
    unfold j_X9_costAll_181
    refine Ok.lt ?_
    rw [if_pos (by rw [a0]; decide), n_add]
    have lw : ∀ w1, ws rl on l (i + 1) (ruA rl k).2.1 w1 → w1.length = partL l (i + 1) ∧ shp (l.drop (i + 1)) w1 := fun w1 h => okw _ (i + 1) _ w1 rfl h
    have hle := part_le (l := l) (i := i + 1) (by omega)
    have b := Bst.over (far := 999) (h := (ruA rl k).1) (e := e) (a := 0) (f := cs (l.drop i)) (g := fun _ => 0) x5 (Bst.nil (by omega) (f := cs (l.drop (i + 1 + partL l (i + 1)))) (g := fun _ => 0) (cs_nil _) rfl) (by
      intro w1 w2 h1 h2
      subst h2
      obtain ⟨g1, g2⟩ := lw w1 h1.1
      have := cst w1 [] (by simp; omega) (by rw [List.length_drop]; omega)
      rw [g1] at this
      exact ⟨this.1, rfl, this.2⟩)
    have eS : ∀ w, (∃ w1 w2, (ws rl on l (i + 1) (ruA rl k).2.1 w1 ∧ cpt st (i + 1) w1) ∧ w2 = [] ∧ w = (ruA rl k).1 :: (w1 ++ w2)) ↔ (wsK rl on (sgn l i) (ws rl on l (i + 1)) (ws rl on l (i + 1 + partL l (i + 1))) k (ruA rl k).2.2.2 w ∧ cpt st i w) := by
      intro w
      constructor
      · rintro ⟨w1, w2, h1, h2, h3⟩
        refine ⟨⟨hon, hs, rfl, w1, w2, fun _ => h1.1, fun q => by omega, fun q => by omega, fun _ => h2, h3⟩, ?_⟩
        rw [h3, h2, List.append_nil]
        exact ⟨hst, h1.2⟩
      · rintro ⟨⟨_, _, _, w1, w2, h1, h2, _, h4, h5⟩, h6⟩
        have h4 := h4 (by omega)
        rw [h5, h4, List.append_nil] at h6
        exact ⟨w1, w2, ⟨h1 (by omega), h6.2⟩, h4, h5⟩
    refine (cost215_R (e := e + c1) (C := 0) m4 (by omega) (by omega) r4 hc (by omega) hU ?_).mono (fun r hr => hr)
    rcases b with ⟨b1, b2⟩ | b
    · exact Or.inl ⟨b1, fun w hw => b2 w ((eS w).mpr hw)⟩
    · exact Or.inr (b.cg eS)
  · obtain ⟨p1, p2⟩ := part_2 nd hi a0
    have q1 := part_pos (l := l) (i := i + 1) (by omega)
    obtain ⟨c1, x1, x3, x5⟩ := hA (i + 1) _ (by omega) (by omega) r2
    obtain ⟨c2, y1, y3, y5⟩ := hA (i + 1 + partL l (i + 1)) _ (by omega) p2 r3
    have second : f_X9_second (nI i) ρ = some (nI (i + 1 + partL l (i + 1))) := by
      unfold f_X9_second
      rw [n_suc, gd_ix (by omega) (by omega), n_cl (by omega), hp (i + 1) (by omega), n_add]
    rw [if_neg (by rw [a0]; decide), gd_ix (by omega) (by omega)]
    simp only [n_cl (show k < 2147483648 by omega), m2, armV_yes (show 1 ≤ armsN (ruA rl k).1 by omega), n_suc, show (6 : Int32) * nI (i + 1) + nI (ruA rl k).2.1 = nI (6 * (i + 1) + (ruA rl k).2.1) by rw [show (6 : Int32) = nI 6 from rfl, n_mul, n_add], gd_ix (show 6 * (i + 1) + (ruA rl k).2.1 < 186 by omega) (by omega), n_cl (show 6 * (i + 1) + (ruA rl k).2.1 < 2147483648 by omega), x1]
    unfold j_X9_costAll_181
    refine Ok.lt ?_
    rw [if_neg (by rw [a0]; decide), n_add, second, Option.bind_some, gd_ix (by omega) (by omega)]
    simp only [n_cl (show k < 2147483648 by omega), m3, armV_yes (show 2 ≤ armsN (ruA rl k).1 by omega), show (6 : Int32) * nI (i + 1 + partL l (i + 1)) + nI (ruA rl k).2.2.1 = nI (6 * (i + 1 + partL l (i + 1)) + (ruA rl k).2.2.1) by rw [show (6 : Int32) = nI 6 from rfl, n_mul, n_add], gd_ix (show 6 * (i + 1 + partL l (i + 1)) + (ruA rl k).2.2.1 < 186 by omega) (by omega), n_cl (show 6 * (i + 1 + partL l (i + 1)) + (ruA rl k).2.2.1 < 2147483648 by omega), y1]
    have lw1 : ∀ w1, ws rl on l (i + 1) (ruA rl k).2.1 w1 → w1.length = partL l (i + 1) ∧ shp (l.drop (i + 1)) w1 := fun w1 h => okw _ (i + 1) _ w1 rfl h
    have lw2 : ∀ w1, ws rl on l (i + 1 + partL l (i + 1)) (ruA rl k).2.2.1 w1 → w1.length = partL l (i + 1 + partL l (i + 1)) ∧ shp (l.drop (i + 1 + partL l (i + 1))) w1 := fun w1 h => okw _ _ _ w1 rfl h
    have hle := part_le (l := l) (i := i) (by omega)
    have b := Bst.over (far := 999) (h := (ruA rl k).1) (e := e) (a := 0) (f := cs (l.drop i)) (g := fun _ => 0) x5 y5 (by
      intro w1 w2 h1 h2
      obtain ⟨g1, g2⟩ := lw1 w1 h1.1
      obtain ⟨g3, g4⟩ := lw2 w2 h2.1
      have := cst w1 w2 (by omega) (by rw [List.length_drop]; omega)
      rw [g1] at this
      exact ⟨this.1, rfl, this.2⟩)
    have eS : ∀ w, (∃ w1 w2, (ws rl on l (i + 1) (ruA rl k).2.1 w1 ∧ cpt st (i + 1) w1) ∧ (ws rl on l (i + 1 + partL l (i + 1)) (ruA rl k).2.2.1 w2 ∧ cpt st (i + 1 + partL l (i + 1)) w2) ∧ w = (ruA rl k).1 :: (w1 ++ w2)) ↔ (wsK rl on (sgn l i) (ws rl on l (i + 1)) (ws rl on l (i + 1 + partL l (i + 1))) k (ruA rl k).2.2.2 w ∧ cpt st i w) := by
      intro w
      constructor
      · rintro ⟨w1, w2, h1, h2, h3⟩
        refine ⟨⟨hon, hs, rfl, w1, w2, fun _ => h1.1, fun q => by omega, fun _ => h2.1, fun q => by omega, h3⟩, ?_⟩
        rw [h3]
        refine ⟨hst, (cpt_app _ _ _ _).mpr ⟨h1.2, ?_⟩⟩
        rw [(lw1 w1 h1.1).1]
        exact h2.2
      · rintro ⟨⟨_, _, _, w1, w2, h1, h2, h3, h4, h5⟩, h6⟩
        rw [h5] at h6
        obtain ⟨k1, k2⟩ := (cpt_app _ _ _ _).mp h6.2
        rw [(lw1 w1 (h1 (by omega))).1] at k2
        exact ⟨w1, w2, ⟨h1 (by omega), k1⟩, ⟨h3 (by omega), k2⟩, h5⟩
    refine (cost215_R (e := e + c1) (C := c2) m4 (by omega) (by omega) r4 hc (by omega) hU ?_).mono (fun r hr => hr)
    rcases b with ⟨b1, b2⟩ | b
    · exact Or.inl ⟨b1, fun w hw => b2 w ((eS w).mpr hw)⟩
    · exact Or.inr (b.cg eS)
