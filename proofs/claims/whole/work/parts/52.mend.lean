/-! mend, both -/
theorem cpt_iff (st : Nat → Option Nat) : ∀ (w : List Nat) (i : Nat), cpt st i w ↔ ∀ j, j < w.length → (st (i + j) = none ∨ st (i + j) = some (sgn w j))
  | [], i => ⟨fun _ j hj => absurd hj (Nat.not_lt_zero j), fun _ => trivial⟩
  | b :: w, i => by
    have ih := cpt_iff st w (i + 1)
    constructor
    · rintro ⟨h1, h2⟩ j hj
      cases j with
      | zero => exact h1
      | succ j =>
        have := ih.mp h2 j (Nat.lt_of_succ_lt_succ hj)
        rw [show i + 1 + j = i + (j + 1) by omega] at this
        exact this
    · intro h
      refine ⟨h 0 (Nat.succ_pos _), ih.mpr (fun j hj => ?_)⟩
      have := h (j + 1) (Nat.succ_lt_succ hj)
      rw [show i + (j + 1) = i + 1 + j by omega] at this
      exact this
/-- the first k signs settled as in w, and at k the sign v -/
def stK (w : List Nat) (k : Nat) : Nat → Option Nat := fun j => if j < k then some (sgn w j) else none
def stV (w : List Nat) (k v : Nat) : Nat → Option Nat := fun j => if j < k then some (sgn w j) else if j = k then some v else none
theorem gdW_ok {rl : List Ru} (hrl : ∀ r ∈ rl, OkRu r) {on g n : Nat} {t w : List Nat} (nd : needs 1 t = true) (h : gdW rl on t g n w) : w.length = t.length ∧ shp t w := by
  obtain ⟨q, q1, q2, q3⟩ := h
  obtain ⟨k1, k2⟩ := ws_ok hrl on nd _ 0 q w rfl q3
  rw [part_all nd] at k1
  rw [List.drop_zero] at k2
  exact ⟨k1, k2⟩
/-- the least cost of the good words that keep to what is settled -/
theorem cost_least {rl : List Ru} {on g c : Nat} {t w : List Nat} {st : Nat → Option Nat} (hl : t.length ≤ 31) (hlw : w.length = t.length) (lw : lstW rl on t g w) (hc : cpt st 0 w) (b : Bst 999 (fun w => gdW rl on t g 6 w ∧ cpt st 0 w) (cs t) (fun _ => 0) c 0) : c = cs t w := by
  have := cs_le t w
  rcases b with ⟨_, b2⟩ | ⟨b1, ⟨u, b2, b3, _⟩, b5⟩
  · exact absurd ⟨lw.1, hc⟩ (b2 w)
  · have h1 := lw.2 u b2.1
    have h2 := b5 w ⟨lw.1, hc⟩
    omega
theorem cost_more {rl : List Ru} (hrl : ∀ r ∈ rl, OkRu r) {on g c k v : Nat} {t w : List Nat} (nd : needs 1 t = true) (hl : t.length ≤ 31) (lw : lstW rl on t g w) (hk : k < t.length) (hv : v < sgn w k) (ha : armsN v = armsN (sgn t k)) (b : Bst 999 (fun u => gdW rl on t g 6 u ∧ cpt (stV w k v) 0 u) (cs t) (fun _ => 0) c 0) : c ≠ cs t w := by
  intro e
  obtain ⟨l1, l2⟩ := gdW_ok hrl nd lw.1
  have := cs_le t w
  rcases b with ⟨b1, _⟩ | ⟨b1, ⟨u, b2, b3, _⟩, b5⟩
  · omega
  · obtain ⟨u1, u2⟩ := gdW_ok hrl nd b2.1
    have hcp := (cpt_iff _ _ _).mp b2.2
    have uk : sgn u k = v := by
      have := hcp k (by omega)
      rw [Nat.zero_add] at this
      unfold stV at this
      rw [if_neg (by omega), if_pos rfl] at this
      rcases this with z | z
      · exact absurd z (by simp)
      · exact (Option.some.inj z).symm
    obtain ⟨w1, w2⟩ := shp_arms _ _ k l2 (by omega)
    have lt := co_first u w 0 k (shp_lt _ _ u2) (shp_lt _ _ l2) (by omega) (by omega) (by omega) (fun j hj => by
      have := hcp j (by omega)
      rw [Nat.zero_add] at this
      unfold stV at this
      rw [if_pos hj] at this
      rcases this with z | z
      · exact absurd z (by simp)
      · exact (Option.some.inj z).symm) (by
      rw [uk]
      exact (stp_lt (by omega) w1 (ha.trans w2.symm)).mp hv)
    have := lw.2 u b2.1
    omega
theorem RefM.put {ρ τ : Mem} {rl : List Ru} {on : Nat} {l : List Nat} {st st' : Nat → Option Nat} (h : RefM ρ rl on l st) (e : ∀ o, o ≠ 13 → o ≠ 14 → τ.1 o = ρ.1 o) (hs : StM τ st') : RefM τ rl on l st' := by
  obtain ⟨⟨h1, h2⟩, h3, h4, h5, h6, h7⟩ := h
  exact ⟨⟨by rw [e 7 (by omega) (by omega)]; exact h1, by rw [e 7 (by omega) (by omega)]; exact h2⟩, by rw [e 2 (by omega) (by omega)]; exact h3, h4.cg (e 3 (by omega) (by omega)) (e 4 (by omega) (by omega)) (e 5 (by omega) (by omega)) (e 6 (by omega) (by omega)), by rw [e 7 (by omega) (by omega)]; exact h5, by rw [e 10 (by omega) (by omega)]; exact h6, hs⟩
theorem StM.set {ρ : Mem} {w : List Nat} {k v : Nat} (h : ∀ j, j < 31 → j < k → ρ.1 14 j = nI (sgn w j) ∧ sgn w j < 8) (h2 : ∀ j, j < 31 → k < j → ρ.1 14 j = -9) (hk : ρ.1 14 k = nI v) (hv : v < 8) : StM ρ (stV w k v) := by
  intro j hj
  unfold stV
  by_cases c1 : j < k
  · rw [if_pos c1]; exact h j hj c1
  · rw [if_neg c1]
    by_cases c2 : j = k
    · rw [if_pos c2, c2]; exact ⟨hk, hv⟩
    · rw [if_neg c2]; exact h2 j hj (by omega)
theorem mend_in {n : Nat} (hn : n ≤ 31) (a : Int32) : (a = -1 ∧ f_X9_in a (-1) (nI n - 1) = 1) ∨ (∃ i, i < n ∧ a = nI i ∧ f_X9_in a (-1) (nI n - 1) = 1) ∨ (a ≠ -1 ∧ (∀ i, i < n → a ≠ nI i) ∧ f_X9_in a (-1) (nI n - 1) = 0) := by
  have hi : (nI n - 1).toInt = (n : Int) - 1 := by
    by_cases z : n = 0
    · subst z; decide
    · have e : nI n - 1 = nI (n - 1) := n_sub (a := n) (b := 1) (by omega)
      rw [e, n_toInt (by omega)]
      omega
  have m1 : (-1 : Int32).toInt = -1 := by decide
  have z00 : (0 : Int32).toInt = 0 := by decide
  unfold f_X9_in
  simp only [Int32.lt_iff_toInt_lt, hi, m1]
  rcases n_of a with h | ⟨j, hj, rfl⟩
  · rw [Int32.lt_iff_toInt_lt, z00] at h
    by_cases c : a = -1
    · refine Or.inl ⟨c, ?_⟩
      rw [c, m1, if_neg (by omega), if_neg (by omega)]
    · refine Or.inr (Or.inr ⟨c, fun i hi e => ?_, ?_⟩)
      · rw [e, n_toInt (by omega)] at h; omega
      · have : a.toInt ≠ -1 := fun e => c (Int32.toInt_inj.mp (by rw [e, m1]))
        rw [if_pos (by omega)]
  · rw [n_toInt hj, if_neg (by omega)]
    by_cases c : j < n
    · refine Or.inr (Or.inl ⟨j, c, rfl, ?_⟩)
      rw [if_neg (by omega)]
    · refine Or.inr (Or.inr ⟨fun e => ?_, fun i hi e => ?_, ?_⟩)
      · have := congrArg Int32.toInt e
        rw [n_toInt hj, m1] at this
        omega
      · rw [n_eq (by omega) (by omega)] at e; omega
      · rw [if_pos (by omega)]
/-- the reference, where w is the least good word -/
theorem mend_R {A : AS} {ρ : Mem} {w : List Nat} (h : RepR A ρ) (hA : WfA A) (hne : 0 < (trA A).length) (lw : lstW (rlA A) (onA A) (trA A) (gdA A) w) {a : Int32} (ha : a = -1 ∨ ∃ i, i < (trA A).length ∧ a = nI i) : Ok (f_X9_mend a ρ) (fun r => (a = -1 → r.1 = nI (cs (trA A) w)) ∧ (∀ i, i < (trA A).length → a = nI i → r.1 = nI (sgn w i)) ∧ RepR A r.2) := by
  have hw := hA.2.2.2.2.2.2.1
  have hl := hw.2.1
  have hg := hA.2.2.2.2.2.1
  have hrl := hA.2.2.1
  have hll := hA.2.2.2.1
  have ho := hA.2.2.2.2.1
  have nd := hw.nd hne
  have neg1 : ∀ i, i < (trA A).length → nI i ≠ -1 := by
    intro i hi e
    have := congrArg Int32.toInt e
    rw [n_toInt (by omega)] at this
    have e2 : (-1 : Int32).toInt = -1 := by decide
    omega
  have inb : f_X9_in a (-1) (nI (trA A).length - 1) = 1 := by
    rcases mend_in hl a with ⟨_, e⟩ | ⟨i, hi, _, e⟩ | ⟨e1, e2, _⟩
    · exact e
    · exact e
    · rcases ha with z | ⟨i, hi, z⟩
      · exact absurd z e1
      · exact absurd z (e2 i hi)
  obtain ⟨l1, l2⟩ := gdW_ok hrl nd lw.1
  have csl := cs_le (trA A) w
  unfold f_X9_mend
  rw [show (2 : Int32).toNatClampNeg = 2 from rfl, h.sg.1, inb, if_neg (by decide), if_neg (by rw [show (0 : Int32) = nI 0 from rfl, n_eq (by omega) (by omega)]; omega)]
  refine Ok.bind (parts_R h.sg hw) ?_
  rintro τ0 ⟨g1, g2, g3⟩
  refine Ok.bind (P := fun τ => (∀ j, j < 31 → τ.1 14 j = -9) ∧ (∀ o, o ≠ 14 → τ.1 o = τ0.1 o) ∧ τ.2 = τ0.2) ?_ ?_
  · refine Ok.for 31 (fun k s => s.1 = nI k ∧ (∀ j, j < k → s.2.1 14 j = -9) ∧ (∀ o, o ≠ 14 → s.2.1 o = τ0.1 o) ∧ s.2.2 = τ0.2) ?_ ?_ 0 (by omega) _ ⟨rfl, fun j hj => by omega, fun o _ => rfl, rfl⟩
    · rintro k ⟨v, τ⟩ hk ⟨e1, e2, e3, e4⟩
      simp only at e1 e2 e3 e4
      subst e1
      show Ok (b_X9_mend_36 a (nI k) τ) _
      unfold b_X9_mend_36
      rw [if_neg (by rw [show (31 : Int32) = nI 31 from rfl, n_le (by omega) (by omega)]; omega)]
      simp only [gd_ix hk (show 31 < 2147483648 by omega), n_cl (show k < 2147483648 by omega), lt_eq, n_suc]
      refine Ok.some ⟨rfl, fun j hj => ?_, fun o ho => ?_, e4⟩
      · show (sI τ 14 k (-9)).1 14 j = -9
        by_cases c : j = k
        · rw [c]; exact sI_same _ _ _ _
        · rw [sI_slot c]; exact e2 j (by omega)
      · show (sI τ 14 k (-9)).1 o = _
        rw [sI_o ho]; exact e3 o ho
    · rintro ⟨v, τ⟩ ⟨e1, e2, e3, e4⟩
      simp only at e1 e2 e3 e4
      subst e1
      show Ok (b_X9_mend_36 a (nI 31) τ) _
      unfold b_X9_mend_36
      rw [if_pos (by decide)]
      exact Ok.some ⟨e2, e3, e4⟩
  · rintro τ1 ⟨e1, e2, e3⟩
    have M1 : RefM τ1 (rlA A) (onA A) (trA A) (stK w 0) := by
      have eo : ∀ o, o ≠ 10 → o ≠ 14 → τ1.1 o = ρ.1 o := fun o o1 o2 => (e2 o o2).trans (g2 o o1)
      refine ⟨⟨by rw [eo 7 (by omega) (by omega)]; exact h.sg.1, by rw [eo 7 (by omega) (by omega)]; exact h.sg.2⟩, by rw [eo 2 (by omega) (by omega)]; exact h.2.1.1, h.2.1.2.cg (eo 3 (by omega) (by omega)) (eo 4 (by omega) (by omega)) (eo 5 (by omega) (by omega)) (eo 6 (by omega) (by omega)), by rw [eo 7 (by omega) (by omega)]; exact h.2.2.1.1, by rw [e2 10 (by omega)]; exact g1, fun j hj => ?_⟩
      unfold stK
      rw [if_neg (by omega)]
      exact e1 j hj
    have h71 : τ1.1 7 1 = nI (gdA A) := by rw [e2 7 (by omega), g2 7 (by omega)]; exact h.2.2.1.2.1
    refine Ok.bind (costAll_R M1 hw hne hrl hll ho hg h71) ?_
    rintro ⟨v, τ2⟩ ⟨⟨c, c1, c2, c3⟩, c4, c5⟩
    simp only at c1 c4 c5
    subst c1
    have hc : c = cs (trA A) w := cost_least hl l1 lw ((cpt_iff _ _ _).mpr (fun j hj => Or.inl (by unfold stK; rw [if_neg (by omega)]))) c3
    subst hc
    refine Ok.lt ?_
    show Ok (if nI (cs (trA A) w) < 999 then _ else _) _
    rw [if_pos (by rw [show (999 : Int32) = nI 999 from rfl, n_lt (by omega) (by omega)]; omega)]
    -- the settling
    have outer : Ok (Lim (T := (Int32 × Mem)) (fun s => b_X9_mend_73 a s.1 s.2.1 s.2.2) (nI (cs (trA A) w), (0 : Int32), τ2)) (fun r => r.1 = nI (cs (trA A) w) ∧ (∀ i, i < (trA A).length → a = nI i → r.2.1 14 i = nI (sgn w i)) ∧ (∀ o, o ≠ 13 → o ≠ 14 → r.2.1 o = τ1.1 o) ∧ r.2.2 = τ1.2) := by
      rcases ha with rfl | ⟨i, hi, rfl⟩
      · refine ⟨(nI (cs (trA A) w), τ2), Lim_out ?_, rfl, fun i hi e => absurd e.symm (neg1 i hi), fun o o1 _ => c4 o o1, c5⟩
        show b_X9_mend_73 (-1) (nI (cs (trA A) w)) 0 τ2 = _
        unfold b_X9_mend_73
        rw [if_pos (by decide)]
      · refine Ok.for (i + 1) (fun k s => s.1 = nI (cs (trA A) w) ∧ s.2.1 = nI k ∧ (∀ j, j < 31 → j < k → s.2.2.1 14 j = nI (sgn w j) ∧ sgn w j < 8) ∧ (∀ j, j < 31 → k ≤ j → s.2.2.1 14 j = -9) ∧ (∀ o, o ≠ 13 → o ≠ 14 → s.2.2.1 o = τ1.1 o) ∧ s.2.2.2 = τ1.2) ?_ ?_ 0 (by omega) _ ⟨rfl, rfl, fun j _ hj => by omega, fun j hj _ => ?_, fun o o1 _ => c4 o o1, c5⟩
        · rintro k ⟨v2, v3, υ⟩ hk ⟨f1, f2, f3, f4, f5, f6⟩
          simp only at f1 f2 f3 f4 f5 f6
          subst f1 f2
          show Ok (b_X9_mend_73 (nI i) (nI (cs (trA A) w)) (nI k) υ) _
          have hkl : k < (trA A).length := by omega
          obtain ⟨w1, w2⟩ := shp_arms _ _ k l2 (by omega)
          have h8 := sgn_lt hw hkl
          unfold b_X9_mend_73
          rw [if_neg (by rw [n_lt (by omega) (by omega)]; omega), gd_ix (by omega) (by omega), n_cl (by omega)]
          refine Ok.lt (Ok.bind (P := fun r => r.1 = nI (cs (trA A) w) ∧ r.2.1 = nI k ∧ (∀ j, j < 31 → j < k + 1 → r.2.2.1 14 j = nI (sgn w j) ∧ sgn w j < 8) ∧ (∀ j, j < 31 → k + 1 ≤ j → r.2.2.1 14 j = -9) ∧ (∀ o, o ≠ 13 → o ≠ 14 → r.2.2.1 o = τ1.1 o) ∧ r.2.2.2 = τ1.2) ?_ ?_)
          · refine Ok.wf (fun m s => ∃ v, v + m = sgn w k ∧ s.1 = nI (cs (trA A) w) ∧ s.2.1 = nI k ∧ s.2.2.1 14 k = nI v ∧ (∀ j, j < 31 → j < k → s.2.2.1 14 j = nI (sgn w j) ∧ sgn w j < 8) ∧ (∀ j, j < 31 → k < j → s.2.2.1 14 j = -9) ∧ (∀ o, o ≠ 13 → o ≠ 14 → s.2.2.1 o = τ1.1 o) ∧ s.2.2.2 = τ1.2) ?_ (sgn w k) _ ⟨0, by omega, rfl, rfl, sI_same _ _ _ _, fun j h1 h2 => ?_, fun j h1 h2 => ?_, fun o o1 o2 => ?_, f6⟩
            · rintro m ⟨v2, v3, ω⟩ ⟨v, k1, k2, k3, k4, k5, k6, k7, k8⟩
              simp only at k2 k3 k4 k5 k6 k7 k8
              subst k2 k3
              show Ok (b_X9_mend_85 (nI i) (nI (cs (trA A) w)) (nI k) ω) _
              have hM : RefM ω (rlA A) (onA A) (trA A) (stV w k v) := M1.put k7 (StM.set k5 k6 k4 (by omega))
              have more : v < sgn w k → ∀ ψ : Mem, (∀ o, o ≠ 13 → ψ.1 o = ω.1 o) → ψ.2 = ω.2 → Ok (j_X9_mend_116 (nI i) (nI (cs (trA A) w)) (nI k) ψ) (SumP (fun s => ∃ m', m' < m ∧ ∃ v, v + m' = sgn w k ∧ s.1 = nI (cs (trA A) w) ∧ s.2.1 = nI k ∧ s.2.2.1 14 k = nI v ∧ (∀ j, j < 31 → j < k → s.2.2.1 14 j = nI (sgn w j) ∧ sgn w j < 8) ∧ (∀ j, j < 31 → k < j → s.2.2.1 14 j = -9) ∧ (∀ o, o ≠ 13 → o ≠ 14 → s.2.2.1 o = τ1.1 o) ∧ s.2.2.2 = τ1.2) (fun r => r.1 = nI (cs (trA A) w) ∧ r.2.1 = nI k ∧ (∀ j, j < 31 → j < k + 1 → r.2.2.1 14 j = nI (sgn w j) ∧ sgn w j < 8) ∧ (∀ j, j < 31 → k + 1 ≤ j → r.2.2.1 14 j = -9) ∧ (∀ o, o ≠ 13 → o ≠ 14 → r.2.2.1 o = τ1.1 o) ∧ r.2.2.2 = τ1.2)) := by
                intro hv ψ p1 p2
                unfold j_X9_mend_116
                rw [p1 14 (by omega)]
                simp only [gd_ix (show k < 31 by omega) (by omega), n_cl (show k < 2147483648 by omega), k4, n_suc, lt_eq]
                refine Ok.some ⟨m - 1, by omega, v + 1, by omega, rfl, rfl, sI_same _ _ _ _, fun j h1 h2 => ?_, fun j h1 h2 => ?_, fun o o1 o2 => ?_, p2.trans k8⟩
                · show (sI ψ 14 k (nI (v + 1))).1 14 j = _ ∧ _
                  rw [sI_slot (by omega), p1 14 (by omega)]; exact k5 j h1 h2
                · show (sI ψ 14 k (nI (v + 1))).1 14 j = _
                  rw [sI_slot (by omega), p1 14 (by omega)]; exact k6 j h1 h2
                · show (sI ψ 14 k (nI (v + 1))).1 o = _
                  rw [sI_o o2, p1 o o1]; exact k7 o o1 o2
              unfold b_X9_mend_85
              rw [gd_ix (by omega) (by omega), n_3, gd_ix (by omega) (by omega)]
              simp only [n_cl (show k < 2147483648 by omega), n_cl (show 3 + k < 2147483648 by omega), k4, hM.1.2 k hkl, arms_R (show v < 2147483648 by omega), arms_R (show sgn (trA A) k < 2147483648 by omega), armsN_inj]
              by_cases ca : armsN v = armsN (sgn (trA A) k)
              · rw [if_pos ca]
                refine Ok.bind (costAll_R hM hw hne hrl hll ho hg (by rw [k7 7 (by omega) (by omega)]; exact h71)) ?_
                rintro ⟨x, ψ⟩ ⟨⟨c, d1, d2, d3⟩, d4, d5⟩
                simp only at d1 d4 d5
                subst d1
                show Ok (if nI c = nI (cs (trA A) w) then some (Sum.inr (nI (cs (trA A) w), nI k, ψ)) else j_X9_mend_116 (nI i) (nI (cs (trA A) w)) (nI k) ψ) _
                simp only [n_eq (show c < 2147483648 by omega) (show cs (trA A) w < 2147483648 by omega)]
                by_cases cv : v = sgn w k
                · have ec : c = cs (trA A) w := cost_least hl l1 lw ((cpt_iff _ _ _).mpr (fun j hj => by
                    rw [Nat.zero_add]
                    unfold stV
                    by_cases z1 : j < k
                    · rw [if_pos z1]; exact Or.inr rfl
                    · rw [if_neg z1]
                      by_cases z2 : j = k
                      · rw [if_pos z2, z2, cv]; exact Or.inr rfl
                      · rw [if_neg z2]; exact Or.inl rfl)) d3
                  rw [if_pos ec]
                  refine Ok.some ⟨rfl, rfl, fun j h1 h2 => ?_, fun j h1 h2 => ?_, fun o o1 o2 => (d4 o o1).trans (k7 o o1 o2), d5.trans k8⟩
                  · show ψ.1 14 j = _ ∧ _
                    rw [d4 14 (by omega)]
                    by_cases z2 : j = k
                    · rw [z2, ← cv]; exact ⟨k4, by omega⟩
                    · exact k5 j h1 (by omega)
                  · show ψ.1 14 j = _
                    rw [d4 14 (by omega)]; exact k6 j h1 (by omega)
                · have ne := cost_more hrl nd hl lw hkl (by omega) ca d3
                  rw [if_neg ne]
                  exact more (by omega) ψ d4 d5
              · rw [if_neg ca]
                have cv : v ≠ sgn w k := fun e => ca (by rw [e]; exact w2)
                exact more (by omega) ω (fun _ _ => rfl) rfl
            · show (sI υ 14 k 0).1 14 j = _ ∧ _
              rw [sI_slot (by omega)]; exact f3 j h1 h2
            · show (sI υ 14 k 0).1 14 j = _
              rw [sI_slot (by omega)]; exact f4 j h1 (by omega)
            · show (sI υ 14 k 0).1 o = _
              rw [sI_o o2]; exact f5 o o1 o2
          · rintro ⟨v2, v3, ω⟩ ⟨k1, k2, k3, k4, k5, k6⟩
            simp only at k1 k2 k3 k4 k5 k6
            subst k1 k2
            exact Ok.lt (Ok.some ⟨rfl, n_suc k, k3, k4, k5, k6⟩)
        · rintro ⟨v2, v3, υ⟩ ⟨f1, f2, f3, f4, f5, f6⟩
          simp only at f1 f2 f3 f4 f5 f6
          subst f1 f2
          show Ok (b_X9_mend_73 (nI i) (nI (cs (trA A) w)) (nI (i + 1)) υ) _
          unfold b_X9_mend_73
          rw [if_pos (by rw [n_lt (by omega) (by omega)]; omega)]
          refine Ok.some ⟨rfl, fun j hj e => ?_, f5, f6⟩
          rw [n_eq (by omega) (by omega)] at e
          subst e
          exact (f3 i (by omega) (by omega)).1
        · show τ2.1 14 j = -9
          rw [c4 14 (by omega)]; exact e1 j hj
    refine Ok.bind outer ?_
    rintro ⟨v, υ⟩ ⟨f1, f2, f3, f4⟩
    simp only at f1 f2 f3 f4
    subst f1
    have rr : RepR A υ := by
      have eo : ∀ o, o ≠ 10 → o ≠ 13 → o ≠ 14 → υ.1 o = ρ.1 o := fun o o1 o2 o3 => ((f3 o o2 o3).trans (e2 o o3)).trans (g2 o o1)
      exact h.scr (by rw [eo 0 (by omega) (by omega) (by omega)]) (fun o o1 o2 => eo o (by omega) (by omega) (by omega)) (by rw [f4, e3, g3])
    rcases ha with rfl | ⟨i, hi, rfl⟩
    · rw [if_neg (by decide)]
      exact Ok.some ⟨fun _ => rfl, fun i hi e => absurd e.symm (neg1 i hi), rr⟩
    · rw [if_pos (by rw [n_nn (by omega)]; trivial), gd_ix (by omega) (by omega), n_cl (by omega)]
      refine Ok.some ⟨fun e => absurd e (neg1 i hi), fun j hj e => ?_, rr⟩
      rw [n_eq (by omega) (by omega)] at e
      subst e
      exact f2 i hi rfl
theorem mend_R9 {A : AS} {ρ : Mem} (h : RepR A ρ) (hA : WfA A) (hne : 0 < (trA A).length) (no : ∀ w, ¬ gdW (rlA A) (onA A) (trA A) (gdA A) 6 w) {a : Int32} (inb : f_X9_in a (-1) (nI (trA A).length - 1) = 1) : Ok (f_X9_mend a ρ) (fun r => r.1 = -9 ∧ RepR A r.2) := by
  have hw := hA.2.2.2.2.2.2.1
  have hl := hw.2.1
  unfold f_X9_mend
  rw [show (2 : Int32).toNatClampNeg = 2 from rfl, h.sg.1, inb, if_neg (by decide), if_neg (by rw [show (0 : Int32) = nI 0 from rfl, n_eq (by omega) (by omega)]; omega)]
  refine Ok.bind (parts_R h.sg hw) ?_
  rintro τ0 ⟨g1, g2, g3⟩
  refine Ok.bind (P := fun τ => (∀ j, j < 31 → τ.1 14 j = -9) ∧ (∀ o, o ≠ 14 → τ.1 o = τ0.1 o) ∧ τ.2 = τ0.2) ?_ ?_
  · refine Ok.for 31 (fun k s => s.1 = nI k ∧ (∀ j, j < k → s.2.1 14 j = -9) ∧ (∀ o, o ≠ 14 → s.2.1 o = τ0.1 o) ∧ s.2.2 = τ0.2) ?_ ?_ 0 (by omega) _ ⟨rfl, fun j hj => by omega, fun o _ => rfl, rfl⟩
    · rintro k ⟨v, τ⟩ hk ⟨e1, e2, e3, e4⟩
      simp only at e1 e2 e3 e4
      subst e1
      show Ok (b_X9_mend_36 a (nI k) τ) _
      unfold b_X9_mend_36
      rw [if_neg (by rw [show (31 : Int32) = nI 31 from rfl, n_le (by omega) (by omega)]; omega)]
      simp only [gd_ix hk (show 31 < 2147483648 by omega), n_cl (show k < 2147483648 by omega), lt_eq, n_suc]
      refine Ok.some ⟨rfl, fun j hj => ?_, fun o ho => ?_, e4⟩
      · show (sI τ 14 k (-9)).1 14 j = -9
        by_cases c : j = k
        · rw [c]; exact sI_same _ _ _ _
        · rw [sI_slot c]; exact e2 j (by omega)
      · show (sI τ 14 k (-9)).1 o = _
        rw [sI_o ho]; exact e3 o ho
    · rintro ⟨v, τ⟩ ⟨e1, e2, e3, e4⟩
      simp only at e1 e2 e3 e4
      subst e1
      show Ok (b_X9_mend_36 a (nI 31) τ) _
      unfold b_X9_mend_36
      rw [if_pos (by decide)]
      exact Ok.some ⟨e2, e3, e4⟩
  · rintro τ1 ⟨e1, e2, e3⟩
    have M1 : RefM τ1 (rlA A) (onA A) (trA A) (fun _ => none) := by
      have eo : ∀ o, o ≠ 10 → o ≠ 14 → τ1.1 o = ρ.1 o := fun o o1 o2 => (e2 o o2).trans (g2 o o1)
      exact ⟨⟨by rw [eo 7 (by omega) (by omega)]; exact h.sg.1, by rw [eo 7 (by omega) (by omega)]; exact h.sg.2⟩, by rw [eo 2 (by omega) (by omega)]; exact h.2.1.1, h.2.1.2.cg (eo 3 (by omega) (by omega)) (eo 4 (by omega) (by omega)) (eo 5 (by omega) (by omega)) (eo 6 (by omega) (by omega)), by rw [eo 7 (by omega) (by omega)]; exact h.2.2.1.1, by rw [e2 10 (by omega)]; exact g1, fun j hj => e1 j hj⟩
    have h71 : τ1.1 7 1 = nI (gdA A) := by rw [e2 7 (by omega), g2 7 (by omega)]; exact h.2.2.1.2.1
    refine Ok.bind (costAll_R M1 hw hne hA.2.2.1 hA.2.2.2.1 hA.2.2.2.2.1 hA.2.2.2.2.2.1 h71) ?_
    rintro ⟨v, τ2⟩ ⟨⟨c, c1, c2, c3⟩, c4, c5⟩
    simp only at c1 c4 c5
    subst c1
    have hc : c = 999 := by
      rcases c3 with ⟨z, _⟩ | ⟨_, ⟨u, z, _⟩, _⟩
      · exact z
      · exact absurd z.1 (no u)
    subst hc
    refine Ok.lt ?_
    show Ok (if nI 999 < 999 then _ else some ((-9 : Int32), τ2)) _
    rw [if_neg (by decide)]
    refine Ok.some ⟨rfl, ?_⟩
    have eo : ∀ o, o ≠ 10 → o ≠ 13 → o ≠ 14 → τ2.1 o = ρ.1 o := fun o o1 o2 o3 => ((c4 o o2).trans (e2 o o3)).trans (g2 o o1)
    exact h.scr (by rw [eo 0 (by omega) (by omega) (by omega)]) (fun o o1 o2 => eo o (by omega) (by omega) (by omega)) (by rw [c5, e3, g3])
theorem mend_RC {A : AS} {σ ρ : Mem} (h : RepC A σ) (g : RepR A ρ) (hA : WfA A) (a : Int32) : Both A σ (f_X8_mend a σ) (f_X9_mend a ρ) := by
  have hw := hA.2.2.2.2.2.2.1
  have hl := hw.2.1
  have cls : (a = -1 ∨ ∃ i, i < (trA A).length ∧ a = nI i) → f_X8_mend a σ = j_X8_mend_18 a σ := by
    intro z
    unfold f_X8_mend
    by_cases c : a = -1
    · rw [if_pos c]
    · rcases z with z | ⟨i, hi, rfl⟩
      · exact absurd z c
      · rw [if_neg c, has_yes h.2.2.2.2.1.1 hl hi, if_neg (by decide)]
  have main : f_X9_in a (-1) (nI (trA A).length - 1) = 1 → (a = -1 ∨ ∃ i, i < (trA A).length ∧ a = nI i) → Both A σ (f_X8_mend a σ) (f_X9_mend a ρ) := by
    intro inb z
    by_cases hne : (trA A).length = 0
    · refine ⟨-2, A, σ, ρ, ?_, ?_, h, g, hA, rfl, PF.rf⟩
      · rw [cls z]
        unfold j_X8_mend_18
        rw [h.2.2.2.2.1.1, hne, if_pos (by decide)]
      · unfold f_X9_mend
        rw [show (2 : Int32).toNatClampNeg = 2 from rfl, g.sg.1, inb, if_neg (by decide), hne, if_pos (by decide)]
    · obtain ⟨⟨v, σ'⟩, c1, c2, c3, c4⟩ := mend18_C h hA (by omega) z
      rw [← cls z] at c1
      simp only at c2 c3 c4
      rcases c2 with ⟨rfl, c2⟩ | ⟨w, w1, w2, w3⟩
      · obtain ⟨⟨v', ρ'⟩, r1, r2, r3⟩ := mend_R9 g hA (by omega) c2 inb
        have r2 : v' = -9 := r2
        subst r2
        exact ⟨-9, A, σ', ρ', c1, r1, c3, r3, hA, rfl, c4⟩
      · obtain ⟨⟨v', ρ'⟩, r1, r2, r3, r4⟩ := mend_R g hA (by omega) w1 z
        simp only at r2 r3 r4
        have e : v' = v := by
          rcases z with z | ⟨i, hi, z⟩
          · rw [w2 z, r2 z]
          · rw [w3 i hi z, r3 i hi z]
        subst e
        exact ⟨v', A, σ', ρ', c1, r1, c3, r4, hA, rfl, c4⟩
  rcases mend_in hl a with ⟨e1, e2⟩ | ⟨i, hi, e1, e2⟩ | ⟨e1, e2, e3⟩
  · exact main e2 (Or.inl e1)
  · exact main e2 (Or.inr ⟨i, hi, e1⟩)
  · refine ⟨-1, A, σ, ρ, ?_, ?_, h, g, hA, rfl, PF.rf⟩
    · unfold f_X8_mend
      rw [if_neg e1]
      rcases hasT_C h.2.2.2.2.1.1 hl a with ⟨j, j1, j2, _⟩ | ⟨_, j1⟩
      · exact absurd j2 (e2 j j1)
      · rw [j1, if_pos (by decide)]
    · unfold f_X9_mend
      rw [show (2 : Int32).toNatClampNeg = 2 from rfl, g.sg.1, e3, if_pos (by decide)]
