/-! parts and states of the nodes, on both sides -/
def SgR (ρ : Mem) (t : List Nat) : Prop := ρ.1 7 2 = nI t.length ∧ ∀ j, j < t.length → ρ.1 7 (3 + j) = nI (sgn t j)
theorem RepR.sg {A : AS} {ρ : Mem} (h : RepR A ρ) : SgR ρ (trA A) := ⟨h.2.2.1.2.2.1, fun j hj => by have := h.2.2.1.2.2.2 j hj; rw [show 0 + 3 + j = 3 + j by omega] at this; exact this⟩
theorem n_sub1 (n : Nat) : nI n - 1 = nI n + (-1) := Int32.sub_eq_add_neg _ _
theorem m1_lt0 : nI 0 + (-1) < 0 := by decide
theorem m1_S (k : Nat) : nI (k + 1) + (-1) = nI k := by rw [n_m1 (by omega)]; rfl
theorem n_3 (j : Nat) : (3 : Int32) + nI j = nI (3 + j) := n_add 3 j
theorem n_1a (j : Nat) : (1 : Int32) + nI j = nI (1 + j) := n_add 1 j
theorem WfT.nd {t : List Nat} (h : WfT t) {i : Nat} (hi : i < t.length) : needs 1 t = true := by
  rcases h.2.2 with q | q
  · rw [q] at hi; exact absurd hi (Nat.not_lt_zero i)
  · exact q
theorem not_n0 {k : Nat} (h : k < 2147483648) : ¬ nI k < 0 := by rw [n_neg h]; exact id
theorem parts_R {ρ : Mem} {t : List Nat} (h : SgR ρ t) (hw : WfT t) : Ok (f_X9_findParts ρ) (fun ρ' => (∀ j, j < t.length → ρ'.1 10 j = nI (partL t j)) ∧ (∀ o, o ≠ 10 → ρ'.1 o = ρ.1 o) ∧ ρ'.2 = ρ.2) := by
  have hl := hw.2.1
  unfold f_X9_findParts
  rw [show (2 : Int32).toNatClampNeg = 2 from rfl, h.1, n_sub1]
  refine Ok.lt (Ok.bind (P := fun ρ' => (∀ j, j < t.length → ρ'.1 10 j = nI (partL t j)) ∧ (∀ o, o ≠ 10 → ρ'.1 o = ρ.1 o) ∧ ρ'.2 = ρ.2) ?_ (fun r hr => Ok.some hr))
  refine Ok.down (fun m s => s.1 = nI m + (-1) ∧ m ≤ t.length ∧ (∀ j, m ≤ j → j < t.length → s.2.1 10 j = nI (partL t j)) ∧ (∀ o, o ≠ 10 → s.2.1 o = ρ.1 o) ∧ s.2.2 = ρ.2) ?_ ?_ t.length _ ⟨rfl, Nat.le_refl _, fun j h1 h2 => by omega, fun o _ => rfl, rfl⟩
  · rintro m ⟨v, τ⟩ ⟨e1, e2, e3, e4, e5⟩
    have e1 : v = nI (m + 1) + (-1) := e1
    rw [m1_S] at e1
    subst e1
    have hm : m < t.length := by omega
    have nd := hw.nd hm
    show Ok (b_X9_findParts_9 (nI m) τ) _
    have e7 : τ.1 7 = ρ.1 7 := e4 7 (by omega)
    have h8 := sgn_lt hw hm
    have ha := armsN_le (sgn t m)
    have fin : ∀ p, p = partL t m → Ok (j_X9_findParts_84 (nI m) (nI p) (nI m) (sI τ 10 m 1)) (SumP (fun s => s.1 = nI m + (-1) ∧ m ≤ t.length ∧ (∀ j, m ≤ j → j < t.length → s.2.1 10 j = nI (partL t j)) ∧ (∀ o, o ≠ 10 → s.2.1 o = ρ.1 o) ∧ s.2.2 = ρ.2) (fun ρ' => (∀ j, j < t.length → ρ'.1 10 j = nI (partL t j)) ∧ (∀ o, o ≠ 10 → ρ'.1 o = ρ.1 o) ∧ ρ'.2 = ρ.2)) := by
      rintro p rfl
      unfold j_X9_findParts_84
      rw [gd_ix (by omega) (by omega), n_cl (by omega)]
      refine Ok.lt (Ok.lt (Ok.some ⟨rfl, by omega, fun j h1 h2 => ?_, fun o ho => ?_, e5⟩))
      · rw [sI_get]
        by_cases q : j = m
        · rw [if_pos ⟨rfl, q⟩, q]
        · rw [if_neg (fun w => q w.2), sI_slot q]; exact e3 j (by omega) h2
      · rw [sI_o ho, sI_o ho]; exact e4 o ho
    unfold b_X9_findParts_9
    rw [if_neg (not_n0 (by omega)), n_3, gd_ix (by omega) (by omega), n_cl (by omega), e7, h.2 m hm, arms_R (by omega)]
    refine Ok.lt ?_
    rw [gd_ix (by omega) (by omega), n_cl (by omega)]
    refine Ok.lt ?_
    rcases arms_cases (sgn t m) with a0 | a0 | a0
    · rw [a0, if_pos (by decide)]
      exact fin 1 (part_0 hm a0).symm
    · obtain ⟨p1, p2⟩ := part_1 nd hm a0
      rw [a0, if_neg (by decide), if_pos (by decide), n_suc, gd_ix (by omega) (by omega), n_cl (by omega), sI_slot (by omega), e3 (m + 1) (by omega) p2, n_1a]
      exact fin _ p1.symm
    · obtain ⟨p1, p2⟩ := part_2 nd hm a0
      have q1 := part_le (l := t) (i := m + 1) (by omega)
      have q2 := part_pos (l := t) (i := m + 1) (by omega)
      rw [a0, if_neg (by decide), if_neg (by decide), n_suc, gd_ix (by omega) (by omega)]
      unfold f_X9_second
      rw [n_suc, gd_ix (by omega) (by omega), n_cl (by omega), sI_slot (by omega), e3 (m + 1) (by omega) (by omega), n_add, Option.bind_some, gd_ix (by omega) (by omega), n_cl (by omega), sI_slot (by omega), e3 _ (by omega) p2, n_1a, n_add]
      exact fin _ p1.symm
  · rintro ⟨v, τ⟩ ⟨e1, e2, e3, e4, e5⟩
    have e1 : v = nI 0 + (-1) := e1
    subst e1
    show Ok (b_X9_findParts_9 (nI 0 + (-1)) τ) _
    unfold b_X9_findParts_9
    rw [if_pos m1_lt0]
    exact Ok.some ⟨fun j hj => e3 j (by omega) hj, e4, e5⟩
theorem comes_R {A : AS} {ρ : Mem} (h : RepR A ρ) (hA : WfA A) : Ok (f_X9_findComes ρ) (fun ρ' => (∀ j, j < (trA A).length → ρ'.1 10 j = nI (partL (trA A) j) ∧ ρ'.1 11 j = nI (cmA (rlA A) (onA A) (trA A) j)) ∧ (∀ o, o ≠ 10 → o ≠ 11 → ρ'.1 o = ρ.1 o) ∧ ρ'.2 = ρ.2) := by
  have hw : WfT (trA A) := hA.2.2.2.2.2.2.1
  have hrl := hA.2.2.1
  have hll := hA.2.2.2.1
  have ho := hA.2.2.2.2.1
  have hl := hw.2.1
  have sg := h.sg
  unfold f_X9_findComes
  refine Ok.bind (parts_R sg hw) (fun τ hτ => ?_)
  obtain ⟨g1, g2, g3⟩ := hτ
  rw [show (2 : Int32).toNatClampNeg = 2 from rfl, g2 7 (by omega), sg.1, n_sub1]
  refine Ok.lt (Ok.bind (P := fun ρ' => (∀ j, j < (trA A).length → ρ'.1 10 j = nI (partL (trA A) j) ∧ ρ'.1 11 j = nI (cmA (rlA A) (onA A) (trA A) j)) ∧ (∀ o, o ≠ 10 → o ≠ 11 → ρ'.1 o = ρ.1 o) ∧ ρ'.2 = ρ.2) ?_ (fun r hr => Ok.some hr))
  refine Ok.down (fun m s => s.1 = nI m + (-1) ∧ m ≤ (trA A).length ∧ (∀ j, m ≤ j → j < (trA A).length → s.2.1 11 j = nI (cmA (rlA A) (onA A) (trA A) j)) ∧ (∀ o, o ≠ 11 → s.2.1 o = τ.1 o) ∧ s.2.2 = ρ.2) ?_ ?_ (trA A).length _ ⟨rfl, Nat.le_refl _, fun j h1 h2 => by omega, fun o _ => rfl, g3⟩
  · rintro m ⟨v, υ⟩ ⟨e1, e2, e3, e4, e5⟩
    have e1 : v = nI (m + 1) + (-1) := e1
    rw [m1_S] at e1
    subst e1
    have hm : m < (trA A).length := by omega
    have nd := hw.nd hm
    show Ok (b_X9_findComes_13 (nI m) υ) _
    have e7 : υ.1 7 = ρ.1 7 := (e4 7 (by omega)).trans (g2 7 (by omega))
    have h8 := sgn_lt hw hm
    have ha := armsN_le (sgn (trA A) m)
    have fin : ∀ x y, x < 64 → y < 64 → (1 ≤ armsN (sgn (trA A) m) → x = cmA (rlA A) (onA A) (trA A) (m + 1)) → (2 ≤ armsN (sgn (trA A) m) → y = cmA (rlA A) (onA A) (trA A) (m + 1 + partL (trA A) (m + 1))) → Ok (j_X9_findComes_84 (nI m) (nI (onA A)) (nI (sgn (trA A) m)) (nI x) (nI y) (nI m) υ) (SumP (fun s => s.1 = nI m + (-1) ∧ m ≤ (trA A).length ∧ (∀ j, m ≤ j → j < (trA A).length → s.2.1 11 j = nI (cmA (rlA A) (onA A) (trA A) j)) ∧ (∀ o, o ≠ 11 → s.2.1 o = τ.1 o) ∧ s.2.2 = ρ.2) (fun ρ' => (∀ j, j < (trA A).length → ρ'.1 10 j = nI (partL (trA A) j) ∧ ρ'.1 11 j = nI (cmA (rlA A) (onA A) (trA A) j)) ∧ (∀ o, o ≠ 10 → o ≠ 11 → ρ'.1 o = ρ.1 o) ∧ ρ'.2 = ρ.2)) := by
      intro x y hx hy c1 c2
      have law : LawM υ 3 4 5 6 (rlA A) := h.2.1.2.cg ((e4 3 (by omega)).trans (g2 3 (by omega))) ((e4 4 (by omega)).trans (g2 4 (by omega))) ((e4 5 (by omega)).trans (g2 5 (by omega))) ((e4 6 (by omega)).trans (g2 6 (by omega)))
      unfold j_X9_findComes_84
      rw [makes_R (by rw [e4 2 (by omega), g2 2 (by omega)]; exact h.2.1.1) law hrl hll ho h8 hx hy, Option.bind_some, gd_ix (by omega) (by omega), n_cl (by omega)]
      refine Ok.lt (Ok.lt (Ok.some ⟨rfl, by omega, fun j h1 h2 => ?_, fun o ho => ?_, e5⟩))
      · rw [sI_get]
        by_cases q : j = m
        · rw [if_pos ⟨rfl, q⟩, q, cmA, upA_get _ _ hm, outc_cg c1 c2]
          rfl
        · rw [if_neg (fun w => q w.2)]; exact e3 j (by omega) h2
      · rw [sI_o ho]; exact e4 o ho
    unfold b_X9_findComes_13
    rw [if_neg (not_n0 (by omega))]
    simp only [n_3, gd_ix (show 3 + m < 102 by omega) (by omega), n_cl (show 3 + m < 2147483648 by omega), e7, sg.2 m hm, arms_R (show sgn (trA A) m < 2147483648 by omega), show (0 : Int32).toNatClampNeg = 0 from rfl, h.2.2.1.1]
    refine Ok.lt ?_
    have second : armsN (sgn (trA A) m) = 2 → f_X9_second (nI m) υ = some (nI (m + 1 + partL (trA A) (m + 1))) := by
      intro a0
      obtain ⟨p1, p2⟩ := part_2 nd hm a0
      unfold f_X9_second
      rw [n_suc, gd_ix (by omega) (by omega), n_cl (by omega), e4 10 (by omega), g1 (m + 1) (by omega), n_add]
    rcases arms_cases (sgn (trA A) m) with a0 | a0 | a0
    · rw [a0, if_pos (by decide)]
      unfold j_X9_findComes_65
      rw [if_pos (by decide)]
      exact fin 0 0 (by omega) (by omega) (fun q => by omega) (fun q => by omega)
    · obtain ⟨p1, p2⟩ := part_1 nd hm a0
      rw [a0, if_neg (by decide), n_suc, gd_ix (by omega) (by omega), n_cl (by omega), e3 (m + 1) (by omega) p2]
      unfold j_X9_findComes_65
      rw [if_pos (by decide)]
      exact fin _ 0 (cmA_lt hrl _ _ _) (by omega) (fun q => rfl) (fun q => by omega)
    · obtain ⟨p1, p2⟩ := part_2 nd hm a0
      have q2 := part_pos (l := trA A) (i := m + 1) (by omega)
      rw [a0, if_neg (by decide), n_suc, gd_ix (by omega) (by omega), n_cl (by omega), e3 (m + 1) (by omega) (by omega)]
      unfold j_X9_findComes_65
      rw [if_neg (by decide), second a0, Option.bind_some, gd_ix (by omega) (by omega), n_cl (by omega), e3 _ (by omega) p2]
      exact fin _ _ (cmA_lt hrl _ _ _) (cmA_lt hrl _ _ _) (fun q => rfl) (fun q => rfl)
  · rintro ⟨v, υ⟩ ⟨e1, e2, e3, e4, e5⟩
    have e1 : v = nI 0 + (-1) := e1
    subst e1
    show Ok (b_X9_findComes_13 (nI 0 + (-1)) υ) _
    unfold b_X9_findComes_13
    rw [if_pos m1_lt0]
    exact Ok.some ⟨fun j hj => ⟨by rw [e4 10 (by omega)]; exact g1 j hj, e3 j (by omega) hj⟩, fun o o1 o2 => (e4 o o2).trans (g2 o o1), e5⟩
/-! class -/
theorem has_yes {σ : Mem} {t n j : Nat} (h : σ.1 t 4 = nI n) (hn : n ≤ 31) (hj : j < n) : f_X7_has t (nI j) σ = 1 := by
  rcases hasT_C h hn (nI j) with ⟨_, _, _, h1⟩ | ⟨h1, _⟩
  · exact h1
  · exact absurd rfl (h1 j hj)
theorem has_no {σ : Mem} {t n j : Nat} (h : σ.1 t 4 = nI n) (hn : n ≤ 31) (hj : n ≤ j) (hj2 : j < 2147483648) : f_X7_has t (nI j) σ = 0 := by
  rcases hasT_C h hn (nI j) with ⟨i, hi, e, _⟩ | ⟨_, h1⟩
  · rw [n_eq (by omega) (by omega)] at e
    omega
  · exact h1
theorem second_C {σ : Mem} {t : Nat} {l : List Nat} (h : TreeC σ t l) (hl : l.length ≤ 31) {i : Nat} (hi : i < l.length) : ∃ p, p ≤ l.length ∧ f_X7_secondArm t (nI i) σ = some (nI p) ∧ (i + 1 < l.length → p = i + 1 + partL l (i + 1)) ∧ (l.length ≤ i + 1 → p = l.length) := by
  unfold f_X7_secondArm
  rw [n_suc]
  by_cases q : i + 1 < l.length
  · have := part_le (l := l) (i := i + 1) (by omega)
    refine ⟨i + 1 + partL l (i + 1), by omega, ?_, fun _ => rfl, fun w => by omega⟩
    rw [has_yes h.1 hl q, if_neg (by decide), gd_ix (by omega) (by omega), n_cl (by omega), (h.2 _ q).2.1, n_add]
  · refine ⟨l.length, by omega, ?_, fun w => by omega, fun _ => rfl⟩
    rw [has_no h.1 hl (by omega) (by omega), if_pos (by decide), h.1]
theorem come_C {σ : Mem} {t1 t2 : Nat} {l : List Nat} {rl : List Ru} {on : Nat} (hT : TreeC σ t1 l) (hL : LawC σ t2 rl) (hw : WfT l) (hrl : ∀ r ∈ rl, OkRu r) (hll : rl.length ≤ 16) (ho : on < 65536) (d1 : 5 < t1) (d2 : 5 < t2) : Ok (f_X0_come t1 t2 (nI on) σ) (fun σ' => (∀ j, j < l.length → σ'.1 5 j = nI (cmA rl on l j)) ∧ (∀ o, o ≠ 5 → σ'.1 o = σ.1 o) ∧ σ'.2 = σ.2) := by
  have hl := hw.2.1
  unfold f_X0_come
  rw [hT.1, n_sub1]
  refine Ok.lt (Ok.bind (P := fun σ' => (∀ j, j < l.length → σ'.1 5 j = nI (cmA rl on l j)) ∧ (∀ o, o ≠ 5 → σ'.1 o = σ.1 o) ∧ σ'.2 = σ.2) ?_ (fun r hr => Ok.some hr))
  refine Ok.down (fun m s => s.1 = nI m + (-1) ∧ m ≤ l.length ∧ (∀ j, m ≤ j → j < l.length → s.2.1 5 j = nI (cmA rl on l j)) ∧ (∀ o, o ≠ 5 → s.2.1 o = σ.1 o) ∧ s.2.2 = σ.2) ?_ ?_ l.length _ ⟨rfl, Nat.le_refl _, fun j h1 h2 => by omega, fun o _ => rfl, rfl⟩
  · rintro m ⟨v, υ⟩ ⟨e1, e2, e3, e4, e5⟩
    have e1 : v = nI (m + 1) + (-1) := e1
    rw [m1_S] at e1
    subst e1
    have hm : m < l.length := by omega
    show Ok (b_X0_come_8 t1 t2 (nI on) (nI m) υ) _
    have hT' : TreeC υ t1 l := hT.cg (fun o h1 h2 => e4 o (by omega))
    have hL' : LawC υ t2 rl := hL.cg (fun o h1 h2 => e4 o (by omega))
    have cof : ∀ p, m < p → p < 2147483648 → f_X0_comesOf t1 (nI p) υ = some (nI (cmA rl on l p)) := by
      intro p h1 h2
      unfold f_X0_comesOf
      by_cases q : p < l.length
      · rw [has_yes hT'.1 hl q, if_neg (by decide), gd_ix (by omega) (by omega), n_cl h2, e3 p (by omega) q]
      · rw [has_no hT'.1 hl (by omega) h2, if_pos (by decide), cmA, upA_out _ _ (by omega)]
        rfl
    obtain ⟨p, p1, p2, p3, p4⟩ := second_C hT' hl hm
    have pm : m < p ∧ cmA rl on l p = cmA rl on l (m + 1 + partL l (m + 1)) := by
      by_cases q : m + 1 < l.length
      · rw [p3 q]; exact ⟨by omega, rfl⟩
      · rw [p4 (by omega)]
        refine ⟨hm, ?_⟩
        unfold cmA
        rw [upA_out _ _ (Nat.le_refl _), upA_out _ _ (by omega)]
    unfold b_X0_come_8
    rw [if_neg (not_n0 (by omega)), gd_ix (by omega) (by omega), n_suc, cof (m + 1) (by omega) (by omega), Option.bind_some, p2, Option.bind_some, cof p pm.1 (by omega), Option.bind_some]
    simp only [gd_ix (show m < 31 by omega) (by omega), n_cl (show m < 2147483648 by omega), (hT'.2 m hm).1]
    rw [outc_C hL' hrl hll ho (sgn_lt hw hm) (cmA_lt hrl _ _ _) (cmA_lt hrl _ _ _), Option.bind_some]
    refine Ok.lt (Ok.lt (Ok.some ⟨rfl, by omega, fun j h1 h2 => ?_, fun o ho => ?_, e5⟩))
    · rw [sI_get]
      by_cases q : j = m
      · rw [if_pos ⟨rfl, q⟩, q, pm.2]
        show _ = nI (upA (outc rl on) 0 l m)
        rw [upA_get _ _ hm]
        rfl
      · rw [if_neg (fun w => q w.2)]; exact e3 j (by omega) h2
    · rw [sI_o ho]; exact e4 o ho
  · rintro ⟨v, υ⟩ ⟨e1, e2, e3, e4, e5⟩
    have e1 : v = nI 0 + (-1) := e1
    subst e1
    show Ok (b_X0_come_8 t1 t2 (nI on) (nI 0 + (-1)) υ) _
    unfold b_X0_come_8
    rw [if_pos m1_lt0]
    exact Ok.some ⟨fun j hj => e3 j (by omega) hj, e4, e5⟩
