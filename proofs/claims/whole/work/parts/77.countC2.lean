/-! the class's tally, all of it -/
theorem two_sum {N m : Nat} (c : Nat → Nat → Nat) (k : Nat → Nat → Nat) (c0 : ∀ r, c 0 r = 0) : sumN (fun p => sumN (fun r => sumN (fun j => c j p * c (m - j) r) (m + 1) * k p r) N) N = sumN (fun j => sumN (fun p => c j p * sumN (fun r => c (m - j) r * k p r) N) N) m := by
  have e1 : ∀ p, sumN (fun r => sumN (fun j => c j p * c (m - j) r) (m + 1) * k p r) N = sumN (fun j => c j p * sumN (fun r => c (m - j) r * k p r) N) m := by
    intro p
    have a : ∀ r, r < N → sumN (fun j => c j p * c (m - j) r) (m + 1) * k p r = sumN (fun j => c j p * (c (m - j) r * k p r)) m := by
      intro r _
      rw [sumN, Nat.sub_self, c0, Nat.mul_zero, Nat.add_zero, Nat.mul_comm, ← sumN_mul]
      exact sumN_ext (fun j _ => by rw [Nat.mul_comm, Nat.mul_assoc])
    rw [sumN_ext a, sumN_swap]
    exact sumN_ext (fun j _ => sumN_mul _ _ _)
  rw [sumN_ext (fun p _ => e1 p), sumN_swap]
def TT (st : Nat → PX → PX → PX) (xs : Nat → PX) (n : Nat) : Nat → Nat → Nat := fun q k => if k < n then cnV st k (xs q) else 0
theorem TT_lt {st : Nat → PX → PX → PX} {xs : Nat → PX} {n q k : Nat} (h : k < n) : TT st xs n q k = cnV st k (xs q) := if_pos h
theorem TT_ge {st : Nat → PX → PX → PX} {xs : Nat → PX} {n q k : Nat} (h : n ≤ k) : TT st xs n q k = 0 := if_neg (by omega)
theorem TT_step {st : Nat → PX → PX → PX} {xs : Nat → PX} {n q k : Nat} {f : Nat → Nat} (h : f q = cnV st n (xs q)) : addC (TT st xs n) n f q k = TT st xs (n + 1) q k := by
  unfold addC
  by_cases c : k = n
  · subst c
    rw [if_pos rfl, TT_ge (Nat.le_refl _), TT_lt (by omega), h, Nat.zero_add]
  · rw [if_neg c]
    by_cases d : k < n
    · rw [TT_lt d, TT_lt (by omega)]
    · rw [TT_ge (by omega), TT_ge (by omega)]
theorem addLeaves_C {σ : Mem} {st : Nat → PX → PX → PX} {N : Nat} {xs : Nat → PX} (hN : N ≤ 120) (hd : ∀ i j, i < N → j < N → xs i = xs j → i = j) (hU : ∀ s, s < 4 → U0 σ st N xs s) : Ok (f_X5_addLeaves σ) (fun τ => TA τ 23 adC N (TT st xs 2) ∧ FrJ 23 σ τ) := by
  unfold f_X5_addLeaves
  refine Ok.bind (P := fun τ => TA τ 23 adC N (fun _ _ => 0) ∧ FrJ 23 σ τ) ?_ ?_
  · refine Ok.for 2048 (fun k s => s.1 = nI k ∧ (∀ j, j < k → s.2.2.1 23 j = 0) ∧ FrJ 23 σ s.2) ?_ ?_ 0 (by omega) _ ⟨rfl, fun j hj => by omega, FrJ.rf⟩
    · rintro k ⟨_, τ⟩ hk ⟨rfl, hz, fr⟩
      simp only at hz fr
      show Ok (b_X5_addLeaves_2 (nI k) τ) _
      unfold b_X5_addLeaves_2
      rw [show (2048 : Int32) = nI 2048 from rfl, if_neg (by rw [n_le (by omega) (by omega)]; omega), gd_ix (by omega) (by omega), n_cl (by omega)]
      refine Ok.lt (Ok.lt (Ok.some ⟨n_suc k, fun j hj => ?_, fr.tr FrJ.sJ⟩))
      show (sJ τ 23 k 0).2.1 23 j = 0
      by_cases c : j = k
      · rw [c, sJ_same]
      · rw [sJ_slot c]; exact hz j (by omega)
    · rintro ⟨_, τ⟩ ⟨rfl, hz, fr⟩
      simp only at hz fr
      show Ok (b_X5_addLeaves_2 (nI 2048) τ) _
      unfold b_X5_addLeaves_2
      rw [if_pos (by decide)]
      exact Ok.some ⟨fun q k hq hk => hz _ (by unfold adC; omega), fr⟩
  · rintro τ ⟨hT, fr⟩
    refine Ok.bind (P := fun υ => TA υ 23 adC N (TT st xs 2) ∧ FrJ 23 σ υ) ?_ (fun υ hυ => Ok.some hυ)
    refine Ok.for 4 (fun k s => s.1 = nI k ∧ TA s.2 23 adC N (addC (fun _ _ => 0) 1 (fun q => sumN (fun s => i01 (st s zX zX = xs q)) k)) ∧ FrJ 23 σ s.2) ?_ ?_ 0 (by omega) _ ⟨rfl, ?_, fr⟩
    · rintro k ⟨_, υ⟩ hk ⟨rfl, hυ, fυ⟩
      simp only at hυ fυ
      show Ok (b_X5_addLeaves_24 (nI k) υ) _
      obtain ⟨e, e1, e2, e3⟩ := hU k hk
      unfold b_X5_addLeaves_24
      rw [show (4 : Int32) = nI 4 from rfl, if_neg (by rw [n_le (by omega) (by omega)]; omega), gd_ix (by omega) (by omega), n_cl (by omega), fυ.1, e2, show (16 : Int32) = nI 16 from rfl, n_mul, show (1 : Int32) = nI 1 from rfl, n_add, gd_ix (by omega) (by omega), gd_ix (by omega) (by omega), n_cl (by omega)]
      refine Ok.lt (Ok.lt (Ok.some ⟨n_suc k, ?_, fυ.tr FrJ.sJ⟩))
      have := TA.add (v := 1) hυ (adC_inj N) e1 (show 1 < 16 by omega)
      rw [addC_add] at this
      refine TA.cg this (fun q hq => ?_)
      rw [sumN, hit hd e1 hq e3, Nat.one_mul]
    · rintro ⟨_, υ⟩ ⟨rfl, hυ, fυ⟩
      simp only at hυ fυ
      show Ok (b_X5_addLeaves_24 (nI 4) υ) _
      unfold b_X5_addLeaves_24
      rw [if_pos (by decide)]
      refine Ok.some ⟨hυ.ext (fun q k hq hk => ?_), fυ⟩
      unfold addC
      by_cases c : k = 1
      · rw [if_pos c, TT_lt (by omega), c, cnV_1, Nat.zero_add]
      · rw [if_neg c]
        by_cases d : k < 2
        · rw [TT_lt d, show k = 0 by omega, cnV_z]
        · rw [TT_ge (by omega)]
    · show TA τ 23 adC N (addC (fun _ _ => 0) 1 (fun _ => 0))
      rw [addC_0]; exact hT
/-- all but the tally has stayed -/
def FrT (σ τ : Mem) : Prop := (∀ o, o ≠ 22 → τ.1 o = σ.1 o) ∧ τ.2.2 = σ.2.2 ∧ ∀ o, o ≠ 23 → τ.2.1 o = σ.2.1 o
theorem FrT.rf {σ : Mem} : FrT σ σ := ⟨fun _ _ => rfl, rfl, fun _ _ => rfl⟩
theorem FrT.tr {σ τ υ : Mem} (h : FrT σ τ) (g : FrT τ υ) : FrT σ υ := ⟨fun o ho => (g.1 o ho).trans (h.1 o ho), g.2.1.trans h.2.1, fun o ho => (g.2.2 o ho).trans (h.2.2 o ho)⟩
def TaF (σ : Mem) (st : Nat → PX → PX → PX) (N : Nat) (xs : Nat → PX) : Prop := ∀ q k, q < N → k < 16 → σ.2.1 23 (q * 16 + k) = nJ (cnV st k (xs q))
theorem treesOf_C {σ : Mem} {rl : List Ru} {on on' N p k : Nat} {xs : Nat → PX} {z : Nat → Nat} {W : Nat → List Nat} {F : Nat → Bool} (hI : LrI σ rl on on' N xs z W F) (hl : ∀ p, p < N → Lst (stX rl on on') (xs p) (z p) (W p)) (ht : TbC σ (stX rl on on') N xs (fun _ => True) (fun _ => True) (fun _ _ => True)) (hT : σ.1 22 2 = 0 ∨ TaF σ (stX rl on on') N xs) (hp : p < N) (hk : k < 16) : Ok (f_X5_treesOf (nI p) (nI k) σ) (fun r => r.1 = nJ (cnV (stX rl on on') k (xs p)) ∧ TaF r.2 (stX rl on on') N xs ∧ FrT σ r.2) := by
  have hN := hI.1.2.2.1
  have h17 := hI.1.2.1.2.2
  have hls := hI.1.2.2.2.1
  have hd := hls.1
  have hcl := ht.cl
  have hz : ∀ p, p < N → 1 ≤ z p ∧ z p ≤ 32 := by
    intro p hp
    obtain ⟨s, o1, o2, _, _, _, _, _, _, _, z1, z2, _⟩ := hI.2 p hp
    exact ⟨z2, by rw [z1]; omega⟩
  have h13 : ∀ p, p < N → σ.1 13 p = nI (z p) := by
    intro p hp
    obtain ⟨s, o1, o2, _, a, _⟩ := hI.2 p hp
    exact a
  have h0 : ∀ p j, p < N → j < z p → cnV (stX rl on on') j (xs p) = 0 := by
    intro p j hp hj
    refine cnV_0 (fun w hw e => ?_)
    have := (hl p hp w hw).1
    omega
  have fin : ∀ τ, TaF τ (stX rl on on') N xs → FrT σ τ → Ok (j_X5_treesOf_46 (nI p) (nI k) τ) (fun r => r.1 = nJ (cnV (stX rl on on') k (xs p)) ∧ TaF r.2 (stX rl on on') N xs ∧ FrT σ r.2) := by
    intro τ hτ fr
    unfold j_X5_treesOf_46
    rw [show (16 : Int32) = nI 16 from rfl, n_mul, n_add, gd_ix (by omega) (by omega), n_cl (by omega)]
    exact Ok.some ⟨hτ p k hp hk, hτ, fr⟩
  unfold f_X5_treesOf
  by_cases c : σ.1 22 2 = 0
  · rw [if_pos c]
    refine Ok.bind (addLeaves_C hN hd (fun s hs => ht.1 s hs trivial)) ?_
    rintro τ ⟨hτ, fr⟩
    refine Ok.bind (P := fun τ => TA τ 23 adC N (TT (stX rl on on') xs 16) ∧ FrJ 23 σ τ) ?_ ?_
    · refine Ok.for 16 (fun n s => 2 ≤ n ∧ s.1 = nI n ∧ TA s.2 23 adC N (TT (stX rl on on') xs n) ∧ FrJ 23 σ s.2) ?_ ?_ 2 (by omega) _ ⟨by omega, rfl, hτ, fr⟩
      · rintro n ⟨_, υ⟩ hn ⟨hn2, rfl, hυ, fυ⟩
        simp only at hυ fυ
        show Ok (b_X5_treesOf_14 (nI p) (nI k) (nI n) υ) _
        unfold b_X5_treesOf_14
        rw [show (16 : Int32) = nI 16 from rfl, if_neg (by rw [n_le (by omega) (by omega)]; omega)]
        refine Ok.bind (addOne_C (st := stX rl on on') (xs := xs) hυ hN (by rw [fυ.1]; exact h17) hd (fun a ha => by unfold U1; rw [fυ.1]; exact ht.2.1 a ha trivial) hn (by omega)) ?_
        rintro υ1 ⟨h1, f1⟩
        refine Ok.bind (addTwo_C (st := stX rl on on') (xs := xs) (z := z) h1 hN (by rw [f1.1, fυ.1]; exact h17) hd (fun a b ha hb => by unfold U2; rw [f1.1, fυ.1]; exact ht.2.2 a b ha hb trivial) (fun a ha => by rw [f1.1, fυ.1]; exact h13 a ha) hz (fun a j ha hj hjz => by rw [addC_ne (by omega), TT_lt hj]; exact h0 a j ha hjz) hn hn2) ?_
        rintro υ2 ⟨h2, f2⟩
        refine Ok.lt (Ok.some ⟨by omega, n_suc n, ?_, fυ.tr (f1.tr f2)⟩)
        rw [addC_add] at h2
        refine h2.ext (fun q j hq hj => TT_step ?_)
        obtain ⟨m, rfl⟩ : ∃ m, n = m + 1 := ⟨n - 1, by omega⟩
        rw [cnV_S hls hcl (show m ≠ 0 by omega)]
        show _ + _ = _
        congr 1
        · exact sumN_ext (fun a _ => by rw [TT_lt (by omega)]; rfl)
        · rw [← two_sum (m := m) (fun j a => cnV (stX rl on on') j (xs a)) (fun a b => i01 (stX rl on on' 6 (xs a) (xs b) = xs q) + i01 (stX rl on on' 7 (xs a) (xs b) = xs q)) (fun _ => rfl)]
          refine sumN_ext (fun a _ => sumN_ext (fun b _ => ?_))
          congr 1
          refine sumN_ext (fun i hi => ?_)
          rw [addC_ne (by omega), addC_ne (by omega), TT_lt (by omega), TT_lt (by omega)]
          rfl
      · rintro ⟨_, υ⟩ ⟨hn2, rfl, hυ, fυ⟩
        simp only at hυ fυ
        show Ok (b_X5_treesOf_14 (nI p) (nI k) (nI 16) υ) _
        unfold b_X5_treesOf_14
        rw [if_pos (by decide)]
        exact Ok.some ⟨hυ, fυ⟩
    · rintro υ ⟨hυ, fυ⟩
      refine Ok.lt (fin _ ?_ ?_)
      · intro q j hq hj
        rw [sI_J, ← TT_lt (n := 16) hj]
        exact hυ q j hq hj
      · refine ⟨fun o ho => ?_, ?_, fun o ho => ?_⟩
        · rw [sI_o ho, fυ.1]
        · rw [sI_R]; exact fυ.2.1
        · rw [sI_J]; exact fυ.2.2 o ho
  · rw [if_neg c]
    rcases hT with hT | hT
    · exact absurd hT c
    · exact fin σ hT FrT.rf
