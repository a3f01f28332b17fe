/-! the reference's reading of a law -/
def FrR (ρ τ : Mem) : Prop := τ.1 0 2 = ρ.1 0 2 ∧ (∀ o, o = 1 ∨ 7 ≤ o → τ.1 o = ρ.1 o) ∧ τ.1 2 0 = ρ.1 2 0 ∧ (∀ o j, 3 ≤ o → o ≤ 6 → j < 16 → τ.1 o j = ρ.1 o j) ∧ τ.2 = ρ.2
theorem FrR.rf {ρ : Mem} : FrR ρ ρ := ⟨rfl, fun _ _ => rfl, rfl, fun _ _ _ _ _ => rfl, rfl⟩
theorem FrR.tr {ρ τ υ : Mem} (h : FrR ρ τ) (g : FrR τ υ) : FrR ρ υ := ⟨g.1.trans h.1, fun o ho => (g.2.1 o ho).trans (h.2.1 o ho), g.2.2.1.trans h.2.2.1, fun o j h1 h2 h3 => (g.2.2.2.1 o j h1 h2 h3).trans (h.2.2.2.1 o j h1 h2 h3), g.2.2.2.2.trans h.2.2.2.2⟩
theorem FrZ.frR {L : List Nat} {ρ τ : Mem} (h : FrZ L ρ τ) (h2 : 2 ∉ L) : FrR ρ τ := ⟨h.1 2 h2, fun o ho => h.2.1 o (by omega), by rw [h.2.1 2 (by omega)], fun o j h1 _ _ => by rw [h.2.1 o (by omega)], h.2.2⟩
theorem FrR.row {ρ τ : Mem} {o k : Nat} {v : Int32} (h : FrR ρ τ) (h1 : 3 ≤ o) (h2 : o ≤ 6) (h3 : 16 ≤ k) : FrR ρ (sI τ o k v) := ⟨by rw [sI_off (by omega)]; exact h.1, fun q hq => by rw [sI_o (by omega)]; exact h.2.1 q hq, by rw [sI_off (by omega)]; exact h.2.2.1, fun q j w1 w2 w3 => by rw [sI_get, if_neg (by omega)]; exact h.2.2.2.1 q j w1 w2 w3, h.2.2.2.2⟩
theorem FrR.s0 {ρ τ : Mem} {k : Nat} {v : Int32} (h : FrR ρ τ) (h1 : k ≠ 2) : FrR ρ (sI τ 0 k v) := ⟨by rw [sI_slot (Ne.symm h1)]; exact h.1, fun q hq => by rw [sI_o (by omega)]; exact h.2.1 q hq, by rw [sI_off (by omega)]; exact h.2.2.1, fun q j w1 w2 w3 => by rw [sI_off (by omega)]; exact h.2.2.2.1 q j w1 w2 w3, h.2.2.2.2⟩
theorem FrR.s2 {ρ τ : Mem} {v : Int32} (h : FrR ρ τ) : FrR ρ (sI τ 2 1 v) := ⟨by rw [sI_off (by omega)]; exact h.1, fun q hq => by rw [sI_o (by omega)]; exact h.2.1 q hq, by rw [sI_slot (by omega)]; exact h.2.2.1, fun q j w1 w2 w3 => by rw [sI_off (by omega)]; exact h.2.2.2.1 q j w1 w2 w3, h.2.2.2.2⟩
theorem FrR.tx {ρ τ : Mem} {tx : List Nat} (h : FrR ρ τ) (t : TxR ρ tx) : TxR τ tx := ⟨by rw [h.1]; exact t.1, by rw [h.2.1 1 (Or.inl rfl)]; exact t.2⟩
def LawD (ρ : Mem) (rl : List Ru) : Prop := ∀ j, j < rl.length → ρ.1 3 (16 + j) = nI (ruA rl j).1 ∧ ρ.1 4 (16 + j) = armV (ruA rl j) 1 (ruA rl j).2.1 ∧ ρ.1 5 (16 + j) = armV (ruA rl j) 2 (ruA rl j).2.2.1 ∧ ρ.1 6 (16 + j) = nI (ruA rl j).2.2.2
def RD (ρ : Mem) (rl : List Ru) (g : Nat) : Prop := ρ.1 2 1 = nI rl.length ∧ LawD ρ rl ∧ ρ.1 0 13 = nI g
/-- the reference stands, without a fault, at token p -/
def RS (ρ : Mem) (tx : List Nat) (p : Nat) : Prop := TxR ρ tx ∧ ρ.1 0 12 = -9 ∧ TokR ρ tx p
theorem n_ne9 {q : Nat} (h : q < 2147483648) : ¬ nI q = -9 := by
  intro e
  have := congrArg Int32.toInt e
  rw [n_toInt h] at this
  have e2 : (-9 : Int32).toInt = -9 := by decide
  omega
theorem rkN_lt : ∀ k, k < 6 → rkN k < 6 := by decide
theorem rkN_2 : ∀ k, k < 6 → (rkN k = 2 ↔ k = 3) := by decide
theorem rkN_3 : ∀ k, k < 6 → (rkN k = 3 ↔ k = 4) := by decide
theorem rkN_1 : ∀ k, k < 6 → (rkN k = 1 ↔ k = 2) := by decide
theorem rkN_0 : ∀ k, k < 6 → (rkN k = 0 ↔ k = 1) := by decide
theorem rkN_4 : ∀ k, k < 6 → (rkN k = 4 ↔ k = 0) := by decide
theorem due_F {ρ : Mem} {q : Nat} (h : ρ.1 0 12 = nI q) (hq : q < 2147483648) (a : Int32) : f_X9_due a ρ = some (ρ.1 0 11, ρ) := by
  unfold f_X9_due
  simp only [lt_eq]
  rw [h, if_neg (n_ne9 hq)]
theorem state_F {ρ : Mem} {q : Nat} (h : ρ.1 0 12 = nI q) (hq : q < 2147483648) : f_X9_state ρ = some (ρ.1 0 11, ρ) := by
  unfold f_X9_state j_X9_state_22 j_X9_state_23
  rw [due_F h hq, due_F h hq, Option.bind_some]
  split
  · split <;> rfl
  · rfl
theorem due_Y {ρ : Mem} {tx : List Nat} {p : Nat} (h : RS ρ tx p) (hx : ∀ x ∈ tx, x < 256) (hl : tx.length ≤ 300) (hp : p ≤ tx.length) : Ok (f_X9_due 1 ρ) (fun r => r.1 = ρ.1 0 11 ∧ RS r.2 tx (tkA tx p) ∧ FrZ [8, 9, 10, 11] ρ r.2) := by
  obtain ⟨-, -, -, pa, -⟩ := tk_ok hp
  unfold f_X9_due
  refine Ok.lt ?_
  rw [h.2.1, if_pos (by decide), if_neg (by decide)]
  refine Ok.bind (next_R h.1 hx hl pa h.2.2.2.2.2) (fun τ hτ => Ok.some ⟨rfl, ⟨hτ.2.tx (by decide) h.1, ?_, hτ.1⟩, hτ.2⟩)
  show τ.1 0 12 = -9
  rw [hτ.2.1 12 (by decide)]; exact h.2.1
theorem due_N {ρ : Mem} {tx : List Nat} {p : Nat} (h : RS ρ tx p) : f_X9_due 0 ρ = some (ρ.1 0 11, sI ρ 0 12 (nI (tkS tx p))) := by
  unfold f_X9_due
  simp only [lt_eq]
  rw [h.2.1, if_pos (by decide), if_pos (by decide), h.2.2.1]
theorem state_Y {ρ : Mem} {tx : List Nat} {p : Nat} (h : RS ρ tx p) (hx : ∀ x ∈ tx, x < 256) (hl : tx.length ≤ 300) (hp : p ≤ tx.length) (hs : isSt tx p) : Ok (f_X9_state ρ) (fun r => r.1 = nI (tkV tx p) ∧ RS r.2 tx (tkA tx p) ∧ FrZ [8, 9, 10, 11] ρ r.2) := by
  have hv := h.2.2.2.2.1 (Or.inr hs.1)
  have v6 := hs.2
  unfold f_X9_state j_X9_state_23
  rw [h.2.2.2.1, hs.1, if_pos (by decide), hv, if_neg (by rw [show (6 : Int32) = nI 6 from rfl, n_le (by omega) (by omega)]; omega)]
  refine Ok.bind (due_Y h hx hl hp) (fun r hr => Ok.some ⟨?_, hr.2.1, hr.2.2⟩)
  show r.1 = _
  rw [hr.1, hv]
theorem state_N {ρ : Mem} {tx : List Nat} {p : Nat} (h : RS ρ tx p) (hp : p ≤ tx.length) (hs : ¬ isSt tx p) : f_X9_state ρ = some (ρ.1 0 11, sI ρ 0 12 (nI (tkS tx p))) := by
  obtain ⟨-, -, p6, -, -, -, vv⟩ := tk_ok hp
  unfold f_X9_state j_X9_state_22 j_X9_state_23
  rw [h.2.2.2.1, due_N h, Option.bind_some]
  by_cases c : tkK tx p = 3
  · have hv := h.2.2.2.2.1 (Or.inr c)
    rw [c, if_pos (by decide), hv, if_pos]
    rw [show (6 : Int32) = nI 6 from rfl, n_le (by omega) (by omega)]
    by_cases w : 6 ≤ tkV tx p
    · exact w
    · exact absurd ⟨c, by omega⟩ hs
  · rw [if_neg]
    rw [show (2 : Int32) = nI 2 from rfl, n_eq (by have := rkN_lt _ p6; omega) (by omega), rkN_2 _ p6]
    exact c
/-- faulted: what follows changes nothing that counts -/
def Flt (ρ τ : Mem) (q : Nat) : Prop := FrR ρ τ ∧ τ.1 0 12 = nI q
theorem F219 {ρ : Mem} {q : Nat} (h : ρ.1 0 12 = nI q) (hq : q < 2147483648) : j_X9_readItem_219 ρ = some ρ := by
  unfold j_X9_readItem_219 j_X9_readItem_233
  rw [due_F h hq, due_F h hq, Option.bind_some]
  split <;> rfl
theorem F115 {ρ0 ρ : Mem} {q k : Nat} {y : Int32} (h : Flt ρ0 ρ q) (hq : q < 2147483648) (hk : k < 16) : Ok (j_X9_readItem_115 (nI (16 + k)) y (nI (16 + k)) ρ) (fun τ => Flt ρ0 τ q) := by
  unfold j_X9_readItem_115
  simp only [gd_ix (show 16 + k < 32 by omega) (by omega), n_cl (show 16 + k < 2147483648 by omega), lt_eq, show (1 : Int32).toNatClampNeg = 1 from rfl]
  have h1 : (sI ρ 5 (16 + k) y).1 0 12 = nI q := by rw [sI_off (by omega)]; exact h.2
  rw [state_F h1 hq, Option.bind_some]
  rw [F219 (q := q) (by rw [sI_off (by omega), sI_off (by omega)]; exact h1) hq]
  exact Ok.some ⟨((h.1.row (by omega) (by omega) (by omega)).row (by omega) (by omega) (by omega)).s2, by rw [sI_off (by omega), sI_off (by omega)]; exact h1⟩
theorem F92 {ρ0 ρ : Mem} {q k s : Nat} {y : Int32} (h : Flt ρ0 ρ q) (hq : q < 2147483648) (hk : k < 16) : Ok (j_X9_readItem_92 (nI (16 + k)) y (nI s) (nI (16 + k)) ρ) (fun τ => Flt ρ0 τ q) := by
  unfold j_X9_readItem_92
  simp only [gd_ix (show 16 + k < 32 by omega) (by omega), n_cl (show 16 + k < 2147483648 by omega), lt_eq]
  have h1 : (sI ρ 4 (16 + k) y).1 0 12 = nI q := by rw [sI_off (by omega)]; exact h.2
  have h2 : Flt ρ0 (sI ρ 4 (16 + k) y) q := ⟨h.1.row (by omega) (by omega) (by omega), h1⟩
  rw [state_F h1 hq, Option.bind_some]
  split
  · exact F115 h2 hq hk
  · exact F115 h2 hq hk
def finOut (ρ τ : Mem) (tx : List Nat) (x : Nat ⊕ (Nat × List Ru × Nat)) : Prop := match x with | .inl q => Flt ρ τ q | .inr x => FrR ρ τ ∧ RS τ tx x.1 ∧ RD τ x.2.1 x.2.2
theorem RD.fr {L : List Nat} {ρ τ : Mem} {rl : List Ru} {g : Nat} (h : RD ρ rl g) (f : FrZ L ρ τ) (h13 : 13 ∉ L) : RD τ rl g := by
  obtain ⟨h1, h2, h3⟩ := h
  refine ⟨by rw [f.2.1 2 (by omega)]; exact h1, fun j hj => ?_, by rw [f.1 13 h13]; exact h3⟩
  rw [f.2.1 3 (by omega), f.2.1 4 (by omega), f.2.1 5 (by omega), f.2.1 6 (by omega)]
  exact h2 j hj
theorem G219 {ρ0 ρ : Mem} {tx : List Nat} {p : Nat} {rl : List Ru} {g : Nat} (f : FrR ρ0 ρ) (h : RS ρ tx p) (d : RD ρ rl g) (hx : ∀ x ∈ tx, x < 256) (hl : tx.length ≤ 300) (hp : p ≤ tx.length) : Ok (j_X9_readItem_219 ρ) (fun τ => finOut ρ0 τ tx (finP tx p rl g)) := by
  obtain ⟨-, -, p6, -⟩ := tk_ok hp
  unfold j_X9_readItem_219 j_X9_readItem_233 finP
  rw [h.2.2.2.1]
  by_cases c : tkK tx p = 4
  · rw [c, if_pos (by decide), if_pos rfl]
    refine Ok.bind (due_Y h hx hl hp) (fun r hr => Ok.some ⟨f.tr (hr.2.2.frR (by decide)), hr.2.1, d.fr hr.2.2 (by decide)⟩)
  · rw [if_neg, if_neg c, due_N h, Option.bind_some]
    · exact Ok.some ⟨f.s0 (by omega), sI_same _ _ _ _⟩
    · rw [show (3 : Int32) = nI 3 from rfl, n_eq (by have := rkN_lt _ p6; omega) (by omega), rkN_3 _ p6]
      exact c
/-- row k as far as it is filled -/
def DrR (ρ : Mem) (rl : List Ru) (g s : Nat) : Prop := RD ρ rl g ∧ ρ.1 3 (16 + rl.length) = nI s
theorem DrR.row {ρ : Mem} {rl : List Ru} {g s o : Nat} {v : Int32} (h : DrR ρ rl g s) (ho : 4 ≤ o) (ho2 : o ≤ 6) : DrR (sI ρ o (16 + rl.length) v) rl g s := by
  obtain ⟨⟨h1, h2, h3⟩, h4⟩ := h
  refine ⟨⟨by rw [sI_off (by omega)]; exact h1, fun j hj => ?_, by rw [sI_off (by omega)]; exact h3⟩, by rw [sI_off (by omega)]; exact h4⟩
  have e : ∀ q, (sI ρ o (16 + rl.length) v).1 q (16 + j) = ρ.1 q (16 + j) := fun q => by rw [sI_get, if_neg (by omega)]
  rw [e, e, e, e]
  exact h2 j hj
theorem DrR.fr {L : List Nat} {ρ τ : Mem} {rl : List Ru} {g s : Nat} (h : DrR ρ rl g s) (f : FrZ L ρ τ) (h13 : 13 ∉ L) : DrR τ rl g s := ⟨h.1.fr f h13, by rw [f.2.1 3 (by omega)]; exact h.2⟩
theorem G115 {ρ0 ρ : Mem} {tx : List Nat} {p : Nat} {rl : List Ru} {g s a b : Nat} {y : Int32} (f : FrR ρ0 ρ) (h : RS ρ tx p) (d : DrR ρ rl g s) (hx : ∀ x ∈ tx, x < 256) (hl : tx.length ≤ 300) (hp : p ≤ tx.length) (hr : rl.length < 16) (ex : ∀ e, ρ.1 4 (16 + rl.length) = armV (s, a, b, e) 1 a) (ey : ∀ e, y = armV (s, a, b, e) 2 b) : Ok (j_X9_readItem_115 (nI (16 + rl.length)) y (nI (16 + rl.length)) ρ) (fun τ => finOut ρ0 τ tx (match ndS tx p (fun e p => (.inr (p, (s, a, b, e)) : Nat ⊕ (Nat × Ru))) with | .inl q => .inl q | .inr x => finP tx x.1 (rl ++ [x.2]) g)) := by
  obtain ⟨-, pl, -⟩ := tk_ok hp
  unfold j_X9_readItem_115
  simp only [gd_ix (show 16 + rl.length < 32 by omega) (by omega), n_cl (show 16 + rl.length < 2147483648 by omega), lt_eq, show (1 : Int32).toNatClampNeg = 1 from rfl]
  generalize hτ : sI ρ 5 (16 + rl.length) y = τ
  have f1 : FrR ρ0 τ := by rw [← hτ]; exact f.row (by omega) (by omega) (by omega)
  have d1 : DrR τ rl g s := by rw [← hτ]; exact d.row (by omega) (by omega)
  have y1 : τ.1 5 (16 + rl.length) = y := by rw [← hτ]; exact sI_same _ _ _ _
  have x1 : ∀ e, τ.1 4 (16 + rl.length) = armV (s, a, b, e) 1 a := fun e => by rw [← hτ, sI_off (by omega)]; exact ex e
  have r1 : RS τ tx p := by
    refine ⟨⟨?_, ?_⟩, ?_, ?_, ?_, fun w => ?_, ?_⟩
    · rw [← hτ, sI_off (by omega)]; exact h.1.1
    · rw [← hτ, sI_o (by omega)]; exact h.1.2
    · rw [← hτ, sI_off (by omega)]; exact h.2.1
    · rw [← hτ, sI_off (by omega)]; exact h.2.2.1
    · rw [← hτ, sI_off (by omega)]; exact h.2.2.2.1
    · rw [← hτ, sI_off (by omega)]; exact h.2.2.2.2.1 w
    · rw [← hτ, sI_off (by omega)]; exact h.2.2.2.2.2
  by_cases hs : isSt tx p
  · have nx := isSt_next hp hs
    rw [ndS_yes hs]
    refine Ok.bind (state_Y r1 hx hl hp hs) ?_
    rintro ⟨v, υ⟩ ⟨u1, u2, u3⟩
    have u1 : v = nI (tkV tx p) := u1
    subst u1
    have d2 := d1.fr u3 (by decide)
    simp only at u2 u3 d2
    have e4 : υ.1 4 = τ.1 4 := u3.2.1 4 (by omega)
    have e5 : υ.1 5 = τ.1 5 := u3.2.1 5 (by omega)
    show Ok (j_X9_readItem_219 (sI (sI υ 6 (16 + rl.length) (nI (tkV tx p))) 2 1 ((sI υ 6 (16 + rl.length) (nI (tkV tx p))).1 2 1 + 1))) _
    refine G219 (((f1.tr (u3.frR (by decide))).row (by omega) (by omega) (by omega)).s2) ⟨⟨?_, ?_⟩, ?_, ?_, ?_, fun w => ?_, ?_⟩ ⟨?_, fun j hj => ?_, ?_⟩ hx hl nx.2
    · rw [sI_off (by omega), sI_off (by omega)]; exact u2.1.1
    · rw [sI_o (by omega), sI_o (by omega)]; exact u2.1.2
    · rw [sI_off (by omega), sI_off (by omega)]; exact u2.2.1
    · rw [sI_off (by omega), sI_off (by omega)]; exact u2.2.2.1
    · rw [sI_off (by omega), sI_off (by omega)]; exact u2.2.2.2.1
    · rw [sI_off (by omega), sI_off (by omega)]; exact u2.2.2.2.2.1 w
    · rw [sI_off (by omega), sI_off (by omega)]; exact u2.2.2.2.2.2
    · rw [sI_same, sI_off (by omega), d2.1.1, n_suc]; simp
    · rw [List.length_append, List.length_singleton] at hj
      rw [sI_off (by omega), sI_off (by omega), sI_off (by omega), sI_off (by omega), sI_off (by omega), sI_off (by omega), sI_off (by omega)]
      by_cases w : j < rl.length
      · have er : ruA (rl ++ [(s, a, b, tkV tx p)]) j = ruA rl j := by
          unfold ruA
          rw [List.getD_eq_getElem?_getD, List.getD_eq_getElem?_getD, List.getElem?_append_left w]
        rw [er, sI_slot (by omega)]
        exact d2.1.2.1 j w
      · have ej : j = rl.length := by omega
        subst ej
        have er : ruA (rl ++ [(s, a, b, tkV tx p)]) rl.length = (s, a, b, tkV tx p) := by
          unfold ruA
          rw [List.getD_eq_getElem?_getD, List.getElem?_append_right (Nat.le_refl _), Nat.sub_self]
          rfl
        rw [er, sI_same, e4, e5]
        exact ⟨d2.2, x1 _, y1.trans (ey _), rfl⟩
    · rw [sI_off (by omega), sI_off (by omega)]; exact d2.1.2.2
  · rw [ndS_no hs, state_N r1 hp hs, Option.bind_some]
    have e0 : (sI τ 0 12 (nI (tkS tx p))).1 0 12 = nI (tkS tx p) := sI_same _ _ _ _
    rw [F219 (q := tkS tx p) (by rw [sI_off (by omega), sI_off (by omega)]; exact e0) (by omega)]
    exact Ok.some ⟨((f1.s0 (by omega)).row (by omega) (by omega) (by omega)).s2, by rw [sI_off (by omega), sI_off (by omega)]; exact e0⟩
theorem RS.row {ρ : Mem} {tx : List Nat} {p o k : Nat} {v : Int32} (h : RS ρ tx p) (ho : 3 ≤ o) : RS (sI ρ o k v) tx p := by
  refine ⟨⟨?_, ?_⟩, ?_, ?_, ?_, fun w => ?_, ?_⟩
  · rw [sI_off (by omega)]; exact h.1.1
  · rw [sI_o (by omega)]; exact h.1.2
  · rw [sI_off (by omega)]; exact h.2.1
  · rw [sI_off (by omega)]; exact h.2.2.1
  · rw [sI_off (by omega)]; exact h.2.2.2.1
  · rw [sI_off (by omega)]; exact h.2.2.2.2.1 w
  · rw [sI_off (by omega)]; exact h.2.2.2.2.2
theorem G36 {ρ0 ρ : Mem} {tx : List Nat} {p : Nat} {rl : List Ru} {g s : Nat} (f : FrR ρ0 ρ) (h : RS ρ tx p) (d : RD ρ rl g) (hx : ∀ x ∈ tx, x < 256) (hl : tx.length ≤ 300) (hp : p ≤ tx.length) (hr : rl.length < 16) (hs : s < 8) : Ok (lt ((16 : Int32) + (ρ.1 2 (1 : Int32).toNatClampNeg)) (fun x12 => gd (ix x12 32) (lt (sI ρ 3 x12.toNatClampNeg (nI s)) (fun σ13 => if (f_X9_armsOf (nI s)) ≤ 0 then (j_X9_readItem_92 x12 (-9 : Int32) (nI s) x12 σ13) else ((f_X9_state σ13).bind (fun r20 => j_X9_readItem_92 x12 r20.1 (nI s) x12 r20.2)))))) (fun τ => finOut ρ0 τ tx (match ruP tx p s with | .inl q => .inl q | .inr x => finP tx x.1 (rl ++ [x.2]) g)) := by
  obtain ⟨-, pl, -⟩ := tk_ok hp
  rw [show (1 : Int32).toNatClampNeg = 1 from rfl, d.1, show (16 : Int32) + nI rl.length = nI (16 + rl.length) from n_add 16 rl.length]
  simp only [lt_eq, gd_ix (show 16 + rl.length < 32 by omega) (by omega), n_cl (show 16 + rl.length < 2147483648 by omega)]
  generalize hτ : sI ρ 3 (16 + rl.length) (nI s) = τ
  have f1 : FrR ρ0 τ := by rw [← hτ]; exact f.row (by omega) (by omega) (by omega)
  have d1 : DrR τ rl g s := by
    obtain ⟨h1, h2, h3⟩ := d
    refine ⟨⟨?_, fun j hj => ?_, ?_⟩, ?_⟩
    · rw [← hτ, sI_off (by omega)]; exact h1
    · rw [← hτ]
      have e : ∀ q, (sI ρ 3 (16 + rl.length) (nI s)).1 q (16 + j) = ρ.1 q (16 + j) := fun q => by rw [sI_get, if_neg (by omega)]
      rw [e, e, e, e]
      exact h2 j hj
    · rw [← hτ, sI_off (by omega)]; exact h3
    · rw [← hτ]; exact sI_same _ _ _ _
  have r1 : RS τ tx p := by rw [← hτ]; exact h.row (by omega)
  rw [arms_R (by omega)]
  unfold ruP
  rcases arms_cases s with a0 | a0 | a0
  · rw [a0, if_pos (by decide), if_pos rfl]
    unfold j_X9_readItem_92
    simp only [gd_ix (show 16 + rl.length < 32 by omega) (by omega), n_cl (show 16 + rl.length < 2147483648 by omega), lt_eq]
    rw [arms_R (by omega), a0, if_pos (by decide)]
    exact G115 (f1.row (by omega) (by omega) (by omega)) (r1.row (by omega)) (d1.row (by omega) (by omega)) hx hl hp hr (fun e => by rw [sI_same]; unfold armV; rw [if_neg (by show ¬ 1 ≤ armsN s; omega)]) (fun e => by unfold armV; rw [if_neg (by show ¬ 2 ≤ armsN s; omega)])
  · rw [a0, if_neg (by decide), if_neg (by decide), if_pos rfl]
    by_cases h1 : isSt tx p
    · have n1 := isSt_next hp h1
      rw [ndS_yes h1]
      refine Ok.bind (state_Y r1 hx hl hp h1) ?_
      rintro ⟨v, υ⟩ ⟨u1, u2, u3⟩
      have u1 : v = nI (tkV tx p) := u1
      subst u1
      simp only at u2 u3
      show Ok (j_X9_readItem_92 (nI (16 + rl.length)) (nI (tkV tx p)) (nI s) (nI (16 + rl.length)) υ) _
      unfold j_X9_readItem_92
      simp only [gd_ix (show 16 + rl.length < 32 by omega) (by omega), n_cl (show 16 + rl.length < 2147483648 by omega), lt_eq]
      rw [arms_R (by omega), a0, if_pos (by decide)]
      exact G115 ((f1.tr (u3.frR (by decide))).row (by omega) (by omega) (by omega)) (u2.row (by omega)) ((d1.fr u3 (by decide)).row (by omega) (by omega)) hx hl n1.2 hr (fun e => by rw [sI_same]; unfold armV; rw [if_pos (by show 1 ≤ armsN s; omega)]) (fun e => by unfold armV; rw [if_neg (by show ¬ 2 ≤ armsN s; omega)])
    · rw [ndS_no h1, state_N r1 hp h1, Option.bind_some]
      exact F92 ⟨f1.s0 (by omega), sI_same _ _ _ _⟩ (by omega) hr
  · rw [a0, if_neg (by decide), if_neg (by decide), if_neg (by decide)]
    by_cases h1 : isSt tx p
    · have n1 := isSt_next hp h1
      obtain ⟨-, pl1, -⟩ := tk_ok n1.2
      rw [ndS_yes h1]
      refine Ok.bind (state_Y r1 hx hl hp h1) ?_
      rintro ⟨v, υ⟩ ⟨u1, u2, u3⟩
      have u1 : v = nI (tkV tx p) := u1
      subst u1
      simp only at u2 u3
      show Ok (j_X9_readItem_92 (nI (16 + rl.length)) (nI (tkV tx p)) (nI s) (nI (16 + rl.length)) υ) _
      unfold j_X9_readItem_92
      simp only [gd_ix (show 16 + rl.length < 32 by omega) (by omega), n_cl (show 16 + rl.length < 2147483648 by omega), lt_eq]
      rw [arms_R (by omega), a0, if_neg (by decide)]
      have f2 : FrR ρ0 (sI υ 4 (16 + rl.length) (nI (tkV tx p))) := (f1.tr (u3.frR (by decide))).row (by omega) (by omega) (by omega)
      have r2 : RS (sI υ 4 (16 + rl.length) (nI (tkV tx p))) tx (tkA tx p) := u2.row (by omega)
      by_cases h2 : isSt tx (tkA tx p)
      · have n2 := isSt_next n1.2 h2
        rw [ndS_yes h2]
        refine Ok.bind (state_Y r2 hx hl n1.2 h2) ?_
        rintro ⟨v, ω⟩ ⟨w1, w2, w3⟩
        have w1 : v = nI (tkV tx (tkA tx p)) := w1
        subst w1
        simp only at w2 w3
        exact G115 (f2.tr (w3.frR (by decide))) w2 (((d1.fr u3 (by decide)).row (by omega) (by omega)).fr w3 (by decide)) hx hl n2.2 hr (fun e => by rw [w3.2.1 4 (by omega), sI_same]; unfold armV; rw [if_pos (by show 1 ≤ armsN s; omega)]) (fun e => by unfold armV; rw [if_pos (by show 2 ≤ armsN s; omega)])
      · rw [ndS_no h2, state_N r2 n1.2 h2, Option.bind_some]
        exact F115 ⟨f2.s0 (by omega), sI_same _ _ _ _⟩ (by omega) hr
    · rw [ndS_no h1, state_N r1 hp h1, Option.bind_some]
      exact F92 ⟨f1.s0 (by omega), sI_same _ _ _ _⟩ (by omega) hr
