/-! the class's reading of a law -/
/-- the class stands at token p, its draft (Law t) holds rl and g -/
def CS (σ : Mem) (t : Nat) (tx : List Nat) (p : Nat) (rl : List Ru) (g : Nat) : Prop := TxC σ tx ∧ TokC σ tx p ∧ LawC σ t rl ∧ σ.1 t 5 = nI g
def FrC (t : Nat) (σ τ : Mem) : Prop := (∀ o, o ≠ 1 → o < t ∨ t + 4 < o → τ.1 o = σ.1 o) ∧ τ.1 1 1 = σ.1 1 1 ∧ τ.2 = σ.2
theorem FrC.rf {t : Nat} {σ : Mem} : FrC t σ σ := ⟨fun _ _ _ => rfl, rfl, rfl⟩
theorem FrC.tr {t : Nat} {σ τ υ : Mem} (h : FrC t σ τ) (g : FrC t τ υ) : FrC t σ υ := ⟨fun o h1 h2 => (g.1 o h1 h2).trans (h.1 o h1 h2), g.2.1.trans h.2.1, g.2.2.trans h.2.2⟩
theorem FrC.sI {t : Nat} {σ τ : Mem} {o k : Nat} {v : Int32} (h : FrC t σ τ) (h1 : t ≤ o) (h2 : o ≤ t + 4) (ht : 1 < t) : FrC t σ (sI τ o k v) := ⟨fun q w1 w2 => by rw [sI_o (by omega)]; exact h.1 q w1 w2, by rw [sI_off (by omega)]; exact h.2.1, h.2.2⟩
theorem F1.frC {L : List Nat} {t : Nat} {σ τ : Mem} (h : F1 L σ τ) (h1 : 1 ∉ L) : FrC t σ τ := ⟨fun o o1 _ => h.2.1 o o1, h.1 1 h1, h.2.2⟩
theorem FrC.tx {t : Nat} {σ τ : Mem} {tx : List Nat} (h : FrC t σ τ) (ht : 2 < t) (x : TxC σ tx) : TxC τ tx := ⟨by rw [h.2.1]; exact x.1, by rw [h.1 2 (by omega) (by omega)]; exact x.2⟩
theorem isSN_yes {σ : Mem} {tx : List Nat} {p : Nat} (h : TokC σ tx p) (hs : isSt tx p) : f_X6_isStateNext σ = 1 ∧ σ.1 1 4 = nI (tkV tx p) := by
  have hv := h.2.2.1 (Or.inr hs.1)
  have hi : f_X8_isState (nI (tkV tx p)) = 1 := by
    rcases isState_C (nI (tkV tx p)) with ⟨_, _, _, e⟩ | ⟨hn, e⟩
    · exact e
    · exact absurd rfl (hn _ hs.2)
  refine ⟨?_, hv⟩
  unfold f_X6_isStateNext
  rw [h.2.1, hs.1, if_pos (by decide), hv, hi, if_neg (by decide)]
theorem isSN_no {σ : Mem} {tx : List Nat} {p : Nat} (h : TokC σ tx p) (hp : p ≤ tx.length) (hs : ¬ isSt tx p) : f_X6_isStateNext σ = 0 := by
  obtain ⟨-, -, c, -, -, -, vv⟩ := tk_ok hp
  unfold f_X6_isStateNext
  rw [h.2.1]
  by_cases c3 : tkK tx p = 3
  · have hv := h.2.2.1 (Or.inr c3)
    have hi : f_X8_isState (nI (tkV tx p)) = 0 := by
      rcases isState_C (nI (tkV tx p)) with ⟨q, h1, h2, _⟩ | ⟨_, e⟩
      · rw [n_eq (by omega) (by omega)] at h2
        exact absurd ⟨c3, by omega⟩ hs
      · exact e
    rw [c3, if_pos (by decide), hv, hi, if_pos (by decide)]
  · rw [if_neg (by rw [show (3 : Int32) = nI 3 from rfl, n_eq (by omega) (by omega)]; exact c3)]
/-- the draft's row k as far as it is filled -/
def DrC (σ : Mem) (t : Nat) (rl : List Ru) (g s : Nat) (x y : Int32) : Prop := LawC σ t rl ∧ σ.1 t 5 = nI g ∧ σ.1 (t + 1) rl.length = nI s ∧ σ.1 (t + 2) rl.length = x ∧ σ.1 (t + 3) rl.length = y
theorem DrC.fr {σ τ : Mem} {L : List Nat} {t : Nat} {rl : List Ru} {g s : Nat} {x y : Int32} (h : DrC σ t rl g s x y) (f : F1 L σ τ) (ht : 1 < t) : DrC τ t rl g s x y := by
  obtain ⟨h1, h2, h3, h4, h5⟩ := h
  refine ⟨h1.cg (fun o w1 w2 => f.2.1 o (by omega)), ?_, ?_, ?_, ?_⟩
  · rw [f.2.1 t (by omega)]; exact h2
  · rw [f.2.1 (t + 1) (by omega)]; exact h3
  · rw [f.2.1 (t + 2) (by omega)]; exact h4
  · rw [f.2.1 (t + 3) (by omega)]; exact h5
/-- a write at the row behind the last leaves the rules -/
theorem LawC.put {σ : Mem} {t o k : Nat} {v : Int32} {rl : List Ru} (h : LawC σ t rl) (ho : t < o) (ho2 : o ≤ t + 4) (hk : k = rl.length) : LawC (sI σ o k v) t rl := by
  refine ⟨by rw [sI_off (by omega)]; exact h.1, fun j hj => ?_⟩
  obtain ⟨h1, h2, h3, h4⟩ := h.2 j hj
  have e : ∀ q, (sI σ o k v).1 q j = σ.1 q j := fun q => by rw [sI_get, if_neg (by omega)]
  rw [e, e, e, e]
  exact ⟨h1, h2, h3, h4⟩
theorem rule98_C {σ : Mem} {t : Nat} {tx : List Nat} {p : Nat} {rl : List Ru} {g s a b : Nat} {x y : Int32} (hT : TxC σ tx) (hK : TokC σ tx p) (hD : DrC σ t rl g s x y) (hx : ∀ x ∈ tx, x < 256) (hl : tx.length ≤ 300) (hp : p ≤ tx.length) (hr : rl.length < 16) (ht : 2 < t) (ex : ∀ d, x = armV (s, a, b, d) 1 a) (ey : ∀ d, y = armV (s, a, b, d) 2 b) : Ok (j_X3_readRule_98 t (nI rl.length) σ) (fun r => FrC t σ r.2 ∧ ((isSt tx p ∧ r.1 = 1 ∧ CS r.2 t tx (tkA tx p) (rl ++ [(s, a, b, tkV tx p)]) g) ∨ (¬ isSt tx p ∧ r.1 = 0 ∧ r.2.1 1 2 = nI (tkS tx p)))) := by
  unfold j_X3_readRule_98
  by_cases h : isSt tx p
  · obtain ⟨i1, i2⟩ := isSN_yes hK h
    have nx := isSt_next hp h
    rw [i1, if_neg (by decide), gd_ix hr (by omega), n_cl (by omega), i2]
    refine Ok.lt ?_
    generalize hτ : sI σ (t + 4) rl.length (nI (tkV tx p)) = τ
    have f0 : FrC t σ τ := by rw [← hτ]; exact FrC.rf.sI (by omega) (by omega) (by omega)
    have k5 : τ.1 1 5 = nI (tkA tx p) := by rw [← hτ, sI_off (by omega)]; exact hK.2.2.2
    refine Ok.bind (next_C (f0.tx ht hT) hx hl nx.2 k5) ?_
    rintro υ ⟨u1, u2⟩
    have d4 : υ.1 (t + 4) rl.length = nI (tkV tx p) := by rw [u2.2.1 (t + 4) (by omega), ← hτ]; exact sI_same _ _ _ _
    obtain ⟨d1, d2, d3, d5, d6⟩ := hD
    have l0 : LawC υ t rl := by
      have : LawC τ t rl := by rw [← hτ]; exact d1.put (by omega) (by omega) rfl
      exact this.cg (fun o w1 w2 => u2.2.1 o (by omega))
    have e : ∀ q, q ≠ 1 → q ≠ t + 4 → υ.1 q = σ.1 q := fun q q1 q2 => by rw [u2.2.1 q q1, ← hτ, sI_o q2]
    refine Ok.lt (Ok.some ⟨(f0.tr (u2.frC (by decide))).sI (by omega) (by omega) (by omega), Or.inl ⟨h, rfl, ?_⟩⟩)
    have txu := (u2.frC (t := t) (by decide)).tx ht (f0.tx ht hT)
    refine ⟨⟨?_, ?_⟩, ⟨?_, ?_, fun w => ?_, ?_⟩, ⟨?_, fun j hj => ?_⟩, ?_⟩
    · show (sI υ t 4 (υ.1 t 4 + 1)).1 1 1 = _
      rw [sI_off (by omega)]; exact txu.1
    · show ∀ j, j < tx.length → (sI υ t 4 (υ.1 t 4 + 1)).1 2 j = _
      rw [sI_o (by omega)]; exact txu.2
    · show (sI υ t 4 (υ.1 t 4 + 1)).1 1 2 = _
      rw [sI_off (by omega)]; exact u1.1
    · show (sI υ t 4 (υ.1 t 4 + 1)).1 1 3 = _
      rw [sI_off (by omega)]; exact u1.2.1
    · show (sI υ t 4 (υ.1 t 4 + 1)).1 1 4 = _
      rw [sI_off (by omega)]; exact u1.2.2.1 w
    · show (sI υ t 4 (υ.1 t 4 + 1)).1 1 5 = _
      rw [sI_off (by omega)]; exact u1.2.2.2
    · show (sI υ t 4 (υ.1 t 4 + 1)).1 t 4 = _
      rw [sI_same, l0.1, n_suc]; simp
    · show (sI υ t 4 (υ.1 t 4 + 1)).1 (t + 1) j = _ ∧ (sI υ t 4 (υ.1 t 4 + 1)).1 (t + 2) j = _ ∧ (sI υ t 4 (υ.1 t 4 + 1)).1 (t + 3) j = _ ∧ (sI υ t 4 (υ.1 t 4 + 1)).1 (t + 4) j = _
      rw [sI_off (by omega), sI_off (by omega), sI_off (by omega), sI_off (by omega)]
      rw [List.length_append, List.length_singleton] at hj
      by_cases w : j < rl.length
      · have er : ruA (rl ++ [(s, a, b, tkV tx p)]) j = ruA rl j := by
          unfold ruA
          rw [List.getD_eq_getElem?_getD, List.getD_eq_getElem?_getD, List.getElem?_append_left w]
        rw [er]
        exact l0.2 j w
      · have ej : j = rl.length := by omega
        subst ej
        have er : ruA (rl ++ [(s, a, b, tkV tx p)]) rl.length = (s, a, b, tkV tx p) := by
          unfold ruA
          rw [List.getD_eq_getElem?_getD, List.getElem?_append_right (Nat.le_refl _), Nat.sub_self]
          rfl
        rw [er, e (t + 1) (by omega) (by omega), e (t + 2) (by omega) (by omega), e (t + 3) (by omega) (by omega)]
        exact ⟨d3, d5.trans (ex _), d6.trans (ey _), d4⟩
    · show (sI υ t 4 (υ.1 t 4 + 1)).1 t 5 = _
      rw [sI_slot (by omega), e t (by omega) (by omega)]; exact d2
  · rw [isSN_no hK hp h, if_pos (by decide)]
    exact Ok.some ⟨FrC.rf, Or.inr ⟨h, rfl, hK.1⟩⟩
/-- a state read into place o of the draft's row, or a fault -/
theorem read1_C {σ : Mem} {t o : Nat} {tx : List Nat} {p : Nat} {n : Nat} (hT : TxC σ tx) (hK : TokC σ tx p) (hx : ∀ x ∈ tx, x < 256) (hl : tx.length ≤ 300) (hp : p ≤ tx.length) (ht : 2 < t) (ho : t < o) (ho2 : o ≤ t + 4) (h : isSt tx p) : Ok (f_X6_next (sI σ o n (σ.1 1 4))) (fun υ => TxC υ tx ∧ TokC υ tx (tkA tx p) ∧ FrC t σ υ ∧ (∀ q, q ≠ 1 → υ.1 q = (sI σ o n (nI (tkV tx p))).1 q)) := by
  obtain ⟨i1, i2⟩ := isSN_yes hK h
  have nx := isSt_next hp h
  rw [i2]
  have f0 : FrC t σ (sI σ o n (nI (tkV tx p))) := FrC.rf.sI (by omega) (by omega) (by omega)
  refine (next_C (f0.tx ht hT) hx hl nx.2 (by rw [sI_off (by omega)]; exact hK.2.2.2)).mono ?_
  rintro υ ⟨u1, u2⟩
  exact ⟨(u2.frC (t := t) (by decide)).tx ht (f0.tx ht hT), u1, f0.tr (u2.frC (by decide)), fun q hq => u2.2.1 q hq⟩
theorem DrC.upd {σ υ : Mem} {t : Nat} {rl : List Ru} {g s o v : Nat} {x y : Int32} (h : DrC σ t rl g s x y) (ht : 1 < t) (ho : o = t + 2 ∨ o = t + 3) (e : ∀ q, q ≠ 1 → υ.1 q = (sI σ o rl.length (nI v)).1 q) : DrC υ t rl g s (if o = t + 2 then nI v else x) (if o = t + 3 then nI v else y) := by
  obtain ⟨h1, h2, h3, h4, h5⟩ := h
  have l : LawC (sI σ o rl.length (nI v)) t rl := h1.put (by omega) (by omega) rfl
  refine ⟨l.cg (fun q w1 w2 => e q (by omega)), ?_, ?_, ?_, ?_⟩
  · rw [e t (by omega), sI_off (by omega)]; exact h2
  · rw [e (t + 1) (by omega), sI_off (by omega)]; exact h3
  · rw [e (t + 2) (by omega), sI_get]
    by_cases w : o = t + 2
    · rw [if_pos ⟨w.symm, rfl⟩, if_pos w]
    · rw [if_neg (fun z => w z.1.symm), if_neg w]; exact h4
  · rw [e (t + 3) (by omega), sI_get]
    by_cases w : o = t + 3
    · rw [if_pos ⟨w.symm, rfl⟩, if_pos w]
    · rw [if_neg (fun z => w z.1.symm), if_neg w]; exact h5
theorem readRule_C {σ : Mem} {t : Nat} {tx : List Nat} {p : Nat} {rl : List Ru} {g : Nat} (h : CS σ t tx p rl g) (hx : ∀ x ∈ tx, x < 256) (hl : tx.length ≤ 300) (hp : p ≤ tx.length) (hr : rl.length < 16) (ht : 2 < t) (hk : tkK tx p = 1) : Ok (f_X3_readRule t σ) (fun r => FrC t σ r.2 ∧ ((∃ x, ruP tx (tkA tx p) (tkV tx p) = .inr x ∧ r.1 = 1 ∧ CS r.2 t tx x.1 (rl ++ [x.2]) g) ∨ (∃ q, ruP tx (tkA tx p) (tkV tx p) = .inl q ∧ r.1 = 0 ∧ r.2.1 1 2 = nI q))) := by
  obtain ⟨hT, hK, hL, hg⟩ := h
  obtain ⟨-, -, -, pa, pb, pv, -⟩ := tk_ok hp
  have v8 := pv hk
  have k4 := hK.2.2.1 (Or.inl hk)
  unfold f_X3_readRule
  rw [hL.1, k4]
  simp only [lt_eq, gd_ix hr (show 16 < 2147483648 by omega), n_cl (show rl.length < 2147483648 by omega)]
  generalize hτ : sI (sI (sI σ (t + 1) rl.length (nI (tkV tx p))) (t + 2) rl.length (-9)) (t + 3) rl.length (-9) = τ
  have f0 : FrC t σ τ := by rw [← hτ]; exact ((FrC.rf.sI (by omega) (by omega) (by omega)).sI (by omega) (by omega) (by omega)).sI (by omega) (by omega) (by omega)
  have l0 : LawC τ t rl := by rw [← hτ]; exact ((hL.put (by omega) (by omega) rfl).put (by omega) (by omega) rfl).put (by omega) (by omega) rfl
  have d0 : DrC τ t rl g (tkV tx p) (-9) (-9) := by
    refine ⟨l0, ?_, ?_, ?_, ?_⟩
    · rw [← hτ, sI_off (by omega), sI_off (by omega), sI_off (by omega)]; exact hg
    · rw [← hτ, sI_off (by omega), sI_off (by omega)]; exact sI_same _ _ _ _
    · rw [← hτ, sI_off (by omega)]; exact sI_same _ _ _ _
    · rw [← hτ]; exact sI_same _ _ _ _
  have k5 : τ.1 1 5 = nI (tkA tx p) := by rw [← hτ, sI_off (by omega), sI_off (by omega), sI_off (by omega)]; exact hK.2.2.2
  refine Ok.bind (next_C (f0.tx ht hT) hx hl pa k5) ?_
  rintro υ ⟨u1, u2⟩
  have uT := (u2.frC (t := t) (by decide)).tx ht (f0.tx ht hT)
  have uF : FrC t σ υ := f0.tr (u2.frC (by decide))
  have uD := d0.fr u2 (by omega)
  rw [arms_C (by omega)]
  generalize hs : tkV tx p = s at *
  generalize hq1 : tkA tx p = p1 at *
  have ha := armsN_le s
  rcases arms_cases s with a0 | a0 | a0
  · rw [a0, if_pos (by decide)]
    unfold j_X3_readRule_67
    rw [arms_C (by omega), a0, if_pos (by decide)]
    refine (rule98_C (a := 0) (b := 0) uT u1 uD hx hl pa hr ht (fun d => by unfold armV; rw [if_neg (by show ¬ 1 ≤ armsN s; omega)]) (fun d => by unfold armV; rw [if_neg (by show ¬ 2 ≤ armsN s; omega)])).mono ?_
    rintro r ⟨r1, r2 | r2⟩
    · refine ⟨uF.tr r1, Or.inl ⟨(tkA tx p1, (s, 0, 0, tkV tx p1)), ?_, r2.2.1, r2.2.2⟩⟩
      unfold ruP
      rw [if_pos a0, ndS_yes r2.1]
    · refine ⟨uF.tr r1, Or.inr ⟨_, ?_, r2.2.1, r2.2.2⟩⟩
      unfold ruP
      rw [if_pos a0, ndS_no r2.1]
  · rw [a0, if_neg (by decide)]
    by_cases h1 : isSt tx p1
    · have n1 := isSt_next pa h1
      rw [(isSN_yes u1 h1).1, if_neg (by decide)]
      refine Ok.bind (read1_C uT u1 hx hl pa ht (by omega) (by omega) h1) ?_
      rintro ω ⟨w1, w2, w3, w4⟩
      have wD := uD.upd (by omega) (Or.inl rfl) w4
      rw [if_pos rfl, if_neg (by omega)] at wD
      unfold j_X3_readRule_67
      rw [arms_C (by omega), a0, if_pos (by decide)]
      refine (rule98_C (a := tkV tx p1) (b := 0) w1 w2 wD hx hl n1.2 hr ht (fun d => by unfold armV; rw [if_pos (by show 1 ≤ armsN s; omega)]) (fun d => by unfold armV; rw [if_neg (by show ¬ 2 ≤ armsN s; omega)])).mono ?_
      rintro r ⟨r1, r2 | r2⟩
      · refine ⟨(uF.tr w3).tr r1, Or.inl ⟨(tkA tx (tkA tx p1), (s, tkV tx p1, 0, tkV tx (tkA tx p1))), ?_, r2.2.1, r2.2.2⟩⟩
        unfold ruP
        rw [if_neg (by omega), if_pos a0, ndS_yes h1, ndS_yes r2.1]
      · refine ⟨(uF.tr w3).tr r1, Or.inr ⟨_, ?_, r2.2.1, r2.2.2⟩⟩
        unfold ruP
        rw [if_neg (by omega), if_pos a0, ndS_yes h1, ndS_no r2.1]
    · rw [isSN_no u1 pa h1, if_pos (by decide)]
      refine Ok.some ⟨uF, Or.inr ⟨_, ?_, rfl, u1.1⟩⟩
      unfold ruP
      rw [if_neg (by omega), if_pos a0, ndS_no h1]
  · rw [a0, if_neg (by decide)]
    by_cases h1 : isSt tx p1
    · have n1 := isSt_next pa h1
      rw [(isSN_yes u1 h1).1, if_neg (by decide)]
      refine Ok.bind (read1_C uT u1 hx hl pa ht (by omega) (by omega) h1) ?_
      rintro ω ⟨w1, w2, w3, w4⟩
      have wD := uD.upd (by omega) (Or.inl rfl) w4
      rw [if_pos rfl, if_neg (by omega)] at wD
      unfold j_X3_readRule_67
      rw [arms_C (by omega), a0, if_neg (by decide)]
      by_cases h2 : isSt tx (tkA tx p1)
      · have n2 := isSt_next n1.2 h2
        rw [(isSN_yes w2 h2).1, if_neg (by decide), gd_ix hr (by omega), n_cl (by omega)]
        refine Ok.lt (Ok.bind (read1_C w1 w2 hx hl n1.2 ht (by omega) (by omega) h2) ?_)
        rintro ψ ⟨z1, z2, z3, z4⟩
        have zD := wD.upd (by omega) (Or.inr rfl) z4
        rw [if_pos rfl, if_neg (by omega)] at zD
        refine (rule98_C (a := tkV tx p1) (b := tkV tx (tkA tx p1)) z1 z2 zD hx hl n2.2 hr ht (fun d => by unfold armV; rw [if_pos (by show 1 ≤ armsN s; omega)]) (fun d => by unfold armV; rw [if_pos (by show 2 ≤ armsN s; omega)])).mono ?_
        rintro r ⟨r1, r2 | r2⟩
        · refine ⟨((uF.tr w3).tr z3).tr r1, Or.inl ⟨(tkA tx (tkA tx (tkA tx p1)), (s, tkV tx p1, tkV tx (tkA tx p1), tkV tx (tkA tx (tkA tx p1)))), ?_, r2.2.1, r2.2.2⟩⟩
          unfold ruP
          rw [if_neg (by omega), if_neg (by omega), ndS_yes h1, ndS_yes h2, ndS_yes r2.1]
        · refine ⟨((uF.tr w3).tr z3).tr r1, Or.inr ⟨_, ?_, r2.2.1, r2.2.2⟩⟩
          unfold ruP
          rw [if_neg (by omega), if_neg (by omega), ndS_yes h1, ndS_yes h2, ndS_no r2.1]
      · rw [isSN_no w2 n1.2 h2, if_pos (by decide)]
        refine Ok.some ⟨uF.tr w3, Or.inr ⟨_, ?_, rfl, w2.1⟩⟩
        unfold ruP
        rw [if_neg (by omega), if_neg (by omega), ndS_yes h1, ndS_no h2]
    · rw [isSN_no u1 pa h1, if_pos (by decide)]
      refine Ok.some ⟨uF, Or.inr ⟨_, ?_, rfl, u1.1⟩⟩
      unfold ruP
      rw [if_neg (by omega), if_neg (by omega), ndS_no h1]
