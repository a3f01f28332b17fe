/-! least, apart: the reference's words, one offered -/
theorem l_ext : ∀ (a b : List Nat), a.length = b.length → (∀ j, j < a.length → a.getD j 0 = b.getD j 0) → a = b
  | [], [], _, _ => rfl
  | [], _ :: _, h, _ => by simp at h
  | _ :: _, [], h, _ => by simp at h
  | x :: a, y :: b, h, g => by
    have e : x = y := g 0 (by simp)
    have e2 := l_ext a b (by simpa using h) (fun j hj => g (j + 1) (by simpa using hj))
    rw [e, e2]
theorem lx_at : ∀ (k : Nat) (a b : List Nat), k < a.length → k < b.length → (∀ j, j < k → a.getD j 0 = b.getD j 0) → a.getD k 0 < b.getD k 0 → lx a b
  | _, [], _, h, _, _, _ => by simp at h
  | _, _ :: _, [], _, h, _, _ => by simp at h
  | 0, _ :: _, _ :: _, _, _, _, h => Or.inl h
  | k + 1, _ :: a, _ :: b, h1, h2, h3, h4 => Or.inr ⟨h3 0 (by omega), lx_at k a b (by simpa using h1) (by simpa using h2) (fun j hj => h3 (j + 1) (by omega)) h4⟩
theorem sub8F : ∀ a : Fin 8, ∀ b : Fin 8, ((nI a.val - nI b.val ≤ 0) ↔ a.val ≤ b.val) ∧ ((0 ≤ nI a.val - nI b.val) ↔ b.val ≤ a.val) ∧ (nI a.val - nI b.val = 0 ↔ a.val = b.val) := by decide +kernel
theorem sub8 {a b : Nat} (ha : a < 8) (hb : b < 8) : ((nI a - nI b ≤ 0) ↔ a ≤ b) ∧ ((0 ≤ nI a - nI b) ↔ b ≤ a) ∧ (nI a - nI b = 0 ↔ a = b) := sub8F ⟨a, ha⟩ ⟨b, hb⟩
theorem getD_8 {l : List Nat} (h : ∀ a ∈ l, a < 8) (j : Nat) : l.getD j 0 < 8 := by
  rw [List.getD_eq_getElem?_getD]
  cases e : l[j]? with
  | none => exact (by decide : (0 : Nat) < 8)
  | some x => exact h x (List.mem_of_getElem? e)
/-- the words found, [] for none -/
def WrR (ρ : Mem) (N : Nat) (V : Nat → List Nat) : Prop := ∀ k, k < N → ρ.1 22 k = nI (V k).length ∧ (V k).length ≤ 31 ∧ (∀ a ∈ V k, a < 8) ∧ ∀ j, j < (V k).length → ρ.1 23 (31 * k + j) = nI ((V k).getD j 0)
def TdR (ρ : Mem) (u : List Nat) : Prop := ∀ j, j < u.length → ρ.1 24 j = nI (u.getD j 0)
def FrW (ρ τ : Mem) : Prop := (∀ o, o ≠ 22 → o ≠ 23 → o ≠ 24 → τ.1 o = ρ.1 o) ∧ τ.2 = ρ.2
theorem FrW.rf {ρ : Mem} : FrW ρ ρ := ⟨fun _ _ _ _ => rfl, rfl⟩
theorem FrW.tr {ρ τ υ : Mem} (h : FrW ρ τ) (g : FrW τ υ) : FrW ρ υ := ⟨fun o a b c => (g.1 o a b c).trans (h.1 o a b c), g.2.trans h.2⟩
theorem FrW.put {ρ τ : Mem} {o k : Nat} {v : Int32} (h : FrW ρ τ) (ho : o = 22 ∨ o = 23 ∨ o = 24) : FrW ρ (sI τ o k v) := ⟨fun q a b c => by rw [sI_o (by omega)]; exact h.1 q a b c, h.2⟩
theorem i31 (q k : Nat) : (31 : Int32) * nI q + nI k = nI (31 * q + k) := by rw [show (31 : Int32) = nI 31 from rfl, n_mul, n_add]
theorem put_R {ρ : Mem} {N q f : Nat} {V : Nat → List Nat} {u : List Nat} (hN : N ≤ 120) (hV : WrR ρ N V) (hT : TdR ρ u) (hq : q < N) (hf : f = u.length) (hl : u.length + (V q).length ≤ 31) : Ok (f_X9_put (nI f) (nI q) ρ) (fun τ => TdR τ (u ++ V q) ∧ (∀ o, o ≠ 24 → τ.1 o = ρ.1 o) ∧ τ.2 = ρ.2) := by
  subst hf
  obtain ⟨v1, v2, v3, v4⟩ := hV q hq
  unfold f_X9_put
  refine Ok.bind (P := fun τ => TdR τ (u ++ V q) ∧ (∀ o, o ≠ 24 → τ.1 o = ρ.1 o) ∧ τ.2 = ρ.2) ?_ (fun τ h => Ok.some h)
  refine Ok.for (V q).length (fun k s => ∃ τ : Mem, s = (nI k, τ) ∧ (∀ o, o ≠ 24 → τ.1 o = ρ.1 o) ∧ τ.2 = ρ.2 ∧ ∀ j, j < u.length + k → τ.1 24 j = nI ((u ++ V q).getD j 0)) ?_ ?_ 0 (by omega) _ ⟨ρ, rfl, fun _ _ => rfl, rfl, fun j hj => ?_⟩
  · rintro k _ hk ⟨τ, rfl, e1, e2, e3⟩
    show Ok (b_X9_put_2 (nI u.length) (nI q) (nI k) τ) _
    unfold b_X9_put_2
    rw [gd_ix (by omega) (by omega), n_cl (by omega), e1 22 (by omega), v1, if_neg (by rw [n_le (by omega) (by omega)]; omega), i31, n_add, gd_ix (by omega) (by omega), gd_ix (by omega) (by omega), n_cl (by omega), n_cl (by omega), e1 23 (by omega), v4 k hk]
    refine Ok.lt (Ok.lt (Ok.some ⟨sI τ 24 (u.length + k) (nI ((V q).getD k 0)), by rw [n_suc], fun o ho => by rw [sI_o ho]; exact e1 o ho, e2, fun j hj => ?_⟩))
    by_cases c : j = u.length + k
    · subst c
      rw [sI_same, getD_right (by omega), Nat.add_sub_cancel_left]
    · rw [sI_slot c]
      exact e3 j (by omega)
  · rintro _ ⟨τ, rfl, e1, e2, e3⟩
    show Ok (b_X9_put_2 (nI u.length) (nI q) (nI (V q).length) τ) _
    unfold b_X9_put_2
    rw [gd_ix (by omega) (by omega), n_cl (by omega), e1 22 (by omega), v1, if_pos (by rw [n_le (by omega) (by omega)]; omega)]
    exact Ok.some ⟨fun j hj => e3 j (by rw [List.length_append] at hj; exact hj), e1, e2⟩
  · rw [getD_left (by omega)]
    exact hT j (by omega)
/-- a word written down -/
theorem store_R {ρ : Mem} {N q : Nat} {V : Nat → List Nat} {u : List Nat} (hN : N ≤ 120) (hV : WrR ρ N V) (hT : TdR ρ u) (hq : q < N) (hu : u.length ≤ 31) (h8 : ∀ a ∈ u, a < 8) : Ok (j_X9_offer_83 (nI q) (nI u.length) 1 ρ) (fun τ => FrW ρ τ ∧ ∃ V', WrR τ N V' ∧ (∀ k, k ≠ q → V' k = V k) ∧ V' q = u) := by
  unfold j_X9_offer_83
  rw [if_neg (by decide), gd_ix (by omega) (by omega), n_cl (by omega)]
  refine Ok.lt ?_
  refine Ok.bind (P := fun τ => FrW ρ τ ∧ ∃ V', WrR τ N V' ∧ (∀ k, k ≠ q → V' k = V k) ∧ V' q = u) ?_ (fun τ h => Ok.some h)
  refine Ok.for u.length (fun k s => ∃ τ : Mem, s = (nI k, τ) ∧ FrW ρ τ ∧ τ.1 24 = ρ.1 24 ∧ τ.1 22 q = nI u.length ∧ (∀ i, i ≠ q → τ.1 22 i = ρ.1 22 i) ∧ (∀ j, j < k → τ.1 23 (31 * q + j) = nI (u.getD j 0)) ∧ ∀ i, i < 31 * q ∨ 31 * q + 31 ≤ i → τ.1 23 i = ρ.1 23 i) ?_ ?_ 0 (by omega) _ ⟨_, rfl, FrW.rf.put (Or.inl rfl), by rw [sI_o (by omega)], sI_same _ _ _ _, fun i hi => sI_slot hi, fun j hj => by omega, fun i _ => by rw [sI_off (by omega)]⟩
  · rintro k _ hk ⟨τ, rfl, e1, e2, e3, e4, e5, e6⟩
    show Ok (b_X9_offer_97 (nI q) (nI u.length) (nI k) τ) _
    unfold b_X9_offer_97
    rw [if_neg (by rw [n_le (by omega) (by omega)]; omega), i31, gd_ix (by omega) (by omega), gd_ix (by omega) (by omega), n_cl (by omega), n_cl (by omega), e2, hT k hk]
    refine Ok.lt (Ok.lt (Ok.some ⟨_, by rw [n_suc], e1.put (Or.inr (Or.inl rfl)), by rw [sI_o (by omega)]; exact e2, by rw [sI_off (by omega)]; exact e3, fun i hi => by rw [sI_off (by omega)]; exact e4 i hi, fun j hj => ?_, fun i hi => ?_⟩))
    · by_cases c : j = k
      · subst c
        rw [sI_same]
      · rw [sI_slot (by omega)]
        exact e5 j (by omega)
    · rw [sI_slot (by omega)]
      exact e6 i hi
  · rintro _ ⟨τ, rfl, e1, e2, e3, e4, e5, e6⟩
    show Ok (b_X9_offer_97 (nI q) (nI u.length) (nI u.length) τ) _
    unfold b_X9_offer_97
    rw [if_pos (by rw [n_le (by omega) (by omega)]; omega)]
    refine Ok.some ⟨e1, fun k => if k = q then u else V k, fun k hk => ?_, fun k hk => if_neg hk, if_pos rfl⟩
    by_cases c : k = q
    · subst c
      simp only [if_pos]
      exact ⟨e3, hu, h8, e5⟩
    · simp only [if_neg c]
      obtain ⟨v1, v2, v3, v4⟩ := hV k hk
      refine ⟨by rw [e4 k c]; exact v1, v2, v3, fun j hj => ?_⟩
      rw [e6 _ (by omega)]
      exact v4 j hj
theorem offer_R {ρ : Mem} {N q : Nat} {V : Nat → List Nat} {u : List Nat} (hN : N ≤ 120) (hV : WrR ρ N V) (hT : TdR ρ u) (hq : q < N) (hu1 : 1 ≤ u.length) (hu : u.length ≤ 31) (h8 : ∀ a ∈ u, a < 8) : Ok (f_X9_offer (nI q) (nI u.length) ρ) (fun τ => FrW ρ τ ∧ ∃ V', WrR τ N V' ∧ (∀ k, k ≠ q → V' k = V k) ∧ ((V' q = u ∧ (V q = [] ∨ ((V q).length = u.length ∧ lx u (V q)))) ∨ (V' q = V q ∧ V q ≠ [] ∧ ((V q).length = u.length → lq (V q) u)))) := by
  obtain ⟨v1, v2, v3, v4⟩ := hV q hq
  unfold f_X9_offer
  rw [gd_ix (by omega) (by omega), n_cl (by omega), v1]
  by_cases c : V q = []
  · rw [c, if_pos (by decide)]
    unfold j_X9_offer_14
    rw [Lim_out (r := Sum.inr (1 : Int32)) (by
      show b_X9_offer_18 (nI q) (nI u.length) 1 0 ρ = _
      unfold b_X9_offer_18
      rw [if_neg (by rw [show (0 : Int32) = nI 0 from rfl, n_le (by omega) (by omega)]; omega), if_neg (by decide)]), Option.bind_some]
    refine (store_R hN hV hT hq hu h8).mono ?_
    rintro τ ⟨a, V', b1, b2, b3⟩
    exact ⟨a, V', b1, b2, Or.inl ⟨b3, Or.inl rfl⟩⟩
  · have hm : 1 ≤ (V q).length := by
      cases e : V q with
      | nil => exact absurd e c
      | cons x l => exact Nat.succ_le_succ (Nat.zero_le _)
    rw [if_neg (by rw [show (0 : Int32) = nI 0 from rfl, n_eq (by omega) (by omega)]; omega)]
    unfold j_X9_offer_14
    by_cases d : (V q).length = u.length
    · refine Ok.bind (P := fun r => (r = .inl () ∧ lx (V q) u) ∨ (r = .inr 0 ∧ V q = u) ∨ (r = .inr 1 ∧ lx u (V q))) ?_ ?_
      · refine Ok.for u.length (fun k s => (s = (0, nI k) ∧ ∀ j, j < k → u.getD j 0 = (V q).getD j 0) ∨ (s = (1, nI k) ∧ lx u (V q))) ?_ ?_ 0 (by omega) _ (Or.inl ⟨rfl, fun j hj => by omega⟩)
        · rintro k _ hk (⟨rfl, e⟩ | ⟨rfl, e⟩)
          · show Ok (b_X9_offer_18 (nI q) (nI u.length) 0 (nI k) ρ) _
            unfold b_X9_offer_18
            rw [if_neg (by rw [n_le (by omega) (by omega)]; omega), if_pos rfl, gd_ix (by omega) (by omega), n_cl (by omega), v1, if_pos (by rw [d]), i31, gd_ix (by omega) (by omega), gd_ix (by omega) (by omega), n_cl (by omega), n_cl (by omega), hT k hk, v4 k (by omega)]
            refine Ok.lt ?_
            obtain ⟨s1, s2, s3⟩ := sub8 (getD_8 h8 k) (getD_8 v3 k)
            by_cases f : u.getD k 0 ≤ (V q).getD k 0
            · rw [if_pos (s1.mpr f)]
              by_cases f' : (V q).getD k 0 ≤ u.getD k 0
              · rw [if_pos (s2.mpr f')]
                unfold j_X9_offer_76
                refine Ok.lt (Ok.some (Or.inl ⟨by rw [n_suc], fun j hj => ?_⟩))
                by_cases w : j = k
                · subst w; omega
                · exact e j (by omega)
              · rw [if_neg (fun z => f' (s2.mp z))]
                unfold j_X9_offer_76
                exact Ok.lt (Ok.some (Or.inr ⟨by rw [n_suc], lx_at k _ _ hk (by omega) e (by omega)⟩))
            · rw [if_neg (fun z => f (s1.mp z))]
              exact Ok.some (Or.inl ⟨rfl, lx_at k _ _ (by omega) hk (fun j hj => (e j hj).symm) (by omega)⟩)
          · show Ok (b_X9_offer_18 (nI q) (nI u.length) 1 (nI k) ρ) _
            unfold b_X9_offer_18
            rw [if_neg (by rw [n_le (by omega) (by omega)]; omega), if_neg (by decide)]
            exact Ok.some (Or.inr (Or.inr ⟨rfl, e⟩))
        · rintro _ (⟨rfl, e⟩ | ⟨rfl, e⟩)
          · show Ok (b_X9_offer_18 (nI q) (nI u.length) 0 (nI u.length) ρ) _
            unfold b_X9_offer_18
            rw [if_pos (by rw [n_le (by omega) (by omega)]; omega)]
            exact Ok.some (Or.inr (Or.inl ⟨rfl, l_ext _ _ d (fun j hj => (e j (by omega)).symm)⟩))
          · show Ok (b_X9_offer_18 (nI q) (nI u.length) 1 (nI u.length) ρ) _
            unfold b_X9_offer_18
            rw [if_pos (by rw [n_le (by omega) (by omega)]; omega)]
            exact Ok.some (Or.inr (Or.inr ⟨rfl, e⟩))
      · rintro r (⟨rfl, e⟩ | ⟨rfl, e⟩ | ⟨rfl, e⟩)
        · exact Ok.some ⟨FrW.rf, V, hV, fun _ _ => rfl, Or.inr ⟨rfl, c, fun _ => Or.inr e⟩⟩
        · show Ok (j_X9_offer_83 (nI q) (nI u.length) 0 ρ) _
          unfold j_X9_offer_83
          rw [if_pos rfl]
          exact Ok.some ⟨FrW.rf, V, hV, fun _ _ => rfl, Or.inr ⟨rfl, c, fun _ => Or.inl e⟩⟩
        · show Ok (j_X9_offer_83 (nI q) (nI u.length) 1 ρ) _
          refine (store_R hN hV hT hq hu h8).mono ?_
          rintro τ ⟨a, V', b1, b2, b3⟩
          exact ⟨a, V', b1, b2, Or.inl ⟨b3, Or.inr ⟨d, e⟩⟩⟩
    · rw [Lim_out (r := Sum.inr (0 : Int32)) (by
        show b_X9_offer_18 (nI q) (nI u.length) 0 0 ρ = _
        unfold b_X9_offer_18
        rw [if_neg (by rw [show (0 : Int32) = nI 0 from rfl, n_le (by omega) (by omega)]; omega), if_pos rfl, gd_ix (by omega) (by omega), n_cl (by omega), v1, if_neg (by rw [n_eq (by omega) (by omega)]; exact d)]), Option.bind_some]
      show Ok (j_X9_offer_83 (nI q) (nI u.length) 0 ρ) _
      unfold j_X9_offer_83
      rw [if_pos rfl]
      exact Ok.some ⟨FrW.rf, V, hV, fun _ _ => rfl, Or.inr ⟨rfl, c, fun z => absurd z d⟩⟩
