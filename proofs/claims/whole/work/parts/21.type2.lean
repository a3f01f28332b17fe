/-! loops by their index; type -/
abbrev SumP {S T : Type} (I : S → Prop) (Q : T → Prop) (x : S ⊕ T) : Prop := match x with | .inl s => I s | .inr r => Q r
theorem Ok.for {S T : Type} {F : S → Option (S ⊕ T)} {Q : T → Prop} (n : Nat) (I : Nat → S → Prop) (hs : ∀ k s, k < n → I k s → Ok (F s) (SumP (I (k + 1)) Q)) (he : ∀ s, I n s → Ok (F s) (SumP (fun _ => False) Q)) (k0 : Nat) (hk : k0 ≤ n) (s : S) (h0 : I k0 s) : Ok (Lim F s) Q := by
  have key : ∀ (m : Nat) (k : Nat) (s : S), k + m = n → I k s → Ok (Lim F s) Q := by
    intro m
    induction m with
    | zero =>
      intro k s e h
      have e : k = n := by omega
      subst e
      obtain ⟨x, hF, hx⟩ := he s h
      cases x with
      | inl s' => exact absurd hx id
      | inr r => exact ⟨r, Lim_out hF, hx⟩
    | succ m ih =>
      intro k s e h
      obtain ⟨x, hF, hx⟩ := hs k s (by omega) h
      cases x with
      | inl s' => rw [Lim_step hF]; exact ih (k + 1) s' (by omega) hx
      | inr r => exact ⟨r, Lim_out hF, hx⟩
  exact key (n - k0) k0 s (by omega) h0
theorem Ok.down {S T : Type} {F : S → Option (S ⊕ T)} {Q : T → Prop} (I : Nat → S → Prop) (hs : ∀ k s, I (k + 1) s → Ok (F s) (SumP (I k) Q)) (he : ∀ s, I 0 s → Ok (F s) (SumP (fun _ => False) Q)) (n : Nat) (s : S) (h0 : I n s) : Ok (Lim F s) Q := by
  induction n generalizing s with
  | zero =>
    obtain ⟨x, hF, hx⟩ := he s h0
    cases x with
    | inl s' => exact absurd hx id
    | inr r => exact ⟨r, Lim_out hF, hx⟩
  | succ n ih =>
    obtain ⟨x, hF, hx⟩ := hs n s h0
    cases x with
    | inl s' => rw [Lim_step hF]; exact ih s' hx
    | inr r => exact ⟨r, Lim_out hF, hx⟩
theorem Ok.wf {S T : Type} {F : S → Option (S ⊕ T)} {Q : T → Prop} (I : Nat → S → Prop) (hs : ∀ m s, I m s → Ok (F s) (SumP (fun s' => ∃ m', m' < m ∧ I m' s') Q)) (n : Nat) (s : S) (h0 : I n s) : Ok (Lim F s) Q := by
  have key : ∀ (b n : Nat) (s : S), n < b → I n s → Ok (Lim F s) Q := by
    intro b
    induction b with
    | zero => intro n s h; omega
    | succ b ih =>
      intro n s hn h
      obtain ⟨x, hF, hx⟩ := hs n s h
      cases x with
      | inl s' =>
        obtain ⟨m', h1, h2⟩ := hx
        rw [Lim_step hF]; exact ih m' s' (by omega) h2
      | inr r => exact ⟨r, Lim_out hF, hx⟩
  exact key (n + 1) n s (by omega) h0
theorem n_suc (k : Nat) : nI k + 1 = nI (k + 1) := n_add k 1
/-- f ends with r, where Ok says just that -/
theorem Ok.eq {α : Type} {f : Option α} {r : α} (h : Ok f (fun x => x = r)) : f = Option.some r := by
  obtain ⟨x, h1, rfl⟩ := h
  exact h1
theorem RepC.tx {A : AS} {σ σ' : Mem} {l : List Nat} (h : RepC A σ) (e0 : σ'.1 0 = σ.1 0) (e : ∀ o, 34 ≤ o → σ'.1 o = σ.1 o) (ej : σ'.2.1 0 = σ.2.1 0) (er : σ'.2.2 = σ.2.2) (h1 : σ'.1 1 1 = nI l.length) (h2 : ∀ j, j < l.length → σ'.1 2 j = nI (l.getD j 0)) : RepC (setTx A l) σ' := by
  obtain ⟨k1, k2, k3, k4⟩ := h.hi e er
  obtain ⟨-, h3, h4, ⟨h5, h5'⟩, h6, h7, h8⟩ := h
  exact ⟨⟨h1, h2⟩, k1, k2, ⟨by rw [e0]; exact h5, by rw [e0]; exact h5'⟩, k3, k4, by rw [ej]; exact h8⟩
theorem RepR.tx {A : AS} {σ σ' : Mem} {l : List Nat} (h : RepR A σ) (e : ∀ o, 2 ≤ o → o ≤ 8 → σ'.1 o = σ.1 o) (ej : σ'.2.1 0 0 = σ.2.1 0 0) (h1 : σ'.1 0 2 = nI l.length) (h2 : ∀ j, j < l.length → σ'.1 1 j &&& 255 = nI (l.getD j 0)) : RepR (setTx A l) σ' := by
  obtain ⟨-, ⟨h3, h4⟩, h5, h6, h7⟩ := h
  have e7 := e 7 (by omega) (by omega)
  have e8 := e 8 (by omega) (by omega)
  refine ⟨⟨h1, h2⟩, ⟨by rw [e 2 (by omega) (by omega)]; exact h3, h4.cg (e _ (by omega) (by omega)) (e _ (by omega) (by omega)) (e _ (by omega) (by omega)) (e _ (by omega) (by omega))⟩, by unfold StR; rw [e7]; exact h5, fun k hk => ?_, by rw [ej]; exact h7⟩
  have := h6 k hk
  show ImR σ' k (imA A k)
  cases hx : imA A k with
  | none => rw [hx] at this; show σ'.1 8 k = 0; rw [e8]; exact this
  | some y =>
    obtain ⟨o, g, t⟩ := y
    rw [hx] at this
    show σ'.1 8 k = 1 ∧ StR σ' (34 * (1 + k)) o g t
    unfold StR
    rw [e8, e7]
    exact this
theorem getD_app {l : List Nat} {x j : Nat} (h : j < l.length + 1) : (l ++ [x]).getD j 0 = if j = l.length then x else l.getD j 0 := by
  rw [List.getD_eq_getElem?_getD, List.getD_eq_getElem?_getD]
  by_cases e : j = l.length
  · subst e
    rw [if_pos rfl]
    simp
  · rw [if_neg e, List.getElem?_append_left (by omega)]
theorem push_C {A : AS} {σ : Mem} {x : Nat} (h : RepC A σ) (hl : (txA A).length < 300) : Ok (f_X6_put (nI x) σ) (fun σ' => RepC (setTx A (txA A ++ [x])) σ' ∧ PF σ σ') := by
  have h1 := h.1.1
  have h2 := h.1.2
  unfold f_X6_put
  rw [h1, if_neg (by rw [show (300 : Int32) = nI 300 from rfl, n_le (by omega) (by omega)]; omega)]
  refine Ok.gd (n_ix hl (by omega)) (Ok.lt (Ok.lt (Ok.some ⟨?_, (PF.sI (by omega)).tr (PF.sI (by omega))⟩)))
  rw [n_cl (by omega)]
  refine h.tx ?_ (fun o ho => ?_) rfl rfl ?_ (fun j hj => ?_)
  · rw [sI_o (by omega), sI_o (by omega)]
  · rw [sI_o (by omega), sI_o (by omega)]
  · rw [sI_same, sI_off (by omega), h1, show (1 : Int32) = nI 1 from rfl, n_add]
    simp
  · rw [sI_off (by omega), sI_get]
    simp only [List.length_append, List.length_singleton] at hj
    rw [getD_app hj]
    by_cases e : j = (txA A).length
    · rw [if_pos ⟨rfl, e⟩, if_pos e]
    · rw [if_neg (fun q => e q.2), if_neg e]; exact h2 j (by omega)
theorem push_R {A : AS} {σ : Mem} {x : Nat} {w : Int32} (h : RepR A σ) (hw : w &&& 255 = nI x) : RepR (setTx A (txA A ++ [x])) (sI (sI σ 1 (txA A).length w) 0 2 (nI ((txA A).length + 1))) := by
  have h2 := h.1.2
  refine h.tx (fun o h1 h2 => ?_) rfl ?_ (fun j hj => ?_)
  · rw [sI_o (by omega), sI_o (by omega)]
  · rw [sI_same]; simp
  · rw [sI_off (by omega), sI_get]
    simp only [List.length_append, List.length_singleton] at hj
    rw [getD_app hj]
    by_cases e : j = (txA A).length
    · rw [if_pos ⟨rfl, e⟩, if_pos e]; exact hw
    · rw [if_neg (fun q => e q.2), if_neg e]; exact h2 j (by omega)
/-- byte k of a number, the bytes k = n - 1 .. 0 -/
def byteV (v : Int64) (k : Nat) : Nat := ((v >>> ((nI (8 * k)).toInt64 &&& 63)).toInt32 &&& 255).toBitVec.toNat
def bytesV (v : Int64) : Nat → List Nat
  | 0 => []
  | k + 1 => byteV v k :: bytesV v k
theorem bytesV_len (v : Int64) : ∀ n, (bytesV v n).length = n
  | 0 => rfl
  | n + 1 => by show (bytesV v n).length + 1 = n + 1; rw [bytesV_len v n]
theorem byteV_lt (v : Int64) (k : Nat) : byteV v k < 256 := by
  unfold byteV
  rw [Int32.toBitVec_and, BitVec.toNat_and]
  refine Nat.lt_of_le_of_lt Nat.and_le_right ?_
  decide
theorem bytesV_lt (v : Int64) : ∀ n x, x ∈ bytesV v n → x < 256
  | 0, x, h => absurd h List.not_mem_nil
  | n + 1, x, h => by
    rcases List.mem_cons.mp h with rfl | h
    · exact byteV_lt v n
    · exact bytesV_lt v n x h
theorem byteV_C (v : Int64) (k : Nat) : (v >>> (((8 : Int32) * nI k).toInt64 &&& 63)).toInt32 &&& 255 = nI (byteV v k) := by
  rw [show (8 : Int32) = nI 8 from rfl, n_mul]
  exact (n_back _).symm
theorem byteV_R (v : Int64) (k : Nat) : vp_nar .byte ((((v >>> (((8 : Int32) * nI k).toInt64 &&& 63)) &&& (255 : Int64)).toInt32).toInt8.toInt32) &&& 255 = nI (byteV v k) := by
  rw [vp_nar_byte, byte_twice, byte_and, long_and]
  exact byteV_C v k
theorem m1_lt {k : Nat} (hk : k ≤ 8) : (nI k + (-1) < 0) ↔ k = 0 := by
  by_cases h : k = 0
  · subst h; exact ⟨fun _ => rfl, fun _ => by decide⟩
  · rw [n_m1 (by omega), n_neg (by omega)]
    simp [h]
theorem type_C {A : AS} {σ : Mem} (h : RepC A σ) (hA : WfA A) (v : Int64) {n : Nat} (h1 : 1 ≤ n) (h2 : n ≤ 8) (hl : (txA A).length + n ≤ 300) : Ok (f_X8_type v (nI n) σ) (fun r => r.1 = nI ((txA A).length + n) ∧ RepC (setTx A (txA A ++ bytesV v n)) r.2 ∧ PF σ r.2) := by
  unfold f_X8_type
  rw [h.1.1, if_neg (by rw [show (1 : Int32) = nI 1 from rfl, n_lt (by omega) (by omega)]; omega), if_pos (by rw [show (8 : Int32) = nI 8 from rfl, n_le (by omega) (by omega)]; omega), if_pos (by rw [show (300 : Int32) = nI 300 from rfl, n_add, n_le (by omega) (by omega)]; omega)]
  refine Ok.lt (Ok.bind (P := fun r => RepC (setTx A (txA A ++ bytesV v n)) r ∧ PF σ r) ?_ (fun r hr => Ok.some ⟨?_, hr.1, hr.2⟩))
  · rw [show nI n - 1 = nI n + (-1) from Int32.sub_eq_add_neg _ _]
    refine Ok.down (fun k s => ∃ d, s.1 = nI k + (-1) ∧ k ≤ n ∧ d ++ bytesV v k = bytesV v n ∧ d.length + k = n ∧ RepC (setTx A (txA A ++ d)) s.2 ∧ PF σ s.2) ?_ ?_ n _ ⟨[], rfl, Nat.le_refl _, rfl, by simp, by simpa [setTx, txA] using h, PF.rf⟩
    · rintro m ⟨v4, σ1⟩ ⟨d, e1, e2, e3, e4, e5, e6⟩
      have e1 : v4 = nI (m + 1) + (-1) := e1
      rw [n_m1 (by omega), show m + 1 - 1 = m by omega] at e1
      subst e1
      show Ok (b_X8_type_36 v (nI n) (nI m) σ1) _
      unfold b_X8_type_36
      rw [if_neg (by rw [n_neg (by omega)]; exact id), byteV_C]
      refine Ok.bind (push_C e5 (by show (txA A ++ d).length < 300; simp; omega)) (fun r hr => Ok.lt (Ok.some ⟨d ++ [byteV v m], rfl, by omega, by rw [← e3]; simp [bytesV], by simp; omega, ?_, e6.tr hr.2⟩))
      have := hr.1
      rw [show txA (setTx A (txA A ++ d)) = txA A ++ d from rfl] at this
      rw [← List.append_assoc]
      exact this
    · rintro ⟨v4, σ1⟩ ⟨d, e1, e2, e3, e4, e5, e6⟩
      have e1 : v4 = nI 0 + (-1) := e1
      subst e1
      show Ok (b_X8_type_36 v (nI n) (nI 0 + (-1)) σ1) _
      unfold b_X8_type_36
      rw [if_pos (by decide)]
      refine Ok.some ⟨?_, e6⟩
      rw [show d = bytesV v n by rw [← e3]; simp [bytesV]] at e5
      exact e5
  · rw [hr.1.1.1]
    show nI (txA A ++ bytesV v n).length = _
    rw [List.length_append, bytesV_len]
theorem type_R {A : AS} {σ : Mem} (h : RepR A σ) (hA : WfA A) (v : Int64) {n : Nat} (h1 : 1 ≤ n) (h2 : n ≤ 8) (hl : (txA A).length + n ≤ 300) : Ok (f_X9_type v (nI n) σ) (fun r => r.1 = nI ((txA A).length + n) ∧ RepR (setTx A (txA A ++ bytesV v n)) r.2) := by
  unfold f_X9_type
  rw [show (1 : Int32) = nI 1 from rfl, show (8 : Int32) = nI 8 from rfl, in_yes h1 h2 (by omega), if_neg (by decide), h.1.1, if_pos (by rw [show (300 : Int32) = nI 300 from rfl, n_add, n_le (by omega) (by omega)]; omega)]
  refine Ok.lt (Ok.bind (P := fun r => RepR (setTx A (txA A ++ bytesV v n)) r) ?_ (fun r hr => Ok.some ⟨?_, hr⟩))
  · rw [show nI n - nI 1 = nI n + (-1) from Int32.sub_eq_add_neg _ _]
    refine Ok.down (fun k s => ∃ d, s.1 = nI k + (-1) ∧ k ≤ n ∧ d ++ bytesV v k = bytesV v n ∧ d.length + k = n ∧ RepR (setTx A (txA A ++ d)) s.2) ?_ ?_ n _ ⟨[], rfl, Nat.le_refl _, rfl, by simp, by simpa [setTx, txA] using h⟩
    · rintro m ⟨v4, σ1⟩ ⟨d, e1, e2, e3, e4, e5⟩
      have e1 : v4 = nI (m + 1) + (-1) := e1
      rw [n_m1 (by omega), show m + 1 - 1 = m by omega] at e1
      subst e1
      show Ok (b_X9_type_32 v (nI n) (nI m) σ1) _
      unfold b_X9_type_32
      have hlen : (txA (setTx A (txA A ++ d))).length = (txA A).length + d.length := by show (txA A ++ d).length = _; simp
      have e50 : σ1.1 0 2 = nI ((txA A).length + d.length) := by rw [← hlen]; exact e5.1.1
      rw [if_neg (by rw [n_neg (by omega)]; exact id), e50]
      refine Ok.gd (n_ix (by omega) (by omega)) (Ok.lt (Ok.lt (Ok.lt (Ok.some ⟨d ++ [byteV v m], rfl, by omega, by rw [← e3]; simp [bytesV], by simp; omega, ?_⟩))))
      have := push_R (x := byteV v m) e5 (byteV_R v m)
      rw [show txA (setTx A (txA A ++ d)) = txA A ++ d from rfl] at this
      rw [← List.append_assoc, n_cl (by omega), sI_off (by omega), e50, show (1 : Int32) = nI 1 from rfl, n_add]
      rw [List.length_append] at this
      exact this
    · rintro ⟨v4, σ1⟩ ⟨d, e1, e2, e3, e4, e5⟩
      have e1 : v4 = nI 0 + (-1) := e1
      subst e1
      show Ok (b_X9_type_32 v (nI n) (nI 0 + (-1)) σ1) _
      unfold b_X9_type_32
      rw [if_pos (by decide)]
      refine Ok.some ?_
      rw [show d = bytesV v n by rw [← e3]; simp [bytesV]] at e5
      exact e5
  · rw [hr.1.1]
    show nI (txA A ++ bytesV v n).length = _
    rw [List.length_append, bytesV_len]
theorem type_RC {A : AS} {σ ρ : Mem} (h : RepC A σ) (g : RepR A ρ) (hA : WfA A) (v : Int64) (a : Int32) : Both A σ (f_X8_type v a σ) (f_X9_type v a ρ) := by
  have htl : (txA A).length ≤ 300 := hA.2.1
  rcases in_cs a 1 8 (by omega) (by omega) with ⟨n, h1, h2, rfl, h3⟩ | ⟨hn, h3⟩
  · by_cases hl : (txA A).length + n ≤ 300
    · obtain ⟨⟨c1, c2⟩, c3, c4, c5, c6⟩ := type_C h hA v h1 h2 hl
      obtain ⟨⟨r1, r2⟩, r3, r4, r5⟩ := type_R g hA v h1 h2 hl
      have c4 : c1 = _ := c4
      have r4 : r1 = _ := r4
      subst c4 r4
      refine ⟨_, _, c2, r2, c3, r3, c5, r5, ?_, rfl, c6⟩
      obtain ⟨w1, w2, w3, w4, w5, w6, w7, w8⟩ := hA
      refine ⟨fun x hx => ?_, ?_, w3, w4, w5, w6, w7, w8⟩
      · rcases List.mem_append.mp (show x ∈ txA A ++ bytesV v n from hx) with q | q
        · exact w1 x q
        · exact bytesV_lt v n x q
      · show (txA A ++ bytesV v n).length ≤ 300
        rw [List.length_append, bytesV_len]; exact hl
    · refine ⟨-3, A, σ, ρ, ?_, ?_, h, g, hA, rfl, PF.rf⟩
      · unfold f_X8_type
        rw [h.1.1, if_neg (by rw [show (1 : Int32) = nI 1 from rfl, n_lt (by omega) (by omega)]; omega), if_pos (by rw [show (8 : Int32) = nI 8 from rfl, n_le (by omega) (by omega)]; omega), if_neg (by rw [show (300 : Int32) = nI 300 from rfl, n_add, n_le (by omega) (by omega)]; omega)]
      · unfold f_X9_type
        rw [show f_X9_in (nI n) 1 8 = 1 from h3, if_neg (by decide), g.1.1, if_neg (by rw [show (300 : Int32) = nI 300 from rfl, n_add, n_le (by omega) (by omega)]; omega)]
  · refine ⟨-1, A, σ, ρ, ?_, ?_, h, g, hA, rfl, PF.rf⟩
    · unfold f_X8_type
      by_cases q : a < 1
      · rw [if_pos q]
      · rw [if_neg q, if_neg]
        intro q2
        rcases n_of a with h0 | ⟨j, hj, rfl⟩
        · refine q ?_
          rw [Int32.lt_iff_toInt_lt] at h0 ⊢
          have e1 : (0 : Int32).toInt = 0 := by decide
          have e2 : (1 : Int32).toInt = 1 := by decide
          omega
        · rw [show (1 : Int32) = nI 1 from rfl, n_lt hj (by omega)] at q
          rw [show (8 : Int32) = nI 8 from rfl, n_le hj (by omega)] at q2
          exact hn j (by omega) q2 rfl
    · unfold f_X9_type
      rw [show f_X9_in a 1 8 = 0 from h3, if_pos rfl]
