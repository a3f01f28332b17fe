/-! simple calls: abstract changes, numbers of bits -/
def setTx (A : AS) (l : List Nat) : AS := (l, A.2)
def setOn (A : AS) (o : Nat) : AS := (A.1, A.2.1, o, A.2.2.2)
def setGd (A : AS) (g : Nat) : AS := (A.1, A.2.1, A.2.2.1, g, A.2.2.2.2)
def setTr (A : AS) (t : List Nat) : AS := (A.1, A.2.1, A.2.2.1, A.2.2.2.1, t, A.2.2.2.2.2)
def setIm (A : AS) (f : Nat → Option (Nat × Nat × List Nat)) : AS := (A.1, A.2.1, A.2.2.1, A.2.2.2.1, A.2.2.2.2.1, f, A.2.2.2.2.2.2)
def setTc (A : AS) (c : Int64) : AS := (A.1, A.2.1, A.2.2.1, A.2.2.2.1, A.2.2.2.2.1, A.2.2.2.2.2.1, c)
theorem LawM.cg {σ σ' : Mem} {a b c d : Nat} {rl : List Ru} (h : LawM σ a b c d rl) (ea : σ'.1 a = σ.1 a) (eb : σ'.1 b = σ.1 b) (ec : σ'.1 c = σ.1 c) (ed : σ'.1 d = σ.1 d) : LawM σ' a b c d rl := by
  intro j hj
  rw [ea, eb, ec, ed]
  exact h j hj
theorem LawC.cg {σ σ' : Mem} {t : Nat} {rl : List Ru} (h : LawC σ t rl) (e : ∀ o, t ≤ o → o ≤ t + 4 → σ'.1 o = σ.1 o) : LawC σ' t rl := by
  refine ⟨by rw [e t (by omega) (by omega)]; exact h.1, h.2.cg (e _ (by omega) (by omega)) (e _ (by omega) (by omega)) (e _ (by omega) (by omega)) (e _ (by omega) (by omega))⟩
theorem TreeC.cg {σ σ' : Mem} {t : Nat} {l : List Nat} (h : TreeC σ t l) (e : ∀ o, t ≤ o → o ≤ t + 3 → σ'.1 o = σ.1 o) : TreeC σ' t l := by
  refine ⟨by rw [e t (by omega) (by omega)]; exact h.1, fun j hj => ?_⟩
  rw [e (t + 1) (by omega) (by omega), e (t + 2) (by omega) (by omega), e (t + 3) (by omega) (by omega)]
  exact h.2 j hj
theorem ImC.cg {σ σ' : Mem} {k : Nat} {x : Option (Nat × Nat × List Nat)} (h : ImC σ k x) (e : ∀ o, 54 + 6 * k ≤ o → o ≤ 58 + 6 * k → σ'.1 o = σ.1 o) : ImC σ' k x := by
  cases x with
  | none =>
    show σ'.1 (54 + 6 * k) 0 = 0
    rw [e _ (by omega) (by omega)]
    exact h
  | some y =>
    obtain ⟨o, g, t⟩ := y
    obtain ⟨h1, h2, h3, h4⟩ := h
    refine ⟨?_, ?_, ?_, h4.cg (fun q h1 h2 => e q (by omega) (by omega))⟩ <;> (rw [e _ (by omega) (by omega)]; assumption)
theorem RfC.law {σ : Mem} (h : RfC σ) : (σ.2.2 4 = 34 ∨ σ.2.2 4 = 39) ∧ (σ.2.2 6 = 44 ∨ σ.2.2 6 = 49) := by
  obtain ⟨h1, h2⟩ := h
  exact ⟨h1.imp And.left And.left, h2.imp And.left And.left⟩
/-- what lies above the pairs stays -/
theorem RepC.hi {A : AS} {σ σ' : Mem} (h : RepC A σ) (e : ∀ o, 34 ≤ o → σ'.1 o = σ.1 o) (er : σ'.2.2 = σ.2.2) : RfC σ' ∧ LawC σ' (σ'.2.2 4) (rlA A) ∧ TreeC σ' (σ'.2.2 6) (trA A) ∧ ∀ k, k < 2 → ImC σ' k (imA A k) := by
  obtain ⟨-, h3, h4, -, h6, h7, -⟩ := h
  obtain ⟨q1, q2⟩ := h3.law
  rw [er]
  refine ⟨by unfold RfC; rw [er]; exact h3, h4.cg (fun o h1 _ => e o ?_), h6.cg (fun o h1 _ => e o ?_), fun k hk => (h7 k hk).cg (fun o h1 _ => e o (by omega))⟩
  · rcases q1 with q | q <;> omega
  · rcases q2 with q | q <;> omega
/-- a call that writes into Climb alone -/
theorem RepC.climb {A : AS} {σ σ' : Mem} (h : RepC A σ) (e : ∀ o, o < 4 ∨ 9 ≤ o → σ'.1 o = σ.1 o) (ej : σ'.2.1 0 = σ.2.1 0) (er : σ'.2.2 = σ.2.2) : RepC A σ' := by
  obtain ⟨k1, k2, k3, k4⟩ := h.hi (fun o ho => e o (by omega)) er
  obtain ⟨⟨h1, h2⟩, h3, h4, ⟨h5, h5'⟩, h6, h7, h8⟩ := h
  refine ⟨⟨?_, ?_⟩, k1, k2, ⟨?_, ?_⟩, k3, k4, ?_⟩
  · rw [e 1 (by omega)]; exact h1
  · rw [e 2 (by omega)]; exact h2
  · rw [e 0 (by omega)]; exact h5
  · rw [e 0 (by omega)]; exact h5'
  · rw [ej]; exact h8
/-- a call that writes into the reference's scratch rows alone -/
theorem RepR.scr {A : AS} {σ σ' : Mem} (h : RepR A σ) (e2 : σ'.1 0 2 = σ.1 0 2) (e : ∀ o, 1 ≤ o → o ≤ 8 → σ'.1 o = σ.1 o) (ej : σ'.2.1 0 0 = σ.2.1 0 0) : RepR A σ' := by
  obtain ⟨⟨h1, h2⟩, ⟨h3, h4⟩, h5, h6, h7⟩ := h
  have e7 := e 7 (by omega) (by omega)
  have e8 := e 8 (by omega) (by omega)
  refine ⟨⟨by rw [e2]; exact h1, by rw [e 1 (by omega) (by omega)]; exact h2⟩, ⟨by rw [e 2 (by omega) (by omega)]; exact h3, h4.cg (e _ (by omega) (by omega)) (e _ (by omega) (by omega)) (e _ (by omega) (by omega)) (e _ (by omega) (by omega))⟩, by unfold StR; rw [e7]; exact h5, fun k hk => ?_, by rw [ej]; exact h7⟩
  have := h6 k hk
  cases hx : imA A k with
  | none => rw [hx] at this; show σ'.1 8 k = 0; rw [e8]; exact this
  | some y =>
    obtain ⟨o, g, t⟩ := y
    rw [hx] at this
    show σ'.1 8 k = 1 ∧ StR σ' (34 * (1 + k)) o g t
    unfold StR
    rw [e8, e7]
    exact this
theorem R_clear {A : AS} {σ : Mem} (h : RepR A σ) : Ok (f_X9_clear σ) (fun r => r.1 = nI (txA A).length ∧ RepR (setTx A []) r.2) := by
  obtain ⟨⟨h1, h2⟩, ⟨h3, h4⟩, h5, h6, h7⟩ := h
  unfold f_X9_clear
  refine Ok.lt (Ok.lt (Ok.some ⟨h1, ?_⟩))
  exact ⟨⟨sI_same _ _ _ _, fun j hj => absurd hj (by simp [txA, setTx])⟩, ⟨h3, h4⟩, h5, fun k hk => h6 k hk, h7⟩
theorem C_clear {A : AS} {σ : Mem} (h : RepC A σ) : Ok (f_X8_clear σ) (fun r => r.1 = nI (txA A).length ∧ RepC (setTx A []) r.2 ∧ PF σ r.2) := by
  obtain ⟨k1, k2, k3, k4⟩ := h.hi (σ' := sI σ 1 1 0) (fun o ho => sI_o (by omega)) rfl
  obtain ⟨⟨h1, h2⟩, h3, h4, h5, h6, h7, h8⟩ := h
  unfold f_X8_clear
  refine Ok.lt (Ok.lt (Ok.some ⟨h1, ?_, PF.sI (by omega)⟩))
  exact ⟨⟨sI_same _ _ _ _, fun j hj => absurd hj (by simp [txA, setTx])⟩, k1, k2, h5, k3, k4, h8⟩
/-! bits -/
theorem sh31 : ∀ n, n < 32 → ((nI n &&& 31).toBitVec.smod 32).toNat = n := by decide
theorem n_and (a b : Nat) : nI a &&& nI b = nI (a &&& b) := by
  rw [← Int32.toBitVec_inj, Int32.toBitVec_and]
  show BitVec.ofNat 32 a &&& BitVec.ofNat 32 b = BitVec.ofNat 32 (a &&& b)
  rw [BitVec.ofNat_and]
theorem n_or (a b : Nat) : nI a ||| nI b = nI (a ||| b) := by
  rw [← Int32.toBitVec_inj, Int32.toBitVec_or]
  show BitVec.ofNat 32 a ||| BitVec.ofNat 32 b = BitVec.ofNat 32 (a ||| b)
  rw [BitVec.ofNat_or]
theorem n_shr {a k : Nat} (ha : a < 2147483648) (hk : k < 32) : nI a >>> (nI k &&& 31) = nI (a / 2 ^ k) := pk_shrN (by simpa using ha) _ k (sh31 k hk)
theorem n_shl {a k : Nat} (hk : k < 32) (h : a * 2 ^ k < 4294967296) : nI a <<< (nI k &&& 31) = nI (a * 2 ^ k) := pk_shlN _ k (sh31 k hk) (by simpa using h)
/-- bit k -/
def bN (a k : Nat) : Nat := a / 2 ^ k % 2
theorem n_bit {a k : Nat} (ha : a < 2147483648) (hk : k < 32) : (nI a >>> (nI k &&& 31)) &&& 1 = nI (bN a k) := by
  rw [n_shr ha hk, show (1 : Int32) = nI 1 from rfl, n_and, Nat.and_one_is_mod]
  rfl
theorem bN_lt (a k : Nat) : bN a k < 2 := Nat.mod_lt _ (by omega)
theorem bit_C {a k : Nat} (ha : a < 2147483648) (hk : k < 32) : f_X8_bit (nI a) (nI k) = nI (bN a k) := n_bit ha hk
theorem has_R {a k : Nat} (ha : a < 2147483648) (hk : k < 32) : f_X9_has (nI a) (nI k) = nI (bN a k) := by
  unfold f_X9_has
  rw [n_bit ha hk]
  have := bN_lt a k
  rcases (show bN a k = 0 ∨ bN a k = 1 by omega) with h | h <;> rw [h] <;> decide
/-- a bit set to b, as the reference writes it -/
def stB (o k b : Nat) : Nat := ((nI o &&& (((1 : Int32) <<< (nI k &&& 31)) ^^^ (-1))) ||| (nI b <<< (nI k &&& 31))).toBitVec.toNat
theorem n_back (x : Int32) : nI x.toBitVec.toNat = x := by
  rw [← Int32.toBitVec_inj]
  show BitVec.ofNat 32 x.toBitVec.toNat = x.toBitVec
  simp
theorem stB_R (o k b : Nat) : (nI o &&& (((1 : Int32) <<< (nI k &&& 31)) ^^^ (-1))) ||| (nI b <<< (nI k &&& 31)) = nI (stB o k b) := (n_back _).symm
theorem stB_C {o k b : Nat} (hb : b < 2) : f_X8_withBit (nI o) (nI k) (nI b) = nI (stB o k b) := by
  rw [← stB_R]
  unfold f_X8_withBit
  rcases (show b = 0 ∨ b = 1 by omega) with rfl | rfl
  · rw [if_neg (by decide)]
    generalize nI k &&& 31 = q
    rw [← Int32.toBitVec_inj]
    simp only [Int32.toBitVec_or, Int32.toBitVec_and, Int32.toBitVec_xor, Int32.toBitVec_shiftLeft]
    rw [show (nI 0).toBitVec = 0#32 from rfl]
    simp
  · rw [if_pos (by decide)]
    generalize hm : (1 : Int32) <<< (nI k &&& 31) = m
    rw [show nI 1 <<< (nI k &&& 31) = m from hm]
    rw [← Int32.toBitVec_inj]
    simp only [Int32.toBitVec_or, Int32.toBitVec_and, Int32.toBitVec_xor]
    rw [show (-1 : Int32).toBitVec = BitVec.allOnes 32 from by decide]
    ext i hi
    simp only [BitVec.getElem_or, BitVec.getElem_and, BitVec.getElem_xor, BitVec.getElem_allOnes]
    cases (nI o).toBitVec[i] <;> cases m.toBitVec[i] <;> rfl
theorem stB_lt {o k b n : Nat} (hb : b < 2) (hk : k < n) (ho : o < 2 ^ n) (hn : n < 31) : stB o k b < 2 ^ n := by
  have hp : 2 ^ k < 2 ^ n := Nat.pow_lt_pow_right (by omega) hk
  have hq : 2 ^ n ≤ 2 ^ 31 := Nat.pow_le_pow_right (by omega) (by omega)
  unfold stB
  rw [Int32.toBitVec_or, BitVec.toNat_or]
  refine Nat.or_lt_two_pow ?_ ?_
  · rw [Int32.toBitVec_and, BitVec.toNat_and]
    refine Nat.lt_of_le_of_lt Nat.and_le_left ?_
    show (BitVec.ofNat 32 o).toNat < 2 ^ n
    rw [BitVec.toNat_ofNat]
    exact Nat.lt_of_le_of_lt (Nat.mod_le _ _) ho
  · have h1 : b * 2 ^ k ≤ 2 ^ k := by rcases (show b = 0 ∨ b = 1 by omega) with rfl | rfl <;> simp
    rw [n_shl (by omega) (by omega)]
    show (BitVec.ofNat 32 (b * 2 ^ k)).toNat < 2 ^ n
    rw [BitVec.toNat_ofNat]
    exact Nat.lt_of_le_of_lt (Nat.mod_le _ _) (by omega)
/-! rule, turn, good, trace -/
theorem mulz {x : Int32} (h : x = 0 ∨ x = 1) : x &&& 1 = x := by rcases h with rfl | rfl <;> decide
theorem isRule_R {A : AS} {σ : Mem} (h : RepR A σ) (hA : WfA A) (a : Int32) : (∃ j, j < (rlA A).length ∧ a = nI j ∧ f_X9_isRule a σ = some 1) ∨ ((∀ j, j < (rlA A).length → a ≠ nI j) ∧ f_X9_isRule a σ = some 0) := by
  have h3 := h.2.1.1
  have hl : (rlA A).length < 2147483648 := by have := hA.2.2.2.1; omega
  unfold f_X9_isRule
  rw [show (0 : Int32).toNatClampNeg = 0 from rfl, h3]
  rcases in_lt a hl with ⟨j, h1, h2, h3⟩ | ⟨h1, h2⟩
  · exact Or.inl ⟨j, h1, h2, by rw [h3]; exact gd_yes (by decide)⟩
  · exact Or.inr ⟨h1, by rw [h2]; exact gd_yes (by decide)⟩
theorem has_C {σ : Mem} {t n : Nat} (ht : σ.1 t 4 = nI n) (hn : n ≤ 16) (a : Int32) : (∃ j, j < n ∧ a = nI j ∧ f_X3_has t a σ = 1) ∨ ((∀ j, j < n → a ≠ nI j) ∧ f_X3_has t a σ = 0) := by
  unfold f_X3_has
  rw [ht]
  rcases n_of a with h | ⟨j, hj, rfl⟩
  · refine Or.inr ⟨fun j hj e => ?_, by rw [if_pos h]⟩
    rw [e, n_neg (by omega)] at h
    exact h
  · rw [if_neg (by rw [n_neg hj]; exact fun h => h)]
    simp only [n_le (show n < 2147483648 by omega) hj]
    by_cases hjn : j < n
    · refine Or.inl ⟨j, hjn, rfl, ?_⟩
      rw [if_neg (by omega), if_neg (by rw [show (16 : Int32) = nI 16 from rfl, n_le (by omega) hj]; omega)]
    · refine Or.inr ⟨fun i hi e => ?_, by rw [if_pos (by omega)]⟩
      rw [n_eq (by omega) (by omega)] at e
      omega
theorem ru_ok {A : AS} (hA : WfA A) {j : Nat} (hj : j < (rlA A).length) : OkRu (ruA (rlA A) j) := by
  unfold ruA
  rw [List.getD_eq_getElem?_getD, List.getElem?_eq_getElem hj]
  exact hA.2.2.1 _ (List.getElem_mem hj)
/-- what rule() answers -/
noncomputable def ruleV (A : AS) (a b : Int32) : Int32 := by
  classical
  exact if h : ∃ j, j < (rlA A).length ∧ a = nI j then (if b = 0 then nI (ruA (rlA A) h.choose).1 else if b = 1 then armV (ruA (rlA A) h.choose) 1 (ruA (rlA A) h.choose).2.1 else if b = 2 then armV (ruA (rlA A) h.choose) 2 (ruA (rlA A) h.choose).2.2.1 else if b = 3 then nI (ruA (rlA A) h.choose).2.2.2 else if b = 4 then nI (bN (onA A) h.choose) else -1) else -1
theorem ruleV_no {A : AS} {a b : Int32} (h : ∀ j, j < (rlA A).length → a ≠ nI j) : ruleV A a b = -1 := by
  unfold ruleV
  rw [dif_neg (fun ⟨j, h1, h2⟩ => h j h1 h2)]
theorem ruleV_yes {A : AS} (hA : WfA A) {j : Nat} {b : Int32} (hj : j < (rlA A).length) : ruleV A (nI j) b = (if b = 0 then nI (ruA (rlA A) j).1 else if b = 1 then armV (ruA (rlA A) j) 1 (ruA (rlA A) j).2.1 else if b = 2 then armV (ruA (rlA A) j) 2 (ruA (rlA A) j).2.2.1 else if b = 3 then nI (ruA (rlA A) j).2.2.2 else if b = 4 then nI (bN (onA A) j) else -1) := by
  have hl : (rlA A).length ≤ 16 := hA.2.2.2.1
  have hx : ∃ i, i < (rlA A).length ∧ nI j = nI i := ⟨j, hj, rfl⟩
  have hc : hx.choose = j := by
    have h := hx.choose_spec
    have h2 := h.2
    rw [n_eq (by omega) (by omega)] at h2
    exact h2.symm
  unfold ruleV
  rw [dif_pos hx, hc]
theorem R_rule {A : AS} {σ : Mem} (h : RepR A σ) (hA : WfA A) (a b : Int32) : f_X9_rule a b σ = some (ruleV A a b) := by
  have hl : (rlA A).length ≤ 16 := hA.2.2.2.1
  have ho : onA A < 65536 := hA.2.2.2.2.1
  unfold f_X9_rule
  rcases isRule_R h hA a with ⟨j, hj, rfl, h1⟩ | ⟨hn, h1⟩
  · rw [h1, Option.bind_some, if_neg (by decide), ruleV_yes hA hj]
    obtain ⟨m1, m2, m3, m4⟩ := h.2.1.2 j hj
    rcases in_cs b 0 4 (by omega) (by omega) with ⟨i, -, hi, rfl, h2⟩ | ⟨hn, h2⟩
    · rw [show f_X9_in (nI i) 0 4 = 1 from h2, if_neg (by decide)]
      simp only [gd_ix (show j < 32 by omega) (by omega), n_cl (show j < 2147483648 by omega), m1, m2, m3, m4, show (0 : Int32).toNatClampNeg = 0 from rfl, h.2.2.1.1, n_bit (show onA A < 2147483648 by omega) (show j < 32 by omega)]
      rcases (show i = 0 ∨ i = 1 ∨ i = 2 ∨ i = 3 ∨ i = 4 by omega) with rfl | rfl | rfl | rfl | rfl <;> rfl
    · rw [show f_X9_in b 0 4 = 0 from h2, if_pos rfl]
      rw [if_neg (show ¬ b = 0 from hn 0 (by omega) (by omega)), if_neg (show ¬ b = 1 from hn 1 (by omega) (by omega)), if_neg (show ¬ b = 2 from hn 2 (by omega) (by omega)), if_neg (show ¬ b = 3 from hn 3 (by omega) (by omega)), if_neg (show ¬ b = 4 from hn 4 (by omega) (by omega))]
  · rw [h1, Option.bind_some, if_pos rfl, ruleV_no hn]
theorem C_rule {A : AS} {σ : Mem} (h : RepC A σ) (hA : WfA A) (a b : Int32) : f_X8_rule a b σ = some (ruleV A a b) := by
  have hl : (rlA A).length ≤ 16 := hA.2.2.2.1
  have ho : onA A < 65536 := hA.2.2.2.2.1
  unfold f_X8_rule
  rcases has_C h.2.2.1.1 hl a with ⟨j, hj, rfl, h1⟩ | ⟨hn, h1⟩
  · rw [h1, if_neg (by decide), ruleV_yes hA hj]
    obtain ⟨m1, m2, m3, m4⟩ := h.2.2.1.2 j hj
    simp only [gd_ix (show j < 16 by omega) (by omega), n_cl (show j < 2147483648 by omega), m1, m2, m3, m4, h.2.2.2.1.1, bit_C (show onA A < 2147483648 by omega) (show j < 32 by omega)]
    split
    · rfl
    · split
      · rfl
      · split
        · rfl
        · split
          · rfl
          · split <;> rfl
  · rw [h1, if_pos rfl, ruleV_no hn]
theorem isBit_C (a : Int32) (σ : Mem) : (∃ b, b < 2 ∧ a = nI b ∧ f_X8_isBit a σ = 1) ∨ ((∀ b, b < 2 → a ≠ nI b) ∧ f_X8_isBit a σ = 0) := by
  unfold f_X8_isBit j_X8_isBit_9
  by_cases h0 : a = 0
  · exact Or.inl ⟨0, by omega, h0, by rw [if_pos h0]⟩
  · by_cases h1 : a = 1
    · exact Or.inl ⟨1, by omega, h1, by rw [if_neg h0, if_pos h1]⟩
    · refine Or.inr ⟨fun b hb e => ?_, by rw [if_neg h0, if_neg h1]⟩
      rcases (show b = 0 ∨ b = 1 by omega) with rfl | rfl
      · exact h0 e
      · exact h1 e
theorem isBit_R (a : Int32) : (∃ b, b < 2 ∧ a = nI b ∧ f_X9_in a 0 1 = 1) ∨ ((∀ b, b < 2 → a ≠ nI b) ∧ f_X9_in a 0 1 = 0) := by
  rcases in_cs a 0 1 (by omega) (by omega) with ⟨j, -, h2, h3, h4⟩ | ⟨h1, h2⟩
  · exact Or.inl ⟨j, by omega, h3, h4⟩
  · exact Or.inr ⟨fun b hb => h1 b (by omega) (by omega), h2⟩
theorem isState_C (a : Int32) : (∃ q, q < 6 ∧ a = nI q ∧ f_X8_isState a = 1) ∨ ((∀ q, q < 6 → a ≠ nI q) ∧ f_X8_isState a = 0) := by
  unfold f_X8_isState
  rcases n_of a with h | ⟨j, hj, rfl⟩
  · refine Or.inr ⟨fun j hj e => ?_, by rw [if_pos h]⟩
    rw [e, n_neg (by omega)] at h
    exact h
  · rw [if_neg (by rw [n_neg hj]; exact fun h => h)]
    by_cases h6 : j < 6
    · exact Or.inl ⟨j, h6, rfl, by rw [if_neg (by rw [show (6 : Int32) = nI 6 from rfl, n_le (by omega) hj]; omega)]⟩
    · refine Or.inr ⟨fun i hi e => ?_, by rw [if_pos (by rw [show (6 : Int32) = nI 6 from rfl, n_le (by omega) hj]; omega)]⟩
      rw [n_eq (by omega) (by omega)] at e
      omega
theorem isState_R (a : Int32) : (∃ q, q < 6 ∧ a = nI q ∧ f_X9_in a 0 5 = 1) ∨ ((∀ q, q < 6 → a ≠ nI q) ∧ f_X9_in a 0 5 = 0) := by
  rcases in_cs a 0 5 (by omega) (by omega) with ⟨j, -, h2, h3, h4⟩ | ⟨h1, h2⟩
  · exact Or.inl ⟨j, by omega, h3, h4⟩
  · exact Or.inr ⟨fun b hb => h1 b (by omega) (by omega), h2⟩
/-- 'now' at a place below 2 changes -/
theorem RepR.now0 {A : AS} {σ : Mem} {v : Nat} (h : RepR A σ) : RepR (setOn A v) (sI σ 7 0 (nI v)) := by
  obtain ⟨⟨h1, h2⟩, ⟨h3, h4⟩, ⟨h5, h5b, h5c, h5d⟩, h6, h7⟩ := h
  refine ⟨⟨h1, h2⟩, ⟨h3, h4⟩, ⟨sI_same _ _ _ _, ?_, ?_, fun j hj => ?_⟩, fun k hk => ?_, h7⟩
  · rw [sI_slot (by omega)]; exact h5b
  · rw [sI_slot (by omega)]; exact h5c
  · rw [sI_slot (by omega)]; exact h5d j hj
  · have := h6 k hk
    show ImR (sI σ 7 0 (nI v)) k (imA A k)
    cases hx : imA A k with
    | none => rw [hx] at this; exact this
    | some y =>
      obtain ⟨o, g, t⟩ := y
      rw [hx] at this
      obtain ⟨a1, a2, a3, a4, a5⟩ := this
      refine ⟨a1, ?_, ?_, ?_, fun j hj => ?_⟩
      · rw [sI_slot (by omega)]; exact a2
      · rw [sI_slot (by omega)]; exact a3
      · rw [sI_slot (by omega)]; exact a4
      · rw [sI_slot (by omega)]; exact a5 j hj
theorem RepR.now1 {A : AS} {σ : Mem} {v : Nat} (h : RepR A σ) : RepR (setGd A v) (sI σ 7 1 (nI v)) := by
  obtain ⟨⟨h1, h2⟩, ⟨h3, h4⟩, ⟨h5, h5b, h5c, h5d⟩, h6, h7⟩ := h
  refine ⟨⟨h1, h2⟩, ⟨h3, h4⟩, ⟨?_, sI_same _ _ _ _, ?_, fun j hj => ?_⟩, fun k hk => ?_, h7⟩
  · rw [sI_slot (by omega)]; exact h5
  · rw [sI_slot (by omega)]; exact h5c
  · rw [sI_slot (by omega)]; exact h5d j hj
  · have := h6 k hk
    show ImR (sI σ 7 1 (nI v)) k (imA A k)
    cases hx : imA A k with
    | none => rw [hx] at this; exact this
    | some y =>
      obtain ⟨o, g, t⟩ := y
      rw [hx] at this
      obtain ⟨a1, a2, a3, a4, a5⟩ := this
      refine ⟨a1, ?_, ?_, ?_, fun j hj => ?_⟩
      · rw [sI_slot (by omega)]; exact a2
      · rw [sI_slot (by omega)]; exact a3
      · rw [sI_slot (by omega)]; exact a4
      · rw [sI_slot (by omega)]; exact a5 j hj
theorem RepC.f0 {A : AS} {σ : Mem} (h : RepC A σ) (k : Nat) (v : Int32) : RfC (sI σ 0 k v) ∧ LawC (sI σ 0 k v) (σ.2.2 4) (rlA A) ∧ TreeC (sI σ 0 k v) (σ.2.2 6) (trA A) ∧ ∀ i, i < 2 → ImC (sI σ 0 k v) i (imA A i) := h.hi (σ' := sI σ 0 k v) (fun o ho => sI_o (by omega)) rfl
theorem RepC.on {A : AS} {σ : Mem} {v : Nat} (h : RepC A σ) : RepC (setOn A v) (sI σ 0 8 (nI v)) := by
  obtain ⟨k1, k2, k3, k4⟩ := h.f0 8 (nI v)
  obtain ⟨h1, h3, h4, ⟨h5, h5'⟩, h6, h7, h8⟩ := h
  exact ⟨h1, k1, k2, ⟨sI_same _ _ _ _, by rw [sI_slot (by omega)]; exact h5'⟩, k3, k4, h8⟩
theorem RepC.gd {A : AS} {σ : Mem} {v : Nat} (h : RepC A σ) : RepC (setGd A v) (sI σ 0 9 (nI v)) := by
  obtain ⟨k1, k2, k3, k4⟩ := h.f0 9 (nI v)
  obtain ⟨h1, h3, h4, ⟨h5, h5'⟩, h6, h7, h8⟩ := h
  exact ⟨h1, k1, k2, ⟨by rw [sI_slot (by omega)]; exact h5, sI_same _ _ _ _⟩, k3, k4, h8⟩
/-- turn: what both sides do -/
theorem turn_RC {A : AS} {σ ρ : Mem} (h : RepC A σ) (g : RepR A ρ) (hA : WfA A) (a b : Int32) : ∃ (v : Int32) (B : AS) (σ' ρ' : Mem), f_X8_turn a b σ = some (v, σ') ∧ f_X9_turn a b ρ = some (v, ρ') ∧ RepC B σ' ∧ RepR B ρ' ∧ WfA B ∧ rlA B = rlA A ∧ PF σ σ' := by
  have hl : (rlA A).length ≤ 16 := hA.2.2.2.1
  have ho : onA A < 65536 := hA.2.2.2.2.1
  have hno : f_X9_isRule a ρ = some 0 ∨ f_X9_in b 0 1 = 0 → f_X9_turn a b ρ = some (-1, ρ) := by
    intro hh
    unfold f_X9_turn
    rcases isRule_R g hA a with ⟨j, hj, rfl, h1⟩ | ⟨hn, h1⟩
    · rw [h1, Option.bind_some, if_neg (by decide)]
      rcases hh with hh | hh
      · rw [h1] at hh; exact absurd hh (by decide)
      · rw [if_pos hh]
    · rw [h1, Option.bind_some, if_pos rfl]
  rcases has_C h.2.2.1.1 hl a with ⟨j, hj, rfl, h1⟩ | ⟨hn, h1⟩
  · rcases isBit_C b σ with ⟨q, hq, rfl, h2⟩ | ⟨hn, h2⟩
    · refine ⟨nI (bN (onA A) j), setOn A (stB (onA A) j q), sI σ 0 8 (nI (stB (onA A) j q)), sI ρ 7 0 (nI (stB (onA A) j q)), ?_, ?_, h.on, g.now0, ?_, rfl, PF.sI (by omega)⟩
      · unfold f_X8_turn
        rw [h1, if_neg (by decide), h2, if_neg (by decide)]
        simp only [lt_eq, h.2.2.2.1.1, bit_C (show onA A < 2147483648 by omega) (show j < 32 by omega), stB_C hq]
      · unfold f_X9_turn
        have e1 : f_X9_isRule (nI j) ρ = some 1 := by
          rcases isRule_R g hA (nI j) with ⟨_, _, _, h1⟩ | ⟨hn, h1⟩
          · exact h1
          · exact absurd rfl (hn j hj)
        have e2 : f_X9_in (nI q) 0 1 = 1 := by
          rcases isBit_R (nI q) with ⟨_, _, _, h1⟩ | ⟨hn, h1⟩
          · exact h1
          · exact absurd rfl (hn q hq)
        rw [e1, Option.bind_some, if_neg (by decide), e2, if_neg (by decide)]
        simp only [lt_eq, show (0 : Int32).toNatClampNeg = 0 from rfl, g.2.2.1.1, n_bit (show onA A < 2147483648 by omega) (show j < 32 by omega), stB_R]
      · obtain ⟨w1, w2, w3, w4, w5, w6, w7, w8⟩ := hA
        exact ⟨w1, w2, w3, w4, stB_lt (n := 16) hq (by omega) ho (by omega), w6, w7, w8⟩
    · refine ⟨-1, A, σ, ρ, ?_, hno (Or.inr ?_), h, g, hA, rfl, PF.rf⟩
      · unfold f_X8_turn
        rw [h1, if_neg (by decide), h2, if_pos rfl]
      · rcases isBit_R b with ⟨q, h1, h2, _⟩ | ⟨_, h1⟩
        · exact absurd h2 (hn q h1)
        · exact h1
  · refine ⟨-1, A, σ, ρ, ?_, hno (Or.inl ?_), h, g, hA, rfl, PF.rf⟩
    · unfold f_X8_turn
      rw [h1, if_pos rfl]
    · rcases isRule_R g hA a with ⟨j, h1, h2, _⟩ | ⟨_, h1⟩
      · exact absurd h2 (hn j h1)
      · exact h1
