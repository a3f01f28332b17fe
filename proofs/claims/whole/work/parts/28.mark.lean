/-! mark -/
theorem RepC.tc {A : AS} {σ : Mem} (h : RepC A σ) (c : Int64) : RepC (setTc A c) (sJ σ 0 10 c) := by
  obtain ⟨h1, h3, h4, h5, h6, h7, h8⟩ := h
  exact ⟨h1, h3, h4, h5, h6, h7, sJ_same _ _ _ _⟩
theorem RepR.tc {A : AS} {ρ : Mem} (h : RepR A ρ) (c : Int64) : RepR (setTc A c) (sJ ρ 0 0 c) := by
  obtain ⟨h1, h3, h4, h5, h6⟩ := h
  exact ⟨h1, h3, h4, h5, sJ_same _ _ _ _⟩
theorem trA_tc (A : AS) (c : Int64) : trA (setTc A c) = trA A := rfl
theorem rlA_tc (A : AS) (c : Int64) : rlA (setTc A c) = rlA A := rfl
theorem WfA.tc {A : AS} (h : WfA A) (c : Int64) : WfA (setTc A c) := h
theorem worth0 {A : AS} {σ : Mem} (h : RepC A σ) (hA : WfA A) {j : Nat} (hj : j < (trA A).length) (n : Nat) : Ok (f_X8_worthAs (n + 1) 0 (nI j) σ) (fun r => r.1 = nI (partL (trA A) j) ∧ RepC (setTc A (tcA A + 1)) r.2 ∧ PF σ r.2) := by
  have hl := hA.2.2.2.2.2.2.1.2.1
  rw [f_X8_worthAs]
  simp only []
  rw [if_neg (by decide), if_neg (by decide), if_neg (by decide), if_neg (by decide), if_neg (by decide), h.2.2.2.2.2.2]
  refine Ok.lt ?_
  rw [gd_ix (by omega) (by omega), n_cl (by omega)]
  exact Ok.some ⟨(h.2.2.2.2.1.2 j hj).2.1, h.tc _, PF.sJ (by omega)⟩
theorem tcs1 (A : AS) (c d : Int64) : setTc (setTc A c) (tcA (setTc A c) + d) = setTc A (c + d) := rfl
theorem tcs2 (A : AS) (c d e : Int64) : setTc (setTc A c) (tcA (setTc A c) + d + e) = setTc A (c + d + e) := rfl
theorem RepC.sg {A : AS} {σ : Mem} (h : RepC A σ) {l : List Nat} (e : trA A = l) {j : Nat} (hj : j < l.length) : σ.1 (σ.2.2 6 + 1) j = nI (sgn l j) := by
  subst e
  exact (h.2.2.2.2.1.2 j hj).1
theorem worth0c {A : AS} {σ : Mem} (h : RepC A σ) (hA : WfA A) {j : Nat} (hj : j < (trA A).length) (n : Nat) (c : Int64) : Ok (f_X8_worthAs (n + 1) 0 (nI j) (sJ σ 0 10 c)) (fun r => r.1 = nI (partL (trA A) j) ∧ RepC (setTc A (c + 1)) r.2 ∧ PF σ r.2) := by
  refine (worth0 (h.tc c) (hA.tc c) (by rw [trA_tc]; exact hj) n).mono ?_
  rintro r ⟨h1, h2, h3⟩
  rw [tcs1] at h2
  exact ⟨h1, h2, (PF.sJ (by omega)).tr h3⟩
theorem worth1 {A : AS} {σ : Mem} (h : RepC A σ) (hA : WfA A) {j : Nat} (hj : j < (trA A).length) (n : Nat) : Ok (f_X8_worthAs (n + 2) 1 (nI j) σ) (fun r => r.1 = nI (partL (trA A) j) * 2 ∧ RepC (setTc A (tcA A + 10 + 1)) r.2 ∧ PF σ r.2) := by
  rw [f_X8_worthAs]
  simp only []
  rw [if_pos (by decide), h.2.2.2.2.2.2]
  refine Ok.lt (Ok.bind (worth0c h hA hj n _) (fun r hr => Ok.some ⟨?_, hr.2.1, hr.2.2⟩))
  show r.1 * 2 = _
  rw [hr.1]
theorem worth1c {A : AS} {σ : Mem} (h : RepC A σ) (hA : WfA A) {j : Nat} (hj : j < (trA A).length) (n : Nat) (c : Int64) : Ok (f_X8_worthAs (n + 2) 1 (nI j) (sJ σ 0 10 c)) (fun r => r.1 = nI (partL (trA A) j) * 2 ∧ RepC (setTc A (c + 10 + 1)) r.2 ∧ PF σ r.2) := by
  refine (worth1 (h.tc c) (hA.tc c) (by rw [trA_tc]; exact hj) n).mono ?_
  rintro r ⟨h1, h2, h3⟩
  rw [tcs2] at h2
  exact ⟨h1, h2, (PF.sJ (by omega)).tr h3⟩
theorem worth2 {A : AS} {σ : Mem} (h : RepC A σ) (hA : WfA A) {j : Nat} (hj : j < (trA A).length) (n : Nat) : Ok (f_X8_worthAs (n + 2) 2 (nI j) σ) (fun r => r.1 = nI (partL (trA A) j) + nI (sgn (trA A) j) ∧ RepC (setTc A (tcA A + 100 + 1)) r.2 ∧ PF σ r.2) := by
  have hl := hA.2.2.2.2.2.2.1.2.1
  rw [f_X8_worthAs]
  simp only []
  rw [if_neg (by decide), if_pos (by decide), h.2.2.2.2.2.2]
  refine Ok.lt (Ok.bind (worth0c h hA hj n _) (fun r hr => ?_))
  rw [gd_ix (by omega) (by omega), n_cl (by omega), hr.2.1.sg (trA_tc _ _) hj]
  refine Ok.some ⟨?_, hr.2.1, hr.2.2⟩
  show r.1 + _ = _
  rw [hr.1]
theorem worth2c {A : AS} {σ : Mem} (h : RepC A σ) (hA : WfA A) {j : Nat} (hj : j < (trA A).length) (n : Nat) (c : Int64) : Ok (f_X8_worthAs (n + 2) 2 (nI j) (sJ σ 0 10 c)) (fun r => r.1 = nI (partL (trA A) j) + nI (sgn (trA A) j) ∧ RepC (setTc A (c + 100 + 1)) r.2 ∧ PF σ r.2) := by
  refine (worth2 (h.tc c) (hA.tc c) (by rw [trA_tc]; exact hj) n).mono ?_
  rintro r ⟨h1, h2, h3⟩
  rw [tcs2] at h2
  exact ⟨h1, h2, (PF.sJ (by omega)).tr h3⟩
theorem worth3 {A : AS} {σ : Mem} (h : RepC A σ) (hA : WfA A) {j : Nat} (hj : j < (trA A).length) (n : Nat) : Ok (f_X8_worthAs (n + 3) 3 (nI j) σ) (fun r => r.1 = nI (partL (trA A) j) * 2 + nI (armsN (sgn (trA A) j)) ∧ RepC (setTc A (tcA A + 1000 + 10 + 1)) r.2 ∧ PF σ r.2) := by
  have hl := hA.2.2.2.2.2.2.1.2.1
  have h8 := sgn_lt hA.2.2.2.2.2.2.1 hj
  rw [f_X8_worthAs]
  simp only []
  rw [if_neg (by decide), if_neg (by decide), if_pos (by decide), h.2.2.2.2.2.2]
  refine Ok.lt (Ok.bind (worth1c h hA hj n _) (fun r hr => ?_))
  rw [gd_ix (by omega) (by omega), n_cl (by omega), hr.2.1.sg (trA_tc _ _) hj]
  refine Ok.some ⟨?_, hr.2.1, hr.2.2⟩
  show r.1 + f_X8_armsOf (nI (sgn (trA A) j)) = _
  rw [hr.1, arms_C (by omega)]
theorem comesToc {A : AS} {σ : Mem} {c : Int64} (h : RepC (setTc A c) σ) (hA : WfA A) {j : Nat} (hj : j < (trA A).length) : Ok (f_X8_comesTo (nI j) σ) (fun r => r.1 = nI (cmA (rlA A) (onA A) (trA A) j) ∧ RepC (setTc A c) r.2 ∧ PF σ r.2) := comesTo_C h (hA.tc c) (by rw [trA_tc]; exact hj)
theorem worth4 {A : AS} {σ : Mem} (h : RepC A σ) (hA : WfA A) {j : Nat} (hj : j < (trA A).length) (n : Nat) : Ok (f_X8_worthAs (n + 3) 4 (nI j) σ) (fun r => r.1 = nI (partL (trA A) j) + nI (sgn (trA A) j) - nI (pop (cmA (rlA A) (onA A) (trA A) j) 16) ∧ RepC (setTc A (tcA A + 10000 + 100 + 1)) r.2 ∧ PF σ r.2) := by
  have hc := cmA_lt hA.2.2.1 (onA A) (trA A) j
  rw [f_X8_worthAs]
  simp only []
  rw [if_neg (by decide), if_neg (by decide), if_neg (by decide), if_pos (by decide), h.2.2.2.2.2.2]
  refine Ok.lt (Ok.bind (worth2c h hA hj n _) (fun r hr => ?_))
  refine Ok.bind (comesToc hr.2.1 hA hj) (fun u hu => Ok.some ⟨?_, hu.2.1, hr.2.2.tr hu.2.2⟩)
  show r.1 - f_J6_bitCount_0f7a4 u.1 = _
  rw [hr.1, hu.1, bitCount_C (by omega)]
theorem worth5 {A : AS} {σ : Mem} (h : RepC A σ) (hA : WfA A) {j : Nat} (hj : j < (trA A).length) (n : Nat) : Ok (f_X8_worthAs (n + 2) 5 (nI j) σ) (fun r => r.1 = nI (partL (trA A) j) + nI j ∧ RepC (setTc A (tcA A + 100000 + 1)) r.2 ∧ PF σ r.2) := by
  rw [f_X8_worthAs]
  simp only []
  rw [if_neg (by decide), if_neg (by decide), if_neg (by decide), if_neg (by decide), if_pos (by decide), h.2.2.2.2.2.2]
  refine Ok.lt (Ok.bind (worth0c h hA hj n _) (fun r hr => Ok.some ⟨?_, hr.2.1, hr.2.2⟩))
  show r.1 + _ = _
  rw [hr.1]
theorem mark_RC {A : AS} {σ ρ : Mem} (h : RepC A σ) (g : RepR A ρ) (hA : WfA A) (a b : Int32) : Both A σ (f_X8_mark a b σ) (f_X9_mark a b ρ) := by
  have hw : WfT (trA A) := hA.2.2.2.2.2.2.1
  have hl : (trA A).length ≤ 31 := hw.2.1
  have same : ∀ (fc : Option (Int32 × Mem)) (fr : Option (Int32 × Mem)), fc = some (-1000000, σ) → fr = some (-1000000, ρ) → Both A σ fc fr := fun fc fr h1 h2 => ⟨-1000000, A, σ, ρ, h1, h2, h, g, hA, rfl, PF.rf⟩
  have kinds : (∃ q, q < 6 ∧ a = nI q ∧ ¬ a < 0 ∧ ¬ (5 : Int32) < a ∧ f_X9_in a 0 5 = 1) ∨ ((a < 0 ∨ (5 : Int32) < a) ∧ f_X9_in a 0 5 = 0) := by
    rcases isState_R a with ⟨q, hq, rfl, e⟩ | ⟨hn, e⟩
    · exact Or.inl ⟨q, hq, rfl, not_n0 (by omega), by rw [show (5 : Int32) = nI 5 from rfl, n_lt (by omega) (by omega)]; omega, e⟩
    · refine Or.inr ⟨?_, e⟩
      rcases n_of a with w | ⟨j, hj, rfl⟩
      · exact Or.inl w
      · refine Or.inr ?_
        rw [show (5 : Int32) = nI 5 from rfl, n_lt (by omega) (by omega)]
        by_cases w : 5 < j
        · exact w
        · exact absurd rfl (hn j (by omega))
  rcases kinds with ⟨q, hq, rfl, k1, k2, k3⟩ | ⟨k1, k2⟩
  · rcases hasT_C h.2.2.2.2.1.1 hl b with ⟨j, hj, rfl, h1⟩ | ⟨hn, h1⟩
    · have h8 := sgn_lt hw hj
      have hc := cmA_lt hA.2.2.1 (onA A) (trA A) j
      have cls : ∀ (v : Int32) (B : AS), Ok (f_X8_worthAs 3 (nI q) (nI j) σ) (fun r => r.1 = v ∧ RepC B r.2 ∧ PF σ r.2) → Ok (f_X8_mark (nI q) (nI j) σ) (fun r => r.1 = v ∧ RepC B r.2 ∧ PF σ r.2) := by
        intro v B hv
        unfold f_X8_mark
        rw [if_neg k1, if_neg k2, h1, if_neg (by decide)]
        exact Ok.bind hv (fun r hr => Ok.some hr)
      have ref : ∀ (v : Int32) (c : Int64), (∀ ρ', ρ'.1 11 j = nI (cmA (rlA A) (onA A) (trA A) j) → ρ'.2.1 0 0 = tcA A → (if nI q = (0 : Int32) then (lt (sJ ρ' 0 0 ((ρ'.2.1 0 0) + (1 : Int64))) (fun σ5 => some (nI (partL (trA A) j), σ5))) else (if nI q = (1 : Int32) then (lt (sJ ρ' 0 0 ((ρ'.2.1 0 0) + (11 : Int64))) (fun σ6 => some ((2 : Int32) * nI (partL (trA A) j), σ6))) else (if nI q = (2 : Int32) then (lt (sJ ρ' 0 0 ((ρ'.2.1 0 0) + (101 : Int64))) (fun σ7 => some (nI (partL (trA A) j) + nI (sgn (trA A) j), σ7))) else (if nI q = (3 : Int32) then (lt (sJ ρ' 0 0 ((ρ'.2.1 0 0) + (1011 : Int64))) (fun σ8 => some (((2 : Int32) * nI (partL (trA A) j)) + (f_X9_armsOf (nI (sgn (trA A) j))), σ8))) else (if nI q = (4 : Int32) then (lt (sJ ρ' 0 0 ((ρ'.2.1 0 0) + (10101 : Int64))) (fun σ9 => gd (ix (nI j) 31) ((f_X9_bitsIn (σ9.1 11 (nI j).toNatClampNeg) σ9).bind (fun r10 => some ((nI (partL (trA A) j) + nI (sgn (trA A) j)) - r10, σ9))))) else (lt (sJ ρ' 0 0 ((ρ'.2.1 0 0) + (100001 : Int64))) (fun σ11 => some (nI (partL (trA A) j) + nI j, σ11)))))))) = some (v, sJ ρ' 0 0 c)) → Ok (f_X9_mark (nI q) (nI j) ρ) (fun r => r.1 = v ∧ RepR (setTc A c) r.2) := by
        intro v c hv
        unfold f_X9_mark
        rw [k3, if_neg (by decide), isNode_yes g hA hj, Option.bind_some, if_neg (by decide)]
        refine Ok.bind (g.comes hA) (fun r hr => ?_)
        have e := hv r (hr.1 j hj).2 hr.2.2.2.2.2
        rw [gd_ix (by omega) (by omega)]
        simp only [n_3, gd_ix (show 3 + j < 102 by omega) (by omega), n_cl (show j < 2147483648 by omega), n_cl (show 3 + j < 2147483648 by omega), (hr.1 j hj).1, hr.2.sg.2 j hj]
        refine Ok.lt (Ok.lt ?_)
        simp only [n_cl (show j < 2147483648 by omega)] at e
        rw [e]
        exact Ok.some ⟨rfl, hr.2.tc c⟩
      have ass : ∀ c x y z : Int64, x + y = z → c + x + y = c + z := fun c x y z e => by rw [Int64.add_assoc, e]
      rcases (show q = 0 ∨ q = 1 ∨ q = 2 ∨ q = 3 ∨ q = 4 ∨ q = 5 by omega) with rfl | rfl | rfl | rfl | rfl | rfl
      · refine Both.mk (cls _ _ (worth0 h hA hj 2)) (ref _ _ (fun ρ' e1 e2 => ?_)) (hA.tc _) (rlA_tc _ _)
        rw [if_pos (by decide), e2]
        rfl
      · refine Both.mk (cls _ _ (worth1 h hA hj 1)) (ref _ _ (fun ρ' e1 e2 => ?_)) (hA.tc _) (rlA_tc _ _)
        rw [if_neg (by decide), if_pos (by decide), e2, ass _ 10 1 11 (by decide), Int32.mul_comm]
        rfl
      · refine Both.mk (cls _ _ (worth2 h hA hj 1)) (ref _ _ (fun ρ' e1 e2 => ?_)) (hA.tc _) (rlA_tc _ _)
        rw [if_neg (by decide), if_neg (by decide), if_pos (by decide), e2, ass _ 100 1 101 (by decide)]
        rfl
      · refine Both.mk (cls _ _ (worth3 h hA hj 0)) (ref _ _ (fun ρ' e1 e2 => ?_)) (hA.tc _) (rlA_tc _ _)
        rw [if_neg (by decide), if_neg (by decide), if_neg (by decide), if_pos (by decide), e2, ass _ 1000 10 1010 (by decide), ass _ 1010 1 1011 (by decide), arms_R (by omega), Int32.mul_comm]
        rfl
      · refine Both.mk (cls _ _ (worth4 h hA hj 0)) (ref _ _ (fun ρ' e1 e2 => ?_)) (hA.tc _) (rlA_tc _ _)
        rw [if_neg (by decide), if_neg (by decide), if_neg (by decide), if_neg (by decide), if_pos (by decide), e2, ass _ 10000 100 10100 (by decide), ass _ 10100 1 10101 (by decide)]
        simp only [lt_eq, sJ_I]
        rw [gd_ix (by omega) (by omega), n_cl (by omega), e1, bitsIn_R (by omega)]
        rfl
      · refine Both.mk (cls _ _ (worth5 h hA hj 1)) (ref _ _ (fun ρ' e1 e2 => ?_)) (hA.tc _) (rlA_tc _ _)
        rw [if_neg (by decide), if_neg (by decide), if_neg (by decide), if_neg (by decide), if_neg (by decide), e2, ass _ 100000 1 100001 (by decide)]
        rfl
    · refine same _ _ ?_ ?_
      · unfold f_X8_mark j_X8_mark_20
        rw [if_neg k1, if_neg k2, h1, if_pos (by decide)]
      · unfold f_X9_mark j_X9_mark_17
        rw [k3, if_neg (by decide), isNode_no g hA hn, Option.bind_some, if_pos (by decide)]
  · refine same _ _ ?_ ?_
    · unfold f_X8_mark j_X8_mark_20
      by_cases w : a < 0
      · rw [if_pos w]
      · rw [if_neg w, if_pos (k1.resolve_left w)]
    · unfold f_X9_mark j_X9_mark_17
      rw [k2, if_pos (by decide)]
