/-! the reference's trees, all of them -/
def cnR (st : Nat → PX → PX → PX) (xs : Nat → PX) (N n : Nat) (T : Nat → Nat → Nat) (i q s : Nat) : Nat := T i (n - 1) * i01 (st (4 + s) (xs i) zX = xs q) + sumN (fun k => T i k * sumN (fun j => T j (n - 1 - k) * i01 (st (6 + s) (xs i) (xs j) = xs q)) N) (n - 1)
theorem cnR_cg {st : Nat → PX → PX → PX} {xs : Nat → PX} {N n i q s : Nat} {T : Nat → Nat → Nat} {f : Nat → Nat} (hn : 1 ≤ n) : cnR st xs N n (addC T n f) i q s = cnR st xs N n T i q s := by
  unfold cnR
  rw [addC_ne (by omega)]
  congr 1
  refine sumN_ext (fun k hk => ?_)
  rw [addC_ne (by omega)]
  congr 1
  exact sumN_ext (fun j _ => by rw [addC_ne (by omega)])
theorem signs_R {ρ : Mem} {st : Nat → PX → PX → PX} {N n i : Nat} {a1 : Int32} {xs : Nat → PX} {T : Nat → Nat → Nat} (h : TA ρ 25 adR N T) (hN : N ≤ 120) (h22 : ρ.1 0 22 = nI N) (hd : ∀ i j, i < N → j < N → xs i = xs j → i = j) (hb : TbR ρ st N xs (fun _ _ => True) (fun _ _ _ => True)) (hn : n < 16) (hn2 : 2 ≤ n) (hi : i < N) (h0 : T i 0 = 0) (hlt : ∀ k, k < n → k ≤ 13 → T i k < 9223372036854775808) : Ok (Lim (T := (Int32 × Int32 × Mem)) (fun z => b_X9_findTrees_73 a1 z.1 z.2.1 z.2.2.1 z.2.2.2) (nI n, nI i, (0 : Int32), ρ)) (fun r => r.1 = nI n ∧ r.2.1 = nI i ∧ TA r.2.2 25 adR N (addC T n (fun q => sumN (cnR st xs N n T i q) 2)) ∧ FrJ 25 ρ r.2.2) := by
  refine Ok.for 2 (fun s z => z.1 = nI n ∧ z.2.1 = nI i ∧ z.2.2.1 = nI s ∧ TA z.2.2.2 25 adR N (addC T n (fun q => sumN (cnR st xs N n T i q) s)) ∧ FrJ 25 ρ z.2.2.2) ?_ ?_ 0 (by omega) _ ⟨rfl, rfl, rfl, ?_, FrJ.rf⟩
  · rintro s ⟨_, _, _, τ⟩ hs ⟨rfl, rfl, rfl, hT, fr⟩
    simp only at hT fr
    show Ok (b_X9_findTrees_73 a1 (nI n) (nI i) (nI s) τ) _
    obtain ⟨e, e1, e2, e3⟩ := hb.2.1 s i hs hi trivial
    unfold b_X9_findTrees_73
    rw [if_neg (by rw [show (2 : Int32) = nI 2 from rfl, n_le (by omega) (by omega)]; omega)]
    simp only [show (120 : Int32) = nI 120 from rfl, show (1 : Int32) = nI 1 from rfl, n_mul, n_add, n_sub (show 1 ≤ n by omega), n_cl (show 120 * s + i < 2147483648 by omega), fr.1, e2, gd_ix (show 120 * s + i < 240 by omega) (by omega), gd_ix (show 120 * n + e < 1920 by omega) (by omega), gd_ix (show 120 * (n - 1) + i < 1920 by omega) (by omega), n_cl (show 120 * n + e < 2147483648 by omega), n_cl (show 120 * (n - 1) + i < 2147483648 by omega)]
    have r2 := hT i (n - 1) hi (by omega)
    rw [addC_ne (by omega)] at r2
    unfold adR at r2
    rw [r2]
    refine Ok.lt ?_
    have h1 := TA.add (v := T i (n - 1)) hT (adR_inj hN) e1 hn
    rw [addC_add] at h1
    unfold adR at h1
    refine Ok.bind (splits_R (st := st) (xs := xs) (a1 := a1) h1 hN (by rw [sJ_I, fr.1]; exact h22) hd (fun j hj => by unfold T2; rw [sJ_I, fr.1]; exact hb.2.2 s i j hs hi hj trivial) hn hn2 hi hs (by rw [addC_ne (by omega)]; exact h0) (fun k k1 k2 => by rw [addC_ne (by omega)]; exact hlt k k1 k2)) ?_
    rintro ⟨_, _, _, υ⟩ ⟨rfl, rfl, rfl, hυ, fυ⟩
    simp only at hυ fυ
    refine Ok.lt (Ok.some ⟨rfl, rfl, n_add s 1, ?_, fr.tr (FrJ.sJ.tr fυ)⟩)
    rw [addC_add] at hυ
    refine TA.cg hυ (fun q hq => ?_)
    rw [sumN, Nat.add_assoc]
    congr 1
    unfold cnR
    rw [hit hd e1 hq e3]
    congr 1
    refine sumN_ext (fun k hk => ?_)
    rw [addC_ne (by omega)]
    congr 1
    exact sumN_ext (fun j _ => by rw [addC_ne (by omega)])
  · rintro ⟨_, _, _, τ⟩ ⟨rfl, rfl, rfl, hT, fr⟩
    simp only at hT fr
    show Ok (b_X9_findTrees_73 a1 (nI n) (nI i) (nI 2) τ) _
    unfold b_X9_findTrees_73
    rw [if_pos (by decide)]
    exact Ok.some ⟨rfl, rfl, hT, fr⟩
  · show TA ρ 25 adR N (addC T n (fun _ => 0))
    rw [addC_0]; exact h
theorem column_R {ρ : Mem} {st : Nat → PX → PX → PX} {N n : Nat} {a1 : Int32} {xs : Nat → PX} {T : Nat → Nat → Nat} (h : TA ρ 25 adR N T) (hN : N ≤ 120) (h22 : ρ.1 0 22 = nI N) (hd : ∀ i j, i < N → j < N → xs i = xs j → i = j) (hb : TbR ρ st N xs (fun _ _ => True) (fun _ _ _ => True)) (hn : n < 16) (hn2 : 2 ≤ n) (h0 : ∀ i, i < N → T i 0 = 0) (hlt : ∀ i k, i < N → k < n → k ≤ 13 → T i k < 9223372036854775808) : Ok (Lim (T := (Int32 × Mem)) (fun z => b_X9_findTrees_62 a1 z.1 z.2.1 z.2.2) (nI n, (0 : Int32), ρ)) (fun r => r.1 = nI n ∧ TA r.2 25 adR N (addC T n (fun q => sumN (fun i => sumN (cnR st xs N n T i q) 2) N)) ∧ FrJ 25 ρ r.2) := by
  refine Ok.for N (fun i z => z.1 = nI n ∧ z.2.1 = nI i ∧ TA z.2.2 25 adR N (addC T n (fun q => sumN (fun i => sumN (cnR st xs N n T i q) 2) i)) ∧ FrJ 25 ρ z.2.2) ?_ ?_ 0 (by omega) _ ⟨rfl, rfl, ?_, FrJ.rf⟩
  · rintro i ⟨_, _, τ⟩ hi ⟨rfl, rfl, hT, fr⟩
    simp only at hT fr
    show Ok (b_X9_findTrees_62 a1 (nI n) (nI i) τ) _
    unfold b_X9_findTrees_62
    rw [fr.1, h22, if_neg (by rw [n_le (by omega) (by omega)]; omega)]
    refine Ok.bind (signs_R (st := st) (xs := xs) (a1 := a1) hT hN (by rw [fr.1]; exact h22) hd (by unfold TbR T0 T1 T2; rw [fr.1]; exact hb) hn hn2 hi (by rw [addC_ne (by omega)]; exact h0 i hi) (fun k k1 k2 => by rw [addC_ne (by omega)]; exact hlt i k hi k1 k2)) ?_
    rintro ⟨_, _, υ⟩ ⟨rfl, rfl, hυ, fυ⟩
    simp only at hυ fυ
    refine Ok.lt (Ok.some ⟨rfl, n_suc i, ?_, fr.tr fυ⟩)
    rw [addC_add] at hυ
    refine TA.cg hυ (fun q hq => ?_)
    show _ + _ = sumN (fun i => sumN (cnR st xs N n T i q) 2) i + sumN (cnR st xs N n T i q) 2
    congr 1
    refine sumN_ext (fun s _ => ?_)
    rw [cnR_cg (by omega)]
  · rintro ⟨_, _, τ⟩ ⟨rfl, rfl, hT, fr⟩
    simp only at hT fr
    show Ok (b_X9_findTrees_62 a1 (nI n) (nI N) τ) _
    unfold b_X9_findTrees_62
    rw [fr.1, h22, if_pos (by rw [n_le (by omega) (by omega)]; omega)]
    exact Ok.some ⟨rfl, hT, fr⟩
  · show TA ρ 25 adR N (addC T n (fun _ => 0))
    rw [addC_0]; exact h
theorem cnR_sum {st : Nat → PX → PX → PX} {N m : Nat} {xs : Nat → PX} (hx : LsX st N xs) (hc : ClX st N xs) (hm : m ≠ 0) {q : Nat} : sumN (fun i => sumN (cnR st xs N (m + 1) (TT st xs (m + 1)) i q) 2) N = cnV st (m + 1) (xs q) := by
  rw [cnV_S hx hc hm]
  have e : ∀ i, sumN (cnR st xs N (m + 1) (TT st xs (m + 1)) i q) 2 = cnV st m (xs i) * (i01 (st 4 (xs i) zX = xs q) + i01 (st 5 (xs i) zX = xs q)) + sumN (fun k => cnV st k (xs i) * sumN (fun j => cnV st (m - k) (xs j) * (i01 (st 6 (xs i) (xs j) = xs q) + i01 (st 7 (xs i) (xs j) = xs q))) N) m := by
    intro i
    have f : ∀ s, cnR st xs N (m + 1) (TT st xs (m + 1)) i q s = cnV st m (xs i) * i01 (st (4 + s) (xs i) zX = xs q) + sumN (fun k => cnV st k (xs i) * sumN (fun j => cnV st (m - k) (xs j) * i01 (st (6 + s) (xs i) (xs j) = xs q)) N) m := by
      intro s
      unfold cnR
      rw [show m + 1 - 1 = m by omega, TT_lt (by omega)]
      congr 1
      refine sumN_ext (fun k hk => ?_)
      rw [TT_lt (by omega)]
      congr 1
      exact sumN_ext (fun j _ => by rw [TT_lt (by omega)])
    have g : sumN (fun k => cnV st k (xs i) * sumN (fun j => cnV st (m - k) (xs j) * (i01 (st 6 (xs i) (xs j) = xs q) + i01 (st 7 (xs i) (xs j) = xs q))) N) m = sumN (fun k => cnV st k (xs i) * sumN (fun j => cnV st (m - k) (xs j) * i01 (st (6 + 0) (xs i) (xs j) = xs q)) N) m + sumN (fun k => cnV st k (xs i) * sumN (fun j => cnV st (m - k) (xs j) * i01 (st (6 + 1) (xs i) (xs j) = xs q)) N) m := by
      rw [← sumN_add]
      refine sumN_ext (fun k hk => ?_)
      rw [← Nat.mul_add, ← sumN_add]
      congr 1
      exact sumN_ext (fun j _ => Nat.mul_add _ _ _)
    show 0 + cnR st xs N (m + 1) (TT st xs (m + 1)) i q 0 + cnR st xs N (m + 1) (TT st xs (m + 1)) i q 1 = _
    rw [f 0, f 1, g, Nat.mul_add]
    show 0 + (cnV st m (xs i) * i01 (st 4 (xs i) zX = xs q) + _) + (cnV st m (xs i) * i01 (st 5 (xs i) zX = xs q) + _) = _
    omega
  rw [sumN_ext (fun i _ => e i), sumN_add]
  congr 1
  rw [sumN_swap]
theorem findTrees_R {ρ : Mem} {st : Nat → PX → PX → PX} {N k : Nat} {xs : Nat → PX} (h : FPok ρ st N xs) (hk : k < 16) (hk1 : 1 ≤ k) : Ok (f_X9_findTrees (nI k) ρ) (fun τ => (∀ q, q < N → τ.2.1 25 (120 * k + q) = nJ (cnV st k (xs q))) ∧ FrJ 25 ρ τ) := by
  have hN := h.1.2.1
  have h22 := h.1.1
  have hls := h.1.2.2.2
  have hd := hls.1
  have hcl := h.cl
  unfold f_X9_findTrees
  refine Ok.bind (P := fun τ => TA τ 25 adR N (fun _ _ => 0) ∧ FrJ 25 ρ τ) ?_ ?_
  · refine Ok.for 1920 (fun k s => s.1 = nI k ∧ (∀ j, j < k → s.2.2.1 25 j = 0) ∧ FrJ 25 ρ s.2) ?_ ?_ 0 (by omega) _ ⟨rfl, fun j hj => by omega, FrJ.rf⟩
    · rintro j ⟨_, τ⟩ hj ⟨rfl, hz, fr⟩
      simp only at hz fr
      show Ok (b_X9_findTrees_2 (nI k) (nI j) τ) _
      unfold b_X9_findTrees_2
      rw [show (1920 : Int32) = nI 1920 from rfl, if_neg (by rw [n_le (by omega) (by omega)]; omega), gd_ix (by omega) (by omega), n_cl (by omega)]
      refine Ok.lt (Ok.lt (Ok.some ⟨n_suc j, fun i hi => ?_, fr.tr FrJ.sJ⟩))
      show (sJ τ 25 j 0).2.1 25 i = 0
      by_cases c : i = j
      · rw [c, sJ_same]
      · rw [sJ_slot c]; exact hz i (by omega)
    · rintro ⟨_, τ⟩ ⟨rfl, hz, fr⟩
      simp only at hz fr
      show Ok (b_X9_findTrees_2 (nI k) (nI 1920) τ) _
      unfold b_X9_findTrees_2
      rw [if_pos (by decide)]
      exact Ok.some ⟨fun q k hq hk => hz _ (by unfold adR; omega), fr⟩
  · rintro τ ⟨hT, fr⟩
    refine Ok.bind (P := fun υ => TA υ 25 adR N (TT st xs 2) ∧ FrJ 25 ρ υ) ?_ ?_
    · refine Ok.for 4 (fun k s => s.1 = nI k ∧ TA s.2 25 adR N (addC (fun _ _ => 0) 1 (fun q => sumN (fun s => i01 (st s zX zX = xs q)) k)) ∧ FrJ 25 ρ s.2) ?_ ?_ 0 (by omega) _ ⟨rfl, ?_, fr⟩
      · rintro s ⟨_, υ⟩ hs ⟨rfl, hυ, fυ⟩
        simp only at hυ fυ
        show Ok (b_X9_findTrees_24 (nI k) (nI s) υ) _
        obtain ⟨e, e1, e2, e3⟩ := h.2.1 s hs
        unfold b_X9_findTrees_24
        rw [show (4 : Int32) = nI 4 from rfl, if_neg (by rw [n_le (by omega) (by omega)]; omega), gd_ix (by omega) (by omega), n_cl (by omega), fυ.1, e2, show (120 : Int32) = nI 120 from rfl, n_add, gd_ix (by omega) (by omega), gd_ix (by omega) (by omega), n_cl (by omega)]
        refine Ok.lt (Ok.lt (Ok.some ⟨n_suc s, ?_, fυ.tr FrJ.sJ⟩))
        have := TA.add (v := 1) hυ (adR_inj hN) e1 (show 1 < 16 by omega)
        rw [addC_add] at this
        refine TA.cg this (fun q hq => ?_)
        rw [sumN, hit hd e1 hq e3, Nat.one_mul]
      · rintro ⟨_, υ⟩ ⟨rfl, hυ, fυ⟩
        simp only at hυ fυ
        show Ok (b_X9_findTrees_24 (nI k) (nI 4) υ) _
        unfold b_X9_findTrees_24
        rw [if_pos (by decide)]
        refine Ok.some ⟨hυ.ext (fun q k hq hk => ?_), fυ⟩
        unfold addC
        by_cases c : k = 1
        · rw [if_pos c, TT_lt (by omega), c, cnV_1, Nat.zero_add]
        · rw [if_neg c]
          by_cases d : k < 2
          · rw [TT_lt d, show k = 0 by omega, cnV_z]
          · rw [TT_ge (by omega)]
      · show TA τ 25 adR N (addC (fun _ _ => 0) 1 (fun _ => 0))
        rw [addC_0]; exact hT
    · rintro τ ⟨hT, fr⟩
      refine Ok.bind (P := fun υ => (∃ n, k < n ∧ TA υ 25 adR N (TT st xs n)) ∧ FrJ 25 ρ υ) ?_ ?_
      · refine Ok.wf (fun m s => ∃ n, m = 16 - n ∧ 2 ≤ n ∧ n ≤ 16 ∧ s.1 = nI n ∧ TA s.2 25 adR N (TT st xs n) ∧ FrJ 25 ρ s.2) ?_ 14 _ ⟨2, rfl, by omega, by omega, rfl, hT, fr⟩
        rintro m ⟨_, υ⟩ ⟨n, rfl, hn2, hn, rfl, hυ, fυ⟩
        simp only at hυ fυ
        show Ok (b_X9_findTrees_55 (nI k) (nI n) υ) _
        unfold b_X9_findTrees_55
        have cc : (nI k < nI n) = (k < n) := n_lt (by omega) (by omega)
        by_cases c : k < n
        · rw [if_pos (by rw [cc]; exact c)]
          exact Ok.some ⟨⟨n, c, hυ⟩, fυ⟩
        · rw [if_neg (by rw [cc]; exact c)]
          refine Ok.bind (column_R (st := st) (xs := xs) (a1 := nI k) hυ hN (by rw [fυ.1]; exact h22) hd (by unfold TbR T0 T1 T2; rw [fυ.1]; exact h.2) (by omega) hn2 (fun i hi => by rw [TT_lt (by omega)]; rfl) (fun i j hi hj h13 => by rw [TT_lt hj]; exact cnV_lt st h13 _)) ?_
          rintro ⟨_, υ'⟩ ⟨rfl, h1, f1⟩
          simp only at h1 f1
          refine Ok.lt (Ok.some ⟨16 - (n + 1), by omega, n + 1, rfl, by omega, by omega, n_suc n, ?_, fυ.tr f1⟩)
          refine h1.ext (fun q j hq hj => TT_step ?_)
          obtain ⟨m, rfl⟩ : ∃ m, n = m + 1 := ⟨n - 1, by omega⟩
          exact cnR_sum hls hcl (by omega)
      · rintro υ ⟨⟨n, n1, n2⟩, fυ⟩
        refine Ok.some ⟨fun q hq => ?_, fυ⟩
        have := n2 q k hq hk
        rw [TT_lt n1] at this
        exact this
