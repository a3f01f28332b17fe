/-! the class's tally -/
def TA (σ : Mem) (o : Nat) (ad : Nat → Nat → Nat) (N : Nat) (T : Nat → Nat → Nat) : Prop := ∀ q k, q < N → k < 16 → σ.2.1 o (ad q k) = nJ (T q k)
def addC (T : Nat → Nat → Nat) (n : Nat) (f : Nat → Nat) : Nat → Nat → Nat := fun q k => if k = n then T q k + f q else T q k
def FrJ (o : Nat) (σ τ : Mem) : Prop := τ.1 = σ.1 ∧ τ.2.2 = σ.2.2 ∧ ∀ o', o' ≠ o → τ.2.1 o' = σ.2.1 o'
theorem FrJ.rf {o : Nat} {σ : Mem} : FrJ o σ σ := ⟨rfl, rfl, fun _ _ => rfl⟩
theorem FrJ.tr {o : Nat} {σ τ υ : Mem} (h : FrJ o σ τ) (g : FrJ o τ υ) : FrJ o σ υ := ⟨g.1.trans h.1, g.2.1.trans h.2.1, fun o' ho => (g.2.2 o' ho).trans (h.2.2 o' ho)⟩
theorem FrJ.sJ {o : Nat} {σ : Mem} {k : Nat} {v : Int64} : FrJ o σ (sJ σ o k v) := ⟨rfl, rfl, fun _ h => sJ_o h⟩
theorem TA.ext {σ : Mem} {o N : Nat} {ad T T' : Nat → Nat → Nat} (h : TA σ o ad N T) (e : ∀ q k, q < N → k < 16 → T q k = T' q k) : TA σ o ad N T' := fun q k hq hk => by rw [h q k hq hk, e q k hq hk]
def InjA (ad : Nat → Nat → Nat) (N : Nat) : Prop := ∀ q k e n, q < N → e < N → k < 16 → n < 16 → ad q k = ad e n → q = e ∧ k = n
theorem TA.add {σ : Mem} {o N e n v : Nat} {ad T : Nat → Nat → Nat} (h : TA σ o ad N T) (hi : InjA ad N) (he : e < N) (hn : n < 16) : TA (sJ σ o (ad e n) (σ.2.1 o (ad e n) + nJ v)) o ad N (addC T n (fun q => if q = e then v else 0)) := by
  intro q k hq hk
  rw [sJ_get]
  unfold addC
  by_cases c : ad q k = ad e n
  · obtain ⟨rfl, rfl⟩ := hi q k e n hq he hk hn c
    rw [if_pos ⟨rfl, rfl⟩, if_pos rfl]
    show _ = nJ (T q k + if q = q then v else 0)
    rw [if_pos rfl, h q k hq hk, nJ_add]
  · rw [if_neg (fun z => c z.2), h q k hq hk]
    by_cases d : k = n
    · subst d
      rw [if_pos rfl]
      show _ = nJ (T q k + if q = e then v else 0)
      rw [if_neg (fun z => c (by rw [z])), Nat.add_zero]
    · rw [if_neg d]
theorem addC_add {T : Nat → Nat → Nat} {n : Nat} {f g : Nat → Nat} : addC (addC T n f) n g = addC T n (fun q => f q + g q) := by
  funext q k
  unfold addC
  by_cases c : k = n
  · rw [if_pos c, if_pos c, if_pos c, Nat.add_assoc]
  · rw [if_neg c, if_neg c, if_neg c]
theorem addC_0 {T : Nat → Nat → Nat} {n : Nat} : addC T n (fun _ => 0) = T := by
  funext q k
  unfold addC
  by_cases c : k = n
  · rw [if_pos c, Nat.add_zero]
  · rw [if_neg c]
theorem addC_ne {T : Nat → Nat → Nat} {n q k : Nat} {f : Nat → Nat} (h : k ≠ n) : addC T n f q k = T q k := if_neg h
theorem TA.cg {σ : Mem} {o N n : Nat} {ad T : Nat → Nat → Nat} {f g : Nat → Nat} (h : TA σ o ad N (addC T n f)) (e : ∀ q, q < N → f q = g q) : TA σ o ad N (addC T n g) := h.ext (fun q k hq _ => by unfold addC; rw [e q hq])
def adC (q k : Nat) : Nat := q * 16 + k
theorem adC_inj (N : Nat) : InjA adC N := by
  intro q k e n _ _ hk hn h
  unfold adC at h
  constructor <;> omega
theorem hit {xs : Nat → PX} {N e q v : Nat} {y : PX} (hd : ∀ i j, i < N → j < N → xs i = xs j → i = j) (he : e < N) (hq : q < N) (h : xs e = y) : (if q = e then v else 0) = v * i01 (y = xs q) := by
  unfold i01
  by_cases c : q = e
  · rw [if_pos c, if_pos (by rw [c, h]), Nat.mul_one]
  · rw [if_neg c, if_neg (fun z => c (hd q e hq he (by rw [h, z]))), Nat.mul_zero]
theorem low_n {e f : Nat} (he : e < 128) (hf : f < 128) : f_X4_lowOf (nI (e + 128 * f)) = nI e := by
  unfold f_X4_lowOf
  rw [show (127 : Int32) = nI 127 from rfl, n_and, show (127 : Nat) = 2 ^ 7 - 1 from rfl, Nat.and_two_pow_sub_one_eq_mod]
  congr 1
  omega
theorem high_n {e f : Nat} (he : e < 128) (hf : f < 128) : f_X4_highOf (nI (e + 128 * f)) = nI f := by
  unfold f_X4_highOf
  rw [show (7 : Int32) = nI 7 from rfl, n_shr (by omega) (by omega), show (127 : Int32) = nI 127 from rfl, n_and, show (127 : Nat) = 2 ^ 7 - 1 from rfl, Nat.and_two_pow_sub_one_eq_mod]
  congr 1
  omega
theorem addBoth_C {σ : Mem} {N e f n v : Nat} {T : Nat → Nat → Nat} (h : TA σ 23 adC N T) (hN : N ≤ 120) (he : e < N) (hf : f < N) (hn : n < 16) : Ok (f_X5_addBoth (nI (e + 128 * f)) (nI n) (nJ v) σ) (fun τ => TA τ 23 adC N (addC T n (fun q => (if q = e then v else 0) + (if q = f then v else 0))) ∧ FrJ 23 σ τ) := by
  unfold f_X5_addBoth
  rw [low_n (by omega) (by omega), high_n (by omega) (by omega), show (16 : Int32) = nI 16 from rfl, n_mul, n_add, n_mul, n_add, gd_ix (by omega) (by omega), gd_ix (by omega) (by omega), n_cl (by omega)]
  refine Ok.lt ?_
  have h1 := h.add (v := v) (adC_inj N) he hn
  unfold adC at h1
  rw [gd_ix (by omega) (by omega), gd_ix (by omega) (by omega), n_cl (by omega)]
  refine Ok.lt (Ok.some ⟨?_, FrJ.sJ.tr FrJ.sJ⟩)
  have h2 := TA.add (v := v) h1 (adC_inj N) hf hn
  rw [addC_add] at h2
  exact h2
theorem addOne_C {σ : Mem} {st : Nat → PX → PX → PX} {N n : Nat} {xs : Nat → PX} {T : Nat → Nat → Nat} (h : TA σ 23 adC N T) (hN : N ≤ 120) (h17 : σ.1 9 17 = nI N) (hd : ∀ i j, i < N → j < N → xs i = xs j → i = j) (hU : ∀ p, p < N → U1 σ st N xs p) (hn : n < 16) (hn1 : 1 ≤ n) : Ok (f_X5_addOneArmed (nI n) σ) (fun τ => TA τ 23 adC N (addC T n (fun q => sumN (fun p => T p (n - 1) * (i01 (st 4 (xs p) zX = xs q) + i01 (st 5 (xs p) zX = xs q))) N)) ∧ FrJ 23 σ τ) := by
  unfold f_X5_addOneArmed
  refine Ok.bind (P := fun τ => TA τ 23 adC N (addC T n (fun q => sumN (fun p => T p (n - 1) * (i01 (st 4 (xs p) zX = xs q) + i01 (st 5 (xs p) zX = xs q))) N)) ∧ FrJ 23 σ τ) ?_ (fun τ hτ => Ok.some hτ)
  refine Ok.for N (fun p s => s.1 = nI p ∧ TA s.2 23 adC N (addC T n (fun q => sumN (fun p => T p (n - 1) * (i01 (st 4 (xs p) zX = xs q) + i01 (st 5 (xs p) zX = xs q))) p)) ∧ FrJ 23 σ s.2) ?_ ?_ 0 (by omega) _ ⟨rfl, ?_, FrJ.rf⟩
  · rintro p ⟨_, τ⟩ hp ⟨rfl, hT, fr⟩
    simp only at hT fr
    show Ok (b_X5_addOneArmed_2 (nI n) (nI p) τ) _
    unfold b_X5_addOneArmed_2
    rw [fr.1, h17, if_neg (by rw [n_le (by omega) (by omega)]; omega)]
    obtain ⟨e, f, e1, f1, e2, e3, e4⟩ := hU p hp
    unfold f_X4_overOne
    rw [gd_ix (by omega) (by omega), n_cl (by omega), fr.1, e2, Option.bind_some, show (16 : Int32) = nI 16 from rfl, n_mul, n_add, show (1 : Int32) = nI 1 from rfl, n_sub (by omega), gd_ix (by omega) (by omega), n_cl (by omega)]
    have rd := hT p (n - 1) hp (by omega)
    unfold adC at rd
    rw [addC_ne (by omega)] at rd
    rw [show p * 16 + n - 1 = p * 16 + (n - 1) by omega, rd]
    refine Ok.bind (addBoth_C (v := T p (n - 1)) hT hN e1 f1 hn) ?_
    rintro υ ⟨hυ, fυ⟩
    refine Ok.lt (Ok.some ⟨?_, ?_, fr.tr fυ⟩)
    · exact n_suc p
    · rw [addC_add] at hυ
      refine hυ.cg (fun q hq => ?_)
      rw [sumN, hit hd e1 hq e3, hit hd f1 hq e4, Nat.mul_add]
  · rintro ⟨_, τ⟩ ⟨rfl, hT, fr⟩
    simp only at hT fr
    show Ok (b_X5_addOneArmed_2 (nI n) (nI N) τ) _
    unfold b_X5_addOneArmed_2
    rw [fr.1, h17, if_pos (by rw [n_le (by omega) (by omega)]; omega)]
    exact Ok.some ⟨hT, fr⟩
  · show TA σ 23 adC N (addC T n (fun _ => 0))
    rw [addC_0]; exact h
set_option maxRecDepth 100000 in
theorem cmpT : ∀ n : Fin 16, ∀ z : Fin 33, ∀ k : Fin 33, (((nI n.val - 1) - nI z.val < nI k.val) ↔ n.val < 1 + z.val + k.val) := by decide +kernel
/-- the ways of two arms -/
theorem wayTwo_C {σ : Mem} {st : Nat → PX → PX → PX} {N n p q : Nat} {T : Nat → Nat → Nat} {z : Nat → Nat} (h : TA σ 23 adC N T) (hN : N ≤ 120) (h13 : ∀ p, p < N → σ.1 13 p = nI (z p)) (hz : ∀ p, p < N → 1 ≤ z p ∧ z p ≤ 32) (h0 : ∀ p j, p < N → j < n → j < z p → T p j = 0) (hn : n < 16) (hn1 : 2 ≤ n) (hp : p < N) (hq : q < N) : Ok (Lim (T := (Int32 × Int32 × Int64)) (fun s => b_X5_addTwoArmed_32 (nI n) s.1 s.2.1 s.2.2.1 s.2.2.2 σ) (nI p, nI q, (0 : Int64), nI (z p))) (fun r => r = (nI p, nI q, nJ (sumN (fun j => T p j * T q (n - 1 - j)) n))) := by
  obtain ⟨zp1, zp2⟩ := hz p hp
  obtain ⟨zq1, zq2⟩ := hz q hq
  refine Ok.wf (fun m s => ∃ k, s = (nI p, nI q, nJ (sumN (fun j => if j < n then T p j * T q (n - 1 - j) else 0) k), nI k) ∧ z p ≤ k ∧ k ≤ 32 ∧ m = 33 - k) ?_ (33 - z p) _ ⟨z p, ?_, Nat.le_refl _, zp2, rfl⟩
  · rintro m _ ⟨k, rfl, k1, k2, rfl⟩
    show Ok (b_X5_addTwoArmed_32 (nI n) (nI p) (nI q) (nJ (sumN (fun j => if j < n then T p j * T q (n - 1 - j) else 0) k)) (nI k) σ) _
    unfold b_X5_addTwoArmed_32 f_X4_sizeOf
    rw [gd_ix (by omega) (by omega), n_cl (by omega), h13 q hq, Option.bind_some]
    have cm := cmpT ⟨n, hn⟩ ⟨z q, by omega⟩ ⟨k, by omega⟩
    simp only at cm
    by_cases c : n < 1 + z q + k
    · rw [if_pos (cm.mpr c)]
      refine Ok.some ?_
      show (nI p, nI q, nJ (sumN (fun j => if j < n then T p j * T q (n - 1 - j) else 0) k)) = _
      have e : sumN (fun j => if j < n then T p j * T q (n - 1 - j) else 0) k = sumN (fun j => if j < n then T p j * T q (n - 1 - j) else 0) n := by
        rcases Nat.le_total k n with l | l
        · refine (sumN_tail l (fun j j1 j2 => ?_)).symm
          rw [if_pos j2, h0 q (n - 1 - j) hq (by omega) (by omega), Nat.mul_zero]
        · exact sumN_tail l (fun j j1 j2 => if_neg (by omega))
      rw [e, sumN_ext (g := fun j => T p j * T q (n - 1 - j)) (fun j hj => if_pos hj)]
    · rw [if_neg (fun w => c (cm.mp w)), show (16 : Int32) = nI 16 from rfl, n_mul, n_add, n_mul, n_add, show (1 : Int32) = nI 1 from rfl, n_sub (by omega), n_sub (by omega), gd_ix (by omega) (by omega), gd_ix (by omega) (by omega), n_cl (by omega), n_cl (by omega)]
      have r1 := h p k hp (by omega)
      have r2 := h q (n - 1 - k) hq (by omega)
      unfold adC at r1 r2
      rw [show q * 16 + n - 1 - k = q * 16 + (n - 1 - k) by omega, r1, r2, nJ_mul, nJ_add]
      refine Ok.lt (Ok.lt (Ok.some ?_))
      refine ⟨33 - (k + 1), by omega, k + 1, ?_, by omega, by omega, rfl⟩
      rw [n_add, sumN, if_pos (by omega)]
  · rw [sumN_0 (fun j hj => ?_)]
    · rfl
    · by_cases c : j < n
      · rw [if_pos c, h0 p j hp c hj, Nat.zero_mul]
      · rw [if_neg c]
theorem cmp0 (v : Int64) : lg_cmp v 0 = 0 ↔ v = 0 := by
  constructor
  · intro h
    by_cases c : v = 0
    · exact c
    · unfold lg_cmp at h
      by_cases d : 0 < v
      · rw [if_pos d] at h; exact absurd h (by decide)
      · rw [if_neg d, if_neg c] at h; exact absurd h (by decide)
  · rintro rfl; exact lg_cmp_self 0
theorem addTwo1_C {σ : Mem} {st : Nat → PX → PX → PX} {N n p : Nat} {xs : Nat → PX} {T : Nat → Nat → Nat} {z : Nat → Nat} (h : TA σ 23 adC N T) (hN : N ≤ 120) (h17 : σ.1 9 17 = nI N) (hd : ∀ i j, i < N → j < N → xs i = xs j → i = j) (hU : ∀ p q, p < N → q < N → U2 σ st N xs p q) (h13 : ∀ p, p < N → σ.1 13 p = nI (z p)) (hz : ∀ p, p < N → 1 ≤ z p ∧ z p ≤ 32) (h0 : ∀ p j, p < N → j < n → j < z p → T p j = 0) (hn : n < 16) (hn1 : 2 ≤ n) (hp : p < N) : Ok (Lim (T := (Int32 × Mem)) (fun s => b_X5_addTwoArmed_13 (nI n) s.1 s.2.1 s.2.2) (nI p, (0 : Int32), σ)) (fun r => r.1 = nI p ∧ TA r.2 23 adC N (addC T n (fun q => sumN (fun r => sumN (fun j => T p j * T r (n - 1 - j)) n * (i01 (st 6 (xs p) (xs r) = xs q) + i01 (st 7 (xs p) (xs r) = xs q))) N)) ∧ FrJ 23 σ r.2) := by
  refine Ok.for N (fun i s => s.1 = nI p ∧ s.2.1 = nI i ∧ TA s.2.2 23 adC N (addC T n (fun q => sumN (fun r => sumN (fun j => T p j * T r (n - 1 - j)) n * (i01 (st 6 (xs p) (xs r) = xs q) + i01 (st 7 (xs p) (xs r) = xs q))) i)) ∧ FrJ 23 σ s.2.2) ?_ ?_ 0 (by omega) _ ⟨rfl, rfl, ?_, FrJ.rf⟩
  · rintro i ⟨_, _, τ⟩ hi ⟨rfl, rfl, hT, fr⟩
    simp only at hT fr
    show Ok (b_X5_addTwoArmed_13 (nI n) (nI p) (nI i) τ) _
    unfold b_X5_addTwoArmed_13
    rw [fr.1, h17, if_neg (by rw [n_le (by omega) (by omega)]; omega)]
    have sz : f_X4_sizeOf (nI p) τ = some (nI (z p)) := by
      unfold f_X4_sizeOf
      rw [gd_ix (by omega) (by omega), n_cl (by omega), fr.1, h13 p hp]
    rw [sz, Option.bind_some]
    have hT' : TA τ 23 adC N (addC T n (fun q => sumN (fun r => sumN (fun j => T p j * T r (n - 1 - j)) n * (i01 (st 6 (xs p) (xs r) = xs q) + i01 (st 7 (xs p) (xs r) = xs q))) i)) := hT
    refine Ok.bind (wayTwo_C (st := st) (z := z) hT' hN (fun a ha => by rw [fr.1]; exact h13 a ha) hz (fun a j ha hj hjz => by rw [addC_ne (by omega)]; exact h0 a j ha hj hjz) hn hn1 hp hi) ?_
    rintro _ rfl
    have ew : sumN (fun j => addC T n (fun q => sumN (fun r => sumN (fun j => T p j * T r (n - 1 - j)) n * (i01 (st 6 (xs p) (xs r) = xs q) + i01 (st 7 (xs p) (xs r) = xs q))) i) p j * addC T n (fun q => sumN (fun r => sumN (fun j => T p j * T r (n - 1 - j)) n * (i01 (st 6 (xs p) (xs r) = xs q) + i01 (st 7 (xs p) (xs r) = xs q))) i) i (n - 1 - j)) n = sumN (fun j => T p j * T i (n - 1 - j)) n := sumN_ext (fun j hj => by rw [addC_ne (by omega), addC_ne (by omega)])
    rw [ew]
    generalize hw : sumN (fun j => T p j * T i (n - 1 - j)) n = w
    simp only
    by_cases c : nJ w = 0
    · rw [if_pos ((cmp0 _).mpr c)]
      unfold j_X5_addTwoArmed_109
      refine Ok.lt (Ok.some ⟨rfl, n_suc i, ?_, fr⟩)
      intro q k hq hk
      rw [hT q k hq hk]
      unfold addC
      by_cases d : k = n
      · rw [if_pos d, if_pos d]
        simp only [sumN]
        rw [hw, ← Nat.add_assoc, ← nJ_add _ (w * _), ← nJ_mul w, c, Int64.zero_mul, Int64.add_zero]
      · rw [if_neg d, if_neg d]
    · rw [if_neg (fun x => c ((cmp0 _).mp x))]
      obtain ⟨e, f, e1, f1, e2, e3, e4⟩ := hU p i hp hi
      unfold f_X4_overTwo
      rw [show (120 : Int32) = nI 120 from rfl, n_mul, n_add, gd_ix (by omega) (by omega), n_cl (by omega), fr.1, Nat.mul_comm p 120, e2, Option.bind_some]
      refine Ok.bind (addBoth_C (v := w) hT hN e1 f1 hn) ?_
      rintro υ ⟨hυ, fυ⟩
      unfold j_X5_addTwoArmed_109
      refine Ok.lt (Ok.some ⟨rfl, n_suc i, ?_, fr.tr fυ⟩)
      rw [addC_add] at hυ
      refine hυ.cg (fun q hq => ?_)
      rw [sumN, hit hd e1 hq e3, hit hd f1 hq e4, hw, Nat.mul_add]
  · rintro ⟨_, _, τ⟩ ⟨rfl, rfl, hT, fr⟩
    simp only at hT fr
    show Ok (b_X5_addTwoArmed_13 (nI n) (nI p) (nI N) τ) _
    unfold b_X5_addTwoArmed_13
    rw [fr.1, h17, if_pos (by rw [n_le (by omega) (by omega)]; omega)]
    exact Ok.some ⟨rfl, hT, fr⟩
  · show TA σ 23 adC N (addC T n (fun _ => 0))
    rw [addC_0]; exact h
theorem addTwo_C {σ : Mem} {st : Nat → PX → PX → PX} {N n : Nat} {xs : Nat → PX} {T : Nat → Nat → Nat} {z : Nat → Nat} (h : TA σ 23 adC N T) (hN : N ≤ 120) (h17 : σ.1 9 17 = nI N) (hd : ∀ i j, i < N → j < N → xs i = xs j → i = j) (hU : ∀ p q, p < N → q < N → U2 σ st N xs p q) (h13 : ∀ p, p < N → σ.1 13 p = nI (z p)) (hz : ∀ p, p < N → 1 ≤ z p ∧ z p ≤ 32) (h0 : ∀ p j, p < N → j < n → j < z p → T p j = 0) (hn : n < 16) (hn1 : 2 ≤ n) : Ok (f_X5_addTwoArmed (nI n) σ) (fun τ => TA τ 23 adC N (addC T n (fun q => sumN (fun p => sumN (fun r => sumN (fun j => T p j * T r (n - 1 - j)) n * (i01 (st 6 (xs p) (xs r) = xs q) + i01 (st 7 (xs p) (xs r) = xs q))) N) N)) ∧ FrJ 23 σ τ) := by
  unfold f_X5_addTwoArmed
  refine Ok.bind (P := fun τ => TA τ 23 adC N (addC T n (fun q => sumN (fun p => sumN (fun r => sumN (fun j => T p j * T r (n - 1 - j)) n * (i01 (st 6 (xs p) (xs r) = xs q) + i01 (st 7 (xs p) (xs r) = xs q))) N) N)) ∧ FrJ 23 σ τ) ?_ (fun τ hτ => Ok.some hτ)
  refine Ok.for N (fun p s => s.1 = nI p ∧ TA s.2 23 adC N (addC T n (fun q => sumN (fun p => sumN (fun r => sumN (fun j => T p j * T r (n - 1 - j)) n * (i01 (st 6 (xs p) (xs r) = xs q) + i01 (st 7 (xs p) (xs r) = xs q))) N) p)) ∧ FrJ 23 σ s.2) ?_ ?_ 0 (by omega) _ ⟨rfl, ?_, FrJ.rf⟩
  · rintro p ⟨_, τ⟩ hp ⟨rfl, hT, fr⟩
    simp only at hT fr
    show Ok (b_X5_addTwoArmed_2 (nI n) (nI p) τ) _
    unfold b_X5_addTwoArmed_2
    rw [fr.1, h17, if_neg (by rw [n_le (by omega) (by omega)]; omega)]
    refine Ok.bind (addTwo1_C (st := st) (xs := xs) (z := z) hT hN (by rw [fr.1]; exact h17) hd (fun a b ha hb => by unfold U2; rw [fr.1]; exact hU a b ha hb) (fun a ha => by rw [fr.1]; exact h13 a ha) hz (fun a j ha hj hjz => by rw [addC_ne (by omega)]; exact h0 a j ha hj hjz) hn hn1 hp) ?_
    rintro ⟨_, υ⟩ ⟨rfl, hυ, fυ⟩
    simp only at hυ fυ
    refine Ok.lt (Ok.some ⟨n_suc p, ?_, fr.tr fυ⟩)
    rw [addC_add] at hυ
    refine hυ.cg (fun q hq => ?_)
    rw [sumN]
    congr 1
    refine sumN_ext (fun r hr => ?_)
    congr 1
    exact sumN_ext (fun j hj => by rw [addC_ne (by omega), addC_ne (by omega)])
  · rintro ⟨_, τ⟩ ⟨rfl, hT, fr⟩
    simp only at hT fr
    show Ok (b_X5_addTwoArmed_2 (nI n) (nI N) τ) _
    unfold b_X5_addTwoArmed_2
    rw [fr.1, h17, if_pos (by rw [n_le (by omega) (by omega)]; omega)]
    exact Ok.some ⟨hT, fr⟩
  · show TA σ 23 adC N (addC T n (fun _ => 0))
    rw [addC_0]; exact h
