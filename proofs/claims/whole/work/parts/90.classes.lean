/-! classes -/
theorem PCx.fk {σ τ : Mem} {rl : List Ru} {on on' n : Nat} {xs : Nat → PX} (h : PCx σ rl on on' n xs) (e : FrK σ τ) : PCx τ rl on on' n xs := by
  unfold PCx LawC LawM at *
  simp only [e.1 9 (by omega) (by omega) (by omega), e.1 10 (by omega) (by omega) (by omega), e.1 11 (by omega) (by omega) (by omega), e.1 12 (by omega) (by omega) (by omega), e.1 18 (by omega) (by omega) (by omega), e.1 19 (by omega) (by omega) (by omega), e.1 29 (by omega) (by omega) (by omega), e.1 (29 + 1) (by omega) (by omega) (by omega), e.1 (29 + 2) (by omega) (by omega) (by omega), e.1 (29 + 3) (by omega) (by omega) (by omega), e.1 (29 + 4) (by omega) (by omega) (by omega)]
  exact h
theorem LrI.fk {σ τ : Mem} {rl : List Ru} {on on' N : Nat} {xs : Nat → PX} {z : Nat → Nat} {W : Nat → List Nat} {F : Nat → Bool} (h : LrI σ rl on on' N xs z W F) (e : FrK σ τ) : LrI τ rl on on' N xs z W F := by
  refine ⟨h.1.fk e, fun p hp => ?_⟩
  have := h.2 p hp
  unfold RcI at *
  simp only [e.1 13 (by omega) (by omega) (by omega), e.1 14 (by omega) (by omega) (by omega), e.1 15 (by omega) (by omega) (by omega), e.1 16 (by omega) (by omega) (by omega), e.1 17 (by omega) (by omega) (by omega)]
  exact this
theorem LnOk.fk {σ τ : Mem} {rl : List Ru} {on on' : Nat} (h : LnOk rl on on' σ) (e : FrK σ τ) : LnOk rl on on' τ := by
  obtain ⟨n, xs, z, W, F, l1, l2⟩ := h
  refine ⟨n, xs, z, W, F, l1.fk e, ?_⟩
  rw [e.1 9 (by omega) (by omega) (by omega)]
  rcases l2 with ⟨a, b, c⟩ | l2
  · exact Or.inl ⟨a, b, c.fk e⟩
  · exact Or.inr l2
theorem Tal.fk {rl : List Ru} {σ τ : Mem} (h : Tal rl σ) (e : FrK σ τ) : Tal rl τ := by
  unfold Tal TaF at *
  rw [e.1 22 (by omega) (by omega) (by omega), e.1 9 (by omega) (by omega) (by omega), e.1 10 (by omega) (by omega) (by omega), e.2]
  exact h
/-- the sets that trees come to -/
def RsX (rl : List Ru) (on a : Nat) : Prop := Rch (stX rl on on) (a, a)
theorem RsX.cl {rl : List Ru} {on : Nat} : ClR (outc rl on) (RsX rl on) := ⟨fun s a h1 h2 h => Rch.one h1 h2 h, fun s a b h1 h2 h g => Rch.two h1 h2 h g⟩
theorem ls_C {rl : List Ru} {on n : Nat} {xs : Nat → PX} (h : LsX (stX rl on 0) n xs) (c : ClX (stX rl on 0) n xs) : LsR (RsX rl on) n (fun i => (xs i).1) := by
  refine ⟨fun i hi => ?_, fun a ⟨w, hw⟩ => ?_⟩
  · obtain ⟨w, hw⟩ := h.2 i hi
    exact ⟨w, (own_CR hw).2⟩
  · obtain ⟨i, i1, i2⟩ := c.all ⟨w, (own_RC hw).2⟩
    exact ⟨i, i1, by show (xs i).1 = a; rw [i2]⟩
theorem ls_R {rl : List Ru} {on n : Nat} {xs : Nat → PX} (h : LsX (stX rl on on) n xs) (c : ClX (stX rl on on) n xs) : LsR (RsX rl on) n (fun i => (xs i).1) := by
  refine ⟨fun i hi => ?_, fun a ha => ?_⟩
  · obtain ⟨w, hw⟩ := h.2 i hi
    have e := (own_RC hw).1
    refine ⟨w, ?_⟩
    have : ((xs i).1, (xs i).1) = xs i := Prod.ext rfl e.symm
    rw [this]; exact hw
  · obtain ⟨i, i1, i2⟩ := c.all ha
    exact ⟨i, i1, by show (xs i).1 = a; rw [i2]⟩
theorem n64_C {rl : List Ru} (hrl : ∀ r ∈ rl, OkRu r) {on n : Nat} {xs : Nat → PX} (h : LsX (stX rl on 0) n xs) : n ≤ 64 := php 64 n (fun i => (xs i).1) (fun i hi => ((h.2 i hi).lt hrl).1) (fun i j hi hj e => h.1 i j hi hj (by
  obtain ⟨u, hu⟩ := h.2 i hi
  obtain ⟨v, hv⟩ := h.2 j hj
  exact Prod.ext e ((own_CR hu).1.trans (own_CR hv).1.symm)))
theorem n64_R {rl : List Ru} (hrl : ∀ r ∈ rl, OkRu r) {on n : Nat} {xs : Nat → PX} (h : LsX (stX rl on on) n xs) : n ≤ 64 := php 64 n (fun i => (xs i).1) (fun i hi => ((h.2 i hi).lt hrl).1) (fun i j hi hj e => h.1 i j hi hj (by
  obtain ⟨u, hu⟩ := h.2 i hi
  obtain ⟨v, hv⟩ := h.2 j hj
  have e : (xs i).1 = (xs j).1 := e
  exact Prod.ext e (by rw [(own_RC hu).1, (own_RC hv).1, e])))
theorem ClX.pos {st : Nat → PX → PX → PX} {n : Nat} {xs : Nat → PX} (h : ClX st n xs) : 1 ≤ n := by
  obtain ⟨k, k1, _⟩ := h.1 0 (by omega)
  omega
theorem classes_R {ρ : Mem} {rl : List Ru} {on N g : Nat} {xs : Nat → PX} (hP : FPok ρ (stX rl on on) N xs) (hrl : ∀ r ∈ rl, OkRu r) (h71 : ρ.1 7 1 = nI g) (hg : g < 64) : Ok ((Lim (T := Mem) (fun s => b_X9_classes_6 s.1 s.2) ((0 : Int32), ρ)).bind (fun r5 => (Lim (T := (Int32 × Mem)) (fun s => b_X9_classes_43 s.1 s.2.1 s.2.2) ((0 : Int32), (1 : Int32), r5)).bind (fun r16 => some (r16.1, r16.2)))) (fun r => FrQ ρ r.2 ∧ ∃ M, r.1 = nI M ∧ CntK (outc rl on) (RsX rl on) g N (fun i => (xs i).1) M) := by
  have hN := n64_R hrl hP.1.2.2.2
  have hl := ls_R hP.1.2.2.2 hP.cl
  refine Ok.bind (P := fun τ => FrQ ρ τ ∧ ∃ κ, KnM τ 20 N κ ∧ KeC (KE (outc rl on) (RsX rl on) g 0) N (fun i => (xs i).1) κ) ?_ ?_
  · have kg : ∀ i, nI (gW g (xs i).1) = gB g (xs i).1 := fun i => by
      rcases gB01 g (xs i).1 with e | e
      · rw [gW_0 e, e]; rfl
      · rw [gW_1 (by rw [e]; decide), e]; rfl
    refine Ok.for N (fun p s => ∃ τ : Mem, s = (nI p, τ) ∧ FrQ ρ τ ∧ ∀ i, i < p → τ.1 20 i = nI (gW g (xs i).1)) ?_ ?_ 0 (by omega) _ ⟨ρ, rfl, FrQ.rf, fun i hi => by omega⟩
    · rintro p _ hp ⟨τ, rfl, h1, h2⟩
      show Ok (b_X9_classes_6 (nI p) τ) _
      have fin : ∀ v : Int32, v = nI (gW g (xs p).1) → Ok (j_X9_classes_32 (nI p) v (nI p) τ) (SumP (fun s => ∃ τ : Mem, s = (nI (p + 1), τ) ∧ FrQ ρ τ ∧ ∀ i, i < p + 1 → τ.1 20 i = nI (gW g (xs i).1)) (fun τ => FrQ ρ τ ∧ ∃ κ, KnM τ 20 N κ ∧ KeC (KE (outc rl on) (RsX rl on) g 0) N (fun i => (xs i).1) κ)) := by
        rintro v rfl
        unfold j_X9_classes_32
        rw [gd_ix (by omega) (by omega), n_cl (by omega)]
        refine Ok.lt (Ok.lt (Ok.some ⟨_, by rw [n_suc], h1.put (Or.inl rfl), fun i hi => ?_⟩))
        by_cases c : i = p
        · subst c; rw [sI_same]
        · rw [sI_slot c]; exact h2 i (by omega)
      unfold b_X9_classes_6
      rw [(hP.fq h1).1.1, if_neg (by rw [n_le (by omega) (by omega)]; omega), goodA_R (hP.fq h1).1 hp (by rw [h1.1 7 (by omega) (by omega)]; exact h71) hg, Option.bind_some]
      rcases gB01 g (xs p).1 with e | e
      · rw [e, if_pos rfl]
        exact fin 0 (by rw [kg, e])
      · rw [e, if_neg (by decide)]
        exact fin 1 (by rw [kg, e])
    · rintro _ ⟨τ, rfl, h1, h2⟩
      show Ok (b_X9_classes_6 (nI N) τ) _
      unfold b_X9_classes_6
      rw [(hP.fq h1).1.1, if_pos (by rw [n_le (by omega) (by omega)]; omega)]
      have l2 : ∀ i, gW g (xs i).1 < 128 := fun i => by
        unfold gW
        split <;> omega
      refine Ok.some ⟨h1, fun i => gW g (xs i).1, fun i hi => ⟨h2 i hi, l2 i⟩, fun i j hi hj => ?_⟩
      show gW g (xs i).1 = gW g (xs j).1 ↔ gB g (xs i).1 = gB g (xs j).1
      have a1 := l2 i
      have a2 := l2 j
      rw [← kg i, ← kg j, n_eq (by omega) (by omega)]
  · rintro τ ⟨h1, κ, h2, h3⟩
    refine Ok.bind (kindsAll_R (hP.fq h1) hN hP.cl.pos RsX.cl hl h2 h3) ?_
    rintro ⟨r1, υ⟩ ⟨u1, M, rfl, u2⟩
    exact Ok.some ⟨h1.tr u1, M, rfl, u2⟩
theorem RepR.fq {A : AS} {ρ τ : Mem} (h : RepR A ρ) (f : FrQ ρ τ) : RepR A τ := h.scr (by rw [f.1 0 (by omega) (by omega)]) (fun o o1 o2 => f.1 o (by omega) (by omega)) (by rw [f.2])
theorem classes_RC {A : AS} {σ ρ : Mem} (h : RepC A σ) (g : RepR A ρ) (hA : WfA A) (hC : Ca (rlA A) σ) : ∃ v σ' ρ', f_X8_classes σ = some (v, σ') ∧ f_X9_classes ρ = some (v, ρ') ∧ RepC A σ' ∧ RepR A ρ' ∧ Ca (rlA A) σ' := by
  have hgd := hA.2.2.2.2.2.1
  have ho := hA.2.2.2.2.1
  obtain ⟨kk, σ', ρ', c1, c2, r1, c3, r2, r3, ln, c5, c6, c7, n, xs, z, W, F, m, ys, l1, l2, l3, fp⟩ := own_both h g hA hC.1
  have hC' := hC.learnt ho (by omega) ln c5 c6 c7
  have lsC := ls_C l1.1.2.2.2.1 l3.cl
  have lsR := ls_R fp.1.2.2.2 fp.cl
  obtain ⟨⟨v, σ''⟩, e1, e2, M, e3, e4⟩ := countKinds_C l1.1 (n64_C hA.2.2.1 l1.1.2.2.2.1) l3.cl.pos hgd l3 lsC (fun τ f => l1.1.fk f)
  obtain ⟨⟨w, ρ''⟩, d1, d2, M', d3, d4⟩ := classes_R fp hA.2.2.1 r2.2.2.1.2.1 hgd
  simp only at e2 e3 d2 d3
  have ev : M = M' := CntK.uni RsX.cl lsC lsR e4 d4
  subst ev
  refine ⟨nI M, σ'', ρ'', ?_, ?_, c3.lrn (fun o ho => e2.1 o (by omega) (by omega) (by omega)) e2.2, r2.fq d2, ?_⟩
  · unfold f_X8_classes
    rw [c1, Option.bind_some]
    show (f_X2_countKinds (σ'.1 0 9) σ').bind (fun r2 => some (r2.1, r2.2)) = _
    rw [c3.2.2.2.1.2, e1, Option.bind_some, e3]
  · unfold f_X9_classes
    rw [r1, Option.bind_some, d1, d3]
  · have ln' := ln.fk e2
    exact ⟨⟨ln'.base, Or.inr ⟨onA A, 0, ho, by omega, by rw [e2.1 9 (by omega) (by omega) (by omega)]; exact c5, by rw [e2.1 9 (by omega) (by omega) (by omega)]; exact c6, ln'⟩⟩, hC'.2.fk e2⟩
