/-! classes: kinds of sets, split as long as a step tells more -/
def KE (o : Nat → Nat → Nat → Nat) (R : Nat → Prop) (g : Nat) : Nat → Nat → Nat → Prop
  | 0, a, b => gB g a = gB g b
  | k + 1, a, b => KE o R g k a b ∧ (∀ s, 4 ≤ s → s < 6 → KE o R g k (o s a 0) (o s b 0)) ∧ ∀ r, R r → ∀ s, 6 ≤ s → s < 8 → KE o R g k (o s a r) (o s b r) ∧ KE o R g k (o s r a) (o s r b)
def EqR (E : Nat → Nat → Prop) : Prop := (∀ a, E a a) ∧ (∀ a b, E a b → E b a) ∧ ∀ a b c, E a b → E b c → E a c
theorem KE_eq {o : Nat → Nat → Nat → Nat} {R : Nat → Prop} {g : Nat} : ∀ k, EqR (KE o R g k)
  | 0 => ⟨fun _ => rfl, fun _ _ h => Eq.symm h, fun _ _ _ h h' => Eq.trans h h'⟩
  | k + 1 => by
    obtain ⟨h1, h2, h3⟩ := KE_eq (o := o) (R := R) (g := g) k
    refine ⟨fun a => ⟨h1 a, fun s _ _ => h1 _, fun r _ s _ _ => ⟨h1 _, h1 _⟩⟩, fun a b h => ⟨h2 _ _ h.1, fun s a1 a2 => h2 _ _ (h.2.1 s a1 a2), fun r hr s a1 a2 => ⟨h2 _ _ (h.2.2 r hr s a1 a2).1, h2 _ _ (h.2.2 r hr s a1 a2).2⟩⟩, fun a b c h h' => ⟨h3 _ _ _ h.1 h'.1, fun s a1 a2 => h3 _ _ _ (h.2.1 s a1 a2) (h'.2.1 s a1 a2), fun r hr s a1 a2 => ⟨h3 _ _ _ (h.2.2 r hr s a1 a2).1 (h'.2.2 r hr s a1 a2).1, h3 _ _ _ (h.2.2 r hr s a1 a2).2 (h'.2.2 r hr s a1 a2).2⟩⟩⟩
/-- no step tells more -/
def StK (o : Nat → Nat → Nat → Nat) (R : Nat → Prop) (g k : Nat) : Prop := ∀ a b, R a → R b → KE o R g k a b → KE o R g (k + 1) a b
def ClR (o : Nat → Nat → Nat → Nat) (R : Nat → Prop) : Prop := (∀ s a, 4 ≤ s → s < 6 → R a → R (o s a 0)) ∧ ∀ s a b, 6 ≤ s → s < 8 → R a → R b → R (o s a b)
theorem StK.suc {o : Nat → Nat → Nat → Nat} {R : Nat → Prop} {g k : Nat} (hR : ClR o R) (h : StK o R g k) : StK o R g (k + 1) := fun a b ha hb e =>
  ⟨e, fun s h1 h2 => h _ _ (hR.1 s a h1 h2 ha) (hR.1 s b h1 h2 hb) (e.2.1 s h1 h2), fun r hr s h1 h2 => ⟨h _ _ (hR.2 s a r h1 h2 ha hr) (hR.2 s b r h1 h2 hb hr) (e.2.2 r hr s h1 h2).1, h _ _ (hR.2 s r a h1 h2 hr ha) (hR.2 s r b h1 h2 hr hb) (e.2.2 r hr s h1 h2).2⟩⟩
theorem StK.add {o : Nat → Nat → Nat → Nat} {R : Nat → Prop} {g k : Nat} (hR : ClR o R) (h : StK o R g k) : ∀ d, StK o R g (k + d) ∧ ∀ a b, R a → R b → (KE o R g k a b ↔ KE o R g (k + d) a b)
  | 0 => ⟨h, fun _ _ _ _ => Iff.rfl⟩
  | d + 1 => by
    obtain ⟨h1, h2⟩ := StK.add hR h d
    exact ⟨h1.suc hR, fun a b ha hb => ⟨fun e => h1 a b ha hb ((h2 a b ha hb).mp e), fun e => (h2 a b ha hb).mpr e.1⟩⟩
theorem StK.same {o : Nat → Nat → Nat → Nat} {R : Nat → Prop} {g j k : Nat} (hR : ClR o R) (hj : StK o R g j) (hk : StK o R g k) : ∀ a b, R a → R b → (KE o R g j a b ↔ KE o R g k a b) := by
  intro a b ha hb
  by_cases c : j ≤ k
  · have := (hj.add hR (k - j)).2 a b ha hb
    rw [show j + (k - j) = k by omega] at this
    exact this
  · have := (hk.add hR (j - k)).2 a b ha hb
    rw [show k + (j - k) = j by omega] at this
    exact this.symm
/-- the first p sets of a list in M kinds -/
def Kd (E : Nat → Nat → Prop) (p : Nat) (zs : Nat → Nat) (κ : Nat → Nat) (M : Nat) : Prop := (∀ i, i < p → κ i < M) ∧ (∀ v, v < M → ∃ i, i < p ∧ κ i = v) ∧ ∀ i j, i < p → j < p → (κ i = κ j ↔ E (zs i) (zs j))
theorem Kd.old {E : Nat → Nat → Prop} (hE : EqR E) {p M j : Nat} {zs κ : Nat → Nat} (h : Kd E p zs κ M) (hj : j < p) (e : E (zs p) (zs j)) : Kd E (p + 1) zs (fun i => if i = p then κ j else κ i) M := by
  obtain ⟨h1, h2, h3⟩ := h
  refine ⟨fun i hi => ?_, fun v hv => ?_, fun i i' hi hi' => ?_⟩
  · by_cases c : i = p
    · simp only [if_pos c]; exact h1 j hj
    · simp only [if_neg c]; exact h1 i (by omega)
  · obtain ⟨i, i1, i2⟩ := h2 v hv
    refine ⟨i, by omega, ?_⟩
    simp only [if_neg (show ¬ i = p by omega)]
    exact i2
  · by_cases c : i = p
    · by_cases d : i' = p
      · simp only [if_pos c, if_pos d]
        rw [c, d]
        exact ⟨fun _ => hE.1 _, fun _ => trivial⟩
      · simp only [if_pos c, if_neg d]
        rw [h3 j i' hj (by omega), c]
        exact ⟨fun z => hE.2.2 _ _ _ e z, fun z => hE.2.2 _ _ _ (hE.2.1 _ _ e) z⟩
    · by_cases d : i' = p
      · simp only [if_neg c, if_pos d]
        rw [h3 i j (by omega) hj, d]
        exact ⟨fun z => hE.2.2 _ _ _ z (hE.2.1 _ _ e), fun z => hE.2.2 _ _ _ z e⟩
      · simp only [if_neg c, if_neg d]
        exact h3 i i' (by omega) (by omega)
theorem Kd.new {E : Nat → Nat → Prop} (hE : EqR E) {p M : Nat} {zs κ : Nat → Nat} (h : Kd E p zs κ M) (e : ∀ j, j < p → ¬ E (zs p) (zs j)) : Kd E (p + 1) zs (fun i => if i = p then M else κ i) (M + 1) := by
  obtain ⟨h1, h2, h3⟩ := h
  refine ⟨fun i hi => ?_, fun v hv => ?_, fun i i' hi hi' => ?_⟩
  · by_cases c : i = p
    · simp only [if_pos c]; omega
    · simp only [if_neg c]
      have := h1 i (by omega)
      omega
  · by_cases c : v = M
    · exact ⟨p, by omega, by simp only [if_pos]; exact c.symm⟩
    · obtain ⟨i, i1, i2⟩ := h2 v (by omega)
      refine ⟨i, by omega, ?_⟩
      simp only [if_neg (show ¬ i = p by omega)]
      exact i2
  · by_cases c : i = p
    · by_cases d : i' = p
      · simp only [if_pos c, if_pos d]
        rw [c, d]
        exact ⟨fun _ => hE.1 _, fun _ => trivial⟩
      · simp only [if_pos c, if_neg d]
        rw [c]
        have := h1 i' (by omega)
        exact ⟨fun z => by omega, fun z => absurd z (e i' (by omega))⟩
    · by_cases d : i' = p
      · simp only [if_neg c, if_pos d]
        rw [d]
        have := h1 i (by omega)
        exact ⟨fun z => by omega, fun z => absurd (hE.2.1 _ _ z) (e i (by omega))⟩
      · simp only [if_neg c, if_neg d]
        exact h3 i i' (by omega) (by omega)
/-- a finer split has no fewer kinds -/
theorem Kd.le {E E' : Nat → Nat → Prop} {p p' M M' : Nat} {zs ys κ κ' : Nat → Nat} (h : Kd E p zs κ M) (h' : Kd E' p' ys κ' M') (hs : ∀ i, i < p → ∃ j, j < p' ∧ ys j = zs i) (hr : ∀ i j, i < p → j < p → E' (zs i) (zs j) → E (zs i) (zs j)) : M ≤ M' := by
  classical
  let pr : Nat → Nat := fun v => if hv : v < M then (h.2.1 v hv).choose else 0
  have prs : ∀ v, v < M → pr v < p ∧ κ (pr v) = v := fun v hv => by
    have e : pr v = (h.2.1 v hv).choose := by simp only [pr, dif_pos hv]
    rw [e]
    exact (h.2.1 v hv).choose_spec
  let ix' : Nat → Nat := fun i => if hi : i < p then (hs i hi).choose else 0
  have ixs : ∀ i, i < p → ix' i < p' ∧ ys (ix' i) = zs i := fun i hi => by
    have e : ix' i = (hs i hi).choose := by simp only [ix', dif_pos hi]
    rw [e]
    exact (hs i hi).choose_spec
  refine php M' M (fun v => κ' (ix' (pr v))) (fun v hv => h'.1 _ (ixs _ (prs v hv).1).1) (fun v w hv hw e => ?_)
  obtain ⟨a1, a2⟩ := prs v hv
  obtain ⟨b1, b2⟩ := prs w hw
  have e' := (h'.2.2 _ _ (ixs _ a1).1 (ixs _ b1).1).mp e
  rw [(ixs _ a1).2, (ixs _ b1).2] at e'
  have := (h.2.2 _ _ a1 b1).mpr (hr _ _ a1 b1 e')
  rw [a2, b2] at this
  exact this
theorem Kd.leN {E : Nat → Nat → Prop} {p M : Nat} {zs κ : Nat → Nat} (h : Kd E p zs κ M) : M ≤ p := by
  classical
  let pr : Nat → Nat := fun v => if hv : v < M then (h.2.1 v hv).choose else 0
  have prs : ∀ v, v < M → pr v < p ∧ κ (pr v) = v := fun v hv => by
    have e : pr v = (h.2.1 v hv).choose := by simp only [pr, dif_pos hv]
    rw [e]
    exact (h.2.1 v hv).choose_spec
  refine php p M pr (fun v hv => (prs v hv).1) (fun v w hv hw e => ?_)
  rw [← (prs v hv).2, ← (prs w hw).2, e]
/-- a finer split into as many kinds is the same split -/
theorem Kd.same {E E' : Nat → Nat → Prop} {p M : Nat} {zs κ κ' : Nat → Nat} (h : Kd E p zs κ M) (h' : Kd E' p zs κ' M) (hr : ∀ i j, i < p → j < p → E' (zs i) (zs j) → E (zs i) (zs j)) : ∀ i j, i < p → j < p → E (zs i) (zs j) → E' (zs i) (zs j) := by
  classical
  intro i j hi hj e
  by_cases c : E' (zs i) (zs j)
  · exact c
  · exfalso
    let pr : Nat → Nat := fun v => if hv : v < M then (h.2.1 v hv).choose else 0
    have prs : ∀ v, v < M → pr v < p ∧ κ (pr v) = v := fun v hv => by
      have e : pr v = (h.2.1 v hv).choose := by simp only [pr, dif_pos hv]
      rw [e]
      exact (h.2.1 v hv).choose_spec
    have kij : κ i = κ j := (h.2.2 i j hi hj).mpr e
    have k'ij : κ' i ≠ κ' j := fun z => c ((h'.2.2 i j hi hj).mp z)
    obtain ⟨x, x1, x2, x3⟩ : ∃ x, x < p ∧ κ x = κ i ∧ κ' x ≠ κ' (pr (κ i)) := by
      by_cases d : κ' i = κ' (pr (κ i))
      · exact ⟨j, hj, kij.symm, fun z => k'ij (d.trans z.symm)⟩
      · exact ⟨i, hi, rfl, d⟩
    have key : ∀ v, v < M → κ' (pr v) = κ' x → False := fun v hv z => by
      have e1 := (h'.2.2 _ _ (prs v hv).1 x1).mp z
      have e2 := (h.2.2 _ _ (prs v hv).1 x1).mpr (hr _ _ (prs v hv).1 x1 e1)
      rw [(prs v hv).2, x2] at e2
      rw [e2] at z
      exact x3 z.symm
    have := php M (M + 1) (fun v => if v < M then κ' (pr v) else κ' x) (fun v hv => by
      by_cases d : v < M
      · simp only [if_pos d]; exact h'.1 _ (prs v d).1
      · simp only [if_neg d]; exact h'.1 _ x1) (fun v w hv hw z => by
      by_cases d : v < M
      · by_cases f : w < M
        · simp only [if_pos d, if_pos f] at z
          have e1 := (h'.2.2 _ _ (prs v d).1 (prs w f).1).mp z
          have e2 := (h.2.2 _ _ (prs v d).1 (prs w f).1).mpr (hr _ _ (prs v d).1 (prs w f).1 e1)
          rw [(prs v d).2, (prs w f).2] at e2
          exact e2
        · simp only [if_pos d, if_neg f] at z
          exact absurd (key v d z) id
      · by_cases f : w < M
        · simp only [if_neg d, if_pos f] at z
          exact absurd (key w f z.symm) id
        · omega)
    omega
/-- a list of all sets with R -/
def LsR (R : Nat → Prop) (n : Nat) (zs : Nat → Nat) : Prop := (∀ i, i < n → R (zs i)) ∧ ∀ a, R a → ∃ i, i < n ∧ zs i = a
theorem StK.of {o : Nat → Nat → Nat → Nat} {R : Nat → Prop} {g k n M : Nat} {zs κ κ' : Nat → Nat} (hl : LsR R n zs) (h : Kd (KE o R g k) n zs κ M) (h' : Kd (KE o R g (k + 1)) n zs κ' M) : StK o R g k := by
  intro a b ha hb e
  obtain ⟨i, i1, rfl⟩ := hl.2 a ha
  obtain ⟨j, j1, rfl⟩ := hl.2 b hb
  exact h.same h' (fun _ _ _ _ z => z.1) i j i1 j1 e
/-- what both sides answer -/
def CntK (o : Nat → Nat → Nat → Nat) (R : Nat → Prop) (g n : Nat) (zs : Nat → Nat) (M : Nat) : Prop := ∃ k κ, StK o R g k ∧ Kd (KE o R g k) n zs κ M
theorem CntK.uni {o : Nat → Nat → Nat → Nat} {R : Nat → Prop} {g n m M M' : Nat} {zs ys : Nat → Nat} (hR : ClR o R) (hz : LsR R n zs) (hy : LsR R m ys) (h : CntK o R g n zs M) (h' : CntK o R g m ys M') : M = M' := by
  obtain ⟨k, κ, s1, k1⟩ := h
  obtain ⟨k', κ', s2, k2⟩ := h'
  have e := StK.same hR s1 s2
  have l1 := k1.le k2 (fun i hi => hy.2 _ (hz.1 i hi)) (fun i j hi hj z => (e _ _ (hz.1 i hi) (hz.1 j hj)).mpr z)
  have l2 := k2.le k1 (fun i hi => hz.2 _ (hy.1 i hi)) (fun i j hi hj z => (e _ _ (hy.1 i hi) (hy.1 j hj)).mp z)
  omega
