/-! the order of words; the least tree of a pair -/
def lx : List Nat → List Nat → Prop
  | [], _ => False
  | _ :: _, [] => False
  | a :: l, b :: m => a < b ∨ (a = b ∧ lx l m)
def lq (a b : List Nat) : Prop := a = b ∨ lx a b
theorem lx_irr : ∀ a : List Nat, ¬ lx a a
  | [], h => h
  | a :: l, h => by
    rcases h with h | h
    · omega
    · exact lx_irr l h.2
theorem lx_tr : ∀ {a b c : List Nat}, lx a b → lx b c → lx a c
  | [], _, _, h, _ => absurd h id
  | _ :: _, [], _, h, _ => absurd h id
  | _ :: _, _ :: _, [], _, h => absurd h id
  | a :: l, b :: m, c :: n, h, g => by
    rcases h with h | ⟨h, h2⟩
    · rcases g with g | ⟨g, g2⟩
      · exact Or.inl (by omega)
      · exact Or.inl (by omega)
    · rcases g with g | ⟨g, g2⟩
      · exact Or.inl (by omega)
      · exact Or.inr ⟨by omega, lx_tr h2 g2⟩
theorem lq_tr {a b c : List Nat} (h : lq a b) (g : lq b c) : lq a c := by
  rcases h with rfl | h
  · exact g
  · rcases g with rfl | g
    · exact Or.inr h
    · exact Or.inr (lx_tr h g)
theorem lx_lq {a b c : List Nat} (h : lx a b) (g : lq b c) : lx a c := by
  rcases g with rfl | g
  · exact h
  · exact lx_tr h g
theorem lx_app : ∀ {a b : List Nat} (c d : List Nat), lx a b → lx (a ++ c) (b ++ d)
  | [], _, _, _, h => absurd h id
  | _ :: _, [], _, _, h => absurd h id
  | a :: l, b :: m, c, d, h => by
    rcases h with h | ⟨h, h2⟩
    · exact Or.inl h
    · exact Or.inr ⟨h, lx_app c d h2⟩
theorem lx_pre : ∀ (a : List Nat) {c d : List Nat}, lx c d → lx (a ++ c) (a ++ d)
  | [], _, _, h => h
  | a :: l, _, _, h => Or.inr ⟨rfl, lx_pre l h⟩
theorem lq_cons {s : Nat} {a b : List Nat} (h : lq a b) : lq (s :: a) (s :: b) := by
  rcases h with rfl | h
  · exact Or.inl rfl
  · exact Or.inr (Or.inr ⟨rfl, h⟩)
theorem lq_app {a b c d : List Nat} (h : lq a b) (g : lq c d) : lq (a ++ c) (b ++ d) := by
  rcases h with rfl | h
  · rcases g with rfl | g
    · exact Or.inl rfl
    · exact Or.inr (lx_pre a g)
  · exact Or.inr (lx_app c d h)
/-- neither begins the other: the first difference decides -/
theorem lx_total : ∀ (a b : List Nat), (∃ c, b = a ++ c) ∨ (∃ c, a = b ++ c) ∨ lx a b ∨ lx b a
  | [], b => Or.inl ⟨b, rfl⟩
  | a :: l, [] => Or.inr (Or.inl ⟨a :: l, rfl⟩)
  | a :: l, b :: m => by
    by_cases h : a < b
    · exact Or.inr (Or.inr (Or.inl (Or.inl h)))
    · by_cases g : b < a
      · exact Or.inr (Or.inr (Or.inr (Or.inl g)))
      · have e : a = b := by omega
        subst e
        rcases lx_total l m with ⟨c, hc⟩ | ⟨c, hc⟩ | h | h
        · exact Or.inl ⟨c, by rw [hc]; rfl⟩
        · exact Or.inr (Or.inl ⟨c, by rw [hc]; rfl⟩)
        · exact Or.inr (Or.inr (Or.inl (Or.inr ⟨rfl, h⟩)))
        · exact Or.inr (Or.inr (Or.inr (Or.inr ⟨rfl, h⟩)))
theorem lx_asym {a b : List Nat} (h : lx a b) (g : lx b a) : False := lx_irr a (lx_tr h g)
theorem armsN_0 {s : Nat} (h : s < 4) : armsN s = 0 := by unfold armsN; rw [if_pos h]
theorem armsN_1 {s : Nat} (h : 4 ≤ s) (h2 : s < 6) : armsN s = 1 := by unfold armsN; rw [if_neg (by omega), if_pos h2]
theorem armsN_2 {s : Nat} (h : 6 ≤ s) : armsN s = 2 := by unfold armsN; rw [if_neg (by omega), if_neg (by omega)]
theorem TrW.nd {st : Nat → PX → PX → PX} {w : List Nat} {x : PX} (h : TrW st w x) : needs 1 w = true ∧ ∀ a ∈ w, a < 8 := by
  refine h (fun w _ => needs 1 w = true ∧ ∀ a ∈ w, a < 8) (fun s hs => ?_) (fun s u y h1 h2 hu => ?_) (fun s u y v z h1 h2 hu hv => ?_)
  · refine ⟨?_, fun a ha => by rw [List.mem_singleton.mp ha]; omega⟩
    show needs (0 + armsN s) [] = true
    rw [armsN_0 hs]
    rfl
  · refine ⟨?_, fun a ha => ?_⟩
    · show needs (0 + armsN s) u = true
      rw [armsN_1 h1 h2]
      exact hu.1
    · rcases List.mem_cons.mp ha with q | q
      · omega
      · exact hu.2 a q
  · refine ⟨?_, fun a ha => ?_⟩
    · show needs (0 + armsN s) (u ++ v) = true
      rw [armsN_2 h1, show 0 + 2 = 1 + 1 from rfl, needs_app u 1 1 v hu.1]
      exact hv.1
    · rcases List.mem_cons.mp ha with q | q
      · omega
      · rcases List.mem_append.mp q with q | q
        · exact hu.2 a q
        · exact hv.2 a q
/-- no tree begins another -/
theorem nd_prefix {a b c : List Nat} (ha : needs 1 a = true) (hb : needs 1 b = true) (e : b = a ++ c) : c = [] := by
  rw [e] at hb
  have := needs_app a 1 0 c ha
  rw [Nat.add_zero] at this
  rw [this] at hb
  cases c with
  | nil => rfl
  | cons x c => exact absurd hb (by simp [needs])
theorem nd_split {a b c d : List Nat} (ha : needs 1 a = true) (hb : needs 1 b = true) (e : a ++ c = b ++ d) : a = b ∧ c = d := by
  rcases lx_total a b with ⟨u, hu⟩ | ⟨u, hu⟩ | h | h
  · have := nd_prefix ha hb hu
    rw [this, List.append_nil] at hu
    subst hu
    exact ⟨rfl, List.append_cancel_left e⟩
  · have := nd_prefix hb ha hu
    rw [this, List.append_nil] at hu
    subst hu
    exact ⟨rfl, List.append_cancel_left e⟩
  · have := lx_app c d h
    rw [e] at this
    exact absurd this (lx_irr _)
  · have := lx_app d c h
    rw [e] at this
    exact absurd this (lx_irr _)
theorem tr_total {st : Nat → PX → PX → PX} {a b : List Nat} {x y : PX} (ha : TrW st a x) (hb : TrW st b y) : a = b ∨ lx a b ∨ lx b a := by
  rcases lx_total a b with ⟨u, hu⟩ | ⟨u, hu⟩ | h | h
  · have := nd_prefix ha.nd.1 hb.nd.1 hu
    rw [this, List.append_nil] at hu
    exact Or.inl hu.symm
  · have := nd_prefix hb.nd.1 ha.nd.1 hu
    rw [this, List.append_nil] at hu
    exact Or.inl hu
  · exact Or.inr (Or.inl h)
  · exact Or.inr (Or.inr h)
/-- how a tree is made -/
theorem TrW.inv {st : Nat → PX → PX → PX} {w : List Nat} {x : PX} (h : TrW st w x) : (∃ s, s < 4 ∧ w = [s] ∧ x = st s zX zX) ∨ (∃ s u y, 4 ≤ s ∧ s < 6 ∧ TrW st u y ∧ w = s :: u ∧ x = st s y zX) ∨ (∃ s u y v z, 6 ≤ s ∧ s < 8 ∧ TrW st u y ∧ TrW st v z ∧ w = s :: (u ++ v) ∧ x = st s y z) := by
  have key : TrW st w x ∧ ((∃ s, s < 4 ∧ w = [s] ∧ x = st s zX zX) ∨ (∃ s u y, 4 ≤ s ∧ s < 6 ∧ TrW st u y ∧ w = s :: u ∧ x = st s y zX) ∨ (∃ s u y v z, 6 ≤ s ∧ s < 8 ∧ TrW st u y ∧ TrW st v z ∧ w = s :: (u ++ v) ∧ x = st s y z)) := by
    refine h (fun w x => TrW st w x ∧ ((∃ s, s < 4 ∧ w = [s] ∧ x = st s zX zX) ∨ (∃ s u y, 4 ≤ s ∧ s < 6 ∧ TrW st u y ∧ w = s :: u ∧ x = st s y zX) ∨ (∃ s u y v z, 6 ≤ s ∧ s < 8 ∧ TrW st u y ∧ TrW st v z ∧ w = s :: (u ++ v) ∧ x = st s y z))) (fun s hs => ⟨TrW.leaf hs, Or.inl ⟨s, hs, rfl, rfl⟩⟩) (fun s u y h1 h2 hu => ⟨TrW.one h1 h2 hu.1, Or.inr (Or.inl ⟨s, u, y, h1, h2, hu.1, rfl, rfl⟩)⟩) (fun s u y v z h1 h2 hu hv => ⟨TrW.two h1 h2 hu.1 hv.1, Or.inr (Or.inr ⟨s, u, y, v, z, h1, h2, hu.1, hv.1, rfl, rfl⟩)⟩)
  exact key.2
/-- a tree comes to one pair -/
theorem TrW.uni {st : Nat → PX → PX → PX} : ∀ (n : Nat) {w : List Nat} {x y : PX}, w.length = n → TrW st w x → TrW st w y → x = y := by
  intro n
  induction n using Nat.strongRecOn with
  | ind n ih =>
    intro w x y hn hx hy
    rcases hx.inv with ⟨s, s1, s2, s3⟩ | ⟨s, u, a, s1, s2, s3, s4, s5⟩ | ⟨s, u, a, v, b, s1, s2, s3, s3', s4, s5⟩
    · rcases hy.inv with ⟨t, t1, t2, t3⟩ | ⟨t, u', a', t1, t2, t3, t4, t5⟩ | ⟨t, u', a', v', b', t1, t2, t3, t3', t4, t5⟩
      · rw [s2] at t2
        have e : s = t := by simpa using t2
        rw [s3, t3, e]
      · rw [s2] at t4
        have e : s = t := (List.cons.inj t4).1
        omega
      · rw [s2] at t4
        have e : s = t := (List.cons.inj t4).1
        omega
    · rcases hy.inv with ⟨t, t1, t2, t3⟩ | ⟨t, u', a', t1, t2, t3, t4, t5⟩ | ⟨t, u', a', v', b', t1, t2, t3, t3', t4, t5⟩
      · rw [s4] at t2
        have e : s = t := (List.cons.inj t2).1
        omega
      · rw [s4] at t4
        obtain ⟨e1, e2⟩ := List.cons.inj t4
        subst e1 e2
        rw [s5, t5, ih u.length (by rw [← hn, s4]; simp) rfl s3 t3]
      · rw [s4] at t4
        have e : s = t := (List.cons.inj t4).1
        omega
    · rcases hy.inv with ⟨t, t1, t2, t3⟩ | ⟨t, u', a', t1, t2, t3, t4, t5⟩ | ⟨t, u', a', v', b', t1, t2, t3, t3', t4, t5⟩
      · rw [s4] at t2
        have e : s = t := (List.cons.inj t2).1
        omega
      · rw [s4] at t4
        have e : s = t := (List.cons.inj t4).1
        omega
      · rw [s4] at t4
        obtain ⟨e1, e2⟩ := List.cons.inj t4
        obtain ⟨e3, e4⟩ := nd_split s3.nd.1 t3.nd.1 e2
        subst e1 e3 e4
        rw [s5, t5, ih u.length (by rw [← hn, s4]; simp; omega) rfl s3 t3, ih v.length (by rw [← hn, s4]; simp; omega) rfl s3' t3']
/-- size z (up to 32) and word W are the least of the trees that come to x -/
def Lst (st : Nat → PX → PX → PX) (x : PX) (z : Nat) (W : List Nat) : Prop := ∀ w, TrW st w x → z ≤ min w.length 32 ∧ (z = w.length → z < 32 → lq W w)
/-- candidates over final arms: a place k of the list whose record is not greater -/
def Cnd (st : Nat → PX → PX → PX) (n : Nat) (xs : Nat → PX) (z : Nat → Nat) (W : Nat → List Nat) (v : PX) (c : Nat) (u : List Nat) : Prop := ∃ k, k < n ∧ xs k = v ∧ z k ≤ min c 32 ∧ (z k = c → c < 32 → lq (W k) u)
/-- the nearest pair that is not final: its record is the least -/
theorem nearest_least {st : Nat → PX → PX → PX} {n p : Nat} {xs : Nat → PX} {z : Nat → Nat} {W : Nat → List Nat} {F : Nat → Prop} (hx : ∀ i j, i < n → j < n → xs i = xs j → i = j) (hF : ∀ i, i < n → F i → Lst st (xs i) (z i) (W i)) (h0 : ∀ s, s < 4 → Cnd st n xs z W (st s zX zX) 1 [s]) (h1 : ∀ s i, 4 ≤ s → s < 6 → i < n → F i → Cnd st n xs z W (st s (xs i) zX) (1 + z i) (s :: W i)) (h2 : ∀ s i j, 6 ≤ s → s < 8 → i < n → j < n → F i → F j → Cnd st n xs z W (st s (xs i) (xs j)) (1 + z i + z j) (s :: (W i ++ W j))) (hp : p < n) (hpF : ¬ F p) (hn : ∀ q, q < n → ¬ F q → z p ≤ z q) : Lst st (xs p) (z p) (W p) := by
  have cl : ∀ w x, TrW st w x → (∃ i, i < n ∧ F i ∧ xs i = x) ∨ z p ≤ min w.length 32 := by
    intro w x h
    have key : TrW st w x ∧ ((∃ i, i < n ∧ F i ∧ xs i = x) ∨ z p ≤ min w.length 32) := by
      refine h (fun w x => TrW st w x ∧ ((∃ i, i < n ∧ F i ∧ xs i = x) ∨ z p ≤ min w.length 32)) (fun s hs => ⟨TrW.leaf hs, ?_⟩) (fun s u y a1 a2 hu => ⟨TrW.one a1 a2 hu.1, ?_⟩) (fun s u y v t a1 a2 hu hv => ⟨TrW.two a1 a2 hu.1 hv.1, ?_⟩)
      · obtain ⟨k, k1, k2, k3, _⟩ := h0 s hs
        by_cases c : F k
        · exact Or.inl ⟨k, k1, c, k2⟩
        · have := hn k k1 c
          refine Or.inr ?_
          show z p ≤ min 1 32
          omega
      · have hl : (s :: u).length = u.length + 1 := rfl
        rcases hu.2 with ⟨i, i1, i2, i3⟩ | hu2
        · obtain ⟨k, k1, k2, k3, _⟩ := h1 s i a1 a2 i1 i2
          rw [i3] at k2
          have := (hF i i1 i2 u (by rw [i3]; exact hu.1)).1
          by_cases c : F k
          · exact Or.inl ⟨k, k1, c, k2⟩
          · have := hn k k1 c
            refine Or.inr ?_
            omega
        · refine Or.inr ?_
          omega
      · have hl : (s :: (u ++ v)).length = u.length + v.length + 1 := by simp
        rcases hu.2 with ⟨i, i1, i2, i3⟩ | hu2
        · rcases hv.2 with ⟨j, j1, j2, j3⟩ | hv2
          · obtain ⟨k, k1, k2, k3, _⟩ := h2 s i j a1 a2 i1 j1 i2 j2
            rw [i3, j3] at k2
            have := (hF i i1 i2 u (by rw [i3]; exact hu.1)).1
            have := (hF j j1 j2 v (by rw [j3]; exact hv.1)).1
            by_cases c : F k
            · exact Or.inl ⟨k, k1, c, k2⟩
            · have := hn k k1 c
              refine Or.inr ?_
              omega
          · refine Or.inr ?_
            omega
        · refine Or.inr ?_
          omega
    exact key.2
  have fin : ∀ u y, TrW st u y → u.length < z p → z p ≤ 32 → ∃ i, i < n ∧ F i ∧ xs i = y := by
    intro u y hu hl hz
    rcases cl u y hu with h | h
    · exact h
    · omega
  intro w hw
  have hz : z p ≤ min w.length 32 := by
    rcases cl w _ hw with ⟨i, i1, i2, i3⟩ | h
    · have := hx i p i1 hp i3
      subst this
      exact absurd i2 hpF
    · exact h
  refine ⟨hz, fun e1 e2 => ?_⟩
  have isp : ∀ k, k < n → xs k = xs p → k = p := fun k k1 k2 => hx k p k1 hp k2
  rcases hw.inv with ⟨s, s1, s2, s3⟩ | ⟨s, u, a, s1, s2, s3, s4, s5⟩ | ⟨s, u, a, v, b, s1, s2, s3, s3', s4, s5⟩
  · obtain ⟨k, k1, k2, k3, k4⟩ := h0 s s1
    have := isp k k1 (by rw [k2, s3])
    subst this
    rw [s2] at e1 ⊢
    exact k4 e1 (by omega)
  · have hl : w.length = u.length + 1 := by rw [s4]; rfl
    obtain ⟨i, i1, i2, i3⟩ := fin u a s3 (by omega) (by omega)
    obtain ⟨l1, l2⟩ := hF i i1 i2 u (by rw [i3]; exact s3)
    obtain ⟨k, k1, k2, k3, k4⟩ := h1 s i s1 s2 i1 i2
    have := isp k k1 (by rw [k2, s5, i3])
    subst this
    rw [s4]
    exact lq_tr (k4 (by omega) (by omega)) (lq_cons (l2 (by omega) (by omega)))
  · have hl : w.length = u.length + v.length + 1 := by rw [s4]; simp
    have up : 0 < u.length := by
      have := s3.nd.1
      cases u with
      | nil => exact absurd this (by simp [needs])
      | cons c u => exact Nat.succ_pos _
    have vp : 0 < v.length := by
      have := s3'.nd.1
      cases v with
      | nil => exact absurd this (by simp [needs])
      | cons c v => exact Nat.succ_pos _
    obtain ⟨i, i1, i2, i3⟩ := fin u a s3 (by omega) (by omega)
    obtain ⟨j, j1, j2, j3⟩ := fin v b s3' (by omega) (by omega)
    obtain ⟨l1, l2⟩ := hF i i1 i2 u (by rw [i3]; exact s3)
    obtain ⟨m1, m2⟩ := hF j j1 j2 v (by rw [j3]; exact s3')
    obtain ⟨k, k1, k2, k3, k4⟩ := h2 s i j s1 s2 i1 j1 i2 j2
    have := isp k k1 (by rw [k2, s5, i3, j3])
    subst this
    rw [s4]
    exact lq_tr (k4 (by omega) (by omega)) (lq_cons (lq_app (l2 (by omega) (by omega)) (m2 (by omega) (by omega))))
