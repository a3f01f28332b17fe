/-! the words by which a node can be mended to a state -/
def wsK (rl : List Ru) (on s : Nat) (X Y : Nat → List Nat → Prop) (k q : Nat) (w : List Nat) : Prop := bN on k = 1 ∧ armsN (ruA rl k).1 = armsN s ∧ (ruA rl k).2.2.2 = q ∧ ∃ w1 w2, (1 ≤ armsN s → X (ruA rl k).2.1 w1) ∧ (armsN s = 0 → w1 = []) ∧ (2 ≤ armsN s → Y (ruA rl k).2.2.1 w2) ∧ (armsN s ≤ 1 → w2 = []) ∧ w = (ruA rl k).1 :: (w1 ++ w2)
def wsN (rl : List Ru) (on s : Nat) (X Y : Nat → List Nat → Prop) (n q : Nat) (w : List Nat) : Prop := ∃ k, k < n ∧ wsK rl on s X Y k q w
def wsF (rl : List Ru) (on s : Nat) (X Y : Nat → List Nat → Prop) : Nat → List Nat → Prop := wsN rl on s X Y rl.length
def ws (rl : List Ru) (on : Nat) (t : List Nat) (i : Nat) : Nat → List Nat → Prop := upA (wsF rl on) (fun _ _ => False) t i
def cs : List Nat → List Nat → Nat
  | [], _ => 0
  | _ :: _, [] => 0
  | a :: l, b :: w => (if b = a then 0 else 1) + cs l w
def stpN (b : Nat) : Nat := if b < 4 then b else if b < 6 then b - 4 else b - 6
def co : Nat → List Nat → Nat
  | _, [] => 0
  | i, b :: w => stpN b * 4 ^ (30 - i) + co (i + 1) w
/-- the shape: as many arms at each place -/
def shp : List Nat → List Nat → Prop
  | _, [] => True
  | [], _ :: _ => False
  | a :: l, b :: w => b < 8 ∧ armsN b = armsN a ∧ shp l w
theorem shp_nil (l : List Nat) : shp l [] := by cases l <;> trivial
theorem shp_app : ∀ (l w1 w2 : List Nat), shp l w1 → shp (l.drop w1.length) w2 → shp l (w1 ++ w2)
  | l, [], w2, _, h => by simpa using h
  | [], b :: w1, w2, h, _ => absurd h id
  | a :: l, b :: w1, w2, h, h2 => ⟨h.1, h.2.1, shp_app l w1 w2 h.2.2 (by simpa using h2)⟩
theorem cs_nil (l : List Nat) : cs l [] = 0 := by cases l <;> rfl
theorem cs_app : ∀ (l w1 w2 : List Nat), w1.length ≤ l.length → cs l (w1 ++ w2) = cs l w1 + cs (l.drop w1.length) w2
  | l, [], w2, _ => by simp [cs_nil]
  | [], b :: w1, w2, h => absurd h (by simp)
  | a :: l, b :: w1, w2, h => by
    show (if b = a then 0 else 1) + cs l (w1 ++ w2) = (if b = a then 0 else 1) + cs l w1 + cs ((a :: l).drop (w1.length + 1)) w2
    rw [cs_app l w1 w2 (by simpa using h), List.drop_succ_cons]
    omega
theorem cs_le : ∀ (l w : List Nat), cs l w ≤ w.length
  | [], w => by simp [cs]
  | _ :: _, [] => Nat.le_refl _
  | a :: l, b :: w => by
    have := cs_le l w
    show (if b = a then 0 else 1) + cs l w ≤ w.length + 1
    split <;> omega
theorem co_app : ∀ (w1 w2 : List Nat) (i : Nat), co i (w1 ++ w2) = co i w1 + co (i + w1.length) w2
  | [], w2, i => by simp [co]
  | b :: w1, w2, i => by
    show stpN b * 4 ^ (30 - i) + co (i + 1) (w1 ++ w2) = stpN b * 4 ^ (30 - i) + co (i + 1) w1 + co (i + (w1.length + 1)) w2
    rw [co_app w1 w2 (i + 1), show i + 1 + w1.length = i + (w1.length + 1) by omega]
    omega
theorem stpN_lt {b : Nat} (h : b < 8) : stpN b < 4 := by
  unfold stpN
  split
  · omega
  · split <;> omega
theorem p4 {i : Nat} (h : i ≤ 30) : 4 ^ (31 - i) = 4 * 4 ^ (30 - i) := by
  rw [show 31 - i = (30 - i) + 1 by omega, Nat.pow_succ]
  omega
theorem co_lt : ∀ (w : List Nat) (i : Nat), (∀ x ∈ w, x < 8) → i + w.length ≤ 31 → co i w < 4 ^ (31 - i)
  | [], i, _, _ => Nat.pow_pos (by omega)
  | b :: w, i, h, hl => by
    have hl : i + (w.length + 1) ≤ 31 := hl
    have ih := co_lt w (i + 1) (fun x hx => h x (List.mem_cons_of_mem _ hx)) (by omega)
    have hb := stpN_lt (h b List.mem_cons_self)
    rw [show 31 - (i + 1) = 30 - i by omega] at ih
    show stpN b * 4 ^ (30 - i) + co (i + 1) w < _
    rw [p4 (by omega)]
    have : stpN b * 4 ^ (30 - i) ≤ 3 * 4 ^ (30 - i) := Nat.mul_le_mul_right _ (by omega)
    omega
theorem co_dvd : ∀ (w : List Nat) (i : Nat), i + w.length ≤ 31 → 4 ^ (31 - (i + w.length)) ∣ co i w
  | [], i, _ => ⟨0, rfl⟩
  | b :: w, i, hl => by
    have hl : i + (w.length + 1) ≤ 31 := hl
    have ih := co_dvd w (i + 1) (by omega)
    rw [show i + 1 + w.length = i + (w.length + 1) by omega] at ih
    show 4 ^ (31 - (i + (w.length + 1))) ∣ stpN b * 4 ^ (30 - i) + co (i + 1) w
    refine Nat.dvd_add ?_ ih
    refine Nat.dvd_trans ?_ (Nat.dvd_mul_left (4 ^ (30 - i)) (stpN b))
    exact Nat.pow_dvd_pow 4 (by omega)
theorem shp_lt : ∀ (l w : List Nat), shp l w → ∀ x ∈ w, x < 8
  | l, [], _, x, hx => absurd hx List.not_mem_nil
  | [], b :: w, h, _, _ => absurd h id
  | a :: l, b :: w, h, x, hx => by
    rcases List.mem_cons.mp hx with q | q
    · rw [q]; exact h.1
    · exact shp_lt l w h.2.2 x q
/-- what is sure of a way to mend -/
theorem ws_ok {rl : List Ru} (hrl : ∀ r ∈ rl, OkRu r) (on : Nat) {t : List Nat} (hw : needs 1 t = true) : ∀ (n i q : Nat) (w : List Nat), t.length - i = n → ws rl on t i q w → w.length = partL t i ∧ shp (t.drop i) w := by
  intro n
  induction n using Nat.strongRecOn with
  | ind n ih =>
    intro i q w hn h
    by_cases hi : i < t.length
    · have h : upA (wsF rl on) (fun _ _ => False) t i q w := h
      rw [upA_get _ _ hi] at h
      obtain ⟨k, hk, h1, h2, h3, w1, w2, h4, h5, h6, h7, rfl⟩ := h
      have r8 : (ruA rl k).1 < 8 := by
        have : OkRu (ruA rl k) := by
          unfold ruA
          rw [List.getD_eq_getElem?_getD, List.getElem?_eq_getElem hk]
          exact hrl _ (List.getElem_mem hk)
        exact this.1
      have dc := drop_cons hi
      rcases arms_cases (sgn t i) with a0 | a0 | a0
      · rw [h5 a0, h7 (by omega), part_0 hi a0, dc]
        exact ⟨rfl, r8, h2, shp_nil _⟩
      · obtain ⟨p1, p2⟩ := part_1 hw hi a0
        obtain ⟨g1, g2⟩ := ih _ (by omega) (i + 1) _ w1 rfl (h4 (by omega))
        rw [h7 (by omega), List.append_nil, p1, dc]
        refine ⟨?_, r8, h2, g2⟩
        show w1.length + 1 = _
        omega
      · obtain ⟨p1, p2⟩ := part_2 hw hi a0
        have q1 := part_pos (l := t) (i := i + 1) (by omega)
        obtain ⟨g1, g2⟩ := ih _ (by omega) (i + 1) _ w1 rfl (h4 (by omega))
        obtain ⟨g3, g4⟩ := ih _ (by omega) (i + 1 + partL t (i + 1)) _ w2 rfl (h6 (by omega))
        rw [p1, dc]
        refine ⟨?_, r8, h2, ?_⟩
        · show (w1 ++ w2).length + 1 = _
          rw [List.length_append]
          omega
        · refine shp_app _ _ _ g2 ?_
          rw [List.drop_drop, g1]
          exact g4
    · have h : upA (wsF rl on) (fun _ _ => False) t i q w := h
      rw [upA_out _ _ (by omega)] at h
      exact absurd h id
/-- the best of a set, by f and then by g; far: there is none -/
def Bst (far : Nat) (S : List Nat → Prop) (f g : List Nat → Nat) (c d : Nat) : Prop := (c = far ∧ ∀ w, ¬ S w) ∨ (c < far ∧ (∃ w, S w ∧ f w = c ∧ g w = d) ∧ ∀ w, S w → c < f w ∨ (c = f w ∧ d ≤ g w))
/-- one candidate set more -/
theorem Bst.join {far : Nat} {S S' U : List Nat → Prop} {f g : List Nat → Nat} {c d c' d' : Nat} (h : Bst far S f g c d) (hU : ∀ w, U w ↔ (S w ∨ S' w)) (h' : (far ≤ c' ∧ ∀ w, ¬ S' w) ∨ Bst far S' f g c' d') : ((c' < c ∨ (c' < far ∧ c' = c ∧ d' < d)) → Bst far U f g c' d') ∧ (¬ (c' < c ∨ (c' < far ∧ c' = c ∧ d' < d)) → Bst far U f g c d) := by
  have hcf : c ≤ far := by rcases h with ⟨h1, _⟩ | ⟨h1, _⟩ <;> omega
  constructor
  · intro b
    rcases h' with ⟨h1, _⟩ | ⟨h1, _⟩ | ⟨h1, ⟨w, h2, h3, h4⟩, h5⟩
    · omega
    · omega
    · refine Or.inr ⟨h1, ⟨w, (hU w).mpr (Or.inr h2), h3, h4⟩, fun u hu => ?_⟩
      rcases (hU u).mp hu with q | q
      · rcases h with ⟨e1, e2⟩ | ⟨e1, e2, e3⟩
        · exact absurd q (e2 u)
        · rcases e3 u q with z | z <;> omega
      · exact h5 u q
  · intro b
    rcases h with ⟨e1, e2⟩ | ⟨e1, ⟨w, e2, e3, e4⟩, e5⟩
    · refine Or.inl ⟨e1, fun u hu => ?_⟩
      rcases (hU u).mp hu with q | q
      · exact e2 u q
      · rcases h' with ⟨h1, h2⟩ | ⟨h1, h2⟩ | ⟨h1, h2, h3⟩
        · exact h2 u q
        · exact h2 u q
        · omega
    · refine Or.inr ⟨e1, ⟨w, (hU w).mpr (Or.inl e2), e3, e4⟩, fun u hu => ?_⟩
      rcases (hU u).mp hu with q | q
      · exact e5 u q
      · rcases h' with ⟨h1, h2⟩ | ⟨h1, h2⟩ | ⟨h1, h2, h3⟩
        · exact absurd q (h2 u)
        · exact absurd q (h2 u)
        · rcases h3 u q with z | z <;> omega
/-- a sign over the best of its arms -/
theorem Bst.over {far h e a : Nat} {S1 S2 : List Nat → Prop} {f g f1 g1 f2 g2 : List Nat → Nat} {c1 d1 c2 d2 : Nat} (b1 : Bst far S1 f1 g1 c1 d1) (b2 : Bst far S2 f2 g2 c2 d2) (hf : ∀ w1 w2, S1 w1 → S2 w2 → f (h :: (w1 ++ w2)) = e + f1 w1 + f2 w2 ∧ g (h :: (w1 ++ w2)) = a + g1 w1 + g2 w2 ∧ f (h :: (w1 ++ w2)) < far) : (far ≤ e + c1 + c2 ∧ ∀ w, ¬ (∃ w1 w2, S1 w1 ∧ S2 w2 ∧ w = h :: (w1 ++ w2))) ∨ Bst far (fun w => ∃ w1 w2, S1 w1 ∧ S2 w2 ∧ w = h :: (w1 ++ w2)) f g (e + c1 + c2) (a + d1 + d2) := by
  rcases b1 with ⟨x1, x2⟩ | ⟨x1, ⟨u1, x2, x3, x4⟩, x5⟩
  · refine Or.inl ⟨by omega, fun w ⟨w1, w2, q1, _, _⟩ => x2 w1 q1⟩
  · rcases b2 with ⟨y1, y2⟩ | ⟨y1, ⟨u2, y2, y3, y4⟩, y5⟩
    · refine Or.inl ⟨by omega, fun w ⟨w1, w2, _, q2, _⟩ => y2 w2 q2⟩
    · obtain ⟨z1, z2, z3⟩ := hf u1 u2 x2 y2
      refine Or.inr (Or.inr ⟨by omega, ⟨_, ⟨u1, u2, x2, y2, rfl⟩, by omega, by omega⟩, ?_⟩)
      rintro w ⟨w1, w2, q1, q2, rfl⟩
      obtain ⟨t1, t2, t3⟩ := hf w1 w2 q1 q2
      have := x5 w1 q1
      have := y5 w2 q2
      omega
theorem Bst.nil {far : Nat} (hf : 0 < far) {f g : List Nat → Nat} (h1 : f [] = 0) (h2 : g [] = 0) : Bst far (fun w => w = []) f g 0 0 := by
  refine Or.inr ⟨hf, ⟨[], rfl, h1, h2⟩, fun w hw => ?_⟩
  subst hw
  omega
theorem Bst.cg {far : Nat} {S S' : List Nat → Prop} {f g : List Nat → Nat} {c d : Nat} (h : Bst far S f g c d) (e : ∀ w, S w ↔ S' w) : Bst far S' f g c d := by
  rcases h with ⟨h1, h2⟩ | ⟨h1, ⟨w, h2, h3⟩, h4⟩
  · exact Or.inl ⟨h1, fun w hw => h2 w ((e w).mpr hw)⟩
  · exact Or.inr ⟨h1, ⟨w, (e w).mp h2, h3⟩, fun u hu => h4 u ((e u).mpr hu)⟩
/-- the code tells the signs -/
theorem co_step : ∀ (w : List Nat) (i j : Nat), (∀ x ∈ w, x < 8) → i + w.length ≤ 31 → j < w.length → co i w / 4 ^ (30 - (i + j)) % 4 = stpN (sgn w j)
  | [], i, j, _, _, h => absurd h (Nat.not_lt_zero j)
  | b :: w, i, 0, h, hl, _ => by
    have hl : i + (w.length + 1) ≤ 31 := hl
    have lt := co_lt w (i + 1) (fun x hx => h x (List.mem_cons_of_mem _ hx)) (by omega)
    rw [show 31 - (i + 1) = 30 - i by omega] at lt
    have hb := stpN_lt (h b List.mem_cons_self)
    show (stpN b * 4 ^ (30 - i) + co (i + 1) w) / 4 ^ (30 - i) % 4 = stpN b
    have hp : 0 < 4 ^ (30 - i) := Nat.pow_pos (by omega)
    rw [Nat.add_comm, Nat.add_mul_div_right _ _ hp, Nat.div_eq_of_lt lt]
    omega
  | b :: w, i, j + 1, h, hl, hj => by
    have hl : i + (w.length + 1) ≤ 31 := hl
    have hj : j < w.length := Nat.lt_of_succ_lt_succ hj
    have ih := co_step w (i + 1) j (fun x hx => h x (List.mem_cons_of_mem _ hx)) (by omega) hj
    rw [show i + 1 + j = i + (j + 1) by omega] at ih
    show (stpN b * 4 ^ (30 - i) + co (i + 1) w) / 4 ^ (30 - (i + (j + 1))) % 4 = stpN (sgn w j)
    rw [← ih]
    have e : 4 ^ (30 - i) = 4 ^ (30 - (i + (j + 1))) * (4 * 4 ^ j) := by
      rw [← Nat.pow_succ', ← Nat.pow_add]
      congr 1
      omega
    have hp : 0 < 4 ^ (30 - (i + (j + 1))) := Nat.pow_pos (by omega)
    rw [e, show stpN b * (4 ^ (30 - (i + (j + 1))) * (4 * 4 ^ j)) = 4 ^ (30 - (i + (j + 1))) * (stpN b * 4 ^ j * 4) by simp only [Nat.mul_left_comm, Nat.mul_comm, Nat.mul_assoc], Nat.add_comm, Nat.add_mul_div_left _ _ hp]
    omega
/-- the first place where two words differ decides -/
theorem co_first : ∀ (w w' : List Nat) (i k : Nat), (∀ x ∈ w, x < 8) → (∀ x ∈ w', x < 8) → w.length = w'.length → i + w.length ≤ 31 → k < w.length → (∀ j, j < k → sgn w j = sgn w' j) → stpN (sgn w k) < stpN (sgn w' k) → co i w < co i w'
  | [], _, _, k, _, _, _, _, h, _, _ => absurd h (Nat.not_lt_zero k)
  | b :: w, [], _, _, _, _, h, _, _, _, _ => absurd h (by simp)
  | b :: w, b' :: w', i, 0, h, h', hl, hi, _, _, hs => by
    have hi : i + (w.length + 1) ≤ 31 := hi
    have lt := co_lt w (i + 1) (fun x hx => h x (List.mem_cons_of_mem _ hx)) (by omega)
    rw [show 31 - (i + 1) = 30 - i by omega] at lt
    have hs : stpN b < stpN b' := hs
    show stpN b * 4 ^ (30 - i) + co (i + 1) w < stpN b' * 4 ^ (30 - i) + co (i + 1) w'
    have : (stpN b + 1) * 4 ^ (30 - i) ≤ stpN b' * 4 ^ (30 - i) := Nat.mul_le_mul_right _ hs
    rw [Nat.add_mul, Nat.one_mul] at this
    omega
  | b :: w, b' :: w', i, k + 1, h, h', hl, hi, hk, ha, hs => by
    have hi : i + (w.length + 1) ≤ 31 := hi
    have hl2 : w.length = w'.length := Nat.succ.inj hl
    have e : b = b' := ha 0 (by omega)
    subst e
    have ih := co_first w w' (i + 1) k (fun x hx => h x (List.mem_cons_of_mem _ hx)) (fun x hx => h' x (List.mem_cons_of_mem _ hx)) hl2 (by omega) (Nat.lt_of_succ_lt_succ hk) (fun j hj => ha (j + 1) (by omega)) hs
    show stpN b * 4 ^ (30 - i) + co (i + 1) w < stpN b * 4 ^ (30 - i) + co (i + 1) w'
    omega
theorem shp_arms : ∀ (l w : List Nat) (j : Nat), shp l w → j < w.length → sgn w j < 8 ∧ armsN (sgn w j) = armsN (sgn l j)
  | l, [], j, _, h => absurd h (Nat.not_lt_zero j)
  | [], b :: w, _, h, _ => absurd h id
  | a :: l, b :: w, 0, h, _ => ⟨h.1, h.2.1⟩
  | a :: l, b :: w, j + 1, h, hj => shp_arms l w j h.2.2 (Nat.lt_of_succ_lt_succ hj)
/-- signs of as many arms are told by their steps -/
theorem stp_lt {b b' : Nat} (h : b < 8) (h' : b' < 8) (e : armsN b = armsN b') : (b < b' ↔ stpN b < stpN b') := by
  unfold armsN at e
  unfold stpN
  by_cases c1 : b < 4
  · by_cases c2 : b' < 4
    · rw [if_pos c1, if_pos c2]
    · rw [if_pos c1, if_neg c2] at e
      split at e <;> omega
  · by_cases c2 : b' < 4
    · rw [if_neg c1, if_pos c2] at e
      split at e <;> omega
    · rw [if_neg c1, if_neg c2] at e
      rw [if_neg c1, if_neg c2]
      by_cases c3 : b < 6
      · by_cases c4 : b' < 6
        · rw [if_pos c3, if_pos c4]; omega
        · rw [if_pos c3, if_neg c4] at e; omega
      · by_cases c4 : b' < 6
        · rw [if_neg c3, if_pos c4] at e; omega
        · rw [if_neg c3, if_neg c4]; omega
def fsN (a : Nat) : Nat := if a = 0 then 0 else if a = 1 then 4 else 6
theorem stp_back {b : Nat} (h : b < 8) : fsN (armsN b) + stpN b = b := by
  unfold fsN armsN stpN
  by_cases c1 : b < 4
  · simp only [if_pos c1, if_true]; omega
  · by_cases c3 : b < 6
    · simp only [if_neg c1, if_pos c3]
      simp
      omega
    · simp only [if_neg c1, if_neg c3]
      simp
      omega
