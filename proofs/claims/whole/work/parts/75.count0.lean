/-! how many trees: the values of all trees of so many signs -/
def sumN (f : Nat → Nat) : Nat → Nat
  | 0 => 0
  | n + 1 => sumN f n + f n
theorem sumN_ext {f g : Nat → Nat} : ∀ {n : Nat}, (∀ i, i < n → f i = g i) → sumN f n = sumN g n
  | 0, _ => rfl
  | n + 1, h => by rw [sumN, sumN, sumN_ext (fun i hi => h i (by omega)), h n (by omega)]
theorem sumN_0 {f : Nat → Nat} : ∀ {n : Nat}, (∀ i, i < n → f i = 0) → sumN f n = 0
  | 0, _ => rfl
  | n + 1, h => by rw [sumN, sumN_0 (fun i hi => h i (by omega)), h n (by omega)]
theorem sumN_add (f g : Nat → Nat) : ∀ n, sumN (fun i => f i + g i) n = sumN f n + sumN g n
  | 0 => rfl
  | n + 1 => by rw [sumN, sumN, sumN, sumN_add f g n]; omega
theorem sumN_mul (c : Nat) (f : Nat → Nat) : ∀ n, sumN (fun i => c * f i) n = c * sumN f n
  | 0 => rfl
  | n + 1 => by rw [sumN, sumN, sumN_mul c f n, Nat.mul_add]
theorem sumN_swap (f : Nat → Nat → Nat) (m : Nat) : ∀ n, sumN (fun i => sumN (fun j => f i j) m) n = sumN (fun j => sumN (fun i => f i j) n) m
  | 0 => (sumN_0 (fun _ _ => rfl)).symm
  | n + 1 => by
    rw [sumN, sumN_swap f m n, ← sumN_add]
    rfl
theorem sumN_tail {f : Nat → Nat} {a b : Nat} (h : a ≤ b) (hz : ∀ j, a ≤ j → j < b → f j = 0) : sumN f b = sumN f a := by
  induction b with
  | zero => rw [show a = 0 by omega]
  | succ b ih =>
    by_cases c : a = b + 1
    · rw [c]
    · rw [sumN, ih (by omega) (fun j h1 h2 => hz j h1 (by omega)), hz b (by omega) (by omega), Nat.add_zero]
theorem sumN_one {n e v : Nat} (he : e < n) : sumN (fun i => if i = e then v else 0) n = v := by
  rw [sumN_tail (a := e + 1) (by omega) (fun j h1 _ => if_neg (by omega)), sumN, if_pos rfl, sumN_0 (fun i hi => if_neg (by omega)), Nat.zero_add]
theorem sumL_range (f : Nat → Nat) : ∀ n, ((List.range n).map f).sum = sumN f n
  | 0 => rfl
  | n + 1 => by rw [List.range_succ, List.map_append, List.sum_append, sumL_range f n]; rfl
/-- one step: the trees of m + 1 signs from those of fewer -/
def stepV (st : Nat → PX → PX → PX) (T : Nat → List PX) (m : Nat) : List PX :=
  if m = 0 then [st 0 zX zX, st 1 zX zX, st 2 zX zX, st 3 zX zX]
  else (T m).flatMap (fun a => [st 4 a zX, st 5 a zX]) ++ (List.range m).flatMap (fun j => (T j).flatMap (fun a => (T (m - j)).flatMap (fun b => [st 6 a b, st 7 a b])))
def tbV (st : Nat → PX → PX → PX) : Nat → Nat → List PX
  | 0, _ => []
  | m + 1, i => if i = m + 1 then stepV st (tbV st m) m else tbV st m i
def VN (st : Nat → PX → PX → PX) (n : Nat) : List PX := tbV st n n
theorem tbV_eq (st : Nat → PX → PX → PX) : ∀ m i, i ≤ m → tbV st m i = VN st i
  | 0, i, h => by
    have : i = 0 := by omega
    rw [this, VN]
  | m + 1, i, h => by
    by_cases c : i = m + 1
    · rw [c, VN]
    · rw [tbV, if_neg c, tbV_eq st m i (by omega)]
theorem flatMap_ext {α β : Type} {f g : α → List β} : ∀ {l : List α}, (∀ a ∈ l, f a = g a) → l.flatMap f = l.flatMap g
  | [], _ => rfl
  | a :: l, h => by rw [List.flatMap_cons, List.flatMap_cons, h a List.mem_cons_self, flatMap_ext (fun b hb => h b (List.mem_cons_of_mem _ hb))]
theorem VN_0 (st : Nat → PX → PX → PX) : VN st 0 = [] := rfl
theorem VN_1 (st : Nat → PX → PX → PX) : VN st 1 = [st 0 zX zX, st 1 zX zX, st 2 zX zX, st 3 zX zX] := rfl
theorem VN_S (st : Nat → PX → PX → PX) {m : Nat} (hm : m ≠ 0) : VN st (m + 1) = (VN st m).flatMap (fun a => [st 4 a zX, st 5 a zX]) ++ (List.range m).flatMap (fun j => (VN st j).flatMap (fun a => (VN st (m - j)).flatMap (fun b => [st 6 a b, st 7 a b]))) := by
  rw [VN, tbV, if_pos rfl, stepV, if_neg hm, tbV_eq st m m (by omega)]
  congr 1
  refine flatMap_ext (fun j hj => ?_)
  have hj := List.mem_range.mp hj
  rw [tbV_eq st m j (by omega), tbV_eq st m (m - j) (by omega)]
theorem VN_ind {st : Nat → PX → PX → PX} (n : Nat) : ∀ x, x ∈ VN st n → ∃ w, TrW st w x ∧ w.length = n := by
  induction n using Nat.strongRecOn with
  | ind n ih =>
    intro x hx
    match n, ih, hx with
    | 0, _, hx => rw [VN_0] at hx; exact absurd hx List.not_mem_nil
    | 1, _, hx =>
      rw [VN_1] at hx
      simp only [List.mem_cons, List.not_mem_nil, or_false] at hx
      rcases hx with rfl | rfl | rfl | rfl
      · exact ⟨_, TrW.leaf (by omega), rfl⟩
      · exact ⟨_, TrW.leaf (by omega), rfl⟩
      · exact ⟨_, TrW.leaf (by omega), rfl⟩
      · exact ⟨_, TrW.leaf (by omega), rfl⟩
    | m + 2, ih, hx =>
      rw [VN_S st (by omega), List.mem_append] at hx
      rcases hx with hx | hx
      · obtain ⟨a, ha, hx⟩ := List.mem_flatMap.mp hx
        obtain ⟨u, u1, u2⟩ := ih (m + 1) (by omega) a ha
        simp only [List.mem_cons, List.not_mem_nil, or_false] at hx
        rcases hx with rfl | rfl
        · exact ⟨_, TrW.one (by omega) (by omega) u1, by rw [List.length_cons, u2]⟩
        · exact ⟨_, TrW.one (by omega) (by omega) u1, by rw [List.length_cons, u2]⟩
      · obtain ⟨j, hj, hx⟩ := List.mem_flatMap.mp hx
        have hj := List.mem_range.mp hj
        obtain ⟨a, ha, hx⟩ := List.mem_flatMap.mp hx
        obtain ⟨b, hb, hx⟩ := List.mem_flatMap.mp hx
        obtain ⟨u, u1, u2⟩ := ih j (by omega) a ha
        have j0 : 0 < j := by
          rcases Nat.eq_zero_or_pos j with h | h
          · subst h; rw [VN_0] at ha; exact absurd ha List.not_mem_nil
          · exact h
        obtain ⟨v, v1, v2⟩ := ih (m + 1 - j) (by omega) b hb
        simp only [List.mem_cons, List.not_mem_nil, or_false] at hx
        rcases hx with rfl | rfl
        · exact ⟨_, TrW.two (by omega) (by omega) u1 v1, by rw [List.length_cons, List.length_append, u2, v2]; omega⟩
        · exact ⟨_, TrW.two (by omega) (by omega) u1 v1, by rw [List.length_cons, List.length_append, u2, v2]; omega⟩
def cnV (st : Nat → PX → PX → PX) (n : Nat) (x : PX) : Nat := (VN st n).count x
theorem cnV_0 {st : Nat → PX → PX → PX} {n : Nat} {x : PX} (h : ∀ w, TrW st w x → w.length ≠ n) : cnV st n x = 0 := by
  refine List.count_eq_zero.mpr (fun hx => ?_)
  obtain ⟨w, w1, w2⟩ := VN_ind n x hx
  exact h w w1 w2
theorem cnV_z {st : Nat → PX → PX → PX} {x : PX} : cnV st 0 x = 0 := rfl
/-- a sum over the values is one over the list of pairs -/
theorem sum_list {n : Nat} {xs : Nat → PX} (hd : ∀ i j, i < n → j < n → xs i = xs j → i = j) (w : PX → Nat) : ∀ L : List PX, (∀ x ∈ L, ∃ k, k < n ∧ xs k = x) → (L.map w).sum = sumN (fun p => L.count (xs p) * w (xs p)) n
  | [], _ => (sumN_0 (fun i _ => by rw [List.count_nil, Nat.zero_mul])).symm
  | a :: l, h => by
    obtain ⟨k, k1, k2⟩ := h a List.mem_cons_self
    rw [List.map_cons, List.sum_cons, sum_list hd w l (fun x hx => h x (List.mem_cons_of_mem _ hx))]
    have e : ∀ i, i < n → (a :: l).count (xs i) * w (xs i) = l.count (xs i) * w (xs i) + (if i = k then w a else 0) := by
      intro i hi
      rw [List.count_cons, Nat.add_mul]
      by_cases c : i = k
      · subst c
        rw [if_pos rfl, k2]
        simp
      · have : ¬ a = xs i := fun z => c (hd i k hi k1 (by rw [k2, z]))
        rw [if_neg c, if_neg (by simpa using this), Nat.zero_mul]
    rw [sumN_ext e, sumN_add, sumN_one k1]
    omega
def i01 (P : Prop) [Decidable P] : Nat := if P then 1 else 0
theorem cnV_S {st : Nat → PX → PX → PX} {n : Nat} {xs : Nat → PX} (hx : LsX st n xs) (hc : ClX st n xs) {m : Nat} (hm : m ≠ 0) (y : PX) : cnV st (m + 1) y = sumN (fun p => cnV st m (xs p) * (i01 (st 4 (xs p) zX = y) + i01 (st 5 (xs p) zX = y))) n + sumN (fun j => sumN (fun p => cnV st j (xs p) * sumN (fun q => cnV st (m - j) (xs q) * (i01 (st 6 (xs p) (xs q) = y) + i01 (st 7 (xs p) (xs q) = y))) n) n) m := by
  have al : ∀ k x, x ∈ VN st k → ∃ i, i < n ∧ xs i = x := fun k x h => by
    obtain ⟨w, w1, _⟩ := VN_ind k x h
    exact hc.all ⟨w, w1⟩
  have two : ∀ a b : PX, [a, b].count y = i01 (a = y) + i01 (b = y) := by
    intro a b
    rw [List.count_cons, List.count_cons, List.count_nil]
    unfold i01
    simp only [beq_iff_eq]
    omega
  have hf : ∀ (L : List PX) (f : PX → List PX), (∀ x ∈ L, ∃ k, k < n ∧ xs k = x) → (L.flatMap f).count y = sumN (fun p => L.count (xs p) * (f (xs p)).count y) n := by
    intro L f hL
    rw [List.count_flatMap]
    exact sum_list hx.1 (fun x => (f x).count y) L hL
  unfold cnV
  rw [VN_S st hm, List.count_append, hf _ _ (al m)]
  congr 1
  · exact sumN_ext (fun p _ => by rw [two])
  · rw [List.count_flatMap]
    rw [show (List.count y ∘ fun j => List.flatMap (fun a => List.flatMap (fun b => [st 6 a b, st 7 a b]) (VN st (m - j))) (VN st j)) = (fun j => List.count y (List.flatMap (fun a => List.flatMap (fun b => [st 6 a b, st 7 a b]) (VN st (m - j))) (VN st j))) from rfl, sumL_range]
    refine sumN_ext (fun j _ => ?_)
    rw [hf _ _ (al j)]
    refine sumN_ext (fun p _ => ?_)
    rw [hf _ _ (al (m - j))]
    congr 1
    exact sumN_ext (fun q _ => by rw [two])
theorem cnV_1 {st : Nat → PX → PX → PX} (y : PX) : cnV st 1 y = sumN (fun s => i01 (st s zX zX = y)) 4 := by
  unfold cnV
  rw [VN_1, List.count_cons, List.count_cons, List.count_cons, List.count_cons, List.count_nil]
  unfold i01
  simp only [beq_iff_eq, sumN]
  omega
theorem VN_len (st : Nat → PX → PX → PX) {m : Nat} (hm : m ≠ 0) : (VN st (m + 1)).length = 2 * (VN st m).length + sumN (fun j => 2 * ((VN st j).length * (VN st (m - j)).length)) m := by
  have fl : ∀ {α : Type} (L : List α) (f : α → List PX) (c : Nat), (∀ a, (f a).length = c) → (L.flatMap f).length = L.length * c := by
    intro α L f c h
    induction L with
    | nil => simp
    | cons a l ih => rw [List.flatMap_cons, List.length_append, ih, h, List.length_cons, Nat.add_mul]; omega
  rw [VN_S st hm, List.length_append, fl _ _ 2 (fun _ => rfl), List.length_flatMap, sumL_range]
  congr 1
  · omega
  · refine sumN_ext (fun j _ => ?_)
    rw [fl _ _ ((VN st (m - j)).length * 2) (fun a => fl _ _ 2 (fun _ => rfl))]
    rw [Nat.mul_comm (VN st (m - j)).length 2, Nat.mul_left_comm]
theorem cnV_lt (st : Nat → PX → PX → PX) {m : Nat} (hm : m ≤ 13) (x : PX) : cnV st m x < 9223372036854775808 := by
  refine Nat.lt_of_le_of_lt (List.count_le_length) ?_
  have h0 : (VN st 0).length = 0 := rfl
  have h1 : (VN st 1).length = 4 := rfl
  have h2 := VN_len st (m := 1) (by omega)
  simp only [sumN, h0, h1, Nat.reduceAdd, Nat.reduceSub, Nat.reduceMul] at h2
  have h3 := VN_len st (m := 2) (by omega)
  simp only [sumN, h0, h1, h2, Nat.reduceAdd, Nat.reduceSub, Nat.reduceMul] at h3
  have h4 := VN_len st (m := 3) (by omega)
  simp only [sumN, h0, h1, h2, h3, Nat.reduceAdd, Nat.reduceSub, Nat.reduceMul] at h4
  have h5 := VN_len st (m := 4) (by omega)
  simp only [sumN, h0, h1, h2, h3, h4, Nat.reduceAdd, Nat.reduceSub, Nat.reduceMul] at h5
  have h6 := VN_len st (m := 5) (by omega)
  simp only [sumN, h0, h1, h2, h3, h4, h5, Nat.reduceAdd, Nat.reduceSub, Nat.reduceMul] at h6
  have h7 := VN_len st (m := 6) (by omega)
  simp only [sumN, h0, h1, h2, h3, h4, h5, h6, Nat.reduceAdd, Nat.reduceSub, Nat.reduceMul] at h7
  have h8 := VN_len st (m := 7) (by omega)
  simp only [sumN, h0, h1, h2, h3, h4, h5, h6, h7, Nat.reduceAdd, Nat.reduceSub, Nat.reduceMul] at h8
  have h9 := VN_len st (m := 8) (by omega)
  simp only [sumN, h0, h1, h2, h3, h4, h5, h6, h7, h8, Nat.reduceAdd, Nat.reduceSub, Nat.reduceMul] at h9
  have h10 := VN_len st (m := 9) (by omega)
  simp only [sumN, h0, h1, h2, h3, h4, h5, h6, h7, h8, h9, Nat.reduceAdd, Nat.reduceSub, Nat.reduceMul] at h10
  have h11 := VN_len st (m := 10) (by omega)
  simp only [sumN, h0, h1, h2, h3, h4, h5, h6, h7, h8, h9, h10, Nat.reduceAdd, Nat.reduceSub, Nat.reduceMul] at h11
  have h12 := VN_len st (m := 11) (by omega)
  simp only [sumN, h0, h1, h2, h3, h4, h5, h6, h7, h8, h9, h10, h11, Nat.reduceAdd, Nat.reduceSub, Nat.reduceMul] at h12
  have h13 := VN_len st (m := 12) (by omega)
  simp only [sumN, h0, h1, h2, h3, h4, h5, h6, h7, h8, h9, h10, h11, h12, Nat.reduceAdd, Nat.reduceSub, Nat.reduceMul] at h13
  have : m = 0 ∨ m = 1 ∨ m = 2 ∨ m = 3 ∨ m = 4 ∨ m = 5 ∨ m = 6 ∨ m = 7 ∨ m = 8 ∨ m = 9 ∨ m = 10 ∨ m = 11 ∨ m = 12 ∨ m = 13 := by omega
  rcases this with rfl | rfl | rfl | rfl | rfl | rfl | rfl | rfl | rfl | rfl | rfl | rfl | rfl | rfl <;> omega
/-- of one law only its own part counts -/
theorem VN_fst {rl : List Ru} {on a b : Nat} (n : Nat) : (VN (stX rl on a) n).map Prod.fst = (VN (stX rl on b) n).map Prod.fst := by
  have key : ∀ (f : PX → List PX) (g : Nat → List Nat) (L : List PX), (∀ x, (f x).map Prod.fst = g x.1) → (L.flatMap f).map Prod.fst = (L.map Prod.fst).flatMap g := by
    intro f g L h
    induction L with
    | nil => rfl
    | cons x l ih => rw [List.flatMap_cons, List.map_append, ih, h, List.map_cons, List.flatMap_cons]
  induction n using Nat.strongRecOn with
  | ind n ih =>
    match n, ih with
    | 0, _ => rfl
    | 1, _ => rfl
    | m + 2, ih =>
      rw [VN_S (stX rl on a) (m := m + 1) (by omega), VN_S (stX rl on b) (m := m + 1) (by omega), List.map_append, List.map_append]
      congr 1
      · rw [key _ (fun x => [outc rl on 4 x 0, outc rl on 5 x 0]) _ (fun x => rfl), key _ (fun x => [outc rl on 4 x 0, outc rl on 5 x 0]) _ (fun x => rfl), ih (m + 1) (by omega)]
      · rw [List.map_flatMap, List.map_flatMap]
        refine flatMap_ext (fun j hj => ?_)
        have hj := List.mem_range.mp hj
        by_cases j0 : j = 0
        · subst j0; rfl
        · have i1 := ih j (by omega)
          have i2 := ih (m + 1 - j) (by omega)
          rw [key _ (fun x => ((VN (stX rl on a) (m + 1 - j)).map Prod.fst).flatMap (fun y => [outc rl on 6 x y, outc rl on 7 x y])) _ (fun x => key _ (fun y => [outc rl on 6 x.1 y, outc rl on 7 x.1 y]) _ (fun y => rfl)), key _ (fun x => ((VN (stX rl on b) (m + 1 - j)).map Prod.fst).flatMap (fun y => [outc rl on 6 x y, outc rl on 7 x y])) _ (fun x => key _ (fun y => [outc rl on 6 x.1 y, outc rl on 7 x.1 y]) _ (fun y => rfl)), i1, i2]
