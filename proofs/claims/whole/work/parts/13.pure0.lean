/-! pure rows: memories, numbers, runs of the functions -/
theorem sI_get (σ : Mem) (o k : Nat) (v : Int32) (o' k' : Nat) : (sI σ o k v).1 o' k' = if o' = o ∧ k' = k then v else σ.1 o' k' := by
  by_cases h : o' = o
  · subst h
    by_cases h2 : k' = k
    · simp [sI, va_up, upd, h2]
    · simp [sI, va_up, upd, h2]
  · simp [sI, va_up, h]
theorem sI_same (σ : Mem) (o k : Nat) (v : Int32) : (sI σ o k v).1 o k = v := by simp [sI_get]
theorem sI_slot {σ : Mem} {o k : Nat} {v : Int32} {k' : Nat} (h : k' ≠ k) : (sI σ o k v).1 o k' = σ.1 o k' := by simp [sI_get, h]
theorem sI_off {σ : Mem} {o k : Nat} {v : Int32} {o' k' : Nat} (h : o' ≠ o) : (sI σ o k v).1 o' k' = σ.1 o' k' := by simp [sI_get, h]
theorem sI_J (σ : Mem) (o k : Nat) (v : Int32) : (sI σ o k v).2.1 = σ.2.1 := rfl
theorem sI_R (σ : Mem) (o k : Nat) (v : Int32) : (sI σ o k v).2.2 = σ.2.2 := rfl
theorem sJ_I (σ : Mem) (o k : Nat) (v : Int64) : (sJ σ o k v).1 = σ.1 := rfl
theorem sJ_R (σ : Mem) (o k : Nat) (v : Int64) : (sJ σ o k v).2.2 = σ.2.2 := rfl
theorem sJ_get (σ : Mem) (o k : Nat) (v : Int64) (o' k' : Nat) : (sJ σ o k v).2.1 o' k' = if o' = o ∧ k' = k then v else σ.2.1 o' k' := by
  by_cases h : o' = o
  · subst h
    by_cases h2 : k' = k
    · simp [sJ, va_up, vp_updL, h2]
    · simp [sJ, va_up, vp_updL, h2]
  · simp [sJ, va_up, h]
theorem sJ_same (σ : Mem) (o k : Nat) (v : Int64) : (sJ σ o k v).2.1 o k = v := by simp [sJ_get]
theorem sJ_off {σ : Mem} {o k : Nat} {v : Int64} {o' k' : Nat} (h : o' ≠ o) : (sJ σ o k v).2.1 o' k' = σ.2.1 o' k' := by simp [sJ_get, h]
theorem sJ_slot {σ : Mem} {o k : Nat} {v : Int64} {k' : Nat} (h : k' ≠ k) : (sJ σ o k v).2.1 o k' = σ.2.1 o k' := by simp [sJ_get, h]
theorem sR_I (σ : Mem) (k v : Nat) : (sR σ k v).1 = σ.1 := rfl
theorem sR_J (σ : Mem) (k v : Nat) : (sR σ k v).2.1 = σ.2.1 := rfl
theorem sR_get (σ : Mem) (k v k' : Nat) : (sR σ k v).2.2 k' = if k' = k then v else σ.2.2 k' := rfl
/-! numbers -/
theorem n_lit (n : Nat) : (OfNat.ofNat n : Int32) = nI n := rfl
theorem n_cl {n : Nat} (h : n < 2147483648) : (nI n).toNatClampNeg = n := nI_clamp (by simpa using h)
theorem n_le {a b : Nat} (ha : a < 2147483648) (hb : b < 2147483648) : (nI a ≤ nI b) = (a ≤ b) := propext (nI_leI (by simpa using ha) (by simpa using hb))
theorem n_lt {a b : Nat} (ha : a < 2147483648) (hb : b < 2147483648) : (nI a < nI b) = (a < b) := propext (nI_ltI (by simpa using ha) (by simpa using hb))
theorem n_eq {a b : Nat} (ha : a < 2147483648) (hb : b < 2147483648) : (nI a = nI b) = (a = b) := propext (nI_eq (by simpa using ha) (by simpa using hb))
theorem n_add (a b : Nat) : nI a + nI b = nI (a + b) := nI_add a b
theorem n_mul (a b : Nat) : nI a * nI b = nI (a * b) := pk_mul a b
theorem n_sub {a b : Nat} (h : b ≤ a) : nI a - nI b = nI (a - b) := pk_sub h
theorem n_m1 {a : Nat} (h : 0 < a) : nI a + (-1) = nI (a - 1) := sb_m1 h
theorem n_ix {j n : Nat} (h : j < n) (hn : n < 2147483648) : ix (nI j) n := vp_in_nI h (by simpa using hn)
theorem gd_ix {α : Type} {j n : Nat} {x : Option α} (h : j < n) (hn : n < 2147483648) : gd (ix (nI j) n) x = x := gd_yes (n_ix h hn)
theorem n_neg {a : Nat} (h : a < 2147483648) : (nI a < 0) = False := by
  rw [show (0 : Int32) = nI 0 from rfl, n_lt h (by omega)]
  simp
theorem n_nn {a : Nat} (h : a < 2147483648) : (0 ≤ nI a) = True := by
  rw [show (0 : Int32) = nI 0 from rfl, n_le (by omega) h]
  simp
theorem n_toInt {a : Nat} (h : a < 2147483648) : (nI a).toInt = a := nI_toInt (by simpa using h)
/-- any number: below 0, or one of ours -/
theorem n_of (x : Int32) : x < 0 ∨ ∃ n, n < 2147483648 ∧ x = nI n := by
  by_cases h : x < 0
  · exact Or.inl h
  · obtain ⟨j, h1, h2⟩ := nI_of h
    exact Or.inr ⟨j, by simpa using h1, h2⟩
/-! runs -/
/-- f ends, and what it gives has Q -/
def Ok {α : Type} (f : Option α) (Q : α → Prop) : Prop := ∃ r, f = some r ∧ Q r
theorem Ok.some {α : Type} {r : α} {Q : α → Prop} (h : Q r) : Ok (some r) Q := ⟨r, rfl, h⟩
theorem Ok.bind {α β : Type} {f : Option α} {g : α → Option β} {P : α → Prop} {Q : β → Prop} (hf : Ok f P) (hg : ∀ r, P r → Ok (g r) Q) : Ok (f.bind g) Q := by
  obtain ⟨r, rfl, hr⟩ := hf
  exact hg r hr
theorem Ok.mono {α : Type} {f : Option α} {P Q : α → Prop} (h : Ok f P) (hPQ : ∀ r, P r → Q r) : Ok f Q := by
  obtain ⟨r, h1, h2⟩ := h
  exact ⟨r, h1, hPQ r h2⟩
theorem Ok.gd {α : Type} {P : Prop} [Decidable P] {f : Option α} {Q : α → Prop} (hP : P) (h : Ok f Q) : Ok (gd P f) Q := by rw [gd_yes hP]; exact h
theorem Ok.lt {α β : Type} {x : α} {f : α → Option β} {Q : β → Prop} (h : Ok (f x) Q) : Ok (lt x f) Q := h
theorem Ok.ite {α : Type} {P : Prop} [Decidable P] {f g : Option α} {Q : α → Prop} (h1 : P → Ok f Q) (h2 : ¬ P → Ok g Q) : Ok (if P then f else g) Q := by
  by_cases h : P
  · rw [if_pos h]; exact h1 h
  · rw [if_neg h]; exact h2 h
/-- a loop by a measure -/
theorem Ok.loop {S T : Type} {F : S → Option (S ⊕ T)} {Q : T → Prop} (I : S → Prop) (μ : S → Nat) (h : ∀ s, I s → Ok (F s) (fun x => match x with | .inl s' => I s' ∧ μ s' < μ s | .inr r => Q r)) : ∀ s, I s → Ok (Lim F s) Q := by
  have key : ∀ (n : Nat) (s : S), μ s < n → I s → Ok (Lim F s) Q := by
    intro n
    induction n with
    | zero => intro s h; omega
    | succ n ih =>
      intro s hm hI
      obtain ⟨x, hF, hx⟩ := h s hI
      cases x with
      | inl s' =>
        have hx : I s' ∧ μ s' < μ s := hx
        rw [Lim_step hF]
        exact ih s' (by omega) hx.1
      | inr r =>
        exact ⟨r, Lim_out hF, hx⟩
  exact fun s hI => key (μ s + 1) s (by omega) hI
/-! the abstract state: text, rules, which are on, good states, tree, images, trace -/
abbrev Ru : Type := Nat × Nat × Nat × Nat
abbrev AS : Type := List Nat × List Ru × Nat × Nat × List Nat × (Nat → Option (Nat × Nat × List Nat)) × Int64
def txA (A : AS) : List Nat := A.1
def rlA (A : AS) : List Ru := A.2.1
def onA (A : AS) : Nat := A.2.2.1
def gdA (A : AS) : Nat := A.2.2.2.1
def trA (A : AS) : List Nat := A.2.2.2.2.1
def imA (A : AS) : Nat → Option (Nat × Nat × List Nat) := A.2.2.2.2.2.1
def tcA (A : AS) : Int64 := A.2.2.2.2.2.2
def armsN (s : Nat) : Nat := if s < 4 then 0 else if s < 6 then 1 else 2
def OkRu (r : Ru) : Prop := r.1 < 8 ∧ r.2.1 < 6 ∧ r.2.2.1 < 6 ∧ r.2.2.2 < 6
/-- signs ahead of their arms: so many trees are wanting -/
def needs : Nat → List Nat → Bool
  | 0, [] => true
  | 0, _ :: _ => false
  | _ + 1, [] => false
  | k + 1, s :: l => needs (k + armsN s) l
/-- a tree, or none -/
def WfT (l : List Nat) : Prop := (∀ x ∈ l, x < 8) ∧ l.length ≤ 31 ∧ (l = [] ∨ needs 1 l = true)
def WfA (A : AS) : Prop := (∀ x ∈ txA A, x < 256) ∧ (txA A).length ≤ 300 ∧ (∀ r ∈ rlA A, OkRu r) ∧ (rlA A).length ≤ 16 ∧ onA A < 65536 ∧ gdA A < 64 ∧ WfT (trA A) ∧ ∀ k o g t, imA A k = some (o, g, t) → o < 65536 ∧ g < 64 ∧ WfT t
