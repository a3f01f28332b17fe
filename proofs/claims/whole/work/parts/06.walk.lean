/-! words for the walks: binding, the top of the stack, tables, starts of contracts -/
def lt {α β : Type} (x : α) (f : α → β) : β := f x
theorem lt_of {α β : Type} {x : α} {f : α → β} {r : β} (h : lt x f = r) : ∃ y, y = x ∧ f y = r := ⟨x, rfl, h⟩
theorem lt_eq {α β : Type} (x : α) (f : α → β) : lt x f = f x := rfl
section WK
variable {w : Nat} {D : va_G} {cy : Nat → ClassId} {ad : Nat → Nat} {p : Program} {l : Launch} {e : Env} {R : Room} {s : State} {m : MethodId} {args : Array Value} {below : List Frame} {meth : Method} {c : Code} {H : Heap} {locs : List Loc} {cells slots : Nat} {Q : State → Prop} {b : ByteArray} {nL : Nat} {own : String} {ret : Option FieldType} {d : Nat} {σ σ' : Mem} {pc : Nat} {ls : Array Slot} {rest st0 : List Value} {i : Nat}
theorem m_topi {x y : Int32} (h : y = x) (k : W p l e R s m args below meth c H locs cells slots Q (F0 m pc ls (.int y :: rest))) : W p l e R s m args below meth c H locs cells slots Q (F0 m pc ls (.int x :: rest)) := by rw [← h]; exact k
theorem m_topl {x y : Int64} (h : y = x) (k : W p l e R s m args below meth c H locs cells slots Q (F0 m pc ls (.long y :: rest))) : W p l e R s m args below meth c H locs cells slots Q (F0 m pc ls (.long x :: rest)) := by rw [← h]; exact k
theorem m_iinc (C : Cx w D cy ad p R s m args meth c b nL own ret d) {k : Nat} {n : Int} {x z : Int32} {lv lv' : List (Nat × Value)} (z' : Int32) (hz : Int32.ofInt n = z') (hdg : decode b pc = .ok (.iinc i n, 3)) (h : lv_has ls nL lv) (hk : lv[k]? = some (i, .int x)) (he : x + z' = z) (hn : i < nL) (hl : (i, Value.int z) :: lv.filter (fun q => !(q.1 == i) && !(q.1 + 1 == i && q.2.category == 2)) = lv')
    (kk : ∀ ls' : Array Slot, lv_has ls' nL lv' → W p l e R s m args below meth c H locs cells slots Q (F0 m (pc + 3) ls' rest)) : W p l e R s m args below meth c H locs cells slots Q (F0 m pc ls rest) :=
  lv_iinc (v := z) C.1 C.2.1 hdg h hk (by rw [hz]; exact he) hn hl kk
theorem m_tabIn (C : Cx w D cy ad p R s m args meth c b nL own ret d) {dflt lo hi : Int} {offs : Array Int} {len : Nat} {x : Int32} {off : Int} {tgt : Nat} (k : Int32) (hk : x = k) (hdg : decode b pc = .ok (.tableswitch dflt lo hi offs, len)) (h1 : ¬ k.toInt < lo) (h2 : ¬ hi < k.toInt) (ho : offs[(k.toInt - lo).toNat]? = some off) (ht : (pc : Int) + off = (tgt : Int))
    (kk : W p l e R s m args below meth c H locs cells slots Q (F0 m tgt ls rest)) : W p l e R s m args below meth c H locs cells slots Q (F0 m pc ls (.int x :: rest)) := by
  subst hk
  exact lv_tableIn C.1 C.2.1 hdg h1 h2 ho ht kk
theorem m_tabOut (C : Cx w D cy ad p R s m args meth c b nL own ret d) {dflt lo hi : Int} {offs : Array Int} {len : Nat} {x : Int32} {tgt : Nat} (hdg : decode b pc = .ok (.tableswitch dflt lo hi offs, len)) (h : x.toInt < lo ∨ hi < x.toInt) (ht : (pc : Int) + dflt = (tgt : Int))
    (kk : W p l e R s m args below meth c H locs cells slots Q (F0 m tgt ls rest)) : W p l e R s m args below meth c H locs cells slots Q (F0 m pc ls (.int x :: rest)) := lv_tableOut C.1 C.2.1 hdg h ht kk
theorem ne_toInt {x k : Int32} (h : ¬ x = k) : x.toInt ≠ k.toInt := fun e => h (Int32.toInt_inj.mp e)
end WK
section CM
variable {w : Nat} {D : va_G} {cy : Nat → ClassId} {ad : Nat → Nat} {l : Launch} {y : MethodName} {b : ByteArray} {n : Nat} {ret : Option FieldType} {d : Nat} {av : List Value} {σ σ' : Mem}
theorem CI.mk {v : Int32} (hy : plainName y.cls = true) (hj : InjW w ad) (hn : (lg_sl av).length ≤ n)
    (body : ∀ (p : Program) (e : Env) (R : Room) (s : State) (m : MethodId) (below : List Frame) (meth : Method) (c : Code) (ls : Array Slot), Cx w D cy ad p R s m av.toArray meth c b n y.cls ret d → Wd w D cy ad s σ s.heap [] → lv_has ls n (lv_args 0 av) → W p l e R s m av.toArray below meth c s.heap [] 0 0 (QI w D cy ad below av.toArray s v σ') (F0 m 0 ls [])) : CI w D cy ad l y b n ret d av σ v σ' := Cmk hy hj hn body
theorem CL.mk {v : Int64} (hy : plainName y.cls = true) (hj : InjW w ad) (hn : (lg_sl av).length ≤ n)
    (body : ∀ (p : Program) (e : Env) (R : Room) (s : State) (m : MethodId) (below : List Frame) (meth : Method) (c : Code) (ls : Array Slot), Cx w D cy ad p R s m av.toArray meth c b n y.cls ret d → Wd w D cy ad s σ s.heap [] → lv_has ls n (lv_args 0 av) → W p l e R s m av.toArray below meth c s.heap [] 0 0 (QL w D cy ad below av.toArray s v σ') (F0 m 0 ls [])) : CL w D cy ad l y b n ret d av σ v σ' := Cmk hy hj hn body
theorem CV.mk (hy : plainName y.cls = true) (hj : InjW w ad) (hn : (lg_sl av).length ≤ n)
    (body : ∀ (p : Program) (e : Env) (R : Room) (s : State) (m : MethodId) (below : List Frame) (meth : Method) (c : Code) (ls : Array Slot), Cx w D cy ad p R s m av.toArray meth c b n y.cls ret d → Wd w D cy ad s σ s.heap [] → lv_has ls n (lv_args 0 av) → W p l e R s m av.toArray below meth c s.heap [] 0 0 (QV w D cy ad below av.toArray s σ') (F0 m 0 ls [])) : CV w D cy ad l y b n ret d av σ σ' := Cmk hy hj hn body
theorem CA.mk {v : Nat} (hy : plainName y.cls = true) (hj : InjW w ad) (hn : (lg_sl av).length ≤ n)
    (body : ∀ (p : Program) (e : Env) (R : Room) (s : State) (m : MethodId) (below : List Frame) (meth : Method) (c : Code) (ls : Array Slot), Cx w D cy ad p R s m av.toArray meth c b n y.cls ret d → Wd w D cy ad s σ s.heap [] → lv_has ls n (lv_args 0 av) → W p l e R s m av.toArray below meth c s.heap [] 0 0 (QA w D cy ad below av.toArray s v σ') (F0 m 0 ls [])) : CA w D cy ad l y b n ret d av σ v σ' := Cmk hy hj hn body
end CM
/-! kinds of the cells that are many of a kind -/
theorem law_ne : ∀ t, t < 66 → kdW 1 t = 3 → t ≠ 0 ∧ t ≠ 3 ∧ t ≠ 9 ∧ t ≠ 54 ∧ t ≠ 60 := by decide
theorem tree_ne : ∀ t, t < 66 → kdW 1 t = 7 → t ≠ 0 ∧ t ≠ 3 ∧ t ≠ 9 ∧ t ≠ 54 ∧ t ≠ 60 := by decide
theorem img_eq : ∀ t, t < 66 → kdW 1 t = 1 → t = 54 ∨ t = 60 := by decide
theorem law_fr {t : Nat} (h : IsO 1 t 3) (k : Nat) : frW 1 t k = t + 1 + k := by
  obtain ⟨h1, h2, h3, h4, h5⟩ := law_ne t h.1 h.2.1
  simp [frW, h1, h2, h3, h4, h5]
theorem tree_fr {t : Nat} (h : IsO 1 t 7) (k : Nat) : frW 1 t k = t + 1 + k := by
  obtain ⟨h1, h2, h3, h4, h5⟩ := tree_ne t h.1 h.2.1
  simp [frW, h1, h2, h3, h4, h5]
theorem img_fr {t : Nat} (h : IsO 1 t 1) (k : Nat) : frW 1 t k = t + 1 := by
  rcases img_eq t h.1 h.2.1 with rfl | rfl <;> simp [frW]
theorem img_tree {t : Nat} (h : IsO 1 t 1) : IsO 1 (t + 1) 7 := by
  rcases img_eq t h.1 h.2.1 with rfl | rfl <;> decide
theorem law_is : ∀ t, t < 66 → kdW 1 t = 3 → t = 29 ∨ t = 34 ∨ t = 39 := by decide
theorem tree_is : ∀ t, t < 66 → kdW 1 t = 7 → t = 44 ∨ t = 49 ∨ t = 55 ∨ t = 61 := by decide
theorem lawA0 {t : Nat} (h : IsO 1 t 3) : IsA 1 (t + 1) 0 16 := by rcases law_is t h.1 h.2.1 with rfl | rfl | rfl <;> decide
theorem lawA1 {t : Nat} (h : IsO 1 t 3) : IsA 1 (t + 2) 0 16 := by rcases law_is t h.1 h.2.1 with rfl | rfl | rfl <;> decide
theorem lawA2 {t : Nat} (h : IsO 1 t 3) : IsA 1 (t + 3) 0 16 := by rcases law_is t h.1 h.2.1 with rfl | rfl | rfl <;> decide
theorem lawA3 {t : Nat} (h : IsO 1 t 3) : IsA 1 (t + 4) 0 16 := by rcases law_is t h.1 h.2.1 with rfl | rfl | rfl <;> decide
theorem treeA0 {t : Nat} (h : IsO 1 t 7) : IsA 1 (t + 1) 0 31 := by rcases tree_is t h.1 h.2.1 with rfl | rfl | rfl | rfl <;> decide
theorem treeA1 {t : Nat} (h : IsO 1 t 7) : IsA 1 (t + 2) 0 31 := by rcases tree_is t h.1 h.2.1 with rfl | rfl | rfl | rfl <;> decide
theorem treeA2 {t : Nat} (h : IsO 1 t 7) : IsA 1 (t + 3) 0 31 := by rcases tree_is t h.1 h.2.1 with rfl | rfl | rfl | rfl <;> decide
theorem treeA3 {t : Nat} (h : IsO 1 t 7) : IsA 1 (t + 4) 0 31 := by rcases tree_is t h.1 h.2.1 with rfl | rfl | rfl | rfl <;> decide
theorem img_at {x : Int32} (h : vp_in x 2) : IsO 1 (54 + 6 * x.toNatClampNeg) 1 := by
  have h1 : x.toNatClampNeg < 2 := Nat.not_le.mp fun q => h (Or.inr q)
  have h2 : ∀ k, k < 2 → IsO 1 (54 + 6 * k) 1 := by decide
  exact h2 _ h1
theorem img_fr3 (k : Nat) : frW 1 3 k = 54 + 6 * k := by simp [frW]
