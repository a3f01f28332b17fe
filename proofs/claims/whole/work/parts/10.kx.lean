/-! constructors: rows over worlds that are lists of cells -/
def rmC (d mc ms : Nat) : Room := { frames := d, cells := mc, slots := ms, locals := 40 * d }
def Kx (D : va_G) (cy : Nat → ClassId) (p : Program) (R : Room) (s : State) (m : MethodId) (args : Array Value) (meth : Method) (c : Code) (b : ByteArray) (nL : Nat) (own : String) (d mc ms : Nat) : Prop :=
  p.tables.exec = Jvm.exec ∧ c.code = b ∧ c.maxLocals = nL ∧ s.vm.findClass own = some m.cls ∧ (∀ x ∈ gw_tbl, x.before args s = true) ∧ meth.sig.returnType = none ∧ meth.locks = false ∧ R = rmC d mc ms ∧ TK D cy s ∧ va_AO RX1 s ∧ meth.name = "<init>"
def KC (D : va_G) (cy : Nat → ClassId) (l : Launch) (y : MethodName) (b : ByteArray) (n d mc ms ci : Nat) (fs0 : List Value) (post : Nat → va_W → Prop) : Prop :=
  ∀ (h0 sz : Nat), Met l y (.code y b n none :: gw_tbl) (rmC d mc ms) (va_Pc [.ref h0] (fun U => U.heap.size = sz ∧ va_P D classes [(h0, .inr (ci, fs0))] U.heap ∧ TK D cy U ∧ va_AO RX1 U)) (va_Qv (fun ws : va_W => post h0 ws) (fun ws t => va_P D classes ws t.heap ∧ va_D (va_A [(h0, .inr (ci, fs0))] sz) ws) (va_A [(h0, .inr (ci, fs0))] sz)) mc ms (va_A [(h0, .inr (ci, fs0))] sz)
theorem va_D1 {A : Nat → Prop} {q : Nat × va_E} (h : A q.1) : va_D A [q] := by
  refine ⟨fun i j x y hi hj _ => ?_, fun k x hk => ?_⟩
  · have h1 := (List.getElem?_eq_some_iff.mp hi).1
    have h2 := (List.getElem?_eq_some_iff.mp hj).1
    simp at h1 h2
    omega
  · have h1 := (List.getElem?_eq_some_iff.mp hk).1
    simp at h1
    subst h1
    cases hk
    exact h
theorem KC.mk {D : va_G} {cy : Nat → ClassId} {l : Launch} {y : MethodName} {b : ByteArray} {n d mc ms ci : Nat} {fs0 : List Value} {post : Nat → va_W → Prop} (hy : plainName y.cls = true) (hyn : y.name = "<init>") (hn : 1 ≤ n)
    (body : ∀ (h0 : Nat) (p : Program) (e : Env) (R : Room) (s : State) (m : MethodId) (below : List Frame) (meth : Method) (c : Code) (ls : Array Slot) (args : Array Value) (A : Nat → Prop), Kx D cy p R s m args meth c b n y.cls d mc ms → va_P D classes [(h0, .inr (ci, fs0))] s.heap → va_D A [(h0, .inr (ci, fs0))] → va_S A s.heap s.heap [] → (∀ q : Nat, s.heap.size ≤ q → A q) → lv_has ls n [(0, .ref h0)] → W p l e R s m args below meth c s.heap [] 0 0 (MQ below (va_Qv (fun ws : va_W => post h0 ws) (fun ws t => va_P D classes ws t.heap ∧ va_D A ws) A) args s mc ms A) (F0 m 0 ls [])) :
    KC D cy l y b n d mc ms ci fs0 post := by
  intro h0 sz
  refine Met.ofW (cc := b) (maxL := n) (ret := none) hy rfl ?_
  intro p e s m args below meth c s₁ B hml hv
  obtain ⟨rfl, rfl, hP, hK, hO⟩ := hv
  have hts := atoms_spec (ws := Cond.code y b n none :: gw_tbl) B.pre
  have hin : meth.name = "<init>" := (name_of_methodNamed B.named B.method).1.trans hyn
  have hl := lv_entry [.ref h0] (n := n) (by simpa [lg_sl, Value.category] using hn)
  rw [lg_entry_eq]
  exact body h0 p e _ s m below meth c _ _ _ ⟨B.exec, B.bytes, hml, findClass_of_methodNamed B.named, fun x hx => hts x (List.mem_cons_of_mem _ hx), B.returns, B.notSynchronized, rfl, hK, hO, hin⟩ hP (va_D1 (va_A.in (k := 0) rfl)) va_S.rf (fun q h => Or.inr h) hl
section KR
variable {D : va_G} {cy : Nat → ClassId} {p : Program} {l : Launch} {e : Env} {R : Room} {s : State} {m : MethodId} {args : Array Value} {below : List Frame} {meth : Method} {c : Code} {H H0 : Heap} {locs : List Loc} {cells slots : Nat} {Q : State → Prop} {b : ByteArray} {nL : Nat} {own : String} {pc : Nat} {ls : Array Slot} {rest : List Value} {A : Nat → Prop} {ws : va_W}
theorem prim_RA {U : State} {cA : ClassId} (at1 : ArrayType) (h : va_RA U cA (newarray.typeOf at1)) : U.vm.findClass ("[" ++ (newarray.typeOf at1).toString) = some cA := by
  cases at1 <;> exact h
theorem k_newa (hx : p.tables.exec = Jvm.exec) (hb : c.code = b) (hts : ∀ x ∈ gw_tbl, x.before args s = true) (hK : TK D cy s) {at1 : ArrayType} {ty : FieldType} {cA : ClassId} (t0 : Nat) (hty : newarray.typeOf at1 = ty) (ht : (tyW cy)[t0]? = some (cA, ty)) (harr : Cond.arrayClass ty ∈ gw_tbl) (hP : va_P D classes ws H) (hD : va_D A ws) (hS : va_S A H0 H locs) (hA : ∀ q, H0.size ≤ q → A q)
    {n : Int32} {N' : Nat} {a0 : vp_A} (ha : ∀ cA : ClassId, vp_cell cA a0 = arrV cA N' (fun _ => defaultValue ty)) (hn : ¬ n < 0) (hN : n.toNatClampNeg = N') (hbytes : N' * componentBytes ty ≤ 536870912) (hcells : cells + 1 ≤ R.cells) (hslots : slots + N' ≤ R.slots) (hdg : decode b pc = .ok (.newarray at1, 2))
    (kk : ∀ (q : Nat) (H1 : Heap), va_P D classes (ws ++ [(q, .inl (cA, a0))]) H1 → va_D A (ws ++ [(q, .inl (cA, a0))]) → va_S A H0 H1 locs →
      W p l e R s m args below meth c H1 locs (cells + 1) (slots + N') Q (F0 m (pc + 2) ls (.ref q :: rest))) : W p l e R s m args below meth c H locs cells slots Q (F0 m pc ls (.int n :: rest)) := by
  subst hty
  refine va_newa hx hb (hts _ harr) rfl hK.1 hP hD hS hA ha hn hN hbytes hcells hslots hdg (fun q cA' H1 hK1 hP1 hD1 hS1 => ?_)
  have h1 := (hK1.2 (tyW cy).length (cA', newarray.typeOf at1) (by simp)).2
  have h2 := (hK.1.2 t0 _ ht).2
  have he : cA' = cA := Option.some.inj ((prim_RA at1 h1).symm.trans (prim_RA at1 h2))
  subst he
  exact kk q H1 hP1 hD1 hS1
theorem k_newq (hx : p.tables.exec = Jvm.exec) (hb : c.code = b) (hts : ∀ x ∈ gw_tbl, x.before args s = true) (hown : s.vm.findClass own = some m.cls) (hK : TK D cy s) (hO : va_AO RX1 s) {index : Nat} (hl : Cond.classLink own index RX1 ∈ gw_tbl) (hP : va_P D classes ws H) (hD : va_D A ws) (hS : va_S A H0 H locs) (hA : ∀ q, H0.size ≤ q → A q)
    {n : Int32} {N' : Nat} (hn : ¬ n < 0) (hN : n.toNatClampNeg = N') (hbytes : N' * 4 ≤ 536870912) (hcells : cells + 1 ≤ R.cells) (hslots : slots + N' ≤ R.slots) (hdg : decode b pc = .ok (.anewarray index, 3))
    (kk : ∀ (q : Nat) (H1 : Heap), va_P D classes (ws ++ [(q, .inl (cy 5, N', .inr (.inr (.inr (.inr (fun _ => none))))))]) H1 → va_D A (ws ++ [(q, .inl (cy 5, N', .inr (.inr (.inr (.inr (fun _ => none))))))]) → va_S A H0 H1 locs →
      W p l e R s m args below meth c H1 locs (cells + 1) (slots + N') Q (F0 m (pc + 3) ls (.ref q :: rest))) : W p l e R s m args below meth c H locs cells slots Q (F0 m pc ls (.int n :: rest)) := by
  refine va_newq hx hb hown (hts _ hl) hO hK.1 hP hD hS hA hn hN hbytes hcells hslots hdg (fun q cA' H1 hK1 hP1 hD1 hS1 => ?_)
  obtain ⟨_, _, _, _, _, h1⟩ := (hK1.2 (tyW cy).length (cA', .object RX1) (by simp)).2
  obtain ⟨_, _, _, _, _, h2⟩ := (hK.1.2 5 (cy 5, .object RX1) rfl).2
  have he : cA' = cy 5 := Option.some.inj (h1.symm.trans h2)
  subst he
  exact kk q H1 hP1 hD1 hS1
theorem k_callN {y : MethodName} {b2 : ByteArray} {n2 d2 mc ms ci index : Nat} {fs0 : List Value} {post : Nat → va_W → Prop} {host : String} (hx : p.tables.exec = Jvm.exec) (hb : c.code = b) (hml : c.maxLocals = nL) (hown : s.vm.findClass own = some m.cls) (hts : ∀ x ∈ gw_tbl, x.before args s = true) (hK : TK D cy s) (hO : va_AO RX1 s) (hM : KC D cy l y b2 n2 d2 mc ms ci fs0 post) (hI : MI y b2 n2 none 0) (hin : Cond.instanceMethod y ∈ gw_tbl) (hyn : y.name = "<init>") (hl : va_Nw (.methodLinkNest own index y host) s) (hR : d2 + 1 ≤ R.frames ∧ 8 + (n2 + 11) + 40 * d2 ≤ R.locals) (hsz : ls.size = nL) (hr : (rest.map fun v => v.category).sum ≤ 8) (hdg : decode b pc = .ok (.invokespecial index, 3)) (hf : cells + mc ≤ R.cells ∧ slots + ms ≤ R.slots)
    {wr : va_W} {h0 : Nat} (pos : Nat) (isR : List Nat) (hP : va_P D classes ws H) (hD : va_D A ws) (hS : va_S A H0 H locs) (hA : ∀ q, H0.size ≤ q → A q) (hpos : [pos].map (fun i => ws[i]?) = [(h0, .inr (ci, fs0))].map some) (hRs : isR.map (fun i => ws[i]?) = wr.map some) (hnd : va_nd isR = true) (hdis : ∀ i ∈ isR, i ∉ [pos])
    (kk : ∀ (w1 : va_W) (H1 : Heap) (locs1 : List Loc), post h0 w1 → va_P D classes (wr ++ w1) H1 → va_D A (wr ++ w1) → va_S A H0 H1 locs1 → W p l e R s m args below meth c H1 locs1 (cells + mc) (slots + ms) Q (F0 m (pc + 3) ls rest)) : W p l e R s m args below meth c H locs cells slots Q (F0 m pc ls (.ref h0 :: rest)) := by
  have hFc := va_free (wc := [(h0, .inr (ci, fs0))]) hD hS hA [pos] hpos
  have hp0 : ws[pos]? = some (h0, .inr (ci, fs0)) := by simpa using hpos
  have hPc : va_P D classes [(h0, .inr (ci, fs0))] H := hP.sub [pos] (by simp [hp0])
  refine va_callv (va_runIN (As := []) (rest := rest) ⟨hx, hb, hml, hown, hts⟩ (hM h0 H.size) ⟨va_cnB 0 hts (gw_good' hI.1) rfl rfl rfl hl (hts _ hI.2.1) hI.2.2 hR, hyn, hts _ hin⟩ ⟨fun a U g mk q => ?_, fun U hU hW => ⟨rfl, by rw [hU], by rw [hU]; exact hPc, hK.warm hW, hO.moved hW.alike⟩⟩ rfl rfl hsz rfl (lv_room hr) hdg hf) hS (fun q _ h => hFc q h) hFc (fun u t H1 locs1 ht hvm hw hB hz1 hk1 hS1 => ?_)
  · obtain ⟨q0, q1, qP, qK, qO⟩ := q
    exact ⟨q0, q1, qP, TK.same (s := U) (U := U.calling g mk a) rfl qK, qO⟩
  · obtain ⟨hP1, hD1⟩ := hB
    rw [ht] at hP1
    obtain ⟨hP2, hD2⟩ := va_join (wr := wr) hP hD [pos] isR hpos hRs hnd hdis hk1 hFc hP1 hD1
    exact kk u H1 locs1 hw hP2 hD2 hS1
theorem k_call {y : MethodName} {b2 : ByteArray} {n2 d2 mc ms ci index : Nat} {fs0 : List Value} {post : Nat → va_W → Prop} (hx : p.tables.exec = Jvm.exec) (hb : c.code = b) (hml : c.maxLocals = nL) (hown : s.vm.findClass own = some m.cls) (hts : ∀ x ∈ gw_tbl, x.before args s = true) (hK : TK D cy s) (hO : va_AO RX1 s) (hM : KC D cy l y b2 n2 d2 mc ms ci fs0 post) (hI : MI y b2 n2 none 0) (hin : Cond.instanceMethod y ∈ gw_tbl) (hyn : y.name = "<init>") (hl : Cond.methodLink own index y ∈ gw_tbl) (hR : d2 + 1 ≤ R.frames ∧ 8 + (n2 + 11) + 40 * d2 ≤ R.locals) (hsz : ls.size = nL) (hr : (rest.map fun v => v.category).sum ≤ 8) (hdg : decode b pc = .ok (.invokespecial index, 3)) (hf : cells + mc ≤ R.cells ∧ slots + ms ≤ R.slots)
    {wr : va_W} {h0 : Nat} (pos : Nat) (isR : List Nat) (hP : va_P D classes ws H) (hD : va_D A ws) (hS : va_S A H0 H locs) (hA : ∀ q, H0.size ≤ q → A q) (hpos : [pos].map (fun i => ws[i]?) = [(h0, .inr (ci, fs0))].map some) (hRs : isR.map (fun i => ws[i]?) = wr.map some) (hnd : va_nd isR = true) (hdis : ∀ i ∈ isR, i ∉ [pos])
    (kk : ∀ (w1 : va_W) (H1 : Heap) (locs1 : List Loc), post h0 w1 → va_P D classes (wr ++ w1) H1 → va_D A (wr ++ w1) → va_S A H0 H1 locs1 → W p l e R s m args below meth c H1 locs1 (cells + mc) (slots + ms) Q (F0 m (pc + 3) ls rest)) : W p l e R s m args below meth c H locs cells slots Q (F0 m pc ls (.ref h0 :: rest)) := by
  have hFc := va_free (wc := [(h0, .inr (ci, fs0))]) hD hS hA [pos] hpos
  have hp0 : ws[pos]? = some (h0, .inr (ci, fs0)) := by simpa using hpos
  have hPc : va_P D classes [(h0, .inr (ci, fs0))] H := hP.sub [pos] (by simp [hp0])
  refine va_callv (va_runI (As := []) (rest := rest) ⟨hx, hb, hml, hown, hts⟩ (hM h0 H.size) (cwI 0 hts (gw_good' hI.1) rfl rfl rfl (hts _ hI.2.1) (hts _ hl) (hts _ hin) hyn hI.2.2 hR) ⟨fun a U g mk q => ?_, fun U hU hW => ⟨rfl, by rw [hU], by rw [hU]; exact hPc, hK.warm hW, hO.moved hW.alike⟩⟩ rfl rfl hsz rfl (lv_room hr) hdg hf) hS (fun q _ h => hFc q h) hFc (fun u t H1 locs1 ht hvm hw hB hz1 hk1 hS1 => ?_)
  · obtain ⟨q0, q1, qP, qK, qO⟩ := q
    exact ⟨q0, q1, qP, TK.same (s := U) (U := U.calling g mk a) rfl qK, qO⟩
  · obtain ⟨hP1, hD1⟩ := hB
    rw [ht] at hP1
    obtain ⟨hP2, hD2⟩ := va_join (wr := wr) hP hD [pos] isR hpos hRs hnd hdis hk1 hFc hP1 hD1
    exact kk u H1 locs1 hw hP2 hD2 hS1
end KR
theorem nd_lt : ∀ (n : Nat) (l : List Nat), va_nd l = true → (∀ x ∈ l, n ≤ x) → va_nd ((List.range n) ++ l) = true
  | 0, l, h, _ => by simpa using h
  | n + 1, l, h, hx => by
    rw [List.range_succ, List.append_assoc]
    refine nd_lt n ([n] ++ l) ?_ (fun x hx2 => ?_)
    · simp only [List.singleton_append, va_nd, Bool.and_eq_true, decide_eq_true_eq]
      exact ⟨fun hm => by have := hx n hm; omega, h⟩
    · rcases List.mem_append.mp hx2 with h1 | h1
      · rw [List.mem_singleton.mp h1]; exact Nat.le_refl _
      · have := hx x h1; omega
theorem nd_range (n : Nat) : va_nd (List.range n) = true := by
  have := nd_lt n [] rfl (fun x h => absurd h List.not_mem_nil)
  simpa using this
theorem range_some (w0 : va_W) (x : Nat × va_E) : (List.range w0.length).map (fun i => (w0 ++ [x])[i]?) = w0.map some := by
  apply List.ext_getElem?
  intro j
  by_cases hj : j < w0.length
  · simp [List.getElem?_map, List.getElem?_range hj, List.getElem?_append_left hj, List.getElem?_eq_getElem hj]
  · rw [List.getElem?_eq_none (by simpa using hj), List.getElem?_eq_none (by simpa using hj)]
section KE
variable {D : va_G} {cy : Nat → ClassId} {p : Program} {l : Launch} {e : Env} {R : Room} {s : State} {m : MethodId} {args : Array Value} {below : List Frame} {meth : Method} {c : Code} {H H0 : Heap} {locs : List Loc} {cells slots : Nat} {Q : State → Prop} {b : ByteArray} {nL : Nat} {own : String} {pc : Nat} {ls : Array Slot} {rest : List Value} {A : Nat → Prop} {w0 : va_W}
/-- the object lies at the end of the list: any list -/
theorem k_callE {y : MethodName} {b2 : ByteArray} {n2 d2 mc ms ci index : Nat} {fs0 : List Value} {post : Nat → va_W → Prop} {host : String} (hx : p.tables.exec = Jvm.exec) (hb : c.code = b) (hml : c.maxLocals = nL) (hown : s.vm.findClass own = some m.cls) (hts : ∀ x ∈ gw_tbl, x.before args s = true) (hK : TK D cy s) (hO : va_AO RX1 s) (hM : KC D cy l y b2 n2 d2 mc ms ci fs0 post) (hI : MI y b2 n2 none 0) (hin : Cond.instanceMethod y ∈ gw_tbl) (hyn : y.name = "<init>") (hl : va_Nw (.methodLinkNest own index y host) s) (hR : d2 + 1 ≤ R.frames ∧ 8 + (n2 + 11) + 40 * d2 ≤ R.locals) (hsz : ls.size = nL) (hr : (rest.map fun v => v.category).sum ≤ 8) (hdg : decode b pc = .ok (.invokespecial index, 3)) (hf : cells + mc ≤ R.cells ∧ slots + ms ≤ R.slots)
    {h0 : Nat} (hP : va_P D classes (w0 ++ [(h0, .inr (ci, fs0))]) H) (hD : va_D A (w0 ++ [(h0, .inr (ci, fs0))])) (hS : va_S A H0 H locs) (hA : ∀ q, H0.size ≤ q → A q)
    (kk : ∀ (w1 : va_W) (H1 : Heap) (locs1 : List Loc), post h0 w1 → va_P D classes (w0 ++ w1) H1 → va_D A (w0 ++ w1) → va_S A H0 H1 locs1 → W p l e R s m args below meth c H1 locs1 (cells + mc) (slots + ms) Q (F0 m (pc + 3) ls rest)) : W p l e R s m args below meth c H locs cells slots Q (F0 m pc ls (.ref h0 :: rest)) :=
  k_callN hx hb hml hown hts hK hO hM hI hin hyn hl hR hsz hr hdg hf (wr := w0) w0.length (List.range w0.length) hP hD hS hA (by simp) (range_some w0 _) (nd_range _) (fun i hi h => by have h1 := List.mem_range.mp hi; have h2 := List.mem_singleton.mp h; omega) kk
/-- an element of the last list, for a store -/
theorem k_last {w1 : va_W} {x : Nat × va_E} (h : x ∈ w1) : ∃ k : Nat, (w0 ++ w1)[k]? = some x := List.getElem?_of_mem (List.mem_append_right _ h)
end KE
