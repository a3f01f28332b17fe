/-! contracts over the memory model, calls, returns; loops as limits -/
theorem TK.warm {D : va_G} {cy : Nat → ClassId} {s U : State} (hW : s.WarmedH U.vm) (h : TK D cy s) : TK D cy U := by
  refine ⟨va_K.moved hW.alike h.1, fun x hx => ?_⟩
  have hz := h.2 x hx
  have hn : isNest x = true := (List.mem_filter.mp hx).2
  cases x <;> first | exact va_Nw.warmM hW hz | exact va_Nw.warmF hW hz | (simp [isNest] at hn)
theorem nest_tab {x : Cond} (h : isNest x = true) : x.onTables = true := by
  cases x <;> first | rfl | (simp [isNest] at h)
theorem TK.same {D : va_G} {cy : Nat → ClassId} {s U : State} (hvm : s.vm = U.vm) (h : TK D cy s) : TK D cy U :=
  ⟨va_K.moved (by rw [hvm]; exact Vm.Alike.refl U.vm) h.1, fun x hx => va_Nw.same (nest_tab (List.mem_filter.mp hx).2) hvm (h.2 x hx)⟩
def QI (w : Nat) (D : va_G) (cy : Nat → ClassId) (ad : Nat → Nat) (below : List Frame) (args : Array Value) (s : State) (v : Int32) (σ' : Mem) : State → Prop :=
  MQ below (va_Qi (fun r u => r = v ∧ u = σ') (fun (u : Mem) (t : State) => Wd0 w D cy ad u t.heap) (AW w ad)) args s 0 0 (AW w ad)
def QL (w : Nat) (D : va_G) (cy : Nat → ClassId) (ad : Nat → Nat) (below : List Frame) (args : Array Value) (s : State) (v : Int64) (σ' : Mem) : State → Prop :=
  MQ below (va_Ql (fun r u => r = v ∧ u = σ') (fun (u : Mem) (t : State) => Wd0 w D cy ad u t.heap) (AW w ad)) args s 0 0 (AW w ad)
def QV (w : Nat) (D : va_G) (cy : Nat → ClassId) (ad : Nat → Nat) (below : List Frame) (args : Array Value) (s : State) (σ' : Mem) : State → Prop :=
  MQ below (va_Qv (fun u => u = σ') (fun (u : Mem) (t : State) => Wd0 w D cy ad u t.heap) (AW w ad)) args s 0 0 (AW w ad)
def QA (w : Nat) (D : va_G) (cy : Nat → ClassId) (ad : Nat → Nat) (below : List Frame) (args : Array Value) (s : State) (v : Nat) (σ' : Mem) : State → Prop :=
  MQ below (va_Qr (fun u => u = σ') (fun (u : Mem) (a : Nat) (t : State) => a = ad v ∧ Wd0 w D cy ad u t.heap) (AW w ad)) args s 0 0 (AW w ad)
def PcW (w : Nat) (D : va_G) (cy : Nat → ClassId) (ad : Nat → Nat) (av : List Value) (σ : Mem) : Array Value → State → Prop := va_Pc av (fun U => TK D cy U ∧ Wd0 w D cy ad σ U.heap)
def CI (w : Nat) (D : va_G) (cy : Nat → ClassId) (ad : Nat → Nat) (l : Launch) (y : MethodName) (b : ByteArray) (n : Nat) (ret : Option FieldType) (d : Nat) (av : List Value) (σ : Mem) (v : Int32) (σ' : Mem) : Prop :=
  Met l y (.code y b n ret :: gw_tbl) (rmD d) (PcW w D cy ad av σ) (va_Qi (fun r u => r = v ∧ u = σ') (fun (u : Mem) (t : State) => Wd0 w D cy ad u t.heap) (AW w ad)) 0 0 (AW w ad)
def CL (w : Nat) (D : va_G) (cy : Nat → ClassId) (ad : Nat → Nat) (l : Launch) (y : MethodName) (b : ByteArray) (n : Nat) (ret : Option FieldType) (d : Nat) (av : List Value) (σ : Mem) (v : Int64) (σ' : Mem) : Prop :=
  Met l y (.code y b n ret :: gw_tbl) (rmD d) (PcW w D cy ad av σ) (va_Ql (fun r u => r = v ∧ u = σ') (fun (u : Mem) (t : State) => Wd0 w D cy ad u t.heap) (AW w ad)) 0 0 (AW w ad)
def CV (w : Nat) (D : va_G) (cy : Nat → ClassId) (ad : Nat → Nat) (l : Launch) (y : MethodName) (b : ByteArray) (n : Nat) (ret : Option FieldType) (d : Nat) (av : List Value) (σ : Mem) (σ' : Mem) : Prop :=
  Met l y (.code y b n ret :: gw_tbl) (rmD d) (PcW w D cy ad av σ) (va_Qv (fun u => u = σ') (fun (u : Mem) (t : State) => Wd0 w D cy ad u t.heap) (AW w ad)) 0 0 (AW w ad)
def CA (w : Nat) (D : va_G) (cy : Nat → ClassId) (ad : Nat → Nat) (l : Launch) (y : MethodName) (b : ByteArray) (n : Nat) (ret : Option FieldType) (d : Nat) (av : List Value) (σ : Mem) (v : Nat) (σ' : Mem) : Prop :=
  Met l y (.code y b n ret :: gw_tbl) (rmD d) (PcW w D cy ad av σ) (va_Qr (fun u => u = σ') (fun (u : Mem) (a : Nat) (t : State) => a = ad v ∧ Wd0 w D cy ad u t.heap) (AW w ad)) 0 0 (AW w ad)
section MK
variable {w : Nat} {D : va_G} {cy : Nat → ClassId} {ad : Nat → Nat} {l : Launch} {y : MethodName} {b : ByteArray} {n : Nat} {ret : Option FieldType} {d : Nat} {av : List Value} {σ σ' : Mem}
theorem Cmk {Qc : Array Value → State → Outcome → State → Prop} (hy : plainName y.cls = true) (hj : InjW w ad) (hn : (lg_sl av).length ≤ n)
    (body : ∀ (p : Program) (e : Env) (R : Room) (s : State) (m : MethodId) (below : List Frame) (meth : Method) (c : Code) (ls : Array Slot), Cx w D cy ad p R s m av.toArray meth c b n y.cls ret d → Wd w D cy ad s σ s.heap [] → lv_has ls n (lv_args 0 av) → W p l e R s m av.toArray below meth c s.heap [] 0 0 (MQ below Qc av.toArray s 0 0 (AW w ad)) (F0 m 0 ls [])) :
    Met l y (.code y b n ret :: gw_tbl) (rmD d) (PcW w D cy ad av σ) Qc 0 0 (AW w ad) := by
  refine Met.ofW (cc := b) (maxL := n) (ret := ret) hy rfl ?_
  intro p e s m args below meth c s₁ B hml hv
  obtain ⟨rfl, hK, hP⟩ := hv
  have hts := atoms_spec (ws := Cond.code y b n ret :: gw_tbl) B.pre
  have hl := lv_entry av (n := n) hn
  rw [lg_entry_eq]
  exact body p e _ s m below meth c _ ⟨B.exec, B.bytes, hml, findClass_of_methodNamed B.named, fun x hx => hts x (List.mem_cons_of_mem _ hx), B.returns, B.notSynchronized, rfl, hK, hj⟩ ⟨hP.1, hP.2, va_S.rf⟩ hl
theorem pc_blind : FrameBlind (PcW w D cy ad av σ) := by
  intro a U g mk h
  obtain ⟨h1, h2, h3⟩ := h
  exact ⟨h1, TK.same (s := U) (U := U.calling g mk a) rfl h2, h3⟩
end MK
def MI (y : MethodName) (b : ByteArray) (n : Nat) (ret : Option FieldType) (np : Nat) : Prop := Cond.code y b n ret ∈ gw_tbl ∧ Cond.initialized y.cls ∈ gw_tbl ∧ y.cls ≠ "java/lang/invoke/MethodHandle" ∧ y.cls ≠ "java/lang/invoke/VarHandle" ∧ (parseMethodDescriptor y.desc).map (fun d => d.parameters.length) = some np
def MV (y : MethodName) : Prop := Cond.instanceMethod y ∈ gw_tbl ∧ Cond.selects y.cls y y ∈ gw_tbl
section CR
variable {w : Nat} {D : va_G} {cy : Nat → ClassId} {ad : Nat → Nat} {p : Program} {l : Launch} {e : Env} {R : Room} {s : State} {m : MethodId} {args : Array Value} {below : List Frame} {meth : Method} {c : Code} {H : Heap} {locs : List Loc} {cells slots : Nat} {Q : State → Prop} {b : ByteArray} {nL : Nat} {own : String} {ret : Option FieldType} {d : Nat} {σ σ' : Mem} {pc : Nat} {ls : Array Slot} {rest st0 : List Value} {i : Nat}
  {y : MethodName} {b2 : ByteArray} {n2 : Nat} {ret2 : Option FieldType} {d2 np index : Nat} {As : List Value} {Qc : Array Value → State → Outcome → State → Prop}
theorem call_B (C : Cx w D cy ad p R s m args meth c b nL own ret d) (hI : MI y b2 n2 ret2 np) (hl : Cond.methodLink own index y ∈ gw_tbl) (hd : d2 + 1 ≤ d) (hn2 : n2 ≤ 21) : CallB R s args own index y b2 n2 ret2 (.code y b2 n2 ret2 :: gw_tbl) (rmD d2) 0 0 np := by
  obtain ⟨hx, hb, -, hown, hts, -, -, rfl, hK, -⟩ := C
  exact callB_of np hts (gw_good' hI.1) rfl rfl rfl (hts _ hI.2.1) (hts _ hl) hI.2.2 ⟨hd, by show 8 + (n2 + 11) + 40 * d2 ≤ 40 * d; omega⟩
theorem call_N {host : String} (C : Cx w D cy ad p R s m args meth c b nL own ret d) (hI : MI y b2 n2 ret2 np) (hl : Cond.methodLinkNest own index y host ∈ nw_tbl) (hd : d2 + 1 ≤ d) (hn2 : n2 ≤ 21) : va_CN R s args own index y host b2 n2 ret2 (.code y b2 n2 ret2 :: gw_tbl) (rmD d2) 0 0 np := by
  obtain ⟨hx, hb, -, hown, hts, -, -, rfl, hK, -⟩ := C
  exact va_cnB np hts (gw_good' hI.1) rfl rfl rfl (hK.2 _ hl) (hts _ hI.2.1) hI.2.2 ⟨hd, by show 8 + (n2 + 11) + 40 * d2 ≤ 40 * d; omega⟩
theorem pre_S (C : Cx w D cy ad p R s m args meth c b nL own ret d) (hw : Wd w D cy ad s σ H locs) {av : List Value} : PreS s H (PcW w D cy ad av σ) av :=
  ⟨pc_blind, fun U hU hW => ⟨rfl, C.2.2.2.2.2.2.2.2.1.warm hW, by rw [hU]; exact ⟨hw.1, hw.2.1⟩⟩⟩
theorem run_V (C : Cx w D cy ad p R s m args meth c b nL own ret d) (hw : Wd w D cy ad s σ H locs) (hM : Met l y (.code y b2 n2 ret2 :: gw_tbl) (rmD d2) (PcW w D cy ad (.ref (ad i) :: As) σ) Qc 0 0 (AW w ad)) (hI : MI y b2 n2 ret2 np) (hV : MV y) {ci : Nat} (ho : IsO w i ci) {q : vw_C} (hc : classes[ci]? = some q) (hq : q.1 = y.cls) (hl : Cond.methodLink own index y ∈ gw_tbl) (hd : d2 + 1 ≤ d) (hn2 : n2 ≤ 21) (hn : As.length = np) (hsz : ls.size = nL) (hst : st0 = As.reverse ++ .ref (ad i) :: rest) (hr : (rest.map fun v => v.category).sum ≤ 8) (hdg : decode b pc = .ok (.invokevirtual index, 3)) (hcs : cells ≤ 0 ∧ slots ≤ 0) :
    va_Run p l e R s m args below meth c H locs cells slots 0 0 (F0 m pc ls st0) rest (Qc (Value.ref (ad i) :: As).toArray) (AW w ad) := by
  have hB := call_B C hI hl hd hn2
  have hpre := pre_S C hw (av := .ref (ad i) :: As)
  obtain ⟨hx, hb, hml, hown, hts, -, -, hR, hK, -⟩ := C
  have hrecv := va_recv hK.1 hw.1 hc ((ws_get ho.1).trans (by rw [cell_o ho]))
  rw [hq] at hrecv
  refine va_runV (b := ad i) (C := y.cls) ⟨hx, hb, hml, hown, hts⟩ hM ⟨hB, hts _ hV.1, hts _ hV.2⟩ ⟨hpre.1, hrecv, hpre.2⟩ rfl hn hsz hst (lv_room hr) hdg ?_
  subst hR
  exact ⟨hcs.1, hcs.2⟩
theorem run_S (C : Cx w D cy ad p R s m args meth c b nL own ret d) (hw : Wd w D cy ad s σ H locs) (hM : Met l y (.code y b2 n2 ret2 :: gw_tbl) (rmD d2) (PcW w D cy ad As σ) Qc 0 0 (AW w ad)) (hI : MI y b2 n2 ret2 np) (hV : Cond.static y ∈ gw_tbl) (hl : Cond.methodLink own index y ∈ gw_tbl) (hd : d2 + 1 ≤ d) (hn2 : n2 ≤ 21) (hn : As.length = np) (hsz : ls.size = nL) (hst : st0 = As.reverse ++ rest) (hr : (rest.map fun v => v.category).sum ≤ 8) (hdg : decode b pc = .ok (.invokestatic index, 3)) (hcs : cells ≤ 0 ∧ slots ≤ 0) :
    va_Run p l e R s m args below meth c H locs cells slots 0 0 (F0 m pc ls st0) rest (Qc As.toArray) (AW w ad) := by
  have hB := call_B C hI hl hd hn2
  have hpre := pre_S C hw (av := As)
  obtain ⟨hx, hb, hml, hown, hts, -, -, hR, hK, -⟩ := C
  refine va_runS ⟨hx, hb, hml, hown, hts⟩ hM ⟨hB, hts _ hV⟩ hpre rfl hn hsz hst (lv_room hr) hdg ?_
  subst hR
  exact ⟨hcs.1, hcs.2⟩
theorem run_SN {host : String} (C : Cx w D cy ad p R s m args meth c b nL own ret d) (hw : Wd w D cy ad s σ H locs) (hM : Met l y (.code y b2 n2 ret2 :: gw_tbl) (rmD d2) (PcW w D cy ad As σ) Qc 0 0 (AW w ad)) (hI : MI y b2 n2 ret2 np) (hV : Cond.static y ∈ gw_tbl) (hl : Cond.methodLinkNest own index y host ∈ nw_tbl) (hd : d2 + 1 ≤ d) (hn2 : n2 ≤ 21) (hn : As.length = np) (hsz : ls.size = nL) (hst : st0 = As.reverse ++ rest) (hr : (rest.map fun v => v.category).sum ≤ 8) (hdg : decode b pc = .ok (.invokestatic index, 3)) (hcs : cells ≤ 0 ∧ slots ≤ 0) :
    va_Run p l e R s m args below meth c H locs cells slots 0 0 (F0 m pc ls st0) rest (Qc As.toArray) (AW w ad) := by
  have hB := call_N C hI hl hd hn2
  have hpre := pre_S C hw (av := As)
  obtain ⟨hx, hb, hml, hown, hts, -, -, hR, hK, -⟩ := C
  refine va_runSN ⟨hx, hb, hml, hown, hts⟩ hM ⟨hB, hts _ hV, trivial⟩ hpre rfl hn hsz hst (lv_room hr) hdg ?_
  subst hR
  exact ⟨hcs.1, hcs.2⟩
theorem go_I {v : Int32} {a : Array Value} (hw : Wd w D cy ad s σ H locs) (hr : va_Run p l e R s m args below meth c H locs cells slots 0 0 (F0 m pc ls st0) rest (va_Qi (fun r u => r = v ∧ u = σ') (fun (u : Mem) (t : State) => Wd0 w D cy ad u t.heap) (AW w ad) a) (AW w ad))
    (kk : ∀ (H1 : Heap) (locs1 : List Loc), Wd w D cy ad s σ' H1 locs1 → W p l e R s m args below meth c H1 locs1 cells slots Q (F0 m (pc + 3) ls (.int v :: rest))) : W p l e R s m args below meth c H locs cells slots Q (F0 m pc ls st0) := by
  refine va_calli hr hw.2.2 (fun _ _ h => h) (fun _ h => h) (fun r u t H1 locs1 ht _ hp hB _ _ hS => ?_)
  obtain ⟨rfl, rfl⟩ := hp
  rw [ht] at hB
  exact kk H1 locs1 ⟨hB.1, hB.2, hS⟩
theorem go_L {v : Int64} {a : Array Value} (hw : Wd w D cy ad s σ H locs) (hr : va_Run p l e R s m args below meth c H locs cells slots 0 0 (F0 m pc ls st0) rest (va_Ql (fun r u => r = v ∧ u = σ') (fun (u : Mem) (t : State) => Wd0 w D cy ad u t.heap) (AW w ad) a) (AW w ad))
    (kk : ∀ (H1 : Heap) (locs1 : List Loc), Wd w D cy ad s σ' H1 locs1 → W p l e R s m args below meth c H1 locs1 cells slots Q (F0 m (pc + 3) ls (.long v :: rest))) : W p l e R s m args below meth c H locs cells slots Q (F0 m pc ls st0) := by
  refine va_calll hr hw.2.2 (fun _ _ h => h) (fun _ h => h) (fun r u t H1 locs1 ht _ hp hB _ _ hS => ?_)
  obtain ⟨rfl, rfl⟩ := hp
  rw [ht] at hB
  exact kk H1 locs1 ⟨hB.1, hB.2, hS⟩
theorem go_V {a : Array Value} (hw : Wd w D cy ad s σ H locs) (hr : va_Run p l e R s m args below meth c H locs cells slots 0 0 (F0 m pc ls st0) rest (va_Qv (fun u => u = σ') (fun (u : Mem) (t : State) => Wd0 w D cy ad u t.heap) (AW w ad) a) (AW w ad))
    (kk : ∀ (H1 : Heap) (locs1 : List Loc), Wd w D cy ad s σ' H1 locs1 → W p l e R s m args below meth c H1 locs1 cells slots Q (F0 m (pc + 3) ls rest)) : W p l e R s m args below meth c H locs cells slots Q (F0 m pc ls st0) := by
  refine va_callv hr hw.2.2 (fun _ _ h => h) (fun _ h => h) (fun u t H1 locs1 ht _ hp hB _ _ hS => ?_)
  obtain rfl := hp
  rw [ht] at hB
  exact kk H1 locs1 ⟨hB.1, hB.2, hS⟩
theorem go_A {v : Nat} {a : Array Value} (hw : Wd w D cy ad s σ H locs) (hr : va_Run p l e R s m args below meth c H locs cells slots 0 0 (F0 m pc ls st0) rest (va_Qr (fun u => u = σ') (fun (u : Mem) (a : Nat) (t : State) => a = ad v ∧ Wd0 w D cy ad u t.heap) (AW w ad) a) (AW w ad))
    (kk : ∀ (H1 : Heap) (locs1 : List Loc), Wd w D cy ad s σ' H1 locs1 → W p l e R s m args below meth c H1 locs1 cells slots Q (F0 m (pc + 3) ls (.ref (ad v) :: rest))) : W p l e R s m args below meth c H locs cells slots Q (F0 m pc ls st0) := by
  refine va_callr hr hw.2.2 (fun _ _ h => h) (fun _ h => h) (fun u ra t H1 locs1 ht _ hp hB _ _ hS => ?_)
  obtain rfl := hp
  obtain ⟨rfl, hB⟩ := hB
  rw [ht] at hB
  exact kk H1 locs1 ⟨hB.1, hB.2, hS⟩
theorem m_iret (C : Cx w D cy ad p R s m args meth c b nL own (some .int) d) (hw : Wd w D cy ad s σ H locs) {v v' : Int32} (hv : v = v' ∧ σ = σ') (hdg : decode b pc = .ok (.ireturn, 1)) : W p l e R s m args below meth c H locs 0 0 (QI w D cy ad below args s v' σ') (F0 m pc ls [.int v]) := by
  obtain ⟨rfl, rfl⟩ := hv
  exact W.iret C.1 C.2.1 C.2.2.2.2.2.1 (fun t ht _ => ⟨⟨v, σ, rfl, ⟨rfl, rfl⟩, show Wd0 _ _ _ _ _ t.heap by rw [ht]; exact ⟨hw.1, hw.2.1⟩⟩, hw.2.2.F ht⟩) hw.2.2.2.2 hdg C.2.2.2.2.2.2.1
theorem m_zret (C : Cx w D cy ad p R s m args meth c b nL own (some .boolean) d) (hw : Wd w D cy ad s σ H locs) {v v' : Int32} (hz : v &&& 1 = v) (hv : v = v' ∧ σ = σ') (hdg : decode b pc = .ok (.ireturn, 1)) : W p l e R s m args below meth c H locs 0 0 (QI w D cy ad below args s v' σ') (F0 m pc ls [.int v]) := by
  obtain ⟨rfl, rfl⟩ := hv
  exact W.zret C.1 C.2.1 C.2.2.2.2.2.1 (by simp [narrow, hz]) (fun t ht _ => ⟨⟨v, σ, rfl, ⟨rfl, rfl⟩, show Wd0 _ _ _ _ _ t.heap by rw [ht]; exact ⟨hw.1, hw.2.1⟩⟩, hw.2.2.F ht⟩) hw.2.2.2.2 hdg C.2.2.2.2.2.2.1
theorem m_lret (C : Cx w D cy ad p R s m args meth c b nL own (some .long) d) (hw : Wd w D cy ad s σ H locs) {v v' : Int64} (hv : v = v' ∧ σ = σ') (hdg : decode b pc = .ok (.lreturn, 1)) : W p l e R s m args below meth c H locs 0 0 (QL w D cy ad below args s v' σ') (F0 m pc ls [.long v]) := by
  obtain ⟨rfl, rfl⟩ := hv
  exact W.lret C.1 C.2.1 C.2.2.2.2.2.1 (fun t ht _ => ⟨⟨v, σ, rfl, ⟨rfl, rfl⟩, show Wd0 _ _ _ _ _ t.heap by rw [ht]; exact ⟨hw.1, hw.2.1⟩⟩, hw.2.2.F ht⟩) hw.2.2.2.2 hdg C.2.2.2.2.2.2.1
theorem m_vret (C : Cx w D cy ad p R s m args meth c b nL own none d) (hw : Wd w D cy ad s σ H locs) (hv : σ = σ') (hdg : decode b pc = .ok (.return_, 1)) : W p l e R s m args below meth c H locs 0 0 (QV w D cy ad below args s σ') (F0 m pc ls []) := by
  obtain rfl := hv
  exact W.vret C.1 C.2.1 C.2.2.2.2.2.1 (fun t ht _ => ⟨⟨σ, rfl, rfl, show Wd0 _ _ _ _ _ t.heap by rw [ht]; exact ⟨hw.1, hw.2.1⟩⟩, hw.2.2.F ht⟩) hw.2.2.2.2 hdg C.2.2.2.2.2.2.1
theorem m_aret {nm : String} (C : Cx w D cy ad p R s m args meth c b nL own (some (.object nm)) d) (hw : Wd w D cy ad s σ H locs) {v v' : Nat} (hv : v = v' ∧ σ = σ') (hdg : decode b pc = .ok (.areturn, 1)) : W p l e R s m args below meth c H locs 0 0 (QA w D cy ad below args s v' σ') (F0 m pc ls [.ref (ad v)]) := by
  obtain ⟨rfl, rfl⟩ := hv
  exact W.aret C.1 C.2.1 C.2.2.2.2.2.1 (Or.inl ⟨nm, rfl⟩) (Or.inr ⟨_, rfl⟩) (fun t ht _ => ⟨⟨σ, ad v, rfl, rfl, rfl, show Wd0 _ _ _ _ _ t.heap by rw [ht]; exact ⟨hw.1, hw.2.1⟩⟩, hw.2.2.F ht⟩) hw.2.2.2.2 hdg C.2.2.2.2.2.2.1
theorem m_putR (C : Cx 1 D cy ad p R s m args meth c b nL own ret d) (hw : Wd 1 D cy ad s σ H locs) {index : Nat} (hin : ∀ x ∈ u_ws RX8 TX8 11, x ∈ gw_tbl) (k : Nat) (hk : k < 11) (hf : fkW 8 k = 3) (hfin : (TX8 k).2.2.2 = false) (hl : Cond.fieldLink own index (TX8 k).1 (TX8 k).2.1 (TX8 k).2.2.1 ∈ gw_tbl) (hdg : decode b pc = .ok (.putfield index, 3)) {x : Nat} (hT : WT 1 (sR σ k x)) {nm : String} (hty : tyX8 k = .object nm)
    (kk : ∀ (H1 : Heap) (locs1 : List Loc), Wd 1 D cy ad s (sR σ k x) H1 locs1 → W p l e R s m args below meth c H1 locs1 cells slots Q (F0 m (pc + 3) ls rest)) : W p l e R s m args below meth c H locs cells slots Q (F0 m pc ls (.ref (ad x) :: .ref (ad 0) :: rest)) := by
  obtain ⟨hx, hb, -, hown, hts, -, -, -, hK, hj⟩ := C
  refine va_put (ci := 8) (C := RX8) (T := TX8) (N := 11) hx hb hts hin tyX8 tyX8_ok nmX8 hown hK.1 hw.1 (ws_D hj) hw.2.2 0 ((ws_get (by decide)).trans (by rw [cell_o (c := 8) (by decide)])) rfl k hk (hts _ hl) (fun x h => h) hfin (tyX8_ok k hk) (by rw [hty]; rfl) (by rw [hty]; rfl) (show k < ((List.range (nfW 8)).map _).length by rw [List.length_map, List.length_range]; exact hk) hdg (fun H1 locs1 h1 h2 h3 => kk H1 locs1 ⟨?_, hT, h3⟩)
  rw [ws_putR hf] at h1
  exact h1
end CR
/-! loops: F s = some (.inl s'): once more with s'; some (.inr r): out with r; none: not told -/
def itN {S T : Type} (F : S → Option (S ⊕ T)) : Nat → S → Option T
  | 0, _ => none
  | n + 1, s => match F s with
    | none => none
    | some (.inl s') => itN F n s'
    | some (.inr r) => some r
theorem itN_up {S T : Type} {F : S → Option (S ⊕ T)} {r : T} : ∀ (n : Nat) (s : S), itN F n s = some r → itN F (n + 1) s = some r
  | 0, s, h => by simp [itN] at h
  | n + 1, s, h => by
    rw [itN] at h ⊢
    cases hF : F s with
    | none => simp [hF] at h
    | some x =>
      cases x with
      | inl s' => simp only [hF] at h ⊢; exact itN_up n s' h
      | inr r' => simp only [hF] at h ⊢; exact h
theorem itN_le {S T : Type} {F : S → Option (S ⊕ T)} {r : T} {s : S} {n m : Nat} (h : itN F n s = some r) (hm : n ≤ m) : itN F m s = some r := by
  induction hm with
  | refl => exact h
  | step _ ih => exact itN_up _ _ ih
noncomputable def Lim {S T : Type} (F : S → Option (S ⊕ T)) (s : S) : Option T := by
  classical
  exact if h : ∃ r n, itN F n s = some r then some (Classical.choose h) else none
theorem Lim_of {S T : Type} {F : S → Option (S ⊕ T)} {s : S} {r : T} {n : Nat} (h : itN F n s = some r) : Lim F s = some r := by
  have hx : ∃ r n, itN F n s = some r := ⟨r, n, h⟩
  unfold Lim
  simp only [hx, ↓reduceDIte, Option.some.injEq]
  obtain ⟨m, hm⟩ := Classical.choose_spec hx
  have h1 := itN_le h (Nat.le_max_left n m)
  have h2 := itN_le hm (Nat.le_max_right n m)
  exact Option.some.inj (h2.symm.trans h1)
theorem Lim_fuel {S T : Type} {F : S → Option (S ⊕ T)} {s : S} {r : T} (h : Lim F s = some r) : ∃ n, itN F n s = some r := by
  unfold Lim at h
  split at h
  next hx =>
    obtain rfl := Option.some.inj h
    exact Classical.choose_spec hx
  next => cases h
def LimQ {S T : Type} (P : S → Prop) (r : T) : S ⊕ T → Prop
  | .inl s => P s
  | .inr r' => r' = r
/-- a loop that ends with r: what each pass hands on holds at its start -/
theorem Lim_ind {S T : Type} {F : S → Option (S ⊕ T)} {s : S} {r : T} (h : Lim F s = some r) {P : S → Prop} (hs : ∀ s x, F s = some x → LimQ P r x → P s) : P s := by
  obtain ⟨n, hn⟩ := Lim_fuel h
  clear h
  induction n generalizing s with
  | zero => simp [itN] at hn
  | succ n ih =>
    rw [itN] at hn
    cases hF : F s with
    | none => simp [hF] at hn
    | some x =>
      cases x with
      | inl s' => simp only [hF] at hn; exact hs s _ hF (ih hn)
      | inr r' => simp only [hF] at hn; exact hs s _ hF (Option.some.inj hn)
theorem Lim_step {S T : Type} {F : S → Option (S ⊕ T)} {s s' : S} (h : F s = some (.inl s')) : Lim F s = Lim F s' := by
  cases hl : Lim F s' with
  | some r =>
    obtain ⟨n, hn⟩ := Lim_fuel hl
    exact Lim_of (n := n + 1) (by simp only [itN, h]; exact hn)
  | none =>
    cases hk : Lim F s with
    | none => rfl
    | some r =>
      obtain ⟨n, hn⟩ := Lim_fuel hk
      cases n with
      | zero => simp [itN] at hn
      | succ n =>
        simp only [itN, h] at hn
        rw [Lim_of hn] at hl
        cases hl
theorem Lim_out {S T : Type} {F : S → Option (S ⊕ T)} {s : S} {r : T} (h : F s = some (.inr r)) : Lim F s = some r := Lim_of (n := 1) (by simp [itN, h])
theorem bS {α β : Type} {x : Option α} {f : α → Option β} {r : β} (h : x.bind f = some r) : ∃ a, x = some a ∧ f a = some r := Option.bind_eq_some_iff.mp h
/-- what must hold for an access: else the answer isn't told -/
def gd {α : Type} (P : Prop) [Decidable P] (x : Option α) : Option α := if P then x else none
theorem gd_of {α : Type} {P : Prop} [Decidable P] {x : Option α} {r : α} (h : gd P x = some r) : P ∧ x = some r := by
  unfold gd at h
  split at h
  next hp => exact ⟨hp, h⟩
  next => cases h
theorem gd_yes {α : Type} {P : Prop} [Decidable P] {x : Option α} (h : P) : gd P x = x := if_pos h
abbrev ix (x : Int32) (n : Nat) : Prop := ¬ (x < 0 ∨ n ≤ x.toNatClampNeg)
theorem ite_t {α : Type} {P : Prop} [Decidable P] {a b c : α} (hp : P) (h : (if P then a else b) = c) : a = c := by rw [if_pos hp] at h; exact h
theorem ite_f {α : Type} {P : Prop} [Decidable P] {a b c : α} (hp : ¬ P) (h : (if P then a else b) = c) : b = c := by rw [if_neg hp] at h; exact h
