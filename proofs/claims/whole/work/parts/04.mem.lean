/-! the memory model: cells by ids; w = 0: the reference's object and its arrays, w = 1: the class's -/
abbrev Mem : Type := (Nat → Nat → Int32) × (Nat → Nat → Int64) × (Nat → Nat)
def sI (σ : Mem) (o k : Nat) (v : Int32) : Mem := (va_up σ.1 o (upd (σ.1 o) k v), σ.2)
def sJ (σ : Mem) (o k : Nat) (v : Int64) : Mem := (σ.1, va_up σ.2.1 o (vp_updL (σ.2.1 o) k v), σ.2.2)
def sR (σ : Mem) (k : Nat) (v : Nat) : Mem := (σ.1, σ.2.1, va_up σ.2.2 k v)
def kRl : List Nat := [9, 23, 10, 11, 11, 11, 11, 12, 24, 13, 11, 13, 21, 14, 13, 15, 15, 16, 17, 18, 19, 19, 15, 20, 13, 22]
def kCl : List Nat := [8, 6, 25, 34, 0, 13, 21, 14, 21, 4, 15, 15, 15, 15, 15, 15, 15, 30, 31, 26, 32, 33, 5, 29, 16, 2, 27, 27, 27, 3, 28, 28, 28, 28, 3, 28, 28, 28, 28, 3, 28, 28, 28, 28, 7, 13, 13, 13, 13, 7, 13, 13, 13, 13, 1, 7, 13, 13, 13, 13, 1, 7, 13, 13, 13, 13]
def akl : List (Nat × Nat) := [(0, 2), (0, 32), (0, 102), (0, 31), (0, 186), (0, 120), (0, 4), (0, 240), (0, 28800), (0, 64), (0, 3720), (1, 186), (1, 1920), (2, 300), (4, 2), (0, 300), (0, 8), (0, 128), (0, 16), (1, 2048), (4, 120), (3, 4096), (3, 120), (3, 14400), (5, 2)]
def fkl : List (List Nat) := [[2, 2, 2, 2], [0, 0, 0, 2], [2, 2, 2], [2, 2, 2, 2, 0, 0], [2, 2, 2, 2, 2, 2, 2, 2, 2, 2, 2, 2, 2, 2, 2, 0, 0, 0, 0], [2, 2, 0], [2, 0, 0, 0, 0, 0], [2, 2, 2, 2, 0], [2, 2, 2, 2, 3, 3, 3, 3, 0, 0, 1], [1, 2, 0, 2, 2, 2, 2, 2, 0, 0, 0, 0, 0, 0, 2, 2, 2, 2, 2, 2, 2, 2, 0, 2, 2, 2, 2, 2, 0, 0, 0, 2, 2, 2, 2, 2, 2]]
def kdW (w i : Nat) : Nat := (if w = 0 then kRl else kCl).getD i 99
def NW (w : Nat) : Nat := if w = 0 then 26 else 66
def arW (w i : Nat) : Nat × Nat := if kdW w i < 10 then (9, 0) else akl.getD (kdW w i - 10) (9, 0)
def fkW (c k : Nat) : Nat := (fkl.getD c []).getD k 9
def nfW (c : Nat) : Nat := (fkl.getD c []).length
def frl : List Nat := [0, 1, 0, 2, 3, 4, 5, 6, 0, 0, 0, 0, 0, 0, 7, 8, 9, 10, 11, 12, 13, 14, 0, 15, 16, 17, 18, 19, 0, 0, 0, 20, 21, 22, 23, 24, 25]
def frW (w i k : Nat) : Nat := if w = 0 then frl.getD k 0 else if i = 0 then [1, 3, 4, 9].getD k 0 else if i = 3 then 54 + 6 * k else if i = 9 ∧ 12 ≤ k then [22, 25, 29].getD (k - 12) 0 else if i = 54 ∨ i = 60 then i + 1 else i + 1 + k
abbrev IsO (w i c : Nat) : Prop := i < NW w ∧ kdW w i = c ∧ c < 10
abbrev IsA (w i t n : Nat) : Prop := i < NW w ∧ ¬ kdW w i < 10 ∧ arW w i = (t, n)
abbrev classes : List vw_C := [(RX0, TX0, 4), (RX1, TX1, 4), (RX2, TX2, 3), (RX3, TX3, 6), (RX4, TX4, 19), (RX5, TX5, 3), (RX6, TX6, 6), (RX7, TX7, 5), (RX8, TX8, 11), (RX9, TX9, 37)]
def fldW (w : Nat) (ad : Nat → Nat) (σ : Mem) (i k : Nat) : Value := if fkW (kdW w i) k = 0 then .int (σ.1 i k) else if fkW (kdW w i) k = 1 then .long (σ.2.1 i k) else if fkW (kdW w i) k = 2 then .ref (ad (frW w i k)) else if fkW (kdW w i) k = 3 then .ref (ad (σ.2.2 k)) else .null
def cellW (w : Nat) (cy : Nat → ClassId) (ad : Nat → Nat) (σ : Mem) (i : Nat) : va_E := if kdW w i < 10 then .inr (kdW w i, (List.range (nfW (kdW w i))).map (fldW w ad σ i)) else if (arW w i).1 = 1 then .inl (cy 1, (arW w i).2, .inr (.inl (σ.2.1 i))) else if (arW w i).1 = 5 then .inl (cy 5, (arW w i).2, .inr (.inr (.inr (.inr (fun j => some (ad (frW w i j))))))) else .inl (cy (arW w i).1, (arW w i).2, .inl (σ.1 i))
def wsW (w : Nat) (cy : Nat → ClassId) (ad : Nat → Nat) (σ : Mem) : va_W := (List.range (NW w)).map (fun i => (ad i, cellW w cy ad σ i))
def tyW (cy : Nat → ClassId) : List (ClassId × FieldType) := [(cy 0, .int), (cy 1, .long), (cy 2, .byte), (cy 3, .short), (cy 4, .boolean), (cy 5, .object RX1)]
def WT (w : Nat) (σ : Mem) : Prop := w = 1 → IsO 1 (σ.2.2 4) 3 ∧ IsO 1 (σ.2.2 5) 3 ∧ IsO 1 (σ.2.2 6) 7 ∧ IsO 1 (σ.2.2 7) 7
def AW (w : Nat) (ad : Nat → Nat) : Nat → Prop := fun q => ∃ i, i < NW w ∧ q = ad i
def InjW (w : Nat) (ad : Nat → Nat) : Prop := ∀ i j, i < NW w → j < NW w → ad i = ad j → i = j
def gw_tbl : List Cond := lw_tbl.filter goodWord
def isNest : Cond → Bool
  | .methodLinkNest .. => true
  | .fieldLinkNest .. => true
  | _ => false
def nw_tbl : List Cond := lw_tbl.filter isNest
def TK (D : va_G) (cy : Nat → ClassId) (s : State) : Prop := va_K D classes (tyW cy) s ∧ ∀ x ∈ nw_tbl, va_Nw x s
def rmD (d : Nat) : Room := { frames := d, cells := 0, slots := 0, locals := 40 * d }
def Wd0 (w : Nat) (D : va_G) (cy : Nat → ClassId) (ad : Nat → Nat) (σ : Mem) (H : Heap) : Prop := va_P D classes (wsW w cy ad σ) H ∧ WT w σ
def Wd (w : Nat) (D : va_G) (cy : Nat → ClassId) (ad : Nat → Nat) (s : State) (σ : Mem) (H : Heap) (locs : List Loc) : Prop := va_P D classes (wsW w cy ad σ) H ∧ WT w σ ∧ va_S (AW w ad) s.heap H locs
def Cx (w : Nat) (D : va_G) (cy : Nat → ClassId) (ad : Nat → Nat) (p : Program) (R : Room) (s : State) (m : MethodId) (args : Array Value) (meth : Method) (c : Code) (b : ByteArray) (nL : Nat) (own : String) (ret : Option FieldType) (d : Nat) : Prop :=
  p.tables.exec = Jvm.exec ∧ c.code = b ∧ c.maxLocals = nL ∧ s.vm.findClass own = some m.cls ∧ (∀ x ∈ gw_tbl, x.before args s = true) ∧ meth.sig.returnType = ret ∧ meth.locks = false ∧ R = rmD d ∧ TK D cy s ∧ InjW w ad
theorem gw_in {x : Cond} (h : x ∈ lw_tbl) (g : goodWord x = true) : x ∈ gw_tbl := List.mem_filter.mpr ⟨h, g⟩
theorem nw_in {x : Cond} (h : x ∈ lw_tbl) (g : isNest x = true) : x ∈ nw_tbl := List.mem_filter.mpr ⟨h, g⟩
theorem gw_good {c d : Cond} (hc : c ∈ gw_tbl) : GoodIn (d :: gw_tbl) (c :: gw_tbl) := by
  intro x hx
  rcases List.mem_cons.mp hx with rfl | h
  · exact ⟨List.mem_cons_of_mem _ hc, good_of_word (List.mem_filter.mp hc).2⟩
  · exact ⟨List.mem_cons_of_mem _ h, good_of_word (List.mem_filter.mp h).2⟩
theorem gw_good' {c : Cond} (hc : c ∈ gw_tbl) : GoodIn gw_tbl (c :: gw_tbl) := by
  intro x hx
  rcases List.mem_cons.mp hx with rfl | h
  · exact ⟨hc, good_of_word (List.mem_filter.mp hc).2⟩
  · exact ⟨h, good_of_word (List.mem_filter.mp h).2⟩
theorem ws_get {w i : Nat} {cy : Nat → ClassId} {ad : Nat → Nat} {σ : Mem} (h : i < NW w) : (wsW w cy ad σ)[i]? = some (ad i, cellW w cy ad σ i) := by
  simp [wsW, List.getElem?_map, List.getElem?_range h]
theorem ws_some {w k : Nat} {cy : Nat → ClassId} {ad : Nat → Nat} {σ : Mem} {q : Nat × va_E} (h : (wsW w cy ad σ)[k]? = some q) : k < NW w ∧ q = (ad k, cellW w cy ad σ k) := by
  have hl : k < NW w := by
    have := (List.getElem?_eq_some_iff.mp h).1
    simpa [wsW] using this
  rw [ws_get hl] at h
  exact ⟨hl, (Option.some.inj h).symm⟩
theorem ws_set {w i : Nat} {cy : Nat → ClassId} {ad : Nat → Nat} {σ σ' : Mem} {e : va_E} (he : cellW w cy ad σ' i = e) (ho : ∀ j, j ≠ i → cellW w cy ad σ' j = cellW w cy ad σ j) : (wsW w cy ad σ).set i (ad i, e) = wsW w cy ad σ' := by
  apply List.ext_getElem?
  intro j
  by_cases hj : j < NW w
  · rw [ws_get hj]
    by_cases hji : j = i
    · subst hji
      rw [List.getElem?_set_self (by simpa [wsW] using hj), he]
    · rw [List.getElem?_set_ne (Ne.symm hji), ws_get hj, ho j hji]
  · rw [List.getElem?_eq_none (by simpa [wsW] using hj), List.getElem?_eq_none (by simpa [wsW] using hj)]
theorem ws_D {w : Nat} {cy : Nat → ClassId} {ad : Nat → Nat} {σ : Mem} (h : InjW w ad) : va_D (AW w ad) (wsW w cy ad σ) := by
  refine ⟨fun i j p q hi hj hpq => ?_, fun k q hk => ?_⟩
  · obtain ⟨h1, rfl⟩ := ws_some hi
    obtain ⟨h2, rfl⟩ := ws_some hj
    exact h i j h1 h2 hpq
  · obtain ⟨h1, rfl⟩ := ws_some hk
    exact ⟨k, h1, rfl⟩
theorem cell_o {w i c : Nat} {cy : Nat → ClassId} {ad : Nat → Nat} {σ : Mem} (h : IsO w i c) : cellW w cy ad σ i = .inr (c, (List.range (nfW c)).map (fldW w ad σ i)) := by
  obtain ⟨-, h2, h3⟩ := h
  simp [cellW, h2, h3]
theorem cell_i {w i t n : Nat} {cy : Nat → ClassId} {ad : Nat → Nat} {σ : Mem} (h : IsA w i t n) (h1 : t ≠ 1) (h5 : t ≠ 5) : cellW w cy ad σ i = .inl (cy t, n, .inl (σ.1 i)) := by
  obtain ⟨-, h2, h3⟩ := h
  simp [cellW, h2, h3, h1, h5]
theorem cell_j {w i n : Nat} {cy : Nat → ClassId} {ad : Nat → Nat} {σ : Mem} (h : IsA w i 1 n) : cellW w cy ad σ i = .inl (cy 1, n, .inr (.inl (σ.2.1 i))) := by
  obtain ⟨-, h2, h3⟩ := h
  simp [cellW, h2, h3]
theorem cell_q {w i n : Nat} {cy : Nat → ClassId} {ad : Nat → Nat} {σ : Mem} (h : IsA w i 5 n) : cellW w cy ad σ i = .inl (cy 5, n, .inr (.inr (.inr (.inr (fun j => some (ad (frW w i j))))))) := by
  obtain ⟨-, h2, h3⟩ := h
  simp [cellW, h2, h3]
theorem cell_cong {w j : Nat} {cy : Nat → ClassId} {ad : Nat → Nat} {σ σ' : Mem} (h1 : σ'.1 j = σ.1 j) (h2 : σ'.2.1 j = σ.2.1 j) (h3 : σ'.2.2 = σ.2.2) : cellW w cy ad σ' j = cellW w cy ad σ j := by
  have hf : fldW w ad σ' j = fldW w ad σ j := by funext k; simp [fldW, h1, h2, h3]
  simp [cellW, hf, h1, h2]
theorem sI_o {σ : Mem} {o k : Nat} {v : Int32} {j : Nat} (h : j ≠ o) : (sI σ o k v).1 j = σ.1 j := by simp [sI, va_up, h]
theorem sJ_o {σ : Mem} {o k : Nat} {v : Int64} {j : Nat} (h : j ≠ o) : (sJ σ o k v).2.1 j = σ.2.1 j := by simp [sJ, va_up, h]
theorem flds_set {w i c k : Nat} {ad : Nat → Nat} {σ σ' : Mem} {v : Value} (hk : fldW w ad σ' i k = v) (ho : ∀ j, j ≠ k → fldW w ad σ' i j = fldW w ad σ i j) : ((List.range (nfW c)).map (fldW w ad σ i)).set k v = (List.range (nfW c)).map (fldW w ad σ' i) := by
  apply List.ext_getElem?
  intro j
  by_cases hj : j < nfW c
  · by_cases hjk : j = k
    · subst hjk
      rw [List.getElem?_set_self (by simpa using hj)]
      simp [List.getElem?_map, List.getElem?_range hj, hk]
    · rw [List.getElem?_set_ne (Ne.symm hjk)]
      simp [List.getElem?_map, List.getElem?_range hj, ho j hjk]
  · rw [List.getElem?_eq_none (by simpa using hj), List.getElem?_eq_none (by simpa using hj)]
theorem flds_get {w i c k : Nat} {ad : Nat → Nat} {σ : Mem} (hk : k < nfW c) : ((List.range (nfW c)).map (fldW w ad σ i))[k]? = some (fldW w ad σ i k) := by
  simp [List.getElem?_map, List.getElem?_range hk]
theorem ws_putI {w i c k : Nat} {cy : Nat → ClassId} {ad : Nat → Nat} {σ : Mem} {v : Int32} (h : IsO w i c) (hf : fkW c k = 0) : (wsW w cy ad σ).set i (ad i, .inr (c, ((List.range (nfW c)).map (fldW w ad σ i)).set k (.int v))) = wsW w cy ad (sI σ i k v) := by
  refine ws_set ?_ (fun j hj => cell_cong (sI_o hj) rfl rfl)
  rw [cell_o h, flds_set (σ' := sI σ i k v)]
  · simp [fldW, h.2.1, hf, sI, va_up, upd]
  · intro j hj
    simp [fldW, sI, va_up, upd, hj]
theorem ws_putJ {w i c k : Nat} {cy : Nat → ClassId} {ad : Nat → Nat} {σ : Mem} {v : Int64} (h : IsO w i c) (hf : fkW c k = 1) : (wsW w cy ad σ).set i (ad i, .inr (c, ((List.range (nfW c)).map (fldW w ad σ i)).set k (.long v))) = wsW w cy ad (sJ σ i k v) := by
  refine ws_set ?_ (fun j hj => cell_cong rfl (sJ_o hj) rfl)
  rw [cell_o h, flds_set (σ' := sJ σ i k v)]
  · simp [fldW, h.2.1, hf, sJ, va_up, vp_updL]
  · intro j hj
    simp [fldW, sJ, va_up, vp_updL, hj]
theorem fk3 : ∀ c k : Nat, fkW c k = 3 → c = 8 := by
  intro c k h
  have hk : ∀ c, c < 10 → ∀ k, k < 40 → fkW c k = 3 → c = 8 := by decide
  by_cases hc : c < 10
  · by_cases hk2 : k < 40
    · exact hk c hc k hk2 h
    · exfalso
      have hl : ∀ c, c < 10 → (fkl.getD c []).length ≤ 40 := by decide
      have := hl c hc
      simp only [fkW] at h
      rw [List.getD_eq_getElem?_getD, List.getElem?_eq_none (by omega)] at h
      simp at h
  · exfalso
    simp only [fkW] at h
    rw [List.getD_eq_getElem?_getD (l := fkl), List.getElem?_eq_none (show fkl.length ≤ c by have : fkl.length = 10 := rfl; omega)] at h
    simp at h
theorem kd8 : ∀ j : Nat, kdW 1 j = 8 → j = 0 := by
  intro j h
  by_cases hj : j < 66
  · have : ∀ j, j < 66 → kdW 1 j = 8 → j = 0 := by decide
    exact this j hj h
  · exfalso
    simp only [kdW] at h
    rw [if_neg (by decide), List.getD_eq_getElem?_getD, List.getElem?_eq_none (show kCl.length ≤ j by have : kCl.length = 66 := rfl; omega)] at h
    simp at h
theorem ws_putR {k x : Nat} {cy : Nat → ClassId} {ad : Nat → Nat} {σ : Mem} (hf : fkW 8 k = 3) : (wsW 1 cy ad σ).set 0 (ad 0, .inr (8, ((List.range (nfW 8)).map (fldW 1 ad σ 0)).set k (.ref (ad x)))) = wsW 1 cy ad (sR σ k x) := by
  refine ws_set ?_ (fun j hj => ?_)
  · rw [cell_o (c := 8) (by decide), flds_set (σ' := sR σ k x)]
    · have h8 : kdW 1 0 = 8 := by decide
      simp [fldW, h8, hf, sR, va_up]
    · intro j hj
      simp [fldW, sR, va_up, hj]
  · have hfl : fldW 1 ad (sR σ k x) j = fldW 1 ad σ j := by
      funext q
      by_cases h3 : fkW (kdW 1 j) q = 3
      · exact absurd (kd8 j (fk3 _ _ h3)) hj
      · simp [fldW, h3, sR]
    have e1 : (sR σ k x).1 = σ.1 := rfl
    have e2 : (sR σ k x).2.1 = σ.2.1 := rfl
    simp only [cellW, hfl, e1, e2]
theorem ws_ast {w i t n : Nat} {cy : Nat → ClassId} {ad : Nat → Nat} {σ : Mem} {k : Nat} {v : Int32} (h : IsA w i t n) (h1 : t ≠ 1) (h5 : t ≠ 5) : (wsW w cy ad σ).set i (ad i, .inl (cy t, n, .inl (upd (σ.1 i) k v))) = wsW w cy ad (sI σ i k v) := by
  refine ws_set ?_ (fun j hj => cell_cong (sI_o hj) rfl rfl)
  rw [cell_i h h1 h5]
  simp [sI, va_up]
theorem ws_astJ {w i n : Nat} {cy : Nat → ClassId} {ad : Nat → Nat} {σ : Mem} {k : Nat} {v : Int64} (h : IsA w i 1 n) : (wsW w cy ad σ).set i (ad i, .inl (cy 1, n, .inr (.inl (vp_updL (σ.2.1 i) k v)))) = wsW w cy ad (sJ σ i k v) := by
  refine ws_set ?_ (fun j hj => cell_cong rfl (sJ_o hj) rfl)
  rw [cell_j h]
  simp [sJ, va_up]
section MR
variable {w : Nat} {D : va_G} {cy : Nat → ClassId} {ad : Nat → Nat} {p : Program} {l : Launch} {e : Env} {R : Room} {s : State} {m : MethodId} {args : Array Value} {below : List Frame} {meth : Method} {c : Code} {H : Heap} {locs : List Loc} {cells slots : Nat} {Q : State → Prop} {b : ByteArray} {nL : Nat} {own : String} {ret : Option FieldType} {d : Nat} {σ : Mem} {pc : Nat} {ls : Array Slot} {rest : List Value} {i : Nat}
theorem m_get (C : Cx w D cy ad p R s m args meth c b nL own ret d) (hw : Wd w D cy ad s σ H locs) {ci : Nat} (ho : IsO w i ci) {Cn : String} {T : u_T} {N index : Nat} (hc : classes[ci]? = some (Cn, T, N)) (hN : nfW ci = N) (hin : ∀ x ∈ u_ws Cn T N, x ∈ gw_tbl) (k : Nat) (hk : k < N) (hl : Cond.fieldLink own index (T k).1 (T k).2.1 (T k).2.2.1 ∈ gw_tbl) (hdg : decode b pc = .ok (.getfield index, 3)) {v : Value} (hv : fldW w ad σ i k = v)
    (kk : W p l e R s m args below meth c H locs cells slots Q (F0 m (pc + 3) ls (v :: rest))) : W p l e R s m args below meth c H locs cells slots Q (F0 m pc ls (.ref (ad i) :: rest)) := by
  obtain ⟨hx, hb, -, hown, hts, -, -, -, hK, -⟩ := C
  subst hN
  exact va_get hx hb hts hin hown hK.1 hw.1 i ((ws_get ho.1).trans (by rw [cell_o ho])) hc k hk (hts _ hl) (fun x h => h) ((flds_get hk).trans (by rw [hv])) hdg kk
theorem m_getN (C : Cx w D cy ad p R s m args meth c b nL own ret d) (hw : Wd w D cy ad s σ H locs) {ci : Nat} (ho : IsO w i ci) {Cn host : String} {T : u_T} {N index : Nat} (hc : classes[ci]? = some (Cn, T, N)) (hN : nfW ci = N) (hin : ∀ x ∈ u_ws Cn T N, x ∈ gw_tbl) (k : Nat) (hk : k < N) (hl : Cond.fieldLinkNest own index (T k).1 (T k).2.1 (T k).2.2.1 host ∈ nw_tbl) (hdg : decode b pc = .ok (.getfield index, 3)) {v : Value} (hv : fldW w ad σ i k = v)
    (kk : W p l e R s m args below meth c H locs cells slots Q (F0 m (pc + 3) ls (v :: rest))) : W p l e R s m args below meth c H locs cells slots Q (F0 m pc ls (.ref (ad i) :: rest)) := by
  obtain ⟨hx, hb, -, hown, hts, -, -, -, hK, -⟩ := C
  subst hN
  exact va_getN hx hb hts hin hown hK.1 hw.1 i ((ws_get ho.1).trans (by rw [cell_o ho])) hc k hk (va_Nw.use rfl (hK.2 _ hl)) (fun x h => h) ((flds_get hk).trans (by rw [hv])) hdg kk
theorem m_putI (C : Cx w D cy ad p R s m args meth c b nL own ret d) (hw : Wd w D cy ad s σ H locs) {ci : Nat} (ho : IsO w i ci) {Cn : String} {T : u_T} {N index : Nat} (hc : classes[ci]? = some (Cn, T, N)) (hN : nfW ci = N) (hin : ∀ x ∈ u_ws Cn T N, x ∈ gw_tbl) (ty0 : Nat → FieldType) (hty : ∀ k, k < N → parseFieldDescriptor (T k).2.2.1 = some (ty0 k)) (hnm : ∀ a, a < N → ∀ b, b < N → a ≠ b → (T a).2.1 ≠ (T b).2.1) (k : Nat) (hk : k < N) (hf : fkW ci k = 0) (hfin : (T k).2.2.2 = false) (hl : Cond.fieldLink own index (T k).1 (T k).2.1 (T k).2.2.1 ∈ gw_tbl) (hdg : decode b pc = .ok (.putfield index, 3)) {v : Int32} (hn : narrow (ty0 k) (.int v) = .int v) (hfit : fits (ty0 k) (.int v) = true)
    (kk : ∀ (H1 : Heap) (locs1 : List Loc), Wd w D cy ad s (sI σ i k v) H1 locs1 → W p l e R s m args below meth c H1 locs1 cells slots Q (F0 m (pc + 3) ls rest)) : W p l e R s m args below meth c H locs cells slots Q (F0 m pc ls (.int v :: .ref (ad i) :: rest)) := by
  obtain ⟨hx, hb, -, hown, hts, -, -, -, hK, hj⟩ := C
  subst hN
  refine va_put hx hb hts hin ty0 hty hnm hown hK.1 hw.1 (ws_D hj) hw.2.2 i ((ws_get ho.1).trans (by rw [cell_o ho])) hc k hk (hts _ hl) (fun x h => h) hfin (hty k hk) hn hfit (by simpa using hk) hdg (fun H1 locs1 h1 h2 h3 => kk H1 locs1 ⟨?_, hw.2.1, h3⟩)
  rw [ws_putI ho hf] at h1
  exact h1
theorem m_putJ (C : Cx w D cy ad p R s m args meth c b nL own ret d) (hw : Wd w D cy ad s σ H locs) {ci : Nat} (ho : IsO w i ci) {Cn : String} {T : u_T} {N index : Nat} (hc : classes[ci]? = some (Cn, T, N)) (hN : nfW ci = N) (hin : ∀ x ∈ u_ws Cn T N, x ∈ gw_tbl) (ty0 : Nat → FieldType) (hty : ∀ k, k < N → parseFieldDescriptor (T k).2.2.1 = some (ty0 k)) (hnm : ∀ a, a < N → ∀ b, b < N → a ≠ b → (T a).2.1 ≠ (T b).2.1) (k : Nat) (hk : k < N) (hf : fkW ci k = 1) (hfin : (T k).2.2.2 = false) (hl : Cond.fieldLink own index (T k).1 (T k).2.1 (T k).2.2.1 ∈ gw_tbl) (hdg : decode b pc = .ok (.putfield index, 3)) {v : Int64} (hn : narrow (ty0 k) (.long v) = .long v) (hfit : fits (ty0 k) (.long v) = true)
    (kk : ∀ (H1 : Heap) (locs1 : List Loc), Wd w D cy ad s (sJ σ i k v) H1 locs1 → W p l e R s m args below meth c H1 locs1 cells slots Q (F0 m (pc + 3) ls rest)) : W p l e R s m args below meth c H locs cells slots Q (F0 m pc ls (.long v :: .ref (ad i) :: rest)) := by
  obtain ⟨hx, hb, -, hown, hts, -, -, -, hK, hj⟩ := C
  subst hN
  refine va_put hx hb hts hin ty0 hty hnm hown hK.1 hw.1 (ws_D hj) hw.2.2 i ((ws_get ho.1).trans (by rw [cell_o ho])) hc k hk (hts _ hl) (fun x h => h) hfin (hty k hk) hn hfit (by simpa using hk) hdg (fun H1 locs1 h1 h2 h3 => kk H1 locs1 ⟨?_, hw.2.1, h3⟩)
  rw [ws_putJ ho hf] at h1
  exact h1
theorem m_iald (C : Cx w D cy ad p R s m args meth c b nL own ret d) (hw : Wd w D cy ad s σ H locs) {n : Nat} (ha : IsA w i 0 n) {x : Int32} (hin : vp_in x n) (hdg : decode b pc = .ok (.iaload, 1))
    (kk : W p l e R s m args below meth c H locs cells slots Q (F0 m (pc + 1) ls (.int (σ.1 i x.toNatClampNeg) :: rest))) : W p l e R s m args below meth c H locs cells slots Q (F0 m pc ls (.int x :: .ref (ad i) :: rest)) :=
  va_iald C.1 C.2.1 C.2.2.2.2.2.2.2.2.1.1 hw.1 i 0 ((ws_get ha.1).trans (by rw [cell_i ha (by decide) (by decide)])) rfl hin hdg kk
theorem m_bald (C : Cx w D cy ad p R s m args meth c b nL own ret d) (hw : Wd w D cy ad s σ H locs) {n : Nat} (ha : IsA w i 2 n) {x : Int32} (hin : vp_in x n) (hdg : decode b pc = .ok (.baload, 1))
    (kk : W p l e R s m args below meth c H locs cells slots Q (F0 m (pc + 1) ls (.int (σ.1 i x.toNatClampNeg) :: rest))) : W p l e R s m args below meth c H locs cells slots Q (F0 m pc ls (.int x :: .ref (ad i) :: rest)) :=
  va_bald C.1 C.2.1 C.2.2.2.2.2.2.2.2.1.1 hw.1 i 2 ((ws_get ha.1).trans (by rw [cell_i ha (by decide) (by decide)])) rfl hin hdg kk
theorem m_sald (C : Cx w D cy ad p R s m args meth c b nL own ret d) (hw : Wd w D cy ad s σ H locs) {n : Nat} (ha : IsA w i 3 n) {x : Int32} (hin : vp_in x n) (hdg : decode b pc = .ok (.saload, 1))
    (kk : W p l e R s m args below meth c H locs cells slots Q (F0 m (pc + 1) ls (.int (σ.1 i x.toNatClampNeg) :: rest))) : W p l e R s m args below meth c H locs cells slots Q (F0 m pc ls (.int x :: .ref (ad i) :: rest)) :=
  va_sald C.1 C.2.1 C.2.2.2.2.2.2.2.2.1.1 hw.1 i 3 ((ws_get ha.1).trans (by rw [cell_i ha (by decide) (by decide)])) rfl hin hdg kk
theorem m_zald (C : Cx w D cy ad p R s m args meth c b nL own ret d) (hw : Wd w D cy ad s σ H locs) {n : Nat} (ha : IsA w i 4 n) {x : Int32} (hin : vp_in x n) (hdg : decode b pc = .ok (.baload, 1))
    (kk : W p l e R s m args below meth c H locs cells slots Q (F0 m (pc + 1) ls (.int (σ.1 i x.toNatClampNeg) :: rest))) : W p l e R s m args below meth c H locs cells slots Q (F0 m pc ls (.int x :: .ref (ad i) :: rest)) :=
  va_zald C.1 C.2.1 C.2.2.2.2.2.2.2.2.1.1 hw.1 i 4 ((ws_get ha.1).trans (by rw [cell_i ha (by decide) (by decide)])) rfl hin hdg kk
theorem m_lald (C : Cx w D cy ad p R s m args meth c b nL own ret d) (hw : Wd w D cy ad s σ H locs) {n : Nat} (ha : IsA w i 1 n) {x : Int32} (hin : vp_in x n) (hdg : decode b pc = .ok (.laload, 1))
    (kk : W p l e R s m args below meth c H locs cells slots Q (F0 m (pc + 1) ls (.long (σ.2.1 i x.toNatClampNeg) :: rest))) : W p l e R s m args below meth c H locs cells slots Q (F0 m pc ls (.int x :: .ref (ad i) :: rest)) :=
  va_lald C.1 C.2.1 C.2.2.2.2.2.2.2.2.1.1 hw.1 i 1 ((ws_get ha.1).trans (by rw [cell_j ha])) rfl hin hdg kk
theorem m_aald (C : Cx w D cy ad p R s m args meth c b nL own ret d) (hw : Wd w D cy ad s σ H locs) {n : Nat} (ha : IsA w i 5 n) {x : Int32} (hin : vp_in x n) (hdg : decode b pc = .ok (.aaload, 1))
    (kk : W p l e R s m args below meth c H locs cells slots Q (F0 m (pc + 1) ls (.ref (ad (frW w i x.toNatClampNeg)) :: rest))) : W p l e R s m args below meth c H locs cells slots Q (F0 m pc ls (.int x :: .ref (ad i) :: rest)) :=
  va_aldq (f := fun j => some (ad (frW w i j))) C.1 C.2.1 C.2.2.2.2.2.2.2.2.1.1 hw.1 i 5 ((ws_get ha.1).trans (by rw [cell_q ha])) rfl hin hdg kk
theorem m_iast (C : Cx w D cy ad p R s m args meth c b nL own ret d) (hw : Wd w D cy ad s σ H locs) {n : Nat} (ha : IsA w i 0 n) {x v : Int32} (hin : vp_in x n) (hdg : decode b pc = .ok (.iastore, 1))
    (kk : ∀ (H1 : Heap) (locs1 : List Loc), Wd w D cy ad s (sI σ i x.toNatClampNeg v) H1 locs1 → W p l e R s m args below meth c H1 locs1 cells slots Q (F0 m (pc + 1) ls rest)) : W p l e R s m args below meth c H locs cells slots Q (F0 m pc ls (.int v :: .int x :: .ref (ad i) :: rest)) :=
  va_iast C.1 C.2.1 C.2.2.2.2.2.2.2.2.1.1 hw.1 (ws_D C.2.2.2.2.2.2.2.2.2) hw.2.2 i 0 ((ws_get ha.1).trans (by rw [cell_i ha (by decide) (by decide)])) rfl hin hdg (fun H1 locs1 h1 _ h3 => kk H1 locs1 ⟨by rw [ws_ast ha (by decide) (by decide)] at h1; exact h1, hw.2.1, h3⟩)
theorem m_bast (C : Cx w D cy ad p R s m args meth c b nL own ret d) (hw : Wd w D cy ad s σ H locs) {n : Nat} (ha : IsA w i 2 n) {x v : Int32} (hin : vp_in x n) (hdg : decode b pc = .ok (.bastore, 1))
    (kk : ∀ (H1 : Heap) (locs1 : List Loc), Wd w D cy ad s (sI σ i x.toNatClampNeg (vp_nar .byte v)) H1 locs1 → W p l e R s m args below meth c H1 locs1 cells slots Q (F0 m (pc + 1) ls rest)) : W p l e R s m args below meth c H locs cells slots Q (F0 m pc ls (.int v :: .int x :: .ref (ad i) :: rest)) :=
  va_bast C.1 C.2.1 C.2.2.2.2.2.2.2.2.1.1 hw.1 (ws_D C.2.2.2.2.2.2.2.2.2) hw.2.2 i 2 ((ws_get ha.1).trans (by rw [cell_i ha (by decide) (by decide)])) rfl hin hdg (fun H1 locs1 h1 _ h3 => kk H1 locs1 ⟨by rw [ws_ast ha (by decide) (by decide)] at h1; exact h1, hw.2.1, h3⟩)
theorem m_sast (C : Cx w D cy ad p R s m args meth c b nL own ret d) (hw : Wd w D cy ad s σ H locs) {n : Nat} (ha : IsA w i 3 n) {x v : Int32} (hin : vp_in x n) (hdg : decode b pc = .ok (.sastore, 1))
    (kk : ∀ (H1 : Heap) (locs1 : List Loc), Wd w D cy ad s (sI σ i x.toNatClampNeg (vp_nar .short v)) H1 locs1 → W p l e R s m args below meth c H1 locs1 cells slots Q (F0 m (pc + 1) ls rest)) : W p l e R s m args below meth c H locs cells slots Q (F0 m pc ls (.int v :: .int x :: .ref (ad i) :: rest)) :=
  va_sast C.1 C.2.1 C.2.2.2.2.2.2.2.2.1.1 hw.1 (ws_D C.2.2.2.2.2.2.2.2.2) hw.2.2 i 3 ((ws_get ha.1).trans (by rw [cell_i ha (by decide) (by decide)])) rfl hin hdg (fun H1 locs1 h1 _ h3 => kk H1 locs1 ⟨by rw [ws_ast ha (by decide) (by decide)] at h1; exact h1, hw.2.1, h3⟩)
theorem m_zast (C : Cx w D cy ad p R s m args meth c b nL own ret d) (hw : Wd w D cy ad s σ H locs) {n : Nat} (ha : IsA w i 4 n) {x v : Int32} (hin : vp_in x n) (hdg : decode b pc = .ok (.bastore, 1))
    (kk : ∀ (H1 : Heap) (locs1 : List Loc), Wd w D cy ad s (sI σ i x.toNatClampNeg (vp_nar .boolean v)) H1 locs1 → W p l e R s m args below meth c H1 locs1 cells slots Q (F0 m (pc + 1) ls rest)) : W p l e R s m args below meth c H locs cells slots Q (F0 m pc ls (.int v :: .int x :: .ref (ad i) :: rest)) :=
  va_zast C.1 C.2.1 C.2.2.2.2.2.2.2.2.1.1 hw.1 (ws_D C.2.2.2.2.2.2.2.2.2) hw.2.2 i 4 ((ws_get ha.1).trans (by rw [cell_i ha (by decide) (by decide)])) rfl hin hdg (fun H1 locs1 h1 _ h3 => kk H1 locs1 ⟨by rw [ws_ast ha (by decide) (by decide)] at h1; exact h1, hw.2.1, h3⟩)
theorem m_last (C : Cx w D cy ad p R s m args meth c b nL own ret d) (hw : Wd w D cy ad s σ H locs) {n : Nat} (ha : IsA w i 1 n) {x : Int32} {v : Int64} (hin : vp_in x n) (hdg : decode b pc = .ok (.lastore, 1))
    (kk : ∀ (H1 : Heap) (locs1 : List Loc), Wd w D cy ad s (sJ σ i x.toNatClampNeg v) H1 locs1 → W p l e R s m args below meth c H1 locs1 cells slots Q (F0 m (pc + 1) ls rest)) : W p l e R s m args below meth c H locs cells slots Q (F0 m pc ls (.long v :: .int x :: .ref (ad i) :: rest)) :=
  va_last C.1 C.2.1 C.2.2.2.2.2.2.2.2.1.1 hw.1 (ws_D C.2.2.2.2.2.2.2.2.2) hw.2.2 i 1 ((ws_get ha.1).trans (by rw [cell_j ha])) rfl hin hdg (fun H1 locs1 h1 _ h3 => kk H1 locs1 ⟨by rw [ws_astJ ha] at h1; exact h1, hw.2.1, h3⟩)
end MR

