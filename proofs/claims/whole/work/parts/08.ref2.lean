/-! the reference: functions and walks, 2 -/
noncomputable def b_X9_findPairs_22 (a1 : Int32) (a2 : Int32) (v3 : Int32) (σ : Mem) : Option ((Int32 × Mem) ⊕ Mem) :=
  if (4 : Int32) ≤ v3 then (some (.inr σ)) else ((f_X9_pairOf v3 (-1 : Int32) (-1 : Int32) σ).bind (fun r5 => gd (ix v3 4) (lt (sI r5.2 17 v3.toNatClampNeg r5.1) (fun σ6 => lt (v3 + (1 : Int32)) (fun x7 => some (.inl (x7, σ6)))))))
noncomputable def b_X9_findPairs_97 (a1 : Int32) (a2 : Int32) (v3 : Int32) (v4 : Int32) (v5 : Int32) (σ : Mem) : Option ((Int32 × Int32 × Int32 × Mem) ⊕ (Int32 × Int32 × Mem)) :=
  if v3 < v5 then (some (.inr (v3, v4, σ))) else (if (σ.1 0 30) = 0 then ((f_X9_pairOf ((6 : Int32) + v4) v3 v5 σ).bind (fun r11 => gd (ix ((((14400 : Int32) * v4) + ((120 : Int32) * v3)) + v5) 28800) (lt (sI r11.2 19 ((((14400 : Int32) * v4) + ((120 : Int32) * v3)) + v5).toNatClampNeg r11.1) (fun σ12 => (f_X9_pairOf ((6 : Int32) + v4) v5 v3 σ12).bind (fun r13 => gd (ix ((((14400 : Int32) * v4) + ((120 : Int32) * v5)) + v3) 28800) (lt (sI r13.2 19 ((((14400 : Int32) * v4) + ((120 : Int32) * v5)) + v3).toNatClampNeg r13.1) (fun σ14 => lt (v5 + (1 : Int32)) (fun x15 => some (.inl (v3, v4, x15, σ14)))))))))) else (some (.inr (v3, v4, σ))))
noncomputable def j_X9_findPairs_178 (a1 : Int32) (a2 : Int32) (v3 : Int32) (v4 : Int32) (σ : Mem) : Option ((Int32 × Int32 × Mem) ⊕ (Int32 × Mem)) :=
  lt (v4 + (1 : Int32)) (fun x17 => some (.inl (v3, x17, σ)))
noncomputable def b_X9_findPairs_66 (a1 : Int32) (a2 : Int32) (v3 : Int32) (v4 : Int32) (σ : Mem) : Option ((Int32 × Int32 × Mem) ⊕ (Int32 × Mem)) :=
  if (2 : Int32) ≤ v4 then (some (.inr (v3, σ))) else ((f_X9_pairOf ((4 : Int32) + v4) v3 (-1 : Int32) σ).bind (fun r9 => gd (ix (((120 : Int32) * v4) + v3) 240) (lt (sI r9.2 18 (((120 : Int32) * v4) + v3).toNatClampNeg r9.1) (fun σ10 => (Lim (T := (Int32 × Int32 × Mem)) (fun s => b_X9_findPairs_97 a1 a2 s.1 s.2.1 s.2.2.1 s.2.2.2) (v3, v4, (0 : Int32), σ10)).bind (fun r16 => j_X9_findPairs_178 a1 a2 r16.1 r16.2.1 r16.2.2)))))
noncomputable def b_X9_findPairs_48 (a1 : Int32) (a2 : Int32) (v3 : Int32) (σ : Mem) : Option ((Int32 × Mem) ⊕ Mem) :=
  if (σ.1 0 22) ≤ v3 then (some (.inr σ)) else (if (σ.1 0 30) = 0 then ((Lim (T := (Int32 × Mem)) (fun s => b_X9_findPairs_66 a1 a2 s.1 s.2.1 s.2.2) (v3, (0 : Int32), σ)).bind (fun r18 => lt (r18.1 + (1 : Int32)) (fun x19 => some (.inl (x19, r18.2))))) else (some (.inr σ)))
noncomputable def f_X9_findPairs (a1 : Int32) (a2 : Int32) (σ : Mem) : Option Mem :=
  lt (sI σ 0 28 a1) (fun σ1 => lt (sI σ1 0 29 a2) (fun σ2 => lt (sI σ2 0 22 (0 : Int32)) (fun σ3 => lt (sI σ3 0 30 (0 : Int32)) (fun σ4 => (Lim (T := Mem) (fun s => b_X9_findPairs_22 a1 a2 s.1 s.2) ((0 : Int32), σ4)).bind (fun r8 => (Lim (T := Mem) (fun s => b_X9_findPairs_48 a1 a2 s.1 s.2) ((0 : Int32), r8)).bind (fun r20 => some r20))))))
set_option maxRecDepth 20000 in
theorem w_X9_findPairs_22 {D : va_G} {cy : Nat → ClassId} {ad : Nat → Nat} {p : Program} {l : Launch} {e : Env} {R : Room} {s : State} {m : MethodId} {args : Array Value} {below : List Frame} {meth : Method} {c : Code} (C : Cx 0 D cy ad p R s m args meth c cX9_findPairs 6 RX9 none 3) {a1 : Int32} {a2 : Int32}  {v3 : Int32} {σ : Mem} {Q : State → Prop} {r : Mem} (hL : Lim (T := Mem) (fun s => b_X9_findPairs_22 a1 a2 s.1 s.2) (v3, σ) = some r) (hE0 : ∀ (σ1 : Mem), (σ1 : Mem) = r → ∀ (H : Heap) (locs : List Loc) (ls : Array Slot), Wd 0 D cy ad s σ1 H locs → lv_has ls 6 [(0, .ref (ad (0)))] → W p l e R s m args below meth c H locs 0 0 Q (F0 m 46 ls [])) (H : Heap) (locs : List Loc) (ls : Array Slot) (hw : Wd 0 D cy ad s σ H locs) (hl : lv_has ls 6 [(0, .ref (ad (0))), (3, .int v3)]) : W p l e R s m args below meth c H locs 0 0 Q (F0 m 22 ls []) := by
  refine Lim_ind hL (P := fun u => ∀ (H : Heap) (locs : List Loc) (ls : Array Slot), Wd 0 D cy ad s u.2 H locs → lv_has ls 6 [(0, .ref (ad (0))), (3, .int u.1)] → W p l e R s m args below meth c H locs 0 0 Q (F0 m 22 ls [])) (fun u x h hx H locs ls hw hl => ?_) H locs ls hw hl
  clear hL
  obtain ⟨v3, σ⟩ := u
  have h : b_X9_findPairs_22 a1 a2 v3 σ = some x := h
  have hw : Wd 0 D cy ad s σ H locs := hw
  have hl : lv_has ls 6 [(0, .ref (ad (0))), (3, .int v3)] := hl
  have hP : ∀ (u : (Int32 × Mem)), (∀ (H : Heap) (locs : List Loc) (ls : Array Slot), Wd 0 D cy ad s u.2 H locs → lv_has ls 6 [(0, .ref (ad (0))), (3, .int u.1)] → W p l e R s m args below meth c H locs 0 0 Q (F0 m 22 ls [])) → ∀ (H : Heap) (locs : List Loc) (ls : Array Slot), Wd 0 D cy ad s u.2 H locs → lv_has ls 6 [(0, .ref (ad (0))), (3, .int u.1)] → W p l e R s m args below meth c H locs 0 0 Q (F0 m 22 ls []) := fun _ k => k
  unfold b_X9_findPairs_22 at h
  refine lv_iload_n C.1 C.2.1 dX9_findPairs_22 rfl (lv_at hl 1 rfl) ?_
  refine lv_iconst (v := (4 : Int32)) C.1 C.2.1 dX9_findPairs_23 (by decide) ?_
  refine lv_icmp_ge (tgt := 46) C.1 C.2.1 dX9_findPairs_24 (by decide) (fun cd => ?_) (fun cd => ?_)
  · have h := ite_t cd h
    obtain rfl := Option.some.inj h
    exact hE0 _ hx _ _ _ hw (lv_sub hl [0] rfl)
  · have h := ite_f cd h
    refine lv_aload_n C.1 C.2.1 dX9_findPairs_27 rfl (lv_at hl 0 rfl) ?_
    refine gf_X9_61 C hw dX9_findPairs_28 ?_
    refine lv_iload_n C.1 C.2.1 dX9_findPairs_31 rfl (lv_at hl 1 rfl) ?_
    refine lv_aload_n C.1 C.2.1 dX9_findPairs_32 rfl (lv_at hl 0 rfl) ?_
    refine lv_iload_n C.1 C.2.1 dX9_findPairs_33 rfl (lv_at hl 1 rfl) ?_
    refine lv_iconst (v := (-1 : Int32)) C.1 C.2.1 dX9_findPairs_34 (by decide) ?_
    refine lv_iconst (v := (-1 : Int32)) C.1 C.2.1 dX9_findPairs_35 (by decide) ?_
    obtain ⟨r5, h1, h⟩ := bS h
    refine go_I hw (run_V (As := [.int _, .int _, .int _]) C hw (c_X9_pairOf C.2.2.2.2.2.2.2.2.2 _ _ _ _ _ h1) mi_X9_pairOf mv_X9_pairOf o0_0 (ci := 9) rfl rfl lk_X9_183 (by decide) (by decide) rfl hl.1 rfl (Nat.le_of_ble_eq_true rfl) dX9_findPairs_36 ⟨Nat.le_refl 0, Nat.le_refl 0⟩) (fun H locs hw => ?_)
    obtain ⟨hin, h⟩ := gd_of h
    refine m_iast C hw a0_17 hin dX9_findPairs_39 (fun H locs hw => ?_)
    obtain ⟨σ6, eσ6, h⟩ := lt_of h
    rw [← eσ6] at hw
    obtain ⟨x7, ex7, h⟩ := lt_of h
    refine m_iinc (k := 1) (lv' := [(3, .int _), (0, .ref _)]) C (1 : Int32) (by decide) dX9_findPairs_40 hl rfl ex7.symm (by decide) rfl (fun ls hl => ?_)
    refine lv_goto (tgt := 22) C.1 C.2.1 dX9_findPairs_43 (by decide) ?_
    obtain rfl := Option.some.inj h
    exact hP _ hx _ _ _ hw (lv_sub hl [1, 0] rfl)
set_option maxRecDepth 20000 in
theorem w_X9_findPairs_97 {D : va_G} {cy : Nat → ClassId} {ad : Nat → Nat} {p : Program} {l : Launch} {e : Env} {R : Room} {s : State} {m : MethodId} {args : Array Value} {below : List Frame} {meth : Method} {c : Code} (C : Cx 0 D cy ad p R s m args meth c cX9_findPairs 6 RX9 none 3) {a1 : Int32} {a2 : Int32}  {v3 : Int32} {v4 : Int32} {v5 : Int32} {σ : Mem} {Q : State → Prop} {r : (Int32 × Int32 × Mem)} (hL : Lim (T := (Int32 × Int32 × Mem)) (fun s => b_X9_findPairs_97 a1 a2 s.1 s.2.1 s.2.2.1 s.2.2.2) (v3, v4, v5, σ) = some r) (hE0 : ∀ (v3 : Int32) (v4 : Int32) (σ1 : Mem), ((v3, v4, σ1) : (Int32 × Int32 × Mem)) = r → ∀ (H : Heap) (locs : List Loc) (ls : Array Slot), Wd 0 D cy ad s σ1 H locs → lv_has ls 6 [(0, .ref (ad (0))), (3, .int v3), (4, .int v4)] → W p l e R s m args below meth c H locs 0 0 Q (F0 m 178 ls [])) (H : Heap) (locs : List Loc) (ls : Array Slot) (hw : Wd 0 D cy ad s σ H locs) (hl : lv_has ls 6 [(0, .ref (ad (0))), (3, .int v3), (4, .int v4), (5, .int v5)]) : W p l e R s m args below meth c H locs 0 0 Q (F0 m 97 ls []) := by
  refine Lim_ind hL (P := fun u => ∀ (H : Heap) (locs : List Loc) (ls : Array Slot), Wd 0 D cy ad s u.2.2.2 H locs → lv_has ls 6 [(0, .ref (ad (0))), (3, .int u.1), (4, .int u.2.1), (5, .int u.2.2.1)] → W p l e R s m args below meth c H locs 0 0 Q (F0 m 97 ls [])) (fun u x h hx H locs ls hw hl => ?_) H locs ls hw hl
  clear hL
  obtain ⟨v3, v4, v5, σ⟩ := u
  have h : b_X9_findPairs_97 a1 a2 v3 v4 v5 σ = some x := h
  have hw : Wd 0 D cy ad s σ H locs := hw
  have hl : lv_has ls 6 [(0, .ref (ad (0))), (3, .int v3), (4, .int v4), (5, .int v5)] := hl
  have hP : ∀ (u : (Int32 × Int32 × Int32 × Mem)), (∀ (H : Heap) (locs : List Loc) (ls : Array Slot), Wd 0 D cy ad s u.2.2.2 H locs → lv_has ls 6 [(0, .ref (ad (0))), (3, .int u.1), (4, .int u.2.1), (5, .int u.2.2.1)] → W p l e R s m args below meth c H locs 0 0 Q (F0 m 97 ls [])) → ∀ (H : Heap) (locs : List Loc) (ls : Array Slot), Wd 0 D cy ad s u.2.2.2 H locs → lv_has ls 6 [(0, .ref (ad (0))), (3, .int u.1), (4, .int u.2.1), (5, .int u.2.2.1)] → W p l e R s m args below meth c H locs 0 0 Q (F0 m 97 ls []) := fun _ k => k
  unfold b_X9_findPairs_97 at h
  refine lv_iload C.1 C.2.1 dX9_findPairs_97 (lv_at hl 3 rfl) ?_
  refine lv_iload_n C.1 C.2.1 dX9_findPairs_99 rfl (lv_at hl 1 rfl) ?_
  refine lv_icmp_gt (tgt := 178) C.1 C.2.1 dX9_findPairs_100 (by decide) (fun cd => ?_) (fun cd => ?_)
  · have h := ite_t cd h
    obtain rfl := Option.some.inj h
    exact hE0 _ _ _ hx _ _ _ hw (lv_sub hl [0, 1, 2] rfl)
  · have h := ite_f cd h
    refine lv_aload_n C.1 C.2.1 dX9_findPairs_103 rfl (lv_at hl 0 rfl) ?_
    refine gf_X9_176 C hw dX9_findPairs_104 ?_
    refine lv_if_ne (tgt := 178) C.1 C.2.1 dX9_findPairs_107 (by decide) (fun cd => ?_) (fun cd => ?_)
    · have h := ite_f cd h
      obtain rfl := Option.some.inj h
      exact hE0 _ _ _ hx _ _ _ hw (lv_sub hl [0, 1, 2] rfl)
    · have h := ite_t cd h
      refine lv_aload_n C.1 C.2.1 dX9_findPairs_110 rfl (lv_at hl 0 rfl) ?_
      refine gf_X9_67 C hw dX9_findPairs_111 ?_
      refine lv_sipush (v := (14400 : Int32)) C.1 C.2.1 dX9_findPairs_114 (by decide) ?_
      refine lv_iload C.1 C.2.1 dX9_findPairs_117 (lv_at hl 2 rfl) ?_
      refine lv_imul C.1 C.2.1 dX9_findPairs_119 ?_
      refine lv_bipush (v := (120 : Int32)) C.1 C.2.1 dX9_findPairs_120 (by decide) ?_
      refine lv_iload_n C.1 C.2.1 dX9_findPairs_122 rfl (lv_at hl 1 rfl) ?_
      refine lv_imul C.1 C.2.1 dX9_findPairs_123 ?_
      refine lv_iadd C.1 C.2.1 dX9_findPairs_124 ?_
      refine lv_iload C.1 C.2.1 dX9_findPairs_125 (lv_at hl 3 rfl) ?_
      refine lv_iadd C.1 C.2.1 dX9_findPairs_127 ?_
      refine lv_aload_n C.1 C.2.1 dX9_findPairs_128 rfl (lv_at hl 0 rfl) ?_
      refine lv_bipush (v := (6 : Int32)) C.1 C.2.1 dX9_findPairs_129 (by decide) ?_
      refine lv_iload C.1 C.2.1 dX9_findPairs_131 (lv_at hl 2 rfl) ?_
      refine lv_iadd C.1 C.2.1 dX9_findPairs_133 ?_
      refine lv_iload_n C.1 C.2.1 dX9_findPairs_134 rfl (lv_at hl 1 rfl) ?_
      refine lv_iload C.1 C.2.1 dX9_findPairs_135 (lv_at hl 3 rfl) ?_
      obtain ⟨r11, h1, h⟩ := bS h
      refine go_I hw (run_V (As := [.int _, .int _, .int _]) C hw (c_X9_pairOf C.2.2.2.2.2.2.2.2.2 _ _ _ _ _ h1) mi_X9_pairOf mv_X9_pairOf o0_0 (ci := 9) rfl rfl lk_X9_183 (by decide) (by decide) rfl hl.1 rfl (Nat.le_of_ble_eq_true rfl) dX9_findPairs_137 ⟨Nat.le_refl 0, Nat.le_refl 0⟩) (fun H locs hw => ?_)
      obtain ⟨hin, h⟩ := gd_of h
      refine m_iast C hw a0_19 hin dX9_findPairs_140 (fun H locs hw => ?_)
      obtain ⟨σ12, eσ12, h⟩ := lt_of h
      rw [← eσ12] at hw
      refine lv_aload_n C.1 C.2.1 dX9_findPairs_141 rfl (lv_at hl 0 rfl) ?_
      refine gf_X9_67 C hw dX9_findPairs_142 ?_
      refine lv_sipush (v := (14400 : Int32)) C.1 C.2.1 dX9_findPairs_145 (by decide) ?_
      refine lv_iload C.1 C.2.1 dX9_findPairs_148 (lv_at hl 2 rfl) ?_
      refine lv_imul C.1 C.2.1 dX9_findPairs_150 ?_
      refine lv_bipush (v := (120 : Int32)) C.1 C.2.1 dX9_findPairs_151 (by decide) ?_
      refine lv_iload C.1 C.2.1 dX9_findPairs_153 (lv_at hl 3 rfl) ?_
      refine lv_imul C.1 C.2.1 dX9_findPairs_155 ?_
      refine lv_iadd C.1 C.2.1 dX9_findPairs_156 ?_
      refine lv_iload_n C.1 C.2.1 dX9_findPairs_157 rfl (lv_at hl 1 rfl) ?_
      refine lv_iadd C.1 C.2.1 dX9_findPairs_158 ?_
      refine lv_aload_n C.1 C.2.1 dX9_findPairs_159 rfl (lv_at hl 0 rfl) ?_
      refine lv_bipush (v := (6 : Int32)) C.1 C.2.1 dX9_findPairs_160 (by decide) ?_
      refine lv_iload C.1 C.2.1 dX9_findPairs_162 (lv_at hl 2 rfl) ?_
      refine lv_iadd C.1 C.2.1 dX9_findPairs_164 ?_
      refine lv_iload C.1 C.2.1 dX9_findPairs_165 (lv_at hl 3 rfl) ?_
      refine lv_iload_n C.1 C.2.1 dX9_findPairs_167 rfl (lv_at hl 1 rfl) ?_
      obtain ⟨r13, h1, h⟩ := bS h
      refine go_I hw (run_V (As := [.int _, .int _, .int _]) C hw (c_X9_pairOf C.2.2.2.2.2.2.2.2.2 _ _ _ _ _ h1) mi_X9_pairOf mv_X9_pairOf o0_0 (ci := 9) rfl rfl lk_X9_183 (by decide) (by decide) rfl hl.1 rfl (Nat.le_of_ble_eq_true rfl) dX9_findPairs_168 ⟨Nat.le_refl 0, Nat.le_refl 0⟩) (fun H locs hw => ?_)
      obtain ⟨hin, h⟩ := gd_of h
      refine m_iast C hw a0_19 hin dX9_findPairs_171 (fun H locs hw => ?_)
      obtain ⟨σ14, eσ14, h⟩ := lt_of h
      rw [← eσ14] at hw
      obtain ⟨x15, ex15, h⟩ := lt_of h
      refine m_iinc (k := 3) (lv' := [(5, .int _), (0, .ref _), (3, .int _), (4, .int _)]) C (1 : Int32) (by decide) dX9_findPairs_172 hl rfl ex15.symm (by decide) rfl (fun ls hl => ?_)
      refine lv_goto (tgt := 97) C.1 C.2.1 dX9_findPairs_175 (by decide) ?_
      obtain rfl := Option.some.inj h
      exact hP _ hx _ _ _ hw (lv_sub hl [1, 2, 3, 0] rfl)
set_option maxRecDepth 20000 in
theorem w_X9_findPairs_178 {D : va_G} {cy : Nat → ClassId} {ad : Nat → Nat} {p : Program} {l : Launch} {e : Env} {R : Room} {s : State} {m : MethodId} {args : Array Value} {below : List Frame} {meth : Method} {c : Code} (C : Cx 0 D cy ad p R s m args meth c cX9_findPairs 6 RX9 none 3) {a1 : Int32} {a2 : Int32}  {v3 : Int32} {v4 : Int32}  {σ : Mem} {H : Heap} {locs : List Loc} {ls : Array Slot} {Q : State → Prop} {P : (Int32 × Int32 × Mem) → Prop} {r : (Int32 × Mem)} {x : (Int32 × Int32 × Mem) ⊕ (Int32 × Mem)} (hx : LimQ P r x) (hP : ∀ u, P u → ∀ (H : Heap) (locs : List Loc) (ls : Array Slot), Wd 0 D cy ad s u.2.2 H locs → lv_has ls 6 [(0, .ref (ad (0))), (3, .int u.1), (4, .int u.2.1)] → W p l e R s m args below meth c H locs 0 0 Q (F0 m 66 ls [])) (hE0 : ∀ (v3 : Int32) (σ1 : Mem), ((v3, σ1) : (Int32 × Mem)) = r → ∀ (H : Heap) (locs : List Loc) (ls : Array Slot), Wd 0 D cy ad s σ1 H locs → lv_has ls 6 [(0, .ref (ad (0))), (3, .int v3)] → W p l e R s m args below meth c H locs 0 0 Q (F0 m 184 ls [])) (hw : Wd 0 D cy ad s σ H locs) (hl : lv_has ls 6 [(0, .ref (ad (0))), (3, .int v3), (4, .int v4)]) (h : j_X9_findPairs_178 a1 a2 v3 v4 σ = some x) : W p l e R s m args below meth c H locs 0 0 Q (F0 m 178 ls []) := by
  unfold j_X9_findPairs_178 at h
  obtain ⟨x17, ex17, h⟩ := lt_of h
  refine m_iinc (k := 2) (lv' := [(4, .int _), (0, .ref _), (3, .int _)]) C (1 : Int32) (by decide) dX9_findPairs_178 hl rfl ex17.symm (by decide) rfl (fun ls hl => ?_)
  refine lv_goto (tgt := 66) C.1 C.2.1 dX9_findPairs_181 (by decide) ?_
  obtain rfl := Option.some.inj h
  exact hP _ hx _ _ _ hw (lv_sub hl [1, 2, 0] rfl)
set_option maxRecDepth 20000 in
theorem w_X9_findPairs_66 {D : va_G} {cy : Nat → ClassId} {ad : Nat → Nat} {p : Program} {l : Launch} {e : Env} {R : Room} {s : State} {m : MethodId} {args : Array Value} {below : List Frame} {meth : Method} {c : Code} (C : Cx 0 D cy ad p R s m args meth c cX9_findPairs 6 RX9 none 3) {a1 : Int32} {a2 : Int32}  {v3 : Int32} {v4 : Int32} {σ : Mem} {Q : State → Prop} {r : (Int32 × Mem)} (hL : Lim (T := (Int32 × Mem)) (fun s => b_X9_findPairs_66 a1 a2 s.1 s.2.1 s.2.2) (v3, v4, σ) = some r) (hE0 : ∀ (v3 : Int32) (σ1 : Mem), ((v3, σ1) : (Int32 × Mem)) = r → ∀ (H : Heap) (locs : List Loc) (ls : Array Slot), Wd 0 D cy ad s σ1 H locs → lv_has ls 6 [(0, .ref (ad (0))), (3, .int v3)] → W p l e R s m args below meth c H locs 0 0 Q (F0 m 184 ls [])) (H : Heap) (locs : List Loc) (ls : Array Slot) (hw : Wd 0 D cy ad s σ H locs) (hl : lv_has ls 6 [(0, .ref (ad (0))), (3, .int v3), (4, .int v4)]) : W p l e R s m args below meth c H locs 0 0 Q (F0 m 66 ls []) := by
  refine Lim_ind hL (P := fun u => ∀ (H : Heap) (locs : List Loc) (ls : Array Slot), Wd 0 D cy ad s u.2.2 H locs → lv_has ls 6 [(0, .ref (ad (0))), (3, .int u.1), (4, .int u.2.1)] → W p l e R s m args below meth c H locs 0 0 Q (F0 m 66 ls [])) (fun u x h hx H locs ls hw hl => ?_) H locs ls hw hl
  clear hL
  obtain ⟨v3, v4, σ⟩ := u
  have h : b_X9_findPairs_66 a1 a2 v3 v4 σ = some x := h
  have hw : Wd 0 D cy ad s σ H locs := hw
  have hl : lv_has ls 6 [(0, .ref (ad (0))), (3, .int v3), (4, .int v4)] := hl
  have hP : ∀ (u : (Int32 × Int32 × Mem)), (∀ (H : Heap) (locs : List Loc) (ls : Array Slot), Wd 0 D cy ad s u.2.2 H locs → lv_has ls 6 [(0, .ref (ad (0))), (3, .int u.1), (4, .int u.2.1)] → W p l e R s m args below meth c H locs 0 0 Q (F0 m 66 ls [])) → ∀ (H : Heap) (locs : List Loc) (ls : Array Slot), Wd 0 D cy ad s u.2.2 H locs → lv_has ls 6 [(0, .ref (ad (0))), (3, .int u.1), (4, .int u.2.1)] → W p l e R s m args below meth c H locs 0 0 Q (F0 m 66 ls []) := fun _ k => k
  unfold b_X9_findPairs_66 at h
  refine lv_iload C.1 C.2.1 dX9_findPairs_66 (lv_at hl 2 rfl) ?_
  refine lv_iconst (v := (2 : Int32)) C.1 C.2.1 dX9_findPairs_68 (by decide) ?_
  refine lv_icmp_ge (tgt := 184) C.1 C.2.1 dX9_findPairs_69 (by decide) (fun cd => ?_) (fun cd => ?_)
  · have h := ite_t cd h
    obtain rfl := Option.some.inj h
    exact hE0 _ _ hx _ _ _ hw (lv_sub hl [0, 1] rfl)
  · have h := ite_f cd h
    refine lv_aload_n C.1 C.2.1 dX9_findPairs_72 rfl (lv_at hl 0 rfl) ?_
    refine gf_X9_64 C hw dX9_findPairs_73 ?_
    refine lv_bipush (v := (120 : Int32)) C.1 C.2.1 dX9_findPairs_76 (by decide) ?_
    refine lv_iload C.1 C.2.1 dX9_findPairs_78 (lv_at hl 2 rfl) ?_
    refine lv_imul C.1 C.2.1 dX9_findPairs_80 ?_
    refine lv_iload_n C.1 C.2.1 dX9_findPairs_81 rfl (lv_at hl 1 rfl) ?_
    refine lv_iadd C.1 C.2.1 dX9_findPairs_82 ?_
    refine lv_aload_n C.1 C.2.1 dX9_findPairs_83 rfl (lv_at hl 0 rfl) ?_
    refine lv_iconst (v := (4 : Int32)) C.1 C.2.1 dX9_findPairs_84 (by decide) ?_
    refine lv_iload C.1 C.2.1 dX9_findPairs_85 (lv_at hl 2 rfl) ?_
    refine lv_iadd C.1 C.2.1 dX9_findPairs_87 ?_
    refine lv_iload_n C.1 C.2.1 dX9_findPairs_88 rfl (lv_at hl 1 rfl) ?_
    refine lv_iconst (v := (-1 : Int32)) C.1 C.2.1 dX9_findPairs_89 (by decide) ?_
    obtain ⟨r9, h1, h⟩ := bS h
    refine go_I hw (run_V (As := [.int _, .int _, .int _]) C hw (c_X9_pairOf C.2.2.2.2.2.2.2.2.2 _ _ _ _ _ h1) mi_X9_pairOf mv_X9_pairOf o0_0 (ci := 9) rfl rfl lk_X9_183 (by decide) (by decide) rfl hl.1 rfl (Nat.le_of_ble_eq_true rfl) dX9_findPairs_90 ⟨Nat.le_refl 0, Nat.le_refl 0⟩) (fun H locs hw => ?_)
    obtain ⟨hin, h⟩ := gd_of h
    refine m_iast C hw a0_18 hin dX9_findPairs_93 (fun H locs hw => ?_)
    obtain ⟨σ10, eσ10, h⟩ := lt_of h
    rw [← eσ10] at hw
    refine lv_iconst (v := (0 : Int32)) C.1 C.2.1 dX9_findPairs_94 (by decide) ?_
    refine lv_istore (lv' := [(5, .int _), (0, .ref _), (3, .int _), (4, .int _)]) C.1 C.2.1 dX9_findPairs_95 hl (by decide) rfl (fun ls hl => ?_)
    obtain ⟨r16, hL, h⟩ := bS h
    refine w_X9_findPairs_97 C  hL (fun y0 y1 y2 hr H locs ls hw hl => ?_) _ _ _ hw (lv_sub hl [1, 2, 3, 0] rfl)
    · subst hr
      try dsimp only at h
      try dsimp only at hw
      try dsimp only at hl
      exact w_X9_findPairs_178 C hx hP hE0 hw (lv_sub hl [0, 1, 2] rfl) h
set_option maxRecDepth 20000 in
theorem w_X9_findPairs_48 {D : va_G} {cy : Nat → ClassId} {ad : Nat → Nat} {p : Program} {l : Launch} {e : Env} {R : Room} {s : State} {m : MethodId} {args : Array Value} {below : List Frame} {meth : Method} {c : Code} (C : Cx 0 D cy ad p R s m args meth c cX9_findPairs 6 RX9 none 3) {a1 : Int32} {a2 : Int32}  {v3 : Int32} {σ : Mem} {Q : State → Prop} {r : Mem} (hL : Lim (T := Mem) (fun s => b_X9_findPairs_48 a1 a2 s.1 s.2) (v3, σ) = some r) (hE0 : ∀ (σ1 : Mem), (σ1 : Mem) = r → ∀ (H : Heap) (locs : List Loc) (ls : Array Slot), Wd 0 D cy ad s σ1 H locs → lv_has ls 6 [] → W p l e R s m args below meth c H locs 0 0 Q (F0 m 190 ls [])) (H : Heap) (locs : List Loc) (ls : Array Slot) (hw : Wd 0 D cy ad s σ H locs) (hl : lv_has ls 6 [(0, .ref (ad (0))), (3, .int v3)]) : W p l e R s m args below meth c H locs 0 0 Q (F0 m 48 ls []) := by
  refine Lim_ind hL (P := fun u => ∀ (H : Heap) (locs : List Loc) (ls : Array Slot), Wd 0 D cy ad s u.2 H locs → lv_has ls 6 [(0, .ref (ad (0))), (3, .int u.1)] → W p l e R s m args below meth c H locs 0 0 Q (F0 m 48 ls [])) (fun u x h hx H locs ls hw hl => ?_) H locs ls hw hl
  clear hL
  obtain ⟨v3, σ⟩ := u
  have h : b_X9_findPairs_48 a1 a2 v3 σ = some x := h
  have hw : Wd 0 D cy ad s σ H locs := hw
  have hl : lv_has ls 6 [(0, .ref (ad (0))), (3, .int v3)] := hl
  have hP : ∀ (u : (Int32 × Mem)), (∀ (H : Heap) (locs : List Loc) (ls : Array Slot), Wd 0 D cy ad s u.2 H locs → lv_has ls 6 [(0, .ref (ad (0))), (3, .int u.1)] → W p l e R s m args below meth c H locs 0 0 Q (F0 m 48 ls [])) → ∀ (H : Heap) (locs : List Loc) (ls : Array Slot), Wd 0 D cy ad s u.2 H locs → lv_has ls 6 [(0, .ref (ad (0))), (3, .int u.1)] → W p l e R s m args below meth c H locs 0 0 Q (F0 m 48 ls []) := fun _ k => k
  unfold b_X9_findPairs_48 at h
  refine lv_iload_n C.1 C.2.1 dX9_findPairs_48 rfl (lv_at hl 1 rfl) ?_
  refine lv_aload_n C.1 C.2.1 dX9_findPairs_49 rfl (lv_at hl 0 rfl) ?_
  refine gf_X9_173 C hw dX9_findPairs_50 ?_
  refine lv_icmp_ge (tgt := 190) C.1 C.2.1 dX9_findPairs_53 (by decide) (fun cd => ?_) (fun cd => ?_)
  · have h := ite_t cd h
    obtain rfl := Option.some.inj h
    exact hE0 _ hx _ _ _ hw (lv_sub hl [] rfl)
  · have h := ite_f cd h
    refine lv_aload_n C.1 C.2.1 dX9_findPairs_56 rfl (lv_at hl 0 rfl) ?_
    refine gf_X9_176 C hw dX9_findPairs_57 ?_
    refine lv_if_ne (tgt := 190) C.1 C.2.1 dX9_findPairs_60 (by decide) (fun cd => ?_) (fun cd => ?_)
    · have h := ite_f cd h
      obtain rfl := Option.some.inj h
      exact hE0 _ hx _ _ _ hw (lv_sub hl [] rfl)
    · have h := ite_t cd h
      refine lv_iconst (v := (0 : Int32)) C.1 C.2.1 dX9_findPairs_63 (by decide) ?_
      refine lv_istore (lv' := [(4, .int _), (0, .ref _), (3, .int _)]) C.1 C.2.1 dX9_findPairs_64 hl (by decide) rfl (fun ls hl => ?_)
      obtain ⟨r18, hL, h⟩ := bS h
      refine w_X9_findPairs_66 C  hL (fun y0 y1 hr H locs ls hw hl => ?_) _ _ _ hw (lv_sub hl [1, 2, 0] rfl)
      · subst hr
        try dsimp only at h
        try dsimp only at hw
        try dsimp only at hl
        obtain ⟨x19, ex19, h⟩ := lt_of h
        refine m_iinc (k := 1) (lv' := [(3, .int _), (0, .ref _)]) C (1 : Int32) (by decide) dX9_findPairs_184 hl rfl ex19.symm (by decide) rfl (fun ls hl => ?_)
        refine lv_goto (tgt := 48) C.1 C.2.1 dX9_findPairs_187 (by decide) ?_
        obtain rfl := Option.some.inj h
        exact hP _ hx _ _ _ hw (lv_sub hl [1, 0] rfl)
set_option maxRecDepth 20000 in
theorem c_X9_findPairs {l : Launch} {D : va_G} {cy : Nat → ClassId} {ad : Nat → Nat} (hj : InjW 0 ad) (a1 : Int32) (a2 : Int32)  (σ : Mem) (r : Mem) (h : f_X9_findPairs a1 a2 σ = some r) : CV 0 D cy ad l yX9_findPairs cX9_findPairs 6 none 3 [.ref (ad (0)), .int a1, .int a2] σ r := by
  refine CV.mk (by decide) hj (Nat.le_of_ble_eq_true rfl) (fun p e R s m below meth c ls C hw hl => ?_)
  have hl : lv_has ls 6 [(0, .ref (ad (0))), (1, .int a1), (2, .int a2)] := hl
  generalize ([.ref (ad (0)), .int a1, .int a2] : List Value).toArray = args at C ⊢
  have C : Cx 0 D cy ad p R s m args meth c cX9_findPairs 6 RX9 none 3 := C
  unfold f_X9_findPairs at h
  refine lv_aload_n C.1 C.2.1 dX9_findPairs_0 rfl (lv_at hl 0 rfl) ?_
  refine lv_iload_n C.1 C.2.1 dX9_findPairs_1 rfl (lv_at hl 1 rfl) ?_
  refine pf_X9_170 C hw dX9_findPairs_2 (fun H locs hw => ?_)
  obtain ⟨σ1, eσ1, h⟩ := lt_of h
  rw [← eσ1] at hw
  refine lv_aload_n C.1 C.2.1 dX9_findPairs_5 rfl (lv_at hl 0 rfl) ?_
  refine lv_iload_n C.1 C.2.1 dX9_findPairs_6 rfl (lv_at hl 2 rfl) ?_
  refine pf_X9_180 C hw dX9_findPairs_7 (fun H locs hw => ?_)
  obtain ⟨σ2, eσ2, h⟩ := lt_of h
  rw [← eσ2] at hw
  refine lv_aload_n C.1 C.2.1 dX9_findPairs_10 rfl (lv_at hl 0 rfl) ?_
  refine lv_iconst (v := (0 : Int32)) C.1 C.2.1 dX9_findPairs_11 (by decide) ?_
  refine pf_X9_173 C hw dX9_findPairs_12 (fun H locs hw => ?_)
  obtain ⟨σ3, eσ3, h⟩ := lt_of h
  rw [← eσ3] at hw
  refine lv_aload_n C.1 C.2.1 dX9_findPairs_15 rfl (lv_at hl 0 rfl) ?_
  refine lv_iconst (v := (0 : Int32)) C.1 C.2.1 dX9_findPairs_16 (by decide) ?_
  refine pf_X9_176 C hw rfl rfl dX9_findPairs_17 (fun H locs hw => ?_)
  obtain ⟨σ4, eσ4, h⟩ := lt_of h
  rw [← eσ4] at hw
  refine lv_iconst (v := (0 : Int32)) C.1 C.2.1 dX9_findPairs_20 (by decide) ?_
  refine lv_istore_n (lv' := [(3, .int _), (0, .ref _), (1, .int _), (2, .int _)]) C.1 C.2.1 dX9_findPairs_21 rfl hl (by decide) rfl (fun ls hl => ?_)
  obtain ⟨r8, hL, h⟩ := bS h
  refine w_X9_findPairs_22 C  hL (fun y0 hr H locs ls hw hl => ?_) _ _ _ hw (lv_sub hl [1, 0] rfl)
  · subst hr
    try dsimp only at h
    try dsimp only at hw
    try dsimp only at hl
    refine lv_iconst (v := (0 : Int32)) C.1 C.2.1 dX9_findPairs_46 (by decide) ?_
    refine lv_istore_n (lv' := [(3, .int _), (0, .ref _)]) C.1 C.2.1 dX9_findPairs_47 rfl hl (by decide) rfl (fun ls hl => ?_)
    obtain ⟨r20, hL, h⟩ := bS h
    refine w_X9_findPairs_48 C  hL (fun y0 hr H locs ls hw hl => ?_) _ _ _ hw (lv_sub hl [1, 0] rfl)
    · subst hr
      try dsimp only at h
      try dsimp only at hw
      try dsimp only at hl
      exact m_vret C hw (Option.some.inj h) dX9_findPairs_190
noncomputable def f_X9_isGoodA (a1 : Int32) (σ : Mem) : Option Int32 :=
  gd (ix a1 120) (if ((σ.1 15 a1.toNatClampNeg) &&& (σ.1 7 (1 : Int32).toNatClampNeg)) = 0 then (some (0 : Int32)) else (some (1 : Int32)))
set_option maxRecDepth 20000 in
theorem c_X9_isGoodA {l : Launch} {D : va_G} {cy : Nat → ClassId} {ad : Nat → Nat} (hj : InjW 0 ad) (a1 : Int32)  (σ : Mem) (r : Int32) (h : f_X9_isGoodA a1 σ = some r) : CI 0 D cy ad l yX9_isGoodA cX9_isGoodA 2 (some .boolean) 0 [.ref (ad (0)), .int a1] σ r σ := by
  refine CI.mk (by decide) hj (Nat.le_of_ble_eq_true rfl) (fun p e R s m below meth c ls C hw hl => ?_)
  have hl : lv_has ls 2 [(0, .ref (ad (0))), (1, .int a1)] := hl
  generalize ([.ref (ad (0)), .int a1] : List Value).toArray = args at C ⊢
  have C : Cx 0 D cy ad p R s m args meth c cX9_isGoodA 2 RX9 (some .boolean) 0 := C
  unfold f_X9_isGoodA at h
  refine lv_aload_n C.1 C.2.1 dX9_isGoodA_0 rfl (lv_at hl 0 rfl) ?_
  refine gf_X9_55 C hw dX9_isGoodA_1 ?_
  refine lv_iload_n C.1 C.2.1 dX9_isGoodA_4 rfl (lv_at hl 1 rfl) ?_
  obtain ⟨hin, h⟩ := gd_of h
  refine m_iald C hw a0_15 hin dX9_isGoodA_5 ?_
  refine lv_aload_n C.1 C.2.1 dX9_isGoodA_6 rfl (lv_at hl 0 rfl) ?_
  refine gf_X9_29 C hw dX9_isGoodA_7 ?_
  refine lv_iconst (v := (1 : Int32)) C.1 C.2.1 dX9_isGoodA_10 (by decide) ?_
  have hin : vp_in (1 : Int32) 102 := (by decide : ix (1 : Int32) 102)
  refine m_iald C hw a0_7 hin dX9_isGoodA_11 ?_
  refine lv_iand C.1 C.2.1 dX9_isGoodA_12 ?_
  refine lv_if_eq (tgt := 20) C.1 C.2.1 dX9_isGoodA_13 (by decide) (fun cd => ?_) (fun cd => ?_)
  · have h := ite_t cd h
    refine lv_iconst (v := (0 : Int32)) C.1 C.2.1 dX9_isGoodA_20 (by decide) ?_
    exact m_zret C hw (by decide) (ret_i h) dX9_isGoodA_21
  · have h := ite_f cd h
    refine lv_iconst (v := (1 : Int32)) C.1 C.2.1 dX9_isGoodA_16 (by decide) ?_
    refine lv_goto (tgt := 21) C.1 C.2.1 dX9_isGoodA_17 (by decide) ?_
    exact m_zret C hw (by decide) (ret_i h) dX9_isGoodA_21
noncomputable def f_X9_isGoodB (a1 : Int32) (σ : Mem) : Option Int32 :=
  gd (ix a1 120) (if ((σ.1 16 a1.toNatClampNeg) &&& (σ.1 0 29)) = 0 then (some (0 : Int32)) else (some (1 : Int32)))
set_option maxRecDepth 20000 in
theorem c_X9_isGoodB {l : Launch} {D : va_G} {cy : Nat → ClassId} {ad : Nat → Nat} (hj : InjW 0 ad) (a1 : Int32)  (σ : Mem) (r : Int32) (h : f_X9_isGoodB a1 σ = some r) : CI 0 D cy ad l yX9_isGoodB cX9_isGoodB 2 (some .boolean) 0 [.ref (ad (0)), .int a1] σ r σ := by
  refine CI.mk (by decide) hj (Nat.le_of_ble_eq_true rfl) (fun p e R s m below meth c ls C hw hl => ?_)
  have hl : lv_has ls 2 [(0, .ref (ad (0))), (1, .int a1)] := hl
  generalize ([.ref (ad (0)), .int a1] : List Value).toArray = args at C ⊢
  have C : Cx 0 D cy ad p R s m args meth c cX9_isGoodB 2 RX9 (some .boolean) 0 := C
  unfold f_X9_isGoodB at h
  refine lv_aload_n C.1 C.2.1 dX9_isGoodB_0 rfl (lv_at hl 0 rfl) ?_
  refine gf_X9_58 C hw dX9_isGoodB_1 ?_
  refine lv_iload_n C.1 C.2.1 dX9_isGoodB_4 rfl (lv_at hl 1 rfl) ?_
  obtain ⟨hin, h⟩ := gd_of h
  refine m_iald C hw a0_16 hin dX9_isGoodB_5 ?_
  refine lv_aload_n C.1 C.2.1 dX9_isGoodB_6 rfl (lv_at hl 0 rfl) ?_
  refine gf_X9_180 C hw dX9_isGoodB_7 ?_
  refine lv_iand C.1 C.2.1 dX9_isGoodB_10 ?_
  refine lv_if_eq (tgt := 18) C.1 C.2.1 dX9_isGoodB_11 (by decide) (fun cd => ?_) (fun cd => ?_)
  · have h := ite_t cd h
    refine lv_iconst (v := (0 : Int32)) C.1 C.2.1 dX9_isGoodB_18 (by decide) ?_
    exact m_zret C hw (by decide) (ret_i h) dX9_isGoodB_19
  · have h := ite_f cd h
    refine lv_iconst (v := (1 : Int32)) C.1 C.2.1 dX9_isGoodB_14 (by decide) ?_
    refine lv_goto (tgt := 19) C.1 C.2.1 dX9_isGoodB_15 (by decide) ?_
    exact m_zret C hw (by decide) (ret_i h) dX9_isGoodB_19
noncomputable def f_X9_findOwn  (σ : Mem) : Option Mem :=
  (f_X9_findPairs (σ.1 7 (0 : Int32).toNatClampNeg) (σ.1 7 (1 : Int32).toNatClampNeg) σ).bind (fun r1 => some r1)
set_option maxRecDepth 20000 in
theorem c_X9_findOwn {l : Launch} {D : va_G} {cy : Nat → ClassId} {ad : Nat → Nat} (hj : InjW 0 ad)   (σ : Mem) (r : Mem) (h : f_X9_findOwn σ = some r) : CV 0 D cy ad l yX9_findOwn cX9_findOwn 1 none 4 [.ref (ad (0))] σ r := by
  refine CV.mk (by decide) hj (Nat.le_of_ble_eq_true rfl) (fun p e R s m below meth c ls C hw hl => ?_)
  have hl : lv_has ls 1 [(0, .ref (ad (0)))] := hl
  generalize ([.ref (ad (0))] : List Value).toArray = args at C ⊢
  have C : Cx 0 D cy ad p R s m args meth c cX9_findOwn 1 RX9 none 4 := C
  unfold f_X9_findOwn at h
  refine lv_aload_n C.1 C.2.1 dX9_findOwn_0 rfl (lv_at hl 0 rfl) ?_
  refine lv_aload_n C.1 C.2.1 dX9_findOwn_1 rfl (lv_at hl 0 rfl) ?_
  refine gf_X9_29 C hw dX9_findOwn_2 ?_
  refine lv_iconst (v := (0 : Int32)) C.1 C.2.1 dX9_findOwn_5 (by decide) ?_
  have hin : vp_in (0 : Int32) 102 := (by decide : ix (0 : Int32) 102)
  refine m_iald C hw a0_7 hin dX9_findOwn_6 ?_
  refine lv_aload_n C.1 C.2.1 dX9_findOwn_7 rfl (lv_at hl 0 rfl) ?_
  refine gf_X9_29 C hw dX9_findOwn_8 ?_
  refine lv_iconst (v := (1 : Int32)) C.1 C.2.1 dX9_findOwn_11 (by decide) ?_
  have hin : vp_in (1 : Int32) 102 := (by decide : ix (1 : Int32) 102)
  refine m_iald C hw a0_7 hin dX9_findOwn_12 ?_
  obtain ⟨r1, h1, h⟩ := bS h
  refine go_V hw (run_V (As := [.int _, .int _]) C hw (c_X9_findPairs C.2.2.2.2.2.2.2.2.2 _ _ _ _ h1) mi_X9_findPairs mv_X9_findPairs o0_0 (ci := 9) rfl rfl lk_X9_187 (by decide) (by decide) rfl hl.1 rfl (Nat.le_of_ble_eq_true rfl) dX9_findOwn_13 ⟨Nat.le_refl 0, Nat.le_refl 0⟩) (fun H locs hw => ?_)
  exact m_vret C hw (Option.some.inj h) dX9_findOwn_16
noncomputable def f_X9_sets  (σ : Mem) : Option (Int32 × Mem) :=
  (f_X9_findOwn σ).bind (fun r1 => some (r1.1 0 22, r1))
set_option maxRecDepth 20000 in
theorem c_X9_sets {l : Launch} {D : va_G} {cy : Nat → ClassId} {ad : Nat → Nat} (hj : InjW 0 ad)   (σ : Mem) (r : (Int32 × Mem)) (h : f_X9_sets σ = some r) : CI 0 D cy ad l yX9_sets cX9_sets 1 (some .int) 5 [.ref (ad (0))] σ r.1 r.2 := by
  refine CI.mk (by decide) hj (Nat.le_of_ble_eq_true rfl) (fun p e R s m below meth c ls C hw hl => ?_)
  have hl : lv_has ls 1 [(0, .ref (ad (0)))] := hl
  generalize ([.ref (ad (0))] : List Value).toArray = args at C ⊢
  have C : Cx 0 D cy ad p R s m args meth c cX9_sets 1 RX9 (some .int) 5 := C
  unfold f_X9_sets at h
  refine lv_aload_n C.1 C.2.1 dX9_sets_0 rfl (lv_at hl 0 rfl) ?_
  obtain ⟨r1, h1, h⟩ := bS h
  refine go_V hw (run_V (As := []) C hw (c_X9_findOwn C.2.2.2.2.2.2.2.2.2 _ _ h1) mi_X9_findOwn mv_X9_findOwn o0_0 (ci := 9) rfl rfl lk_X9_191 (by decide) (by decide) rfl hl.1 rfl (Nat.le_of_ble_eq_true rfl) dX9_sets_1 ⟨Nat.le_refl 0, Nat.le_refl 0⟩) (fun H locs hw => ?_)
  refine lv_aload_n C.1 C.2.1 dX9_sets_4 rfl (lv_at hl 0 rfl) ?_
  refine gf_X9_173 C hw dX9_sets_5 ?_
  exact m_iret C hw (ret_p h) dX9_sets_8
noncomputable def b_X9_isSame_64 (a1 : Int32) (a2 : Int32) (v3 : Int32) (v4 : Int32) (σ : Mem) : Option ((Int32 × Int32) ⊕ (Unit ⊕ Int32)) :=
  if (σ.1 0 22) ≤ v4 then (some (.inr (.inr v3))) else (lt ((((14400 : Int32) * v3) + ((120 : Int32) * a1)) + v4) (fun x1 => lt ((((14400 : Int32) * v3) + ((120 : Int32) * a2)) + v4) (fun x2 => lt ((((14400 : Int32) * v3) + ((120 : Int32) * v4)) + a1) (fun x3 => lt ((((14400 : Int32) * v3) + ((120 : Int32) * v4)) + a2) (fun x4 => gd (ix x1 28800) (gd (ix (σ.1 19 x1.toNatClampNeg) 64) (gd (ix x2 28800) (gd (ix (σ.1 19 x2.toNatClampNeg) 64) (if (σ.1 20 (σ.1 19 x1.toNatClampNeg).toNatClampNeg) = (σ.1 20 (σ.1 19 x2.toNatClampNeg).toNatClampNeg) then (gd (ix x3 28800) (gd (ix (σ.1 19 x3.toNatClampNeg) 64) (gd (ix x4 28800) (gd (ix (σ.1 19 x4.toNatClampNeg) 64) (if (σ.1 20 (σ.1 19 x3.toNatClampNeg).toNatClampNeg) = (σ.1 20 (σ.1 19 x4.toNatClampNeg).toNatClampNeg) then (lt (v4 + (1 : Int32)) (fun x5 => some (.inl (v3, x5)))) else (some (.inr (.inl ())))))))) else (some (.inr (.inl ()))))))))))))
noncomputable def b_X9_isSame_19 (a1 : Int32) (a2 : Int32) (v3 : Int32) (σ : Mem) : Option (Int32 ⊕ (Unit ⊕ Unit ⊕ Unit)) :=
  if (2 : Int32) ≤ v3 then (some (.inr (.inr (.inr ())))) else (gd (ix (((120 : Int32) * v3) + a1) 240) (gd (ix (σ.1 18 (((120 : Int32) * v3) + a1).toNatClampNeg) 64) (gd (ix (((120 : Int32) * v3) + a2) 240) (gd (ix (σ.1 18 (((120 : Int32) * v3) + a2).toNatClampNeg) 64) (if (σ.1 20 (σ.1 18 (((120 : Int32) * v3) + a1).toNatClampNeg).toNatClampNeg) = (σ.1 20 (σ.1 18 (((120 : Int32) * v3) + a2).toNatClampNeg).toNatClampNeg) then ((Lim (T := (Unit ⊕ Int32)) (fun s => b_X9_isSame_64 a1 a2 s.1 s.2 σ) (v3, (0 : Int32))).bind (fun r6 => (match r6 with | .inl r6_0 => (some (.inr (.inr (.inl ())))) | .inr r6_1 => (lt (r6_1 + (1 : Int32)) (fun x7 => some (.inl x7)))))) else (some (.inr (.inl ()))))))))
noncomputable def f_X9_isSame (a1 : Int32) (a2 : Int32) (σ : Mem) : Option Int32 :=
  gd (ix a1 64) (gd (ix a2 64) (if (σ.1 20 a1.toNatClampNeg) = (σ.1 20 a2.toNatClampNeg) then ((Lim (T := (Unit ⊕ Unit ⊕ Unit)) (fun s => b_X9_isSame_19 a1 a2 s σ) (0 : Int32)).bind (fun r8 => (match r8 with | .inl r8_0 => (some (0 : Int32)) | .inr (.inl r8_1) => (some (0 : Int32)) | .inr (.inr r8_2) => (some (1 : Int32))))) else (some (0 : Int32))))
set_option maxRecDepth 20000 in
theorem w_X9_isSame_64 {D : va_G} {cy : Nat → ClassId} {ad : Nat → Nat} {p : Program} {l : Launch} {e : Env} {R : Room} {s : State} {m : MethodId} {args : Array Value} {below : List Frame} {meth : Method} {c : Code} (C : Cx 0 D cy ad p R s m args meth c cX9_isSame 9 RX9 (some .boolean) 0) {a1 : Int32} {a2 : Int32}  {v3 : Int32} {v4 : Int32} {σ : Mem} {Q : State → Prop} {r : (Unit ⊕ Int32)} (hL : Lim (T := (Unit ⊕ Int32)) (fun s => b_X9_isSame_64 a1 a2 s.1 s.2 σ) (v3, v4) = some r) (hE0 : (.inl () : (Unit ⊕ Int32)) = r → ∀ (H : Heap) (locs : List Loc) (ls : Array Slot), Wd 0 D cy ad s σ H locs → lv_has ls 9 [] → W p l e R s m args below meth c H locs 0 0 Q (F0 m 187 ls [])) (hE1 : ∀ (v3 : Int32), (.inr v3 : (Unit ⊕ Int32)) = r → ∀ (H : Heap) (locs : List Loc) (ls : Array Slot), Wd 0 D cy ad s σ H locs → lv_has ls 9 [(0, .ref (ad (0))), (1, .int a1), (2, .int a2), (3, .int v3)] → W p l e R s m args below meth c H locs 0 0 Q (F0 m 195 ls [])) (H : Heap) (locs : List Loc) (ls : Array Slot) (hw : Wd 0 D cy ad s σ H locs) (hl : lv_has ls 9 [(0, .ref (ad (0))), (1, .int a1), (2, .int a2), (3, .int v3), (4, .int v4)]) : W p l e R s m args below meth c H locs 0 0 Q (F0 m 64 ls []) := by
  refine Lim_ind hL (P := fun u => ∀ (H : Heap) (locs : List Loc) (ls : Array Slot), Wd 0 D cy ad s σ H locs → lv_has ls 9 [(0, .ref (ad (0))), (1, .int a1), (2, .int a2), (3, .int u.1), (4, .int u.2)] → W p l e R s m args below meth c H locs 0 0 Q (F0 m 64 ls [])) (fun u x h hx H locs ls hw hl => ?_) H locs ls hw hl
  clear hL
  obtain ⟨v3, v4⟩ := u
  have h : b_X9_isSame_64 a1 a2 v3 v4 σ = some x := h
  have hw : Wd 0 D cy ad s σ H locs := hw
  have hl : lv_has ls 9 [(0, .ref (ad (0))), (1, .int a1), (2, .int a2), (3, .int v3), (4, .int v4)] := hl
  have hP : ∀ (u : (Int32 × Int32)), (∀ (H : Heap) (locs : List Loc) (ls : Array Slot), Wd 0 D cy ad s σ H locs → lv_has ls 9 [(0, .ref (ad (0))), (1, .int a1), (2, .int a2), (3, .int u.1), (4, .int u.2)] → W p l e R s m args below meth c H locs 0 0 Q (F0 m 64 ls [])) → ∀ (H : Heap) (locs : List Loc) (ls : Array Slot), Wd 0 D cy ad s σ H locs → lv_has ls 9 [(0, .ref (ad (0))), (1, .int a1), (2, .int a2), (3, .int u.1), (4, .int u.2)] → W p l e R s m args below meth c H locs 0 0 Q (F0 m 64 ls []) := fun _ k => k
  unfold b_X9_isSame_64 at h
  refine lv_iload C.1 C.2.1 dX9_isSame_64 (lv_at hl 4 rfl) ?_
  refine lv_aload_n C.1 C.2.1 dX9_isSame_66 rfl (lv_at hl 0 rfl) ?_
  refine gf_X9_173 C hw dX9_isSame_67 ?_
  refine lv_icmp_ge (tgt := 195) C.1 C.2.1 dX9_isSame_70 (by decide) (fun cd => ?_) (fun cd => ?_)
  · have h := ite_t cd h
    obtain rfl := Option.some.inj h
    exact hE1 _ hx _ _ _ hw (lv_sub hl [0, 1, 2, 3] rfl)
  · have h := ite_f cd h
    refine lv_sipush (v := (14400 : Int32)) C.1 C.2.1 dX9_isSame_73 (by decide) ?_
    refine lv_iload_n C.1 C.2.1 dX9_isSame_76 rfl (lv_at hl 3 rfl) ?_
    refine lv_imul C.1 C.2.1 dX9_isSame_77 ?_
    refine lv_bipush (v := (120 : Int32)) C.1 C.2.1 dX9_isSame_78 (by decide) ?_
    refine lv_iload_n C.1 C.2.1 dX9_isSame_80 rfl (lv_at hl 1 rfl) ?_
    refine lv_imul C.1 C.2.1 dX9_isSame_81 ?_
    refine lv_iadd C.1 C.2.1 dX9_isSame_82 ?_
    refine lv_iload C.1 C.2.1 dX9_isSame_83 (lv_at hl 4 rfl) ?_
    refine lv_iadd C.1 C.2.1 dX9_isSame_85 ?_
    obtain ⟨x1, ex1, h⟩ := lt_of h
    refine m_topi ex1 ?_
    refine lv_istore (lv' := [(5, .int _), (0, .ref _), (1, .int _), (2, .int _), (3, .int _), (4, .int _)]) C.1 C.2.1 dX9_isSame_86 hl (by decide) rfl (fun ls hl => ?_)
    refine lv_sipush (v := (14400 : Int32)) C.1 C.2.1 dX9_isSame_88 (by decide) ?_
    refine lv_iload_n C.1 C.2.1 dX9_isSame_91 rfl (lv_at hl 4 rfl) ?_
    refine lv_imul C.1 C.2.1 dX9_isSame_92 ?_
    refine lv_bipush (v := (120 : Int32)) C.1 C.2.1 dX9_isSame_93 (by decide) ?_
    refine lv_iload_n C.1 C.2.1 dX9_isSame_95 rfl (lv_at hl 3 rfl) ?_
    refine lv_imul C.1 C.2.1 dX9_isSame_96 ?_
    refine lv_iadd C.1 C.2.1 dX9_isSame_97 ?_
    refine lv_iload C.1 C.2.1 dX9_isSame_98 (lv_at hl 5 rfl) ?_
    refine lv_iadd C.1 C.2.1 dX9_isSame_100 ?_
    obtain ⟨x2, ex2, h⟩ := lt_of h
    refine m_topi ex2 ?_
    refine lv_istore (lv' := [(6, .int _), (5, .int _), (0, .ref _), (1, .int _), (2, .int _), (3, .int _), (4, .int _)]) C.1 C.2.1 dX9_isSame_101 hl (by decide) rfl (fun ls hl => ?_)
    refine lv_sipush (v := (14400 : Int32)) C.1 C.2.1 dX9_isSame_103 (by decide) ?_
    refine lv_iload_n C.1 C.2.1 dX9_isSame_106 rfl (lv_at hl 5 rfl) ?_
    refine lv_imul C.1 C.2.1 dX9_isSame_107 ?_
    refine lv_bipush (v := (120 : Int32)) C.1 C.2.1 dX9_isSame_108 (by decide) ?_
    refine lv_iload C.1 C.2.1 dX9_isSame_110 (lv_at hl 6 rfl) ?_
    refine lv_imul C.1 C.2.1 dX9_isSame_112 ?_
    refine lv_iadd C.1 C.2.1 dX9_isSame_113 ?_
    refine lv_iload_n C.1 C.2.1 dX9_isSame_114 rfl (lv_at hl 3 rfl) ?_
    refine lv_iadd C.1 C.2.1 dX9_isSame_115 ?_
    obtain ⟨x3, ex3, h⟩ := lt_of h
    refine m_topi ex3 ?_
    refine lv_istore (lv' := [(7, .int _), (6, .int _), (5, .int _), (0, .ref _), (1, .int _), (2, .int _), (3, .int _), (4, .int _)]) C.1 C.2.1 dX9_isSame_116 hl (by decide) rfl (fun ls hl => ?_)
    refine lv_sipush (v := (14400 : Int32)) C.1 C.2.1 dX9_isSame_118 (by decide) ?_
    refine lv_iload_n C.1 C.2.1 dX9_isSame_121 rfl (lv_at hl 6 rfl) ?_
    refine lv_imul C.1 C.2.1 dX9_isSame_122 ?_
    refine lv_bipush (v := (120 : Int32)) C.1 C.2.1 dX9_isSame_123 (by decide) ?_
    refine lv_iload C.1 C.2.1 dX9_isSame_125 (lv_at hl 7 rfl) ?_
    refine lv_imul C.1 C.2.1 dX9_isSame_127 ?_
    refine lv_iadd C.1 C.2.1 dX9_isSame_128 ?_
    refine lv_iload_n C.1 C.2.1 dX9_isSame_129 rfl (lv_at hl 5 rfl) ?_
    refine lv_iadd C.1 C.2.1 dX9_isSame_130 ?_
    obtain ⟨x4, ex4, h⟩ := lt_of h
    refine m_topi ex4 ?_
    refine lv_istore (lv' := [(8, .int _), (7, .int _), (6, .int _), (5, .int _), (0, .ref _), (1, .int _), (2, .int _), (3, .int _), (4, .int _)]) C.1 C.2.1 dX9_isSame_131 hl (by decide) rfl (fun ls hl => ?_)
    refine lv_aload_n C.1 C.2.1 dX9_isSame_133 rfl (lv_at hl 4 rfl) ?_
    refine gf_X9_70 C hw dX9_isSame_134 ?_
    refine lv_aload_n C.1 C.2.1 dX9_isSame_137 rfl (lv_at hl 4 rfl) ?_
    refine gf_X9_67 C hw dX9_isSame_138 ?_
    refine lv_iload C.1 C.2.1 dX9_isSame_141 (lv_at hl 3 rfl) ?_
    obtain ⟨hin, h⟩ := gd_of h
    refine m_iald C hw a0_19 hin dX9_isSame_143 ?_
    obtain ⟨hin, h⟩ := gd_of h
    refine m_iald C hw a0_20 hin dX9_isSame_144 ?_
    refine lv_aload_n C.1 C.2.1 dX9_isSame_145 rfl (lv_at hl 4 rfl) ?_
    refine gf_X9_70 C hw dX9_isSame_146 ?_
    refine lv_aload_n C.1 C.2.1 dX9_isSame_149 rfl (lv_at hl 4 rfl) ?_
    refine gf_X9_67 C hw dX9_isSame_150 ?_
    refine lv_iload C.1 C.2.1 dX9_isSame_153 (lv_at hl 2 rfl) ?_
    obtain ⟨hin, h⟩ := gd_of h
    refine m_iald C hw a0_19 hin dX9_isSame_155 ?_
    obtain ⟨hin, h⟩ := gd_of h
    refine m_iald C hw a0_20 hin dX9_isSame_156 ?_
    refine lv_icmp_ne (tgt := 187) C.1 C.2.1 dX9_isSame_157 (by decide) (fun cd => ?_) (fun cd => ?_)
    · have h := ite_f cd h
      obtain rfl := Option.some.inj h
      exact hE0  hx _ _ _ hw (lv_sub hl [] rfl)
    · have h := ite_t cd h
      refine lv_aload_n C.1 C.2.1 dX9_isSame_160 rfl (lv_at hl 4 rfl) ?_
      refine gf_X9_70 C hw dX9_isSame_161 ?_
      refine lv_aload_n C.1 C.2.1 dX9_isSame_164 rfl (lv_at hl 4 rfl) ?_
      refine gf_X9_67 C hw dX9_isSame_165 ?_
      refine lv_iload C.1 C.2.1 dX9_isSame_168 (lv_at hl 1 rfl) ?_
      obtain ⟨hin, h⟩ := gd_of h
      refine m_iald C hw a0_19 hin dX9_isSame_170 ?_
      obtain ⟨hin, h⟩ := gd_of h
      refine m_iald C hw a0_20 hin dX9_isSame_171 ?_
      refine lv_aload_n C.1 C.2.1 dX9_isSame_172 rfl (lv_at hl 4 rfl) ?_
      refine gf_X9_70 C hw dX9_isSame_173 ?_
      refine lv_aload_n C.1 C.2.1 dX9_isSame_176 rfl (lv_at hl 4 rfl) ?_
      refine gf_X9_67 C hw dX9_isSame_177 ?_
      refine lv_iload C.1 C.2.1 dX9_isSame_180 (lv_at hl 0 rfl) ?_
      obtain ⟨hin, h⟩ := gd_of h
      refine m_iald C hw a0_19 hin dX9_isSame_182 ?_
      obtain ⟨hin, h⟩ := gd_of h
      refine m_iald C hw a0_20 hin dX9_isSame_183 ?_
      refine lv_icmp_eq (tgt := 189) C.1 C.2.1 dX9_isSame_184 (by decide) (fun cd => ?_) (fun cd => ?_)
      · have h := ite_t cd h
        obtain ⟨x5, ex5, h⟩ := lt_of h
        refine m_iinc (k := 8) (lv' := [(4, .int _), (8, .int _), (7, .int _), (6, .int _), (5, .int _), (0, .ref _), (1, .int _), (2, .int _), (3, .int _)]) C (1 : Int32) (by decide) dX9_isSame_189 hl rfl ex5.symm (by decide) rfl (fun ls hl => ?_)
        refine lv_goto (tgt := 64) C.1 C.2.1 dX9_isSame_192 (by decide) ?_
        obtain rfl := Option.some.inj h
        exact hP _ hx _ _ _ hw (lv_sub hl [5, 6, 7, 8, 0] rfl)
      · have h := ite_f cd h
        obtain rfl := Option.some.inj h
        exact hE0  hx _ _ _ hw (lv_sub hl [] rfl)
set_option maxRecDepth 20000 in
theorem w_X9_isSame_19 {D : va_G} {cy : Nat → ClassId} {ad : Nat → Nat} {p : Program} {l : Launch} {e : Env} {R : Room} {s : State} {m : MethodId} {args : Array Value} {below : List Frame} {meth : Method} {c : Code} (C : Cx 0 D cy ad p R s m args meth c cX9_isSame 9 RX9 (some .boolean) 0) {a1 : Int32} {a2 : Int32}  {v3 : Int32} {σ : Mem} {Q : State → Prop} {r : (Unit ⊕ Unit ⊕ Unit)} (hL : Lim (T := (Unit ⊕ Unit ⊕ Unit)) (fun s => b_X9_isSame_19 a1 a2 s σ) v3 = some r) (hE0 : (.inl () : (Unit ⊕ Unit ⊕ Unit)) = r → ∀ (H : Heap) (locs : List Loc) (ls : Array Slot), Wd 0 D cy ad s σ H locs → lv_has ls 9 [] → W p l e R s m args below meth c H locs 0 0 Q (F0 m 59 ls [])) (hE1 : (.inr (.inl ()) : (Unit ⊕ Unit ⊕ Unit)) = r → ∀ (H : Heap) (locs : List Loc) (ls : Array Slot), Wd 0 D cy ad s σ H locs → lv_has ls 9 [] → W p l e R s m args below meth c H locs 0 0 Q (F0 m 187 ls [])) (hE2 : (.inr (.inr ()) : (Unit ⊕ Unit ⊕ Unit)) = r → ∀ (H : Heap) (locs : List Loc) (ls : Array Slot), Wd 0 D cy ad s σ H locs → lv_has ls 9 [] → W p l e R s m args below meth c H locs 0 0 Q (F0 m 201 ls [])) (H : Heap) (locs : List Loc) (ls : Array Slot) (hw : Wd 0 D cy ad s σ H locs) (hl : lv_has ls 9 [(0, .ref (ad (0))), (1, .int a1), (2, .int a2), (3, .int v3)]) : W p l e R s m args below meth c H locs 0 0 Q (F0 m 19 ls []) := by
  refine Lim_ind hL (P := fun u => ∀ (H : Heap) (locs : List Loc) (ls : Array Slot), Wd 0 D cy ad s σ H locs → lv_has ls 9 [(0, .ref (ad (0))), (1, .int a1), (2, .int a2), (3, .int u)] → W p l e R s m args below meth c H locs 0 0 Q (F0 m 19 ls [])) (fun u x h hx H locs ls hw hl => ?_) H locs ls hw hl
  clear hL
  obtain ⟨v3, rfl⟩ : ∃ z, z = u := ⟨u, rfl⟩
  have h : b_X9_isSame_19 a1 a2 v3 σ = some x := h
  have hw : Wd 0 D cy ad s σ H locs := hw
  have hl : lv_has ls 9 [(0, .ref (ad (0))), (1, .int a1), (2, .int a2), (3, .int v3)] := hl
  have hP : ∀ (u : Int32), (∀ (H : Heap) (locs : List Loc) (ls : Array Slot), Wd 0 D cy ad s σ H locs → lv_has ls 9 [(0, .ref (ad (0))), (1, .int a1), (2, .int a2), (3, .int u)] → W p l e R s m args below meth c H locs 0 0 Q (F0 m 19 ls [])) → ∀ (H : Heap) (locs : List Loc) (ls : Array Slot), Wd 0 D cy ad s σ H locs → lv_has ls 9 [(0, .ref (ad (0))), (1, .int a1), (2, .int a2), (3, .int u)] → W p l e R s m args below meth c H locs 0 0 Q (F0 m 19 ls []) := fun _ k => k
  unfold b_X9_isSame_19 at h
  refine lv_iload_n C.1 C.2.1 dX9_isSame_19 rfl (lv_at hl 3 rfl) ?_
  refine lv_iconst (v := (2 : Int32)) C.1 C.2.1 dX9_isSame_20 (by decide) ?_
  refine lv_icmp_ge (tgt := 201) C.1 C.2.1 dX9_isSame_21 (by decide) (fun cd => ?_) (fun cd => ?_)
  · have h := ite_t cd h
    obtain rfl := Option.some.inj h
    exact hE2  hx _ _ _ hw (lv_sub hl [] rfl)
  · have h := ite_f cd h
    refine lv_aload_n C.1 C.2.1 dX9_isSame_24 rfl (lv_at hl 0 rfl) ?_
    refine gf_X9_70 C hw dX9_isSame_25 ?_
    refine lv_aload_n C.1 C.2.1 dX9_isSame_28 rfl (lv_at hl 0 rfl) ?_
    refine gf_X9_64 C hw dX9_isSame_29 ?_
    refine lv_bipush (v := (120 : Int32)) C.1 C.2.1 dX9_isSame_32 (by decide) ?_
    refine lv_iload_n C.1 C.2.1 dX9_isSame_34 rfl (lv_at hl 3 rfl) ?_
    refine lv_imul C.1 C.2.1 dX9_isSame_35 ?_
    refine lv_iload_n C.1 C.2.1 dX9_isSame_36 rfl (lv_at hl 1 rfl) ?_
    refine lv_iadd C.1 C.2.1 dX9_isSame_37 ?_
    obtain ⟨hin, h⟩ := gd_of h
    refine m_iald C hw a0_18 hin dX9_isSame_38 ?_
    obtain ⟨hin, h⟩ := gd_of h
    refine m_iald C hw a0_20 hin dX9_isSame_39 ?_
    refine lv_aload_n C.1 C.2.1 dX9_isSame_40 rfl (lv_at hl 0 rfl) ?_
    refine gf_X9_70 C hw dX9_isSame_41 ?_
    refine lv_aload_n C.1 C.2.1 dX9_isSame_44 rfl (lv_at hl 0 rfl) ?_
    refine gf_X9_64 C hw dX9_isSame_45 ?_
    refine lv_bipush (v := (120 : Int32)) C.1 C.2.1 dX9_isSame_48 (by decide) ?_
    refine lv_iload_n C.1 C.2.1 dX9_isSame_50 rfl (lv_at hl 3 rfl) ?_
    refine lv_imul C.1 C.2.1 dX9_isSame_51 ?_
    refine lv_iload_n C.1 C.2.1 dX9_isSame_52 rfl (lv_at hl 2 rfl) ?_
    refine lv_iadd C.1 C.2.1 dX9_isSame_53 ?_
    obtain ⟨hin, h⟩ := gd_of h
    refine m_iald C hw a0_18 hin dX9_isSame_54 ?_
    obtain ⟨hin, h⟩ := gd_of h
    refine m_iald C hw a0_20 hin dX9_isSame_55 ?_
    refine lv_icmp_eq (tgt := 61) C.1 C.2.1 dX9_isSame_56 (by decide) (fun cd => ?_) (fun cd => ?_)
    · have h := ite_t cd h
      refine lv_iconst (v := (0 : Int32)) C.1 C.2.1 dX9_isSame_61 (by decide) ?_
      refine lv_istore (lv' := [(4, .int _), (0, .ref _), (1, .int _), (2, .int _), (3, .int _)]) C.1 C.2.1 dX9_isSame_62 hl (by decide) rfl (fun ls hl => ?_)
      obtain ⟨r6, hL, h⟩ := bS h
      refine w_X9_isSame_64 C  hL (fun  hr H locs ls hw hl => ?_) (fun y0 hr H locs ls hw hl => ?_) _ _ _ hw (lv_sub hl [1, 2, 3, 4, 0] rfl)
      · subst hr
        try dsimp only at h
        try dsimp only at hw
        try dsimp only at hl
        obtain rfl := Option.some.inj h
        exact hE1  hx _ _ _ hw (lv_sub hl [] rfl)
      · subst hr
        try dsimp only at h
        try dsimp only at hw
        try dsimp only at hl
        obtain ⟨x7, ex7, h⟩ := lt_of h
        refine m_iinc (k := 3) (lv' := [(3, .int _), (0, .ref _), (1, .int _), (2, .int _)]) C (1 : Int32) (by decide) dX9_isSame_195 hl rfl ex7.symm (by decide) rfl (fun ls hl => ?_)
        refine lv_goto (tgt := 19) C.1 C.2.1 dX9_isSame_198 (by decide) ?_
        obtain rfl := Option.some.inj h
        exact hP _ hx _ _ _ hw (lv_sub hl [1, 2, 3, 0] rfl)
    · have h := ite_f cd h
      obtain rfl := Option.some.inj h
      exact hE0  hx _ _ _ hw (lv_sub hl [] rfl)
set_option maxRecDepth 20000 in
theorem c_X9_isSame {l : Launch} {D : va_G} {cy : Nat → ClassId} {ad : Nat → Nat} (hj : InjW 0 ad) (a1 : Int32) (a2 : Int32)  (σ : Mem) (r : Int32) (h : f_X9_isSame a1 a2 σ = some r) : CI 0 D cy ad l yX9_isSame cX9_isSame 9 (some .boolean) 0 [.ref (ad (0)), .int a1, .int a2] σ r σ := by
  refine CI.mk (by decide) hj (Nat.le_of_ble_eq_true rfl) (fun p e R s m below meth c ls C hw hl => ?_)
  have hl : lv_has ls 9 [(0, .ref (ad (0))), (1, .int a1), (2, .int a2)] := hl
  generalize ([.ref (ad (0)), .int a1, .int a2] : List Value).toArray = args at C ⊢
  have C : Cx 0 D cy ad p R s m args meth c cX9_isSame 9 RX9 (some .boolean) 0 := C
  unfold f_X9_isSame at h
  refine lv_aload_n C.1 C.2.1 dX9_isSame_0 rfl (lv_at hl 0 rfl) ?_
  refine gf_X9_70 C hw dX9_isSame_1 ?_
  refine lv_iload_n C.1 C.2.1 dX9_isSame_4 rfl (lv_at hl 1 rfl) ?_
  obtain ⟨hin, h⟩ := gd_of h
  refine m_iald C hw a0_20 hin dX9_isSame_5 ?_
  refine lv_aload_n C.1 C.2.1 dX9_isSame_6 rfl (lv_at hl 0 rfl) ?_
  refine gf_X9_70 C hw dX9_isSame_7 ?_
  refine lv_iload_n C.1 C.2.1 dX9_isSame_10 rfl (lv_at hl 2 rfl) ?_
  obtain ⟨hin, h⟩ := gd_of h
  refine m_iald C hw a0_20 hin dX9_isSame_11 ?_
  refine lv_icmp_eq (tgt := 17) C.1 C.2.1 dX9_isSame_12 (by decide) (fun cd => ?_) (fun cd => ?_)
  · have h := ite_t cd h
    refine lv_iconst (v := (0 : Int32)) C.1 C.2.1 dX9_isSame_17 (by decide) ?_
    refine lv_istore_n (lv' := [(3, .int _), (0, .ref _), (1, .int _), (2, .int _)]) C.1 C.2.1 dX9_isSame_18 rfl hl (by decide) rfl (fun ls hl => ?_)
    obtain ⟨r8, hL, h⟩ := bS h
    refine w_X9_isSame_19 C  hL (fun  hr H locs ls hw hl => ?_) (fun  hr H locs ls hw hl => ?_) (fun  hr H locs ls hw hl => ?_) _ _ _ hw (lv_sub hl [1, 2, 3, 0] rfl)
    · subst hr
      try dsimp only at h
      try dsimp only at hw
      try dsimp only at hl
      refine lv_iconst (v := (0 : Int32)) C.1 C.2.1 dX9_isSame_59 (by decide) ?_
      exact m_zret C hw (by decide) (ret_i h) dX9_isSame_60
    · subst hr
      try dsimp only at h
      try dsimp only at hw
      try dsimp only at hl
      refine lv_iconst (v := (0 : Int32)) C.1 C.2.1 dX9_isSame_187 (by decide) ?_
      exact m_zret C hw (by decide) (ret_i h) dX9_isSame_188
    · subst hr
      try dsimp only at h
      try dsimp only at hw
      try dsimp only at hl
      refine lv_iconst (v := (1 : Int32)) C.1 C.2.1 dX9_isSame_201 (by decide) ?_
      exact m_zret C hw (by decide) (ret_i h) dX9_isSame_202
  · have h := ite_f cd h
    refine lv_iconst (v := (0 : Int32)) C.1 C.2.1 dX9_isSame_15 (by decide) ?_
    exact m_zret C hw (by decide) (ret_i h) dX9_isSame_16
noncomputable def j_X9_classes_32  (z1 : Int32) (z2 : Int32) (v1 : Int32) (σ : Mem) : Option ((Int32 × Mem) ⊕ Mem) :=
  gd (ix z1 64) (lt (sI σ 20 z1.toNatClampNeg z2) (fun σ3 => lt (v1 + (1 : Int32)) (fun x4 => some (.inl (x4, σ3)))))
noncomputable def b_X9_classes_6  (v1 : Int32) (σ : Mem) : Option ((Int32 × Mem) ⊕ Mem) :=
  if (σ.1 0 22) ≤ v1 then (some (.inr σ)) else ((f_X9_isGoodA v1 σ).bind (fun r2 => if r2 = 0 then (j_X9_classes_32 v1 (0 : Int32) v1 σ) else (j_X9_classes_32 v1 (1 : Int32) v1 σ)))
noncomputable def b_X9_classes_65  (v1 : Int32) (v2 : Int32) (v3 : Int32) (v4 : Int32) (σ : Mem) : Option ((Int32 × Int32 × Int32 × Int32) ⊕ (Int32 × Int32 × Int32 × Int32)) :=
  (f_X9_isSame v3 v4 σ).bind (fun r6 => if r6 = 0 then (lt (v4 + (1 : Int32)) (fun x7 => some (.inl (v1, v2, v3, x7)))) else (some (.inr (v1, v2, v3, v4))))
noncomputable def j_X9_classes_116  (z0 : Int32) (z1 : Int32) (v1 : Int32) (v3 : Int32) (σ : Mem) : Option ((Int32 × Int32 × Int32 × Mem) ⊕ (Int32 × Int32 × Mem)) :=
  lt (z0 + z1) (fun x10 => lt (v3 + (1 : Int32)) (fun x11 => some (.inl (v1, x10, x11, σ))))
noncomputable def j_X9_classes_103  (z1 : Int32) (z2 : Int32) (v1 : Int32) (v2 : Int32) (v3 : Int32) (v4 : Int32) (σ : Mem) : Option ((Int32 × Int32 × Int32 × Mem) ⊕ (Int32 × Int32 × Mem)) :=
  gd (ix z1 64) (lt (sI σ 21 z1.toNatClampNeg z2) (fun σ9 => if v4 = v3 then (j_X9_classes_116 v2 (1 : Int32) v1 v3 σ9) else (j_X9_classes_116 v2 (0 : Int32) v1 v3 σ9)))
noncomputable def b_X9_classes_54  (v1 : Int32) (v2 : Int32) (v3 : Int32) (σ : Mem) : Option ((Int32 × Int32 × Int32 × Mem) ⊕ (Int32 × Int32 × Mem)) :=
  if (σ.1 0 22) ≤ v3 then (some (.inr (v1, v2, σ))) else ((Lim (T := (Int32 × Int32 × Int32 × Int32)) (fun s => b_X9_classes_65 s.1 s.2.1 s.2.2.1 s.2.2.2 σ) (v1, v2, v3, (0 : Int32))).bind (fun r8 => if r8.2.2.2 = r8.2.2.1 then (j_X9_classes_103 r8.2.2.1 r8.2.1 r8.1 r8.2.1 r8.2.2.1 r8.2.2.2 σ) else (gd (ix r8.2.2.2 64) (j_X9_classes_103 r8.2.2.1 (σ.1 21 r8.2.2.2.toNatClampNeg) r8.1 r8.2.1 r8.2.2.1 r8.2.2.2 σ))))
noncomputable def b_X9_classes_126  (v1 : Int32) (v2 : Int32) (v3 : Int32) (σ : Mem) : Option ((Int32 × Int32 × Int32 × Mem) ⊕ (Int32 × Int32 × Mem)) :=
  if (σ.1 0 22) ≤ v3 then (some (.inr (v1, v2, σ))) else (gd (ix v3 64) (gd (ix v3 64) (lt (sI σ 20 v3.toNatClampNeg (σ.1 21 v3.toNatClampNeg)) (fun σ13 => lt (v3 + (1 : Int32)) (fun x14 => some (.inl (v1, v2, x14, σ13)))))))
noncomputable def b_X9_classes_43  (v1 : Int32) (v2 : Int32) (σ : Mem) : Option ((Int32 × Int32 × Mem) ⊕ (Int32 × Mem)) :=
  if v2 = v1 then (some (.inr (v2, σ))) else ((Lim (T := (Int32 × Int32 × Mem)) (fun s => b_X9_classes_54 s.1 s.2.1 s.2.2.1 s.2.2.2) (v2, (0 : Int32), (0 : Int32), σ)).bind (fun r12 => (Lim (T := (Int32 × Int32 × Mem)) (fun s => b_X9_classes_126 s.1 s.2.1 s.2.2.1 s.2.2.2) (r12.1, r12.2.1, (0 : Int32), r12.2.2)).bind (fun r15 => some (.inl (r15.1, r15.2.1, r15.2.2)))))
noncomputable def f_X9_classes  (σ : Mem) : Option (Int32 × Mem) :=
  (f_X9_findOwn σ).bind (fun r1 => (Lim (T := Mem) (fun s => b_X9_classes_6 s.1 s.2) ((0 : Int32), r1)).bind (fun r5 => (Lim (T := (Int32 × Mem)) (fun s => b_X9_classes_43 s.1 s.2.1 s.2.2) ((0 : Int32), (1 : Int32), r5)).bind (fun r16 => some (r16.1, r16.2))))
set_option maxRecDepth 20000 in
theorem w_X9_classes_32 {D : va_G} {cy : Nat → ClassId} {ad : Nat → Nat} {p : Program} {l : Launch} {e : Env} {R : Room} {s : State} {m : MethodId} {args : Array Value} {below : List Frame} {meth : Method} {c : Code} (C : Cx 0 D cy ad p R s m args meth c cX9_classes 5 RX9 (some .int) 5)   {z1 : Int32} {z2 : Int32} {v1 : Int32}  {σ : Mem} {H : Heap} {locs : List Loc} {ls : Array Slot} {Q : State → Prop} {P : (Int32 × Mem) → Prop} {r : Mem} {x : (Int32 × Mem) ⊕ Mem} (hx : LimQ P r x) (hP : ∀ u, P u → ∀ (H : Heap) (locs : List Loc) (ls : Array Slot), Wd 0 D cy ad s u.2 H locs → lv_has ls 5 [(0, .ref (ad (0))), (1, .int u.1)] → W p l e R s m args below meth c H locs 0 0 Q (F0 m 6 ls [])) (hE0 : ∀ (σ1 : Mem), (σ1 : Mem) = r → ∀ (H : Heap) (locs : List Loc) (ls : Array Slot), Wd 0 D cy ad s σ1 H locs → lv_has ls 5 [(0, .ref (ad (0)))] → W p l e R s m args below meth c H locs 0 0 Q (F0 m 39 ls [])) (hw : Wd 0 D cy ad s σ H locs) (hl : lv_has ls 5 [(0, .ref (ad (0))), (1, .int v1)]) (h : j_X9_classes_32 z1 z2 v1 σ = some x) : W p l e R s m args below meth c H locs 0 0 Q (F0 m 32 ls [.int z2, .int z1, .ref (ad (20))]) := by
  unfold j_X9_classes_32 at h
  obtain ⟨hin, h⟩ := gd_of h
  refine m_iast C hw a0_20 hin dX9_classes_32 (fun H locs hw => ?_)
  obtain ⟨σ3, eσ3, h⟩ := lt_of h
  rw [← eσ3] at hw
  obtain ⟨x4, ex4, h⟩ := lt_of h
  refine m_iinc (k := 1) (lv' := [(1, .int _), (0, .ref _)]) C (1 : Int32) (by decide) dX9_classes_33 hl rfl ex4.symm (by decide) rfl (fun ls hl => ?_)
  refine lv_goto (tgt := 6) C.1 C.2.1 dX9_classes_36 (by decide) ?_
  obtain rfl := Option.some.inj h
  exact hP _ hx _ _ _ hw (lv_sub hl [1, 0] rfl)
set_option maxRecDepth 20000 in
theorem w_X9_classes_6 {D : va_G} {cy : Nat → ClassId} {ad : Nat → Nat} {p : Program} {l : Launch} {e : Env} {R : Room} {s : State} {m : MethodId} {args : Array Value} {below : List Frame} {meth : Method} {c : Code} (C : Cx 0 D cy ad p R s m args meth c cX9_classes 5 RX9 (some .int) 5)   {v1 : Int32} {σ : Mem} {Q : State → Prop} {r : Mem} (hL : Lim (T := Mem) (fun s => b_X9_classes_6 s.1 s.2) (v1, σ) = some r) (hE0 : ∀ (σ1 : Mem), (σ1 : Mem) = r → ∀ (H : Heap) (locs : List Loc) (ls : Array Slot), Wd 0 D cy ad s σ1 H locs → lv_has ls 5 [(0, .ref (ad (0)))] → W p l e R s m args below meth c H locs 0 0 Q (F0 m 39 ls [])) (H : Heap) (locs : List Loc) (ls : Array Slot) (hw : Wd 0 D cy ad s σ H locs) (hl : lv_has ls 5 [(0, .ref (ad (0))), (1, .int v1)]) : W p l e R s m args below meth c H locs 0 0 Q (F0 m 6 ls []) := by
  refine Lim_ind hL (P := fun u => ∀ (H : Heap) (locs : List Loc) (ls : Array Slot), Wd 0 D cy ad s u.2 H locs → lv_has ls 5 [(0, .ref (ad (0))), (1, .int u.1)] → W p l e R s m args below meth c H locs 0 0 Q (F0 m 6 ls [])) (fun u x h hx H locs ls hw hl => ?_) H locs ls hw hl
  clear hL
  obtain ⟨v1, σ⟩ := u
  have h : b_X9_classes_6 v1 σ = some x := h
  have hw : Wd 0 D cy ad s σ H locs := hw
  have hl : lv_has ls 5 [(0, .ref (ad (0))), (1, .int v1)] := hl
  have hP : ∀ (u : (Int32 × Mem)), (∀ (H : Heap) (locs : List Loc) (ls : Array Slot), Wd 0 D cy ad s u.2 H locs → lv_has ls 5 [(0, .ref (ad (0))), (1, .int u.1)] → W p l e R s m args below meth c H locs 0 0 Q (F0 m 6 ls [])) → ∀ (H : Heap) (locs : List Loc) (ls : Array Slot), Wd 0 D cy ad s u.2 H locs → lv_has ls 5 [(0, .ref (ad (0))), (1, .int u.1)] → W p l e R s m args below meth c H locs 0 0 Q (F0 m 6 ls []) := fun _ k => k
  unfold b_X9_classes_6 at h
  refine lv_iload_n C.1 C.2.1 dX9_classes_6 rfl (lv_at hl 1 rfl) ?_
  refine lv_aload_n C.1 C.2.1 dX9_classes_7 rfl (lv_at hl 0 rfl) ?_
  refine gf_X9_173 C hw dX9_classes_8 ?_
  refine lv_icmp_ge (tgt := 39) C.1 C.2.1 dX9_classes_11 (by decide) (fun cd => ?_) (fun cd => ?_)
  · have h := ite_t cd h
    obtain rfl := Option.some.inj h
    exact hE0 _ hx _ _ _ hw (lv_sub hl [0] rfl)
  · have h := ite_f cd h
    refine lv_aload_n C.1 C.2.1 dX9_classes_14 rfl (lv_at hl 0 rfl) ?_
    refine gf_X9_70 C hw dX9_classes_15 ?_
    refine lv_iload_n C.1 C.2.1 dX9_classes_18 rfl (lv_at hl 1 rfl) ?_
    refine lv_aload_n C.1 C.2.1 dX9_classes_19 rfl (lv_at hl 0 rfl) ?_
    refine lv_iload_n C.1 C.2.1 dX9_classes_20 rfl (lv_at hl 1 rfl) ?_
    obtain ⟨r2, h1, h⟩ := bS h
    refine go_I hw (run_V (As := [.int _]) C hw (c_X9_isGoodA C.2.2.2.2.2.2.2.2.2 _ _ _ h1) mi_X9_isGoodA mv_X9_isGoodA o0_0 (ci := 9) rfl rfl lk_X9_194 (by decide) (by decide) rfl hl.1 rfl (Nat.le_of_ble_eq_true rfl) dX9_classes_21 ⟨Nat.le_refl 0, Nat.le_refl 0⟩) (fun H locs hw => ?_)
    refine lv_if_eq (tgt := 31) C.1 C.2.1 dX9_classes_24 (by decide) (fun cd => ?_) (fun cd => ?_)
    · have h := ite_t cd h
      refine lv_iconst (v := (0 : Int32)) C.1 C.2.1 dX9_classes_31 (by decide) ?_
      exact w_X9_classes_32 C hx hP hE0 hw (lv_sub hl [0, 1] rfl) h
    · have h := ite_f cd h
      refine lv_iconst (v := (1 : Int32)) C.1 C.2.1 dX9_classes_27 (by decide) ?_
      refine lv_goto (tgt := 32) C.1 C.2.1 dX9_classes_28 (by decide) ?_
      exact w_X9_classes_32 C hx hP hE0 hw (lv_sub hl [0, 1] rfl) h
set_option maxRecDepth 20000 in
theorem w_X9_classes_65 {D : va_G} {cy : Nat → ClassId} {ad : Nat → Nat} {p : Program} {l : Launch} {e : Env} {R : Room} {s : State} {m : MethodId} {args : Array Value} {below : List Frame} {meth : Method} {c : Code} (C : Cx 0 D cy ad p R s m args meth c cX9_classes 5 RX9 (some .int) 5)   {v1 : Int32} {v2 : Int32} {v3 : Int32} {v4 : Int32} {σ : Mem} {Q : State → Prop} {r : (Int32 × Int32 × Int32 × Int32)} (hL : Lim (T := (Int32 × Int32 × Int32 × Int32)) (fun s => b_X9_classes_65 s.1 s.2.1 s.2.2.1 s.2.2.2 σ) (v1, v2, v3, v4) = some r) (hE0 : ∀ (v1 : Int32) (v2 : Int32) (v3 : Int32) (v4 : Int32), ((v1, v2, v3, v4) : (Int32 × Int32 × Int32 × Int32)) = r → ∀ (H : Heap) (locs : List Loc) (ls : Array Slot), Wd 0 D cy ad s σ H locs → lv_has ls 5 [(0, .ref (ad (0))), (1, .int v1), (2, .int v2), (3, .int v3), (4, .int v4)] → W p l e R s m args below meth c H locs 0 0 Q (F0 m 81 ls [])) (H : Heap) (locs : List Loc) (ls : Array Slot) (hw : Wd 0 D cy ad s σ H locs) (hl : lv_has ls 5 [(0, .ref (ad (0))), (1, .int v1), (2, .int v2), (3, .int v3), (4, .int v4)]) : W p l e R s m args below meth c H locs 0 0 Q (F0 m 65 ls []) := by
  refine Lim_ind hL (P := fun u => ∀ (H : Heap) (locs : List Loc) (ls : Array Slot), Wd 0 D cy ad s σ H locs → lv_has ls 5 [(0, .ref (ad (0))), (1, .int u.1), (2, .int u.2.1), (3, .int u.2.2.1), (4, .int u.2.2.2)] → W p l e R s m args below meth c H locs 0 0 Q (F0 m 65 ls [])) (fun u x h hx H locs ls hw hl => ?_) H locs ls hw hl
  clear hL
  obtain ⟨v1, v2, v3, v4⟩ := u
  have h : b_X9_classes_65 v1 v2 v3 v4 σ = some x := h
  have hw : Wd 0 D cy ad s σ H locs := hw
  have hl : lv_has ls 5 [(0, .ref (ad (0))), (1, .int v1), (2, .int v2), (3, .int v3), (4, .int v4)] := hl
  have hP : ∀ (u : (Int32 × Int32 × Int32 × Int32)), (∀ (H : Heap) (locs : List Loc) (ls : Array Slot), Wd 0 D cy ad s σ H locs → lv_has ls 5 [(0, .ref (ad (0))), (1, .int u.1), (2, .int u.2.1), (3, .int u.2.2.1), (4, .int u.2.2.2)] → W p l e R s m args below meth c H locs 0 0 Q (F0 m 65 ls [])) → ∀ (H : Heap) (locs : List Loc) (ls : Array Slot), Wd 0 D cy ad s σ H locs → lv_has ls 5 [(0, .ref (ad (0))), (1, .int u.1), (2, .int u.2.1), (3, .int u.2.2.1), (4, .int u.2.2.2)] → W p l e R s m args below meth c H locs 0 0 Q (F0 m 65 ls []) := fun _ k => k
  unfold b_X9_classes_65 at h
  refine lv_aload_n C.1 C.2.1 dX9_classes_65 rfl (lv_at hl 0 rfl) ?_
  refine lv_iload_n C.1 C.2.1 dX9_classes_66 rfl (lv_at hl 3 rfl) ?_
  refine lv_iload C.1 C.2.1 dX9_classes_67 (lv_at hl 4 rfl) ?_
  obtain ⟨r6, h1, h⟩ := bS h
  refine go_I hw (run_V (As := [.int _, .int _]) C hw (c_X9_isSame C.2.2.2.2.2.2.2.2.2 _ _ _ _ h1) mi_X9_isSame mv_X9_isSame o0_0 (ci := 9) rfl rfl lk_X9_197 (by decide) (by decide) rfl hl.1 rfl (Nat.le_of_ble_eq_true rfl) dX9_classes_69 ⟨Nat.le_refl 0, Nat.le_refl 0⟩) (fun H locs hw => ?_)
  refine lv_if_ne (tgt := 81) C.1 C.2.1 dX9_classes_72 (by decide) (fun cd => ?_) (fun cd => ?_)
  · have h := ite_f cd h
    obtain rfl := Option.some.inj h
    exact hE0 _ _ _ _ hx _ _ _ hw (lv_sub hl [0, 1, 2, 3, 4] rfl)
  · have h := ite_t cd h
    obtain ⟨x7, ex7, h⟩ := lt_of h
    refine m_iinc (k := 4) (lv' := [(4, .int _), (0, .ref _), (1, .int _), (2, .int _), (3, .int _)]) C (1 : Int32) (by decide) dX9_classes_75 hl rfl ex7.symm (by decide) rfl (fun ls hl => ?_)
    refine lv_goto (tgt := 65) C.1 C.2.1 dX9_classes_78 (by decide) ?_
    obtain rfl := Option.some.inj h
    exact hP _ hx _ _ _ hw (lv_sub hl [1, 2, 3, 4, 0] rfl)
set_option maxRecDepth 20000 in
theorem w_X9_classes_116 {D : va_G} {cy : Nat → ClassId} {ad : Nat → Nat} {p : Program} {l : Launch} {e : Env} {R : Room} {s : State} {m : MethodId} {args : Array Value} {below : List Frame} {meth : Method} {c : Code} (C : Cx 0 D cy ad p R s m args meth c cX9_classes 5 RX9 (some .int) 5)   {z0 : Int32} {z1 : Int32} {v1 : Int32} {v3 : Int32}  {σ : Mem} {H : Heap} {locs : List Loc} {ls : Array Slot} {Q : State → Prop} {P : (Int32 × Int32 × Int32 × Mem) → Prop} {r : (Int32 × Int32 × Mem)} {x : (Int32 × Int32 × Int32 × Mem) ⊕ (Int32 × Int32 × Mem)} (hx : LimQ P r x) (hP : ∀ u, P u → ∀ (H : Heap) (locs : List Loc) (ls : Array Slot), Wd 0 D cy ad s u.2.2.2 H locs → lv_has ls 5 [(0, .ref (ad (0))), (1, .int u.1), (2, .int u.2.1), (3, .int u.2.2.1)] → W p l e R s m args below meth c H locs 0 0 Q (F0 m 54 ls [])) (hE0 : ∀ (v1 : Int32) (v2 : Int32) (σ1 : Mem), ((v1, v2, σ1) : (Int32 × Int32 × Mem)) = r → ∀ (H : Heap) (locs : List Loc) (ls : Array Slot), Wd 0 D cy ad s σ1 H locs → lv_has ls 5 [(0, .ref (ad (0))), (1, .int v1), (2, .int v2)] → W p l e R s m args below meth c H locs 0 0 Q (F0 m 124 ls [])) (hw : Wd 0 D cy ad s σ H locs) (hl : lv_has ls 5 [(0, .ref (ad (0))), (1, .int v1), (3, .int v3)]) (h : j_X9_classes_116 z0 z1 v1 v3 σ = some x) : W p l e R s m args below meth c H locs 0 0 Q (F0 m 116 ls [.int z1, .int z0]) := by
  unfold j_X9_classes_116 at h
  refine lv_iadd C.1 C.2.1 dX9_classes_116 ?_
  obtain ⟨x10, ex10, h⟩ := lt_of h
  refine m_topi ex10 ?_
  refine lv_istore_n (lv' := [(2, .int _), (0, .ref _), (1, .int _), (3, .int _)]) C.1 C.2.1 dX9_classes_117 rfl hl (by decide) rfl (fun ls hl => ?_)
  obtain ⟨x11, ex11, h⟩ := lt_of h
  refine m_iinc (k := 3) (lv' := [(3, .int _), (2, .int _), (0, .ref _), (1, .int _)]) C (1 : Int32) (by decide) dX9_classes_118 hl rfl ex11.symm (by decide) rfl (fun ls hl => ?_)
  refine lv_goto (tgt := 54) C.1 C.2.1 dX9_classes_121 (by decide) ?_
  obtain rfl := Option.some.inj h
  exact hP _ hx _ _ _ hw (lv_sub hl [2, 3, 1, 0] rfl)
set_option maxRecDepth 20000 in
theorem w_X9_classes_103 {D : va_G} {cy : Nat → ClassId} {ad : Nat → Nat} {p : Program} {l : Launch} {e : Env} {R : Room} {s : State} {m : MethodId} {args : Array Value} {below : List Frame} {meth : Method} {c : Code} (C : Cx 0 D cy ad p R s m args meth c cX9_classes 5 RX9 (some .int) 5)   {z1 : Int32} {z2 : Int32} {v1 : Int32} {v2 : Int32} {v3 : Int32} {v4 : Int32}  {σ : Mem} {H : Heap} {locs : List Loc} {ls : Array Slot} {Q : State → Prop} {P : (Int32 × Int32 × Int32 × Mem) → Prop} {r : (Int32 × Int32 × Mem)} {x : (Int32 × Int32 × Int32 × Mem) ⊕ (Int32 × Int32 × Mem)} (hx : LimQ P r x) (hP : ∀ u, P u → ∀ (H : Heap) (locs : List Loc) (ls : Array Slot), Wd 0 D cy ad s u.2.2.2 H locs → lv_has ls 5 [(0, .ref (ad (0))), (1, .int u.1), (2, .int u.2.1), (3, .int u.2.2.1)] → W p l e R s m args below meth c H locs 0 0 Q (F0 m 54 ls [])) (hE0 : ∀ (v1 : Int32) (v2 : Int32) (σ1 : Mem), ((v1, v2, σ1) : (Int32 × Int32 × Mem)) = r → ∀ (H : Heap) (locs : List Loc) (ls : Array Slot), Wd 0 D cy ad s σ1 H locs → lv_has ls 5 [(0, .ref (ad (0))), (1, .int v1), (2, .int v2)] → W p l e R s m args below meth c H locs 0 0 Q (F0 m 124 ls [])) (hw : Wd 0 D cy ad s σ H locs) (hl : lv_has ls 5 [(0, .ref (ad (0))), (1, .int v1), (2, .int v2), (3, .int v3), (4, .int v4)]) (h : j_X9_classes_103 z1 z2 v1 v2 v3 v4 σ = some x) : W p l e R s m args below meth c H locs 0 0 Q (F0 m 103 ls [.int z2, .int z1, .ref (ad (21))]) := by
  unfold j_X9_classes_103 at h
  obtain ⟨hin, h⟩ := gd_of h
  refine m_iast C hw a0_21 hin dX9_classes_103 (fun H locs hw => ?_)
  obtain ⟨σ9, eσ9, h⟩ := lt_of h
  rw [← eσ9] at hw
  refine lv_iload_n C.1 C.2.1 dX9_classes_104 rfl (lv_at hl 2 rfl) ?_
  refine lv_iload C.1 C.2.1 dX9_classes_105 (lv_at hl 4 rfl) ?_
  refine lv_iload_n C.1 C.2.1 dX9_classes_107 rfl (lv_at hl 3 rfl) ?_
  refine lv_icmp_ne (tgt := 115) C.1 C.2.1 dX9_classes_108 (by decide) (fun cd => ?_) (fun cd => ?_)
  · have h := ite_f cd h
    refine lv_iconst (v := (0 : Int32)) C.1 C.2.1 dX9_classes_115 (by decide) ?_
    exact w_X9_classes_116 C hx hP hE0 hw (lv_sub hl [0, 1, 3] rfl) h
  · have h := ite_t cd h
    refine lv_iconst (v := (1 : Int32)) C.1 C.2.1 dX9_classes_111 (by decide) ?_
    refine lv_goto (tgt := 116) C.1 C.2.1 dX9_classes_112 (by decide) ?_
    exact w_X9_classes_116 C hx hP hE0 hw (lv_sub hl [0, 1, 3] rfl) h
set_option maxRecDepth 20000 in
theorem w_X9_classes_54 {D : va_G} {cy : Nat → ClassId} {ad : Nat → Nat} {p : Program} {l : Launch} {e : Env} {R : Room} {s : State} {m : MethodId} {args : Array Value} {below : List Frame} {meth : Method} {c : Code} (C : Cx 0 D cy ad p R s m args meth c cX9_classes 5 RX9 (some .int) 5)   {v1 : Int32} {v2 : Int32} {v3 : Int32} {σ : Mem} {Q : State → Prop} {r : (Int32 × Int32 × Mem)} (hL : Lim (T := (Int32 × Int32 × Mem)) (fun s => b_X9_classes_54 s.1 s.2.1 s.2.2.1 s.2.2.2) (v1, v2, v3, σ) = some r) (hE0 : ∀ (v1 : Int32) (v2 : Int32) (σ1 : Mem), ((v1, v2, σ1) : (Int32 × Int32 × Mem)) = r → ∀ (H : Heap) (locs : List Loc) (ls : Array Slot), Wd 0 D cy ad s σ1 H locs → lv_has ls 5 [(0, .ref (ad (0))), (1, .int v1), (2, .int v2)] → W p l e R s m args below meth c H locs 0 0 Q (F0 m 124 ls [])) (H : Heap) (locs : List Loc) (ls : Array Slot) (hw : Wd 0 D cy ad s σ H locs) (hl : lv_has ls 5 [(0, .ref (ad (0))), (1, .int v1), (2, .int v2), (3, .int v3)]) : W p l e R s m args below meth c H locs 0 0 Q (F0 m 54 ls []) := by
  refine Lim_ind hL (P := fun u => ∀ (H : Heap) (locs : List Loc) (ls : Array Slot), Wd 0 D cy ad s u.2.2.2 H locs → lv_has ls 5 [(0, .ref (ad (0))), (1, .int u.1), (2, .int u.2.1), (3, .int u.2.2.1)] → W p l e R s m args below meth c H locs 0 0 Q (F0 m 54 ls [])) (fun u x h hx H locs ls hw hl => ?_) H locs ls hw hl
  clear hL
  obtain ⟨v1, v2, v3, σ⟩ := u
  have h : b_X9_classes_54 v1 v2 v3 σ = some x := h
  have hw : Wd 0 D cy ad s σ H locs := hw
  have hl : lv_has ls 5 [(0, .ref (ad (0))), (1, .int v1), (2, .int v2), (3, .int v3)] := hl
  have hP : ∀ (u : (Int32 × Int32 × Int32 × Mem)), (∀ (H : Heap) (locs : List Loc) (ls : Array Slot), Wd 0 D cy ad s u.2.2.2 H locs → lv_has ls 5 [(0, .ref (ad (0))), (1, .int u.1), (2, .int u.2.1), (3, .int u.2.2.1)] → W p l e R s m args below meth c H locs 0 0 Q (F0 m 54 ls [])) → ∀ (H : Heap) (locs : List Loc) (ls : Array Slot), Wd 0 D cy ad s u.2.2.2 H locs → lv_has ls 5 [(0, .ref (ad (0))), (1, .int u.1), (2, .int u.2.1), (3, .int u.2.2.1)] → W p l e R s m args below meth c H locs 0 0 Q (F0 m 54 ls []) := fun _ k => k
  unfold b_X9_classes_54 at h
  refine lv_iload_n C.1 C.2.1 dX9_classes_54 rfl (lv_at hl 3 rfl) ?_
  refine lv_aload_n C.1 C.2.1 dX9_classes_55 rfl (lv_at hl 0 rfl) ?_
  refine gf_X9_173 C hw dX9_classes_56 ?_
  refine lv_icmp_ge (tgt := 124) C.1 C.2.1 dX9_classes_59 (by decide) (fun cd => ?_) (fun cd => ?_)
  · have h := ite_t cd h
    obtain rfl := Option.some.inj h
    exact hE0 _ _ _ hx _ _ _ hw (lv_sub hl [0, 1, 2] rfl)
  · have h := ite_f cd h
    refine lv_iconst (v := (0 : Int32)) C.1 C.2.1 dX9_classes_62 (by decide) ?_
    refine lv_istore (lv' := [(4, .int _), (0, .ref _), (1, .int _), (2, .int _), (3, .int _)]) C.1 C.2.1 dX9_classes_63 hl (by decide) rfl (fun ls hl => ?_)
    obtain ⟨r8, hL, h⟩ := bS h
    refine w_X9_classes_65 C  hL (fun y0 y1 y2 y3 hr H locs ls hw hl => ?_) _ _ _ hw (lv_sub hl [1, 2, 3, 4, 0] rfl)
    · subst hr
      try dsimp only at h
      try dsimp only at hw
      try dsimp only at hl
      refine lv_aload_n C.1 C.2.1 dX9_classes_81 rfl (lv_at hl 0 rfl) ?_
      refine gf_X9_73 C hw dX9_classes_82 ?_
      refine lv_iload_n C.1 C.2.1 dX9_classes_85 rfl (lv_at hl 3 rfl) ?_
      refine lv_iload C.1 C.2.1 dX9_classes_86 (lv_at hl 4 rfl) ?_
      refine lv_iload_n C.1 C.2.1 dX9_classes_88 rfl (lv_at hl 3 rfl) ?_
      refine lv_icmp_ne (tgt := 96) C.1 C.2.1 dX9_classes_89 (by decide) (fun cd => ?_) (fun cd => ?_)
      · have h := ite_f cd h
        refine lv_aload_n C.1 C.2.1 dX9_classes_96 rfl (lv_at hl 0 rfl) ?_
        refine gf_X9_73 C hw dX9_classes_97 ?_
        refine lv_iload C.1 C.2.1 dX9_classes_100 (lv_at hl 4 rfl) ?_
        obtain ⟨hin, h⟩ := gd_of h
        refine m_iald C hw a0_21 hin dX9_classes_102 ?_
        exact w_X9_classes_103 C hx hP hE0 hw (lv_sub hl [0, 1, 2, 3, 4] rfl) h
      · have h := ite_t cd h
        refine lv_iload_n C.1 C.2.1 dX9_classes_92 rfl (lv_at hl 2 rfl) ?_
        refine lv_goto (tgt := 103) C.1 C.2.1 dX9_classes_93 (by decide) ?_
        exact w_X9_classes_103 C hx hP hE0 hw (lv_sub hl [0, 1, 2, 3, 4] rfl) h
set_option maxRecDepth 20000 in
theorem w_X9_classes_126 {D : va_G} {cy : Nat → ClassId} {ad : Nat → Nat} {p : Program} {l : Launch} {e : Env} {R : Room} {s : State} {m : MethodId} {args : Array Value} {below : List Frame} {meth : Method} {c : Code} (C : Cx 0 D cy ad p R s m args meth c cX9_classes 5 RX9 (some .int) 5)   {v1 : Int32} {v2 : Int32} {v3 : Int32} {σ : Mem} {Q : State → Prop} {r : (Int32 × Int32 × Mem)} (hL : Lim (T := (Int32 × Int32 × Mem)) (fun s => b_X9_classes_126 s.1 s.2.1 s.2.2.1 s.2.2.2) (v1, v2, v3, σ) = some r) (hE0 : ∀ (v1 : Int32) (v2 : Int32) (σ1 : Mem), ((v1, v2, σ1) : (Int32 × Int32 × Mem)) = r → ∀ (H : Heap) (locs : List Loc) (ls : Array Slot), Wd 0 D cy ad s σ1 H locs → lv_has ls 5 [(0, .ref (ad (0))), (1, .int v1), (2, .int v2)] → W p l e R s m args below meth c H locs 0 0 Q (F0 m 152 ls [])) (H : Heap) (locs : List Loc) (ls : Array Slot) (hw : Wd 0 D cy ad s σ H locs) (hl : lv_has ls 5 [(0, .ref (ad (0))), (1, .int v1), (2, .int v2), (3, .int v3)]) : W p l e R s m args below meth c H locs 0 0 Q (F0 m 126 ls []) := by
  refine Lim_ind hL (P := fun u => ∀ (H : Heap) (locs : List Loc) (ls : Array Slot), Wd 0 D cy ad s u.2.2.2 H locs → lv_has ls 5 [(0, .ref (ad (0))), (1, .int u.1), (2, .int u.2.1), (3, .int u.2.2.1)] → W p l e R s m args below meth c H locs 0 0 Q (F0 m 126 ls [])) (fun u x h hx H locs ls hw hl => ?_) H locs ls hw hl
  clear hL
  obtain ⟨v1, v2, v3, σ⟩ := u
  have h : b_X9_classes_126 v1 v2 v3 σ = some x := h
  have hw : Wd 0 D cy ad s σ H locs := hw
  have hl : lv_has ls 5 [(0, .ref (ad (0))), (1, .int v1), (2, .int v2), (3, .int v3)] := hl
  have hP : ∀ (u : (Int32 × Int32 × Int32 × Mem)), (∀ (H : Heap) (locs : List Loc) (ls : Array Slot), Wd 0 D cy ad s u.2.2.2 H locs → lv_has ls 5 [(0, .ref (ad (0))), (1, .int u.1), (2, .int u.2.1), (3, .int u.2.2.1)] → W p l e R s m args below meth c H locs 0 0 Q (F0 m 126 ls [])) → ∀ (H : Heap) (locs : List Loc) (ls : Array Slot), Wd 0 D cy ad s u.2.2.2 H locs → lv_has ls 5 [(0, .ref (ad (0))), (1, .int u.1), (2, .int u.2.1), (3, .int u.2.2.1)] → W p l e R s m args below meth c H locs 0 0 Q (F0 m 126 ls []) := fun _ k => k
  unfold b_X9_classes_126 at h
  refine lv_iload_n C.1 C.2.1 dX9_classes_126 rfl (lv_at hl 3 rfl) ?_
  refine lv_aload_n C.1 C.2.1 dX9_classes_127 rfl (lv_at hl 0 rfl) ?_
  refine gf_X9_173 C hw dX9_classes_128 ?_
  refine lv_icmp_ge (tgt := 152) C.1 C.2.1 dX9_classes_131 (by decide) (fun cd => ?_) (fun cd => ?_)
  · have h := ite_t cd h
    obtain rfl := Option.some.inj h
    exact hE0 _ _ _ hx _ _ _ hw (lv_sub hl [0, 1, 2] rfl)
  · have h := ite_f cd h
    refine lv_aload_n C.1 C.2.1 dX9_classes_134 rfl (lv_at hl 0 rfl) ?_
    refine gf_X9_70 C hw dX9_classes_135 ?_
    refine lv_iload_n C.1 C.2.1 dX9_classes_138 rfl (lv_at hl 3 rfl) ?_
    refine lv_aload_n C.1 C.2.1 dX9_classes_139 rfl (lv_at hl 0 rfl) ?_
    refine gf_X9_73 C hw dX9_classes_140 ?_
    refine lv_iload_n C.1 C.2.1 dX9_classes_143 rfl (lv_at hl 3 rfl) ?_
    obtain ⟨hin, h⟩ := gd_of h
    refine m_iald C hw a0_21 hin dX9_classes_144 ?_
    obtain ⟨hin, h⟩ := gd_of h
    refine m_iast C hw a0_20 hin dX9_classes_145 (fun H locs hw => ?_)
    obtain ⟨σ13, eσ13, h⟩ := lt_of h
    rw [← eσ13] at hw
    obtain ⟨x14, ex14, h⟩ := lt_of h
    refine m_iinc (k := 3) (lv' := [(3, .int _), (0, .ref _), (1, .int _), (2, .int _)]) C (1 : Int32) (by decide) dX9_classes_146 hl rfl ex14.symm (by decide) rfl (fun ls hl => ?_)
    refine lv_goto (tgt := 126) C.1 C.2.1 dX9_classes_149 (by decide) ?_
    obtain rfl := Option.some.inj h
    exact hP _ hx _ _ _ hw (lv_sub hl [1, 2, 3, 0] rfl)
set_option maxRecDepth 20000 in
theorem w_X9_classes_43 {D : va_G} {cy : Nat → ClassId} {ad : Nat → Nat} {p : Program} {l : Launch} {e : Env} {R : Room} {s : State} {m : MethodId} {args : Array Value} {below : List Frame} {meth : Method} {c : Code} (C : Cx 0 D cy ad p R s m args meth c cX9_classes 5 RX9 (some .int) 5)   {v1 : Int32} {v2 : Int32} {σ : Mem} {Q : State → Prop} {r : (Int32 × Mem)} (hL : Lim (T := (Int32 × Mem)) (fun s => b_X9_classes_43 s.1 s.2.1 s.2.2) (v1, v2, σ) = some r) (hE0 : ∀ (v2 : Int32) (σ1 : Mem), ((v2, σ1) : (Int32 × Mem)) = r → ∀ (H : Heap) (locs : List Loc) (ls : Array Slot), Wd 0 D cy ad s σ1 H locs → lv_has ls 5 [(2, .int v2)] → W p l e R s m args below meth c H locs 0 0 Q (F0 m 155 ls [])) (H : Heap) (locs : List Loc) (ls : Array Slot) (hw : Wd 0 D cy ad s σ H locs) (hl : lv_has ls 5 [(0, .ref (ad (0))), (1, .int v1), (2, .int v2)]) : W p l e R s m args below meth c H locs 0 0 Q (F0 m 43 ls []) := by
  refine Lim_ind hL (P := fun u => ∀ (H : Heap) (locs : List Loc) (ls : Array Slot), Wd 0 D cy ad s u.2.2 H locs → lv_has ls 5 [(0, .ref (ad (0))), (1, .int u.1), (2, .int u.2.1)] → W p l e R s m args below meth c H locs 0 0 Q (F0 m 43 ls [])) (fun u x h hx H locs ls hw hl => ?_) H locs ls hw hl
  clear hL
  obtain ⟨v1, v2, σ⟩ := u
  have h : b_X9_classes_43 v1 v2 σ = some x := h
  have hw : Wd 0 D cy ad s σ H locs := hw
  have hl : lv_has ls 5 [(0, .ref (ad (0))), (1, .int v1), (2, .int v2)] := hl
  have hP : ∀ (u : (Int32 × Int32 × Mem)), (∀ (H : Heap) (locs : List Loc) (ls : Array Slot), Wd 0 D cy ad s u.2.2 H locs → lv_has ls 5 [(0, .ref (ad (0))), (1, .int u.1), (2, .int u.2.1)] → W p l e R s m args below meth c H locs 0 0 Q (F0 m 43 ls [])) → ∀ (H : Heap) (locs : List Loc) (ls : Array Slot), Wd 0 D cy ad s u.2.2 H locs → lv_has ls 5 [(0, .ref (ad (0))), (1, .int u.1), (2, .int u.2.1)] → W p l e R s m args below meth c H locs 0 0 Q (F0 m 43 ls []) := fun _ k => k
  unfold b_X9_classes_43 at h
  refine lv_iload_n C.1 C.2.1 dX9_classes_43 rfl (lv_at hl 2 rfl) ?_
  refine lv_iload_n C.1 C.2.1 dX9_classes_44 rfl (lv_at hl 1 rfl) ?_
  refine lv_icmp_eq (tgt := 155) C.1 C.2.1 dX9_classes_45 (by decide) (fun cd => ?_) (fun cd => ?_)
  · have h := ite_t cd h
    obtain rfl := Option.some.inj h
    exact hE0 _ _ hx _ _ _ hw (lv_sub hl [2] rfl)
  · have h := ite_f cd h
    refine lv_iload_n C.1 C.2.1 dX9_classes_48 rfl (lv_at hl 2 rfl) ?_
    refine lv_istore_n (lv' := [(1, .int _), (0, .ref _), (2, .int _)]) C.1 C.2.1 dX9_classes_49 rfl hl (by decide) rfl (fun ls hl => ?_)
    refine lv_iconst (v := (0 : Int32)) C.1 C.2.1 dX9_classes_50 (by decide) ?_
    refine lv_istore_n (lv' := [(2, .int _), (1, .int _), (0, .ref _)]) C.1 C.2.1 dX9_classes_51 rfl hl (by decide) rfl (fun ls hl => ?_)
    refine lv_iconst (v := (0 : Int32)) C.1 C.2.1 dX9_classes_52 (by decide) ?_
    refine lv_istore_n (lv' := [(3, .int _), (2, .int _), (1, .int _), (0, .ref _)]) C.1 C.2.1 dX9_classes_53 rfl hl (by decide) rfl (fun ls hl => ?_)
    obtain ⟨r12, hL, h⟩ := bS h
    refine w_X9_classes_54 C  hL (fun y0 y1 y2 hr H locs ls hw hl => ?_) _ _ _ hw (lv_sub hl [3, 2, 1, 0] rfl)
    · subst hr
      try dsimp only at h
      try dsimp only at hw
      try dsimp only at hl
      refine lv_iconst (v := (0 : Int32)) C.1 C.2.1 dX9_classes_124 (by decide) ?_
      refine lv_istore_n (lv' := [(3, .int _), (0, .ref _), (1, .int _), (2, .int _)]) C.1 C.2.1 dX9_classes_125 rfl hl (by decide) rfl (fun ls hl => ?_)
      obtain ⟨r15, hL, h⟩ := bS h
      refine w_X9_classes_126 C  hL (fun y0 y1 y2 hr H locs ls hw hl => ?_) _ _ _ hw (lv_sub hl [1, 2, 3, 0] rfl)
      · subst hr
        try dsimp only at h
        try dsimp only at hw
        try dsimp only at hl
        refine lv_goto (tgt := 43) C.1 C.2.1 dX9_classes_152 (by decide) ?_
        obtain rfl := Option.some.inj h
        exact hP _ hx _ _ _ hw (lv_sub hl [0, 1, 2] rfl)
set_option maxRecDepth 20000 in
theorem c_X9_classes {l : Launch} {D : va_G} {cy : Nat → ClassId} {ad : Nat → Nat} (hj : InjW 0 ad)   (σ : Mem) (r : (Int32 × Mem)) (h : f_X9_classes σ = some r) : CI 0 D cy ad l yX9_classes cX9_classes 5 (some .int) 5 [.ref (ad (0))] σ r.1 r.2 := by
  refine CI.mk (by decide) hj (Nat.le_of_ble_eq_true rfl) (fun p e R s m below meth c ls C hw hl => ?_)
  have hl : lv_has ls 5 [(0, .ref (ad (0)))] := hl
  generalize ([.ref (ad (0))] : List Value).toArray = args at C ⊢
  have C : Cx 0 D cy ad p R s m args meth c cX9_classes 5 RX9 (some .int) 5 := C
  unfold f_X9_classes at h
  refine lv_aload_n C.1 C.2.1 dX9_classes_0 rfl (lv_at hl 0 rfl) ?_
  obtain ⟨r1, h1, h⟩ := bS h
  refine go_V hw (run_V (As := []) C hw (c_X9_findOwn C.2.2.2.2.2.2.2.2.2 _ _ h1) mi_X9_findOwn mv_X9_findOwn o0_0 (ci := 9) rfl rfl lk_X9_191 (by decide) (by decide) rfl hl.1 rfl (Nat.le_of_ble_eq_true rfl) dX9_classes_1 ⟨Nat.le_refl 0, Nat.le_refl 0⟩) (fun H locs hw => ?_)
  refine lv_iconst (v := (0 : Int32)) C.1 C.2.1 dX9_classes_4 (by decide) ?_
  refine lv_istore_n (lv' := [(1, .int _), (0, .ref _)]) C.1 C.2.1 dX9_classes_5 rfl hl (by decide) rfl (fun ls hl => ?_)
  obtain ⟨r5, hL, h⟩ := bS h
  refine w_X9_classes_6 C  hL (fun y0 hr H locs ls hw hl => ?_) _ _ _ hw (lv_sub hl [1, 0] rfl)
  · subst hr
    try dsimp only at h
    try dsimp only at hw
    try dsimp only at hl
    refine lv_iconst (v := (0 : Int32)) C.1 C.2.1 dX9_classes_39 (by decide) ?_
    refine lv_istore_n (lv' := [(1, .int _), (0, .ref _)]) C.1 C.2.1 dX9_classes_40 rfl hl (by decide) rfl (fun ls hl => ?_)
    refine lv_iconst (v := (1 : Int32)) C.1 C.2.1 dX9_classes_41 (by decide) ?_
    refine lv_istore_n (lv' := [(2, .int _), (1, .int _), (0, .ref _)]) C.1 C.2.1 dX9_classes_42 rfl hl (by decide) rfl (fun ls hl => ?_)
    obtain ⟨r16, hL, h⟩ := bS h
    refine w_X9_classes_43 C  hL (fun y0 y1 hr H locs ls hw hl => ?_) _ _ _ hw (lv_sub hl [2, 1, 0] rfl)
    · subst hr
      try dsimp only at h
      try dsimp only at hw
      try dsimp only at hl
      refine lv_iload_n C.1 C.2.1 dX9_classes_155 rfl (lv_at hl 0 rfl) ?_
      exact m_iret C hw (ret_p h) dX9_classes_156
noncomputable def b_X9_useful_8  (v1 : Int32) (v2 : Int32) (σ : Mem) : Option ((Int32 × Int32) ⊕ Int32) :=
  if (σ.1 0 22) ≤ v2 then (some (.inr v1)) else (gd (ix v2 120) (lt (v1 ||| (σ.1 15 v2.toNatClampNeg)) (fun x2 => lt (v2 + (1 : Int32)) (fun x3 => some (.inl (x2, x3))))))
noncomputable def j_X9_useful_201  (z0 : Int32) (z1 : Int32) (v1 : Int32) (v3 : Int32) (v4 : Int32) (σ : Mem) : Option ((Int32 × Int32 × Int32 × Int32) ⊕ (Int32 × Int32 × Int32)) :=
  lt (z0 ||| z1) (fun x8 => lt (v4 + (1 : Int32)) (fun x9 => some (.inl (v1, x8, v3, x9))))
noncomputable def j_X9_useful_200  (z0 : Int32) (v1 : Int32) (v3 : Int32) (v4 : Int32) (σ : Mem) : Option ((Int32 × Int32 × Int32 × Int32) ⊕ (Int32 × Int32 × Int32)) :=
  j_X9_useful_201 z0 (0 : Int32) v1 v3 v4 σ
noncomputable def j_X9_useful_174  (z0 : Int32) (z1 : Int32) (v1 : Int32) (v3 : Int32) (v4 : Int32) (v5 : Int32) (v6 : Int32) (σ : Mem) : Option ((Int32 × Int32 × Int32 × Int32) ⊕ (Int32 × Int32 × Int32)) :=
  lt (z0 ||| z1) (fun x7 => if v6 = 0 then (j_X9_useful_200 x7 v1 v3 v4 σ) else (if v5 ≤ (1 : Int32) then (j_X9_useful_200 x7 v1 v3 v4 σ) else (gd (ix v4 32) (j_X9_useful_201 x7 ((1 : Int32) <<< ((σ.1 5 v4.toNatClampNeg) &&& 31)) v1 v3 v4 σ))))
noncomputable def j_X9_useful_173  (z0 : Int32) (v1 : Int32) (v3 : Int32) (v4 : Int32) (v5 : Int32) (v6 : Int32) (σ : Mem) : Option ((Int32 × Int32 × Int32 × Int32) ⊕ (Int32 × Int32 × Int32)) :=
  j_X9_useful_174 z0 (0 : Int32) v1 v3 v4 v5 v6 σ
noncomputable def j_X9_useful_148  (z0 : Int32) (v1 : Int32) (v2 : Int32) (v3 : Int32) (v4 : Int32) (v5 : Int32) (σ : Mem) : Option ((Int32 × Int32 × Int32 × Int32) ⊕ (Int32 × Int32 × Int32)) :=
  if z0 = 0 then (j_X9_useful_173 v2 v1 v3 v4 v5 z0 σ) else (if v5 ≤ 0 then (j_X9_useful_173 v2 v1 v3 v4 v5 z0 σ) else (gd (ix v4 32) (j_X9_useful_174 v2 ((1 : Int32) <<< ((σ.1 4 v4.toNatClampNeg) &&& 31)) v1 v3 v4 v5 z0 σ)))
noncomputable def j_X9_useful_147  (v1 : Int32) (v2 : Int32) (v3 : Int32) (v4 : Int32) (v5 : Int32) (σ : Mem) : Option ((Int32 × Int32 × Int32 × Int32) ⊕ (Int32 × Int32 × Int32)) :=
  j_X9_useful_148 (0 : Int32) v1 v2 v3 v4 v5 σ
noncomputable def j_X9_useful_143  (v1 : Int32) (v2 : Int32) (v3 : Int32) (v4 : Int32) (v5 : Int32) (σ : Mem) : Option ((Int32 × Int32 × Int32 × Int32) ⊕ (Int32 × Int32 × Int32)) :=
  j_X9_useful_148 (1 : Int32) v1 v2 v3 v4 v5 σ
noncomputable def j_X9_useful_123  (v1 : Int32) (v2 : Int32) (v3 : Int32) (v4 : Int32) (v5 : Int32) (σ : Mem) : Option ((Int32 × Int32 × Int32 × Int32) ⊕ (Int32 × Int32 × Int32)) :=
  if v5 < (2 : Int32) then (j_X9_useful_143 v1 v2 v3 v4 v5 σ) else (gd (ix v4 32) (if (f_X9_has v1 (σ.1 5 v4.toNatClampNeg)) = 0 then (j_X9_useful_147 v1 v2 v3 v4 v5 σ) else (j_X9_useful_143 v1 v2 v3 v4 v5 σ)))
noncomputable def b_X9_useful_52  (v1 : Int32) (v2 : Int32) (v3 : Int32) (v4 : Int32) (σ : Mem) : Option ((Int32 × Int32 × Int32 × Int32) ⊕ (Int32 × Int32 × Int32)) :=
  if (σ.1 2 (0 : Int32).toNatClampNeg) ≤ v4 then (some (.inr (v1, v2, v3))) else (gd (ix v4 32) (lt (f_X9_armsOf (σ.1 3 v4.toNatClampNeg)) (fun x6 => if (f_X9_has (σ.1 7 (0 : Int32).toNatClampNeg) v4) = 0 then (j_X9_useful_147 v1 v2 v3 v4 x6 σ) else (gd (ix v4 32) (if (f_X9_has v2 (σ.1 6 v4.toNatClampNeg)) = 0 then (j_X9_useful_147 v1 v2 v3 v4 x6 σ) else (if x6 < (1 : Int32) then (j_X9_useful_123 v1 v2 v3 v4 x6 σ) else (gd (ix v4 32) (if (f_X9_has v1 (σ.1 4 v4.toNatClampNeg)) = 0 then (j_X9_useful_147 v1 v2 v3 v4 x6 σ) else (j_X9_useful_123 v1 v2 v3 v4 x6 σ)))))))))
noncomputable def b_X9_useful_42  (v1 : Int32) (v2 : Int32) (v3 : Int32) (σ : Mem) : Option ((Int32 × Int32 × Int32) ⊕ Int32) :=
  if v2 = v3 then (some (.inr v2)) else ((Lim (T := (Int32 × Int32 × Int32)) (fun s => b_X9_useful_52 s.1 s.2.1 s.2.2.1 s.2.2.2 σ) (v1, v2, v2, (0 : Int32))).bind (fun r10 => some (.inl (r10.1, r10.2.1, r10.2.2))))
noncomputable def f_X9_useful  (σ : Mem) : Option (Int32 × Mem) :=
  (f_X9_findOwn σ).bind (fun r1 => (Lim (T := Int32) (fun s => b_X9_useful_8 s.1 s.2 r1) ((0 : Int32), (0 : Int32))).bind (fun r4 => lt (r4 &&& (r1.1 7 (1 : Int32).toNatClampNeg)) (fun x5 => (Lim (T := Int32) (fun s => b_X9_useful_42 s.1 s.2.1 s.2.2 r1) (r4, x5, (-1 : Int32))).bind (fun r11 => some (r11, r1)))))
set_option maxRecDepth 20000 in
theorem w_X9_useful_8 {D : va_G} {cy : Nat → ClassId} {ad : Nat → Nat} {p : Program} {l : Launch} {e : Env} {R : Room} {s : State} {m : MethodId} {args : Array Value} {below : List Frame} {meth : Method} {c : Code} (C : Cx 0 D cy ad p R s m args meth c cX9_useful 7 RX9 (some .int) 5)   {v1 : Int32} {v2 : Int32} {σ : Mem} {Q : State → Prop} {r : Int32} (hL : Lim (T := Int32) (fun s => b_X9_useful_8 s.1 s.2 σ) (v1, v2) = some r) (hE0 : ∀ (v1 : Int32), (v1 : Int32) = r → ∀ (H : Heap) (locs : List Loc) (ls : Array Slot), Wd 0 D cy ad s σ H locs → lv_has ls 7 [(0, .ref (ad (0))), (1, .int v1)] → W p l e R s m args below meth c H locs 0 0 Q (F0 m 31 ls [])) (H : Heap) (locs : List Loc) (ls : Array Slot) (hw : Wd 0 D cy ad s σ H locs) (hl : lv_has ls 7 [(0, .ref (ad (0))), (1, .int v1), (2, .int v2)]) : W p l e R s m args below meth c H locs 0 0 Q (F0 m 8 ls []) := by
  refine Lim_ind hL (P := fun u => ∀ (H : Heap) (locs : List Loc) (ls : Array Slot), Wd 0 D cy ad s σ H locs → lv_has ls 7 [(0, .ref (ad (0))), (1, .int u.1), (2, .int u.2)] → W p l e R s m args below meth c H locs 0 0 Q (F0 m 8 ls [])) (fun u x h hx H locs ls hw hl => ?_) H locs ls hw hl
  clear hL
  obtain ⟨v1, v2⟩ := u
  have h : b_X9_useful_8 v1 v2 σ = some x := h
  have hw : Wd 0 D cy ad s σ H locs := hw
  have hl : lv_has ls 7 [(0, .ref (ad (0))), (1, .int v1), (2, .int v2)] := hl
  have hP : ∀ (u : (Int32 × Int32)), (∀ (H : Heap) (locs : List Loc) (ls : Array Slot), Wd 0 D cy ad s σ H locs → lv_has ls 7 [(0, .ref (ad (0))), (1, .int u.1), (2, .int u.2)] → W p l e R s m args below meth c H locs 0 0 Q (F0 m 8 ls [])) → ∀ (H : Heap) (locs : List Loc) (ls : Array Slot), Wd 0 D cy ad s σ H locs → lv_has ls 7 [(0, .ref (ad (0))), (1, .int u.1), (2, .int u.2)] → W p l e R s m args below meth c H locs 0 0 Q (F0 m 8 ls []) := fun _ k => k
  unfold b_X9_useful_8 at h
  refine lv_iload_n C.1 C.2.1 dX9_useful_8 rfl (lv_at hl 2 rfl) ?_
  refine lv_aload_n C.1 C.2.1 dX9_useful_9 rfl (lv_at hl 0 rfl) ?_
  refine gf_X9_173 C hw dX9_useful_10 ?_
  refine lv_icmp_ge (tgt := 31) C.1 C.2.1 dX9_useful_13 (by decide) (fun cd => ?_) (fun cd => ?_)
  · have h := ite_t cd h
    obtain rfl := Option.some.inj h
    exact hE0 _ hx _ _ _ hw (lv_sub hl [0, 1] rfl)
  · have h := ite_f cd h
    refine lv_iload_n C.1 C.2.1 dX9_useful_16 rfl (lv_at hl 1 rfl) ?_
    refine lv_aload_n C.1 C.2.1 dX9_useful_17 rfl (lv_at hl 0 rfl) ?_
    refine gf_X9_55 C hw dX9_useful_18 ?_
    refine lv_iload_n C.1 C.2.1 dX9_useful_21 rfl (lv_at hl 2 rfl) ?_
    obtain ⟨hin, h⟩ := gd_of h
    refine m_iald C hw a0_15 hin dX9_useful_22 ?_
    refine lv_ior C.1 C.2.1 dX9_useful_23 ?_
    obtain ⟨x2, ex2, h⟩ := lt_of h
    refine m_topi ex2 ?_
    refine lv_istore_n (lv' := [(1, .int _), (0, .ref _), (2, .int _)]) C.1 C.2.1 dX9_useful_24 rfl hl (by decide) rfl (fun ls hl => ?_)
    obtain ⟨x3, ex3, h⟩ := lt_of h
    refine m_iinc (k := 2) (lv' := [(2, .int _), (1, .int _), (0, .ref _)]) C (1 : Int32) (by decide) dX9_useful_25 hl rfl ex3.symm (by decide) rfl (fun ls hl => ?_)
    refine lv_goto (tgt := 8) C.1 C.2.1 dX9_useful_28 (by decide) ?_
    obtain rfl := Option.some.inj h
    exact hP _ hx _ _ _ hw (lv_sub hl [2, 1, 0] rfl)
set_option maxRecDepth 20000 in
theorem w_X9_useful_201 {D : va_G} {cy : Nat → ClassId} {ad : Nat → Nat} {p : Program} {l : Launch} {e : Env} {R : Room} {s : State} {m : MethodId} {args : Array Value} {below : List Frame} {meth : Method} {c : Code} (C : Cx 0 D cy ad p R s m args meth c cX9_useful 7 RX9 (some .int) 5)   {z0 : Int32} {z1 : Int32} {v1 : Int32} {v3 : Int32} {v4 : Int32}  {σ : Mem} {H : Heap} {locs : List Loc} {ls : Array Slot} {Q : State → Prop} {P : (Int32 × Int32 × Int32 × Int32) → Prop} {r : (Int32 × Int32 × Int32)} {x : (Int32 × Int32 × Int32 × Int32) ⊕ (Int32 × Int32 × Int32)} (hx : LimQ P r x) (hP : ∀ u, P u → ∀ (H : Heap) (locs : List Loc) (ls : Array Slot), Wd 0 D cy ad s σ H locs → lv_has ls 7 [(0, .ref (ad (0))), (1, .int u.1), (2, .int u.2.1), (3, .int u.2.2.1), (4, .int u.2.2.2)] → W p l e R s m args below meth c H locs 0 0 Q (F0 m 52 ls [])) (hE0 : ∀ (v1 : Int32) (v2 : Int32) (v3 : Int32), ((v1, v2, v3) : (Int32 × Int32 × Int32)) = r → ∀ (H : Heap) (locs : List Loc) (ls : Array Slot), Wd 0 D cy ad s σ H locs → lv_has ls 7 [(0, .ref (ad (0))), (1, .int v1), (2, .int v2), (3, .int v3)] → W p l e R s m args below meth c H locs 0 0 Q (F0 m 209 ls [])) (hw : Wd 0 D cy ad s σ H locs) (hl : lv_has ls 7 [(0, .ref (ad (0))), (1, .int v1), (3, .int v3), (4, .int v4)]) (h : j_X9_useful_201 z0 z1 v1 v3 v4 σ = some x) : W p l e R s m args below meth c H locs 0 0 Q (F0 m 201 ls [.int z1, .int z0]) := by
  unfold j_X9_useful_201 at h
  refine lv_ior C.1 C.2.1 dX9_useful_201 ?_
  obtain ⟨x8, ex8, h⟩ := lt_of h
  refine m_topi ex8 ?_
  refine lv_istore_n (lv' := [(2, .int _), (0, .ref _), (1, .int _), (3, .int _), (4, .int _)]) C.1 C.2.1 dX9_useful_202 rfl hl (by decide) rfl (fun ls hl => ?_)
  obtain ⟨x9, ex9, h⟩ := lt_of h
  refine m_iinc (k := 4) (lv' := [(4, .int _), (2, .int _), (0, .ref _), (1, .int _), (3, .int _)]) C (1 : Int32) (by decide) dX9_useful_203 hl rfl ex9.symm (by decide) rfl (fun ls hl => ?_)
  refine lv_goto (tgt := 52) C.1 C.2.1 dX9_useful_206 (by decide) ?_
  obtain rfl := Option.some.inj h
  exact hP _ hx _ _ _ hw (lv_sub hl [2, 3, 1, 4, 0] rfl)
set_option maxRecDepth 20000 in
theorem w_X9_useful_200 {D : va_G} {cy : Nat → ClassId} {ad : Nat → Nat} {p : Program} {l : Launch} {e : Env} {R : Room} {s : State} {m : MethodId} {args : Array Value} {below : List Frame} {meth : Method} {c : Code} (C : Cx 0 D cy ad p R s m args meth c cX9_useful 7 RX9 (some .int) 5)   {z0 : Int32} {v1 : Int32} {v3 : Int32} {v4 : Int32}  {σ : Mem} {H : Heap} {locs : List Loc} {ls : Array Slot} {Q : State → Prop} {P : (Int32 × Int32 × Int32 × Int32) → Prop} {r : (Int32 × Int32 × Int32)} {x : (Int32 × Int32 × Int32 × Int32) ⊕ (Int32 × Int32 × Int32)} (hx : LimQ P r x) (hP : ∀ u, P u → ∀ (H : Heap) (locs : List Loc) (ls : Array Slot), Wd 0 D cy ad s σ H locs → lv_has ls 7 [(0, .ref (ad (0))), (1, .int u.1), (2, .int u.2.1), (3, .int u.2.2.1), (4, .int u.2.2.2)] → W p l e R s m args below meth c H locs 0 0 Q (F0 m 52 ls [])) (hE0 : ∀ (v1 : Int32) (v2 : Int32) (v3 : Int32), ((v1, v2, v3) : (Int32 × Int32 × Int32)) = r → ∀ (H : Heap) (locs : List Loc) (ls : Array Slot), Wd 0 D cy ad s σ H locs → lv_has ls 7 [(0, .ref (ad (0))), (1, .int v1), (2, .int v2), (3, .int v3)] → W p l e R s m args below meth c H locs 0 0 Q (F0 m 209 ls [])) (hw : Wd 0 D cy ad s σ H locs) (hl : lv_has ls 7 [(0, .ref (ad (0))), (1, .int v1), (3, .int v3), (4, .int v4)]) (h : j_X9_useful_200 z0 v1 v3 v4 σ = some x) : W p l e R s m args below meth c H locs 0 0 Q (F0 m 200 ls [.int z0]) := by
  unfold j_X9_useful_200 at h
  refine lv_iconst (v := (0 : Int32)) C.1 C.2.1 dX9_useful_200 (by decide) ?_
  exact w_X9_useful_201 C hx hP hE0 hw (lv_sub hl [0, 1, 2, 3] rfl) h
set_option maxRecDepth 20000 in
theorem w_X9_useful_174 {D : va_G} {cy : Nat → ClassId} {ad : Nat → Nat} {p : Program} {l : Launch} {e : Env} {R : Room} {s : State} {m : MethodId} {args : Array Value} {below : List Frame} {meth : Method} {c : Code} (C : Cx 0 D cy ad p R s m args meth c cX9_useful 7 RX9 (some .int) 5)   {z0 : Int32} {z1 : Int32} {v1 : Int32} {v3 : Int32} {v4 : Int32} {v5 : Int32} {v6 : Int32}  {σ : Mem} {H : Heap} {locs : List Loc} {ls : Array Slot} {Q : State → Prop} {P : (Int32 × Int32 × Int32 × Int32) → Prop} {r : (Int32 × Int32 × Int32)} {x : (Int32 × Int32 × Int32 × Int32) ⊕ (Int32 × Int32 × Int32)} (hx : LimQ P r x) (hP : ∀ u, P u → ∀ (H : Heap) (locs : List Loc) (ls : Array Slot), Wd 0 D cy ad s σ H locs → lv_has ls 7 [(0, .ref (ad (0))), (1, .int u.1), (2, .int u.2.1), (3, .int u.2.2.1), (4, .int u.2.2.2)] → W p l e R s m args below meth c H locs 0 0 Q (F0 m 52 ls [])) (hE0 : ∀ (v1 : Int32) (v2 : Int32) (v3 : Int32), ((v1, v2, v3) : (Int32 × Int32 × Int32)) = r → ∀ (H : Heap) (locs : List Loc) (ls : Array Slot), Wd 0 D cy ad s σ H locs → lv_has ls 7 [(0, .ref (ad (0))), (1, .int v1), (2, .int v2), (3, .int v3)] → W p l e R s m args below meth c H locs 0 0 Q (F0 m 209 ls [])) (hw : Wd 0 D cy ad s σ H locs) (hl : lv_has ls 7 [(0, .ref (ad (0))), (1, .int v1), (3, .int v3), (4, .int v4), (5, .int v5), (6, .int v6)]) (h : j_X9_useful_174 z0 z1 v1 v3 v4 v5 v6 σ = some x) : W p l e R s m args below meth c H locs 0 0 Q (F0 m 174 ls [.int z1, .int z0]) := by
  unfold j_X9_useful_174 at h
  refine lv_ior C.1 C.2.1 dX9_useful_174 ?_
  obtain ⟨x7, ex7, h⟩ := lt_of h
  refine m_topi ex7 ?_
  refine lv_istore_n (lv' := [(2, .int _), (0, .ref _), (1, .int _), (3, .int _), (4, .int _), (5, .int _), (6, .int _)]) C.1 C.2.1 dX9_useful_175 rfl hl (by decide) rfl (fun ls hl => ?_)
  refine lv_iload_n C.1 C.2.1 dX9_useful_176 rfl (lv_at hl 0 rfl) ?_
  refine lv_iload C.1 C.2.1 dX9_useful_177 (lv_at hl 6 rfl) ?_
  refine lv_if_eq (tgt := 200) C.1 C.2.1 dX9_useful_179 (by decide) (fun cd => ?_) (fun cd => ?_)
  · have h := ite_t cd h
    exact w_X9_useful_200 C hx hP hE0 hw (lv_sub hl [1, 2, 3, 4] rfl) h
  · have h := ite_f cd h
    refine lv_iload C.1 C.2.1 dX9_useful_182 (lv_at hl 5 rfl) ?_
    refine lv_iconst (v := (1 : Int32)) C.1 C.2.1 dX9_useful_184 (by decide) ?_
    refine lv_icmp_le (tgt := 200) C.1 C.2.1 dX9_useful_185 (by decide) (fun cd => ?_) (fun cd => ?_)
    · have h := ite_t cd h
      exact w_X9_useful_200 C hx hP hE0 hw (lv_sub hl [1, 2, 3, 4] rfl) h
    · have h := ite_f cd h
      refine lv_iconst (v := (1 : Int32)) C.1 C.2.1 dX9_useful_188 (by decide) ?_
      refine lv_aload_n C.1 C.2.1 dX9_useful_189 rfl (lv_at hl 1 rfl) ?_
      refine gf_X9_23 C hw dX9_useful_190 ?_
      refine lv_iload C.1 C.2.1 dX9_useful_193 (lv_at hl 4 rfl) ?_
      obtain ⟨hin, h⟩ := gd_of h
      refine m_iald C hw a0_5 hin dX9_useful_195 ?_
      refine lv_ishl C.1 C.2.1 dX9_useful_196 ?_
      refine lv_goto (tgt := 201) C.1 C.2.1 dX9_useful_197 (by decide) ?_
      exact w_X9_useful_201 C hx hP hE0 hw (lv_sub hl [1, 2, 3, 4] rfl) h
set_option maxRecDepth 20000 in
theorem w_X9_useful_173 {D : va_G} {cy : Nat → ClassId} {ad : Nat → Nat} {p : Program} {l : Launch} {e : Env} {R : Room} {s : State} {m : MethodId} {args : Array Value} {below : List Frame} {meth : Method} {c : Code} (C : Cx 0 D cy ad p R s m args meth c cX9_useful 7 RX9 (some .int) 5)   {z0 : Int32} {v1 : Int32} {v3 : Int32} {v4 : Int32} {v5 : Int32} {v6 : Int32}  {σ : Mem} {H : Heap} {locs : List Loc} {ls : Array Slot} {Q : State → Prop} {P : (Int32 × Int32 × Int32 × Int32) → Prop} {r : (Int32 × Int32 × Int32)} {x : (Int32 × Int32 × Int32 × Int32) ⊕ (Int32 × Int32 × Int32)} (hx : LimQ P r x) (hP : ∀ u, P u → ∀ (H : Heap) (locs : List Loc) (ls : Array Slot), Wd 0 D cy ad s σ H locs → lv_has ls 7 [(0, .ref (ad (0))), (1, .int u.1), (2, .int u.2.1), (3, .int u.2.2.1), (4, .int u.2.2.2)] → W p l e R s m args below meth c H locs 0 0 Q (F0 m 52 ls [])) (hE0 : ∀ (v1 : Int32) (v2 : Int32) (v3 : Int32), ((v1, v2, v3) : (Int32 × Int32 × Int32)) = r → ∀ (H : Heap) (locs : List Loc) (ls : Array Slot), Wd 0 D cy ad s σ H locs → lv_has ls 7 [(0, .ref (ad (0))), (1, .int v1), (2, .int v2), (3, .int v3)] → W p l e R s m args below meth c H locs 0 0 Q (F0 m 209 ls [])) (hw : Wd 0 D cy ad s σ H locs) (hl : lv_has ls 7 [(0, .ref (ad (0))), (1, .int v1), (3, .int v3), (4, .int v4), (5, .int v5), (6, .int v6)]) (h : j_X9_useful_173 z0 v1 v3 v4 v5 v6 σ = some x) : W p l e R s m args below meth c H locs 0 0 Q (F0 m 173 ls [.int z0]) := by
  unfold j_X9_useful_173 at h
  refine lv_iconst (v := (0 : Int32)) C.1 C.2.1 dX9_useful_173 (by decide) ?_
  exact w_X9_useful_174 C hx hP hE0 hw (lv_sub hl [0, 1, 2, 3, 4, 5] rfl) h
set_option maxRecDepth 20000 in
theorem w_X9_useful_148 {D : va_G} {cy : Nat → ClassId} {ad : Nat → Nat} {p : Program} {l : Launch} {e : Env} {R : Room} {s : State} {m : MethodId} {args : Array Value} {below : List Frame} {meth : Method} {c : Code} (C : Cx 0 D cy ad p R s m args meth c cX9_useful 7 RX9 (some .int) 5)   {z0 : Int32} {v1 : Int32} {v2 : Int32} {v3 : Int32} {v4 : Int32} {v5 : Int32}  {σ : Mem} {H : Heap} {locs : List Loc} {ls : Array Slot} {Q : State → Prop} {P : (Int32 × Int32 × Int32 × Int32) → Prop} {r : (Int32 × Int32 × Int32)} {x : (Int32 × Int32 × Int32 × Int32) ⊕ (Int32 × Int32 × Int32)} (hx : LimQ P r x) (hP : ∀ u, P u → ∀ (H : Heap) (locs : List Loc) (ls : Array Slot), Wd 0 D cy ad s σ H locs → lv_has ls 7 [(0, .ref (ad (0))), (1, .int u.1), (2, .int u.2.1), (3, .int u.2.2.1), (4, .int u.2.2.2)] → W p l e R s m args below meth c H locs 0 0 Q (F0 m 52 ls [])) (hE0 : ∀ (v1 : Int32) (v2 : Int32) (v3 : Int32), ((v1, v2, v3) : (Int32 × Int32 × Int32)) = r → ∀ (H : Heap) (locs : List Loc) (ls : Array Slot), Wd 0 D cy ad s σ H locs → lv_has ls 7 [(0, .ref (ad (0))), (1, .int v1), (2, .int v2), (3, .int v3)] → W p l e R s m args below meth c H locs 0 0 Q (F0 m 209 ls [])) (hw : Wd 0 D cy ad s σ H locs) (hl : lv_has ls 7 [(0, .ref (ad (0))), (1, .int v1), (2, .int v2), (3, .int v3), (4, .int v4), (5, .int v5)]) (h : j_X9_useful_148 z0 v1 v2 v3 v4 v5 σ = some x) : W p l e R s m args below meth c H locs 0 0 Q (F0 m 148 ls [.int z0]) := by
  unfold j_X9_useful_148 at h
  refine lv_istore (lv' := [(6, .int _), (0, .ref _), (1, .int _), (2, .int _), (3, .int _), (4, .int _), (5, .int _)]) C.1 C.2.1 dX9_useful_148 hl (by decide) rfl (fun ls hl => ?_)
  refine lv_iload_n C.1 C.2.1 dX9_useful_150 rfl (lv_at hl 3 rfl) ?_
  refine lv_iload C.1 C.2.1 dX9_useful_151 (lv_at hl 0 rfl) ?_
  refine lv_if_eq (tgt := 173) C.1 C.2.1 dX9_useful_153 (by decide) (fun cd => ?_) (fun cd => ?_)
  · have h := ite_t cd h
    exact w_X9_useful_173 C hx hP hE0 hw (lv_sub hl [1, 2, 4, 5, 6, 0] rfl) h
  · have h := ite_f cd h
    refine lv_iload C.1 C.2.1 dX9_useful_156 (lv_at hl 6 rfl) ?_
    refine lv_if_le (tgt := 173) C.1 C.2.1 dX9_useful_158 (by decide) (fun cd => ?_) (fun cd => ?_)
    · have h := ite_t cd h
      exact w_X9_useful_173 C hx hP hE0 hw (lv_sub hl [1, 2, 4, 5, 6, 0] rfl) h
    · have h := ite_f cd h
      refine lv_iconst (v := (1 : Int32)) C.1 C.2.1 dX9_useful_161 (by decide) ?_
      refine lv_aload_n C.1 C.2.1 dX9_useful_162 rfl (lv_at hl 1 rfl) ?_
      refine gf_X9_20 C hw dX9_useful_163 ?_
      refine lv_iload C.1 C.2.1 dX9_useful_166 (lv_at hl 5 rfl) ?_
      obtain ⟨hin, h⟩ := gd_of h
      refine m_iald C hw a0_4 hin dX9_useful_168 ?_
      refine lv_ishl C.1 C.2.1 dX9_useful_169 ?_
      refine lv_goto (tgt := 174) C.1 C.2.1 dX9_useful_170 (by decide) ?_
      exact w_X9_useful_174 C hx hP hE0 hw (lv_sub hl [1, 2, 4, 5, 6, 0] rfl) h
set_option maxRecDepth 20000 in
theorem w_X9_useful_147 {D : va_G} {cy : Nat → ClassId} {ad : Nat → Nat} {p : Program} {l : Launch} {e : Env} {R : Room} {s : State} {m : MethodId} {args : Array Value} {below : List Frame} {meth : Method} {c : Code} (C : Cx 0 D cy ad p R s m args meth c cX9_useful 7 RX9 (some .int) 5)   {v1 : Int32} {v2 : Int32} {v3 : Int32} {v4 : Int32} {v5 : Int32}  {σ : Mem} {H : Heap} {locs : List Loc} {ls : Array Slot} {Q : State → Prop} {P : (Int32 × Int32 × Int32 × Int32) → Prop} {r : (Int32 × Int32 × Int32)} {x : (Int32 × Int32 × Int32 × Int32) ⊕ (Int32 × Int32 × Int32)} (hx : LimQ P r x) (hP : ∀ u, P u → ∀ (H : Heap) (locs : List Loc) (ls : Array Slot), Wd 0 D cy ad s σ H locs → lv_has ls 7 [(0, .ref (ad (0))), (1, .int u.1), (2, .int u.2.1), (3, .int u.2.2.1), (4, .int u.2.2.2)] → W p l e R s m args below meth c H locs 0 0 Q (F0 m 52 ls [])) (hE0 : ∀ (v1 : Int32) (v2 : Int32) (v3 : Int32), ((v1, v2, v3) : (Int32 × Int32 × Int32)) = r → ∀ (H : Heap) (locs : List Loc) (ls : Array Slot), Wd 0 D cy ad s σ H locs → lv_has ls 7 [(0, .ref (ad (0))), (1, .int v1), (2, .int v2), (3, .int v3)] → W p l e R s m args below meth c H locs 0 0 Q (F0 m 209 ls [])) (hw : Wd 0 D cy ad s σ H locs) (hl : lv_has ls 7 [(0, .ref (ad (0))), (1, .int v1), (2, .int v2), (3, .int v3), (4, .int v4), (5, .int v5)]) (h : j_X9_useful_147 v1 v2 v3 v4 v5 σ = some x) : W p l e R s m args below meth c H locs 0 0 Q (F0 m 147 ls []) := by
  unfold j_X9_useful_147 at h
  refine lv_iconst (v := (0 : Int32)) C.1 C.2.1 dX9_useful_147 (by decide) ?_
  exact w_X9_useful_148 C hx hP hE0 hw (lv_sub hl [0, 1, 2, 3, 4, 5] rfl) h
set_option maxRecDepth 20000 in
theorem w_X9_useful_143 {D : va_G} {cy : Nat → ClassId} {ad : Nat → Nat} {p : Program} {l : Launch} {e : Env} {R : Room} {s : State} {m : MethodId} {args : Array Value} {below : List Frame} {meth : Method} {c : Code} (C : Cx 0 D cy ad p R s m args meth c cX9_useful 7 RX9 (some .int) 5)   {v1 : Int32} {v2 : Int32} {v3 : Int32} {v4 : Int32} {v5 : Int32}  {σ : Mem} {H : Heap} {locs : List Loc} {ls : Array Slot} {Q : State → Prop} {P : (Int32 × Int32 × Int32 × Int32) → Prop} {r : (Int32 × Int32 × Int32)} {x : (Int32 × Int32 × Int32 × Int32) ⊕ (Int32 × Int32 × Int32)} (hx : LimQ P r x) (hP : ∀ u, P u → ∀ (H : Heap) (locs : List Loc) (ls : Array Slot), Wd 0 D cy ad s σ H locs → lv_has ls 7 [(0, .ref (ad (0))), (1, .int u.1), (2, .int u.2.1), (3, .int u.2.2.1), (4, .int u.2.2.2)] → W p l e R s m args below meth c H locs 0 0 Q (F0 m 52 ls [])) (hE0 : ∀ (v1 : Int32) (v2 : Int32) (v3 : Int32), ((v1, v2, v3) : (Int32 × Int32 × Int32)) = r → ∀ (H : Heap) (locs : List Loc) (ls : Array Slot), Wd 0 D cy ad s σ H locs → lv_has ls 7 [(0, .ref (ad (0))), (1, .int v1), (2, .int v2), (3, .int v3)] → W p l e R s m args below meth c H locs 0 0 Q (F0 m 209 ls [])) (hw : Wd 0 D cy ad s σ H locs) (hl : lv_has ls 7 [(0, .ref (ad (0))), (1, .int v1), (2, .int v2), (3, .int v3), (4, .int v4), (5, .int v5)]) (h : j_X9_useful_143 v1 v2 v3 v4 v5 σ = some x) : W p l e R s m args below meth c H locs 0 0 Q (F0 m 143 ls []) := by
  unfold j_X9_useful_143 at h
  refine lv_iconst (v := (1 : Int32)) C.1 C.2.1 dX9_useful_143 (by decide) ?_
  refine lv_goto (tgt := 148) C.1 C.2.1 dX9_useful_144 (by decide) ?_
  exact w_X9_useful_148 C hx hP hE0 hw (lv_sub hl [0, 1, 2, 3, 4, 5] rfl) h
set_option maxRecDepth 20000 in
theorem w_X9_useful_123 {D : va_G} {cy : Nat → ClassId} {ad : Nat → Nat} {p : Program} {l : Launch} {e : Env} {R : Room} {s : State} {m : MethodId} {args : Array Value} {below : List Frame} {meth : Method} {c : Code} (C : Cx 0 D cy ad p R s m args meth c cX9_useful 7 RX9 (some .int) 5)   {v1 : Int32} {v2 : Int32} {v3 : Int32} {v4 : Int32} {v5 : Int32}  {σ : Mem} {H : Heap} {locs : List Loc} {ls : Array Slot} {Q : State → Prop} {P : (Int32 × Int32 × Int32 × Int32) → Prop} {r : (Int32 × Int32 × Int32)} {x : (Int32 × Int32 × Int32 × Int32) ⊕ (Int32 × Int32 × Int32)} (hx : LimQ P r x) (hP : ∀ u, P u → ∀ (H : Heap) (locs : List Loc) (ls : Array Slot), Wd 0 D cy ad s σ H locs → lv_has ls 7 [(0, .ref (ad (0))), (1, .int u.1), (2, .int u.2.1), (3, .int u.2.2.1), (4, .int u.2.2.2)] → W p l e R s m args below meth c H locs 0 0 Q (F0 m 52 ls [])) (hE0 : ∀ (v1 : Int32) (v2 : Int32) (v3 : Int32), ((v1, v2, v3) : (Int32 × Int32 × Int32)) = r → ∀ (H : Heap) (locs : List Loc) (ls : Array Slot), Wd 0 D cy ad s σ H locs → lv_has ls 7 [(0, .ref (ad (0))), (1, .int v1), (2, .int v2), (3, .int v3)] → W p l e R s m args below meth c H locs 0 0 Q (F0 m 209 ls [])) (hw : Wd 0 D cy ad s σ H locs) (hl : lv_has ls 7 [(0, .ref (ad (0))), (1, .int v1), (2, .int v2), (3, .int v3), (4, .int v4), (5, .int v5)]) (h : j_X9_useful_123 v1 v2 v3 v4 v5 σ = some x) : W p l e R s m args below meth c H locs 0 0 Q (F0 m 123 ls []) := by
  unfold j_X9_useful_123 at h
  refine lv_iload C.1 C.2.1 dX9_useful_123 (lv_at hl 5 rfl) ?_
  refine lv_iconst (v := (2 : Int32)) C.1 C.2.1 dX9_useful_125 (by decide) ?_
  refine lv_icmp_lt (tgt := 143) C.1 C.2.1 dX9_useful_126 (by decide) (fun cd => ?_) (fun cd => ?_)
  · have h := ite_t cd h
    exact w_X9_useful_143 C hx hP hE0 hw (lv_sub hl [0, 1, 2, 3, 4, 5] rfl) h
  · have h := ite_f cd h
    refine lv_iload_n C.1 C.2.1 dX9_useful_129 rfl (lv_at hl 1 rfl) ?_
    refine lv_aload_n C.1 C.2.1 dX9_useful_130 rfl (lv_at hl 0 rfl) ?_
    refine gf_X9_23 C hw dX9_useful_131 ?_
    refine lv_iload C.1 C.2.1 dX9_useful_134 (lv_at hl 4 rfl) ?_
    obtain ⟨hin, h⟩ := gd_of h
    refine m_iald C hw a0_5 hin dX9_useful_136 ?_
    refine go_I hw (run_S (As := [.int _, .int _]) C hw (c_X9_has C.2.2.2.2.2.2.2.2.2 _ _ _) mi_X9_has ms_X9_has lk_X9_145 (by decide) (by decide) rfl hl.1 rfl (Nat.le_of_ble_eq_true rfl) dX9_useful_137 ⟨Nat.le_refl 0, Nat.le_refl 0⟩) (fun H locs hw => ?_)
    refine lv_if_eq (tgt := 147) C.1 C.2.1 dX9_useful_140 (by decide) (fun cd => ?_) (fun cd => ?_)
    · have h := ite_t cd h
      exact w_X9_useful_147 C hx hP hE0 hw (lv_sub hl [0, 1, 2, 3, 4, 5] rfl) h
    · have h := ite_f cd h
      exact w_X9_useful_143 C hx hP hE0 hw (lv_sub hl [0, 1, 2, 3, 4, 5] rfl) h
set_option maxRecDepth 20000 in
theorem w_X9_useful_52 {D : va_G} {cy : Nat → ClassId} {ad : Nat → Nat} {p : Program} {l : Launch} {e : Env} {R : Room} {s : State} {m : MethodId} {args : Array Value} {below : List Frame} {meth : Method} {c : Code} (C : Cx 0 D cy ad p R s m args meth c cX9_useful 7 RX9 (some .int) 5)   {v1 : Int32} {v2 : Int32} {v3 : Int32} {v4 : Int32} {σ : Mem} {Q : State → Prop} {r : (Int32 × Int32 × Int32)} (hL : Lim (T := (Int32 × Int32 × Int32)) (fun s => b_X9_useful_52 s.1 s.2.1 s.2.2.1 s.2.2.2 σ) (v1, v2, v3, v4) = some r) (hE0 : ∀ (v1 : Int32) (v2 : Int32) (v3 : Int32), ((v1, v2, v3) : (Int32 × Int32 × Int32)) = r → ∀ (H : Heap) (locs : List Loc) (ls : Array Slot), Wd 0 D cy ad s σ H locs → lv_has ls 7 [(0, .ref (ad (0))), (1, .int v1), (2, .int v2), (3, .int v3)] → W p l e R s m args below meth c H locs 0 0 Q (F0 m 209 ls [])) (H : Heap) (locs : List Loc) (ls : Array Slot) (hw : Wd 0 D cy ad s σ H locs) (hl : lv_has ls 7 [(0, .ref (ad (0))), (1, .int v1), (2, .int v2), (3, .int v3), (4, .int v4)]) : W p l e R s m args below meth c H locs 0 0 Q (F0 m 52 ls []) := by
  refine Lim_ind hL (P := fun u => ∀ (H : Heap) (locs : List Loc) (ls : Array Slot), Wd 0 D cy ad s σ H locs → lv_has ls 7 [(0, .ref (ad (0))), (1, .int u.1), (2, .int u.2.1), (3, .int u.2.2.1), (4, .int u.2.2.2)] → W p l e R s m args below meth c H locs 0 0 Q (F0 m 52 ls [])) (fun u x h hx H locs ls hw hl => ?_) H locs ls hw hl
  clear hL
  obtain ⟨v1, v2, v3, v4⟩ := u
  have h : b_X9_useful_52 v1 v2 v3 v4 σ = some x := h
  have hw : Wd 0 D cy ad s σ H locs := hw
  have hl : lv_has ls 7 [(0, .ref (ad (0))), (1, .int v1), (2, .int v2), (3, .int v3), (4, .int v4)] := hl
  have hP : ∀ (u : (Int32 × Int32 × Int32 × Int32)), (∀ (H : Heap) (locs : List Loc) (ls : Array Slot), Wd 0 D cy ad s σ H locs → lv_has ls 7 [(0, .ref (ad (0))), (1, .int u.1), (2, .int u.2.1), (3, .int u.2.2.1), (4, .int u.2.2.2)] → W p l e R s m args below meth c H locs 0 0 Q (F0 m 52 ls [])) → ∀ (H : Heap) (locs : List Loc) (ls : Array Slot), Wd 0 D cy ad s σ H locs → lv_has ls 7 [(0, .ref (ad (0))), (1, .int u.1), (2, .int u.2.1), (3, .int u.2.2.1), (4, .int u.2.2.2)] → W p l e R s m args below meth c H locs 0 0 Q (F0 m 52 ls []) := fun _ k => k
  unfold b_X9_useful_52 at h
  refine lv_iload C.1 C.2.1 dX9_useful_52 (lv_at hl 4 rfl) ?_
  refine lv_aload_n C.1 C.2.1 dX9_useful_54 rfl (lv_at hl 0 rfl) ?_
  refine gf_X9_13 C hw dX9_useful_55 ?_
  refine lv_iconst (v := (0 : Int32)) C.1 C.2.1 dX9_useful_58 (by decide) ?_
  have hin : vp_in (0 : Int32) 2 := (by decide : ix (0 : Int32) 2)
  refine m_iald C hw a0_2 hin dX9_useful_59 ?_
  refine lv_icmp_ge (tgt := 209) C.1 C.2.1 dX9_useful_60 (by decide) (fun cd => ?_) (fun cd => ?_)
  · have h := ite_t cd h
    obtain rfl := Option.some.inj h
    exact hE0 _ _ _ hx _ _ _ hw (lv_sub hl [0, 1, 2, 3] rfl)
  · have h := ite_f cd h
    refine lv_aload_n C.1 C.2.1 dX9_useful_63 rfl (lv_at hl 0 rfl) ?_
    refine gf_X9_17 C hw dX9_useful_64 ?_
    refine lv_iload C.1 C.2.1 dX9_useful_67 (lv_at hl 4 rfl) ?_
    obtain ⟨hin, h⟩ := gd_of h
    refine m_iald C hw a0_3 hin dX9_useful_69 ?_
    refine go_I hw (run_S (As := [.int _]) C hw (c_X9_armsOf C.2.2.2.2.2.2.2.2.2 _ _) mi_X9_armsOf ms_X9_armsOf lk_X9_125 (by decide) (by decide) rfl hl.1 rfl (Nat.le_of_ble_eq_true rfl) dX9_useful_70 ⟨Nat.le_refl 0, Nat.le_refl 0⟩) (fun H locs hw => ?_)
    obtain ⟨x6, ex6, h⟩ := lt_of h
    refine m_topi ex6 ?_
    refine lv_istore (lv' := [(5, .int _), (0, .ref _), (1, .int _), (2, .int _), (3, .int _), (4, .int _)]) C.1 C.2.1 dX9_useful_73 hl (by decide) rfl (fun ls hl => ?_)
    refine lv_aload_n C.1 C.2.1 dX9_useful_75 rfl (lv_at hl 1 rfl) ?_
    refine gf_X9_29 C hw dX9_useful_76 ?_
    refine lv_iconst (v := (0 : Int32)) C.1 C.2.1 dX9_useful_79 (by decide) ?_
    have hin : vp_in (0 : Int32) 102 := (by decide : ix (0 : Int32) 102)
    refine m_iald C hw a0_7 hin dX9_useful_80 ?_
    refine lv_iload C.1 C.2.1 dX9_useful_81 (lv_at hl 5 rfl) ?_
    refine go_I hw (run_S (As := [.int _, .int _]) C hw (c_X9_has C.2.2.2.2.2.2.2.2.2 _ _ _) mi_X9_has ms_X9_has lk_X9_145 (by decide) (by decide) rfl hl.1 rfl (Nat.le_of_ble_eq_true rfl) dX9_useful_83 ⟨Nat.le_refl 0, Nat.le_refl 0⟩) (fun H locs hw => ?_)
    refine lv_if_eq (tgt := 147) C.1 C.2.1 dX9_useful_86 (by decide) (fun cd => ?_) (fun cd => ?_)
    · have h := ite_t cd h
      exact w_X9_useful_147 C hx hP hE0 hw (lv_sub hl [1, 2, 3, 4, 5, 0] rfl) h
    · have h := ite_f cd h
      refine lv_iload_n C.1 C.2.1 dX9_useful_89 rfl (lv_at hl 3 rfl) ?_
      refine lv_aload_n C.1 C.2.1 dX9_useful_90 rfl (lv_at hl 1 rfl) ?_
      refine gf_X9_26 C hw dX9_useful_91 ?_
      refine lv_iload C.1 C.2.1 dX9_useful_94 (lv_at hl 5 rfl) ?_
      obtain ⟨hin, h⟩ := gd_of h
      refine m_iald C hw a0_6 hin dX9_useful_96 ?_
      refine go_I hw (run_S (As := [.int _, .int _]) C hw (c_X9_has C.2.2.2.2.2.2.2.2.2 _ _ _) mi_X9_has ms_X9_has lk_X9_145 (by decide) (by decide) rfl hl.1 rfl (Nat.le_of_ble_eq_true rfl) dX9_useful_97 ⟨Nat.le_refl 0, Nat.le_refl 0⟩) (fun H locs hw => ?_)
      refine lv_if_eq (tgt := 147) C.1 C.2.1 dX9_useful_100 (by decide) (fun cd => ?_) (fun cd => ?_)
      · have h := ite_t cd h
        exact w_X9_useful_147 C hx hP hE0 hw (lv_sub hl [1, 2, 3, 4, 5, 0] rfl) h
      · have h := ite_f cd h
        refine lv_iload C.1 C.2.1 dX9_useful_103 (lv_at hl 0 rfl) ?_
        refine lv_iconst (v := (1 : Int32)) C.1 C.2.1 dX9_useful_105 (by decide) ?_
        refine lv_icmp_lt (tgt := 123) C.1 C.2.1 dX9_useful_106 (by decide) (fun cd => ?_) (fun cd => ?_)
        · have h := ite_t cd h
          exact w_X9_useful_123 C hx hP hE0 hw (lv_sub hl [1, 2, 3, 4, 5, 0] rfl) h
        · have h := ite_f cd h
          refine lv_iload_n C.1 C.2.1 dX9_useful_109 rfl (lv_at hl 2 rfl) ?_
          refine lv_aload_n C.1 C.2.1 dX9_useful_110 rfl (lv_at hl 1 rfl) ?_
          refine gf_X9_20 C hw dX9_useful_111 ?_
          refine lv_iload C.1 C.2.1 dX9_useful_114 (lv_at hl 5 rfl) ?_
          obtain ⟨hin, h⟩ := gd_of h
          refine m_iald C hw a0_4 hin dX9_useful_116 ?_
          refine go_I hw (run_S (As := [.int _, .int _]) C hw (c_X9_has C.2.2.2.2.2.2.2.2.2 _ _ _) mi_X9_has ms_X9_has lk_X9_145 (by decide) (by decide) rfl hl.1 rfl (Nat.le_of_ble_eq_true rfl) dX9_useful_117 ⟨Nat.le_refl 0, Nat.le_refl 0⟩) (fun H locs hw => ?_)
          refine lv_if_eq (tgt := 147) C.1 C.2.1 dX9_useful_120 (by decide) (fun cd => ?_) (fun cd => ?_)
          · have h := ite_t cd h
            exact w_X9_useful_147 C hx hP hE0 hw (lv_sub hl [1, 2, 3, 4, 5, 0] rfl) h
          · have h := ite_f cd h
            exact w_X9_useful_123 C hx hP hE0 hw (lv_sub hl [1, 2, 3, 4, 5, 0] rfl) h
set_option maxRecDepth 20000 in
theorem w_X9_useful_42 {D : va_G} {cy : Nat → ClassId} {ad : Nat → Nat} {p : Program} {l : Launch} {e : Env} {R : Room} {s : State} {m : MethodId} {args : Array Value} {below : List Frame} {meth : Method} {c : Code} (C : Cx 0 D cy ad p R s m args meth c cX9_useful 7 RX9 (some .int) 5)   {v1 : Int32} {v2 : Int32} {v3 : Int32} {σ : Mem} {Q : State → Prop} {r : Int32} (hL : Lim (T := Int32) (fun s => b_X9_useful_42 s.1 s.2.1 s.2.2 σ) (v1, v2, v3) = some r) (hE0 : ∀ (v2 : Int32), (v2 : Int32) = r → ∀ (H : Heap) (locs : List Loc) (ls : Array Slot), Wd 0 D cy ad s σ H locs → lv_has ls 7 [(2, .int v2)] → W p l e R s m args below meth c H locs 0 0 Q (F0 m 212 ls [])) (H : Heap) (locs : List Loc) (ls : Array Slot) (hw : Wd 0 D cy ad s σ H locs) (hl : lv_has ls 7 [(0, .ref (ad (0))), (1, .int v1), (2, .int v2), (3, .int v3)]) : W p l e R s m args below meth c H locs 0 0 Q (F0 m 42 ls []) := by
  refine Lim_ind hL (P := fun u => ∀ (H : Heap) (locs : List Loc) (ls : Array Slot), Wd 0 D cy ad s σ H locs → lv_has ls 7 [(0, .ref (ad (0))), (1, .int u.1), (2, .int u.2.1), (3, .int u.2.2)] → W p l e R s m args below meth c H locs 0 0 Q (F0 m 42 ls [])) (fun u x h hx H locs ls hw hl => ?_) H locs ls hw hl
  clear hL
  obtain ⟨v1, v2, v3⟩ := u
  have h : b_X9_useful_42 v1 v2 v3 σ = some x := h
  have hw : Wd 0 D cy ad s σ H locs := hw
  have hl : lv_has ls 7 [(0, .ref (ad (0))), (1, .int v1), (2, .int v2), (3, .int v3)] := hl
  have hP : ∀ (u : (Int32 × Int32 × Int32)), (∀ (H : Heap) (locs : List Loc) (ls : Array Slot), Wd 0 D cy ad s σ H locs → lv_has ls 7 [(0, .ref (ad (0))), (1, .int u.1), (2, .int u.2.1), (3, .int u.2.2)] → W p l e R s m args below meth c H locs 0 0 Q (F0 m 42 ls [])) → ∀ (H : Heap) (locs : List Loc) (ls : Array Slot), Wd 0 D cy ad s σ H locs → lv_has ls 7 [(0, .ref (ad (0))), (1, .int u.1), (2, .int u.2.1), (3, .int u.2.2)] → W p l e R s m args below meth c H locs 0 0 Q (F0 m 42 ls []) := fun _ k => k
  unfold b_X9_useful_42 at h
  refine lv_iload_n C.1 C.2.1 dX9_useful_42 rfl (lv_at hl 2 rfl) ?_
  refine lv_iload_n C.1 C.2.1 dX9_useful_43 rfl (lv_at hl 3 rfl) ?_
  refine lv_icmp_eq (tgt := 212) C.1 C.2.1 dX9_useful_44 (by decide) (fun cd => ?_) (fun cd => ?_)
  · have h := ite_t cd h
    obtain rfl := Option.some.inj h
    exact hE0 _ hx _ _ _ hw (lv_sub hl [2] rfl)
  · have h := ite_f cd h
    refine lv_iload_n C.1 C.2.1 dX9_useful_47 rfl (lv_at hl 2 rfl) ?_
    refine lv_istore_n (lv' := [(3, .int _), (0, .ref _), (1, .int _), (2, .int _)]) C.1 C.2.1 dX9_useful_48 rfl hl (by decide) rfl (fun ls hl => ?_)
    refine lv_iconst (v := (0 : Int32)) C.1 C.2.1 dX9_useful_49 (by decide) ?_
    refine lv_istore (lv' := [(4, .int _), (3, .int _), (0, .ref _), (1, .int _), (2, .int _)]) C.1 C.2.1 dX9_useful_50 hl (by decide) rfl (fun ls hl => ?_)
    obtain ⟨r10, hL, h⟩ := bS h
    refine w_X9_useful_52 C  hL (fun y0 y1 y2 hr H locs ls hw hl => ?_) _ _ _ hw (lv_sub hl [2, 3, 4, 1, 0] rfl)
    · subst hr
      try dsimp only at h
      try dsimp only at hw
      try dsimp only at hl
      refine lv_goto (tgt := 42) C.1 C.2.1 dX9_useful_209 (by decide) ?_
      obtain rfl := Option.some.inj h
      exact hP _ hx _ _ _ hw (lv_sub hl [0, 1, 2, 3] rfl)
set_option maxRecDepth 20000 in
theorem c_X9_useful {l : Launch} {D : va_G} {cy : Nat → ClassId} {ad : Nat → Nat} (hj : InjW 0 ad)   (σ : Mem) (r : (Int32 × Mem)) (h : f_X9_useful σ = some r) : CI 0 D cy ad l yX9_useful cX9_useful 7 (some .int) 5 [.ref (ad (0))] σ r.1 r.2 := by
  refine CI.mk (by decide) hj (Nat.le_of_ble_eq_true rfl) (fun p e R s m below meth c ls C hw hl => ?_)
  have hl : lv_has ls 7 [(0, .ref (ad (0)))] := hl
  generalize ([.ref (ad (0))] : List Value).toArray = args at C ⊢
  have C : Cx 0 D cy ad p R s m args meth c cX9_useful 7 RX9 (some .int) 5 := C
  unfold f_X9_useful at h
  refine lv_aload_n C.1 C.2.1 dX9_useful_0 rfl (lv_at hl 0 rfl) ?_
  obtain ⟨r1, h1, h⟩ := bS h
  refine go_V hw (run_V (As := []) C hw (c_X9_findOwn C.2.2.2.2.2.2.2.2.2 _ _ h1) mi_X9_findOwn mv_X9_findOwn o0_0 (ci := 9) rfl rfl lk_X9_191 (by decide) (by decide) rfl hl.1 rfl (Nat.le_of_ble_eq_true rfl) dX9_useful_1 ⟨Nat.le_refl 0, Nat.le_refl 0⟩) (fun H locs hw => ?_)
  refine lv_iconst (v := (0 : Int32)) C.1 C.2.1 dX9_useful_4 (by decide) ?_
  refine lv_istore_n (lv' := [(1, .int _), (0, .ref _)]) C.1 C.2.1 dX9_useful_5 rfl hl (by decide) rfl (fun ls hl => ?_)
  refine lv_iconst (v := (0 : Int32)) C.1 C.2.1 dX9_useful_6 (by decide) ?_
  refine lv_istore_n (lv' := [(2, .int _), (1, .int _), (0, .ref _)]) C.1 C.2.1 dX9_useful_7 rfl hl (by decide) rfl (fun ls hl => ?_)
  obtain ⟨r4, hL, h⟩ := bS h
  refine w_X9_useful_8 C  hL (fun y0 hr H locs ls hw hl => ?_) _ _ _ hw (lv_sub hl [2, 1, 0] rfl)
  · subst hr
    try dsimp only at h
    try dsimp only at hw
    try dsimp only at hl
    refine lv_iload_n C.1 C.2.1 dX9_useful_31 rfl (lv_at hl 1 rfl) ?_
    refine lv_aload_n C.1 C.2.1 dX9_useful_32 rfl (lv_at hl 0 rfl) ?_
    refine gf_X9_29 C hw dX9_useful_33 ?_
    refine lv_iconst (v := (1 : Int32)) C.1 C.2.1 dX9_useful_36 (by decide) ?_
    have hin : vp_in (1 : Int32) 102 := (by decide : ix (1 : Int32) 102)
    refine m_iald C hw a0_7 hin dX9_useful_37 ?_
    refine lv_iand C.1 C.2.1 dX9_useful_38 ?_
    obtain ⟨x5, ex5, h⟩ := lt_of h
    refine m_topi ex5 ?_
    refine lv_istore_n (lv' := [(2, .int _), (0, .ref _), (1, .int _)]) C.1 C.2.1 dX9_useful_39 rfl hl (by decide) rfl (fun ls hl => ?_)
    refine lv_iconst (v := (-1 : Int32)) C.1 C.2.1 dX9_useful_40 (by decide) ?_
    refine lv_istore_n (lv' := [(3, .int _), (2, .int _), (0, .ref _), (1, .int _)]) C.1 C.2.1 dX9_useful_41 rfl hl (by decide) rfl (fun ls hl => ?_)
    obtain ⟨r11, hL, h⟩ := bS h
    refine w_X9_useful_42 C  hL (fun y0 hr H locs ls hw hl => ?_) _ _ _ hw (lv_sub hl [2, 3, 1, 0] rfl)
    · subst hr
      try dsimp only at h
      try dsimp only at hw
      try dsimp only at hl
      refine lv_iload_n C.1 C.2.1 dX9_useful_212 rfl (lv_at hl 0 rfl) ?_
      exact m_iret C hw (ret_p h) dX9_useful_213
noncomputable def b_X9_put_2 (a1 : Int32) (a2 : Int32) (v3 : Int32) (σ : Mem) : Option ((Int32 × Mem) ⊕ Mem) :=
  gd (ix a2 120) (if (σ.1 22 a2.toNatClampNeg) ≤ v3 then (some (.inr σ)) else (gd (ix (((31 : Int32) * a2) + v3) 3720) (gd (ix (a1 + v3) 31) (lt (sI σ 24 (a1 + v3).toNatClampNeg (σ.1 23 (((31 : Int32) * a2) + v3).toNatClampNeg)) (fun σ1 => lt (v3 + (1 : Int32)) (fun x2 => some (.inl (x2, σ1))))))))
noncomputable def f_X9_put (a1 : Int32) (a2 : Int32) (σ : Mem) : Option Mem :=
  (Lim (T := Mem) (fun s => b_X9_put_2 a1 a2 s.1 s.2) ((0 : Int32), σ)).bind (fun r3 => some r3)
set_option maxRecDepth 20000 in
theorem w_X9_put_2 {D : va_G} {cy : Nat → ClassId} {ad : Nat → Nat} {p : Program} {l : Launch} {e : Env} {R : Room} {s : State} {m : MethodId} {args : Array Value} {below : List Frame} {meth : Method} {c : Code} (C : Cx 0 D cy ad p R s m args meth c cX9_put 4 RX9 none 0) {a1 : Int32} {a2 : Int32}  {v3 : Int32} {σ : Mem} {Q : State → Prop} {r : Mem} (hL : Lim (T := Mem) (fun s => b_X9_put_2 a1 a2 s.1 s.2) (v3, σ) = some r) (hE0 : ∀ (σ1 : Mem), (σ1 : Mem) = r → ∀ (H : Heap) (locs : List Loc) (ls : Array Slot), Wd 0 D cy ad s σ1 H locs → lv_has ls 4 [] → W p l e R s m args below meth c H locs 0 0 Q (F0 m 37 ls [])) (H : Heap) (locs : List Loc) (ls : Array Slot) (hw : Wd 0 D cy ad s σ H locs) (hl : lv_has ls 4 [(0, .ref (ad (0))), (1, .int a1), (2, .int a2), (3, .int v3)]) : W p l e R s m args below meth c H locs 0 0 Q (F0 m 2 ls []) := by
  refine Lim_ind hL (P := fun u => ∀ (H : Heap) (locs : List Loc) (ls : Array Slot), Wd 0 D cy ad s u.2 H locs → lv_has ls 4 [(0, .ref (ad (0))), (1, .int a1), (2, .int a2), (3, .int u.1)] → W p l e R s m args below meth c H locs 0 0 Q (F0 m 2 ls [])) (fun u x h hx H locs ls hw hl => ?_) H locs ls hw hl
  clear hL
  obtain ⟨v3, σ⟩ := u
  have h : b_X9_put_2 a1 a2 v3 σ = some x := h
  have hw : Wd 0 D cy ad s σ H locs := hw
  have hl : lv_has ls 4 [(0, .ref (ad (0))), (1, .int a1), (2, .int a2), (3, .int v3)] := hl
  have hP : ∀ (u : (Int32 × Mem)), (∀ (H : Heap) (locs : List Loc) (ls : Array Slot), Wd 0 D cy ad s u.2 H locs → lv_has ls 4 [(0, .ref (ad (0))), (1, .int a1), (2, .int a2), (3, .int u.1)] → W p l e R s m args below meth c H locs 0 0 Q (F0 m 2 ls [])) → ∀ (H : Heap) (locs : List Loc) (ls : Array Slot), Wd 0 D cy ad s u.2 H locs → lv_has ls 4 [(0, .ref (ad (0))), (1, .int a1), (2, .int a2), (3, .int u.1)] → W p l e R s m args below meth c H locs 0 0 Q (F0 m 2 ls []) := fun _ k => k
  unfold b_X9_put_2 at h
  refine lv_iload_n C.1 C.2.1 dX9_put_2 rfl (lv_at hl 3 rfl) ?_
  refine lv_aload_n C.1 C.2.1 dX9_put_3 rfl (lv_at hl 0 rfl) ?_
  refine gf_X9_76 C hw dX9_put_4 ?_
  refine lv_iload_n C.1 C.2.1 dX9_put_7 rfl (lv_at hl 2 rfl) ?_
  obtain ⟨hin, h⟩ := gd_of h
  refine m_iald C hw a0_22 hin dX9_put_8 ?_
  refine lv_icmp_ge (tgt := 37) C.1 C.2.1 dX9_put_9 (by decide) (fun cd => ?_) (fun cd => ?_)
  · have h := ite_t cd h
    obtain rfl := Option.some.inj h
    exact hE0 _ hx _ _ _ hw (lv_sub hl [] rfl)
  · have h := ite_f cd h
    refine lv_aload_n C.1 C.2.1 dX9_put_12 rfl (lv_at hl 0 rfl) ?_
    refine gf_X9_82 C hw dX9_put_13 ?_
    refine lv_iload_n C.1 C.2.1 dX9_put_16 rfl (lv_at hl 1 rfl) ?_
    refine lv_iload_n C.1 C.2.1 dX9_put_17 rfl (lv_at hl 3 rfl) ?_
    refine lv_iadd C.1 C.2.1 dX9_put_18 ?_
    refine lv_aload_n C.1 C.2.1 dX9_put_19 rfl (lv_at hl 0 rfl) ?_
    refine gf_X9_79 C hw dX9_put_20 ?_
    refine lv_bipush (v := (31 : Int32)) C.1 C.2.1 dX9_put_23 (by decide) ?_
    refine lv_iload_n C.1 C.2.1 dX9_put_25 rfl (lv_at hl 2 rfl) ?_
    refine lv_imul C.1 C.2.1 dX9_put_26 ?_
    refine lv_iload_n C.1 C.2.1 dX9_put_27 rfl (lv_at hl 3 rfl) ?_
    refine lv_iadd C.1 C.2.1 dX9_put_28 ?_
    obtain ⟨hin, h⟩ := gd_of h
    refine m_iald C hw a0_23 hin dX9_put_29 ?_
    obtain ⟨hin, h⟩ := gd_of h
    refine m_iast C hw a0_24 hin dX9_put_30 (fun H locs hw => ?_)
    obtain ⟨σ1, eσ1, h⟩ := lt_of h
    rw [← eσ1] at hw
    obtain ⟨x2, ex2, h⟩ := lt_of h
    refine m_iinc (k := 3) (lv' := [(3, .int _), (0, .ref _), (1, .int _), (2, .int _)]) C (1 : Int32) (by decide) dX9_put_31 hl rfl ex2.symm (by decide) rfl (fun ls hl => ?_)
    refine lv_goto (tgt := 2) C.1 C.2.1 dX9_put_34 (by decide) ?_
    obtain rfl := Option.some.inj h
    exact hP _ hx _ _ _ hw (lv_sub hl [1, 2, 3, 0] rfl)
set_option maxRecDepth 20000 in
theorem c_X9_put {l : Launch} {D : va_G} {cy : Nat → ClassId} {ad : Nat → Nat} (hj : InjW 0 ad) (a1 : Int32) (a2 : Int32)  (σ : Mem) (r : Mem) (h : f_X9_put a1 a2 σ = some r) : CV 0 D cy ad l yX9_put cX9_put 4 none 0 [.ref (ad (0)), .int a1, .int a2] σ r := by
  refine CV.mk (by decide) hj (Nat.le_of_ble_eq_true rfl) (fun p e R s m below meth c ls C hw hl => ?_)
  have hl : lv_has ls 4 [(0, .ref (ad (0))), (1, .int a1), (2, .int a2)] := hl
  generalize ([.ref (ad (0)), .int a1, .int a2] : List Value).toArray = args at C ⊢
  have C : Cx 0 D cy ad p R s m args meth c cX9_put 4 RX9 none 0 := C
  unfold f_X9_put at h
  refine lv_iconst (v := (0 : Int32)) C.1 C.2.1 dX9_put_0 (by decide) ?_
  refine lv_istore_n (lv' := [(3, .int _), (0, .ref _), (1, .int _), (2, .int _)]) C.1 C.2.1 dX9_put_1 rfl hl (by decide) rfl (fun ls hl => ?_)
  obtain ⟨r3, hL, h⟩ := bS h
  refine w_X9_put_2 C  hL (fun y0 hr H locs ls hw hl => ?_) _ _ _ hw (lv_sub hl [1, 2, 3, 0] rfl)
  · subst hr
    try dsimp only at h
    try dsimp only at hw
    try dsimp only at hl
    exact m_vret C hw (Option.some.inj h) dX9_put_37
noncomputable def j_X9_offer_76 (a1 : Int32) (a2 : Int32) (z0 : Int32) (v4 : Int32) (σ : Mem) : Option ((Int32 × Int32) ⊕ (Unit ⊕ Int32)) :=
  lt (v4 + (1 : Int32)) (fun x2 => some (.inl (z0, x2)))
noncomputable def b_X9_offer_18 (a1 : Int32) (a2 : Int32) (v3 : Int32) (v4 : Int32) (σ : Mem) : Option ((Int32 × Int32) ⊕ (Unit ⊕ Int32)) :=
  if a2 ≤ v4 then (some (.inr (.inr v3))) else (if v3 = 0 then (gd (ix a1 120) (if (σ.1 22 a1.toNatClampNeg) = a2 then (gd (ix v4 31) (gd (ix (((31 : Int32) * a1) + v4) 3720) (lt ((σ.1 24 v4.toNatClampNeg) - (σ.1 23 (((31 : Int32) * a1) + v4).toNatClampNeg)) (fun x1 => if x1 ≤ 0 then (if 0 ≤ x1 then (j_X9_offer_76 a1 a2 (0 : Int32) v4 σ) else (j_X9_offer_76 a1 a2 (1 : Int32) v4 σ)) else (some (.inr (.inl ()))))))) else (some (.inr (.inr v3))))) else (some (.inr (.inr v3))))
noncomputable def b_X9_offer_97 (a1 : Int32) (a2 : Int32) (v4 : Int32) (σ : Mem) : Option ((Int32 × Mem) ⊕ Mem) :=
  if a2 ≤ v4 then (some (.inr σ)) else (gd (ix v4 31) (gd (ix (((31 : Int32) * a1) + v4) 3720) (lt (sI σ 23 (((31 : Int32) * a1) + v4).toNatClampNeg (σ.1 24 v4.toNatClampNeg)) (fun σ5 => lt (v4 + (1 : Int32)) (fun x6 => some (.inl (x6, σ5)))))))
noncomputable def j_X9_offer_83 (a1 : Int32) (a2 : Int32) (v3 : Int32) (σ : Mem) : Option Mem :=
  if v3 = 0 then (some σ) else (gd (ix a1 120) (lt (sI σ 22 a1.toNatClampNeg a2) (fun σ4 => (Lim (T := Mem) (fun s => b_X9_offer_97 a1 a2 s.1 s.2) ((0 : Int32), σ4)).bind (fun r7 => some r7))))
noncomputable def j_X9_offer_14 (a1 : Int32) (a2 : Int32) (z0 : Int32) (σ : Mem) : Option Mem :=
  (Lim (T := (Unit ⊕ Int32)) (fun s => b_X9_offer_18 a1 a2 s.1 s.2 σ) (z0, (0 : Int32))).bind (fun r3 => (match r3 with | .inl r3_0 => (some σ) | .inr r3_1 => (j_X9_offer_83 a1 a2 r3_1 σ)))
noncomputable def f_X9_offer (a1 : Int32) (a2 : Int32) (σ : Mem) : Option Mem :=
  gd (ix a1 120) (if (σ.1 22 a1.toNatClampNeg) = 0 then (j_X9_offer_14 a1 a2 (1 : Int32) σ) else (j_X9_offer_14 a1 a2 (0 : Int32) σ))
set_option maxRecDepth 20000 in
theorem w_X9_offer_76 {D : va_G} {cy : Nat → ClassId} {ad : Nat → Nat} {p : Program} {l : Launch} {e : Env} {R : Room} {s : State} {m : MethodId} {args : Array Value} {below : List Frame} {meth : Method} {c : Code} (C : Cx 0 D cy ad p R s m args meth c cX9_offer 6 RX9 none 0) {a1 : Int32} {a2 : Int32}  {z0 : Int32} {v4 : Int32}  {σ : Mem} {H : Heap} {locs : List Loc} {ls : Array Slot} {Q : State → Prop} {P : (Int32 × Int32) → Prop} {r : (Unit ⊕ Int32)} {x : (Int32 × Int32) ⊕ (Unit ⊕ Int32)} (hx : LimQ P r x) (hP : ∀ u, P u → ∀ (H : Heap) (locs : List Loc) (ls : Array Slot), Wd 0 D cy ad s σ H locs → lv_has ls 6 [(0, .ref (ad (0))), (1, .int a1), (2, .int a2), (3, .int u.1), (4, .int u.2)] → W p l e R s m args below meth c H locs 0 0 Q (F0 m 18 ls [])) (hE0 : (.inl () : (Unit ⊕ Int32)) = r → ∀ (H : Heap) (locs : List Loc) (ls : Array Slot), Wd 0 D cy ad s σ H locs → lv_has ls 6 [] → W p l e R s m args below meth c H locs 0 0 Q (F0 m 65 ls [])) (hE1 : ∀ (v3 : Int32), (.inr v3 : (Unit ⊕ Int32)) = r → ∀ (H : Heap) (locs : List Loc) (ls : Array Slot), Wd 0 D cy ad s σ H locs → lv_has ls 6 [(0, .ref (ad (0))), (1, .int a1), (2, .int a2), (3, .int v3)] → W p l e R s m args below meth c H locs 0 0 Q (F0 m 83 ls [])) (hw : Wd 0 D cy ad s σ H locs) (hl : lv_has ls 6 [(0, .ref (ad (0))), (1, .int a1), (2, .int a2), (4, .int v4)]) (h : j_X9_offer_76 a1 a2 z0 v4 σ = some x) : W p l e R s m args below meth c H locs 0 0 Q (F0 m 76 ls [.int z0]) := by
  unfold j_X9_offer_76 at h
  refine lv_istore_n (lv' := [(3, .int _), (0, .ref _), (1, .int _), (2, .int _), (4, .int _)]) C.1 C.2.1 dX9_offer_76 rfl hl (by decide) rfl (fun ls hl => ?_)
  obtain ⟨x2, ex2, h⟩ := lt_of h
  refine m_iinc (k := 4) (lv' := [(4, .int _), (3, .int _), (0, .ref _), (1, .int _), (2, .int _)]) C (1 : Int32) (by decide) dX9_offer_77 hl rfl ex2.symm (by decide) rfl (fun ls hl => ?_)
  refine lv_goto (tgt := 18) C.1 C.2.1 dX9_offer_80 (by decide) ?_
  obtain rfl := Option.some.inj h
  exact hP _ hx _ _ _ hw (lv_sub hl [2, 3, 4, 1, 0] rfl)
set_option maxRecDepth 20000 in
theorem w_X9_offer_18 {D : va_G} {cy : Nat → ClassId} {ad : Nat → Nat} {p : Program} {l : Launch} {e : Env} {R : Room} {s : State} {m : MethodId} {args : Array Value} {below : List Frame} {meth : Method} {c : Code} (C : Cx 0 D cy ad p R s m args meth c cX9_offer 6 RX9 none 0) {a1 : Int32} {a2 : Int32}  {v3 : Int32} {v4 : Int32} {σ : Mem} {Q : State → Prop} {r : (Unit ⊕ Int32)} (hL : Lim (T := (Unit ⊕ Int32)) (fun s => b_X9_offer_18 a1 a2 s.1 s.2 σ) (v3, v4) = some r) (hE0 : (.inl () : (Unit ⊕ Int32)) = r → ∀ (H : Heap) (locs : List Loc) (ls : Array Slot), Wd 0 D cy ad s σ H locs → lv_has ls 6 [] → W p l e R s m args below meth c H locs 0 0 Q (F0 m 65 ls [])) (hE1 : ∀ (v3 : Int32), (.inr v3 : (Unit ⊕ Int32)) = r → ∀ (H : Heap) (locs : List Loc) (ls : Array Slot), Wd 0 D cy ad s σ H locs → lv_has ls 6 [(0, .ref (ad (0))), (1, .int a1), (2, .int a2), (3, .int v3)] → W p l e R s m args below meth c H locs 0 0 Q (F0 m 83 ls [])) (H : Heap) (locs : List Loc) (ls : Array Slot) (hw : Wd 0 D cy ad s σ H locs) (hl : lv_has ls 6 [(0, .ref (ad (0))), (1, .int a1), (2, .int a2), (3, .int v3), (4, .int v4)]) : W p l e R s m args below meth c H locs 0 0 Q (F0 m 18 ls []) := by
  refine Lim_ind hL (P := fun u => ∀ (H : Heap) (locs : List Loc) (ls : Array Slot), Wd 0 D cy ad s σ H locs → lv_has ls 6 [(0, .ref (ad (0))), (1, .int a1), (2, .int a2), (3, .int u.1), (4, .int u.2)] → W p l e R s m args below meth c H locs 0 0 Q (F0 m 18 ls [])) (fun u x h hx H locs ls hw hl => ?_) H locs ls hw hl
  clear hL
  obtain ⟨v3, v4⟩ := u
  have h : b_X9_offer_18 a1 a2 v3 v4 σ = some x := h
  have hw : Wd 0 D cy ad s σ H locs := hw
  have hl : lv_has ls 6 [(0, .ref (ad (0))), (1, .int a1), (2, .int a2), (3, .int v3), (4, .int v4)] := hl
  have hP : ∀ (u : (Int32 × Int32)), (∀ (H : Heap) (locs : List Loc) (ls : Array Slot), Wd 0 D cy ad s σ H locs → lv_has ls 6 [(0, .ref (ad (0))), (1, .int a1), (2, .int a2), (3, .int u.1), (4, .int u.2)] → W p l e R s m args below meth c H locs 0 0 Q (F0 m 18 ls [])) → ∀ (H : Heap) (locs : List Loc) (ls : Array Slot), Wd 0 D cy ad s σ H locs → lv_has ls 6 [(0, .ref (ad (0))), (1, .int a1), (2, .int a2), (3, .int u.1), (4, .int u.2)] → W p l e R s m args below meth c H locs 0 0 Q (F0 m 18 ls []) := fun _ k => k
  unfold b_X9_offer_18 at h
  refine lv_iload C.1 C.2.1 dX9_offer_18 (lv_at hl 4 rfl) ?_
  refine lv_iload_n C.1 C.2.1 dX9_offer_20 rfl (lv_at hl 2 rfl) ?_
  refine lv_icmp_ge (tgt := 83) C.1 C.2.1 dX9_offer_21 (by decide) (fun cd => ?_) (fun cd => ?_)
  · have h := ite_t cd h
    obtain rfl := Option.some.inj h
    exact hE1 _ hx _ _ _ hw (lv_sub hl [0, 1, 2, 3] rfl)
  · have h := ite_f cd h
    refine lv_iload_n C.1 C.2.1 dX9_offer_24 rfl (lv_at hl 3 rfl) ?_
    refine lv_if_ne (tgt := 83) C.1 C.2.1 dX9_offer_25 (by decide) (fun cd => ?_) (fun cd => ?_)
    · have h := ite_f cd h
      obtain rfl := Option.some.inj h
      exact hE1 _ hx _ _ _ hw (lv_sub hl [0, 1, 2, 3] rfl)
    · have h := ite_t cd h
      refine lv_aload_n C.1 C.2.1 dX9_offer_28 rfl (lv_at hl 0 rfl) ?_
      refine gf_X9_76 C hw dX9_offer_29 ?_
      refine lv_iload_n C.1 C.2.1 dX9_offer_32 rfl (lv_at hl 1 rfl) ?_
      obtain ⟨hin, h⟩ := gd_of h
      refine m_iald C hw a0_22 hin dX9_offer_33 ?_
      refine lv_iload_n C.1 C.2.1 dX9_offer_34 rfl (lv_at hl 2 rfl) ?_
      refine lv_icmp_ne (tgt := 83) C.1 C.2.1 dX9_offer_35 (by decide) (fun cd => ?_) (fun cd => ?_)
      · have h := ite_f cd h
        obtain rfl := Option.some.inj h
        exact hE1 _ hx _ _ _ hw (lv_sub hl [0, 1, 2, 3] rfl)
      · have h := ite_t cd h
        refine lv_aload_n C.1 C.2.1 dX9_offer_38 rfl (lv_at hl 0 rfl) ?_
        refine gf_X9_82 C hw dX9_offer_39 ?_
        refine lv_iload C.1 C.2.1 dX9_offer_42 (lv_at hl 4 rfl) ?_
        obtain ⟨hin, h⟩ := gd_of h
        refine m_iald C hw a0_24 hin dX9_offer_44 ?_
        refine lv_aload_n C.1 C.2.1 dX9_offer_45 rfl (lv_at hl 0 rfl) ?_
        refine gf_X9_79 C hw dX9_offer_46 ?_
        refine lv_bipush (v := (31 : Int32)) C.1 C.2.1 dX9_offer_49 (by decide) ?_
        refine lv_iload_n C.1 C.2.1 dX9_offer_51 rfl (lv_at hl 1 rfl) ?_
        refine lv_imul C.1 C.2.1 dX9_offer_52 ?_
        refine lv_iload C.1 C.2.1 dX9_offer_53 (lv_at hl 4 rfl) ?_
        refine lv_iadd C.1 C.2.1 dX9_offer_55 ?_
        obtain ⟨hin, h⟩ := gd_of h
        refine m_iald C hw a0_23 hin dX9_offer_56 ?_
        refine lv_isub C.1 C.2.1 dX9_offer_57 ?_
        obtain ⟨x1, ex1, h⟩ := lt_of h
        refine m_topi ex1 ?_
        refine lv_istore (lv' := [(5, .int _), (0, .ref _), (1, .int _), (2, .int _), (3, .int _), (4, .int _)]) C.1 C.2.1 dX9_offer_58 hl (by decide) rfl (fun ls hl => ?_)
        refine lv_iload C.1 C.2.1 dX9_offer_60 (lv_at hl 0 rfl) ?_
        refine lv_if_le (tgt := 66) C.1 C.2.1 dX9_offer_62 (by decide) (fun cd => ?_) (fun cd => ?_)
        · have h := ite_t cd h
          refine lv_iload C.1 C.2.1 dX9_offer_66 (lv_at hl 0 rfl) ?_
          refine lv_if_ge (tgt := 75) C.1 C.2.1 dX9_offer_68 (by decide) (fun cd => ?_) (fun cd => ?_)
          · have h := ite_t cd h
            refine lv_iconst (v := (0 : Int32)) C.1 C.2.1 dX9_offer_75 (by decide) ?_
            exact w_X9_offer_76 C hx hP hE0 hE1 hw (lv_sub hl [1, 2, 3, 5] rfl) h
          · have h := ite_f cd h
            refine lv_iconst (v := (1 : Int32)) C.1 C.2.1 dX9_offer_71 (by decide) ?_
            refine lv_goto (tgt := 76) C.1 C.2.1 dX9_offer_72 (by decide) ?_
            exact w_X9_offer_76 C hx hP hE0 hE1 hw (lv_sub hl [1, 2, 3, 5] rfl) h
        · have h := ite_f cd h
          obtain rfl := Option.some.inj h
          exact hE0  hx _ _ _ hw (lv_sub hl [] rfl)
set_option maxRecDepth 20000 in
theorem w_X9_offer_97 {D : va_G} {cy : Nat → ClassId} {ad : Nat → Nat} {p : Program} {l : Launch} {e : Env} {R : Room} {s : State} {m : MethodId} {args : Array Value} {below : List Frame} {meth : Method} {c : Code} (C : Cx 0 D cy ad p R s m args meth c cX9_offer 6 RX9 none 0) {a1 : Int32} {a2 : Int32}  {v4 : Int32} {σ : Mem} {Q : State → Prop} {r : Mem} (hL : Lim (T := Mem) (fun s => b_X9_offer_97 a1 a2 s.1 s.2) (v4, σ) = some r) (hE0 : ∀ (σ1 : Mem), (σ1 : Mem) = r → ∀ (H : Heap) (locs : List Loc) (ls : Array Slot), Wd 0 D cy ad s σ1 H locs → lv_has ls 6 [] → W p l e R s m args below meth c H locs 0 0 Q (F0 m 128 ls [])) (H : Heap) (locs : List Loc) (ls : Array Slot) (hw : Wd 0 D cy ad s σ H locs) (hl : lv_has ls 6 [(0, .ref (ad (0))), (1, .int a1), (2, .int a2), (4, .int v4)]) : W p l e R s m args below meth c H locs 0 0 Q (F0 m 97 ls []) := by
  refine Lim_ind hL (P := fun u => ∀ (H : Heap) (locs : List Loc) (ls : Array Slot), Wd 0 D cy ad s u.2 H locs → lv_has ls 6 [(0, .ref (ad (0))), (1, .int a1), (2, .int a2), (4, .int u.1)] → W p l e R s m args below meth c H locs 0 0 Q (F0 m 97 ls [])) (fun u x h hx H locs ls hw hl => ?_) H locs ls hw hl
  clear hL
  obtain ⟨v4, σ⟩ := u
  have h : b_X9_offer_97 a1 a2 v4 σ = some x := h
  have hw : Wd 0 D cy ad s σ H locs := hw
  have hl : lv_has ls 6 [(0, .ref (ad (0))), (1, .int a1), (2, .int a2), (4, .int v4)] := hl
  have hP : ∀ (u : (Int32 × Mem)), (∀ (H : Heap) (locs : List Loc) (ls : Array Slot), Wd 0 D cy ad s u.2 H locs → lv_has ls 6 [(0, .ref (ad (0))), (1, .int a1), (2, .int a2), (4, .int u.1)] → W p l e R s m args below meth c H locs 0 0 Q (F0 m 97 ls [])) → ∀ (H : Heap) (locs : List Loc) (ls : Array Slot), Wd 0 D cy ad s u.2 H locs → lv_has ls 6 [(0, .ref (ad (0))), (1, .int a1), (2, .int a2), (4, .int u.1)] → W p l e R s m args below meth c H locs 0 0 Q (F0 m 97 ls []) := fun _ k => k
  unfold b_X9_offer_97 at h
  refine lv_iload C.1 C.2.1 dX9_offer_97 (lv_at hl 3 rfl) ?_
  refine lv_iload_n C.1 C.2.1 dX9_offer_99 rfl (lv_at hl 2 rfl) ?_
  refine lv_icmp_ge (tgt := 128) C.1 C.2.1 dX9_offer_100 (by decide) (fun cd => ?_) (fun cd => ?_)
  · have h := ite_t cd h
    obtain rfl := Option.some.inj h
    exact hE0 _ hx _ _ _ hw (lv_sub hl [] rfl)
  · have h := ite_f cd h
    refine lv_aload_n C.1 C.2.1 dX9_offer_103 rfl (lv_at hl 0 rfl) ?_
    refine gf_X9_79 C hw dX9_offer_104 ?_
    refine lv_bipush (v := (31 : Int32)) C.1 C.2.1 dX9_offer_107 (by decide) ?_
    refine lv_iload_n C.1 C.2.1 dX9_offer_109 rfl (lv_at hl 1 rfl) ?_
    refine lv_imul C.1 C.2.1 dX9_offer_110 ?_
    refine lv_iload C.1 C.2.1 dX9_offer_111 (lv_at hl 3 rfl) ?_
    refine lv_iadd C.1 C.2.1 dX9_offer_113 ?_
    refine lv_aload_n C.1 C.2.1 dX9_offer_114 rfl (lv_at hl 0 rfl) ?_
    refine gf_X9_82 C hw dX9_offer_115 ?_
    refine lv_iload C.1 C.2.1 dX9_offer_118 (lv_at hl 3 rfl) ?_
    obtain ⟨hin, h⟩ := gd_of h
    refine m_iald C hw a0_24 hin dX9_offer_120 ?_
    obtain ⟨hin, h⟩ := gd_of h
    refine m_iast C hw a0_23 hin dX9_offer_121 (fun H locs hw => ?_)
    obtain ⟨σ5, eσ5, h⟩ := lt_of h
    rw [← eσ5] at hw
    obtain ⟨x6, ex6, h⟩ := lt_of h
    refine m_iinc (k := 3) (lv' := [(4, .int _), (0, .ref _), (1, .int _), (2, .int _)]) C (1 : Int32) (by decide) dX9_offer_122 hl rfl ex6.symm (by decide) rfl (fun ls hl => ?_)
    refine lv_goto (tgt := 97) C.1 C.2.1 dX9_offer_125 (by decide) ?_
    obtain rfl := Option.some.inj h
    exact hP _ hx _ _ _ hw (lv_sub hl [1, 2, 3, 0] rfl)
set_option maxRecDepth 20000 in
theorem w_X9_offer_83 {D : va_G} {cy : Nat → ClassId} {ad : Nat → Nat} {p : Program} {l : Launch} {e : Env} {R : Room} {s : State} {m : MethodId} {args : Array Value} {below : List Frame} {meth : Method} {c : Code} (C : Cx 0 D cy ad p R s m args meth c cX9_offer 6 RX9 none 0) {a1 : Int32} {a2 : Int32}  {v3 : Int32}  {σ : Mem} {H : Heap} {locs : List Loc} {ls : Array Slot} {r : Mem} (hw : Wd 0 D cy ad s σ H locs) (hl : lv_has ls 6 [(0, .ref (ad (0))), (1, .int a1), (2, .int a2), (3, .int v3)]) (h : j_X9_offer_83 a1 a2 v3 σ = some r) : W p l e R s m args below meth c H locs 0 0 (QV 0 D cy ad below args s r) (F0 m 83 ls []) := by
  unfold j_X9_offer_83 at h
  refine lv_iload_n C.1 C.2.1 dX9_offer_83 rfl (lv_at hl 3 rfl) ?_
  refine lv_if_eq (tgt := 128) C.1 C.2.1 dX9_offer_84 (by decide) (fun cd => ?_) (fun cd => ?_)
  · have h := ite_t cd h
    exact m_vret C hw (Option.some.inj h) dX9_offer_128
  · have h := ite_f cd h
    refine lv_aload_n C.1 C.2.1 dX9_offer_87 rfl (lv_at hl 0 rfl) ?_
    refine gf_X9_76 C hw dX9_offer_88 ?_
    refine lv_iload_n C.1 C.2.1 dX9_offer_91 rfl (lv_at hl 1 rfl) ?_
    refine lv_iload_n C.1 C.2.1 dX9_offer_92 rfl (lv_at hl 2 rfl) ?_
    obtain ⟨hin, h⟩ := gd_of h
    refine m_iast C hw a0_22 hin dX9_offer_93 (fun H locs hw => ?_)
    obtain ⟨σ4, eσ4, h⟩ := lt_of h
    rw [← eσ4] at hw
    refine lv_iconst (v := (0 : Int32)) C.1 C.2.1 dX9_offer_94 (by decide) ?_
    refine lv_istore (lv' := [(4, .int _), (0, .ref _), (1, .int _), (2, .int _), (3, .int _)]) C.1 C.2.1 dX9_offer_95 hl (by decide) rfl (fun ls hl => ?_)
    obtain ⟨r7, hL, h⟩ := bS h
    refine w_X9_offer_97 C  hL (fun y0 hr H locs ls hw hl => ?_) _ _ _ hw (lv_sub hl [1, 2, 3, 0] rfl)
    · subst hr
      try dsimp only at h
      try dsimp only at hw
      try dsimp only at hl
      exact m_vret C hw (Option.some.inj h) dX9_offer_128
set_option maxRecDepth 20000 in
theorem w_X9_offer_14 {D : va_G} {cy : Nat → ClassId} {ad : Nat → Nat} {p : Program} {l : Launch} {e : Env} {R : Room} {s : State} {m : MethodId} {args : Array Value} {below : List Frame} {meth : Method} {c : Code} (C : Cx 0 D cy ad p R s m args meth c cX9_offer 6 RX9 none 0) {a1 : Int32} {a2 : Int32}  {z0 : Int32}  {σ : Mem} {H : Heap} {locs : List Loc} {ls : Array Slot} {r : Mem} (hw : Wd 0 D cy ad s σ H locs) (hl : lv_has ls 6 [(0, .ref (ad (0))), (1, .int a1), (2, .int a2)]) (h : j_X9_offer_14 a1 a2 z0 σ = some r) : W p l e R s m args below meth c H locs 0 0 (QV 0 D cy ad below args s r) (F0 m 14 ls [.int z0]) := by
  unfold j_X9_offer_14 at h
  refine lv_istore_n (lv' := [(3, .int _), (0, .ref _), (1, .int _), (2, .int _)]) C.1 C.2.1 dX9_offer_14 rfl hl (by decide) rfl (fun ls hl => ?_)
  refine lv_iconst (v := (0 : Int32)) C.1 C.2.1 dX9_offer_15 (by decide) ?_
  refine lv_istore (lv' := [(4, .int _), (3, .int _), (0, .ref _), (1, .int _), (2, .int _)]) C.1 C.2.1 dX9_offer_16 hl (by decide) rfl (fun ls hl => ?_)
  obtain ⟨r3, hL, h⟩ := bS h
  refine w_X9_offer_18 C  hL (fun  hr H locs ls hw hl => ?_) (fun y0 hr H locs ls hw hl => ?_) _ _ _ hw (lv_sub hl [2, 3, 4, 1, 0] rfl)
  · subst hr
    try dsimp only at h
    try dsimp only at hw
    try dsimp only at hl
    exact m_vret C hw (Option.some.inj h) dX9_offer_65
  · subst hr
    try dsimp only at h
    try dsimp only at hw
    try dsimp only at hl
    exact w_X9_offer_83 C hw (lv_sub hl [0, 1, 2, 3] rfl) h
set_option maxRecDepth 20000 in
theorem c_X9_offer {l : Launch} {D : va_G} {cy : Nat → ClassId} {ad : Nat → Nat} (hj : InjW 0 ad) (a1 : Int32) (a2 : Int32)  (σ : Mem) (r : Mem) (h : f_X9_offer a1 a2 σ = some r) : CV 0 D cy ad l yX9_offer cX9_offer 6 none 0 [.ref (ad (0)), .int a1, .int a2] σ r := by
  refine CV.mk (by decide) hj (Nat.le_of_ble_eq_true rfl) (fun p e R s m below meth c ls C hw hl => ?_)
  have hl : lv_has ls 6 [(0, .ref (ad (0))), (1, .int a1), (2, .int a2)] := hl
  generalize ([.ref (ad (0)), .int a1, .int a2] : List Value).toArray = args at C ⊢
  have C : Cx 0 D cy ad p R s m args meth c cX9_offer 6 RX9 none 0 := C
  unfold f_X9_offer at h
  refine lv_aload_n C.1 C.2.1 dX9_offer_0 rfl (lv_at hl 0 rfl) ?_
  refine gf_X9_76 C hw dX9_offer_1 ?_
  refine lv_iload_n C.1 C.2.1 dX9_offer_4 rfl (lv_at hl 1 rfl) ?_
  obtain ⟨hin, h⟩ := gd_of h
  refine m_iald C hw a0_22 hin dX9_offer_5 ?_
  refine lv_if_ne (tgt := 13) C.1 C.2.1 dX9_offer_6 (by decide) (fun cd => ?_) (fun cd => ?_)
  · have h := ite_f cd h
    refine lv_iconst (v := (0 : Int32)) C.1 C.2.1 dX9_offer_13 (by decide) ?_
    exact w_X9_offer_14 C hw (lv_sub hl [0, 1, 2] rfl) h
  · have h := ite_t cd h
    refine lv_iconst (v := (1 : Int32)) C.1 C.2.1 dX9_offer_9 (by decide) ?_
    refine lv_goto (tgt := 14) C.1 C.2.1 dX9_offer_10 (by decide) ?_
    exact w_X9_offer_14 C hw (lv_sub hl [0, 1, 2] rfl) h
noncomputable def j_X9_offerTwo_115 (a1 : Int32) (a2 : Int32) (v3 : Int32) (σ : Mem) : Option ((Int32 × Mem) ⊕ Mem) :=
  lt (v3 + (1 : Int32)) (fun x1 => some (.inl (x1, σ)))
noncomputable def b_X9_offerTwo_50 (a1 : Int32) (a2 : Int32) (v3 : Int32) (v4 : Int32) (σ : Mem) : Option ((Int32 × Int32 × Mem) ⊕ (Int32 × Mem)) :=
  if (2 : Int32) ≤ v4 then (some (.inr (v3, σ))) else (lt (sI σ 24 (0 : Int32).toNatClampNeg ((6 : Int32) + v4)) (fun σ2 => (f_X9_put (1 : Int32) a2 σ2).bind (fun r3 => gd (ix a2 120) ((f_X9_put ((1 : Int32) + (r3.1 22 a2.toNatClampNeg)) v3 r3).bind (fun r4 => gd (ix ((((14400 : Int32) * v4) + ((120 : Int32) * a2)) + v3) 28800) ((f_X9_offer (r4.1 19 ((((14400 : Int32) * v4) + ((120 : Int32) * a2)) + v3).toNatClampNeg) a1 r4).bind (fun r5 => lt (v4 + (1 : Int32)) (fun x6 => some (.inl (v3, x6, r5))))))))))
noncomputable def b_X9_offerTwo_2 (a1 : Int32) (a2 : Int32) (v3 : Int32) (σ : Mem) : Option ((Int32 × Mem) ⊕ Mem) :=
  if (σ.1 0 22) ≤ v3 then (some (.inr σ)) else (gd (ix a2 120) (if (σ.1 22 a2.toNatClampNeg) ≤ 0 then (j_X9_offerTwo_115 a1 a2 v3 σ) else (gd (ix v3 120) (if (σ.1 22 v3.toNatClampNeg) ≤ 0 then (j_X9_offerTwo_115 a1 a2 v3 σ) else (gd (ix a2 120) (gd (ix v3 120) (if ((σ.1 22 a2.toNatClampNeg) + (σ.1 22 v3.toNatClampNeg)) = (a1 - (1 : Int32)) then ((Lim (T := (Int32 × Mem)) (fun s => b_X9_offerTwo_50 a1 a2 s.1 s.2.1 s.2.2) (v3, (0 : Int32), σ)).bind (fun r7 => j_X9_offerTwo_115 a1 a2 r7.1 r7.2)) else (j_X9_offerTwo_115 a1 a2 v3 σ))))))))
noncomputable def f_X9_offerTwo (a1 : Int32) (a2 : Int32) (σ : Mem) : Option Mem :=
  (Lim (T := Mem) (fun s => b_X9_offerTwo_2 a1 a2 s.1 s.2) ((0 : Int32), σ)).bind (fun r8 => some r8)
set_option maxRecDepth 20000 in
theorem w_X9_offerTwo_115 {D : va_G} {cy : Nat → ClassId} {ad : Nat → Nat} {p : Program} {l : Launch} {e : Env} {R : Room} {s : State} {m : MethodId} {args : Array Value} {below : List Frame} {meth : Method} {c : Code} (C : Cx 0 D cy ad p R s m args meth c cX9_offerTwo 5 RX9 none 1) {a1 : Int32} {a2 : Int32}  {v3 : Int32}  {σ : Mem} {H : Heap} {locs : List Loc} {ls : Array Slot} {Q : State → Prop} {P : (Int32 × Mem) → Prop} {r : Mem} {x : (Int32 × Mem) ⊕ Mem} (hx : LimQ P r x) (hP : ∀ u, P u → ∀ (H : Heap) (locs : List Loc) (ls : Array Slot), Wd 0 D cy ad s u.2 H locs → lv_has ls 5 [(0, .ref (ad (0))), (1, .int a1), (2, .int a2), (3, .int u.1)] → W p l e R s m args below meth c H locs 0 0 Q (F0 m 2 ls [])) (hE0 : ∀ (σ1 : Mem), (σ1 : Mem) = r → ∀ (H : Heap) (locs : List Loc) (ls : Array Slot), Wd 0 D cy ad s σ1 H locs → lv_has ls 5 [] → W p l e R s m args below meth c H locs 0 0 Q (F0 m 121 ls [])) (hw : Wd 0 D cy ad s σ H locs) (hl : lv_has ls 5 [(0, .ref (ad (0))), (1, .int a1), (2, .int a2), (3, .int v3)]) (h : j_X9_offerTwo_115 a1 a2 v3 σ = some x) : W p l e R s m args below meth c H locs 0 0 Q (F0 m 115 ls []) := by
  unfold j_X9_offerTwo_115 at h
  obtain ⟨x1, ex1, h⟩ := lt_of h
  refine m_iinc (k := 3) (lv' := [(3, .int _), (0, .ref _), (1, .int _), (2, .int _)]) C (1 : Int32) (by decide) dX9_offerTwo_115 hl rfl ex1.symm (by decide) rfl (fun ls hl => ?_)
  refine lv_goto (tgt := 2) C.1 C.2.1 dX9_offerTwo_118 (by decide) ?_
  obtain rfl := Option.some.inj h
  exact hP _ hx _ _ _ hw (lv_sub hl [1, 2, 3, 0] rfl)
set_option maxRecDepth 20000 in
theorem w_X9_offerTwo_50 {D : va_G} {cy : Nat → ClassId} {ad : Nat → Nat} {p : Program} {l : Launch} {e : Env} {R : Room} {s : State} {m : MethodId} {args : Array Value} {below : List Frame} {meth : Method} {c : Code} (C : Cx 0 D cy ad p R s m args meth c cX9_offerTwo 5 RX9 none 1) {a1 : Int32} {a2 : Int32}  {v3 : Int32} {v4 : Int32} {σ : Mem} {Q : State → Prop} {r : (Int32 × Mem)} (hL : Lim (T := (Int32 × Mem)) (fun s => b_X9_offerTwo_50 a1 a2 s.1 s.2.1 s.2.2) (v3, v4, σ) = some r) (hE0 : ∀ (v3 : Int32) (σ1 : Mem), ((v3, σ1) : (Int32 × Mem)) = r → ∀ (H : Heap) (locs : List Loc) (ls : Array Slot), Wd 0 D cy ad s σ1 H locs → lv_has ls 5 [(0, .ref (ad (0))), (1, .int a1), (2, .int a2), (3, .int v3)] → W p l e R s m args below meth c H locs 0 0 Q (F0 m 115 ls [])) (H : Heap) (locs : List Loc) (ls : Array Slot) (hw : Wd 0 D cy ad s σ H locs) (hl : lv_has ls 5 [(0, .ref (ad (0))), (1, .int a1), (2, .int a2), (3, .int v3), (4, .int v4)]) : W p l e R s m args below meth c H locs 0 0 Q (F0 m 50 ls []) := by
  refine Lim_ind hL (P := fun u => ∀ (H : Heap) (locs : List Loc) (ls : Array Slot), Wd 0 D cy ad s u.2.2 H locs → lv_has ls 5 [(0, .ref (ad (0))), (1, .int a1), (2, .int a2), (3, .int u.1), (4, .int u.2.1)] → W p l e R s m args below meth c H locs 0 0 Q (F0 m 50 ls [])) (fun u x h hx H locs ls hw hl => ?_) H locs ls hw hl
  clear hL
  obtain ⟨v3, v4, σ⟩ := u
  have h : b_X9_offerTwo_50 a1 a2 v3 v4 σ = some x := h
  have hw : Wd 0 D cy ad s σ H locs := hw
  have hl : lv_has ls 5 [(0, .ref (ad (0))), (1, .int a1), (2, .int a2), (3, .int v3), (4, .int v4)] := hl
  have hP : ∀ (u : (Int32 × Int32 × Mem)), (∀ (H : Heap) (locs : List Loc) (ls : Array Slot), Wd 0 D cy ad s u.2.2 H locs → lv_has ls 5 [(0, .ref (ad (0))), (1, .int a1), (2, .int a2), (3, .int u.1), (4, .int u.2.1)] → W p l e R s m args below meth c H locs 0 0 Q (F0 m 50 ls [])) → ∀ (H : Heap) (locs : List Loc) (ls : Array Slot), Wd 0 D cy ad s u.2.2 H locs → lv_has ls 5 [(0, .ref (ad (0))), (1, .int a1), (2, .int a2), (3, .int u.1), (4, .int u.2.1)] → W p l e R s m args below meth c H locs 0 0 Q (F0 m 50 ls []) := fun _ k => k
  unfold b_X9_offerTwo_50 at h
  refine lv_iload C.1 C.2.1 dX9_offerTwo_50 (lv_at hl 4 rfl) ?_
  refine lv_iconst (v := (2 : Int32)) C.1 C.2.1 dX9_offerTwo_52 (by decide) ?_
  refine lv_icmp_ge (tgt := 115) C.1 C.2.1 dX9_offerTwo_53 (by decide) (fun cd => ?_) (fun cd => ?_)
  · have h := ite_t cd h
    obtain rfl := Option.some.inj h
    exact hE0 _ _ hx _ _ _ hw (lv_sub hl [0, 1, 2, 3] rfl)
  · have h := ite_f cd h
    refine lv_aload_n C.1 C.2.1 dX9_offerTwo_56 rfl (lv_at hl 0 rfl) ?_
    refine gf_X9_82 C hw dX9_offerTwo_57 ?_
    refine lv_iconst (v := (0 : Int32)) C.1 C.2.1 dX9_offerTwo_60 (by decide) ?_
    refine lv_bipush (v := (6 : Int32)) C.1 C.2.1 dX9_offerTwo_61 (by decide) ?_
    refine lv_iload C.1 C.2.1 dX9_offerTwo_63 (lv_at hl 4 rfl) ?_
    refine lv_iadd C.1 C.2.1 dX9_offerTwo_65 ?_
    have hin : vp_in (0 : Int32) 31 := (by decide : ix (0 : Int32) 31)
    refine m_iast C hw a0_24 hin dX9_offerTwo_66 (fun H locs hw => ?_)
    obtain ⟨σ2, eσ2, h⟩ := lt_of h
    rw [← eσ2] at hw
    refine lv_aload_n C.1 C.2.1 dX9_offerTwo_67 rfl (lv_at hl 0 rfl) ?_
    refine lv_iconst (v := (1 : Int32)) C.1 C.2.1 dX9_offerTwo_68 (by decide) ?_
    refine lv_iload_n C.1 C.2.1 dX9_offerTwo_69 rfl (lv_at hl 2 rfl) ?_
    obtain ⟨r3, h1, h⟩ := bS h
    refine go_V hw (run_V (As := [.int _, .int _]) C hw (c_X9_put C.2.2.2.2.2.2.2.2.2 _ _ _ _ h1) mi_X9_put mv_X9_put o0_0 (ci := 9) rfl rfl lk_X9_200 (by decide) (by decide) rfl hl.1 rfl (Nat.le_of_ble_eq_true rfl) dX9_offerTwo_70 ⟨Nat.le_refl 0, Nat.le_refl 0⟩) (fun H locs hw => ?_)
    refine lv_aload_n C.1 C.2.1 dX9_offerTwo_73 rfl (lv_at hl 0 rfl) ?_
    refine lv_iconst (v := (1 : Int32)) C.1 C.2.1 dX9_offerTwo_74 (by decide) ?_
    refine lv_aload_n C.1 C.2.1 dX9_offerTwo_75 rfl (lv_at hl 0 rfl) ?_
    refine gf_X9_76 C hw dX9_offerTwo_76 ?_
    refine lv_iload_n C.1 C.2.1 dX9_offerTwo_79 rfl (lv_at hl 2 rfl) ?_
    obtain ⟨hin, h⟩ := gd_of h
    refine m_iald C hw a0_22 hin dX9_offerTwo_80 ?_
    refine lv_iadd C.1 C.2.1 dX9_offerTwo_81 ?_
    refine lv_iload_n C.1 C.2.1 dX9_offerTwo_82 rfl (lv_at hl 3 rfl) ?_
    obtain ⟨r4, h1, h⟩ := bS h
    refine go_V hw (run_V (As := [.int _, .int _]) C hw (c_X9_put C.2.2.2.2.2.2.2.2.2 _ _ _ _ h1) mi_X9_put mv_X9_put o0_0 (ci := 9) rfl rfl lk_X9_200 (by decide) (by decide) rfl hl.1 rfl (Nat.le_of_ble_eq_true rfl) dX9_offerTwo_83 ⟨Nat.le_refl 0, Nat.le_refl 0⟩) (fun H locs hw => ?_)
    refine lv_aload_n C.1 C.2.1 dX9_offerTwo_86 rfl (lv_at hl 0 rfl) ?_
    refine lv_aload_n C.1 C.2.1 dX9_offerTwo_87 rfl (lv_at hl 0 rfl) ?_
    refine gf_X9_67 C hw dX9_offerTwo_88 ?_
    refine lv_sipush (v := (14400 : Int32)) C.1 C.2.1 dX9_offerTwo_91 (by decide) ?_
    refine lv_iload C.1 C.2.1 dX9_offerTwo_94 (lv_at hl 4 rfl) ?_
    refine lv_imul C.1 C.2.1 dX9_offerTwo_96 ?_
    refine lv_bipush (v := (120 : Int32)) C.1 C.2.1 dX9_offerTwo_97 (by decide) ?_
    refine lv_iload_n C.1 C.2.1 dX9_offerTwo_99 rfl (lv_at hl 2 rfl) ?_
    refine lv_imul C.1 C.2.1 dX9_offerTwo_100 ?_
    refine lv_iadd C.1 C.2.1 dX9_offerTwo_101 ?_
    refine lv_iload_n C.1 C.2.1 dX9_offerTwo_102 rfl (lv_at hl 3 rfl) ?_
    refine lv_iadd C.1 C.2.1 dX9_offerTwo_103 ?_
    obtain ⟨hin, h⟩ := gd_of h
    refine m_iald C hw a0_19 hin dX9_offerTwo_104 ?_
    refine lv_iload_n C.1 C.2.1 dX9_offerTwo_105 rfl (lv_at hl 1 rfl) ?_
    obtain ⟨r5, h1, h⟩ := bS h
    refine go_V hw (run_V (As := [.int _, .int _]) C hw (c_X9_offer C.2.2.2.2.2.2.2.2.2 _ _ _ _ h1) mi_X9_offer mv_X9_offer o0_0 (ci := 9) rfl rfl lk_X9_203 (by decide) (by decide) rfl hl.1 rfl (Nat.le_of_ble_eq_true rfl) dX9_offerTwo_106 ⟨Nat.le_refl 0, Nat.le_refl 0⟩) (fun H locs hw => ?_)
    obtain ⟨x6, ex6, h⟩ := lt_of h
    refine m_iinc (k := 4) (lv' := [(4, .int _), (0, .ref _), (1, .int _), (2, .int _), (3, .int _)]) C (1 : Int32) (by decide) dX9_offerTwo_109 hl rfl ex6.symm (by decide) rfl (fun ls hl => ?_)
    refine lv_goto (tgt := 50) C.1 C.2.1 dX9_offerTwo_112 (by decide) ?_
    obtain rfl := Option.some.inj h
    exact hP _ hx _ _ _ hw (lv_sub hl [1, 2, 3, 4, 0] rfl)
set_option maxRecDepth 20000 in
theorem w_X9_offerTwo_2 {D : va_G} {cy : Nat → ClassId} {ad : Nat → Nat} {p : Program} {l : Launch} {e : Env} {R : Room} {s : State} {m : MethodId} {args : Array Value} {below : List Frame} {meth : Method} {c : Code} (C : Cx 0 D cy ad p R s m args meth c cX9_offerTwo 5 RX9 none 1) {a1 : Int32} {a2 : Int32}  {v3 : Int32} {σ : Mem} {Q : State → Prop} {r : Mem} (hL : Lim (T := Mem) (fun s => b_X9_offerTwo_2 a1 a2 s.1 s.2) (v3, σ) = some r) (hE0 : ∀ (σ1 : Mem), (σ1 : Mem) = r → ∀ (H : Heap) (locs : List Loc) (ls : Array Slot), Wd 0 D cy ad s σ1 H locs → lv_has ls 5 [] → W p l e R s m args below meth c H locs 0 0 Q (F0 m 121 ls [])) (H : Heap) (locs : List Loc) (ls : Array Slot) (hw : Wd 0 D cy ad s σ H locs) (hl : lv_has ls 5 [(0, .ref (ad (0))), (1, .int a1), (2, .int a2), (3, .int v3)]) : W p l e R s m args below meth c H locs 0 0 Q (F0 m 2 ls []) := by
  refine Lim_ind hL (P := fun u => ∀ (H : Heap) (locs : List Loc) (ls : Array Slot), Wd 0 D cy ad s u.2 H locs → lv_has ls 5 [(0, .ref (ad (0))), (1, .int a1), (2, .int a2), (3, .int u.1)] → W p l e R s m args below meth c H locs 0 0 Q (F0 m 2 ls [])) (fun u x h hx H locs ls hw hl => ?_) H locs ls hw hl
  clear hL
  obtain ⟨v3, σ⟩ := u
  have h : b_X9_offerTwo_2 a1 a2 v3 σ = some x := h
  have hw : Wd 0 D cy ad s σ H locs := hw
  have hl : lv_has ls 5 [(0, .ref (ad (0))), (1, .int a1), (2, .int a2), (3, .int v3)] := hl
  have hP : ∀ (u : (Int32 × Mem)), (∀ (H : Heap) (locs : List Loc) (ls : Array Slot), Wd 0 D cy ad s u.2 H locs → lv_has ls 5 [(0, .ref (ad (0))), (1, .int a1), (2, .int a2), (3, .int u.1)] → W p l e R s m args below meth c H locs 0 0 Q (F0 m 2 ls [])) → ∀ (H : Heap) (locs : List Loc) (ls : Array Slot), Wd 0 D cy ad s u.2 H locs → lv_has ls 5 [(0, .ref (ad (0))), (1, .int a1), (2, .int a2), (3, .int u.1)] → W p l e R s m args below meth c H locs 0 0 Q (F0 m 2 ls []) := fun _ k => k
  unfold b_X9_offerTwo_2 at h
  refine lv_iload_n C.1 C.2.1 dX9_offerTwo_2 rfl (lv_at hl 3 rfl) ?_
  refine lv_aload_n C.1 C.2.1 dX9_offerTwo_3 rfl (lv_at hl 0 rfl) ?_
  refine gf_X9_173 C hw dX9_offerTwo_4 ?_
  refine lv_icmp_ge (tgt := 121) C.1 C.2.1 dX9_offerTwo_7 (by decide) (fun cd => ?_) (fun cd => ?_)
  · have h := ite_t cd h
    obtain rfl := Option.some.inj h
    exact hE0 _ hx _ _ _ hw (lv_sub hl [] rfl)
  · have h := ite_f cd h
    refine lv_aload_n C.1 C.2.1 dX9_offerTwo_10 rfl (lv_at hl 0 rfl) ?_
    refine gf_X9_76 C hw dX9_offerTwo_11 ?_
    refine lv_iload_n C.1 C.2.1 dX9_offerTwo_14 rfl (lv_at hl 2 rfl) ?_
    obtain ⟨hin, h⟩ := gd_of h
    refine m_iald C hw a0_22 hin dX9_offerTwo_15 ?_
    refine lv_if_le (tgt := 115) C.1 C.2.1 dX9_offerTwo_16 (by decide) (fun cd => ?_) (fun cd => ?_)
    · have h := ite_t cd h
      exact w_X9_offerTwo_115 C hx hP hE0 hw (lv_sub hl [0, 1, 2, 3] rfl) h
    · have h := ite_f cd h
      refine lv_aload_n C.1 C.2.1 dX9_offerTwo_19 rfl (lv_at hl 0 rfl) ?_
      refine gf_X9_76 C hw dX9_offerTwo_20 ?_
      refine lv_iload_n C.1 C.2.1 dX9_offerTwo_23 rfl (lv_at hl 3 rfl) ?_
      obtain ⟨hin, h⟩ := gd_of h
      refine m_iald C hw a0_22 hin dX9_offerTwo_24 ?_
      refine lv_if_le (tgt := 115) C.1 C.2.1 dX9_offerTwo_25 (by decide) (fun cd => ?_) (fun cd => ?_)
      · have h := ite_t cd h
        exact w_X9_offerTwo_115 C hx hP hE0 hw (lv_sub hl [0, 1, 2, 3] rfl) h
      · have h := ite_f cd h
        refine lv_aload_n C.1 C.2.1 dX9_offerTwo_28 rfl (lv_at hl 0 rfl) ?_
        refine gf_X9_76 C hw dX9_offerTwo_29 ?_
        refine lv_iload_n C.1 C.2.1 dX9_offerTwo_32 rfl (lv_at hl 2 rfl) ?_
        obtain ⟨hin, h⟩ := gd_of h
        refine m_iald C hw a0_22 hin dX9_offerTwo_33 ?_
        refine lv_aload_n C.1 C.2.1 dX9_offerTwo_34 rfl (lv_at hl 0 rfl) ?_
        refine gf_X9_76 C hw dX9_offerTwo_35 ?_
        refine lv_iload_n C.1 C.2.1 dX9_offerTwo_38 rfl (lv_at hl 3 rfl) ?_
        obtain ⟨hin, h⟩ := gd_of h
        refine m_iald C hw a0_22 hin dX9_offerTwo_39 ?_
        refine lv_iadd C.1 C.2.1 dX9_offerTwo_40 ?_
        refine lv_iload_n C.1 C.2.1 dX9_offerTwo_41 rfl (lv_at hl 1 rfl) ?_
        refine lv_iconst (v := (1 : Int32)) C.1 C.2.1 dX9_offerTwo_42 (by decide) ?_
        refine lv_isub C.1 C.2.1 dX9_offerTwo_43 ?_
        refine lv_icmp_ne (tgt := 115) C.1 C.2.1 dX9_offerTwo_44 (by decide) (fun cd => ?_) (fun cd => ?_)
        · have h := ite_f cd h
          exact w_X9_offerTwo_115 C hx hP hE0 hw (lv_sub hl [0, 1, 2, 3] rfl) h
        · have h := ite_t cd h
          refine lv_iconst (v := (0 : Int32)) C.1 C.2.1 dX9_offerTwo_47 (by decide) ?_
          refine lv_istore (lv' := [(4, .int _), (0, .ref _), (1, .int _), (2, .int _), (3, .int _)]) C.1 C.2.1 dX9_offerTwo_48 hl (by decide) rfl (fun ls hl => ?_)
          obtain ⟨r7, hL, h⟩ := bS h
          refine w_X9_offerTwo_50 C  hL (fun y0 y1 hr H locs ls hw hl => ?_) _ _ _ hw (lv_sub hl [1, 2, 3, 4, 0] rfl)
          · subst hr
            try dsimp only at h
            try dsimp only at hw
            try dsimp only at hl
            exact w_X9_offerTwo_115 C hx hP hE0 hw (lv_sub hl [0, 1, 2, 3] rfl) h
set_option maxRecDepth 20000 in
theorem c_X9_offerTwo {l : Launch} {D : va_G} {cy : Nat → ClassId} {ad : Nat → Nat} (hj : InjW 0 ad) (a1 : Int32) (a2 : Int32)  (σ : Mem) (r : Mem) (h : f_X9_offerTwo a1 a2 σ = some r) : CV 0 D cy ad l yX9_offerTwo cX9_offerTwo 5 none 1 [.ref (ad (0)), .int a1, .int a2] σ r := by
  refine CV.mk (by decide) hj (Nat.le_of_ble_eq_true rfl) (fun p e R s m below meth c ls C hw hl => ?_)
  have hl : lv_has ls 5 [(0, .ref (ad (0))), (1, .int a1), (2, .int a2)] := hl
  generalize ([.ref (ad (0)), .int a1, .int a2] : List Value).toArray = args at C ⊢
  have C : Cx 0 D cy ad p R s m args meth c cX9_offerTwo 5 RX9 none 1 := C
  unfold f_X9_offerTwo at h
  refine lv_iconst (v := (0 : Int32)) C.1 C.2.1 dX9_offerTwo_0 (by decide) ?_
  refine lv_istore_n (lv' := [(3, .int _), (0, .ref _), (1, .int _), (2, .int _)]) C.1 C.2.1 dX9_offerTwo_1 rfl hl (by decide) rfl (fun ls hl => ?_)
  obtain ⟨r8, hL, h⟩ := bS h
  refine w_X9_offerTwo_2 C  hL (fun y0 hr H locs ls hw hl => ?_) _ _ _ hw (lv_sub hl [1, 2, 3, 0] rfl)
  · subst hr
    try dsimp only at h
    try dsimp only at hw
    try dsimp only at hl
    exact m_vret C hw (Option.some.inj h) dX9_offerTwo_121
noncomputable def b_X9_findWords_2  (v1 : Int32) (σ : Mem) : Option ((Int32 × Mem) ⊕ Mem) :=
  if (σ.1 0 22) ≤ v1 then (some (.inr σ)) else (gd (ix v1 120) (lt (sI σ 22 v1.toNatClampNeg (0 : Int32)) (fun σ1 => lt (v1 + (1 : Int32)) (fun x2 => some (.inl (x2, σ1))))))
noncomputable def b_X9_findWords_25  (v1 : Int32) (σ : Mem) : Option ((Int32 × Mem) ⊕ Mem) :=
  if (4 : Int32) ≤ v1 then (some (.inr σ)) else (lt (sI σ 24 (0 : Int32).toNatClampNeg v1) (fun σ4 => gd (ix v1 4) ((f_X9_offer (σ4.1 17 v1.toNatClampNeg) (1 : Int32) σ4).bind (fun r5 => lt (v1 + (1 : Int32)) (fun x6 => some (.inl (x6, r5)))))))
noncomputable def j_X9_findWords_128  (v1 : Int32) (v2 : Int32) (σ : Mem) : Option ((Int32 × Int32 × Mem) ⊕ (Int32 × Mem)) :=
  (f_X9_offerTwo v1 v2 σ).bind (fun r8 => lt (v2 + (1 : Int32)) (fun x9 => some (.inl (v1, x9, r8))))
noncomputable def b_X9_findWords_86  (v1 : Int32) (v2 : Int32) (v3 : Int32) (σ : Mem) : Option ((Int32 × Int32 × Int32 × Mem) ⊕ (Int32 × Int32 × Mem)) :=
  if (2 : Int32) ≤ v3 then (some (.inr (v1, v2, σ))) else (lt (sI σ 24 (0 : Int32).toNatClampNeg ((4 : Int32) + v3)) (fun σ10 => (f_X9_put (1 : Int32) v2 σ10).bind (fun r11 => gd (ix (((120 : Int32) * v3) + v2) 240) ((f_X9_offer (r11.1 18 (((120 : Int32) * v3) + v2).toNatClampNeg) v1 r11).bind (fun r12 => lt (v3 + (1 : Int32)) (fun x13 => some (.inl (v1, v2, x13, r12))))))))
noncomputable def b_X9_findWords_64  (v1 : Int32) (v2 : Int32) (σ : Mem) : Option ((Int32 × Int32 × Mem) ⊕ (Int32 × Mem)) :=
  if (σ.1 0 22) ≤ v2 then (some (.inr (v1, σ))) else (gd (ix v2 120) (if (σ.1 22 v2.toNatClampNeg) = (v1 - (1 : Int32)) then ((Lim (T := (Int32 × Int32 × Mem)) (fun s => b_X9_findWords_86 s.1 s.2.1 s.2.2.1 s.2.2.2) (v1, v2, (0 : Int32), σ)).bind (fun r14 => j_X9_findWords_128 r14.1 r14.2.1 r14.2.2)) else (j_X9_findWords_128 v1 v2 σ)))
noncomputable def b_X9_findWords_56  (v1 : Int32) (σ : Mem) : Option ((Int32 × Mem) ⊕ Mem) :=
  if (31 : Int32) < v1 then (some (.inr σ)) else ((Lim (T := (Int32 × Mem)) (fun s => b_X9_findWords_64 s.1 s.2.1 s.2.2) (v1, (0 : Int32), σ)).bind (fun r15 => lt (r15.1 + (1 : Int32)) (fun x16 => some (.inl (x16, r15.2)))))
noncomputable def f_X9_findWords  (σ : Mem) : Option Mem :=
  (Lim (T := Mem) (fun s => b_X9_findWords_2 s.1 s.2) ((0 : Int32), σ)).bind (fun r3 => (Lim (T := Mem) (fun s => b_X9_findWords_25 s.1 s.2) ((0 : Int32), r3)).bind (fun r7 => (Lim (T := Mem) (fun s => b_X9_findWords_56 s.1 s.2) ((2 : Int32), r7)).bind (fun r17 => some r17)))
set_option maxRecDepth 20000 in
theorem w_X9_findWords_2 {D : va_G} {cy : Nat → ClassId} {ad : Nat → Nat} {p : Program} {l : Launch} {e : Env} {R : Room} {s : State} {m : MethodId} {args : Array Value} {below : List Frame} {meth : Method} {c : Code} (C : Cx 0 D cy ad p R s m args meth c cX9_findWords 4 RX9 none 2)   {v1 : Int32} {σ : Mem} {Q : State → Prop} {r : Mem} (hL : Lim (T := Mem) (fun s => b_X9_findWords_2 s.1 s.2) (v1, σ) = some r) (hE0 : ∀ (σ1 : Mem), (σ1 : Mem) = r → ∀ (H : Heap) (locs : List Loc) (ls : Array Slot), Wd 0 D cy ad s σ1 H locs → lv_has ls 4 [(0, .ref (ad (0)))] → W p l e R s m args below meth c H locs 0 0 Q (F0 m 23 ls [])) (H : Heap) (locs : List Loc) (ls : Array Slot) (hw : Wd 0 D cy ad s σ H locs) (hl : lv_has ls 4 [(0, .ref (ad (0))), (1, .int v1)]) : W p l e R s m args below meth c H locs 0 0 Q (F0 m 2 ls []) := by
  refine Lim_ind hL (P := fun u => ∀ (H : Heap) (locs : List Loc) (ls : Array Slot), Wd 0 D cy ad s u.2 H locs → lv_has ls 4 [(0, .ref (ad (0))), (1, .int u.1)] → W p l e R s m args below meth c H locs 0 0 Q (F0 m 2 ls [])) (fun u x h hx H locs ls hw hl => ?_) H locs ls hw hl
  clear hL
  obtain ⟨v1, σ⟩ := u
  have h : b_X9_findWords_2 v1 σ = some x := h
  have hw : Wd 0 D cy ad s σ H locs := hw
  have hl : lv_has ls 4 [(0, .ref (ad (0))), (1, .int v1)] := hl
  have hP : ∀ (u : (Int32 × Mem)), (∀ (H : Heap) (locs : List Loc) (ls : Array Slot), Wd 0 D cy ad s u.2 H locs → lv_has ls 4 [(0, .ref (ad (0))), (1, .int u.1)] → W p l e R s m args below meth c H locs 0 0 Q (F0 m 2 ls [])) → ∀ (H : Heap) (locs : List Loc) (ls : Array Slot), Wd 0 D cy ad s u.2 H locs → lv_has ls 4 [(0, .ref (ad (0))), (1, .int u.1)] → W p l e R s m args below meth c H locs 0 0 Q (F0 m 2 ls []) := fun _ k => k
  unfold b_X9_findWords_2 at h
  refine lv_iload_n C.1 C.2.1 dX9_findWords_2 rfl (lv_at hl 1 rfl) ?_
  refine lv_aload_n C.1 C.2.1 dX9_findWords_3 rfl (lv_at hl 0 rfl) ?_
  refine gf_X9_173 C hw dX9_findWords_4 ?_
  refine lv_icmp_ge (tgt := 23) C.1 C.2.1 dX9_findWords_7 (by decide) (fun cd => ?_) (fun cd => ?_)
  · have h := ite_t cd h
    obtain rfl := Option.some.inj h
    exact hE0 _ hx _ _ _ hw (lv_sub hl [0] rfl)
  · have h := ite_f cd h
    refine lv_aload_n C.1 C.2.1 dX9_findWords_10 rfl (lv_at hl 0 rfl) ?_
    refine gf_X9_76 C hw dX9_findWords_11 ?_
    refine lv_iload_n C.1 C.2.1 dX9_findWords_14 rfl (lv_at hl 1 rfl) ?_
    refine lv_iconst (v := (0 : Int32)) C.1 C.2.1 dX9_findWords_15 (by decide) ?_
    obtain ⟨hin, h⟩ := gd_of h
    refine m_iast C hw a0_22 hin dX9_findWords_16 (fun H locs hw => ?_)
    obtain ⟨σ1, eσ1, h⟩ := lt_of h
    rw [← eσ1] at hw
    obtain ⟨x2, ex2, h⟩ := lt_of h
    refine m_iinc (k := 1) (lv' := [(1, .int _), (0, .ref _)]) C (1 : Int32) (by decide) dX9_findWords_17 hl rfl ex2.symm (by decide) rfl (fun ls hl => ?_)
    refine lv_goto (tgt := 2) C.1 C.2.1 dX9_findWords_20 (by decide) ?_
    obtain rfl := Option.some.inj h
    exact hP _ hx _ _ _ hw (lv_sub hl [1, 0] rfl)
set_option maxRecDepth 20000 in
theorem w_X9_findWords_25 {D : va_G} {cy : Nat → ClassId} {ad : Nat → Nat} {p : Program} {l : Launch} {e : Env} {R : Room} {s : State} {m : MethodId} {args : Array Value} {below : List Frame} {meth : Method} {c : Code} (C : Cx 0 D cy ad p R s m args meth c cX9_findWords 4 RX9 none 2)   {v1 : Int32} {σ : Mem} {Q : State → Prop} {r : Mem} (hL : Lim (T := Mem) (fun s => b_X9_findWords_25 s.1 s.2) (v1, σ) = some r) (hE0 : ∀ (σ1 : Mem), (σ1 : Mem) = r → ∀ (H : Heap) (locs : List Loc) (ls : Array Slot), Wd 0 D cy ad s σ1 H locs → lv_has ls 4 [(0, .ref (ad (0)))] → W p l e R s m args below meth c H locs 0 0 Q (F0 m 54 ls [])) (H : Heap) (locs : List Loc) (ls : Array Slot) (hw : Wd 0 D cy ad s σ H locs) (hl : lv_has ls 4 [(0, .ref (ad (0))), (1, .int v1)]) : W p l e R s m args below meth c H locs 0 0 Q (F0 m 25 ls []) := by
  refine Lim_ind hL (P := fun u => ∀ (H : Heap) (locs : List Loc) (ls : Array Slot), Wd 0 D cy ad s u.2 H locs → lv_has ls 4 [(0, .ref (ad (0))), (1, .int u.1)] → W p l e R s m args below meth c H locs 0 0 Q (F0 m 25 ls [])) (fun u x h hx H locs ls hw hl => ?_) H locs ls hw hl
  clear hL
  obtain ⟨v1, σ⟩ := u
  have h : b_X9_findWords_25 v1 σ = some x := h
  have hw : Wd 0 D cy ad s σ H locs := hw
  have hl : lv_has ls 4 [(0, .ref (ad (0))), (1, .int v1)] := hl
  have hP : ∀ (u : (Int32 × Mem)), (∀ (H : Heap) (locs : List Loc) (ls : Array Slot), Wd 0 D cy ad s u.2 H locs → lv_has ls 4 [(0, .ref (ad (0))), (1, .int u.1)] → W p l e R s m args below meth c H locs 0 0 Q (F0 m 25 ls [])) → ∀ (H : Heap) (locs : List Loc) (ls : Array Slot), Wd 0 D cy ad s u.2 H locs → lv_has ls 4 [(0, .ref (ad (0))), (1, .int u.1)] → W p l e R s m args below meth c H locs 0 0 Q (F0 m 25 ls []) := fun _ k => k
  unfold b_X9_findWords_25 at h
  refine lv_iload_n C.1 C.2.1 dX9_findWords_25 rfl (lv_at hl 1 rfl) ?_
  refine lv_iconst (v := (4 : Int32)) C.1 C.2.1 dX9_findWords_26 (by decide) ?_
  refine lv_icmp_ge (tgt := 54) C.1 C.2.1 dX9_findWords_27 (by decide) (fun cd => ?_) (fun cd => ?_)
  · have h := ite_t cd h
    obtain rfl := Option.some.inj h
    exact hE0 _ hx _ _ _ hw (lv_sub hl [0] rfl)
  · have h := ite_f cd h
    refine lv_aload_n C.1 C.2.1 dX9_findWords_30 rfl (lv_at hl 0 rfl) ?_
    refine gf_X9_82 C hw dX9_findWords_31 ?_
    refine lv_iconst (v := (0 : Int32)) C.1 C.2.1 dX9_findWords_34 (by decide) ?_
    refine lv_iload_n C.1 C.2.1 dX9_findWords_35 rfl (lv_at hl 1 rfl) ?_
    have hin : vp_in (0 : Int32) 31 := (by decide : ix (0 : Int32) 31)
    refine m_iast C hw a0_24 hin dX9_findWords_36 (fun H locs hw => ?_)
    obtain ⟨σ4, eσ4, h⟩ := lt_of h
    rw [← eσ4] at hw
    refine lv_aload_n C.1 C.2.1 dX9_findWords_37 rfl (lv_at hl 0 rfl) ?_
    refine lv_aload_n C.1 C.2.1 dX9_findWords_38 rfl (lv_at hl 0 rfl) ?_
    refine gf_X9_61 C hw dX9_findWords_39 ?_
    refine lv_iload_n C.1 C.2.1 dX9_findWords_42 rfl (lv_at hl 1 rfl) ?_
    obtain ⟨hin, h⟩ := gd_of h
    refine m_iald C hw a0_17 hin dX9_findWords_43 ?_
    refine lv_iconst (v := (1 : Int32)) C.1 C.2.1 dX9_findWords_44 (by decide) ?_
    obtain ⟨r5, h1, h⟩ := bS h
    refine go_V hw (run_V (As := [.int _, .int _]) C hw (c_X9_offer C.2.2.2.2.2.2.2.2.2 _ _ _ _ h1) mi_X9_offer mv_X9_offer o0_0 (ci := 9) rfl rfl lk_X9_203 (by decide) (by decide) rfl hl.1 rfl (Nat.le_of_ble_eq_true rfl) dX9_findWords_45 ⟨Nat.le_refl 0, Nat.le_refl 0⟩) (fun H locs hw => ?_)
    obtain ⟨x6, ex6, h⟩ := lt_of h
    refine m_iinc (k := 1) (lv' := [(1, .int _), (0, .ref _)]) C (1 : Int32) (by decide) dX9_findWords_48 hl rfl ex6.symm (by decide) rfl (fun ls hl => ?_)
    refine lv_goto (tgt := 25) C.1 C.2.1 dX9_findWords_51 (by decide) ?_
    obtain rfl := Option.some.inj h
    exact hP _ hx _ _ _ hw (lv_sub hl [1, 0] rfl)
set_option maxRecDepth 20000 in
theorem w_X9_findWords_128 {D : va_G} {cy : Nat → ClassId} {ad : Nat → Nat} {p : Program} {l : Launch} {e : Env} {R : Room} {s : State} {m : MethodId} {args : Array Value} {below : List Frame} {meth : Method} {c : Code} (C : Cx 0 D cy ad p R s m args meth c cX9_findWords 4 RX9 none 2)   {v1 : Int32} {v2 : Int32}  {σ : Mem} {H : Heap} {locs : List Loc} {ls : Array Slot} {Q : State → Prop} {P : (Int32 × Int32 × Mem) → Prop} {r : (Int32 × Mem)} {x : (Int32 × Int32 × Mem) ⊕ (Int32 × Mem)} (hx : LimQ P r x) (hP : ∀ u, P u → ∀ (H : Heap) (locs : List Loc) (ls : Array Slot), Wd 0 D cy ad s u.2.2 H locs → lv_has ls 4 [(0, .ref (ad (0))), (1, .int u.1), (2, .int u.2.1)] → W p l e R s m args below meth c H locs 0 0 Q (F0 m 64 ls [])) (hE0 : ∀ (v1 : Int32) (σ1 : Mem), ((v1, σ1) : (Int32 × Mem)) = r → ∀ (H : Heap) (locs : List Loc) (ls : Array Slot), Wd 0 D cy ad s σ1 H locs → lv_has ls 4 [(0, .ref (ad (0))), (1, .int v1)] → W p l e R s m args below meth c H locs 0 0 Q (F0 m 140 ls [])) (hw : Wd 0 D cy ad s σ H locs) (hl : lv_has ls 4 [(0, .ref (ad (0))), (1, .int v1), (2, .int v2)]) (h : j_X9_findWords_128 v1 v2 σ = some x) : W p l e R s m args below meth c H locs 0 0 Q (F0 m 128 ls []) := by
  unfold j_X9_findWords_128 at h
  refine lv_aload_n C.1 C.2.1 dX9_findWords_128 rfl (lv_at hl 0 rfl) ?_
  refine lv_iload_n C.1 C.2.1 dX9_findWords_129 rfl (lv_at hl 1 rfl) ?_
  refine lv_iload_n C.1 C.2.1 dX9_findWords_130 rfl (lv_at hl 2 rfl) ?_
  obtain ⟨r8, h1, h⟩ := bS h
  refine go_V hw (run_V (As := [.int _, .int _]) C hw (c_X9_offerTwo C.2.2.2.2.2.2.2.2.2 _ _ _ _ h1) mi_X9_offerTwo mv_X9_offerTwo o0_0 (ci := 9) rfl rfl lk_X9_206 (by decide) (by decide) rfl hl.1 rfl (Nat.le_of_ble_eq_true rfl) dX9_findWords_131 ⟨Nat.le_refl 0, Nat.le_refl 0⟩) (fun H locs hw => ?_)
  obtain ⟨x9, ex9, h⟩ := lt_of h
  refine m_iinc (k := 2) (lv' := [(2, .int _), (0, .ref _), (1, .int _)]) C (1 : Int32) (by decide) dX9_findWords_134 hl rfl ex9.symm (by decide) rfl (fun ls hl => ?_)
  refine lv_goto (tgt := 64) C.1 C.2.1 dX9_findWords_137 (by decide) ?_
  obtain rfl := Option.some.inj h
  exact hP _ hx _ _ _ hw (lv_sub hl [1, 2, 0] rfl)
set_option maxRecDepth 20000 in
theorem w_X9_findWords_86 {D : va_G} {cy : Nat → ClassId} {ad : Nat → Nat} {p : Program} {l : Launch} {e : Env} {R : Room} {s : State} {m : MethodId} {args : Array Value} {below : List Frame} {meth : Method} {c : Code} (C : Cx 0 D cy ad p R s m args meth c cX9_findWords 4 RX9 none 2)   {v1 : Int32} {v2 : Int32} {v3 : Int32} {σ : Mem} {Q : State → Prop} {r : (Int32 × Int32 × Mem)} (hL : Lim (T := (Int32 × Int32 × Mem)) (fun s => b_X9_findWords_86 s.1 s.2.1 s.2.2.1 s.2.2.2) (v1, v2, v3, σ) = some r) (hE0 : ∀ (v1 : Int32) (v2 : Int32) (σ1 : Mem), ((v1, v2, σ1) : (Int32 × Int32 × Mem)) = r → ∀ (H : Heap) (locs : List Loc) (ls : Array Slot), Wd 0 D cy ad s σ1 H locs → lv_has ls 4 [(0, .ref (ad (0))), (1, .int v1), (2, .int v2)] → W p l e R s m args below meth c H locs 0 0 Q (F0 m 128 ls [])) (H : Heap) (locs : List Loc) (ls : Array Slot) (hw : Wd 0 D cy ad s σ H locs) (hl : lv_has ls 4 [(0, .ref (ad (0))), (1, .int v1), (2, .int v2), (3, .int v3)]) : W p l e R s m args below meth c H locs 0 0 Q (F0 m 86 ls []) := by
  refine Lim_ind hL (P := fun u => ∀ (H : Heap) (locs : List Loc) (ls : Array Slot), Wd 0 D cy ad s u.2.2.2 H locs → lv_has ls 4 [(0, .ref (ad (0))), (1, .int u.1), (2, .int u.2.1), (3, .int u.2.2.1)] → W p l e R s m args below meth c H locs 0 0 Q (F0 m 86 ls [])) (fun u x h hx H locs ls hw hl => ?_) H locs ls hw hl
  clear hL
  obtain ⟨v1, v2, v3, σ⟩ := u
  have h : b_X9_findWords_86 v1 v2 v3 σ = some x := h
  have hw : Wd 0 D cy ad s σ H locs := hw
  have hl : lv_has ls 4 [(0, .ref (ad (0))), (1, .int v1), (2, .int v2), (3, .int v3)] := hl
  have hP : ∀ (u : (Int32 × Int32 × Int32 × Mem)), (∀ (H : Heap) (locs : List Loc) (ls : Array Slot), Wd 0 D cy ad s u.2.2.2 H locs → lv_has ls 4 [(0, .ref (ad (0))), (1, .int u.1), (2, .int u.2.1), (3, .int u.2.2.1)] → W p l e R s m args below meth c H locs 0 0 Q (F0 m 86 ls [])) → ∀ (H : Heap) (locs : List Loc) (ls : Array Slot), Wd 0 D cy ad s u.2.2.2 H locs → lv_has ls 4 [(0, .ref (ad (0))), (1, .int u.1), (2, .int u.2.1), (3, .int u.2.2.1)] → W p l e R s m args below meth c H locs 0 0 Q (F0 m 86 ls []) := fun _ k => k
  unfold b_X9_findWords_86 at h
  refine lv_iload_n C.1 C.2.1 dX9_findWords_86 rfl (lv_at hl 3 rfl) ?_
  refine lv_iconst (v := (2 : Int32)) C.1 C.2.1 dX9_findWords_87 (by decide) ?_
  refine lv_icmp_ge (tgt := 128) C.1 C.2.1 dX9_findWords_88 (by decide) (fun cd => ?_) (fun cd => ?_)
  · have h := ite_t cd h
    obtain rfl := Option.some.inj h
    exact hE0 _ _ _ hx _ _ _ hw (lv_sub hl [0, 1, 2] rfl)
  · have h := ite_f cd h
    refine lv_aload_n C.1 C.2.1 dX9_findWords_91 rfl (lv_at hl 0 rfl) ?_
    refine gf_X9_82 C hw dX9_findWords_92 ?_
    refine lv_iconst (v := (0 : Int32)) C.1 C.2.1 dX9_findWords_95 (by decide) ?_
    refine lv_iconst (v := (4 : Int32)) C.1 C.2.1 dX9_findWords_96 (by decide) ?_
    refine lv_iload_n C.1 C.2.1 dX9_findWords_97 rfl (lv_at hl 3 rfl) ?_
    refine lv_iadd C.1 C.2.1 dX9_findWords_98 ?_
    have hin : vp_in (0 : Int32) 31 := (by decide : ix (0 : Int32) 31)
    refine m_iast C hw a0_24 hin dX9_findWords_99 (fun H locs hw => ?_)
    obtain ⟨σ10, eσ10, h⟩ := lt_of h
    rw [← eσ10] at hw
    refine lv_aload_n C.1 C.2.1 dX9_findWords_100 rfl (lv_at hl 0 rfl) ?_
    refine lv_iconst (v := (1 : Int32)) C.1 C.2.1 dX9_findWords_101 (by decide) ?_
    refine lv_iload_n C.1 C.2.1 dX9_findWords_102 rfl (lv_at hl 2 rfl) ?_
    obtain ⟨r11, h1, h⟩ := bS h
    refine go_V hw (run_V (As := [.int _, .int _]) C hw (c_X9_put C.2.2.2.2.2.2.2.2.2 _ _ _ _ h1) mi_X9_put mv_X9_put o0_0 (ci := 9) rfl rfl lk_X9_200 (by decide) (by decide) rfl hl.1 rfl (Nat.le_of_ble_eq_true rfl) dX9_findWords_103 ⟨Nat.le_refl 0, Nat.le_refl 0⟩) (fun H locs hw => ?_)
    refine lv_aload_n C.1 C.2.1 dX9_findWords_106 rfl (lv_at hl 0 rfl) ?_
    refine lv_aload_n C.1 C.2.1 dX9_findWords_107 rfl (lv_at hl 0 rfl) ?_
    refine gf_X9_64 C hw dX9_findWords_108 ?_
    refine lv_bipush (v := (120 : Int32)) C.1 C.2.1 dX9_findWords_111 (by decide) ?_
    refine lv_iload_n C.1 C.2.1 dX9_findWords_113 rfl (lv_at hl 3 rfl) ?_
    refine lv_imul C.1 C.2.1 dX9_findWords_114 ?_
    refine lv_iload_n C.1 C.2.1 dX9_findWords_115 rfl (lv_at hl 2 rfl) ?_
    refine lv_iadd C.1 C.2.1 dX9_findWords_116 ?_
    obtain ⟨hin, h⟩ := gd_of h
    refine m_iald C hw a0_18 hin dX9_findWords_117 ?_
    refine lv_iload_n C.1 C.2.1 dX9_findWords_118 rfl (lv_at hl 1 rfl) ?_
    obtain ⟨r12, h1, h⟩ := bS h
    refine go_V hw (run_V (As := [.int _, .int _]) C hw (c_X9_offer C.2.2.2.2.2.2.2.2.2 _ _ _ _ h1) mi_X9_offer mv_X9_offer o0_0 (ci := 9) rfl rfl lk_X9_203 (by decide) (by decide) rfl hl.1 rfl (Nat.le_of_ble_eq_true rfl) dX9_findWords_119 ⟨Nat.le_refl 0, Nat.le_refl 0⟩) (fun H locs hw => ?_)
    obtain ⟨x13, ex13, h⟩ := lt_of h
    refine m_iinc (k := 3) (lv' := [(3, .int _), (0, .ref _), (1, .int _), (2, .int _)]) C (1 : Int32) (by decide) dX9_findWords_122 hl rfl ex13.symm (by decide) rfl (fun ls hl => ?_)
    refine lv_goto (tgt := 86) C.1 C.2.1 dX9_findWords_125 (by decide) ?_
    obtain rfl := Option.some.inj h
    exact hP _ hx _ _ _ hw (lv_sub hl [1, 2, 3, 0] rfl)
set_option maxRecDepth 20000 in
theorem w_X9_findWords_64 {D : va_G} {cy : Nat → ClassId} {ad : Nat → Nat} {p : Program} {l : Launch} {e : Env} {R : Room} {s : State} {m : MethodId} {args : Array Value} {below : List Frame} {meth : Method} {c : Code} (C : Cx 0 D cy ad p R s m args meth c cX9_findWords 4 RX9 none 2)   {v1 : Int32} {v2 : Int32} {σ : Mem} {Q : State → Prop} {r : (Int32 × Mem)} (hL : Lim (T := (Int32 × Mem)) (fun s => b_X9_findWords_64 s.1 s.2.1 s.2.2) (v1, v2, σ) = some r) (hE0 : ∀ (v1 : Int32) (σ1 : Mem), ((v1, σ1) : (Int32 × Mem)) = r → ∀ (H : Heap) (locs : List Loc) (ls : Array Slot), Wd 0 D cy ad s σ1 H locs → lv_has ls 4 [(0, .ref (ad (0))), (1, .int v1)] → W p l e R s m args below meth c H locs 0 0 Q (F0 m 140 ls [])) (H : Heap) (locs : List Loc) (ls : Array Slot) (hw : Wd 0 D cy ad s σ H locs) (hl : lv_has ls 4 [(0, .ref (ad (0))), (1, .int v1), (2, .int v2)]) : W p l e R s m args below meth c H locs 0 0 Q (F0 m 64 ls []) := by
  refine Lim_ind hL (P := fun u => ∀ (H : Heap) (locs : List Loc) (ls : Array Slot), Wd 0 D cy ad s u.2.2 H locs → lv_has ls 4 [(0, .ref (ad (0))), (1, .int u.1), (2, .int u.2.1)] → W p l e R s m args below meth c H locs 0 0 Q (F0 m 64 ls [])) (fun u x h hx H locs ls hw hl => ?_) H locs ls hw hl
  clear hL
  obtain ⟨v1, v2, σ⟩ := u
  have h : b_X9_findWords_64 v1 v2 σ = some x := h
  have hw : Wd 0 D cy ad s σ H locs := hw
  have hl : lv_has ls 4 [(0, .ref (ad (0))), (1, .int v1), (2, .int v2)] := hl
  have hP : ∀ (u : (Int32 × Int32 × Mem)), (∀ (H : Heap) (locs : List Loc) (ls : Array Slot), Wd 0 D cy ad s u.2.2 H locs → lv_has ls 4 [(0, .ref (ad (0))), (1, .int u.1), (2, .int u.2.1)] → W p l e R s m args below meth c H locs 0 0 Q (F0 m 64 ls [])) → ∀ (H : Heap) (locs : List Loc) (ls : Array Slot), Wd 0 D cy ad s u.2.2 H locs → lv_has ls 4 [(0, .ref (ad (0))), (1, .int u.1), (2, .int u.2.1)] → W p l e R s m args below meth c H locs 0 0 Q (F0 m 64 ls []) := fun _ k => k
  unfold b_X9_findWords_64 at h
  refine lv_iload_n C.1 C.2.1 dX9_findWords_64 rfl (lv_at hl 2 rfl) ?_
  refine lv_aload_n C.1 C.2.1 dX9_findWords_65 rfl (lv_at hl 0 rfl) ?_
  refine gf_X9_173 C hw dX9_findWords_66 ?_
  refine lv_icmp_ge (tgt := 140) C.1 C.2.1 dX9_findWords_69 (by decide) (fun cd => ?_) (fun cd => ?_)
  · have h := ite_t cd h
    obtain rfl := Option.some.inj h
    exact hE0 _ _ hx _ _ _ hw (lv_sub hl [0, 1] rfl)
  · have h := ite_f cd h
    refine lv_aload_n C.1 C.2.1 dX9_findWords_72 rfl (lv_at hl 0 rfl) ?_
    refine gf_X9_76 C hw dX9_findWords_73 ?_
    refine lv_iload_n C.1 C.2.1 dX9_findWords_76 rfl (lv_at hl 2 rfl) ?_
    obtain ⟨hin, h⟩ := gd_of h
    refine m_iald C hw a0_22 hin dX9_findWords_77 ?_
    refine lv_iload_n C.1 C.2.1 dX9_findWords_78 rfl (lv_at hl 1 rfl) ?_
    refine lv_iconst (v := (1 : Int32)) C.1 C.2.1 dX9_findWords_79 (by decide) ?_
    refine lv_isub C.1 C.2.1 dX9_findWords_80 ?_
    refine lv_icmp_ne (tgt := 128) C.1 C.2.1 dX9_findWords_81 (by decide) (fun cd => ?_) (fun cd => ?_)
    · have h := ite_f cd h
      exact w_X9_findWords_128 C hx hP hE0 hw (lv_sub hl [0, 1, 2] rfl) h
    · have h := ite_t cd h
      refine lv_iconst (v := (0 : Int32)) C.1 C.2.1 dX9_findWords_84 (by decide) ?_
      refine lv_istore_n (lv' := [(3, .int _), (0, .ref _), (1, .int _), (2, .int _)]) C.1 C.2.1 dX9_findWords_85 rfl hl (by decide) rfl (fun ls hl => ?_)
      obtain ⟨r14, hL, h⟩ := bS h
      refine w_X9_findWords_86 C  hL (fun y0 y1 y2 hr H locs ls hw hl => ?_) _ _ _ hw (lv_sub hl [1, 2, 3, 0] rfl)
      · subst hr
        try dsimp only at h
        try dsimp only at hw
        try dsimp only at hl
        exact w_X9_findWords_128 C hx hP hE0 hw (lv_sub hl [0, 1, 2] rfl) h
set_option maxRecDepth 20000 in
theorem w_X9_findWords_56 {D : va_G} {cy : Nat → ClassId} {ad : Nat → Nat} {p : Program} {l : Launch} {e : Env} {R : Room} {s : State} {m : MethodId} {args : Array Value} {below : List Frame} {meth : Method} {c : Code} (C : Cx 0 D cy ad p R s m args meth c cX9_findWords 4 RX9 none 2)   {v1 : Int32} {σ : Mem} {Q : State → Prop} {r : Mem} (hL : Lim (T := Mem) (fun s => b_X9_findWords_56 s.1 s.2) (v1, σ) = some r) (hE0 : ∀ (σ1 : Mem), (σ1 : Mem) = r → ∀ (H : Heap) (locs : List Loc) (ls : Array Slot), Wd 0 D cy ad s σ1 H locs → lv_has ls 4 [] → W p l e R s m args below meth c H locs 0 0 Q (F0 m 146 ls [])) (H : Heap) (locs : List Loc) (ls : Array Slot) (hw : Wd 0 D cy ad s σ H locs) (hl : lv_has ls 4 [(0, .ref (ad (0))), (1, .int v1)]) : W p l e R s m args below meth c H locs 0 0 Q (F0 m 56 ls []) := by
  refine Lim_ind hL (P := fun u => ∀ (H : Heap) (locs : List Loc) (ls : Array Slot), Wd 0 D cy ad s u.2 H locs → lv_has ls 4 [(0, .ref (ad (0))), (1, .int u.1)] → W p l e R s m args below meth c H locs 0 0 Q (F0 m 56 ls [])) (fun u x h hx H locs ls hw hl => ?_) H locs ls hw hl
  clear hL
  obtain ⟨v1, σ⟩ := u
  have h : b_X9_findWords_56 v1 σ = some x := h
  have hw : Wd 0 D cy ad s σ H locs := hw
  have hl : lv_has ls 4 [(0, .ref (ad (0))), (1, .int v1)] := hl
  have hP : ∀ (u : (Int32 × Mem)), (∀ (H : Heap) (locs : List Loc) (ls : Array Slot), Wd 0 D cy ad s u.2 H locs → lv_has ls 4 [(0, .ref (ad (0))), (1, .int u.1)] → W p l e R s m args below meth c H locs 0 0 Q (F0 m 56 ls [])) → ∀ (H : Heap) (locs : List Loc) (ls : Array Slot), Wd 0 D cy ad s u.2 H locs → lv_has ls 4 [(0, .ref (ad (0))), (1, .int u.1)] → W p l e R s m args below meth c H locs 0 0 Q (F0 m 56 ls []) := fun _ k => k
  unfold b_X9_findWords_56 at h
  refine lv_iload_n C.1 C.2.1 dX9_findWords_56 rfl (lv_at hl 1 rfl) ?_
  refine lv_bipush (v := (31 : Int32)) C.1 C.2.1 dX9_findWords_57 (by decide) ?_
  refine lv_icmp_gt (tgt := 146) C.1 C.2.1 dX9_findWords_59 (by decide) (fun cd => ?_) (fun cd => ?_)
  · have h := ite_t cd h
    obtain rfl := Option.some.inj h
    exact hE0 _ hx _ _ _ hw (lv_sub hl [] rfl)
  · have h := ite_f cd h
    refine lv_iconst (v := (0 : Int32)) C.1 C.2.1 dX9_findWords_62 (by decide) ?_
    refine lv_istore_n (lv' := [(2, .int _), (0, .ref _), (1, .int _)]) C.1 C.2.1 dX9_findWords_63 rfl hl (by decide) rfl (fun ls hl => ?_)
    obtain ⟨r15, hL, h⟩ := bS h
    refine w_X9_findWords_64 C  hL (fun y0 y1 hr H locs ls hw hl => ?_) _ _ _ hw (lv_sub hl [1, 2, 0] rfl)
    · subst hr
      try dsimp only at h
      try dsimp only at hw
      try dsimp only at hl
      obtain ⟨x16, ex16, h⟩ := lt_of h
      refine m_iinc (k := 1) (lv' := [(1, .int _), (0, .ref _)]) C (1 : Int32) (by decide) dX9_findWords_140 hl rfl ex16.symm (by decide) rfl (fun ls hl => ?_)
      refine lv_goto (tgt := 56) C.1 C.2.1 dX9_findWords_143 (by decide) ?_
      obtain rfl := Option.some.inj h
      exact hP _ hx _ _ _ hw (lv_sub hl [1, 0] rfl)
set_option maxRecDepth 20000 in
theorem c_X9_findWords {l : Launch} {D : va_G} {cy : Nat → ClassId} {ad : Nat → Nat} (hj : InjW 0 ad)   (σ : Mem) (r : Mem) (h : f_X9_findWords σ = some r) : CV 0 D cy ad l yX9_findWords cX9_findWords 4 none 2 [.ref (ad (0))] σ r := by
  refine CV.mk (by decide) hj (Nat.le_of_ble_eq_true rfl) (fun p e R s m below meth c ls C hw hl => ?_)
  have hl : lv_has ls 4 [(0, .ref (ad (0)))] := hl
  generalize ([.ref (ad (0))] : List Value).toArray = args at C ⊢
  have C : Cx 0 D cy ad p R s m args meth c cX9_findWords 4 RX9 none 2 := C
  unfold f_X9_findWords at h
  refine lv_iconst (v := (0 : Int32)) C.1 C.2.1 dX9_findWords_0 (by decide) ?_
  refine lv_istore_n (lv' := [(1, .int _), (0, .ref _)]) C.1 C.2.1 dX9_findWords_1 rfl hl (by decide) rfl (fun ls hl => ?_)
  obtain ⟨r3, hL, h⟩ := bS h
  refine w_X9_findWords_2 C  hL (fun y0 hr H locs ls hw hl => ?_) _ _ _ hw (lv_sub hl [1, 0] rfl)
  · subst hr
    try dsimp only at h
    try dsimp only at hw
    try dsimp only at hl
    refine lv_iconst (v := (0 : Int32)) C.1 C.2.1 dX9_findWords_23 (by decide) ?_
    refine lv_istore_n (lv' := [(1, .int _), (0, .ref _)]) C.1 C.2.1 dX9_findWords_24 rfl hl (by decide) rfl (fun ls hl => ?_)
    obtain ⟨r7, hL, h⟩ := bS h
    refine w_X9_findWords_25 C  hL (fun y0 hr H locs ls hw hl => ?_) _ _ _ hw (lv_sub hl [1, 0] rfl)
    · subst hr
      try dsimp only at h
      try dsimp only at hw
      try dsimp only at hl
      refine lv_iconst (v := (2 : Int32)) C.1 C.2.1 dX9_findWords_54 (by decide) ?_
      refine lv_istore_n (lv' := [(1, .int _), (0, .ref _)]) C.1 C.2.1 dX9_findWords_55 rfl hl (by decide) rfl (fun ls hl => ?_)
      obtain ⟨r17, hL, h⟩ := bS h
      refine w_X9_findWords_56 C  hL (fun y0 hr H locs ls hw hl => ?_) _ _ _ hw (lv_sub hl [1, 0] rfl)
      · subst hr
        try dsimp only at h
        try dsimp only at hw
        try dsimp only at hl
        exact m_vret C hw (Option.some.inj h) dX9_findWords_146
noncomputable def f_X9_isWanted (a1 : Int32) (a2 : Int32) (σ : Mem) : Option Int32 :=
  if a2 = 0 then ((f_X9_isGoodA a1 σ).bind (fun r1 => gd (r1 &&& 1 = r1) (some r1))) else ((f_X9_isGoodA a1 σ).bind (fun r2 => (f_X9_isGoodB a1 σ).bind (fun r3 => if r2 = r3 then (some (0 : Int32)) else (some (1 : Int32)))))
set_option maxRecDepth 20000 in
theorem c_X9_isWanted {l : Launch} {D : va_G} {cy : Nat → ClassId} {ad : Nat → Nat} (hj : InjW 0 ad) (a1 : Int32) (a2 : Int32)  (σ : Mem) (r : Int32) (h : f_X9_isWanted a1 a2 σ = some r) : CI 0 D cy ad l yX9_isWanted cX9_isWanted 3 (some .boolean) 1 [.ref (ad (0)), .int a1, .int a2] σ r σ := by
  refine CI.mk (by decide) hj (Nat.le_of_ble_eq_true rfl) (fun p e R s m below meth c ls C hw hl => ?_)
  have hl : lv_has ls 3 [(0, .ref (ad (0))), (1, .int a1), (2, .int a2)] := hl
  generalize ([.ref (ad (0)), .int a1, .int a2] : List Value).toArray = args at C ⊢
  have C : Cx 0 D cy ad p R s m args meth c cX9_isWanted 3 RX9 (some .boolean) 1 := C
  unfold f_X9_isWanted at h
  refine lv_iload_n C.1 C.2.1 dX9_isWanted_0 rfl (lv_at hl 2 rfl) ?_
  refine lv_if_eq (tgt := 25) C.1 C.2.1 dX9_isWanted_1 (by decide) (fun cd => ?_) (fun cd => ?_)
  · have h := ite_t cd h
    refine lv_aload_n C.1 C.2.1 dX9_isWanted_25 rfl (lv_at hl 0 rfl) ?_
    refine lv_iload_n C.1 C.2.1 dX9_isWanted_26 rfl (lv_at hl 1 rfl) ?_
    obtain ⟨r1, h1, h⟩ := bS h
    refine go_I hw (run_V (As := [.int _]) C hw (c_X9_isGoodA C.2.2.2.2.2.2.2.2.2 _ _ _ h1) mi_X9_isGoodA mv_X9_isGoodA o0_0 (ci := 9) rfl rfl lk_X9_194 (by decide) (by decide) rfl hl.1 rfl (Nat.le_of_ble_eq_true rfl) dX9_isWanted_27 ⟨Nat.le_refl 0, Nat.le_refl 0⟩) (fun H locs hw => ?_)
    obtain ⟨hz, h⟩ := gd_of h
    exact m_zret C hw hz (ret_i h) dX9_isWanted_30
  · have h := ite_f cd h
    refine lv_aload_n C.1 C.2.1 dX9_isWanted_4 rfl (lv_at hl 0 rfl) ?_
    refine lv_iload_n C.1 C.2.1 dX9_isWanted_5 rfl (lv_at hl 1 rfl) ?_
    obtain ⟨r2, h1, h⟩ := bS h
    refine go_I hw (run_V (As := [.int _]) C hw (c_X9_isGoodA C.2.2.2.2.2.2.2.2.2 _ _ _ h1) mi_X9_isGoodA mv_X9_isGoodA o0_0 (ci := 9) rfl rfl lk_X9_194 (by decide) (by decide) rfl hl.1 rfl (Nat.le_of_ble_eq_true rfl) dX9_isWanted_6 ⟨Nat.le_refl 0, Nat.le_refl 0⟩) (fun H locs hw => ?_)
    refine lv_aload_n C.1 C.2.1 dX9_isWanted_9 rfl (lv_at hl 0 rfl) ?_
    refine lv_iload_n C.1 C.2.1 dX9_isWanted_10 rfl (lv_at hl 1 rfl) ?_
    obtain ⟨r3, h1, h⟩ := bS h
    refine go_I hw (run_V (As := [.int _]) C hw (c_X9_isGoodB C.2.2.2.2.2.2.2.2.2 _ _ _ h1) mi_X9_isGoodB mv_X9_isGoodB o0_0 (ci := 9) rfl rfl lk_X9_209 (by decide) (by decide) rfl hl.1 rfl (Nat.le_of_ble_eq_true rfl) dX9_isWanted_11 ⟨Nat.le_refl 0, Nat.le_refl 0⟩) (fun H locs hw => ?_)
    refine lv_icmp_eq (tgt := 21) C.1 C.2.1 dX9_isWanted_14 (by decide) (fun cd => ?_) (fun cd => ?_)
    · have h := ite_t cd h
      refine lv_iconst (v := (0 : Int32)) C.1 C.2.1 dX9_isWanted_21 (by decide) ?_
      refine lv_goto (tgt := 30) C.1 C.2.1 dX9_isWanted_22 (by decide) ?_
      exact m_zret C hw (by decide) (ret_i h) dX9_isWanted_30
    · have h := ite_f cd h
      refine lv_iconst (v := (1 : Int32)) C.1 C.2.1 dX9_isWanted_17 (by decide) ?_
      refine lv_goto (tgt := 30) C.1 C.2.1 dX9_isWanted_18 (by decide) ?_
      exact m_zret C hw (by decide) (ret_i h) dX9_isWanted_30
noncomputable def b_X9_isLess_38 (a1 : Int32) (a2 : Int32) (v3 : Int32) (σ : Mem) : Option (Int32 ⊕ (Int32 ⊕ Unit)) :=
  gd (ix a1 120) (if (σ.1 22 a1.toNatClampNeg) ≤ v3 then (some (.inr (.inr ()))) else (gd (ix (((31 : Int32) * a1) + v3) 3720) (gd (ix (((31 : Int32) * a2) + v3) 3720) (lt ((σ.1 23 (((31 : Int32) * a1) + v3).toNatClampNeg) - (σ.1 23 (((31 : Int32) * a2) + v3).toNatClampNeg)) (fun x1 => if x1 = 0 then (lt (v3 + (1 : Int32)) (fun x2 => some (.inl x2))) else (some (.inr (.inl x1))))))))
noncomputable def f_X9_isLess (a1 : Int32) (a2 : Int32) (σ : Mem) : Option Int32 :=
  gd (ix a1 120) (gd (ix a2 120) (if (σ.1 22 a1.toNatClampNeg) = (σ.1 22 a2.toNatClampNeg) then ((Lim (T := (Int32 ⊕ Unit)) (fun s => b_X9_isLess_38 a1 a2 s σ) (0 : Int32)).bind (fun r3 => (match r3 with | .inl r3_0 => (if 0 ≤ r3_0 then (some (0 : Int32)) else (some (1 : Int32))) | .inr r3_1 => (some (0 : Int32))))) else (gd (ix a1 120) (gd (ix a2 120) (if (σ.1 22 a2.toNatClampNeg) ≤ (σ.1 22 a1.toNatClampNeg) then (some (0 : Int32)) else (some (1 : Int32)))))))
set_option maxRecDepth 20000 in
theorem w_X9_isLess_38 {D : va_G} {cy : Nat → ClassId} {ad : Nat → Nat} {p : Program} {l : Launch} {e : Env} {R : Room} {s : State} {m : MethodId} {args : Array Value} {below : List Frame} {meth : Method} {c : Code} (C : Cx 0 D cy ad p R s m args meth c cX9_isLess 5 RX9 (some .boolean) 0) {a1 : Int32} {a2 : Int32}  {v3 : Int32} {σ : Mem} {Q : State → Prop} {r : (Int32 ⊕ Unit)} (hL : Lim (T := (Int32 ⊕ Unit)) (fun s => b_X9_isLess_38 a1 a2 s σ) v3 = some r) (hE0 : ∀ (v4 : Int32), (.inl v4 : (Int32 ⊕ Unit)) = r → ∀ (H : Heap) (locs : List Loc) (ls : Array Slot), Wd 0 D cy ad s σ H locs → lv_has ls 5 [(4, .int v4)] → W p l e R s m args below meth c H locs 0 0 Q (F0 m 78 ls [])) (hE1 : (.inr () : (Int32 ⊕ Unit)) = r → ∀ (H : Heap) (locs : List Loc) (ls : Array Slot), Wd 0 D cy ad s σ H locs → lv_has ls 5 [] → W p l e R s m args below meth c H locs 0 0 Q (F0 m 95 ls [])) (H : Heap) (locs : List Loc) (ls : Array Slot) (hw : Wd 0 D cy ad s σ H locs) (hl : lv_has ls 5 [(0, .ref (ad (0))), (1, .int a1), (2, .int a2), (3, .int v3)]) : W p l e R s m args below meth c H locs 0 0 Q (F0 m 38 ls []) := by
  refine Lim_ind hL (P := fun u => ∀ (H : Heap) (locs : List Loc) (ls : Array Slot), Wd 0 D cy ad s σ H locs → lv_has ls 5 [(0, .ref (ad (0))), (1, .int a1), (2, .int a2), (3, .int u)] → W p l e R s m args below meth c H locs 0 0 Q (F0 m 38 ls [])) (fun u x h hx H locs ls hw hl => ?_) H locs ls hw hl
  clear hL
  obtain ⟨v3, rfl⟩ : ∃ z, z = u := ⟨u, rfl⟩
  have h : b_X9_isLess_38 a1 a2 v3 σ = some x := h
  have hw : Wd 0 D cy ad s σ H locs := hw
  have hl : lv_has ls 5 [(0, .ref (ad (0))), (1, .int a1), (2, .int a2), (3, .int v3)] := hl
  have hP : ∀ (u : Int32), (∀ (H : Heap) (locs : List Loc) (ls : Array Slot), Wd 0 D cy ad s σ H locs → lv_has ls 5 [(0, .ref (ad (0))), (1, .int a1), (2, .int a2), (3, .int u)] → W p l e R s m args below meth c H locs 0 0 Q (F0 m 38 ls [])) → ∀ (H : Heap) (locs : List Loc) (ls : Array Slot), Wd 0 D cy ad s σ H locs → lv_has ls 5 [(0, .ref (ad (0))), (1, .int a1), (2, .int a2), (3, .int u)] → W p l e R s m args below meth c H locs 0 0 Q (F0 m 38 ls []) := fun _ k => k
  unfold b_X9_isLess_38 at h
  refine lv_iload_n C.1 C.2.1 dX9_isLess_38 rfl (lv_at hl 3 rfl) ?_
  refine lv_aload_n C.1 C.2.1 dX9_isLess_39 rfl (lv_at hl 0 rfl) ?_
  refine gf_X9_76 C hw dX9_isLess_40 ?_
  refine lv_iload_n C.1 C.2.1 dX9_isLess_43 rfl (lv_at hl 1 rfl) ?_
  obtain ⟨hin, h⟩ := gd_of h
  refine m_iald C hw a0_22 hin dX9_isLess_44 ?_
  refine lv_icmp_ge (tgt := 95) C.1 C.2.1 dX9_isLess_45 (by decide) (fun cd => ?_) (fun cd => ?_)
  · have h := ite_t cd h
    obtain rfl := Option.some.inj h
    exact hE1  hx _ _ _ hw (lv_sub hl [] rfl)
  · have h := ite_f cd h
    refine lv_aload_n C.1 C.2.1 dX9_isLess_48 rfl (lv_at hl 0 rfl) ?_
    refine gf_X9_79 C hw dX9_isLess_49 ?_
    refine lv_bipush (v := (31 : Int32)) C.1 C.2.1 dX9_isLess_52 (by decide) ?_
    refine lv_iload_n C.1 C.2.1 dX9_isLess_54 rfl (lv_at hl 1 rfl) ?_
    refine lv_imul C.1 C.2.1 dX9_isLess_55 ?_
    refine lv_iload_n C.1 C.2.1 dX9_isLess_56 rfl (lv_at hl 3 rfl) ?_
    refine lv_iadd C.1 C.2.1 dX9_isLess_57 ?_
    obtain ⟨hin, h⟩ := gd_of h
    refine m_iald C hw a0_23 hin dX9_isLess_58 ?_
    refine lv_aload_n C.1 C.2.1 dX9_isLess_59 rfl (lv_at hl 0 rfl) ?_
    refine gf_X9_79 C hw dX9_isLess_60 ?_
    refine lv_bipush (v := (31 : Int32)) C.1 C.2.1 dX9_isLess_63 (by decide) ?_
    refine lv_iload_n C.1 C.2.1 dX9_isLess_65 rfl (lv_at hl 2 rfl) ?_
    refine lv_imul C.1 C.2.1 dX9_isLess_66 ?_
    refine lv_iload_n C.1 C.2.1 dX9_isLess_67 rfl (lv_at hl 3 rfl) ?_
    refine lv_iadd C.1 C.2.1 dX9_isLess_68 ?_
    obtain ⟨hin, h⟩ := gd_of h
    refine m_iald C hw a0_23 hin dX9_isLess_69 ?_
    refine lv_isub C.1 C.2.1 dX9_isLess_70 ?_
    obtain ⟨x1, ex1, h⟩ := lt_of h
    refine m_topi ex1 ?_
    refine lv_istore (lv' := [(4, .int _), (0, .ref _), (1, .int _), (2, .int _), (3, .int _)]) C.1 C.2.1 dX9_isLess_71 hl (by decide) rfl (fun ls hl => ?_)
    refine lv_iload C.1 C.2.1 dX9_isLess_73 (lv_at hl 0 rfl) ?_
    refine lv_if_eq (tgt := 89) C.1 C.2.1 dX9_isLess_75 (by decide) (fun cd => ?_) (fun cd => ?_)
    · have h := ite_t cd h
      obtain ⟨x2, ex2, h⟩ := lt_of h
      refine m_iinc (k := 4) (lv' := [(3, .int _), (4, .int _), (0, .ref _), (1, .int _), (2, .int _)]) C (1 : Int32) (by decide) dX9_isLess_89 hl rfl ex2.symm (by decide) rfl (fun ls hl => ?_)
      refine lv_goto (tgt := 38) C.1 C.2.1 dX9_isLess_92 (by decide) ?_
      obtain rfl := Option.some.inj h
      exact hP _ hx _ _ _ hw (lv_sub hl [2, 3, 4, 0] rfl)
    · have h := ite_f cd h
      obtain rfl := Option.some.inj h
      exact hE0 _ hx _ _ _ hw (lv_sub hl [0] rfl)
set_option maxRecDepth 20000 in
theorem c_X9_isLess {l : Launch} {D : va_G} {cy : Nat → ClassId} {ad : Nat → Nat} (hj : InjW 0 ad) (a1 : Int32) (a2 : Int32)  (σ : Mem) (r : Int32) (h : f_X9_isLess a1 a2 σ = some r) : CI 0 D cy ad l yX9_isLess cX9_isLess 5 (some .boolean) 0 [.ref (ad (0)), .int a1, .int a2] σ r σ := by
  refine CI.mk (by decide) hj (Nat.le_of_ble_eq_true rfl) (fun p e R s m below meth c ls C hw hl => ?_)
  have hl : lv_has ls 5 [(0, .ref (ad (0))), (1, .int a1), (2, .int a2)] := hl
  generalize ([.ref (ad (0)), .int a1, .int a2] : List Value).toArray = args at C ⊢
  have C : Cx 0 D cy ad p R s m args meth c cX9_isLess 5 RX9 (some .boolean) 0 := C
  unfold f_X9_isLess at h
  refine lv_aload_n C.1 C.2.1 dX9_isLess_0 rfl (lv_at hl 0 rfl) ?_
  refine gf_X9_76 C hw dX9_isLess_1 ?_
  refine lv_iload_n C.1 C.2.1 dX9_isLess_4 rfl (lv_at hl 1 rfl) ?_
  obtain ⟨hin, h⟩ := gd_of h
  refine m_iald C hw a0_22 hin dX9_isLess_5 ?_
  refine lv_aload_n C.1 C.2.1 dX9_isLess_6 rfl (lv_at hl 0 rfl) ?_
  refine gf_X9_76 C hw dX9_isLess_7 ?_
  refine lv_iload_n C.1 C.2.1 dX9_isLess_10 rfl (lv_at hl 2 rfl) ?_
  obtain ⟨hin, h⟩ := gd_of h
  refine m_iald C hw a0_22 hin dX9_isLess_11 ?_
  refine lv_icmp_eq (tgt := 36) C.1 C.2.1 dX9_isLess_12 (by decide) (fun cd => ?_) (fun cd => ?_)
  · have h := ite_t cd h
    refine lv_iconst (v := (0 : Int32)) C.1 C.2.1 dX9_isLess_36 (by decide) ?_
    refine lv_istore_n (lv' := [(3, .int _), (0, .ref _), (1, .int _), (2, .int _)]) C.1 C.2.1 dX9_isLess_37 rfl hl (by decide) rfl (fun ls hl => ?_)
    obtain ⟨r3, hL, h⟩ := bS h
    refine w_X9_isLess_38 C  hL (fun y0 hr H locs ls hw hl => ?_) (fun  hr H locs ls hw hl => ?_) _ _ _ hw (lv_sub hl [1, 2, 3, 0] rfl)
    · subst hr
      try dsimp only at h
      try dsimp only at hw
      try dsimp only at hl
      refine lv_iload C.1 C.2.1 dX9_isLess_78 (lv_at hl 0 rfl) ?_
      refine lv_if_ge (tgt := 87) C.1 C.2.1 dX9_isLess_80 (by decide) (fun cd => ?_) (fun cd => ?_)
      · have h := ite_t cd h
        refine lv_iconst (v := (0 : Int32)) C.1 C.2.1 dX9_isLess_87 (by decide) ?_
        exact m_zret C hw (by decide) (ret_i h) dX9_isLess_88
      · have h := ite_f cd h
        refine lv_iconst (v := (1 : Int32)) C.1 C.2.1 dX9_isLess_83 (by decide) ?_
        refine lv_goto (tgt := 88) C.1 C.2.1 dX9_isLess_84 (by decide) ?_
        exact m_zret C hw (by decide) (ret_i h) dX9_isLess_88
    · subst hr
      try dsimp only at h
      try dsimp only at hw
      try dsimp only at hl
      refine lv_iconst (v := (0 : Int32)) C.1 C.2.1 dX9_isLess_95 (by decide) ?_
      exact m_zret C hw (by decide) (ret_i h) dX9_isLess_96
  · have h := ite_f cd h
    refine lv_aload_n C.1 C.2.1 dX9_isLess_15 rfl (lv_at hl 0 rfl) ?_
    refine gf_X9_76 C hw dX9_isLess_16 ?_
    refine lv_iload_n C.1 C.2.1 dX9_isLess_19 rfl (lv_at hl 1 rfl) ?_
    obtain ⟨hin, h⟩ := gd_of h
    refine m_iald C hw a0_22 hin dX9_isLess_20 ?_
    refine lv_aload_n C.1 C.2.1 dX9_isLess_21 rfl (lv_at hl 0 rfl) ?_
    refine gf_X9_76 C hw dX9_isLess_22 ?_
    refine lv_iload_n C.1 C.2.1 dX9_isLess_25 rfl (lv_at hl 2 rfl) ?_
    obtain ⟨hin, h⟩ := gd_of h
    refine m_iald C hw a0_22 hin dX9_isLess_26 ?_
    refine lv_icmp_ge (tgt := 34) C.1 C.2.1 dX9_isLess_27 (by decide) (fun cd => ?_) (fun cd => ?_)
    · have h := ite_t cd h
      refine lv_iconst (v := (0 : Int32)) C.1 C.2.1 dX9_isLess_34 (by decide) ?_
      exact m_zret C hw (by decide) (ret_i h) dX9_isLess_35
    · have h := ite_f cd h
      refine lv_iconst (v := (1 : Int32)) C.1 C.2.1 dX9_isLess_30 (by decide) ?_
      refine lv_goto (tgt := 35) C.1 C.2.1 dX9_isLess_31 (by decide) ?_
      exact m_zret C hw (by decide) (ret_i h) dX9_isLess_35
noncomputable def j_X9_leastOf_52 (a1 : Int32) (v2 : Int32) (v3 : Int32) (σ : Mem) : Option ((Int32 × Int32) ⊕ Int32) :=
  lt (v3 + (1 : Int32)) (fun x2 => some (.inl (v2, x2)))
noncomputable def j_X9_leastOf_50 (a1 : Int32) (v3 : Int32) (σ : Mem) : Option ((Int32 × Int32) ⊕ Int32) :=
  j_X9_leastOf_52 a1 v3 v3 σ
noncomputable def b_X9_leastOf_9 (a1 : Int32) (v2 : Int32) (v3 : Int32) (σ : Mem) : Option ((Int32 × Int32) ⊕ Int32) :=
  if (σ.1 0 22) ≤ v3 then (some (.inr v2)) else (gd (ix v3 120) (if (σ.1 22 v3.toNatClampNeg) ≤ 0 then (j_X9_leastOf_52 a1 v2 v3 σ) else ((f_X9_isWanted v3 a1 σ).bind (fun r3 => if r3 = 0 then (j_X9_leastOf_52 a1 v2 v3 σ) else (if v2 = (-9 : Int32) then (j_X9_leastOf_50 a1 v3 σ) else ((f_X9_isLess v3 v2 σ).bind (fun r4 => if r4 = 0 then (j_X9_leastOf_52 a1 v2 v3 σ) else (j_X9_leastOf_50 a1 v3 σ))))))))
noncomputable def f_X9_leastOf (a1 : Int32) (σ : Mem) : Option (Int32 × Mem) :=
  (f_X9_findWords σ).bind (fun r1 => (Lim (T := Int32) (fun s => b_X9_leastOf_9 a1 s.1 s.2 r1) ((-9 : Int32), (0 : Int32))).bind (fun r5 => some (r5, r1)))
set_option maxRecDepth 20000 in
theorem w_X9_leastOf_52 {D : va_G} {cy : Nat → ClassId} {ad : Nat → Nat} {p : Program} {l : Launch} {e : Env} {R : Room} {s : State} {m : MethodId} {args : Array Value} {below : List Frame} {meth : Method} {c : Code} (C : Cx 0 D cy ad p R s m args meth c cX9_leastOf 4 RX9 (some .int) 3) {a1 : Int32}  {v2 : Int32} {v3 : Int32}  {σ : Mem} {H : Heap} {locs : List Loc} {ls : Array Slot} {Q : State → Prop} {P : (Int32 × Int32) → Prop} {r : Int32} {x : (Int32 × Int32) ⊕ Int32} (hx : LimQ P r x) (hP : ∀ u, P u → ∀ (H : Heap) (locs : List Loc) (ls : Array Slot), Wd 0 D cy ad s σ H locs → lv_has ls 4 [(0, .ref (ad (0))), (1, .int a1), (2, .int u.1), (3, .int u.2)] → W p l e R s m args below meth c H locs 0 0 Q (F0 m 9 ls [])) (hE0 : ∀ (v2 : Int32), (v2 : Int32) = r → ∀ (H : Heap) (locs : List Loc) (ls : Array Slot), Wd 0 D cy ad s σ H locs → lv_has ls 4 [(2, .int v2)] → W p l e R s m args below meth c H locs 0 0 Q (F0 m 58 ls [])) (hw : Wd 0 D cy ad s σ H locs) (hl : lv_has ls 4 [(0, .ref (ad (0))), (1, .int a1), (2, .int v2), (3, .int v3)]) (h : j_X9_leastOf_52 a1 v2 v3 σ = some x) : W p l e R s m args below meth c H locs 0 0 Q (F0 m 52 ls []) := by
  unfold j_X9_leastOf_52 at h
  obtain ⟨x2, ex2, h⟩ := lt_of h
  refine m_iinc (k := 3) (lv' := [(3, .int _), (0, .ref _), (1, .int _), (2, .int _)]) C (1 : Int32) (by decide) dX9_leastOf_52 hl rfl ex2.symm (by decide) rfl (fun ls hl => ?_)
  refine lv_goto (tgt := 9) C.1 C.2.1 dX9_leastOf_55 (by decide) ?_
  obtain rfl := Option.some.inj h
  exact hP _ hx _ _ _ hw (lv_sub hl [1, 2, 3, 0] rfl)
set_option maxRecDepth 20000 in
theorem w_X9_leastOf_50 {D : va_G} {cy : Nat → ClassId} {ad : Nat → Nat} {p : Program} {l : Launch} {e : Env} {R : Room} {s : State} {m : MethodId} {args : Array Value} {below : List Frame} {meth : Method} {c : Code} (C : Cx 0 D cy ad p R s m args meth c cX9_leastOf 4 RX9 (some .int) 3) {a1 : Int32}  {v3 : Int32}  {σ : Mem} {H : Heap} {locs : List Loc} {ls : Array Slot} {Q : State → Prop} {P : (Int32 × Int32) → Prop} {r : Int32} {x : (Int32 × Int32) ⊕ Int32} (hx : LimQ P r x) (hP : ∀ u, P u → ∀ (H : Heap) (locs : List Loc) (ls : Array Slot), Wd 0 D cy ad s σ H locs → lv_has ls 4 [(0, .ref (ad (0))), (1, .int a1), (2, .int u.1), (3, .int u.2)] → W p l e R s m args below meth c H locs 0 0 Q (F0 m 9 ls [])) (hE0 : ∀ (v2 : Int32), (v2 : Int32) = r → ∀ (H : Heap) (locs : List Loc) (ls : Array Slot), Wd 0 D cy ad s σ H locs → lv_has ls 4 [(2, .int v2)] → W p l e R s m args below meth c H locs 0 0 Q (F0 m 58 ls [])) (hw : Wd 0 D cy ad s σ H locs) (hl : lv_has ls 4 [(0, .ref (ad (0))), (1, .int a1), (3, .int v3)]) (h : j_X9_leastOf_50 a1 v3 σ = some x) : W p l e R s m args below meth c H locs 0 0 Q (F0 m 50 ls []) := by
  unfold j_X9_leastOf_50 at h
  refine lv_iload_n C.1 C.2.1 dX9_leastOf_50 rfl (lv_at hl 2 rfl) ?_
  refine lv_istore_n (lv' := [(2, .int _), (0, .ref _), (1, .int _), (3, .int _)]) C.1 C.2.1 dX9_leastOf_51 rfl hl (by decide) rfl (fun ls hl => ?_)
  exact w_X9_leastOf_52 C hx hP hE0 hw (lv_sub hl [1, 2, 0, 3] rfl) h
set_option maxRecDepth 20000 in
theorem w_X9_leastOf_9 {D : va_G} {cy : Nat → ClassId} {ad : Nat → Nat} {p : Program} {l : Launch} {e : Env} {R : Room} {s : State} {m : MethodId} {args : Array Value} {below : List Frame} {meth : Method} {c : Code} (C : Cx 0 D cy ad p R s m args meth c cX9_leastOf 4 RX9 (some .int) 3) {a1 : Int32}  {v2 : Int32} {v3 : Int32} {σ : Mem} {Q : State → Prop} {r : Int32} (hL : Lim (T := Int32) (fun s => b_X9_leastOf_9 a1 s.1 s.2 σ) (v2, v3) = some r) (hE0 : ∀ (v2 : Int32), (v2 : Int32) = r → ∀ (H : Heap) (locs : List Loc) (ls : Array Slot), Wd 0 D cy ad s σ H locs → lv_has ls 4 [(2, .int v2)] → W p l e R s m args below meth c H locs 0 0 Q (F0 m 58 ls [])) (H : Heap) (locs : List Loc) (ls : Array Slot) (hw : Wd 0 D cy ad s σ H locs) (hl : lv_has ls 4 [(0, .ref (ad (0))), (1, .int a1), (2, .int v2), (3, .int v3)]) : W p l e R s m args below meth c H locs 0 0 Q (F0 m 9 ls []) := by
  refine Lim_ind hL (P := fun u => ∀ (H : Heap) (locs : List Loc) (ls : Array Slot), Wd 0 D cy ad s σ H locs → lv_has ls 4 [(0, .ref (ad (0))), (1, .int a1), (2, .int u.1), (3, .int u.2)] → W p l e R s m args below meth c H locs 0 0 Q (F0 m 9 ls [])) (fun u x h hx H locs ls hw hl => ?_) H locs ls hw hl
  clear hL
  obtain ⟨v2, v3⟩ := u
  have h : b_X9_leastOf_9 a1 v2 v3 σ = some x := h
  have hw : Wd 0 D cy ad s σ H locs := hw
  have hl : lv_has ls 4 [(0, .ref (ad (0))), (1, .int a1), (2, .int v2), (3, .int v3)] := hl
  have hP : ∀ (u : (Int32 × Int32)), (∀ (H : Heap) (locs : List Loc) (ls : Array Slot), Wd 0 D cy ad s σ H locs → lv_has ls 4 [(0, .ref (ad (0))), (1, .int a1), (2, .int u.1), (3, .int u.2)] → W p l e R s m args below meth c H locs 0 0 Q (F0 m 9 ls [])) → ∀ (H : Heap) (locs : List Loc) (ls : Array Slot), Wd 0 D cy ad s σ H locs → lv_has ls 4 [(0, .ref (ad (0))), (1, .int a1), (2, .int u.1), (3, .int u.2)] → W p l e R s m args below meth c H locs 0 0 Q (F0 m 9 ls []) := fun _ k => k
  unfold b_X9_leastOf_9 at h
  refine lv_iload_n C.1 C.2.1 dX9_leastOf_9 rfl (lv_at hl 3 rfl) ?_
  refine lv_aload_n C.1 C.2.1 dX9_leastOf_10 rfl (lv_at hl 0 rfl) ?_
  refine gf_X9_173 C hw dX9_leastOf_11 ?_
  refine lv_icmp_ge (tgt := 58) C.1 C.2.1 dX9_leastOf_14 (by decide) (fun cd => ?_) (fun cd => ?_)
  · have h := ite_t cd h
    obtain rfl := Option.some.inj h
    exact hE0 _ hx _ _ _ hw (lv_sub hl [2] rfl)
  · have h := ite_f cd h
    refine lv_aload_n C.1 C.2.1 dX9_leastOf_17 rfl (lv_at hl 0 rfl) ?_
    refine gf_X9_76 C hw dX9_leastOf_18 ?_
    refine lv_iload_n C.1 C.2.1 dX9_leastOf_21 rfl (lv_at hl 3 rfl) ?_
    obtain ⟨hin, h⟩ := gd_of h
    refine m_iald C hw a0_22 hin dX9_leastOf_22 ?_
    refine lv_if_le (tgt := 52) C.1 C.2.1 dX9_leastOf_23 (by decide) (fun cd => ?_) (fun cd => ?_)
    · have h := ite_t cd h
      exact w_X9_leastOf_52 C hx hP hE0 hw (lv_sub hl [0, 1, 2, 3] rfl) h
    · have h := ite_f cd h
      refine lv_aload_n C.1 C.2.1 dX9_leastOf_26 rfl (lv_at hl 0 rfl) ?_
      refine lv_iload_n C.1 C.2.1 dX9_leastOf_27 rfl (lv_at hl 3 rfl) ?_
      refine lv_iload_n C.1 C.2.1 dX9_leastOf_28 rfl (lv_at hl 1 rfl) ?_
      obtain ⟨r3, h1, h⟩ := bS h
      refine go_I hw (run_V (As := [.int _, .int _]) C hw (c_X9_isWanted C.2.2.2.2.2.2.2.2.2 _ _ _ _ h1) mi_X9_isWanted mv_X9_isWanted o0_0 (ci := 9) rfl rfl lk_X9_215 (by decide) (by decide) rfl hl.1 rfl (Nat.le_of_ble_eq_true rfl) dX9_leastOf_29 ⟨Nat.le_refl 0, Nat.le_refl 0⟩) (fun H locs hw => ?_)
      refine lv_if_eq (tgt := 52) C.1 C.2.1 dX9_leastOf_32 (by decide) (fun cd => ?_) (fun cd => ?_)
      · have h := ite_t cd h
        exact w_X9_leastOf_52 C hx hP hE0 hw (lv_sub hl [0, 1, 2, 3] rfl) h
      · have h := ite_f cd h
        refine lv_iload_n C.1 C.2.1 dX9_leastOf_35 rfl (lv_at hl 2 rfl) ?_
        refine lv_bipush (v := (-9 : Int32)) C.1 C.2.1 dX9_leastOf_36 (by decide) ?_
        refine lv_icmp_eq (tgt := 50) C.1 C.2.1 dX9_leastOf_38 (by decide) (fun cd => ?_) (fun cd => ?_)
        · have h := ite_t cd h
          exact w_X9_leastOf_50 C hx hP hE0 hw (lv_sub hl [0, 1, 3] rfl) h
        · have h := ite_f cd h
          refine lv_aload_n C.1 C.2.1 dX9_leastOf_41 rfl (lv_at hl 0 rfl) ?_
          refine lv_iload_n C.1 C.2.1 dX9_leastOf_42 rfl (lv_at hl 3 rfl) ?_
          refine lv_iload_n C.1 C.2.1 dX9_leastOf_43 rfl (lv_at hl 2 rfl) ?_
          obtain ⟨r4, h1, h⟩ := bS h
          refine go_I hw (run_V (As := [.int _, .int _]) C hw (c_X9_isLess C.2.2.2.2.2.2.2.2.2 _ _ _ _ h1) mi_X9_isLess mv_X9_isLess o0_0 (ci := 9) rfl rfl lk_X9_219 (by decide) (by decide) rfl hl.1 rfl (Nat.le_of_ble_eq_true rfl) dX9_leastOf_44 ⟨Nat.le_refl 0, Nat.le_refl 0⟩) (fun H locs hw => ?_)
          refine lv_if_eq (tgt := 52) C.1 C.2.1 dX9_leastOf_47 (by decide) (fun cd => ?_) (fun cd => ?_)
          · have h := ite_t cd h
            exact w_X9_leastOf_52 C hx hP hE0 hw (lv_sub hl [0, 1, 2, 3] rfl) h
          · have h := ite_f cd h
            exact w_X9_leastOf_50 C hx hP hE0 hw (lv_sub hl [0, 1, 3] rfl) h
set_option maxRecDepth 20000 in
theorem c_X9_leastOf {l : Launch} {D : va_G} {cy : Nat → ClassId} {ad : Nat → Nat} (hj : InjW 0 ad) (a1 : Int32)  (σ : Mem) (r : (Int32 × Mem)) (h : f_X9_leastOf a1 σ = some r) : CI 0 D cy ad l yX9_leastOf cX9_leastOf 4 (some .int) 3 [.ref (ad (0)), .int a1] σ r.1 r.2 := by
  refine CI.mk (by decide) hj (Nat.le_of_ble_eq_true rfl) (fun p e R s m below meth c ls C hw hl => ?_)
  have hl : lv_has ls 4 [(0, .ref (ad (0))), (1, .int a1)] := hl
  generalize ([.ref (ad (0)), .int a1] : List Value).toArray = args at C ⊢
  have C : Cx 0 D cy ad p R s m args meth c cX9_leastOf 4 RX9 (some .int) 3 := C
  unfold f_X9_leastOf at h
  refine lv_aload_n C.1 C.2.1 dX9_leastOf_0 rfl (lv_at hl 0 rfl) ?_
  obtain ⟨r1, h1, h⟩ := bS h
  refine go_V hw (run_V (As := []) C hw (c_X9_findWords C.2.2.2.2.2.2.2.2.2 _ _ h1) mi_X9_findWords mv_X9_findWords o0_0 (ci := 9) rfl rfl lk_X9_212 (by decide) (by decide) rfl hl.1 rfl (Nat.le_of_ble_eq_true rfl) dX9_leastOf_1 ⟨Nat.le_refl 0, Nat.le_refl 0⟩) (fun H locs hw => ?_)
  refine lv_bipush (v := (-9 : Int32)) C.1 C.2.1 dX9_leastOf_4 (by decide) ?_
  refine lv_istore_n (lv' := [(2, .int _), (0, .ref _), (1, .int _)]) C.1 C.2.1 dX9_leastOf_6 rfl hl (by decide) rfl (fun ls hl => ?_)
  refine lv_iconst (v := (0 : Int32)) C.1 C.2.1 dX9_leastOf_7 (by decide) ?_
  refine lv_istore_n (lv' := [(3, .int _), (2, .int _), (0, .ref _), (1, .int _)]) C.1 C.2.1 dX9_leastOf_8 rfl hl (by decide) rfl (fun ls hl => ?_)
  obtain ⟨r5, hL, h⟩ := bS h
  refine w_X9_leastOf_9 C  hL (fun y0 hr H locs ls hw hl => ?_) _ _ _ hw (lv_sub hl [2, 3, 1, 0] rfl)
  · subst hr
    try dsimp only at h
    try dsimp only at hw
    try dsimp only at hl
    refine lv_iload_n C.1 C.2.1 dX9_leastOf_58 rfl (lv_at hl 0 rfl) ?_
    exact m_iret C hw (ret_p h) dX9_leastOf_59
noncomputable def f_X9_toldOf (a1 : Int32) (a2 : Int32) (σ : Mem) : Option Int32 :=
  if a1 = (-9 : Int32) then (some (-9 : Int32)) else (if 0 ≤ a2 then (gd (ix a1 120) (if (σ.1 22 a1.toNatClampNeg) ≤ a2 then (some (-5 : Int32)) else (gd (ix (((31 : Int32) * a1) + a2) 3720) (some (σ.1 23 (((31 : Int32) * a1) + a2).toNatClampNeg))))) else (gd (ix a1 120) (some (σ.1 22 a1.toNatClampNeg))))
set_option maxRecDepth 20000 in
theorem c_X9_toldOf {l : Launch} {D : va_G} {cy : Nat → ClassId} {ad : Nat → Nat} (hj : InjW 0 ad) (a1 : Int32) (a2 : Int32)  (σ : Mem) (r : Int32) (h : f_X9_toldOf a1 a2 σ = some r) : CI 0 D cy ad l yX9_toldOf cX9_toldOf 3 (some .int) 0 [.ref (ad (0)), .int a1, .int a2] σ r σ := by
  refine CI.mk (by decide) hj (Nat.le_of_ble_eq_true rfl) (fun p e R s m below meth c ls C hw hl => ?_)
  have hl : lv_has ls 3 [(0, .ref (ad (0))), (1, .int a1), (2, .int a2)] := hl
  generalize ([.ref (ad (0)), .int a1, .int a2] : List Value).toArray = args at C ⊢
  have C : Cx 0 D cy ad p R s m args meth c cX9_toldOf 3 RX9 (some .int) 0 := C
  unfold f_X9_toldOf at h
  refine lv_iload_n C.1 C.2.1 dX9_toldOf_0 rfl (lv_at hl 1 rfl) ?_
  refine lv_bipush (v := (-9 : Int32)) C.1 C.2.1 dX9_toldOf_1 (by decide) ?_
  refine lv_icmp_ne (tgt := 11) C.1 C.2.1 dX9_toldOf_3 (by decide) (fun cd => ?_) (fun cd => ?_)
  · have h := ite_f cd h
    refine lv_iload_n C.1 C.2.1 dX9_toldOf_11 rfl (lv_at hl 2 rfl) ?_
    refine lv_if_ge (tgt := 24) C.1 C.2.1 dX9_toldOf_12 (by decide) (fun cd => ?_) (fun cd => ?_)
    · have h := ite_t cd h
      refine lv_iload_n C.1 C.2.1 dX9_toldOf_24 rfl (lv_at hl 2 rfl) ?_
      refine lv_aload_n C.1 C.2.1 dX9_toldOf_25 rfl (lv_at hl 0 rfl) ?_
      refine gf_X9_76 C hw dX9_toldOf_26 ?_
      refine lv_iload_n C.1 C.2.1 dX9_toldOf_29 rfl (lv_at hl 1 rfl) ?_
      obtain ⟨hin, h⟩ := gd_of h
      refine m_iald C hw a0_22 hin dX9_toldOf_30 ?_
      refine lv_icmp_ge (tgt := 48) C.1 C.2.1 dX9_toldOf_31 (by decide) (fun cd => ?_) (fun cd => ?_)
      · have h := ite_t cd h
        refine lv_bipush (v := (-5 : Int32)) C.1 C.2.1 dX9_toldOf_48 (by decide) ?_
        exact m_iret C hw (ret_i h) dX9_toldOf_50
      · have h := ite_f cd h
        refine lv_aload_n C.1 C.2.1 dX9_toldOf_34 rfl (lv_at hl 0 rfl) ?_
        refine gf_X9_79 C hw dX9_toldOf_35 ?_
        refine lv_bipush (v := (31 : Int32)) C.1 C.2.1 dX9_toldOf_38 (by decide) ?_
        refine lv_iload_n C.1 C.2.1 dX9_toldOf_40 rfl (lv_at hl 1 rfl) ?_
        refine lv_imul C.1 C.2.1 dX9_toldOf_41 ?_
        refine lv_iload_n C.1 C.2.1 dX9_toldOf_42 rfl (lv_at hl 2 rfl) ?_
        refine lv_iadd C.1 C.2.1 dX9_toldOf_43 ?_
        obtain ⟨hin, h⟩ := gd_of h
        refine m_iald C hw a0_23 hin dX9_toldOf_44 ?_
        refine lv_goto (tgt := 50) C.1 C.2.1 dX9_toldOf_45 (by decide) ?_
        exact m_iret C hw (ret_i h) dX9_toldOf_50
    · have h := ite_f cd h
      refine lv_aload_n C.1 C.2.1 dX9_toldOf_15 rfl (lv_at hl 0 rfl) ?_
      refine gf_X9_76 C hw dX9_toldOf_16 ?_
      refine lv_iload_n C.1 C.2.1 dX9_toldOf_19 rfl (lv_at hl 1 rfl) ?_
      obtain ⟨hin, h⟩ := gd_of h
      refine m_iald C hw a0_22 hin dX9_toldOf_20 ?_
      refine lv_goto (tgt := 50) C.1 C.2.1 dX9_toldOf_21 (by decide) ?_
      exact m_iret C hw (ret_i h) dX9_toldOf_50
  · have h := ite_t cd h
    refine lv_bipush (v := (-9 : Int32)) C.1 C.2.1 dX9_toldOf_6 (by decide) ?_
    refine lv_goto (tgt := 50) C.1 C.2.1 dX9_toldOf_8 (by decide) ?_
    exact m_iret C hw (ret_i h) dX9_toldOf_50
noncomputable def f_X9_least (a1 : Int32) (σ : Mem) : Option (Int32 × Mem) :=
  if (-1 : Int32) ≤ a1 then ((f_X9_findOwn σ).bind (fun r1 => (f_X9_leastOf (0 : Int32) r1).bind (fun r2 => (f_X9_toldOf r2.1 a1 r2.2).bind (fun r3 => some (r3, r2.2))))) else (some ((-1 : Int32), σ))
set_option maxRecDepth 20000 in
theorem c_X9_least {l : Launch} {D : va_G} {cy : Nat → ClassId} {ad : Nat → Nat} (hj : InjW 0 ad) (a1 : Int32)  (σ : Mem) (r : (Int32 × Mem)) (h : f_X9_least a1 σ = some r) : CI 0 D cy ad l yX9_least cX9_least 2 (some .int) 5 [.ref (ad (0)), .int a1] σ r.1 r.2 := by
  refine CI.mk (by decide) hj (Nat.le_of_ble_eq_true rfl) (fun p e R s m below meth c ls C hw hl => ?_)
  have hl : lv_has ls 2 [(0, .ref (ad (0))), (1, .int a1)] := hl
  generalize ([.ref (ad (0)), .int a1] : List Value).toArray = args at C ⊢
  have C : Cx 0 D cy ad p R s m args meth c cX9_least 2 RX9 (some .int) 5 := C
  unfold f_X9_least at h
  refine lv_iload_n C.1 C.2.1 dX9_least_0 rfl (lv_at hl 1 rfl) ?_
  refine lv_iconst (v := (-1 : Int32)) C.1 C.2.1 dX9_least_1 (by decide) ?_
  refine lv_icmp_ge (tgt := 7) C.1 C.2.1 dX9_least_2 (by decide) (fun cd => ?_) (fun cd => ?_)
  · have h := ite_t cd h
    refine lv_aload_n C.1 C.2.1 dX9_least_7 rfl (lv_at hl 0 rfl) ?_
    obtain ⟨r1, h1, h⟩ := bS h
    refine go_V hw (run_V (As := []) C hw (c_X9_findOwn C.2.2.2.2.2.2.2.2.2 _ _ h1) mi_X9_findOwn mv_X9_findOwn o0_0 (ci := 9) rfl rfl lk_X9_191 (by decide) (by decide) rfl hl.1 rfl (Nat.le_of_ble_eq_true rfl) dX9_least_8 ⟨Nat.le_refl 0, Nat.le_refl 0⟩) (fun H locs hw => ?_)
    refine lv_aload_n C.1 C.2.1 dX9_least_11 rfl (lv_at hl 0 rfl) ?_
    refine lv_aload_n C.1 C.2.1 dX9_least_12 rfl (lv_at hl 0 rfl) ?_
    refine lv_iconst (v := (0 : Int32)) C.1 C.2.1 dX9_least_13 (by decide) ?_
    obtain ⟨r2, h1, h⟩ := bS h
    refine go_I hw (run_V (As := [.int _]) C hw (c_X9_leastOf C.2.2.2.2.2.2.2.2.2 _ _ _ h1) mi_X9_leastOf mv_X9_leastOf o0_0 (ci := 9) rfl rfl lk_X9_222 (by decide) (by decide) rfl hl.1 rfl (Nat.le_of_ble_eq_true rfl) dX9_least_14 ⟨Nat.le_refl 0, Nat.le_refl 0⟩) (fun H locs hw => ?_)
    refine lv_iload_n C.1 C.2.1 dX9_least_17 rfl (lv_at hl 1 rfl) ?_
    obtain ⟨r3, h1, h⟩ := bS h
    refine go_I hw (run_V (As := [.int _, .int _]) C hw (c_X9_toldOf C.2.2.2.2.2.2.2.2.2 _ _ _ _ h1) mi_X9_toldOf mv_X9_toldOf o0_0 (ci := 9) rfl rfl lk_X9_225 (by decide) (by decide) rfl hl.1 rfl (Nat.le_of_ble_eq_true rfl) dX9_least_18 ⟨Nat.le_refl 0, Nat.le_refl 0⟩) (fun H locs hw => ?_)
    exact m_iret C hw (ret_p h) dX9_least_21
  · have h := ite_f cd h
    refine lv_iconst (v := (-1 : Int32)) C.1 C.2.1 dX9_least_5 (by decide) ?_
    exact m_iret C hw (ret_p h) dX9_least_6
noncomputable def b_X9_addTwo_16 (a1 : Int32) (a2 : Int32) (a3 : Int32) (a4 : Int32) (v5 : Int64) (v7 : Int32) (σ : Mem) : Option ((Int64 × Int32 × Mem) ⊕ Mem) :=
  if (σ.1 0 22) ≤ v7 then (some (.inr σ)) else (if (lg_cmp v5 (0 : Int64)) ≤ 0 then (some (.inr σ)) else (gd (ix ((((14400 : Int32) * a4) + ((120 : Int32) * a3)) + v7) 28800) (gd (ix (((120 : Int32) * a1) + (σ.1 19 ((((14400 : Int32) * a4) + ((120 : Int32) * a3)) + v7).toNatClampNeg)) 1920) (gd (ix (((120 : Int32) * ((a1 - (1 : Int32)) - a2)) + v7) 1920) (gd (ix (((120 : Int32) * a1) + (σ.1 19 ((((14400 : Int32) * a4) + ((120 : Int32) * a3)) + v7).toNatClampNeg)) 1920) (lt (sJ σ 25 (((120 : Int32) * a1) + (σ.1 19 ((((14400 : Int32) * a4) + ((120 : Int32) * a3)) + v7).toNatClampNeg)).toNatClampNeg ((σ.2.1 25 (((120 : Int32) * a1) + (σ.1 19 ((((14400 : Int32) * a4) + ((120 : Int32) * a3)) + v7).toNatClampNeg)).toNatClampNeg) + (v5 * (σ.2.1 25 (((120 : Int32) * ((a1 - (1 : Int32)) - a2)) + v7).toNatClampNeg)))) (fun σ2 => lt (v7 + (1 : Int32)) (fun x3 => some (.inl (v5, x3, σ2))))))))))
noncomputable def f_X9_addTwo (a1 : Int32) (a2 : Int32) (a3 : Int32) (a4 : Int32) (σ : Mem) : Option Mem :=
  gd (ix (((120 : Int32) * a2) + a3) 1920) (lt (σ.2.1 25 (((120 : Int32) * a2) + a3).toNatClampNeg) (fun x1 => (Lim (T := Mem) (fun s => b_X9_addTwo_16 a1 a2 a3 a4 s.1 s.2.1 s.2.2) (x1, (0 : Int32), σ)).bind (fun r4 => some r4)))
set_option maxRecDepth 20000 in
theorem w_X9_addTwo_16 {D : va_G} {cy : Nat → ClassId} {ad : Nat → Nat} {p : Program} {l : Launch} {e : Env} {R : Room} {s : State} {m : MethodId} {args : Array Value} {below : List Frame} {meth : Method} {c : Code} (C : Cx 0 D cy ad p R s m args meth c cX9_addTwo 8 RX9 none 0) {a1 : Int32} {a2 : Int32} {a3 : Int32} {a4 : Int32}  {v5 : Int64} {v7 : Int32} {σ : Mem} {Q : State → Prop} {r : Mem} (hL : Lim (T := Mem) (fun s => b_X9_addTwo_16 a1 a2 a3 a4 s.1 s.2.1 s.2.2) (v5, v7, σ) = some r) (hE0 : ∀ (σ1 : Mem), (σ1 : Mem) = r → ∀ (H : Heap) (locs : List Loc) (ls : Array Slot), Wd 0 D cy ad s σ1 H locs → lv_has ls 8 [] → W p l e R s m args below meth c H locs 0 0 Q (F0 m 89 ls [])) (H : Heap) (locs : List Loc) (ls : Array Slot) (hw : Wd 0 D cy ad s σ H locs) (hl : lv_has ls 8 [(0, .ref (ad (0))), (1, .int a1), (2, .int a2), (3, .int a3), (4, .int a4), (5, .long v5), (7, .int v7)]) : W p l e R s m args below meth c H locs 0 0 Q (F0 m 16 ls []) := by
  refine Lim_ind hL (P := fun u => ∀ (H : Heap) (locs : List Loc) (ls : Array Slot), Wd 0 D cy ad s u.2.2 H locs → lv_has ls 8 [(0, .ref (ad (0))), (1, .int a1), (2, .int a2), (3, .int a3), (4, .int a4), (5, .long u.1), (7, .int u.2.1)] → W p l e R s m args below meth c H locs 0 0 Q (F0 m 16 ls [])) (fun u x h hx H locs ls hw hl => ?_) H locs ls hw hl
  clear hL
  obtain ⟨v5, v7, σ⟩ := u
  have h : b_X9_addTwo_16 a1 a2 a3 a4 v5 v7 σ = some x := h
  have hw : Wd 0 D cy ad s σ H locs := hw
  have hl : lv_has ls 8 [(0, .ref (ad (0))), (1, .int a1), (2, .int a2), (3, .int a3), (4, .int a4), (5, .long v5), (7, .int v7)] := hl
  have hP : ∀ (u : (Int64 × Int32 × Mem)), (∀ (H : Heap) (locs : List Loc) (ls : Array Slot), Wd 0 D cy ad s u.2.2 H locs → lv_has ls 8 [(0, .ref (ad (0))), (1, .int a1), (2, .int a2), (3, .int a3), (4, .int a4), (5, .long u.1), (7, .int u.2.1)] → W p l e R s m args below meth c H locs 0 0 Q (F0 m 16 ls [])) → ∀ (H : Heap) (locs : List Loc) (ls : Array Slot), Wd 0 D cy ad s u.2.2 H locs → lv_has ls 8 [(0, .ref (ad (0))), (1, .int a1), (2, .int a2), (3, .int a3), (4, .int a4), (5, .long u.1), (7, .int u.2.1)] → W p l e R s m args below meth c H locs 0 0 Q (F0 m 16 ls []) := fun _ k => k
  unfold b_X9_addTwo_16 at h
  refine lv_iload C.1 C.2.1 dX9_addTwo_16 (lv_at hl 6 rfl) ?_
  refine lv_aload_n C.1 C.2.1 dX9_addTwo_18 rfl (lv_at hl 0 rfl) ?_
  refine gf_X9_173 C hw dX9_addTwo_19 ?_
  refine lv_icmp_ge (tgt := 89) C.1 C.2.1 dX9_addTwo_22 (by decide) (fun cd => ?_) (fun cd => ?_)
  · have h := ite_t cd h
    obtain rfl := Option.some.inj h
    exact hE0 _ hx _ _ _ hw (lv_sub hl [] rfl)
  · have h := ite_f cd h
    refine lv_lload C.1 C.2.1 dX9_addTwo_25 (lv_at hl 5 rfl) ?_
    refine lv_lconst (v := (0 : Int64)) C.1 C.2.1 dX9_addTwo_27 (by decide) ?_
    refine W.lcmp C.1 C.2.1 dX9_addTwo_28 ?_
    refine lv_if_le (tgt := 89) C.1 C.2.1 dX9_addTwo_29 (by decide) (fun cd => ?_) (fun cd => ?_)
    · have h := ite_t cd h
      obtain rfl := Option.some.inj h
      exact hE0 _ hx _ _ _ hw (lv_sub hl [] rfl)
    · have h := ite_f cd h
      refine lv_aload_n C.1 C.2.1 dX9_addTwo_32 rfl (lv_at hl 0 rfl) ?_
      refine gf_X9_85 C hw dX9_addTwo_33 ?_
      refine lv_bipush (v := (120 : Int32)) C.1 C.2.1 dX9_addTwo_36 (by decide) ?_
      refine lv_iload_n C.1 C.2.1 dX9_addTwo_38 rfl (lv_at hl 1 rfl) ?_
      refine lv_imul C.1 C.2.1 dX9_addTwo_39 ?_
      refine lv_aload_n C.1 C.2.1 dX9_addTwo_40 rfl (lv_at hl 0 rfl) ?_
      refine gf_X9_67 C hw dX9_addTwo_41 ?_
      refine lv_sipush (v := (14400 : Int32)) C.1 C.2.1 dX9_addTwo_44 (by decide) ?_
      refine lv_iload C.1 C.2.1 dX9_addTwo_47 (lv_at hl 4 rfl) ?_
      refine lv_imul C.1 C.2.1 dX9_addTwo_49 ?_
      refine lv_bipush (v := (120 : Int32)) C.1 C.2.1 dX9_addTwo_50 (by decide) ?_
      refine lv_iload_n C.1 C.2.1 dX9_addTwo_52 rfl (lv_at hl 3 rfl) ?_
      refine lv_imul C.1 C.2.1 dX9_addTwo_53 ?_
      refine lv_iadd C.1 C.2.1 dX9_addTwo_54 ?_
      refine lv_iload C.1 C.2.1 dX9_addTwo_55 (lv_at hl 6 rfl) ?_
      refine lv_iadd C.1 C.2.1 dX9_addTwo_57 ?_
      obtain ⟨hin, h⟩ := gd_of h
      refine m_iald C hw a0_19 hin dX9_addTwo_58 ?_
      refine lv_iadd C.1 C.2.1 dX9_addTwo_59 ?_
      refine lv_dup2_11 C.1 C.2.1 dX9_addTwo_60 rfl rfl ?_
      obtain ⟨hin, h⟩ := gd_of h
      refine m_lald C hw a0_25 hin dX9_addTwo_61 ?_
      refine lv_lload C.1 C.2.1 dX9_addTwo_62 (lv_at hl 5 rfl) ?_
      refine lv_aload_n C.1 C.2.1 dX9_addTwo_64 rfl (lv_at hl 0 rfl) ?_
      refine gf_X9_85 C hw dX9_addTwo_65 ?_
      refine lv_bipush (v := (120 : Int32)) C.1 C.2.1 dX9_addTwo_68 (by decide) ?_
      refine lv_iload_n C.1 C.2.1 dX9_addTwo_70 rfl (lv_at hl 1 rfl) ?_
      refine lv_iconst (v := (1 : Int32)) C.1 C.2.1 dX9_addTwo_71 (by decide) ?_
      refine lv_isub C.1 C.2.1 dX9_addTwo_72 ?_
      refine lv_iload_n C.1 C.2.1 dX9_addTwo_73 rfl (lv_at hl 2 rfl) ?_
      refine lv_isub C.1 C.2.1 dX9_addTwo_74 ?_
      refine lv_imul C.1 C.2.1 dX9_addTwo_75 ?_
      refine lv_iload C.1 C.2.1 dX9_addTwo_76 (lv_at hl 6 rfl) ?_
      refine lv_iadd C.1 C.2.1 dX9_addTwo_78 ?_
      obtain ⟨hin, h⟩ := gd_of h
      refine m_lald C hw a0_25 hin dX9_addTwo_79 ?_
      refine lv_lmul C.1 C.2.1 dX9_addTwo_80 ?_
      refine lv_ladd C.1 C.2.1 dX9_addTwo_81 ?_
      obtain ⟨hin, h⟩ := gd_of h
      refine m_last C hw a0_25 hin dX9_addTwo_82 (fun H locs hw => ?_)
      obtain ⟨σ2, eσ2, h⟩ := lt_of h
      rw [← eσ2] at hw
      obtain ⟨x3, ex3, h⟩ := lt_of h
      refine m_iinc (k := 6) (lv' := [(7, .int _), (0, .ref _), (1, .int _), (2, .int _), (3, .int _), (4, .int _), (5, .long _)]) C (1 : Int32) (by decide) dX9_addTwo_83 hl rfl ex3.symm (by decide) rfl (fun ls hl => ?_)
      refine lv_goto (tgt := 16) C.1 C.2.1 dX9_addTwo_86 (by decide) ?_
      obtain rfl := Option.some.inj h
      exact hP _ hx _ _ _ hw (lv_sub hl [1, 2, 3, 4, 5, 6, 0] rfl)
set_option maxRecDepth 20000 in
theorem c_X9_addTwo {l : Launch} {D : va_G} {cy : Nat → ClassId} {ad : Nat → Nat} (hj : InjW 0 ad) (a1 : Int32) (a2 : Int32) (a3 : Int32) (a4 : Int32)  (σ : Mem) (r : Mem) (h : f_X9_addTwo a1 a2 a3 a4 σ = some r) : CV 0 D cy ad l yX9_addTwo cX9_addTwo 8 none 0 [.ref (ad (0)), .int a1, .int a2, .int a3, .int a4] σ r := by
  refine CV.mk (by decide) hj (Nat.le_of_ble_eq_true rfl) (fun p e R s m below meth c ls C hw hl => ?_)
  have hl : lv_has ls 8 [(0, .ref (ad (0))), (1, .int a1), (2, .int a2), (3, .int a3), (4, .int a4)] := hl
  generalize ([.ref (ad (0)), .int a1, .int a2, .int a3, .int a4] : List Value).toArray = args at C ⊢
  have C : Cx 0 D cy ad p R s m args meth c cX9_addTwo 8 RX9 none 0 := C
  unfold f_X9_addTwo at h
  refine lv_aload_n C.1 C.2.1 dX9_addTwo_0 rfl (lv_at hl 0 rfl) ?_
  refine gf_X9_85 C hw dX9_addTwo_1 ?_
  refine lv_bipush (v := (120 : Int32)) C.1 C.2.1 dX9_addTwo_4 (by decide) ?_
  refine lv_iload_n C.1 C.2.1 dX9_addTwo_6 rfl (lv_at hl 2 rfl) ?_
  refine lv_imul C.1 C.2.1 dX9_addTwo_7 ?_
  refine lv_iload_n C.1 C.2.1 dX9_addTwo_8 rfl (lv_at hl 3 rfl) ?_
  refine lv_iadd C.1 C.2.1 dX9_addTwo_9 ?_
  obtain ⟨hin, h⟩ := gd_of h
  refine m_lald C hw a0_25 hin dX9_addTwo_10 ?_
  obtain ⟨x1, ex1, h⟩ := lt_of h
  refine m_topl ex1 ?_
  refine lv_lstore (lv' := [(5, .long _), (0, .ref _), (1, .int _), (2, .int _), (3, .int _), (4, .int _)]) C.1 C.2.1 dX9_addTwo_11 hl (by decide) rfl (fun ls hl => ?_)
  refine lv_iconst (v := (0 : Int32)) C.1 C.2.1 dX9_addTwo_13 (by decide) ?_
  refine lv_istore (lv' := [(7, .int _), (5, .long _), (0, .ref _), (1, .int _), (2, .int _), (3, .int _), (4, .int _)]) C.1 C.2.1 dX9_addTwo_14 hl (by decide) rfl (fun ls hl => ?_)
  obtain ⟨r4, hL, h⟩ := bS h
  refine w_X9_addTwo_16 C  hL (fun y0 hr H locs ls hw hl => ?_) _ _ _ hw (lv_sub hl [2, 3, 4, 5, 6, 1, 0] rfl)
  · subst hr
    try dsimp only at h
    try dsimp only at hw
    try dsimp only at hl
    exact m_vret C hw (Option.some.inj h) dX9_addTwo_89
noncomputable def b_X9_findTrees_2 (a1 : Int32) (v2 : Int32) (σ : Mem) : Option ((Int32 × Mem) ⊕ Mem) :=
  if (1920 : Int32) ≤ v2 then (some (.inr σ)) else (gd (ix v2 1920) (lt (sJ σ 25 v2.toNatClampNeg (0 : Int64)) (fun σ1 => lt (v2 + (1 : Int32)) (fun x2 => some (.inl (x2, σ1))))))
noncomputable def b_X9_findTrees_24 (a1 : Int32) (v2 : Int32) (σ : Mem) : Option ((Int32 × Mem) ⊕ Mem) :=
  if (4 : Int32) ≤ v2 then (some (.inr σ)) else (gd (ix v2 4) (gd (ix ((120 : Int32) + (σ.1 17 v2.toNatClampNeg)) 1920) (gd (ix ((120 : Int32) + (σ.1 17 v2.toNatClampNeg)) 1920) (lt (sJ σ 25 ((120 : Int32) + (σ.1 17 v2.toNatClampNeg)).toNatClampNeg ((σ.2.1 25 ((120 : Int32) + (σ.1 17 v2.toNatClampNeg)).toNatClampNeg) + (1 : Int64))) (fun σ4 => lt (v2 + (1 : Int32)) (fun x5 => some (.inl (x5, σ4))))))))
noncomputable def b_X9_findTrees_120 (a1 : Int32) (v2 : Int32) (v3 : Int32) (v4 : Int32) (v5 : Int32) (σ : Mem) : Option ((Int32 × Int32 × Int32 × Int32 × Mem) ⊕ (Int32 × Int32 × Int32 × Mem)) :=
  if (v2 - (1 : Int32)) ≤ v5 then (some (.inr (v2, v3, v4, σ))) else ((f_X9_addTwo v2 v5 v3 v4 σ).bind (fun r8 => lt (v5 + (1 : Int32)) (fun x9 => some (.inl (v2, v3, v4, x9, r8)))))
noncomputable def b_X9_findTrees_73 (a1 : Int32) (v2 : Int32) (v3 : Int32) (v4 : Int32) (σ : Mem) : Option ((Int32 × Int32 × Int32 × Mem) ⊕ (Int32 × Int32 × Mem)) :=
  if (2 : Int32) ≤ v4 then (some (.inr (v2, v3, σ))) else (gd (ix (((120 : Int32) * v4) + v3) 240) (gd (ix (((120 : Int32) * v2) + (σ.1 18 (((120 : Int32) * v4) + v3).toNatClampNeg)) 1920) (gd (ix (((120 : Int32) * (v2 - (1 : Int32))) + v3) 1920) (gd (ix (((120 : Int32) * v2) + (σ.1 18 (((120 : Int32) * v4) + v3).toNatClampNeg)) 1920) (lt (sJ σ 25 (((120 : Int32) * v2) + (σ.1 18 (((120 : Int32) * v4) + v3).toNatClampNeg)).toNatClampNeg ((σ.2.1 25 (((120 : Int32) * v2) + (σ.1 18 (((120 : Int32) * v4) + v3).toNatClampNeg)).toNatClampNeg) + (σ.2.1 25 (((120 : Int32) * (v2 - (1 : Int32))) + v3).toNatClampNeg))) (fun σ7 => (Lim (T := (Int32 × Int32 × Int32 × Mem)) (fun s => b_X9_findTrees_120 a1 s.1 s.2.1 s.2.2.1 s.2.2.2.1 s.2.2.2.2) (v2, v3, v4, (1 : Int32), σ7)).bind (fun r10 => lt (r10.2.2.1 + (1 : Int32)) (fun x11 => some (.inl (r10.1, r10.2.1, x11, r10.2.2.2))))))))))
noncomputable def b_X9_findTrees_62 (a1 : Int32) (v2 : Int32) (v3 : Int32) (σ : Mem) : Option ((Int32 × Int32 × Mem) ⊕ (Int32 × Mem)) :=
  if (σ.1 0 22) ≤ v3 then (some (.inr (v2, σ))) else ((Lim (T := (Int32 × Int32 × Mem)) (fun s => b_X9_findTrees_73 a1 s.1 s.2.1 s.2.2.1 s.2.2.2) (v2, v3, (0 : Int32), σ)).bind (fun r12 => lt (r12.2.1 + (1 : Int32)) (fun x13 => some (.inl (r12.1, x13, r12.2.2)))))
noncomputable def b_X9_findTrees_55 (a1 : Int32) (v2 : Int32) (σ : Mem) : Option ((Int32 × Mem) ⊕ Mem) :=
  if a1 < v2 then (some (.inr σ)) else ((Lim (T := (Int32 × Mem)) (fun s => b_X9_findTrees_62 a1 s.1 s.2.1 s.2.2) (v2, (0 : Int32), σ)).bind (fun r14 => lt (r14.1 + (1 : Int32)) (fun x15 => some (.inl (x15, r14.2)))))
noncomputable def f_X9_findTrees (a1 : Int32) (σ : Mem) : Option Mem :=
  (Lim (T := Mem) (fun s => b_X9_findTrees_2 a1 s.1 s.2) ((0 : Int32), σ)).bind (fun r3 => (Lim (T := Mem) (fun s => b_X9_findTrees_24 a1 s.1 s.2) ((0 : Int32), r3)).bind (fun r6 => (Lim (T := Mem) (fun s => b_X9_findTrees_55 a1 s.1 s.2) ((2 : Int32), r6)).bind (fun r16 => some r16)))
set_option maxRecDepth 20000 in
theorem w_X9_findTrees_2 {D : va_G} {cy : Nat → ClassId} {ad : Nat → Nat} {p : Program} {l : Launch} {e : Env} {R : Room} {s : State} {m : MethodId} {args : Array Value} {below : List Frame} {meth : Method} {c : Code} (C : Cx 0 D cy ad p R s m args meth c cX9_findTrees 6 RX9 none 1) {a1 : Int32}  {v2 : Int32} {σ : Mem} {Q : State → Prop} {r : Mem} (hL : Lim (T := Mem) (fun s => b_X9_findTrees_2 a1 s.1 s.2) (v2, σ) = some r) (hE0 : ∀ (σ1 : Mem), (σ1 : Mem) = r → ∀ (H : Heap) (locs : List Loc) (ls : Array Slot), Wd 0 D cy ad s σ1 H locs → lv_has ls 6 [(0, .ref (ad (0))), (1, .int a1)] → W p l e R s m args below meth c H locs 0 0 Q (F0 m 22 ls [])) (H : Heap) (locs : List Loc) (ls : Array Slot) (hw : Wd 0 D cy ad s σ H locs) (hl : lv_has ls 6 [(0, .ref (ad (0))), (1, .int a1), (2, .int v2)]) : W p l e R s m args below meth c H locs 0 0 Q (F0 m 2 ls []) := by
  refine Lim_ind hL (P := fun u => ∀ (H : Heap) (locs : List Loc) (ls : Array Slot), Wd 0 D cy ad s u.2 H locs → lv_has ls 6 [(0, .ref (ad (0))), (1, .int a1), (2, .int u.1)] → W p l e R s m args below meth c H locs 0 0 Q (F0 m 2 ls [])) (fun u x h hx H locs ls hw hl => ?_) H locs ls hw hl
  clear hL
  obtain ⟨v2, σ⟩ := u
  have h : b_X9_findTrees_2 a1 v2 σ = some x := h
  have hw : Wd 0 D cy ad s σ H locs := hw
  have hl : lv_has ls 6 [(0, .ref (ad (0))), (1, .int a1), (2, .int v2)] := hl
  have hP : ∀ (u : (Int32 × Mem)), (∀ (H : Heap) (locs : List Loc) (ls : Array Slot), Wd 0 D cy ad s u.2 H locs → lv_has ls 6 [(0, .ref (ad (0))), (1, .int a1), (2, .int u.1)] → W p l e R s m args below meth c H locs 0 0 Q (F0 m 2 ls [])) → ∀ (H : Heap) (locs : List Loc) (ls : Array Slot), Wd 0 D cy ad s u.2 H locs → lv_has ls 6 [(0, .ref (ad (0))), (1, .int a1), (2, .int u.1)] → W p l e R s m args below meth c H locs 0 0 Q (F0 m 2 ls []) := fun _ k => k
  unfold b_X9_findTrees_2 at h
  refine lv_iload_n C.1 C.2.1 dX9_findTrees_2 rfl (lv_at hl 2 rfl) ?_
  refine lv_sipush (v := (1920 : Int32)) C.1 C.2.1 dX9_findTrees_3 (by decide) ?_
  refine lv_icmp_ge (tgt := 22) C.1 C.2.1 dX9_findTrees_6 (by decide) (fun cd => ?_) (fun cd => ?_)
  · have h := ite_t cd h
    obtain rfl := Option.some.inj h
    exact hE0 _ hx _ _ _ hw (lv_sub hl [0, 1] rfl)
  · have h := ite_f cd h
    refine lv_aload_n C.1 C.2.1 dX9_findTrees_9 rfl (lv_at hl 0 rfl) ?_
    refine gf_X9_85 C hw dX9_findTrees_10 ?_
    refine lv_iload_n C.1 C.2.1 dX9_findTrees_13 rfl (lv_at hl 2 rfl) ?_
    refine lv_lconst (v := (0 : Int64)) C.1 C.2.1 dX9_findTrees_14 (by decide) ?_
    obtain ⟨hin, h⟩ := gd_of h
    refine m_last C hw a0_25 hin dX9_findTrees_15 (fun H locs hw => ?_)
    obtain ⟨σ1, eσ1, h⟩ := lt_of h
    rw [← eσ1] at hw
    obtain ⟨x2, ex2, h⟩ := lt_of h
    refine m_iinc (k := 2) (lv' := [(2, .int _), (0, .ref _), (1, .int _)]) C (1 : Int32) (by decide) dX9_findTrees_16 hl rfl ex2.symm (by decide) rfl (fun ls hl => ?_)
    refine lv_goto (tgt := 2) C.1 C.2.1 dX9_findTrees_19 (by decide) ?_
    obtain rfl := Option.some.inj h
    exact hP _ hx _ _ _ hw (lv_sub hl [1, 2, 0] rfl)
set_option maxRecDepth 20000 in
theorem w_X9_findTrees_24 {D : va_G} {cy : Nat → ClassId} {ad : Nat → Nat} {p : Program} {l : Launch} {e : Env} {R : Room} {s : State} {m : MethodId} {args : Array Value} {below : List Frame} {meth : Method} {c : Code} (C : Cx 0 D cy ad p R s m args meth c cX9_findTrees 6 RX9 none 1) {a1 : Int32}  {v2 : Int32} {σ : Mem} {Q : State → Prop} {r : Mem} (hL : Lim (T := Mem) (fun s => b_X9_findTrees_24 a1 s.1 s.2) (v2, σ) = some r) (hE0 : ∀ (σ1 : Mem), (σ1 : Mem) = r → ∀ (H : Heap) (locs : List Loc) (ls : Array Slot), Wd 0 D cy ad s σ1 H locs → lv_has ls 6 [(0, .ref (ad (0))), (1, .int a1)] → W p l e R s m args below meth c H locs 0 0 Q (F0 m 53 ls [])) (H : Heap) (locs : List Loc) (ls : Array Slot) (hw : Wd 0 D cy ad s σ H locs) (hl : lv_has ls 6 [(0, .ref (ad (0))), (1, .int a1), (2, .int v2)]) : W p l e R s m args below meth c H locs 0 0 Q (F0 m 24 ls []) := by
  refine Lim_ind hL (P := fun u => ∀ (H : Heap) (locs : List Loc) (ls : Array Slot), Wd 0 D cy ad s u.2 H locs → lv_has ls 6 [(0, .ref (ad (0))), (1, .int a1), (2, .int u.1)] → W p l e R s m args below meth c H locs 0 0 Q (F0 m 24 ls [])) (fun u x h hx H locs ls hw hl => ?_) H locs ls hw hl
  clear hL
  obtain ⟨v2, σ⟩ := u
  have h : b_X9_findTrees_24 a1 v2 σ = some x := h
  have hw : Wd 0 D cy ad s σ H locs := hw
  have hl : lv_has ls 6 [(0, .ref (ad (0))), (1, .int a1), (2, .int v2)] := hl
  have hP : ∀ (u : (Int32 × Mem)), (∀ (H : Heap) (locs : List Loc) (ls : Array Slot), Wd 0 D cy ad s u.2 H locs → lv_has ls 6 [(0, .ref (ad (0))), (1, .int a1), (2, .int u.1)] → W p l e R s m args below meth c H locs 0 0 Q (F0 m 24 ls [])) → ∀ (H : Heap) (locs : List Loc) (ls : Array Slot), Wd 0 D cy ad s u.2 H locs → lv_has ls 6 [(0, .ref (ad (0))), (1, .int a1), (2, .int u.1)] → W p l e R s m args below meth c H locs 0 0 Q (F0 m 24 ls []) := fun _ k => k
  unfold b_X9_findTrees_24 at h
  refine lv_iload_n C.1 C.2.1 dX9_findTrees_24 rfl (lv_at hl 2 rfl) ?_
  refine lv_iconst (v := (4 : Int32)) C.1 C.2.1 dX9_findTrees_25 (by decide) ?_
  refine lv_icmp_ge (tgt := 53) C.1 C.2.1 dX9_findTrees_26 (by decide) (fun cd => ?_) (fun cd => ?_)
  · have h := ite_t cd h
    obtain rfl := Option.some.inj h
    exact hE0 _ hx _ _ _ hw (lv_sub hl [0, 1] rfl)
  · have h := ite_f cd h
    refine lv_aload_n C.1 C.2.1 dX9_findTrees_29 rfl (lv_at hl 0 rfl) ?_
    refine gf_X9_85 C hw dX9_findTrees_30 ?_
    refine lv_bipush (v := (120 : Int32)) C.1 C.2.1 dX9_findTrees_33 (by decide) ?_
    refine lv_aload_n C.1 C.2.1 dX9_findTrees_35 rfl (lv_at hl 0 rfl) ?_
    refine gf_X9_61 C hw dX9_findTrees_36 ?_
    refine lv_iload_n C.1 C.2.1 dX9_findTrees_39 rfl (lv_at hl 2 rfl) ?_
    obtain ⟨hin, h⟩ := gd_of h
    refine m_iald C hw a0_17 hin dX9_findTrees_40 ?_
    refine lv_iadd C.1 C.2.1 dX9_findTrees_41 ?_
    refine lv_dup2_11 C.1 C.2.1 dX9_findTrees_42 rfl rfl ?_
    obtain ⟨hin, h⟩ := gd_of h
    refine m_lald C hw a0_25 hin dX9_findTrees_43 ?_
    refine lv_lconst (v := (1 : Int64)) C.1 C.2.1 dX9_findTrees_44 (by decide) ?_
    refine lv_ladd C.1 C.2.1 dX9_findTrees_45 ?_
    obtain ⟨hin, h⟩ := gd_of h
    refine m_last C hw a0_25 hin dX9_findTrees_46 (fun H locs hw => ?_)
    obtain ⟨σ4, eσ4, h⟩ := lt_of h
    rw [← eσ4] at hw
    obtain ⟨x5, ex5, h⟩ := lt_of h
    refine m_iinc (k := 2) (lv' := [(2, .int _), (0, .ref _), (1, .int _)]) C (1 : Int32) (by decide) dX9_findTrees_47 hl rfl ex5.symm (by decide) rfl (fun ls hl => ?_)
    refine lv_goto (tgt := 24) C.1 C.2.1 dX9_findTrees_50 (by decide) ?_
    obtain rfl := Option.some.inj h
    exact hP _ hx _ _ _ hw (lv_sub hl [1, 2, 0] rfl)
set_option maxRecDepth 20000 in
theorem w_X9_findTrees_120 {D : va_G} {cy : Nat → ClassId} {ad : Nat → Nat} {p : Program} {l : Launch} {e : Env} {R : Room} {s : State} {m : MethodId} {args : Array Value} {below : List Frame} {meth : Method} {c : Code} (C : Cx 0 D cy ad p R s m args meth c cX9_findTrees 6 RX9 none 1) {a1 : Int32}  {v2 : Int32} {v3 : Int32} {v4 : Int32} {v5 : Int32} {σ : Mem} {Q : State → Prop} {r : (Int32 × Int32 × Int32 × Mem)} (hL : Lim (T := (Int32 × Int32 × Int32 × Mem)) (fun s => b_X9_findTrees_120 a1 s.1 s.2.1 s.2.2.1 s.2.2.2.1 s.2.2.2.2) (v2, v3, v4, v5, σ) = some r) (hE0 : ∀ (v2 : Int32) (v3 : Int32) (v4 : Int32) (σ1 : Mem), ((v2, v3, v4, σ1) : (Int32 × Int32 × Int32 × Mem)) = r → ∀ (H : Heap) (locs : List Loc) (ls : Array Slot), Wd 0 D cy ad s σ1 H locs → lv_has ls 6 [(0, .ref (ad (0))), (1, .int a1), (2, .int v2), (3, .int v3), (4, .int v4)] → W p l e R s m args below meth c H locs 0 0 Q (F0 m 144 ls [])) (H : Heap) (locs : List Loc) (ls : Array Slot) (hw : Wd 0 D cy ad s σ H locs) (hl : lv_has ls 6 [(0, .ref (ad (0))), (1, .int a1), (2, .int v2), (3, .int v3), (4, .int v4), (5, .int v5)]) : W p l e R s m args below meth c H locs 0 0 Q (F0 m 120 ls []) := by
  refine Lim_ind hL (P := fun u => ∀ (H : Heap) (locs : List Loc) (ls : Array Slot), Wd 0 D cy ad s u.2.2.2.2 H locs → lv_has ls 6 [(0, .ref (ad (0))), (1, .int a1), (2, .int u.1), (3, .int u.2.1), (4, .int u.2.2.1), (5, .int u.2.2.2.1)] → W p l e R s m args below meth c H locs 0 0 Q (F0 m 120 ls [])) (fun u x h hx H locs ls hw hl => ?_) H locs ls hw hl
  clear hL
  obtain ⟨v2, v3, v4, v5, σ⟩ := u
  have h : b_X9_findTrees_120 a1 v2 v3 v4 v5 σ = some x := h
  have hw : Wd 0 D cy ad s σ H locs := hw
  have hl : lv_has ls 6 [(0, .ref (ad (0))), (1, .int a1), (2, .int v2), (3, .int v3), (4, .int v4), (5, .int v5)] := hl
  have hP : ∀ (u : (Int32 × Int32 × Int32 × Int32 × Mem)), (∀ (H : Heap) (locs : List Loc) (ls : Array Slot), Wd 0 D cy ad s u.2.2.2.2 H locs → lv_has ls 6 [(0, .ref (ad (0))), (1, .int a1), (2, .int u.1), (3, .int u.2.1), (4, .int u.2.2.1), (5, .int u.2.2.2.1)] → W p l e R s m args below meth c H locs 0 0 Q (F0 m 120 ls [])) → ∀ (H : Heap) (locs : List Loc) (ls : Array Slot), Wd 0 D cy ad s u.2.2.2.2 H locs → lv_has ls 6 [(0, .ref (ad (0))), (1, .int a1), (2, .int u.1), (3, .int u.2.1), (4, .int u.2.2.1), (5, .int u.2.2.2.1)] → W p l e R s m args below meth c H locs 0 0 Q (F0 m 120 ls []) := fun _ k => k
  unfold b_X9_findTrees_120 at h
  refine lv_iload C.1 C.2.1 dX9_findTrees_120 (lv_at hl 5 rfl) ?_
  refine lv_iload_n C.1 C.2.1 dX9_findTrees_122 rfl (lv_at hl 2 rfl) ?_
  refine lv_iconst (v := (1 : Int32)) C.1 C.2.1 dX9_findTrees_123 (by decide) ?_
  refine lv_isub C.1 C.2.1 dX9_findTrees_124 ?_
  refine lv_icmp_ge (tgt := 144) C.1 C.2.1 dX9_findTrees_125 (by decide) (fun cd => ?_) (fun cd => ?_)
  · have h := ite_t cd h
    obtain rfl := Option.some.inj h
    exact hE0 _ _ _ _ hx _ _ _ hw (lv_sub hl [0, 1, 2, 3, 4] rfl)
  · have h := ite_f cd h
    refine lv_aload_n C.1 C.2.1 dX9_findTrees_128 rfl (lv_at hl 0 rfl) ?_
    refine lv_iload_n C.1 C.2.1 dX9_findTrees_129 rfl (lv_at hl 2 rfl) ?_
    refine lv_iload C.1 C.2.1 dX9_findTrees_130 (lv_at hl 5 rfl) ?_
    refine lv_iload_n C.1 C.2.1 dX9_findTrees_132 rfl (lv_at hl 3 rfl) ?_
    refine lv_iload C.1 C.2.1 dX9_findTrees_133 (lv_at hl 4 rfl) ?_
    obtain ⟨r8, h1, h⟩ := bS h
    refine go_V hw (run_V (As := [.int _, .int _, .int _, .int _]) C hw (c_X9_addTwo C.2.2.2.2.2.2.2.2.2 _ _ _ _ _ _ h1) mi_X9_addTwo mv_X9_addTwo o0_0 (ci := 9) rfl rfl lk_X9_229 (by decide) (by decide) rfl hl.1 rfl (Nat.le_of_ble_eq_true rfl) dX9_findTrees_135 ⟨Nat.le_refl 0, Nat.le_refl 0⟩) (fun H locs hw => ?_)
    obtain ⟨x9, ex9, h⟩ := lt_of h
    refine m_iinc (k := 5) (lv' := [(5, .int _), (0, .ref _), (1, .int _), (2, .int _), (3, .int _), (4, .int _)]) C (1 : Int32) (by decide) dX9_findTrees_138 hl rfl ex9.symm (by decide) rfl (fun ls hl => ?_)
    refine lv_goto (tgt := 120) C.1 C.2.1 dX9_findTrees_141 (by decide) ?_
    obtain rfl := Option.some.inj h
    exact hP _ hx _ _ _ hw (lv_sub hl [1, 2, 3, 4, 5, 0] rfl)
set_option maxRecDepth 20000 in
theorem w_X9_findTrees_73 {D : va_G} {cy : Nat → ClassId} {ad : Nat → Nat} {p : Program} {l : Launch} {e : Env} {R : Room} {s : State} {m : MethodId} {args : Array Value} {below : List Frame} {meth : Method} {c : Code} (C : Cx 0 D cy ad p R s m args meth c cX9_findTrees 6 RX9 none 1) {a1 : Int32}  {v2 : Int32} {v3 : Int32} {v4 : Int32} {σ : Mem} {Q : State → Prop} {r : (Int32 × Int32 × Mem)} (hL : Lim (T := (Int32 × Int32 × Mem)) (fun s => b_X9_findTrees_73 a1 s.1 s.2.1 s.2.2.1 s.2.2.2) (v2, v3, v4, σ) = some r) (hE0 : ∀ (v2 : Int32) (v3 : Int32) (σ1 : Mem), ((v2, v3, σ1) : (Int32 × Int32 × Mem)) = r → ∀ (H : Heap) (locs : List Loc) (ls : Array Slot), Wd 0 D cy ad s σ1 H locs → lv_has ls 6 [(0, .ref (ad (0))), (1, .int a1), (2, .int v2), (3, .int v3)] → W p l e R s m args below meth c H locs 0 0 Q (F0 m 150 ls [])) (H : Heap) (locs : List Loc) (ls : Array Slot) (hw : Wd 0 D cy ad s σ H locs) (hl : lv_has ls 6 [(0, .ref (ad (0))), (1, .int a1), (2, .int v2), (3, .int v3), (4, .int v4)]) : W p l e R s m args below meth c H locs 0 0 Q (F0 m 73 ls []) := by
  refine Lim_ind hL (P := fun u => ∀ (H : Heap) (locs : List Loc) (ls : Array Slot), Wd 0 D cy ad s u.2.2.2 H locs → lv_has ls 6 [(0, .ref (ad (0))), (1, .int a1), (2, .int u.1), (3, .int u.2.1), (4, .int u.2.2.1)] → W p l e R s m args below meth c H locs 0 0 Q (F0 m 73 ls [])) (fun u x h hx H locs ls hw hl => ?_) H locs ls hw hl
  clear hL
  obtain ⟨v2, v3, v4, σ⟩ := u
  have h : b_X9_findTrees_73 a1 v2 v3 v4 σ = some x := h
  have hw : Wd 0 D cy ad s σ H locs := hw
  have hl : lv_has ls 6 [(0, .ref (ad (0))), (1, .int a1), (2, .int v2), (3, .int v3), (4, .int v4)] := hl
  have hP : ∀ (u : (Int32 × Int32 × Int32 × Mem)), (∀ (H : Heap) (locs : List Loc) (ls : Array Slot), Wd 0 D cy ad s u.2.2.2 H locs → lv_has ls 6 [(0, .ref (ad (0))), (1, .int a1), (2, .int u.1), (3, .int u.2.1), (4, .int u.2.2.1)] → W p l e R s m args below meth c H locs 0 0 Q (F0 m 73 ls [])) → ∀ (H : Heap) (locs : List Loc) (ls : Array Slot), Wd 0 D cy ad s u.2.2.2 H locs → lv_has ls 6 [(0, .ref (ad (0))), (1, .int a1), (2, .int u.1), (3, .int u.2.1), (4, .int u.2.2.1)] → W p l e R s m args below meth c H locs 0 0 Q (F0 m 73 ls []) := fun _ k => k
  unfold b_X9_findTrees_73 at h
  refine lv_iload C.1 C.2.1 dX9_findTrees_73 (lv_at hl 4 rfl) ?_
  refine lv_iconst (v := (2 : Int32)) C.1 C.2.1 dX9_findTrees_75 (by decide) ?_
  refine lv_icmp_ge (tgt := 150) C.1 C.2.1 dX9_findTrees_76 (by decide) (fun cd => ?_) (fun cd => ?_)
  · have h := ite_t cd h
    obtain rfl := Option.some.inj h
    exact hE0 _ _ _ hx _ _ _ hw (lv_sub hl [0, 1, 2, 3] rfl)
  · have h := ite_f cd h
    refine lv_aload_n C.1 C.2.1 dX9_findTrees_79 rfl (lv_at hl 0 rfl) ?_
    refine gf_X9_85 C hw dX9_findTrees_80 ?_
    refine lv_bipush (v := (120 : Int32)) C.1 C.2.1 dX9_findTrees_83 (by decide) ?_
    refine lv_iload_n C.1 C.2.1 dX9_findTrees_85 rfl (lv_at hl 2 rfl) ?_
    refine lv_imul C.1 C.2.1 dX9_findTrees_86 ?_
    refine lv_aload_n C.1 C.2.1 dX9_findTrees_87 rfl (lv_at hl 0 rfl) ?_
    refine gf_X9_64 C hw dX9_findTrees_88 ?_
    refine lv_bipush (v := (120 : Int32)) C.1 C.2.1 dX9_findTrees_91 (by decide) ?_
    refine lv_iload C.1 C.2.1 dX9_findTrees_93 (lv_at hl 4 rfl) ?_
    refine lv_imul C.1 C.2.1 dX9_findTrees_95 ?_
    refine lv_iload_n C.1 C.2.1 dX9_findTrees_96 rfl (lv_at hl 3 rfl) ?_
    refine lv_iadd C.1 C.2.1 dX9_findTrees_97 ?_
    obtain ⟨hin, h⟩ := gd_of h
    refine m_iald C hw a0_18 hin dX9_findTrees_98 ?_
    refine lv_iadd C.1 C.2.1 dX9_findTrees_99 ?_
    refine lv_dup2_11 C.1 C.2.1 dX9_findTrees_100 rfl rfl ?_
    obtain ⟨hin, h⟩ := gd_of h
    refine m_lald C hw a0_25 hin dX9_findTrees_101 ?_
    refine lv_aload_n C.1 C.2.1 dX9_findTrees_102 rfl (lv_at hl 0 rfl) ?_
    refine gf_X9_85 C hw dX9_findTrees_103 ?_
    refine lv_bipush (v := (120 : Int32)) C.1 C.2.1 dX9_findTrees_106 (by decide) ?_
    refine lv_iload_n C.1 C.2.1 dX9_findTrees_108 rfl (lv_at hl 2 rfl) ?_
    refine lv_iconst (v := (1 : Int32)) C.1 C.2.1 dX9_findTrees_109 (by decide) ?_
    refine lv_isub C.1 C.2.1 dX9_findTrees_110 ?_
    refine lv_imul C.1 C.2.1 dX9_findTrees_111 ?_
    refine lv_iload_n C.1 C.2.1 dX9_findTrees_112 rfl (lv_at hl 3 rfl) ?_
    refine lv_iadd C.1 C.2.1 dX9_findTrees_113 ?_
    obtain ⟨hin, h⟩ := gd_of h
    refine m_lald C hw a0_25 hin dX9_findTrees_114 ?_
    refine lv_ladd C.1 C.2.1 dX9_findTrees_115 ?_
    obtain ⟨hin, h⟩ := gd_of h
    refine m_last C hw a0_25 hin dX9_findTrees_116 (fun H locs hw => ?_)
    obtain ⟨σ7, eσ7, h⟩ := lt_of h
    rw [← eσ7] at hw
    refine lv_iconst (v := (1 : Int32)) C.1 C.2.1 dX9_findTrees_117 (by decide) ?_
    refine lv_istore (lv' := [(5, .int _), (0, .ref _), (1, .int _), (2, .int _), (3, .int _), (4, .int _)]) C.1 C.2.1 dX9_findTrees_118 hl (by decide) rfl (fun ls hl => ?_)
    obtain ⟨r10, hL, h⟩ := bS h
    refine w_X9_findTrees_120 C  hL (fun y0 y1 y2 y3 hr H locs ls hw hl => ?_) _ _ _ hw (lv_sub hl [1, 2, 3, 4, 5, 0] rfl)
    · subst hr
      try dsimp only at h
      try dsimp only at hw
      try dsimp only at hl
      obtain ⟨x11, ex11, h⟩ := lt_of h
      refine m_iinc (k := 4) (lv' := [(4, .int _), (0, .ref _), (1, .int _), (2, .int _), (3, .int _)]) C (1 : Int32) (by decide) dX9_findTrees_144 hl rfl ex11.symm (by decide) rfl (fun ls hl => ?_)
      refine lv_goto (tgt := 73) C.1 C.2.1 dX9_findTrees_147 (by decide) ?_
      obtain rfl := Option.some.inj h
      exact hP _ hx _ _ _ hw (lv_sub hl [1, 2, 3, 4, 0] rfl)
set_option maxRecDepth 20000 in
theorem w_X9_findTrees_62 {D : va_G} {cy : Nat → ClassId} {ad : Nat → Nat} {p : Program} {l : Launch} {e : Env} {R : Room} {s : State} {m : MethodId} {args : Array Value} {below : List Frame} {meth : Method} {c : Code} (C : Cx 0 D cy ad p R s m args meth c cX9_findTrees 6 RX9 none 1) {a1 : Int32}  {v2 : Int32} {v3 : Int32} {σ : Mem} {Q : State → Prop} {r : (Int32 × Mem)} (hL : Lim (T := (Int32 × Mem)) (fun s => b_X9_findTrees_62 a1 s.1 s.2.1 s.2.2) (v2, v3, σ) = some r) (hE0 : ∀ (v2 : Int32) (σ1 : Mem), ((v2, σ1) : (Int32 × Mem)) = r → ∀ (H : Heap) (locs : List Loc) (ls : Array Slot), Wd 0 D cy ad s σ1 H locs → lv_has ls 6 [(0, .ref (ad (0))), (1, .int a1), (2, .int v2)] → W p l e R s m args below meth c H locs 0 0 Q (F0 m 156 ls [])) (H : Heap) (locs : List Loc) (ls : Array Slot) (hw : Wd 0 D cy ad s σ H locs) (hl : lv_has ls 6 [(0, .ref (ad (0))), (1, .int a1), (2, .int v2), (3, .int v3)]) : W p l e R s m args below meth c H locs 0 0 Q (F0 m 62 ls []) := by
  refine Lim_ind hL (P := fun u => ∀ (H : Heap) (locs : List Loc) (ls : Array Slot), Wd 0 D cy ad s u.2.2 H locs → lv_has ls 6 [(0, .ref (ad (0))), (1, .int a1), (2, .int u.1), (3, .int u.2.1)] → W p l e R s m args below meth c H locs 0 0 Q (F0 m 62 ls [])) (fun u x h hx H locs ls hw hl => ?_) H locs ls hw hl
  clear hL
  obtain ⟨v2, v3, σ⟩ := u
  have h : b_X9_findTrees_62 a1 v2 v3 σ = some x := h
  have hw : Wd 0 D cy ad s σ H locs := hw
  have hl : lv_has ls 6 [(0, .ref (ad (0))), (1, .int a1), (2, .int v2), (3, .int v3)] := hl
  have hP : ∀ (u : (Int32 × Int32 × Mem)), (∀ (H : Heap) (locs : List Loc) (ls : Array Slot), Wd 0 D cy ad s u.2.2 H locs → lv_has ls 6 [(0, .ref (ad (0))), (1, .int a1), (2, .int u.1), (3, .int u.2.1)] → W p l e R s m args below meth c H locs 0 0 Q (F0 m 62 ls [])) → ∀ (H : Heap) (locs : List Loc) (ls : Array Slot), Wd 0 D cy ad s u.2.2 H locs → lv_has ls 6 [(0, .ref (ad (0))), (1, .int a1), (2, .int u.1), (3, .int u.2.1)] → W p l e R s m args below meth c H locs 0 0 Q (F0 m 62 ls []) := fun _ k => k
  unfold b_X9_findTrees_62 at h
  refine lv_iload_n C.1 C.2.1 dX9_findTrees_62 rfl (lv_at hl 3 rfl) ?_
  refine lv_aload_n C.1 C.2.1 dX9_findTrees_63 rfl (lv_at hl 0 rfl) ?_
  refine gf_X9_173 C hw dX9_findTrees_64 ?_
  refine lv_icmp_ge (tgt := 156) C.1 C.2.1 dX9_findTrees_67 (by decide) (fun cd => ?_) (fun cd => ?_)
  · have h := ite_t cd h
    obtain rfl := Option.some.inj h
    exact hE0 _ _ hx _ _ _ hw (lv_sub hl [0, 1, 2] rfl)
  · have h := ite_f cd h
    refine lv_iconst (v := (0 : Int32)) C.1 C.2.1 dX9_findTrees_70 (by decide) ?_
    refine lv_istore (lv' := [(4, .int _), (0, .ref _), (1, .int _), (2, .int _), (3, .int _)]) C.1 C.2.1 dX9_findTrees_71 hl (by decide) rfl (fun ls hl => ?_)
    obtain ⟨r12, hL, h⟩ := bS h
    refine w_X9_findTrees_73 C  hL (fun y0 y1 y2 hr H locs ls hw hl => ?_) _ _ _ hw (lv_sub hl [1, 2, 3, 4, 0] rfl)
    · subst hr
      try dsimp only at h
      try dsimp only at hw
      try dsimp only at hl
      obtain ⟨x13, ex13, h⟩ := lt_of h
      refine m_iinc (k := 3) (lv' := [(3, .int _), (0, .ref _), (1, .int _), (2, .int _)]) C (1 : Int32) (by decide) dX9_findTrees_150 hl rfl ex13.symm (by decide) rfl (fun ls hl => ?_)
      refine lv_goto (tgt := 62) C.1 C.2.1 dX9_findTrees_153 (by decide) ?_
      obtain rfl := Option.some.inj h
      exact hP _ hx _ _ _ hw (lv_sub hl [1, 2, 3, 0] rfl)
set_option maxRecDepth 20000 in
theorem w_X9_findTrees_55 {D : va_G} {cy : Nat → ClassId} {ad : Nat → Nat} {p : Program} {l : Launch} {e : Env} {R : Room} {s : State} {m : MethodId} {args : Array Value} {below : List Frame} {meth : Method} {c : Code} (C : Cx 0 D cy ad p R s m args meth c cX9_findTrees 6 RX9 none 1) {a1 : Int32}  {v2 : Int32} {σ : Mem} {Q : State → Prop} {r : Mem} (hL : Lim (T := Mem) (fun s => b_X9_findTrees_55 a1 s.1 s.2) (v2, σ) = some r) (hE0 : ∀ (σ1 : Mem), (σ1 : Mem) = r → ∀ (H : Heap) (locs : List Loc) (ls : Array Slot), Wd 0 D cy ad s σ1 H locs → lv_has ls 6 [] → W p l e R s m args below meth c H locs 0 0 Q (F0 m 162 ls [])) (H : Heap) (locs : List Loc) (ls : Array Slot) (hw : Wd 0 D cy ad s σ H locs) (hl : lv_has ls 6 [(0, .ref (ad (0))), (1, .int a1), (2, .int v2)]) : W p l e R s m args below meth c H locs 0 0 Q (F0 m 55 ls []) := by
  refine Lim_ind hL (P := fun u => ∀ (H : Heap) (locs : List Loc) (ls : Array Slot), Wd 0 D cy ad s u.2 H locs → lv_has ls 6 [(0, .ref (ad (0))), (1, .int a1), (2, .int u.1)] → W p l e R s m args below meth c H locs 0 0 Q (F0 m 55 ls [])) (fun u x h hx H locs ls hw hl => ?_) H locs ls hw hl
  clear hL
  obtain ⟨v2, σ⟩ := u
  have h : b_X9_findTrees_55 a1 v2 σ = some x := h
  have hw : Wd 0 D cy ad s σ H locs := hw
  have hl : lv_has ls 6 [(0, .ref (ad (0))), (1, .int a1), (2, .int v2)] := hl
  have hP : ∀ (u : (Int32 × Mem)), (∀ (H : Heap) (locs : List Loc) (ls : Array Slot), Wd 0 D cy ad s u.2 H locs → lv_has ls 6 [(0, .ref (ad (0))), (1, .int a1), (2, .int u.1)] → W p l e R s m args below meth c H locs 0 0 Q (F0 m 55 ls [])) → ∀ (H : Heap) (locs : List Loc) (ls : Array Slot), Wd 0 D cy ad s u.2 H locs → lv_has ls 6 [(0, .ref (ad (0))), (1, .int a1), (2, .int u.1)] → W p l e R s m args below meth c H locs 0 0 Q (F0 m 55 ls []) := fun _ k => k
  unfold b_X9_findTrees_55 at h
  refine lv_iload_n C.1 C.2.1 dX9_findTrees_55 rfl (lv_at hl 2 rfl) ?_
  refine lv_iload_n C.1 C.2.1 dX9_findTrees_56 rfl (lv_at hl 1 rfl) ?_
  refine lv_icmp_gt (tgt := 162) C.1 C.2.1 dX9_findTrees_57 (by decide) (fun cd => ?_) (fun cd => ?_)
  · have h := ite_t cd h
    obtain rfl := Option.some.inj h
    exact hE0 _ hx _ _ _ hw (lv_sub hl [] rfl)
  · have h := ite_f cd h
    refine lv_iconst (v := (0 : Int32)) C.1 C.2.1 dX9_findTrees_60 (by decide) ?_
    refine lv_istore_n (lv' := [(3, .int _), (0, .ref _), (1, .int _), (2, .int _)]) C.1 C.2.1 dX9_findTrees_61 rfl hl (by decide) rfl (fun ls hl => ?_)
    obtain ⟨r14, hL, h⟩ := bS h
    refine w_X9_findTrees_62 C  hL (fun y0 y1 hr H locs ls hw hl => ?_) _ _ _ hw (lv_sub hl [1, 2, 3, 0] rfl)
    · subst hr
      try dsimp only at h
      try dsimp only at hw
      try dsimp only at hl
      obtain ⟨x15, ex15, h⟩ := lt_of h
      refine m_iinc (k := 2) (lv' := [(2, .int _), (0, .ref _), (1, .int _)]) C (1 : Int32) (by decide) dX9_findTrees_156 hl rfl ex15.symm (by decide) rfl (fun ls hl => ?_)
      refine lv_goto (tgt := 55) C.1 C.2.1 dX9_findTrees_159 (by decide) ?_
      obtain rfl := Option.some.inj h
      exact hP _ hx _ _ _ hw (lv_sub hl [1, 2, 0] rfl)
set_option maxRecDepth 20000 in
theorem c_X9_findTrees {l : Launch} {D : va_G} {cy : Nat → ClassId} {ad : Nat → Nat} (hj : InjW 0 ad) (a1 : Int32)  (σ : Mem) (r : Mem) (h : f_X9_findTrees a1 σ = some r) : CV 0 D cy ad l yX9_findTrees cX9_findTrees 6 none 1 [.ref (ad (0)), .int a1] σ r := by
  refine CV.mk (by decide) hj (Nat.le_of_ble_eq_true rfl) (fun p e R s m below meth c ls C hw hl => ?_)
  have hl : lv_has ls 6 [(0, .ref (ad (0))), (1, .int a1)] := hl
  generalize ([.ref (ad (0)), .int a1] : List Value).toArray = args at C ⊢
  have C : Cx 0 D cy ad p R s m args meth c cX9_findTrees 6 RX9 none 1 := C
  unfold f_X9_findTrees at h
  refine lv_iconst (v := (0 : Int32)) C.1 C.2.1 dX9_findTrees_0 (by decide) ?_
  refine lv_istore_n (lv' := [(2, .int _), (0, .ref _), (1, .int _)]) C.1 C.2.1 dX9_findTrees_1 rfl hl (by decide) rfl (fun ls hl => ?_)
  obtain ⟨r3, hL, h⟩ := bS h
  refine w_X9_findTrees_2 C  hL (fun y0 hr H locs ls hw hl => ?_) _ _ _ hw (lv_sub hl [1, 2, 0] rfl)
  · subst hr
    try dsimp only at h
    try dsimp only at hw
    try dsimp only at hl
    refine lv_iconst (v := (0 : Int32)) C.1 C.2.1 dX9_findTrees_22 (by decide) ?_
    refine lv_istore_n (lv' := [(2, .int _), (0, .ref _), (1, .int _)]) C.1 C.2.1 dX9_findTrees_23 rfl hl (by decide) rfl (fun ls hl => ?_)
    obtain ⟨r6, hL, h⟩ := bS h
    refine w_X9_findTrees_24 C  hL (fun y0 hr H locs ls hw hl => ?_) _ _ _ hw (lv_sub hl [1, 2, 0] rfl)
    · subst hr
      try dsimp only at h
      try dsimp only at hw
      try dsimp only at hl
      refine lv_iconst (v := (2 : Int32)) C.1 C.2.1 dX9_findTrees_53 (by decide) ?_
      refine lv_istore_n (lv' := [(2, .int _), (0, .ref _), (1, .int _)]) C.1 C.2.1 dX9_findTrees_54 rfl hl (by decide) rfl (fun ls hl => ?_)
      obtain ⟨r16, hL, h⟩ := bS h
      refine w_X9_findTrees_55 C  hL (fun y0 hr H locs ls hw hl => ?_) _ _ _ hw (lv_sub hl [1, 2, 0] rfl)
      · subst hr
        try dsimp only at h
        try dsimp only at hw
        try dsimp only at hl
        exact m_vret C hw (Option.some.inj h) dX9_findTrees_162
noncomputable def j_X9_manyOf_58 (a1 : Int32) (a2 : Int32) (z0 : Int64) (z1 : Int64) (v5 : Int32) (σ : Mem) : Option ((Int64 × Int32) ⊕ Int64) :=
  lt (z0 + z1) (fun x3 => lt (v5 + (1 : Int32)) (fun x4 => some (.inl (x3, x4))))
noncomputable def j_X9_manyOf_57 (a1 : Int32) (a2 : Int32) (z0 : Int64) (v5 : Int32) (σ : Mem) : Option ((Int64 × Int32) ⊕ Int64) :=
  j_X9_manyOf_58 a1 a2 z0 (0 : Int64) v5 σ
noncomputable def j_X9_manyOf_42 (a1 : Int32) (a2 : Int32) (z0 : Int64) (v5 : Int32) (σ : Mem) : Option ((Int64 × Int32) ⊕ Int64) :=
  gd (ix (((120 : Int32) * a1) + v5) 1920) (j_X9_manyOf_58 a1 a2 z0 (σ.2.1 25 (((120 : Int32) * a1) + v5).toNatClampNeg) v5 σ)
noncomputable def b_X9_manyOf_10 (a1 : Int32) (a2 : Int32) (v3 : Int64) (v5 : Int32) (σ : Mem) : Option ((Int64 × Int32) ⊕ Int64) :=
  if (σ.1 0 22) ≤ v5 then (some (.inr v3)) else ((f_X9_isGoodA v5 σ).bind (fun r2 => if r2 = 0 then (j_X9_manyOf_57 a1 a2 v3 v5 σ) else (if a2 = 0 then (j_X9_manyOf_42 a1 a2 v3 v5 σ) else ((f_X9_isGoodB v5 σ).bind (fun r5 => if r5 = 0 then (j_X9_manyOf_57 a1 a2 v3 v5 σ) else (j_X9_manyOf_42 a1 a2 v3 v5 σ))))))
noncomputable def f_X9_manyOf (a1 : Int32) (a2 : Int32) (σ : Mem) : Option (Int64 × Mem) :=
  (f_X9_findTrees a1 σ).bind (fun r1 => (Lim (T := Int64) (fun s => b_X9_manyOf_10 a1 a2 s.1 s.2 r1) ((0 : Int64), (0 : Int32))).bind (fun r6 => some (r6, r1)))
set_option maxRecDepth 20000 in
theorem w_X9_manyOf_58 {D : va_G} {cy : Nat → ClassId} {ad : Nat → Nat} {p : Program} {l : Launch} {e : Env} {R : Room} {s : State} {m : MethodId} {args : Array Value} {below : List Frame} {meth : Method} {c : Code} (C : Cx 0 D cy ad p R s m args meth c cX9_manyOf 6 RX9 (some .long) 2) {a1 : Int32} {a2 : Int32}  {z0 : Int64} {z1 : Int64} {v5 : Int32}  {σ : Mem} {H : Heap} {locs : List Loc} {ls : Array Slot} {Q : State → Prop} {P : (Int64 × Int32) → Prop} {r : Int64} {x : (Int64 × Int32) ⊕ Int64} (hx : LimQ P r x) (hP : ∀ u, P u → ∀ (H : Heap) (locs : List Loc) (ls : Array Slot), Wd 0 D cy ad s σ H locs → lv_has ls 6 [(0, .ref (ad (0))), (1, .int a1), (2, .int a2), (3, .long u.1), (5, .int u.2)] → W p l e R s m args below meth c H locs 0 0 Q (F0 m 10 ls [])) (hE0 : ∀ (v3 : Int64), (v3 : Int64) = r → ∀ (H : Heap) (locs : List Loc) (ls : Array Slot), Wd 0 D cy ad s σ H locs → lv_has ls 6 [(3, .long v3)] → W p l e R s m args below meth c H locs 0 0 Q (F0 m 66 ls [])) (hw : Wd 0 D cy ad s σ H locs) (hl : lv_has ls 6 [(0, .ref (ad (0))), (1, .int a1), (2, .int a2), (5, .int v5)]) (h : j_X9_manyOf_58 a1 a2 z0 z1 v5 σ = some x) : W p l e R s m args below meth c H locs 0 0 Q (F0 m 58 ls [.long z1, .long z0]) := by
  unfold j_X9_manyOf_58 at h
  refine lv_ladd C.1 C.2.1 dX9_manyOf_58 ?_
  obtain ⟨x3, ex3, h⟩ := lt_of h
  refine m_topl ex3 ?_
  refine lv_lstore_n (lv' := [(3, .long _), (0, .ref _), (1, .int _), (2, .int _), (5, .int _)]) C.1 C.2.1 dX9_manyOf_59 rfl hl (by decide) rfl (fun ls hl => ?_)
  obtain ⟨x4, ex4, h⟩ := lt_of h
  refine m_iinc (k := 4) (lv' := [(5, .int _), (3, .long _), (0, .ref _), (1, .int _), (2, .int _)]) C (1 : Int32) (by decide) dX9_manyOf_60 hl rfl ex4.symm (by decide) rfl (fun ls hl => ?_)
  refine lv_goto (tgt := 10) C.1 C.2.1 dX9_manyOf_63 (by decide) ?_
  obtain rfl := Option.some.inj h
  exact hP _ hx _ _ _ hw (lv_sub hl [2, 3, 4, 1, 0] rfl)
set_option maxRecDepth 20000 in
theorem w_X9_manyOf_57 {D : va_G} {cy : Nat → ClassId} {ad : Nat → Nat} {p : Program} {l : Launch} {e : Env} {R : Room} {s : State} {m : MethodId} {args : Array Value} {below : List Frame} {meth : Method} {c : Code} (C : Cx 0 D cy ad p R s m args meth c cX9_manyOf 6 RX9 (some .long) 2) {a1 : Int32} {a2 : Int32}  {z0 : Int64} {v5 : Int32}  {σ : Mem} {H : Heap} {locs : List Loc} {ls : Array Slot} {Q : State → Prop} {P : (Int64 × Int32) → Prop} {r : Int64} {x : (Int64 × Int32) ⊕ Int64} (hx : LimQ P r x) (hP : ∀ u, P u → ∀ (H : Heap) (locs : List Loc) (ls : Array Slot), Wd 0 D cy ad s σ H locs → lv_has ls 6 [(0, .ref (ad (0))), (1, .int a1), (2, .int a2), (3, .long u.1), (5, .int u.2)] → W p l e R s m args below meth c H locs 0 0 Q (F0 m 10 ls [])) (hE0 : ∀ (v3 : Int64), (v3 : Int64) = r → ∀ (H : Heap) (locs : List Loc) (ls : Array Slot), Wd 0 D cy ad s σ H locs → lv_has ls 6 [(3, .long v3)] → W p l e R s m args below meth c H locs 0 0 Q (F0 m 66 ls [])) (hw : Wd 0 D cy ad s σ H locs) (hl : lv_has ls 6 [(0, .ref (ad (0))), (1, .int a1), (2, .int a2), (5, .int v5)]) (h : j_X9_manyOf_57 a1 a2 z0 v5 σ = some x) : W p l e R s m args below meth c H locs 0 0 Q (F0 m 57 ls [.long z0]) := by
  unfold j_X9_manyOf_57 at h
  refine lv_lconst (v := (0 : Int64)) C.1 C.2.1 dX9_manyOf_57 (by decide) ?_
  exact w_X9_manyOf_58 C hx hP hE0 hw (lv_sub hl [0, 1, 2, 3] rfl) h
set_option maxRecDepth 20000 in
theorem w_X9_manyOf_42 {D : va_G} {cy : Nat → ClassId} {ad : Nat → Nat} {p : Program} {l : Launch} {e : Env} {R : Room} {s : State} {m : MethodId} {args : Array Value} {below : List Frame} {meth : Method} {c : Code} (C : Cx 0 D cy ad p R s m args meth c cX9_manyOf 6 RX9 (some .long) 2) {a1 : Int32} {a2 : Int32}  {z0 : Int64} {v5 : Int32}  {σ : Mem} {H : Heap} {locs : List Loc} {ls : Array Slot} {Q : State → Prop} {P : (Int64 × Int32) → Prop} {r : Int64} {x : (Int64 × Int32) ⊕ Int64} (hx : LimQ P r x) (hP : ∀ u, P u → ∀ (H : Heap) (locs : List Loc) (ls : Array Slot), Wd 0 D cy ad s σ H locs → lv_has ls 6 [(0, .ref (ad (0))), (1, .int a1), (2, .int a2), (3, .long u.1), (5, .int u.2)] → W p l e R s m args below meth c H locs 0 0 Q (F0 m 10 ls [])) (hE0 : ∀ (v3 : Int64), (v3 : Int64) = r → ∀ (H : Heap) (locs : List Loc) (ls : Array Slot), Wd 0 D cy ad s σ H locs → lv_has ls 6 [(3, .long v3)] → W p l e R s m args below meth c H locs 0 0 Q (F0 m 66 ls [])) (hw : Wd 0 D cy ad s σ H locs) (hl : lv_has ls 6 [(0, .ref (ad (0))), (1, .int a1), (2, .int a2), (5, .int v5)]) (h : j_X9_manyOf_42 a1 a2 z0 v5 σ = some x) : W p l e R s m args below meth c H locs 0 0 Q (F0 m 42 ls [.long z0]) := by
  unfold j_X9_manyOf_42 at h
  refine lv_aload_n C.1 C.2.1 dX9_manyOf_42 rfl (lv_at hl 0 rfl) ?_
  refine gf_X9_85 C hw dX9_manyOf_43 ?_
  refine lv_bipush (v := (120 : Int32)) C.1 C.2.1 dX9_manyOf_46 (by decide) ?_
  refine lv_iload_n C.1 C.2.1 dX9_manyOf_48 rfl (lv_at hl 1 rfl) ?_
  refine lv_imul C.1 C.2.1 dX9_manyOf_49 ?_
  refine lv_iload C.1 C.2.1 dX9_manyOf_50 (lv_at hl 3 rfl) ?_
  refine lv_iadd C.1 C.2.1 dX9_manyOf_52 ?_
  obtain ⟨hin, h⟩ := gd_of h
  refine m_lald C hw a0_25 hin dX9_manyOf_53 ?_
  refine lv_goto (tgt := 58) C.1 C.2.1 dX9_manyOf_54 (by decide) ?_
  exact w_X9_manyOf_58 C hx hP hE0 hw (lv_sub hl [0, 1, 2, 3] rfl) h
set_option maxRecDepth 20000 in
theorem w_X9_manyOf_10 {D : va_G} {cy : Nat → ClassId} {ad : Nat → Nat} {p : Program} {l : Launch} {e : Env} {R : Room} {s : State} {m : MethodId} {args : Array Value} {below : List Frame} {meth : Method} {c : Code} (C : Cx 0 D cy ad p R s m args meth c cX9_manyOf 6 RX9 (some .long) 2) {a1 : Int32} {a2 : Int32}  {v3 : Int64} {v5 : Int32} {σ : Mem} {Q : State → Prop} {r : Int64} (hL : Lim (T := Int64) (fun s => b_X9_manyOf_10 a1 a2 s.1 s.2 σ) (v3, v5) = some r) (hE0 : ∀ (v3 : Int64), (v3 : Int64) = r → ∀ (H : Heap) (locs : List Loc) (ls : Array Slot), Wd 0 D cy ad s σ H locs → lv_has ls 6 [(3, .long v3)] → W p l e R s m args below meth c H locs 0 0 Q (F0 m 66 ls [])) (H : Heap) (locs : List Loc) (ls : Array Slot) (hw : Wd 0 D cy ad s σ H locs) (hl : lv_has ls 6 [(0, .ref (ad (0))), (1, .int a1), (2, .int a2), (3, .long v3), (5, .int v5)]) : W p l e R s m args below meth c H locs 0 0 Q (F0 m 10 ls []) := by
  refine Lim_ind hL (P := fun u => ∀ (H : Heap) (locs : List Loc) (ls : Array Slot), Wd 0 D cy ad s σ H locs → lv_has ls 6 [(0, .ref (ad (0))), (1, .int a1), (2, .int a2), (3, .long u.1), (5, .int u.2)] → W p l e R s m args below meth c H locs 0 0 Q (F0 m 10 ls [])) (fun u x h hx H locs ls hw hl => ?_) H locs ls hw hl
  clear hL
  obtain ⟨v3, v5⟩ := u
  have h : b_X9_manyOf_10 a1 a2 v3 v5 σ = some x := h
  have hw : Wd 0 D cy ad s σ H locs := hw
  have hl : lv_has ls 6 [(0, .ref (ad (0))), (1, .int a1), (2, .int a2), (3, .long v3), (5, .int v5)] := hl
  have hP : ∀ (u : (Int64 × Int32)), (∀ (H : Heap) (locs : List Loc) (ls : Array Slot), Wd 0 D cy ad s σ H locs → lv_has ls 6 [(0, .ref (ad (0))), (1, .int a1), (2, .int a2), (3, .long u.1), (5, .int u.2)] → W p l e R s m args below meth c H locs 0 0 Q (F0 m 10 ls [])) → ∀ (H : Heap) (locs : List Loc) (ls : Array Slot), Wd 0 D cy ad s σ H locs → lv_has ls 6 [(0, .ref (ad (0))), (1, .int a1), (2, .int a2), (3, .long u.1), (5, .int u.2)] → W p l e R s m args below meth c H locs 0 0 Q (F0 m 10 ls []) := fun _ k => k
  unfold b_X9_manyOf_10 at h
  refine lv_iload C.1 C.2.1 dX9_manyOf_10 (lv_at hl 4 rfl) ?_
  refine lv_aload_n C.1 C.2.1 dX9_manyOf_12 rfl (lv_at hl 0 rfl) ?_
  refine gf_X9_173 C hw dX9_manyOf_13 ?_
  refine lv_icmp_ge (tgt := 66) C.1 C.2.1 dX9_manyOf_16 (by decide) (fun cd => ?_) (fun cd => ?_)
  · have h := ite_t cd h
    obtain rfl := Option.some.inj h
    exact hE0 _ hx _ _ _ hw (lv_sub hl [3] rfl)
  · have h := ite_f cd h
    refine lv_lload_n C.1 C.2.1 dX9_manyOf_19 rfl (lv_at hl 3 rfl) ?_
    refine lv_aload_n C.1 C.2.1 dX9_manyOf_20 rfl (lv_at hl 0 rfl) ?_
    refine lv_iload C.1 C.2.1 dX9_manyOf_21 (lv_at hl 4 rfl) ?_
    obtain ⟨r2, h1, h⟩ := bS h
    refine go_I hw (run_V (As := [.int _]) C hw (c_X9_isGoodA C.2.2.2.2.2.2.2.2.2 _ _ _ h1) mi_X9_isGoodA mv_X9_isGoodA o0_0 (ci := 9) rfl rfl lk_X9_194 (by decide) (by decide) rfl hl.1 rfl (Nat.le_of_ble_eq_true rfl) dX9_manyOf_23 ⟨Nat.le_refl 0, Nat.le_refl 0⟩) (fun H locs hw => ?_)
    refine lv_if_eq (tgt := 57) C.1 C.2.1 dX9_manyOf_26 (by decide) (fun cd => ?_) (fun cd => ?_)
    · have h := ite_t cd h
      exact w_X9_manyOf_57 C hx hP hE0 hw (lv_sub hl [0, 1, 2, 4] rfl) h
    · have h := ite_f cd h
      refine lv_iload_n C.1 C.2.1 dX9_manyOf_29 rfl (lv_at hl 2 rfl) ?_
      refine lv_if_eq (tgt := 42) C.1 C.2.1 dX9_manyOf_30 (by decide) (fun cd => ?_) (fun cd => ?_)
      · have h := ite_t cd h
        exact w_X9_manyOf_42 C hx hP hE0 hw (lv_sub hl [0, 1, 2, 4] rfl) h
      · have h := ite_f cd h
        refine lv_aload_n C.1 C.2.1 dX9_manyOf_33 rfl (lv_at hl 0 rfl) ?_
        refine lv_iload C.1 C.2.1 dX9_manyOf_34 (lv_at hl 4 rfl) ?_
        obtain ⟨r5, h1, h⟩ := bS h
        refine go_I hw (run_V (As := [.int _]) C hw (c_X9_isGoodB C.2.2.2.2.2.2.2.2.2 _ _ _ h1) mi_X9_isGoodB mv_X9_isGoodB o0_0 (ci := 9) rfl rfl lk_X9_209 (by decide) (by decide) rfl hl.1 rfl (Nat.le_of_ble_eq_true rfl) dX9_manyOf_36 ⟨Nat.le_refl 0, Nat.le_refl 0⟩) (fun H locs hw => ?_)
        refine lv_if_eq (tgt := 57) C.1 C.2.1 dX9_manyOf_39 (by decide) (fun cd => ?_) (fun cd => ?_)
        · have h := ite_t cd h
          exact w_X9_manyOf_57 C hx hP hE0 hw (lv_sub hl [0, 1, 2, 4] rfl) h
        · have h := ite_f cd h
          exact w_X9_manyOf_42 C hx hP hE0 hw (lv_sub hl [0, 1, 2, 4] rfl) h
set_option maxRecDepth 20000 in
theorem c_X9_manyOf {l : Launch} {D : va_G} {cy : Nat → ClassId} {ad : Nat → Nat} (hj : InjW 0 ad) (a1 : Int32) (a2 : Int32)  (σ : Mem) (r : (Int64 × Mem)) (h : f_X9_manyOf a1 a2 σ = some r) : CL 0 D cy ad l yX9_manyOf cX9_manyOf 6 (some .long) 2 [.ref (ad (0)), .int a1, .int a2] σ r.1 r.2 := by
  refine CL.mk (by decide) hj (Nat.le_of_ble_eq_true rfl) (fun p e R s m below meth c ls C hw hl => ?_)
  have hl : lv_has ls 6 [(0, .ref (ad (0))), (1, .int a1), (2, .int a2)] := hl
  generalize ([.ref (ad (0)), .int a1, .int a2] : List Value).toArray = args at C ⊢
  have C : Cx 0 D cy ad p R s m args meth c cX9_manyOf 6 RX9 (some .long) 2 := C
  unfold f_X9_manyOf at h
  refine lv_aload_n C.1 C.2.1 dX9_manyOf_0 rfl (lv_at hl 0 rfl) ?_
  refine lv_iload_n C.1 C.2.1 dX9_manyOf_1 rfl (lv_at hl 1 rfl) ?_
  obtain ⟨r1, h1, h⟩ := bS h
  refine go_V hw (run_V (As := [.int _]) C hw (c_X9_findTrees C.2.2.2.2.2.2.2.2.2 _ _ _ h1) mi_X9_findTrees mv_X9_findTrees o0_0 (ci := 9) rfl rfl lk_X9_233 (by decide) (by decide) rfl hl.1 rfl (Nat.le_of_ble_eq_true rfl) dX9_manyOf_2 ⟨Nat.le_refl 0, Nat.le_refl 0⟩) (fun H locs hw => ?_)
  refine lv_lconst (v := (0 : Int64)) C.1 C.2.1 dX9_manyOf_5 (by decide) ?_
  refine lv_lstore_n (lv' := [(3, .long _), (0, .ref _), (1, .int _), (2, .int _)]) C.1 C.2.1 dX9_manyOf_6 rfl hl (by decide) rfl (fun ls hl => ?_)
  refine lv_iconst (v := (0 : Int32)) C.1 C.2.1 dX9_manyOf_7 (by decide) ?_
  refine lv_istore (lv' := [(5, .int _), (3, .long _), (0, .ref _), (1, .int _), (2, .int _)]) C.1 C.2.1 dX9_manyOf_8 hl (by decide) rfl (fun ls hl => ?_)
  obtain ⟨r6, hL, h⟩ := bS h
  refine w_X9_manyOf_10 C  hL (fun y0 hr H locs ls hw hl => ?_) _ _ _ hw (lv_sub hl [2, 3, 4, 1, 0] rfl)
  · subst hr
    try dsimp only at h
    try dsimp only at hw
    try dsimp only at hl
    refine lv_lload_n C.1 C.2.1 dX9_manyOf_66 rfl (lv_at hl 0 rfl) ?_
    exact m_lret C hw (ret_p h) dX9_manyOf_67
noncomputable def f_X9_many (a1 : Int32) (σ : Mem) : Option (Int64 × Mem) :=
  if (f_X9_in a1 (1 : Int32) (15 : Int32)) = 0 then (some ((-1 : Int64), σ)) else ((f_X9_findOwn σ).bind (fun r1 => (f_X9_manyOf a1 (0 : Int32) r1).bind (fun r2 => some (r2.1, r2.2))))
set_option maxRecDepth 20000 in
theorem c_X9_many {l : Launch} {D : va_G} {cy : Nat → ClassId} {ad : Nat → Nat} (hj : InjW 0 ad) (a1 : Int32)  (σ : Mem) (r : (Int64 × Mem)) (h : f_X9_many a1 σ = some r) : CL 0 D cy ad l yX9_many cX9_many 2 (some .long) 5 [.ref (ad (0)), .int a1] σ r.1 r.2 := by
  refine CL.mk (by decide) hj (Nat.le_of_ble_eq_true rfl) (fun p e R s m below meth c ls C hw hl => ?_)
  have hl : lv_has ls 2 [(0, .ref (ad (0))), (1, .int a1)] := hl
  generalize ([.ref (ad (0)), .int a1] : List Value).toArray = args at C ⊢
  have C : Cx 0 D cy ad p R s m args meth c cX9_many 2 RX9 (some .long) 5 := C
  unfold f_X9_many at h
  refine lv_iload_n C.1 C.2.1 dX9_many_0 rfl (lv_at hl 1 rfl) ?_
  refine lv_iconst (v := (1 : Int32)) C.1 C.2.1 dX9_many_1 (by decide) ?_
  refine lv_bipush (v := (15 : Int32)) C.1 C.2.1 dX9_many_2 (by decide) ?_
  refine go_I hw (run_S (As := [.int _, .int _, .int _]) C hw (c_X9_in C.2.2.2.2.2.2.2.2.2 _ _ _ _) mi_X9_in ms_X9_in lk_X9_88 (by decide) (by decide) rfl hl.1 rfl (Nat.le_of_ble_eq_true rfl) dX9_many_4 ⟨Nat.le_refl 0, Nat.le_refl 0⟩) (fun H locs hw => ?_)
  refine lv_if_ne (tgt := 14) C.1 C.2.1 dX9_many_7 (by decide) (fun cd => ?_) (fun cd => ?_)
  · have h := ite_f cd h
    refine lv_aload_n C.1 C.2.1 dX9_many_14 rfl (lv_at hl 0 rfl) ?_
    obtain ⟨r1, h1, h⟩ := bS h
    refine go_V hw (run_V (As := []) C hw (c_X9_findOwn C.2.2.2.2.2.2.2.2.2 _ _ h1) mi_X9_findOwn mv_X9_findOwn o0_0 (ci := 9) rfl rfl lk_X9_191 (by decide) (by decide) rfl hl.1 rfl (Nat.le_of_ble_eq_true rfl) dX9_many_15 ⟨Nat.le_refl 0, Nat.le_refl 0⟩) (fun H locs hw => ?_)
    refine lv_aload_n C.1 C.2.1 dX9_many_18 rfl (lv_at hl 0 rfl) ?_
    refine lv_iload_n C.1 C.2.1 dX9_many_19 rfl (lv_at hl 1 rfl) ?_
    refine lv_iconst (v := (0 : Int32)) C.1 C.2.1 dX9_many_20 (by decide) ?_
    obtain ⟨r2, h1, h⟩ := bS h
    refine go_L hw (run_V (As := [.int _, .int _]) C hw (c_X9_manyOf C.2.2.2.2.2.2.2.2.2 _ _ _ _ h1) mi_X9_manyOf mv_X9_manyOf o0_0 (ci := 9) rfl rfl lk_X9_239 (by decide) (by decide) rfl hl.1 rfl (Nat.le_of_ble_eq_true rfl) dX9_many_21 ⟨Nat.le_refl 0, Nat.le_refl 0⟩) (fun H locs hw => ?_)
    exact m_lret C hw (ret_p h) dX9_many_24
  · have h := ite_t cd h
    refine lv_ldc2 (v := (-1 : Int64)) C.1 C.2.1 C.2.2.2.1 (C.2.2.2.2.1 _ kl_X9_237) dX9_many_10 ?_
    exact m_lret C hw (ret_p h) dX9_many_13
noncomputable def f_X9_refuses (a1 : Int32) (a2 : Int32) (σ : Mem) : Option (Int32 × Mem) :=
  if a2 = 0 then (some ((-1 : Int32), σ)) else (if (f_X9_in a1 (0 : Int32) (1 : Int32)) = 0 then (some ((-1 : Int32), σ)) else (gd (ix a1 2) (if (σ.1 8 a1.toNatClampNeg) = 0 then (some ((-2 : Int32), σ)) else (lt ((34 : Int32) * ((1 : Int32) + a1)) (fun x1 => gd (ix (x1 + (0 : Int32)) 102) (gd (ix (x1 + (1 : Int32)) 102) ((f_X9_findPairs (σ.1 7 (x1 + (0 : Int32)).toNatClampNeg) (σ.1 7 (x1 + (1 : Int32)).toNatClampNeg) σ).bind (fun r2 => if (r2.1 0 30) = 0 then (some ((0 : Int32), r2)) else (some ((-3 : Int32), r2))))))))))
set_option maxRecDepth 20000 in
theorem c_X9_refuses {l : Launch} {D : va_G} {cy : Nat → ClassId} {ad : Nat → Nat} (hj : InjW 0 ad) (a1 : Int32) (a2 : Int32)  (σ : Mem) (r : (Int32 × Mem)) (h : f_X9_refuses a1 a2 σ = some r) : CI 0 D cy ad l yX9_refuses cX9_refuses 4 (some .int) 4 [.ref (ad (0)), .int a1, .int a2] σ r.1 r.2 := by
  refine CI.mk (by decide) hj (Nat.le_of_ble_eq_true rfl) (fun p e R s m below meth c ls C hw hl => ?_)
  have hl : lv_has ls 4 [(0, .ref (ad (0))), (1, .int a1), (2, .int a2)] := hl
  generalize ([.ref (ad (0)), .int a1, .int a2] : List Value).toArray = args at C ⊢
  have C : Cx 0 D cy ad p R s m args meth c cX9_refuses 4 RX9 (some .int) 4 := C
  unfold f_X9_refuses at h
  refine lv_iload_n C.1 C.2.1 dX9_refuses_0 rfl (lv_at hl 2 rfl) ?_
  refine lv_if_eq (tgt := 13) C.1 C.2.1 dX9_refuses_1 (by decide) (fun cd => ?_) (fun cd => ?_)
  · have h := ite_t cd h
    refine lv_iconst (v := (-1 : Int32)) C.1 C.2.1 dX9_refuses_13 (by decide) ?_
    exact m_iret C hw (ret_p h) dX9_refuses_14
  · have h := ite_f cd h
    refine lv_iload_n C.1 C.2.1 dX9_refuses_4 rfl (lv_at hl 1 rfl) ?_
    refine lv_iconst (v := (0 : Int32)) C.1 C.2.1 dX9_refuses_5 (by decide) ?_
    refine lv_iconst (v := (1 : Int32)) C.1 C.2.1 dX9_refuses_6 (by decide) ?_
    refine go_I hw (run_S (As := [.int _, .int _, .int _]) C hw (c_X9_in C.2.2.2.2.2.2.2.2.2 _ _ _ _) mi_X9_in ms_X9_in lk_X9_88 (by decide) (by decide) rfl hl.1 rfl (Nat.le_of_ble_eq_true rfl) dX9_refuses_7 ⟨Nat.le_refl 0, Nat.le_refl 0⟩) (fun H locs hw => ?_)
    refine lv_if_ne (tgt := 15) C.1 C.2.1 dX9_refuses_10 (by decide) (fun cd => ?_) (fun cd => ?_)
    · have h := ite_f cd h
      refine lv_aload_n C.1 C.2.1 dX9_refuses_15 rfl (lv_at hl 0 rfl) ?_
      refine gf_X9_32 C hw dX9_refuses_16 ?_
      refine lv_iload_n C.1 C.2.1 dX9_refuses_19 rfl (lv_at hl 1 rfl) ?_
      obtain ⟨hin, h⟩ := gd_of h
      refine m_zald C hw a0_8 hin dX9_refuses_20 ?_
      refine lv_if_ne (tgt := 27) C.1 C.2.1 dX9_refuses_21 (by decide) (fun cd => ?_) (fun cd => ?_)
      · have h := ite_f cd h
        refine lv_bipush (v := (34 : Int32)) C.1 C.2.1 dX9_refuses_27 (by decide) ?_
        refine lv_iconst (v := (1 : Int32)) C.1 C.2.1 dX9_refuses_29 (by decide) ?_
        refine lv_iload_n C.1 C.2.1 dX9_refuses_30 rfl (lv_at hl 1 rfl) ?_
        refine lv_iadd C.1 C.2.1 dX9_refuses_31 ?_
        refine lv_imul C.1 C.2.1 dX9_refuses_32 ?_
        obtain ⟨x1, ex1, h⟩ := lt_of h
        refine m_topi ex1 ?_
        refine lv_istore_n (lv' := [(3, .int _), (0, .ref _), (1, .int _), (2, .int _)]) C.1 C.2.1 dX9_refuses_33 rfl hl (by decide) rfl (fun ls hl => ?_)
        refine lv_aload_n C.1 C.2.1 dX9_refuses_34 rfl (lv_at hl 1 rfl) ?_
        refine lv_aload_n C.1 C.2.1 dX9_refuses_35 rfl (lv_at hl 1 rfl) ?_
        refine gf_X9_29 C hw dX9_refuses_36 ?_
        refine lv_iload_n C.1 C.2.1 dX9_refuses_39 rfl (lv_at hl 0 rfl) ?_
        refine lv_iconst (v := (0 : Int32)) C.1 C.2.1 dX9_refuses_40 (by decide) ?_
        refine lv_iadd C.1 C.2.1 dX9_refuses_41 ?_
        obtain ⟨hin, h⟩ := gd_of h
        refine m_iald C hw a0_7 hin dX9_refuses_42 ?_
        refine lv_aload_n C.1 C.2.1 dX9_refuses_43 rfl (lv_at hl 1 rfl) ?_
        refine gf_X9_29 C hw dX9_refuses_44 ?_
        refine lv_iload_n C.1 C.2.1 dX9_refuses_47 rfl (lv_at hl 0 rfl) ?_
        refine lv_iconst (v := (1 : Int32)) C.1 C.2.1 dX9_refuses_48 (by decide) ?_
        refine lv_iadd C.1 C.2.1 dX9_refuses_49 ?_
        obtain ⟨hin, h⟩ := gd_of h
        refine m_iald C hw a0_7 hin dX9_refuses_50 ?_
        obtain ⟨r2, h1, h⟩ := bS h
        refine go_V hw (run_V (As := [.int _, .int _]) C hw (c_X9_findPairs C.2.2.2.2.2.2.2.2.2 _ _ _ _ h1) mi_X9_findPairs mv_X9_findPairs o0_0 (ci := 9) rfl rfl lk_X9_187 (by decide) (by decide) rfl hl.1 rfl (Nat.le_of_ble_eq_true rfl) dX9_refuses_51 ⟨Nat.le_refl 0, Nat.le_refl 0⟩) (fun H locs hw => ?_)
        refine lv_aload_n C.1 C.2.1 dX9_refuses_54 rfl (lv_at hl 1 rfl) ?_
        refine gf_X9_176 C hw dX9_refuses_55 ?_
        refine lv_if_eq (tgt := 66) C.1 C.2.1 dX9_refuses_58 (by decide) (fun cd => ?_) (fun cd => ?_)
        · have h := ite_t cd h
          refine lv_iconst (v := (0 : Int32)) C.1 C.2.1 dX9_refuses_66 (by decide) ?_
          exact m_iret C hw (ret_p h) dX9_refuses_67
        · have h := ite_f cd h
          refine lv_bipush (v := (-3 : Int32)) C.1 C.2.1 dX9_refuses_61 (by decide) ?_
          refine lv_goto (tgt := 67) C.1 C.2.1 dX9_refuses_63 (by decide) ?_
          exact m_iret C hw (ret_p h) dX9_refuses_67
      · have h := ite_t cd h
        refine lv_bipush (v := (-2 : Int32)) C.1 C.2.1 dX9_refuses_24 (by decide) ?_
        exact m_iret C hw (ret_p h) dX9_refuses_26
    · have h := ite_t cd h
      refine lv_iconst (v := (-1 : Int32)) C.1 C.2.1 dX9_refuses_13 (by decide) ?_
      exact m_iret C hw (ret_p h) dX9_refuses_14
noncomputable def b_X9_alike_15 (a1 : Int32) (v3 : Int32) (σ : Mem) : Option (Int32 ⊕ (Unit ⊕ Unit)) :=
  if (σ.1 0 22) ≤ v3 then (some (.inr (.inr ()))) else ((f_X9_isGoodA v3 σ).bind (fun r3 => (f_X9_isGoodB v3 σ).bind (fun r4 => if r3 = r4 then (lt (v3 + (1 : Int32)) (fun x5 => some (.inl x5))) else (some (.inr (.inl ()))))))
noncomputable def f_X9_alike (a1 : Int32) (σ : Mem) : Option (Int32 × Mem) :=
  (f_X9_refuses a1 (1 : Int32) σ).bind (fun r1 => lt r1.1 (fun x2 => if x2 = 0 then ((Lim (T := (Unit ⊕ Unit)) (fun s => b_X9_alike_15 a1 s r1.2) (0 : Int32)).bind (fun r6 => (match r6 with | .inl r6_0 => (some ((0 : Int32), r1.2)) | .inr r6_1 => (some ((1 : Int32), r1.2))))) else (some (x2, r1.2))))
set_option maxRecDepth 20000 in
theorem w_X9_alike_15 {D : va_G} {cy : Nat → ClassId} {ad : Nat → Nat} {p : Program} {l : Launch} {e : Env} {R : Room} {s : State} {m : MethodId} {args : Array Value} {below : List Frame} {meth : Method} {c : Code} (C : Cx 0 D cy ad p R s m args meth c cX9_alike 4 RX9 (some .int) 5) {a1 : Int32}  {v3 : Int32} {σ : Mem} {Q : State → Prop} {r : (Unit ⊕ Unit)} (hL : Lim (T := (Unit ⊕ Unit)) (fun s => b_X9_alike_15 a1 s σ) v3 = some r) (hE0 : (.inl () : (Unit ⊕ Unit)) = r → ∀ (H : Heap) (locs : List Loc) (ls : Array Slot), Wd 0 D cy ad s σ H locs → lv_has ls 4 [] → W p l e R s m args below meth c H locs 0 0 Q (F0 m 36 ls [])) (hE1 : (.inr () : (Unit ⊕ Unit)) = r → ∀ (H : Heap) (locs : List Loc) (ls : Array Slot), Wd 0 D cy ad s σ H locs → lv_has ls 4 [] → W p l e R s m args below meth c H locs 0 0 Q (F0 m 44 ls [])) (H : Heap) (locs : List Loc) (ls : Array Slot) (hw : Wd 0 D cy ad s σ H locs) (hl : lv_has ls 4 [(0, .ref (ad (0))), (3, .int v3)]) : W p l e R s m args below meth c H locs 0 0 Q (F0 m 15 ls []) := by
  refine Lim_ind hL (P := fun u => ∀ (H : Heap) (locs : List Loc) (ls : Array Slot), Wd 0 D cy ad s σ H locs → lv_has ls 4 [(0, .ref (ad (0))), (3, .int u)] → W p l e R s m args below meth c H locs 0 0 Q (F0 m 15 ls [])) (fun u x h hx H locs ls hw hl => ?_) H locs ls hw hl
  clear hL
  obtain ⟨v3, rfl⟩ : ∃ z, z = u := ⟨u, rfl⟩
  have h : b_X9_alike_15 a1 v3 σ = some x := h
  have hw : Wd 0 D cy ad s σ H locs := hw
  have hl : lv_has ls 4 [(0, .ref (ad (0))), (3, .int v3)] := hl
  have hP : ∀ (u : Int32), (∀ (H : Heap) (locs : List Loc) (ls : Array Slot), Wd 0 D cy ad s σ H locs → lv_has ls 4 [(0, .ref (ad (0))), (3, .int u)] → W p l e R s m args below meth c H locs 0 0 Q (F0 m 15 ls [])) → ∀ (H : Heap) (locs : List Loc) (ls : Array Slot), Wd 0 D cy ad s σ H locs → lv_has ls 4 [(0, .ref (ad (0))), (3, .int u)] → W p l e R s m args below meth c H locs 0 0 Q (F0 m 15 ls []) := fun _ k => k
  unfold b_X9_alike_15 at h
  refine lv_iload_n C.1 C.2.1 dX9_alike_15 rfl (lv_at hl 1 rfl) ?_
  refine lv_aload_n C.1 C.2.1 dX9_alike_16 rfl (lv_at hl 0 rfl) ?_
  refine gf_X9_173 C hw dX9_alike_17 ?_
  refine lv_icmp_ge (tgt := 44) C.1 C.2.1 dX9_alike_20 (by decide) (fun cd => ?_) (fun cd => ?_)
  · have h := ite_t cd h
    obtain rfl := Option.some.inj h
    exact hE1  hx _ _ _ hw (lv_sub hl [] rfl)
  · have h := ite_f cd h
    refine lv_aload_n C.1 C.2.1 dX9_alike_23 rfl (lv_at hl 0 rfl) ?_
    refine lv_iload_n C.1 C.2.1 dX9_alike_24 rfl (lv_at hl 1 rfl) ?_
    obtain ⟨r3, h1, h⟩ := bS h
    refine go_I hw (run_V (As := [.int _]) C hw (c_X9_isGoodA C.2.2.2.2.2.2.2.2.2 _ _ _ h1) mi_X9_isGoodA mv_X9_isGoodA o0_0 (ci := 9) rfl rfl lk_X9_194 (by decide) (by decide) rfl hl.1 rfl (Nat.le_of_ble_eq_true rfl) dX9_alike_25 ⟨Nat.le_refl 0, Nat.le_refl 0⟩) (fun H locs hw => ?_)
    refine lv_aload_n C.1 C.2.1 dX9_alike_28 rfl (lv_at hl 0 rfl) ?_
    refine lv_iload_n C.1 C.2.1 dX9_alike_29 rfl (lv_at hl 1 rfl) ?_
    obtain ⟨r4, h1, h⟩ := bS h
    refine go_I hw (run_V (As := [.int _]) C hw (c_X9_isGoodB C.2.2.2.2.2.2.2.2.2 _ _ _ h1) mi_X9_isGoodB mv_X9_isGoodB o0_0 (ci := 9) rfl rfl lk_X9_209 (by decide) (by decide) rfl hl.1 rfl (Nat.le_of_ble_eq_true rfl) dX9_alike_30 ⟨Nat.le_refl 0, Nat.le_refl 0⟩) (fun H locs hw => ?_)
    refine lv_icmp_eq (tgt := 38) C.1 C.2.1 dX9_alike_33 (by decide) (fun cd => ?_) (fun cd => ?_)
    · have h := ite_t cd h
      obtain ⟨x5, ex5, h⟩ := lt_of h
      refine m_iinc (k := 1) (lv' := [(3, .int _), (0, .ref _)]) C (1 : Int32) (by decide) dX9_alike_38 hl rfl ex5.symm (by decide) rfl (fun ls hl => ?_)
      refine lv_goto (tgt := 15) C.1 C.2.1 dX9_alike_41 (by decide) ?_
      obtain rfl := Option.some.inj h
      exact hP _ hx _ _ _ hw (lv_sub hl [1, 0] rfl)
    · have h := ite_f cd h
      obtain rfl := Option.some.inj h
      exact hE0  hx _ _ _ hw (lv_sub hl [] rfl)
set_option maxRecDepth 20000 in
theorem c_X9_alike {l : Launch} {D : va_G} {cy : Nat → ClassId} {ad : Nat → Nat} (hj : InjW 0 ad) (a1 : Int32)  (σ : Mem) (r : (Int32 × Mem)) (h : f_X9_alike a1 σ = some r) : CI 0 D cy ad l yX9_alike cX9_alike 4 (some .int) 5 [.ref (ad (0)), .int a1] σ r.1 r.2 := by
  refine CI.mk (by decide) hj (Nat.le_of_ble_eq_true rfl) (fun p e R s m below meth c ls C hw hl => ?_)
  have hl : lv_has ls 4 [(0, .ref (ad (0))), (1, .int a1)] := hl
  generalize ([.ref (ad (0)), .int a1] : List Value).toArray = args at C ⊢
  have C : Cx 0 D cy ad p R s m args meth c cX9_alike 4 RX9 (some .int) 5 := C
  unfold f_X9_alike at h
  refine lv_aload_n C.1 C.2.1 dX9_alike_0 rfl (lv_at hl 0 rfl) ?_
  refine lv_iload_n C.1 C.2.1 dX9_alike_1 rfl (lv_at hl 1 rfl) ?_
  refine lv_iconst (v := (1 : Int32)) C.1 C.2.1 dX9_alike_2 (by decide) ?_
  obtain ⟨r1, h1, h⟩ := bS h
  refine go_I hw (run_V (As := [.int _, .int _]) C hw (c_X9_refuses C.2.2.2.2.2.2.2.2.2 _ _ _ _ h1) mi_X9_refuses mv_X9_refuses o0_0 (ci := 9) rfl rfl lk_X9_243 (by decide) (by decide) rfl hl.1 rfl (Nat.le_of_ble_eq_true rfl) dX9_alike_3 ⟨Nat.le_refl 0, Nat.le_refl 0⟩) (fun H locs hw => ?_)
  obtain ⟨x2, ex2, h⟩ := lt_of h
  refine m_topi ex2 ?_
  refine lv_istore_n (lv' := [(2, .int _), (0, .ref _), (1, .int _)]) C.1 C.2.1 dX9_alike_6 rfl hl (by decide) rfl (fun ls hl => ?_)
  refine lv_iload_n C.1 C.2.1 dX9_alike_7 rfl (lv_at hl 0 rfl) ?_
  refine lv_if_eq (tgt := 13) C.1 C.2.1 dX9_alike_8 (by decide) (fun cd => ?_) (fun cd => ?_)
  · have h := ite_t cd h
    refine lv_iconst (v := (0 : Int32)) C.1 C.2.1 dX9_alike_13 (by decide) ?_
    refine lv_istore_n (lv' := [(3, .int _), (2, .int _), (0, .ref _), (1, .int _)]) C.1 C.2.1 dX9_alike_14 rfl hl (by decide) rfl (fun ls hl => ?_)
    obtain ⟨r6, hL, h⟩ := bS h
    refine w_X9_alike_15 C  hL (fun  hr H locs ls hw hl => ?_) (fun  hr H locs ls hw hl => ?_) _ _ _ hw (lv_sub hl [2, 0] rfl)
    · subst hr
      try dsimp only at h
      try dsimp only at hw
      try dsimp only at hl
      refine lv_iconst (v := (0 : Int32)) C.1 C.2.1 dX9_alike_36 (by decide) ?_
      exact m_iret C hw (ret_p h) dX9_alike_37
    · subst hr
      try dsimp only at h
      try dsimp only at hw
      try dsimp only at hl
      refine lv_iconst (v := (1 : Int32)) C.1 C.2.1 dX9_alike_44 (by decide) ?_
      exact m_iret C hw (ret_p h) dX9_alike_45
  · have h := ite_f cd h
    refine lv_iload_n C.1 C.2.1 dX9_alike_11 rfl (lv_at hl 0 rfl) ?_
    exact m_iret C hw (ret_p h) dX9_alike_12
noncomputable def j_X9_apart_12 (a1 : Int32) (a2 : Int32) (z1 : Int32) (z2 : Int32) (σ : Mem) : Option (Int32 × Mem) :=
  (f_X9_refuses z1 z2 σ).bind (fun r1 => lt r1.1 (fun x2 => if x2 = 0 then ((f_X9_leastOf (1 : Int32) r1.2).bind (fun r3 => (f_X9_toldOf r3.1 a2 r3.2).bind (fun r4 => some (r4, r3.2)))) else (some (x2, r1.2))))
noncomputable def f_X9_apart (a1 : Int32) (a2 : Int32) (σ : Mem) : Option (Int32 × Mem) :=
  if a2 < (-1 : Int32) then (j_X9_apart_12 a1 a2 a1 (0 : Int32) σ) else (j_X9_apart_12 a1 a2 a1 (1 : Int32) σ)
set_option maxRecDepth 20000 in
theorem w_X9_apart_12 {D : va_G} {cy : Nat → ClassId} {ad : Nat → Nat} {p : Program} {l : Launch} {e : Env} {R : Room} {s : State} {m : MethodId} {args : Array Value} {below : List Frame} {meth : Method} {c : Code} (C : Cx 0 D cy ad p R s m args meth c cX9_apart 4 RX9 (some .int) 5) {a1 : Int32} {a2 : Int32}  {z1 : Int32} {z2 : Int32}  {σ : Mem} {H : Heap} {locs : List Loc} {ls : Array Slot} {r : (Int32 × Mem)} (hw : Wd 0 D cy ad s σ H locs) (hl : lv_has ls 4 [(0, .ref (ad (0))), (2, .int a2)]) (h : j_X9_apart_12 a1 a2 z1 z2 σ = some r) : W p l e R s m args below meth c H locs 0 0 (QI 0 D cy ad below args s r.1 r.2) (F0 m 12 ls [.int z2, .int z1, .ref (ad (0))]) := by
  unfold j_X9_apart_12 at h
  obtain ⟨r1, h1, h⟩ := bS h
  refine go_I hw (run_V (As := [.int _, .int _]) C hw (c_X9_refuses C.2.2.2.2.2.2.2.2.2 _ _ _ _ h1) mi_X9_refuses mv_X9_refuses o0_0 (ci := 9) rfl rfl lk_X9_243 (by decide) (by decide) rfl hl.1 rfl (Nat.le_of_ble_eq_true rfl) dX9_apart_12 ⟨Nat.le_refl 0, Nat.le_refl 0⟩) (fun H locs hw => ?_)
  obtain ⟨x2, ex2, h⟩ := lt_of h
  refine m_topi ex2 ?_
  refine lv_istore_n (lv' := [(3, .int _), (0, .ref _), (2, .int _)]) C.1 C.2.1 dX9_apart_15 rfl hl (by decide) rfl (fun ls hl => ?_)
  refine lv_iload_n C.1 C.2.1 dX9_apart_16 rfl (lv_at hl 0 rfl) ?_
  refine lv_if_eq (tgt := 24) C.1 C.2.1 dX9_apart_17 (by decide) (fun cd => ?_) (fun cd => ?_)
  · have h := ite_t cd h
    refine lv_aload_n C.1 C.2.1 dX9_apart_24 rfl (lv_at hl 1 rfl) ?_
    refine lv_aload_n C.1 C.2.1 dX9_apart_25 rfl (lv_at hl 1 rfl) ?_
    refine lv_iconst (v := (1 : Int32)) C.1 C.2.1 dX9_apart_26 (by decide) ?_
    obtain ⟨r3, h1, h⟩ := bS h
    refine go_I hw (run_V (As := [.int _]) C hw (c_X9_leastOf C.2.2.2.2.2.2.2.2.2 _ _ _ h1) mi_X9_leastOf mv_X9_leastOf o0_0 (ci := 9) rfl rfl lk_X9_222 (by decide) (by decide) rfl hl.1 rfl (Nat.le_of_ble_eq_true rfl) dX9_apart_27 ⟨Nat.le_refl 0, Nat.le_refl 0⟩) (fun H locs hw => ?_)
    refine lv_iload_n C.1 C.2.1 dX9_apart_30 rfl (lv_at hl 2 rfl) ?_
    obtain ⟨r4, h1, h⟩ := bS h
    refine go_I hw (run_V (As := [.int _, .int _]) C hw (c_X9_toldOf C.2.2.2.2.2.2.2.2.2 _ _ _ _ h1) mi_X9_toldOf mv_X9_toldOf o0_0 (ci := 9) rfl rfl lk_X9_225 (by decide) (by decide) rfl hl.1 rfl (Nat.le_of_ble_eq_true rfl) dX9_apart_31 ⟨Nat.le_refl 0, Nat.le_refl 0⟩) (fun H locs hw => ?_)
    exact m_iret C hw (ret_p h) dX9_apart_34
  · have h := ite_f cd h
    refine lv_iload_n C.1 C.2.1 dX9_apart_20 rfl (lv_at hl 0 rfl) ?_
    refine lv_goto (tgt := 34) C.1 C.2.1 dX9_apart_21 (by decide) ?_
    exact m_iret C hw (ret_p h) dX9_apart_34
set_option maxRecDepth 20000 in
theorem c_X9_apart {l : Launch} {D : va_G} {cy : Nat → ClassId} {ad : Nat → Nat} (hj : InjW 0 ad) (a1 : Int32) (a2 : Int32)  (σ : Mem) (r : (Int32 × Mem)) (h : f_X9_apart a1 a2 σ = some r) : CI 0 D cy ad l yX9_apart cX9_apart 4 (some .int) 5 [.ref (ad (0)), .int a1, .int a2] σ r.1 r.2 := by
  refine CI.mk (by decide) hj (Nat.le_of_ble_eq_true rfl) (fun p e R s m below meth c ls C hw hl => ?_)
  have hl : lv_has ls 4 [(0, .ref (ad (0))), (1, .int a1), (2, .int a2)] := hl
  generalize ([.ref (ad (0)), .int a1, .int a2] : List Value).toArray = args at C ⊢
  have C : Cx 0 D cy ad p R s m args meth c cX9_apart 4 RX9 (some .int) 5 := C
  unfold f_X9_apart at h
  refine lv_aload_n C.1 C.2.1 dX9_apart_0 rfl (lv_at hl 0 rfl) ?_
  refine lv_iload_n C.1 C.2.1 dX9_apart_1 rfl (lv_at hl 1 rfl) ?_
  refine lv_iload_n C.1 C.2.1 dX9_apart_2 rfl (lv_at hl 2 rfl) ?_
  refine lv_iconst (v := (-1 : Int32)) C.1 C.2.1 dX9_apart_3 (by decide) ?_
  refine lv_icmp_lt (tgt := 11) C.1 C.2.1 dX9_apart_4 (by decide) (fun cd => ?_) (fun cd => ?_)
  · have h := ite_t cd h
    refine lv_iconst (v := (0 : Int32)) C.1 C.2.1 dX9_apart_11 (by decide) ?_
    exact w_X9_apart_12 C hw (lv_sub hl [0, 2] rfl) h
  · have h := ite_f cd h
    refine lv_iconst (v := (1 : Int32)) C.1 C.2.1 dX9_apart_7 (by decide) ?_
    refine lv_goto (tgt := 12) C.1 C.2.1 dX9_apart_8 (by decide) ?_
    exact w_X9_apart_12 C hw (lv_sub hl [0, 2] rfl) h
noncomputable def f_X9_both (a1 : Int32) (a2 : Int32) (σ : Mem) : Option (Int64 × Mem) :=
  (f_X9_refuses a1 (f_X9_in a2 (1 : Int32) (15 : Int32)) σ).bind (fun r1 => lt r1.1 (fun x2 => if x2 = 0 then ((f_X9_manyOf a2 (1 : Int32) r1.2).bind (fun r3 => some (r3.1, r3.2))) else (some (x2.toInt64, r1.2))))
set_option maxRecDepth 20000 in
theorem c_X9_both {l : Launch} {D : va_G} {cy : Nat → ClassId} {ad : Nat → Nat} (hj : InjW 0 ad) (a1 : Int32) (a2 : Int32)  (σ : Mem) (r : (Int64 × Mem)) (h : f_X9_both a1 a2 σ = some r) : CL 0 D cy ad l yX9_both cX9_both 4 (some .long) 5 [.ref (ad (0)), .int a1, .int a2] σ r.1 r.2 := by
  refine CL.mk (by decide) hj (Nat.le_of_ble_eq_true rfl) (fun p e R s m below meth c ls C hw hl => ?_)
  have hl : lv_has ls 4 [(0, .ref (ad (0))), (1, .int a1), (2, .int a2)] := hl
  generalize ([.ref (ad (0)), .int a1, .int a2] : List Value).toArray = args at C ⊢
  have C : Cx 0 D cy ad p R s m args meth c cX9_both 4 RX9 (some .long) 5 := C
  unfold f_X9_both at h
  refine lv_aload_n C.1 C.2.1 dX9_both_0 rfl (lv_at hl 0 rfl) ?_
  refine lv_iload_n C.1 C.2.1 dX9_both_1 rfl (lv_at hl 1 rfl) ?_
  refine lv_iload_n C.1 C.2.1 dX9_both_2 rfl (lv_at hl 2 rfl) ?_
  refine lv_iconst (v := (1 : Int32)) C.1 C.2.1 dX9_both_3 (by decide) ?_
  refine lv_bipush (v := (15 : Int32)) C.1 C.2.1 dX9_both_4 (by decide) ?_
  refine go_I hw (run_S (As := [.int _, .int _, .int _]) C hw (c_X9_in C.2.2.2.2.2.2.2.2.2 _ _ _ _) mi_X9_in ms_X9_in lk_X9_88 (by decide) (by decide) rfl hl.1 rfl (Nat.le_of_ble_eq_true rfl) dX9_both_6 ⟨Nat.le_refl 0, Nat.le_refl 0⟩) (fun H locs hw => ?_)
  obtain ⟨r1, h1, h⟩ := bS h
  refine go_I hw (run_V (As := [.int _, .int _]) C hw (c_X9_refuses C.2.2.2.2.2.2.2.2.2 _ _ _ _ h1) mi_X9_refuses mv_X9_refuses o0_0 (ci := 9) rfl rfl lk_X9_243 (by decide) (by decide) rfl hl.1 rfl (Nat.le_of_ble_eq_true rfl) dX9_both_9 ⟨Nat.le_refl 0, Nat.le_refl 0⟩) (fun H locs hw => ?_)
  obtain ⟨x2, ex2, h⟩ := lt_of h
  refine m_topi ex2 ?_
  refine lv_istore_n (lv' := [(3, .int _), (0, .ref _), (1, .int _), (2, .int _)]) C.1 C.2.1 dX9_both_12 rfl hl (by decide) rfl (fun ls hl => ?_)
  refine lv_iload_n C.1 C.2.1 dX9_both_13 rfl (lv_at hl 0 rfl) ?_
  refine lv_if_eq (tgt := 22) C.1 C.2.1 dX9_both_14 (by decide) (fun cd => ?_) (fun cd => ?_)
  · have h := ite_t cd h
    refine lv_aload_n C.1 C.2.1 dX9_both_22 rfl (lv_at hl 1 rfl) ?_
    refine lv_iload_n C.1 C.2.1 dX9_both_23 rfl (lv_at hl 3 rfl) ?_
    refine lv_iconst (v := (1 : Int32)) C.1 C.2.1 dX9_both_24 (by decide) ?_
    obtain ⟨r3, h1, h⟩ := bS h
    refine go_L hw (run_V (As := [.int _, .int _]) C hw (c_X9_manyOf C.2.2.2.2.2.2.2.2.2 _ _ _ _ h1) mi_X9_manyOf mv_X9_manyOf o0_0 (ci := 9) rfl rfl lk_X9_239 (by decide) (by decide) rfl hl.1 rfl (Nat.le_of_ble_eq_true rfl) dX9_both_25 ⟨Nat.le_refl 0, Nat.le_refl 0⟩) (fun H locs hw => ?_)
    exact m_lret C hw (ret_p h) dX9_both_28
  · have h := ite_f cd h
    refine lv_iload_n C.1 C.2.1 dX9_both_17 rfl (lv_at hl 0 rfl) ?_
    refine lv_i2l C.1 C.2.1 dX9_both_18 rfl ?_
    refine lv_goto (tgt := 28) C.1 C.2.1 dX9_both_19 (by decide) ?_
    exact m_lret C hw (ret_p h) dX9_both_28
noncomputable def b_X9_bitsIn_4 (a0 : Int32) (v1 : Int32) (v2 : Int32) (σ : Mem) : Option ((Int32 × Int32) ⊕ Int32) :=
  if (16 : Int32) ≤ v2 then (some (.inr v1)) else (lt (v1 + ((a0 >>> (v2 &&& 31)) &&& (1 : Int32))) (fun x1 => lt (v2 + (1 : Int32)) (fun x2 => some (.inl (x1, x2)))))
noncomputable def f_X9_bitsIn (a0 : Int32) (σ : Mem) : Option Int32 :=
  (Lim (T := Int32) (fun s => b_X9_bitsIn_4 a0 s.1 s.2 σ) ((0 : Int32), (0 : Int32))).bind (fun r3 => some r3)
set_option maxRecDepth 20000 in
theorem w_X9_bitsIn_4 {D : va_G} {cy : Nat → ClassId} {ad : Nat → Nat} {p : Program} {l : Launch} {e : Env} {R : Room} {s : State} {m : MethodId} {args : Array Value} {below : List Frame} {meth : Method} {c : Code} (C : Cx 0 D cy ad p R s m args meth c cX9_bitsIn 3 RX9 (some .int) 0) {a0 : Int32}  {v1 : Int32} {v2 : Int32} {σ : Mem} {Q : State → Prop} {r : Int32} (hL : Lim (T := Int32) (fun s => b_X9_bitsIn_4 a0 s.1 s.2 σ) (v1, v2) = some r) (hE0 : ∀ (v1 : Int32), (v1 : Int32) = r → ∀ (H : Heap) (locs : List Loc) (ls : Array Slot), Wd 0 D cy ad s σ H locs → lv_has ls 3 [(1, .int v1)] → W p l e R s m args below meth c H locs 0 0 Q (F0 m 24 ls [])) (H : Heap) (locs : List Loc) (ls : Array Slot) (hw : Wd 0 D cy ad s σ H locs) (hl : lv_has ls 3 [(0, .int a0), (1, .int v1), (2, .int v2)]) : W p l e R s m args below meth c H locs 0 0 Q (F0 m 4 ls []) := by
  refine Lim_ind hL (P := fun u => ∀ (H : Heap) (locs : List Loc) (ls : Array Slot), Wd 0 D cy ad s σ H locs → lv_has ls 3 [(0, .int a0), (1, .int u.1), (2, .int u.2)] → W p l e R s m args below meth c H locs 0 0 Q (F0 m 4 ls [])) (fun u x h hx H locs ls hw hl => ?_) H locs ls hw hl
  clear hL
  obtain ⟨v1, v2⟩ := u
  have h : b_X9_bitsIn_4 a0 v1 v2 σ = some x := h
  have hw : Wd 0 D cy ad s σ H locs := hw
  have hl : lv_has ls 3 [(0, .int a0), (1, .int v1), (2, .int v2)] := hl
  have hP : ∀ (u : (Int32 × Int32)), (∀ (H : Heap) (locs : List Loc) (ls : Array Slot), Wd 0 D cy ad s σ H locs → lv_has ls 3 [(0, .int a0), (1, .int u.1), (2, .int u.2)] → W p l e R s m args below meth c H locs 0 0 Q (F0 m 4 ls [])) → ∀ (H : Heap) (locs : List Loc) (ls : Array Slot), Wd 0 D cy ad s σ H locs → lv_has ls 3 [(0, .int a0), (1, .int u.1), (2, .int u.2)] → W p l e R s m args below meth c H locs 0 0 Q (F0 m 4 ls []) := fun _ k => k
  unfold b_X9_bitsIn_4 at h
  refine lv_iload_n C.1 C.2.1 dX9_bitsIn_4 rfl (lv_at hl 2 rfl) ?_
  refine lv_bipush (v := (16 : Int32)) C.1 C.2.1 dX9_bitsIn_5 (by decide) ?_
  refine lv_icmp_ge (tgt := 24) C.1 C.2.1 dX9_bitsIn_7 (by decide) (fun cd => ?_) (fun cd => ?_)
  · have h := ite_t cd h
    obtain rfl := Option.some.inj h
    exact hE0 _ hx _ _ _ hw (lv_sub hl [1] rfl)
  · have h := ite_f cd h
    refine lv_iload_n C.1 C.2.1 dX9_bitsIn_10 rfl (lv_at hl 1 rfl) ?_
    refine lv_iload_n C.1 C.2.1 dX9_bitsIn_11 rfl (lv_at hl 0 rfl) ?_
    refine lv_iload_n C.1 C.2.1 dX9_bitsIn_12 rfl (lv_at hl 2 rfl) ?_
    refine lv_ishr C.1 C.2.1 dX9_bitsIn_13 ?_
    refine lv_iconst (v := (1 : Int32)) C.1 C.2.1 dX9_bitsIn_14 (by decide) ?_
    refine lv_iand C.1 C.2.1 dX9_bitsIn_15 ?_
    refine lv_iadd C.1 C.2.1 dX9_bitsIn_16 ?_
    obtain ⟨x1, ex1, h⟩ := lt_of h
    refine m_topi ex1 ?_
    refine lv_istore_n (lv' := [(1, .int _), (0, .int _), (2, .int _)]) C.1 C.2.1 dX9_bitsIn_17 rfl hl (by decide) rfl (fun ls hl => ?_)
    obtain ⟨x2, ex2, h⟩ := lt_of h
    refine m_iinc (k := 2) (lv' := [(2, .int _), (1, .int _), (0, .int _)]) C (1 : Int32) (by decide) dX9_bitsIn_18 hl rfl ex2.symm (by decide) rfl (fun ls hl => ?_)
    refine lv_goto (tgt := 4) C.1 C.2.1 dX9_bitsIn_21 (by decide) ?_
    obtain rfl := Option.some.inj h
    exact hP _ hx _ _ _ hw (lv_sub hl [2, 1, 0] rfl)
set_option maxRecDepth 20000 in
theorem c_X9_bitsIn {l : Launch} {D : va_G} {cy : Nat → ClassId} {ad : Nat → Nat} (hj : InjW 0 ad) (a0 : Int32)  (σ : Mem) (r : Int32) (h : f_X9_bitsIn a0 σ = some r) : CI 0 D cy ad l yX9_bitsIn cX9_bitsIn 3 (some .int) 0 [.int a0] σ r σ := by
  refine CI.mk (by decide) hj (Nat.le_of_ble_eq_true rfl) (fun p e R s m below meth c ls C hw hl => ?_)
  have hl : lv_has ls 3 [(0, .int a0)] := hl
  generalize ([.int a0] : List Value).toArray = args at C ⊢
  have C : Cx 0 D cy ad p R s m args meth c cX9_bitsIn 3 RX9 (some .int) 0 := C
  unfold f_X9_bitsIn at h
  refine lv_iconst (v := (0 : Int32)) C.1 C.2.1 dX9_bitsIn_0 (by decide) ?_
  refine lv_istore_n (lv' := [(1, .int _), (0, .int _)]) C.1 C.2.1 dX9_bitsIn_1 rfl hl (by decide) rfl (fun ls hl => ?_)
  refine lv_iconst (v := (0 : Int32)) C.1 C.2.1 dX9_bitsIn_2 (by decide) ?_
  refine lv_istore_n (lv' := [(2, .int _), (1, .int _), (0, .int _)]) C.1 C.2.1 dX9_bitsIn_3 rfl hl (by decide) rfl (fun ls hl => ?_)
  obtain ⟨r3, hL, h⟩ := bS h
  refine w_X9_bitsIn_4 C  hL (fun y0 hr H locs ls hw hl => ?_) _ _ _ hw (lv_sub hl [2, 1, 0] rfl)
  · subst hr
    try dsimp only at h
    try dsimp only at hw
    try dsimp only at hl
    refine lv_iload_n C.1 C.2.1 dX9_bitsIn_24 rfl (lv_at hl 0 rfl) ?_
    exact m_iret C hw (ret_i h) dX9_bitsIn_25
noncomputable def j_X9_mark_17 (a1 : Int32) (a2 : Int32) (σ : Mem) : Option (Int32 × Mem) :=
  some ((-1000000 : Int32), σ)
noncomputable def f_X9_mark (a1 : Int32) (a2 : Int32) (σ : Mem) : Option (Int32 × Mem) :=
  if (f_X9_in a1 (0 : Int32) (5 : Int32)) = 0 then (j_X9_mark_17 a1 a2 σ) else ((f_X9_isNode a2 σ).bind (fun r1 => if r1 = 0 then (j_X9_mark_17 a1 a2 σ) else ((f_X9_findComes σ).bind (fun r2 => gd (ix a2 32) (lt (r2.1 10 a2.toNatClampNeg) (fun x3 => gd (ix ((3 : Int32) + a2) 102) (lt (r2.1 7 ((3 : Int32) + a2).toNatClampNeg) (fun x4 => if a1 = (0 : Int32) then (lt (sJ r2 0 0 ((r2.2.1 0 0) + (1 : Int64))) (fun σ5 => some (x3, σ5))) else (if a1 = (1 : Int32) then (lt (sJ r2 0 0 ((r2.2.1 0 0) + (11 : Int64))) (fun σ6 => some ((2 : Int32) * x3, σ6))) else (if a1 = (2 : Int32) then (lt (sJ r2 0 0 ((r2.2.1 0 0) + (101 : Int64))) (fun σ7 => some (x3 + x4, σ7))) else (if a1 = (3 : Int32) then (lt (sJ r2 0 0 ((r2.2.1 0 0) + (1011 : Int64))) (fun σ8 => some (((2 : Int32) * x3) + (f_X9_armsOf x4), σ8))) else (if a1 = (4 : Int32) then (lt (sJ r2 0 0 ((r2.2.1 0 0) + (10101 : Int64))) (fun σ9 => gd (ix a2 31) ((f_X9_bitsIn (σ9.1 11 a2.toNatClampNeg) σ9).bind (fun r10 => some ((x3 + x4) - r10, σ9))))) else (lt (sJ r2 0 0 ((r2.2.1 0 0) + (100001 : Int64))) (fun σ11 => some (x3 + a2, σ11)))))))))))))))
set_option maxRecDepth 20000 in
theorem w_X9_mark_17 {D : va_G} {cy : Nat → ClassId} {ad : Nat → Nat} {p : Program} {l : Launch} {e : Env} {R : Room} {s : State} {m : MethodId} {args : Array Value} {below : List Frame} {meth : Method} {c : Code} (C : Cx 0 D cy ad p R s m args meth c cX9_mark 5 RX9 (some .int) 3) {a1 : Int32} {a2 : Int32}    {σ : Mem} {H : Heap} {locs : List Loc} {ls : Array Slot} {r : (Int32 × Mem)} (hw : Wd 0 D cy ad s σ H locs) (hl : lv_has ls 5 []) (h : j_X9_mark_17 a1 a2 σ = some r) : W p l e R s m args below meth c H locs 0 0 (QI 0 D cy ad below args s r.1 r.2) (F0 m 17 ls []) := by
  unfold j_X9_mark_17 at h
  refine lv_ldc (v := (-1000000 : Int32)) C.1 C.2.1 C.2.2.2.1 (C.2.2.2.2.1 _ ki_X9_247) dX9_mark_17 ?_
  exact m_iret C hw (ret_p h) dX9_mark_19
set_option maxRecDepth 20000 in
theorem c_X9_mark {l : Launch} {D : va_G} {cy : Nat → ClassId} {ad : Nat → Nat} (hj : InjW 0 ad) (a1 : Int32) (a2 : Int32)  (σ : Mem) (r : (Int32 × Mem)) (h : f_X9_mark a1 a2 σ = some r) : CI 0 D cy ad l yX9_mark cX9_mark 5 (some .int) 3 [.ref (ad (0)), .int a1, .int a2] σ r.1 r.2 := by
  refine CI.mk (by decide) hj (Nat.le_of_ble_eq_true rfl) (fun p e R s m below meth c ls C hw hl => ?_)
  have hl : lv_has ls 5 [(0, .ref (ad (0))), (1, .int a1), (2, .int a2)] := hl
  generalize ([.ref (ad (0)), .int a1, .int a2] : List Value).toArray = args at C ⊢
  have C : Cx 0 D cy ad p R s m args meth c cX9_mark 5 RX9 (some .int) 3 := C
  unfold f_X9_mark at h
  refine lv_iload_n C.1 C.2.1 dX9_mark_0 rfl (lv_at hl 1 rfl) ?_
  refine lv_iconst (v := (0 : Int32)) C.1 C.2.1 dX9_mark_1 (by decide) ?_
  refine lv_iconst (v := (5 : Int32)) C.1 C.2.1 dX9_mark_2 (by decide) ?_
  refine go_I hw (run_S (As := [.int _, .int _, .int _]) C hw (c_X9_in C.2.2.2.2.2.2.2.2.2 _ _ _ _) mi_X9_in ms_X9_in lk_X9_88 (by decide) (by decide) rfl hl.1 rfl (Nat.le_of_ble_eq_true rfl) dX9_mark_3 ⟨Nat.le_refl 0, Nat.le_refl 0⟩) (fun H locs hw => ?_)
  refine lv_if_eq (tgt := 17) C.1 C.2.1 dX9_mark_6 (by decide) (fun cd => ?_) (fun cd => ?_)
  · have h := ite_t cd h
    exact w_X9_mark_17 C hw (lv_sub hl [] rfl) h
  · have h := ite_f cd h
    refine lv_aload_n C.1 C.2.1 dX9_mark_9 rfl (lv_at hl 0 rfl) ?_
    refine lv_iload_n C.1 C.2.1 dX9_mark_10 rfl (lv_at hl 2 rfl) ?_
    obtain ⟨r1, h1, h⟩ := bS h
    refine go_I hw (run_V (As := [.int _]) C hw (c_X9_isNode C.2.2.2.2.2.2.2.2.2 _ _ _ h1) mi_X9_isNode mv_X9_isNode o0_0 (ci := 9) rfl rfl lk_X9_156 (by decide) (by decide) rfl hl.1 rfl (Nat.le_of_ble_eq_true rfl) dX9_mark_11 ⟨Nat.le_refl 0, Nat.le_refl 0⟩) (fun H locs hw => ?_)
    refine lv_if_ne (tgt := 20) C.1 C.2.1 dX9_mark_14 (by decide) (fun cd => ?_) (fun cd => ?_)
    · have h := ite_f cd h
      refine lv_aload_n C.1 C.2.1 dX9_mark_20 rfl (lv_at hl 0 rfl) ?_
      obtain ⟨r2, h1, h⟩ := bS h
      refine go_V hw (run_V (As := []) C hw (c_X9_findComes C.2.2.2.2.2.2.2.2.2 _ _ h1) mi_X9_findComes mv_X9_findComes o0_0 (ci := 9) rfl rfl lk_X9_159 (by decide) (by decide) rfl hl.1 rfl (Nat.le_of_ble_eq_true rfl) dX9_mark_21 ⟨Nat.le_refl 0, Nat.le_refl 0⟩) (fun H locs hw => ?_)
      refine lv_aload_n C.1 C.2.1 dX9_mark_24 rfl (lv_at hl 0 rfl) ?_
      refine gf_X9_39 C hw dX9_mark_25 ?_
      refine lv_iload_n C.1 C.2.1 dX9_mark_28 rfl (lv_at hl 2 rfl) ?_
      obtain ⟨hin, h⟩ := gd_of h
      refine m_iald C hw a0_10 hin dX9_mark_29 ?_
      obtain ⟨x3, ex3, h⟩ := lt_of h
      refine m_topi ex3 ?_
      refine lv_istore_n (lv' := [(3, .int _), (0, .ref _), (1, .int _), (2, .int _)]) C.1 C.2.1 dX9_mark_30 rfl hl (by decide) rfl (fun ls hl => ?_)
      refine lv_aload_n C.1 C.2.1 dX9_mark_31 rfl (lv_at hl 1 rfl) ?_
      refine gf_X9_29 C hw dX9_mark_32 ?_
      refine lv_iconst (v := (3 : Int32)) C.1 C.2.1 dX9_mark_35 (by decide) ?_
      refine lv_iload_n C.1 C.2.1 dX9_mark_36 rfl (lv_at hl 3 rfl) ?_
      refine lv_iadd C.1 C.2.1 dX9_mark_37 ?_
      obtain ⟨hin, h⟩ := gd_of h
      refine m_iald C hw a0_7 hin dX9_mark_38 ?_
      obtain ⟨x4, ex4, h⟩ := lt_of h
      refine m_topi ex4 ?_
      refine lv_istore (lv' := [(4, .int _), (3, .int _), (0, .ref _), (1, .int _), (2, .int _)]) C.1 C.2.1 dX9_mark_39 hl (by decide) rfl (fun ls hl => ?_)
      refine lv_iload_n C.1 C.2.1 dX9_mark_41 rfl (lv_at hl 3 rfl) ?_
      by_cases cd0 : a1 = (0 : Int32)
      · have h := ite_t cd0 h
        refine m_tabIn (tgt := 76) C (0 : Int32) cd0 dX9_mark_42 (by decide) (by decide) rfl (by decide) ?_
        refine lv_aload_n C.1 C.2.1 dX9_mark_76 rfl (lv_at hl 2 rfl) ?_
        refine lv_dup C.1 C.2.1 dX9_mark_77 rfl ?_
        refine gf_X9_248 C hw dX9_mark_78 ?_
        refine lv_lconst (v := (1 : Int64)) C.1 C.2.1 dX9_mark_81 (by decide) ?_
        refine lv_ladd C.1 C.2.1 dX9_mark_82 ?_
        refine pf_X9_248 C hw dX9_mark_83 (fun H locs hw => ?_)
        obtain ⟨σ5, eσ5, h⟩ := lt_of h
        rw [← eσ5] at hw
        refine lv_iload_n C.1 C.2.1 dX9_mark_86 rfl (lv_at hl 1 rfl) ?_
        exact m_iret C hw (ret_p h) dX9_mark_87
      have h := ite_f cd0 h
      by_cases cd1 : a1 = (1 : Int32)
      · have h := ite_t cd1 h
        refine m_tabIn (tgt := 88) C (1 : Int32) cd1 dX9_mark_42 (by decide) (by decide) rfl (by decide) ?_
        refine lv_aload_n C.1 C.2.1 dX9_mark_88 rfl (lv_at hl 2 rfl) ?_
        refine lv_dup C.1 C.2.1 dX9_mark_89 rfl ?_
        refine gf_X9_248 C hw dX9_mark_90 ?_
        refine lv_ldc2 (v := (11 : Int64)) C.1 C.2.1 C.2.2.2.1 (C.2.2.2.2.1 _ kl_X9_252) dX9_mark_93 ?_
        refine lv_ladd C.1 C.2.1 dX9_mark_96 ?_
        refine pf_X9_248 C hw dX9_mark_97 (fun H locs hw => ?_)
        obtain ⟨σ6, eσ6, h⟩ := lt_of h
        rw [← eσ6] at hw
        refine lv_iconst (v := (2 : Int32)) C.1 C.2.1 dX9_mark_100 (by decide) ?_
        refine lv_iload_n C.1 C.2.1 dX9_mark_101 rfl (lv_at hl 1 rfl) ?_
        refine lv_imul C.1 C.2.1 dX9_mark_102 ?_
        exact m_iret C hw (ret_p h) dX9_mark_103
      have h := ite_f cd1 h
      by_cases cd2 : a1 = (2 : Int32)
      · have h := ite_t cd2 h
        refine m_tabIn (tgt := 104) C (2 : Int32) cd2 dX9_mark_42 (by decide) (by decide) rfl (by decide) ?_
        refine lv_aload_n C.1 C.2.1 dX9_mark_104 rfl (lv_at hl 2 rfl) ?_
        refine lv_dup C.1 C.2.1 dX9_mark_105 rfl ?_
        refine gf_X9_248 C hw dX9_mark_106 ?_
        refine lv_ldc2 (v := (101 : Int64)) C.1 C.2.1 C.2.2.2.1 (C.2.2.2.2.1 _ kl_X9_254) dX9_mark_109 ?_
        refine lv_ladd C.1 C.2.1 dX9_mark_112 ?_
        refine pf_X9_248 C hw dX9_mark_113 (fun H locs hw => ?_)
        obtain ⟨σ7, eσ7, h⟩ := lt_of h
        rw [← eσ7] at hw
        refine lv_iload_n C.1 C.2.1 dX9_mark_116 rfl (lv_at hl 1 rfl) ?_
        refine lv_iload C.1 C.2.1 dX9_mark_117 (lv_at hl 0 rfl) ?_
        refine lv_iadd C.1 C.2.1 dX9_mark_119 ?_
        exact m_iret C hw (ret_p h) dX9_mark_120
      have h := ite_f cd2 h
      by_cases cd3 : a1 = (3 : Int32)
      · have h := ite_t cd3 h
        refine m_tabIn (tgt := 121) C (3 : Int32) cd3 dX9_mark_42 (by decide) (by decide) rfl (by decide) ?_
        refine lv_aload_n C.1 C.2.1 dX9_mark_121 rfl (lv_at hl 2 rfl) ?_
        refine lv_dup C.1 C.2.1 dX9_mark_122 rfl ?_
        refine gf_X9_248 C hw dX9_mark_123 ?_
        refine lv_ldc2 (v := (1011 : Int64)) C.1 C.2.1 C.2.2.2.1 (C.2.2.2.2.1 _ kl_X9_256) dX9_mark_126 ?_
        refine lv_ladd C.1 C.2.1 dX9_mark_129 ?_
        refine pf_X9_248 C hw dX9_mark_130 (fun H locs hw => ?_)
        obtain ⟨σ8, eσ8, h⟩ := lt_of h
        rw [← eσ8] at hw
        refine lv_iconst (v := (2 : Int32)) C.1 C.2.1 dX9_mark_133 (by decide) ?_
        refine lv_iload_n C.1 C.2.1 dX9_mark_134 rfl (lv_at hl 1 rfl) ?_
        refine lv_imul C.1 C.2.1 dX9_mark_135 ?_
        refine lv_iload C.1 C.2.1 dX9_mark_136 (lv_at hl 0 rfl) ?_
        refine go_I hw (run_S (As := [.int _]) C hw (c_X9_armsOf C.2.2.2.2.2.2.2.2.2 _ _) mi_X9_armsOf ms_X9_armsOf lk_X9_125 (by decide) (by decide) rfl hl.1 rfl (Nat.le_of_ble_eq_true rfl) dX9_mark_138 ⟨Nat.le_refl 0, Nat.le_refl 0⟩) (fun H locs hw => ?_)
        refine lv_iadd C.1 C.2.1 dX9_mark_141 ?_
        exact m_iret C hw (ret_p h) dX9_mark_142
      have h := ite_f cd3 h
      by_cases cd4 : a1 = (4 : Int32)
      · have h := ite_t cd4 h
        refine m_tabIn (tgt := 143) C (4 : Int32) cd4 dX9_mark_42 (by decide) (by decide) rfl (by decide) ?_
        refine lv_aload_n C.1 C.2.1 dX9_mark_143 rfl (lv_at hl 2 rfl) ?_
        refine lv_dup C.1 C.2.1 dX9_mark_144 rfl ?_
        refine gf_X9_248 C hw dX9_mark_145 ?_
        refine lv_ldc2 (v := (10101 : Int64)) C.1 C.2.1 C.2.2.2.1 (C.2.2.2.2.1 _ kl_X9_258) dX9_mark_148 ?_
        refine lv_ladd C.1 C.2.1 dX9_mark_151 ?_
        refine pf_X9_248 C hw dX9_mark_152 (fun H locs hw => ?_)
        obtain ⟨σ9, eσ9, h⟩ := lt_of h
        rw [← eσ9] at hw
        refine lv_iload_n C.1 C.2.1 dX9_mark_155 rfl (lv_at hl 1 rfl) ?_
        refine lv_iload C.1 C.2.1 dX9_mark_156 (lv_at hl 0 rfl) ?_
        refine lv_iadd C.1 C.2.1 dX9_mark_158 ?_
        refine lv_aload_n C.1 C.2.1 dX9_mark_159 rfl (lv_at hl 2 rfl) ?_
        refine gf_X9_42 C hw dX9_mark_160 ?_
        refine lv_iload_n C.1 C.2.1 dX9_mark_163 rfl (lv_at hl 4 rfl) ?_
        obtain ⟨hin, h⟩ := gd_of h
        refine m_iald C hw a0_11 hin dX9_mark_164 ?_
        obtain ⟨r10, h1, h⟩ := bS h
        refine go_I hw (run_S (As := [.int _]) C hw (c_X9_bitsIn C.2.2.2.2.2.2.2.2.2 _ _ _ h1) mi_X9_bitsIn ms_X9_bitsIn lk_X9_260 (by decide) (by decide) rfl hl.1 rfl (Nat.le_of_ble_eq_true rfl) dX9_mark_165 ⟨Nat.le_refl 0, Nat.le_refl 0⟩) (fun H locs hw => ?_)
        refine lv_isub C.1 C.2.1 dX9_mark_168 ?_
        exact m_iret C hw (ret_p h) dX9_mark_169
      have h := ite_f cd4 h
      have cn0 := ne_toInt cd0
      have cn1 := ne_toInt cd1
      have cn2 := ne_toInt cd2
      have cn3 := ne_toInt cd3
      have cn4 := ne_toInt cd4
      refine m_tabOut (tgt := 170) C dX9_mark_42 (by simp only [show ((0 : Int32)).toInt = 0 from by decide, show ((1 : Int32)).toInt = 1 from by decide, show ((2 : Int32)).toInt = 2 from by decide, show ((3 : Int32)).toInt = 3 from by decide, show ((4 : Int32)).toInt = 4 from by decide] at cn0 cn1 cn2 cn3 cn4; omega) (by decide) ?_
      refine lv_aload_n C.1 C.2.1 dX9_mark_170 rfl (lv_at hl 2 rfl) ?_
      refine lv_dup C.1 C.2.1 dX9_mark_171 rfl ?_
      refine gf_X9_248 C hw dX9_mark_172 ?_
      refine lv_ldc2 (v := (100001 : Int64)) C.1 C.2.1 C.2.2.2.1 (C.2.2.2.2.1 _ kl_X9_263) dX9_mark_175 ?_
      refine lv_ladd C.1 C.2.1 dX9_mark_178 ?_
      refine pf_X9_248 C hw dX9_mark_179 (fun H locs hw => ?_)
      obtain ⟨σ11, eσ11, h⟩ := lt_of h
      rw [← eσ11] at hw
      refine lv_iload_n C.1 C.2.1 dX9_mark_182 rfl (lv_at hl 1 rfl) ?_
      refine lv_iload_n C.1 C.2.1 dX9_mark_183 rfl (lv_at hl 4 rfl) ?_
      refine lv_iadd C.1 C.2.1 dX9_mark_184 ?_
      exact m_iret C hw (ret_p h) dX9_mark_185
    · have h := ite_t cd h
      exact w_X9_mark_17 C hw (lv_sub hl [] rfl) h
noncomputable def b_X9_copy_2 (a1 : Int32) (a2 : Int32) (v3 : Int32) (σ : Mem) : Option ((Int32 × Mem) ⊕ Mem) :=
  if (34 : Int32) ≤ v3 then (some (.inr σ)) else (gd (ix (a1 + v3) 102) (gd (ix (a2 + v3) 102) (lt (sI σ 7 (a2 + v3).toNatClampNeg (σ.1 7 (a1 + v3).toNatClampNeg)) (fun σ1 => lt (v3 + (1 : Int32)) (fun x2 => some (.inl (x2, σ1)))))))
noncomputable def f_X9_copy (a1 : Int32) (a2 : Int32) (σ : Mem) : Option Mem :=
  (Lim (T := Mem) (fun s => b_X9_copy_2 a1 a2 s.1 s.2) ((0 : Int32), σ)).bind (fun r3 => some r3)
set_option maxRecDepth 20000 in
theorem w_X9_copy_2 {D : va_G} {cy : Nat → ClassId} {ad : Nat → Nat} {p : Program} {l : Launch} {e : Env} {R : Room} {s : State} {m : MethodId} {args : Array Value} {below : List Frame} {meth : Method} {c : Code} (C : Cx 0 D cy ad p R s m args meth c cX9_copy 4 RX9 none 0) {a1 : Int32} {a2 : Int32}  {v3 : Int32} {σ : Mem} {Q : State → Prop} {r : Mem} (hL : Lim (T := Mem) (fun s => b_X9_copy_2 a1 a2 s.1 s.2) (v3, σ) = some r) (hE0 : ∀ (σ1 : Mem), (σ1 : Mem) = r → ∀ (H : Heap) (locs : List Loc) (ls : Array Slot), Wd 0 D cy ad s σ1 H locs → lv_has ls 4 [] → W p l e R s m args below meth c H locs 0 0 Q (F0 m 30 ls [])) (H : Heap) (locs : List Loc) (ls : Array Slot) (hw : Wd 0 D cy ad s σ H locs) (hl : lv_has ls 4 [(0, .ref (ad (0))), (1, .int a1), (2, .int a2), (3, .int v3)]) : W p l e R s m args below meth c H locs 0 0 Q (F0 m 2 ls []) := by
  refine Lim_ind hL (P := fun u => ∀ (H : Heap) (locs : List Loc) (ls : Array Slot), Wd 0 D cy ad s u.2 H locs → lv_has ls 4 [(0, .ref (ad (0))), (1, .int a1), (2, .int a2), (3, .int u.1)] → W p l e R s m args below meth c H locs 0 0 Q (F0 m 2 ls [])) (fun u x h hx H locs ls hw hl => ?_) H locs ls hw hl
  clear hL
  obtain ⟨v3, σ⟩ := u
  have h : b_X9_copy_2 a1 a2 v3 σ = some x := h
  have hw : Wd 0 D cy ad s σ H locs := hw
  have hl : lv_has ls 4 [(0, .ref (ad (0))), (1, .int a1), (2, .int a2), (3, .int v3)] := hl
  have hP : ∀ (u : (Int32 × Mem)), (∀ (H : Heap) (locs : List Loc) (ls : Array Slot), Wd 0 D cy ad s u.2 H locs → lv_has ls 4 [(0, .ref (ad (0))), (1, .int a1), (2, .int a2), (3, .int u.1)] → W p l e R s m args below meth c H locs 0 0 Q (F0 m 2 ls [])) → ∀ (H : Heap) (locs : List Loc) (ls : Array Slot), Wd 0 D cy ad s u.2 H locs → lv_has ls 4 [(0, .ref (ad (0))), (1, .int a1), (2, .int a2), (3, .int u.1)] → W p l e R s m args below meth c H locs 0 0 Q (F0 m 2 ls []) := fun _ k => k
  unfold b_X9_copy_2 at h
  refine lv_iload_n C.1 C.2.1 dX9_copy_2 rfl (lv_at hl 3 rfl) ?_
  refine lv_bipush (v := (34 : Int32)) C.1 C.2.1 dX9_copy_3 (by decide) ?_
  refine lv_icmp_ge (tgt := 30) C.1 C.2.1 dX9_copy_5 (by decide) (fun cd => ?_) (fun cd => ?_)
  · have h := ite_t cd h
    obtain rfl := Option.some.inj h
    exact hE0 _ hx _ _ _ hw (lv_sub hl [] rfl)
  · have h := ite_f cd h
    refine lv_aload_n C.1 C.2.1 dX9_copy_8 rfl (lv_at hl 0 rfl) ?_
    refine gf_X9_29 C hw dX9_copy_9 ?_
    refine lv_iload_n C.1 C.2.1 dX9_copy_12 rfl (lv_at hl 2 rfl) ?_
    refine lv_iload_n C.1 C.2.1 dX9_copy_13 rfl (lv_at hl 3 rfl) ?_
    refine lv_iadd C.1 C.2.1 dX9_copy_14 ?_
    refine lv_aload_n C.1 C.2.1 dX9_copy_15 rfl (lv_at hl 0 rfl) ?_
    refine gf_X9_29 C hw dX9_copy_16 ?_
    refine lv_iload_n C.1 C.2.1 dX9_copy_19 rfl (lv_at hl 1 rfl) ?_
    refine lv_iload_n C.1 C.2.1 dX9_copy_20 rfl (lv_at hl 3 rfl) ?_
    refine lv_iadd C.1 C.2.1 dX9_copy_21 ?_
    obtain ⟨hin, h⟩ := gd_of h
    refine m_iald C hw a0_7 hin dX9_copy_22 ?_
    obtain ⟨hin, h⟩ := gd_of h
    refine m_iast C hw a0_7 hin dX9_copy_23 (fun H locs hw => ?_)
    obtain ⟨σ1, eσ1, h⟩ := lt_of h
    rw [← eσ1] at hw
    obtain ⟨x2, ex2, h⟩ := lt_of h
    refine m_iinc (k := 3) (lv' := [(3, .int _), (0, .ref _), (1, .int _), (2, .int _)]) C (1 : Int32) (by decide) dX9_copy_24 hl rfl ex2.symm (by decide) rfl (fun ls hl => ?_)
    refine lv_goto (tgt := 2) C.1 C.2.1 dX9_copy_27 (by decide) ?_
    obtain rfl := Option.some.inj h
    exact hP _ hx _ _ _ hw (lv_sub hl [1, 2, 3, 0] rfl)
set_option maxRecDepth 20000 in
theorem c_X9_copy {l : Launch} {D : va_G} {cy : Nat → ClassId} {ad : Nat → Nat} (hj : InjW 0 ad) (a1 : Int32) (a2 : Int32)  (σ : Mem) (r : Mem) (h : f_X9_copy a1 a2 σ = some r) : CV 0 D cy ad l yX9_copy cX9_copy 4 none 0 [.ref (ad (0)), .int a1, .int a2] σ r := by
  refine CV.mk (by decide) hj (Nat.le_of_ble_eq_true rfl) (fun p e R s m below meth c ls C hw hl => ?_)
  have hl : lv_has ls 4 [(0, .ref (ad (0))), (1, .int a1), (2, .int a2)] := hl
  generalize ([.ref (ad (0)), .int a1, .int a2] : List Value).toArray = args at C ⊢
  have C : Cx 0 D cy ad p R s m args meth c cX9_copy 4 RX9 none 0 := C
  unfold f_X9_copy at h
  refine lv_iconst (v := (0 : Int32)) C.1 C.2.1 dX9_copy_0 (by decide) ?_
  refine lv_istore_n (lv' := [(3, .int _), (0, .ref _), (1, .int _), (2, .int _)]) C.1 C.2.1 dX9_copy_1 rfl hl (by decide) rfl (fun ls hl => ?_)
  obtain ⟨r3, hL, h⟩ := bS h
  refine w_X9_copy_2 C  hL (fun y0 hr H locs ls hw hl => ?_) _ _ _ hw (lv_sub hl [1, 2, 3, 0] rfl)
  · subst hr
    try dsimp only at h
    try dsimp only at hw
    try dsimp only at hl
    exact m_vret C hw (Option.some.inj h) dX9_copy_30
noncomputable def f_X9_keep (a1 : Int32) (σ : Mem) : Option (Int32 × Mem) :=
  if (f_X9_in a1 (0 : Int32) (1 : Int32)) = 0 then (some ((-1 : Int32), σ)) else ((f_X9_copy (0 : Int32) ((34 : Int32) * ((1 : Int32) + a1)) σ).bind (fun r1 => gd (ix a1 2) (lt (sI r1 8 a1.toNatClampNeg (vp_nar .boolean (1 : Int32))) (fun σ2 => (f_X9_bitsIn (σ2.1 7 (0 : Int32).toNatClampNeg) σ2).bind (fun r3 => some (r3, σ2))))))
set_option maxRecDepth 20000 in
theorem c_X9_keep {l : Launch} {D : va_G} {cy : Nat → ClassId} {ad : Nat → Nat} (hj : InjW 0 ad) (a1 : Int32)  (σ : Mem) (r : (Int32 × Mem)) (h : f_X9_keep a1 σ = some r) : CI 0 D cy ad l yX9_keep cX9_keep 2 (some .int) 1 [.ref (ad (0)), .int a1] σ r.1 r.2 := by
  refine CI.mk (by decide) hj (Nat.le_of_ble_eq_true rfl) (fun p e R s m below meth c ls C hw hl => ?_)
  have hl : lv_has ls 2 [(0, .ref (ad (0))), (1, .int a1)] := hl
  generalize ([.ref (ad (0)), .int a1] : List Value).toArray = args at C ⊢
  have C : Cx 0 D cy ad p R s m args meth c cX9_keep 2 RX9 (some .int) 1 := C
  unfold f_X9_keep at h
  refine lv_iload_n C.1 C.2.1 dX9_keep_0 rfl (lv_at hl 1 rfl) ?_
  refine lv_iconst (v := (0 : Int32)) C.1 C.2.1 dX9_keep_1 (by decide) ?_
  refine lv_iconst (v := (1 : Int32)) C.1 C.2.1 dX9_keep_2 (by decide) ?_
  refine go_I hw (run_S (As := [.int _, .int _, .int _]) C hw (c_X9_in C.2.2.2.2.2.2.2.2.2 _ _ _ _) mi_X9_in ms_X9_in lk_X9_88 (by decide) (by decide) rfl hl.1 rfl (Nat.le_of_ble_eq_true rfl) dX9_keep_3 ⟨Nat.le_refl 0, Nat.le_refl 0⟩) (fun H locs hw => ?_)
  refine lv_if_ne (tgt := 11) C.1 C.2.1 dX9_keep_6 (by decide) (fun cd => ?_) (fun cd => ?_)
  · have h := ite_f cd h
    refine lv_aload_n C.1 C.2.1 dX9_keep_11 rfl (lv_at hl 0 rfl) ?_
    refine lv_iconst (v := (0 : Int32)) C.1 C.2.1 dX9_keep_12 (by decide) ?_
    refine lv_bipush (v := (34 : Int32)) C.1 C.2.1 dX9_keep_13 (by decide) ?_
    refine lv_iconst (v := (1 : Int32)) C.1 C.2.1 dX9_keep_15 (by decide) ?_
    refine lv_iload_n C.1 C.2.1 dX9_keep_16 rfl (lv_at hl 1 rfl) ?_
    refine lv_iadd C.1 C.2.1 dX9_keep_17 ?_
    refine lv_imul C.1 C.2.1 dX9_keep_18 ?_
    obtain ⟨r1, h1, h⟩ := bS h
    refine go_V hw (run_V (As := [.int _, .int _]) C hw (c_X9_copy C.2.2.2.2.2.2.2.2.2 _ _ _ _ h1) mi_X9_copy mv_X9_copy o0_0 (ci := 9) rfl rfl lk_X9_265 (by decide) (by decide) rfl hl.1 rfl (Nat.le_of_ble_eq_true rfl) dX9_keep_19 ⟨Nat.le_refl 0, Nat.le_refl 0⟩) (fun H locs hw => ?_)
    refine lv_aload_n C.1 C.2.1 dX9_keep_22 rfl (lv_at hl 0 rfl) ?_
    refine gf_X9_32 C hw dX9_keep_23 ?_
    refine lv_iload_n C.1 C.2.1 dX9_keep_26 rfl (lv_at hl 1 rfl) ?_
    refine lv_iconst (v := (1 : Int32)) C.1 C.2.1 dX9_keep_27 (by decide) ?_
    obtain ⟨hin, h⟩ := gd_of h
    refine m_zast C hw a0_8 hin dX9_keep_28 (fun H locs hw => ?_)
    obtain ⟨σ2, eσ2, h⟩ := lt_of h
    rw [← eσ2] at hw
    refine lv_aload_n C.1 C.2.1 dX9_keep_29 rfl (lv_at hl 0 rfl) ?_
    refine gf_X9_29 C hw dX9_keep_30 ?_
    refine lv_iconst (v := (0 : Int32)) C.1 C.2.1 dX9_keep_33 (by decide) ?_
    have hin : vp_in (0 : Int32) 102 := (by decide : ix (0 : Int32) 102)
    refine m_iald C hw a0_7 hin dX9_keep_34 ?_
    obtain ⟨r3, h1, h⟩ := bS h
    refine go_I hw (run_S (As := [.int _]) C hw (c_X9_bitsIn C.2.2.2.2.2.2.2.2.2 _ _ _ h1) mi_X9_bitsIn ms_X9_bitsIn lk_X9_260 (by decide) (by decide) rfl hl.1 rfl (Nat.le_of_ble_eq_true rfl) dX9_keep_35 ⟨Nat.le_refl 0, Nat.le_refl 0⟩) (fun H locs hw => ?_)
    exact m_iret C hw (ret_p h) dX9_keep_38
  · have h := ite_t cd h
    refine lv_iconst (v := (-1 : Int32)) C.1 C.2.1 dX9_keep_9 (by decide) ?_
    exact m_iret C hw (ret_p h) dX9_keep_10
noncomputable def f_X9_back (a1 : Int32) (σ : Mem) : Option (Int32 × Mem) :=
  if (f_X9_in a1 (0 : Int32) (1 : Int32)) = 0 then (some ((-1 : Int32), σ)) else (gd (ix a1 2) (if (σ.1 8 a1.toNatClampNeg) = 0 then (some ((-2 : Int32), σ)) else ((f_X9_copy ((34 : Int32) * ((1 : Int32) + a1)) (0 : Int32) σ).bind (fun r1 => (f_X9_bitsIn (r1.1 7 (0 : Int32).toNatClampNeg) r1).bind (fun r2 => some (r2, r1))))))
set_option maxRecDepth 20000 in
theorem c_X9_back {l : Launch} {D : va_G} {cy : Nat → ClassId} {ad : Nat → Nat} (hj : InjW 0 ad) (a1 : Int32)  (σ : Mem) (r : (Int32 × Mem)) (h : f_X9_back a1 σ = some r) : CI 0 D cy ad l yX9_back cX9_back 2 (some .int) 1 [.ref (ad (0)), .int a1] σ r.1 r.2 := by
  refine CI.mk (by decide) hj (Nat.le_of_ble_eq_true rfl) (fun p e R s m below meth c ls C hw hl => ?_)
  have hl : lv_has ls 2 [(0, .ref (ad (0))), (1, .int a1)] := hl
  generalize ([.ref (ad (0)), .int a1] : List Value).toArray = args at C ⊢
  have C : Cx 0 D cy ad p R s m args meth c cX9_back 2 RX9 (some .int) 1 := C
  unfold f_X9_back at h
  refine lv_iload_n C.1 C.2.1 dX9_back_0 rfl (lv_at hl 1 rfl) ?_
  refine lv_iconst (v := (0 : Int32)) C.1 C.2.1 dX9_back_1 (by decide) ?_
  refine lv_iconst (v := (1 : Int32)) C.1 C.2.1 dX9_back_2 (by decide) ?_
  refine go_I hw (run_S (As := [.int _, .int _, .int _]) C hw (c_X9_in C.2.2.2.2.2.2.2.2.2 _ _ _ _) mi_X9_in ms_X9_in lk_X9_88 (by decide) (by decide) rfl hl.1 rfl (Nat.le_of_ble_eq_true rfl) dX9_back_3 ⟨Nat.le_refl 0, Nat.le_refl 0⟩) (fun H locs hw => ?_)
  refine lv_if_ne (tgt := 11) C.1 C.2.1 dX9_back_6 (by decide) (fun cd => ?_) (fun cd => ?_)
  · have h := ite_f cd h
    refine lv_aload_n C.1 C.2.1 dX9_back_11 rfl (lv_at hl 0 rfl) ?_
    refine gf_X9_32 C hw dX9_back_12 ?_
    refine lv_iload_n C.1 C.2.1 dX9_back_15 rfl (lv_at hl 1 rfl) ?_
    obtain ⟨hin, h⟩ := gd_of h
    refine m_zald C hw a0_8 hin dX9_back_16 ?_
    refine lv_if_ne (tgt := 23) C.1 C.2.1 dX9_back_17 (by decide) (fun cd => ?_) (fun cd => ?_)
    · have h := ite_f cd h
      refine lv_aload_n C.1 C.2.1 dX9_back_23 rfl (lv_at hl 0 rfl) ?_
      refine lv_bipush (v := (34 : Int32)) C.1 C.2.1 dX9_back_24 (by decide) ?_
      refine lv_iconst (v := (1 : Int32)) C.1 C.2.1 dX9_back_26 (by decide) ?_
      refine lv_iload_n C.1 C.2.1 dX9_back_27 rfl (lv_at hl 1 rfl) ?_
      refine lv_iadd C.1 C.2.1 dX9_back_28 ?_
      refine lv_imul C.1 C.2.1 dX9_back_29 ?_
      refine lv_iconst (v := (0 : Int32)) C.1 C.2.1 dX9_back_30 (by decide) ?_
      obtain ⟨r1, h1, h⟩ := bS h
      refine go_V hw (run_V (As := [.int _, .int _]) C hw (c_X9_copy C.2.2.2.2.2.2.2.2.2 _ _ _ _ h1) mi_X9_copy mv_X9_copy o0_0 (ci := 9) rfl rfl lk_X9_265 (by decide) (by decide) rfl hl.1 rfl (Nat.le_of_ble_eq_true rfl) dX9_back_31 ⟨Nat.le_refl 0, Nat.le_refl 0⟩) (fun H locs hw => ?_)
      refine lv_aload_n C.1 C.2.1 dX9_back_34 rfl (lv_at hl 0 rfl) ?_
      refine gf_X9_29 C hw dX9_back_35 ?_
      refine lv_iconst (v := (0 : Int32)) C.1 C.2.1 dX9_back_38 (by decide) ?_
      have hin : vp_in (0 : Int32) 102 := (by decide : ix (0 : Int32) 102)
      refine m_iald C hw a0_7 hin dX9_back_39 ?_
      obtain ⟨r2, h1, h⟩ := bS h
      refine go_I hw (run_S (As := [.int _]) C hw (c_X9_bitsIn C.2.2.2.2.2.2.2.2.2 _ _ _ h1) mi_X9_bitsIn ms_X9_bitsIn lk_X9_260 (by decide) (by decide) rfl hl.1 rfl (Nat.le_of_ble_eq_true rfl) dX9_back_40 ⟨Nat.le_refl 0, Nat.le_refl 0⟩) (fun H locs hw => ?_)
      exact m_iret C hw (ret_p h) dX9_back_43
    · have h := ite_t cd h
      refine lv_bipush (v := (-2 : Int32)) C.1 C.2.1 dX9_back_20 (by decide) ?_
      exact m_iret C hw (ret_p h) dX9_back_22
  · have h := ite_t cd h
    refine lv_iconst (v := (-1 : Int32)) C.1 C.2.1 dX9_back_9 (by decide) ?_
    exact m_iret C hw (ret_p h) dX9_back_10
noncomputable def f_X9_count (a1 : Int32) (σ : Mem) : Option Int32 :=
  if a1 = 0 then (some (σ.1 2 (0 : Int32).toNatClampNeg)) else (if a1 = (1 : Int32) then ((f_X9_bitsIn (σ.1 7 (0 : Int32).toNatClampNeg) σ).bind (fun r1 => some r1)) else (if a1 = (2 : Int32) then (some (σ.1 7 (1 : Int32).toNatClampNeg)) else (if a1 = (3 : Int32) then (some (σ.1 7 (2 : Int32).toNatClampNeg)) else (if a1 = (4 : Int32) then (some (σ.1 0 2)) else (some (-1 : Int32))))))
set_option maxRecDepth 20000 in
theorem c_X9_count {l : Launch} {D : va_G} {cy : Nat → ClassId} {ad : Nat → Nat} (hj : InjW 0 ad) (a1 : Int32)  (σ : Mem) (r : Int32) (h : f_X9_count a1 σ = some r) : CI 0 D cy ad l yX9_count cX9_count 2 (some .int) 1 [.ref (ad (0)), .int a1] σ r σ := by
  refine CI.mk (by decide) hj (Nat.le_of_ble_eq_true rfl) (fun p e R s m below meth c ls C hw hl => ?_)
  have hl : lv_has ls 2 [(0, .ref (ad (0))), (1, .int a1)] := hl
  generalize ([.ref (ad (0)), .int a1] : List Value).toArray = args at C ⊢
  have C : Cx 0 D cy ad p R s m args meth c cX9_count 2 RX9 (some .int) 1 := C
  unfold f_X9_count at h
  refine lv_iload_n C.1 C.2.1 dX9_count_0 rfl (lv_at hl 1 rfl) ?_
  refine lv_if_ne (tgt := 13) C.1 C.2.1 dX9_count_1 (by decide) (fun cd => ?_) (fun cd => ?_)
  · have h := ite_f cd h
    refine lv_iload_n C.1 C.2.1 dX9_count_13 rfl (lv_at hl 1 rfl) ?_
    refine lv_iconst (v := (1 : Int32)) C.1 C.2.1 dX9_count_14 (by decide) ?_
    refine lv_icmp_ne (tgt := 30) C.1 C.2.1 dX9_count_15 (by decide) (fun cd => ?_) (fun cd => ?_)
    · have h := ite_f cd h
      refine lv_iload_n C.1 C.2.1 dX9_count_30 rfl (lv_at hl 1 rfl) ?_
      refine lv_iconst (v := (2 : Int32)) C.1 C.2.1 dX9_count_31 (by decide) ?_
      refine lv_icmp_ne (tgt := 44) C.1 C.2.1 dX9_count_32 (by decide) (fun cd => ?_) (fun cd => ?_)
      · have h := ite_f cd h
        refine lv_iload_n C.1 C.2.1 dX9_count_44 rfl (lv_at hl 1 rfl) ?_
        refine lv_iconst (v := (3 : Int32)) C.1 C.2.1 dX9_count_45 (by decide) ?_
        refine lv_icmp_ne (tgt := 58) C.1 C.2.1 dX9_count_46 (by decide) (fun cd => ?_) (fun cd => ?_)
        · have h := ite_f cd h
          refine lv_iload_n C.1 C.2.1 dX9_count_58 rfl (lv_at hl 1 rfl) ?_
          refine lv_iconst (v := (4 : Int32)) C.1 C.2.1 dX9_count_59 (by decide) ?_
          refine lv_icmp_ne (tgt := 70) C.1 C.2.1 dX9_count_60 (by decide) (fun cd => ?_) (fun cd => ?_)
          · have h := ite_f cd h
            refine lv_iconst (v := (-1 : Int32)) C.1 C.2.1 dX9_count_70 (by decide) ?_
            exact m_iret C hw (ret_i h) dX9_count_71
          · have h := ite_t cd h
            refine lv_aload_n C.1 C.2.1 dX9_count_63 rfl (lv_at hl 0 rfl) ?_
            refine gf_X9_92 C hw dX9_count_64 ?_
            refine lv_goto (tgt := 71) C.1 C.2.1 dX9_count_67 (by decide) ?_
            exact m_iret C hw (ret_i h) dX9_count_71
        · have h := ite_t cd h
          refine lv_aload_n C.1 C.2.1 dX9_count_49 rfl (lv_at hl 0 rfl) ?_
          refine gf_X9_29 C hw dX9_count_50 ?_
          refine lv_iconst (v := (2 : Int32)) C.1 C.2.1 dX9_count_53 (by decide) ?_
          have hin : vp_in (2 : Int32) 102 := (by decide : ix (2 : Int32) 102)
          refine m_iald C hw a0_7 hin dX9_count_54 ?_
          refine lv_goto (tgt := 71) C.1 C.2.1 dX9_count_55 (by decide) ?_
          exact m_iret C hw (ret_i h) dX9_count_71
      · have h := ite_t cd h
        refine lv_aload_n C.1 C.2.1 dX9_count_35 rfl (lv_at hl 0 rfl) ?_
        refine gf_X9_29 C hw dX9_count_36 ?_
        refine lv_iconst (v := (1 : Int32)) C.1 C.2.1 dX9_count_39 (by decide) ?_
        have hin : vp_in (1 : Int32) 102 := (by decide : ix (1 : Int32) 102)
        refine m_iald C hw a0_7 hin dX9_count_40 ?_
        refine lv_goto (tgt := 71) C.1 C.2.1 dX9_count_41 (by decide) ?_
        exact m_iret C hw (ret_i h) dX9_count_71
    · have h := ite_t cd h
      refine lv_aload_n C.1 C.2.1 dX9_count_18 rfl (lv_at hl 0 rfl) ?_
      refine gf_X9_29 C hw dX9_count_19 ?_
      refine lv_iconst (v := (0 : Int32)) C.1 C.2.1 dX9_count_22 (by decide) ?_
      have hin : vp_in (0 : Int32) 102 := (by decide : ix (0 : Int32) 102)
      refine m_iald C hw a0_7 hin dX9_count_23 ?_
      obtain ⟨r1, h1, h⟩ := bS h
      refine go_I hw (run_S (As := [.int _]) C hw (c_X9_bitsIn C.2.2.2.2.2.2.2.2.2 _ _ _ h1) mi_X9_bitsIn ms_X9_bitsIn lk_X9_260 (by decide) (by decide) rfl hl.1 rfl (Nat.le_of_ble_eq_true rfl) dX9_count_24 ⟨Nat.le_refl 0, Nat.le_refl 0⟩) (fun H locs hw => ?_)
      refine lv_goto (tgt := 71) C.1 C.2.1 dX9_count_27 (by decide) ?_
      exact m_iret C hw (ret_i h) dX9_count_71
  · have h := ite_t cd h
    refine lv_aload_n C.1 C.2.1 dX9_count_4 rfl (lv_at hl 0 rfl) ?_
    refine gf_X9_13 C hw dX9_count_5 ?_
    refine lv_iconst (v := (0 : Int32)) C.1 C.2.1 dX9_count_8 (by decide) ?_
    have hin : vp_in (0 : Int32) 2 := (by decide : ix (0 : Int32) 2)
    refine m_iald C hw a0_2 hin dX9_count_9 ?_
    refine lv_goto (tgt := 71) C.1 C.2.1 dX9_count_10 (by decide) ?_
    exact m_iret C hw (ret_i h) dX9_count_71
def f_X9_trace  (σ : Mem) : Int64 :=
  σ.2.1 0 0
set_option maxRecDepth 20000 in
theorem c_X9_trace {l : Launch} {D : va_G} {cy : Nat → ClassId} {ad : Nat → Nat} (hj : InjW 0 ad)   (σ : Mem) : CL 0 D cy ad l yX9_trace cX9_trace 1 (some .long) 0 [.ref (ad (0))] σ (f_X9_trace σ) σ := by
  refine CL.mk (by decide) hj (Nat.le_of_ble_eq_true rfl) (fun p e R s m below meth c ls C hw hl => ?_)
  have hl : lv_has ls 1 [(0, .ref (ad (0)))] := hl
  generalize ([.ref (ad (0))] : List Value).toArray = args at C ⊢
  have C : Cx 0 D cy ad p R s m args meth c cX9_trace 1 RX9 (some .long) 0 := C
  obtain ⟨r, h⟩ : ∃ r, f_X9_trace σ = r := ⟨_, rfl⟩
  rw [h]
  unfold f_X9_trace at h
  refine lv_aload_n C.1 C.2.1 dX9_trace_0 rfl (lv_at hl 0 rfl) ?_
  refine gf_X9_248 C hw dX9_trace_1 ?_
  exact m_lret C hw ⟨h, rfl⟩ dX9_trace_4
