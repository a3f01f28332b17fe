/-! the class: functions and walks, 2 -/
noncomputable def j_X4_nearest_42  (v1 : Int32) (v2 : Int32) (σ : Mem) : Option ((Int32 × Int32) ⊕ Int32) :=
  lt (v2 + (1 : Int32)) (fun x1 => some (.inl (v1, x1)))
noncomputable def j_X4_nearest_40  (v2 : Int32) (σ : Mem) : Option ((Int32 × Int32) ⊕ Int32) :=
  j_X4_nearest_42 v2 v2 σ
noncomputable def b_X4_nearest_4  (v1 : Int32) (v2 : Int32) (σ : Mem) : Option ((Int32 × Int32) ⊕ Int32) :=
  if (σ.1 9 17) ≤ v2 then (some (.inr v1)) else (gd (ix v2 120) (if (σ.1 17 v2.toNatClampNeg) = 0 then (if v1 < 0 then (j_X4_nearest_40 v2 σ) else (gd (ix v2 120) (gd (ix v1 120) (if (σ.1 13 v1.toNatClampNeg) ≤ (σ.1 13 v2.toNatClampNeg) then (j_X4_nearest_42 v1 v2 σ) else (j_X4_nearest_40 v2 σ))))) else (j_X4_nearest_42 v1 v2 σ)))
noncomputable def f_X4_nearest  (σ : Mem) : Option Int32 :=
  (Lim (T := Int32) (fun s => b_X4_nearest_4 s.1 s.2 σ) ((-1 : Int32), (0 : Int32))).bind (fun r2 => some r2)
set_option maxRecDepth 20000 in
theorem w_X4_nearest_42 {D : va_G} {cy : Nat → ClassId} {ad : Nat → Nat} {p : Program} {l : Launch} {e : Env} {R : Room} {s : State} {m : MethodId} {args : Array Value} {below : List Frame} {meth : Method} {c : Code} (C : Cx 1 D cy ad p R s m args meth c cX4_nearest 3 RX4 (some .int) 0)   {v1 : Int32} {v2 : Int32}  {σ : Mem} {H : Heap} {locs : List Loc} {ls : Array Slot} {Q : State → Prop} {P : (Int32 × Int32) → Prop} {r : Int32} {x : (Int32 × Int32) ⊕ Int32} (hx : LimQ P r x) (hP : ∀ u, P u → ∀ (H : Heap) (locs : List Loc) (ls : Array Slot), Wd 1 D cy ad s σ H locs → lv_has ls 3 [(0, .ref (ad (9))), (1, .int u.1), (2, .int u.2)] → W p l e R s m args below meth c H locs 0 0 Q (F0 m 4 ls [])) (hE0 : ∀ (v1 : Int32), (v1 : Int32) = r → ∀ (H : Heap) (locs : List Loc) (ls : Array Slot), Wd 1 D cy ad s σ H locs → lv_has ls 3 [(1, .int v1)] → W p l e R s m args below meth c H locs 0 0 Q (F0 m 48 ls [])) (hw : Wd 1 D cy ad s σ H locs) (hl : lv_has ls 3 [(0, .ref (ad (9))), (1, .int v1), (2, .int v2)]) (h : j_X4_nearest_42 v1 v2 σ = some x) : W p l e R s m args below meth c H locs 0 0 Q (F0 m 42 ls []) := by
  unfold j_X4_nearest_42 at h
  obtain ⟨x1, ex1, h⟩ := lt_of h
  refine m_iinc (k := 2) (lv' := [(2, .int _), (0, .ref _), (1, .int _)]) C (1 : Int32) (by decide) dX4_nearest_42 hl rfl ex1.symm (by decide) rfl (fun ls hl => ?_)
  refine lv_goto (tgt := 4) C.1 C.2.1 dX4_nearest_45 (by decide) ?_
  obtain rfl := Option.some.inj h
  exact hP _ hx _ _ _ hw (lv_sub hl [1, 2, 0] rfl)
set_option maxRecDepth 20000 in
theorem w_X4_nearest_40 {D : va_G} {cy : Nat → ClassId} {ad : Nat → Nat} {p : Program} {l : Launch} {e : Env} {R : Room} {s : State} {m : MethodId} {args : Array Value} {below : List Frame} {meth : Method} {c : Code} (C : Cx 1 D cy ad p R s m args meth c cX4_nearest 3 RX4 (some .int) 0)   {v2 : Int32}  {σ : Mem} {H : Heap} {locs : List Loc} {ls : Array Slot} {Q : State → Prop} {P : (Int32 × Int32) → Prop} {r : Int32} {x : (Int32 × Int32) ⊕ Int32} (hx : LimQ P r x) (hP : ∀ u, P u → ∀ (H : Heap) (locs : List Loc) (ls : Array Slot), Wd 1 D cy ad s σ H locs → lv_has ls 3 [(0, .ref (ad (9))), (1, .int u.1), (2, .int u.2)] → W p l e R s m args below meth c H locs 0 0 Q (F0 m 4 ls [])) (hE0 : ∀ (v1 : Int32), (v1 : Int32) = r → ∀ (H : Heap) (locs : List Loc) (ls : Array Slot), Wd 1 D cy ad s σ H locs → lv_has ls 3 [(1, .int v1)] → W p l e R s m args below meth c H locs 0 0 Q (F0 m 48 ls [])) (hw : Wd 1 D cy ad s σ H locs) (hl : lv_has ls 3 [(0, .ref (ad (9))), (2, .int v2)]) (h : j_X4_nearest_40 v2 σ = some x) : W p l e R s m args below meth c H locs 0 0 Q (F0 m 40 ls []) := by
  unfold j_X4_nearest_40 at h
  refine lv_iload_n C.1 C.2.1 dX4_nearest_40 rfl (lv_at hl 1 rfl) ?_
  refine lv_istore_n (lv' := [(1, .int _), (0, .ref _), (2, .int _)]) C.1 C.2.1 dX4_nearest_41 rfl hl (by decide) rfl (fun ls hl => ?_)
  exact w_X4_nearest_42 C hx hP hE0 hw (lv_sub hl [1, 0, 2] rfl) h
set_option maxRecDepth 20000 in
theorem w_X4_nearest_4 {D : va_G} {cy : Nat → ClassId} {ad : Nat → Nat} {p : Program} {l : Launch} {e : Env} {R : Room} {s : State} {m : MethodId} {args : Array Value} {below : List Frame} {meth : Method} {c : Code} (C : Cx 1 D cy ad p R s m args meth c cX4_nearest 3 RX4 (some .int) 0)   {v1 : Int32} {v2 : Int32} {σ : Mem} {Q : State → Prop} {r : Int32} (hL : Lim (T := Int32) (fun s => b_X4_nearest_4 s.1 s.2 σ) (v1, v2) = some r) (hE0 : ∀ (v1 : Int32), (v1 : Int32) = r → ∀ (H : Heap) (locs : List Loc) (ls : Array Slot), Wd 1 D cy ad s σ H locs → lv_has ls 3 [(1, .int v1)] → W p l e R s m args below meth c H locs 0 0 Q (F0 m 48 ls [])) (H : Heap) (locs : List Loc) (ls : Array Slot) (hw : Wd 1 D cy ad s σ H locs) (hl : lv_has ls 3 [(0, .ref (ad (9))), (1, .int v1), (2, .int v2)]) : W p l e R s m args below meth c H locs 0 0 Q (F0 m 4 ls []) := by
  refine Lim_ind hL (P := fun u => ∀ (H : Heap) (locs : List Loc) (ls : Array Slot), Wd 1 D cy ad s σ H locs → lv_has ls 3 [(0, .ref (ad (9))), (1, .int u.1), (2, .int u.2)] → W p l e R s m args below meth c H locs 0 0 Q (F0 m 4 ls [])) (fun u x h hx H locs ls hw hl => ?_) H locs ls hw hl
  clear hL
  obtain ⟨v1, v2⟩ := u
  have h : b_X4_nearest_4 v1 v2 σ = some x := h
  have hw : Wd 1 D cy ad s σ H locs := hw
  have hl : lv_has ls 3 [(0, .ref (ad (9))), (1, .int v1), (2, .int v2)] := hl
  have hP : ∀ (u : (Int32 × Int32)), (∀ (H : Heap) (locs : List Loc) (ls : Array Slot), Wd 1 D cy ad s σ H locs → lv_has ls 3 [(0, .ref (ad (9))), (1, .int u.1), (2, .int u.2)] → W p l e R s m args below meth c H locs 0 0 Q (F0 m 4 ls [])) → ∀ (H : Heap) (locs : List Loc) (ls : Array Slot), Wd 1 D cy ad s σ H locs → lv_has ls 3 [(0, .ref (ad (9))), (1, .int u.1), (2, .int u.2)] → W p l e R s m args below meth c H locs 0 0 Q (F0 m 4 ls []) := fun _ k => k
  unfold b_X4_nearest_4 at h
  refine lv_iload_n C.1 C.2.1 dX4_nearest_4 rfl (lv_at hl 2 rfl) ?_
  refine lv_aload_n C.1 C.2.1 dX4_nearest_5 rfl (lv_at hl 0 rfl) ?_
  refine gf_X4_78 C hw dX4_nearest_6 ?_
  refine lv_icmp_ge (tgt := 48) C.1 C.2.1 dX4_nearest_9 (by decide) (fun cd => ?_) (fun cd => ?_)
  · have h := ite_t cd h
    obtain rfl := Option.some.inj h
    exact hE0 _ hx _ _ _ hw (lv_sub hl [1] rfl)
  · have h := ite_f cd h
    refine lv_aload_n C.1 C.2.1 dX4_nearest_12 rfl (lv_at hl 0 rfl) ?_
    refine gf_X4_33 C hw dX4_nearest_13 ?_
    refine lv_iload_n C.1 C.2.1 dX4_nearest_16 rfl (lv_at hl 2 rfl) ?_
    obtain ⟨hin, h⟩ := gd_of h
    refine m_zald C hw a1_17 hin dX4_nearest_17 ?_
    refine lv_if_ne (tgt := 42) C.1 C.2.1 dX4_nearest_18 (by decide) (fun cd => ?_) (fun cd => ?_)
    · have h := ite_f cd h
      exact w_X4_nearest_42 C hx hP hE0 hw (lv_sub hl [0, 1, 2] rfl) h
    · have h := ite_t cd h
      refine lv_iload_n C.1 C.2.1 dX4_nearest_21 rfl (lv_at hl 1 rfl) ?_
      refine lv_if_lt (tgt := 40) C.1 C.2.1 dX4_nearest_22 (by decide) (fun cd => ?_) (fun cd => ?_)
      · have h := ite_t cd h
        exact w_X4_nearest_40 C hx hP hE0 hw (lv_sub hl [0, 2] rfl) h
      · have h := ite_f cd h
        refine lv_aload_n C.1 C.2.1 dX4_nearest_25 rfl (lv_at hl 0 rfl) ?_
        refine gf_X4_21 C hw dX4_nearest_26 ?_
        refine lv_iload_n C.1 C.2.1 dX4_nearest_29 rfl (lv_at hl 2 rfl) ?_
        obtain ⟨hin, h⟩ := gd_of h
        refine m_iald C hw a1_13 hin dX4_nearest_30 ?_
        refine lv_aload_n C.1 C.2.1 dX4_nearest_31 rfl (lv_at hl 0 rfl) ?_
        refine gf_X4_21 C hw dX4_nearest_32 ?_
        refine lv_iload_n C.1 C.2.1 dX4_nearest_35 rfl (lv_at hl 1 rfl) ?_
        obtain ⟨hin, h⟩ := gd_of h
        refine m_iald C hw a1_13 hin dX4_nearest_36 ?_
        refine lv_icmp_ge (tgt := 42) C.1 C.2.1 dX4_nearest_37 (by decide) (fun cd => ?_) (fun cd => ?_)
        · have h := ite_t cd h
          exact w_X4_nearest_42 C hx hP hE0 hw (lv_sub hl [0, 1, 2] rfl) h
        · have h := ite_f cd h
          exact w_X4_nearest_40 C hx hP hE0 hw (lv_sub hl [0, 2] rfl) h
set_option maxRecDepth 20000 in
theorem c_X4_nearest {l : Launch} {D : va_G} {cy : Nat → ClassId} {ad : Nat → Nat} (hj : InjW 1 ad)   (σ : Mem) (r : Int32) (h : f_X4_nearest σ = some r) : CI 1 D cy ad l yX4_nearest cX4_nearest 3 (some .int) 0 [.ref (ad (9))] σ r σ := by
  refine CI.mk (by decide) hj (Nat.le_of_ble_eq_true rfl) (fun p e R s m below meth c ls C hw hl => ?_)
  have hl : lv_has ls 3 [(0, .ref (ad (9)))] := hl
  generalize ([.ref (ad (9))] : List Value).toArray = args at C ⊢
  have C : Cx 1 D cy ad p R s m args meth c cX4_nearest 3 RX4 (some .int) 0 := C
  unfold f_X4_nearest at h
  refine lv_iconst (v := (-1 : Int32)) C.1 C.2.1 dX4_nearest_0 (by decide) ?_
  refine lv_istore_n (lv' := [(1, .int _), (0, .ref _)]) C.1 C.2.1 dX4_nearest_1 rfl hl (by decide) rfl (fun ls hl => ?_)
  refine lv_iconst (v := (0 : Int32)) C.1 C.2.1 dX4_nearest_2 (by decide) ?_
  refine lv_istore_n (lv' := [(2, .int _), (1, .int _), (0, .ref _)]) C.1 C.2.1 dX4_nearest_3 rfl hl (by decide) rfl (fun ls hl => ?_)
  obtain ⟨r2, hL, h⟩ := bS h
  refine w_X4_nearest_4 C  hL (fun y0 hr H locs ls hw hl => ?_) _ _ _ hw (lv_sub hl [2, 1, 0] rfl)
  · subst hr
    try dsimp only at h
    try dsimp only at hw
    try dsimp only at hl
    refine lv_iload_n C.1 C.2.1 dX4_nearest_48 rfl (lv_at hl 0 rfl) ?_
    exact m_iret C hw (ret_i h) dX4_nearest_49
noncomputable def f_X4_join (a1 : Int32) (a2 : Int32) (σ : Mem) : Option Mem :=
  gd (ix a1 120) (gd (ix a2 120) (lt ((σ.1 11 a1.toNatClampNeg) &&& (σ.1 12 a2.toNatClampNeg)) (fun x1 => (f_X4_offer ((σ.1 19 (6 : Int32).toNatClampNeg) &&& x1) (6 : Int32) a1 a2 σ).bind (fun r2 => lt r2.1 (fun x3 => (f_X4_offer ((r2.2.1 19 (7 : Int32).toNatClampNeg) &&& x1) (7 : Int32) a1 a2 r2.2).bind (fun r4 => lt r4.1 (fun x5 => gd (ix ((a1 * (120 : Int32)) + a2) 14400) (lt (sI r4.2 21 ((a1 * (120 : Int32)) + a2).toNatClampNeg (vp_nar .short ((x3 ||| (x5 <<< ((7 : Int32) &&& 31))).toInt16.toInt32))) (fun σ6 => some σ6)))))))))
set_option maxRecDepth 20000 in
theorem c_X4_join {l : Launch} {D : va_G} {cy : Nat → ClassId} {ad : Nat → Nat} (hj : InjW 1 ad) (a1 : Int32) (a2 : Int32)  (σ : Mem) (r : Mem) (h : f_X4_join a1 a2 σ = some r) : CV 1 D cy ad l yX4_join cX4_join 6 none 4 [.ref (ad (9)), .int a1, .int a2] σ r := by
  refine CV.mk (by decide) hj (Nat.le_of_ble_eq_true rfl) (fun p e R s m below meth c ls C hw hl => ?_)
  have hl : lv_has ls 6 [(0, .ref (ad (9))), (1, .int a1), (2, .int a2)] := hl
  generalize ([.ref (ad (9)), .int a1, .int a2] : List Value).toArray = args at C ⊢
  have C : Cx 1 D cy ad p R s m args meth c cX4_join 6 RX4 none 4 := C
  unfold f_X4_join at h
  refine lv_aload_n C.1 C.2.1 dX4_join_0 rfl (lv_at hl 0 rfl) ?_
  refine gf_X4_15 C hw dX4_join_1 ?_
  refine lv_iload_n C.1 C.2.1 dX4_join_4 rfl (lv_at hl 1 rfl) ?_
  obtain ⟨hin, h⟩ := gd_of h
  refine m_iald C hw a1_11 hin dX4_join_5 ?_
  refine lv_aload_n C.1 C.2.1 dX4_join_6 rfl (lv_at hl 0 rfl) ?_
  refine gf_X4_18 C hw dX4_join_7 ?_
  refine lv_iload_n C.1 C.2.1 dX4_join_10 rfl (lv_at hl 2 rfl) ?_
  obtain ⟨hin, h⟩ := gd_of h
  refine m_iald C hw a1_12 hin dX4_join_11 ?_
  refine lv_iand C.1 C.2.1 dX4_join_12 ?_
  obtain ⟨x1, ex1, h⟩ := lt_of h
  refine m_topi ex1 ?_
  refine lv_istore_n (lv' := [(3, .int _), (0, .ref _), (1, .int _), (2, .int _)]) C.1 C.2.1 dX4_join_13 rfl hl (by decide) rfl (fun ls hl => ?_)
  refine lv_aload_n C.1 C.2.1 dX4_join_14 rfl (lv_at hl 1 rfl) ?_
  refine lv_aload_n C.1 C.2.1 dX4_join_15 rfl (lv_at hl 1 rfl) ?_
  refine gf_X4_41 C hw dX4_join_16 ?_
  refine lv_bipush (v := (6 : Int32)) C.1 C.2.1 dX4_join_19 (by decide) ?_
  have hin : vp_in (6 : Int32) 8 := (by decide : ix (6 : Int32) 8)
  refine m_iald C hw a1_19 hin dX4_join_21 ?_
  refine lv_iload_n C.1 C.2.1 dX4_join_22 rfl (lv_at hl 0 rfl) ?_
  refine lv_iand C.1 C.2.1 dX4_join_23 ?_
  refine lv_bipush (v := (6 : Int32)) C.1 C.2.1 dX4_join_24 (by decide) ?_
  refine lv_iload_n C.1 C.2.1 dX4_join_26 rfl (lv_at hl 2 rfl) ?_
  refine lv_iload_n C.1 C.2.1 dX4_join_27 rfl (lv_at hl 3 rfl) ?_
  obtain ⟨r2, h1, h⟩ := bS h
  refine go_I hw (run_V (As := [.int _, .int _, .int _, .int _]) C hw (c_X4_offer C.2.2.2.2.2.2.2.2.2 _ _ _ _ _ _ h1) mi_X4_offer mv_X4_offer o1_9 (ci := 4) rfl rfl lk_X4_99 (by decide) (by decide) rfl hl.1 rfl (Nat.le_of_ble_eq_true rfl) dX4_join_28 ⟨Nat.le_refl 0, Nat.le_refl 0⟩) (fun H locs hw => ?_)
  obtain ⟨x3, ex3, h⟩ := lt_of h
  refine m_topi ex3 ?_
  refine lv_istore (lv' := [(4, .int _), (3, .int _), (0, .ref _), (1, .int _), (2, .int _)]) C.1 C.2.1 dX4_join_31 hl (by decide) rfl (fun ls hl => ?_)
  refine lv_aload_n C.1 C.2.1 dX4_join_33 rfl (lv_at hl 2 rfl) ?_
  refine lv_aload_n C.1 C.2.1 dX4_join_34 rfl (lv_at hl 2 rfl) ?_
  refine gf_X4_41 C hw dX4_join_35 ?_
  refine lv_bipush (v := (7 : Int32)) C.1 C.2.1 dX4_join_38 (by decide) ?_
  have hin : vp_in (7 : Int32) 8 := (by decide : ix (7 : Int32) 8)
  refine m_iald C hw a1_19 hin dX4_join_40 ?_
  refine lv_iload_n C.1 C.2.1 dX4_join_41 rfl (lv_at hl 1 rfl) ?_
  refine lv_iand C.1 C.2.1 dX4_join_42 ?_
  refine lv_bipush (v := (7 : Int32)) C.1 C.2.1 dX4_join_43 (by decide) ?_
  refine lv_iload_n C.1 C.2.1 dX4_join_45 rfl (lv_at hl 3 rfl) ?_
  refine lv_iload_n C.1 C.2.1 dX4_join_46 rfl (lv_at hl 4 rfl) ?_
  obtain ⟨r4, h1, h⟩ := bS h
  refine go_I hw (run_V (As := [.int _, .int _, .int _, .int _]) C hw (c_X4_offer C.2.2.2.2.2.2.2.2.2 _ _ _ _ _ _ h1) mi_X4_offer mv_X4_offer o1_9 (ci := 4) rfl rfl lk_X4_99 (by decide) (by decide) rfl hl.1 rfl (Nat.le_of_ble_eq_true rfl) dX4_join_47 ⟨Nat.le_refl 0, Nat.le_refl 0⟩) (fun H locs hw => ?_)
  obtain ⟨x5, ex5, h⟩ := lt_of h
  refine m_topi ex5 ?_
  refine lv_istore (lv' := [(5, .int _), (4, .int _), (3, .int _), (0, .ref _), (1, .int _), (2, .int _)]) C.1 C.2.1 dX4_join_50 hl (by decide) rfl (fun ls hl => ?_)
  refine lv_aload_n C.1 C.2.1 dX4_join_52 rfl (lv_at hl 3 rfl) ?_
  refine gf_X4_47 C hw dX4_join_53 ?_
  refine lv_iload_n C.1 C.2.1 dX4_join_56 rfl (lv_at hl 4 rfl) ?_
  refine lv_bipush (v := (120 : Int32)) C.1 C.2.1 dX4_join_57 (by decide) ?_
  refine lv_imul C.1 C.2.1 dX4_join_59 ?_
  refine lv_iload_n C.1 C.2.1 dX4_join_60 rfl (lv_at hl 5 rfl) ?_
  refine lv_iadd C.1 C.2.1 dX4_join_61 ?_
  refine lv_iload C.1 C.2.1 dX4_join_62 (lv_at hl 1 rfl) ?_
  refine lv_iload C.1 C.2.1 dX4_join_64 (lv_at hl 0 rfl) ?_
  refine lv_bipush (v := (7 : Int32)) C.1 C.2.1 dX4_join_66 (by decide) ?_
  refine lv_ishl C.1 C.2.1 dX4_join_68 ?_
  refine lv_ior C.1 C.2.1 dX4_join_69 ?_
  refine lv_i2s C.1 C.2.1 dX4_join_70 rfl ?_
  obtain ⟨hin, h⟩ := gd_of h
  refine m_sast C hw a1_21 hin dX4_join_71 (fun H locs hw => ?_)
  obtain ⟨σ6, eσ6, h⟩ := lt_of h
  rw [← eσ6] at hw
  exact m_vret C hw (Option.some.inj h) dX4_join_72
noncomputable def j_X4_learn_189 (t1 : Nat) (a2 : Int32) (a3 : Int32) (v4 : Int32) (v5 : Int32) (v8 : Int32) (σ : Mem) : Option ((Int32 × Int32 × Int32 × Mem) ⊕ (Int32 × Mem)) :=
  lt (v8 + (1 : Int32)) (fun x13 => some (.inl (v4, v5, x13, σ)))
noncomputable def b_X4_learn_147 (t1 : Nat) (a2 : Int32) (a3 : Int32) (v4 : Int32) (v5 : Int32) (v8 : Int32) (σ : Mem) : Option ((Int32 × Int32 × Int32 × Mem) ⊕ (Int32 × Mem)) :=
  if (σ.1 9 17) ≤ v8 then (some (.inr (v4, σ))) else (if (σ.1 9 18) = 0 then (gd (ix v8 120) (if (σ.1 17 v8.toNatClampNeg) = 0 then (j_X4_learn_189 t1 a2 a3 v4 v5 v8 σ) else ((f_X4_join v5 v8 σ).bind (fun r14 => (f_X4_join v8 v5 r14).bind (fun r15 => j_X4_learn_189 t1 a2 a3 v4 v5 v8 r15))))) else (some (.inr (v4, σ))))
noncomputable def j_X4_learn_195 (t1 : Nat) (a2 : Int32) (a3 : Int32) (v4 : Int32) (σ : Mem) : Option ((Int32 × Mem) ⊕ (Mem ⊕ Mem)) :=
  lt (v4 + (1 : Int32)) (fun x17 => some (.inl (x17, σ)))
noncomputable def b_X4_learn_46 (t1 : Nat) (a2 : Int32) (a3 : Int32) (v4 : Int32) (σ : Mem) : Option ((Int32 × Mem) ⊕ (Mem ⊕ Mem)) :=
  if (120 : Int32) ≤ v4 then (some (.inr (.inr σ))) else (if (σ.1 9 18) = 0 then ((f_X4_nearest σ).bind (fun r6 => if 0 ≤ r6 then (gd (ix r6 120) (lt (sI σ 17 r6.toNatClampNeg (vp_nar .boolean (1 : Int32))) (fun σ7 => gd (ix r6 120) ((f_X4_offer ((σ7.1 19 (4 : Int32).toNatClampNeg) &&& (σ7.1 11 r6.toNatClampNeg)) (4 : Int32) r6 (-1 : Int32) σ7).bind (fun r8 => lt r8.1 (fun x9 => gd (ix r6 120) ((f_X4_offer ((r8.2.1 19 (5 : Int32).toNatClampNeg) &&& (r8.2.1 11 r6.toNatClampNeg)) (5 : Int32) r6 (-1 : Int32) r8.2).bind (fun r10 => lt r10.1 (fun x11 => gd (ix r6 120) (lt (sI r10.2 20 r6.toNatClampNeg (vp_nar .short ((x9 ||| (x11 <<< ((7 : Int32) &&& 31))).toInt16.toInt32))) (fun σ12 => (Lim (T := (Int32 × Mem)) (fun s => b_X4_learn_147 t1 a2 a3 s.1 s.2.1 s.2.2.1 s.2.2.2) (v4, r6, (0 : Int32), σ12)).bind (fun r16 => j_X4_learn_195 t1 a2 a3 r16.1 r16.2)))))))))))) else (some (.inr (.inl σ))))) else (some (.inr (.inr σ))))
noncomputable def j_X4_learn_17 (t1 : Nat) (a2 : Int32) (a3 : Int32) (σ : Mem) : Option Mem :=
  (f_X4_forget σ).bind (fun r1 => (f_X3_copyFrom 29 t1 r1).bind (fun r2 => lt (sI r2 9 15 a2) (fun σ3 => lt (sI σ3 9 16 a3) (fun σ4 => (f_X4_begin σ4).bind (fun r5 => (Lim (T := (Mem ⊕ Mem)) (fun s => b_X4_learn_46 t1 a2 a3 s.1 s.2) ((0 : Int32), r5)).bind (fun r18 => (match r18 with | .inl r18_0 => (some r18_0) | .inr r18_1 => (some r18_1))))))))
noncomputable def f_X4_learn (t1 : Nat) (a2 : Int32) (a3 : Int32) (σ : Mem) : Option Mem :=
  if a2 = (σ.1 9 15) then (if a3 = (σ.1 9 16) then (some σ) else (j_X4_learn_17 t1 a2 a3 σ)) else (j_X4_learn_17 t1 a2 a3 σ)
set_option maxRecDepth 20000 in
theorem w_X4_learn_189 {D : va_G} {cy : Nat → ClassId} {ad : Nat → Nat} {p : Program} {l : Launch} {e : Env} {R : Room} {s : State} {m : MethodId} {args : Array Value} {below : List Frame} {meth : Method} {c : Code} (C : Cx 1 D cy ad p R s m args meth c cX4_learn 9 RX4 none 5) {t1 : Nat} {a2 : Int32} {a3 : Int32} (ht1 : IsO 1 t1 3) {v4 : Int32} {v5 : Int32} {v8 : Int32}  {σ : Mem} {H : Heap} {locs : List Loc} {ls : Array Slot} {Q : State → Prop} {P : (Int32 × Int32 × Int32 × Mem) → Prop} {r : (Int32 × Mem)} {x : (Int32 × Int32 × Int32 × Mem) ⊕ (Int32 × Mem)} (hx : LimQ P r x) (hP : ∀ u, P u → ∀ (H : Heap) (locs : List Loc) (ls : Array Slot), Wd 1 D cy ad s u.2.2.2 H locs → lv_has ls 9 [(0, .ref (ad (9))), (4, .int u.1), (5, .int u.2.1), (8, .int u.2.2.1)] → W p l e R s m args below meth c H locs 0 0 Q (F0 m 147 ls [])) (hE0 : ∀ (v4 : Int32) (σ1 : Mem), ((v4, σ1) : (Int32 × Mem)) = r → ∀ (H : Heap) (locs : List Loc) (ls : Array Slot), Wd 1 D cy ad s σ1 H locs → lv_has ls 9 [(0, .ref (ad (9))), (4, .int v4)] → W p l e R s m args below meth c H locs 0 0 Q (F0 m 195 ls [])) (hw : Wd 1 D cy ad s σ H locs) (hl : lv_has ls 9 [(0, .ref (ad (9))), (4, .int v4), (5, .int v5), (8, .int v8)]) (h : j_X4_learn_189 t1 a2 a3 v4 v5 v8 σ = some x) : W p l e R s m args below meth c H locs 0 0 Q (F0 m 189 ls []) := by
  unfold j_X4_learn_189 at h
  obtain ⟨x13, ex13, h⟩ := lt_of h
  refine m_iinc (k := 3) (lv' := [(8, .int _), (0, .ref _), (4, .int _), (5, .int _)]) C (1 : Int32) (by decide) dX4_learn_189 hl rfl ex13.symm (by decide) rfl (fun ls hl => ?_)
  refine lv_goto (tgt := 147) C.1 C.2.1 dX4_learn_192 (by decide) ?_
  obtain rfl := Option.some.inj h
  exact hP _ hx _ _ _ hw (lv_sub hl [1, 2, 3, 0] rfl)
set_option maxRecDepth 20000 in
theorem w_X4_learn_147 {D : va_G} {cy : Nat → ClassId} {ad : Nat → Nat} {p : Program} {l : Launch} {e : Env} {R : Room} {s : State} {m : MethodId} {args : Array Value} {below : List Frame} {meth : Method} {c : Code} (C : Cx 1 D cy ad p R s m args meth c cX4_learn 9 RX4 none 5) {t1 : Nat} {a2 : Int32} {a3 : Int32} (ht1 : IsO 1 t1 3) {v4 : Int32} {v5 : Int32} {v8 : Int32} {σ : Mem} {Q : State → Prop} {r : (Int32 × Mem)} (hL : Lim (T := (Int32 × Mem)) (fun s => b_X4_learn_147 t1 a2 a3 s.1 s.2.1 s.2.2.1 s.2.2.2) (v4, v5, v8, σ) = some r) (hE0 : ∀ (v4 : Int32) (σ1 : Mem), ((v4, σ1) : (Int32 × Mem)) = r → ∀ (H : Heap) (locs : List Loc) (ls : Array Slot), Wd 1 D cy ad s σ1 H locs → lv_has ls 9 [(0, .ref (ad (9))), (4, .int v4)] → W p l e R s m args below meth c H locs 0 0 Q (F0 m 195 ls [])) (H : Heap) (locs : List Loc) (ls : Array Slot) (hw : Wd 1 D cy ad s σ H locs) (hl : lv_has ls 9 [(0, .ref (ad (9))), (4, .int v4), (5, .int v5), (8, .int v8)]) : W p l e R s m args below meth c H locs 0 0 Q (F0 m 147 ls []) := by
  refine Lim_ind hL (P := fun u => ∀ (H : Heap) (locs : List Loc) (ls : Array Slot), Wd 1 D cy ad s u.2.2.2 H locs → lv_has ls 9 [(0, .ref (ad (9))), (4, .int u.1), (5, .int u.2.1), (8, .int u.2.2.1)] → W p l e R s m args below meth c H locs 0 0 Q (F0 m 147 ls [])) (fun u x h hx H locs ls hw hl => ?_) H locs ls hw hl
  clear hL
  obtain ⟨v4, v5, v8, σ⟩ := u
  have h : b_X4_learn_147 t1 a2 a3 v4 v5 v8 σ = some x := h
  have hw : Wd 1 D cy ad s σ H locs := hw
  have hl : lv_has ls 9 [(0, .ref (ad (9))), (4, .int v4), (5, .int v5), (8, .int v8)] := hl
  have hP : ∀ (u : (Int32 × Int32 × Int32 × Mem)), (∀ (H : Heap) (locs : List Loc) (ls : Array Slot), Wd 1 D cy ad s u.2.2.2 H locs → lv_has ls 9 [(0, .ref (ad (9))), (4, .int u.1), (5, .int u.2.1), (8, .int u.2.2.1)] → W p l e R s m args below meth c H locs 0 0 Q (F0 m 147 ls [])) → ∀ (H : Heap) (locs : List Loc) (ls : Array Slot), Wd 1 D cy ad s u.2.2.2 H locs → lv_has ls 9 [(0, .ref (ad (9))), (4, .int u.1), (5, .int u.2.1), (8, .int u.2.2.1)] → W p l e R s m args below meth c H locs 0 0 Q (F0 m 147 ls []) := fun _ k => k
  unfold b_X4_learn_147 at h
  refine lv_iload C.1 C.2.1 dX4_learn_147 (lv_at hl 3 rfl) ?_
  refine lv_aload_n C.1 C.2.1 dX4_learn_149 rfl (lv_at hl 0 rfl) ?_
  refine gf_X4_78 C hw dX4_learn_150 ?_
  refine lv_icmp_ge (tgt := 195) C.1 C.2.1 dX4_learn_153 (by decide) (fun cd => ?_) (fun cd => ?_)
  · have h := ite_t cd h
    obtain rfl := Option.some.inj h
    exact hE0 _ _ hx _ _ _ hw (lv_sub hl [0, 1] rfl)
  · have h := ite_f cd h
    refine lv_aload_n C.1 C.2.1 dX4_learn_156 rfl (lv_at hl 0 rfl) ?_
    refine gf_X4_81 C hw dX4_learn_157 ?_
    refine lv_if_ne (tgt := 195) C.1 C.2.1 dX4_learn_160 (by decide) (fun cd => ?_) (fun cd => ?_)
    · have h := ite_f cd h
      obtain rfl := Option.some.inj h
      exact hE0 _ _ hx _ _ _ hw (lv_sub hl [0, 1] rfl)
    · have h := ite_t cd h
      refine lv_aload_n C.1 C.2.1 dX4_learn_163 rfl (lv_at hl 0 rfl) ?_
      refine gf_X4_33 C hw dX4_learn_164 ?_
      refine lv_iload C.1 C.2.1 dX4_learn_167 (lv_at hl 3 rfl) ?_
      obtain ⟨hin, h⟩ := gd_of h
      refine m_zald C hw a1_17 hin dX4_learn_169 ?_
      refine lv_if_eq (tgt := 189) C.1 C.2.1 dX4_learn_170 (by decide) (fun cd => ?_) (fun cd => ?_)
      · have h := ite_t cd h
        exact w_X4_learn_189 C ht1 hx hP hE0 hw (lv_sub hl [0, 1, 2, 3] rfl) h
      · have h := ite_f cd h
        refine lv_aload_n C.1 C.2.1 dX4_learn_173 rfl (lv_at hl 0 rfl) ?_
        refine lv_iload C.1 C.2.1 dX4_learn_174 (lv_at hl 2 rfl) ?_
        refine lv_iload C.1 C.2.1 dX4_learn_176 (lv_at hl 3 rfl) ?_
        obtain ⟨r14, h1, h⟩ := bS h
        refine go_V hw (run_V (As := [.int _, .int _]) C hw (c_X4_join C.2.2.2.2.2.2.2.2.2 _ _ _ _ h1) mi_X4_join mv_X4_join o1_9 (ci := 4) rfl rfl lk_X4_103 (by decide) (by decide) rfl hl.1 rfl (Nat.le_of_ble_eq_true rfl) dX4_learn_178 ⟨Nat.le_refl 0, Nat.le_refl 0⟩) (fun H locs hw => ?_)
        refine lv_aload_n C.1 C.2.1 dX4_learn_181 rfl (lv_at hl 0 rfl) ?_
        refine lv_iload C.1 C.2.1 dX4_learn_182 (lv_at hl 3 rfl) ?_
        refine lv_iload C.1 C.2.1 dX4_learn_184 (lv_at hl 2 rfl) ?_
        obtain ⟨r15, h1, h⟩ := bS h
        refine go_V hw (run_V (As := [.int _, .int _]) C hw (c_X4_join C.2.2.2.2.2.2.2.2.2 _ _ _ _ h1) mi_X4_join mv_X4_join o1_9 (ci := 4) rfl rfl lk_X4_103 (by decide) (by decide) rfl hl.1 rfl (Nat.le_of_ble_eq_true rfl) dX4_learn_186 ⟨Nat.le_refl 0, Nat.le_refl 0⟩) (fun H locs hw => ?_)
        exact w_X4_learn_189 C ht1 hx hP hE0 hw (lv_sub hl [0, 1, 2, 3] rfl) h
set_option maxRecDepth 20000 in
theorem w_X4_learn_195 {D : va_G} {cy : Nat → ClassId} {ad : Nat → Nat} {p : Program} {l : Launch} {e : Env} {R : Room} {s : State} {m : MethodId} {args : Array Value} {below : List Frame} {meth : Method} {c : Code} (C : Cx 1 D cy ad p R s m args meth c cX4_learn 9 RX4 none 5) {t1 : Nat} {a2 : Int32} {a3 : Int32} (ht1 : IsO 1 t1 3) {v4 : Int32}  {σ : Mem} {H : Heap} {locs : List Loc} {ls : Array Slot} {Q : State → Prop} {P : (Int32 × Mem) → Prop} {r : (Mem ⊕ Mem)} {x : (Int32 × Mem) ⊕ (Mem ⊕ Mem)} (hx : LimQ P r x) (hP : ∀ u, P u → ∀ (H : Heap) (locs : List Loc) (ls : Array Slot), Wd 1 D cy ad s u.2 H locs → lv_has ls 9 [(0, .ref (ad (9))), (4, .int u.1)] → W p l e R s m args below meth c H locs 0 0 Q (F0 m 46 ls [])) (hE0 : ∀ (σ1 : Mem), (.inl σ1 : (Mem ⊕ Mem)) = r → ∀ (H : Heap) (locs : List Loc) (ls : Array Slot), Wd 1 D cy ad s σ1 H locs → lv_has ls 9 [] → W p l e R s m args below meth c H locs 0 0 Q (F0 m 71 ls [])) (hE1 : ∀ (σ1 : Mem), (.inr σ1 : (Mem ⊕ Mem)) = r → ∀ (H : Heap) (locs : List Loc) (ls : Array Slot), Wd 1 D cy ad s σ1 H locs → lv_has ls 9 [] → W p l e R s m args below meth c H locs 0 0 Q (F0 m 201 ls [])) (hw : Wd 1 D cy ad s σ H locs) (hl : lv_has ls 9 [(0, .ref (ad (9))), (4, .int v4)]) (h : j_X4_learn_195 t1 a2 a3 v4 σ = some x) : W p l e R s m args below meth c H locs 0 0 Q (F0 m 195 ls []) := by
  unfold j_X4_learn_195 at h
  obtain ⟨x17, ex17, h⟩ := lt_of h
  refine m_iinc (k := 1) (lv' := [(4, .int _), (0, .ref _)]) C (1 : Int32) (by decide) dX4_learn_195 hl rfl ex17.symm (by decide) rfl (fun ls hl => ?_)
  refine lv_goto (tgt := 46) C.1 C.2.1 dX4_learn_198 (by decide) ?_
  obtain rfl := Option.some.inj h
  exact hP _ hx _ _ _ hw (lv_sub hl [1, 0] rfl)
set_option maxRecDepth 20000 in
theorem w_X4_learn_46 {D : va_G} {cy : Nat → ClassId} {ad : Nat → Nat} {p : Program} {l : Launch} {e : Env} {R : Room} {s : State} {m : MethodId} {args : Array Value} {below : List Frame} {meth : Method} {c : Code} (C : Cx 1 D cy ad p R s m args meth c cX4_learn 9 RX4 none 5) {t1 : Nat} {a2 : Int32} {a3 : Int32} (ht1 : IsO 1 t1 3) {v4 : Int32} {σ : Mem} {Q : State → Prop} {r : (Mem ⊕ Mem)} (hL : Lim (T := (Mem ⊕ Mem)) (fun s => b_X4_learn_46 t1 a2 a3 s.1 s.2) (v4, σ) = some r) (hE0 : ∀ (σ1 : Mem), (.inl σ1 : (Mem ⊕ Mem)) = r → ∀ (H : Heap) (locs : List Loc) (ls : Array Slot), Wd 1 D cy ad s σ1 H locs → lv_has ls 9 [] → W p l e R s m args below meth c H locs 0 0 Q (F0 m 71 ls [])) (hE1 : ∀ (σ1 : Mem), (.inr σ1 : (Mem ⊕ Mem)) = r → ∀ (H : Heap) (locs : List Loc) (ls : Array Slot), Wd 1 D cy ad s σ1 H locs → lv_has ls 9 [] → W p l e R s m args below meth c H locs 0 0 Q (F0 m 201 ls [])) (H : Heap) (locs : List Loc) (ls : Array Slot) (hw : Wd 1 D cy ad s σ H locs) (hl : lv_has ls 9 [(0, .ref (ad (9))), (4, .int v4)]) : W p l e R s m args below meth c H locs 0 0 Q (F0 m 46 ls []) := by
  refine Lim_ind hL (P := fun u => ∀ (H : Heap) (locs : List Loc) (ls : Array Slot), Wd 1 D cy ad s u.2 H locs → lv_has ls 9 [(0, .ref (ad (9))), (4, .int u.1)] → W p l e R s m args below meth c H locs 0 0 Q (F0 m 46 ls [])) (fun u x h hx H locs ls hw hl => ?_) H locs ls hw hl
  clear hL
  obtain ⟨v4, σ⟩ := u
  have h : b_X4_learn_46 t1 a2 a3 v4 σ = some x := h
  have hw : Wd 1 D cy ad s σ H locs := hw
  have hl : lv_has ls 9 [(0, .ref (ad (9))), (4, .int v4)] := hl
  have hP : ∀ (u : (Int32 × Mem)), (∀ (H : Heap) (locs : List Loc) (ls : Array Slot), Wd 1 D cy ad s u.2 H locs → lv_has ls 9 [(0, .ref (ad (9))), (4, .int u.1)] → W p l e R s m args below meth c H locs 0 0 Q (F0 m 46 ls [])) → ∀ (H : Heap) (locs : List Loc) (ls : Array Slot), Wd 1 D cy ad s u.2 H locs → lv_has ls 9 [(0, .ref (ad (9))), (4, .int u.1)] → W p l e R s m args below meth c H locs 0 0 Q (F0 m 46 ls []) := fun _ k => k
  unfold b_X4_learn_46 at h
  refine lv_iload C.1 C.2.1 dX4_learn_46 (lv_at hl 1 rfl) ?_
  refine lv_bipush (v := (120 : Int32)) C.1 C.2.1 dX4_learn_48 (by decide) ?_
  refine lv_icmp_ge (tgt := 201) C.1 C.2.1 dX4_learn_50 (by decide) (fun cd => ?_) (fun cd => ?_)
  · have h := ite_t cd h
    obtain rfl := Option.some.inj h
    exact hE1 _ hx _ _ _ hw (lv_sub hl [] rfl)
  · have h := ite_f cd h
    refine lv_aload_n C.1 C.2.1 dX4_learn_53 rfl (lv_at hl 0 rfl) ?_
    refine gf_X4_81 C hw dX4_learn_54 ?_
    refine lv_if_ne (tgt := 201) C.1 C.2.1 dX4_learn_57 (by decide) (fun cd => ?_) (fun cd => ?_)
    · have h := ite_f cd h
      obtain rfl := Option.some.inj h
      exact hE1 _ hx _ _ _ hw (lv_sub hl [] rfl)
    · have h := ite_t cd h
      refine lv_aload_n C.1 C.2.1 dX4_learn_60 rfl (lv_at hl 0 rfl) ?_
      obtain ⟨r6, h1, h⟩ := bS h
      refine go_I hw (run_V (As := []) C hw (c_X4_nearest C.2.2.2.2.2.2.2.2.2 _ _ h1) mi_X4_nearest mv_X4_nearest o1_9 (ci := 4) rfl rfl lk_X4_95 (by decide) (by decide) rfl hl.1 rfl (Nat.le_of_ble_eq_true rfl) dX4_learn_61 ⟨Nat.le_refl 0, Nat.le_refl 0⟩) (fun H locs hw => ?_)
      refine lv_istore (lv' := [(5, .int _), (0, .ref _), (4, .int _)]) C.1 C.2.1 dX4_learn_64 hl (by decide) rfl (fun ls hl => ?_)
      refine lv_iload C.1 C.2.1 dX4_learn_66 (lv_at hl 0 rfl) ?_
      refine lv_if_ge (tgt := 72) C.1 C.2.1 dX4_learn_68 (by decide) (fun cd => ?_) (fun cd => ?_)
      · have h := ite_t cd h
        refine lv_aload_n C.1 C.2.1 dX4_learn_72 rfl (lv_at hl 1 rfl) ?_
        refine gf_X4_33 C hw dX4_learn_73 ?_
        refine lv_iload C.1 C.2.1 dX4_learn_76 (lv_at hl 0 rfl) ?_
        refine lv_iconst (v := (1 : Int32)) C.1 C.2.1 dX4_learn_78 (by decide) ?_
        obtain ⟨hin, h⟩ := gd_of h
        refine m_zast C hw a1_17 hin dX4_learn_79 (fun H locs hw => ?_)
        obtain ⟨σ7, eσ7, h⟩ := lt_of h
        rw [← eσ7] at hw
        refine lv_aload_n C.1 C.2.1 dX4_learn_80 rfl (lv_at hl 1 rfl) ?_
        refine lv_aload_n C.1 C.2.1 dX4_learn_81 rfl (lv_at hl 1 rfl) ?_
        refine gf_X4_41 C hw dX4_learn_82 ?_
        refine lv_iconst (v := (4 : Int32)) C.1 C.2.1 dX4_learn_85 (by decide) ?_
        have hin : vp_in (4 : Int32) 8 := (by decide : ix (4 : Int32) 8)
        refine m_iald C hw a1_19 hin dX4_learn_86 ?_
        refine lv_aload_n C.1 C.2.1 dX4_learn_87 rfl (lv_at hl 1 rfl) ?_
        refine gf_X4_15 C hw dX4_learn_88 ?_
        refine lv_iload C.1 C.2.1 dX4_learn_91 (lv_at hl 0 rfl) ?_
        obtain ⟨hin, h⟩ := gd_of h
        refine m_iald C hw a1_11 hin dX4_learn_93 ?_
        refine lv_iand C.1 C.2.1 dX4_learn_94 ?_
        refine lv_iconst (v := (4 : Int32)) C.1 C.2.1 dX4_learn_95 (by decide) ?_
        refine lv_iload C.1 C.2.1 dX4_learn_96 (lv_at hl 0 rfl) ?_
        refine lv_iconst (v := (-1 : Int32)) C.1 C.2.1 dX4_learn_98 (by decide) ?_
        obtain ⟨r8, h1, h⟩ := bS h
        refine go_I hw (run_V (As := [.int _, .int _, .int _, .int _]) C hw (c_X4_offer C.2.2.2.2.2.2.2.2.2 _ _ _ _ _ _ h1) mi_X4_offer mv_X4_offer o1_9 (ci := 4) rfl rfl lk_X4_99 (by decide) (by decide) rfl hl.1 rfl (Nat.le_of_ble_eq_true rfl) dX4_learn_99 ⟨Nat.le_refl 0, Nat.le_refl 0⟩) (fun H locs hw => ?_)
        obtain ⟨x9, ex9, h⟩ := lt_of h
        refine m_topi ex9 ?_
        refine lv_istore (lv' := [(6, .int _), (5, .int _), (0, .ref _), (4, .int _)]) C.1 C.2.1 dX4_learn_102 hl (by decide) rfl (fun ls hl => ?_)
        refine lv_aload_n C.1 C.2.1 dX4_learn_104 rfl (lv_at hl 2 rfl) ?_
        refine lv_aload_n C.1 C.2.1 dX4_learn_105 rfl (lv_at hl 2 rfl) ?_
        refine gf_X4_41 C hw dX4_learn_106 ?_
        refine lv_iconst (v := (5 : Int32)) C.1 C.2.1 dX4_learn_109 (by decide) ?_
        have hin : vp_in (5 : Int32) 8 := (by decide : ix (5 : Int32) 8)
        refine m_iald C hw a1_19 hin dX4_learn_110 ?_
        refine lv_aload_n C.1 C.2.1 dX4_learn_111 rfl (lv_at hl 2 rfl) ?_
        refine gf_X4_15 C hw dX4_learn_112 ?_
        refine lv_iload C.1 C.2.1 dX4_learn_115 (lv_at hl 1 rfl) ?_
        obtain ⟨hin, h⟩ := gd_of h
        refine m_iald C hw a1_11 hin dX4_learn_117 ?_
        refine lv_iand C.1 C.2.1 dX4_learn_118 ?_
        refine lv_iconst (v := (5 : Int32)) C.1 C.2.1 dX4_learn_119 (by decide) ?_
        refine lv_iload C.1 C.2.1 dX4_learn_120 (lv_at hl 1 rfl) ?_
        refine lv_iconst (v := (-1 : Int32)) C.1 C.2.1 dX4_learn_122 (by decide) ?_
        obtain ⟨r10, h1, h⟩ := bS h
        refine go_I hw (run_V (As := [.int _, .int _, .int _, .int _]) C hw (c_X4_offer C.2.2.2.2.2.2.2.2.2 _ _ _ _ _ _ h1) mi_X4_offer mv_X4_offer o1_9 (ci := 4) rfl rfl lk_X4_99 (by decide) (by decide) rfl hl.1 rfl (Nat.le_of_ble_eq_true rfl) dX4_learn_123 ⟨Nat.le_refl 0, Nat.le_refl 0⟩) (fun H locs hw => ?_)
        obtain ⟨x11, ex11, h⟩ := lt_of h
        refine m_topi ex11 ?_
        refine lv_istore (lv' := [(7, .int _), (6, .int _), (5, .int _), (0, .ref _), (4, .int _)]) C.1 C.2.1 dX4_learn_126 hl (by decide) rfl (fun ls hl => ?_)
        refine lv_aload_n C.1 C.2.1 dX4_learn_128 rfl (lv_at hl 3 rfl) ?_
        refine gf_X4_44 C hw dX4_learn_129 ?_
        refine lv_iload C.1 C.2.1 dX4_learn_132 (lv_at hl 2 rfl) ?_
        refine lv_iload C.1 C.2.1 dX4_learn_134 (lv_at hl 1 rfl) ?_
        refine lv_iload C.1 C.2.1 dX4_learn_136 (lv_at hl 0 rfl) ?_
        refine lv_bipush (v := (7 : Int32)) C.1 C.2.1 dX4_learn_138 (by decide) ?_
        refine lv_ishl C.1 C.2.1 dX4_learn_140 ?_
        refine lv_ior C.1 C.2.1 dX4_learn_141 ?_
        refine lv_i2s C.1 C.2.1 dX4_learn_142 rfl ?_
        obtain ⟨hin, h⟩ := gd_of h
        refine m_sast C hw a1_20 hin dX4_learn_143 (fun H locs hw => ?_)
        obtain ⟨σ12, eσ12, h⟩ := lt_of h
        rw [← eσ12] at hw
        refine lv_iconst (v := (0 : Int32)) C.1 C.2.1 dX4_learn_144 (by decide) ?_
        refine lv_istore (lv' := [(8, .int _), (7, .int _), (6, .int _), (5, .int _), (0, .ref _), (4, .int _)]) C.1 C.2.1 dX4_learn_145 hl (by decide) rfl (fun ls hl => ?_)
        obtain ⟨r16, hL, h⟩ := bS h
        refine w_X4_learn_147 C ht1  hL (fun y0 y1 hr H locs ls hw hl => ?_) _ _ _ hw (lv_sub hl [4, 5, 3, 0] rfl)
        · subst hr
          try dsimp only at h
          try dsimp only at hw
          try dsimp only at hl
          exact w_X4_learn_195 C ht1 hx hP hE0 hE1 hw (lv_sub hl [0, 1] rfl) h
      · have h := ite_f cd h
        obtain rfl := Option.some.inj h
        exact hE0 _ hx _ _ _ hw (lv_sub hl [] rfl)
set_option maxRecDepth 20000 in
theorem w_X4_learn_17 {D : va_G} {cy : Nat → ClassId} {ad : Nat → Nat} {p : Program} {l : Launch} {e : Env} {R : Room} {s : State} {m : MethodId} {args : Array Value} {below : List Frame} {meth : Method} {c : Code} (C : Cx 1 D cy ad p R s m args meth c cX4_learn 9 RX4 none 5) {t1 : Nat} {a2 : Int32} {a3 : Int32} (ht1 : IsO 1 t1 3)   {σ : Mem} {H : Heap} {locs : List Loc} {ls : Array Slot} {r : Mem} (hw : Wd 1 D cy ad s σ H locs) (hl : lv_has ls 9 [(0, .ref (ad (9))), (1, .ref (ad (t1))), (2, .int a2), (3, .int a3)]) (h : j_X4_learn_17 t1 a2 a3 σ = some r) : W p l e R s m args below meth c H locs 0 0 (QV 1 D cy ad below args s r) (F0 m 17 ls []) := by
  unfold j_X4_learn_17 at h
  refine lv_aload_n C.1 C.2.1 dX4_learn_17 rfl (lv_at hl 0 rfl) ?_
  obtain ⟨r1, h1, h⟩ := bS h
  refine go_V hw (run_V (As := []) C hw (c_X4_forget C.2.2.2.2.2.2.2.2.2 _ _ h1) mi_X4_forget mv_X4_forget o1_9 (ci := 4) rfl rfl lk_X4_85 (by decide) (by decide) rfl hl.1 rfl (Nat.le_of_ble_eq_true rfl) dX4_learn_18 ⟨Nat.le_refl 0, Nat.le_refl 0⟩) (fun H locs hw => ?_)
  refine lv_aload_n C.1 C.2.1 dX4_learn_21 rfl (lv_at hl 0 rfl) ?_
  refine gf_X4_67 C hw dX4_learn_22 ?_
  refine lv_aload_n C.1 C.2.1 dX4_learn_25 rfl (lv_at hl 1 rfl) ?_
  obtain ⟨r2, h1, h⟩ := bS h
  refine go_V hw (run_V (As := [.ref _]) C hw (c_X3_copyFrom C.2.2.2.2.2.2.2.2.2 _ _ o1_29 ht1 _ _ h1) mi_X3_copyFrom mv_X3_copyFrom o1_29 (ci := 3) rfl rfl lk_X4_88 (by decide) (by decide) rfl hl.1 rfl (Nat.le_of_ble_eq_true rfl) dX4_learn_26 ⟨Nat.le_refl 0, Nat.le_refl 0⟩) (fun H locs hw => ?_)
  refine lv_aload_n C.1 C.2.1 dX4_learn_29 rfl (lv_at hl 0 rfl) ?_
  refine lv_iload_n C.1 C.2.1 dX4_learn_30 rfl (lv_at hl 2 rfl) ?_
  refine pf_X4_71 C hw dX4_learn_31 (fun H locs hw => ?_)
  obtain ⟨σ3, eσ3, h⟩ := lt_of h
  rw [← eσ3] at hw
  refine lv_aload_n C.1 C.2.1 dX4_learn_34 rfl (lv_at hl 0 rfl) ?_
  refine lv_iload_n C.1 C.2.1 dX4_learn_35 rfl (lv_at hl 3 rfl) ?_
  refine pf_X4_75 C hw dX4_learn_36 (fun H locs hw => ?_)
  obtain ⟨σ4, eσ4, h⟩ := lt_of h
  rw [← eσ4] at hw
  refine lv_aload_n C.1 C.2.1 dX4_learn_39 rfl (lv_at hl 0 rfl) ?_
  obtain ⟨r5, h1, h⟩ := bS h
  refine go_V hw (run_V (As := []) C hw (c_X4_begin C.2.2.2.2.2.2.2.2.2 _ _ h1) mi_X4_begin mv_X4_begin o1_9 (ci := 4) rfl rfl lk_X4_92 (by decide) (by decide) rfl hl.1 rfl (Nat.le_of_ble_eq_true rfl) dX4_learn_40 ⟨Nat.le_refl 0, Nat.le_refl 0⟩) (fun H locs hw => ?_)
  refine lv_iconst (v := (0 : Int32)) C.1 C.2.1 dX4_learn_43 (by decide) ?_
  refine lv_istore (lv' := [(4, .int _), (0, .ref _), (1, .ref _), (2, .int _), (3, .int _)]) C.1 C.2.1 dX4_learn_44 hl (by decide) rfl (fun ls hl => ?_)
  obtain ⟨r18, hL, h⟩ := bS h
  refine w_X4_learn_46 C ht1  hL (fun y0 hr H locs ls hw hl => ?_) (fun y0 hr H locs ls hw hl => ?_) _ _ _ hw (lv_sub hl [1, 0] rfl)
  · subst hr
    try dsimp only at h
    try dsimp only at hw
    try dsimp only at hl
    exact m_vret C hw (Option.some.inj h) dX4_learn_71
  · subst hr
    try dsimp only at h
    try dsimp only at hw
    try dsimp only at hl
    exact m_vret C hw (Option.some.inj h) dX4_learn_201
set_option maxRecDepth 20000 in
theorem c_X4_learn {l : Launch} {D : va_G} {cy : Nat → ClassId} {ad : Nat → Nat} (hj : InjW 1 ad) (t1 : Nat) (a2 : Int32) (a3 : Int32) (ht1 : IsO 1 t1 3) (σ : Mem) (r : Mem) (h : f_X4_learn t1 a2 a3 σ = some r) : CV 1 D cy ad l yX4_learn cX4_learn 9 none 5 [.ref (ad (9)), .ref (ad (t1)), .int a2, .int a3] σ r := by
  refine CV.mk (by decide) hj (Nat.le_of_ble_eq_true rfl) (fun p e R s m below meth c ls C hw hl => ?_)
  have hl : lv_has ls 9 [(0, .ref (ad (9))), (1, .ref (ad (t1))), (2, .int a2), (3, .int a3)] := hl
  generalize ([.ref (ad (9)), .ref (ad (t1)), .int a2, .int a3] : List Value).toArray = args at C ⊢
  have C : Cx 1 D cy ad p R s m args meth c cX4_learn 9 RX4 none 5 := C
  unfold f_X4_learn at h
  refine lv_iload_n C.1 C.2.1 dX4_learn_0 rfl (lv_at hl 2 rfl) ?_
  refine lv_aload_n C.1 C.2.1 dX4_learn_1 rfl (lv_at hl 0 rfl) ?_
  refine gf_X4_71 C hw dX4_learn_2 ?_
  refine lv_icmp_ne (tgt := 17) C.1 C.2.1 dX4_learn_5 (by decide) (fun cd => ?_) (fun cd => ?_)
  · have h := ite_f cd h
    exact w_X4_learn_17 C ht1 hw (lv_sub hl [0, 1, 2, 3] rfl) h
  · have h := ite_t cd h
    refine lv_iload_n C.1 C.2.1 dX4_learn_8 rfl (lv_at hl 3 rfl) ?_
    refine lv_aload_n C.1 C.2.1 dX4_learn_9 rfl (lv_at hl 0 rfl) ?_
    refine gf_X4_75 C hw dX4_learn_10 ?_
    refine lv_icmp_ne (tgt := 17) C.1 C.2.1 dX4_learn_13 (by decide) (fun cd => ?_) (fun cd => ?_)
    · have h := ite_f cd h
      exact w_X4_learn_17 C ht1 hw (lv_sub hl [0, 1, 2, 3] rfl) h
    · have h := ite_t cd h
      exact m_vret C hw (Option.some.inj h) dX4_learn_16
noncomputable def f_X4_sizeOf (a1 : Int32) (σ : Mem) : Option Int32 :=
  gd (ix a1 120) (some (σ.1 13 a1.toNatClampNeg))
set_option maxRecDepth 20000 in
theorem c_X4_sizeOf {l : Launch} {D : va_G} {cy : Nat → ClassId} {ad : Nat → Nat} (hj : InjW 1 ad) (a1 : Int32)  (σ : Mem) (r : Int32) (h : f_X4_sizeOf a1 σ = some r) : CI 1 D cy ad l yX4_sizeOf cX4_sizeOf 2 (some .int) 0 [.ref (ad (9)), .int a1] σ r σ := by
  refine CI.mk (by decide) hj (Nat.le_of_ble_eq_true rfl) (fun p e R s m below meth c ls C hw hl => ?_)
  have hl : lv_has ls 2 [(0, .ref (ad (9))), (1, .int a1)] := hl
  generalize ([.ref (ad (9)), .int a1] : List Value).toArray = args at C ⊢
  have C : Cx 1 D cy ad p R s m args meth c cX4_sizeOf 2 RX4 (some .int) 0 := C
  unfold f_X4_sizeOf at h
  refine lv_aload_n C.1 C.2.1 dX4_sizeOf_0 rfl (lv_at hl 0 rfl) ?_
  refine gf_X4_21 C hw dX4_sizeOf_1 ?_
  refine lv_iload_n C.1 C.2.1 dX4_sizeOf_4 rfl (lv_at hl 1 rfl) ?_
  obtain ⟨hin, h⟩ := gd_of h
  refine m_iald C hw a1_13 hin dX4_sizeOf_5 ?_
  exact m_iret C hw (ret_i h) dX4_sizeOf_6
noncomputable def f_X4_isGoodThere (a1 : Int32) (a2 : Int32) (σ : Mem) : Option Int32 :=
  gd (ix a1 120) (if (((σ.1 10 a1.toNatClampNeg) >>> ((6 : Int32) &&& 31)) &&& a2) = 0 then (some (0 : Int32)) else (some (1 : Int32)))
set_option maxRecDepth 20000 in
theorem c_X4_isGoodThere {l : Launch} {D : va_G} {cy : Nat → ClassId} {ad : Nat → Nat} (hj : InjW 1 ad) (a1 : Int32) (a2 : Int32)  (σ : Mem) (r : Int32) (h : f_X4_isGoodThere a1 a2 σ = some r) : CI 1 D cy ad l yX4_isGoodThere cX4_isGoodThere 3 (some .boolean) 0 [.ref (ad (9)), .int a1, .int a2] σ r σ := by
  refine CI.mk (by decide) hj (Nat.le_of_ble_eq_true rfl) (fun p e R s m below meth c ls C hw hl => ?_)
  have hl : lv_has ls 3 [(0, .ref (ad (9))), (1, .int a1), (2, .int a2)] := hl
  generalize ([.ref (ad (9)), .int a1, .int a2] : List Value).toArray = args at C ⊢
  have C : Cx 1 D cy ad p R s m args meth c cX4_isGoodThere 3 RX4 (some .boolean) 0 := C
  unfold f_X4_isGoodThere at h
  refine lv_aload_n C.1 C.2.1 dX4_isGoodThere_0 rfl (lv_at hl 0 rfl) ?_
  refine gf_X4_11 C hw dX4_isGoodThere_1 ?_
  refine lv_iload_n C.1 C.2.1 dX4_isGoodThere_4 rfl (lv_at hl 1 rfl) ?_
  obtain ⟨hin, h⟩ := gd_of h
  refine m_iald C hw a1_10 hin dX4_isGoodThere_5 ?_
  refine lv_bipush (v := (6 : Int32)) C.1 C.2.1 dX4_isGoodThere_6 (by decide) ?_
  refine lv_ishr C.1 C.2.1 dX4_isGoodThere_8 ?_
  refine lv_iload_n C.1 C.2.1 dX4_isGoodThere_9 rfl (lv_at hl 2 rfl) ?_
  refine lv_iand C.1 C.2.1 dX4_isGoodThere_10 ?_
  refine lv_if_eq (tgt := 18) C.1 C.2.1 dX4_isGoodThere_11 (by decide) (fun cd => ?_) (fun cd => ?_)
  · have h := ite_t cd h
    refine lv_iconst (v := (0 : Int32)) C.1 C.2.1 dX4_isGoodThere_18 (by decide) ?_
    exact m_zret C hw (by decide) (ret_i h) dX4_isGoodThere_19
  · have h := ite_f cd h
    refine lv_iconst (v := (1 : Int32)) C.1 C.2.1 dX4_isGoodThere_14 (by decide) ?_
    refine lv_goto (tgt := 19) C.1 C.2.1 dX4_isGoodThere_15 (by decide) ?_
    exact m_zret C hw (by decide) (ret_i h) dX4_isGoodThere_19
noncomputable def f_X4_isApart (a1 : Int32) (a2 : Int32) (a3 : Int32) (σ : Mem) : Option Int32 :=
  (f_X4_isGoodHere a1 a2 σ).bind (fun r1 => (f_X4_isGoodThere a1 a3 σ).bind (fun r2 => if r1 = r2 then (some (0 : Int32)) else (some (1 : Int32))))
set_option maxRecDepth 20000 in
theorem c_X4_isApart {l : Launch} {D : va_G} {cy : Nat → ClassId} {ad : Nat → Nat} (hj : InjW 1 ad) (a1 : Int32) (a2 : Int32) (a3 : Int32)  (σ : Mem) (r : Int32) (h : f_X4_isApart a1 a2 a3 σ = some r) : CI 1 D cy ad l yX4_isApart cX4_isApart 4 (some .boolean) 1 [.ref (ad (9)), .int a1, .int a2, .int a3] σ r σ := by
  refine CI.mk (by decide) hj (Nat.le_of_ble_eq_true rfl) (fun p e R s m below meth c ls C hw hl => ?_)
  have hl : lv_has ls 4 [(0, .ref (ad (9))), (1, .int a1), (2, .int a2), (3, .int a3)] := hl
  generalize ([.ref (ad (9)), .int a1, .int a2, .int a3] : List Value).toArray = args at C ⊢
  have C : Cx 1 D cy ad p R s m args meth c cX4_isApart 4 RX4 (some .boolean) 1 := C
  unfold f_X4_isApart at h
  refine lv_aload_n C.1 C.2.1 dX4_isApart_0 rfl (lv_at hl 0 rfl) ?_
  refine lv_iload_n C.1 C.2.1 dX4_isApart_1 rfl (lv_at hl 1 rfl) ?_
  refine lv_iload_n C.1 C.2.1 dX4_isApart_2 rfl (lv_at hl 2 rfl) ?_
  obtain ⟨r1, h1, h⟩ := bS h
  refine go_I hw (run_V (As := [.int _, .int _]) C hw (c_X4_isGoodHere C.2.2.2.2.2.2.2.2.2 _ _ _ _ h1) mi_X4_isGoodHere mv_X4_isGoodHere o1_9 (ci := 4) rfl rfl lk_X4_153 (by decide) (by decide) rfl hl.1 rfl (Nat.le_of_ble_eq_true rfl) dX4_isApart_3 ⟨Nat.le_refl 0, Nat.le_refl 0⟩) (fun H locs hw => ?_)
  refine lv_aload_n C.1 C.2.1 dX4_isApart_6 rfl (lv_at hl 0 rfl) ?_
  refine lv_iload_n C.1 C.2.1 dX4_isApart_7 rfl (lv_at hl 1 rfl) ?_
  refine lv_iload_n C.1 C.2.1 dX4_isApart_8 rfl (lv_at hl 3 rfl) ?_
  obtain ⟨r2, h1, h⟩ := bS h
  refine go_I hw (run_V (As := [.int _, .int _]) C hw (c_X4_isGoodThere C.2.2.2.2.2.2.2.2.2 _ _ _ _ h1) mi_X4_isGoodThere mv_X4_isGoodThere o1_9 (ci := 4) rfl rfl lk_X4_156 (by decide) (by decide) rfl hl.1 rfl (Nat.le_of_ble_eq_true rfl) dX4_isApart_9 ⟨Nat.le_refl 0, Nat.le_refl 0⟩) (fun H locs hw => ?_)
  refine lv_icmp_eq (tgt := 19) C.1 C.2.1 dX4_isApart_12 (by decide) (fun cd => ?_) (fun cd => ?_)
  · have h := ite_t cd h
    refine lv_iconst (v := (0 : Int32)) C.1 C.2.1 dX4_isApart_19 (by decide) ?_
    exact m_zret C hw (by decide) (ret_i h) dX4_isApart_20
  · have h := ite_f cd h
    refine lv_iconst (v := (1 : Int32)) C.1 C.2.1 dX4_isApart_15 (by decide) ?_
    refine lv_goto (tgt := 20) C.1 C.2.1 dX4_isApart_16 (by decide) ?_
    exact m_zret C hw (by decide) (ret_i h) dX4_isApart_20
noncomputable def j_X4_leastApart_87 (a1 : Int32) (a2 : Int32) (v3 : Int32) (v4 : Int32) (σ : Mem) : Option ((Int32 × Int32) ⊕ Int32) :=
  lt (v4 + (1 : Int32)) (fun x1 => some (.inl (v3, x1)))
noncomputable def j_X4_leastApart_84 (a1 : Int32) (a2 : Int32) (v4 : Int32) (σ : Mem) : Option ((Int32 × Int32) ⊕ Int32) :=
  j_X4_leastApart_87 a1 a2 v4 v4 σ
noncomputable def b_X4_leastApart_6 (a1 : Int32) (a2 : Int32) (v3 : Int32) (v4 : Int32) (σ : Mem) : Option ((Int32 × Int32) ⊕ Int32) :=
  if (σ.1 9 17) ≤ v4 then (some (.inr v3)) else (gd (ix v4 120) (if (σ.1 13 v4.toNatClampNeg) = (32 : Int32) then (j_X4_leastApart_87 a1 a2 v3 v4 σ) else ((f_X4_isApart v4 a1 a2 σ).bind (fun r2 => if r2 = 0 then (j_X4_leastApart_87 a1 a2 v3 v4 σ) else (if v3 < 0 then (j_X4_leastApart_84 a1 a2 v4 σ) else (gd (ix v4 120) (gd (ix v3 120) (if (σ.1 13 v4.toNatClampNeg) < (σ.1 13 v3.toNatClampNeg) then (j_X4_leastApart_84 a1 a2 v4 σ) else (gd (ix v4 120) (gd (ix v3 120) (if (σ.1 13 v4.toNatClampNeg) = (σ.1 13 v3.toNatClampNeg) then ((f_X4_comesBefore v4 v3 σ).bind (fun r3 => if r3 = 0 then (j_X4_leastApart_87 a1 a2 v3 v4 σ) else (j_X4_leastApart_84 a1 a2 v4 σ))) else (j_X4_leastApart_87 a1 a2 v3 v4 σ))))))))))))
noncomputable def f_X4_leastApart (a1 : Int32) (a2 : Int32) (σ : Mem) : Option Int32 :=
  (Lim (T := Int32) (fun s => b_X4_leastApart_6 a1 a2 s.1 s.2 σ) ((-9 : Int32), (0 : Int32))).bind (fun r4 => some r4)
set_option maxRecDepth 20000 in
theorem w_X4_leastApart_87 {D : va_G} {cy : Nat → ClassId} {ad : Nat → Nat} {p : Program} {l : Launch} {e : Env} {R : Room} {s : State} {m : MethodId} {args : Array Value} {below : List Frame} {meth : Method} {c : Code} (C : Cx 1 D cy ad p R s m args meth c cX4_leastApart 5 RX4 (some .int) 2) {a1 : Int32} {a2 : Int32}  {v3 : Int32} {v4 : Int32}  {σ : Mem} {H : Heap} {locs : List Loc} {ls : Array Slot} {Q : State → Prop} {P : (Int32 × Int32) → Prop} {r : Int32} {x : (Int32 × Int32) ⊕ Int32} (hx : LimQ P r x) (hP : ∀ u, P u → ∀ (H : Heap) (locs : List Loc) (ls : Array Slot), Wd 1 D cy ad s σ H locs → lv_has ls 5 [(0, .ref (ad (9))), (1, .int a1), (2, .int a2), (3, .int u.1), (4, .int u.2)] → W p l e R s m args below meth c H locs 0 0 Q (F0 m 6 ls [])) (hE0 : ∀ (v3 : Int32), (v3 : Int32) = r → ∀ (H : Heap) (locs : List Loc) (ls : Array Slot), Wd 1 D cy ad s σ H locs → lv_has ls 5 [(3, .int v3)] → W p l e R s m args below meth c H locs 0 0 Q (F0 m 93 ls [])) (hw : Wd 1 D cy ad s σ H locs) (hl : lv_has ls 5 [(0, .ref (ad (9))), (1, .int a1), (2, .int a2), (3, .int v3), (4, .int v4)]) (h : j_X4_leastApart_87 a1 a2 v3 v4 σ = some x) : W p l e R s m args below meth c H locs 0 0 Q (F0 m 87 ls []) := by
  unfold j_X4_leastApart_87 at h
  obtain ⟨x1, ex1, h⟩ := lt_of h
  refine m_iinc (k := 4) (lv' := [(4, .int _), (0, .ref _), (1, .int _), (2, .int _), (3, .int _)]) C (1 : Int32) (by decide) dX4_leastApart_87 hl rfl ex1.symm (by decide) rfl (fun ls hl => ?_)
  refine lv_goto (tgt := 6) C.1 C.2.1 dX4_leastApart_90 (by decide) ?_
  obtain rfl := Option.some.inj h
  exact hP _ hx _ _ _ hw (lv_sub hl [1, 2, 3, 4, 0] rfl)
set_option maxRecDepth 20000 in
theorem w_X4_leastApart_84 {D : va_G} {cy : Nat → ClassId} {ad : Nat → Nat} {p : Program} {l : Launch} {e : Env} {R : Room} {s : State} {m : MethodId} {args : Array Value} {below : List Frame} {meth : Method} {c : Code} (C : Cx 1 D cy ad p R s m args meth c cX4_leastApart 5 RX4 (some .int) 2) {a1 : Int32} {a2 : Int32}  {v4 : Int32}  {σ : Mem} {H : Heap} {locs : List Loc} {ls : Array Slot} {Q : State → Prop} {P : (Int32 × Int32) → Prop} {r : Int32} {x : (Int32 × Int32) ⊕ Int32} (hx : LimQ P r x) (hP : ∀ u, P u → ∀ (H : Heap) (locs : List Loc) (ls : Array Slot), Wd 1 D cy ad s σ H locs → lv_has ls 5 [(0, .ref (ad (9))), (1, .int a1), (2, .int a2), (3, .int u.1), (4, .int u.2)] → W p l e R s m args below meth c H locs 0 0 Q (F0 m 6 ls [])) (hE0 : ∀ (v3 : Int32), (v3 : Int32) = r → ∀ (H : Heap) (locs : List Loc) (ls : Array Slot), Wd 1 D cy ad s σ H locs → lv_has ls 5 [(3, .int v3)] → W p l e R s m args below meth c H locs 0 0 Q (F0 m 93 ls [])) (hw : Wd 1 D cy ad s σ H locs) (hl : lv_has ls 5 [(0, .ref (ad (9))), (1, .int a1), (2, .int a2), (4, .int v4)]) (h : j_X4_leastApart_84 a1 a2 v4 σ = some x) : W p l e R s m args below meth c H locs 0 0 Q (F0 m 84 ls []) := by
  unfold j_X4_leastApart_84 at h
  refine lv_iload C.1 C.2.1 dX4_leastApart_84 (lv_at hl 3 rfl) ?_
  refine lv_istore_n (lv' := [(3, .int _), (0, .ref _), (1, .int _), (2, .int _), (4, .int _)]) C.1 C.2.1 dX4_leastApart_86 rfl hl (by decide) rfl (fun ls hl => ?_)
  exact w_X4_leastApart_87 C hx hP hE0 hw (lv_sub hl [1, 2, 3, 0, 4] rfl) h
set_option maxRecDepth 20000 in
theorem w_X4_leastApart_6 {D : va_G} {cy : Nat → ClassId} {ad : Nat → Nat} {p : Program} {l : Launch} {e : Env} {R : Room} {s : State} {m : MethodId} {args : Array Value} {below : List Frame} {meth : Method} {c : Code} (C : Cx 1 D cy ad p R s m args meth c cX4_leastApart 5 RX4 (some .int) 2) {a1 : Int32} {a2 : Int32}  {v3 : Int32} {v4 : Int32} {σ : Mem} {Q : State → Prop} {r : Int32} (hL : Lim (T := Int32) (fun s => b_X4_leastApart_6 a1 a2 s.1 s.2 σ) (v3, v4) = some r) (hE0 : ∀ (v3 : Int32), (v3 : Int32) = r → ∀ (H : Heap) (locs : List Loc) (ls : Array Slot), Wd 1 D cy ad s σ H locs → lv_has ls 5 [(3, .int v3)] → W p l e R s m args below meth c H locs 0 0 Q (F0 m 93 ls [])) (H : Heap) (locs : List Loc) (ls : Array Slot) (hw : Wd 1 D cy ad s σ H locs) (hl : lv_has ls 5 [(0, .ref (ad (9))), (1, .int a1), (2, .int a2), (3, .int v3), (4, .int v4)]) : W p l e R s m args below meth c H locs 0 0 Q (F0 m 6 ls []) := by
  refine Lim_ind hL (P := fun u => ∀ (H : Heap) (locs : List Loc) (ls : Array Slot), Wd 1 D cy ad s σ H locs → lv_has ls 5 [(0, .ref (ad (9))), (1, .int a1), (2, .int a2), (3, .int u.1), (4, .int u.2)] → W p l e R s m args below meth c H locs 0 0 Q (F0 m 6 ls [])) (fun u x h hx H locs ls hw hl => ?_) H locs ls hw hl
  clear hL
  obtain ⟨v3, v4⟩ := u
  have h : b_X4_leastApart_6 a1 a2 v3 v4 σ = some x := h
  have hw : Wd 1 D cy ad s σ H locs := hw
  have hl : lv_has ls 5 [(0, .ref (ad (9))), (1, .int a1), (2, .int a2), (3, .int v3), (4, .int v4)] := hl
  have hP : ∀ (u : (Int32 × Int32)), (∀ (H : Heap) (locs : List Loc) (ls : Array Slot), Wd 1 D cy ad s σ H locs → lv_has ls 5 [(0, .ref (ad (9))), (1, .int a1), (2, .int a2), (3, .int u.1), (4, .int u.2)] → W p l e R s m args below meth c H locs 0 0 Q (F0 m 6 ls [])) → ∀ (H : Heap) (locs : List Loc) (ls : Array Slot), Wd 1 D cy ad s σ H locs → lv_has ls 5 [(0, .ref (ad (9))), (1, .int a1), (2, .int a2), (3, .int u.1), (4, .int u.2)] → W p l e R s m args below meth c H locs 0 0 Q (F0 m 6 ls []) := fun _ k => k
  unfold b_X4_leastApart_6 at h
  refine lv_iload C.1 C.2.1 dX4_leastApart_6 (lv_at hl 4 rfl) ?_
  refine lv_aload_n C.1 C.2.1 dX4_leastApart_8 rfl (lv_at hl 0 rfl) ?_
  refine gf_X4_78 C hw dX4_leastApart_9 ?_
  refine lv_icmp_ge (tgt := 93) C.1 C.2.1 dX4_leastApart_12 (by decide) (fun cd => ?_) (fun cd => ?_)
  · have h := ite_t cd h
    obtain rfl := Option.some.inj h
    exact hE0 _ hx _ _ _ hw (lv_sub hl [3] rfl)
  · have h := ite_f cd h
    refine lv_aload_n C.1 C.2.1 dX4_leastApart_15 rfl (lv_at hl 0 rfl) ?_
    refine gf_X4_21 C hw dX4_leastApart_16 ?_
    refine lv_iload C.1 C.2.1 dX4_leastApart_19 (lv_at hl 4 rfl) ?_
    obtain ⟨hin, h⟩ := gd_of h
    refine m_iald C hw a1_13 hin dX4_leastApart_21 ?_
    refine lv_bipush (v := (32 : Int32)) C.1 C.2.1 dX4_leastApart_22 (by decide) ?_
    refine lv_icmp_eq (tgt := 87) C.1 C.2.1 dX4_leastApart_24 (by decide) (fun cd => ?_) (fun cd => ?_)
    · have h := ite_t cd h
      exact w_X4_leastApart_87 C hx hP hE0 hw (lv_sub hl [0, 1, 2, 3, 4] rfl) h
    · have h := ite_f cd h
      refine lv_aload_n C.1 C.2.1 dX4_leastApart_27 rfl (lv_at hl 0 rfl) ?_
      refine lv_iload C.1 C.2.1 dX4_leastApart_28 (lv_at hl 4 rfl) ?_
      refine lv_iload_n C.1 C.2.1 dX4_leastApart_30 rfl (lv_at hl 1 rfl) ?_
      refine lv_iload_n C.1 C.2.1 dX4_leastApart_31 rfl (lv_at hl 2 rfl) ?_
      obtain ⟨r2, h1, h⟩ := bS h
      refine go_I hw (run_V (As := [.int _, .int _, .int _]) C hw (c_X4_isApart C.2.2.2.2.2.2.2.2.2 _ _ _ _ _ h1) mi_X4_isApart mv_X4_isApart o1_9 (ci := 4) rfl rfl lk_X4_159 (by decide) (by decide) rfl hl.1 rfl (Nat.le_of_ble_eq_true rfl) dX4_leastApart_32 ⟨Nat.le_refl 0, Nat.le_refl 0⟩) (fun H locs hw => ?_)
      refine lv_if_eq (tgt := 87) C.1 C.2.1 dX4_leastApart_35 (by decide) (fun cd => ?_) (fun cd => ?_)
      · have h := ite_t cd h
        exact w_X4_leastApart_87 C hx hP hE0 hw (lv_sub hl [0, 1, 2, 3, 4] rfl) h
      · have h := ite_f cd h
        refine lv_iload_n C.1 C.2.1 dX4_leastApart_38 rfl (lv_at hl 3 rfl) ?_
        refine lv_if_lt (tgt := 84) C.1 C.2.1 dX4_leastApart_39 (by decide) (fun cd => ?_) (fun cd => ?_)
        · have h := ite_t cd h
          exact w_X4_leastApart_84 C hx hP hE0 hw (lv_sub hl [0, 1, 2, 4] rfl) h
        · have h := ite_f cd h
          refine lv_aload_n C.1 C.2.1 dX4_leastApart_42 rfl (lv_at hl 0 rfl) ?_
          refine gf_X4_21 C hw dX4_leastApart_43 ?_
          refine lv_iload C.1 C.2.1 dX4_leastApart_46 (lv_at hl 4 rfl) ?_
          obtain ⟨hin, h⟩ := gd_of h
          refine m_iald C hw a1_13 hin dX4_leastApart_48 ?_
          refine lv_aload_n C.1 C.2.1 dX4_leastApart_49 rfl (lv_at hl 0 rfl) ?_
          refine gf_X4_21 C hw dX4_leastApart_50 ?_
          refine lv_iload_n C.1 C.2.1 dX4_leastApart_53 rfl (lv_at hl 3 rfl) ?_
          obtain ⟨hin, h⟩ := gd_of h
          refine m_iald C hw a1_13 hin dX4_leastApart_54 ?_
          refine lv_icmp_lt (tgt := 84) C.1 C.2.1 dX4_leastApart_55 (by decide) (fun cd => ?_) (fun cd => ?_)
          · have h := ite_t cd h
            exact w_X4_leastApart_84 C hx hP hE0 hw (lv_sub hl [0, 1, 2, 4] rfl) h
          · have h := ite_f cd h
            refine lv_aload_n C.1 C.2.1 dX4_leastApart_58 rfl (lv_at hl 0 rfl) ?_
            refine gf_X4_21 C hw dX4_leastApart_59 ?_
            refine lv_iload C.1 C.2.1 dX4_leastApart_62 (lv_at hl 4 rfl) ?_
            obtain ⟨hin, h⟩ := gd_of h
            refine m_iald C hw a1_13 hin dX4_leastApart_64 ?_
            refine lv_aload_n C.1 C.2.1 dX4_leastApart_65 rfl (lv_at hl 0 rfl) ?_
            refine gf_X4_21 C hw dX4_leastApart_66 ?_
            refine lv_iload_n C.1 C.2.1 dX4_leastApart_69 rfl (lv_at hl 3 rfl) ?_
            obtain ⟨hin, h⟩ := gd_of h
            refine m_iald C hw a1_13 hin dX4_leastApart_70 ?_
            refine lv_icmp_ne (tgt := 87) C.1 C.2.1 dX4_leastApart_71 (by decide) (fun cd => ?_) (fun cd => ?_)
            · have h := ite_f cd h
              exact w_X4_leastApart_87 C hx hP hE0 hw (lv_sub hl [0, 1, 2, 3, 4] rfl) h
            · have h := ite_t cd h
              refine lv_aload_n C.1 C.2.1 dX4_leastApart_74 rfl (lv_at hl 0 rfl) ?_
              refine lv_iload C.1 C.2.1 dX4_leastApart_75 (lv_at hl 4 rfl) ?_
              refine lv_iload_n C.1 C.2.1 dX4_leastApart_77 rfl (lv_at hl 3 rfl) ?_
              obtain ⟨r3, h1, h⟩ := bS h
              refine go_I hw (run_V (As := [.int _, .int _]) C hw (c_X4_comesBefore C.2.2.2.2.2.2.2.2.2 _ _ _ _ h1) mi_X4_comesBefore mv_X4_comesBefore o1_9 (ci := 4) rfl rfl lk_X4_149 (by decide) (by decide) rfl hl.1 rfl (Nat.le_of_ble_eq_true rfl) dX4_leastApart_78 ⟨Nat.le_refl 0, Nat.le_refl 0⟩) (fun H locs hw => ?_)
              refine lv_if_eq (tgt := 87) C.1 C.2.1 dX4_leastApart_81 (by decide) (fun cd => ?_) (fun cd => ?_)
              · have h := ite_t cd h
                exact w_X4_leastApart_87 C hx hP hE0 hw (lv_sub hl [0, 1, 2, 3, 4] rfl) h
              · have h := ite_f cd h
                exact w_X4_leastApart_84 C hx hP hE0 hw (lv_sub hl [0, 1, 2, 4] rfl) h
set_option maxRecDepth 20000 in
theorem c_X4_leastApart {l : Launch} {D : va_G} {cy : Nat → ClassId} {ad : Nat → Nat} (hj : InjW 1 ad) (a1 : Int32) (a2 : Int32)  (σ : Mem) (r : Int32) (h : f_X4_leastApart a1 a2 σ = some r) : CI 1 D cy ad l yX4_leastApart cX4_leastApart 5 (some .int) 2 [.ref (ad (9)), .int a1, .int a2] σ r σ := by
  refine CI.mk (by decide) hj (Nat.le_of_ble_eq_true rfl) (fun p e R s m below meth c ls C hw hl => ?_)
  have hl : lv_has ls 5 [(0, .ref (ad (9))), (1, .int a1), (2, .int a2)] := hl
  generalize ([.ref (ad (9)), .int a1, .int a2] : List Value).toArray = args at C ⊢
  have C : Cx 1 D cy ad p R s m args meth c cX4_leastApart 5 RX4 (some .int) 2 := C
  unfold f_X4_leastApart at h
  refine lv_bipush (v := (-9 : Int32)) C.1 C.2.1 dX4_leastApart_0 (by decide) ?_
  refine lv_istore_n (lv' := [(3, .int _), (0, .ref _), (1, .int _), (2, .int _)]) C.1 C.2.1 dX4_leastApart_2 rfl hl (by decide) rfl (fun ls hl => ?_)
  refine lv_iconst (v := (0 : Int32)) C.1 C.2.1 dX4_leastApart_3 (by decide) ?_
  refine lv_istore (lv' := [(4, .int _), (3, .int _), (0, .ref _), (1, .int _), (2, .int _)]) C.1 C.2.1 dX4_leastApart_4 hl (by decide) rfl (fun ls hl => ?_)
  obtain ⟨r4, hL, h⟩ := bS h
  refine w_X4_leastApart_6 C  hL (fun y0 hr H locs ls hw hl => ?_) _ _ _ hw (lv_sub hl [2, 3, 4, 1, 0] rfl)
  · subst hr
    try dsimp only at h
    try dsimp only at hw
    try dsimp only at hl
    refine lv_iload_n C.1 C.2.1 dX4_leastApart_93 rfl (lv_at hl 0 rfl) ?_
    exact m_iret C hw (ret_i h) dX4_leastApart_94
noncomputable def j_X4_signAt_81 (a1 : Int32) (a2 : Int32) (v4 : Int32) (v5 : Int32) (v6 : Int32) (σ : Mem) : Option ((Int32 × Int32 × Int32) ⊕ Int32) :=
  lt (v5 + (1 : Int32)) (fun x3 => some (.inl (v6, v4, x3)))
noncomputable def b_X4_signAt_8 (a1 : Int32) (a2 : Int32) (v3 : Int32) (v4 : Int32) (v5 : Int32) (σ : Mem) : Option ((Int32 × Int32 × Int32) ⊕ Int32) :=
  if (31 : Int32) ≤ v5 then (some (.inr v3)) else (if v4 ≤ 0 then (some (.inr v3)) else (gd (ix v3 120) (if (σ.1 15 v3.toNatClampNeg) < 0 then (some (.inr v3)) else (gd (ix v3 120) (lt (σ.1 15 v3.toNatClampNeg) (fun x1 => lt (v4 + (-1 : Int32)) (fun x2 => gd (ix x1 120) (if x2 < (σ.1 13 x1.toNatClampNeg) then (j_X4_signAt_81 a1 a2 x2 v5 x1 σ) else (gd (ix v3 120) (if (σ.1 16 v3.toNatClampNeg) < 0 then (j_X4_signAt_81 a1 a2 x2 v5 x1 σ) else (gd (ix x1 120) (lt (x2 - (σ.1 13 x1.toNatClampNeg)) (fun x4 => gd (ix v3 120) (lt (σ.1 16 v3.toNatClampNeg) (fun x5 => j_X4_signAt_81 a1 a2 x4 v5 x5 σ)))))))))))))))
noncomputable def j_X4_signAt_90 (a1 : Int32) (a2 : Int32) (v3 : Int32) (σ : Mem) : Option Int32 :=
  gd (ix v3 120) (some (σ.1 14 v3.toNatClampNeg))
noncomputable def f_X4_signAt (a1 : Int32) (a2 : Int32) (σ : Mem) : Option Int32 :=
  (Lim (T := Int32) (fun s => b_X4_signAt_8 a1 a2 s.1 s.2.1 s.2.2 σ) (a1, a2, (0 : Int32))).bind (fun r6 => j_X4_signAt_90 a1 a2 r6 σ)
set_option maxRecDepth 20000 in
theorem w_X4_signAt_81 {D : va_G} {cy : Nat → ClassId} {ad : Nat → Nat} {p : Program} {l : Launch} {e : Env} {R : Room} {s : State} {m : MethodId} {args : Array Value} {below : List Frame} {meth : Method} {c : Code} (C : Cx 1 D cy ad p R s m args meth c cX4_signAt 7 RX4 (some .int) 0) {a1 : Int32} {a2 : Int32}  {v4 : Int32} {v5 : Int32} {v6 : Int32}  {σ : Mem} {H : Heap} {locs : List Loc} {ls : Array Slot} {Q : State → Prop} {P : (Int32 × Int32 × Int32) → Prop} {r : Int32} {x : (Int32 × Int32 × Int32) ⊕ Int32} (hx : LimQ P r x) (hP : ∀ u, P u → ∀ (H : Heap) (locs : List Loc) (ls : Array Slot), Wd 1 D cy ad s σ H locs → lv_has ls 7 [(0, .ref (ad (9))), (3, .int u.1), (4, .int u.2.1), (5, .int u.2.2)] → W p l e R s m args below meth c H locs 0 0 Q (F0 m 8 ls [])) (hE0 : ∀ (v3 : Int32), (v3 : Int32) = r → ∀ (H : Heap) (locs : List Loc) (ls : Array Slot), Wd 1 D cy ad s σ H locs → lv_has ls 7 [(0, .ref (ad (9))), (3, .int v3)] → W p l e R s m args below meth c H locs 0 0 Q (F0 m 90 ls [])) (hw : Wd 1 D cy ad s σ H locs) (hl : lv_has ls 7 [(0, .ref (ad (9))), (4, .int v4), (5, .int v5), (6, .int v6)]) (h : j_X4_signAt_81 a1 a2 v4 v5 v6 σ = some x) : W p l e R s m args below meth c H locs 0 0 Q (F0 m 81 ls []) := by
  unfold j_X4_signAt_81 at h
  refine lv_iload C.1 C.2.1 dX4_signAt_81 (lv_at hl 3 rfl) ?_
  refine lv_istore_n (lv' := [(3, .int _), (0, .ref _), (4, .int _), (5, .int _), (6, .int _)]) C.1 C.2.1 dX4_signAt_83 rfl hl (by decide) rfl (fun ls hl => ?_)
  obtain ⟨x3, ex3, h⟩ := lt_of h
  refine m_iinc (k := 3) (lv' := [(5, .int _), (3, .int _), (0, .ref _), (4, .int _), (6, .int _)]) C (1 : Int32) (by decide) dX4_signAt_84 hl rfl ex3.symm (by decide) rfl (fun ls hl => ?_)
  refine lv_goto (tgt := 8) C.1 C.2.1 dX4_signAt_87 (by decide) ?_
  obtain rfl := Option.some.inj h
  exact hP _ hx _ _ _ hw (lv_sub hl [2, 1, 3, 0] rfl)
set_option maxRecDepth 20000 in
theorem w_X4_signAt_8 {D : va_G} {cy : Nat → ClassId} {ad : Nat → Nat} {p : Program} {l : Launch} {e : Env} {R : Room} {s : State} {m : MethodId} {args : Array Value} {below : List Frame} {meth : Method} {c : Code} (C : Cx 1 D cy ad p R s m args meth c cX4_signAt 7 RX4 (some .int) 0) {a1 : Int32} {a2 : Int32}  {v3 : Int32} {v4 : Int32} {v5 : Int32} {σ : Mem} {Q : State → Prop} {r : Int32} (hL : Lim (T := Int32) (fun s => b_X4_signAt_8 a1 a2 s.1 s.2.1 s.2.2 σ) (v3, v4, v5) = some r) (hE0 : ∀ (v3 : Int32), (v3 : Int32) = r → ∀ (H : Heap) (locs : List Loc) (ls : Array Slot), Wd 1 D cy ad s σ H locs → lv_has ls 7 [(0, .ref (ad (9))), (3, .int v3)] → W p l e R s m args below meth c H locs 0 0 Q (F0 m 90 ls [])) (H : Heap) (locs : List Loc) (ls : Array Slot) (hw : Wd 1 D cy ad s σ H locs) (hl : lv_has ls 7 [(0, .ref (ad (9))), (3, .int v3), (4, .int v4), (5, .int v5)]) : W p l e R s m args below meth c H locs 0 0 Q (F0 m 8 ls []) := by
  refine Lim_ind hL (P := fun u => ∀ (H : Heap) (locs : List Loc) (ls : Array Slot), Wd 1 D cy ad s σ H locs → lv_has ls 7 [(0, .ref (ad (9))), (3, .int u.1), (4, .int u.2.1), (5, .int u.2.2)] → W p l e R s m args below meth c H locs 0 0 Q (F0 m 8 ls [])) (fun u x h hx H locs ls hw hl => ?_) H locs ls hw hl
  clear hL
  obtain ⟨v3, v4, v5⟩ := u
  have h : b_X4_signAt_8 a1 a2 v3 v4 v5 σ = some x := h
  have hw : Wd 1 D cy ad s σ H locs := hw
  have hl : lv_has ls 7 [(0, .ref (ad (9))), (3, .int v3), (4, .int v4), (5, .int v5)] := hl
  have hP : ∀ (u : (Int32 × Int32 × Int32)), (∀ (H : Heap) (locs : List Loc) (ls : Array Slot), Wd 1 D cy ad s σ H locs → lv_has ls 7 [(0, .ref (ad (9))), (3, .int u.1), (4, .int u.2.1), (5, .int u.2.2)] → W p l e R s m args below meth c H locs 0 0 Q (F0 m 8 ls [])) → ∀ (H : Heap) (locs : List Loc) (ls : Array Slot), Wd 1 D cy ad s σ H locs → lv_has ls 7 [(0, .ref (ad (9))), (3, .int u.1), (4, .int u.2.1), (5, .int u.2.2)] → W p l e R s m args below meth c H locs 0 0 Q (F0 m 8 ls []) := fun _ k => k
  unfold b_X4_signAt_8 at h
  refine lv_iload C.1 C.2.1 dX4_signAt_8 (lv_at hl 3 rfl) ?_
  refine lv_bipush (v := (31 : Int32)) C.1 C.2.1 dX4_signAt_10 (by decide) ?_
  refine lv_icmp_ge (tgt := 90) C.1 C.2.1 dX4_signAt_12 (by decide) (fun cd => ?_) (fun cd => ?_)
  · have h := ite_t cd h
    obtain rfl := Option.some.inj h
    exact hE0 _ hx _ _ _ hw (lv_sub hl [0, 1] rfl)
  · have h := ite_f cd h
    refine lv_iload C.1 C.2.1 dX4_signAt_15 (lv_at hl 2 rfl) ?_
    refine lv_if_le (tgt := 90) C.1 C.2.1 dX4_signAt_17 (by decide) (fun cd => ?_) (fun cd => ?_)
    · have h := ite_t cd h
      obtain rfl := Option.some.inj h
      exact hE0 _ hx _ _ _ hw (lv_sub hl [0, 1] rfl)
    · have h := ite_f cd h
      refine lv_aload_n C.1 C.2.1 dX4_signAt_20 rfl (lv_at hl 0 rfl) ?_
      refine gf_X4_27 C hw dX4_signAt_21 ?_
      refine lv_iload_n C.1 C.2.1 dX4_signAt_24 rfl (lv_at hl 1 rfl) ?_
      obtain ⟨hin, h⟩ := gd_of h
      refine m_iald C hw a1_15 hin dX4_signAt_25 ?_
      refine lv_if_lt (tgt := 90) C.1 C.2.1 dX4_signAt_26 (by decide) (fun cd => ?_) (fun cd => ?_)
      · have h := ite_t cd h
        obtain rfl := Option.some.inj h
        exact hE0 _ hx _ _ _ hw (lv_sub hl [0, 1] rfl)
      · have h := ite_f cd h
        refine lv_aload_n C.1 C.2.1 dX4_signAt_29 rfl (lv_at hl 0 rfl) ?_
        refine gf_X4_27 C hw dX4_signAt_30 ?_
        refine lv_iload_n C.1 C.2.1 dX4_signAt_33 rfl (lv_at hl 1 rfl) ?_
        obtain ⟨hin, h⟩ := gd_of h
        refine m_iald C hw a1_15 hin dX4_signAt_34 ?_
        obtain ⟨x1, ex1, h⟩ := lt_of h
        refine m_topi ex1 ?_
        refine lv_istore (lv' := [(6, .int _), (0, .ref _), (3, .int _), (4, .int _), (5, .int _)]) C.1 C.2.1 dX4_signAt_35 hl (by decide) rfl (fun ls hl => ?_)
        obtain ⟨x2, ex2, h⟩ := lt_of h
        refine m_iinc (k := 3) (lv' := [(4, .int _), (6, .int _), (0, .ref _), (3, .int _), (5, .int _)]) C (-1 : Int32) (by decide) dX4_signAt_37 hl rfl ex2.symm (by decide) rfl (fun ls hl => ?_)
        refine lv_iload C.1 C.2.1 dX4_signAt_40 (lv_at hl 0 rfl) ?_
        refine lv_aload_n C.1 C.2.1 dX4_signAt_42 rfl (lv_at hl 2 rfl) ?_
        refine gf_X4_21 C hw dX4_signAt_43 ?_
        refine lv_iload C.1 C.2.1 dX4_signAt_46 (lv_at hl 1 rfl) ?_
        obtain ⟨hin, h⟩ := gd_of h
        refine m_iald C hw a1_13 hin dX4_signAt_48 ?_
        refine lv_icmp_lt (tgt := 81) C.1 C.2.1 dX4_signAt_49 (by decide) (fun cd => ?_) (fun cd => ?_)
        · have h := ite_t cd h
          exact w_X4_signAt_81 C hx hP hE0 hw (lv_sub hl [2, 0, 4, 1] rfl) h
        · have h := ite_f cd h
          refine lv_aload_n C.1 C.2.1 dX4_signAt_52 rfl (lv_at hl 2 rfl) ?_
          refine gf_X4_30 C hw dX4_signAt_53 ?_
          refine lv_iload_n C.1 C.2.1 dX4_signAt_56 rfl (lv_at hl 3 rfl) ?_
          obtain ⟨hin, h⟩ := gd_of h
          refine m_iald C hw a1_16 hin dX4_signAt_57 ?_
          refine lv_if_lt (tgt := 81) C.1 C.2.1 dX4_signAt_58 (by decide) (fun cd => ?_) (fun cd => ?_)
          · have h := ite_t cd h
            exact w_X4_signAt_81 C hx hP hE0 hw (lv_sub hl [2, 0, 4, 1] rfl) h
          · have h := ite_f cd h
            refine lv_iload C.1 C.2.1 dX4_signAt_61 (lv_at hl 0 rfl) ?_
            refine lv_aload_n C.1 C.2.1 dX4_signAt_63 rfl (lv_at hl 2 rfl) ?_
            refine gf_X4_21 C hw dX4_signAt_64 ?_
            refine lv_iload C.1 C.2.1 dX4_signAt_67 (lv_at hl 1 rfl) ?_
            obtain ⟨hin, h⟩ := gd_of h
            refine m_iald C hw a1_13 hin dX4_signAt_69 ?_
            refine lv_isub C.1 C.2.1 dX4_signAt_70 ?_
            obtain ⟨x4, ex4, h⟩ := lt_of h
            refine m_topi ex4 ?_
            refine lv_istore (lv' := [(4, .int _), (6, .int _), (0, .ref _), (3, .int _), (5, .int _)]) C.1 C.2.1 dX4_signAt_71 hl (by decide) rfl (fun ls hl => ?_)
            refine lv_aload_n C.1 C.2.1 dX4_signAt_73 rfl (lv_at hl 2 rfl) ?_
            refine gf_X4_30 C hw dX4_signAt_74 ?_
            refine lv_iload_n C.1 C.2.1 dX4_signAt_77 rfl (lv_at hl 3 rfl) ?_
            obtain ⟨hin, h⟩ := gd_of h
            refine m_iald C hw a1_16 hin dX4_signAt_78 ?_
            obtain ⟨x5, ex5, h⟩ := lt_of h
            refine m_topi ex5 ?_
            refine lv_istore (lv' := [(6, .int _), (4, .int _), (0, .ref _), (3, .int _), (5, .int _)]) C.1 C.2.1 dX4_signAt_79 hl (by decide) rfl (fun ls hl => ?_)
            exact w_X4_signAt_81 C hx hP hE0 hw (lv_sub hl [2, 1, 4, 0] rfl) h
set_option maxRecDepth 20000 in
theorem w_X4_signAt_90 {D : va_G} {cy : Nat → ClassId} {ad : Nat → Nat} {p : Program} {l : Launch} {e : Env} {R : Room} {s : State} {m : MethodId} {args : Array Value} {below : List Frame} {meth : Method} {c : Code} (C : Cx 1 D cy ad p R s m args meth c cX4_signAt 7 RX4 (some .int) 0) {a1 : Int32} {a2 : Int32}  {v3 : Int32}  {σ : Mem} {H : Heap} {locs : List Loc} {ls : Array Slot} {r : Int32} (hw : Wd 1 D cy ad s σ H locs) (hl : lv_has ls 7 [(0, .ref (ad (9))), (3, .int v3)]) (h : j_X4_signAt_90 a1 a2 v3 σ = some r) : W p l e R s m args below meth c H locs 0 0 (QI 1 D cy ad below args s r σ) (F0 m 90 ls []) := by
  unfold j_X4_signAt_90 at h
  refine lv_aload_n C.1 C.2.1 dX4_signAt_90 rfl (lv_at hl 0 rfl) ?_
  refine gf_X4_24 C hw dX4_signAt_91 ?_
  refine lv_iload_n C.1 C.2.1 dX4_signAt_94 rfl (lv_at hl 1 rfl) ?_
  obtain ⟨hin, h⟩ := gd_of h
  refine m_iald C hw a1_14 hin dX4_signAt_95 ?_
  exact m_iret C hw (ret_i h) dX4_signAt_96
set_option maxRecDepth 20000 in
theorem c_X4_signAt {l : Launch} {D : va_G} {cy : Nat → ClassId} {ad : Nat → Nat} (hj : InjW 1 ad) (a1 : Int32) (a2 : Int32)  (σ : Mem) (r : Int32) (h : f_X4_signAt a1 a2 σ = some r) : CI 1 D cy ad l yX4_signAt cX4_signAt 7 (some .int) 0 [.ref (ad (9)), .int a1, .int a2] σ r σ := by
  refine CI.mk (by decide) hj (Nat.le_of_ble_eq_true rfl) (fun p e R s m below meth c ls C hw hl => ?_)
  have hl : lv_has ls 7 [(0, .ref (ad (9))), (1, .int a1), (2, .int a2)] := hl
  generalize ([.ref (ad (9)), .int a1, .int a2] : List Value).toArray = args at C ⊢
  have C : Cx 1 D cy ad p R s m args meth c cX4_signAt 7 RX4 (some .int) 0 := C
  unfold f_X4_signAt at h
  refine lv_iload_n C.1 C.2.1 dX4_signAt_0 rfl (lv_at hl 1 rfl) ?_
  refine lv_istore_n (lv' := [(3, .int _), (0, .ref _), (1, .int _), (2, .int _)]) C.1 C.2.1 dX4_signAt_1 rfl hl (by decide) rfl (fun ls hl => ?_)
  refine lv_iload_n C.1 C.2.1 dX4_signAt_2 rfl (lv_at hl 3 rfl) ?_
  refine lv_istore (lv' := [(4, .int _), (3, .int _), (0, .ref _), (1, .int _), (2, .int _)]) C.1 C.2.1 dX4_signAt_3 hl (by decide) rfl (fun ls hl => ?_)
  refine lv_iconst (v := (0 : Int32)) C.1 C.2.1 dX4_signAt_5 (by decide) ?_
  refine lv_istore (lv' := [(5, .int _), (4, .int _), (3, .int _), (0, .ref _), (1, .int _), (2, .int _)]) C.1 C.2.1 dX4_signAt_6 hl (by decide) rfl (fun ls hl => ?_)
  obtain ⟨r6, hL, h⟩ := bS h
  refine w_X4_signAt_8 C  hL (fun y0 hr H locs ls hw hl => ?_) _ _ _ hw (lv_sub hl [3, 2, 1, 0] rfl)
  · subst hr
    try dsimp only at h
    try dsimp only at hw
    try dsimp only at hl
    exact w_X4_signAt_90 C hw (lv_sub hl [0, 1] rfl) h
noncomputable def f_X4_tellTree (a1 : Int32) (a2 : Int32) (σ : Mem) : Option Int32 :=
  if a1 < 0 then (some (-9 : Int32)) else (if a1 < (σ.1 9 17) then (if 0 ≤ a2 then (gd (ix a1 120) (if (σ.1 13 a1.toNatClampNeg) ≤ a2 then (some (-5 : Int32)) else ((f_X4_signAt a1 a2 σ).bind (fun r1 => some r1)))) else (gd (ix a1 120) (some (σ.1 13 a1.toNatClampNeg)))) else (some (-9 : Int32)))
set_option maxRecDepth 20000 in
theorem c_X4_tellTree {l : Launch} {D : va_G} {cy : Nat → ClassId} {ad : Nat → Nat} (hj : InjW 1 ad) (a1 : Int32) (a2 : Int32)  (σ : Mem) (r : Int32) (h : f_X4_tellTree a1 a2 σ = some r) : CI 1 D cy ad l yX4_tellTree cX4_tellTree 3 (some .int) 1 [.ref (ad (9)), .int a1, .int a2] σ r σ := by
  refine CI.mk (by decide) hj (Nat.le_of_ble_eq_true rfl) (fun p e R s m below meth c ls C hw hl => ?_)
  have hl : lv_has ls 3 [(0, .ref (ad (9))), (1, .int a1), (2, .int a2)] := hl
  generalize ([.ref (ad (9)), .int a1, .int a2] : List Value).toArray = args at C ⊢
  have C : Cx 1 D cy ad p R s m args meth c cX4_tellTree 3 RX4 (some .int) 1 := C
  unfold f_X4_tellTree at h
  refine lv_iload_n C.1 C.2.1 dX4_tellTree_0 rfl (lv_at hl 1 rfl) ?_
  refine lv_if_lt (tgt := 12) C.1 C.2.1 dX4_tellTree_1 (by decide) (fun cd => ?_) (fun cd => ?_)
  · have h := ite_t cd h
    refine lv_bipush (v := (-9 : Int32)) C.1 C.2.1 dX4_tellTree_12 (by decide) ?_
    exact m_iret C hw (ret_i h) dX4_tellTree_14
  · have h := ite_f cd h
    refine lv_iload_n C.1 C.2.1 dX4_tellTree_4 rfl (lv_at hl 1 rfl) ?_
    refine lv_aload_n C.1 C.2.1 dX4_tellTree_5 rfl (lv_at hl 0 rfl) ?_
    refine gf_X4_78 C hw dX4_tellTree_6 ?_
    refine lv_icmp_lt (tgt := 15) C.1 C.2.1 dX4_tellTree_9 (by decide) (fun cd => ?_) (fun cd => ?_)
    · have h := ite_t cd h
      refine lv_iload_n C.1 C.2.1 dX4_tellTree_15 rfl (lv_at hl 2 rfl) ?_
      refine lv_if_ge (tgt := 26) C.1 C.2.1 dX4_tellTree_16 (by decide) (fun cd => ?_) (fun cd => ?_)
      · have h := ite_t cd h
        refine lv_iload_n C.1 C.2.1 dX4_tellTree_26 rfl (lv_at hl 2 rfl) ?_
        refine lv_aload_n C.1 C.2.1 dX4_tellTree_27 rfl (lv_at hl 0 rfl) ?_
        refine gf_X4_21 C hw dX4_tellTree_28 ?_
        refine lv_iload_n C.1 C.2.1 dX4_tellTree_31 rfl (lv_at hl 1 rfl) ?_
        obtain ⟨hin, h⟩ := gd_of h
        refine m_iald C hw a1_13 hin dX4_tellTree_32 ?_
        refine lv_icmp_ge (tgt := 45) C.1 C.2.1 dX4_tellTree_33 (by decide) (fun cd => ?_) (fun cd => ?_)
        · have h := ite_t cd h
          refine lv_bipush (v := (-5 : Int32)) C.1 C.2.1 dX4_tellTree_45 (by decide) ?_
          exact m_iret C hw (ret_i h) dX4_tellTree_47
        · have h := ite_f cd h
          refine lv_aload_n C.1 C.2.1 dX4_tellTree_36 rfl (lv_at hl 0 rfl) ?_
          refine lv_iload_n C.1 C.2.1 dX4_tellTree_37 rfl (lv_at hl 1 rfl) ?_
          refine lv_iload_n C.1 C.2.1 dX4_tellTree_38 rfl (lv_at hl 2 rfl) ?_
          obtain ⟨r1, h1, h⟩ := bS h
          refine go_I hw (run_V (As := [.int _, .int _]) C hw (c_X4_signAt C.2.2.2.2.2.2.2.2.2 _ _ _ _ h1) mi_X4_signAt mv_X4_signAt o1_9 (ci := 4) rfl rfl lk_X4_163 (by decide) (by decide) rfl hl.1 rfl (Nat.le_of_ble_eq_true rfl) dX4_tellTree_39 ⟨Nat.le_refl 0, Nat.le_refl 0⟩) (fun H locs hw => ?_)
          refine lv_goto (tgt := 47) C.1 C.2.1 dX4_tellTree_42 (by decide) ?_
          exact m_iret C hw (ret_i h) dX4_tellTree_47
      · have h := ite_f cd h
        refine lv_aload_n C.1 C.2.1 dX4_tellTree_19 rfl (lv_at hl 0 rfl) ?_
        refine gf_X4_21 C hw dX4_tellTree_20 ?_
        refine lv_iload_n C.1 C.2.1 dX4_tellTree_23 rfl (lv_at hl 1 rfl) ?_
        obtain ⟨hin, h⟩ := gd_of h
        refine m_iald C hw a1_13 hin dX4_tellTree_24 ?_
        exact m_iret C hw (ret_i h) dX4_tellTree_25
    · have h := ite_f cd h
      refine lv_bipush (v := (-9 : Int32)) C.1 C.2.1 dX4_tellTree_12 (by decide) ?_
      exact m_iret C hw (ret_i h) dX4_tellTree_14
noncomputable def b_X5_addLeaves_2  (v1 : Int32) (σ : Mem) : Option ((Int32 × Mem) ⊕ Mem) :=
  if (2048 : Int32) ≤ v1 then (some (.inr σ)) else (gd (ix v1 2048) (lt (sJ σ 23 v1.toNatClampNeg (0 : Int64)) (fun σ1 => lt (v1 + (1 : Int32)) (fun x2 => some (.inl (x2, σ1))))))
noncomputable def b_X5_addLeaves_24  (v1 : Int32) (σ : Mem) : Option ((Int32 × Mem) ⊕ Mem) :=
  if (4 : Int32) ≤ v1 then (some (.inr σ)) else (gd (ix v1 4) (gd (ix (((σ.1 24 v1.toNatClampNeg) * (16 : Int32)) + (1 : Int32)) 2048) (gd (ix (((σ.1 24 v1.toNatClampNeg) * (16 : Int32)) + (1 : Int32)) 2048) (lt (sJ σ 23 (((σ.1 24 v1.toNatClampNeg) * (16 : Int32)) + (1 : Int32)).toNatClampNeg ((σ.2.1 23 (((σ.1 24 v1.toNatClampNeg) * (16 : Int32)) + (1 : Int32)).toNatClampNeg) + (1 : Int64))) (fun σ4 => lt (v1 + (1 : Int32)) (fun x5 => some (.inl (x5, σ4))))))))
noncomputable def f_X5_addLeaves  (σ : Mem) : Option Mem :=
  (Lim (T := Mem) (fun s => b_X5_addLeaves_2 s.1 s.2) ((0 : Int32), σ)).bind (fun r3 => (Lim (T := Mem) (fun s => b_X5_addLeaves_24 s.1 s.2) ((0 : Int32), r3)).bind (fun r6 => some r6))
set_option maxRecDepth 20000 in
theorem w_X5_addLeaves_2 {D : va_G} {cy : Nat → ClassId} {ad : Nat → Nat} {p : Program} {l : Launch} {e : Env} {R : Room} {s : State} {m : MethodId} {args : Array Value} {below : List Frame} {meth : Method} {c : Code} (C : Cx 1 D cy ad p R s m args meth c cX5_addLeaves 2 RX5 none 0)   {v1 : Int32} {σ : Mem} {Q : State → Prop} {r : Mem} (hL : Lim (T := Mem) (fun s => b_X5_addLeaves_2 s.1 s.2) (v1, σ) = some r) (hE0 : ∀ (σ1 : Mem), (σ1 : Mem) = r → ∀ (H : Heap) (locs : List Loc) (ls : Array Slot), Wd 1 D cy ad s σ1 H locs → lv_has ls 2 [(0, .ref (ad (22)))] → W p l e R s m args below meth c H locs 0 0 Q (F0 m 22 ls [])) (H : Heap) (locs : List Loc) (ls : Array Slot) (hw : Wd 1 D cy ad s σ H locs) (hl : lv_has ls 2 [(0, .ref (ad (22))), (1, .int v1)]) : W p l e R s m args below meth c H locs 0 0 Q (F0 m 2 ls []) := by
  refine Lim_ind hL (P := fun u => ∀ (H : Heap) (locs : List Loc) (ls : Array Slot), Wd 1 D cy ad s u.2 H locs → lv_has ls 2 [(0, .ref (ad (22))), (1, .int u.1)] → W p l e R s m args below meth c H locs 0 0 Q (F0 m 2 ls [])) (fun u x h hx H locs ls hw hl => ?_) H locs ls hw hl
  clear hL
  obtain ⟨v1, σ⟩ := u
  have h : b_X5_addLeaves_2 v1 σ = some x := h
  have hw : Wd 1 D cy ad s σ H locs := hw
  have hl : lv_has ls 2 [(0, .ref (ad (22))), (1, .int v1)] := hl
  have hP : ∀ (u : (Int32 × Mem)), (∀ (H : Heap) (locs : List Loc) (ls : Array Slot), Wd 1 D cy ad s u.2 H locs → lv_has ls 2 [(0, .ref (ad (22))), (1, .int u.1)] → W p l e R s m args below meth c H locs 0 0 Q (F0 m 2 ls [])) → ∀ (H : Heap) (locs : List Loc) (ls : Array Slot), Wd 1 D cy ad s u.2 H locs → lv_has ls 2 [(0, .ref (ad (22))), (1, .int u.1)] → W p l e R s m args below meth c H locs 0 0 Q (F0 m 2 ls []) := fun _ k => k
  unfold b_X5_addLeaves_2 at h
  refine lv_iload_n C.1 C.2.1 dX5_addLeaves_2 rfl (lv_at hl 1 rfl) ?_
  refine lv_sipush (v := (2048 : Int32)) C.1 C.2.1 dX5_addLeaves_3 (by decide) ?_
  refine lv_icmp_ge (tgt := 22) C.1 C.2.1 dX5_addLeaves_6 (by decide) (fun cd => ?_) (fun cd => ?_)
  · have h := ite_t cd h
    obtain rfl := Option.some.inj h
    exact hE0 _ hx _ _ _ hw (lv_sub hl [0] rfl)
  · have h := ite_f cd h
    refine lv_aload_n C.1 C.2.1 dX5_addLeaves_9 rfl (lv_at hl 0 rfl) ?_
    refine gf_X5_13 C hw dX5_addLeaves_10 ?_
    refine lv_iload_n C.1 C.2.1 dX5_addLeaves_13 rfl (lv_at hl 1 rfl) ?_
    refine lv_lconst (v := (0 : Int64)) C.1 C.2.1 dX5_addLeaves_14 (by decide) ?_
    obtain ⟨hin, h⟩ := gd_of h
    refine m_last C hw a1_23 hin dX5_addLeaves_15 (fun H locs hw => ?_)
    obtain ⟨σ1, eσ1, h⟩ := lt_of h
    rw [← eσ1] at hw
    obtain ⟨x2, ex2, h⟩ := lt_of h
    refine m_iinc (k := 1) (lv' := [(1, .int _), (0, .ref _)]) C (1 : Int32) (by decide) dX5_addLeaves_16 hl rfl ex2.symm (by decide) rfl (fun ls hl => ?_)
    refine lv_goto (tgt := 2) C.1 C.2.1 dX5_addLeaves_19 (by decide) ?_
    obtain rfl := Option.some.inj h
    exact hP _ hx _ _ _ hw (lv_sub hl [1, 0] rfl)
set_option maxRecDepth 20000 in
theorem w_X5_addLeaves_24 {D : va_G} {cy : Nat → ClassId} {ad : Nat → Nat} {p : Program} {l : Launch} {e : Env} {R : Room} {s : State} {m : MethodId} {args : Array Value} {below : List Frame} {meth : Method} {c : Code} (C : Cx 1 D cy ad p R s m args meth c cX5_addLeaves 2 RX5 none 0)   {v1 : Int32} {σ : Mem} {Q : State → Prop} {r : Mem} (hL : Lim (T := Mem) (fun s => b_X5_addLeaves_24 s.1 s.2) (v1, σ) = some r) (hE0 : ∀ (σ1 : Mem), (σ1 : Mem) = r → ∀ (H : Heap) (locs : List Loc) (ls : Array Slot), Wd 1 D cy ad s σ1 H locs → lv_has ls 2 [] → W p l e R s m args below meth c H locs 0 0 Q (F0 m 55 ls [])) (H : Heap) (locs : List Loc) (ls : Array Slot) (hw : Wd 1 D cy ad s σ H locs) (hl : lv_has ls 2 [(0, .ref (ad (22))), (1, .int v1)]) : W p l e R s m args below meth c H locs 0 0 Q (F0 m 24 ls []) := by
  refine Lim_ind hL (P := fun u => ∀ (H : Heap) (locs : List Loc) (ls : Array Slot), Wd 1 D cy ad s u.2 H locs → lv_has ls 2 [(0, .ref (ad (22))), (1, .int u.1)] → W p l e R s m args below meth c H locs 0 0 Q (F0 m 24 ls [])) (fun u x h hx H locs ls hw hl => ?_) H locs ls hw hl
  clear hL
  obtain ⟨v1, σ⟩ := u
  have h : b_X5_addLeaves_24 v1 σ = some x := h
  have hw : Wd 1 D cy ad s σ H locs := hw
  have hl : lv_has ls 2 [(0, .ref (ad (22))), (1, .int v1)] := hl
  have hP : ∀ (u : (Int32 × Mem)), (∀ (H : Heap) (locs : List Loc) (ls : Array Slot), Wd 1 D cy ad s u.2 H locs → lv_has ls 2 [(0, .ref (ad (22))), (1, .int u.1)] → W p l e R s m args below meth c H locs 0 0 Q (F0 m 24 ls [])) → ∀ (H : Heap) (locs : List Loc) (ls : Array Slot), Wd 1 D cy ad s u.2 H locs → lv_has ls 2 [(0, .ref (ad (22))), (1, .int u.1)] → W p l e R s m args below meth c H locs 0 0 Q (F0 m 24 ls []) := fun _ k => k
  unfold b_X5_addLeaves_24 at h
  refine lv_iload_n C.1 C.2.1 dX5_addLeaves_24 rfl (lv_at hl 1 rfl) ?_
  refine lv_iconst (v := (4 : Int32)) C.1 C.2.1 dX5_addLeaves_25 (by decide) ?_
  refine lv_icmp_ge (tgt := 55) C.1 C.2.1 dX5_addLeaves_26 (by decide) (fun cd => ?_) (fun cd => ?_)
  · have h := ite_t cd h
    obtain rfl := Option.some.inj h
    exact hE0 _ hx _ _ _ hw (lv_sub hl [] rfl)
  · have h := ite_f cd h
    refine lv_aload_n C.1 C.2.1 dX5_addLeaves_29 rfl (lv_at hl 0 rfl) ?_
    refine gf_X5_13 C hw dX5_addLeaves_30 ?_
    refine lv_aload_n C.1 C.2.1 dX5_addLeaves_33 rfl (lv_at hl 0 rfl) ?_
    refine gf_X5_17 C hw dX5_addLeaves_34 ?_
    refine lv_iload_n C.1 C.2.1 dX5_addLeaves_37 rfl (lv_at hl 1 rfl) ?_
    obtain ⟨hin, h⟩ := gd_of h
    refine m_iald C hw a1_24 hin dX5_addLeaves_38 ?_
    refine lv_bipush (v := (16 : Int32)) C.1 C.2.1 dX5_addLeaves_39 (by decide) ?_
    refine lv_imul C.1 C.2.1 dX5_addLeaves_41 ?_
    refine lv_iconst (v := (1 : Int32)) C.1 C.2.1 dX5_addLeaves_42 (by decide) ?_
    refine lv_iadd C.1 C.2.1 dX5_addLeaves_43 ?_
    refine lv_dup2_11 C.1 C.2.1 dX5_addLeaves_44 rfl rfl ?_
    obtain ⟨hin, h⟩ := gd_of h
    refine m_lald C hw a1_23 hin dX5_addLeaves_45 ?_
    refine lv_lconst (v := (1 : Int64)) C.1 C.2.1 dX5_addLeaves_46 (by decide) ?_
    refine lv_ladd C.1 C.2.1 dX5_addLeaves_47 ?_
    obtain ⟨hin, h⟩ := gd_of h
    refine m_last C hw a1_23 hin dX5_addLeaves_48 (fun H locs hw => ?_)
    obtain ⟨σ4, eσ4, h⟩ := lt_of h
    rw [← eσ4] at hw
    obtain ⟨x5, ex5, h⟩ := lt_of h
    refine m_iinc (k := 1) (lv' := [(1, .int _), (0, .ref _)]) C (1 : Int32) (by decide) dX5_addLeaves_49 hl rfl ex5.symm (by decide) rfl (fun ls hl => ?_)
    refine lv_goto (tgt := 24) C.1 C.2.1 dX5_addLeaves_52 (by decide) ?_
    obtain rfl := Option.some.inj h
    exact hP _ hx _ _ _ hw (lv_sub hl [1, 0] rfl)
set_option maxRecDepth 20000 in
theorem c_X5_addLeaves {l : Launch} {D : va_G} {cy : Nat → ClassId} {ad : Nat → Nat} (hj : InjW 1 ad)   (σ : Mem) (r : Mem) (h : f_X5_addLeaves σ = some r) : CV 1 D cy ad l yX5_addLeaves cX5_addLeaves 2 none 0 [.ref (ad (22))] σ r := by
  refine CV.mk (by decide) hj (Nat.le_of_ble_eq_true rfl) (fun p e R s m below meth c ls C hw hl => ?_)
  have hl : lv_has ls 2 [(0, .ref (ad (22)))] := hl
  generalize ([.ref (ad (22))] : List Value).toArray = args at C ⊢
  have C : Cx 1 D cy ad p R s m args meth c cX5_addLeaves 2 RX5 none 0 := C
  unfold f_X5_addLeaves at h
  refine lv_iconst (v := (0 : Int32)) C.1 C.2.1 dX5_addLeaves_0 (by decide) ?_
  refine lv_istore_n (lv' := [(1, .int _), (0, .ref _)]) C.1 C.2.1 dX5_addLeaves_1 rfl hl (by decide) rfl (fun ls hl => ?_)
  obtain ⟨r3, hL, h⟩ := bS h
  refine w_X5_addLeaves_2 C  hL (fun y0 hr H locs ls hw hl => ?_) _ _ _ hw (lv_sub hl [1, 0] rfl)
  · subst hr
    try dsimp only at h
    try dsimp only at hw
    try dsimp only at hl
    refine lv_iconst (v := (0 : Int32)) C.1 C.2.1 dX5_addLeaves_22 (by decide) ?_
    refine lv_istore_n (lv' := [(1, .int _), (0, .ref _)]) C.1 C.2.1 dX5_addLeaves_23 rfl hl (by decide) rfl (fun ls hl => ?_)
    obtain ⟨r6, hL, h⟩ := bS h
    refine w_X5_addLeaves_24 C  hL (fun y0 hr H locs ls hw hl => ?_) _ _ _ hw (lv_sub hl [1, 0] rfl)
    · subst hr
      try dsimp only at h
      try dsimp only at hw
      try dsimp only at hl
      exact m_vret C hw (Option.some.inj h) dX5_addLeaves_55
noncomputable def f_X5_addBoth (a1 : Int32) (a2 : Int32) (a3 : Int64) (σ : Mem) : Option Mem :=
  gd (ix (((f_X4_lowOf a1) * (16 : Int32)) + a2) 2048) (gd (ix (((f_X4_lowOf a1) * (16 : Int32)) + a2) 2048) (lt (sJ σ 23 (((f_X4_lowOf a1) * (16 : Int32)) + a2).toNatClampNeg ((σ.2.1 23 (((f_X4_lowOf a1) * (16 : Int32)) + a2).toNatClampNeg) + a3)) (fun σ1 => gd (ix (((f_X4_highOf a1) * (16 : Int32)) + a2) 2048) (gd (ix (((f_X4_highOf a1) * (16 : Int32)) + a2) 2048) (lt (sJ σ1 23 (((f_X4_highOf a1) * (16 : Int32)) + a2).toNatClampNeg ((σ1.2.1 23 (((f_X4_highOf a1) * (16 : Int32)) + a2).toNatClampNeg) + a3)) (fun σ2 => some σ2))))))
set_option maxRecDepth 20000 in
theorem c_X5_addBoth {l : Launch} {D : va_G} {cy : Nat → ClassId} {ad : Nat → Nat} (hj : InjW 1 ad) (a1 : Int32) (a2 : Int32) (a3 : Int64)  (σ : Mem) (r : Mem) (h : f_X5_addBoth a1 a2 a3 σ = some r) : CV 1 D cy ad l yX5_addBoth cX5_addBoth 5 none 1 [.ref (ad (22)), .int a1, .int a2, .long a3] σ r := by
  refine CV.mk (by decide) hj (Nat.le_of_ble_eq_true rfl) (fun p e R s m below meth c ls C hw hl => ?_)
  have hl : lv_has ls 5 [(0, .ref (ad (22))), (1, .int a1), (2, .int a2), (3, .long a3)] := hl
  generalize ([.ref (ad (22)), .int a1, .int a2, .long a3] : List Value).toArray = args at C ⊢
  have C : Cx 1 D cy ad p R s m args meth c cX5_addBoth 5 RX5 none 1 := C
  unfold f_X5_addBoth at h
  refine lv_aload_n C.1 C.2.1 dX5_addBoth_0 rfl (lv_at hl 0 rfl) ?_
  refine gf_X5_13 C hw dX5_addBoth_1 ?_
  refine lv_iload_n C.1 C.2.1 dX5_addBoth_4 rfl (lv_at hl 1 rfl) ?_
  refine go_I hw (run_S (As := [.int _]) C hw (c_X4_lowOf C.2.2.2.2.2.2.2.2.2 _ _) mi_X4_lowOf ms_X4_lowOf lk_X5_54 (by decide) (by decide) rfl hl.1 rfl (Nat.le_of_ble_eq_true rfl) dX5_addBoth_5 ⟨Nat.le_refl 0, Nat.le_refl 0⟩) (fun H locs hw => ?_)
  refine lv_bipush (v := (16 : Int32)) C.1 C.2.1 dX5_addBoth_8 (by decide) ?_
  refine lv_imul C.1 C.2.1 dX5_addBoth_10 ?_
  refine lv_iload_n C.1 C.2.1 dX5_addBoth_11 rfl (lv_at hl 2 rfl) ?_
  refine lv_iadd C.1 C.2.1 dX5_addBoth_12 ?_
  refine lv_dup2_11 C.1 C.2.1 dX5_addBoth_13 rfl rfl ?_
  obtain ⟨hin, h⟩ := gd_of h
  refine m_lald C hw a1_23 hin dX5_addBoth_14 ?_
  refine lv_lload_n C.1 C.2.1 dX5_addBoth_15 rfl (lv_at hl 3 rfl) ?_
  refine lv_ladd C.1 C.2.1 dX5_addBoth_16 ?_
  obtain ⟨hin, h⟩ := gd_of h
  refine m_last C hw a1_23 hin dX5_addBoth_17 (fun H locs hw => ?_)
  obtain ⟨σ1, eσ1, h⟩ := lt_of h
  rw [← eσ1] at hw
  refine lv_aload_n C.1 C.2.1 dX5_addBoth_18 rfl (lv_at hl 0 rfl) ?_
  refine gf_X5_13 C hw dX5_addBoth_19 ?_
  refine lv_iload_n C.1 C.2.1 dX5_addBoth_22 rfl (lv_at hl 1 rfl) ?_
  refine go_I hw (run_S (As := [.int _]) C hw (c_X4_highOf C.2.2.2.2.2.2.2.2.2 _ _) mi_X4_highOf ms_X4_highOf lk_X5_57 (by decide) (by decide) rfl hl.1 rfl (Nat.le_of_ble_eq_true rfl) dX5_addBoth_23 ⟨Nat.le_refl 0, Nat.le_refl 0⟩) (fun H locs hw => ?_)
  refine lv_bipush (v := (16 : Int32)) C.1 C.2.1 dX5_addBoth_26 (by decide) ?_
  refine lv_imul C.1 C.2.1 dX5_addBoth_28 ?_
  refine lv_iload_n C.1 C.2.1 dX5_addBoth_29 rfl (lv_at hl 2 rfl) ?_
  refine lv_iadd C.1 C.2.1 dX5_addBoth_30 ?_
  refine lv_dup2_11 C.1 C.2.1 dX5_addBoth_31 rfl rfl ?_
  obtain ⟨hin, h⟩ := gd_of h
  refine m_lald C hw a1_23 hin dX5_addBoth_32 ?_
  refine lv_lload_n C.1 C.2.1 dX5_addBoth_33 rfl (lv_at hl 3 rfl) ?_
  refine lv_ladd C.1 C.2.1 dX5_addBoth_34 ?_
  obtain ⟨hin, h⟩ := gd_of h
  refine m_last C hw a1_23 hin dX5_addBoth_35 (fun H locs hw => ?_)
  obtain ⟨σ2, eσ2, h⟩ := lt_of h
  rw [← eσ2] at hw
  exact m_vret C hw (Option.some.inj h) dX5_addBoth_36
noncomputable def b_X5_addOneArmed_2 (a2 : Int32) (v3 : Int32) (σ : Mem) : Option ((Int32 × Mem) ⊕ Mem) :=
  if (σ.1 9 17) ≤ v3 then (some (.inr σ)) else ((f_X4_overOne v3 σ).bind (fun r1 => gd (ix (((v3 * (16 : Int32)) + a2) - (1 : Int32)) 2048) ((f_X5_addBoth r1 a2 (σ.2.1 23 (((v3 * (16 : Int32)) + a2) - (1 : Int32)).toNatClampNeg) σ).bind (fun r2 => lt (v3 + (1 : Int32)) (fun x3 => some (.inl (x3, r2)))))))
noncomputable def f_X5_addOneArmed (a2 : Int32) (σ : Mem) : Option Mem :=
  (Lim (T := Mem) (fun s => b_X5_addOneArmed_2 a2 s.1 s.2) ((0 : Int32), σ)).bind (fun r4 => some r4)
set_option maxRecDepth 20000 in
theorem w_X5_addOneArmed_2 {D : va_G} {cy : Nat → ClassId} {ad : Nat → Nat} {p : Program} {l : Launch} {e : Env} {R : Room} {s : State} {m : MethodId} {args : Array Value} {below : List Frame} {meth : Method} {c : Code} (C : Cx 1 D cy ad p R s m args meth c cX5_addOneArmed 4 RX5 none 2) {a2 : Int32}  {v3 : Int32} {σ : Mem} {Q : State → Prop} {r : Mem} (hL : Lim (T := Mem) (fun s => b_X5_addOneArmed_2 a2 s.1 s.2) (v3, σ) = some r) (hE0 : ∀ (σ1 : Mem), (σ1 : Mem) = r → ∀ (H : Heap) (locs : List Loc) (ls : Array Slot), Wd 1 D cy ad s σ1 H locs → lv_has ls 4 [] → W p l e R s m args below meth c H locs 0 0 Q (F0 m 39 ls [])) (H : Heap) (locs : List Loc) (ls : Array Slot) (hw : Wd 1 D cy ad s σ H locs) (hl : lv_has ls 4 [(0, .ref (ad (22))), (1, .ref (ad (9))), (2, .int a2), (3, .int v3)]) : W p l e R s m args below meth c H locs 0 0 Q (F0 m 2 ls []) := by
  refine Lim_ind hL (P := fun u => ∀ (H : Heap) (locs : List Loc) (ls : Array Slot), Wd 1 D cy ad s u.2 H locs → lv_has ls 4 [(0, .ref (ad (22))), (1, .ref (ad (9))), (2, .int a2), (3, .int u.1)] → W p l e R s m args below meth c H locs 0 0 Q (F0 m 2 ls [])) (fun u x h hx H locs ls hw hl => ?_) H locs ls hw hl
  clear hL
  obtain ⟨v3, σ⟩ := u
  have h : b_X5_addOneArmed_2 a2 v3 σ = some x := h
  have hw : Wd 1 D cy ad s σ H locs := hw
  have hl : lv_has ls 4 [(0, .ref (ad (22))), (1, .ref (ad (9))), (2, .int a2), (3, .int v3)] := hl
  have hP : ∀ (u : (Int32 × Mem)), (∀ (H : Heap) (locs : List Loc) (ls : Array Slot), Wd 1 D cy ad s u.2 H locs → lv_has ls 4 [(0, .ref (ad (22))), (1, .ref (ad (9))), (2, .int a2), (3, .int u.1)] → W p l e R s m args below meth c H locs 0 0 Q (F0 m 2 ls [])) → ∀ (H : Heap) (locs : List Loc) (ls : Array Slot), Wd 1 D cy ad s u.2 H locs → lv_has ls 4 [(0, .ref (ad (22))), (1, .ref (ad (9))), (2, .int a2), (3, .int u.1)] → W p l e R s m args below meth c H locs 0 0 Q (F0 m 2 ls []) := fun _ k => k
  unfold b_X5_addOneArmed_2 at h
  refine lv_iload_n C.1 C.2.1 dX5_addOneArmed_2 rfl (lv_at hl 3 rfl) ?_
  refine lv_aload_n C.1 C.2.1 dX5_addOneArmed_3 rfl (lv_at hl 1 rfl) ?_
  refine gf_X5_35 C hw dX5_addOneArmed_4 ?_
  refine lv_icmp_ge (tgt := 39) C.1 C.2.1 dX5_addOneArmed_7 (by decide) (fun cd => ?_) (fun cd => ?_)
  · have h := ite_t cd h
    obtain rfl := Option.some.inj h
    exact hE0 _ hx _ _ _ hw (lv_sub hl [] rfl)
  · have h := ite_f cd h
    refine lv_aload_n C.1 C.2.1 dX5_addOneArmed_10 rfl (lv_at hl 0 rfl) ?_
    refine lv_aload_n C.1 C.2.1 dX5_addOneArmed_11 rfl (lv_at hl 1 rfl) ?_
    refine lv_iload_n C.1 C.2.1 dX5_addOneArmed_12 rfl (lv_at hl 3 rfl) ?_
    obtain ⟨r1, h1, h⟩ := bS h
    refine go_I hw (run_V (As := [.int _]) C hw (c_X4_overOne C.2.2.2.2.2.2.2.2.2 _ _ _ h1) mi_X4_overOne mv_X4_overOne o1_9 (ci := 4) rfl rfl lk_X5_39 (by decide) (by decide) rfl hl.1 rfl (Nat.le_of_ble_eq_true rfl) dX5_addOneArmed_13 ⟨Nat.le_refl 0, Nat.le_refl 0⟩) (fun H locs hw => ?_)
    refine lv_iload_n C.1 C.2.1 dX5_addOneArmed_16 rfl (lv_at hl 2 rfl) ?_
    refine lv_aload_n C.1 C.2.1 dX5_addOneArmed_17 rfl (lv_at hl 0 rfl) ?_
    refine gf_X5_13 C hw dX5_addOneArmed_18 ?_
    refine lv_iload_n C.1 C.2.1 dX5_addOneArmed_21 rfl (lv_at hl 3 rfl) ?_
    refine lv_bipush (v := (16 : Int32)) C.1 C.2.1 dX5_addOneArmed_22 (by decide) ?_
    refine lv_imul C.1 C.2.1 dX5_addOneArmed_24 ?_
    refine lv_iload_n C.1 C.2.1 dX5_addOneArmed_25 rfl (lv_at hl 2 rfl) ?_
    refine lv_iadd C.1 C.2.1 dX5_addOneArmed_26 ?_
    refine lv_iconst (v := (1 : Int32)) C.1 C.2.1 dX5_addOneArmed_27 (by decide) ?_
    refine lv_isub C.1 C.2.1 dX5_addOneArmed_28 ?_
    obtain ⟨hin, h⟩ := gd_of h
    refine m_lald C hw a1_23 hin dX5_addOneArmed_29 ?_
    obtain ⟨r2, h1, h⟩ := bS h
    refine go_V hw (run_V (As := [.int _, .int _, .long _]) C hw (c_X5_addBoth C.2.2.2.2.2.2.2.2.2 _ _ _ _ _ h1) mi_X5_addBoth mv_X5_addBoth o1_22 (ci := 5) rfl rfl lk_X5_43 (by decide) (by decide) rfl hl.1 rfl (Nat.le_of_ble_eq_true rfl) dX5_addOneArmed_30 ⟨Nat.le_refl 0, Nat.le_refl 0⟩) (fun H locs hw => ?_)
    obtain ⟨x3, ex3, h⟩ := lt_of h
    refine m_iinc (k := 3) (lv' := [(3, .int _), (0, .ref _), (1, .ref _), (2, .int _)]) C (1 : Int32) (by decide) dX5_addOneArmed_33 hl rfl ex3.symm (by decide) rfl (fun ls hl => ?_)
    refine lv_goto (tgt := 2) C.1 C.2.1 dX5_addOneArmed_36 (by decide) ?_
    obtain rfl := Option.some.inj h
    exact hP _ hx _ _ _ hw (lv_sub hl [1, 2, 3, 0] rfl)
set_option maxRecDepth 20000 in
theorem c_X5_addOneArmed {l : Launch} {D : va_G} {cy : Nat → ClassId} {ad : Nat → Nat} (hj : InjW 1 ad) (a2 : Int32)  (σ : Mem) (r : Mem) (h : f_X5_addOneArmed a2 σ = some r) : CV 1 D cy ad l yX5_addOneArmed cX5_addOneArmed 4 none 2 [.ref (ad (22)), .ref (ad (9)), .int a2] σ r := by
  refine CV.mk (by decide) hj (Nat.le_of_ble_eq_true rfl) (fun p e R s m below meth c ls C hw hl => ?_)
  have hl : lv_has ls 4 [(0, .ref (ad (22))), (1, .ref (ad (9))), (2, .int a2)] := hl
  generalize ([.ref (ad (22)), .ref (ad (9)), .int a2] : List Value).toArray = args at C ⊢
  have C : Cx 1 D cy ad p R s m args meth c cX5_addOneArmed 4 RX5 none 2 := C
  unfold f_X5_addOneArmed at h
  refine lv_iconst (v := (0 : Int32)) C.1 C.2.1 dX5_addOneArmed_0 (by decide) ?_
  refine lv_istore_n (lv' := [(3, .int _), (0, .ref _), (1, .ref _), (2, .int _)]) C.1 C.2.1 dX5_addOneArmed_1 rfl hl (by decide) rfl (fun ls hl => ?_)
  obtain ⟨r4, hL, h⟩ := bS h
  refine w_X5_addOneArmed_2 C  hL (fun y0 hr H locs ls hw hl => ?_) _ _ _ hw (lv_sub hl [1, 2, 3, 0] rfl)
  · subst hr
    try dsimp only at h
    try dsimp only at hw
    try dsimp only at hl
    exact m_vret C hw (Option.some.inj h) dX5_addOneArmed_39
noncomputable def b_X5_addTwoArmed_32 (a2 : Int32) (v3 : Int32) (v4 : Int32) (v5 : Int64) (v7 : Int32) (σ : Mem) : Option ((Int32 × Int32 × Int64 × Int32) ⊕ (Int32 × Int32 × Int64)) :=
  (f_X4_sizeOf v4 σ).bind (fun r2 => if ((a2 - (1 : Int32)) - r2) < v7 then (some (.inr (v3, v4, v5))) else (gd (ix ((v3 * (16 : Int32)) + v7) 2048) (gd (ix ((((v4 * (16 : Int32)) + a2) - (1 : Int32)) - v7) 2048) (lt (v5 + ((σ.2.1 23 ((v3 * (16 : Int32)) + v7).toNatClampNeg) * (σ.2.1 23 ((((v4 * (16 : Int32)) + a2) - (1 : Int32)) - v7).toNatClampNeg))) (fun x3 => lt (v7 + (1 : Int32)) (fun x4 => some (.inl (v3, v4, x3, x4))))))))
noncomputable def j_X5_addTwoArmed_109 (a2 : Int32) (v3 : Int32) (v4 : Int32) (σ : Mem) : Option ((Int32 × Int32 × Mem) ⊕ (Int32 × Mem)) :=
  lt (v4 + (1 : Int32)) (fun x6 => some (.inl (v3, x6, σ)))
noncomputable def b_X5_addTwoArmed_13 (a2 : Int32) (v3 : Int32) (v4 : Int32) (σ : Mem) : Option ((Int32 × Int32 × Mem) ⊕ (Int32 × Mem)) :=
  if (σ.1 9 17) ≤ v4 then (some (.inr (v3, σ))) else ((f_X4_sizeOf v3 σ).bind (fun r1 => (Lim (T := (Int32 × Int32 × Int64)) (fun s => b_X5_addTwoArmed_32 a2 s.1 s.2.1 s.2.2.1 s.2.2.2 σ) (v3, v4, (0 : Int64), r1)).bind (fun r5 => if (lg_cmp r5.2.2 (0 : Int64)) = 0 then (j_X5_addTwoArmed_109 a2 r5.1 r5.2.1 σ) else ((f_X4_overTwo r5.1 r5.2.1 σ).bind (fun r7 => (f_X5_addBoth r7 a2 r5.2.2 σ).bind (fun r8 => j_X5_addTwoArmed_109 a2 r5.1 r5.2.1 r8))))))
noncomputable def b_X5_addTwoArmed_2 (a2 : Int32) (v3 : Int32) (σ : Mem) : Option ((Int32 × Mem) ⊕ Mem) :=
  if (σ.1 9 17) ≤ v3 then (some (.inr σ)) else ((Lim (T := (Int32 × Mem)) (fun s => b_X5_addTwoArmed_13 a2 s.1 s.2.1 s.2.2) (v3, (0 : Int32), σ)).bind (fun r9 => lt (r9.1 + (1 : Int32)) (fun x10 => some (.inl (x10, r9.2)))))
noncomputable def f_X5_addTwoArmed (a2 : Int32) (σ : Mem) : Option Mem :=
  (Lim (T := Mem) (fun s => b_X5_addTwoArmed_2 a2 s.1 s.2) ((0 : Int32), σ)).bind (fun r11 => some r11)
set_option maxRecDepth 20000 in
theorem w_X5_addTwoArmed_32 {D : va_G} {cy : Nat → ClassId} {ad : Nat → Nat} {p : Program} {l : Launch} {e : Env} {R : Room} {s : State} {m : MethodId} {args : Array Value} {below : List Frame} {meth : Method} {c : Code} (C : Cx 1 D cy ad p R s m args meth c cX5_addTwoArmed 8 RX5 none 2) {a2 : Int32}  {v3 : Int32} {v4 : Int32} {v5 : Int64} {v7 : Int32} {σ : Mem} {Q : State → Prop} {r : (Int32 × Int32 × Int64)} (hL : Lim (T := (Int32 × Int32 × Int64)) (fun s => b_X5_addTwoArmed_32 a2 s.1 s.2.1 s.2.2.1 s.2.2.2 σ) (v3, v4, v5, v7) = some r) (hE0 : ∀ (v3 : Int32) (v4 : Int32) (v5 : Int64), ((v3, v4, v5) : (Int32 × Int32 × Int64)) = r → ∀ (H : Heap) (locs : List Loc) (ls : Array Slot), Wd 1 D cy ad s σ H locs → lv_has ls 8 [(0, .ref (ad (22))), (1, .ref (ad (9))), (2, .int a2), (3, .int v3), (4, .int v4), (5, .long v5)] → W p l e R s m args below meth c H locs 0 0 Q (F0 m 88 ls [])) (H : Heap) (locs : List Loc) (ls : Array Slot) (hw : Wd 1 D cy ad s σ H locs) (hl : lv_has ls 8 [(0, .ref (ad (22))), (1, .ref (ad (9))), (2, .int a2), (3, .int v3), (4, .int v4), (5, .long v5), (7, .int v7)]) : W p l e R s m args below meth c H locs 0 0 Q (F0 m 32 ls []) := by
  refine Lim_ind hL (P := fun u => ∀ (H : Heap) (locs : List Loc) (ls : Array Slot), Wd 1 D cy ad s σ H locs → lv_has ls 8 [(0, .ref (ad (22))), (1, .ref (ad (9))), (2, .int a2), (3, .int u.1), (4, .int u.2.1), (5, .long u.2.2.1), (7, .int u.2.2.2)] → W p l e R s m args below meth c H locs 0 0 Q (F0 m 32 ls [])) (fun u x h hx H locs ls hw hl => ?_) H locs ls hw hl
  clear hL
  obtain ⟨v3, v4, v5, v7⟩ := u
  have h : b_X5_addTwoArmed_32 a2 v3 v4 v5 v7 σ = some x := h
  have hw : Wd 1 D cy ad s σ H locs := hw
  have hl : lv_has ls 8 [(0, .ref (ad (22))), (1, .ref (ad (9))), (2, .int a2), (3, .int v3), (4, .int v4), (5, .long v5), (7, .int v7)] := hl
  have hP : ∀ (u : (Int32 × Int32 × Int64 × Int32)), (∀ (H : Heap) (locs : List Loc) (ls : Array Slot), Wd 1 D cy ad s σ H locs → lv_has ls 8 [(0, .ref (ad (22))), (1, .ref (ad (9))), (2, .int a2), (3, .int u.1), (4, .int u.2.1), (5, .long u.2.2.1), (7, .int u.2.2.2)] → W p l e R s m args below meth c H locs 0 0 Q (F0 m 32 ls [])) → ∀ (H : Heap) (locs : List Loc) (ls : Array Slot), Wd 1 D cy ad s σ H locs → lv_has ls 8 [(0, .ref (ad (22))), (1, .ref (ad (9))), (2, .int a2), (3, .int u.1), (4, .int u.2.1), (5, .long u.2.2.1), (7, .int u.2.2.2)] → W p l e R s m args below meth c H locs 0 0 Q (F0 m 32 ls []) := fun _ k => k
  unfold b_X5_addTwoArmed_32 at h
  refine lv_iload C.1 C.2.1 dX5_addTwoArmed_32 (lv_at hl 6 rfl) ?_
  refine lv_iload_n C.1 C.2.1 dX5_addTwoArmed_34 rfl (lv_at hl 2 rfl) ?_
  refine lv_iconst (v := (1 : Int32)) C.1 C.2.1 dX5_addTwoArmed_35 (by decide) ?_
  refine lv_isub C.1 C.2.1 dX5_addTwoArmed_36 ?_
  refine lv_aload_n C.1 C.2.1 dX5_addTwoArmed_37 rfl (lv_at hl 1 rfl) ?_
  refine lv_iload C.1 C.2.1 dX5_addTwoArmed_38 (lv_at hl 4 rfl) ?_
  obtain ⟨r2, h1, h⟩ := bS h
  refine go_I hw (run_V (As := [.int _]) C hw (c_X4_sizeOf C.2.2.2.2.2.2.2.2.2 _ _ _ h1) mi_X4_sizeOf mv_X4_sizeOf o1_9 (ci := 4) rfl rfl lk_X5_47 (by decide) (by decide) rfl hl.1 rfl (Nat.le_of_ble_eq_true rfl) dX5_addTwoArmed_40 ⟨Nat.le_refl 0, Nat.le_refl 0⟩) (fun H locs hw => ?_)
  refine lv_isub C.1 C.2.1 dX5_addTwoArmed_43 ?_
  refine lv_icmp_gt (tgt := 88) C.1 C.2.1 dX5_addTwoArmed_44 (by decide) (fun cd => ?_) (fun cd => ?_)
  · have h := ite_t cd h
    obtain rfl := Option.some.inj h
    exact hE0 _ _ _ hx _ _ _ hw (lv_sub hl [0, 1, 2, 3, 4, 5] rfl)
  · have h := ite_f cd h
    refine lv_lload C.1 C.2.1 dX5_addTwoArmed_47 (lv_at hl 5 rfl) ?_
    refine lv_aload_n C.1 C.2.1 dX5_addTwoArmed_49 rfl (lv_at hl 0 rfl) ?_
    refine gf_X5_13 C hw dX5_addTwoArmed_50 ?_
    refine lv_iload_n C.1 C.2.1 dX5_addTwoArmed_53 rfl (lv_at hl 3 rfl) ?_
    refine lv_bipush (v := (16 : Int32)) C.1 C.2.1 dX5_addTwoArmed_54 (by decide) ?_
    refine lv_imul C.1 C.2.1 dX5_addTwoArmed_56 ?_
    refine lv_iload C.1 C.2.1 dX5_addTwoArmed_57 (lv_at hl 6 rfl) ?_
    refine lv_iadd C.1 C.2.1 dX5_addTwoArmed_59 ?_
    obtain ⟨hin, h⟩ := gd_of h
    refine m_lald C hw a1_23 hin dX5_addTwoArmed_60 ?_
    refine lv_aload_n C.1 C.2.1 dX5_addTwoArmed_61 rfl (lv_at hl 0 rfl) ?_
    refine gf_X5_13 C hw dX5_addTwoArmed_62 ?_
    refine lv_iload C.1 C.2.1 dX5_addTwoArmed_65 (lv_at hl 4 rfl) ?_
    refine lv_bipush (v := (16 : Int32)) C.1 C.2.1 dX5_addTwoArmed_67 (by decide) ?_
    refine lv_imul C.1 C.2.1 dX5_addTwoArmed_69 ?_
    refine lv_iload_n C.1 C.2.1 dX5_addTwoArmed_70 rfl (lv_at hl 2 rfl) ?_
    refine lv_iadd C.1 C.2.1 dX5_addTwoArmed_71 ?_
    refine lv_iconst (v := (1 : Int32)) C.1 C.2.1 dX5_addTwoArmed_72 (by decide) ?_
    refine lv_isub C.1 C.2.1 dX5_addTwoArmed_73 ?_
    refine lv_iload C.1 C.2.1 dX5_addTwoArmed_74 (lv_at hl 6 rfl) ?_
    refine lv_isub C.1 C.2.1 dX5_addTwoArmed_76 ?_
    obtain ⟨hin, h⟩ := gd_of h
    refine m_lald C hw a1_23 hin dX5_addTwoArmed_77 ?_
    refine lv_lmul C.1 C.2.1 dX5_addTwoArmed_78 ?_
    refine lv_ladd C.1 C.2.1 dX5_addTwoArmed_79 ?_
    obtain ⟨x3, ex3, h⟩ := lt_of h
    refine m_topl ex3 ?_
    refine lv_lstore (lv' := [(5, .long _), (0, .ref _), (1, .ref _), (2, .int _), (3, .int _), (4, .int _), (7, .int _)]) C.1 C.2.1 dX5_addTwoArmed_80 hl (by decide) rfl (fun ls hl => ?_)
    obtain ⟨x4, ex4, h⟩ := lt_of h
    refine m_iinc (k := 6) (lv' := [(7, .int _), (5, .long _), (0, .ref _), (1, .ref _), (2, .int _), (3, .int _), (4, .int _)]) C (1 : Int32) (by decide) dX5_addTwoArmed_82 hl rfl ex4.symm (by decide) rfl (fun ls hl => ?_)
    refine lv_goto (tgt := 32) C.1 C.2.1 dX5_addTwoArmed_85 (by decide) ?_
    obtain rfl := Option.some.inj h
    exact hP _ hx _ _ _ hw (lv_sub hl [2, 3, 4, 5, 6, 1, 0] rfl)
set_option maxRecDepth 20000 in
theorem w_X5_addTwoArmed_109 {D : va_G} {cy : Nat → ClassId} {ad : Nat → Nat} {p : Program} {l : Launch} {e : Env} {R : Room} {s : State} {m : MethodId} {args : Array Value} {below : List Frame} {meth : Method} {c : Code} (C : Cx 1 D cy ad p R s m args meth c cX5_addTwoArmed 8 RX5 none 2) {a2 : Int32}  {v3 : Int32} {v4 : Int32}  {σ : Mem} {H : Heap} {locs : List Loc} {ls : Array Slot} {Q : State → Prop} {P : (Int32 × Int32 × Mem) → Prop} {r : (Int32 × Mem)} {x : (Int32 × Int32 × Mem) ⊕ (Int32 × Mem)} (hx : LimQ P r x) (hP : ∀ u, P u → ∀ (H : Heap) (locs : List Loc) (ls : Array Slot), Wd 1 D cy ad s u.2.2 H locs → lv_has ls 8 [(0, .ref (ad (22))), (1, .ref (ad (9))), (2, .int a2), (3, .int u.1), (4, .int u.2.1)] → W p l e R s m args below meth c H locs 0 0 Q (F0 m 13 ls [])) (hE0 : ∀ (v3 : Int32) (σ1 : Mem), ((v3, σ1) : (Int32 × Mem)) = r → ∀ (H : Heap) (locs : List Loc) (ls : Array Slot), Wd 1 D cy ad s σ1 H locs → lv_has ls 8 [(0, .ref (ad (22))), (1, .ref (ad (9))), (2, .int a2), (3, .int v3)] → W p l e R s m args below meth c H locs 0 0 Q (F0 m 115 ls [])) (hw : Wd 1 D cy ad s σ H locs) (hl : lv_has ls 8 [(0, .ref (ad (22))), (1, .ref (ad (9))), (2, .int a2), (3, .int v3), (4, .int v4)]) (h : j_X5_addTwoArmed_109 a2 v3 v4 σ = some x) : W p l e R s m args below meth c H locs 0 0 Q (F0 m 109 ls []) := by
  unfold j_X5_addTwoArmed_109 at h
  obtain ⟨x6, ex6, h⟩ := lt_of h
  refine m_iinc (k := 4) (lv' := [(4, .int _), (0, .ref _), (1, .ref _), (2, .int _), (3, .int _)]) C (1 : Int32) (by decide) dX5_addTwoArmed_109 hl rfl ex6.symm (by decide) rfl (fun ls hl => ?_)
  refine lv_goto (tgt := 13) C.1 C.2.1 dX5_addTwoArmed_112 (by decide) ?_
  obtain rfl := Option.some.inj h
  exact hP _ hx _ _ _ hw (lv_sub hl [1, 2, 3, 4, 0] rfl)
set_option maxRecDepth 20000 in
theorem w_X5_addTwoArmed_13 {D : va_G} {cy : Nat → ClassId} {ad : Nat → Nat} {p : Program} {l : Launch} {e : Env} {R : Room} {s : State} {m : MethodId} {args : Array Value} {below : List Frame} {meth : Method} {c : Code} (C : Cx 1 D cy ad p R s m args meth c cX5_addTwoArmed 8 RX5 none 2) {a2 : Int32}  {v3 : Int32} {v4 : Int32} {σ : Mem} {Q : State → Prop} {r : (Int32 × Mem)} (hL : Lim (T := (Int32 × Mem)) (fun s => b_X5_addTwoArmed_13 a2 s.1 s.2.1 s.2.2) (v3, v4, σ) = some r) (hE0 : ∀ (v3 : Int32) (σ1 : Mem), ((v3, σ1) : (Int32 × Mem)) = r → ∀ (H : Heap) (locs : List Loc) (ls : Array Slot), Wd 1 D cy ad s σ1 H locs → lv_has ls 8 [(0, .ref (ad (22))), (1, .ref (ad (9))), (2, .int a2), (3, .int v3)] → W p l e R s m args below meth c H locs 0 0 Q (F0 m 115 ls [])) (H : Heap) (locs : List Loc) (ls : Array Slot) (hw : Wd 1 D cy ad s σ H locs) (hl : lv_has ls 8 [(0, .ref (ad (22))), (1, .ref (ad (9))), (2, .int a2), (3, .int v3), (4, .int v4)]) : W p l e R s m args below meth c H locs 0 0 Q (F0 m 13 ls []) := by
  refine Lim_ind hL (P := fun u => ∀ (H : Heap) (locs : List Loc) (ls : Array Slot), Wd 1 D cy ad s u.2.2 H locs → lv_has ls 8 [(0, .ref (ad (22))), (1, .ref (ad (9))), (2, .int a2), (3, .int u.1), (4, .int u.2.1)] → W p l e R s m args below meth c H locs 0 0 Q (F0 m 13 ls [])) (fun u x h hx H locs ls hw hl => ?_) H locs ls hw hl
  clear hL
  obtain ⟨v3, v4, σ⟩ := u
  have h : b_X5_addTwoArmed_13 a2 v3 v4 σ = some x := h
  have hw : Wd 1 D cy ad s σ H locs := hw
  have hl : lv_has ls 8 [(0, .ref (ad (22))), (1, .ref (ad (9))), (2, .int a2), (3, .int v3), (4, .int v4)] := hl
  have hP : ∀ (u : (Int32 × Int32 × Mem)), (∀ (H : Heap) (locs : List Loc) (ls : Array Slot), Wd 1 D cy ad s u.2.2 H locs → lv_has ls 8 [(0, .ref (ad (22))), (1, .ref (ad (9))), (2, .int a2), (3, .int u.1), (4, .int u.2.1)] → W p l e R s m args below meth c H locs 0 0 Q (F0 m 13 ls [])) → ∀ (H : Heap) (locs : List Loc) (ls : Array Slot), Wd 1 D cy ad s u.2.2 H locs → lv_has ls 8 [(0, .ref (ad (22))), (1, .ref (ad (9))), (2, .int a2), (3, .int u.1), (4, .int u.2.1)] → W p l e R s m args below meth c H locs 0 0 Q (F0 m 13 ls []) := fun _ k => k
  unfold b_X5_addTwoArmed_13 at h
  refine lv_iload C.1 C.2.1 dX5_addTwoArmed_13 (lv_at hl 4 rfl) ?_
  refine lv_aload_n C.1 C.2.1 dX5_addTwoArmed_15 rfl (lv_at hl 1 rfl) ?_
  refine gf_X5_35 C hw dX5_addTwoArmed_16 ?_
  refine lv_icmp_ge (tgt := 115) C.1 C.2.1 dX5_addTwoArmed_19 (by decide) (fun cd => ?_) (fun cd => ?_)
  · have h := ite_t cd h
    obtain rfl := Option.some.inj h
    exact hE0 _ _ hx _ _ _ hw (lv_sub hl [0, 1, 2, 3] rfl)
  · have h := ite_f cd h
    refine lv_lconst (v := (0 : Int64)) C.1 C.2.1 dX5_addTwoArmed_22 (by decide) ?_
    refine lv_lstore (lv' := [(5, .long _), (0, .ref _), (1, .ref _), (2, .int _), (3, .int _), (4, .int _)]) C.1 C.2.1 dX5_addTwoArmed_23 hl (by decide) rfl (fun ls hl => ?_)
    refine lv_aload_n C.1 C.2.1 dX5_addTwoArmed_25 rfl (lv_at hl 2 rfl) ?_
    refine lv_iload_n C.1 C.2.1 dX5_addTwoArmed_26 rfl (lv_at hl 4 rfl) ?_
    obtain ⟨r1, h1, h⟩ := bS h
    refine go_I hw (run_V (As := [.int _]) C hw (c_X4_sizeOf C.2.2.2.2.2.2.2.2.2 _ _ _ h1) mi_X4_sizeOf mv_X4_sizeOf o1_9 (ci := 4) rfl rfl lk_X5_47 (by decide) (by decide) rfl hl.1 rfl (Nat.le_of_ble_eq_true rfl) dX5_addTwoArmed_27 ⟨Nat.le_refl 0, Nat.le_refl 0⟩) (fun H locs hw => ?_)
    refine lv_istore (lv' := [(7, .int _), (5, .long _), (0, .ref _), (1, .ref _), (2, .int _), (3, .int _), (4, .int _)]) C.1 C.2.1 dX5_addTwoArmed_30 hl (by decide) rfl (fun ls hl => ?_)
    obtain ⟨r5, hL, h⟩ := bS h
    refine w_X5_addTwoArmed_32 C  hL (fun y0 y1 y2 hr H locs ls hw hl => ?_) _ _ _ hw (lv_sub hl [2, 3, 4, 5, 6, 1, 0] rfl)
    · subst hr
      try dsimp only at h
      try dsimp only at hw
      try dsimp only at hl
      refine lv_lload C.1 C.2.1 dX5_addTwoArmed_88 (lv_at hl 5 rfl) ?_
      refine lv_lconst (v := (0 : Int64)) C.1 C.2.1 dX5_addTwoArmed_90 (by decide) ?_
      refine W.lcmp C.1 C.2.1 dX5_addTwoArmed_91 ?_
      refine lv_if_eq (tgt := 109) C.1 C.2.1 dX5_addTwoArmed_92 (by decide) (fun cd => ?_) (fun cd => ?_)
      · have h := ite_t cd h
        exact w_X5_addTwoArmed_109 C hx hP hE0 hw (lv_sub hl [0, 1, 2, 3, 4] rfl) h
      · have h := ite_f cd h
        refine lv_aload_n C.1 C.2.1 dX5_addTwoArmed_95 rfl (lv_at hl 0 rfl) ?_
        refine lv_aload_n C.1 C.2.1 dX5_addTwoArmed_96 rfl (lv_at hl 1 rfl) ?_
        refine lv_iload_n C.1 C.2.1 dX5_addTwoArmed_97 rfl (lv_at hl 3 rfl) ?_
        refine lv_iload C.1 C.2.1 dX5_addTwoArmed_98 (lv_at hl 4 rfl) ?_
        obtain ⟨r7, h1, h⟩ := bS h
        refine go_I hw (run_V (As := [.int _, .int _]) C hw (c_X4_overTwo C.2.2.2.2.2.2.2.2.2 _ _ _ _ h1) mi_X4_overTwo mv_X4_overTwo o1_9 (ci := 4) rfl rfl lk_X5_50 (by decide) (by decide) rfl hl.1 rfl (Nat.le_of_ble_eq_true rfl) dX5_addTwoArmed_100 ⟨Nat.le_refl 0, Nat.le_refl 0⟩) (fun H locs hw => ?_)
        refine lv_iload_n C.1 C.2.1 dX5_addTwoArmed_103 rfl (lv_at hl 2 rfl) ?_
        refine lv_lload C.1 C.2.1 dX5_addTwoArmed_104 (lv_at hl 5 rfl) ?_
        obtain ⟨r8, h1, h⟩ := bS h
        refine go_V hw (run_V (As := [.int _, .int _, .long _]) C hw (c_X5_addBoth C.2.2.2.2.2.2.2.2.2 _ _ _ _ _ h1) mi_X5_addBoth mv_X5_addBoth o1_22 (ci := 5) rfl rfl lk_X5_43 (by decide) (by decide) rfl hl.1 rfl (Nat.le_of_ble_eq_true rfl) dX5_addTwoArmed_106 ⟨Nat.le_refl 0, Nat.le_refl 0⟩) (fun H locs hw => ?_)
        exact w_X5_addTwoArmed_109 C hx hP hE0 hw (lv_sub hl [0, 1, 2, 3, 4] rfl) h
set_option maxRecDepth 20000 in
theorem w_X5_addTwoArmed_2 {D : va_G} {cy : Nat → ClassId} {ad : Nat → Nat} {p : Program} {l : Launch} {e : Env} {R : Room} {s : State} {m : MethodId} {args : Array Value} {below : List Frame} {meth : Method} {c : Code} (C : Cx 1 D cy ad p R s m args meth c cX5_addTwoArmed 8 RX5 none 2) {a2 : Int32}  {v3 : Int32} {σ : Mem} {Q : State → Prop} {r : Mem} (hL : Lim (T := Mem) (fun s => b_X5_addTwoArmed_2 a2 s.1 s.2) (v3, σ) = some r) (hE0 : ∀ (σ1 : Mem), (σ1 : Mem) = r → ∀ (H : Heap) (locs : List Loc) (ls : Array Slot), Wd 1 D cy ad s σ1 H locs → lv_has ls 8 [] → W p l e R s m args below meth c H locs 0 0 Q (F0 m 121 ls [])) (H : Heap) (locs : List Loc) (ls : Array Slot) (hw : Wd 1 D cy ad s σ H locs) (hl : lv_has ls 8 [(0, .ref (ad (22))), (1, .ref (ad (9))), (2, .int a2), (3, .int v3)]) : W p l e R s m args below meth c H locs 0 0 Q (F0 m 2 ls []) := by
  refine Lim_ind hL (P := fun u => ∀ (H : Heap) (locs : List Loc) (ls : Array Slot), Wd 1 D cy ad s u.2 H locs → lv_has ls 8 [(0, .ref (ad (22))), (1, .ref (ad (9))), (2, .int a2), (3, .int u.1)] → W p l e R s m args below meth c H locs 0 0 Q (F0 m 2 ls [])) (fun u x h hx H locs ls hw hl => ?_) H locs ls hw hl
  clear hL
  obtain ⟨v3, σ⟩ := u
  have h : b_X5_addTwoArmed_2 a2 v3 σ = some x := h
  have hw : Wd 1 D cy ad s σ H locs := hw
  have hl : lv_has ls 8 [(0, .ref (ad (22))), (1, .ref (ad (9))), (2, .int a2), (3, .int v3)] := hl
  have hP : ∀ (u : (Int32 × Mem)), (∀ (H : Heap) (locs : List Loc) (ls : Array Slot), Wd 1 D cy ad s u.2 H locs → lv_has ls 8 [(0, .ref (ad (22))), (1, .ref (ad (9))), (2, .int a2), (3, .int u.1)] → W p l e R s m args below meth c H locs 0 0 Q (F0 m 2 ls [])) → ∀ (H : Heap) (locs : List Loc) (ls : Array Slot), Wd 1 D cy ad s u.2 H locs → lv_has ls 8 [(0, .ref (ad (22))), (1, .ref (ad (9))), (2, .int a2), (3, .int u.1)] → W p l e R s m args below meth c H locs 0 0 Q (F0 m 2 ls []) := fun _ k => k
  unfold b_X5_addTwoArmed_2 at h
  refine lv_iload_n C.1 C.2.1 dX5_addTwoArmed_2 rfl (lv_at hl 3 rfl) ?_
  refine lv_aload_n C.1 C.2.1 dX5_addTwoArmed_3 rfl (lv_at hl 1 rfl) ?_
  refine gf_X5_35 C hw dX5_addTwoArmed_4 ?_
  refine lv_icmp_ge (tgt := 121) C.1 C.2.1 dX5_addTwoArmed_7 (by decide) (fun cd => ?_) (fun cd => ?_)
  · have h := ite_t cd h
    obtain rfl := Option.some.inj h
    exact hE0 _ hx _ _ _ hw (lv_sub hl [] rfl)
  · have h := ite_f cd h
    refine lv_iconst (v := (0 : Int32)) C.1 C.2.1 dX5_addTwoArmed_10 (by decide) ?_
    refine lv_istore (lv' := [(4, .int _), (0, .ref _), (1, .ref _), (2, .int _), (3, .int _)]) C.1 C.2.1 dX5_addTwoArmed_11 hl (by decide) rfl (fun ls hl => ?_)
    obtain ⟨r9, hL, h⟩ := bS h
    refine w_X5_addTwoArmed_13 C  hL (fun y0 y1 hr H locs ls hw hl => ?_) _ _ _ hw (lv_sub hl [1, 2, 3, 4, 0] rfl)
    · subst hr
      try dsimp only at h
      try dsimp only at hw
      try dsimp only at hl
      obtain ⟨x10, ex10, h⟩ := lt_of h
      refine m_iinc (k := 3) (lv' := [(3, .int _), (0, .ref _), (1, .ref _), (2, .int _)]) C (1 : Int32) (by decide) dX5_addTwoArmed_115 hl rfl ex10.symm (by decide) rfl (fun ls hl => ?_)
      refine lv_goto (tgt := 2) C.1 C.2.1 dX5_addTwoArmed_118 (by decide) ?_
      obtain rfl := Option.some.inj h
      exact hP _ hx _ _ _ hw (lv_sub hl [1, 2, 3, 0] rfl)
set_option maxRecDepth 20000 in
theorem c_X5_addTwoArmed {l : Launch} {D : va_G} {cy : Nat → ClassId} {ad : Nat → Nat} (hj : InjW 1 ad) (a2 : Int32)  (σ : Mem) (r : Mem) (h : f_X5_addTwoArmed a2 σ = some r) : CV 1 D cy ad l yX5_addTwoArmed cX5_addTwoArmed 8 none 2 [.ref (ad (22)), .ref (ad (9)), .int a2] σ r := by
  refine CV.mk (by decide) hj (Nat.le_of_ble_eq_true rfl) (fun p e R s m below meth c ls C hw hl => ?_)
  have hl : lv_has ls 8 [(0, .ref (ad (22))), (1, .ref (ad (9))), (2, .int a2)] := hl
  generalize ([.ref (ad (22)), .ref (ad (9)), .int a2] : List Value).toArray = args at C ⊢
  have C : Cx 1 D cy ad p R s m args meth c cX5_addTwoArmed 8 RX5 none 2 := C
  unfold f_X5_addTwoArmed at h
  refine lv_iconst (v := (0 : Int32)) C.1 C.2.1 dX5_addTwoArmed_0 (by decide) ?_
  refine lv_istore_n (lv' := [(3, .int _), (0, .ref _), (1, .ref _), (2, .int _)]) C.1 C.2.1 dX5_addTwoArmed_1 rfl hl (by decide) rfl (fun ls hl => ?_)
  obtain ⟨r11, hL, h⟩ := bS h
  refine w_X5_addTwoArmed_2 C  hL (fun y0 hr H locs ls hw hl => ?_) _ _ _ hw (lv_sub hl [1, 2, 3, 0] rfl)
  · subst hr
    try dsimp only at h
    try dsimp only at hw
    try dsimp only at hl
    exact m_vret C hw (Option.some.inj h) dX5_addTwoArmed_121
noncomputable def j_X5_treesOf_46 (a2 : Int32) (a3 : Int32) (σ : Mem) : Option (Int64 × Mem) :=
  gd (ix ((a2 * (16 : Int32)) + a3) 2048) (some (σ.2.1 23 ((a2 * (16 : Int32)) + a3).toNatClampNeg, σ))
noncomputable def b_X5_treesOf_14 (a2 : Int32) (a3 : Int32) (v4 : Int32) (σ : Mem) : Option ((Int32 × Mem) ⊕ Mem) :=
  if (16 : Int32) ≤ v4 then (some (.inr σ)) else ((f_X5_addOneArmed v4 σ).bind (fun r2 => (f_X5_addTwoArmed v4 r2).bind (fun r3 => lt (v4 + (1 : Int32)) (fun x4 => some (.inl (x4, r3))))))
noncomputable def f_X5_treesOf (a2 : Int32) (a3 : Int32) (σ : Mem) : Option (Int64 × Mem) :=
  if (σ.1 22 2) = 0 then ((f_X5_addLeaves σ).bind (fun r1 => (Lim (T := Mem) (fun s => b_X5_treesOf_14 a2 a3 s.1 s.2) ((2 : Int32), r1)).bind (fun r5 => lt (sI r5 22 2 (1 : Int32)) (fun σ6 => j_X5_treesOf_46 a2 a3 σ6)))) else (j_X5_treesOf_46 a2 a3 σ)
set_option maxRecDepth 20000 in
theorem w_X5_treesOf_46 {D : va_G} {cy : Nat → ClassId} {ad : Nat → Nat} {p : Program} {l : Launch} {e : Env} {R : Room} {s : State} {m : MethodId} {args : Array Value} {below : List Frame} {meth : Method} {c : Code} (C : Cx 1 D cy ad p R s m args meth c cX5_treesOf 5 RX5 (some .long) 3) {a2 : Int32} {a3 : Int32}    {σ : Mem} {H : Heap} {locs : List Loc} {ls : Array Slot} {r : (Int64 × Mem)} (hw : Wd 1 D cy ad s σ H locs) (hl : lv_has ls 5 [(0, .ref (ad (22))), (2, .int a2), (3, .int a3)]) (h : j_X5_treesOf_46 a2 a3 σ = some r) : W p l e R s m args below meth c H locs 0 0 (QL 1 D cy ad below args s r.1 r.2) (F0 m 46 ls []) := by
  unfold j_X5_treesOf_46 at h
  refine lv_aload_n C.1 C.2.1 dX5_treesOf_46 rfl (lv_at hl 0 rfl) ?_
  refine gf_X5_13 C hw dX5_treesOf_47 ?_
  refine lv_iload_n C.1 C.2.1 dX5_treesOf_50 rfl (lv_at hl 1 rfl) ?_
  refine lv_bipush (v := (16 : Int32)) C.1 C.2.1 dX5_treesOf_51 (by decide) ?_
  refine lv_imul C.1 C.2.1 dX5_treesOf_53 ?_
  refine lv_iload_n C.1 C.2.1 dX5_treesOf_54 rfl (lv_at hl 2 rfl) ?_
  refine lv_iadd C.1 C.2.1 dX5_treesOf_55 ?_
  obtain ⟨hin, h⟩ := gd_of h
  refine m_lald C hw a1_23 hin dX5_treesOf_56 ?_
  exact m_lret C hw (ret_p h) dX5_treesOf_57
set_option maxRecDepth 20000 in
theorem w_X5_treesOf_14 {D : va_G} {cy : Nat → ClassId} {ad : Nat → Nat} {p : Program} {l : Launch} {e : Env} {R : Room} {s : State} {m : MethodId} {args : Array Value} {below : List Frame} {meth : Method} {c : Code} (C : Cx 1 D cy ad p R s m args meth c cX5_treesOf 5 RX5 (some .long) 3) {a2 : Int32} {a3 : Int32}  {v4 : Int32} {σ : Mem} {Q : State → Prop} {r : Mem} (hL : Lim (T := Mem) (fun s => b_X5_treesOf_14 a2 a3 s.1 s.2) (v4, σ) = some r) (hE0 : ∀ (σ1 : Mem), (σ1 : Mem) = r → ∀ (H : Heap) (locs : List Loc) (ls : Array Slot), Wd 1 D cy ad s σ1 H locs → lv_has ls 5 [(0, .ref (ad (22))), (2, .int a2), (3, .int a3)] → W p l e R s m args below meth c H locs 0 0 Q (F0 m 41 ls [])) (H : Heap) (locs : List Loc) (ls : Array Slot) (hw : Wd 1 D cy ad s σ H locs) (hl : lv_has ls 5 [(0, .ref (ad (22))), (1, .ref (ad (9))), (2, .int a2), (3, .int a3), (4, .int v4)]) : W p l e R s m args below meth c H locs 0 0 Q (F0 m 14 ls []) := by
  refine Lim_ind hL (P := fun u => ∀ (H : Heap) (locs : List Loc) (ls : Array Slot), Wd 1 D cy ad s u.2 H locs → lv_has ls 5 [(0, .ref (ad (22))), (1, .ref (ad (9))), (2, .int a2), (3, .int a3), (4, .int u.1)] → W p l e R s m args below meth c H locs 0 0 Q (F0 m 14 ls [])) (fun u x h hx H locs ls hw hl => ?_) H locs ls hw hl
  clear hL
  obtain ⟨v4, σ⟩ := u
  have h : b_X5_treesOf_14 a2 a3 v4 σ = some x := h
  have hw : Wd 1 D cy ad s σ H locs := hw
  have hl : lv_has ls 5 [(0, .ref (ad (22))), (1, .ref (ad (9))), (2, .int a2), (3, .int a3), (4, .int v4)] := hl
  have hP : ∀ (u : (Int32 × Mem)), (∀ (H : Heap) (locs : List Loc) (ls : Array Slot), Wd 1 D cy ad s u.2 H locs → lv_has ls 5 [(0, .ref (ad (22))), (1, .ref (ad (9))), (2, .int a2), (3, .int a3), (4, .int u.1)] → W p l e R s m args below meth c H locs 0 0 Q (F0 m 14 ls [])) → ∀ (H : Heap) (locs : List Loc) (ls : Array Slot), Wd 1 D cy ad s u.2 H locs → lv_has ls 5 [(0, .ref (ad (22))), (1, .ref (ad (9))), (2, .int a2), (3, .int a3), (4, .int u.1)] → W p l e R s m args below meth c H locs 0 0 Q (F0 m 14 ls []) := fun _ k => k
  unfold b_X5_treesOf_14 at h
  refine lv_iload C.1 C.2.1 dX5_treesOf_14 (lv_at hl 4 rfl) ?_
  refine lv_bipush (v := (16 : Int32)) C.1 C.2.1 dX5_treesOf_16 (by decide) ?_
  refine lv_icmp_ge (tgt := 41) C.1 C.2.1 dX5_treesOf_18 (by decide) (fun cd => ?_) (fun cd => ?_)
  · have h := ite_t cd h
    obtain rfl := Option.some.inj h
    exact hE0 _ hx _ _ _ hw (lv_sub hl [0, 2, 3] rfl)
  · have h := ite_f cd h
    refine lv_aload_n C.1 C.2.1 dX5_treesOf_21 rfl (lv_at hl 0 rfl) ?_
    refine lv_aload_n C.1 C.2.1 dX5_treesOf_22 rfl (lv_at hl 1 rfl) ?_
    refine lv_iload C.1 C.2.1 dX5_treesOf_23 (lv_at hl 4 rfl) ?_
    obtain ⟨r2, h1, h⟩ := bS h
    refine go_V hw (run_V (As := [.ref _, .int _]) C hw (c_X5_addOneArmed C.2.2.2.2.2.2.2.2.2 _ _ _ h1) mi_X5_addOneArmed mv_X5_addOneArmed o1_22 (ci := 5) rfl rfl lk_X5_28 (by decide) (by decide) rfl hl.1 rfl (Nat.le_of_ble_eq_true rfl) dX5_treesOf_25 ⟨Nat.le_refl 0, Nat.le_refl 0⟩) (fun H locs hw => ?_)
    refine lv_aload_n C.1 C.2.1 dX5_treesOf_28 rfl (lv_at hl 0 rfl) ?_
    refine lv_aload_n C.1 C.2.1 dX5_treesOf_29 rfl (lv_at hl 1 rfl) ?_
    refine lv_iload C.1 C.2.1 dX5_treesOf_30 (lv_at hl 4 rfl) ?_
    obtain ⟨r3, h1, h⟩ := bS h
    refine go_V hw (run_V (As := [.ref _, .int _]) C hw (c_X5_addTwoArmed C.2.2.2.2.2.2.2.2.2 _ _ _ h1) mi_X5_addTwoArmed mv_X5_addTwoArmed o1_22 (ci := 5) rfl rfl lk_X5_32 (by decide) (by decide) rfl hl.1 rfl (Nat.le_of_ble_eq_true rfl) dX5_treesOf_32 ⟨Nat.le_refl 0, Nat.le_refl 0⟩) (fun H locs hw => ?_)
    obtain ⟨x4, ex4, h⟩ := lt_of h
    refine m_iinc (k := 4) (lv' := [(4, .int _), (0, .ref _), (1, .ref _), (2, .int _), (3, .int _)]) C (1 : Int32) (by decide) dX5_treesOf_35 hl rfl ex4.symm (by decide) rfl (fun ls hl => ?_)
    refine lv_goto (tgt := 14) C.1 C.2.1 dX5_treesOf_38 (by decide) ?_
    obtain rfl := Option.some.inj h
    exact hP _ hx _ _ _ hw (lv_sub hl [1, 2, 3, 4, 0] rfl)
set_option maxRecDepth 20000 in
theorem c_X5_treesOf {l : Launch} {D : va_G} {cy : Nat → ClassId} {ad : Nat → Nat} (hj : InjW 1 ad) (a2 : Int32) (a3 : Int32)  (σ : Mem) (r : (Int64 × Mem)) (h : f_X5_treesOf a2 a3 σ = some r) : CL 1 D cy ad l yX5_treesOf cX5_treesOf 5 (some .long) 3 [.ref (ad (22)), .ref (ad (9)), .int a2, .int a3] σ r.1 r.2 := by
  refine CL.mk (by decide) hj (Nat.le_of_ble_eq_true rfl) (fun p e R s m below meth c ls C hw hl => ?_)
  have hl : lv_has ls 5 [(0, .ref (ad (22))), (1, .ref (ad (9))), (2, .int a2), (3, .int a3)] := hl
  generalize ([.ref (ad (22)), .ref (ad (9)), .int a2, .int a3] : List Value).toArray = args at C ⊢
  have C : Cx 1 D cy ad p R s m args meth c cX5_treesOf 5 RX5 (some .long) 3 := C
  unfold f_X5_treesOf at h
  refine lv_aload_n C.1 C.2.1 dX5_treesOf_0 rfl (lv_at hl 0 rfl) ?_
  refine gf_X5_21 C hw dX5_treesOf_1 ?_
  refine lv_if_ne (tgt := 46) C.1 C.2.1 dX5_treesOf_4 (by decide) (fun cd => ?_) (fun cd => ?_)
  · have h := ite_f cd h
    exact w_X5_treesOf_46 C hw (lv_sub hl [0, 2, 3] rfl) h
  · have h := ite_t cd h
    refine lv_aload_n C.1 C.2.1 dX5_treesOf_7 rfl (lv_at hl 0 rfl) ?_
    obtain ⟨r1, h1, h⟩ := bS h
    refine go_V hw (run_V (As := []) C hw (c_X5_addLeaves C.2.2.2.2.2.2.2.2.2 _ _ h1) mi_X5_addLeaves mv_X5_addLeaves o1_22 (ci := 5) rfl rfl lk_X5_25 (by decide) (by decide) rfl hl.1 rfl (Nat.le_of_ble_eq_true rfl) dX5_treesOf_8 ⟨Nat.le_refl 0, Nat.le_refl 0⟩) (fun H locs hw => ?_)
    refine lv_iconst (v := (2 : Int32)) C.1 C.2.1 dX5_treesOf_11 (by decide) ?_
    refine lv_istore (lv' := [(4, .int _), (0, .ref _), (1, .ref _), (2, .int _), (3, .int _)]) C.1 C.2.1 dX5_treesOf_12 hl (by decide) rfl (fun ls hl => ?_)
    obtain ⟨r5, hL, h⟩ := bS h
    refine w_X5_treesOf_14 C  hL (fun y0 hr H locs ls hw hl => ?_) _ _ _ hw (lv_sub hl [1, 2, 3, 4, 0] rfl)
    · subst hr
      try dsimp only at h
      try dsimp only at hw
      try dsimp only at hl
      refine lv_aload_n C.1 C.2.1 dX5_treesOf_41 rfl (lv_at hl 0 rfl) ?_
      refine lv_iconst (v := (1 : Int32)) C.1 C.2.1 dX5_treesOf_42 (by decide) ?_
      refine pf_X5_21 C hw rfl rfl dX5_treesOf_43 (fun H locs hw => ?_)
      obtain ⟨σ6, eσ6, h⟩ := lt_of h
      rw [← eσ6] at hw
      exact w_X5_treesOf_46 C hw (lv_sub hl [0, 1, 2] rfl) h
noncomputable def f_X6_put (a1 : Int32) (σ : Mem) : Option Mem :=
  if (300 : Int32) ≤ (σ.1 1 1) then (some σ) else (gd (ix (σ.1 1 1) 300) (lt (sI σ 2 (σ.1 1 1).toNatClampNeg a1) (fun σ1 => lt (sI σ1 1 1 ((σ1.1 1 1) + (1 : Int32))) (fun σ2 => some σ2))))
set_option maxRecDepth 20000 in
theorem c_X6_put {l : Launch} {D : va_G} {cy : Nat → ClassId} {ad : Nat → Nat} (hj : InjW 1 ad) (a1 : Int32)  (σ : Mem) (r : Mem) (h : f_X6_put a1 σ = some r) : CV 1 D cy ad l yX6_put cX6_put 2 none 0 [.ref (ad (1)), .int a1] σ r := by
  refine CV.mk (by decide) hj (Nat.le_of_ble_eq_true rfl) (fun p e R s m below meth c ls C hw hl => ?_)
  have hl : lv_has ls 2 [(0, .ref (ad (1))), (1, .int a1)] := hl
  generalize ([.ref (ad (1)), .int a1] : List Value).toArray = args at C ⊢
  have C : Cx 1 D cy ad p R s m args meth c cX6_put 2 RX6 none 0 := C
  unfold f_X6_put at h
  refine lv_aload_n C.1 C.2.1 dX6_put_0 rfl (lv_at hl 0 rfl) ?_
  refine gf_X6_15 C hw dX6_put_1 ?_
  refine lv_sipush (v := (300 : Int32)) C.1 C.2.1 dX6_put_4 (by decide) ?_
  refine lv_icmp_ge (tgt := 30) C.1 C.2.1 dX6_put_7 (by decide) (fun cd => ?_) (fun cd => ?_)
  · have h := ite_t cd h
    exact m_vret C hw (Option.some.inj h) dX6_put_30
  · have h := ite_f cd h
    refine lv_aload_n C.1 C.2.1 dX6_put_10 rfl (lv_at hl 0 rfl) ?_
    refine gf_X6_9 C hw dX6_put_11 ?_
    refine lv_aload_n C.1 C.2.1 dX6_put_14 rfl (lv_at hl 0 rfl) ?_
    refine gf_X6_15 C hw dX6_put_15 ?_
    refine lv_iload_n C.1 C.2.1 dX6_put_18 rfl (lv_at hl 1 rfl) ?_
    obtain ⟨hin, h⟩ := gd_of h
    refine m_iast C hw a1_2 hin dX6_put_19 (fun H locs hw => ?_)
    obtain ⟨σ1, eσ1, h⟩ := lt_of h
    rw [← eσ1] at hw
    refine lv_aload_n C.1 C.2.1 dX6_put_20 rfl (lv_at hl 0 rfl) ?_
    refine lv_dup C.1 C.2.1 dX6_put_21 rfl ?_
    refine gf_X6_15 C hw dX6_put_22 ?_
    refine lv_iconst (v := (1 : Int32)) C.1 C.2.1 dX6_put_25 (by decide) ?_
    refine lv_iadd C.1 C.2.1 dX6_put_26 ?_
    refine pf_X6_15 C hw dX6_put_27 (fun H locs hw => ?_)
    obtain ⟨σ2, eσ2, h⟩ := lt_of h
    rw [← eσ2] at hw
    exact m_vret C hw (Option.some.inj h) dX6_put_30
noncomputable def b_X7_settle_31 (t0 : Nat) (v1 : Int32) (v2 : Int32) (v3 : Int32) (v4 : Int32) (v5 : Int32) (σ : Mem) : Option ((Int32 × Int32 × Int32 × Int32 × Int32 × Mem) ⊕ (Int32 × Int32 × Mem)) :=
  if v2 ≤ v5 then (some (.inr (v1, v3, σ))) else (if (f_X7_has t0 v4 σ) = 0 then (some (.inr (v1, v3, σ))) else (gd (ix v4 31) (lt (sI σ (t0 + 3) v4.toNatClampNeg v1) (fun σ4 => gd (ix v4 31) (lt (v3 + (σ4.1 (t0 + 2) v4.toNatClampNeg)) (fun x5 => gd (ix v4 31) (lt (v4 + (σ4.1 (t0 + 2) v4.toNatClampNeg)) (fun x6 => lt (v5 + (1 : Int32)) (fun x7 => some (.inl (v1, v2, x5, x6, x7, σ4)))))))))))
noncomputable def j_X7_settle_82 (t0 : Nat) (v1 : Int32) (v3 : Int32) (σ : Mem) : Option ((Int32 × Mem) ⊕ Mem) :=
  gd (ix v1 31) (lt (sI σ (t0 + 2) v1.toNatClampNeg v3) (fun σ9 => lt (v1 + (-1 : Int32)) (fun x10 => some (.inl (x10, σ9)))))
noncomputable def b_X7_settle_7 (t0 : Nat) (v1 : Int32) (σ : Mem) : Option ((Int32 × Mem) ⊕ Mem) :=
  if v1 < 0 then (some (.inr σ)) else (gd (ix v1 31) (lt (f_X8_armsOf (σ.1 (t0 + 1) v1.toNatClampNeg)) (fun x2 => lt (v1 + (1 : Int32)) (fun x3 => (Lim (T := (Int32 × Int32 × Mem)) (fun s => b_X7_settle_31 t0 s.1 s.2.1 s.2.2.1 s.2.2.2.1 s.2.2.2.2.1 s.2.2.2.2.2) (v1, x2, (1 : Int32), x3, (0 : Int32), σ)).bind (fun r8 => j_X7_settle_82 t0 r8.1 r8.2.1 r8.2.2)))))
noncomputable def f_X7_settle (t0 : Nat) (σ : Mem) : Option Mem :=
  lt ((σ.1 t0 4) - (1 : Int32)) (fun x1 => (Lim (T := Mem) (fun s => b_X7_settle_7 t0 s.1 s.2) (x1, σ)).bind (fun r11 => lt (sI r11 (t0 + 3) (0 : Int32).toNatClampNeg (-9 : Int32)) (fun σ12 => some σ12)))
set_option maxRecDepth 20000 in
theorem w_X7_settle_31 {D : va_G} {cy : Nat → ClassId} {ad : Nat → Nat} {p : Program} {l : Launch} {e : Env} {R : Room} {s : State} {m : MethodId} {args : Array Value} {below : List Frame} {meth : Method} {c : Code} (C : Cx 1 D cy ad p R s m args meth c cX7_settle 6 RX7 none 1) {t0 : Nat} (ht0 : IsO 1 t0 7) {v1 : Int32} {v2 : Int32} {v3 : Int32} {v4 : Int32} {v5 : Int32} {σ : Mem} {Q : State → Prop} {r : (Int32 × Int32 × Mem)} (hL : Lim (T := (Int32 × Int32 × Mem)) (fun s => b_X7_settle_31 t0 s.1 s.2.1 s.2.2.1 s.2.2.2.1 s.2.2.2.2.1 s.2.2.2.2.2) (v1, v2, v3, v4, v5, σ) = some r) (hE0 : ∀ (v1 : Int32) (v3 : Int32) (σ1 : Mem), ((v1, v3, σ1) : (Int32 × Int32 × Mem)) = r → ∀ (H : Heap) (locs : List Loc) (ls : Array Slot), Wd 1 D cy ad s σ1 H locs → lv_has ls 6 [(0, .ref (ad (t0))), (1, .int v1), (3, .int v3)] → W p l e R s m args below meth c H locs 0 0 Q (F0 m 82 ls [])) (H : Heap) (locs : List Loc) (ls : Array Slot) (hw : Wd 1 D cy ad s σ H locs) (hl : lv_has ls 6 [(0, .ref (ad (t0))), (1, .int v1), (2, .int v2), (3, .int v3), (4, .int v4), (5, .int v5)]) : W p l e R s m args below meth c H locs 0 0 Q (F0 m 31 ls []) := by
  refine Lim_ind hL (P := fun u => ∀ (H : Heap) (locs : List Loc) (ls : Array Slot), Wd 1 D cy ad s u.2.2.2.2.2 H locs → lv_has ls 6 [(0, .ref (ad (t0))), (1, .int u.1), (2, .int u.2.1), (3, .int u.2.2.1), (4, .int u.2.2.2.1), (5, .int u.2.2.2.2.1)] → W p l e R s m args below meth c H locs 0 0 Q (F0 m 31 ls [])) (fun u x h hx H locs ls hw hl => ?_) H locs ls hw hl
  clear hL
  obtain ⟨v1, v2, v3, v4, v5, σ⟩ := u
  have h : b_X7_settle_31 t0 v1 v2 v3 v4 v5 σ = some x := h
  have hw : Wd 1 D cy ad s σ H locs := hw
  have hl : lv_has ls 6 [(0, .ref (ad (t0))), (1, .int v1), (2, .int v2), (3, .int v3), (4, .int v4), (5, .int v5)] := hl
  have hP : ∀ (u : (Int32 × Int32 × Int32 × Int32 × Int32 × Mem)), (∀ (H : Heap) (locs : List Loc) (ls : Array Slot), Wd 1 D cy ad s u.2.2.2.2.2 H locs → lv_has ls 6 [(0, .ref (ad (t0))), (1, .int u.1), (2, .int u.2.1), (3, .int u.2.2.1), (4, .int u.2.2.2.1), (5, .int u.2.2.2.2.1)] → W p l e R s m args below meth c H locs 0 0 Q (F0 m 31 ls [])) → ∀ (H : Heap) (locs : List Loc) (ls : Array Slot), Wd 1 D cy ad s u.2.2.2.2.2 H locs → lv_has ls 6 [(0, .ref (ad (t0))), (1, .int u.1), (2, .int u.2.1), (3, .int u.2.2.1), (4, .int u.2.2.2.1), (5, .int u.2.2.2.2.1)] → W p l e R s m args below meth c H locs 0 0 Q (F0 m 31 ls []) := fun _ k => k
  unfold b_X7_settle_31 at h
  refine lv_iload C.1 C.2.1 dX7_settle_31 (lv_at hl 5 rfl) ?_
  refine lv_iload_n C.1 C.2.1 dX7_settle_33 rfl (lv_at hl 2 rfl) ?_
  refine lv_icmp_ge (tgt := 82) C.1 C.2.1 dX7_settle_34 (by decide) (fun cd => ?_) (fun cd => ?_)
  · have h := ite_t cd h
    obtain rfl := Option.some.inj h
    exact hE0 _ _ _ hx _ _ _ hw (lv_sub hl [0, 1, 3] rfl)
  · have h := ite_f cd h
    refine lv_aload_n C.1 C.2.1 dX7_settle_37 rfl (lv_at hl 0 rfl) ?_
    refine lv_iload C.1 C.2.1 dX7_settle_38 (lv_at hl 4 rfl) ?_
    refine go_I hw (run_V (As := [.int _]) C hw (c_X7_has C.2.2.2.2.2.2.2.2.2 _ _ ht0 _) mi_X7_has mv_X7_has ht0 (ci := 7) rfl rfl lk_X7_43 (by decide) (by decide) rfl hl.1 rfl (Nat.le_of_ble_eq_true rfl) dX7_settle_40 ⟨Nat.le_refl 0, Nat.le_refl 0⟩) (fun H locs hw => ?_)
    refine lv_if_eq (tgt := 82) C.1 C.2.1 dX7_settle_43 (by decide) (fun cd => ?_) (fun cd => ?_)
    · have h := ite_t cd h
      obtain rfl := Option.some.inj h
      exact hE0 _ _ _ hx _ _ _ hw (lv_sub hl [0, 1, 3] rfl)
    · have h := ite_f cd h
      refine lv_aload_n C.1 C.2.1 dX7_settle_46 rfl (lv_at hl 0 rfl) ?_
      refine gf_X7_18 C hw ht0 dX7_settle_47 ?_
      refine lv_iload C.1 C.2.1 dX7_settle_50 (lv_at hl 4 rfl) ?_
      refine lv_iload_n C.1 C.2.1 dX7_settle_52 rfl (lv_at hl 1 rfl) ?_
      obtain ⟨hin, h⟩ := gd_of h
      refine m_iast C hw (treeA2 ht0) hin dX7_settle_53 (fun H locs hw => ?_)
      obtain ⟨σ4, eσ4, h⟩ := lt_of h
      rw [← eσ4] at hw
      refine lv_iload_n C.1 C.2.1 dX7_settle_54 rfl (lv_at hl 3 rfl) ?_
      refine lv_aload_n C.1 C.2.1 dX7_settle_55 rfl (lv_at hl 0 rfl) ?_
      refine gf_X7_15 C hw ht0 dX7_settle_56 ?_
      refine lv_iload C.1 C.2.1 dX7_settle_59 (lv_at hl 4 rfl) ?_
      obtain ⟨hin, h⟩ := gd_of h
      refine m_iald C hw (treeA1 ht0) hin dX7_settle_61 ?_
      refine lv_iadd C.1 C.2.1 dX7_settle_62 ?_
      obtain ⟨x5, ex5, h⟩ := lt_of h
      refine m_topi ex5 ?_
      refine lv_istore_n (lv' := [(3, .int _), (0, .ref _), (1, .int _), (2, .int _), (4, .int _), (5, .int _)]) C.1 C.2.1 dX7_settle_63 rfl hl (by decide) rfl (fun ls hl => ?_)
      refine lv_iload C.1 C.2.1 dX7_settle_64 (lv_at hl 4 rfl) ?_
      refine lv_aload_n C.1 C.2.1 dX7_settle_66 rfl (lv_at hl 1 rfl) ?_
      refine gf_X7_15 C hw ht0 dX7_settle_67 ?_
      refine lv_iload C.1 C.2.1 dX7_settle_70 (lv_at hl 4 rfl) ?_
      obtain ⟨hin, h⟩ := gd_of h
      refine m_iald C hw (treeA1 ht0) hin dX7_settle_72 ?_
      refine lv_iadd C.1 C.2.1 dX7_settle_73 ?_
      obtain ⟨x6, ex6, h⟩ := lt_of h
      refine m_topi ex6 ?_
      refine lv_istore (lv' := [(4, .int _), (3, .int _), (0, .ref _), (1, .int _), (2, .int _), (5, .int _)]) C.1 C.2.1 dX7_settle_74 hl (by decide) rfl (fun ls hl => ?_)
      obtain ⟨x7, ex7, h⟩ := lt_of h
      refine m_iinc (k := 5) (lv' := [(5, .int _), (4, .int _), (3, .int _), (0, .ref _), (1, .int _), (2, .int _)]) C (1 : Int32) (by decide) dX7_settle_76 hl rfl ex7.symm (by decide) rfl (fun ls hl => ?_)
      refine lv_goto (tgt := 31) C.1 C.2.1 dX7_settle_79 (by decide) ?_
      obtain rfl := Option.some.inj h
      exact hP _ hx _ _ _ hw (lv_sub hl [3, 4, 5, 2, 1, 0] rfl)
set_option maxRecDepth 20000 in
theorem w_X7_settle_82 {D : va_G} {cy : Nat → ClassId} {ad : Nat → Nat} {p : Program} {l : Launch} {e : Env} {R : Room} {s : State} {m : MethodId} {args : Array Value} {below : List Frame} {meth : Method} {c : Code} (C : Cx 1 D cy ad p R s m args meth c cX7_settle 6 RX7 none 1) {t0 : Nat} (ht0 : IsO 1 t0 7) {v1 : Int32} {v3 : Int32}  {σ : Mem} {H : Heap} {locs : List Loc} {ls : Array Slot} {Q : State → Prop} {P : (Int32 × Mem) → Prop} {r : Mem} {x : (Int32 × Mem) ⊕ Mem} (hx : LimQ P r x) (hP : ∀ u, P u → ∀ (H : Heap) (locs : List Loc) (ls : Array Slot), Wd 1 D cy ad s u.2 H locs → lv_has ls 6 [(0, .ref (ad (t0))), (1, .int u.1)] → W p l e R s m args below meth c H locs 0 0 Q (F0 m 7 ls [])) (hE0 : ∀ (σ1 : Mem), (σ1 : Mem) = r → ∀ (H : Heap) (locs : List Loc) (ls : Array Slot), Wd 1 D cy ad s σ1 H locs → lv_has ls 6 [(0, .ref (ad (t0)))] → W p l e R s m args below meth c H locs 0 0 Q (F0 m 95 ls [])) (hw : Wd 1 D cy ad s σ H locs) (hl : lv_has ls 6 [(0, .ref (ad (t0))), (1, .int v1), (3, .int v3)]) (h : j_X7_settle_82 t0 v1 v3 σ = some x) : W p l e R s m args below meth c H locs 0 0 Q (F0 m 82 ls []) := by
  unfold j_X7_settle_82 at h
  refine lv_aload_n C.1 C.2.1 dX7_settle_82 rfl (lv_at hl 0 rfl) ?_
  refine gf_X7_15 C hw ht0 dX7_settle_83 ?_
  refine lv_iload_n C.1 C.2.1 dX7_settle_86 rfl (lv_at hl 1 rfl) ?_
  refine lv_iload_n C.1 C.2.1 dX7_settle_87 rfl (lv_at hl 2 rfl) ?_
  obtain ⟨hin, h⟩ := gd_of h
  refine m_iast C hw (treeA1 ht0) hin dX7_settle_88 (fun H locs hw => ?_)
  obtain ⟨σ9, eσ9, h⟩ := lt_of h
  rw [← eσ9] at hw
  obtain ⟨x10, ex10, h⟩ := lt_of h
  refine m_iinc (k := 1) (lv' := [(1, .int _), (0, .ref _), (3, .int _)]) C (-1 : Int32) (by decide) dX7_settle_89 hl rfl ex10.symm (by decide) rfl (fun ls hl => ?_)
  refine lv_goto (tgt := 7) C.1 C.2.1 dX7_settle_92 (by decide) ?_
  obtain rfl := Option.some.inj h
  exact hP _ hx _ _ _ hw (lv_sub hl [1, 0] rfl)
set_option maxRecDepth 20000 in
theorem w_X7_settle_7 {D : va_G} {cy : Nat → ClassId} {ad : Nat → Nat} {p : Program} {l : Launch} {e : Env} {R : Room} {s : State} {m : MethodId} {args : Array Value} {below : List Frame} {meth : Method} {c : Code} (C : Cx 1 D cy ad p R s m args meth c cX7_settle 6 RX7 none 1) {t0 : Nat} (ht0 : IsO 1 t0 7) {v1 : Int32} {σ : Mem} {Q : State → Prop} {r : Mem} (hL : Lim (T := Mem) (fun s => b_X7_settle_7 t0 s.1 s.2) (v1, σ) = some r) (hE0 : ∀ (σ1 : Mem), (σ1 : Mem) = r → ∀ (H : Heap) (locs : List Loc) (ls : Array Slot), Wd 1 D cy ad s σ1 H locs → lv_has ls 6 [(0, .ref (ad (t0)))] → W p l e R s m args below meth c H locs 0 0 Q (F0 m 95 ls [])) (H : Heap) (locs : List Loc) (ls : Array Slot) (hw : Wd 1 D cy ad s σ H locs) (hl : lv_has ls 6 [(0, .ref (ad (t0))), (1, .int v1)]) : W p l e R s m args below meth c H locs 0 0 Q (F0 m 7 ls []) := by
  refine Lim_ind hL (P := fun u => ∀ (H : Heap) (locs : List Loc) (ls : Array Slot), Wd 1 D cy ad s u.2 H locs → lv_has ls 6 [(0, .ref (ad (t0))), (1, .int u.1)] → W p l e R s m args below meth c H locs 0 0 Q (F0 m 7 ls [])) (fun u x h hx H locs ls hw hl => ?_) H locs ls hw hl
  clear hL
  obtain ⟨v1, σ⟩ := u
  have h : b_X7_settle_7 t0 v1 σ = some x := h
  have hw : Wd 1 D cy ad s σ H locs := hw
  have hl : lv_has ls 6 [(0, .ref (ad (t0))), (1, .int v1)] := hl
  have hP : ∀ (u : (Int32 × Mem)), (∀ (H : Heap) (locs : List Loc) (ls : Array Slot), Wd 1 D cy ad s u.2 H locs → lv_has ls 6 [(0, .ref (ad (t0))), (1, .int u.1)] → W p l e R s m args below meth c H locs 0 0 Q (F0 m 7 ls [])) → ∀ (H : Heap) (locs : List Loc) (ls : Array Slot), Wd 1 D cy ad s u.2 H locs → lv_has ls 6 [(0, .ref (ad (t0))), (1, .int u.1)] → W p l e R s m args below meth c H locs 0 0 Q (F0 m 7 ls []) := fun _ k => k
  unfold b_X7_settle_7 at h
  refine lv_iload_n C.1 C.2.1 dX7_settle_7 rfl (lv_at hl 1 rfl) ?_
  refine lv_if_lt (tgt := 95) C.1 C.2.1 dX7_settle_8 (by decide) (fun cd => ?_) (fun cd => ?_)
  · have h := ite_t cd h
    obtain rfl := Option.some.inj h
    exact hE0 _ hx _ _ _ hw (lv_sub hl [0] rfl)
  · have h := ite_f cd h
    refine lv_aload_n C.1 C.2.1 dX7_settle_11 rfl (lv_at hl 0 rfl) ?_
    refine gf_X7_9 C hw ht0 dX7_settle_12 ?_
    refine lv_iload_n C.1 C.2.1 dX7_settle_15 rfl (lv_at hl 1 rfl) ?_
    obtain ⟨hin, h⟩ := gd_of h
    refine m_iald C hw (treeA0 ht0) hin dX7_settle_16 ?_
    refine go_I hw (run_SN (As := [.int _]) C hw (c_X8_armsOf C.2.2.2.2.2.2.2.2.2 _ _) mi_X8_armsOf ms_X8_armsOf lk_X7_37 (by decide) (by decide) rfl hl.1 rfl (Nat.le_of_ble_eq_true rfl) dX7_settle_17 ⟨Nat.le_refl 0, Nat.le_refl 0⟩) (fun H locs hw => ?_)
    obtain ⟨x2, ex2, h⟩ := lt_of h
    refine m_topi ex2 ?_
    refine lv_istore_n (lv' := [(2, .int _), (0, .ref _), (1, .int _)]) C.1 C.2.1 dX7_settle_20 rfl hl (by decide) rfl (fun ls hl => ?_)
    refine lv_iconst (v := (1 : Int32)) C.1 C.2.1 dX7_settle_21 (by decide) ?_
    refine lv_istore_n (lv' := [(3, .int _), (2, .int _), (0, .ref _), (1, .int _)]) C.1 C.2.1 dX7_settle_22 rfl hl (by decide) rfl (fun ls hl => ?_)
    refine lv_iload_n C.1 C.2.1 dX7_settle_23 rfl (lv_at hl 3 rfl) ?_
    refine lv_iconst (v := (1 : Int32)) C.1 C.2.1 dX7_settle_24 (by decide) ?_
    refine lv_iadd C.1 C.2.1 dX7_settle_25 ?_
    obtain ⟨x3, ex3, h⟩ := lt_of h
    refine m_topi ex3 ?_
    refine lv_istore (lv' := [(4, .int _), (3, .int _), (2, .int _), (0, .ref _), (1, .int _)]) C.1 C.2.1 dX7_settle_26 hl (by decide) rfl (fun ls hl => ?_)
    refine lv_iconst (v := (0 : Int32)) C.1 C.2.1 dX7_settle_28 (by decide) ?_
    refine lv_istore (lv' := [(5, .int _), (4, .int _), (3, .int _), (2, .int _), (0, .ref _), (1, .int _)]) C.1 C.2.1 dX7_settle_29 hl (by decide) rfl (fun ls hl => ?_)
    obtain ⟨r8, hL, h⟩ := bS h
    refine w_X7_settle_31 C ht0  hL (fun y0 y1 y2 hr H locs ls hw hl => ?_) _ _ _ hw (lv_sub hl [4, 5, 3, 2, 1, 0] rfl)
    · subst hr
      try dsimp only at h
      try dsimp only at hw
      try dsimp only at hl
      exact w_X7_settle_82 C ht0 hx hP hE0 hw (lv_sub hl [0, 1, 2] rfl) h
set_option maxRecDepth 20000 in
theorem c_X7_settle {l : Launch} {D : va_G} {cy : Nat → ClassId} {ad : Nat → Nat} (hj : InjW 1 ad) (t0 : Nat) (ht0 : IsO 1 t0 7) (σ : Mem) (r : Mem) (h : f_X7_settle t0 σ = some r) : CV 1 D cy ad l yX7_settle cX7_settle 6 none 1 [.ref (ad (t0))] σ r := by
  refine CV.mk (by decide) hj (Nat.le_of_ble_eq_true rfl) (fun p e R s m below meth c ls C hw hl => ?_)
  have hl : lv_has ls 6 [(0, .ref (ad (t0)))] := hl
  generalize ([.ref (ad (t0))] : List Value).toArray = args at C ⊢
  have C : Cx 1 D cy ad p R s m args meth c cX7_settle 6 RX7 none 1 := C
  unfold f_X7_settle at h
  refine lv_aload_n C.1 C.2.1 dX7_settle_0 rfl (lv_at hl 0 rfl) ?_
  refine gf_X7_24 C hw ht0 dX7_settle_1 ?_
  refine lv_iconst (v := (1 : Int32)) C.1 C.2.1 dX7_settle_4 (by decide) ?_
  refine lv_isub C.1 C.2.1 dX7_settle_5 ?_
  obtain ⟨x1, ex1, h⟩ := lt_of h
  refine m_topi ex1 ?_
  refine lv_istore_n (lv' := [(1, .int _), (0, .ref _)]) C.1 C.2.1 dX7_settle_6 rfl hl (by decide) rfl (fun ls hl => ?_)
  obtain ⟨r11, hL, h⟩ := bS h
  refine w_X7_settle_7 C ht0  hL (fun y0 hr H locs ls hw hl => ?_) _ _ _ hw (lv_sub hl [1, 0] rfl)
  · subst hr
    try dsimp only at h
    try dsimp only at hw
    try dsimp only at hl
    refine lv_aload_n C.1 C.2.1 dX7_settle_95 rfl (lv_at hl 0 rfl) ?_
    refine gf_X7_18 C hw ht0 dX7_settle_96 ?_
    refine lv_iconst (v := (0 : Int32)) C.1 C.2.1 dX7_settle_99 (by decide) ?_
    refine lv_bipush (v := (-9 : Int32)) C.1 C.2.1 dX7_settle_100 (by decide) ?_
    have hin : vp_in (0 : Int32) 31 := (by decide : ix (0 : Int32) 31)
    refine m_iast C hw (treeA2 ht0) hin dX7_settle_102 (fun H locs hw => ?_)
    obtain ⟨σ12, eσ12, h⟩ := lt_of h
    rw [← eσ12] at hw
    exact m_vret C hw (Option.some.inj h) dX7_settle_103
noncomputable def j_X7_read_102 (t0 : Nat) (v2 : Int32) (v3 : Int32) (σ : Mem) : Option ((Int32 × Int32 × Mem) ⊕ ((Int32 × Mem) ⊕ (Int32 × Mem))) :=
  lt (v3 + (1 : Int32)) (fun x7 => some (.inl (v2, x7, σ)))
noncomputable def b_X7_read_9 (t0 : Nat) (v2 : Int32) (v3 : Int32) (σ : Mem) : Option ((Int32 × Int32 × Mem) ⊕ ((Int32 × Mem) ⊕ (Int32 × Mem))) :=
  if (σ.1 1 1) ≤ v3 then (some (.inr (.inr (v2, σ)))) else ((f_X6_byteAt v3 σ).bind (fun r2 => if r2 = (32 : Int32) then (j_X7_read_102 t0 v2 v3 σ) else (lt (r2 - (97 : Int32)) (fun x3 => if x3 < 0 then (some (.inr (.inl (v3, σ)))) else (if (8 : Int32) ≤ x3 then (some (.inr (.inl (v3, σ)))) else (if v2 = 0 then (some (.inr (.inl (v3, σ)))) else (if (σ.1 t0 4) < (31 : Int32) then (gd (ix (σ.1 t0 4) 31) (lt (sI σ (t0 + 1) (σ.1 t0 4).toNatClampNeg x3) (fun σ4 => lt (sI σ4 t0 4 ((σ4.1 t0 4) + (1 : Int32))) (fun σ5 => lt (v2 + ((f_X8_armsOf x3) - (1 : Int32))) (fun x6 => j_X7_read_102 t0 x6 v3 σ5))))) else (some (.inr (.inl (v3, σ)))))))))))
noncomputable def j_X7_read_66 (t0 : Nat) (v3 : Int32) (σ : Mem) : Option (Int32 × Mem) :=
  some ((-10 : Int32) - v3, σ)
noncomputable def f_X7_read (t0 : Nat) (σ : Mem) : Option (Int32 × Mem) :=
  lt (sI σ t0 4 (0 : Int32)) (fun σ1 => (Lim (T := ((Int32 × Mem) ⊕ (Int32 × Mem))) (fun s => b_X7_read_9 t0 s.1 s.2.1 s.2.2) ((1 : Int32), (0 : Int32), σ1)).bind (fun r8 => (match r8 with | .inl r8_0 => (j_X7_read_66 t0 r8_0.1 r8_0.2) | .inr r8_1 => (if r8_1.1 ≤ 0 then ((f_X7_settle t0 r8_1.2).bind (fun r9 => some (r9.1 t0 4, r9))) else (some ((-10 : Int32) - (r8_1.2.1 1 1), r8_1.2))))))
set_option maxRecDepth 20000 in
theorem w_X7_read_102 {D : va_G} {cy : Nat → ClassId} {ad : Nat → Nat} {p : Program} {l : Launch} {e : Env} {R : Room} {s : State} {m : MethodId} {args : Array Value} {below : List Frame} {meth : Method} {c : Code} (C : Cx 1 D cy ad p R s m args meth c cX7_read 6 RX7 (some .int) 2) {t0 : Nat} (ht0 : IsO 1 t0 7) {v2 : Int32} {v3 : Int32}  {σ : Mem} {H : Heap} {locs : List Loc} {ls : Array Slot} {Q : State → Prop} {P : (Int32 × Int32 × Mem) → Prop} {r : ((Int32 × Mem) ⊕ (Int32 × Mem))} {x : (Int32 × Int32 × Mem) ⊕ ((Int32 × Mem) ⊕ (Int32 × Mem))} (hx : LimQ P r x) (hP : ∀ u, P u → ∀ (H : Heap) (locs : List Loc) (ls : Array Slot), Wd 1 D cy ad s u.2.2 H locs → lv_has ls 6 [(0, .ref (ad (t0))), (1, .ref (ad (1))), (2, .int u.1), (3, .int u.2.1)] → W p l e R s m args below meth c H locs 0 0 Q (F0 m 9 ls [])) (hE0 : ∀ (v3 : Int32) (σ1 : Mem), (.inl (v3, σ1) : ((Int32 × Mem) ⊕ (Int32 × Mem))) = r → ∀ (H : Heap) (locs : List Loc) (ls : Array Slot), Wd 1 D cy ad s σ1 H locs → lv_has ls 6 [(3, .int v3)] → W p l e R s m args below meth c H locs 0 0 Q (F0 m 66 ls [])) (hE1 : ∀ (v2 : Int32) (σ1 : Mem), (.inr (v2, σ1) : ((Int32 × Mem) ⊕ (Int32 × Mem))) = r → ∀ (H : Heap) (locs : List Loc) (ls : Array Slot), Wd 1 D cy ad s σ1 H locs → lv_has ls 6 [(0, .ref (ad (t0))), (1, .ref (ad (1))), (2, .int v2)] → W p l e R s m args below meth c H locs 0 0 Q (F0 m 108 ls [])) (hw : Wd 1 D cy ad s σ H locs) (hl : lv_has ls 6 [(0, .ref (ad (t0))), (1, .ref (ad (1))), (2, .int v2), (3, .int v3)]) (h : j_X7_read_102 t0 v2 v3 σ = some x) : W p l e R s m args below meth c H locs 0 0 Q (F0 m 102 ls []) := by
  unfold j_X7_read_102 at h
  obtain ⟨x7, ex7, h⟩ := lt_of h
  refine m_iinc (k := 3) (lv' := [(3, .int _), (0, .ref _), (1, .ref _), (2, .int _)]) C (1 : Int32) (by decide) dX7_read_102 hl rfl ex7.symm (by decide) rfl (fun ls hl => ?_)
  refine lv_goto (tgt := 9) C.1 C.2.1 dX7_read_105 (by decide) ?_
  obtain rfl := Option.some.inj h
  exact hP _ hx _ _ _ hw (lv_sub hl [1, 2, 3, 0] rfl)
set_option maxRecDepth 20000 in
theorem w_X7_read_9 {D : va_G} {cy : Nat → ClassId} {ad : Nat → Nat} {p : Program} {l : Launch} {e : Env} {R : Room} {s : State} {m : MethodId} {args : Array Value} {below : List Frame} {meth : Method} {c : Code} (C : Cx 1 D cy ad p R s m args meth c cX7_read 6 RX7 (some .int) 2) {t0 : Nat} (ht0 : IsO 1 t0 7) {v2 : Int32} {v3 : Int32} {σ : Mem} {Q : State → Prop} {r : ((Int32 × Mem) ⊕ (Int32 × Mem))} (hL : Lim (T := ((Int32 × Mem) ⊕ (Int32 × Mem))) (fun s => b_X7_read_9 t0 s.1 s.2.1 s.2.2) (v2, v3, σ) = some r) (hE0 : ∀ (v3 : Int32) (σ1 : Mem), (.inl (v3, σ1) : ((Int32 × Mem) ⊕ (Int32 × Mem))) = r → ∀ (H : Heap) (locs : List Loc) (ls : Array Slot), Wd 1 D cy ad s σ1 H locs → lv_has ls 6 [(3, .int v3)] → W p l e R s m args below meth c H locs 0 0 Q (F0 m 66 ls [])) (hE1 : ∀ (v2 : Int32) (σ1 : Mem), (.inr (v2, σ1) : ((Int32 × Mem) ⊕ (Int32 × Mem))) = r → ∀ (H : Heap) (locs : List Loc) (ls : Array Slot), Wd 1 D cy ad s σ1 H locs → lv_has ls 6 [(0, .ref (ad (t0))), (1, .ref (ad (1))), (2, .int v2)] → W p l e R s m args below meth c H locs 0 0 Q (F0 m 108 ls [])) (H : Heap) (locs : List Loc) (ls : Array Slot) (hw : Wd 1 D cy ad s σ H locs) (hl : lv_has ls 6 [(0, .ref (ad (t0))), (1, .ref (ad (1))), (2, .int v2), (3, .int v3)]) : W p l e R s m args below meth c H locs 0 0 Q (F0 m 9 ls []) := by
  refine Lim_ind hL (P := fun u => ∀ (H : Heap) (locs : List Loc) (ls : Array Slot), Wd 1 D cy ad s u.2.2 H locs → lv_has ls 6 [(0, .ref (ad (t0))), (1, .ref (ad (1))), (2, .int u.1), (3, .int u.2.1)] → W p l e R s m args below meth c H locs 0 0 Q (F0 m 9 ls [])) (fun u x h hx H locs ls hw hl => ?_) H locs ls hw hl
  clear hL
  obtain ⟨v2, v3, σ⟩ := u
  have h : b_X7_read_9 t0 v2 v3 σ = some x := h
  have hw : Wd 1 D cy ad s σ H locs := hw
  have hl : lv_has ls 6 [(0, .ref (ad (t0))), (1, .ref (ad (1))), (2, .int v2), (3, .int v3)] := hl
  have hP : ∀ (u : (Int32 × Int32 × Mem)), (∀ (H : Heap) (locs : List Loc) (ls : Array Slot), Wd 1 D cy ad s u.2.2 H locs → lv_has ls 6 [(0, .ref (ad (t0))), (1, .ref (ad (1))), (2, .int u.1), (3, .int u.2.1)] → W p l e R s m args below meth c H locs 0 0 Q (F0 m 9 ls [])) → ∀ (H : Heap) (locs : List Loc) (ls : Array Slot), Wd 1 D cy ad s u.2.2 H locs → lv_has ls 6 [(0, .ref (ad (t0))), (1, .ref (ad (1))), (2, .int u.1), (3, .int u.2.1)] → W p l e R s m args below meth c H locs 0 0 Q (F0 m 9 ls []) := fun _ k => k
  unfold b_X7_read_9 at h
  refine lv_iload_n C.1 C.2.1 dX7_read_9 rfl (lv_at hl 3 rfl) ?_
  refine lv_aload_n C.1 C.2.1 dX7_read_10 rfl (lv_at hl 1 rfl) ?_
  refine gf_X7_28 C hw dX7_read_11 ?_
  refine lv_icmp_ge (tgt := 108) C.1 C.2.1 dX7_read_14 (by decide) (fun cd => ?_) (fun cd => ?_)
  · have h := ite_t cd h
    obtain rfl := Option.some.inj h
    exact hE1 _ _ hx _ _ _ hw (lv_sub hl [0, 1, 2] rfl)
  · have h := ite_f cd h
    refine lv_aload_n C.1 C.2.1 dX7_read_17 rfl (lv_at hl 1 rfl) ?_
    refine lv_iload_n C.1 C.2.1 dX7_read_18 rfl (lv_at hl 3 rfl) ?_
    obtain ⟨r2, h1, h⟩ := bS h
    refine go_I hw (run_V (As := [.int _]) C hw (c_X6_byteAt C.2.2.2.2.2.2.2.2.2 _ _ _ h1) mi_X6_byteAt mv_X6_byteAt o1_1 (ci := 6) rfl rfl lk_X7_33 (by decide) (by decide) rfl hl.1 rfl (Nat.le_of_ble_eq_true rfl) dX7_read_19 ⟨Nat.le_refl 0, Nat.le_refl 0⟩) (fun H locs hw => ?_)
    refine lv_istore (lv' := [(4, .int _), (0, .ref _), (1, .ref _), (2, .int _), (3, .int _)]) C.1 C.2.1 dX7_read_22 hl (by decide) rfl (fun ls hl => ?_)
    refine lv_iload C.1 C.2.1 dX7_read_24 (lv_at hl 0 rfl) ?_
    refine lv_bipush (v := (32 : Int32)) C.1 C.2.1 dX7_read_26 (by decide) ?_
    refine lv_icmp_ne (tgt := 34) C.1 C.2.1 dX7_read_28 (by decide) (fun cd => ?_) (fun cd => ?_)
    · have h := ite_f cd h
      refine lv_iload C.1 C.2.1 dX7_read_34 (lv_at hl 0 rfl) ?_
      refine lv_bipush (v := (97 : Int32)) C.1 C.2.1 dX7_read_36 (by decide) ?_
      refine lv_isub C.1 C.2.1 dX7_read_38 ?_
      obtain ⟨x3, ex3, h⟩ := lt_of h
      refine m_topi ex3 ?_
      refine lv_istore (lv' := [(5, .int _), (4, .int _), (0, .ref _), (1, .ref _), (2, .int _), (3, .int _)]) C.1 C.2.1 dX7_read_39 hl (by decide) rfl (fun ls hl => ?_)
      refine lv_iload C.1 C.2.1 dX7_read_41 (lv_at hl 0 rfl) ?_
      refine lv_if_lt (tgt := 66) C.1 C.2.1 dX7_read_43 (by decide) (fun cd => ?_) (fun cd => ?_)
      · have h := ite_t cd h
        obtain rfl := Option.some.inj h
        exact hE0 _ _ hx _ _ _ hw (lv_sub hl [5] rfl)
      · have h := ite_f cd h
        refine lv_iload C.1 C.2.1 dX7_read_46 (lv_at hl 0 rfl) ?_
        refine lv_bipush (v := (8 : Int32)) C.1 C.2.1 dX7_read_48 (by decide) ?_
        refine lv_icmp_ge (tgt := 66) C.1 C.2.1 dX7_read_50 (by decide) (fun cd => ?_) (fun cd => ?_)
        · have h := ite_t cd h
          obtain rfl := Option.some.inj h
          exact hE0 _ _ hx _ _ _ hw (lv_sub hl [5] rfl)
        · have h := ite_f cd h
          refine lv_iload_n C.1 C.2.1 dX7_read_53 rfl (lv_at hl 4 rfl) ?_
          refine lv_if_eq (tgt := 66) C.1 C.2.1 dX7_read_54 (by decide) (fun cd => ?_) (fun cd => ?_)
          · have h := ite_t cd h
            obtain rfl := Option.some.inj h
            exact hE0 _ _ hx _ _ _ hw (lv_sub hl [5] rfl)
          · have h := ite_f cd h
            refine lv_aload_n C.1 C.2.1 dX7_read_57 rfl (lv_at hl 2 rfl) ?_
            refine gf_X7_24 C hw ht0 dX7_read_58 ?_
            refine lv_bipush (v := (31 : Int32)) C.1 C.2.1 dX7_read_61 (by decide) ?_
            refine lv_icmp_lt (tgt := 71) C.1 C.2.1 dX7_read_63 (by decide) (fun cd => ?_) (fun cd => ?_)
            · have h := ite_t cd h
              refine lv_aload_n C.1 C.2.1 dX7_read_71 rfl (lv_at hl 2 rfl) ?_
              refine gf_X7_9 C hw ht0 dX7_read_72 ?_
              refine lv_aload_n C.1 C.2.1 dX7_read_75 rfl (lv_at hl 2 rfl) ?_
              refine gf_X7_24 C hw ht0 dX7_read_76 ?_
              refine lv_iload C.1 C.2.1 dX7_read_79 (lv_at hl 0 rfl) ?_
              obtain ⟨hin, h⟩ := gd_of h
              refine m_iast C hw (treeA0 ht0) hin dX7_read_81 (fun H locs hw => ?_)
              obtain ⟨σ4, eσ4, h⟩ := lt_of h
              rw [← eσ4] at hw
              refine lv_aload_n C.1 C.2.1 dX7_read_82 rfl (lv_at hl 2 rfl) ?_
              refine lv_dup C.1 C.2.1 dX7_read_83 rfl ?_
              refine gf_X7_24 C hw ht0 dX7_read_84 ?_
              refine lv_iconst (v := (1 : Int32)) C.1 C.2.1 dX7_read_87 (by decide) ?_
              refine lv_iadd C.1 C.2.1 dX7_read_88 ?_
              refine pf_X7_24 C hw ht0 dX7_read_89 (fun H locs hw => ?_)
              obtain ⟨σ5, eσ5, h⟩ := lt_of h
              rw [← eσ5] at hw
              refine lv_iload_n C.1 C.2.1 dX7_read_92 rfl (lv_at hl 4 rfl) ?_
              refine lv_iload C.1 C.2.1 dX7_read_93 (lv_at hl 0 rfl) ?_
              refine go_I hw (run_SN (As := [.int _]) C hw (c_X8_armsOf C.2.2.2.2.2.2.2.2.2 _ _) mi_X8_armsOf ms_X8_armsOf lk_X7_37 (by decide) (by decide) rfl hl.1 rfl (Nat.le_of_ble_eq_true rfl) dX7_read_95 ⟨Nat.le_refl 0, Nat.le_refl 0⟩) (fun H locs hw => ?_)
              refine lv_iconst (v := (1 : Int32)) C.1 C.2.1 dX7_read_98 (by decide) ?_
              refine lv_isub C.1 C.2.1 dX7_read_99 ?_
              refine lv_iadd C.1 C.2.1 dX7_read_100 ?_
              obtain ⟨x6, ex6, h⟩ := lt_of h
              refine m_topi ex6 ?_
              refine lv_istore_n (lv' := [(2, .int _), (5, .int _), (4, .int _), (0, .ref _), (1, .ref _), (3, .int _)]) C.1 C.2.1 dX7_read_101 rfl hl (by decide) rfl (fun ls hl => ?_)
              exact w_X7_read_102 C ht0 hx hP hE0 hE1 hw (lv_sub hl [3, 4, 0, 5] rfl) h
            · have h := ite_f cd h
              obtain rfl := Option.some.inj h
              exact hE0 _ _ hx _ _ _ hw (lv_sub hl [5] rfl)
    · have h := ite_t cd h
      refine lv_goto (tgt := 102) C.1 C.2.1 dX7_read_31 (by decide) ?_
      exact w_X7_read_102 C ht0 hx hP hE0 hE1 hw (lv_sub hl [1, 2, 3, 4] rfl) h
set_option maxRecDepth 20000 in
theorem w_X7_read_66 {D : va_G} {cy : Nat → ClassId} {ad : Nat → Nat} {p : Program} {l : Launch} {e : Env} {R : Room} {s : State} {m : MethodId} {args : Array Value} {below : List Frame} {meth : Method} {c : Code} (C : Cx 1 D cy ad p R s m args meth c cX7_read 6 RX7 (some .int) 2) {t0 : Nat} (ht0 : IsO 1 t0 7) {v3 : Int32}  {σ : Mem} {H : Heap} {locs : List Loc} {ls : Array Slot} {r : (Int32 × Mem)} (hw : Wd 1 D cy ad s σ H locs) (hl : lv_has ls 6 [(3, .int v3)]) (h : j_X7_read_66 t0 v3 σ = some r) : W p l e R s m args below meth c H locs 0 0 (QI 1 D cy ad below args s r.1 r.2) (F0 m 66 ls []) := by
  unfold j_X7_read_66 at h
  refine lv_bipush (v := (-10 : Int32)) C.1 C.2.1 dX7_read_66 (by decide) ?_
  refine lv_iload_n C.1 C.2.1 dX7_read_68 rfl (lv_at hl 0 rfl) ?_
  refine lv_isub C.1 C.2.1 dX7_read_69 ?_
  exact m_iret C hw (ret_p h) dX7_read_70
set_option maxRecDepth 20000 in
theorem c_X7_read {l : Launch} {D : va_G} {cy : Nat → ClassId} {ad : Nat → Nat} (hj : InjW 1 ad) (t0 : Nat) (ht0 : IsO 1 t0 7) (σ : Mem) (r : (Int32 × Mem)) (h : f_X7_read t0 σ = some r) : CI 1 D cy ad l yX7_read cX7_read 6 (some .int) 2 [.ref (ad (t0)), .ref (ad (1))] σ r.1 r.2 := by
  refine CI.mk (by decide) hj (Nat.le_of_ble_eq_true rfl) (fun p e R s m below meth c ls C hw hl => ?_)
  have hl : lv_has ls 6 [(0, .ref (ad (t0))), (1, .ref (ad (1)))] := hl
  generalize ([.ref (ad (t0)), .ref (ad (1))] : List Value).toArray = args at C ⊢
  have C : Cx 1 D cy ad p R s m args meth c cX7_read 6 RX7 (some .int) 2 := C
  unfold f_X7_read at h
  refine lv_aload_n C.1 C.2.1 dX7_read_0 rfl (lv_at hl 0 rfl) ?_
  refine lv_iconst (v := (0 : Int32)) C.1 C.2.1 dX7_read_1 (by decide) ?_
  refine pf_X7_24 C hw ht0 dX7_read_2 (fun H locs hw => ?_)
  obtain ⟨σ1, eσ1, h⟩ := lt_of h
  rw [← eσ1] at hw
  refine lv_iconst (v := (1 : Int32)) C.1 C.2.1 dX7_read_5 (by decide) ?_
  refine lv_istore_n (lv' := [(2, .int _), (0, .ref _), (1, .ref _)]) C.1 C.2.1 dX7_read_6 rfl hl (by decide) rfl (fun ls hl => ?_)
  refine lv_iconst (v := (0 : Int32)) C.1 C.2.1 dX7_read_7 (by decide) ?_
  refine lv_istore_n (lv' := [(3, .int _), (2, .int _), (0, .ref _), (1, .ref _)]) C.1 C.2.1 dX7_read_8 rfl hl (by decide) rfl (fun ls hl => ?_)
  obtain ⟨r8, hL, h⟩ := bS h
  refine w_X7_read_9 C ht0  hL (fun y0 y1 hr H locs ls hw hl => ?_) (fun y0 y1 hr H locs ls hw hl => ?_) _ _ _ hw (lv_sub hl [2, 3, 1, 0] rfl)
  · subst hr
    try dsimp only at h
    try dsimp only at hw
    try dsimp only at hl
    exact w_X7_read_66 C ht0 hw (lv_sub hl [0] rfl) h
  · subst hr
    try dsimp only at h
    try dsimp only at hw
    try dsimp only at hl
    refine lv_iload_n C.1 C.2.1 dX7_read_108 rfl (lv_at hl 2 rfl) ?_
    refine lv_if_le (tgt := 120) C.1 C.2.1 dX7_read_109 (by decide) (fun cd => ?_) (fun cd => ?_)
    · have h := ite_t cd h
      refine lv_aload_n C.1 C.2.1 dX7_read_120 rfl (lv_at hl 0 rfl) ?_
      obtain ⟨r9, h1, h⟩ := bS h
      refine go_V hw (run_V (As := []) C hw (c_X7_settle C.2.2.2.2.2.2.2.2.2 _ ht0 _ _ h1) mi_X7_settle mv_X7_settle ht0 (ci := 7) rfl rfl lk_X7_40 (by decide) (by decide) rfl hl.1 rfl (Nat.le_of_ble_eq_true rfl) dX7_read_121 ⟨Nat.le_refl 0, Nat.le_refl 0⟩) (fun H locs hw => ?_)
      refine lv_aload_n C.1 C.2.1 dX7_read_124 rfl (lv_at hl 0 rfl) ?_
      refine gf_X7_24 C hw ht0 dX7_read_125 ?_
      exact m_iret C hw (ret_p h) dX7_read_128
    · have h := ite_f cd h
      refine lv_bipush (v := (-10 : Int32)) C.1 C.2.1 dX7_read_112 (by decide) ?_
      refine lv_aload_n C.1 C.2.1 dX7_read_114 rfl (lv_at hl 1 rfl) ?_
      refine gf_X7_28 C hw dX7_read_115 ?_
      refine lv_isub C.1 C.2.1 dX7_read_118 ?_
      exact m_iret C hw (ret_p h) dX7_read_119
noncomputable def b_X7_swapArms_26 (t0 : Nat) (a1 : Int32) (v2 : Int32) (v3 : Int32) (v4 : Int32) (v5 : Int32) (v6 : Int32) (σ : Mem) : Option ((Int32 × Int32 × Int32 × Int32 × Int32 × Mem) ⊕ (Int32 × Int32 × Int32 × Mem)) :=
  if v4 ≤ v6 then (some (.inr (v2, v3, v5, σ))) else (if (f_X7_has t0 v6 σ) = 0 then (some (.inr (v2, v3, v5, σ))) else (gd (ix v6 31) (gd (ix v5 31) (lt (sI σ (t0 + 4) v5.toNatClampNeg (σ.1 (t0 + 1) v6.toNatClampNeg)) (fun σ4 => lt (v5 + (1 : Int32)) (fun x5 => lt (v6 + (1 : Int32)) (fun x6 => some (.inl (v2, v3, v4, x5, x6, σ4)))))))))
noncomputable def b_X7_swapArms_68 (t0 : Nat) (a1 : Int32) (v2 : Int32) (v3 : Int32) (v5 : Int32) (v6 : Int32) (σ : Mem) : Option ((Int32 × Int32 × Int32 × Int32 × Mem) ⊕ (Int32 × Int32 × Mem)) :=
  if v3 ≤ v6 then (some (.inr (v2, v5, σ))) else (if (f_X7_has t0 v6 σ) = 0 then (some (.inr (v2, v5, σ))) else (gd (ix v6 31) (gd (ix v5 31) (lt (sI σ (t0 + 4) v5.toNatClampNeg (σ.1 (t0 + 1) v6.toNatClampNeg)) (fun σ8 => lt (v5 + (1 : Int32)) (fun x9 => lt (v6 + (1 : Int32)) (fun x10 => some (.inl (v2, v3, x9, x10, σ8)))))))))
noncomputable def b_X7_swapArms_109 (t0 : Nat) (a1 : Int32) (v2 : Int32) (v5 : Int32) (v6 : Int32) (σ : Mem) : Option ((Int32 × Int32 × Int32 × Mem) ⊕ Mem) :=
  if v5 ≤ v6 then (some (.inr σ)) else (if (f_X7_has t0 (v2 + v6) σ) = 0 then (some (.inr σ)) else (gd (ix v6 31) (gd (ix (v2 + v6) 31) (lt (sI σ (t0 + 1) (v2 + v6).toNatClampNeg (σ.1 (t0 + 4) v6.toNatClampNeg)) (fun σ12 => lt (v6 + (1 : Int32)) (fun x13 => some (.inl (v2, v5, x13, σ12))))))))
noncomputable def j_X7_swapArms_149 (t0 : Nat) (a1 : Int32) (σ : Mem) : Option Mem :=
  (f_X7_settle t0 σ).bind (fun r15 => some r15)
noncomputable def j_X7_swapArms_106 (t0 : Nat) (a1 : Int32) (v2 : Int32) (v5 : Int32) (σ : Mem) : Option Mem :=
  (Lim (T := Mem) (fun s => b_X7_swapArms_109 t0 a1 s.1 s.2.1 s.2.2.1 s.2.2.2) (v2, v5, (0 : Int32), σ)).bind (fun r14 => j_X7_swapArms_149 t0 a1 r14)
noncomputable def j_X7_swapArms_65 (t0 : Nat) (a1 : Int32) (v2 : Int32) (v3 : Int32) (v5 : Int32) (σ : Mem) : Option Mem :=
  (Lim (T := (Int32 × Int32 × Mem)) (fun s => b_X7_swapArms_68 t0 a1 s.1 s.2.1 s.2.2.1 s.2.2.2.1 s.2.2.2.2) (v2, v3, v5, v2, σ)).bind (fun r11 => j_X7_swapArms_106 t0 a1 r11.1 r11.2.1 r11.2.2)
noncomputable def f_X7_swapArms (t0 : Nat) (a1 : Int32) (σ : Mem) : Option Mem :=
  lt (a1 + (1 : Int32)) (fun x1 => (f_X7_secondArm t0 a1 σ).bind (fun r2 => gd (ix a1 31) (lt (a1 + (σ.1 (t0 + 2) a1.toNatClampNeg)) (fun x3 => (Lim (T := (Int32 × Int32 × Int32 × Mem)) (fun s => b_X7_swapArms_26 t0 a1 s.1 s.2.1 s.2.2.1 s.2.2.2.1 s.2.2.2.2.1 s.2.2.2.2.2) (x1, r2, x3, (0 : Int32), r2, σ)).bind (fun r7 => j_X7_swapArms_65 t0 a1 r7.1 r7.2.1 r7.2.2.1 r7.2.2.2)))))
set_option maxRecDepth 20000 in
theorem w_X7_swapArms_26 {D : va_G} {cy : Nat → ClassId} {ad : Nat → Nat} {p : Program} {l : Launch} {e : Env} {R : Room} {s : State} {m : MethodId} {args : Array Value} {below : List Frame} {meth : Method} {c : Code} (C : Cx 1 D cy ad p R s m args meth c cX7_swapArms 7 RX7 none 2) {t0 : Nat} {a1 : Int32} (ht0 : IsO 1 t0 7) {v2 : Int32} {v3 : Int32} {v4 : Int32} {v5 : Int32} {v6 : Int32} {σ : Mem} {Q : State → Prop} {r : (Int32 × Int32 × Int32 × Mem)} (hL : Lim (T := (Int32 × Int32 × Int32 × Mem)) (fun s => b_X7_swapArms_26 t0 a1 s.1 s.2.1 s.2.2.1 s.2.2.2.1 s.2.2.2.2.1 s.2.2.2.2.2) (v2, v3, v4, v5, v6, σ) = some r) (hE0 : ∀ (v2 : Int32) (v3 : Int32) (v5 : Int32) (σ1 : Mem), ((v2, v3, v5, σ1) : (Int32 × Int32 × Int32 × Mem)) = r → ∀ (H : Heap) (locs : List Loc) (ls : Array Slot), Wd 1 D cy ad s σ1 H locs → lv_has ls 7 [(0, .ref (ad (t0))), (2, .int v2), (3, .int v3), (5, .int v5)] → W p l e R s m args below meth c H locs 0 0 Q (F0 m 65 ls [])) (H : Heap) (locs : List Loc) (ls : Array Slot) (hw : Wd 1 D cy ad s σ H locs) (hl : lv_has ls 7 [(0, .ref (ad (t0))), (2, .int v2), (3, .int v3), (4, .int v4), (5, .int v5), (6, .int v6)]) : W p l e R s m args below meth c H locs 0 0 Q (F0 m 26 ls []) := by
  refine Lim_ind hL (P := fun u => ∀ (H : Heap) (locs : List Loc) (ls : Array Slot), Wd 1 D cy ad s u.2.2.2.2.2 H locs → lv_has ls 7 [(0, .ref (ad (t0))), (2, .int u.1), (3, .int u.2.1), (4, .int u.2.2.1), (5, .int u.2.2.2.1), (6, .int u.2.2.2.2.1)] → W p l e R s m args below meth c H locs 0 0 Q (F0 m 26 ls [])) (fun u x h hx H locs ls hw hl => ?_) H locs ls hw hl
  clear hL
  obtain ⟨v2, v3, v4, v5, v6, σ⟩ := u
  have h : b_X7_swapArms_26 t0 a1 v2 v3 v4 v5 v6 σ = some x := h
  have hw : Wd 1 D cy ad s σ H locs := hw
  have hl : lv_has ls 7 [(0, .ref (ad (t0))), (2, .int v2), (3, .int v3), (4, .int v4), (5, .int v5), (6, .int v6)] := hl
  have hP : ∀ (u : (Int32 × Int32 × Int32 × Int32 × Int32 × Mem)), (∀ (H : Heap) (locs : List Loc) (ls : Array Slot), Wd 1 D cy ad s u.2.2.2.2.2 H locs → lv_has ls 7 [(0, .ref (ad (t0))), (2, .int u.1), (3, .int u.2.1), (4, .int u.2.2.1), (5, .int u.2.2.2.1), (6, .int u.2.2.2.2.1)] → W p l e R s m args below meth c H locs 0 0 Q (F0 m 26 ls [])) → ∀ (H : Heap) (locs : List Loc) (ls : Array Slot), Wd 1 D cy ad s u.2.2.2.2.2 H locs → lv_has ls 7 [(0, .ref (ad (t0))), (2, .int u.1), (3, .int u.2.1), (4, .int u.2.2.1), (5, .int u.2.2.2.1), (6, .int u.2.2.2.2.1)] → W p l e R s m args below meth c H locs 0 0 Q (F0 m 26 ls []) := fun _ k => k
  unfold b_X7_swapArms_26 at h
  refine lv_iload C.1 C.2.1 dX7_swapArms_26 (lv_at hl 5 rfl) ?_
  refine lv_iload C.1 C.2.1 dX7_swapArms_28 (lv_at hl 3 rfl) ?_
  refine lv_icmp_ge (tgt := 65) C.1 C.2.1 dX7_swapArms_30 (by decide) (fun cd => ?_) (fun cd => ?_)
  · have h := ite_t cd h
    obtain rfl := Option.some.inj h
    exact hE0 _ _ _ _ hx _ _ _ hw (lv_sub hl [0, 1, 2, 4] rfl)
  · have h := ite_f cd h
    refine lv_aload_n C.1 C.2.1 dX7_swapArms_33 rfl (lv_at hl 0 rfl) ?_
    refine lv_iload C.1 C.2.1 dX7_swapArms_34 (lv_at hl 5 rfl) ?_
    refine go_I hw (run_V (As := [.int _]) C hw (c_X7_has C.2.2.2.2.2.2.2.2.2 _ _ ht0 _) mi_X7_has mv_X7_has ht0 (ci := 7) rfl rfl lk_X7_43 (by decide) (by decide) rfl hl.1 rfl (Nat.le_of_ble_eq_true rfl) dX7_swapArms_36 ⟨Nat.le_refl 0, Nat.le_refl 0⟩) (fun H locs hw => ?_)
    refine lv_if_eq (tgt := 65) C.1 C.2.1 dX7_swapArms_39 (by decide) (fun cd => ?_) (fun cd => ?_)
    · have h := ite_t cd h
      obtain rfl := Option.some.inj h
      exact hE0 _ _ _ _ hx _ _ _ hw (lv_sub hl [0, 1, 2, 4] rfl)
    · have h := ite_f cd h
      refine lv_aload_n C.1 C.2.1 dX7_swapArms_42 rfl (lv_at hl 0 rfl) ?_
      refine gf_X7_21 C hw ht0 dX7_swapArms_43 ?_
      refine lv_iload C.1 C.2.1 dX7_swapArms_46 (lv_at hl 4 rfl) ?_
      refine lv_aload_n C.1 C.2.1 dX7_swapArms_48 rfl (lv_at hl 0 rfl) ?_
      refine gf_X7_9 C hw ht0 dX7_swapArms_49 ?_
      refine lv_iload C.1 C.2.1 dX7_swapArms_52 (lv_at hl 5 rfl) ?_
      obtain ⟨hin, h⟩ := gd_of h
      refine m_iald C hw (treeA0 ht0) hin dX7_swapArms_54 ?_
      obtain ⟨hin, h⟩ := gd_of h
      refine m_iast C hw (treeA3 ht0) hin dX7_swapArms_55 (fun H locs hw => ?_)
      obtain ⟨σ4, eσ4, h⟩ := lt_of h
      rw [← eσ4] at hw
      obtain ⟨x5, ex5, h⟩ := lt_of h
      refine m_iinc (k := 4) (lv' := [(5, .int _), (0, .ref _), (2, .int _), (3, .int _), (4, .int _), (6, .int _)]) C (1 : Int32) (by decide) dX7_swapArms_56 hl rfl ex5.symm (by decide) rfl (fun ls hl => ?_)
      obtain ⟨x6, ex6, h⟩ := lt_of h
      refine m_iinc (k := 5) (lv' := [(6, .int _), (5, .int _), (0, .ref _), (2, .int _), (3, .int _), (4, .int _)]) C (1 : Int32) (by decide) dX7_swapArms_59 hl rfl ex6.symm (by decide) rfl (fun ls hl => ?_)
      refine lv_goto (tgt := 26) C.1 C.2.1 dX7_swapArms_62 (by decide) ?_
      obtain rfl := Option.some.inj h
      exact hP _ hx _ _ _ hw (lv_sub hl [2, 3, 4, 5, 1, 0] rfl)
set_option maxRecDepth 20000 in
theorem w_X7_swapArms_68 {D : va_G} {cy : Nat → ClassId} {ad : Nat → Nat} {p : Program} {l : Launch} {e : Env} {R : Room} {s : State} {m : MethodId} {args : Array Value} {below : List Frame} {meth : Method} {c : Code} (C : Cx 1 D cy ad p R s m args meth c cX7_swapArms 7 RX7 none 2) {t0 : Nat} {a1 : Int32} (ht0 : IsO 1 t0 7) {v2 : Int32} {v3 : Int32} {v5 : Int32} {v6 : Int32} {σ : Mem} {Q : State → Prop} {r : (Int32 × Int32 × Mem)} (hL : Lim (T := (Int32 × Int32 × Mem)) (fun s => b_X7_swapArms_68 t0 a1 s.1 s.2.1 s.2.2.1 s.2.2.2.1 s.2.2.2.2) (v2, v3, v5, v6, σ) = some r) (hE0 : ∀ (v2 : Int32) (v5 : Int32) (σ1 : Mem), ((v2, v5, σ1) : (Int32 × Int32 × Mem)) = r → ∀ (H : Heap) (locs : List Loc) (ls : Array Slot), Wd 1 D cy ad s σ1 H locs → lv_has ls 7 [(0, .ref (ad (t0))), (2, .int v2), (5, .int v5)] → W p l e R s m args below meth c H locs 0 0 Q (F0 m 106 ls [])) (H : Heap) (locs : List Loc) (ls : Array Slot) (hw : Wd 1 D cy ad s σ H locs) (hl : lv_has ls 7 [(0, .ref (ad (t0))), (2, .int v2), (3, .int v3), (5, .int v5), (6, .int v6)]) : W p l e R s m args below meth c H locs 0 0 Q (F0 m 68 ls []) := by
  refine Lim_ind hL (P := fun u => ∀ (H : Heap) (locs : List Loc) (ls : Array Slot), Wd 1 D cy ad s u.2.2.2.2 H locs → lv_has ls 7 [(0, .ref (ad (t0))), (2, .int u.1), (3, .int u.2.1), (5, .int u.2.2.1), (6, .int u.2.2.2.1)] → W p l e R s m args below meth c H locs 0 0 Q (F0 m 68 ls [])) (fun u x h hx H locs ls hw hl => ?_) H locs ls hw hl
  clear hL
  obtain ⟨v2, v3, v5, v6, σ⟩ := u
  have h : b_X7_swapArms_68 t0 a1 v2 v3 v5 v6 σ = some x := h
  have hw : Wd 1 D cy ad s σ H locs := hw
  have hl : lv_has ls 7 [(0, .ref (ad (t0))), (2, .int v2), (3, .int v3), (5, .int v5), (6, .int v6)] := hl
  have hP : ∀ (u : (Int32 × Int32 × Int32 × Int32 × Mem)), (∀ (H : Heap) (locs : List Loc) (ls : Array Slot), Wd 1 D cy ad s u.2.2.2.2 H locs → lv_has ls 7 [(0, .ref (ad (t0))), (2, .int u.1), (3, .int u.2.1), (5, .int u.2.2.1), (6, .int u.2.2.2.1)] → W p l e R s m args below meth c H locs 0 0 Q (F0 m 68 ls [])) → ∀ (H : Heap) (locs : List Loc) (ls : Array Slot), Wd 1 D cy ad s u.2.2.2.2 H locs → lv_has ls 7 [(0, .ref (ad (t0))), (2, .int u.1), (3, .int u.2.1), (5, .int u.2.2.1), (6, .int u.2.2.2.1)] → W p l e R s m args below meth c H locs 0 0 Q (F0 m 68 ls []) := fun _ k => k
  unfold b_X7_swapArms_68 at h
  refine lv_iload C.1 C.2.1 dX7_swapArms_68 (lv_at hl 4 rfl) ?_
  refine lv_iload_n C.1 C.2.1 dX7_swapArms_70 rfl (lv_at hl 2 rfl) ?_
  refine lv_icmp_ge (tgt := 106) C.1 C.2.1 dX7_swapArms_71 (by decide) (fun cd => ?_) (fun cd => ?_)
  · have h := ite_t cd h
    obtain rfl := Option.some.inj h
    exact hE0 _ _ _ hx _ _ _ hw (lv_sub hl [0, 1, 3] rfl)
  · have h := ite_f cd h
    refine lv_aload_n C.1 C.2.1 dX7_swapArms_74 rfl (lv_at hl 0 rfl) ?_
    refine lv_iload C.1 C.2.1 dX7_swapArms_75 (lv_at hl 4 rfl) ?_
    refine go_I hw (run_V (As := [.int _]) C hw (c_X7_has C.2.2.2.2.2.2.2.2.2 _ _ ht0 _) mi_X7_has mv_X7_has ht0 (ci := 7) rfl rfl lk_X7_43 (by decide) (by decide) rfl hl.1 rfl (Nat.le_of_ble_eq_true rfl) dX7_swapArms_77 ⟨Nat.le_refl 0, Nat.le_refl 0⟩) (fun H locs hw => ?_)
    refine lv_if_eq (tgt := 106) C.1 C.2.1 dX7_swapArms_80 (by decide) (fun cd => ?_) (fun cd => ?_)
    · have h := ite_t cd h
      obtain rfl := Option.some.inj h
      exact hE0 _ _ _ hx _ _ _ hw (lv_sub hl [0, 1, 3] rfl)
    · have h := ite_f cd h
      refine lv_aload_n C.1 C.2.1 dX7_swapArms_83 rfl (lv_at hl 0 rfl) ?_
      refine gf_X7_21 C hw ht0 dX7_swapArms_84 ?_
      refine lv_iload C.1 C.2.1 dX7_swapArms_87 (lv_at hl 3 rfl) ?_
      refine lv_aload_n C.1 C.2.1 dX7_swapArms_89 rfl (lv_at hl 0 rfl) ?_
      refine gf_X7_9 C hw ht0 dX7_swapArms_90 ?_
      refine lv_iload C.1 C.2.1 dX7_swapArms_93 (lv_at hl 4 rfl) ?_
      obtain ⟨hin, h⟩ := gd_of h
      refine m_iald C hw (treeA0 ht0) hin dX7_swapArms_95 ?_
      obtain ⟨hin, h⟩ := gd_of h
      refine m_iast C hw (treeA3 ht0) hin dX7_swapArms_96 (fun H locs hw => ?_)
      obtain ⟨σ8, eσ8, h⟩ := lt_of h
      rw [← eσ8] at hw
      obtain ⟨x9, ex9, h⟩ := lt_of h
      refine m_iinc (k := 3) (lv' := [(5, .int _), (0, .ref _), (2, .int _), (3, .int _), (6, .int _)]) C (1 : Int32) (by decide) dX7_swapArms_97 hl rfl ex9.symm (by decide) rfl (fun ls hl => ?_)
      obtain ⟨x10, ex10, h⟩ := lt_of h
      refine m_iinc (k := 4) (lv' := [(6, .int _), (5, .int _), (0, .ref _), (2, .int _), (3, .int _)]) C (1 : Int32) (by decide) dX7_swapArms_100 hl rfl ex10.symm (by decide) rfl (fun ls hl => ?_)
      refine lv_goto (tgt := 68) C.1 C.2.1 dX7_swapArms_103 (by decide) ?_
      obtain rfl := Option.some.inj h
      exact hP _ hx _ _ _ hw (lv_sub hl [2, 3, 4, 1, 0] rfl)
set_option maxRecDepth 20000 in
theorem w_X7_swapArms_109 {D : va_G} {cy : Nat → ClassId} {ad : Nat → Nat} {p : Program} {l : Launch} {e : Env} {R : Room} {s : State} {m : MethodId} {args : Array Value} {below : List Frame} {meth : Method} {c : Code} (C : Cx 1 D cy ad p R s m args meth c cX7_swapArms 7 RX7 none 2) {t0 : Nat} {a1 : Int32} (ht0 : IsO 1 t0 7) {v2 : Int32} {v5 : Int32} {v6 : Int32} {σ : Mem} {Q : State → Prop} {r : Mem} (hL : Lim (T := Mem) (fun s => b_X7_swapArms_109 t0 a1 s.1 s.2.1 s.2.2.1 s.2.2.2) (v2, v5, v6, σ) = some r) (hE0 : ∀ (σ1 : Mem), (σ1 : Mem) = r → ∀ (H : Heap) (locs : List Loc) (ls : Array Slot), Wd 1 D cy ad s σ1 H locs → lv_has ls 7 [(0, .ref (ad (t0)))] → W p l e R s m args below meth c H locs 0 0 Q (F0 m 149 ls [])) (H : Heap) (locs : List Loc) (ls : Array Slot) (hw : Wd 1 D cy ad s σ H locs) (hl : lv_has ls 7 [(0, .ref (ad (t0))), (2, .int v2), (5, .int v5), (6, .int v6)]) : W p l e R s m args below meth c H locs 0 0 Q (F0 m 109 ls []) := by
  refine Lim_ind hL (P := fun u => ∀ (H : Heap) (locs : List Loc) (ls : Array Slot), Wd 1 D cy ad s u.2.2.2 H locs → lv_has ls 7 [(0, .ref (ad (t0))), (2, .int u.1), (5, .int u.2.1), (6, .int u.2.2.1)] → W p l e R s m args below meth c H locs 0 0 Q (F0 m 109 ls [])) (fun u x h hx H locs ls hw hl => ?_) H locs ls hw hl
  clear hL
  obtain ⟨v2, v5, v6, σ⟩ := u
  have h : b_X7_swapArms_109 t0 a1 v2 v5 v6 σ = some x := h
  have hw : Wd 1 D cy ad s σ H locs := hw
  have hl : lv_has ls 7 [(0, .ref (ad (t0))), (2, .int v2), (5, .int v5), (6, .int v6)] := hl
  have hP : ∀ (u : (Int32 × Int32 × Int32 × Mem)), (∀ (H : Heap) (locs : List Loc) (ls : Array Slot), Wd 1 D cy ad s u.2.2.2 H locs → lv_has ls 7 [(0, .ref (ad (t0))), (2, .int u.1), (5, .int u.2.1), (6, .int u.2.2.1)] → W p l e R s m args below meth c H locs 0 0 Q (F0 m 109 ls [])) → ∀ (H : Heap) (locs : List Loc) (ls : Array Slot), Wd 1 D cy ad s u.2.2.2 H locs → lv_has ls 7 [(0, .ref (ad (t0))), (2, .int u.1), (5, .int u.2.1), (6, .int u.2.2.1)] → W p l e R s m args below meth c H locs 0 0 Q (F0 m 109 ls []) := fun _ k => k
  unfold b_X7_swapArms_109 at h
  refine lv_iload C.1 C.2.1 dX7_swapArms_109 (lv_at hl 3 rfl) ?_
  refine lv_iload C.1 C.2.1 dX7_swapArms_111 (lv_at hl 2 rfl) ?_
  refine lv_icmp_ge (tgt := 149) C.1 C.2.1 dX7_swapArms_113 (by decide) (fun cd => ?_) (fun cd => ?_)
  · have h := ite_t cd h
    obtain rfl := Option.some.inj h
    exact hE0 _ hx _ _ _ hw (lv_sub hl [0] rfl)
  · have h := ite_f cd h
    refine lv_aload_n C.1 C.2.1 dX7_swapArms_116 rfl (lv_at hl 0 rfl) ?_
    refine lv_iload_n C.1 C.2.1 dX7_swapArms_117 rfl (lv_at hl 1 rfl) ?_
    refine lv_iload C.1 C.2.1 dX7_swapArms_118 (lv_at hl 3 rfl) ?_
    refine lv_iadd C.1 C.2.1 dX7_swapArms_120 ?_
    refine go_I hw (run_V (As := [.int _]) C hw (c_X7_has C.2.2.2.2.2.2.2.2.2 _ _ ht0 _) mi_X7_has mv_X7_has ht0 (ci := 7) rfl rfl lk_X7_43 (by decide) (by decide) rfl hl.1 rfl (Nat.le_of_ble_eq_true rfl) dX7_swapArms_121 ⟨Nat.le_refl 0, Nat.le_refl 0⟩) (fun H locs hw => ?_)
    refine lv_if_eq (tgt := 149) C.1 C.2.1 dX7_swapArms_124 (by decide) (fun cd => ?_) (fun cd => ?_)
    · have h := ite_t cd h
      obtain rfl := Option.some.inj h
      exact hE0 _ hx _ _ _ hw (lv_sub hl [0] rfl)
    · have h := ite_f cd h
      refine lv_aload_n C.1 C.2.1 dX7_swapArms_127 rfl (lv_at hl 0 rfl) ?_
      refine gf_X7_9 C hw ht0 dX7_swapArms_128 ?_
      refine lv_iload_n C.1 C.2.1 dX7_swapArms_131 rfl (lv_at hl 1 rfl) ?_
      refine lv_iload C.1 C.2.1 dX7_swapArms_132 (lv_at hl 3 rfl) ?_
      refine lv_iadd C.1 C.2.1 dX7_swapArms_134 ?_
      refine lv_aload_n C.1 C.2.1 dX7_swapArms_135 rfl (lv_at hl 0 rfl) ?_
      refine gf_X7_21 C hw ht0 dX7_swapArms_136 ?_
      refine lv_iload C.1 C.2.1 dX7_swapArms_139 (lv_at hl 3 rfl) ?_
      obtain ⟨hin, h⟩ := gd_of h
      refine m_iald C hw (treeA3 ht0) hin dX7_swapArms_141 ?_
      obtain ⟨hin, h⟩ := gd_of h
      refine m_iast C hw (treeA0 ht0) hin dX7_swapArms_142 (fun H locs hw => ?_)
      obtain ⟨σ12, eσ12, h⟩ := lt_of h
      rw [← eσ12] at hw
      obtain ⟨x13, ex13, h⟩ := lt_of h
      refine m_iinc (k := 3) (lv' := [(6, .int _), (0, .ref _), (2, .int _), (5, .int _)]) C (1 : Int32) (by decide) dX7_swapArms_143 hl rfl ex13.symm (by decide) rfl (fun ls hl => ?_)
      refine lv_goto (tgt := 109) C.1 C.2.1 dX7_swapArms_146 (by decide) ?_
      obtain rfl := Option.some.inj h
      exact hP _ hx _ _ _ hw (lv_sub hl [1, 2, 3, 0] rfl)
set_option maxRecDepth 20000 in
theorem w_X7_swapArms_149 {D : va_G} {cy : Nat → ClassId} {ad : Nat → Nat} {p : Program} {l : Launch} {e : Env} {R : Room} {s : State} {m : MethodId} {args : Array Value} {below : List Frame} {meth : Method} {c : Code} (C : Cx 1 D cy ad p R s m args meth c cX7_swapArms 7 RX7 none 2) {t0 : Nat} {a1 : Int32} (ht0 : IsO 1 t0 7)   {σ : Mem} {H : Heap} {locs : List Loc} {ls : Array Slot} {r : Mem} (hw : Wd 1 D cy ad s σ H locs) (hl : lv_has ls 7 [(0, .ref (ad (t0)))]) (h : j_X7_swapArms_149 t0 a1 σ = some r) : W p l e R s m args below meth c H locs 0 0 (QV 1 D cy ad below args s r) (F0 m 149 ls []) := by
  unfold j_X7_swapArms_149 at h
  refine lv_aload_n C.1 C.2.1 dX7_swapArms_149 rfl (lv_at hl 0 rfl) ?_
  obtain ⟨r15, h1, h⟩ := bS h
  refine go_V hw (run_V (As := []) C hw (c_X7_settle C.2.2.2.2.2.2.2.2.2 _ ht0 _ _ h1) mi_X7_settle mv_X7_settle ht0 (ci := 7) rfl rfl lk_X7_40 (by decide) (by decide) rfl hl.1 rfl (Nat.le_of_ble_eq_true rfl) dX7_swapArms_150 ⟨Nat.le_refl 0, Nat.le_refl 0⟩) (fun H locs hw => ?_)
  exact m_vret C hw (Option.some.inj h) dX7_swapArms_153
set_option maxRecDepth 20000 in
theorem w_X7_swapArms_106 {D : va_G} {cy : Nat → ClassId} {ad : Nat → Nat} {p : Program} {l : Launch} {e : Env} {R : Room} {s : State} {m : MethodId} {args : Array Value} {below : List Frame} {meth : Method} {c : Code} (C : Cx 1 D cy ad p R s m args meth c cX7_swapArms 7 RX7 none 2) {t0 : Nat} {a1 : Int32} (ht0 : IsO 1 t0 7) {v2 : Int32} {v5 : Int32}  {σ : Mem} {H : Heap} {locs : List Loc} {ls : Array Slot} {r : Mem} (hw : Wd 1 D cy ad s σ H locs) (hl : lv_has ls 7 [(0, .ref (ad (t0))), (2, .int v2), (5, .int v5)]) (h : j_X7_swapArms_106 t0 a1 v2 v5 σ = some r) : W p l e R s m args below meth c H locs 0 0 (QV 1 D cy ad below args s r) (F0 m 106 ls []) := by
  unfold j_X7_swapArms_106 at h
  refine lv_iconst (v := (0 : Int32)) C.1 C.2.1 dX7_swapArms_106 (by decide) ?_
  refine lv_istore (lv' := [(6, .int _), (0, .ref _), (2, .int _), (5, .int _)]) C.1 C.2.1 dX7_swapArms_107 hl (by decide) rfl (fun ls hl => ?_)
  obtain ⟨r14, hL, h⟩ := bS h
  refine w_X7_swapArms_109 C ht0  hL (fun y0 hr H locs ls hw hl => ?_) _ _ _ hw (lv_sub hl [1, 2, 3, 0] rfl)
  · subst hr
    try dsimp only at h
    try dsimp only at hw
    try dsimp only at hl
    exact w_X7_swapArms_149 C ht0 hw (lv_sub hl [0] rfl) h
set_option maxRecDepth 20000 in
theorem w_X7_swapArms_65 {D : va_G} {cy : Nat → ClassId} {ad : Nat → Nat} {p : Program} {l : Launch} {e : Env} {R : Room} {s : State} {m : MethodId} {args : Array Value} {below : List Frame} {meth : Method} {c : Code} (C : Cx 1 D cy ad p R s m args meth c cX7_swapArms 7 RX7 none 2) {t0 : Nat} {a1 : Int32} (ht0 : IsO 1 t0 7) {v2 : Int32} {v3 : Int32} {v5 : Int32}  {σ : Mem} {H : Heap} {locs : List Loc} {ls : Array Slot} {r : Mem} (hw : Wd 1 D cy ad s σ H locs) (hl : lv_has ls 7 [(0, .ref (ad (t0))), (2, .int v2), (3, .int v3), (5, .int v5)]) (h : j_X7_swapArms_65 t0 a1 v2 v3 v5 σ = some r) : W p l e R s m args below meth c H locs 0 0 (QV 1 D cy ad below args s r) (F0 m 65 ls []) := by
  unfold j_X7_swapArms_65 at h
  refine lv_iload_n C.1 C.2.1 dX7_swapArms_65 rfl (lv_at hl 1 rfl) ?_
  refine lv_istore (lv' := [(6, .int _), (0, .ref _), (2, .int _), (3, .int _), (5, .int _)]) C.1 C.2.1 dX7_swapArms_66 hl (by decide) rfl (fun ls hl => ?_)
  obtain ⟨r11, hL, h⟩ := bS h
  refine w_X7_swapArms_68 C ht0  hL (fun y0 y1 y2 hr H locs ls hw hl => ?_) _ _ _ hw (lv_sub hl [1, 2, 3, 4, 0] rfl)
  · subst hr
    try dsimp only at h
    try dsimp only at hw
    try dsimp only at hl
    exact w_X7_swapArms_106 C ht0 hw (lv_sub hl [0, 1, 2] rfl) h
set_option maxRecDepth 20000 in
theorem c_X7_swapArms {l : Launch} {D : va_G} {cy : Nat → ClassId} {ad : Nat → Nat} (hj : InjW 1 ad) (t0 : Nat) (a1 : Int32) (ht0 : IsO 1 t0 7) (σ : Mem) (r : Mem) (h : f_X7_swapArms t0 a1 σ = some r) : CV 1 D cy ad l yX7_swapArms cX7_swapArms 7 none 2 [.ref (ad (t0)), .int a1] σ r := by
  refine CV.mk (by decide) hj (Nat.le_of_ble_eq_true rfl) (fun p e R s m below meth c ls C hw hl => ?_)
  have hl : lv_has ls 7 [(0, .ref (ad (t0))), (1, .int a1)] := hl
  generalize ([.ref (ad (t0)), .int a1] : List Value).toArray = args at C ⊢
  have C : Cx 1 D cy ad p R s m args meth c cX7_swapArms 7 RX7 none 2 := C
  unfold f_X7_swapArms at h
  refine lv_iload_n C.1 C.2.1 dX7_swapArms_0 rfl (lv_at hl 1 rfl) ?_
  refine lv_iconst (v := (1 : Int32)) C.1 C.2.1 dX7_swapArms_1 (by decide) ?_
  refine lv_iadd C.1 C.2.1 dX7_swapArms_2 ?_
  obtain ⟨x1, ex1, h⟩ := lt_of h
  refine m_topi ex1 ?_
  refine lv_istore_n (lv' := [(2, .int _), (0, .ref _), (1, .int _)]) C.1 C.2.1 dX7_swapArms_3 rfl hl (by decide) rfl (fun ls hl => ?_)
  refine lv_aload_n C.1 C.2.1 dX7_swapArms_4 rfl (lv_at hl 1 rfl) ?_
  refine lv_iload_n C.1 C.2.1 dX7_swapArms_5 rfl (lv_at hl 2 rfl) ?_
  obtain ⟨r2, h1, h⟩ := bS h
  refine go_I hw (run_V (As := [.int _]) C hw (c_X7_secondArm C.2.2.2.2.2.2.2.2.2 _ _ ht0 _ _ h1) mi_X7_secondArm mv_X7_secondArm ht0 (ci := 7) rfl rfl lk_X7_47 (by decide) (by decide) rfl hl.1 rfl (Nat.le_of_ble_eq_true rfl) dX7_swapArms_6 ⟨Nat.le_refl 0, Nat.le_refl 0⟩) (fun H locs hw => ?_)
  refine lv_istore_n (lv' := [(3, .int _), (2, .int _), (0, .ref _), (1, .int _)]) C.1 C.2.1 dX7_swapArms_9 rfl hl (by decide) rfl (fun ls hl => ?_)
  refine lv_iload_n C.1 C.2.1 dX7_swapArms_10 rfl (lv_at hl 3 rfl) ?_
  refine lv_aload_n C.1 C.2.1 dX7_swapArms_11 rfl (lv_at hl 2 rfl) ?_
  refine gf_X7_15 C hw ht0 dX7_swapArms_12 ?_
  refine lv_iload_n C.1 C.2.1 dX7_swapArms_15 rfl (lv_at hl 3 rfl) ?_
  obtain ⟨hin, h⟩ := gd_of h
  refine m_iald C hw (treeA1 ht0) hin dX7_swapArms_16 ?_
  refine lv_iadd C.1 C.2.1 dX7_swapArms_17 ?_
  obtain ⟨x3, ex3, h⟩ := lt_of h
  refine m_topi ex3 ?_
  refine lv_istore (lv' := [(4, .int _), (3, .int _), (2, .int _), (0, .ref _), (1, .int _)]) C.1 C.2.1 dX7_swapArms_18 hl (by decide) rfl (fun ls hl => ?_)
  refine lv_iconst (v := (0 : Int32)) C.1 C.2.1 dX7_swapArms_20 (by decide) ?_
  refine lv_istore (lv' := [(5, .int _), (4, .int _), (3, .int _), (2, .int _), (0, .ref _), (1, .int _)]) C.1 C.2.1 dX7_swapArms_21 hl (by decide) rfl (fun ls hl => ?_)
  refine lv_iload_n C.1 C.2.1 dX7_swapArms_23 rfl (lv_at hl 2 rfl) ?_
  refine lv_istore (lv' := [(6, .int _), (5, .int _), (4, .int _), (3, .int _), (2, .int _), (0, .ref _), (1, .int _)]) C.1 C.2.1 dX7_swapArms_24 hl (by decide) rfl (fun ls hl => ?_)
  obtain ⟨r7, hL, h⟩ := bS h
  refine w_X7_swapArms_26 C ht0  hL (fun y0 y1 y2 y3 hr H locs ls hw hl => ?_) _ _ _ hw (lv_sub hl [5, 4, 3, 2, 1, 0] rfl)
  · subst hr
    try dsimp only at h
    try dsimp only at hw
    try dsimp only at hl
    exact w_X7_swapArms_65 C ht0 hw (lv_sub hl [0, 1, 2, 3] rfl) h
noncomputable def b_X7_copyFrom_10 (t0 : Nat) (t1 : Nat) (v2 : Int32) (σ : Mem) : Option ((Int32 × Mem) ⊕ Mem) :=
  if (31 : Int32) ≤ v2 then (some (.inr σ)) else (gd (ix v2 31) (gd (ix v2 31) (lt (sI σ (t0 + 1) v2.toNatClampNeg (σ.1 (t1 + 1) v2.toNatClampNeg)) (fun σ2 => gd (ix v2 31) (gd (ix v2 31) (lt (sI σ2 (t0 + 2) v2.toNatClampNeg (σ2.1 (t1 + 2) v2.toNatClampNeg)) (fun σ3 => gd (ix v2 31) (gd (ix v2 31) (lt (sI σ3 (t0 + 3) v2.toNatClampNeg (σ3.1 (t1 + 3) v2.toNatClampNeg)) (fun σ4 => lt (v2 + (1 : Int32)) (fun x5 => some (.inl (x5, σ4)))))))))))))
noncomputable def f_X7_copyFrom (t0 : Nat) (t1 : Nat) (σ : Mem) : Option Mem :=
  lt (sI σ t0 4 (σ.1 t1 4)) (fun σ1 => (Lim (T := Mem) (fun s => b_X7_copyFrom_10 t0 t1 s.1 s.2) ((0 : Int32), σ1)).bind (fun r6 => some r6))
set_option maxRecDepth 20000 in
theorem w_X7_copyFrom_10 {D : va_G} {cy : Nat → ClassId} {ad : Nat → Nat} {p : Program} {l : Launch} {e : Env} {R : Room} {s : State} {m : MethodId} {args : Array Value} {below : List Frame} {meth : Method} {c : Code} (C : Cx 1 D cy ad p R s m args meth c cX7_copyFrom 3 RX7 none 0) {t0 : Nat} {t1 : Nat} (ht0 : IsO 1 t0 7) (ht1 : IsO 1 t1 7) {v2 : Int32} {σ : Mem} {Q : State → Prop} {r : Mem} (hL : Lim (T := Mem) (fun s => b_X7_copyFrom_10 t0 t1 s.1 s.2) (v2, σ) = some r) (hE0 : ∀ (σ1 : Mem), (σ1 : Mem) = r → ∀ (H : Heap) (locs : List Loc) (ls : Array Slot), Wd 1 D cy ad s σ1 H locs → lv_has ls 3 [] → W p l e R s m args below meth c H locs 0 0 Q (F0 m 58 ls [])) (H : Heap) (locs : List Loc) (ls : Array Slot) (hw : Wd 1 D cy ad s σ H locs) (hl : lv_has ls 3 [(0, .ref (ad (t0))), (1, .ref (ad (t1))), (2, .int v2)]) : W p l e R s m args below meth c H locs 0 0 Q (F0 m 10 ls []) := by
  refine Lim_ind hL (P := fun u => ∀ (H : Heap) (locs : List Loc) (ls : Array Slot), Wd 1 D cy ad s u.2 H locs → lv_has ls 3 [(0, .ref (ad (t0))), (1, .ref (ad (t1))), (2, .int u.1)] → W p l e R s m args below meth c H locs 0 0 Q (F0 m 10 ls [])) (fun u x h hx H locs ls hw hl => ?_) H locs ls hw hl
  clear hL
  obtain ⟨v2, σ⟩ := u
  have h : b_X7_copyFrom_10 t0 t1 v2 σ = some x := h
  have hw : Wd 1 D cy ad s σ H locs := hw
  have hl : lv_has ls 3 [(0, .ref (ad (t0))), (1, .ref (ad (t1))), (2, .int v2)] := hl
  have hP : ∀ (u : (Int32 × Mem)), (∀ (H : Heap) (locs : List Loc) (ls : Array Slot), Wd 1 D cy ad s u.2 H locs → lv_has ls 3 [(0, .ref (ad (t0))), (1, .ref (ad (t1))), (2, .int u.1)] → W p l e R s m args below meth c H locs 0 0 Q (F0 m 10 ls [])) → ∀ (H : Heap) (locs : List Loc) (ls : Array Slot), Wd 1 D cy ad s u.2 H locs → lv_has ls 3 [(0, .ref (ad (t0))), (1, .ref (ad (t1))), (2, .int u.1)] → W p l e R s m args below meth c H locs 0 0 Q (F0 m 10 ls []) := fun _ k => k
  unfold b_X7_copyFrom_10 at h
  refine lv_iload_n C.1 C.2.1 dX7_copyFrom_10 rfl (lv_at hl 2 rfl) ?_
  refine lv_bipush (v := (31 : Int32)) C.1 C.2.1 dX7_copyFrom_11 (by decide) ?_
  refine lv_icmp_ge (tgt := 58) C.1 C.2.1 dX7_copyFrom_13 (by decide) (fun cd => ?_) (fun cd => ?_)
  · have h := ite_t cd h
    obtain rfl := Option.some.inj h
    exact hE0 _ hx _ _ _ hw (lv_sub hl [] rfl)
  · have h := ite_f cd h
    refine lv_aload_n C.1 C.2.1 dX7_copyFrom_16 rfl (lv_at hl 0 rfl) ?_
    refine gf_X7_9 C hw ht0 dX7_copyFrom_17 ?_
    refine lv_iload_n C.1 C.2.1 dX7_copyFrom_20 rfl (lv_at hl 2 rfl) ?_
    refine lv_aload_n C.1 C.2.1 dX7_copyFrom_21 rfl (lv_at hl 1 rfl) ?_
    refine gf_X7_9 C hw ht1 dX7_copyFrom_22 ?_
    refine lv_iload_n C.1 C.2.1 dX7_copyFrom_25 rfl (lv_at hl 2 rfl) ?_
    obtain ⟨hin, h⟩ := gd_of h
    refine m_iald C hw (treeA0 ht1) hin dX7_copyFrom_26 ?_
    obtain ⟨hin, h⟩ := gd_of h
    refine m_iast C hw (treeA0 ht0) hin dX7_copyFrom_27 (fun H locs hw => ?_)
    obtain ⟨σ2, eσ2, h⟩ := lt_of h
    rw [← eσ2] at hw
    refine lv_aload_n C.1 C.2.1 dX7_copyFrom_28 rfl (lv_at hl 0 rfl) ?_
    refine gf_X7_15 C hw ht0 dX7_copyFrom_29 ?_
    refine lv_iload_n C.1 C.2.1 dX7_copyFrom_32 rfl (lv_at hl 2 rfl) ?_
    refine lv_aload_n C.1 C.2.1 dX7_copyFrom_33 rfl (lv_at hl 1 rfl) ?_
    refine gf_X7_15 C hw ht1 dX7_copyFrom_34 ?_
    refine lv_iload_n C.1 C.2.1 dX7_copyFrom_37 rfl (lv_at hl 2 rfl) ?_
    obtain ⟨hin, h⟩ := gd_of h
    refine m_iald C hw (treeA1 ht1) hin dX7_copyFrom_38 ?_
    obtain ⟨hin, h⟩ := gd_of h
    refine m_iast C hw (treeA1 ht0) hin dX7_copyFrom_39 (fun H locs hw => ?_)
    obtain ⟨σ3, eσ3, h⟩ := lt_of h
    rw [← eσ3] at hw
    refine lv_aload_n C.1 C.2.1 dX7_copyFrom_40 rfl (lv_at hl 0 rfl) ?_
    refine gf_X7_18 C hw ht0 dX7_copyFrom_41 ?_
    refine lv_iload_n C.1 C.2.1 dX7_copyFrom_44 rfl (lv_at hl 2 rfl) ?_
    refine lv_aload_n C.1 C.2.1 dX7_copyFrom_45 rfl (lv_at hl 1 rfl) ?_
    refine gf_X7_18 C hw ht1 dX7_copyFrom_46 ?_
    refine lv_iload_n C.1 C.2.1 dX7_copyFrom_49 rfl (lv_at hl 2 rfl) ?_
    obtain ⟨hin, h⟩ := gd_of h
    refine m_iald C hw (treeA2 ht1) hin dX7_copyFrom_50 ?_
    obtain ⟨hin, h⟩ := gd_of h
    refine m_iast C hw (treeA2 ht0) hin dX7_copyFrom_51 (fun H locs hw => ?_)
    obtain ⟨σ4, eσ4, h⟩ := lt_of h
    rw [← eσ4] at hw
    obtain ⟨x5, ex5, h⟩ := lt_of h
    refine m_iinc (k := 2) (lv' := [(2, .int _), (0, .ref _), (1, .ref _)]) C (1 : Int32) (by decide) dX7_copyFrom_52 hl rfl ex5.symm (by decide) rfl (fun ls hl => ?_)
    refine lv_goto (tgt := 10) C.1 C.2.1 dX7_copyFrom_55 (by decide) ?_
    obtain rfl := Option.some.inj h
    exact hP _ hx _ _ _ hw (lv_sub hl [1, 2, 0] rfl)
set_option maxRecDepth 20000 in
theorem c_X7_copyFrom {l : Launch} {D : va_G} {cy : Nat → ClassId} {ad : Nat → Nat} (hj : InjW 1 ad) (t0 : Nat) (t1 : Nat) (ht0 : IsO 1 t0 7) (ht1 : IsO 1 t1 7) (σ : Mem) (r : Mem) (h : f_X7_copyFrom t0 t1 σ = some r) : CV 1 D cy ad l yX7_copyFrom cX7_copyFrom 3 none 0 [.ref (ad (t0)), .ref (ad (t1))] σ r := by
  refine CV.mk (by decide) hj (Nat.le_of_ble_eq_true rfl) (fun p e R s m below meth c ls C hw hl => ?_)
  have hl : lv_has ls 3 [(0, .ref (ad (t0))), (1, .ref (ad (t1)))] := hl
  generalize ([.ref (ad (t0)), .ref (ad (t1))] : List Value).toArray = args at C ⊢
  have C : Cx 1 D cy ad p R s m args meth c cX7_copyFrom 3 RX7 none 0 := C
  unfold f_X7_copyFrom at h
  refine lv_aload_n C.1 C.2.1 dX7_copyFrom_0 rfl (lv_at hl 0 rfl) ?_
  refine lv_aload_n C.1 C.2.1 dX7_copyFrom_1 rfl (lv_at hl 1 rfl) ?_
  refine gf_X7_24 C hw ht1 dX7_copyFrom_2 ?_
  refine pf_X7_24 C hw ht0 dX7_copyFrom_5 (fun H locs hw => ?_)
  obtain ⟨σ1, eσ1, h⟩ := lt_of h
  rw [← eσ1] at hw
  refine lv_iconst (v := (0 : Int32)) C.1 C.2.1 dX7_copyFrom_8 (by decide) ?_
  refine lv_istore_n (lv' := [(2, .int _), (0, .ref _), (1, .ref _)]) C.1 C.2.1 dX7_copyFrom_9 rfl hl (by decide) rfl (fun ls hl => ?_)
  obtain ⟨r6, hL, h⟩ := bS h
  refine w_X7_copyFrom_10 C ht0 ht1  hL (fun y0 hr H locs ls hw hl => ?_) _ _ _ hw (lv_sub hl [1, 2, 0] rfl)
  · subst hr
    try dsimp only at h
    try dsimp only at hw
    try dsimp only at hl
    exact m_vret C hw (Option.some.inj h) dX7_copyFrom_58
noncomputable def b_X8_type_36 (a1 : Int64) (a3 : Int32) (v4 : Int32) (σ : Mem) : Option ((Int32 × Mem) ⊕ Mem) :=
  if v4 < 0 then (some (.inr σ)) else ((f_X6_put (((a1 >>> (((8 : Int32) * v4).toInt64 &&& 63)).toInt32) &&& (255 : Int32)) σ).bind (fun r2 => lt (v4 + (-1 : Int32)) (fun x3 => some (.inl (x3, r2)))))
noncomputable def f_X8_type (a1 : Int64) (a3 : Int32) (σ : Mem) : Option (Int32 × Mem) :=
  if a3 < (1 : Int32) then (some ((-1 : Int32), σ)) else (if a3 ≤ (8 : Int32) then (if ((σ.1 1 1) + a3) ≤ (300 : Int32) then (lt (a3 - (1 : Int32)) (fun x1 => (Lim (T := Mem) (fun s => b_X8_type_36 a1 a3 s.1 s.2) (x1, σ)).bind (fun r4 => some (r4.1 1 1, r4)))) else (some ((-3 : Int32), σ))) else (some ((-1 : Int32), σ)))
set_option maxRecDepth 20000 in
theorem w_X8_type_36 {D : va_G} {cy : Nat → ClassId} {ad : Nat → Nat} {p : Program} {l : Launch} {e : Env} {R : Room} {s : State} {m : MethodId} {args : Array Value} {below : List Frame} {meth : Method} {c : Code} (C : Cx 1 D cy ad p R s m args meth c cX8_type 5 RX8 (some .int) 1) {a1 : Int64} {a3 : Int32}  {v4 : Int32} {σ : Mem} {Q : State → Prop} {r : Mem} (hL : Lim (T := Mem) (fun s => b_X8_type_36 a1 a3 s.1 s.2) (v4, σ) = some r) (hE0 : ∀ (σ1 : Mem), (σ1 : Mem) = r → ∀ (H : Heap) (locs : List Loc) (ls : Array Slot), Wd 1 D cy ad s σ1 H locs → lv_has ls 5 [(0, .ref (ad (0)))] → W p l e R s m args below meth c H locs 0 0 Q (F0 m 66 ls [])) (H : Heap) (locs : List Loc) (ls : Array Slot) (hw : Wd 1 D cy ad s σ H locs) (hl : lv_has ls 5 [(0, .ref (ad (0))), (1, .long a1), (4, .int v4)]) : W p l e R s m args below meth c H locs 0 0 Q (F0 m 36 ls []) := by
  refine Lim_ind hL (P := fun u => ∀ (H : Heap) (locs : List Loc) (ls : Array Slot), Wd 1 D cy ad s u.2 H locs → lv_has ls 5 [(0, .ref (ad (0))), (1, .long a1), (4, .int u.1)] → W p l e R s m args below meth c H locs 0 0 Q (F0 m 36 ls [])) (fun u x h hx H locs ls hw hl => ?_) H locs ls hw hl
  clear hL
  obtain ⟨v4, σ⟩ := u
  have h : b_X8_type_36 a1 a3 v4 σ = some x := h
  have hw : Wd 1 D cy ad s σ H locs := hw
  have hl : lv_has ls 5 [(0, .ref (ad (0))), (1, .long a1), (4, .int v4)] := hl
  have hP : ∀ (u : (Int32 × Mem)), (∀ (H : Heap) (locs : List Loc) (ls : Array Slot), Wd 1 D cy ad s u.2 H locs → lv_has ls 5 [(0, .ref (ad (0))), (1, .long a1), (4, .int u.1)] → W p l e R s m args below meth c H locs 0 0 Q (F0 m 36 ls [])) → ∀ (H : Heap) (locs : List Loc) (ls : Array Slot), Wd 1 D cy ad s u.2 H locs → lv_has ls 5 [(0, .ref (ad (0))), (1, .long a1), (4, .int u.1)] → W p l e R s m args below meth c H locs 0 0 Q (F0 m 36 ls []) := fun _ k => k
  unfold b_X8_type_36 at h
  refine lv_iload C.1 C.2.1 dX8_type_36 (lv_at hl 2 rfl) ?_
  refine lv_if_lt (tgt := 66) C.1 C.2.1 dX8_type_38 (by decide) (fun cd => ?_) (fun cd => ?_)
  · have h := ite_t cd h
    obtain rfl := Option.some.inj h
    exact hE0 _ hx _ _ _ hw (lv_sub hl [0] rfl)
  · have h := ite_f cd h
    refine lv_aload_n C.1 C.2.1 dX8_type_41 rfl (lv_at hl 0 rfl) ?_
    refine gf_X8_10 C hw dX8_type_42 ?_
    refine lv_lload_n C.1 C.2.1 dX8_type_45 rfl (lv_at hl 1 rfl) ?_
    refine lv_bipush (v := (8 : Int32)) C.1 C.2.1 dX8_type_46 (by decide) ?_
    refine lv_iload C.1 C.2.1 dX8_type_48 (lv_at hl 2 rfl) ?_
    refine lv_imul C.1 C.2.1 dX8_type_50 ?_
    refine lv_lshr C.1 C.2.1 dX8_type_51 rfl ?_
    refine lv_l2i C.1 C.2.1 dX8_type_52 rfl ?_
    refine lv_sipush (v := (255 : Int32)) C.1 C.2.1 dX8_type_53 (by decide) ?_
    refine lv_iand C.1 C.2.1 dX8_type_56 ?_
    obtain ⟨r2, h1, h⟩ := bS h
    refine go_V hw (run_V (As := [.int _]) C hw (c_X6_put C.2.2.2.2.2.2.2.2.2 _ _ _ h1) mi_X6_put mv_X6_put o1_1 (ci := 6) rfl rfl lk_X8_61 (by decide) (by decide) rfl hl.1 rfl (Nat.le_of_ble_eq_true rfl) dX8_type_57 ⟨Nat.le_refl 0, Nat.le_refl 0⟩) (fun H locs hw => ?_)
    obtain ⟨x3, ex3, h⟩ := lt_of h
    refine m_iinc (k := 2) (lv' := [(4, .int _), (0, .ref _), (1, .long _)]) C (-1 : Int32) (by decide) dX8_type_60 hl rfl ex3.symm (by decide) rfl (fun ls hl => ?_)
    refine lv_goto (tgt := 36) C.1 C.2.1 dX8_type_63 (by decide) ?_
    obtain rfl := Option.some.inj h
    exact hP _ hx _ _ _ hw (lv_sub hl [1, 2, 0] rfl)
set_option maxRecDepth 20000 in
theorem c_X8_type {l : Launch} {D : va_G} {cy : Nat → ClassId} {ad : Nat → Nat} (hj : InjW 1 ad) (a1 : Int64) (a3 : Int32)  (σ : Mem) (r : (Int32 × Mem)) (h : f_X8_type a1 a3 σ = some r) : CI 1 D cy ad l yX8_type cX8_type 5 (some .int) 1 [.ref (ad (0)), .long a1, .int a3] σ r.1 r.2 := by
  refine CI.mk (by decide) hj (Nat.le_of_ble_eq_true rfl) (fun p e R s m below meth c ls C hw hl => ?_)
  have hl : lv_has ls 5 [(0, .ref (ad (0))), (1, .long a1), (3, .int a3)] := hl
  generalize ([.ref (ad (0)), .long a1, .int a3] : List Value).toArray = args at C ⊢
  have C : Cx 1 D cy ad p R s m args meth c cX8_type 5 RX8 (some .int) 1 := C
  unfold f_X8_type at h
  refine lv_iload_n C.1 C.2.1 dX8_type_0 rfl (lv_at hl 2 rfl) ?_
  refine lv_iconst (v := (1 : Int32)) C.1 C.2.1 dX8_type_1 (by decide) ?_
  refine lv_icmp_lt (tgt := 11) C.1 C.2.1 dX8_type_2 (by decide) (fun cd => ?_) (fun cd => ?_)
  · have h := ite_t cd h
    refine lv_iconst (v := (-1 : Int32)) C.1 C.2.1 dX8_type_11 (by decide) ?_
    exact m_iret C hw (ret_p h) dX8_type_12
  · have h := ite_f cd h
    refine lv_iload_n C.1 C.2.1 dX8_type_5 rfl (lv_at hl 2 rfl) ?_
    refine lv_bipush (v := (8 : Int32)) C.1 C.2.1 dX8_type_6 (by decide) ?_
    refine lv_icmp_le (tgt := 13) C.1 C.2.1 dX8_type_8 (by decide) (fun cd => ?_) (fun cd => ?_)
    · have h := ite_t cd h
      refine lv_aload_n C.1 C.2.1 dX8_type_13 rfl (lv_at hl 0 rfl) ?_
      refine gf_X8_10 C hw dX8_type_14 ?_
      refine gf_X8_57 C hw dX8_type_17 ?_
      refine lv_iload_n C.1 C.2.1 dX8_type_20 rfl (lv_at hl 2 rfl) ?_
      refine lv_iadd C.1 C.2.1 dX8_type_21 ?_
      refine lv_sipush (v := (300 : Int32)) C.1 C.2.1 dX8_type_22 (by decide) ?_
      refine lv_icmp_le (tgt := 31) C.1 C.2.1 dX8_type_25 (by decide) (fun cd => ?_) (fun cd => ?_)
      · have h := ite_t cd h
        refine lv_iload_n C.1 C.2.1 dX8_type_31 rfl (lv_at hl 2 rfl) ?_
        refine lv_iconst (v := (1 : Int32)) C.1 C.2.1 dX8_type_32 (by decide) ?_
        refine lv_isub C.1 C.2.1 dX8_type_33 ?_
        obtain ⟨x1, ex1, h⟩ := lt_of h
        refine m_topi ex1 ?_
        refine lv_istore (lv' := [(4, .int _), (0, .ref _), (1, .long _), (3, .int _)]) C.1 C.2.1 dX8_type_34 hl (by decide) rfl (fun ls hl => ?_)
        obtain ⟨r4, hL, h⟩ := bS h
        refine w_X8_type_36 C  hL (fun y0 hr H locs ls hw hl => ?_) _ _ _ hw (lv_sub hl [1, 2, 0] rfl)
        · subst hr
          try dsimp only at h
          try dsimp only at hw
          try dsimp only at hl
          refine lv_aload_n C.1 C.2.1 dX8_type_66 rfl (lv_at hl 0 rfl) ?_
          refine gf_X8_10 C hw dX8_type_67 ?_
          refine gf_X8_57 C hw dX8_type_70 ?_
          exact m_iret C hw (ret_p h) dX8_type_73
      · have h := ite_f cd h
        refine lv_bipush (v := (-3 : Int32)) C.1 C.2.1 dX8_type_28 (by decide) ?_
        exact m_iret C hw (ret_p h) dX8_type_30
    · have h := ite_f cd h
      refine lv_iconst (v := (-1 : Int32)) C.1 C.2.1 dX8_type_11 (by decide) ?_
      exact m_iret C hw (ret_p h) dX8_type_12
noncomputable def f_X8_clear  (σ : Mem) : Option (Int32 × Mem) :=
  lt (σ.1 1 1) (fun x1 => lt (sI σ 1 1 (0 : Int32)) (fun σ2 => some (x1, σ2)))
set_option maxRecDepth 20000 in
theorem c_X8_clear {l : Launch} {D : va_G} {cy : Nat → ClassId} {ad : Nat → Nat} (hj : InjW 1 ad)   (σ : Mem) (r : (Int32 × Mem)) (h : f_X8_clear σ = some r) : CI 1 D cy ad l yX8_clear cX8_clear 2 (some .int) 0 [.ref (ad (0))] σ r.1 r.2 := by
  refine CI.mk (by decide) hj (Nat.le_of_ble_eq_true rfl) (fun p e R s m below meth c ls C hw hl => ?_)
  have hl : lv_has ls 2 [(0, .ref (ad (0)))] := hl
  generalize ([.ref (ad (0))] : List Value).toArray = args at C ⊢
  have C : Cx 1 D cy ad p R s m args meth c cX8_clear 2 RX8 (some .int) 0 := C
  unfold f_X8_clear at h
  refine lv_aload_n C.1 C.2.1 dX8_clear_0 rfl (lv_at hl 0 rfl) ?_
  refine gf_X8_10 C hw dX8_clear_1 ?_
  refine gf_X8_57 C hw dX8_clear_4 ?_
  obtain ⟨x1, ex1, h⟩ := lt_of h
  refine m_topi ex1 ?_
  refine lv_istore_n (lv' := [(1, .int _), (0, .ref _)]) C.1 C.2.1 dX8_clear_7 rfl hl (by decide) rfl (fun ls hl => ?_)
  refine lv_aload_n C.1 C.2.1 dX8_clear_8 rfl (lv_at hl 1 rfl) ?_
  refine gf_X8_10 C hw dX8_clear_9 ?_
  refine lv_iconst (v := (0 : Int32)) C.1 C.2.1 dX8_clear_12 (by decide) ?_
  refine pf_X8_57 C hw dX8_clear_13 (fun H locs hw => ?_)
  obtain ⟨σ2, eσ2, h⟩ := lt_of h
  rw [← eσ2] at hw
  refine lv_iload_n C.1 C.2.1 dX8_clear_16 rfl (lv_at hl 0 rfl) ?_
  exact m_iret C hw (ret_p h) dX8_clear_17
noncomputable def b_X8_law_68  (v1 : Int32) (v3 : Int32) (σ : Mem) : Option ((Int32 × Int32 × Mem) ⊕ (Int32 × Mem)) :=
  if (2 : Int32) ≤ v3 then (some (.inr (v1, σ))) else (gd (ix v3 2) (lt (sI σ (54 + 6 * v3.toNatClampNeg) 0 (0 : Int32)) (fun σ14 => lt (v3 + (1 : Int32)) (fun x15 => some (.inl (v1, x15, σ14))))))
noncomputable def f_X8_law  (σ : Mem) : Option (Int32 × Mem) :=
  (f_X3_read (σ.2.2 5) σ).bind (fun r2 => lt r2.1 (fun x3 => if 0 ≤ x3 then (lt (sR r2.2 4 (r2.2.2.2 5)) (fun σ6 => lt (sR σ6 5 (r2.2.2.2 4)) (fun σ7 => lt (sI σ7 1 1 (0 : Int32)) (fun σ8 => lt (sI σ8 0 8 (f_X3_allOn (σ8.2.2 4) σ8)) (fun σ10 => lt (sI σ10 0 9 (σ10.1 (σ10.2.2 4) 5)) (fun σ12 => (Lim (T := (Int32 × Mem)) (fun s => b_X8_law_68 s.1 s.2.1 s.2.2) (x3, (0 : Int32), σ12)).bind (fun r16 => (f_X4_forget r16.2).bind (fun r17 => some (r16.1, r17))))))))) else (some (x3, r2.2))))
set_option maxRecDepth 20000 in
theorem w_X8_law_68 {D : va_G} {cy : Nat → ClassId} {ad : Nat → Nat} {p : Program} {l : Launch} {e : Env} {R : Room} {s : State} {m : MethodId} {args : Array Value} {below : List Frame} {meth : Method} {c : Code} (C : Cx 1 D cy ad p R s m args meth c cX8_law 4 RX8 (some .int) 7)   {v1 : Int32} {v3 : Int32} {σ : Mem} {Q : State → Prop} {r : (Int32 × Mem)} (hL : Lim (T := (Int32 × Mem)) (fun s => b_X8_law_68 s.1 s.2.1 s.2.2) (v1, v3, σ) = some r) (hE0 : ∀ (v1 : Int32) (σ1 : Mem), ((v1, σ1) : (Int32 × Mem)) = r → ∀ (H : Heap) (locs : List Loc) (ls : Array Slot), Wd 1 D cy ad s σ1 H locs → lv_has ls 4 [(0, .ref (ad (0))), (1, .int v1)] → W p l e R s m args below meth c H locs 0 0 Q (F0 m 89 ls [])) (H : Heap) (locs : List Loc) (ls : Array Slot) (hw : Wd 1 D cy ad s σ H locs) (hl : lv_has ls 4 [(0, .ref (ad (0))), (1, .int v1), (3, .int v3)]) : W p l e R s m args below meth c H locs 0 0 Q (F0 m 68 ls []) := by
  refine Lim_ind hL (P := fun u => ∀ (H : Heap) (locs : List Loc) (ls : Array Slot), Wd 1 D cy ad s u.2.2 H locs → lv_has ls 4 [(0, .ref (ad (0))), (1, .int u.1), (3, .int u.2.1)] → W p l e R s m args below meth c H locs 0 0 Q (F0 m 68 ls [])) (fun u x h hx H locs ls hw hl => ?_) H locs ls hw hl
  clear hL
  obtain ⟨v1, v3, σ⟩ := u
  have h : b_X8_law_68 v1 v3 σ = some x := h
  have hw : Wd 1 D cy ad s σ H locs := hw
  have hl : lv_has ls 4 [(0, .ref (ad (0))), (1, .int v1), (3, .int v3)] := hl
  have hP : ∀ (u : (Int32 × Int32 × Mem)), (∀ (H : Heap) (locs : List Loc) (ls : Array Slot), Wd 1 D cy ad s u.2.2 H locs → lv_has ls 4 [(0, .ref (ad (0))), (1, .int u.1), (3, .int u.2.1)] → W p l e R s m args below meth c H locs 0 0 Q (F0 m 68 ls [])) → ∀ (H : Heap) (locs : List Loc) (ls : Array Slot), Wd 1 D cy ad s u.2.2 H locs → lv_has ls 4 [(0, .ref (ad (0))), (1, .int u.1), (3, .int u.2.1)] → W p l e R s m args below meth c H locs 0 0 Q (F0 m 68 ls []) := fun _ k => k
  unfold b_X8_law_68 at h
  refine lv_iload_n C.1 C.2.1 dX8_law_68 rfl (lv_at hl 2 rfl) ?_
  refine lv_iconst (v := (2 : Int32)) C.1 C.2.1 dX8_law_69 (by decide) ?_
  refine lv_icmp_ge (tgt := 89) C.1 C.2.1 dX8_law_70 (by decide) (fun cd => ?_) (fun cd => ?_)
  · have h := ite_t cd h
    obtain rfl := Option.some.inj h
    exact hE0 _ _ hx _ _ _ hw (lv_sub hl [0, 1] rfl)
  · have h := ite_f cd h
    refine lv_aload_n C.1 C.2.1 dX8_law_73 rfl (lv_at hl 0 rfl) ?_
    refine gf_X8_18 C hw dX8_law_74 ?_
    refine lv_iload_n C.1 C.2.1 dX8_law_77 rfl (lv_at hl 2 rfl) ?_
    obtain ⟨hin, h⟩ := gd_of h
    have hk13 := img_at hin
    refine gf_img C hw hin dX8_law_78 ?_
    refine lv_iconst (v := (0 : Int32)) C.1 C.2.1 dX8_law_79 (by decide) ?_
    refine pf_X8_82 C hw hk13 rfl rfl dX8_law_80 (fun H locs hw => ?_)
    obtain ⟨σ14, eσ14, h⟩ := lt_of h
    rw [← eσ14] at hw
    obtain ⟨x15, ex15, h⟩ := lt_of h
    refine m_iinc (k := 2) (lv' := [(3, .int _), (0, .ref _), (1, .int _)]) C (1 : Int32) (by decide) dX8_law_83 hl rfl ex15.symm (by decide) rfl (fun ls hl => ?_)
    refine lv_goto (tgt := 68) C.1 C.2.1 dX8_law_86 (by decide) ?_
    obtain rfl := Option.some.inj h
    exact hP _ hx _ _ _ hw (lv_sub hl [1, 2, 0] rfl)
set_option maxRecDepth 20000 in
theorem c_X8_law {l : Launch} {D : va_G} {cy : Nat → ClassId} {ad : Nat → Nat} (hj : InjW 1 ad)   (σ : Mem) (r : (Int32 × Mem)) (h : f_X8_law σ = some r) : CI 1 D cy ad l yX8_law cX8_law 4 (some .int) 7 [.ref (ad (0))] σ r.1 r.2 := by
  refine CI.mk (by decide) hj (Nat.le_of_ble_eq_true rfl) (fun p e R s m below meth c ls C hw hl => ?_)
  have hl : lv_has ls 4 [(0, .ref (ad (0)))] := hl
  generalize ([.ref (ad (0))] : List Value).toArray = args at C ⊢
  have C : Cx 1 D cy ad p R s m args meth c cX8_law 4 RX8 (some .int) 7 := C
  unfold f_X8_law at h
  refine lv_aload_n C.1 C.2.1 dX8_law_0 rfl (lv_at hl 0 rfl) ?_
  refine gf_X8_43 C hw dX8_law_1 ?_
  have hk1 := (hw.2.1 rfl).2.1
  refine lv_aload_n C.1 C.2.1 dX8_law_4 rfl (lv_at hl 0 rfl) ?_
  refine gf_X8_10 C hw dX8_law_5 ?_
  obtain ⟨r2, h1, h⟩ := bS h
  refine go_I hw (run_V (As := [.ref _]) C hw (c_X3_read C.2.2.2.2.2.2.2.2.2 _ hk1 _ _ h1) mi_X3_read mv_X3_read hk1 (ci := 3) rfl rfl lk_X8_65 (by decide) (by decide) rfl hl.1 rfl (Nat.le_of_ble_eq_true rfl) dX8_law_8 ⟨Nat.le_refl 0, Nat.le_refl 0⟩) (fun H locs hw => ?_)
  obtain ⟨x3, ex3, h⟩ := lt_of h
  refine m_topi ex3 ?_
  refine lv_istore_n (lv' := [(1, .int _), (0, .ref _)]) C.1 C.2.1 dX8_law_11 rfl hl (by decide) rfl (fun ls hl => ?_)
  refine lv_iload_n C.1 C.2.1 dX8_law_12 rfl (lv_at hl 0 rfl) ?_
  refine lv_if_ge (tgt := 18) C.1 C.2.1 dX8_law_13 (by decide) (fun cd => ?_) (fun cd => ?_)
  · have h := ite_t cd h
    refine lv_aload_n C.1 C.2.1 dX8_law_18 rfl (lv_at hl 1 rfl) ?_
    refine gf_X8_39 C hw dX8_law_19 ?_
    have hk4 := (hw.2.1 rfl).1
    refine lv_astore_n (lv' := [(2, .ref _), (1, .int _), (0, .ref _)]) C.1 C.2.1 dX8_law_22 rfl hl (by decide) rfl (fun ls hl => ?_)
    refine lv_aload_n C.1 C.2.1 dX8_law_23 rfl (lv_at hl 2 rfl) ?_
    refine lv_aload_n C.1 C.2.1 dX8_law_24 rfl (lv_at hl 2 rfl) ?_
    refine gf_X8_43 C hw dX8_law_25 ?_
    have hk5 := (hw.2.1 rfl).2.1
    refine pf_X8_39 C hw hk5 dX8_law_28 (fun H locs hw => ?_)
    obtain ⟨σ6, eσ6, h⟩ := lt_of h
    rw [← eσ6] at hw
    refine lv_aload_n C.1 C.2.1 dX8_law_31 rfl (lv_at hl 2 rfl) ?_
    refine lv_aload_n C.1 C.2.1 dX8_law_32 rfl (lv_at hl 0 rfl) ?_
    refine pf_X8_43 C hw hk4 dX8_law_33 (fun H locs hw => ?_)
    obtain ⟨σ7, eσ7, h⟩ := lt_of h
    rw [← eσ7] at hw
    refine lv_aload_n C.1 C.2.1 dX8_law_36 rfl (lv_at hl 2 rfl) ?_
    refine gf_X8_10 C hw dX8_law_37 ?_
    refine lv_iconst (v := (0 : Int32)) C.1 C.2.1 dX8_law_40 (by decide) ?_
    refine pf_X8_57 C hw dX8_law_41 (fun H locs hw => ?_)
    obtain ⟨σ8, eσ8, h⟩ := lt_of h
    rw [← eσ8] at hw
    refine lv_aload_n C.1 C.2.1 dX8_law_44 rfl (lv_at hl 2 rfl) ?_
    refine lv_aload_n C.1 C.2.1 dX8_law_45 rfl (lv_at hl 2 rfl) ?_
    refine gf_X8_39 C hw dX8_law_46 ?_
    have hk9 := (hw.2.1 rfl).1
    refine go_I hw (run_V (As := []) C hw (c_X3_allOn C.2.2.2.2.2.2.2.2.2 _ hk9 _) mi_X3_allOn mv_X3_allOn hk9 (ci := 3) rfl rfl lk_X8_69 (by decide) (by decide) rfl hl.1 rfl (Nat.le_of_ble_eq_true rfl) dX8_law_49 ⟨Nat.le_refl 0, Nat.le_refl 0⟩) (fun H locs hw => ?_)
    refine pf_X8_73 C hw dX8_law_52 (fun H locs hw => ?_)
    obtain ⟨σ10, eσ10, h⟩ := lt_of h
    rw [← eσ10] at hw
    refine lv_aload_n C.1 C.2.1 dX8_law_55 rfl (lv_at hl 2 rfl) ?_
    refine lv_aload_n C.1 C.2.1 dX8_law_56 rfl (lv_at hl 2 rfl) ?_
    refine gf_X8_39 C hw dX8_law_57 ?_
    have hk11 := (hw.2.1 rfl).1
    refine gf_X8_76 C hw hk11 dX8_law_60 ?_
    refine pf_X8_79 C hw dX8_law_63 (fun H locs hw => ?_)
    obtain ⟨σ12, eσ12, h⟩ := lt_of h
    rw [← eσ12] at hw
    refine lv_iconst (v := (0 : Int32)) C.1 C.2.1 dX8_law_66 (by decide) ?_
    refine lv_istore_n (lv' := [(3, .int _), (2, .ref _), (1, .int _), (0, .ref _)]) C.1 C.2.1 dX8_law_67 rfl hl (by decide) rfl (fun ls hl => ?_)
    obtain ⟨r16, hL, h⟩ := bS h
    refine w_X8_law_68 C  hL (fun y0 y1 hr H locs ls hw hl => ?_) _ _ _ hw (lv_sub hl [3, 2, 0] rfl)
    · subst hr
      try dsimp only at h
      try dsimp only at hw
      try dsimp only at hl
      refine lv_aload_n C.1 C.2.1 dX8_law_89 rfl (lv_at hl 0 rfl) ?_
      refine gf_X8_32 C hw dX8_law_90 ?_
      obtain ⟨r17, h1, h⟩ := bS h
      refine go_V hw (run_V (As := []) C hw (c_X4_forget C.2.2.2.2.2.2.2.2.2 _ _ h1) mi_X4_forget mv_X4_forget o1_9 (ci := 4) rfl rfl lk_X8_86 (by decide) (by decide) rfl hl.1 rfl (Nat.le_of_ble_eq_true rfl) dX8_law_93 ⟨Nat.le_refl 0, Nat.le_refl 0⟩) (fun H locs hw => ?_)
      refine lv_iload_n C.1 C.2.1 dX8_law_96 rfl (lv_at hl 1 rfl) ?_
      exact m_iret C hw (ret_p h) dX8_law_97
  · have h := ite_f cd h
    refine lv_iload_n C.1 C.2.1 dX8_law_16 rfl (lv_at hl 0 rfl) ?_
    exact m_iret C hw (ret_p h) dX8_law_17
noncomputable def f_X8_tree  (σ : Mem) : Option (Int32 × Mem) :=
  (f_X7_read (σ.2.2 7) σ).bind (fun r2 => lt r2.1 (fun x3 => if 0 ≤ x3 then (lt (sR r2.2 6 (r2.2.2.2 7)) (fun σ6 => lt (sR σ6 7 (r2.2.2.2 6)) (fun σ7 => lt (sI σ7 1 1 (0 : Int32)) (fun σ8 => some (x3, σ8))))) else (some (x3, r2.2))))
set_option maxRecDepth 20000 in
theorem c_X8_tree {l : Launch} {D : va_G} {cy : Nat → ClassId} {ad : Nat → Nat} (hj : InjW 1 ad)   (σ : Mem) (r : (Int32 × Mem)) (h : f_X8_tree σ = some r) : CI 1 D cy ad l yX8_tree cX8_tree 3 (some .int) 3 [.ref (ad (0))] σ r.1 r.2 := by
  refine CI.mk (by decide) hj (Nat.le_of_ble_eq_true rfl) (fun p e R s m below meth c ls C hw hl => ?_)
  have hl : lv_has ls 3 [(0, .ref (ad (0)))] := hl
  generalize ([.ref (ad (0))] : List Value).toArray = args at C ⊢
  have C : Cx 1 D cy ad p R s m args meth c cX8_tree 3 RX8 (some .int) 3 := C
  unfold f_X8_tree at h
  refine lv_aload_n C.1 C.2.1 dX8_tree_0 rfl (lv_at hl 0 rfl) ?_
  refine gf_X8_53 C hw dX8_tree_1 ?_
  have hk1 := (hw.2.1 rfl).2.2.2
  refine lv_aload_n C.1 C.2.1 dX8_tree_4 rfl (lv_at hl 0 rfl) ?_
  refine gf_X8_10 C hw dX8_tree_5 ?_
  obtain ⟨r2, h1, h⟩ := bS h
  refine go_I hw (run_V (As := [.ref _]) C hw (c_X7_read C.2.2.2.2.2.2.2.2.2 _ hk1 _ _ h1) mi_X7_read mv_X7_read hk1 (ci := 7) rfl rfl lk_X8_89 (by decide) (by decide) rfl hl.1 rfl (Nat.le_of_ble_eq_true rfl) dX8_tree_8 ⟨Nat.le_refl 0, Nat.le_refl 0⟩) (fun H locs hw => ?_)
  obtain ⟨x3, ex3, h⟩ := lt_of h
  refine m_topi ex3 ?_
  refine lv_istore_n (lv' := [(1, .int _), (0, .ref _)]) C.1 C.2.1 dX8_tree_11 rfl hl (by decide) rfl (fun ls hl => ?_)
  refine lv_iload_n C.1 C.2.1 dX8_tree_12 rfl (lv_at hl 0 rfl) ?_
  refine lv_if_ge (tgt := 18) C.1 C.2.1 dX8_tree_13 (by decide) (fun cd => ?_) (fun cd => ?_)
  · have h := ite_t cd h
    refine lv_aload_n C.1 C.2.1 dX8_tree_18 rfl (lv_at hl 1 rfl) ?_
    refine gf_X8_49 C hw dX8_tree_19 ?_
    have hk4 := (hw.2.1 rfl).2.2.1
    refine lv_astore_n (lv' := [(2, .ref _), (1, .int _), (0, .ref _)]) C.1 C.2.1 dX8_tree_22 rfl hl (by decide) rfl (fun ls hl => ?_)
    refine lv_aload_n C.1 C.2.1 dX8_tree_23 rfl (lv_at hl 2 rfl) ?_
    refine lv_aload_n C.1 C.2.1 dX8_tree_24 rfl (lv_at hl 2 rfl) ?_
    refine gf_X8_53 C hw dX8_tree_25 ?_
    have hk5 := (hw.2.1 rfl).2.2.2
    refine pf_X8_49 C hw hk5 dX8_tree_28 (fun H locs hw => ?_)
    obtain ⟨σ6, eσ6, h⟩ := lt_of h
    rw [← eσ6] at hw
    refine lv_aload_n C.1 C.2.1 dX8_tree_31 rfl (lv_at hl 2 rfl) ?_
    refine lv_aload_n C.1 C.2.1 dX8_tree_32 rfl (lv_at hl 0 rfl) ?_
    refine pf_X8_53 C hw hk4 dX8_tree_33 (fun H locs hw => ?_)
    obtain ⟨σ7, eσ7, h⟩ := lt_of h
    rw [← eσ7] at hw
    refine lv_aload_n C.1 C.2.1 dX8_tree_36 rfl (lv_at hl 2 rfl) ?_
    refine gf_X8_10 C hw dX8_tree_37 ?_
    refine lv_iconst (v := (0 : Int32)) C.1 C.2.1 dX8_tree_40 (by decide) ?_
    refine pf_X8_57 C hw dX8_tree_41 (fun H locs hw => ?_)
    obtain ⟨σ8, eσ8, h⟩ := lt_of h
    rw [← eσ8] at hw
    refine lv_iload_n C.1 C.2.1 dX8_tree_44 rfl (lv_at hl 1 rfl) ?_
    exact m_iret C hw (ret_p h) dX8_tree_45
  · have h := ite_f cd h
    refine lv_iload_n C.1 C.2.1 dX8_tree_16 rfl (lv_at hl 0 rfl) ?_
    exact m_iret C hw (ret_p h) dX8_tree_17
noncomputable def f_X8_rule (a1 : Int32) (a2 : Int32) (σ : Mem) : Option Int32 :=
  if (f_X3_has (σ.2.2 4) a1 σ) = 0 then (some (-1 : Int32)) else (if a2 = (0 : Int32) then (gd (ix a1 16) (some (σ.1 (σ.2.2 4 + 1) a1.toNatClampNeg))) else (if a2 = (1 : Int32) then (gd (ix a1 16) (some (σ.1 (σ.2.2 4 + 2) a1.toNatClampNeg))) else (if a2 = (2 : Int32) then (gd (ix a1 16) (some (σ.1 (σ.2.2 4 + 3) a1.toNatClampNeg))) else (if a2 = (3 : Int32) then (gd (ix a1 16) (some (σ.1 (σ.2.2 4 + 4) a1.toNatClampNeg))) else (if a2 = (4 : Int32) then (some (f_X8_bit (σ.1 0 8) a1)) else (some (-1 : Int32)))))))
set_option maxRecDepth 20000 in
theorem c_X8_rule {l : Launch} {D : va_G} {cy : Nat → ClassId} {ad : Nat → Nat} (hj : InjW 1 ad) (a1 : Int32) (a2 : Int32)  (σ : Mem) (r : Int32) (h : f_X8_rule a1 a2 σ = some r) : CI 1 D cy ad l yX8_rule cX8_rule 3 (some .int) 1 [.ref (ad (0)), .int a1, .int a2] σ r σ := by
  refine CI.mk (by decide) hj (Nat.le_of_ble_eq_true rfl) (fun p e R s m below meth c ls C hw hl => ?_)
  have hl : lv_has ls 3 [(0, .ref (ad (0))), (1, .int a1), (2, .int a2)] := hl
  generalize ([.ref (ad (0)), .int a1, .int a2] : List Value).toArray = args at C ⊢
  have C : Cx 1 D cy ad p R s m args meth c cX8_rule 3 RX8 (some .int) 1 := C
  unfold f_X8_rule at h
  refine lv_aload_n C.1 C.2.1 dX8_rule_0 rfl (lv_at hl 0 rfl) ?_
  refine gf_X8_39 C hw dX8_rule_1 ?_
  have hk1 := (hw.2.1 rfl).1
  refine lv_iload_n C.1 C.2.1 dX8_rule_4 rfl (lv_at hl 1 rfl) ?_
  refine go_I hw (run_V (As := [.int _]) C hw (c_X3_has C.2.2.2.2.2.2.2.2.2 _ _ hk1 _) mi_X3_has mv_X3_has hk1 (ci := 3) rfl rfl lk_X8_90 (by decide) (by decide) rfl hl.1 rfl (Nat.le_of_ble_eq_true rfl) dX8_rule_5 ⟨Nat.le_refl 0, Nat.le_refl 0⟩) (fun H locs hw => ?_)
  refine lv_if_ne (tgt := 13) C.1 C.2.1 dX8_rule_8 (by decide) (fun cd => ?_) (fun cd => ?_)
  · have h := ite_f cd h
    refine lv_iload_n C.1 C.2.1 dX8_rule_13 rfl (lv_at hl 2 rfl) ?_
    by_cases cd0 : a2 = (0 : Int32)
    · have h := ite_t cd0 h
      refine m_tabIn (tgt := 48) C (0 : Int32) cd0 dX8_rule_14 (by decide) (by decide) rfl (by decide) ?_
      refine lv_aload_n C.1 C.2.1 dX8_rule_48 rfl (lv_at hl 0 rfl) ?_
      refine gf_X8_39 C hw dX8_rule_49 ?_
      have hk2 := (hw.2.1 rfl).1
      refine gf_X8_94 C hw hk2 dX8_rule_52 ?_
      refine lv_iload_n C.1 C.2.1 dX8_rule_55 rfl (lv_at hl 1 rfl) ?_
      obtain ⟨hin, h⟩ := gd_of h
      refine m_iald C hw (lawA0 hk2) hin dX8_rule_56 ?_
      exact m_iret C hw (ret_i h) dX8_rule_57
    have h := ite_f cd0 h
    by_cases cd1 : a2 = (1 : Int32)
    · have h := ite_t cd1 h
      refine m_tabIn (tgt := 58) C (1 : Int32) cd1 dX8_rule_14 (by decide) (by decide) rfl (by decide) ?_
      refine lv_aload_n C.1 C.2.1 dX8_rule_58 rfl (lv_at hl 0 rfl) ?_
      refine gf_X8_39 C hw dX8_rule_59 ?_
      have hk3 := (hw.2.1 rfl).1
      refine gf_X8_98 C hw hk3 dX8_rule_62 ?_
      refine lv_iload_n C.1 C.2.1 dX8_rule_65 rfl (lv_at hl 1 rfl) ?_
      obtain ⟨hin, h⟩ := gd_of h
      refine m_iald C hw (lawA1 hk3) hin dX8_rule_66 ?_
      exact m_iret C hw (ret_i h) dX8_rule_67
    have h := ite_f cd1 h
    by_cases cd2 : a2 = (2 : Int32)
    · have h := ite_t cd2 h
      refine m_tabIn (tgt := 68) C (2 : Int32) cd2 dX8_rule_14 (by decide) (by decide) rfl (by decide) ?_
      refine lv_aload_n C.1 C.2.1 dX8_rule_68 rfl (lv_at hl 0 rfl) ?_
      refine gf_X8_39 C hw dX8_rule_69 ?_
      have hk4 := (hw.2.1 rfl).1
      refine gf_X8_101 C hw hk4 dX8_rule_72 ?_
      refine lv_iload_n C.1 C.2.1 dX8_rule_75 rfl (lv_at hl 1 rfl) ?_
      obtain ⟨hin, h⟩ := gd_of h
      refine m_iald C hw (lawA2 hk4) hin dX8_rule_76 ?_
      exact m_iret C hw (ret_i h) dX8_rule_77
    have h := ite_f cd2 h
    by_cases cd3 : a2 = (3 : Int32)
    · have h := ite_t cd3 h
      refine m_tabIn (tgt := 78) C (3 : Int32) cd3 dX8_rule_14 (by decide) (by decide) rfl (by decide) ?_
      refine lv_aload_n C.1 C.2.1 dX8_rule_78 rfl (lv_at hl 0 rfl) ?_
      refine gf_X8_39 C hw dX8_rule_79 ?_
      have hk5 := (hw.2.1 rfl).1
      refine gf_X8_104 C hw hk5 dX8_rule_82 ?_
      refine lv_iload_n C.1 C.2.1 dX8_rule_85 rfl (lv_at hl 1 rfl) ?_
      obtain ⟨hin, h⟩ := gd_of h
      refine m_iald C hw (lawA3 hk5) hin dX8_rule_86 ?_
      exact m_iret C hw (ret_i h) dX8_rule_87
    have h := ite_f cd3 h
    by_cases cd4 : a2 = (4 : Int32)
    · have h := ite_t cd4 h
      refine m_tabIn (tgt := 88) C (4 : Int32) cd4 dX8_rule_14 (by decide) (by decide) rfl (by decide) ?_
      refine lv_aload_n C.1 C.2.1 dX8_rule_88 rfl (lv_at hl 0 rfl) ?_
      refine gf_X8_73 C hw dX8_rule_89 ?_
      refine lv_iload_n C.1 C.2.1 dX8_rule_92 rfl (lv_at hl 1 rfl) ?_
      refine go_I hw (run_S (As := [.int _, .int _]) C hw (c_X8_bit C.2.2.2.2.2.2.2.2.2 _ _ _) mi_X8_bit ms_X8_bit lk_X8_107 (by decide) (by decide) rfl hl.1 rfl (Nat.le_of_ble_eq_true rfl) dX8_rule_93 ⟨Nat.le_refl 0, Nat.le_refl 0⟩) (fun H locs hw => ?_)
      exact m_iret C hw (ret_i h) dX8_rule_96
    have h := ite_f cd4 h
    have cn0 := ne_toInt cd0
    have cn1 := ne_toInt cd1
    have cn2 := ne_toInt cd2
    have cn3 := ne_toInt cd3
    have cn4 := ne_toInt cd4
    refine m_tabOut (tgt := 97) C dX8_rule_14 (by simp only [show ((0 : Int32)).toInt = 0 from by decide, show ((1 : Int32)).toInt = 1 from by decide, show ((2 : Int32)).toInt = 2 from by decide, show ((3 : Int32)).toInt = 3 from by decide, show ((4 : Int32)).toInt = 4 from by decide] at cn0 cn1 cn2 cn3 cn4; omega) (by decide) ?_
    refine lv_iconst (v := (-1 : Int32)) C.1 C.2.1 dX8_rule_97 (by decide) ?_
    exact m_iret C hw (ret_i h) dX8_rule_98
  · have h := ite_t cd h
    refine lv_iconst (v := (-1 : Int32)) C.1 C.2.1 dX8_rule_11 (by decide) ?_
    exact m_iret C hw (ret_i h) dX8_rule_12
def j_X8_isBit_9 (a0 : Int32) (σ : Mem) : Int32 :=
  (1 : Int32)
def f_X8_isBit (a0 : Int32) (σ : Mem) : Int32 :=
  if a0 = 0 then (j_X8_isBit_9 a0 σ) else (if a0 = (1 : Int32) then (j_X8_isBit_9 a0 σ) else ((0 : Int32)))
set_option maxRecDepth 20000 in
theorem w_X8_isBit_9 {D : va_G} {cy : Nat → ClassId} {ad : Nat → Nat} {p : Program} {l : Launch} {e : Env} {R : Room} {s : State} {m : MethodId} {args : Array Value} {below : List Frame} {meth : Method} {c : Code} (C : Cx 1 D cy ad p R s m args meth c cX8_isBit 1 RX8 (some .boolean) 0) {a0 : Int32}    {σ : Mem} {H : Heap} {locs : List Loc} {ls : Array Slot} {r : Int32} (hw : Wd 1 D cy ad s σ H locs) (hl : lv_has ls 1 []) (h : j_X8_isBit_9 a0 σ = r) : W p l e R s m args below meth c H locs 0 0 (QI 1 D cy ad below args s r σ) (F0 m 9 ls []) := by
  unfold j_X8_isBit_9 at h
  refine lv_iconst (v := (1 : Int32)) C.1 C.2.1 dX8_isBit_9 (by decide) ?_
  refine lv_goto (tgt := 14) C.1 C.2.1 dX8_isBit_10 (by decide) ?_
  exact m_zret C hw (by decide) ⟨h, rfl⟩ dX8_isBit_14
set_option maxRecDepth 20000 in
theorem c_X8_isBit {l : Launch} {D : va_G} {cy : Nat → ClassId} {ad : Nat → Nat} (hj : InjW 1 ad) (a0 : Int32)  (σ : Mem) : CI 1 D cy ad l yX8_isBit cX8_isBit 1 (some .boolean) 0 [.int a0] σ (f_X8_isBit a0 σ) σ := by
  refine CI.mk (by decide) hj (Nat.le_of_ble_eq_true rfl) (fun p e R s m below meth c ls C hw hl => ?_)
  have hl : lv_has ls 1 [(0, .int a0)] := hl
  generalize ([.int a0] : List Value).toArray = args at C ⊢
  have C : Cx 1 D cy ad p R s m args meth c cX8_isBit 1 RX8 (some .boolean) 0 := C
  obtain ⟨r, h⟩ : ∃ r, f_X8_isBit a0 σ = r := ⟨_, rfl⟩
  rw [h]
  unfold f_X8_isBit at h
  refine lv_iload_n C.1 C.2.1 dX8_isBit_0 rfl (lv_at hl 0 rfl) ?_
  refine lv_if_eq (tgt := 9) C.1 C.2.1 dX8_isBit_1 (by decide) (fun cd => ?_) (fun cd => ?_)
  · have h := ite_t cd h
    exact w_X8_isBit_9 C hw (lv_sub hl [] rfl) h
  · have h := ite_f cd h
    refine lv_iload_n C.1 C.2.1 dX8_isBit_4 rfl (lv_at hl 0 rfl) ?_
    refine lv_iconst (v := (1 : Int32)) C.1 C.2.1 dX8_isBit_5 (by decide) ?_
    refine lv_icmp_ne (tgt := 13) C.1 C.2.1 dX8_isBit_6 (by decide) (fun cd => ?_) (fun cd => ?_)
    · have h := ite_f cd h
      refine lv_iconst (v := (0 : Int32)) C.1 C.2.1 dX8_isBit_13 (by decide) ?_
      exact m_zret C hw (by decide) ⟨h, rfl⟩ dX8_isBit_14
    · have h := ite_t cd h
      exact w_X8_isBit_9 C hw (lv_sub hl [] rfl) h
def f_X8_withBit (a0 : Int32) (a1 : Int32) (a2 : Int32) : Int32 :=
  if a2 = (1 : Int32) then (a0 ||| ((1 : Int32) <<< (a1 &&& 31))) else (a0 &&& (((1 : Int32) <<< (a1 &&& 31)) ^^^ (-1 : Int32)))
set_option maxRecDepth 20000 in
theorem c_X8_withBit {l : Launch} {D : va_G} {cy : Nat → ClassId} {ad : Nat → Nat} (hj : InjW 1 ad) (a0 : Int32) (a1 : Int32) (a2 : Int32)  (σ : Mem) : CI 1 D cy ad l yX8_withBit cX8_withBit 3 (some .int) 0 [.int a0, .int a1, .int a2] σ (f_X8_withBit a0 a1 a2) σ := by
  refine CI.mk (by decide) hj (Nat.le_of_ble_eq_true rfl) (fun p e R s m below meth c ls C hw hl => ?_)
  have hl : lv_has ls 3 [(0, .int a0), (1, .int a1), (2, .int a2)] := hl
  generalize ([.int a0, .int a1, .int a2] : List Value).toArray = args at C ⊢
  have C : Cx 1 D cy ad p R s m args meth c cX8_withBit 3 RX8 (some .int) 0 := C
  obtain ⟨r, h⟩ : ∃ r, f_X8_withBit a0 a1 a2 = r := ⟨_, rfl⟩
  rw [h]
  unfold f_X8_withBit at h
  refine lv_iload_n C.1 C.2.1 dX8_withBit_0 rfl (lv_at hl 2 rfl) ?_
  refine lv_iconst (v := (1 : Int32)) C.1 C.2.1 dX8_withBit_1 (by decide) ?_
  refine lv_icmp_ne (tgt := 13) C.1 C.2.1 dX8_withBit_2 (by decide) (fun cd => ?_) (fun cd => ?_)
  · have h := ite_f cd h
    refine lv_iload_n C.1 C.2.1 dX8_withBit_13 rfl (lv_at hl 0 rfl) ?_
    refine lv_iconst (v := (1 : Int32)) C.1 C.2.1 dX8_withBit_14 (by decide) ?_
    refine lv_iload_n C.1 C.2.1 dX8_withBit_15 rfl (lv_at hl 1 rfl) ?_
    refine lv_ishl C.1 C.2.1 dX8_withBit_16 ?_
    refine lv_iconst (v := (-1 : Int32)) C.1 C.2.1 dX8_withBit_17 (by decide) ?_
    refine lv_ixor C.1 C.2.1 dX8_withBit_18 ?_
    refine lv_iand C.1 C.2.1 dX8_withBit_19 ?_
    exact m_iret C hw ⟨h, rfl⟩ dX8_withBit_20
  · have h := ite_t cd h
    refine lv_iload_n C.1 C.2.1 dX8_withBit_5 rfl (lv_at hl 0 rfl) ?_
    refine lv_iconst (v := (1 : Int32)) C.1 C.2.1 dX8_withBit_6 (by decide) ?_
    refine lv_iload_n C.1 C.2.1 dX8_withBit_7 rfl (lv_at hl 1 rfl) ?_
    refine lv_ishl C.1 C.2.1 dX8_withBit_8 ?_
    refine lv_ior C.1 C.2.1 dX8_withBit_9 ?_
    refine lv_goto (tgt := 20) C.1 C.2.1 dX8_withBit_10 (by decide) ?_
    exact m_iret C hw ⟨h, rfl⟩ dX8_withBit_20
noncomputable def f_X8_turn (a1 : Int32) (a2 : Int32) (σ : Mem) : Option (Int32 × Mem) :=
  if (f_X3_has (σ.2.2 4) a1 σ) = 0 then (some ((-1 : Int32), σ)) else (if (f_X8_isBit a2 σ) = 0 then (some ((-1 : Int32), σ)) else (lt (f_X8_bit (σ.1 0 8) a1) (fun x2 => lt (sI σ 0 8 (f_X8_withBit (σ.1 0 8) a1 a2)) (fun σ3 => some (x2, σ3)))))
set_option maxRecDepth 20000 in
theorem c_X8_turn {l : Launch} {D : va_G} {cy : Nat → ClassId} {ad : Nat → Nat} (hj : InjW 1 ad) (a1 : Int32) (a2 : Int32)  (σ : Mem) (r : (Int32 × Mem)) (h : f_X8_turn a1 a2 σ = some r) : CI 1 D cy ad l yX8_turn cX8_turn 4 (some .int) 1 [.ref (ad (0)), .int a1, .int a2] σ r.1 r.2 := by
  refine CI.mk (by decide) hj (Nat.le_of_ble_eq_true rfl) (fun p e R s m below meth c ls C hw hl => ?_)
  have hl : lv_has ls 4 [(0, .ref (ad (0))), (1, .int a1), (2, .int a2)] := hl
  generalize ([.ref (ad (0)), .int a1, .int a2] : List Value).toArray = args at C ⊢
  have C : Cx 1 D cy ad p R s m args meth c cX8_turn 4 RX8 (some .int) 1 := C
  unfold f_X8_turn at h
  refine lv_aload_n C.1 C.2.1 dX8_turn_0 rfl (lv_at hl 0 rfl) ?_
  refine gf_X8_39 C hw dX8_turn_1 ?_
  have hk1 := (hw.2.1 rfl).1
  refine lv_iload_n C.1 C.2.1 dX8_turn_4 rfl (lv_at hl 1 rfl) ?_
  refine go_I hw (run_V (As := [.int _]) C hw (c_X3_has C.2.2.2.2.2.2.2.2.2 _ _ hk1 _) mi_X3_has mv_X3_has hk1 (ci := 3) rfl rfl lk_X8_90 (by decide) (by decide) rfl hl.1 rfl (Nat.le_of_ble_eq_true rfl) dX8_turn_5 ⟨Nat.le_refl 0, Nat.le_refl 0⟩) (fun H locs hw => ?_)
  refine lv_if_eq (tgt := 18) C.1 C.2.1 dX8_turn_8 (by decide) (fun cd => ?_) (fun cd => ?_)
  · have h := ite_t cd h
    refine lv_iconst (v := (-1 : Int32)) C.1 C.2.1 dX8_turn_18 (by decide) ?_
    exact m_iret C hw (ret_p h) dX8_turn_19
  · have h := ite_f cd h
    refine lv_iload_n C.1 C.2.1 dX8_turn_11 rfl (lv_at hl 2 rfl) ?_
    refine go_I hw (run_S (As := [.int _]) C hw (c_X8_isBit C.2.2.2.2.2.2.2.2.2 _ _) mi_X8_isBit ms_X8_isBit lk_X8_111 (by decide) (by decide) rfl hl.1 rfl (Nat.le_of_ble_eq_true rfl) dX8_turn_12 ⟨Nat.le_refl 0, Nat.le_refl 0⟩) (fun H locs hw => ?_)
    refine lv_if_ne (tgt := 20) C.1 C.2.1 dX8_turn_15 (by decide) (fun cd => ?_) (fun cd => ?_)
    · have h := ite_f cd h
      refine lv_aload_n C.1 C.2.1 dX8_turn_20 rfl (lv_at hl 0 rfl) ?_
      refine gf_X8_73 C hw dX8_turn_21 ?_
      refine lv_iload_n C.1 C.2.1 dX8_turn_24 rfl (lv_at hl 1 rfl) ?_
      refine go_I hw (run_S (As := [.int _, .int _]) C hw (c_X8_bit C.2.2.2.2.2.2.2.2.2 _ _ _) mi_X8_bit ms_X8_bit lk_X8_107 (by decide) (by decide) rfl hl.1 rfl (Nat.le_of_ble_eq_true rfl) dX8_turn_25 ⟨Nat.le_refl 0, Nat.le_refl 0⟩) (fun H locs hw => ?_)
      obtain ⟨x2, ex2, h⟩ := lt_of h
      refine m_topi ex2 ?_
      refine lv_istore_n (lv' := [(3, .int _), (0, .ref _), (1, .int _), (2, .int _)]) C.1 C.2.1 dX8_turn_28 rfl hl (by decide) rfl (fun ls hl => ?_)
      refine lv_aload_n C.1 C.2.1 dX8_turn_29 rfl (lv_at hl 1 rfl) ?_
      refine lv_aload_n C.1 C.2.1 dX8_turn_30 rfl (lv_at hl 1 rfl) ?_
      refine gf_X8_73 C hw dX8_turn_31 ?_
      refine lv_iload_n C.1 C.2.1 dX8_turn_34 rfl (lv_at hl 2 rfl) ?_
      refine lv_iload_n C.1 C.2.1 dX8_turn_35 rfl (lv_at hl 3 rfl) ?_
      refine go_I hw (run_S (As := [.int _, .int _, .int _]) C hw (c_X8_withBit C.2.2.2.2.2.2.2.2.2 _ _ _ _) mi_X8_withBit ms_X8_withBit lk_X8_114 (by decide) (by decide) rfl hl.1 rfl (Nat.le_of_ble_eq_true rfl) dX8_turn_36 ⟨Nat.le_refl 0, Nat.le_refl 0⟩) (fun H locs hw => ?_)
      refine pf_X8_73 C hw dX8_turn_39 (fun H locs hw => ?_)
      obtain ⟨σ3, eσ3, h⟩ := lt_of h
      rw [← eσ3] at hw
      refine lv_iload_n C.1 C.2.1 dX8_turn_42 rfl (lv_at hl 0 rfl) ?_
      exact m_iret C hw (ret_p h) dX8_turn_43
    · have h := ite_t cd h
      refine lv_iconst (v := (-1 : Int32)) C.1 C.2.1 dX8_turn_18 (by decide) ?_
      exact m_iret C hw (ret_p h) dX8_turn_19
noncomputable def f_X8_good (a1 : Int32) (a2 : Int32) (σ : Mem) : Option (Int32 × Mem) :=
  if (f_X8_isState a1) = 0 then (some ((-1 : Int32), σ)) else (if (f_X8_isBit a2 σ) = 0 then (some ((-1 : Int32), σ)) else (lt (f_X8_bit (σ.1 0 9) a1) (fun x1 => lt (sI σ 0 9 (f_X8_withBit (σ.1 0 9) a1 a2)) (fun σ2 => some (x1, σ2)))))
set_option maxRecDepth 20000 in
theorem c_X8_good {l : Launch} {D : va_G} {cy : Nat → ClassId} {ad : Nat → Nat} (hj : InjW 1 ad) (a1 : Int32) (a2 : Int32)  (σ : Mem) (r : (Int32 × Mem)) (h : f_X8_good a1 a2 σ = some r) : CI 1 D cy ad l yX8_good cX8_good 4 (some .int) 1 [.ref (ad (0)), .int a1, .int a2] σ r.1 r.2 := by
  refine CI.mk (by decide) hj (Nat.le_of_ble_eq_true rfl) (fun p e R s m below meth c ls C hw hl => ?_)
  have hl : lv_has ls 4 [(0, .ref (ad (0))), (1, .int a1), (2, .int a2)] := hl
  generalize ([.ref (ad (0)), .int a1, .int a2] : List Value).toArray = args at C ⊢
  have C : Cx 1 D cy ad p R s m args meth c cX8_good 4 RX8 (some .int) 1 := C
  unfold f_X8_good at h
  refine lv_iload_n C.1 C.2.1 dX8_good_0 rfl (lv_at hl 1 rfl) ?_
  refine go_I hw (run_S (As := [.int _]) C hw (c_X8_isState C.2.2.2.2.2.2.2.2.2 _ _) mi_X8_isState ms_X8_isState lk_X8_118 (by decide) (by decide) rfl hl.1 rfl (Nat.le_of_ble_eq_true rfl) dX8_good_1 ⟨Nat.le_refl 0, Nat.le_refl 0⟩) (fun H locs hw => ?_)
  refine lv_if_eq (tgt := 14) C.1 C.2.1 dX8_good_4 (by decide) (fun cd => ?_) (fun cd => ?_)
  · have h := ite_t cd h
    refine lv_iconst (v := (-1 : Int32)) C.1 C.2.1 dX8_good_14 (by decide) ?_
    exact m_iret C hw (ret_p h) dX8_good_15
  · have h := ite_f cd h
    refine lv_iload_n C.1 C.2.1 dX8_good_7 rfl (lv_at hl 2 rfl) ?_
    refine go_I hw (run_S (As := [.int _]) C hw (c_X8_isBit C.2.2.2.2.2.2.2.2.2 _ _) mi_X8_isBit ms_X8_isBit lk_X8_111 (by decide) (by decide) rfl hl.1 rfl (Nat.le_of_ble_eq_true rfl) dX8_good_8 ⟨Nat.le_refl 0, Nat.le_refl 0⟩) (fun H locs hw => ?_)
    refine lv_if_ne (tgt := 16) C.1 C.2.1 dX8_good_11 (by decide) (fun cd => ?_) (fun cd => ?_)
    · have h := ite_f cd h
      refine lv_aload_n C.1 C.2.1 dX8_good_16 rfl (lv_at hl 0 rfl) ?_
      refine gf_X8_79 C hw dX8_good_17 ?_
      refine lv_iload_n C.1 C.2.1 dX8_good_20 rfl (lv_at hl 1 rfl) ?_
      refine go_I hw (run_S (As := [.int _, .int _]) C hw (c_X8_bit C.2.2.2.2.2.2.2.2.2 _ _ _) mi_X8_bit ms_X8_bit lk_X8_107 (by decide) (by decide) rfl hl.1 rfl (Nat.le_of_ble_eq_true rfl) dX8_good_21 ⟨Nat.le_refl 0, Nat.le_refl 0⟩) (fun H locs hw => ?_)
      obtain ⟨x1, ex1, h⟩ := lt_of h
      refine m_topi ex1 ?_
      refine lv_istore_n (lv' := [(3, .int _), (0, .ref _), (1, .int _), (2, .int _)]) C.1 C.2.1 dX8_good_24 rfl hl (by decide) rfl (fun ls hl => ?_)
      refine lv_aload_n C.1 C.2.1 dX8_good_25 rfl (lv_at hl 1 rfl) ?_
      refine lv_aload_n C.1 C.2.1 dX8_good_26 rfl (lv_at hl 1 rfl) ?_
      refine gf_X8_79 C hw dX8_good_27 ?_
      refine lv_iload_n C.1 C.2.1 dX8_good_30 rfl (lv_at hl 2 rfl) ?_
      refine lv_iload_n C.1 C.2.1 dX8_good_31 rfl (lv_at hl 3 rfl) ?_
      refine go_I hw (run_S (As := [.int _, .int _, .int _]) C hw (c_X8_withBit C.2.2.2.2.2.2.2.2.2 _ _ _ _) mi_X8_withBit ms_X8_withBit lk_X8_114 (by decide) (by decide) rfl hl.1 rfl (Nat.le_of_ble_eq_true rfl) dX8_good_32 ⟨Nat.le_refl 0, Nat.le_refl 0⟩) (fun H locs hw => ?_)
      refine pf_X8_79 C hw dX8_good_35 (fun H locs hw => ?_)
      obtain ⟨σ2, eσ2, h⟩ := lt_of h
      rw [← eσ2] at hw
      refine lv_iload_n C.1 C.2.1 dX8_good_38 rfl (lv_at hl 0 rfl) ?_
      exact m_iret C hw (ret_p h) dX8_good_39
    · have h := ite_t cd h
      refine lv_iconst (v := (-1 : Int32)) C.1 C.2.1 dX8_good_14 (by decide) ?_
      exact m_iret C hw (ret_p h) dX8_good_15
noncomputable def f_X8_comesTo (a1 : Int32) (σ : Mem) : Option (Int32 × Mem) :=
  (f_X0_come (σ.2.2 6) (σ.2.2 4) (σ.1 0 8) σ).bind (fun r3 => gd (ix a1 31) (some (r3.1 5 a1.toNatClampNeg, r3)))
set_option maxRecDepth 20000 in
theorem c_X8_comesTo {l : Launch} {D : va_G} {cy : Nat → ClassId} {ad : Nat → Nat} (hj : InjW 1 ad) (a1 : Int32)  (σ : Mem) (r : (Int32 × Mem)) (h : f_X8_comesTo a1 σ = some r) : CI 1 D cy ad l yX8_comesTo cX8_comesTo 2 (some .int) 4 [.ref (ad (0)), .int a1] σ r.1 r.2 := by
  refine CI.mk (by decide) hj (Nat.le_of_ble_eq_true rfl) (fun p e R s m below meth c ls C hw hl => ?_)
  have hl : lv_has ls 2 [(0, .ref (ad (0))), (1, .int a1)] := hl
  generalize ([.ref (ad (0)), .int a1] : List Value).toArray = args at C ⊢
  have C : Cx 1 D cy ad p R s m args meth c cX8_comesTo 2 RX8 (some .int) 4 := C
  unfold f_X8_comesTo at h
  refine lv_aload_n C.1 C.2.1 dX8_comesTo_0 rfl (lv_at hl 0 rfl) ?_
  refine gf_X8_25 C hw dX8_comesTo_1 ?_
  refine lv_aload_n C.1 C.2.1 dX8_comesTo_4 rfl (lv_at hl 0 rfl) ?_
  refine gf_X8_49 C hw dX8_comesTo_5 ?_
  have hk1 := (hw.2.1 rfl).2.2.1
  refine lv_aload_n C.1 C.2.1 dX8_comesTo_8 rfl (lv_at hl 0 rfl) ?_
  refine gf_X8_39 C hw dX8_comesTo_9 ?_
  have hk2 := (hw.2.1 rfl).1
  refine lv_aload_n C.1 C.2.1 dX8_comesTo_12 rfl (lv_at hl 0 rfl) ?_
  refine gf_X8_73 C hw dX8_comesTo_13 ?_
  obtain ⟨r3, h1, h⟩ := bS h
  refine go_V hw (run_V (As := [.ref _, .ref _, .int _]) C hw (c_X0_come C.2.2.2.2.2.2.2.2.2 _ _ _ hk1 hk2 _ _ h1) mi_X0_come mv_X0_come o1_4 (ci := 0) rfl rfl lk_X8_149 (by decide) (by decide) rfl hl.1 rfl (Nat.le_of_ble_eq_true rfl) dX8_comesTo_16 ⟨Nat.le_refl 0, Nat.le_refl 0⟩) (fun H locs hw => ?_)
  refine lv_aload_n C.1 C.2.1 dX8_comesTo_19 rfl (lv_at hl 0 rfl) ?_
  refine gf_X8_25 C hw dX8_comesTo_20 ?_
  refine gf_X8_152 C hw dX8_comesTo_23 ?_
  refine lv_iload_n C.1 C.2.1 dX8_comesTo_26 rfl (lv_at hl 1 rfl) ?_
  obtain ⟨hin, h⟩ := gd_of h
  refine m_iald C hw a1_5 hin dX8_comesTo_27 ?_
  exact m_iret C hw (ret_p h) dX8_comesTo_28
noncomputable def f_X8_node (a1 : Int32) (a2 : Int32) (σ : Mem) : Option (Int32 × Mem) :=
  if (f_X7_has (σ.2.2 6) a1 σ) = 0 then (some ((-1 : Int32), σ)) else (if a2 = (0 : Int32) then (gd (ix a1 31) (some (σ.1 (σ.2.2 6 + 1) a1.toNatClampNeg, σ))) else (if a2 = (1 : Int32) then (gd (ix a1 31) (some (σ.1 (σ.2.2 6 + 2) a1.toNatClampNeg, σ))) else (if a2 = (2 : Int32) then (gd (ix a1 31) (some (σ.1 (σ.2.2 6 + 3) a1.toNatClampNeg, σ))) else (if a2 = (3 : Int32) then ((f_X8_comesTo a1 σ).bind (fun r5 => some (r5.1, r5.2))) else (some ((-1 : Int32), σ))))))
set_option maxRecDepth 20000 in
theorem c_X8_node {l : Launch} {D : va_G} {cy : Nat → ClassId} {ad : Nat → Nat} (hj : InjW 1 ad) (a1 : Int32) (a2 : Int32)  (σ : Mem) (r : (Int32 × Mem)) (h : f_X8_node a1 a2 σ = some r) : CI 1 D cy ad l yX8_node cX8_node 3 (some .int) 5 [.ref (ad (0)), .int a1, .int a2] σ r.1 r.2 := by
  refine CI.mk (by decide) hj (Nat.le_of_ble_eq_true rfl) (fun p e R s m below meth c ls C hw hl => ?_)
  have hl : lv_has ls 3 [(0, .ref (ad (0))), (1, .int a1), (2, .int a2)] := hl
  generalize ([.ref (ad (0)), .int a1, .int a2] : List Value).toArray = args at C ⊢
  have C : Cx 1 D cy ad p R s m args meth c cX8_node 3 RX8 (some .int) 5 := C
  unfold f_X8_node at h
  refine lv_aload_n C.1 C.2.1 dX8_node_0 rfl (lv_at hl 0 rfl) ?_
  refine gf_X8_49 C hw dX8_node_1 ?_
  have hk1 := (hw.2.1 rfl).2.2.1
  refine lv_iload_n C.1 C.2.1 dX8_node_4 rfl (lv_at hl 1 rfl) ?_
  refine go_I hw (run_V (As := [.int _]) C hw (c_X7_has C.2.2.2.2.2.2.2.2.2 _ _ hk1 _) mi_X7_has mv_X7_has hk1 (ci := 7) rfl rfl lk_X8_121 (by decide) (by decide) rfl hl.1 rfl (Nat.le_of_ble_eq_true rfl) dX8_node_5 ⟨Nat.le_refl 0, Nat.le_refl 0⟩) (fun H locs hw => ?_)
  refine lv_if_ne (tgt := 13) C.1 C.2.1 dX8_node_8 (by decide) (fun cd => ?_) (fun cd => ?_)
  · have h := ite_f cd h
    refine lv_iload_n C.1 C.2.1 dX8_node_13 rfl (lv_at hl 2 rfl) ?_
    by_cases cd0 : a2 = (0 : Int32)
    · have h := ite_t cd0 h
      refine m_tabIn (tgt := 44) C (0 : Int32) cd0 dX8_node_14 (by decide) (by decide) rfl (by decide) ?_
      refine lv_aload_n C.1 C.2.1 dX8_node_44 rfl (lv_at hl 0 rfl) ?_
      refine gf_X8_49 C hw dX8_node_45 ?_
      have hk2 := (hw.2.1 rfl).2.2.1
      refine gf_X8_122 C hw hk2 dX8_node_48 ?_
      refine lv_iload_n C.1 C.2.1 dX8_node_51 rfl (lv_at hl 1 rfl) ?_
      obtain ⟨hin, h⟩ := gd_of h
      refine m_iald C hw (treeA0 hk2) hin dX8_node_52 ?_
      exact m_iret C hw (ret_p h) dX8_node_53
    have h := ite_f cd0 h
    by_cases cd1 : a2 = (1 : Int32)
    · have h := ite_t cd1 h
      refine m_tabIn (tgt := 54) C (1 : Int32) cd1 dX8_node_14 (by decide) (by decide) rfl (by decide) ?_
      refine lv_aload_n C.1 C.2.1 dX8_node_54 rfl (lv_at hl 0 rfl) ?_
      refine gf_X8_49 C hw dX8_node_55 ?_
      have hk3 := (hw.2.1 rfl).2.2.1
      refine gf_X8_123 C hw hk3 dX8_node_58 ?_
      refine lv_iload_n C.1 C.2.1 dX8_node_61 rfl (lv_at hl 1 rfl) ?_
      obtain ⟨hin, h⟩ := gd_of h
      refine m_iald C hw (treeA1 hk3) hin dX8_node_62 ?_
      exact m_iret C hw (ret_p h) dX8_node_63
    have h := ite_f cd1 h
    by_cases cd2 : a2 = (2 : Int32)
    · have h := ite_t cd2 h
      refine m_tabIn (tgt := 64) C (2 : Int32) cd2 dX8_node_14 (by decide) (by decide) rfl (by decide) ?_
      refine lv_aload_n C.1 C.2.1 dX8_node_64 rfl (lv_at hl 0 rfl) ?_
      refine gf_X8_49 C hw dX8_node_65 ?_
      have hk4 := (hw.2.1 rfl).2.2.1
      refine gf_X8_126 C hw hk4 dX8_node_68 ?_
      refine lv_iload_n C.1 C.2.1 dX8_node_71 rfl (lv_at hl 1 rfl) ?_
      obtain ⟨hin, h⟩ := gd_of h
      refine m_iald C hw (treeA2 hk4) hin dX8_node_72 ?_
      exact m_iret C hw (ret_p h) dX8_node_73
    have h := ite_f cd2 h
    by_cases cd3 : a2 = (3 : Int32)
    · have h := ite_t cd3 h
      refine m_tabIn (tgt := 74) C (3 : Int32) cd3 dX8_node_14 (by decide) (by decide) rfl (by decide) ?_
      refine lv_aload_n C.1 C.2.1 dX8_node_74 rfl (lv_at hl 0 rfl) ?_
      refine lv_iload_n C.1 C.2.1 dX8_node_75 rfl (lv_at hl 1 rfl) ?_
      obtain ⟨r5, h1, h⟩ := bS h
      refine go_I hw (run_V (As := [.int _]) C hw (c_X8_comesTo C.2.2.2.2.2.2.2.2.2 _ _ _ h1) mi_X8_comesTo mv_X8_comesTo o1_0 (ci := 8) rfl rfl lk_X8_129 (by decide) (by decide) rfl hl.1 rfl (Nat.le_of_ble_eq_true rfl) dX8_node_76 ⟨Nat.le_refl 0, Nat.le_refl 0⟩) (fun H locs hw => ?_)
      exact m_iret C hw (ret_p h) dX8_node_79
    have h := ite_f cd3 h
    have cn0 := ne_toInt cd0
    have cn1 := ne_toInt cd1
    have cn2 := ne_toInt cd2
    have cn3 := ne_toInt cd3
    refine m_tabOut (tgt := 80) C dX8_node_14 (by simp only [show ((0 : Int32)).toInt = 0 from by decide, show ((1 : Int32)).toInt = 1 from by decide, show ((2 : Int32)).toInt = 2 from by decide, show ((3 : Int32)).toInt = 3 from by decide] at cn0 cn1 cn2 cn3; omega) (by decide) ?_
    refine lv_iconst (v := (-1 : Int32)) C.1 C.2.1 dX8_node_80 (by decide) ?_
    exact m_iret C hw (ret_p h) dX8_node_81
  · have h := ite_t cd h
    refine lv_iconst (v := (-1 : Int32)) C.1 C.2.1 dX8_node_11 (by decide) ?_
    exact m_iret C hw (ret_p h) dX8_node_12
noncomputable def f_X8_sign (a1 : Int32) (a2 : Int32) (σ : Mem) : Option (Int32 × Mem) :=
  if (f_X7_has (σ.2.2 6) a1 σ) = 0 then (some ((-1 : Int32), σ)) else (if a2 < 0 then (some ((-1 : Int32), σ)) else (if (8 : Int32) ≤ a2 then (some ((-1 : Int32), σ)) else (gd (ix a1 31) (if (f_X8_armsOf a2) = (f_X8_armsOf (σ.1 (σ.2.2 6 + 1) a1.toNatClampNeg)) then (gd (ix a1 31) (lt (σ.1 (σ.2.2 6 + 1) a1.toNatClampNeg) (fun x4 => gd (ix a1 31) (lt (sI σ (σ.2.2 6 + 1) a1.toNatClampNeg a2) (fun σ6 => some (x4, σ6)))))) else (some ((-1 : Int32), σ))))))
set_option maxRecDepth 20000 in
theorem c_X8_sign {l : Launch} {D : va_G} {cy : Nat → ClassId} {ad : Nat → Nat} (hj : InjW 1 ad) (a1 : Int32) (a2 : Int32)  (σ : Mem) (r : (Int32 × Mem)) (h : f_X8_sign a1 a2 σ = some r) : CI 1 D cy ad l yX8_sign cX8_sign 4 (some .int) 1 [.ref (ad (0)), .int a1, .int a2] σ r.1 r.2 := by
  refine CI.mk (by decide) hj (Nat.le_of_ble_eq_true rfl) (fun p e R s m below meth c ls C hw hl => ?_)
  have hl : lv_has ls 4 [(0, .ref (ad (0))), (1, .int a1), (2, .int a2)] := hl
  generalize ([.ref (ad (0)), .int a1, .int a2] : List Value).toArray = args at C ⊢
  have C : Cx 1 D cy ad p R s m args meth c cX8_sign 4 RX8 (some .int) 1 := C
  unfold f_X8_sign at h
  refine lv_aload_n C.1 C.2.1 dX8_sign_0 rfl (lv_at hl 0 rfl) ?_
  refine gf_X8_49 C hw dX8_sign_1 ?_
  have hk1 := (hw.2.1 rfl).2.2.1
  refine lv_iload_n C.1 C.2.1 dX8_sign_4 rfl (lv_at hl 1 rfl) ?_
  refine go_I hw (run_V (As := [.int _]) C hw (c_X7_has C.2.2.2.2.2.2.2.2.2 _ _ hk1 _) mi_X7_has mv_X7_has hk1 (ci := 7) rfl rfl lk_X8_121 (by decide) (by decide) rfl hl.1 rfl (Nat.le_of_ble_eq_true rfl) dX8_sign_5 ⟨Nat.le_refl 0, Nat.le_refl 0⟩) (fun H locs hw => ?_)
  refine lv_if_eq (tgt := 40) C.1 C.2.1 dX8_sign_8 (by decide) (fun cd => ?_) (fun cd => ?_)
  · have h := ite_t cd h
    refine lv_iconst (v := (-1 : Int32)) C.1 C.2.1 dX8_sign_40 (by decide) ?_
    exact m_iret C hw (ret_p h) dX8_sign_41
  · have h := ite_f cd h
    refine lv_iload_n C.1 C.2.1 dX8_sign_11 rfl (lv_at hl 2 rfl) ?_
    refine lv_if_lt (tgt := 40) C.1 C.2.1 dX8_sign_12 (by decide) (fun cd => ?_) (fun cd => ?_)
    · have h := ite_t cd h
      refine lv_iconst (v := (-1 : Int32)) C.1 C.2.1 dX8_sign_40 (by decide) ?_
      exact m_iret C hw (ret_p h) dX8_sign_41
    · have h := ite_f cd h
      refine lv_iload_n C.1 C.2.1 dX8_sign_15 rfl (lv_at hl 2 rfl) ?_
      refine lv_bipush (v := (8 : Int32)) C.1 C.2.1 dX8_sign_16 (by decide) ?_
      refine lv_icmp_ge (tgt := 40) C.1 C.2.1 dX8_sign_18 (by decide) (fun cd => ?_) (fun cd => ?_)
      · have h := ite_t cd h
        refine lv_iconst (v := (-1 : Int32)) C.1 C.2.1 dX8_sign_40 (by decide) ?_
        exact m_iret C hw (ret_p h) dX8_sign_41
      · have h := ite_f cd h
        refine lv_iload_n C.1 C.2.1 dX8_sign_21 rfl (lv_at hl 2 rfl) ?_
        refine go_I hw (run_S (As := [.int _]) C hw (c_X8_armsOf C.2.2.2.2.2.2.2.2.2 _ _) mi_X8_armsOf ms_X8_armsOf lk_X8_133 (by decide) (by decide) rfl hl.1 rfl (Nat.le_of_ble_eq_true rfl) dX8_sign_22 ⟨Nat.le_refl 0, Nat.le_refl 0⟩) (fun H locs hw => ?_)
        refine lv_aload_n C.1 C.2.1 dX8_sign_25 rfl (lv_at hl 0 rfl) ?_
        refine gf_X8_49 C hw dX8_sign_26 ?_
        have hk2 := (hw.2.1 rfl).2.2.1
        refine gf_X8_122 C hw hk2 dX8_sign_29 ?_
        refine lv_iload_n C.1 C.2.1 dX8_sign_32 rfl (lv_at hl 1 rfl) ?_
        obtain ⟨hin, h⟩ := gd_of h
        refine m_iald C hw (treeA0 hk2) hin dX8_sign_33 ?_
        refine go_I hw (run_S (As := [.int _]) C hw (c_X8_armsOf C.2.2.2.2.2.2.2.2.2 _ _) mi_X8_armsOf ms_X8_armsOf lk_X8_133 (by decide) (by decide) rfl hl.1 rfl (Nat.le_of_ble_eq_true rfl) dX8_sign_34 ⟨Nat.le_refl 0, Nat.le_refl 0⟩) (fun H locs hw => ?_)
        refine lv_icmp_eq (tgt := 42) C.1 C.2.1 dX8_sign_37 (by decide) (fun cd => ?_) (fun cd => ?_)
        · have h := ite_t cd h
          refine lv_aload_n C.1 C.2.1 dX8_sign_42 rfl (lv_at hl 0 rfl) ?_
          refine gf_X8_49 C hw dX8_sign_43 ?_
          have hk3 := (hw.2.1 rfl).2.2.1
          refine gf_X8_122 C hw hk3 dX8_sign_46 ?_
          refine lv_iload_n C.1 C.2.1 dX8_sign_49 rfl (lv_at hl 1 rfl) ?_
          obtain ⟨hin, h⟩ := gd_of h
          refine m_iald C hw (treeA0 hk3) hin dX8_sign_50 ?_
          obtain ⟨x4, ex4, h⟩ := lt_of h
          refine m_topi ex4 ?_
          refine lv_istore_n (lv' := [(3, .int _), (0, .ref _), (1, .int _), (2, .int _)]) C.1 C.2.1 dX8_sign_51 rfl hl (by decide) rfl (fun ls hl => ?_)
          refine lv_aload_n C.1 C.2.1 dX8_sign_52 rfl (lv_at hl 1 rfl) ?_
          refine gf_X8_49 C hw dX8_sign_53 ?_
          have hk5 := (hw.2.1 rfl).2.2.1
          refine gf_X8_122 C hw hk5 dX8_sign_56 ?_
          refine lv_iload_n C.1 C.2.1 dX8_sign_59 rfl (lv_at hl 2 rfl) ?_
          refine lv_iload_n C.1 C.2.1 dX8_sign_60 rfl (lv_at hl 3 rfl) ?_
          obtain ⟨hin, h⟩ := gd_of h
          refine m_iast C hw (treeA0 hk5) hin dX8_sign_61 (fun H locs hw => ?_)
          obtain ⟨σ6, eσ6, h⟩ := lt_of h
          rw [← eσ6] at hw
          refine lv_iload_n C.1 C.2.1 dX8_sign_62 rfl (lv_at hl 0 rfl) ?_
          exact m_iret C hw (ret_p h) dX8_sign_63
        · have h := ite_f cd h
          refine lv_iconst (v := (-1 : Int32)) C.1 C.2.1 dX8_sign_40 (by decide) ?_
          exact m_iret C hw (ret_p h) dX8_sign_41
noncomputable def f_X8_exchange (a1 : Int32) (σ : Mem) : Option (Int32 × Mem) :=
  if (f_X7_has (σ.2.2 6) a1 σ) = 0 then (some ((-1 : Int32), σ)) else (gd (ix a1 31) (if (f_X8_armsOf (σ.1 (σ.2.2 6 + 1) a1.toNatClampNeg)) = (2 : Int32) then ((f_X7_swapArms (σ.2.2 6) a1 σ).bind (fun r4 => some ((1 : Int32), r4))) else (some ((-2 : Int32), σ))))
set_option maxRecDepth 20000 in
theorem c_X8_exchange {l : Launch} {D : va_G} {cy : Nat → ClassId} {ad : Nat → Nat} (hj : InjW 1 ad) (a1 : Int32)  (σ : Mem) (r : (Int32 × Mem)) (h : f_X8_exchange a1 σ = some r) : CI 1 D cy ad l yX8_exchange cX8_exchange 2 (some .int) 3 [.ref (ad (0)), .int a1] σ r.1 r.2 := by
  refine CI.mk (by decide) hj (Nat.le_of_ble_eq_true rfl) (fun p e R s m below meth c ls C hw hl => ?_)
  have hl : lv_has ls 2 [(0, .ref (ad (0))), (1, .int a1)] := hl
  generalize ([.ref (ad (0)), .int a1] : List Value).toArray = args at C ⊢
  have C : Cx 1 D cy ad p R s m args meth c cX8_exchange 2 RX8 (some .int) 3 := C
  unfold f_X8_exchange at h
  refine lv_aload_n C.1 C.2.1 dX8_exchange_0 rfl (lv_at hl 0 rfl) ?_
  refine gf_X8_49 C hw dX8_exchange_1 ?_
  have hk1 := (hw.2.1 rfl).2.2.1
  refine lv_iload_n C.1 C.2.1 dX8_exchange_4 rfl (lv_at hl 1 rfl) ?_
  refine go_I hw (run_V (As := [.int _]) C hw (c_X7_has C.2.2.2.2.2.2.2.2.2 _ _ hk1 _) mi_X7_has mv_X7_has hk1 (ci := 7) rfl rfl lk_X8_121 (by decide) (by decide) rfl hl.1 rfl (Nat.le_of_ble_eq_true rfl) dX8_exchange_5 ⟨Nat.le_refl 0, Nat.le_refl 0⟩) (fun H locs hw => ?_)
  refine lv_if_ne (tgt := 13) C.1 C.2.1 dX8_exchange_8 (by decide) (fun cd => ?_) (fun cd => ?_)
  · have h := ite_f cd h
    refine lv_aload_n C.1 C.2.1 dX8_exchange_13 rfl (lv_at hl 0 rfl) ?_
    refine gf_X8_49 C hw dX8_exchange_14 ?_
    have hk2 := (hw.2.1 rfl).2.2.1
    refine gf_X8_122 C hw hk2 dX8_exchange_17 ?_
    refine lv_iload_n C.1 C.2.1 dX8_exchange_20 rfl (lv_at hl 1 rfl) ?_
    obtain ⟨hin, h⟩ := gd_of h
    refine m_iald C hw (treeA0 hk2) hin dX8_exchange_21 ?_
    refine go_I hw (run_S (As := [.int _]) C hw (c_X8_armsOf C.2.2.2.2.2.2.2.2.2 _ _) mi_X8_armsOf ms_X8_armsOf lk_X8_133 (by decide) (by decide) rfl hl.1 rfl (Nat.le_of_ble_eq_true rfl) dX8_exchange_22 ⟨Nat.le_refl 0, Nat.le_refl 0⟩) (fun H locs hw => ?_)
    refine lv_iconst (v := (2 : Int32)) C.1 C.2.1 dX8_exchange_25 (by decide) ?_
    refine lv_icmp_eq (tgt := 32) C.1 C.2.1 dX8_exchange_26 (by decide) (fun cd => ?_) (fun cd => ?_)
    · have h := ite_t cd h
      refine lv_aload_n C.1 C.2.1 dX8_exchange_32 rfl (lv_at hl 0 rfl) ?_
      refine gf_X8_49 C hw dX8_exchange_33 ?_
      have hk3 := (hw.2.1 rfl).2.2.1
      refine lv_iload_n C.1 C.2.1 dX8_exchange_36 rfl (lv_at hl 1 rfl) ?_
      obtain ⟨r4, h1, h⟩ := bS h
      refine go_V hw (run_V (As := [.int _]) C hw (c_X7_swapArms C.2.2.2.2.2.2.2.2.2 _ _ hk3 _ _ h1) mi_X7_swapArms mv_X7_swapArms hk3 (ci := 7) rfl rfl lk_X8_136 (by decide) (by decide) rfl hl.1 rfl (Nat.le_of_ble_eq_true rfl) dX8_exchange_37 ⟨Nat.le_refl 0, Nat.le_refl 0⟩) (fun H locs hw => ?_)
      refine lv_iconst (v := (1 : Int32)) C.1 C.2.1 dX8_exchange_40 (by decide) ?_
      exact m_iret C hw (ret_p h) dX8_exchange_41
    · have h := ite_f cd h
      refine lv_bipush (v := (-2 : Int32)) C.1 C.2.1 dX8_exchange_29 (by decide) ?_
      exact m_iret C hw (ret_p h) dX8_exchange_31
  · have h := ite_t cd h
    refine lv_iconst (v := (-1 : Int32)) C.1 C.2.1 dX8_exchange_11 (by decide) ?_
    exact m_iret C hw (ret_p h) dX8_exchange_12
noncomputable def f_X8_isGood  (σ : Mem) : Option (Int32 × Mem) :=
  if (σ.1 (σ.2.2 6) 4) = 0 then (some ((-2 : Int32), σ)) else ((f_X8_comesTo (0 : Int32) σ).bind (fun r2 => if (r2.1 &&& (r2.2.1 0 9)) = 0 then (some ((0 : Int32), r2.2)) else (some ((1 : Int32), r2.2))))
set_option maxRecDepth 20000 in
theorem c_X8_isGood {l : Launch} {D : va_G} {cy : Nat → ClassId} {ad : Nat → Nat} (hj : InjW 1 ad)   (σ : Mem) (r : (Int32 × Mem)) (h : f_X8_isGood σ = some r) : CI 1 D cy ad l yX8_isGood cX8_isGood 1 (some .int) 5 [.ref (ad (0))] σ r.1 r.2 := by
  refine CI.mk (by decide) hj (Nat.le_of_ble_eq_true rfl) (fun p e R s m below meth c ls C hw hl => ?_)
  have hl : lv_has ls 1 [(0, .ref (ad (0)))] := hl
  generalize ([.ref (ad (0))] : List Value).toArray = args at C ⊢
  have C : Cx 1 D cy ad p R s m args meth c cX8_isGood 1 RX8 (some .int) 5 := C
  unfold f_X8_isGood at h
  refine lv_aload_n C.1 C.2.1 dX8_isGood_0 rfl (lv_at hl 0 rfl) ?_
  refine gf_X8_49 C hw dX8_isGood_1 ?_
  have hk1 := (hw.2.1 rfl).2.2.1
  refine gf_X8_139 C hw hk1 dX8_isGood_4 ?_
  refine lv_if_ne (tgt := 13) C.1 C.2.1 dX8_isGood_7 (by decide) (fun cd => ?_) (fun cd => ?_)
  · have h := ite_f cd h
    refine lv_aload_n C.1 C.2.1 dX8_isGood_13 rfl (lv_at hl 0 rfl) ?_
    refine lv_iconst (v := (0 : Int32)) C.1 C.2.1 dX8_isGood_14 (by decide) ?_
    obtain ⟨r2, h1, h⟩ := bS h
    refine go_I hw (run_V (As := [.int _]) C hw (c_X8_comesTo C.2.2.2.2.2.2.2.2.2 _ _ _ h1) mi_X8_comesTo mv_X8_comesTo o1_0 (ci := 8) rfl rfl lk_X8_129 (by decide) (by decide) rfl hl.1 rfl (Nat.le_of_ble_eq_true rfl) dX8_isGood_15 ⟨Nat.le_refl 0, Nat.le_refl 0⟩) (fun H locs hw => ?_)
    refine lv_aload_n C.1 C.2.1 dX8_isGood_18 rfl (lv_at hl 0 rfl) ?_
    refine gf_X8_79 C hw dX8_isGood_19 ?_
    refine lv_iand C.1 C.2.1 dX8_isGood_22 ?_
    refine lv_if_eq (tgt := 30) C.1 C.2.1 dX8_isGood_23 (by decide) (fun cd => ?_) (fun cd => ?_)
    · have h := ite_t cd h
      refine lv_iconst (v := (0 : Int32)) C.1 C.2.1 dX8_isGood_30 (by decide) ?_
      exact m_iret C hw (ret_p h) dX8_isGood_31
    · have h := ite_f cd h
      refine lv_iconst (v := (1 : Int32)) C.1 C.2.1 dX8_isGood_26 (by decide) ?_
      refine lv_goto (tgt := 31) C.1 C.2.1 dX8_isGood_27 (by decide) ?_
      exact m_iret C hw (ret_p h) dX8_isGood_31
  · have h := ite_t cd h
    refine lv_bipush (v := (-2 : Int32)) C.1 C.2.1 dX8_isGood_10 (by decide) ?_
    exact m_iret C hw (ret_p h) dX8_isGood_12
noncomputable def f_X8_runs  (σ : Mem) : Option (Int32 × Mem) :=
  if (σ.1 (σ.2.2 6) 4) = 0 then (some ((-2 : Int32), σ)) else ((f_X0_countWays (σ.2.2 6) (σ.2.2 4) (σ.1 0 8) σ).bind (fun r4 => (f_X0_goodWays (r4.1 0 9) r4).bind (fun r5 => some (r5, r4))))
set_option maxRecDepth 20000 in
theorem c_X8_runs {l : Launch} {D : va_G} {cy : Nat → ClassId} {ad : Nat → Nat} (hj : InjW 1 ad)   (σ : Mem) (r : (Int32 × Mem)) (h : f_X8_runs σ = some r) : CI 1 D cy ad l yX8_runs cX8_runs 1 (some .int) 4 [.ref (ad (0))] σ r.1 r.2 := by
  refine CI.mk (by decide) hj (Nat.le_of_ble_eq_true rfl) (fun p e R s m below meth c ls C hw hl => ?_)
  have hl : lv_has ls 1 [(0, .ref (ad (0)))] := hl
  generalize ([.ref (ad (0))] : List Value).toArray = args at C ⊢
  have C : Cx 1 D cy ad p R s m args meth c cX8_runs 1 RX8 (some .int) 4 := C
  unfold f_X8_runs at h
  refine lv_aload_n C.1 C.2.1 dX8_runs_0 rfl (lv_at hl 0 rfl) ?_
  refine gf_X8_49 C hw dX8_runs_1 ?_
  have hk1 := (hw.2.1 rfl).2.2.1
  refine gf_X8_139 C hw hk1 dX8_runs_4 ?_
  refine lv_if_ne (tgt := 13) C.1 C.2.1 dX8_runs_7 (by decide) (fun cd => ?_) (fun cd => ?_)
  · have h := ite_f cd h
    refine lv_aload_n C.1 C.2.1 dX8_runs_13 rfl (lv_at hl 0 rfl) ?_
    refine gf_X8_25 C hw dX8_runs_14 ?_
    refine lv_aload_n C.1 C.2.1 dX8_runs_17 rfl (lv_at hl 0 rfl) ?_
    refine gf_X8_49 C hw dX8_runs_18 ?_
    have hk2 := (hw.2.1 rfl).2.2.1
    refine lv_aload_n C.1 C.2.1 dX8_runs_21 rfl (lv_at hl 0 rfl) ?_
    refine gf_X8_39 C hw dX8_runs_22 ?_
    have hk3 := (hw.2.1 rfl).1
    refine lv_aload_n C.1 C.2.1 dX8_runs_25 rfl (lv_at hl 0 rfl) ?_
    refine gf_X8_73 C hw dX8_runs_26 ?_
    obtain ⟨r4, h1, h⟩ := bS h
    refine go_V hw (run_V (As := [.ref _, .ref _, .int _]) C hw (c_X0_countWays C.2.2.2.2.2.2.2.2.2 _ _ _ hk2 hk3 _ _ h1) mi_X0_countWays mv_X0_countWays o1_4 (ci := 0) rfl rfl lk_X8_142 (by decide) (by decide) rfl hl.1 rfl (Nat.le_of_ble_eq_true rfl) dX8_runs_29 ⟨Nat.le_refl 0, Nat.le_refl 0⟩) (fun H locs hw => ?_)
    refine lv_aload_n C.1 C.2.1 dX8_runs_32 rfl (lv_at hl 0 rfl) ?_
    refine gf_X8_25 C hw dX8_runs_33 ?_
    refine lv_aload_n C.1 C.2.1 dX8_runs_36 rfl (lv_at hl 0 rfl) ?_
    refine gf_X8_79 C hw dX8_runs_37 ?_
    obtain ⟨r5, h1, h⟩ := bS h
    refine go_I hw (run_V (As := [.int _]) C hw (c_X0_goodWays C.2.2.2.2.2.2.2.2.2 _ _ _ h1) mi_X0_goodWays mv_X0_goodWays o1_4 (ci := 0) rfl rfl lk_X8_146 (by decide) (by decide) rfl hl.1 rfl (Nat.le_of_ble_eq_true rfl) dX8_runs_40 ⟨Nat.le_refl 0, Nat.le_refl 0⟩) (fun H locs hw => ?_)
    exact m_iret C hw (ret_p h) dX8_runs_43
  · have h := ite_t cd h
    refine lv_bipush (v := (-2 : Int32)) C.1 C.2.1 dX8_runs_10 (by decide) ?_
    exact m_iret C hw (ret_p h) dX8_runs_12
noncomputable def b_X8_places_32 (a1 : Int32) (v2 : Int32) (v3 : Int32) (σ : Mem) : Option ((Int32 × Int32) ⊕ Int32) :=
  if (σ.1 (σ.2.2 6) 4) ≤ v3 then (some (.inr v2)) else (gd (ix v3 31) (lt (v2 ||| ((f_X8_bit (σ.1 5 v3.toNatClampNeg) a1) <<< (v3 &&& 31))) (fun x5 => lt (v3 + (1 : Int32)) (fun x6 => some (.inl (x5, x6))))))
noncomputable def f_X8_places (a1 : Int32) (σ : Mem) : Option (Int32 × Mem) :=
  if (f_X8_isState a1) = 0 then (some ((-1 : Int32), σ)) else ((f_X0_come (σ.2.2 6) (σ.2.2 4) (σ.1 0 8) σ).bind (fun r3 => (Lim (T := Int32) (fun s => b_X8_places_32 a1 s.1 s.2 r3) ((0 : Int32), (0 : Int32))).bind (fun r7 => some (r7, r3))))
set_option maxRecDepth 20000 in
theorem w_X8_places_32 {D : va_G} {cy : Nat → ClassId} {ad : Nat → Nat} {p : Program} {l : Launch} {e : Env} {R : Room} {s : State} {m : MethodId} {args : Array Value} {below : List Frame} {meth : Method} {c : Code} (C : Cx 1 D cy ad p R s m args meth c cX8_places 4 RX8 (some .int) 4) {a1 : Int32}  {v2 : Int32} {v3 : Int32} {σ : Mem} {Q : State → Prop} {r : Int32} (hL : Lim (T := Int32) (fun s => b_X8_places_32 a1 s.1 s.2 σ) (v2, v3) = some r) (hE0 : ∀ (v2 : Int32), (v2 : Int32) = r → ∀ (H : Heap) (locs : List Loc) (ls : Array Slot), Wd 1 D cy ad s σ H locs → lv_has ls 4 [(2, .int v2)] → W p l e R s m args below meth c H locs 0 0 Q (F0 m 67 ls [])) (H : Heap) (locs : List Loc) (ls : Array Slot) (hw : Wd 1 D cy ad s σ H locs) (hl : lv_has ls 4 [(0, .ref (ad (0))), (1, .int a1), (2, .int v2), (3, .int v3)]) : W p l e R s m args below meth c H locs 0 0 Q (F0 m 32 ls []) := by
  refine Lim_ind hL (P := fun u => ∀ (H : Heap) (locs : List Loc) (ls : Array Slot), Wd 1 D cy ad s σ H locs → lv_has ls 4 [(0, .ref (ad (0))), (1, .int a1), (2, .int u.1), (3, .int u.2)] → W p l e R s m args below meth c H locs 0 0 Q (F0 m 32 ls [])) (fun u x h hx H locs ls hw hl => ?_) H locs ls hw hl
  clear hL
  obtain ⟨v2, v3⟩ := u
  have h : b_X8_places_32 a1 v2 v3 σ = some x := h
  have hw : Wd 1 D cy ad s σ H locs := hw
  have hl : lv_has ls 4 [(0, .ref (ad (0))), (1, .int a1), (2, .int v2), (3, .int v3)] := hl
  have hP : ∀ (u : (Int32 × Int32)), (∀ (H : Heap) (locs : List Loc) (ls : Array Slot), Wd 1 D cy ad s σ H locs → lv_has ls 4 [(0, .ref (ad (0))), (1, .int a1), (2, .int u.1), (3, .int u.2)] → W p l e R s m args below meth c H locs 0 0 Q (F0 m 32 ls [])) → ∀ (H : Heap) (locs : List Loc) (ls : Array Slot), Wd 1 D cy ad s σ H locs → lv_has ls 4 [(0, .ref (ad (0))), (1, .int a1), (2, .int u.1), (3, .int u.2)] → W p l e R s m args below meth c H locs 0 0 Q (F0 m 32 ls []) := fun _ k => k
  unfold b_X8_places_32 at h
  refine lv_iload_n C.1 C.2.1 dX8_places_32 rfl (lv_at hl 3 rfl) ?_
  refine lv_aload_n C.1 C.2.1 dX8_places_33 rfl (lv_at hl 0 rfl) ?_
  refine gf_X8_49 C hw dX8_places_34 ?_
  have hk4 := (hw.2.1 rfl).2.2.1
  refine gf_X8_139 C hw hk4 dX8_places_37 ?_
  refine lv_icmp_ge (tgt := 67) C.1 C.2.1 dX8_places_40 (by decide) (fun cd => ?_) (fun cd => ?_)
  · have h := ite_t cd h
    obtain rfl := Option.some.inj h
    exact hE0 _ hx _ _ _ hw (lv_sub hl [2] rfl)
  · have h := ite_f cd h
    refine lv_iload_n C.1 C.2.1 dX8_places_43 rfl (lv_at hl 2 rfl) ?_
    refine lv_aload_n C.1 C.2.1 dX8_places_44 rfl (lv_at hl 0 rfl) ?_
    refine gf_X8_25 C hw dX8_places_45 ?_
    refine gf_X8_152 C hw dX8_places_48 ?_
    refine lv_iload_n C.1 C.2.1 dX8_places_51 rfl (lv_at hl 3 rfl) ?_
    obtain ⟨hin, h⟩ := gd_of h
    refine m_iald C hw a1_5 hin dX8_places_52 ?_
    refine lv_iload_n C.1 C.2.1 dX8_places_53 rfl (lv_at hl 1 rfl) ?_
    refine go_I hw (run_S (As := [.int _, .int _]) C hw (c_X8_bit C.2.2.2.2.2.2.2.2.2 _ _ _) mi_X8_bit ms_X8_bit lk_X8_107 (by decide) (by decide) rfl hl.1 rfl (Nat.le_of_ble_eq_true rfl) dX8_places_54 ⟨Nat.le_refl 0, Nat.le_refl 0⟩) (fun H locs hw => ?_)
    refine lv_iload_n C.1 C.2.1 dX8_places_57 rfl (lv_at hl 3 rfl) ?_
    refine lv_ishl C.1 C.2.1 dX8_places_58 ?_
    refine lv_ior C.1 C.2.1 dX8_places_59 ?_
    obtain ⟨x5, ex5, h⟩ := lt_of h
    refine m_topi ex5 ?_
    refine lv_istore_n (lv' := [(2, .int _), (0, .ref _), (1, .int _), (3, .int _)]) C.1 C.2.1 dX8_places_60 rfl hl (by decide) rfl (fun ls hl => ?_)
    obtain ⟨x6, ex6, h⟩ := lt_of h
    refine m_iinc (k := 3) (lv' := [(3, .int _), (2, .int _), (0, .ref _), (1, .int _)]) C (1 : Int32) (by decide) dX8_places_61 hl rfl ex6.symm (by decide) rfl (fun ls hl => ?_)
    refine lv_goto (tgt := 32) C.1 C.2.1 dX8_places_64 (by decide) ?_
    obtain rfl := Option.some.inj h
    exact hP _ hx _ _ _ hw (lv_sub hl [2, 3, 1, 0] rfl)
set_option maxRecDepth 20000 in
theorem c_X8_places {l : Launch} {D : va_G} {cy : Nat → ClassId} {ad : Nat → Nat} (hj : InjW 1 ad) (a1 : Int32)  (σ : Mem) (r : (Int32 × Mem)) (h : f_X8_places a1 σ = some r) : CI 1 D cy ad l yX8_places cX8_places 4 (some .int) 4 [.ref (ad (0)), .int a1] σ r.1 r.2 := by
  refine CI.mk (by decide) hj (Nat.le_of_ble_eq_true rfl) (fun p e R s m below meth c ls C hw hl => ?_)
  have hl : lv_has ls 4 [(0, .ref (ad (0))), (1, .int a1)] := hl
  generalize ([.ref (ad (0)), .int a1] : List Value).toArray = args at C ⊢
  have C : Cx 1 D cy ad p R s m args meth c cX8_places 4 RX8 (some .int) 4 := C
  unfold f_X8_places at h
  refine lv_iload_n C.1 C.2.1 dX8_places_0 rfl (lv_at hl 1 rfl) ?_
  refine go_I hw (run_S (As := [.int _]) C hw (c_X8_isState C.2.2.2.2.2.2.2.2.2 _ _) mi_X8_isState ms_X8_isState lk_X8_118 (by decide) (by decide) rfl hl.1 rfl (Nat.le_of_ble_eq_true rfl) dX8_places_1 ⟨Nat.le_refl 0, Nat.le_refl 0⟩) (fun H locs hw => ?_)
  refine lv_if_ne (tgt := 9) C.1 C.2.1 dX8_places_4 (by decide) (fun cd => ?_) (fun cd => ?_)
  · have h := ite_f cd h
    refine lv_aload_n C.1 C.2.1 dX8_places_9 rfl (lv_at hl 0 rfl) ?_
    refine gf_X8_25 C hw dX8_places_10 ?_
    refine lv_aload_n C.1 C.2.1 dX8_places_13 rfl (lv_at hl 0 rfl) ?_
    refine gf_X8_49 C hw dX8_places_14 ?_
    have hk1 := (hw.2.1 rfl).2.2.1
    refine lv_aload_n C.1 C.2.1 dX8_places_17 rfl (lv_at hl 0 rfl) ?_
    refine gf_X8_39 C hw dX8_places_18 ?_
    have hk2 := (hw.2.1 rfl).1
    refine lv_aload_n C.1 C.2.1 dX8_places_21 rfl (lv_at hl 0 rfl) ?_
    refine gf_X8_73 C hw dX8_places_22 ?_
    obtain ⟨r3, h1, h⟩ := bS h
    refine go_V hw (run_V (As := [.ref _, .ref _, .int _]) C hw (c_X0_come C.2.2.2.2.2.2.2.2.2 _ _ _ hk1 hk2 _ _ h1) mi_X0_come mv_X0_come o1_4 (ci := 0) rfl rfl lk_X8_149 (by decide) (by decide) rfl hl.1 rfl (Nat.le_of_ble_eq_true rfl) dX8_places_25 ⟨Nat.le_refl 0, Nat.le_refl 0⟩) (fun H locs hw => ?_)
    refine lv_iconst (v := (0 : Int32)) C.1 C.2.1 dX8_places_28 (by decide) ?_
    refine lv_istore_n (lv' := [(2, .int _), (0, .ref _), (1, .int _)]) C.1 C.2.1 dX8_places_29 rfl hl (by decide) rfl (fun ls hl => ?_)
    refine lv_iconst (v := (0 : Int32)) C.1 C.2.1 dX8_places_30 (by decide) ?_
    refine lv_istore_n (lv' := [(3, .int _), (2, .int _), (0, .ref _), (1, .int _)]) C.1 C.2.1 dX8_places_31 rfl hl (by decide) rfl (fun ls hl => ?_)
    obtain ⟨r7, hL, h⟩ := bS h
    refine w_X8_places_32 C  hL (fun y0 hr H locs ls hw hl => ?_) _ _ _ hw (lv_sub hl [2, 3, 1, 0] rfl)
    · subst hr
      try dsimp only at h
      try dsimp only at hw
      try dsimp only at hl
      refine lv_iload_n C.1 C.2.1 dX8_places_67 rfl (lv_at hl 0 rfl) ?_
      exact m_iret C hw (ret_p h) dX8_places_68
  · have h := ite_t cd h
    refine lv_iconst (v := (-1 : Int32)) C.1 C.2.1 dX8_places_7 (by decide) ?_
    exact m_iret C hw (ret_p h) dX8_places_8
noncomputable def j_X8_mend_18 (a1 : Int32) (σ : Mem) : Option (Int32 × Mem) :=
  if (σ.1 (σ.2.2 6) 4) = 0 then (some ((-2 : Int32), σ)) else ((f_X0_weighChanges (σ.2.2 6) (σ.2.2 4) (σ.1 0 8) σ).bind (fun r4 => (f_X0_cheapestOf (r4.1 0 9) r4).bind (fun r5 => if (f_X8_isState r5) = 0 then (some ((-9 : Int32), r4)) else (if a1 = (-1 : Int32) then (gd (ix r5 186) (some (r4.1 7 r5.toNatClampNeg, r4))) else (gd (ix a1 31) (gd (ix r5 186) (some ((f_X8_firstSignWith (f_X8_armsOf (r4.1 (r4.2.2 6 + 1) a1.toNatClampNeg))) + (f_X0_stepInCode (r4.2.1 8 r5.toNatClampNeg) a1), r4))))))))
noncomputable def f_X8_mend (a1 : Int32) (σ : Mem) : Option (Int32 × Mem) :=
  if a1 = (-1 : Int32) then (j_X8_mend_18 a1 σ) else (if (f_X7_has (σ.2.2 6) a1 σ) = 0 then (some ((-1 : Int32), σ)) else (j_X8_mend_18 a1 σ))
set_option maxRecDepth 20000 in
theorem w_X8_mend_18 {D : va_G} {cy : Nat → ClassId} {ad : Nat → Nat} {p : Program} {l : Launch} {e : Env} {R : Room} {s : State} {m : MethodId} {args : Array Value} {below : List Frame} {meth : Method} {c : Code} (C : Cx 1 D cy ad p R s m args meth c cX8_mend 3 RX8 (some .int) 4) {a1 : Int32}    {σ : Mem} {H : Heap} {locs : List Loc} {ls : Array Slot} {r : (Int32 × Mem)} (hw : Wd 1 D cy ad s σ H locs) (hl : lv_has ls 3 [(0, .ref (ad (0))), (1, .int a1)]) (h : j_X8_mend_18 a1 σ = some r) : W p l e R s m args below meth c H locs 0 0 (QI 1 D cy ad below args s r.1 r.2) (F0 m 18 ls []) := by
  unfold j_X8_mend_18 at h
  refine lv_aload_n C.1 C.2.1 dX8_mend_18 rfl (lv_at hl 0 rfl) ?_
  refine gf_X8_49 C hw dX8_mend_19 ?_
  have hk1 := (hw.2.1 rfl).2.2.1
  refine gf_X8_139 C hw hk1 dX8_mend_22 ?_
  refine lv_if_ne (tgt := 31) C.1 C.2.1 dX8_mend_25 (by decide) (fun cd => ?_) (fun cd => ?_)
  · have h := ite_f cd h
    refine lv_aload_n C.1 C.2.1 dX8_mend_31 rfl (lv_at hl 0 rfl) ?_
    refine gf_X8_25 C hw dX8_mend_32 ?_
    refine lv_aload_n C.1 C.2.1 dX8_mend_35 rfl (lv_at hl 0 rfl) ?_
    refine gf_X8_49 C hw dX8_mend_36 ?_
    have hk2 := (hw.2.1 rfl).2.2.1
    refine lv_aload_n C.1 C.2.1 dX8_mend_39 rfl (lv_at hl 0 rfl) ?_
    refine gf_X8_39 C hw dX8_mend_40 ?_
    have hk3 := (hw.2.1 rfl).1
    refine lv_aload_n C.1 C.2.1 dX8_mend_43 rfl (lv_at hl 0 rfl) ?_
    refine gf_X8_73 C hw dX8_mend_44 ?_
    obtain ⟨r4, h1, h⟩ := bS h
    refine go_V hw (run_V (As := [.ref _, .ref _, .int _]) C hw (c_X0_weighChanges C.2.2.2.2.2.2.2.2.2 _ _ _ hk2 hk3 _ _ h1) mi_X0_weighChanges mv_X0_weighChanges o1_4 (ci := 0) rfl rfl lk_X8_155 (by decide) (by decide) rfl hl.1 rfl (Nat.le_of_ble_eq_true rfl) dX8_mend_47 ⟨Nat.le_refl 0, Nat.le_refl 0⟩) (fun H locs hw => ?_)
    refine lv_aload_n C.1 C.2.1 dX8_mend_50 rfl (lv_at hl 0 rfl) ?_
    refine gf_X8_25 C hw dX8_mend_51 ?_
    refine lv_aload_n C.1 C.2.1 dX8_mend_54 rfl (lv_at hl 0 rfl) ?_
    refine gf_X8_79 C hw dX8_mend_55 ?_
    obtain ⟨r5, h1, h⟩ := bS h
    refine go_I hw (run_V (As := [.int _]) C hw (c_X0_cheapestOf C.2.2.2.2.2.2.2.2.2 _ _ _ h1) mi_X0_cheapestOf mv_X0_cheapestOf o1_4 (ci := 0) rfl rfl lk_X8_158 (by decide) (by decide) rfl hl.1 rfl (Nat.le_of_ble_eq_true rfl) dX8_mend_58 ⟨Nat.le_refl 0, Nat.le_refl 0⟩) (fun H locs hw => ?_)
    refine lv_istore_n (lv' := [(2, .int _), (0, .ref _), (1, .int _)]) C.1 C.2.1 dX8_mend_61 rfl hl (by decide) rfl (fun ls hl => ?_)
    refine lv_iload_n C.1 C.2.1 dX8_mend_62 rfl (lv_at hl 0 rfl) ?_
    refine go_I hw (run_S (As := [.int _]) C hw (c_X8_isState C.2.2.2.2.2.2.2.2.2 _ _) mi_X8_isState ms_X8_isState lk_X8_118 (by decide) (by decide) rfl hl.1 rfl (Nat.le_of_ble_eq_true rfl) dX8_mend_63 ⟨Nat.le_refl 0, Nat.le_refl 0⟩) (fun H locs hw => ?_)
    refine lv_if_ne (tgt := 72) C.1 C.2.1 dX8_mend_66 (by decide) (fun cd => ?_) (fun cd => ?_)
    · have h := ite_f cd h
      refine lv_iload_n C.1 C.2.1 dX8_mend_72 rfl (lv_at hl 2 rfl) ?_
      refine lv_iconst (v := (-1 : Int32)) C.1 C.2.1 dX8_mend_73 (by decide) ?_
      refine lv_icmp_ne (tgt := 87) C.1 C.2.1 dX8_mend_74 (by decide) (fun cd => ?_) (fun cd => ?_)
      · have h := ite_f cd h
        refine lv_aload_n C.1 C.2.1 dX8_mend_87 rfl (lv_at hl 1 rfl) ?_
        refine gf_X8_49 C hw dX8_mend_88 ?_
        have hk6 := (hw.2.1 rfl).2.2.1
        refine gf_X8_122 C hw hk6 dX8_mend_91 ?_
        refine lv_iload_n C.1 C.2.1 dX8_mend_94 rfl (lv_at hl 2 rfl) ?_
        obtain ⟨hin, h⟩ := gd_of h
        refine m_iald C hw (treeA0 hk6) hin dX8_mend_95 ?_
        refine go_I hw (run_S (As := [.int _]) C hw (c_X8_armsOf C.2.2.2.2.2.2.2.2.2 _ _) mi_X8_armsOf ms_X8_armsOf lk_X8_133 (by decide) (by decide) rfl hl.1 rfl (Nat.le_of_ble_eq_true rfl) dX8_mend_96 ⟨Nat.le_refl 0, Nat.le_refl 0⟩) (fun H locs hw => ?_)
        refine go_I hw (run_S (As := [.int _]) C hw (c_X8_firstSignWith C.2.2.2.2.2.2.2.2.2 _ _) mi_X8_firstSignWith ms_X8_firstSignWith lk_X8_164 (by decide) (by decide) rfl hl.1 rfl (Nat.le_of_ble_eq_true rfl) dX8_mend_99 ⟨Nat.le_refl 0, Nat.le_refl 0⟩) (fun H locs hw => ?_)
        refine lv_aload_n C.1 C.2.1 dX8_mend_102 rfl (lv_at hl 1 rfl) ?_
        refine gf_X8_25 C hw dX8_mend_103 ?_
        refine gf_X8_167 C hw dX8_mend_106 ?_
        refine lv_iload_n C.1 C.2.1 dX8_mend_109 rfl (lv_at hl 0 rfl) ?_
        obtain ⟨hin, h⟩ := gd_of h
        refine m_lald C hw a1_8 hin dX8_mend_110 ?_
        refine lv_iload_n C.1 C.2.1 dX8_mend_111 rfl (lv_at hl 2 rfl) ?_
        refine go_I hw (run_S (As := [.long _, .int _]) C hw (c_X0_stepInCode C.2.2.2.2.2.2.2.2.2 _ _ _) mi_X0_stepInCode ms_X0_stepInCode lk_X8_171 (by decide) (by decide) rfl hl.1 rfl (Nat.le_of_ble_eq_true rfl) dX8_mend_112 ⟨Nat.le_refl 0, Nat.le_refl 0⟩) (fun H locs hw => ?_)
        refine lv_iadd C.1 C.2.1 dX8_mend_115 ?_
        exact m_iret C hw (ret_p h) dX8_mend_116
      · have h := ite_t cd h
        refine lv_aload_n C.1 C.2.1 dX8_mend_77 rfl (lv_at hl 1 rfl) ?_
        refine gf_X8_25 C hw dX8_mend_78 ?_
        refine gf_X8_161 C hw dX8_mend_81 ?_
        refine lv_iload_n C.1 C.2.1 dX8_mend_84 rfl (lv_at hl 0 rfl) ?_
        obtain ⟨hin, h⟩ := gd_of h
        refine m_iald C hw a1_7 hin dX8_mend_85 ?_
        exact m_iret C hw (ret_p h) dX8_mend_86
    · have h := ite_t cd h
      refine lv_bipush (v := (-9 : Int32)) C.1 C.2.1 dX8_mend_69 (by decide) ?_
      exact m_iret C hw (ret_p h) dX8_mend_71
  · have h := ite_t cd h
    refine lv_bipush (v := (-2 : Int32)) C.1 C.2.1 dX8_mend_28 (by decide) ?_
    exact m_iret C hw (ret_p h) dX8_mend_30
set_option maxRecDepth 20000 in
theorem c_X8_mend {l : Launch} {D : va_G} {cy : Nat → ClassId} {ad : Nat → Nat} (hj : InjW 1 ad) (a1 : Int32)  (σ : Mem) (r : (Int32 × Mem)) (h : f_X8_mend a1 σ = some r) : CI 1 D cy ad l yX8_mend cX8_mend 3 (some .int) 4 [.ref (ad (0)), .int a1] σ r.1 r.2 := by
  refine CI.mk (by decide) hj (Nat.le_of_ble_eq_true rfl) (fun p e R s m below meth c ls C hw hl => ?_)
  have hl : lv_has ls 3 [(0, .ref (ad (0))), (1, .int a1)] := hl
  generalize ([.ref (ad (0)), .int a1] : List Value).toArray = args at C ⊢
  have C : Cx 1 D cy ad p R s m args meth c cX8_mend 3 RX8 (some .int) 4 := C
  unfold f_X8_mend at h
  refine lv_iload_n C.1 C.2.1 dX8_mend_0 rfl (lv_at hl 1 rfl) ?_
  refine lv_iconst (v := (-1 : Int32)) C.1 C.2.1 dX8_mend_1 (by decide) ?_
  refine lv_icmp_eq (tgt := 18) C.1 C.2.1 dX8_mend_2 (by decide) (fun cd => ?_) (fun cd => ?_)
  · have h := ite_t cd h
    exact w_X8_mend_18 C hw (lv_sub hl [0, 1] rfl) h
  · have h := ite_f cd h
    refine lv_aload_n C.1 C.2.1 dX8_mend_5 rfl (lv_at hl 0 rfl) ?_
    refine gf_X8_49 C hw dX8_mend_6 ?_
    have hk7 := (hw.2.1 rfl).2.2.1
    refine lv_iload_n C.1 C.2.1 dX8_mend_9 rfl (lv_at hl 1 rfl) ?_
    refine go_I hw (run_V (As := [.int _]) C hw (c_X7_has C.2.2.2.2.2.2.2.2.2 _ _ hk7 _) mi_X7_has mv_X7_has hk7 (ci := 7) rfl rfl lk_X8_121 (by decide) (by decide) rfl hl.1 rfl (Nat.le_of_ble_eq_true rfl) dX8_mend_10 ⟨Nat.le_refl 0, Nat.le_refl 0⟩) (fun H locs hw => ?_)
    refine lv_if_ne (tgt := 18) C.1 C.2.1 dX8_mend_13 (by decide) (fun cd => ?_) (fun cd => ?_)
    · have h := ite_f cd h
      exact w_X8_mend_18 C hw (lv_sub hl [0, 1] rfl) h
    · have h := ite_t cd h
      refine lv_iconst (v := (-1 : Int32)) C.1 C.2.1 dX8_mend_16 (by decide) ?_
      exact m_iret C hw (ret_p h) dX8_mend_17
noncomputable def f_X8_pairsWith (a1 : Int32) (σ : Mem) : Option (Nat × Mem) :=
  (f_X4_learn (σ.2.2 4) (σ.1 0 8) a1 σ).bind (fun r2 => some (9, r2))
theorem f_X8_pairsWith_9 {a1 : Int32} {σ : Mem} {r : Nat × Mem} (h : f_X8_pairsWith a1 σ = some r) : r.1 = 9 := by
  unfold f_X8_pairsWith at h
  obtain ⟨q, _, h⟩ := bS h
  obtain rfl := Option.some.inj h
  rfl
set_option maxRecDepth 20000 in
theorem c_X8_pairsWith {l : Launch} {D : va_G} {cy : Nat → ClassId} {ad : Nat → Nat} (hj : InjW 1 ad) (a1 : Int32)  (σ : Mem) (r : (Nat × Mem)) (h : f_X8_pairsWith a1 σ = some r) : CA 1 D cy ad l yX8_pairsWith cX8_pairsWith 2 (some (.object "TreeBecomes$Pairs")) 6 [.ref (ad (0)), .int a1] σ r.1 r.2 := by
  refine CA.mk (by decide) hj (Nat.le_of_ble_eq_true rfl) (fun p e R s m below meth c ls C hw hl => ?_)
  have hl : lv_has ls 2 [(0, .ref (ad (0))), (1, .int a1)] := hl
  generalize ([.ref (ad (0)), .int a1] : List Value).toArray = args at C ⊢
  have C : Cx 1 D cy ad p R s m args meth c cX8_pairsWith 2 RX8 (some (.object "TreeBecomes$Pairs")) 6 := C
  unfold f_X8_pairsWith at h
  refine lv_aload_n C.1 C.2.1 dX8_pairsWith_0 rfl (lv_at hl 0 rfl) ?_
  refine gf_X8_32 C hw dX8_pairsWith_1 ?_
  refine lv_aload_n C.1 C.2.1 dX8_pairsWith_4 rfl (lv_at hl 0 rfl) ?_
  refine gf_X8_39 C hw dX8_pairsWith_5 ?_
  have hk1 := (hw.2.1 rfl).1
  refine lv_aload_n C.1 C.2.1 dX8_pairsWith_8 rfl (lv_at hl 0 rfl) ?_
  refine gf_X8_73 C hw dX8_pairsWith_9 ?_
  refine lv_iload_n C.1 C.2.1 dX8_pairsWith_12 rfl (lv_at hl 1 rfl) ?_
  obtain ⟨r2, h1, h⟩ := bS h
  refine go_V hw (run_V (As := [.ref _, .int _, .int _]) C hw (c_X4_learn C.2.2.2.2.2.2.2.2.2 _ _ _ hk1 _ _ h1) mi_X4_learn mv_X4_learn o1_9 (ci := 4) rfl rfl lk_X8_267 (by decide) (by decide) rfl hl.1 rfl (Nat.le_of_ble_eq_true rfl) dX8_pairsWith_13 ⟨Nat.le_refl 0, Nat.le_refl 0⟩) (fun H locs hw => ?_)
  refine lv_aload_n C.1 C.2.1 dX8_pairsWith_16 rfl (lv_at hl 0 rfl) ?_
  refine gf_X8_32 C hw dX8_pairsWith_17 ?_
  exact m_aret C hw (ret_p h) dX8_pairsWith_20
noncomputable def f_X8_sets  (σ : Mem) : Option (Int32 × Mem) :=
  (f_X8_pairsWith (0 : Int32) σ).bind (fun r1 => some (r1.2.1 9 17, r1.2))
set_option maxRecDepth 20000 in
theorem c_X8_sets {l : Launch} {D : va_G} {cy : Nat → ClassId} {ad : Nat → Nat} (hj : InjW 1 ad)   (σ : Mem) (r : (Int32 × Mem)) (h : f_X8_sets σ = some r) : CI 1 D cy ad l yX8_sets cX8_sets 1 (some .int) 7 [.ref (ad (0))] σ r.1 r.2 := by
  refine CI.mk (by decide) hj (Nat.le_of_ble_eq_true rfl) (fun p e R s m below meth c ls C hw hl => ?_)
  have hl : lv_has ls 1 [(0, .ref (ad (0)))] := hl
  generalize ([.ref (ad (0))] : List Value).toArray = args at C ⊢
  have C : Cx 1 D cy ad p R s m args meth c cX8_sets 1 RX8 (some .int) 7 := C
  unfold f_X8_sets at h
  refine lv_aload_n C.1 C.2.1 dX8_sets_0 rfl (lv_at hl 0 rfl) ?_
  refine lv_iconst (v := (0 : Int32)) C.1 C.2.1 dX8_sets_1 (by decide) ?_
  obtain ⟨r1, h1, h⟩ := bS h
  refine go_A hw (run_V (As := [.int _]) C hw (c_X8_pairsWith C.2.2.2.2.2.2.2.2.2 _ _ _ h1) mi_X8_pairsWith mv_X8_pairsWith o1_0 (ci := 8) rfl rfl lk_X8_175 (by decide) (by decide) rfl hl.1 rfl (Nat.le_of_ble_eq_true rfl) dX8_sets_2 ⟨Nat.le_refl 0, Nat.le_refl 0⟩) (fun H locs hw => ?_)
  rw [show r1.1 = 9 from f_X8_pairsWith_9 h1]
  refine gf_X8_179 C hw dX8_sets_5 ?_
  exact m_iret C hw (ret_p h) dX8_sets_8
noncomputable def f_X8_classes  (σ : Mem) : Option (Int32 × Mem) :=
  (f_X8_pairsWith (0 : Int32) σ).bind (fun r1 => (f_X2_countKinds (r1.2.1 0 9) r1.2).bind (fun r2 => some (r2.1, r2.2)))
set_option maxRecDepth 20000 in
theorem c_X8_classes {l : Launch} {D : va_G} {cy : Nat → ClassId} {ad : Nat → Nat} (hj : InjW 1 ad)   (σ : Mem) (r : (Int32 × Mem)) (h : f_X8_classes σ = some r) : CI 1 D cy ad l yX8_classes cX8_classes 2 (some .int) 7 [.ref (ad (0))] σ r.1 r.2 := by
  refine CI.mk (by decide) hj (Nat.le_of_ble_eq_true rfl) (fun p e R s m below meth c ls C hw hl => ?_)
  have hl : lv_has ls 2 [(0, .ref (ad (0)))] := hl
  generalize ([.ref (ad (0))] : List Value).toArray = args at C ⊢
  have C : Cx 1 D cy ad p R s m args meth c cX8_classes 2 RX8 (some .int) 7 := C
  unfold f_X8_classes at h
  refine lv_aload_n C.1 C.2.1 dX8_classes_0 rfl (lv_at hl 0 rfl) ?_
  refine lv_iconst (v := (0 : Int32)) C.1 C.2.1 dX8_classes_1 (by decide) ?_
  obtain ⟨r1, h1, h⟩ := bS h
  refine go_A hw (run_V (As := [.int _]) C hw (c_X8_pairsWith C.2.2.2.2.2.2.2.2.2 _ _ _ h1) mi_X8_pairsWith mv_X8_pairsWith o1_0 (ci := 8) rfl rfl lk_X8_175 (by decide) (by decide) rfl hl.1 rfl (Nat.le_of_ble_eq_true rfl) dX8_classes_2 ⟨Nat.le_refl 0, Nat.le_refl 0⟩) (fun H locs hw => ?_)
  rw [show r1.1 = 9 from f_X8_pairsWith_9 h1]
  refine lv_astore_n (lv' := [(1, .ref _), (0, .ref _)]) C.1 C.2.1 dX8_classes_5 rfl hl (by decide) rfl (fun ls hl => ?_)
  refine lv_aload_n C.1 C.2.1 dX8_classes_6 rfl (lv_at hl 0 rfl) ?_
  refine gf_X8_180 C hw dX8_classes_7 ?_
  refine lv_aload_n C.1 C.2.1 dX8_classes_10 rfl (lv_at hl 0 rfl) ?_
  refine lv_aload_n C.1 C.2.1 dX8_classes_11 rfl (lv_at hl 1 rfl) ?_
  refine gf_X8_79 C hw dX8_classes_12 ?_
  obtain ⟨r2, h1, h⟩ := bS h
  refine go_I hw (run_V (As := [.ref _, .int _]) C hw (c_X2_countKinds C.2.2.2.2.2.2.2.2.2 _ _ _ h1) mi_X2_countKinds mv_X2_countKinds o1_25 (ci := 2) rfl rfl lk_X8_184 (by decide) (by decide) rfl hl.1 rfl (Nat.le_of_ble_eq_true rfl) dX8_classes_15 ⟨Nat.le_refl 0, Nat.le_refl 0⟩) (fun H locs hw => ?_)
  exact m_iret C hw (ret_p h) dX8_classes_18
noncomputable def f_X8_useful  (σ : Mem) : Option Int32 :=
  (f_X3_usefulStates (σ.2.2 4) (σ.1 0 8) (σ.1 0 9) σ).bind (fun r2 => some r2)
set_option maxRecDepth 20000 in
theorem c_X8_useful {l : Launch} {D : va_G} {cy : Nat → ClassId} {ad : Nat → Nat} (hj : InjW 1 ad)   (σ : Mem) (r : Int32) (h : f_X8_useful σ = some r) : CI 1 D cy ad l yX8_useful cX8_useful 1 (some .int) 4 [.ref (ad (0))] σ r σ := by
  refine CI.mk (by decide) hj (Nat.le_of_ble_eq_true rfl) (fun p e R s m below meth c ls C hw hl => ?_)
  have hl : lv_has ls 1 [(0, .ref (ad (0)))] := hl
  generalize ([.ref (ad (0))] : List Value).toArray = args at C ⊢
  have C : Cx 1 D cy ad p R s m args meth c cX8_useful 1 RX8 (some .int) 4 := C
  unfold f_X8_useful at h
  refine lv_aload_n C.1 C.2.1 dX8_useful_0 rfl (lv_at hl 0 rfl) ?_
  refine gf_X8_39 C hw dX8_useful_1 ?_
  have hk1 := (hw.2.1 rfl).1
  refine lv_aload_n C.1 C.2.1 dX8_useful_4 rfl (lv_at hl 0 rfl) ?_
  refine gf_X8_73 C hw dX8_useful_5 ?_
  refine lv_aload_n C.1 C.2.1 dX8_useful_8 rfl (lv_at hl 0 rfl) ?_
  refine gf_X8_79 C hw dX8_useful_9 ?_
  obtain ⟨r2, h1, h⟩ := bS h
  refine go_I hw (run_V (As := [.int _, .int _]) C hw (c_X3_usefulStates C.2.2.2.2.2.2.2.2.2 _ _ _ hk1 _ _ h1) mi_X3_usefulStates mv_X3_usefulStates hk1 (ci := 3) rfl rfl lk_X8_190 (by decide) (by decide) rfl hl.1 rfl (Nat.le_of_ble_eq_true rfl) dX8_useful_12 ⟨Nat.le_refl 0, Nat.le_refl 0⟩) (fun H locs hw => ?_)
  exact m_iret C hw (ret_i h) dX8_useful_15
noncomputable def f_X8_least (a1 : Int32) (σ : Mem) : Option (Int32 × Mem) :=
  if (-1 : Int32) ≤ a1 then ((f_X8_pairsWith (0 : Int32) σ).bind (fun r1 => (f_X4_leastApart (r1.2.1 0 9) (0 : Int32) r1.2).bind (fun r2 => (f_X4_tellTree r2 a1 r1.2).bind (fun r3 => some (r3, r1.2))))) else (some ((-1 : Int32), σ))
set_option maxRecDepth 20000 in
theorem c_X8_least {l : Launch} {D : va_G} {cy : Nat → ClassId} {ad : Nat → Nat} (hj : InjW 1 ad) (a1 : Int32)  (σ : Mem) (r : (Int32 × Mem)) (h : f_X8_least a1 σ = some r) : CI 1 D cy ad l yX8_least cX8_least 3 (some .int) 7 [.ref (ad (0)), .int a1] σ r.1 r.2 := by
  refine CI.mk (by decide) hj (Nat.le_of_ble_eq_true rfl) (fun p e R s m below meth c ls C hw hl => ?_)
  have hl : lv_has ls 3 [(0, .ref (ad (0))), (1, .int a1)] := hl
  generalize ([.ref (ad (0)), .int a1] : List Value).toArray = args at C ⊢
  have C : Cx 1 D cy ad p R s m args meth c cX8_least 3 RX8 (some .int) 7 := C
  unfold f_X8_least at h
  refine lv_iload_n C.1 C.2.1 dX8_least_0 rfl (lv_at hl 1 rfl) ?_
  refine lv_iconst (v := (-1 : Int32)) C.1 C.2.1 dX8_least_1 (by decide) ?_
  refine lv_icmp_ge (tgt := 7) C.1 C.2.1 dX8_least_2 (by decide) (fun cd => ?_) (fun cd => ?_)
  · have h := ite_t cd h
    refine lv_aload_n C.1 C.2.1 dX8_least_7 rfl (lv_at hl 0 rfl) ?_
    refine lv_iconst (v := (0 : Int32)) C.1 C.2.1 dX8_least_8 (by decide) ?_
    obtain ⟨r1, h1, h⟩ := bS h
    refine go_A hw (run_V (As := [.int _]) C hw (c_X8_pairsWith C.2.2.2.2.2.2.2.2.2 _ _ _ h1) mi_X8_pairsWith mv_X8_pairsWith o1_0 (ci := 8) rfl rfl lk_X8_175 (by decide) (by decide) rfl hl.1 rfl (Nat.le_of_ble_eq_true rfl) dX8_least_9 ⟨Nat.le_refl 0, Nat.le_refl 0⟩) (fun H locs hw => ?_)
    rw [show r1.1 = 9 from f_X8_pairsWith_9 h1]
    refine lv_astore_n (lv' := [(2, .ref _), (0, .ref _), (1, .int _)]) C.1 C.2.1 dX8_least_12 rfl hl (by decide) rfl (fun ls hl => ?_)
    refine lv_aload_n C.1 C.2.1 dX8_least_13 rfl (lv_at hl 0 rfl) ?_
    refine lv_aload_n C.1 C.2.1 dX8_least_14 rfl (lv_at hl 0 rfl) ?_
    refine lv_aload_n C.1 C.2.1 dX8_least_15 rfl (lv_at hl 1 rfl) ?_
    refine gf_X8_79 C hw dX8_least_16 ?_
    refine lv_iconst (v := (0 : Int32)) C.1 C.2.1 dX8_least_19 (by decide) ?_
    obtain ⟨r2, h1, h⟩ := bS h
    refine go_I hw (run_V (As := [.int _, .int _]) C hw (c_X4_leastApart C.2.2.2.2.2.2.2.2.2 _ _ _ _ h1) mi_X4_leastApart mv_X4_leastApart o1_9 (ci := 4) rfl rfl lk_X8_193 (by decide) (by decide) rfl hl.1 rfl (Nat.le_of_ble_eq_true rfl) dX8_least_20 ⟨Nat.le_refl 0, Nat.le_refl 0⟩) (fun H locs hw => ?_)
    refine lv_iload_n C.1 C.2.1 dX8_least_23 rfl (lv_at hl 2 rfl) ?_
    obtain ⟨r3, h1, h⟩ := bS h
    refine go_I hw (run_V (As := [.int _, .int _]) C hw (c_X4_tellTree C.2.2.2.2.2.2.2.2.2 _ _ _ _ h1) mi_X4_tellTree mv_X4_tellTree o1_9 (ci := 4) rfl rfl lk_X8_196 (by decide) (by decide) rfl hl.1 rfl (Nat.le_of_ble_eq_true rfl) dX8_least_24 ⟨Nat.le_refl 0, Nat.le_refl 0⟩) (fun H locs hw => ?_)
    exact m_iret C hw (ret_p h) dX8_least_27
  · have h := ite_f cd h
    refine lv_iconst (v := (-1 : Int32)) C.1 C.2.1 dX8_least_5 (by decide) ?_
    exact m_iret C hw (ret_p h) dX8_least_6
def f_X8_isCounted (a0 : Int32) : Int32 :=
  if a0 < (1 : Int32) then ((0 : Int32)) else (if (15 : Int32) < a0 then ((0 : Int32)) else ((1 : Int32)))
set_option maxRecDepth 20000 in
theorem c_X8_isCounted {l : Launch} {D : va_G} {cy : Nat → ClassId} {ad : Nat → Nat} (hj : InjW 1 ad) (a0 : Int32)  (σ : Mem) : CI 1 D cy ad l yX8_isCounted cX8_isCounted 1 (some .boolean) 0 [.int a0] σ (f_X8_isCounted a0) σ := by
  refine CI.mk (by decide) hj (Nat.le_of_ble_eq_true rfl) (fun p e R s m below meth c ls C hw hl => ?_)
  have hl : lv_has ls 1 [(0, .int a0)] := hl
  generalize ([.int a0] : List Value).toArray = args at C ⊢
  have C : Cx 1 D cy ad p R s m args meth c cX8_isCounted 1 RX8 (some .boolean) 0 := C
  obtain ⟨r, h⟩ : ∃ r, f_X8_isCounted a0 = r := ⟨_, rfl⟩
  rw [h]
  unfold f_X8_isCounted at h
  refine lv_iload_n C.1 C.2.1 dX8_isCounted_0 rfl (lv_at hl 0 rfl) ?_
  refine lv_iconst (v := (1 : Int32)) C.1 C.2.1 dX8_isCounted_1 (by decide) ?_
  refine lv_icmp_lt (tgt := 15) C.1 C.2.1 dX8_isCounted_2 (by decide) (fun cd => ?_) (fun cd => ?_)
  · have h := ite_t cd h
    refine lv_iconst (v := (0 : Int32)) C.1 C.2.1 dX8_isCounted_15 (by decide) ?_
    exact m_zret C hw (by decide) ⟨h, rfl⟩ dX8_isCounted_16
  · have h := ite_f cd h
    refine lv_iload_n C.1 C.2.1 dX8_isCounted_5 rfl (lv_at hl 0 rfl) ?_
    refine lv_bipush (v := (15 : Int32)) C.1 C.2.1 dX8_isCounted_6 (by decide) ?_
    refine lv_icmp_gt (tgt := 15) C.1 C.2.1 dX8_isCounted_8 (by decide) (fun cd => ?_) (fun cd => ?_)
    · have h := ite_t cd h
      refine lv_iconst (v := (0 : Int32)) C.1 C.2.1 dX8_isCounted_15 (by decide) ?_
      exact m_zret C hw (by decide) ⟨h, rfl⟩ dX8_isCounted_16
    · have h := ite_f cd h
      refine lv_iconst (v := (1 : Int32)) C.1 C.2.1 dX8_isCounted_11 (by decide) ?_
      refine lv_goto (tgt := 16) C.1 C.2.1 dX8_isCounted_12 (by decide) ?_
      exact m_zret C hw (by decide) ⟨h, rfl⟩ dX8_isCounted_16
noncomputable def j_X8_many_58 (a1 : Int32) (v3 : Int64) (v5 : Int32) (σ : Mem) : Option ((Int64 × Int32 × Mem) ⊕ (Int64 × Mem)) :=
  lt (v5 + (1 : Int32)) (fun x3 => some (.inl (v3, x3, σ)))
noncomputable def b_X8_many_22 (a1 : Int32) (v3 : Int64) (v5 : Int32) (σ : Mem) : Option ((Int64 × Int32 × Mem) ⊕ (Int64 × Mem)) :=
  if (σ.1 9 17) ≤ v5 then (some (.inr (v3, σ))) else ((f_X4_isGoodHere v5 (σ.1 0 9) σ).bind (fun r2 => if r2 = 0 then (j_X8_many_58 a1 v3 v5 σ) else ((f_X5_treesOf v5 a1 σ).bind (fun r4 => lt (v3 + r4.1) (fun x5 => j_X8_many_58 a1 x5 v5 r4.2)))))
noncomputable def f_X8_many (a1 : Int32) (σ : Mem) : Option (Int64 × Mem) :=
  if (f_X8_isCounted a1) = 0 then (some ((-1 : Int64), σ)) else ((f_X8_pairsWith (0 : Int32) σ).bind (fun r1 => (Lim (T := (Int64 × Mem)) (fun s => b_X8_many_22 a1 s.1 s.2.1 s.2.2) ((0 : Int64), (0 : Int32), r1.2)).bind (fun r6 => some (r6.1, r6.2))))
set_option maxRecDepth 20000 in
theorem w_X8_many_58 {D : va_G} {cy : Nat → ClassId} {ad : Nat → Nat} {p : Program} {l : Launch} {e : Env} {R : Room} {s : State} {m : MethodId} {args : Array Value} {below : List Frame} {meth : Method} {c : Code} (C : Cx 1 D cy ad p R s m args meth c cX8_many 6 RX8 (some .long) 7) {a1 : Int32}  {v3 : Int64} {v5 : Int32}  {σ : Mem} {H : Heap} {locs : List Loc} {ls : Array Slot} {Q : State → Prop} {P : (Int64 × Int32 × Mem) → Prop} {r : (Int64 × Mem)} {x : (Int64 × Int32 × Mem) ⊕ (Int64 × Mem)} (hx : LimQ P r x) (hP : ∀ u, P u → ∀ (H : Heap) (locs : List Loc) (ls : Array Slot), Wd 1 D cy ad s u.2.2 H locs → lv_has ls 6 [(0, .ref (ad (0))), (1, .int a1), (2, .ref (ad (9))), (3, .long u.1), (5, .int u.2.1)] → W p l e R s m args below meth c H locs 0 0 Q (F0 m 22 ls [])) (hE0 : ∀ (v3 : Int64) (σ1 : Mem), ((v3, σ1) : (Int64 × Mem)) = r → ∀ (H : Heap) (locs : List Loc) (ls : Array Slot), Wd 1 D cy ad s σ1 H locs → lv_has ls 6 [(3, .long v3)] → W p l e R s m args below meth c H locs 0 0 Q (F0 m 64 ls [])) (hw : Wd 1 D cy ad s σ H locs) (hl : lv_has ls 6 [(0, .ref (ad (0))), (1, .int a1), (2, .ref (ad (9))), (3, .long v3), (5, .int v5)]) (h : j_X8_many_58 a1 v3 v5 σ = some x) : W p l e R s m args below meth c H locs 0 0 Q (F0 m 58 ls []) := by
  unfold j_X8_many_58 at h
  obtain ⟨x3, ex3, h⟩ := lt_of h
  refine m_iinc (k := 4) (lv' := [(5, .int _), (0, .ref _), (1, .int _), (2, .ref _), (3, .long _)]) C (1 : Int32) (by decide) dX8_many_58 hl rfl ex3.symm (by decide) rfl (fun ls hl => ?_)
  refine lv_goto (tgt := 22) C.1 C.2.1 dX8_many_61 (by decide) ?_
  obtain rfl := Option.some.inj h
  exact hP _ hx _ _ _ hw (lv_sub hl [1, 2, 3, 4, 0] rfl)
set_option maxRecDepth 20000 in
theorem w_X8_many_22 {D : va_G} {cy : Nat → ClassId} {ad : Nat → Nat} {p : Program} {l : Launch} {e : Env} {R : Room} {s : State} {m : MethodId} {args : Array Value} {below : List Frame} {meth : Method} {c : Code} (C : Cx 1 D cy ad p R s m args meth c cX8_many 6 RX8 (some .long) 7) {a1 : Int32}  {v3 : Int64} {v5 : Int32} {σ : Mem} {Q : State → Prop} {r : (Int64 × Mem)} (hL : Lim (T := (Int64 × Mem)) (fun s => b_X8_many_22 a1 s.1 s.2.1 s.2.2) (v3, v5, σ) = some r) (hE0 : ∀ (v3 : Int64) (σ1 : Mem), ((v3, σ1) : (Int64 × Mem)) = r → ∀ (H : Heap) (locs : List Loc) (ls : Array Slot), Wd 1 D cy ad s σ1 H locs → lv_has ls 6 [(3, .long v3)] → W p l e R s m args below meth c H locs 0 0 Q (F0 m 64 ls [])) (H : Heap) (locs : List Loc) (ls : Array Slot) (hw : Wd 1 D cy ad s σ H locs) (hl : lv_has ls 6 [(0, .ref (ad (0))), (1, .int a1), (2, .ref (ad (9))), (3, .long v3), (5, .int v5)]) : W p l e R s m args below meth c H locs 0 0 Q (F0 m 22 ls []) := by
  refine Lim_ind hL (P := fun u => ∀ (H : Heap) (locs : List Loc) (ls : Array Slot), Wd 1 D cy ad s u.2.2 H locs → lv_has ls 6 [(0, .ref (ad (0))), (1, .int a1), (2, .ref (ad (9))), (3, .long u.1), (5, .int u.2.1)] → W p l e R s m args below meth c H locs 0 0 Q (F0 m 22 ls [])) (fun u x h hx H locs ls hw hl => ?_) H locs ls hw hl
  clear hL
  obtain ⟨v3, v5, σ⟩ := u
  have h : b_X8_many_22 a1 v3 v5 σ = some x := h
  have hw : Wd 1 D cy ad s σ H locs := hw
  have hl : lv_has ls 6 [(0, .ref (ad (0))), (1, .int a1), (2, .ref (ad (9))), (3, .long v3), (5, .int v5)] := hl
  have hP : ∀ (u : (Int64 × Int32 × Mem)), (∀ (H : Heap) (locs : List Loc) (ls : Array Slot), Wd 1 D cy ad s u.2.2 H locs → lv_has ls 6 [(0, .ref (ad (0))), (1, .int a1), (2, .ref (ad (9))), (3, .long u.1), (5, .int u.2.1)] → W p l e R s m args below meth c H locs 0 0 Q (F0 m 22 ls [])) → ∀ (H : Heap) (locs : List Loc) (ls : Array Slot), Wd 1 D cy ad s u.2.2 H locs → lv_has ls 6 [(0, .ref (ad (0))), (1, .int a1), (2, .ref (ad (9))), (3, .long u.1), (5, .int u.2.1)] → W p l e R s m args below meth c H locs 0 0 Q (F0 m 22 ls []) := fun _ k => k
  unfold b_X8_many_22 at h
  refine lv_iload C.1 C.2.1 dX8_many_22 (lv_at hl 4 rfl) ?_
  refine lv_aload_n C.1 C.2.1 dX8_many_24 rfl (lv_at hl 2 rfl) ?_
  refine gf_X8_179 C hw dX8_many_25 ?_
  refine lv_icmp_ge (tgt := 64) C.1 C.2.1 dX8_many_28 (by decide) (fun cd => ?_) (fun cd => ?_)
  · have h := ite_t cd h
    obtain rfl := Option.some.inj h
    exact hE0 _ _ hx _ _ _ hw (lv_sub hl [3] rfl)
  · have h := ite_f cd h
    refine lv_aload_n C.1 C.2.1 dX8_many_31 rfl (lv_at hl 2 rfl) ?_
    refine lv_iload C.1 C.2.1 dX8_many_32 (lv_at hl 4 rfl) ?_
    refine lv_aload_n C.1 C.2.1 dX8_many_34 rfl (lv_at hl 0 rfl) ?_
    refine gf_X8_79 C hw dX8_many_35 ?_
    obtain ⟨r2, h1, h⟩ := bS h
    refine go_I hw (run_V (As := [.int _, .int _]) C hw (c_X4_isGoodHere C.2.2.2.2.2.2.2.2.2 _ _ _ _ h1) mi_X4_isGoodHere mv_X4_isGoodHere o1_9 (ci := 4) rfl rfl lk_X8_204 (by decide) (by decide) rfl hl.1 rfl (Nat.le_of_ble_eq_true rfl) dX8_many_38 ⟨Nat.le_refl 0, Nat.le_refl 0⟩) (fun H locs hw => ?_)
    refine lv_if_eq (tgt := 58) C.1 C.2.1 dX8_many_41 (by decide) (fun cd => ?_) (fun cd => ?_)
    · have h := ite_t cd h
      exact w_X8_many_58 C hx hP hE0 hw (lv_sub hl [0, 1, 2, 3, 4] rfl) h
    · have h := ite_f cd h
      refine lv_lload_n C.1 C.2.1 dX8_many_44 rfl (lv_at hl 3 rfl) ?_
      refine lv_aload_n C.1 C.2.1 dX8_many_45 rfl (lv_at hl 2 rfl) ?_
      refine gf_X8_208 C hw dX8_many_46 ?_
      refine lv_aload_n C.1 C.2.1 dX8_many_49 rfl (lv_at hl 2 rfl) ?_
      refine lv_iload C.1 C.2.1 dX8_many_50 (lv_at hl 4 rfl) ?_
      refine lv_iload_n C.1 C.2.1 dX8_many_52 rfl (lv_at hl 1 rfl) ?_
      obtain ⟨r4, h1, h⟩ := bS h
      refine go_L hw (run_V (As := [.ref _, .int _, .int _]) C hw (c_X5_treesOf C.2.2.2.2.2.2.2.2.2 _ _ _ _ h1) mi_X5_treesOf mv_X5_treesOf o1_22 (ci := 5) rfl rfl lk_X8_212 (by decide) (by decide) rfl hl.1 rfl (Nat.le_of_ble_eq_true rfl) dX8_many_53 ⟨Nat.le_refl 0, Nat.le_refl 0⟩) (fun H locs hw => ?_)
      refine lv_ladd C.1 C.2.1 dX8_many_56 ?_
      obtain ⟨x5, ex5, h⟩ := lt_of h
      refine m_topl ex5 ?_
      refine lv_lstore_n (lv' := [(3, .long _), (0, .ref _), (1, .int _), (2, .ref _), (5, .int _)]) C.1 C.2.1 dX8_many_57 rfl hl (by decide) rfl (fun ls hl => ?_)
      exact w_X8_many_58 C hx hP hE0 hw (lv_sub hl [1, 2, 3, 0, 4] rfl) h
set_option maxRecDepth 20000 in
theorem c_X8_many {l : Launch} {D : va_G} {cy : Nat → ClassId} {ad : Nat → Nat} (hj : InjW 1 ad) (a1 : Int32)  (σ : Mem) (r : (Int64 × Mem)) (h : f_X8_many a1 σ = some r) : CL 1 D cy ad l yX8_many cX8_many 6 (some .long) 7 [.ref (ad (0)), .int a1] σ r.1 r.2 := by
  refine CL.mk (by decide) hj (Nat.le_of_ble_eq_true rfl) (fun p e R s m below meth c ls C hw hl => ?_)
  have hl : lv_has ls 6 [(0, .ref (ad (0))), (1, .int a1)] := hl
  generalize ([.ref (ad (0)), .int a1] : List Value).toArray = args at C ⊢
  have C : Cx 1 D cy ad p R s m args meth c cX8_many 6 RX8 (some .long) 7 := C
  unfold f_X8_many at h
  refine lv_iload_n C.1 C.2.1 dX8_many_0 rfl (lv_at hl 1 rfl) ?_
  refine go_I hw (run_S (As := [.int _]) C hw (c_X8_isCounted C.2.2.2.2.2.2.2.2.2 _ _) mi_X8_isCounted ms_X8_isCounted lk_X8_199 (by decide) (by decide) rfl hl.1 rfl (Nat.le_of_ble_eq_true rfl) dX8_many_1 ⟨Nat.le_refl 0, Nat.le_refl 0⟩) (fun H locs hw => ?_)
  refine lv_if_ne (tgt := 11) C.1 C.2.1 dX8_many_4 (by decide) (fun cd => ?_) (fun cd => ?_)
  · have h := ite_f cd h
    refine lv_aload_n C.1 C.2.1 dX8_many_11 rfl (lv_at hl 0 rfl) ?_
    refine lv_iconst (v := (0 : Int32)) C.1 C.2.1 dX8_many_12 (by decide) ?_
    obtain ⟨r1, h1, h⟩ := bS h
    refine go_A hw (run_V (As := [.int _]) C hw (c_X8_pairsWith C.2.2.2.2.2.2.2.2.2 _ _ _ h1) mi_X8_pairsWith mv_X8_pairsWith o1_0 (ci := 8) rfl rfl lk_X8_175 (by decide) (by decide) rfl hl.1 rfl (Nat.le_of_ble_eq_true rfl) dX8_many_13 ⟨Nat.le_refl 0, Nat.le_refl 0⟩) (fun H locs hw => ?_)
    rw [show r1.1 = 9 from f_X8_pairsWith_9 h1]
    refine lv_astore_n (lv' := [(2, .ref _), (0, .ref _), (1, .int _)]) C.1 C.2.1 dX8_many_16 rfl hl (by decide) rfl (fun ls hl => ?_)
    refine lv_lconst (v := (0 : Int64)) C.1 C.2.1 dX8_many_17 (by decide) ?_
    refine lv_lstore_n (lv' := [(3, .long _), (2, .ref _), (0, .ref _), (1, .int _)]) C.1 C.2.1 dX8_many_18 rfl hl (by decide) rfl (fun ls hl => ?_)
    refine lv_iconst (v := (0 : Int32)) C.1 C.2.1 dX8_many_19 (by decide) ?_
    refine lv_istore (lv' := [(5, .int _), (3, .long _), (2, .ref _), (0, .ref _), (1, .int _)]) C.1 C.2.1 dX8_many_20 hl (by decide) rfl (fun ls hl => ?_)
    obtain ⟨r6, hL, h⟩ := bS h
    refine w_X8_many_22 C  hL (fun y0 y1 hr H locs ls hw hl => ?_) _ _ _ hw (lv_sub hl [3, 4, 2, 1, 0] rfl)
    · subst hr
      try dsimp only at h
      try dsimp only at hw
      try dsimp only at hl
      refine lv_lload_n C.1 C.2.1 dX8_many_64 rfl (lv_at hl 0 rfl) ?_
      exact m_lret C hw (ret_p h) dX8_many_65
  · have h := ite_t cd h
    refine lv_ldc2 (v := (-1 : Int64)) C.1 C.2.1 C.2.2.2.1 (C.2.2.2.2.1 _ kl_X8_202) dX8_many_7 ?_
    exact m_lret C hw (ret_p h) dX8_many_10
def f_X8_isImage (a0 : Int32) : Int32 :=
  if a0 < 0 then ((0 : Int32)) else (if (2 : Int32) ≤ a0 then ((0 : Int32)) else ((1 : Int32)))
set_option maxRecDepth 20000 in
theorem c_X8_isImage {l : Launch} {D : va_G} {cy : Nat → ClassId} {ad : Nat → Nat} (hj : InjW 1 ad) (a0 : Int32)  (σ : Mem) : CI 1 D cy ad l yX8_isImage cX8_isImage 1 (some .boolean) 0 [.int a0] σ (f_X8_isImage a0) σ := by
  refine CI.mk (by decide) hj (Nat.le_of_ble_eq_true rfl) (fun p e R s m below meth c ls C hw hl => ?_)
  have hl : lv_has ls 1 [(0, .int a0)] := hl
  generalize ([.int a0] : List Value).toArray = args at C ⊢
  have C : Cx 1 D cy ad p R s m args meth c cX8_isImage 1 RX8 (some .boolean) 0 := C
  obtain ⟨r, h⟩ : ∃ r, f_X8_isImage a0 = r := ⟨_, rfl⟩
  rw [h]
  unfold f_X8_isImage at h
  refine lv_iload_n C.1 C.2.1 dX8_isImage_0 rfl (lv_at hl 0 rfl) ?_
  refine lv_if_lt (tgt := 13) C.1 C.2.1 dX8_isImage_1 (by decide) (fun cd => ?_) (fun cd => ?_)
  · have h := ite_t cd h
    refine lv_iconst (v := (0 : Int32)) C.1 C.2.1 dX8_isImage_13 (by decide) ?_
    exact m_zret C hw (by decide) ⟨h, rfl⟩ dX8_isImage_14
  · have h := ite_f cd h
    refine lv_iload_n C.1 C.2.1 dX8_isImage_4 rfl (lv_at hl 0 rfl) ?_
    refine lv_iconst (v := (2 : Int32)) C.1 C.2.1 dX8_isImage_5 (by decide) ?_
    refine lv_icmp_ge (tgt := 13) C.1 C.2.1 dX8_isImage_6 (by decide) (fun cd => ?_) (fun cd => ?_)
    · have h := ite_t cd h
      refine lv_iconst (v := (0 : Int32)) C.1 C.2.1 dX8_isImage_13 (by decide) ?_
      exact m_zret C hw (by decide) ⟨h, rfl⟩ dX8_isImage_14
    · have h := ite_f cd h
      refine lv_iconst (v := (1 : Int32)) C.1 C.2.1 dX8_isImage_9 (by decide) ?_
      refine lv_goto (tgt := 14) C.1 C.2.1 dX8_isImage_10 (by decide) ?_
      exact m_zret C hw (by decide) ⟨h, rfl⟩ dX8_isImage_14
noncomputable def f_X8_refusalOf (a1 : Int32) (σ : Mem) : Option Int32 :=
  if (f_X8_isImage a1) = 0 then (some (-1 : Int32)) else (gd (ix a1 2) (if (σ.1 (54 + 6 * a1.toNatClampNeg) 0) = 0 then (some (-2 : Int32)) else (some (0 : Int32))))
set_option maxRecDepth 20000 in
theorem c_X8_refusalOf {l : Launch} {D : va_G} {cy : Nat → ClassId} {ad : Nat → Nat} (hj : InjW 1 ad) (a1 : Int32)  (σ : Mem) (r : Int32) (h : f_X8_refusalOf a1 σ = some r) : CI 1 D cy ad l yX8_refusalOf cX8_refusalOf 2 (some .int) 1 [.ref (ad (0)), .int a1] σ r σ := by
  refine CI.mk (by decide) hj (Nat.le_of_ble_eq_true rfl) (fun p e R s m below meth c ls C hw hl => ?_)
  have hl : lv_has ls 2 [(0, .ref (ad (0))), (1, .int a1)] := hl
  generalize ([.ref (ad (0)), .int a1] : List Value).toArray = args at C ⊢
  have C : Cx 1 D cy ad p R s m args meth c cX8_refusalOf 2 RX8 (some .int) 1 := C
  unfold f_X8_refusalOf at h
  refine lv_iload_n C.1 C.2.1 dX8_refusalOf_0 rfl (lv_at hl 1 rfl) ?_
  refine go_I hw (run_S (As := [.int _]) C hw (c_X8_isImage C.2.2.2.2.2.2.2.2.2 _ _) mi_X8_isImage ms_X8_isImage lk_X8_239 (by decide) (by decide) rfl hl.1 rfl (Nat.le_of_ble_eq_true rfl) dX8_refusalOf_1 ⟨Nat.le_refl 0, Nat.le_refl 0⟩) (fun H locs hw => ?_)
  refine lv_if_ne (tgt := 9) C.1 C.2.1 dX8_refusalOf_4 (by decide) (fun cd => ?_) (fun cd => ?_)
  · have h := ite_f cd h
    refine lv_aload_n C.1 C.2.1 dX8_refusalOf_9 rfl (lv_at hl 0 rfl) ?_
    refine gf_X8_18 C hw dX8_refusalOf_10 ?_
    refine lv_iload_n C.1 C.2.1 dX8_refusalOf_13 rfl (lv_at hl 1 rfl) ?_
    obtain ⟨hin, h⟩ := gd_of h
    have hk1 := img_at hin
    refine gf_img C hw hin dX8_refusalOf_14 ?_
    refine gf_X8_82 C hw hk1 dX8_refusalOf_15 ?_
    refine lv_if_eq (tgt := 25) C.1 C.2.1 dX8_refusalOf_18 (by decide) (fun cd => ?_) (fun cd => ?_)
    · have h := ite_t cd h
      refine lv_bipush (v := (-2 : Int32)) C.1 C.2.1 dX8_refusalOf_25 (by decide) ?_
      exact m_iret C hw (ret_i h) dX8_refusalOf_27
    · have h := ite_f cd h
      refine lv_iconst (v := (0 : Int32)) C.1 C.2.1 dX8_refusalOf_21 (by decide) ?_
      refine lv_goto (tgt := 27) C.1 C.2.1 dX8_refusalOf_22 (by decide) ?_
      exact m_iret C hw (ret_i h) dX8_refusalOf_27
  · have h := ite_t cd h
    refine lv_iconst (v := (-1 : Int32)) C.1 C.2.1 dX8_refusalOf_7 (by decide) ?_
    exact m_iret C hw (ret_i h) dX8_refusalOf_8
noncomputable def b_X8_alike_39 (a1 : Int32) (v4 : Int32) (σ : Mem) : Option (Int32 ⊕ (Unit ⊕ Unit)) :=
  if (σ.1 9 17) ≤ v4 then (some (.inr (.inr ()))) else (gd (ix a1 2) ((f_X4_isApart v4 (σ.1 0 9) (σ.1 (54 + 6 * a1.toNatClampNeg) 2) σ).bind (fun r5 => if r5 = 0 then (lt (v4 + (1 : Int32)) (fun x6 => some (.inl x6))) else (some (.inr (.inl ()))))))
noncomputable def f_X8_alike (a1 : Int32) (σ : Mem) : Option (Int32 × Mem) :=
  (f_X8_refusalOf a1 σ).bind (fun r1 => if r1 = 0 then (gd (ix a1 2) ((f_X8_pairsWith (σ.1 (54 + 6 * a1.toNatClampNeg) 1) σ).bind (fun r3 => if (r3.2.1 9 18) = 0 then ((Lim (T := (Unit ⊕ Unit)) (fun s => b_X8_alike_39 a1 s r3.2) (0 : Int32)).bind (fun r7 => (match r7 with | .inl r7_0 => (some ((0 : Int32), r3.2)) | .inr r7_1 => (some ((1 : Int32), r3.2))))) else (some ((-3 : Int32), r3.2))))) else (some (r1, σ)))
set_option maxRecDepth 20000 in
theorem w_X8_alike_39 {D : va_G} {cy : Nat → ClassId} {ad : Nat → Nat} {p : Program} {l : Launch} {e : Env} {R : Room} {s : State} {m : MethodId} {args : Array Value} {below : List Frame} {meth : Method} {c : Code} (C : Cx 1 D cy ad p R s m args meth c cX8_alike 5 RX8 (some .int) 7) {a1 : Int32}  {v4 : Int32} {σ : Mem} {Q : State → Prop} {r : (Unit ⊕ Unit)} (hL : Lim (T := (Unit ⊕ Unit)) (fun s => b_X8_alike_39 a1 s σ) v4 = some r) (hE0 : (.inl () : (Unit ⊕ Unit)) = r → ∀ (H : Heap) (locs : List Loc) (ls : Array Slot), Wd 1 D cy ad s σ H locs → lv_has ls 5 [] → W p l e R s m args below meth c H locs 0 0 Q (F0 m 70 ls [])) (hE1 : (.inr () : (Unit ⊕ Unit)) = r → ∀ (H : Heap) (locs : List Loc) (ls : Array Slot), Wd 1 D cy ad s σ H locs → lv_has ls 5 [] → W p l e R s m args below meth c H locs 0 0 Q (F0 m 78 ls [])) (H : Heap) (locs : List Loc) (ls : Array Slot) (hw : Wd 1 D cy ad s σ H locs) (hl : lv_has ls 5 [(0, .ref (ad (0))), (1, .int a1), (3, .ref (ad (9))), (4, .int v4)]) : W p l e R s m args below meth c H locs 0 0 Q (F0 m 39 ls []) := by
  refine Lim_ind hL (P := fun u => ∀ (H : Heap) (locs : List Loc) (ls : Array Slot), Wd 1 D cy ad s σ H locs → lv_has ls 5 [(0, .ref (ad (0))), (1, .int a1), (3, .ref (ad (9))), (4, .int u)] → W p l e R s m args below meth c H locs 0 0 Q (F0 m 39 ls [])) (fun u x h hx H locs ls hw hl => ?_) H locs ls hw hl
  clear hL
  obtain ⟨v4, rfl⟩ : ∃ z, z = u := ⟨u, rfl⟩
  have h : b_X8_alike_39 a1 v4 σ = some x := h
  have hw : Wd 1 D cy ad s σ H locs := hw
  have hl : lv_has ls 5 [(0, .ref (ad (0))), (1, .int a1), (3, .ref (ad (9))), (4, .int v4)] := hl
  have hP : ∀ (u : Int32), (∀ (H : Heap) (locs : List Loc) (ls : Array Slot), Wd 1 D cy ad s σ H locs → lv_has ls 5 [(0, .ref (ad (0))), (1, .int a1), (3, .ref (ad (9))), (4, .int u)] → W p l e R s m args below meth c H locs 0 0 Q (F0 m 39 ls [])) → ∀ (H : Heap) (locs : List Loc) (ls : Array Slot), Wd 1 D cy ad s σ H locs → lv_has ls 5 [(0, .ref (ad (0))), (1, .int a1), (3, .ref (ad (9))), (4, .int u)] → W p l e R s m args below meth c H locs 0 0 Q (F0 m 39 ls []) := fun _ k => k
  unfold b_X8_alike_39 at h
  refine lv_iload C.1 C.2.1 dX8_alike_39 (lv_at hl 3 rfl) ?_
  refine lv_aload_n C.1 C.2.1 dX8_alike_41 rfl (lv_at hl 2 rfl) ?_
  refine gf_X8_179 C hw dX8_alike_42 ?_
  refine lv_icmp_ge (tgt := 78) C.1 C.2.1 dX8_alike_45 (by decide) (fun cd => ?_) (fun cd => ?_)
  · have h := ite_t cd h
    obtain rfl := Option.some.inj h
    exact hE1  hx _ _ _ hw (lv_sub hl [] rfl)
  · have h := ite_f cd h
    refine lv_aload_n C.1 C.2.1 dX8_alike_48 rfl (lv_at hl 2 rfl) ?_
    refine lv_iload C.1 C.2.1 dX8_alike_49 (lv_at hl 3 rfl) ?_
    refine lv_aload_n C.1 C.2.1 dX8_alike_51 rfl (lv_at hl 0 rfl) ?_
    refine gf_X8_79 C hw dX8_alike_52 ?_
    refine lv_aload_n C.1 C.2.1 dX8_alike_55 rfl (lv_at hl 0 rfl) ?_
    refine gf_X8_18 C hw dX8_alike_56 ?_
    refine lv_iload_n C.1 C.2.1 dX8_alike_59 rfl (lv_at hl 1 rfl) ?_
    obtain ⟨hin, h⟩ := gd_of h
    have hk4 := img_at hin
    refine gf_img C hw hin dX8_alike_60 ?_
    refine gf_X8_225 C hw hk4 dX8_alike_61 ?_
    obtain ⟨r5, h1, h⟩ := bS h
    refine go_I hw (run_V (As := [.int _, .int _, .int _]) C hw (c_X4_isApart C.2.2.2.2.2.2.2.2.2 _ _ _ _ _ h1) mi_X4_isApart mv_X4_isApart o1_9 (ci := 4) rfl rfl lk_X8_226 (by decide) (by decide) rfl hl.1 rfl (Nat.le_of_ble_eq_true rfl) dX8_alike_64 ⟨Nat.le_refl 0, Nat.le_refl 0⟩) (fun H locs hw => ?_)
    refine lv_if_eq (tgt := 72) C.1 C.2.1 dX8_alike_67 (by decide) (fun cd => ?_) (fun cd => ?_)
    · have h := ite_t cd h
      obtain ⟨x6, ex6, h⟩ := lt_of h
      refine m_iinc (k := 3) (lv' := [(4, .int _), (0, .ref _), (1, .int _), (3, .ref _)]) C (1 : Int32) (by decide) dX8_alike_72 hl rfl ex6.symm (by decide) rfl (fun ls hl => ?_)
      refine lv_goto (tgt := 39) C.1 C.2.1 dX8_alike_75 (by decide) ?_
      obtain rfl := Option.some.inj h
      exact hP _ hx _ _ _ hw (lv_sub hl [1, 2, 3, 0] rfl)
    · have h := ite_f cd h
      obtain rfl := Option.some.inj h
      exact hE0  hx _ _ _ hw (lv_sub hl [] rfl)
set_option maxRecDepth 20000 in
theorem c_X8_alike {l : Launch} {D : va_G} {cy : Nat → ClassId} {ad : Nat → Nat} (hj : InjW 1 ad) (a1 : Int32)  (σ : Mem) (r : (Int32 × Mem)) (h : f_X8_alike a1 σ = some r) : CI 1 D cy ad l yX8_alike cX8_alike 5 (some .int) 7 [.ref (ad (0)), .int a1] σ r.1 r.2 := by
  refine CI.mk (by decide) hj (Nat.le_of_ble_eq_true rfl) (fun p e R s m below meth c ls C hw hl => ?_)
  have hl : lv_has ls 5 [(0, .ref (ad (0))), (1, .int a1)] := hl
  generalize ([.ref (ad (0)), .int a1] : List Value).toArray = args at C ⊢
  have C : Cx 1 D cy ad p R s m args meth c cX8_alike 5 RX8 (some .int) 7 := C
  unfold f_X8_alike at h
  refine lv_aload_n C.1 C.2.1 dX8_alike_0 rfl (lv_at hl 0 rfl) ?_
  refine lv_iload_n C.1 C.2.1 dX8_alike_1 rfl (lv_at hl 1 rfl) ?_
  obtain ⟨r1, h1, h⟩ := bS h
  refine go_I hw (run_V (As := [.int _]) C hw (c_X8_refusalOf C.2.2.2.2.2.2.2.2.2 _ _ _ h1) mi_X8_refusalOf mv_X8_refusalOf o1_0 (ci := 8) rfl rfl lk_X8_218 (by decide) (by decide) rfl hl.1 rfl (Nat.le_of_ble_eq_true rfl) dX8_alike_2 ⟨Nat.le_refl 0, Nat.le_refl 0⟩) (fun H locs hw => ?_)
  refine lv_istore_n (lv' := [(2, .int _), (0, .ref _), (1, .int _)]) C.1 C.2.1 dX8_alike_5 rfl hl (by decide) rfl (fun ls hl => ?_)
  refine lv_iload_n C.1 C.2.1 dX8_alike_6 rfl (lv_at hl 0 rfl) ?_
  refine lv_if_eq (tgt := 12) C.1 C.2.1 dX8_alike_7 (by decide) (fun cd => ?_) (fun cd => ?_)
  · have h := ite_t cd h
    refine lv_aload_n C.1 C.2.1 dX8_alike_12 rfl (lv_at hl 1 rfl) ?_
    refine lv_aload_n C.1 C.2.1 dX8_alike_13 rfl (lv_at hl 1 rfl) ?_
    refine gf_X8_18 C hw dX8_alike_14 ?_
    refine lv_iload_n C.1 C.2.1 dX8_alike_17 rfl (lv_at hl 2 rfl) ?_
    obtain ⟨hin, h⟩ := gd_of h
    have hk2 := img_at hin
    refine gf_img C hw hin dX8_alike_18 ?_
    refine gf_X8_221 C hw hk2 dX8_alike_19 ?_
    obtain ⟨r3, h1, h⟩ := bS h
    refine go_A hw (run_V (As := [.int _]) C hw (c_X8_pairsWith C.2.2.2.2.2.2.2.2.2 _ _ _ h1) mi_X8_pairsWith mv_X8_pairsWith o1_0 (ci := 8) rfl rfl lk_X8_175 (by decide) (by decide) rfl hl.1 rfl (Nat.le_of_ble_eq_true rfl) dX8_alike_22 ⟨Nat.le_refl 0, Nat.le_refl 0⟩) (fun H locs hw => ?_)
    rw [show r3.1 = 9 from f_X8_pairsWith_9 h1]
    refine lv_astore_n (lv' := [(3, .ref _), (2, .int _), (0, .ref _), (1, .int _)]) C.1 C.2.1 dX8_alike_25 rfl hl (by decide) rfl (fun ls hl => ?_)
    refine lv_aload_n C.1 C.2.1 dX8_alike_26 rfl (lv_at hl 0 rfl) ?_
    refine gf_X8_222 C hw dX8_alike_27 ?_
    refine lv_if_eq (tgt := 36) C.1 C.2.1 dX8_alike_30 (by decide) (fun cd => ?_) (fun cd => ?_)
    · have h := ite_t cd h
      refine lv_iconst (v := (0 : Int32)) C.1 C.2.1 dX8_alike_36 (by decide) ?_
      refine lv_istore (lv' := [(4, .int _), (3, .ref _), (2, .int _), (0, .ref _), (1, .int _)]) C.1 C.2.1 dX8_alike_37 hl (by decide) rfl (fun ls hl => ?_)
      obtain ⟨r7, hL, h⟩ := bS h
      refine w_X8_alike_39 C  hL (fun  hr H locs ls hw hl => ?_) (fun  hr H locs ls hw hl => ?_) _ _ _ hw (lv_sub hl [3, 4, 1, 0] rfl)
      · subst hr
        try dsimp only at h
        try dsimp only at hw
        try dsimp only at hl
        refine lv_iconst (v := (0 : Int32)) C.1 C.2.1 dX8_alike_70 (by decide) ?_
        exact m_iret C hw (ret_p h) dX8_alike_71
      · subst hr
        try dsimp only at h
        try dsimp only at hw
        try dsimp only at hl
        refine lv_iconst (v := (1 : Int32)) C.1 C.2.1 dX8_alike_78 (by decide) ?_
        exact m_iret C hw (ret_p h) dX8_alike_79
    · have h := ite_f cd h
      refine lv_bipush (v := (-3 : Int32)) C.1 C.2.1 dX8_alike_33 (by decide) ?_
      exact m_iret C hw (ret_p h) dX8_alike_35
  · have h := ite_f cd h
    refine lv_iload_n C.1 C.2.1 dX8_alike_10 rfl (lv_at hl 0 rfl) ?_
    exact m_iret C hw (ret_p h) dX8_alike_11
noncomputable def j_X8_apart_14 (a1 : Int32) (a2 : Int32) (z0 : Int32) (σ : Mem) : Option (Int32 × Mem) :=
  if z0 = 0 then (gd (ix a1 2) ((f_X8_pairsWith (σ.1 (54 + 6 * a1.toNatClampNeg) 1) σ).bind (fun r3 => if (r3.2.1 9 18) = 0 then (gd (ix a1 2) ((f_X4_leastApart (r3.2.1 0 9) (r3.2.1 (54 + 6 * a1.toNatClampNeg) 2) r3.2).bind (fun r5 => (f_X4_tellTree r5 a2 r3.2).bind (fun r6 => some (r6, r3.2))))) else (some ((-3 : Int32), r3.2))))) else (some (z0, σ))
noncomputable def f_X8_apart (a1 : Int32) (a2 : Int32) (σ : Mem) : Option (Int32 × Mem) :=
  if (-1 : Int32) ≤ a2 then ((f_X8_refusalOf a1 σ).bind (fun r1 => j_X8_apart_14 a1 a2 r1 σ)) else (j_X8_apart_14 a1 a2 (-1 : Int32) σ)
set_option maxRecDepth 20000 in
theorem w_X8_apart_14 {D : va_G} {cy : Nat → ClassId} {ad : Nat → Nat} {p : Program} {l : Launch} {e : Env} {R : Room} {s : State} {m : MethodId} {args : Array Value} {below : List Frame} {meth : Method} {c : Code} (C : Cx 1 D cy ad p R s m args meth c cX8_apart 5 RX8 (some .int) 7) {a1 : Int32} {a2 : Int32}  {z0 : Int32}  {σ : Mem} {H : Heap} {locs : List Loc} {ls : Array Slot} {r : (Int32 × Mem)} (hw : Wd 1 D cy ad s σ H locs) (hl : lv_has ls 5 [(0, .ref (ad (0))), (1, .int a1), (2, .int a2)]) (h : j_X8_apart_14 a1 a2 z0 σ = some r) : W p l e R s m args below meth c H locs 0 0 (QI 1 D cy ad below args s r.1 r.2) (F0 m 14 ls [.int z0]) := by
  unfold j_X8_apart_14 at h
  refine lv_istore_n (lv' := [(3, .int _), (0, .ref _), (1, .int _), (2, .int _)]) C.1 C.2.1 dX8_apart_14 rfl hl (by decide) rfl (fun ls hl => ?_)
  refine lv_iload_n C.1 C.2.1 dX8_apart_15 rfl (lv_at hl 0 rfl) ?_
  refine lv_if_eq (tgt := 21) C.1 C.2.1 dX8_apart_16 (by decide) (fun cd => ?_) (fun cd => ?_)
  · have h := ite_t cd h
    refine lv_aload_n C.1 C.2.1 dX8_apart_21 rfl (lv_at hl 1 rfl) ?_
    refine lv_aload_n C.1 C.2.1 dX8_apart_22 rfl (lv_at hl 1 rfl) ?_
    refine gf_X8_18 C hw dX8_apart_23 ?_
    refine lv_iload_n C.1 C.2.1 dX8_apart_26 rfl (lv_at hl 2 rfl) ?_
    obtain ⟨hin, h⟩ := gd_of h
    have hk2 := img_at hin
    refine gf_img C hw hin dX8_apart_27 ?_
    refine gf_X8_221 C hw hk2 dX8_apart_28 ?_
    obtain ⟨r3, h1, h⟩ := bS h
    refine go_A hw (run_V (As := [.int _]) C hw (c_X8_pairsWith C.2.2.2.2.2.2.2.2.2 _ _ _ h1) mi_X8_pairsWith mv_X8_pairsWith o1_0 (ci := 8) rfl rfl lk_X8_175 (by decide) (by decide) rfl hl.1 rfl (Nat.le_of_ble_eq_true rfl) dX8_apart_31 ⟨Nat.le_refl 0, Nat.le_refl 0⟩) (fun H locs hw => ?_)
    rw [show r3.1 = 9 from f_X8_pairsWith_9 h1]
    refine lv_astore (lv' := [(4, .ref _), (3, .int _), (0, .ref _), (1, .int _), (2, .int _)]) C.1 C.2.1 dX8_apart_34 hl (by decide) rfl (fun ls hl => ?_)
    refine lv_aload C.1 C.2.1 dX8_apart_36 (lv_at hl 0 rfl) ?_
    refine gf_X8_222 C hw dX8_apart_38 ?_
    refine lv_if_eq (tgt := 47) C.1 C.2.1 dX8_apart_41 (by decide) (fun cd => ?_) (fun cd => ?_)
    · have h := ite_t cd h
      refine lv_aload C.1 C.2.1 dX8_apart_47 (lv_at hl 0 rfl) ?_
      refine lv_aload C.1 C.2.1 dX8_apart_49 (lv_at hl 0 rfl) ?_
      refine lv_aload_n C.1 C.2.1 dX8_apart_51 rfl (lv_at hl 2 rfl) ?_
      refine gf_X8_79 C hw dX8_apart_52 ?_
      refine lv_aload_n C.1 C.2.1 dX8_apart_55 rfl (lv_at hl 2 rfl) ?_
      refine gf_X8_18 C hw dX8_apart_56 ?_
      refine lv_iload_n C.1 C.2.1 dX8_apart_59 rfl (lv_at hl 3 rfl) ?_
      obtain ⟨hin, h⟩ := gd_of h
      have hk4 := img_at hin
      refine gf_img C hw hin dX8_apart_60 ?_
      refine gf_X8_225 C hw hk4 dX8_apart_61 ?_
      obtain ⟨r5, h1, h⟩ := bS h
      refine go_I hw (run_V (As := [.int _, .int _]) C hw (c_X4_leastApart C.2.2.2.2.2.2.2.2.2 _ _ _ _ h1) mi_X4_leastApart mv_X4_leastApart o1_9 (ci := 4) rfl rfl lk_X8_193 (by decide) (by decide) rfl hl.1 rfl (Nat.le_of_ble_eq_true rfl) dX8_apart_64 ⟨Nat.le_refl 0, Nat.le_refl 0⟩) (fun H locs hw => ?_)
      refine lv_iload_n C.1 C.2.1 dX8_apart_67 rfl (lv_at hl 4 rfl) ?_
      obtain ⟨r6, h1, h⟩ := bS h
      refine go_I hw (run_V (As := [.int _, .int _]) C hw (c_X4_tellTree C.2.2.2.2.2.2.2.2.2 _ _ _ _ h1) mi_X4_tellTree mv_X4_tellTree o1_9 (ci := 4) rfl rfl lk_X8_196 (by decide) (by decide) rfl hl.1 rfl (Nat.le_of_ble_eq_true rfl) dX8_apart_68 ⟨Nat.le_refl 0, Nat.le_refl 0⟩) (fun H locs hw => ?_)
      exact m_iret C hw (ret_p h) dX8_apart_71
    · have h := ite_f cd h
      refine lv_bipush (v := (-3 : Int32)) C.1 C.2.1 dX8_apart_44 (by decide) ?_
      exact m_iret C hw (ret_p h) dX8_apart_46
  · have h := ite_f cd h
    refine lv_iload_n C.1 C.2.1 dX8_apart_19 rfl (lv_at hl 0 rfl) ?_
    exact m_iret C hw (ret_p h) dX8_apart_20
set_option maxRecDepth 20000 in
theorem c_X8_apart {l : Launch} {D : va_G} {cy : Nat → ClassId} {ad : Nat → Nat} (hj : InjW 1 ad) (a1 : Int32) (a2 : Int32)  (σ : Mem) (r : (Int32 × Mem)) (h : f_X8_apart a1 a2 σ = some r) : CI 1 D cy ad l yX8_apart cX8_apart 5 (some .int) 7 [.ref (ad (0)), .int a1, .int a2] σ r.1 r.2 := by
  refine CI.mk (by decide) hj (Nat.le_of_ble_eq_true rfl) (fun p e R s m below meth c ls C hw hl => ?_)
  have hl : lv_has ls 5 [(0, .ref (ad (0))), (1, .int a1), (2, .int a2)] := hl
  generalize ([.ref (ad (0)), .int a1, .int a2] : List Value).toArray = args at C ⊢
  have C : Cx 1 D cy ad p R s m args meth c cX8_apart 5 RX8 (some .int) 7 := C
  unfold f_X8_apart at h
  refine lv_iload_n C.1 C.2.1 dX8_apart_0 rfl (lv_at hl 2 rfl) ?_
  refine lv_iconst (v := (-1 : Int32)) C.1 C.2.1 dX8_apart_1 (by decide) ?_
  refine lv_icmp_ge (tgt := 9) C.1 C.2.1 dX8_apart_2 (by decide) (fun cd => ?_) (fun cd => ?_)
  · have h := ite_t cd h
    refine lv_aload_n C.1 C.2.1 dX8_apart_9 rfl (lv_at hl 0 rfl) ?_
    refine lv_iload_n C.1 C.2.1 dX8_apart_10 rfl (lv_at hl 1 rfl) ?_
    obtain ⟨r1, h1, h⟩ := bS h
    refine go_I hw (run_V (As := [.int _]) C hw (c_X8_refusalOf C.2.2.2.2.2.2.2.2.2 _ _ _ h1) mi_X8_refusalOf mv_X8_refusalOf o1_0 (ci := 8) rfl rfl lk_X8_218 (by decide) (by decide) rfl hl.1 rfl (Nat.le_of_ble_eq_true rfl) dX8_apart_11 ⟨Nat.le_refl 0, Nat.le_refl 0⟩) (fun H locs hw => ?_)
    exact w_X8_apart_14 C hw (lv_sub hl [0, 1, 2] rfl) h
  · have h := ite_f cd h
    refine lv_iconst (v := (-1 : Int32)) C.1 C.2.1 dX8_apart_5 (by decide) ?_
    refine lv_goto (tgt := 14) C.1 C.2.1 dX8_apart_6 (by decide) ?_
    exact w_X8_apart_14 C hw (lv_sub hl [0, 1, 2] rfl) h
noncomputable def j_X8_both_118 (a1 : Int32) (a2 : Int32) (v5 : Int64) (v7 : Int32) (σ : Mem) : Option ((Int64 × Int32 × Mem) ⊕ (Int64 × Mem)) :=
  lt (v7 + (1 : Int32)) (fun x4 => some (.inl (v5, x4, σ)))
noncomputable def b_X8_both_57 (a1 : Int32) (a2 : Int32) (v5 : Int64) (v7 : Int32) (σ : Mem) : Option ((Int64 × Int32 × Mem) ⊕ (Int64 × Mem)) :=
  if (σ.1 9 17) ≤ v7 then (some (.inr (v5, σ))) else ((f_X4_isGoodHere v7 (σ.1 0 9) σ).bind (fun r3 => if r3 = 0 then (j_X8_both_118 a1 a2 v5 v7 σ) else (gd (ix a1 2) ((f_X4_isGoodThere v7 (σ.1 (54 + 6 * a1.toNatClampNeg) 2) σ).bind (fun r6 => if r6 = 0 then (j_X8_both_118 a1 a2 v5 v7 σ) else ((f_X5_treesOf v7 a2 σ).bind (fun r7 => lt (v5 + r7.1) (fun x8 => j_X8_both_118 a1 a2 x8 v7 r7.2))))))))
noncomputable def j_X8_both_16 (a1 : Int32) (a2 : Int32) (z0 : Int32) (σ : Mem) : Option (Int64 × Mem) :=
  if z0 = 0 then (gd (ix a1 2) ((f_X8_pairsWith (σ.1 (54 + 6 * a1.toNatClampNeg) 1) σ).bind (fun r2 => if (r2.2.1 9 18) = 0 then ((Lim (T := (Int64 × Mem)) (fun s => b_X8_both_57 a1 a2 s.1 s.2.1 s.2.2) ((0 : Int64), (0 : Int32), r2.2)).bind (fun r9 => some (r9.1, r9.2))) else (some ((-3 : Int64), r2.2))))) else (some (z0.toInt64, σ))
noncomputable def f_X8_both (a1 : Int32) (a2 : Int32) (σ : Mem) : Option (Int64 × Mem) :=
  if (f_X8_isCounted a2) = 0 then (j_X8_both_16 a1 a2 (-1 : Int32) σ) else ((f_X8_refusalOf a1 σ).bind (fun r10 => j_X8_both_16 a1 a2 r10 σ))
set_option maxRecDepth 20000 in
theorem w_X8_both_118 {D : va_G} {cy : Nat → ClassId} {ad : Nat → Nat} {p : Program} {l : Launch} {e : Env} {R : Room} {s : State} {m : MethodId} {args : Array Value} {below : List Frame} {meth : Method} {c : Code} (C : Cx 1 D cy ad p R s m args meth c cX8_both 8 RX8 (some .long) 7) {a1 : Int32} {a2 : Int32}  {v5 : Int64} {v7 : Int32}  {σ : Mem} {H : Heap} {locs : List Loc} {ls : Array Slot} {Q : State → Prop} {P : (Int64 × Int32 × Mem) → Prop} {r : (Int64 × Mem)} {x : (Int64 × Int32 × Mem) ⊕ (Int64 × Mem)} (hx : LimQ P r x) (hP : ∀ u, P u → ∀ (H : Heap) (locs : List Loc) (ls : Array Slot), Wd 1 D cy ad s u.2.2 H locs → lv_has ls 8 [(0, .ref (ad (0))), (1, .int a1), (2, .int a2), (4, .ref (ad (9))), (5, .long u.1), (7, .int u.2.1)] → W p l e R s m args below meth c H locs 0 0 Q (F0 m 57 ls [])) (hE0 : ∀ (v5 : Int64) (σ1 : Mem), ((v5, σ1) : (Int64 × Mem)) = r → ∀ (H : Heap) (locs : List Loc) (ls : Array Slot), Wd 1 D cy ad s σ1 H locs → lv_has ls 8 [(5, .long v5)] → W p l e R s m args below meth c H locs 0 0 Q (F0 m 124 ls [])) (hw : Wd 1 D cy ad s σ H locs) (hl : lv_has ls 8 [(0, .ref (ad (0))), (1, .int a1), (2, .int a2), (4, .ref (ad (9))), (5, .long v5), (7, .int v7)]) (h : j_X8_both_118 a1 a2 v5 v7 σ = some x) : W p l e R s m args below meth c H locs 0 0 Q (F0 m 118 ls []) := by
  unfold j_X8_both_118 at h
  obtain ⟨x4, ex4, h⟩ := lt_of h
  refine m_iinc (k := 5) (lv' := [(7, .int _), (0, .ref _), (1, .int _), (2, .int _), (4, .ref _), (5, .long _)]) C (1 : Int32) (by decide) dX8_both_118 hl rfl ex4.symm (by decide) rfl (fun ls hl => ?_)
  refine lv_goto (tgt := 57) C.1 C.2.1 dX8_both_121 (by decide) ?_
  obtain rfl := Option.some.inj h
  exact hP _ hx _ _ _ hw (lv_sub hl [1, 2, 3, 4, 5, 0] rfl)
set_option maxRecDepth 20000 in
theorem w_X8_both_57 {D : va_G} {cy : Nat → ClassId} {ad : Nat → Nat} {p : Program} {l : Launch} {e : Env} {R : Room} {s : State} {m : MethodId} {args : Array Value} {below : List Frame} {meth : Method} {c : Code} (C : Cx 1 D cy ad p R s m args meth c cX8_both 8 RX8 (some .long) 7) {a1 : Int32} {a2 : Int32}  {v5 : Int64} {v7 : Int32} {σ : Mem} {Q : State → Prop} {r : (Int64 × Mem)} (hL : Lim (T := (Int64 × Mem)) (fun s => b_X8_both_57 a1 a2 s.1 s.2.1 s.2.2) (v5, v7, σ) = some r) (hE0 : ∀ (v5 : Int64) (σ1 : Mem), ((v5, σ1) : (Int64 × Mem)) = r → ∀ (H : Heap) (locs : List Loc) (ls : Array Slot), Wd 1 D cy ad s σ1 H locs → lv_has ls 8 [(5, .long v5)] → W p l e R s m args below meth c H locs 0 0 Q (F0 m 124 ls [])) (H : Heap) (locs : List Loc) (ls : Array Slot) (hw : Wd 1 D cy ad s σ H locs) (hl : lv_has ls 8 [(0, .ref (ad (0))), (1, .int a1), (2, .int a2), (4, .ref (ad (9))), (5, .long v5), (7, .int v7)]) : W p l e R s m args below meth c H locs 0 0 Q (F0 m 57 ls []) := by
  refine Lim_ind hL (P := fun u => ∀ (H : Heap) (locs : List Loc) (ls : Array Slot), Wd 1 D cy ad s u.2.2 H locs → lv_has ls 8 [(0, .ref (ad (0))), (1, .int a1), (2, .int a2), (4, .ref (ad (9))), (5, .long u.1), (7, .int u.2.1)] → W p l e R s m args below meth c H locs 0 0 Q (F0 m 57 ls [])) (fun u x h hx H locs ls hw hl => ?_) H locs ls hw hl
  clear hL
  obtain ⟨v5, v7, σ⟩ := u
  have h : b_X8_both_57 a1 a2 v5 v7 σ = some x := h
  have hw : Wd 1 D cy ad s σ H locs := hw
  have hl : lv_has ls 8 [(0, .ref (ad (0))), (1, .int a1), (2, .int a2), (4, .ref (ad (9))), (5, .long v5), (7, .int v7)] := hl
  have hP : ∀ (u : (Int64 × Int32 × Mem)), (∀ (H : Heap) (locs : List Loc) (ls : Array Slot), Wd 1 D cy ad s u.2.2 H locs → lv_has ls 8 [(0, .ref (ad (0))), (1, .int a1), (2, .int a2), (4, .ref (ad (9))), (5, .long u.1), (7, .int u.2.1)] → W p l e R s m args below meth c H locs 0 0 Q (F0 m 57 ls [])) → ∀ (H : Heap) (locs : List Loc) (ls : Array Slot), Wd 1 D cy ad s u.2.2 H locs → lv_has ls 8 [(0, .ref (ad (0))), (1, .int a1), (2, .int a2), (4, .ref (ad (9))), (5, .long u.1), (7, .int u.2.1)] → W p l e R s m args below meth c H locs 0 0 Q (F0 m 57 ls []) := fun _ k => k
  unfold b_X8_both_57 at h
  refine lv_iload C.1 C.2.1 dX8_both_57 (lv_at hl 5 rfl) ?_
  refine lv_aload C.1 C.2.1 dX8_both_59 (lv_at hl 3 rfl) ?_
  refine gf_X8_179 C hw dX8_both_61 ?_
  refine lv_icmp_ge (tgt := 124) C.1 C.2.1 dX8_both_64 (by decide) (fun cd => ?_) (fun cd => ?_)
  · have h := ite_t cd h
    obtain rfl := Option.some.inj h
    exact hE0 _ _ hx _ _ _ hw (lv_sub hl [4] rfl)
  · have h := ite_f cd h
    refine lv_aload C.1 C.2.1 dX8_both_67 (lv_at hl 3 rfl) ?_
    refine lv_iload C.1 C.2.1 dX8_both_69 (lv_at hl 5 rfl) ?_
    refine lv_aload_n C.1 C.2.1 dX8_both_71 rfl (lv_at hl 0 rfl) ?_
    refine gf_X8_79 C hw dX8_both_72 ?_
    obtain ⟨r3, h1, h⟩ := bS h
    refine go_I hw (run_V (As := [.int _, .int _]) C hw (c_X4_isGoodHere C.2.2.2.2.2.2.2.2.2 _ _ _ _ h1) mi_X4_isGoodHere mv_X4_isGoodHere o1_9 (ci := 4) rfl rfl lk_X8_204 (by decide) (by decide) rfl hl.1 rfl (Nat.le_of_ble_eq_true rfl) dX8_both_75 ⟨Nat.le_refl 0, Nat.le_refl 0⟩) (fun H locs hw => ?_)
    refine lv_if_eq (tgt := 118) C.1 C.2.1 dX8_both_78 (by decide) (fun cd => ?_) (fun cd => ?_)
    · have h := ite_t cd h
      exact w_X8_both_118 C hx hP hE0 hw (lv_sub hl [0, 1, 2, 3, 4, 5] rfl) h
    · have h := ite_f cd h
      refine lv_aload C.1 C.2.1 dX8_both_81 (lv_at hl 3 rfl) ?_
      refine lv_iload C.1 C.2.1 dX8_both_83 (lv_at hl 5 rfl) ?_
      refine lv_aload_n C.1 C.2.1 dX8_both_85 rfl (lv_at hl 0 rfl) ?_
      refine gf_X8_18 C hw dX8_both_86 ?_
      refine lv_iload_n C.1 C.2.1 dX8_both_89 rfl (lv_at hl 1 rfl) ?_
      obtain ⟨hin, h⟩ := gd_of h
      have hk5 := img_at hin
      refine gf_img C hw hin dX8_both_90 ?_
      refine gf_X8_225 C hw hk5 dX8_both_91 ?_
      obtain ⟨r6, h1, h⟩ := bS h
      refine go_I hw (run_V (As := [.int _, .int _]) C hw (c_X4_isGoodThere C.2.2.2.2.2.2.2.2.2 _ _ _ _ h1) mi_X4_isGoodThere mv_X4_isGoodThere o1_9 (ci := 4) rfl rfl lk_X8_232 (by decide) (by decide) rfl hl.1 rfl (Nat.le_of_ble_eq_true rfl) dX8_both_94 ⟨Nat.le_refl 0, Nat.le_refl 0⟩) (fun H locs hw => ?_)
      refine lv_if_eq (tgt := 118) C.1 C.2.1 dX8_both_97 (by decide) (fun cd => ?_) (fun cd => ?_)
      · have h := ite_t cd h
        exact w_X8_both_118 C hx hP hE0 hw (lv_sub hl [0, 1, 2, 3, 4, 5] rfl) h
      · have h := ite_f cd h
        refine lv_lload C.1 C.2.1 dX8_both_100 (lv_at hl 4 rfl) ?_
        refine lv_aload C.1 C.2.1 dX8_both_102 (lv_at hl 3 rfl) ?_
        refine gf_X8_208 C hw dX8_both_104 ?_
        refine lv_aload C.1 C.2.1 dX8_both_107 (lv_at hl 3 rfl) ?_
        refine lv_iload C.1 C.2.1 dX8_both_109 (lv_at hl 5 rfl) ?_
        refine lv_iload_n C.1 C.2.1 dX8_both_111 rfl (lv_at hl 2 rfl) ?_
        obtain ⟨r7, h1, h⟩ := bS h
        refine go_L hw (run_V (As := [.ref _, .int _, .int _]) C hw (c_X5_treesOf C.2.2.2.2.2.2.2.2.2 _ _ _ _ h1) mi_X5_treesOf mv_X5_treesOf o1_22 (ci := 5) rfl rfl lk_X8_212 (by decide) (by decide) rfl hl.1 rfl (Nat.le_of_ble_eq_true rfl) dX8_both_112 ⟨Nat.le_refl 0, Nat.le_refl 0⟩) (fun H locs hw => ?_)
        refine lv_ladd C.1 C.2.1 dX8_both_115 ?_
        obtain ⟨x8, ex8, h⟩ := lt_of h
        refine m_topl ex8 ?_
        refine lv_lstore (lv' := [(5, .long _), (0, .ref _), (1, .int _), (2, .int _), (4, .ref _), (7, .int _)]) C.1 C.2.1 dX8_both_116 hl (by decide) rfl (fun ls hl => ?_)
        exact w_X8_both_118 C hx hP hE0 hw (lv_sub hl [1, 2, 3, 4, 0, 5] rfl) h
set_option maxRecDepth 20000 in
theorem w_X8_both_16 {D : va_G} {cy : Nat → ClassId} {ad : Nat → Nat} {p : Program} {l : Launch} {e : Env} {R : Room} {s : State} {m : MethodId} {args : Array Value} {below : List Frame} {meth : Method} {c : Code} (C : Cx 1 D cy ad p R s m args meth c cX8_both 8 RX8 (some .long) 7) {a1 : Int32} {a2 : Int32}  {z0 : Int32}  {σ : Mem} {H : Heap} {locs : List Loc} {ls : Array Slot} {r : (Int64 × Mem)} (hw : Wd 1 D cy ad s σ H locs) (hl : lv_has ls 8 [(0, .ref (ad (0))), (1, .int a1), (2, .int a2)]) (h : j_X8_both_16 a1 a2 z0 σ = some r) : W p l e R s m args below meth c H locs 0 0 (QL 1 D cy ad below args s r.1 r.2) (F0 m 16 ls [.int z0]) := by
  unfold j_X8_both_16 at h
  refine lv_istore_n (lv' := [(3, .int _), (0, .ref _), (1, .int _), (2, .int _)]) C.1 C.2.1 dX8_both_16 rfl hl (by decide) rfl (fun ls hl => ?_)
  refine lv_iload_n C.1 C.2.1 dX8_both_17 rfl (lv_at hl 0 rfl) ?_
  refine lv_if_eq (tgt := 24) C.1 C.2.1 dX8_both_18 (by decide) (fun cd => ?_) (fun cd => ?_)
  · have h := ite_t cd h
    refine lv_aload_n C.1 C.2.1 dX8_both_24 rfl (lv_at hl 1 rfl) ?_
    refine lv_aload_n C.1 C.2.1 dX8_both_25 rfl (lv_at hl 1 rfl) ?_
    refine gf_X8_18 C hw dX8_both_26 ?_
    refine lv_iload_n C.1 C.2.1 dX8_both_29 rfl (lv_at hl 2 rfl) ?_
    obtain ⟨hin, h⟩ := gd_of h
    have hk1 := img_at hin
    refine gf_img C hw hin dX8_both_30 ?_
    refine gf_X8_221 C hw hk1 dX8_both_31 ?_
    obtain ⟨r2, h1, h⟩ := bS h
    refine go_A hw (run_V (As := [.int _]) C hw (c_X8_pairsWith C.2.2.2.2.2.2.2.2.2 _ _ _ h1) mi_X8_pairsWith mv_X8_pairsWith o1_0 (ci := 8) rfl rfl lk_X8_175 (by decide) (by decide) rfl hl.1 rfl (Nat.le_of_ble_eq_true rfl) dX8_both_34 ⟨Nat.le_refl 0, Nat.le_refl 0⟩) (fun H locs hw => ?_)
    rw [show r2.1 = 9 from f_X8_pairsWith_9 h1]
    refine lv_astore (lv' := [(4, .ref _), (3, .int _), (0, .ref _), (1, .int _), (2, .int _)]) C.1 C.2.1 dX8_both_37 hl (by decide) rfl (fun ls hl => ?_)
    refine lv_aload C.1 C.2.1 dX8_both_39 (lv_at hl 0 rfl) ?_
    refine gf_X8_222 C hw dX8_both_41 ?_
    refine lv_if_eq (tgt := 51) C.1 C.2.1 dX8_both_44 (by decide) (fun cd => ?_) (fun cd => ?_)
    · have h := ite_t cd h
      refine lv_lconst (v := (0 : Int64)) C.1 C.2.1 dX8_both_51 (by decide) ?_
      refine lv_lstore (lv' := [(5, .long _), (4, .ref _), (3, .int _), (0, .ref _), (1, .int _), (2, .int _)]) C.1 C.2.1 dX8_both_52 hl (by decide) rfl (fun ls hl => ?_)
      refine lv_iconst (v := (0 : Int32)) C.1 C.2.1 dX8_both_54 (by decide) ?_
      refine lv_istore (lv' := [(7, .int _), (5, .long _), (4, .ref _), (3, .int _), (0, .ref _), (1, .int _), (2, .int _)]) C.1 C.2.1 dX8_both_55 hl (by decide) rfl (fun ls hl => ?_)
      obtain ⟨r9, hL, h⟩ := bS h
      refine w_X8_both_57 C  hL (fun y0 y1 hr H locs ls hw hl => ?_) _ _ _ hw (lv_sub hl [4, 5, 6, 2, 1, 0] rfl)
      · subst hr
        try dsimp only at h
        try dsimp only at hw
        try dsimp only at hl
        refine lv_lload C.1 C.2.1 dX8_both_124 (lv_at hl 0 rfl) ?_
        exact m_lret C hw (ret_p h) dX8_both_126
    · have h := ite_f cd h
      refine lv_ldc2 (v := (-3 : Int64)) C.1 C.2.1 C.2.2.2.1 (C.2.2.2.2.1 _ kl_X8_230) dX8_both_47 ?_
      exact m_lret C hw (ret_p h) dX8_both_50
  · have h := ite_f cd h
    refine lv_iload_n C.1 C.2.1 dX8_both_21 rfl (lv_at hl 0 rfl) ?_
    refine lv_i2l C.1 C.2.1 dX8_both_22 rfl ?_
    exact m_lret C hw (ret_p h) dX8_both_23
set_option maxRecDepth 20000 in
theorem c_X8_both {l : Launch} {D : va_G} {cy : Nat → ClassId} {ad : Nat → Nat} (hj : InjW 1 ad) (a1 : Int32) (a2 : Int32)  (σ : Mem) (r : (Int64 × Mem)) (h : f_X8_both a1 a2 σ = some r) : CL 1 D cy ad l yX8_both cX8_both 8 (some .long) 7 [.ref (ad (0)), .int a1, .int a2] σ r.1 r.2 := by
  refine CL.mk (by decide) hj (Nat.le_of_ble_eq_true rfl) (fun p e R s m below meth c ls C hw hl => ?_)
  have hl : lv_has ls 8 [(0, .ref (ad (0))), (1, .int a1), (2, .int a2)] := hl
  generalize ([.ref (ad (0)), .int a1, .int a2] : List Value).toArray = args at C ⊢
  have C : Cx 1 D cy ad p R s m args meth c cX8_both 8 RX8 (some .long) 7 := C
  unfold f_X8_both at h
  refine lv_iload_n C.1 C.2.1 dX8_both_0 rfl (lv_at hl 2 rfl) ?_
  refine go_I hw (run_S (As := [.int _]) C hw (c_X8_isCounted C.2.2.2.2.2.2.2.2.2 _ _) mi_X8_isCounted ms_X8_isCounted lk_X8_199 (by decide) (by decide) rfl hl.1 rfl (Nat.le_of_ble_eq_true rfl) dX8_both_1 ⟨Nat.le_refl 0, Nat.le_refl 0⟩) (fun H locs hw => ?_)
  refine lv_if_eq (tgt := 15) C.1 C.2.1 dX8_both_4 (by decide) (fun cd => ?_) (fun cd => ?_)
  · have h := ite_t cd h
    refine lv_iconst (v := (-1 : Int32)) C.1 C.2.1 dX8_both_15 (by decide) ?_
    exact w_X8_both_16 C hw (lv_sub hl [0, 1, 2] rfl) h
  · have h := ite_f cd h
    refine lv_aload_n C.1 C.2.1 dX8_both_7 rfl (lv_at hl 0 rfl) ?_
    refine lv_iload_n C.1 C.2.1 dX8_both_8 rfl (lv_at hl 1 rfl) ?_
    obtain ⟨r10, h1, h⟩ := bS h
    refine go_I hw (run_V (As := [.int _]) C hw (c_X8_refusalOf C.2.2.2.2.2.2.2.2.2 _ _ _ h1) mi_X8_refusalOf mv_X8_refusalOf o1_0 (ci := 8) rfl rfl lk_X8_218 (by decide) (by decide) rfl hl.1 rfl (Nat.le_of_ble_eq_true rfl) dX8_both_9 ⟨Nat.le_refl 0, Nat.le_refl 0⟩) (fun H locs hw => ?_)
    refine lv_goto (tgt := 16) C.1 C.2.1 dX8_both_12 (by decide) ?_
    exact w_X8_both_16 C hw (lv_sub hl [0, 1, 2] rfl) h
def f_J6_bitCount_0f7a4 (a0 : Int32) : Int32 :=
  lt (a0 - (((a0.toUInt32 >>> ((1 : Int32).toUInt32 &&& Int32.toUInt32 31)).toInt32) &&& (1431655765 : Int32))) (fun x1 => lt ((x1 &&& (858993459 : Int32)) + (((x1.toUInt32 >>> ((2 : Int32).toUInt32 &&& Int32.toUInt32 31)).toInt32) &&& (858993459 : Int32))) (fun x2 => lt ((x2 + ((x2.toUInt32 >>> ((4 : Int32).toUInt32 &&& Int32.toUInt32 31)).toInt32)) &&& (252645135 : Int32)) (fun x3 => lt (x3 + ((x3.toUInt32 >>> ((8 : Int32).toUInt32 &&& Int32.toUInt32 31)).toInt32)) (fun x4 => lt (x4 + ((x4.toUInt32 >>> ((16 : Int32).toUInt32 &&& Int32.toUInt32 31)).toInt32)) (fun x5 => x5 &&& (63 : Int32))))))
set_option maxRecDepth 20000 in
theorem c_J6_bitCount_0f7a4 {l : Launch} {D : va_G} {cy : Nat → ClassId} {ad : Nat → Nat} (hj : InjW 1 ad) (a0 : Int32)  (σ : Mem) : CI 1 D cy ad l yJ6_bitCount_0f7a4 cJ6_bitCount_0f7a4 1 (some .int) 0 [.int a0] σ (f_J6_bitCount_0f7a4 a0) σ := by
  refine CI.mk (by decide) hj (Nat.le_of_ble_eq_true rfl) (fun p e R s m below meth c ls C hw hl => ?_)
  have hl : lv_has ls 1 [(0, .int a0)] := hl
  generalize ([.int a0] : List Value).toArray = args at C ⊢
  have C : Cx 1 D cy ad p R s m args meth c cJ6_bitCount_0f7a4 1 RJ6 (some .int) 0 := C
  obtain ⟨r, h⟩ : ∃ r, f_J6_bitCount_0f7a4 a0 = r := ⟨_, rfl⟩
  rw [h]
  unfold f_J6_bitCount_0f7a4 at h
  refine lv_iload_n C.1 C.2.1 dJ6_bitCount_0f7a4_0 rfl (lv_at hl 0 rfl) ?_
  refine lv_iload_n C.1 C.2.1 dJ6_bitCount_0f7a4_1 rfl (lv_at hl 0 rfl) ?_
  refine lv_iconst (v := (1 : Int32)) C.1 C.2.1 dJ6_bitCount_0f7a4_2 (by decide) ?_
  refine lv_iushr C.1 C.2.1 dJ6_bitCount_0f7a4_3 rfl ?_
  refine lv_ldcw (v := (1431655765 : Int32)) C.1 C.2.1 C.2.2.2.1 (C.2.2.2.2.1 _ ki_J6_265) dJ6_bitCount_0f7a4_4 ?_
  refine lv_iand C.1 C.2.1 dJ6_bitCount_0f7a4_7 ?_
  refine lv_isub C.1 C.2.1 dJ6_bitCount_0f7a4_8 ?_
  obtain ⟨x1, ex1, h⟩ := lt_of h
  refine m_topi ex1 ?_
  refine lv_istore_n (lv' := [(0, .int _)]) C.1 C.2.1 dJ6_bitCount_0f7a4_9 rfl hl (by decide) rfl (fun ls hl => ?_)
  refine lv_iload_n C.1 C.2.1 dJ6_bitCount_0f7a4_10 rfl (lv_at hl 0 rfl) ?_
  refine lv_ldcw (v := (858993459 : Int32)) C.1 C.2.1 C.2.2.2.1 (C.2.2.2.2.1 _ ki_J6_266) dJ6_bitCount_0f7a4_11 ?_
  refine lv_iand C.1 C.2.1 dJ6_bitCount_0f7a4_14 ?_
  refine lv_iload_n C.1 C.2.1 dJ6_bitCount_0f7a4_15 rfl (lv_at hl 0 rfl) ?_
  refine lv_iconst (v := (2 : Int32)) C.1 C.2.1 dJ6_bitCount_0f7a4_16 (by decide) ?_
  refine lv_iushr C.1 C.2.1 dJ6_bitCount_0f7a4_17 rfl ?_
  refine lv_ldcw (v := (858993459 : Int32)) C.1 C.2.1 C.2.2.2.1 (C.2.2.2.2.1 _ ki_J6_266) dJ6_bitCount_0f7a4_18 ?_
  refine lv_iand C.1 C.2.1 dJ6_bitCount_0f7a4_21 ?_
  refine lv_iadd C.1 C.2.1 dJ6_bitCount_0f7a4_22 ?_
  obtain ⟨x2, ex2, h⟩ := lt_of h
  refine m_topi ex2 ?_
  refine lv_istore_n (lv' := [(0, .int _)]) C.1 C.2.1 dJ6_bitCount_0f7a4_23 rfl hl (by decide) rfl (fun ls hl => ?_)
  refine lv_iload_n C.1 C.2.1 dJ6_bitCount_0f7a4_24 rfl (lv_at hl 0 rfl) ?_
  refine lv_iload_n C.1 C.2.1 dJ6_bitCount_0f7a4_25 rfl (lv_at hl 0 rfl) ?_
  refine lv_iconst (v := (4 : Int32)) C.1 C.2.1 dJ6_bitCount_0f7a4_26 (by decide) ?_
  refine lv_iushr C.1 C.2.1 dJ6_bitCount_0f7a4_27 rfl ?_
  refine lv_iadd C.1 C.2.1 dJ6_bitCount_0f7a4_28 ?_
  refine lv_ldcw (v := (252645135 : Int32)) C.1 C.2.1 C.2.2.2.1 (C.2.2.2.2.1 _ ki_J6_267) dJ6_bitCount_0f7a4_29 ?_
  refine lv_iand C.1 C.2.1 dJ6_bitCount_0f7a4_32 ?_
  obtain ⟨x3, ex3, h⟩ := lt_of h
  refine m_topi ex3 ?_
  refine lv_istore_n (lv' := [(0, .int _)]) C.1 C.2.1 dJ6_bitCount_0f7a4_33 rfl hl (by decide) rfl (fun ls hl => ?_)
  refine lv_iload_n C.1 C.2.1 dJ6_bitCount_0f7a4_34 rfl (lv_at hl 0 rfl) ?_
  refine lv_iload_n C.1 C.2.1 dJ6_bitCount_0f7a4_35 rfl (lv_at hl 0 rfl) ?_
  refine lv_bipush (v := (8 : Int32)) C.1 C.2.1 dJ6_bitCount_0f7a4_36 (by decide) ?_
  refine lv_iushr C.1 C.2.1 dJ6_bitCount_0f7a4_38 rfl ?_
  refine lv_iadd C.1 C.2.1 dJ6_bitCount_0f7a4_39 ?_
  obtain ⟨x4, ex4, h⟩ := lt_of h
  refine m_topi ex4 ?_
  refine lv_istore_n (lv' := [(0, .int _)]) C.1 C.2.1 dJ6_bitCount_0f7a4_40 rfl hl (by decide) rfl (fun ls hl => ?_)
  refine lv_iload_n C.1 C.2.1 dJ6_bitCount_0f7a4_41 rfl (lv_at hl 0 rfl) ?_
  refine lv_iload_n C.1 C.2.1 dJ6_bitCount_0f7a4_42 rfl (lv_at hl 0 rfl) ?_
  refine lv_bipush (v := (16 : Int32)) C.1 C.2.1 dJ6_bitCount_0f7a4_43 (by decide) ?_
  refine lv_iushr C.1 C.2.1 dJ6_bitCount_0f7a4_45 rfl ?_
  refine lv_iadd C.1 C.2.1 dJ6_bitCount_0f7a4_46 ?_
  obtain ⟨x5, ex5, h⟩ := lt_of h
  refine m_topi ex5 ?_
  refine lv_istore_n (lv' := [(0, .int _)]) C.1 C.2.1 dJ6_bitCount_0f7a4_47 rfl hl (by decide) rfl (fun ls hl => ?_)
  refine lv_iload_n C.1 C.2.1 dJ6_bitCount_0f7a4_48 rfl (lv_at hl 0 rfl) ?_
  refine lv_bipush (v := (63 : Int32)) C.1 C.2.1 dJ6_bitCount_0f7a4_49 (by decide) ?_
  refine lv_iand C.1 C.2.1 dJ6_bitCount_0f7a4_51 ?_
  exact m_iret C hw ⟨h, rfl⟩ dJ6_bitCount_0f7a4_52
noncomputable def f_X8_worthAs : Nat → Int32 → Int32 → Mem → Option (Int32 × Mem)
  | 0 => fun _ _ _ => none
  | n + 1 => fun a1 a2 σ =>
  if a1 = (1 : Int32) then (lt (sJ σ 0 10 ((σ.2.1 0 10) + (10 : Int64))) (fun σ1 => (f_X8_worthAs n (0 : Int32) a2 σ1).bind (fun r2 => some (r2.1 * (2 : Int32), r2.2)))) else (if a1 = (2 : Int32) then (lt (sJ σ 0 10 ((σ.2.1 0 10) + (100 : Int64))) (fun σ3 => (f_X8_worthAs n (0 : Int32) a2 σ3).bind (fun r4 => gd (ix a2 31) (some (r4.1 + (r4.2.1 (r4.2.2.2 6 + 1) a2.toNatClampNeg), r4.2))))) else (if a1 = (3 : Int32) then (lt (sJ σ 0 10 ((σ.2.1 0 10) + (1000 : Int64))) (fun σ6 => (f_X8_worthAs n (1 : Int32) a2 σ6).bind (fun r7 => gd (ix a2 31) (some (r7.1 + (f_X8_armsOf (r7.2.1 (r7.2.2.2 6 + 1) a2.toNatClampNeg)), r7.2))))) else (if a1 = (4 : Int32) then (lt (sJ σ 0 10 ((σ.2.1 0 10) + (10000 : Int64))) (fun σ9 => (f_X8_worthAs n (2 : Int32) a2 σ9).bind (fun r10 => (f_X8_comesTo a2 r10.2).bind (fun r11 => some (r10.1 - (f_J6_bitCount_0f7a4 r11.1), r11.2))))) else (if a1 = (5 : Int32) then (lt (sJ σ 0 10 ((σ.2.1 0 10) + (100000 : Int64))) (fun σ12 => (f_X8_worthAs n (0 : Int32) a2 σ12).bind (fun r13 => some (r13.1 + a2, r13.2)))) else (lt (sJ σ 0 10 ((σ.2.1 0 10) + (1 : Int64))) (fun σ14 => gd (ix a2 31) (some (σ14.1 (σ14.2.2 6 + 2) a2.toNatClampNeg, σ14))))))))
set_option maxRecDepth 20000 in
theorem c_X8_worthAs {l : Launch} {D : va_G} {cy : Nat → ClassId} {ad : Nat → Nat} (hj : InjW 1 ad) (n : Nat) : ∀ (a1 a2 : Int32) (σ : Mem) (r : Int32 × Mem) (h : f_X8_worthAs n a1 a2 σ = some r), CI 1 D cy ad l yX8_worthAs cX8_worthAs 3 (some .int) (5 + n) [.ref (ad (0)), .int a1, .int a2] σ r.1 r.2 := by
  induction n with
  | zero => intro a1 a2 σ r h; cases h
  | succ n ih =>
    intro a1 a2 σ r h
    refine CI.mk (by decide) hj (Nat.le_of_ble_eq_true rfl) (fun p e R s m below meth c ls C hw hl => ?_)
    have hl : lv_has ls 3 [(0, .ref (ad (0))), (1, .int a1), (2, .int a2)] := hl
    generalize ([.ref (ad (0)), .int a1, .int a2] : List Value).toArray = args at C ⊢
    have C : Cx 1 D cy ad p R s m args meth c cX8_worthAs 3 RX8 (some .int) (5 + (n + 1)) := C
    rw [f_X8_worthAs] at h
    refine lv_iload_n C.1 C.2.1 dX8_worthAs_0 rfl (lv_at hl 1 rfl) ?_
    by_cases cd0 : a1 = (1 : Int32)
    · have h := ite_t cd0 h
      refine m_tabIn (tgt := 36) C (1 : Int32) cd0 dX8_worthAs_1 (by decide) (by decide) rfl (by decide) ?_
      refine lv_aload_n C.1 C.2.1 dX8_worthAs_36 rfl (lv_at hl 0 rfl) ?_
      refine lv_dup C.1 C.2.1 dX8_worthAs_37 rfl ?_
      refine gf_X8_253 C hw dX8_worthAs_38 ?_
      refine lv_ldc2 (v := (10 : Int64)) C.1 C.2.1 C.2.2.2.1 (C.2.2.2.2.1 _ kl_X8_257) dX8_worthAs_41 ?_
      refine lv_ladd C.1 C.2.1 dX8_worthAs_44 ?_
      refine pf_X8_253 C hw dX8_worthAs_45 (fun H locs hw => ?_)
      obtain ⟨σ1, eσ1, h⟩ := lt_of h
      rw [← eσ1] at hw
      refine lv_aload_n C.1 C.2.1 dX8_worthAs_48 rfl (lv_at hl 0 rfl) ?_
      refine lv_iconst (v := (0 : Int32)) C.1 C.2.1 dX8_worthAs_49 (by decide) ?_
      refine lv_iload_n C.1 C.2.1 dX8_worthAs_50 rfl (lv_at hl 2 rfl) ?_
      obtain ⟨r2, h1, h⟩ := bS h
      refine go_I hw (run_V (As := [.int _, .int _]) C hw (ih _ _ _ _ h1) mi_X8_worthAs mv_X8_worthAs o1_0 (ci := 8) rfl rfl lk_X8_236 (by omega) (by decide) rfl hl.1 rfl (Nat.le_of_ble_eq_true rfl) dX8_worthAs_51 ⟨Nat.le_refl 0, Nat.le_refl 0⟩) (fun H locs hw => ?_)
      refine lv_iconst (v := (2 : Int32)) C.1 C.2.1 dX8_worthAs_54 (by decide) ?_
      refine lv_imul C.1 C.2.1 dX8_worthAs_55 ?_
      exact m_iret C hw (ret_p h) dX8_worthAs_56
    have h := ite_f cd0 h
    by_cases cd1 : a1 = (2 : Int32)
    · have h := ite_t cd1 h
      refine m_tabIn (tgt := 57) C (2 : Int32) cd1 dX8_worthAs_1 (by decide) (by decide) rfl (by decide) ?_
      refine lv_aload_n C.1 C.2.1 dX8_worthAs_57 rfl (lv_at hl 0 rfl) ?_
      refine lv_dup C.1 C.2.1 dX8_worthAs_58 rfl ?_
      refine gf_X8_253 C hw dX8_worthAs_59 ?_
      refine lv_ldc2 (v := (100 : Int64)) C.1 C.2.1 C.2.2.2.1 (C.2.2.2.2.1 _ kl_X8_259) dX8_worthAs_62 ?_
      refine lv_ladd C.1 C.2.1 dX8_worthAs_65 ?_
      refine pf_X8_253 C hw dX8_worthAs_66 (fun H locs hw => ?_)
      obtain ⟨σ3, eσ3, h⟩ := lt_of h
      rw [← eσ3] at hw
      refine lv_aload_n C.1 C.2.1 dX8_worthAs_69 rfl (lv_at hl 0 rfl) ?_
      refine lv_iconst (v := (0 : Int32)) C.1 C.2.1 dX8_worthAs_70 (by decide) ?_
      refine lv_iload_n C.1 C.2.1 dX8_worthAs_71 rfl (lv_at hl 2 rfl) ?_
      obtain ⟨r4, h1, h⟩ := bS h
      refine go_I hw (run_V (As := [.int _, .int _]) C hw (ih _ _ _ _ h1) mi_X8_worthAs mv_X8_worthAs o1_0 (ci := 8) rfl rfl lk_X8_236 (by omega) (by decide) rfl hl.1 rfl (Nat.le_of_ble_eq_true rfl) dX8_worthAs_72 ⟨Nat.le_refl 0, Nat.le_refl 0⟩) (fun H locs hw => ?_)
      refine lv_aload_n C.1 C.2.1 dX8_worthAs_75 rfl (lv_at hl 0 rfl) ?_
      refine gf_X8_49 C hw dX8_worthAs_76 ?_
      have hk5 := (hw.2.1 rfl).2.2.1
      refine gf_X8_122 C hw hk5 dX8_worthAs_79 ?_
      refine lv_iload_n C.1 C.2.1 dX8_worthAs_82 rfl (lv_at hl 2 rfl) ?_
      obtain ⟨hin, h⟩ := gd_of h
      refine m_iald C hw (treeA0 hk5) hin dX8_worthAs_83 ?_
      refine lv_iadd C.1 C.2.1 dX8_worthAs_84 ?_
      exact m_iret C hw (ret_p h) dX8_worthAs_85
    have h := ite_f cd1 h
    by_cases cd2 : a1 = (3 : Int32)
    · have h := ite_t cd2 h
      refine m_tabIn (tgt := 86) C (3 : Int32) cd2 dX8_worthAs_1 (by decide) (by decide) rfl (by decide) ?_
      refine lv_aload_n C.1 C.2.1 dX8_worthAs_86 rfl (lv_at hl 0 rfl) ?_
      refine lv_dup C.1 C.2.1 dX8_worthAs_87 rfl ?_
      refine gf_X8_253 C hw dX8_worthAs_88 ?_
      refine lv_ldc2 (v := (1000 : Int64)) C.1 C.2.1 C.2.2.2.1 (C.2.2.2.2.1 _ kl_X8_261) dX8_worthAs_91 ?_
      refine lv_ladd C.1 C.2.1 dX8_worthAs_94 ?_
      refine pf_X8_253 C hw dX8_worthAs_95 (fun H locs hw => ?_)
      obtain ⟨σ6, eσ6, h⟩ := lt_of h
      rw [← eσ6] at hw
      refine lv_aload_n C.1 C.2.1 dX8_worthAs_98 rfl (lv_at hl 0 rfl) ?_
      refine lv_iconst (v := (1 : Int32)) C.1 C.2.1 dX8_worthAs_99 (by decide) ?_
      refine lv_iload_n C.1 C.2.1 dX8_worthAs_100 rfl (lv_at hl 2 rfl) ?_
      obtain ⟨r7, h1, h⟩ := bS h
      refine go_I hw (run_V (As := [.int _, .int _]) C hw (ih _ _ _ _ h1) mi_X8_worthAs mv_X8_worthAs o1_0 (ci := 8) rfl rfl lk_X8_236 (by omega) (by decide) rfl hl.1 rfl (Nat.le_of_ble_eq_true rfl) dX8_worthAs_101 ⟨Nat.le_refl 0, Nat.le_refl 0⟩) (fun H locs hw => ?_)
      refine lv_aload_n C.1 C.2.1 dX8_worthAs_104 rfl (lv_at hl 0 rfl) ?_
      refine gf_X8_49 C hw dX8_worthAs_105 ?_
      have hk8 := (hw.2.1 rfl).2.2.1
      refine gf_X8_122 C hw hk8 dX8_worthAs_108 ?_
      refine lv_iload_n C.1 C.2.1 dX8_worthAs_111 rfl (lv_at hl 2 rfl) ?_
      obtain ⟨hin, h⟩ := gd_of h
      refine m_iald C hw (treeA0 hk8) hin dX8_worthAs_112 ?_
      refine go_I hw (run_S (As := [.int _]) C hw (c_X8_armsOf C.2.2.2.2.2.2.2.2.2 _ _) mi_X8_armsOf ms_X8_armsOf lk_X8_133 (by omega) (by decide) rfl hl.1 rfl (Nat.le_of_ble_eq_true rfl) dX8_worthAs_113 ⟨Nat.le_refl 0, Nat.le_refl 0⟩) (fun H locs hw => ?_)
      refine lv_iadd C.1 C.2.1 dX8_worthAs_116 ?_
      exact m_iret C hw (ret_p h) dX8_worthAs_117
    have h := ite_f cd2 h
    by_cases cd3 : a1 = (4 : Int32)
    · have h := ite_t cd3 h
      refine m_tabIn (tgt := 118) C (4 : Int32) cd3 dX8_worthAs_1 (by decide) (by decide) rfl (by decide) ?_
      refine lv_aload_n C.1 C.2.1 dX8_worthAs_118 rfl (lv_at hl 0 rfl) ?_
      refine lv_dup C.1 C.2.1 dX8_worthAs_119 rfl ?_
      refine gf_X8_253 C hw dX8_worthAs_120 ?_
      refine lv_ldc2 (v := (10000 : Int64)) C.1 C.2.1 C.2.2.2.1 (C.2.2.2.2.1 _ kl_X8_263) dX8_worthAs_123 ?_
      refine lv_ladd C.1 C.2.1 dX8_worthAs_126 ?_
      refine pf_X8_253 C hw dX8_worthAs_127 (fun H locs hw => ?_)
      obtain ⟨σ9, eσ9, h⟩ := lt_of h
      rw [← eσ9] at hw
      refine lv_aload_n C.1 C.2.1 dX8_worthAs_130 rfl (lv_at hl 0 rfl) ?_
      refine lv_iconst (v := (2 : Int32)) C.1 C.2.1 dX8_worthAs_131 (by decide) ?_
      refine lv_iload_n C.1 C.2.1 dX8_worthAs_132 rfl (lv_at hl 2 rfl) ?_
      obtain ⟨r10, h1, h⟩ := bS h
      refine go_I hw (run_V (As := [.int _, .int _]) C hw (ih _ _ _ _ h1) mi_X8_worthAs mv_X8_worthAs o1_0 (ci := 8) rfl rfl lk_X8_236 (by omega) (by decide) rfl hl.1 rfl (Nat.le_of_ble_eq_true rfl) dX8_worthAs_133 ⟨Nat.le_refl 0, Nat.le_refl 0⟩) (fun H locs hw => ?_)
      refine lv_aload_n C.1 C.2.1 dX8_worthAs_136 rfl (lv_at hl 0 rfl) ?_
      refine lv_iload_n C.1 C.2.1 dX8_worthAs_137 rfl (lv_at hl 2 rfl) ?_
      obtain ⟨r11, h1, h⟩ := bS h
      refine go_I hw (run_V (As := [.int _]) C hw (c_X8_comesTo C.2.2.2.2.2.2.2.2.2 _ _ _ h1) mi_X8_comesTo mv_X8_comesTo o1_0 (ci := 8) rfl rfl lk_X8_129 (by omega) (by decide) rfl hl.1 rfl (Nat.le_of_ble_eq_true rfl) dX8_worthAs_138 ⟨Nat.le_refl 0, Nat.le_refl 0⟩) (fun H locs hw => ?_)
      refine go_I hw (run_S (As := [.int _]) C hw (c_J6_bitCount_0f7a4 C.2.2.2.2.2.2.2.2.2 _ _) mi_J6_bitCount_0f7a4 ms_J6_bitCount_0f7a4 lk_X8_247 (by omega) (by decide) rfl hl.1 rfl (Nat.le_of_ble_eq_true rfl) dX8_worthAs_141 ⟨Nat.le_refl 0, Nat.le_refl 0⟩) (fun H locs hw => ?_)
      refine lv_isub C.1 C.2.1 dX8_worthAs_144 ?_
      exact m_iret C hw (ret_p h) dX8_worthAs_145
    have h := ite_f cd3 h
    by_cases cd4 : a1 = (5 : Int32)
    · have h := ite_t cd4 h
      refine m_tabIn (tgt := 146) C (5 : Int32) cd4 dX8_worthAs_1 (by decide) (by decide) rfl (by decide) ?_
      refine lv_aload_n C.1 C.2.1 dX8_worthAs_146 rfl (lv_at hl 0 rfl) ?_
      refine lv_dup C.1 C.2.1 dX8_worthAs_147 rfl ?_
      refine gf_X8_253 C hw dX8_worthAs_148 ?_
      refine lv_ldc2 (v := (100000 : Int64)) C.1 C.2.1 C.2.2.2.1 (C.2.2.2.2.1 _ kl_X8_265) dX8_worthAs_151 ?_
      refine lv_ladd C.1 C.2.1 dX8_worthAs_154 ?_
      refine pf_X8_253 C hw dX8_worthAs_155 (fun H locs hw => ?_)
      obtain ⟨σ12, eσ12, h⟩ := lt_of h
      rw [← eσ12] at hw
      refine lv_aload_n C.1 C.2.1 dX8_worthAs_158 rfl (lv_at hl 0 rfl) ?_
      refine lv_iconst (v := (0 : Int32)) C.1 C.2.1 dX8_worthAs_159 (by decide) ?_
      refine lv_iload_n C.1 C.2.1 dX8_worthAs_160 rfl (lv_at hl 2 rfl) ?_
      obtain ⟨r13, h1, h⟩ := bS h
      refine go_I hw (run_V (As := [.int _, .int _]) C hw (ih _ _ _ _ h1) mi_X8_worthAs mv_X8_worthAs o1_0 (ci := 8) rfl rfl lk_X8_236 (by omega) (by decide) rfl hl.1 rfl (Nat.le_of_ble_eq_true rfl) dX8_worthAs_161 ⟨Nat.le_refl 0, Nat.le_refl 0⟩) (fun H locs hw => ?_)
      refine lv_iload_n C.1 C.2.1 dX8_worthAs_164 rfl (lv_at hl 2 rfl) ?_
      refine lv_iadd C.1 C.2.1 dX8_worthAs_165 ?_
      exact m_iret C hw (ret_p h) dX8_worthAs_166
    have h := ite_f cd4 h
    have cn0 := ne_toInt cd0
    have cn1 := ne_toInt cd1
    have cn2 := ne_toInt cd2
    have cn3 := ne_toInt cd3
    have cn4 := ne_toInt cd4
    refine m_tabOut (tgt := 167) C dX8_worthAs_1 (by simp only [show ((1 : Int32)).toInt = 1 from by decide, show ((2 : Int32)).toInt = 2 from by decide, show ((3 : Int32)).toInt = 3 from by decide, show ((4 : Int32)).toInt = 4 from by decide, show ((5 : Int32)).toInt = 5 from by decide] at cn0 cn1 cn2 cn3 cn4; omega) (by decide) ?_
    refine lv_aload_n C.1 C.2.1 dX8_worthAs_167 rfl (lv_at hl 0 rfl) ?_
    refine lv_dup C.1 C.2.1 dX8_worthAs_168 rfl ?_
    refine gf_X8_253 C hw dX8_worthAs_169 ?_
    refine lv_lconst (v := (1 : Int64)) C.1 C.2.1 dX8_worthAs_172 (by decide) ?_
    refine lv_ladd C.1 C.2.1 dX8_worthAs_173 ?_
    refine pf_X8_253 C hw dX8_worthAs_174 (fun H locs hw => ?_)
    obtain ⟨σ14, eσ14, h⟩ := lt_of h
    rw [← eσ14] at hw
    refine lv_aload_n C.1 C.2.1 dX8_worthAs_177 rfl (lv_at hl 0 rfl) ?_
    refine gf_X8_49 C hw dX8_worthAs_178 ?_
    have hk15 := (hw.2.1 rfl).2.2.1
    refine gf_X8_123 C hw hk15 dX8_worthAs_181 ?_
    refine lv_iload_n C.1 C.2.1 dX8_worthAs_184 rfl (lv_at hl 2 rfl) ?_
    obtain ⟨hin, h⟩ := gd_of h
    refine m_iald C hw (treeA1 hk15) hin dX8_worthAs_185 ?_
    exact m_iret C hw (ret_p h) dX8_worthAs_186
noncomputable def j_X8_mark_20 (a1 : Int32) (a2 : Int32) (σ : Mem) : Option (Int32 × Mem) :=
  some ((-1000000 : Int32), σ)
noncomputable def f_X8_mark (a1 : Int32) (a2 : Int32) (σ : Mem) : Option (Int32 × Mem) :=
  if a1 < 0 then (j_X8_mark_20 a1 a2 σ) else (if (5 : Int32) < a1 then (j_X8_mark_20 a1 a2 σ) else (if (f_X7_has (σ.2.2 6) a2 σ) = 0 then (j_X8_mark_20 a1 a2 σ) else ((f_X8_worthAs 3 a1 a2 σ).bind (fun r2 => some (r2.1, r2.2)))))
set_option maxRecDepth 20000 in
theorem w_X8_mark_20 {D : va_G} {cy : Nat → ClassId} {ad : Nat → Nat} {p : Program} {l : Launch} {e : Env} {R : Room} {s : State} {m : MethodId} {args : Array Value} {below : List Frame} {meth : Method} {c : Code} (C : Cx 1 D cy ad p R s m args meth c cX8_mark 3 RX8 (some .int) 9) {a1 : Int32} {a2 : Int32}    {σ : Mem} {H : Heap} {locs : List Loc} {ls : Array Slot} {r : (Int32 × Mem)} (hw : Wd 1 D cy ad s σ H locs) (hl : lv_has ls 3 []) (h : j_X8_mark_20 a1 a2 σ = some r) : W p l e R s m args below meth c H locs 0 0 (QI 1 D cy ad below args s r.1 r.2) (F0 m 20 ls []) := by
  unfold j_X8_mark_20 at h
  refine lv_ldc (v := (-1000000 : Int32)) C.1 C.2.1 C.2.2.2.1 (C.2.2.2.2.1 _ ki_X8_235) dX8_mark_20 ?_
  exact m_iret C hw (ret_p h) dX8_mark_22
set_option maxRecDepth 20000 in
theorem c_X8_mark {l : Launch} {D : va_G} {cy : Nat → ClassId} {ad : Nat → Nat} (hj : InjW 1 ad) (a1 : Int32) (a2 : Int32)  (σ : Mem) (r : (Int32 × Mem)) (h : f_X8_mark a1 a2 σ = some r) : CI 1 D cy ad l yX8_mark cX8_mark 3 (some .int) 9 [.ref (ad (0)), .int a1, .int a2] σ r.1 r.2 := by
  refine CI.mk (by decide) hj (Nat.le_of_ble_eq_true rfl) (fun p e R s m below meth c ls C hw hl => ?_)
  have hl : lv_has ls 3 [(0, .ref (ad (0))), (1, .int a1), (2, .int a2)] := hl
  generalize ([.ref (ad (0)), .int a1, .int a2] : List Value).toArray = args at C ⊢
  have C : Cx 1 D cy ad p R s m args meth c cX8_mark 3 RX8 (some .int) 9 := C
  unfold f_X8_mark at h
  refine lv_iload_n C.1 C.2.1 dX8_mark_0 rfl (lv_at hl 1 rfl) ?_
  refine lv_if_lt (tgt := 20) C.1 C.2.1 dX8_mark_1 (by decide) (fun cd => ?_) (fun cd => ?_)
  · have h := ite_t cd h
    exact w_X8_mark_20 C hw (lv_sub hl [] rfl) h
  · have h := ite_f cd h
    refine lv_iload_n C.1 C.2.1 dX8_mark_4 rfl (lv_at hl 1 rfl) ?_
    refine lv_iconst (v := (5 : Int32)) C.1 C.2.1 dX8_mark_5 (by decide) ?_
    refine lv_icmp_gt (tgt := 20) C.1 C.2.1 dX8_mark_6 (by decide) (fun cd => ?_) (fun cd => ?_)
    · have h := ite_t cd h
      exact w_X8_mark_20 C hw (lv_sub hl [] rfl) h
    · have h := ite_f cd h
      refine lv_aload_n C.1 C.2.1 dX8_mark_9 rfl (lv_at hl 0 rfl) ?_
      refine gf_X8_49 C hw dX8_mark_10 ?_
      have hk1 := (hw.2.1 rfl).2.2.1
      refine lv_iload_n C.1 C.2.1 dX8_mark_13 rfl (lv_at hl 2 rfl) ?_
      refine go_I hw (run_V (As := [.int _]) C hw (c_X7_has C.2.2.2.2.2.2.2.2.2 _ _ hk1 _) mi_X7_has mv_X7_has hk1 (ci := 7) rfl rfl lk_X8_121 (by decide) (by decide) rfl hl.1 rfl (Nat.le_of_ble_eq_true rfl) dX8_mark_14 ⟨Nat.le_refl 0, Nat.le_refl 0⟩) (fun H locs hw => ?_)
      refine lv_if_ne (tgt := 23) C.1 C.2.1 dX8_mark_17 (by decide) (fun cd => ?_) (fun cd => ?_)
      · have h := ite_f cd h
        refine lv_aload_n C.1 C.2.1 dX8_mark_23 rfl (lv_at hl 0 rfl) ?_
        refine lv_iload_n C.1 C.2.1 dX8_mark_24 rfl (lv_at hl 1 rfl) ?_
        refine lv_iload_n C.1 C.2.1 dX8_mark_25 rfl (lv_at hl 2 rfl) ?_
        obtain ⟨r2, h1, h⟩ := bS h
        refine go_I hw (run_V (As := [.int _, .int _]) C hw (c_X8_worthAs C.2.2.2.2.2.2.2.2.2 3 _ _ _ _ h1) mi_X8_worthAs mv_X8_worthAs o1_0 (ci := 8) rfl rfl lk_X8_236 (by decide) (by decide) rfl hl.1 rfl (Nat.le_of_ble_eq_true rfl) dX8_mark_26 ⟨Nat.le_refl 0, Nat.le_refl 0⟩) (fun H locs hw => ?_)
        exact m_iret C hw (ret_p h) dX8_mark_29
      · have h := ite_t cd h
        exact w_X8_mark_20 C hw (lv_sub hl [] rfl) h
noncomputable def f_X8_keep (a1 : Int32) (σ : Mem) : Option (Int32 × Mem) :=
  if (f_X8_isImage a1) = 0 then (some ((-1 : Int32), σ)) else (gd (ix a1 2) (lt (sI σ (54 + 6 * a1.toNatClampNeg) 0 (1 : Int32)) (fun σ2 => lt (sI σ2 (54 + 6 * a1.toNatClampNeg) 1 (σ2.1 0 8)) (fun σ3 => lt (sI σ3 (54 + 6 * a1.toNatClampNeg) 2 (σ3.1 0 9)) (fun σ4 => (f_X7_copyFrom (54 + 6 * a1.toNatClampNeg + 1) (σ4.2.2 6) σ4).bind (fun r6 => some (f_J6_bitCount_0f7a4 (r6.1 0 8), r6)))))))
set_option maxRecDepth 20000 in
theorem c_X8_keep {l : Launch} {D : va_G} {cy : Nat → ClassId} {ad : Nat → Nat} (hj : InjW 1 ad) (a1 : Int32)  (σ : Mem) (r : (Int32 × Mem)) (h : f_X8_keep a1 σ = some r) : CI 1 D cy ad l yX8_keep cX8_keep 3 (some .int) 1 [.ref (ad (0)), .int a1] σ r.1 r.2 := by
  refine CI.mk (by decide) hj (Nat.le_of_ble_eq_true rfl) (fun p e R s m below meth c ls C hw hl => ?_)
  have hl : lv_has ls 3 [(0, .ref (ad (0))), (1, .int a1)] := hl
  generalize ([.ref (ad (0)), .int a1] : List Value).toArray = args at C ⊢
  have C : Cx 1 D cy ad p R s m args meth c cX8_keep 3 RX8 (some .int) 1 := C
  unfold f_X8_keep at h
  refine lv_iload_n C.1 C.2.1 dX8_keep_0 rfl (lv_at hl 1 rfl) ?_
  refine go_I hw (run_S (As := [.int _]) C hw (c_X8_isImage C.2.2.2.2.2.2.2.2.2 _ _) mi_X8_isImage ms_X8_isImage lk_X8_239 (by decide) (by decide) rfl hl.1 rfl (Nat.le_of_ble_eq_true rfl) dX8_keep_1 ⟨Nat.le_refl 0, Nat.le_refl 0⟩) (fun H locs hw => ?_)
  refine lv_if_ne (tgt := 9) C.1 C.2.1 dX8_keep_4 (by decide) (fun cd => ?_) (fun cd => ?_)
  · have h := ite_f cd h
    refine lv_aload_n C.1 C.2.1 dX8_keep_9 rfl (lv_at hl 0 rfl) ?_
    refine gf_X8_18 C hw dX8_keep_10 ?_
    refine lv_iload_n C.1 C.2.1 dX8_keep_13 rfl (lv_at hl 1 rfl) ?_
    obtain ⟨hin, h⟩ := gd_of h
    have hk1 := img_at hin
    refine gf_img C hw hin dX8_keep_14 ?_
    refine lv_astore_n (lv' := [(2, .ref _), (0, .ref _), (1, .int _)]) C.1 C.2.1 dX8_keep_15 rfl hl (by decide) rfl (fun ls hl => ?_)
    refine lv_aload_n C.1 C.2.1 dX8_keep_16 rfl (lv_at hl 0 rfl) ?_
    refine lv_iconst (v := (1 : Int32)) C.1 C.2.1 dX8_keep_17 (by decide) ?_
    refine pf_X8_82 C hw hk1 rfl rfl dX8_keep_18 (fun H locs hw => ?_)
    obtain ⟨σ2, eσ2, h⟩ := lt_of h
    rw [← eσ2] at hw
    refine lv_aload_n C.1 C.2.1 dX8_keep_21 rfl (lv_at hl 0 rfl) ?_
    refine lv_aload_n C.1 C.2.1 dX8_keep_22 rfl (lv_at hl 1 rfl) ?_
    refine gf_X8_73 C hw dX8_keep_23 ?_
    refine pf_X8_221 C hw hk1 dX8_keep_26 (fun H locs hw => ?_)
    obtain ⟨σ3, eσ3, h⟩ := lt_of h
    rw [← eσ3] at hw
    refine lv_aload_n C.1 C.2.1 dX8_keep_29 rfl (lv_at hl 0 rfl) ?_
    refine lv_aload_n C.1 C.2.1 dX8_keep_30 rfl (lv_at hl 1 rfl) ?_
    refine gf_X8_79 C hw dX8_keep_31 ?_
    refine pf_X8_225 C hw hk1 dX8_keep_34 (fun H locs hw => ?_)
    obtain ⟨σ4, eσ4, h⟩ := lt_of h
    rw [← eσ4] at hw
    refine lv_aload_n C.1 C.2.1 dX8_keep_37 rfl (lv_at hl 0 rfl) ?_
    refine gf_X8_242 C hw hk1 dX8_keep_38 ?_
    refine lv_aload_n C.1 C.2.1 dX8_keep_41 rfl (lv_at hl 1 rfl) ?_
    refine gf_X8_49 C hw dX8_keep_42 ?_
    have hk5 := (hw.2.1 rfl).2.2.1
    obtain ⟨r6, h1, h⟩ := bS h
    refine go_V hw (run_V (As := [.ref _]) C hw (c_X7_copyFrom C.2.2.2.2.2.2.2.2.2 _ _ (img_tree hk1) hk5 _ _ h1) mi_X7_copyFrom mv_X7_copyFrom (img_tree hk1) (ci := 7) rfl rfl lk_X8_243 (by decide) (by decide) rfl hl.1 rfl (Nat.le_of_ble_eq_true rfl) dX8_keep_45 ⟨Nat.le_refl 0, Nat.le_refl 0⟩) (fun H locs hw => ?_)
    refine lv_aload_n C.1 C.2.1 dX8_keep_48 rfl (lv_at hl 1 rfl) ?_
    refine gf_X8_73 C hw dX8_keep_49 ?_
    refine go_I hw (run_S (As := [.int _]) C hw (c_J6_bitCount_0f7a4 C.2.2.2.2.2.2.2.2.2 _ _) mi_J6_bitCount_0f7a4 ms_J6_bitCount_0f7a4 lk_X8_247 (by decide) (by decide) rfl hl.1 rfl (Nat.le_of_ble_eq_true rfl) dX8_keep_52 ⟨Nat.le_refl 0, Nat.le_refl 0⟩) (fun H locs hw => ?_)
    exact m_iret C hw (ret_p h) dX8_keep_55
  · have h := ite_t cd h
    refine lv_iconst (v := (-1 : Int32)) C.1 C.2.1 dX8_keep_7 (by decide) ?_
    exact m_iret C hw (ret_p h) dX8_keep_8
noncomputable def f_X8_back (a1 : Int32) (σ : Mem) : Option (Int32 × Mem) :=
  (f_X8_refusalOf a1 σ).bind (fun r1 => if r1 = 0 then (gd (ix a1 2) (lt (sI σ 0 8 (σ.1 (54 + 6 * a1.toNatClampNeg) 1)) (fun σ3 => lt (sI σ3 0 9 (σ3.1 (54 + 6 * a1.toNatClampNeg) 2)) (fun σ4 => (f_X7_copyFrom (σ4.2.2 6) (54 + 6 * a1.toNatClampNeg + 1) σ4).bind (fun r6 => some (f_J6_bitCount_0f7a4 (r6.1 0 8), r6)))))) else (some (r1, σ)))
set_option maxRecDepth 20000 in
theorem c_X8_back {l : Launch} {D : va_G} {cy : Nat → ClassId} {ad : Nat → Nat} (hj : InjW 1 ad) (a1 : Int32)  (σ : Mem) (r : (Int32 × Mem)) (h : f_X8_back a1 σ = some r) : CI 1 D cy ad l yX8_back cX8_back 4 (some .int) 2 [.ref (ad (0)), .int a1] σ r.1 r.2 := by
  refine CI.mk (by decide) hj (Nat.le_of_ble_eq_true rfl) (fun p e R s m below meth c ls C hw hl => ?_)
  have hl : lv_has ls 4 [(0, .ref (ad (0))), (1, .int a1)] := hl
  generalize ([.ref (ad (0)), .int a1] : List Value).toArray = args at C ⊢
  have C : Cx 1 D cy ad p R s m args meth c cX8_back 4 RX8 (some .int) 2 := C
  unfold f_X8_back at h
  refine lv_aload_n C.1 C.2.1 dX8_back_0 rfl (lv_at hl 0 rfl) ?_
  refine lv_iload_n C.1 C.2.1 dX8_back_1 rfl (lv_at hl 1 rfl) ?_
  obtain ⟨r1, h1, h⟩ := bS h
  refine go_I hw (run_V (As := [.int _]) C hw (c_X8_refusalOf C.2.2.2.2.2.2.2.2.2 _ _ _ h1) mi_X8_refusalOf mv_X8_refusalOf o1_0 (ci := 8) rfl rfl lk_X8_218 (by decide) (by decide) rfl hl.1 rfl (Nat.le_of_ble_eq_true rfl) dX8_back_2 ⟨Nat.le_refl 0, Nat.le_refl 0⟩) (fun H locs hw => ?_)
  refine lv_istore_n (lv' := [(2, .int _), (0, .ref _), (1, .int _)]) C.1 C.2.1 dX8_back_5 rfl hl (by decide) rfl (fun ls hl => ?_)
  refine lv_iload_n C.1 C.2.1 dX8_back_6 rfl (lv_at hl 0 rfl) ?_
  refine lv_if_eq (tgt := 12) C.1 C.2.1 dX8_back_7 (by decide) (fun cd => ?_) (fun cd => ?_)
  · have h := ite_t cd h
    refine lv_aload_n C.1 C.2.1 dX8_back_12 rfl (lv_at hl 1 rfl) ?_
    refine gf_X8_18 C hw dX8_back_13 ?_
    refine lv_iload_n C.1 C.2.1 dX8_back_16 rfl (lv_at hl 2 rfl) ?_
    obtain ⟨hin, h⟩ := gd_of h
    have hk2 := img_at hin
    refine gf_img C hw hin dX8_back_17 ?_
    refine lv_astore_n (lv' := [(3, .ref _), (2, .int _), (0, .ref _), (1, .int _)]) C.1 C.2.1 dX8_back_18 rfl hl (by decide) rfl (fun ls hl => ?_)
    refine lv_aload_n C.1 C.2.1 dX8_back_19 rfl (lv_at hl 2 rfl) ?_
    refine lv_aload_n C.1 C.2.1 dX8_back_20 rfl (lv_at hl 0 rfl) ?_
    refine gf_X8_221 C hw hk2 dX8_back_21 ?_
    refine pf_X8_73 C hw dX8_back_24 (fun H locs hw => ?_)
    obtain ⟨σ3, eσ3, h⟩ := lt_of h
    rw [← eσ3] at hw
    refine lv_aload_n C.1 C.2.1 dX8_back_27 rfl (lv_at hl 2 rfl) ?_
    refine lv_aload_n C.1 C.2.1 dX8_back_28 rfl (lv_at hl 0 rfl) ?_
    refine gf_X8_225 C hw hk2 dX8_back_29 ?_
    refine pf_X8_79 C hw dX8_back_32 (fun H locs hw => ?_)
    obtain ⟨σ4, eσ4, h⟩ := lt_of h
    rw [← eσ4] at hw
    refine lv_aload_n C.1 C.2.1 dX8_back_35 rfl (lv_at hl 2 rfl) ?_
    refine gf_X8_49 C hw dX8_back_36 ?_
    have hk5 := (hw.2.1 rfl).2.2.1
    refine lv_aload_n C.1 C.2.1 dX8_back_39 rfl (lv_at hl 0 rfl) ?_
    refine gf_X8_242 C hw hk2 dX8_back_40 ?_
    obtain ⟨r6, h1, h⟩ := bS h
    refine go_V hw (run_V (As := [.ref _]) C hw (c_X7_copyFrom C.2.2.2.2.2.2.2.2.2 _ _ hk5 (img_tree hk2) _ _ h1) mi_X7_copyFrom mv_X7_copyFrom hk5 (ci := 7) rfl rfl lk_X8_243 (by decide) (by decide) rfl hl.1 rfl (Nat.le_of_ble_eq_true rfl) dX8_back_43 ⟨Nat.le_refl 0, Nat.le_refl 0⟩) (fun H locs hw => ?_)
    refine lv_aload_n C.1 C.2.1 dX8_back_46 rfl (lv_at hl 2 rfl) ?_
    refine gf_X8_73 C hw dX8_back_47 ?_
    refine go_I hw (run_S (As := [.int _]) C hw (c_J6_bitCount_0f7a4 C.2.2.2.2.2.2.2.2.2 _ _) mi_J6_bitCount_0f7a4 ms_J6_bitCount_0f7a4 lk_X8_247 (by decide) (by decide) rfl hl.1 rfl (Nat.le_of_ble_eq_true rfl) dX8_back_50 ⟨Nat.le_refl 0, Nat.le_refl 0⟩) (fun H locs hw => ?_)
    exact m_iret C hw (ret_p h) dX8_back_53
  · have h := ite_f cd h
    refine lv_iload_n C.1 C.2.1 dX8_back_10 rfl (lv_at hl 0 rfl) ?_
    exact m_iret C hw (ret_p h) dX8_back_11
def f_X8_count (a1 : Int32) (σ : Mem) : Int32 :=
  if a1 = (0 : Int32) then (σ.1 (σ.2.2 4) 4) else (if a1 = (1 : Int32) then (f_J6_bitCount_0f7a4 (σ.1 0 8)) else (if a1 = (2 : Int32) then (σ.1 0 9) else (if a1 = (3 : Int32) then (σ.1 (σ.2.2 6) 4) else (if a1 = (4 : Int32) then (σ.1 1 1) else ((-1 : Int32))))))
set_option maxRecDepth 20000 in
theorem c_X8_count {l : Launch} {D : va_G} {cy : Nat → ClassId} {ad : Nat → Nat} (hj : InjW 1 ad) (a1 : Int32)  (σ : Mem) : CI 1 D cy ad l yX8_count cX8_count 2 (some .int) 1 [.ref (ad (0)), .int a1] σ (f_X8_count a1 σ) σ := by
  refine CI.mk (by decide) hj (Nat.le_of_ble_eq_true rfl) (fun p e R s m below meth c ls C hw hl => ?_)
  have hl : lv_has ls 2 [(0, .ref (ad (0))), (1, .int a1)] := hl
  generalize ([.ref (ad (0)), .int a1] : List Value).toArray = args at C ⊢
  have C : Cx 1 D cy ad p R s m args meth c cX8_count 2 RX8 (some .int) 1 := C
  obtain ⟨r, h⟩ : ∃ r, f_X8_count a1 σ = r := ⟨_, rfl⟩
  rw [h]
  unfold f_X8_count at h
  refine lv_iload_n C.1 C.2.1 dX8_count_0 rfl (lv_at hl 1 rfl) ?_
  by_cases cd0 : a1 = (0 : Int32)
  · have h := ite_t cd0 h
    refine m_tabIn (tgt := 36) C (0 : Int32) cd0 dX8_count_1 (by decide) (by decide) rfl (by decide) ?_
    refine lv_aload_n C.1 C.2.1 dX8_count_36 rfl (lv_at hl 0 rfl) ?_
    refine gf_X8_39 C hw dX8_count_37 ?_
    have hk1 := (hw.2.1 rfl).1
    refine gf_X8_252 C hw hk1 dX8_count_40 ?_
    exact m_iret C hw ⟨h, rfl⟩ dX8_count_43
  have h := ite_f cd0 h
  by_cases cd1 : a1 = (1 : Int32)
  · have h := ite_t cd1 h
    refine m_tabIn (tgt := 44) C (1 : Int32) cd1 dX8_count_1 (by decide) (by decide) rfl (by decide) ?_
    refine lv_aload_n C.1 C.2.1 dX8_count_44 rfl (lv_at hl 0 rfl) ?_
    refine gf_X8_73 C hw dX8_count_45 ?_
    refine go_I hw (run_S (As := [.int _]) C hw (c_J6_bitCount_0f7a4 C.2.2.2.2.2.2.2.2.2 _ _) mi_J6_bitCount_0f7a4 ms_J6_bitCount_0f7a4 lk_X8_247 (by decide) (by decide) rfl hl.1 rfl (Nat.le_of_ble_eq_true rfl) dX8_count_48 ⟨Nat.le_refl 0, Nat.le_refl 0⟩) (fun H locs hw => ?_)
    exact m_iret C hw ⟨h, rfl⟩ dX8_count_51
  have h := ite_f cd1 h
  by_cases cd2 : a1 = (2 : Int32)
  · have h := ite_t cd2 h
    refine m_tabIn (tgt := 52) C (2 : Int32) cd2 dX8_count_1 (by decide) (by decide) rfl (by decide) ?_
    refine lv_aload_n C.1 C.2.1 dX8_count_52 rfl (lv_at hl 0 rfl) ?_
    refine gf_X8_79 C hw dX8_count_53 ?_
    exact m_iret C hw ⟨h, rfl⟩ dX8_count_56
  have h := ite_f cd2 h
  by_cases cd3 : a1 = (3 : Int32)
  · have h := ite_t cd3 h
    refine m_tabIn (tgt := 57) C (3 : Int32) cd3 dX8_count_1 (by decide) (by decide) rfl (by decide) ?_
    refine lv_aload_n C.1 C.2.1 dX8_count_57 rfl (lv_at hl 0 rfl) ?_
    refine gf_X8_49 C hw dX8_count_58 ?_
    have hk2 := (hw.2.1 rfl).2.2.1
    refine gf_X8_139 C hw hk2 dX8_count_61 ?_
    exact m_iret C hw ⟨h, rfl⟩ dX8_count_64
  have h := ite_f cd3 h
  by_cases cd4 : a1 = (4 : Int32)
  · have h := ite_t cd4 h
    refine m_tabIn (tgt := 65) C (4 : Int32) cd4 dX8_count_1 (by decide) (by decide) rfl (by decide) ?_
    refine lv_aload_n C.1 C.2.1 dX8_count_65 rfl (lv_at hl 0 rfl) ?_
    refine gf_X8_10 C hw dX8_count_66 ?_
    refine gf_X8_57 C hw dX8_count_69 ?_
    exact m_iret C hw ⟨h, rfl⟩ dX8_count_72
  have h := ite_f cd4 h
  have cn0 := ne_toInt cd0
  have cn1 := ne_toInt cd1
  have cn2 := ne_toInt cd2
  have cn3 := ne_toInt cd3
  have cn4 := ne_toInt cd4
  refine m_tabOut (tgt := 73) C dX8_count_1 (by simp only [show ((0 : Int32)).toInt = 0 from by decide, show ((1 : Int32)).toInt = 1 from by decide, show ((2 : Int32)).toInt = 2 from by decide, show ((3 : Int32)).toInt = 3 from by decide, show ((4 : Int32)).toInt = 4 from by decide] at cn0 cn1 cn2 cn3 cn4; omega) (by decide) ?_
  refine lv_iconst (v := (-1 : Int32)) C.1 C.2.1 dX8_count_73 (by decide) ?_
  exact m_iret C hw ⟨h, rfl⟩ dX8_count_74
def f_X8_trace  (σ : Mem) : Int64 :=
  σ.2.1 0 10
set_option maxRecDepth 20000 in
theorem c_X8_trace {l : Launch} {D : va_G} {cy : Nat → ClassId} {ad : Nat → Nat} (hj : InjW 1 ad)   (σ : Mem) : CL 1 D cy ad l yX8_trace cX8_trace 1 (some .long) 0 [.ref (ad (0))] σ (f_X8_trace σ) σ := by
  refine CL.mk (by decide) hj (Nat.le_of_ble_eq_true rfl) (fun p e R s m below meth c ls C hw hl => ?_)
  have hl : lv_has ls 1 [(0, .ref (ad (0)))] := hl
  generalize ([.ref (ad (0))] : List Value).toArray = args at C ⊢
  have C : Cx 1 D cy ad p R s m args meth c cX8_trace 1 RX8 (some .long) 0 := C
  obtain ⟨r, h⟩ : ∃ r, f_X8_trace σ = r := ⟨_, rfl⟩
  rw [h]
  unfold f_X8_trace at h
  refine lv_aload_n C.1 C.2.1 dX8_trace_0 rfl (lv_at hl 0 rfl) ?_
  refine gf_X8_253 C hw dX8_trace_1 ?_
  exact m_lret C hw ⟨h, rfl⟩ dX8_trace_4
