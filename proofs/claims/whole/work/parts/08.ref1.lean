/-! the reference: functions and walks, 1 -/
theorem ret_p {α : Type} {v : α} {σ : Mem} {r : α × Mem} (h : some (v, σ) = some r) : v = r.1 ∧ σ = r.2 := by
  obtain rfl := Option.some.inj h
  exact ⟨rfl, rfl⟩
theorem ret_i {α : Type} {v r : α} {σ : Mem} (h : some v = some r) : v = r ∧ σ = σ := ⟨Option.some.inj h, rfl⟩
def f_X9_in (a0 : Int32) (a1 : Int32) (a2 : Int32) : Int32 :=
  if a0 < a1 then ((0 : Int32)) else (if a2 < a0 then ((0 : Int32)) else ((1 : Int32)))
set_option maxRecDepth 20000 in
theorem c_X9_in {l : Launch} {D : va_G} {cy : Nat → ClassId} {ad : Nat → Nat} (hj : InjW 0 ad) (a0 : Int32) (a1 : Int32) (a2 : Int32)  (σ : Mem) : CI 0 D cy ad l yX9_in cX9_in 3 (some .boolean) 0 [.int a0, .int a1, .int a2] σ (f_X9_in a0 a1 a2) σ := by
  refine CI.mk (by decide) hj (Nat.le_of_ble_eq_true rfl) (fun p e R s m below meth c ls C hw hl => ?_)
  have hl : lv_has ls 3 [(0, .int a0), (1, .int a1), (2, .int a2)] := hl
  generalize ([.int a0, .int a1, .int a2] : List Value).toArray = args at C ⊢
  have C : Cx 0 D cy ad p R s m args meth c cX9_in 3 RX9 (some .boolean) 0 := C
  obtain ⟨r, h⟩ : ∃ r, f_X9_in a0 a1 a2 = r := ⟨_, rfl⟩
  rw [h]
  unfold f_X9_in at h
  refine lv_iload_n C.1 C.2.1 dX9_in_0 rfl (lv_at hl 0 rfl) ?_
  refine lv_iload_n C.1 C.2.1 dX9_in_1 rfl (lv_at hl 1 rfl) ?_
  refine lv_icmp_lt (tgt := 14) C.1 C.2.1 dX9_in_2 (by decide) (fun cd => ?_) (fun cd => ?_)
  · have h := ite_t cd h
    refine lv_iconst (v := (0 : Int32)) C.1 C.2.1 dX9_in_14 (by decide) ?_
    exact m_zret C hw (by decide) ⟨h, rfl⟩ dX9_in_15
  · have h := ite_f cd h
    refine lv_iload_n C.1 C.2.1 dX9_in_5 rfl (lv_at hl 0 rfl) ?_
    refine lv_iload_n C.1 C.2.1 dX9_in_6 rfl (lv_at hl 2 rfl) ?_
    refine lv_icmp_gt (tgt := 14) C.1 C.2.1 dX9_in_7 (by decide) (fun cd => ?_) (fun cd => ?_)
    · have h := ite_t cd h
      refine lv_iconst (v := (0 : Int32)) C.1 C.2.1 dX9_in_14 (by decide) ?_
      exact m_zret C hw (by decide) ⟨h, rfl⟩ dX9_in_15
    · have h := ite_f cd h
      refine lv_iconst (v := (1 : Int32)) C.1 C.2.1 dX9_in_10 (by decide) ?_
      refine lv_goto (tgt := 15) C.1 C.2.1 dX9_in_11 (by decide) ?_
      exact m_zret C hw (by decide) ⟨h, rfl⟩ dX9_in_15
def f_X9_armsOf (a0 : Int32) : Int32 :=
  if (4 : Int32) ≤ a0 then (if (6 : Int32) ≤ a0 then ((2 : Int32)) else ((1 : Int32))) else ((0 : Int32))
set_option maxRecDepth 20000 in
theorem c_X9_armsOf {l : Launch} {D : va_G} {cy : Nat → ClassId} {ad : Nat → Nat} (hj : InjW 0 ad) (a0 : Int32)  (σ : Mem) : CI 0 D cy ad l yX9_armsOf cX9_armsOf 1 (some .int) 0 [.int a0] σ (f_X9_armsOf a0) σ := by
  refine CI.mk (by decide) hj (Nat.le_of_ble_eq_true rfl) (fun p e R s m below meth c ls C hw hl => ?_)
  have hl : lv_has ls 1 [(0, .int a0)] := hl
  generalize ([.int a0] : List Value).toArray = args at C ⊢
  have C : Cx 0 D cy ad p R s m args meth c cX9_armsOf 1 RX9 (some .int) 0 := C
  obtain ⟨r, h⟩ : ∃ r, f_X9_armsOf a0 = r := ⟨_, rfl⟩
  rw [h]
  unfold f_X9_armsOf at h
  refine lv_iload_n C.1 C.2.1 dX9_armsOf_0 rfl (lv_at hl 0 rfl) ?_
  refine lv_iconst (v := (4 : Int32)) C.1 C.2.1 dX9_armsOf_1 (by decide) ?_
  refine lv_icmp_ge (tgt := 9) C.1 C.2.1 dX9_armsOf_2 (by decide) (fun cd => ?_) (fun cd => ?_)
  · have h := ite_t cd h
    refine lv_iload_n C.1 C.2.1 dX9_armsOf_9 rfl (lv_at hl 0 rfl) ?_
    refine lv_bipush (v := (6 : Int32)) C.1 C.2.1 dX9_armsOf_10 (by decide) ?_
    refine lv_icmp_ge (tgt := 19) C.1 C.2.1 dX9_armsOf_12 (by decide) (fun cd => ?_) (fun cd => ?_)
    · have h := ite_t cd h
      refine lv_iconst (v := (2 : Int32)) C.1 C.2.1 dX9_armsOf_19 (by decide) ?_
      exact m_iret C hw ⟨h, rfl⟩ dX9_armsOf_20
    · have h := ite_f cd h
      refine lv_iconst (v := (1 : Int32)) C.1 C.2.1 dX9_armsOf_15 (by decide) ?_
      refine lv_goto (tgt := 20) C.1 C.2.1 dX9_armsOf_16 (by decide) ?_
      exact m_iret C hw ⟨h, rfl⟩ dX9_armsOf_20
  · have h := ite_f cd h
    refine lv_iconst (v := (0 : Int32)) C.1 C.2.1 dX9_armsOf_5 (by decide) ?_
    refine lv_goto (tgt := 20) C.1 C.2.1 dX9_armsOf_6 (by decide) ?_
    exact m_iret C hw ⟨h, rfl⟩ dX9_armsOf_20
noncomputable def b_X9_type_32 (a1 : Int64) (a3 : Int32) (v4 : Int32) (σ : Mem) : Option ((Int32 × Mem) ⊕ Mem) :=
  if v4 < 0 then (some (.inr σ)) else (gd (ix (σ.1 0 2) 300) (lt (sI σ 1 (σ.1 0 2).toNatClampNeg (vp_nar .byte ((((a1 >>> (((8 : Int32) * v4).toInt64 &&& 63)) &&& (255 : Int64)).toInt32).toInt8.toInt32))) (fun σ2 => lt (sI σ2 0 2 ((σ2.1 0 2) + (1 : Int32))) (fun σ3 => lt (v4 + (-1 : Int32)) (fun x4 => some (.inl (x4, σ3)))))))
noncomputable def f_X9_type (a1 : Int64) (a3 : Int32) (σ : Mem) : Option (Int32 × Mem) :=
  if (f_X9_in a3 (1 : Int32) (8 : Int32)) = 0 then (some ((-1 : Int32), σ)) else (if ((σ.1 0 2) + a3) ≤ (300 : Int32) then (lt (a3 - (1 : Int32)) (fun x1 => (Lim (T := Mem) (fun s => b_X9_type_32 a1 a3 s.1 s.2) (x1, σ)).bind (fun r5 => some (r5.1 0 2, r5)))) else (some ((-3 : Int32), σ)))
set_option maxRecDepth 20000 in
theorem w_X9_type_32 {D : va_G} {cy : Nat → ClassId} {ad : Nat → Nat} {p : Program} {l : Launch} {e : Env} {R : Room} {s : State} {m : MethodId} {args : Array Value} {below : List Frame} {meth : Method} {c : Code} (C : Cx 0 D cy ad p R s m args meth c cX9_type 5 RX9 (some .int) 1) {a1 : Int64} {a3 : Int32}  {v4 : Int32} {σ : Mem} {Q : State → Prop} {r : Mem} (hL : Lim (T := Mem) (fun s => b_X9_type_32 a1 a3 s.1 s.2) (v4, σ) = some r) (hE0 : ∀ (σ1 : Mem), (σ1 : Mem) = r → ∀ (H : Heap) (locs : List Loc) (ls : Array Slot), Wd 0 D cy ad s σ1 H locs → lv_has ls 5 [(0, .ref (ad (0)))] → W p l e R s m args below meth c H locs 0 0 Q (F0 m 75 ls [])) (H : Heap) (locs : List Loc) (ls : Array Slot) (hw : Wd 0 D cy ad s σ H locs) (hl : lv_has ls 5 [(0, .ref (ad (0))), (1, .long a1), (4, .int v4)]) : W p l e R s m args below meth c H locs 0 0 Q (F0 m 32 ls []) := by
  refine Lim_ind hL (P := fun u => ∀ (H : Heap) (locs : List Loc) (ls : Array Slot), Wd 0 D cy ad s u.2 H locs → lv_has ls 5 [(0, .ref (ad (0))), (1, .long a1), (4, .int u.1)] → W p l e R s m args below meth c H locs 0 0 Q (F0 m 32 ls [])) (fun u x h hx H locs ls hw hl => ?_) H locs ls hw hl
  clear hL
  obtain ⟨v4, σ⟩ := u
  have h : b_X9_type_32 a1 a3 v4 σ = some x := h
  have hw : Wd 0 D cy ad s σ H locs := hw
  have hl : lv_has ls 5 [(0, .ref (ad (0))), (1, .long a1), (4, .int v4)] := hl
  have hP : ∀ (u : (Int32 × Mem)), (∀ (H : Heap) (locs : List Loc) (ls : Array Slot), Wd 0 D cy ad s u.2 H locs → lv_has ls 5 [(0, .ref (ad (0))), (1, .long a1), (4, .int u.1)] → W p l e R s m args below meth c H locs 0 0 Q (F0 m 32 ls [])) → ∀ (H : Heap) (locs : List Loc) (ls : Array Slot), Wd 0 D cy ad s u.2 H locs → lv_has ls 5 [(0, .ref (ad (0))), (1, .long a1), (4, .int u.1)] → W p l e R s m args below meth c H locs 0 0 Q (F0 m 32 ls []) := fun _ k => k
  unfold b_X9_type_32 at h
  refine lv_iload C.1 C.2.1 dX9_type_32 (lv_at hl 2 rfl) ?_
  refine lv_if_lt (tgt := 75) C.1 C.2.1 dX9_type_34 (by decide) (fun cd => ?_) (fun cd => ?_)
  · have h := ite_t cd h
    obtain rfl := Option.some.inj h
    exact hE0 _ hx _ _ _ hw (lv_sub hl [0] rfl)
  · have h := ite_f cd h
    refine lv_aload_n C.1 C.2.1 dX9_type_37 rfl (lv_at hl 0 rfl) ?_
    refine gf_X9_7 C hw dX9_type_38 ?_
    refine lv_aload_n C.1 C.2.1 dX9_type_41 rfl (lv_at hl 0 rfl) ?_
    refine gf_X9_92 C hw dX9_type_42 ?_
    refine lv_lload_n C.1 C.2.1 dX9_type_45 rfl (lv_at hl 1 rfl) ?_
    refine lv_bipush (v := (8 : Int32)) C.1 C.2.1 dX9_type_46 (by decide) ?_
    refine lv_iload C.1 C.2.1 dX9_type_48 (lv_at hl 2 rfl) ?_
    refine lv_imul C.1 C.2.1 dX9_type_50 ?_
    refine lv_lshr C.1 C.2.1 dX9_type_51 rfl ?_
    refine lv_ldc2 (v := (255 : Int64)) C.1 C.2.1 C.2.2.2.1 (C.2.2.2.2.1 _ kl_X9_96) dX9_type_52 ?_
    refine lv_land C.1 C.2.1 dX9_type_55 ?_
    refine lv_l2i C.1 C.2.1 dX9_type_56 rfl ?_
    refine lv_i2b C.1 C.2.1 dX9_type_57 rfl ?_
    obtain ⟨hin, h⟩ := gd_of h
    refine m_bast C hw a0_1 hin dX9_type_58 (fun H locs hw => ?_)
    obtain ⟨σ2, eσ2, h⟩ := lt_of h
    rw [← eσ2] at hw
    refine lv_aload_n C.1 C.2.1 dX9_type_59 rfl (lv_at hl 0 rfl) ?_
    refine lv_dup C.1 C.2.1 dX9_type_60 rfl ?_
    refine gf_X9_92 C hw dX9_type_61 ?_
    refine lv_iconst (v := (1 : Int32)) C.1 C.2.1 dX9_type_64 (by decide) ?_
    refine lv_iadd C.1 C.2.1 dX9_type_65 ?_
    refine pf_X9_92 C hw dX9_type_66 (fun H locs hw => ?_)
    obtain ⟨σ3, eσ3, h⟩ := lt_of h
    rw [← eσ3] at hw
    obtain ⟨x4, ex4, h⟩ := lt_of h
    refine m_iinc (k := 2) (lv' := [(4, .int _), (0, .ref _), (1, .long _)]) C (-1 : Int32) (by decide) dX9_type_69 hl rfl ex4.symm (by decide) rfl (fun ls hl => ?_)
    refine lv_goto (tgt := 32) C.1 C.2.1 dX9_type_72 (by decide) ?_
    obtain rfl := Option.some.inj h
    exact hP _ hx _ _ _ hw (lv_sub hl [1, 2, 0] rfl)
set_option maxRecDepth 20000 in
theorem c_X9_type {l : Launch} {D : va_G} {cy : Nat → ClassId} {ad : Nat → Nat} (hj : InjW 0 ad) (a1 : Int64) (a3 : Int32)  (σ : Mem) (r : (Int32 × Mem)) (h : f_X9_type a1 a3 σ = some r) : CI 0 D cy ad l yX9_type cX9_type 5 (some .int) 1 [.ref (ad (0)), .long a1, .int a3] σ r.1 r.2 := by
  refine CI.mk (by decide) hj (Nat.le_of_ble_eq_true rfl) (fun p e R s m below meth c ls C hw hl => ?_)
  have hl : lv_has ls 5 [(0, .ref (ad (0))), (1, .long a1), (3, .int a3)] := hl
  generalize ([.ref (ad (0)), .long a1, .int a3] : List Value).toArray = args at C ⊢
  have C : Cx 0 D cy ad p R s m args meth c cX9_type 5 RX9 (some .int) 1 := C
  unfold f_X9_type at h
  refine lv_iload_n C.1 C.2.1 dX9_type_0 rfl (lv_at hl 2 rfl) ?_
  refine lv_iconst (v := (1 : Int32)) C.1 C.2.1 dX9_type_1 (by decide) ?_
  refine lv_bipush (v := (8 : Int32)) C.1 C.2.1 dX9_type_2 (by decide) ?_
  refine go_I hw (run_S (As := [.int _, .int _, .int _]) C hw (c_X9_in C.2.2.2.2.2.2.2.2.2 _ _ _ _) mi_X9_in ms_X9_in lk_X9_88 (by decide) (by decide) rfl hl.1 rfl (Nat.le_of_ble_eq_true rfl) dX9_type_4 ⟨Nat.le_refl 0, Nat.le_refl 0⟩) (fun H locs hw => ?_)
  refine lv_if_ne (tgt := 12) C.1 C.2.1 dX9_type_7 (by decide) (fun cd => ?_) (fun cd => ?_)
  · have h := ite_f cd h
    refine lv_aload_n C.1 C.2.1 dX9_type_12 rfl (lv_at hl 0 rfl) ?_
    refine gf_X9_92 C hw dX9_type_13 ?_
    refine lv_iload_n C.1 C.2.1 dX9_type_16 rfl (lv_at hl 2 rfl) ?_
    refine lv_iadd C.1 C.2.1 dX9_type_17 ?_
    refine lv_sipush (v := (300 : Int32)) C.1 C.2.1 dX9_type_18 (by decide) ?_
    refine lv_icmp_le (tgt := 27) C.1 C.2.1 dX9_type_21 (by decide) (fun cd => ?_) (fun cd => ?_)
    · have h := ite_t cd h
      refine lv_iload_n C.1 C.2.1 dX9_type_27 rfl (lv_at hl 2 rfl) ?_
      refine lv_iconst (v := (1 : Int32)) C.1 C.2.1 dX9_type_28 (by decide) ?_
      refine lv_isub C.1 C.2.1 dX9_type_29 ?_
      obtain ⟨x1, ex1, h⟩ := lt_of h
      refine m_topi ex1 ?_
      refine lv_istore (lv' := [(4, .int _), (0, .ref _), (1, .long _), (3, .int _)]) C.1 C.2.1 dX9_type_30 hl (by decide) rfl (fun ls hl => ?_)
      obtain ⟨r5, hL, h⟩ := bS h
      refine w_X9_type_32 C  hL (fun y0 hr H locs ls hw hl => ?_) _ _ _ hw (lv_sub hl [1, 2, 0] rfl)
      · subst hr
        try dsimp only at h
        try dsimp only at hw
        try dsimp only at hl
        refine lv_aload_n C.1 C.2.1 dX9_type_75 rfl (lv_at hl 0 rfl) ?_
        refine gf_X9_92 C hw dX9_type_76 ?_
        exact m_iret C hw (ret_p h) dX9_type_79
    · have h := ite_f cd h
      refine lv_bipush (v := (-3 : Int32)) C.1 C.2.1 dX9_type_24 (by decide) ?_
      exact m_iret C hw (ret_p h) dX9_type_26
  · have h := ite_t cd h
    refine lv_iconst (v := (-1 : Int32)) C.1 C.2.1 dX9_type_10 (by decide) ?_
    exact m_iret C hw (ret_p h) dX9_type_11
noncomputable def f_X9_clear  (σ : Mem) : Option (Int32 × Mem) :=
  lt (σ.1 0 2) (fun x1 => lt (sI σ 0 2 (0 : Int32)) (fun σ2 => some (x1, σ2)))
set_option maxRecDepth 20000 in
theorem c_X9_clear {l : Launch} {D : va_G} {cy : Nat → ClassId} {ad : Nat → Nat} (hj : InjW 0 ad)   (σ : Mem) (r : (Int32 × Mem)) (h : f_X9_clear σ = some r) : CI 0 D cy ad l yX9_clear cX9_clear 2 (some .int) 0 [.ref (ad (0))] σ r.1 r.2 := by
  refine CI.mk (by decide) hj (Nat.le_of_ble_eq_true rfl) (fun p e R s m below meth c ls C hw hl => ?_)
  have hl : lv_has ls 2 [(0, .ref (ad (0)))] := hl
  generalize ([.ref (ad (0))] : List Value).toArray = args at C ⊢
  have C : Cx 0 D cy ad p R s m args meth c cX9_clear 2 RX9 (some .int) 0 := C
  unfold f_X9_clear at h
  refine lv_aload_n C.1 C.2.1 dX9_clear_0 rfl (lv_at hl 0 rfl) ?_
  refine gf_X9_92 C hw dX9_clear_1 ?_
  obtain ⟨x1, ex1, h⟩ := lt_of h
  refine m_topi ex1 ?_
  refine lv_istore_n (lv' := [(1, .int _), (0, .ref _)]) C.1 C.2.1 dX9_clear_4 rfl hl (by decide) rfl (fun ls hl => ?_)
  refine lv_aload_n C.1 C.2.1 dX9_clear_5 rfl (lv_at hl 1 rfl) ?_
  refine lv_iconst (v := (0 : Int32)) C.1 C.2.1 dX9_clear_6 (by decide) ?_
  refine pf_X9_92 C hw dX9_clear_7 (fun H locs hw => ?_)
  obtain ⟨σ2, eσ2, h⟩ := lt_of h
  rw [← eσ2] at hw
  refine lv_iload_n C.1 C.2.1 dX9_clear_10 rfl (lv_at hl 0 rfl) ?_
  exact m_iret C hw (ret_p h) dX9_clear_11
noncomputable def f_X9_here  (σ : Mem) : Option Int32 :=
  if (σ.1 0 2) ≤ (σ.1 0 8) then (some (-1 : Int32)) else (gd (ix (σ.1 0 8) 300) (some ((σ.1 1 (σ.1 0 8).toNatClampNeg) &&& (255 : Int32))))
set_option maxRecDepth 20000 in
theorem c_X9_here {l : Launch} {D : va_G} {cy : Nat → ClassId} {ad : Nat → Nat} (hj : InjW 0 ad)   (σ : Mem) (r : Int32) (h : f_X9_here σ = some r) : CI 0 D cy ad l yX9_here cX9_here 1 (some .int) 0 [.ref (ad (0))] σ r σ := by
  refine CI.mk (by decide) hj (Nat.le_of_ble_eq_true rfl) (fun p e R s m below meth c ls C hw hl => ?_)
  have hl : lv_has ls 1 [(0, .ref (ad (0)))] := hl
  generalize ([.ref (ad (0))] : List Value).toArray = args at C ⊢
  have C : Cx 0 D cy ad p R s m args meth c cX9_here 1 RX9 (some .int) 0 := C
  unfold f_X9_here at h
  refine lv_aload_n C.1 C.2.1 dX9_here_0 rfl (lv_at hl 0 rfl) ?_
  refine gf_X9_98 C hw dX9_here_1 ?_
  refine lv_aload_n C.1 C.2.1 dX9_here_4 rfl (lv_at hl 0 rfl) ?_
  refine gf_X9_92 C hw dX9_here_5 ?_
  refine lv_icmp_ge (tgt := 27) C.1 C.2.1 dX9_here_8 (by decide) (fun cd => ?_) (fun cd => ?_)
  · have h := ite_t cd h
    refine lv_iconst (v := (-1 : Int32)) C.1 C.2.1 dX9_here_27 (by decide) ?_
    exact m_iret C hw (ret_i h) dX9_here_28
  · have h := ite_f cd h
    refine lv_aload_n C.1 C.2.1 dX9_here_11 rfl (lv_at hl 0 rfl) ?_
    refine gf_X9_7 C hw dX9_here_12 ?_
    refine lv_aload_n C.1 C.2.1 dX9_here_15 rfl (lv_at hl 0 rfl) ?_
    refine gf_X9_98 C hw dX9_here_16 ?_
    obtain ⟨hin, h⟩ := gd_of h
    refine m_bald C hw a0_1 hin dX9_here_19 ?_
    refine lv_sipush (v := (255 : Int32)) C.1 C.2.1 dX9_here_20 (by decide) ?_
    refine lv_iand C.1 C.2.1 dX9_here_23 ?_
    refine lv_goto (tgt := 28) C.1 C.2.1 dX9_here_24 (by decide) ?_
    exact m_iret C hw (ret_i h) dX9_here_28
noncomputable def b_X9_next_0  (σ : Mem) : Option (Mem ⊕ Mem) :=
  (f_X9_here σ).bind (fun r1 => if r1 = (32 : Int32) then (lt (sI σ 0 8 ((σ.1 0 8) + (1 : Int32))) (fun σ2 => some (.inl σ2))) else (some (.inr σ)))
noncomputable def j_X9_next_315  (z1 : Int32) (σ : Mem) : Option Mem :=
  lt (sI σ 0 10 z1) (fun σ8 => some σ8)
noncomputable def j_X9_next_237  (z1 : Int32) (v1 : Int32) (σ : Mem) : Option ((Int32 × Mem) ⊕ (Int32 × Mem)) :=
  lt (sI σ 0 11 z1) (fun σ11 => lt (sI σ11 0 8 ((σ11.1 0 8) + (1 : Int32))) (fun σ12 => some (.inl (v1, σ12))))
noncomputable def b_X9_next_191  (v1 : Int32) (σ : Mem) : Option ((Int32 × Mem) ⊕ (Int32 × Mem)) :=
  (f_X9_here σ).bind (fun r9 => if (f_X9_in r9 (48 : Int32) (57 : Int32)) = 0 then (some (.inr (v1, σ))) else (if (σ.1 0 11) ≤ (99 : Int32) then ((f_X9_here σ).bind (fun r10 => j_X9_next_237 ((((10 : Int32) * (σ.1 0 11)) + r10) - (48 : Int32)) v1 σ)) else (j_X9_next_237 (σ.1 0 11) v1 σ)))
noncomputable def j_X9_next_287  (z1 : Int32) (σ : Mem) : Option Mem :=
  lt (sI σ 0 10 z1) (fun σ14 => some σ14)
noncomputable def j_X9_next_282  (σ : Mem) : Option Mem :=
  j_X9_next_287 (5 : Int32) σ
noncomputable def j_X9_next_286  (σ : Mem) : Option Mem :=
  j_X9_next_287 (2 : Int32) σ
noncomputable def j_X9_next_108  (z0 : Int32) (σ : Mem) : Option ((Int32 × Mem) ⊕ (Int32 × Mem)) :=
  lt (sI σ 0 8 ((σ.1 0 8) + (1 : Int32))) (fun σ16 => some (.inl (z0, σ16)))
noncomputable def b_X9_next_65  (v2 : Int32) (σ : Mem) : Option ((Int32 × Mem) ⊕ (Int32 × Mem)) :=
  (f_X9_here σ).bind (fun r15 => if (f_X9_in r15 (97 : Int32) (122 : Int32)) = 0 then (some (.inr (v2, σ))) else (if (4 : Int32) ≤ ((σ.1 0 8) - (σ.1 0 9)) then (j_X9_next_108 (0 : Int32) σ) else ((f_X9_here σ).bind (fun r17 => j_X9_next_108 ((((27 : Int32) * v2) + r17) - (96 : Int32)) σ))))
noncomputable def j_X9_next_167  (z1 : Int32) (v2 : Int32) (σ : Mem) : Option Mem :=
  lt (sI σ 0 10 z1) (fun σ19 => lt (sI σ19 0 11 (v2 - (1 : Int32))) (fun σ20 => some σ20))
noncomputable def j_X9_next_140  (z0 : Int32) (σ : Mem) : Option Mem :=
  if z0 = (149125 : Int32) then (j_X9_next_167 (1 : Int32) z0 σ) else (if (f_X9_in z0 (1 : Int32) (8 : Int32)) = 0 then (j_X9_next_167 (5 : Int32) z0 σ) else (j_X9_next_167 (0 : Int32) z0 σ))
noncomputable def f_X9_next  (σ : Mem) : Option Mem :=
  (Lim (T := Mem) (fun s => b_X9_next_0 s) σ).bind (fun r3 => lt (sI r3 0 9 (r3.1 0 8)) (fun σ4 => lt (sI σ4 0 11 (0 : Int32)) (fun σ5 => (f_X9_here σ5).bind (fun r6 => if 0 ≤ r6 then (if (f_X9_in r6 (97 : Int32) (122 : Int32)) = 0 then (if (f_X9_in r6 (48 : Int32) (57 : Int32)) = 0 then (lt (sI σ5 0 8 ((σ5.1 0 8) + (1 : Int32))) (fun σ7 => if r6 = (59 : Int32) then (j_X9_next_315 (3 : Int32) σ7) else (j_X9_next_315 (5 : Int32) σ7))) else ((Lim (T := (Int32 × Mem)) (fun s => b_X9_next_191 s.1 s.2) (r6, σ5)).bind (fun r13 => if (99 : Int32) < (r13.2.1 0 11) then (j_X9_next_282 r13.2) else (if r13.1 = (48 : Int32) then (if ((r13.2.1 0 8) - (r13.2.1 0 9)) ≤ (1 : Int32) then (j_X9_next_286 r13.2) else (j_X9_next_282 r13.2)) else (j_X9_next_286 r13.2))))) else ((Lim (T := (Int32 × Mem)) (fun s => b_X9_next_65 s.1 s.2) ((0 : Int32), σ5)).bind (fun r18 => if ((r18.2.1 0 8) - (r18.2.1 0 9)) ≤ (4 : Int32) then (j_X9_next_140 r18.1 r18.2) else (j_X9_next_140 (0 : Int32) r18.2)))) else (lt (sI σ5 0 10 (4 : Int32)) (fun σ21 => some σ21))))))
set_option maxRecDepth 20000 in
theorem w_X9_next_0 {D : va_G} {cy : Nat → ClassId} {ad : Nat → Nat} {p : Program} {l : Launch} {e : Env} {R : Room} {s : State} {m : MethodId} {args : Array Value} {below : List Frame} {meth : Method} {c : Code} (C : Cx 0 D cy ad p R s m args meth c cX9_next 3 RX9 none 1)    {σ : Mem} {Q : State → Prop} {r : Mem} (hL : Lim (T := Mem) (fun s => b_X9_next_0 s) σ = some r) (hE0 : ∀ (σ1 : Mem), (σ1 : Mem) = r → ∀ (H : Heap) (locs : List Loc) (ls : Array Slot), Wd 0 D cy ad s σ1 H locs → lv_has ls 3 [(0, .ref (ad (0)))] → W p l e R s m args below meth c H locs 0 0 Q (F0 m 22 ls [])) (H : Heap) (locs : List Loc) (ls : Array Slot) (hw : Wd 0 D cy ad s σ H locs) (hl : lv_has ls 3 [(0, .ref (ad (0)))]) : W p l e R s m args below meth c H locs 0 0 Q (F0 m 0 ls []) := by
  refine Lim_ind hL (P := fun u => ∀ (H : Heap) (locs : List Loc) (ls : Array Slot), Wd 0 D cy ad s u H locs → lv_has ls 3 [(0, .ref (ad (0)))] → W p l e R s m args below meth c H locs 0 0 Q (F0 m 0 ls [])) (fun u x h hx H locs ls hw hl => ?_) H locs ls hw hl
  clear hL
  obtain ⟨σ, rfl⟩ : ∃ z, z = u := ⟨u, rfl⟩
  have h : b_X9_next_0 σ = some x := h
  have hw : Wd 0 D cy ad s σ H locs := hw
  have hl : lv_has ls 3 [(0, .ref (ad (0)))] := hl
  have hP : ∀ (u : Mem), (∀ (H : Heap) (locs : List Loc) (ls : Array Slot), Wd 0 D cy ad s u H locs → lv_has ls 3 [(0, .ref (ad (0)))] → W p l e R s m args below meth c H locs 0 0 Q (F0 m 0 ls [])) → ∀ (H : Heap) (locs : List Loc) (ls : Array Slot), Wd 0 D cy ad s u H locs → lv_has ls 3 [(0, .ref (ad (0)))] → W p l e R s m args below meth c H locs 0 0 Q (F0 m 0 ls []) := fun _ k => k
  unfold b_X9_next_0 at h
  refine lv_aload_n C.1 C.2.1 dX9_next_0 rfl (lv_at hl 0 rfl) ?_
  obtain ⟨r1, h1, h⟩ := bS h
  refine go_I hw (run_V (As := []) C hw (c_X9_here C.2.2.2.2.2.2.2.2.2 _ _ h1) mi_X9_here mv_X9_here o0_0 (ci := 9) rfl rfl lk_X9_101 (by decide) (by decide) rfl hl.1 rfl (Nat.le_of_ble_eq_true rfl) dX9_next_1 ⟨Nat.le_refl 0, Nat.le_refl 0⟩) (fun H locs hw => ?_)
  refine lv_bipush (v := (32 : Int32)) C.1 C.2.1 dX9_next_4 (by decide) ?_
  refine lv_icmp_ne (tgt := 22) C.1 C.2.1 dX9_next_6 (by decide) (fun cd => ?_) (fun cd => ?_)
  · have h := ite_f cd h
    obtain rfl := Option.some.inj h
    exact hE0 _ hx _ _ _ hw (lv_sub hl [0] rfl)
  · have h := ite_t cd h
    refine lv_aload_n C.1 C.2.1 dX9_next_9 rfl (lv_at hl 0 rfl) ?_
    refine lv_dup C.1 C.2.1 dX9_next_10 rfl ?_
    refine gf_X9_98 C hw dX9_next_11 ?_
    refine lv_iconst (v := (1 : Int32)) C.1 C.2.1 dX9_next_14 (by decide) ?_
    refine lv_iadd C.1 C.2.1 dX9_next_15 ?_
    refine pf_X9_98 C hw dX9_next_16 (fun H locs hw => ?_)
    obtain ⟨σ2, eσ2, h⟩ := lt_of h
    rw [← eσ2] at hw
    refine lv_goto (tgt := 0) C.1 C.2.1 dX9_next_19 (by decide) ?_
    obtain rfl := Option.some.inj h
    exact hP _ hx _ _ _ hw (lv_sub hl [0] rfl)
set_option maxRecDepth 20000 in
theorem w_X9_next_315 {D : va_G} {cy : Nat → ClassId} {ad : Nat → Nat} {p : Program} {l : Launch} {e : Env} {R : Room} {s : State} {m : MethodId} {args : Array Value} {below : List Frame} {meth : Method} {c : Code} (C : Cx 0 D cy ad p R s m args meth c cX9_next 3 RX9 none 1)   {z1 : Int32}  {σ : Mem} {H : Heap} {locs : List Loc} {ls : Array Slot} {r : Mem} (hw : Wd 0 D cy ad s σ H locs) (hl : lv_has ls 3 []) (h : j_X9_next_315 z1 σ = some r) : W p l e R s m args below meth c H locs 0 0 (QV 0 D cy ad below args s r) (F0 m 315 ls [.int z1, .ref (ad (0))]) := by
  unfold j_X9_next_315 at h
  refine pf_X9_111 C hw dX9_next_315 (fun H locs hw => ?_)
  obtain ⟨σ8, eσ8, h⟩ := lt_of h
  rw [← eσ8] at hw
  exact m_vret C hw (Option.some.inj h) dX9_next_318
set_option maxRecDepth 20000 in
theorem w_X9_next_237 {D : va_G} {cy : Nat → ClassId} {ad : Nat → Nat} {p : Program} {l : Launch} {e : Env} {R : Room} {s : State} {m : MethodId} {args : Array Value} {below : List Frame} {meth : Method} {c : Code} (C : Cx 0 D cy ad p R s m args meth c cX9_next 3 RX9 none 1)   {z1 : Int32} {v1 : Int32}  {σ : Mem} {H : Heap} {locs : List Loc} {ls : Array Slot} {Q : State → Prop} {P : (Int32 × Mem) → Prop} {r : (Int32 × Mem)} {x : (Int32 × Mem) ⊕ (Int32 × Mem)} (hx : LimQ P r x) (hP : ∀ u, P u → ∀ (H : Heap) (locs : List Loc) (ls : Array Slot), Wd 0 D cy ad s u.2 H locs → lv_has ls 3 [(0, .ref (ad (0))), (1, .int u.1)] → W p l e R s m args below meth c H locs 0 0 Q (F0 m 191 ls [])) (hE0 : ∀ (v1 : Int32) (σ1 : Mem), ((v1, σ1) : (Int32 × Mem)) = r → ∀ (H : Heap) (locs : List Loc) (ls : Array Slot), Wd 0 D cy ad s σ1 H locs → lv_has ls 3 [(0, .ref (ad (0))), (1, .int v1)] → W p l e R s m args below meth c H locs 0 0 Q (F0 m 253 ls [])) (hw : Wd 0 D cy ad s σ H locs) (hl : lv_has ls 3 [(0, .ref (ad (0))), (1, .int v1)]) (h : j_X9_next_237 z1 v1 σ = some x) : W p l e R s m args below meth c H locs 0 0 Q (F0 m 237 ls [.int z1, .ref (ad (0))]) := by
  unfold j_X9_next_237 at h
  refine pf_X9_108 C hw dX9_next_237 (fun H locs hw => ?_)
  obtain ⟨σ11, eσ11, h⟩ := lt_of h
  rw [← eσ11] at hw
  refine lv_aload_n C.1 C.2.1 dX9_next_240 rfl (lv_at hl 0 rfl) ?_
  refine lv_dup C.1 C.2.1 dX9_next_241 rfl ?_
  refine gf_X9_98 C hw dX9_next_242 ?_
  refine lv_iconst (v := (1 : Int32)) C.1 C.2.1 dX9_next_245 (by decide) ?_
  refine lv_iadd C.1 C.2.1 dX9_next_246 ?_
  refine pf_X9_98 C hw dX9_next_247 (fun H locs hw => ?_)
  obtain ⟨σ12, eσ12, h⟩ := lt_of h
  rw [← eσ12] at hw
  refine lv_goto (tgt := 191) C.1 C.2.1 dX9_next_250 (by decide) ?_
  obtain rfl := Option.some.inj h
  exact hP _ hx _ _ _ hw (lv_sub hl [0, 1] rfl)
set_option maxRecDepth 20000 in
theorem w_X9_next_191 {D : va_G} {cy : Nat → ClassId} {ad : Nat → Nat} {p : Program} {l : Launch} {e : Env} {R : Room} {s : State} {m : MethodId} {args : Array Value} {below : List Frame} {meth : Method} {c : Code} (C : Cx 0 D cy ad p R s m args meth c cX9_next 3 RX9 none 1)   {v1 : Int32} {σ : Mem} {Q : State → Prop} {r : (Int32 × Mem)} (hL : Lim (T := (Int32 × Mem)) (fun s => b_X9_next_191 s.1 s.2) (v1, σ) = some r) (hE0 : ∀ (v1 : Int32) (σ1 : Mem), ((v1, σ1) : (Int32 × Mem)) = r → ∀ (H : Heap) (locs : List Loc) (ls : Array Slot), Wd 0 D cy ad s σ1 H locs → lv_has ls 3 [(0, .ref (ad (0))), (1, .int v1)] → W p l e R s m args below meth c H locs 0 0 Q (F0 m 253 ls [])) (H : Heap) (locs : List Loc) (ls : Array Slot) (hw : Wd 0 D cy ad s σ H locs) (hl : lv_has ls 3 [(0, .ref (ad (0))), (1, .int v1)]) : W p l e R s m args below meth c H locs 0 0 Q (F0 m 191 ls []) := by
  refine Lim_ind hL (P := fun u => ∀ (H : Heap) (locs : List Loc) (ls : Array Slot), Wd 0 D cy ad s u.2 H locs → lv_has ls 3 [(0, .ref (ad (0))), (1, .int u.1)] → W p l e R s m args below meth c H locs 0 0 Q (F0 m 191 ls [])) (fun u x h hx H locs ls hw hl => ?_) H locs ls hw hl
  clear hL
  obtain ⟨v1, σ⟩ := u
  have h : b_X9_next_191 v1 σ = some x := h
  have hw : Wd 0 D cy ad s σ H locs := hw
  have hl : lv_has ls 3 [(0, .ref (ad (0))), (1, .int v1)] := hl
  have hP : ∀ (u : (Int32 × Mem)), (∀ (H : Heap) (locs : List Loc) (ls : Array Slot), Wd 0 D cy ad s u.2 H locs → lv_has ls 3 [(0, .ref (ad (0))), (1, .int u.1)] → W p l e R s m args below meth c H locs 0 0 Q (F0 m 191 ls [])) → ∀ (H : Heap) (locs : List Loc) (ls : Array Slot), Wd 0 D cy ad s u.2 H locs → lv_has ls 3 [(0, .ref (ad (0))), (1, .int u.1)] → W p l e R s m args below meth c H locs 0 0 Q (F0 m 191 ls []) := fun _ k => k
  unfold b_X9_next_191 at h
  refine lv_aload_n C.1 C.2.1 dX9_next_191 rfl (lv_at hl 0 rfl) ?_
  obtain ⟨r9, h1, h⟩ := bS h
  refine go_I hw (run_V (As := []) C hw (c_X9_here C.2.2.2.2.2.2.2.2.2 _ _ h1) mi_X9_here mv_X9_here o0_0 (ci := 9) rfl rfl lk_X9_101 (by decide) (by decide) rfl hl.1 rfl (Nat.le_of_ble_eq_true rfl) dX9_next_192 ⟨Nat.le_refl 0, Nat.le_refl 0⟩) (fun H locs hw => ?_)
  refine lv_bipush (v := (48 : Int32)) C.1 C.2.1 dX9_next_195 (by decide) ?_
  refine lv_bipush (v := (57 : Int32)) C.1 C.2.1 dX9_next_197 (by decide) ?_
  refine go_I hw (run_S (As := [.int _, .int _, .int _]) C hw (c_X9_in C.2.2.2.2.2.2.2.2.2 _ _ _ _) mi_X9_in ms_X9_in lk_X9_88 (by decide) (by decide) rfl hl.1 rfl (Nat.le_of_ble_eq_true rfl) dX9_next_199 ⟨Nat.le_refl 0, Nat.le_refl 0⟩) (fun H locs hw => ?_)
  refine lv_if_eq (tgt := 253) C.1 C.2.1 dX9_next_202 (by decide) (fun cd => ?_) (fun cd => ?_)
  · have h := ite_t cd h
    obtain rfl := Option.some.inj h
    exact hE0 _ _ hx _ _ _ hw (lv_sub hl [0, 1] rfl)
  · have h := ite_f cd h
    refine lv_aload_n C.1 C.2.1 dX9_next_205 rfl (lv_at hl 0 rfl) ?_
    refine lv_aload_n C.1 C.2.1 dX9_next_206 rfl (lv_at hl 0 rfl) ?_
    refine gf_X9_108 C hw dX9_next_207 ?_
    refine lv_bipush (v := (99 : Int32)) C.1 C.2.1 dX9_next_210 (by decide) ?_
    refine lv_icmp_le (tgt := 222) C.1 C.2.1 dX9_next_212 (by decide) (fun cd => ?_) (fun cd => ?_)
    · have h := ite_t cd h
      refine lv_bipush (v := (10 : Int32)) C.1 C.2.1 dX9_next_222 (by decide) ?_
      refine lv_aload_n C.1 C.2.1 dX9_next_224 rfl (lv_at hl 0 rfl) ?_
      refine gf_X9_108 C hw dX9_next_225 ?_
      refine lv_imul C.1 C.2.1 dX9_next_228 ?_
      refine lv_aload_n C.1 C.2.1 dX9_next_229 rfl (lv_at hl 0 rfl) ?_
      obtain ⟨r10, h1, h⟩ := bS h
      refine go_I hw (run_V (As := []) C hw (c_X9_here C.2.2.2.2.2.2.2.2.2 _ _ h1) mi_X9_here mv_X9_here o0_0 (ci := 9) rfl rfl lk_X9_101 (by decide) (by decide) rfl hl.1 rfl (Nat.le_of_ble_eq_true rfl) dX9_next_230 ⟨Nat.le_refl 0, Nat.le_refl 0⟩) (fun H locs hw => ?_)
      refine lv_iadd C.1 C.2.1 dX9_next_233 ?_
      refine lv_bipush (v := (48 : Int32)) C.1 C.2.1 dX9_next_234 (by decide) ?_
      refine lv_isub C.1 C.2.1 dX9_next_236 ?_
      exact w_X9_next_237 C hx hP hE0 hw (lv_sub hl [0, 1] rfl) h
    · have h := ite_f cd h
      refine lv_aload_n C.1 C.2.1 dX9_next_215 rfl (lv_at hl 0 rfl) ?_
      refine gf_X9_108 C hw dX9_next_216 ?_
      refine lv_goto (tgt := 237) C.1 C.2.1 dX9_next_219 (by decide) ?_
      exact w_X9_next_237 C hx hP hE0 hw (lv_sub hl [0, 1] rfl) h
set_option maxRecDepth 20000 in
theorem w_X9_next_287 {D : va_G} {cy : Nat → ClassId} {ad : Nat → Nat} {p : Program} {l : Launch} {e : Env} {R : Room} {s : State} {m : MethodId} {args : Array Value} {below : List Frame} {meth : Method} {c : Code} (C : Cx 0 D cy ad p R s m args meth c cX9_next 3 RX9 none 1)   {z1 : Int32}  {σ : Mem} {H : Heap} {locs : List Loc} {ls : Array Slot} {r : Mem} (hw : Wd 0 D cy ad s σ H locs) (hl : lv_has ls 3 []) (h : j_X9_next_287 z1 σ = some r) : W p l e R s m args below meth c H locs 0 0 (QV 0 D cy ad below args s r) (F0 m 287 ls [.int z1, .ref (ad (0))]) := by
  unfold j_X9_next_287 at h
  refine pf_X9_111 C hw dX9_next_287 (fun H locs hw => ?_)
  obtain ⟨σ14, eσ14, h⟩ := lt_of h
  rw [← eσ14] at hw
  refine lv_goto (tgt := 318) C.1 C.2.1 dX9_next_290 (by decide) ?_
  exact m_vret C hw (Option.some.inj h) dX9_next_318
set_option maxRecDepth 20000 in
theorem w_X9_next_282 {D : va_G} {cy : Nat → ClassId} {ad : Nat → Nat} {p : Program} {l : Launch} {e : Env} {R : Room} {s : State} {m : MethodId} {args : Array Value} {below : List Frame} {meth : Method} {c : Code} (C : Cx 0 D cy ad p R s m args meth c cX9_next 3 RX9 none 1)     {σ : Mem} {H : Heap} {locs : List Loc} {ls : Array Slot} {r : Mem} (hw : Wd 0 D cy ad s σ H locs) (hl : lv_has ls 3 []) (h : j_X9_next_282 σ = some r) : W p l e R s m args below meth c H locs 0 0 (QV 0 D cy ad below args s r) (F0 m 282 ls [.ref (ad (0))]) := by
  unfold j_X9_next_282 at h
  refine lv_iconst (v := (5 : Int32)) C.1 C.2.1 dX9_next_282 (by decide) ?_
  refine lv_goto (tgt := 287) C.1 C.2.1 dX9_next_283 (by decide) ?_
  exact w_X9_next_287 C hw (lv_sub hl [] rfl) h
set_option maxRecDepth 20000 in
theorem w_X9_next_286 {D : va_G} {cy : Nat → ClassId} {ad : Nat → Nat} {p : Program} {l : Launch} {e : Env} {R : Room} {s : State} {m : MethodId} {args : Array Value} {below : List Frame} {meth : Method} {c : Code} (C : Cx 0 D cy ad p R s m args meth c cX9_next 3 RX9 none 1)     {σ : Mem} {H : Heap} {locs : List Loc} {ls : Array Slot} {r : Mem} (hw : Wd 0 D cy ad s σ H locs) (hl : lv_has ls 3 []) (h : j_X9_next_286 σ = some r) : W p l e R s m args below meth c H locs 0 0 (QV 0 D cy ad below args s r) (F0 m 286 ls [.ref (ad (0))]) := by
  unfold j_X9_next_286 at h
  refine lv_iconst (v := (2 : Int32)) C.1 C.2.1 dX9_next_286 (by decide) ?_
  exact w_X9_next_287 C hw (lv_sub hl [] rfl) h
set_option maxRecDepth 20000 in
theorem w_X9_next_108 {D : va_G} {cy : Nat → ClassId} {ad : Nat → Nat} {p : Program} {l : Launch} {e : Env} {R : Room} {s : State} {m : MethodId} {args : Array Value} {below : List Frame} {meth : Method} {c : Code} (C : Cx 0 D cy ad p R s m args meth c cX9_next 3 RX9 none 1)   {z0 : Int32}  {σ : Mem} {H : Heap} {locs : List Loc} {ls : Array Slot} {Q : State → Prop} {P : (Int32 × Mem) → Prop} {r : (Int32 × Mem)} {x : (Int32 × Mem) ⊕ (Int32 × Mem)} (hx : LimQ P r x) (hP : ∀ u, P u → ∀ (H : Heap) (locs : List Loc) (ls : Array Slot), Wd 0 D cy ad s u.2 H locs → lv_has ls 3 [(0, .ref (ad (0))), (2, .int u.1)] → W p l e R s m args below meth c H locs 0 0 Q (F0 m 65 ls [])) (hE0 : ∀ (v2 : Int32) (σ1 : Mem), ((v2, σ1) : (Int32 × Mem)) = r → ∀ (H : Heap) (locs : List Loc) (ls : Array Slot), Wd 0 D cy ad s σ1 H locs → lv_has ls 3 [(0, .ref (ad (0))), (2, .int v2)] → W p l e R s m args below meth c H locs 0 0 Q (F0 m 122 ls [])) (hw : Wd 0 D cy ad s σ H locs) (hl : lv_has ls 3 [(0, .ref (ad (0)))]) (h : j_X9_next_108 z0 σ = some x) : W p l e R s m args below meth c H locs 0 0 Q (F0 m 108 ls [.int z0]) := by
  unfold j_X9_next_108 at h
  refine lv_istore_n (lv' := [(2, .int _), (0, .ref _)]) C.1 C.2.1 dX9_next_108 rfl hl (by decide) rfl (fun ls hl => ?_)
  refine lv_aload_n C.1 C.2.1 dX9_next_109 rfl (lv_at hl 1 rfl) ?_
  refine lv_dup C.1 C.2.1 dX9_next_110 rfl ?_
  refine gf_X9_98 C hw dX9_next_111 ?_
  refine lv_iconst (v := (1 : Int32)) C.1 C.2.1 dX9_next_114 (by decide) ?_
  refine lv_iadd C.1 C.2.1 dX9_next_115 ?_
  refine pf_X9_98 C hw dX9_next_116 (fun H locs hw => ?_)
  obtain ⟨σ16, eσ16, h⟩ := lt_of h
  rw [← eσ16] at hw
  refine lv_goto (tgt := 65) C.1 C.2.1 dX9_next_119 (by decide) ?_
  obtain rfl := Option.some.inj h
  exact hP _ hx _ _ _ hw (lv_sub hl [1, 0] rfl)
set_option maxRecDepth 20000 in
theorem w_X9_next_65 {D : va_G} {cy : Nat → ClassId} {ad : Nat → Nat} {p : Program} {l : Launch} {e : Env} {R : Room} {s : State} {m : MethodId} {args : Array Value} {below : List Frame} {meth : Method} {c : Code} (C : Cx 0 D cy ad p R s m args meth c cX9_next 3 RX9 none 1)   {v2 : Int32} {σ : Mem} {Q : State → Prop} {r : (Int32 × Mem)} (hL : Lim (T := (Int32 × Mem)) (fun s => b_X9_next_65 s.1 s.2) (v2, σ) = some r) (hE0 : ∀ (v2 : Int32) (σ1 : Mem), ((v2, σ1) : (Int32 × Mem)) = r → ∀ (H : Heap) (locs : List Loc) (ls : Array Slot), Wd 0 D cy ad s σ1 H locs → lv_has ls 3 [(0, .ref (ad (0))), (2, .int v2)] → W p l e R s m args below meth c H locs 0 0 Q (F0 m 122 ls [])) (H : Heap) (locs : List Loc) (ls : Array Slot) (hw : Wd 0 D cy ad s σ H locs) (hl : lv_has ls 3 [(0, .ref (ad (0))), (2, .int v2)]) : W p l e R s m args below meth c H locs 0 0 Q (F0 m 65 ls []) := by
  refine Lim_ind hL (P := fun u => ∀ (H : Heap) (locs : List Loc) (ls : Array Slot), Wd 0 D cy ad s u.2 H locs → lv_has ls 3 [(0, .ref (ad (0))), (2, .int u.1)] → W p l e R s m args below meth c H locs 0 0 Q (F0 m 65 ls [])) (fun u x h hx H locs ls hw hl => ?_) H locs ls hw hl
  clear hL
  obtain ⟨v2, σ⟩ := u
  have h : b_X9_next_65 v2 σ = some x := h
  have hw : Wd 0 D cy ad s σ H locs := hw
  have hl : lv_has ls 3 [(0, .ref (ad (0))), (2, .int v2)] := hl
  have hP : ∀ (u : (Int32 × Mem)), (∀ (H : Heap) (locs : List Loc) (ls : Array Slot), Wd 0 D cy ad s u.2 H locs → lv_has ls 3 [(0, .ref (ad (0))), (2, .int u.1)] → W p l e R s m args below meth c H locs 0 0 Q (F0 m 65 ls [])) → ∀ (H : Heap) (locs : List Loc) (ls : Array Slot), Wd 0 D cy ad s u.2 H locs → lv_has ls 3 [(0, .ref (ad (0))), (2, .int u.1)] → W p l e R s m args below meth c H locs 0 0 Q (F0 m 65 ls []) := fun _ k => k
  unfold b_X9_next_65 at h
  refine lv_aload_n C.1 C.2.1 dX9_next_65 rfl (lv_at hl 0 rfl) ?_
  obtain ⟨r15, h1, h⟩ := bS h
  refine go_I hw (run_V (As := []) C hw (c_X9_here C.2.2.2.2.2.2.2.2.2 _ _ h1) mi_X9_here mv_X9_here o0_0 (ci := 9) rfl rfl lk_X9_101 (by decide) (by decide) rfl hl.1 rfl (Nat.le_of_ble_eq_true rfl) dX9_next_66 ⟨Nat.le_refl 0, Nat.le_refl 0⟩) (fun H locs hw => ?_)
  refine lv_bipush (v := (97 : Int32)) C.1 C.2.1 dX9_next_69 (by decide) ?_
  refine lv_bipush (v := (122 : Int32)) C.1 C.2.1 dX9_next_71 (by decide) ?_
  refine go_I hw (run_S (As := [.int _, .int _, .int _]) C hw (c_X9_in C.2.2.2.2.2.2.2.2.2 _ _ _ _) mi_X9_in ms_X9_in lk_X9_88 (by decide) (by decide) rfl hl.1 rfl (Nat.le_of_ble_eq_true rfl) dX9_next_73 ⟨Nat.le_refl 0, Nat.le_refl 0⟩) (fun H locs hw => ?_)
  refine lv_if_eq (tgt := 122) C.1 C.2.1 dX9_next_76 (by decide) (fun cd => ?_) (fun cd => ?_)
  · have h := ite_t cd h
    obtain rfl := Option.some.inj h
    exact hE0 _ _ hx _ _ _ hw (lv_sub hl [0, 1] rfl)
  · have h := ite_f cd h
    refine lv_aload_n C.1 C.2.1 dX9_next_79 rfl (lv_at hl 0 rfl) ?_
    refine gf_X9_98 C hw dX9_next_80 ?_
    refine lv_aload_n C.1 C.2.1 dX9_next_83 rfl (lv_at hl 0 rfl) ?_
    refine gf_X9_105 C hw dX9_next_84 ?_
    refine lv_isub C.1 C.2.1 dX9_next_87 ?_
    refine lv_iconst (v := (4 : Int32)) C.1 C.2.1 dX9_next_88 (by decide) ?_
    refine lv_icmp_ge (tgt := 107) C.1 C.2.1 dX9_next_89 (by decide) (fun cd => ?_) (fun cd => ?_)
    · have h := ite_t cd h
      refine lv_iconst (v := (0 : Int32)) C.1 C.2.1 dX9_next_107 (by decide) ?_
      exact w_X9_next_108 C hx hP hE0 hw (lv_sub hl [0] rfl) h
    · have h := ite_f cd h
      refine lv_bipush (v := (27 : Int32)) C.1 C.2.1 dX9_next_92 (by decide) ?_
      refine lv_iload_n C.1 C.2.1 dX9_next_94 rfl (lv_at hl 1 rfl) ?_
      refine lv_imul C.1 C.2.1 dX9_next_95 ?_
      refine lv_aload_n C.1 C.2.1 dX9_next_96 rfl (lv_at hl 0 rfl) ?_
      obtain ⟨r17, h1, h⟩ := bS h
      refine go_I hw (run_V (As := []) C hw (c_X9_here C.2.2.2.2.2.2.2.2.2 _ _ h1) mi_X9_here mv_X9_here o0_0 (ci := 9) rfl rfl lk_X9_101 (by decide) (by decide) rfl hl.1 rfl (Nat.le_of_ble_eq_true rfl) dX9_next_97 ⟨Nat.le_refl 0, Nat.le_refl 0⟩) (fun H locs hw => ?_)
      refine lv_iadd C.1 C.2.1 dX9_next_100 ?_
      refine lv_bipush (v := (96 : Int32)) C.1 C.2.1 dX9_next_101 (by decide) ?_
      refine lv_isub C.1 C.2.1 dX9_next_103 ?_
      refine lv_goto (tgt := 108) C.1 C.2.1 dX9_next_104 (by decide) ?_
      exact w_X9_next_108 C hx hP hE0 hw (lv_sub hl [0] rfl) h
set_option maxRecDepth 20000 in
theorem w_X9_next_167 {D : va_G} {cy : Nat → ClassId} {ad : Nat → Nat} {p : Program} {l : Launch} {e : Env} {R : Room} {s : State} {m : MethodId} {args : Array Value} {below : List Frame} {meth : Method} {c : Code} (C : Cx 0 D cy ad p R s m args meth c cX9_next 3 RX9 none 1)   {z1 : Int32} {v2 : Int32}  {σ : Mem} {H : Heap} {locs : List Loc} {ls : Array Slot} {r : Mem} (hw : Wd 0 D cy ad s σ H locs) (hl : lv_has ls 3 [(0, .ref (ad (0))), (2, .int v2)]) (h : j_X9_next_167 z1 v2 σ = some r) : W p l e R s m args below meth c H locs 0 0 (QV 0 D cy ad below args s r) (F0 m 167 ls [.int z1, .ref (ad (0))]) := by
  unfold j_X9_next_167 at h
  refine pf_X9_111 C hw dX9_next_167 (fun H locs hw => ?_)
  obtain ⟨σ19, eσ19, h⟩ := lt_of h
  rw [← eσ19] at hw
  refine lv_aload_n C.1 C.2.1 dX9_next_170 rfl (lv_at hl 0 rfl) ?_
  refine lv_iload_n C.1 C.2.1 dX9_next_171 rfl (lv_at hl 1 rfl) ?_
  refine lv_iconst (v := (1 : Int32)) C.1 C.2.1 dX9_next_172 (by decide) ?_
  refine lv_isub C.1 C.2.1 dX9_next_173 ?_
  refine pf_X9_108 C hw dX9_next_174 (fun H locs hw => ?_)
  obtain ⟨σ20, eσ20, h⟩ := lt_of h
  rw [← eσ20] at hw
  refine lv_goto (tgt := 318) C.1 C.2.1 dX9_next_177 (by decide) ?_
  exact m_vret C hw (Option.some.inj h) dX9_next_318
set_option maxRecDepth 20000 in
theorem w_X9_next_140 {D : va_G} {cy : Nat → ClassId} {ad : Nat → Nat} {p : Program} {l : Launch} {e : Env} {R : Room} {s : State} {m : MethodId} {args : Array Value} {below : List Frame} {meth : Method} {c : Code} (C : Cx 0 D cy ad p R s m args meth c cX9_next 3 RX9 none 1)   {z0 : Int32}  {σ : Mem} {H : Heap} {locs : List Loc} {ls : Array Slot} {r : Mem} (hw : Wd 0 D cy ad s σ H locs) (hl : lv_has ls 3 [(0, .ref (ad (0)))]) (h : j_X9_next_140 z0 σ = some r) : W p l e R s m args below meth c H locs 0 0 (QV 0 D cy ad below args s r) (F0 m 140 ls [.int z0]) := by
  unfold j_X9_next_140 at h
  refine lv_istore_n (lv' := [(2, .int _), (0, .ref _)]) C.1 C.2.1 dX9_next_140 rfl hl (by decide) rfl (fun ls hl => ?_)
  refine lv_aload_n C.1 C.2.1 dX9_next_141 rfl (lv_at hl 1 rfl) ?_
  refine lv_iload_n C.1 C.2.1 dX9_next_142 rfl (lv_at hl 0 rfl) ?_
  refine lv_ldc (v := (149125 : Int32)) C.1 C.2.1 C.2.2.2.1 (C.2.2.2.2.1 _ ki_X9_114) dX9_next_143 ?_
  refine lv_icmp_ne (tgt := 152) C.1 C.2.1 dX9_next_145 (by decide) (fun cd => ?_) (fun cd => ?_)
  · have h := ite_f cd h
    refine lv_iload_n C.1 C.2.1 dX9_next_152 rfl (lv_at hl 0 rfl) ?_
    refine lv_iconst (v := (1 : Int32)) C.1 C.2.1 dX9_next_153 (by decide) ?_
    refine lv_bipush (v := (8 : Int32)) C.1 C.2.1 dX9_next_154 (by decide) ?_
    refine go_I hw (run_S (As := [.int _, .int _, .int _]) C hw (c_X9_in C.2.2.2.2.2.2.2.2.2 _ _ _ _) mi_X9_in ms_X9_in lk_X9_88 (by decide) (by decide) rfl hl.1 rfl (Nat.le_of_ble_eq_true rfl) dX9_next_156 ⟨Nat.le_refl 0, Nat.le_refl 0⟩) (fun H locs hw => ?_)
    refine lv_if_eq (tgt := 166) C.1 C.2.1 dX9_next_159 (by decide) (fun cd => ?_) (fun cd => ?_)
    · have h := ite_t cd h
      refine lv_iconst (v := (5 : Int32)) C.1 C.2.1 dX9_next_166 (by decide) ?_
      exact w_X9_next_167 C hw (lv_sub hl [1, 0] rfl) h
    · have h := ite_f cd h
      refine lv_iconst (v := (0 : Int32)) C.1 C.2.1 dX9_next_162 (by decide) ?_
      refine lv_goto (tgt := 167) C.1 C.2.1 dX9_next_163 (by decide) ?_
      exact w_X9_next_167 C hw (lv_sub hl [1, 0] rfl) h
  · have h := ite_t cd h
    refine lv_iconst (v := (1 : Int32)) C.1 C.2.1 dX9_next_148 (by decide) ?_
    refine lv_goto (tgt := 167) C.1 C.2.1 dX9_next_149 (by decide) ?_
    exact w_X9_next_167 C hw (lv_sub hl [1, 0] rfl) h
set_option maxRecDepth 20000 in
theorem c_X9_next {l : Launch} {D : va_G} {cy : Nat → ClassId} {ad : Nat → Nat} (hj : InjW 0 ad)   (σ : Mem) (r : Mem) (h : f_X9_next σ = some r) : CV 0 D cy ad l yX9_next cX9_next 3 none 1 [.ref (ad (0))] σ r := by
  refine CV.mk (by decide) hj (Nat.le_of_ble_eq_true rfl) (fun p e R s m below meth c ls C hw hl => ?_)
  have hl : lv_has ls 3 [(0, .ref (ad (0)))] := hl
  generalize ([.ref (ad (0))] : List Value).toArray = args at C ⊢
  have C : Cx 0 D cy ad p R s m args meth c cX9_next 3 RX9 none 1 := C
  unfold f_X9_next at h
  obtain ⟨r3, hL, h⟩ := bS h
  refine w_X9_next_0 C  hL (fun y0 hr H locs ls hw hl => ?_) _ _ _ hw (lv_sub hl [0] rfl)
  · subst hr
    try dsimp only at h
    try dsimp only at hw
    try dsimp only at hl
    refine lv_aload_n C.1 C.2.1 dX9_next_22 rfl (lv_at hl 0 rfl) ?_
    refine lv_aload_n C.1 C.2.1 dX9_next_23 rfl (lv_at hl 0 rfl) ?_
    refine gf_X9_98 C hw dX9_next_24 ?_
    refine pf_X9_105 C hw dX9_next_27 (fun H locs hw => ?_)
    obtain ⟨σ4, eσ4, h⟩ := lt_of h
    rw [← eσ4] at hw
    refine lv_aload_n C.1 C.2.1 dX9_next_30 rfl (lv_at hl 0 rfl) ?_
    refine lv_iconst (v := (0 : Int32)) C.1 C.2.1 dX9_next_31 (by decide) ?_
    refine pf_X9_108 C hw dX9_next_32 (fun H locs hw => ?_)
    obtain ⟨σ5, eσ5, h⟩ := lt_of h
    rw [← eσ5] at hw
    refine lv_aload_n C.1 C.2.1 dX9_next_35 rfl (lv_at hl 0 rfl) ?_
    obtain ⟨r6, h1, h⟩ := bS h
    refine go_I hw (run_V (As := []) C hw (c_X9_here C.2.2.2.2.2.2.2.2.2 _ _ h1) mi_X9_here mv_X9_here o0_0 (ci := 9) rfl rfl lk_X9_101 (by decide) (by decide) rfl hl.1 rfl (Nat.le_of_ble_eq_true rfl) dX9_next_36 ⟨Nat.le_refl 0, Nat.le_refl 0⟩) (fun H locs hw => ?_)
    refine lv_istore_n (lv' := [(1, .int _), (0, .ref _)]) C.1 C.2.1 dX9_next_39 rfl hl (by decide) rfl (fun ls hl => ?_)
    refine lv_iload_n C.1 C.2.1 dX9_next_40 rfl (lv_at hl 0 rfl) ?_
    refine lv_if_ge (tgt := 52) C.1 C.2.1 dX9_next_41 (by decide) (fun cd => ?_) (fun cd => ?_)
    · have h := ite_t cd h
      refine lv_iload_n C.1 C.2.1 dX9_next_52 rfl (lv_at hl 0 rfl) ?_
      refine lv_bipush (v := (97 : Int32)) C.1 C.2.1 dX9_next_53 (by decide) ?_
      refine lv_bipush (v := (122 : Int32)) C.1 C.2.1 dX9_next_55 (by decide) ?_
      refine go_I hw (run_S (As := [.int _, .int _, .int _]) C hw (c_X9_in C.2.2.2.2.2.2.2.2.2 _ _ _ _) mi_X9_in ms_X9_in lk_X9_88 (by decide) (by decide) rfl hl.1 rfl (Nat.le_of_ble_eq_true rfl) dX9_next_57 ⟨Nat.le_refl 0, Nat.le_refl 0⟩) (fun H locs hw => ?_)
      refine lv_if_eq (tgt := 180) C.1 C.2.1 dX9_next_60 (by decide) (fun cd => ?_) (fun cd => ?_)
      · have h := ite_t cd h
        refine lv_iload_n C.1 C.2.1 dX9_next_180 rfl (lv_at hl 0 rfl) ?_
        refine lv_bipush (v := (48 : Int32)) C.1 C.2.1 dX9_next_181 (by decide) ?_
        refine lv_bipush (v := (57 : Int32)) C.1 C.2.1 dX9_next_183 (by decide) ?_
        refine go_I hw (run_S (As := [.int _, .int _, .int _]) C hw (c_X9_in C.2.2.2.2.2.2.2.2.2 _ _ _ _) mi_X9_in ms_X9_in lk_X9_88 (by decide) (by decide) rfl hl.1 rfl (Nat.le_of_ble_eq_true rfl) dX9_next_185 ⟨Nat.le_refl 0, Nat.le_refl 0⟩) (fun H locs hw => ?_)
        refine lv_if_eq (tgt := 293) C.1 C.2.1 dX9_next_188 (by decide) (fun cd => ?_) (fun cd => ?_)
        · have h := ite_t cd h
          refine lv_aload_n C.1 C.2.1 dX9_next_293 rfl (lv_at hl 1 rfl) ?_
          refine lv_dup C.1 C.2.1 dX9_next_294 rfl ?_
          refine gf_X9_98 C hw dX9_next_295 ?_
          refine lv_iconst (v := (1 : Int32)) C.1 C.2.1 dX9_next_298 (by decide) ?_
          refine lv_iadd C.1 C.2.1 dX9_next_299 ?_
          refine pf_X9_98 C hw dX9_next_300 (fun H locs hw => ?_)
          obtain ⟨σ7, eσ7, h⟩ := lt_of h
          rw [← eσ7] at hw
          refine lv_aload_n C.1 C.2.1 dX9_next_303 rfl (lv_at hl 1 rfl) ?_
          refine lv_iload_n C.1 C.2.1 dX9_next_304 rfl (lv_at hl 0 rfl) ?_
          refine lv_bipush (v := (59 : Int32)) C.1 C.2.1 dX9_next_305 (by decide) ?_
          refine lv_icmp_ne (tgt := 314) C.1 C.2.1 dX9_next_307 (by decide) (fun cd => ?_) (fun cd => ?_)
          · have h := ite_f cd h
            refine lv_iconst (v := (5 : Int32)) C.1 C.2.1 dX9_next_314 (by decide) ?_
            exact w_X9_next_315 C hw (lv_sub hl [] rfl) h
          · have h := ite_t cd h
            refine lv_iconst (v := (3 : Int32)) C.1 C.2.1 dX9_next_310 (by decide) ?_
            refine lv_goto (tgt := 315) C.1 C.2.1 dX9_next_311 (by decide) ?_
            exact w_X9_next_315 C hw (lv_sub hl [] rfl) h
        · have h := ite_f cd h
          obtain ⟨r13, hL, h⟩ := bS h
          refine w_X9_next_191 C  hL (fun y0 y1 hr H locs ls hw hl => ?_) _ _ _ hw (lv_sub hl [1, 0] rfl)
          · subst hr
            try dsimp only at h
            try dsimp only at hw
            try dsimp only at hl
            refine lv_aload_n C.1 C.2.1 dX9_next_253 rfl (lv_at hl 0 rfl) ?_
            refine lv_aload_n C.1 C.2.1 dX9_next_254 rfl (lv_at hl 0 rfl) ?_
            refine gf_X9_108 C hw dX9_next_255 ?_
            refine lv_bipush (v := (99 : Int32)) C.1 C.2.1 dX9_next_258 (by decide) ?_
            refine lv_icmp_gt (tgt := 282) C.1 C.2.1 dX9_next_260 (by decide) (fun cd => ?_) (fun cd => ?_)
            · have h := ite_t cd h
              exact w_X9_next_282 C hw (lv_sub hl [] rfl) h
            · have h := ite_f cd h
              refine lv_iload_n C.1 C.2.1 dX9_next_263 rfl (lv_at hl 1 rfl) ?_
              refine lv_bipush (v := (48 : Int32)) C.1 C.2.1 dX9_next_264 (by decide) ?_
              refine lv_icmp_ne (tgt := 286) C.1 C.2.1 dX9_next_266 (by decide) (fun cd => ?_) (fun cd => ?_)
              · have h := ite_f cd h
                exact w_X9_next_286 C hw (lv_sub hl [] rfl) h
              · have h := ite_t cd h
                refine lv_aload_n C.1 C.2.1 dX9_next_269 rfl (lv_at hl 0 rfl) ?_
                refine gf_X9_98 C hw dX9_next_270 ?_
                refine lv_aload_n C.1 C.2.1 dX9_next_273 rfl (lv_at hl 0 rfl) ?_
                refine gf_X9_105 C hw dX9_next_274 ?_
                refine lv_isub C.1 C.2.1 dX9_next_277 ?_
                refine lv_iconst (v := (1 : Int32)) C.1 C.2.1 dX9_next_278 (by decide) ?_
                refine lv_icmp_le (tgt := 286) C.1 C.2.1 dX9_next_279 (by decide) (fun cd => ?_) (fun cd => ?_)
                · have h := ite_t cd h
                  exact w_X9_next_286 C hw (lv_sub hl [] rfl) h
                · have h := ite_f cd h
                  exact w_X9_next_282 C hw (lv_sub hl [] rfl) h
      · have h := ite_f cd h
        refine lv_iconst (v := (0 : Int32)) C.1 C.2.1 dX9_next_63 (by decide) ?_
        refine lv_istore_n (lv' := [(2, .int _), (1, .int _), (0, .ref _)]) C.1 C.2.1 dX9_next_64 rfl hl (by decide) rfl (fun ls hl => ?_)
        obtain ⟨r18, hL, h⟩ := bS h
        refine w_X9_next_65 C  hL (fun y0 y1 hr H locs ls hw hl => ?_) _ _ _ hw (lv_sub hl [2, 0] rfl)
        · subst hr
          try dsimp only at h
          try dsimp only at hw
          try dsimp only at hl
          refine lv_aload_n C.1 C.2.1 dX9_next_122 rfl (lv_at hl 0 rfl) ?_
          refine gf_X9_98 C hw dX9_next_123 ?_
          refine lv_aload_n C.1 C.2.1 dX9_next_126 rfl (lv_at hl 0 rfl) ?_
          refine gf_X9_105 C hw dX9_next_127 ?_
          refine lv_isub C.1 C.2.1 dX9_next_130 ?_
          refine lv_iconst (v := (4 : Int32)) C.1 C.2.1 dX9_next_131 (by decide) ?_
          refine lv_icmp_le (tgt := 139) C.1 C.2.1 dX9_next_132 (by decide) (fun cd => ?_) (fun cd => ?_)
          · have h := ite_t cd h
            refine lv_iload_n C.1 C.2.1 dX9_next_139 rfl (lv_at hl 1 rfl) ?_
            exact w_X9_next_140 C hw (lv_sub hl [0] rfl) h
          · have h := ite_f cd h
            refine lv_iconst (v := (0 : Int32)) C.1 C.2.1 dX9_next_135 (by decide) ?_
            refine lv_goto (tgt := 140) C.1 C.2.1 dX9_next_136 (by decide) ?_
            exact w_X9_next_140 C hw (lv_sub hl [0] rfl) h
    · have h := ite_f cd h
      refine lv_aload_n C.1 C.2.1 dX9_next_44 rfl (lv_at hl 1 rfl) ?_
      refine lv_iconst (v := (4 : Int32)) C.1 C.2.1 dX9_next_45 (by decide) ?_
      refine pf_X9_111 C hw dX9_next_46 (fun H locs hw => ?_)
      obtain ⟨σ21, eσ21, h⟩ := lt_of h
      rw [← eσ21] at hw
      refine lv_goto (tgt := 318) C.1 C.2.1 dX9_next_49 (by decide) ?_
      exact m_vret C hw (Option.some.inj h) dX9_next_318
noncomputable def f_X9_due (a1 : Int32) (σ : Mem) : Option (Int32 × Mem) :=
  lt (σ.1 0 11) (fun x1 => if (σ.1 0 12) = (-9 : Int32) then (if a1 = 0 then (lt (sI σ 0 12 (σ.1 0 9)) (fun σ2 => some (x1, σ2))) else ((f_X9_next σ).bind (fun r3 => some (x1, r3)))) else (some (x1, σ)))
set_option maxRecDepth 20000 in
theorem c_X9_due {l : Launch} {D : va_G} {cy : Nat → ClassId} {ad : Nat → Nat} (hj : InjW 0 ad) (a1 : Int32)  (σ : Mem) (r : (Int32 × Mem)) (h : f_X9_due a1 σ = some r) : CI 0 D cy ad l yX9_due cX9_due 3 (some .int) 2 [.ref (ad (0)), .int a1] σ r.1 r.2 := by
  refine CI.mk (by decide) hj (Nat.le_of_ble_eq_true rfl) (fun p e R s m below meth c ls C hw hl => ?_)
  have hl : lv_has ls 3 [(0, .ref (ad (0))), (1, .int a1)] := hl
  generalize ([.ref (ad (0)), .int a1] : List Value).toArray = args at C ⊢
  have C : Cx 0 D cy ad p R s m args meth c cX9_due 3 RX9 (some .int) 2 := C
  unfold f_X9_due at h
  refine lv_aload_n C.1 C.2.1 dX9_due_0 rfl (lv_at hl 0 rfl) ?_
  refine gf_X9_108 C hw dX9_due_1 ?_
  obtain ⟨x1, ex1, h⟩ := lt_of h
  refine m_topi ex1 ?_
  refine lv_istore_n (lv' := [(2, .int _), (0, .ref _), (1, .int _)]) C.1 C.2.1 dX9_due_4 rfl hl (by decide) rfl (fun ls hl => ?_)
  refine lv_aload_n C.1 C.2.1 dX9_due_5 rfl (lv_at hl 1 rfl) ?_
  refine gf_X9_115 C hw dX9_due_6 ?_
  refine lv_bipush (v := (-9 : Int32)) C.1 C.2.1 dX9_due_9 (by decide) ?_
  refine lv_icmp_ne (tgt := 33) C.1 C.2.1 dX9_due_11 (by decide) (fun cd => ?_) (fun cd => ?_)
  · have h := ite_f cd h
    refine lv_iload_n C.1 C.2.1 dX9_due_33 rfl (lv_at hl 0 rfl) ?_
    exact m_iret C hw (ret_p h) dX9_due_34
  · have h := ite_t cd h
    refine lv_iload_n C.1 C.2.1 dX9_due_14 rfl (lv_at hl 2 rfl) ?_
    refine lv_if_eq (tgt := 25) C.1 C.2.1 dX9_due_15 (by decide) (fun cd => ?_) (fun cd => ?_)
    · have h := ite_t cd h
      refine lv_aload_n C.1 C.2.1 dX9_due_25 rfl (lv_at hl 1 rfl) ?_
      refine lv_aload_n C.1 C.2.1 dX9_due_26 rfl (lv_at hl 1 rfl) ?_
      refine gf_X9_105 C hw dX9_due_27 ?_
      refine pf_X9_115 C hw dX9_due_30 (fun H locs hw => ?_)
      obtain ⟨σ2, eσ2, h⟩ := lt_of h
      rw [← eσ2] at hw
      refine lv_iload_n C.1 C.2.1 dX9_due_33 rfl (lv_at hl 0 rfl) ?_
      exact m_iret C hw (ret_p h) dX9_due_34
    · have h := ite_f cd h
      refine lv_aload_n C.1 C.2.1 dX9_due_18 rfl (lv_at hl 1 rfl) ?_
      obtain ⟨r3, h1, h⟩ := bS h
      refine go_V hw (run_V (As := []) C hw (c_X9_next C.2.2.2.2.2.2.2.2.2 _ _ h1) mi_X9_next mv_X9_next o0_0 (ci := 9) rfl rfl lk_X9_118 (by decide) (by decide) rfl hl.1 rfl (Nat.le_of_ble_eq_true rfl) dX9_due_19 ⟨Nat.le_refl 0, Nat.le_refl 0⟩) (fun H locs hw => ?_)
      refine lv_goto (tgt := 33) C.1 C.2.1 dX9_due_22 (by decide) ?_
      refine lv_iload_n C.1 C.2.1 dX9_due_33 rfl (lv_at hl 0 rfl) ?_
      exact m_iret C hw (ret_p h) dX9_due_34
noncomputable def j_X9_state_23  (z1 : Int32) (σ : Mem) : Option (Int32 × Mem) :=
  (f_X9_due z1 σ).bind (fun r1 => some (r1.1, r1.2))
noncomputable def j_X9_state_22  (σ : Mem) : Option (Int32 × Mem) :=
  j_X9_state_23 (0 : Int32) σ
noncomputable def f_X9_state  (σ : Mem) : Option (Int32 × Mem) :=
  if (σ.1 0 10) = (2 : Int32) then (if (6 : Int32) ≤ (σ.1 0 11) then (j_X9_state_22 σ) else (j_X9_state_23 (1 : Int32) σ)) else (j_X9_state_22 σ)
set_option maxRecDepth 20000 in
theorem w_X9_state_23 {D : va_G} {cy : Nat → ClassId} {ad : Nat → Nat} {p : Program} {l : Launch} {e : Env} {R : Room} {s : State} {m : MethodId} {args : Array Value} {below : List Frame} {meth : Method} {c : Code} (C : Cx 0 D cy ad p R s m args meth c cX9_state 1 RX9 (some .int) 3)   {z1 : Int32}  {σ : Mem} {H : Heap} {locs : List Loc} {ls : Array Slot} {r : (Int32 × Mem)} (hw : Wd 0 D cy ad s σ H locs) (hl : lv_has ls 1 []) (h : j_X9_state_23 z1 σ = some r) : W p l e R s m args below meth c H locs 0 0 (QI 0 D cy ad below args s r.1 r.2) (F0 m 23 ls [.int z1, .ref (ad (0))]) := by
  unfold j_X9_state_23 at h
  obtain ⟨r1, h1, h⟩ := bS h
  refine go_I hw (run_V (As := [.int _]) C hw (c_X9_due C.2.2.2.2.2.2.2.2.2 _ _ _ h1) mi_X9_due mv_X9_due o0_0 (ci := 9) rfl rfl lk_X9_121 (by decide) (by decide) rfl hl.1 rfl (Nat.le_of_ble_eq_true rfl) dX9_state_23 ⟨Nat.le_refl 0, Nat.le_refl 0⟩) (fun H locs hw => ?_)
  exact m_iret C hw (ret_p h) dX9_state_26
set_option maxRecDepth 20000 in
theorem w_X9_state_22 {D : va_G} {cy : Nat → ClassId} {ad : Nat → Nat} {p : Program} {l : Launch} {e : Env} {R : Room} {s : State} {m : MethodId} {args : Array Value} {below : List Frame} {meth : Method} {c : Code} (C : Cx 0 D cy ad p R s m args meth c cX9_state 1 RX9 (some .int) 3)     {σ : Mem} {H : Heap} {locs : List Loc} {ls : Array Slot} {r : (Int32 × Mem)} (hw : Wd 0 D cy ad s σ H locs) (hl : lv_has ls 1 []) (h : j_X9_state_22 σ = some r) : W p l e R s m args below meth c H locs 0 0 (QI 0 D cy ad below args s r.1 r.2) (F0 m 22 ls [.ref (ad (0))]) := by
  unfold j_X9_state_22 at h
  refine lv_iconst (v := (0 : Int32)) C.1 C.2.1 dX9_state_22 (by decide) ?_
  exact w_X9_state_23 C hw (lv_sub hl [] rfl) h
set_option maxRecDepth 20000 in
theorem c_X9_state {l : Launch} {D : va_G} {cy : Nat → ClassId} {ad : Nat → Nat} (hj : InjW 0 ad)   (σ : Mem) (r : (Int32 × Mem)) (h : f_X9_state σ = some r) : CI 0 D cy ad l yX9_state cX9_state 1 (some .int) 3 [.ref (ad (0))] σ r.1 r.2 := by
  refine CI.mk (by decide) hj (Nat.le_of_ble_eq_true rfl) (fun p e R s m below meth c ls C hw hl => ?_)
  have hl : lv_has ls 1 [(0, .ref (ad (0)))] := hl
  generalize ([.ref (ad (0))] : List Value).toArray = args at C ⊢
  have C : Cx 0 D cy ad p R s m args meth c cX9_state 1 RX9 (some .int) 3 := C
  unfold f_X9_state at h
  refine lv_aload_n C.1 C.2.1 dX9_state_0 rfl (lv_at hl 0 rfl) ?_
  refine lv_aload_n C.1 C.2.1 dX9_state_1 rfl (lv_at hl 0 rfl) ?_
  refine gf_X9_111 C hw dX9_state_2 ?_
  refine lv_iconst (v := (2 : Int32)) C.1 C.2.1 dX9_state_5 (by decide) ?_
  refine lv_icmp_ne (tgt := 22) C.1 C.2.1 dX9_state_6 (by decide) (fun cd => ?_) (fun cd => ?_)
  · have h := ite_f cd h
    exact w_X9_state_22 C hw (lv_sub hl [] rfl) h
  · have h := ite_t cd h
    refine lv_aload_n C.1 C.2.1 dX9_state_9 rfl (lv_at hl 0 rfl) ?_
    refine gf_X9_108 C hw dX9_state_10 ?_
    refine lv_bipush (v := (6 : Int32)) C.1 C.2.1 dX9_state_13 (by decide) ?_
    refine lv_icmp_ge (tgt := 22) C.1 C.2.1 dX9_state_15 (by decide) (fun cd => ?_) (fun cd => ?_)
    · have h := ite_t cd h
      exact w_X9_state_22 C hw (lv_sub hl [] rfl) h
    · have h := ite_f cd h
      refine lv_iconst (v := (1 : Int32)) C.1 C.2.1 dX9_state_18 (by decide) ?_
      refine lv_goto (tgt := 23) C.1 C.2.1 dX9_state_19 (by decide) ?_
      exact w_X9_state_23 C hw (lv_sub hl [] rfl) h
noncomputable def j_X9_readItem_212  (z1 : Int32) (z2 : Int32) (σ : Mem) : Option (Mem ⊕ Mem) :=
  lt (sI σ 0 13 (z1 ||| z2)) (fun σ9 => some (.inl σ9))
noncomputable def b_X9_readItem_169  (σ : Mem) : Option (Mem ⊕ Mem) :=
  if (σ.1 0 12) = (-9 : Int32) then (if (σ.1 0 10) = (2 : Int32) then ((f_X9_state σ).bind (fun r7 => lt r7.1 (fun x8 => if (r7.2.1 0 12) = (-9 : Int32) then (j_X9_readItem_212 (r7.2.1 0 13) ((1 : Int32) <<< (x8 &&& 31)) r7.2) else (j_X9_readItem_212 (r7.2.1 0 13) (0 : Int32) r7.2)))) else (some (.inr σ))) else (some (.inr σ))
noncomputable def j_X9_readItem_233  (z1 : Int32) (σ : Mem) : Option Mem :=
  (f_X9_due z1 σ).bind (fun r11 => some r11.2)
noncomputable def j_X9_readItem_219  (σ : Mem) : Option Mem :=
  if (σ.1 0 10) = (3 : Int32) then (j_X9_readItem_233 (1 : Int32) σ) else (j_X9_readItem_233 (0 : Int32) σ)
noncomputable def j_X9_readItem_165  (z1 : Int32) (z2 : Int32) (σ : Mem) : Option Mem :=
  lt (sI σ 0 13 (z1 ||| z2)) (fun σ6 => (Lim (T := Mem) (fun s => b_X9_readItem_169 s) σ6).bind (fun r10 => j_X9_readItem_219 r10))
noncomputable def j_X9_readItem_115  (z1 : Int32) (z2 : Int32) (v3 : Int32) (σ : Mem) : Option Mem :=
  gd (ix z1 32) (lt (sI σ 5 z1.toNatClampNeg z2) (fun σ15 => (f_X9_state σ15).bind (fun r16 => gd (ix v3 32) (lt (sI r16.2 6 v3.toNatClampNeg r16.1) (fun σ17 => lt (sI σ17 2 (1 : Int32).toNatClampNeg ((σ17.1 2 (1 : Int32).toNatClampNeg) + (1 : Int32))) (fun σ18 => j_X9_readItem_219 σ18))))))
noncomputable def j_X9_readItem_92  (z1 : Int32) (z2 : Int32) (v2 : Int32) (v3 : Int32) (σ : Mem) : Option Mem :=
  gd (ix z1 32) (lt (sI σ 4 z1.toNatClampNeg z2) (fun σ14 => if (f_X9_armsOf v2) ≤ (1 : Int32) then (j_X9_readItem_115 v3 (-9 : Int32) v3 σ14) else ((f_X9_state σ14).bind (fun r19 => j_X9_readItem_115 v3 r19.1 v3 r19.2))))
noncomputable def j_X9_readItem_36  (z1 : Int32) (v1 : Int32) (v2 : Int32) (σ : Mem) : Option Mem :=
  (f_X9_due z1 σ).bind (fun r3 => if (r3.2.1 0 12) = (-9 : Int32) then (if v1 = 0 then (lt ((16 : Int32) + (r3.2.1 2 (1 : Int32).toNatClampNeg)) (fun x12 => gd (ix x12 32) (lt (sI r3.2 3 x12.toNatClampNeg v2) (fun σ13 => if (f_X9_armsOf v2) ≤ 0 then (j_X9_readItem_92 x12 (-9 : Int32) v2 x12 σ13) else ((f_X9_state σ13).bind (fun r20 => j_X9_readItem_92 x12 r20.1 v2 x12 r20.2)))))) else ((f_X9_state r3.2).bind (fun r4 => lt r4.1 (fun x5 => if (r4.2.1 0 12) = (-9 : Int32) then (j_X9_readItem_165 (r4.2.1 0 13) ((1 : Int32) <<< (x5 &&& 31)) r4.2) else (j_X9_readItem_165 (r4.2.1 0 13) (0 : Int32) r4.2))))) else (some r3.2))
noncomputable def j_X9_readItem_31  (v1 : Int32) (v2 : Int32) (σ : Mem) : Option Mem :=
  j_X9_readItem_36 (1 : Int32) v1 v2 σ
noncomputable def j_X9_readItem_35  (v1 : Int32) (v2 : Int32) (σ : Mem) : Option Mem :=
  j_X9_readItem_36 (0 : Int32) v1 v2 σ
noncomputable def f_X9_readItem  (σ : Mem) : Option Mem :=
  lt (σ.1 0 10) (fun x1 => lt (σ.1 0 11) (fun x2 => if x1 = (1 : Int32) then (j_X9_readItem_31 x1 x2 σ) else (if x1 = 0 then (if (16 : Int32) ≤ (σ.1 2 (1 : Int32).toNatClampNeg) then (j_X9_readItem_35 x1 x2 σ) else (j_X9_readItem_31 x1 x2 σ)) else (j_X9_readItem_35 x1 x2 σ))))
set_option maxRecDepth 20000 in
theorem w_X9_readItem_212 {D : va_G} {cy : Nat → ClassId} {ad : Nat → Nat} {p : Program} {l : Launch} {e : Env} {R : Room} {s : State} {m : MethodId} {args : Array Value} {below : List Frame} {meth : Method} {c : Code} (C : Cx 0 D cy ad p R s m args meth c cX9_readItem 4 RX9 none 4)   {z1 : Int32} {z2 : Int32}  {σ : Mem} {H : Heap} {locs : List Loc} {ls : Array Slot} {Q : State → Prop} {P : Mem → Prop} {r : Mem} {x : Mem ⊕ Mem} (hx : LimQ P r x) (hP : ∀ u, P u → ∀ (H : Heap) (locs : List Loc) (ls : Array Slot), Wd 0 D cy ad s u H locs → lv_has ls 4 [(0, .ref (ad (0)))] → W p l e R s m args below meth c H locs 0 0 Q (F0 m 169 ls [])) (hE0 : ∀ (σ1 : Mem), (σ1 : Mem) = r → ∀ (H : Heap) (locs : List Loc) (ls : Array Slot), Wd 0 D cy ad s σ1 H locs → lv_has ls 4 [(0, .ref (ad (0)))] → W p l e R s m args below meth c H locs 0 0 Q (F0 m 219 ls [])) (hw : Wd 0 D cy ad s σ H locs) (hl : lv_has ls 4 [(0, .ref (ad (0)))]) (h : j_X9_readItem_212 z1 z2 σ = some x) : W p l e R s m args below meth c H locs 0 0 Q (F0 m 212 ls [.int z2, .int z1, .ref (ad (0))]) := by
  unfold j_X9_readItem_212 at h
  refine lv_ior C.1 C.2.1 dX9_readItem_212 ?_
  refine pf_X9_132 C hw dX9_readItem_213 (fun H locs hw => ?_)
  obtain ⟨σ9, eσ9, h⟩ := lt_of h
  rw [← eσ9] at hw
  refine lv_goto (tgt := 169) C.1 C.2.1 dX9_readItem_216 (by decide) ?_
  obtain rfl := Option.some.inj h
  exact hP _ hx _ _ _ hw (lv_sub hl [0] rfl)
set_option maxRecDepth 20000 in
theorem w_X9_readItem_169 {D : va_G} {cy : Nat → ClassId} {ad : Nat → Nat} {p : Program} {l : Launch} {e : Env} {R : Room} {s : State} {m : MethodId} {args : Array Value} {below : List Frame} {meth : Method} {c : Code} (C : Cx 0 D cy ad p R s m args meth c cX9_readItem 4 RX9 none 4)    {σ : Mem} {Q : State → Prop} {r : Mem} (hL : Lim (T := Mem) (fun s => b_X9_readItem_169 s) σ = some r) (hE0 : ∀ (σ1 : Mem), (σ1 : Mem) = r → ∀ (H : Heap) (locs : List Loc) (ls : Array Slot), Wd 0 D cy ad s σ1 H locs → lv_has ls 4 [(0, .ref (ad (0)))] → W p l e R s m args below meth c H locs 0 0 Q (F0 m 219 ls [])) (H : Heap) (locs : List Loc) (ls : Array Slot) (hw : Wd 0 D cy ad s σ H locs) (hl : lv_has ls 4 [(0, .ref (ad (0)))]) : W p l e R s m args below meth c H locs 0 0 Q (F0 m 169 ls []) := by
  refine Lim_ind hL (P := fun u => ∀ (H : Heap) (locs : List Loc) (ls : Array Slot), Wd 0 D cy ad s u H locs → lv_has ls 4 [(0, .ref (ad (0)))] → W p l e R s m args below meth c H locs 0 0 Q (F0 m 169 ls [])) (fun u x h hx H locs ls hw hl => ?_) H locs ls hw hl
  clear hL
  obtain ⟨σ, rfl⟩ : ∃ z, z = u := ⟨u, rfl⟩
  have h : b_X9_readItem_169 σ = some x := h
  have hw : Wd 0 D cy ad s σ H locs := hw
  have hl : lv_has ls 4 [(0, .ref (ad (0)))] := hl
  have hP : ∀ (u : Mem), (∀ (H : Heap) (locs : List Loc) (ls : Array Slot), Wd 0 D cy ad s u H locs → lv_has ls 4 [(0, .ref (ad (0)))] → W p l e R s m args below meth c H locs 0 0 Q (F0 m 169 ls [])) → ∀ (H : Heap) (locs : List Loc) (ls : Array Slot), Wd 0 D cy ad s u H locs → lv_has ls 4 [(0, .ref (ad (0)))] → W p l e R s m args below meth c H locs 0 0 Q (F0 m 169 ls []) := fun _ k => k
  unfold b_X9_readItem_169 at h
  refine lv_aload_n C.1 C.2.1 dX9_readItem_169 rfl (lv_at hl 0 rfl) ?_
  refine gf_X9_115 C hw dX9_readItem_170 ?_
  refine lv_bipush (v := (-9 : Int32)) C.1 C.2.1 dX9_readItem_173 (by decide) ?_
  refine lv_icmp_ne (tgt := 219) C.1 C.2.1 dX9_readItem_175 (by decide) (fun cd => ?_) (fun cd => ?_)
  · have h := ite_f cd h
    obtain rfl := Option.some.inj h
    exact hE0 _ hx _ _ _ hw (lv_sub hl [0] rfl)
  · have h := ite_t cd h
    refine lv_aload_n C.1 C.2.1 dX9_readItem_178 rfl (lv_at hl 0 rfl) ?_
    refine gf_X9_111 C hw dX9_readItem_179 ?_
    refine lv_iconst (v := (2 : Int32)) C.1 C.2.1 dX9_readItem_182 (by decide) ?_
    refine lv_icmp_ne (tgt := 219) C.1 C.2.1 dX9_readItem_183 (by decide) (fun cd => ?_) (fun cd => ?_)
    · have h := ite_f cd h
      obtain rfl := Option.some.inj h
      exact hE0 _ hx _ _ _ hw (lv_sub hl [0] rfl)
    · have h := ite_t cd h
      refine lv_aload_n C.1 C.2.1 dX9_readItem_186 rfl (lv_at hl 0 rfl) ?_
      obtain ⟨r7, h1, h⟩ := bS h
      refine go_I hw (run_V (As := []) C hw (c_X9_state C.2.2.2.2.2.2.2.2.2 _ _ h1) mi_X9_state mv_X9_state o0_0 (ci := 9) rfl rfl lk_X9_129 (by decide) (by decide) rfl hl.1 rfl (Nat.le_of_ble_eq_true rfl) dX9_readItem_187 ⟨Nat.le_refl 0, Nat.le_refl 0⟩) (fun H locs hw => ?_)
      obtain ⟨x8, ex8, h⟩ := lt_of h
      refine m_topi ex8 ?_
      refine lv_istore_n (lv' := [(3, .int _), (0, .ref _)]) C.1 C.2.1 dX9_readItem_190 rfl hl (by decide) rfl (fun ls hl => ?_)
      refine lv_aload_n C.1 C.2.1 dX9_readItem_191 rfl (lv_at hl 1 rfl) ?_
      refine lv_dup C.1 C.2.1 dX9_readItem_192 rfl ?_
      refine gf_X9_132 C hw dX9_readItem_193 ?_
      refine lv_aload_n C.1 C.2.1 dX9_readItem_196 rfl (lv_at hl 1 rfl) ?_
      refine gf_X9_115 C hw dX9_readItem_197 ?_
      refine lv_bipush (v := (-9 : Int32)) C.1 C.2.1 dX9_readItem_200 (by decide) ?_
      refine lv_icmp_ne (tgt := 211) C.1 C.2.1 dX9_readItem_202 (by decide) (fun cd => ?_) (fun cd => ?_)
      · have h := ite_f cd h
        refine lv_iconst (v := (0 : Int32)) C.1 C.2.1 dX9_readItem_211 (by decide) ?_
        exact w_X9_readItem_212 C hx hP hE0 hw (lv_sub hl [1] rfl) h
      · have h := ite_t cd h
        refine lv_iconst (v := (1 : Int32)) C.1 C.2.1 dX9_readItem_205 (by decide) ?_
        refine lv_iload_n C.1 C.2.1 dX9_readItem_206 rfl (lv_at hl 0 rfl) ?_
        refine lv_ishl C.1 C.2.1 dX9_readItem_207 ?_
        refine lv_goto (tgt := 212) C.1 C.2.1 dX9_readItem_208 (by decide) ?_
        exact w_X9_readItem_212 C hx hP hE0 hw (lv_sub hl [1] rfl) h
set_option maxRecDepth 20000 in
theorem w_X9_readItem_233 {D : va_G} {cy : Nat → ClassId} {ad : Nat → Nat} {p : Program} {l : Launch} {e : Env} {R : Room} {s : State} {m : MethodId} {args : Array Value} {below : List Frame} {meth : Method} {c : Code} (C : Cx 0 D cy ad p R s m args meth c cX9_readItem 4 RX9 none 4)   {z1 : Int32}  {σ : Mem} {H : Heap} {locs : List Loc} {ls : Array Slot} {r : Mem} (hw : Wd 0 D cy ad s σ H locs) (hl : lv_has ls 4 []) (h : j_X9_readItem_233 z1 σ = some r) : W p l e R s m args below meth c H locs 0 0 (QV 0 D cy ad below args s r) (F0 m 233 ls [.int z1, .ref (ad (0))]) := by
  unfold j_X9_readItem_233 at h
  obtain ⟨r11, h1, h⟩ := bS h
  refine go_I hw (run_V (As := [.int _]) C hw (c_X9_due C.2.2.2.2.2.2.2.2.2 _ _ _ h1) mi_X9_due mv_X9_due o0_0 (ci := 9) rfl rfl lk_X9_121 (by decide) (by decide) rfl hl.1 rfl (Nat.le_of_ble_eq_true rfl) dX9_readItem_233 ⟨Nat.le_refl 0, Nat.le_refl 0⟩) (fun H locs hw => ?_)
  refine lv_pop C.1 C.2.1 dX9_readItem_236 rfl ?_
  exact m_vret C hw (Option.some.inj h) dX9_readItem_237
set_option maxRecDepth 20000 in
theorem w_X9_readItem_219 {D : va_G} {cy : Nat → ClassId} {ad : Nat → Nat} {p : Program} {l : Launch} {e : Env} {R : Room} {s : State} {m : MethodId} {args : Array Value} {below : List Frame} {meth : Method} {c : Code} (C : Cx 0 D cy ad p R s m args meth c cX9_readItem 4 RX9 none 4)     {σ : Mem} {H : Heap} {locs : List Loc} {ls : Array Slot} {r : Mem} (hw : Wd 0 D cy ad s σ H locs) (hl : lv_has ls 4 [(0, .ref (ad (0)))]) (h : j_X9_readItem_219 σ = some r) : W p l e R s m args below meth c H locs 0 0 (QV 0 D cy ad below args s r) (F0 m 219 ls []) := by
  unfold j_X9_readItem_219 at h
  refine lv_aload_n C.1 C.2.1 dX9_readItem_219 rfl (lv_at hl 0 rfl) ?_
  refine lv_aload_n C.1 C.2.1 dX9_readItem_220 rfl (lv_at hl 0 rfl) ?_
  refine gf_X9_111 C hw dX9_readItem_221 ?_
  refine lv_iconst (v := (3 : Int32)) C.1 C.2.1 dX9_readItem_224 (by decide) ?_
  refine lv_icmp_ne (tgt := 232) C.1 C.2.1 dX9_readItem_225 (by decide) (fun cd => ?_) (fun cd => ?_)
  · have h := ite_f cd h
    refine lv_iconst (v := (0 : Int32)) C.1 C.2.1 dX9_readItem_232 (by decide) ?_
    exact w_X9_readItem_233 C hw (lv_sub hl [] rfl) h
  · have h := ite_t cd h
    refine lv_iconst (v := (1 : Int32)) C.1 C.2.1 dX9_readItem_228 (by decide) ?_
    refine lv_goto (tgt := 233) C.1 C.2.1 dX9_readItem_229 (by decide) ?_
    exact w_X9_readItem_233 C hw (lv_sub hl [] rfl) h
set_option maxRecDepth 20000 in
theorem w_X9_readItem_165 {D : va_G} {cy : Nat → ClassId} {ad : Nat → Nat} {p : Program} {l : Launch} {e : Env} {R : Room} {s : State} {m : MethodId} {args : Array Value} {below : List Frame} {meth : Method} {c : Code} (C : Cx 0 D cy ad p R s m args meth c cX9_readItem 4 RX9 none 4)   {z1 : Int32} {z2 : Int32}  {σ : Mem} {H : Heap} {locs : List Loc} {ls : Array Slot} {r : Mem} (hw : Wd 0 D cy ad s σ H locs) (hl : lv_has ls 4 [(0, .ref (ad (0)))]) (h : j_X9_readItem_165 z1 z2 σ = some r) : W p l e R s m args below meth c H locs 0 0 (QV 0 D cy ad below args s r) (F0 m 165 ls [.int z2, .int z1, .ref (ad (0))]) := by
  unfold j_X9_readItem_165 at h
  refine lv_ior C.1 C.2.1 dX9_readItem_165 ?_
  refine pf_X9_132 C hw dX9_readItem_166 (fun H locs hw => ?_)
  obtain ⟨σ6, eσ6, h⟩ := lt_of h
  rw [← eσ6] at hw
  obtain ⟨r10, hL, h⟩ := bS h
  refine w_X9_readItem_169 C  hL (fun y0 hr H locs ls hw hl => ?_) _ _ _ hw (lv_sub hl [0] rfl)
  · subst hr
    try dsimp only at h
    try dsimp only at hw
    try dsimp only at hl
    exact w_X9_readItem_219 C hw (lv_sub hl [0] rfl) h
set_option maxRecDepth 20000 in
theorem w_X9_readItem_115 {D : va_G} {cy : Nat → ClassId} {ad : Nat → Nat} {p : Program} {l : Launch} {e : Env} {R : Room} {s : State} {m : MethodId} {args : Array Value} {below : List Frame} {meth : Method} {c : Code} (C : Cx 0 D cy ad p R s m args meth c cX9_readItem 4 RX9 none 4)   {z1 : Int32} {z2 : Int32} {v3 : Int32}  {σ : Mem} {H : Heap} {locs : List Loc} {ls : Array Slot} {r : Mem} (hw : Wd 0 D cy ad s σ H locs) (hl : lv_has ls 4 [(0, .ref (ad (0))), (3, .int v3)]) (h : j_X9_readItem_115 z1 z2 v3 σ = some r) : W p l e R s m args below meth c H locs 0 0 (QV 0 D cy ad below args s r) (F0 m 115 ls [.int z2, .int z1, .ref (ad (5))]) := by
  unfold j_X9_readItem_115 at h
  obtain ⟨hin, h⟩ := gd_of h
  refine m_iast C hw a0_5 hin dX9_readItem_115 (fun H locs hw => ?_)
  obtain ⟨σ15, eσ15, h⟩ := lt_of h
  rw [← eσ15] at hw
  refine lv_aload_n C.1 C.2.1 dX9_readItem_116 rfl (lv_at hl 0 rfl) ?_
  refine gf_X9_26 C hw dX9_readItem_117 ?_
  refine lv_iload_n C.1 C.2.1 dX9_readItem_120 rfl (lv_at hl 1 rfl) ?_
  refine lv_aload_n C.1 C.2.1 dX9_readItem_121 rfl (lv_at hl 0 rfl) ?_
  obtain ⟨r16, h1, h⟩ := bS h
  refine go_I hw (run_V (As := []) C hw (c_X9_state C.2.2.2.2.2.2.2.2.2 _ _ h1) mi_X9_state mv_X9_state o0_0 (ci := 9) rfl rfl lk_X9_129 (by decide) (by decide) rfl hl.1 rfl (Nat.le_of_ble_eq_true rfl) dX9_readItem_122 ⟨Nat.le_refl 0, Nat.le_refl 0⟩) (fun H locs hw => ?_)
  obtain ⟨hin, h⟩ := gd_of h
  refine m_iast C hw a0_6 hin dX9_readItem_125 (fun H locs hw => ?_)
  obtain ⟨σ17, eσ17, h⟩ := lt_of h
  rw [← eσ17] at hw
  refine lv_aload_n C.1 C.2.1 dX9_readItem_126 rfl (lv_at hl 0 rfl) ?_
  refine gf_X9_13 C hw dX9_readItem_127 ?_
  refine lv_iconst (v := (1 : Int32)) C.1 C.2.1 dX9_readItem_130 (by decide) ?_
  refine lv_dup2_11 C.1 C.2.1 dX9_readItem_131 rfl rfl ?_
  have hin : vp_in (1 : Int32) 2 := (by decide : ix (1 : Int32) 2)
  refine m_iald C hw a0_2 hin dX9_readItem_132 ?_
  refine lv_iconst (v := (1 : Int32)) C.1 C.2.1 dX9_readItem_133 (by decide) ?_
  refine lv_iadd C.1 C.2.1 dX9_readItem_134 ?_
  have hin : vp_in (1 : Int32) 2 := (by decide : ix (1 : Int32) 2)
  refine m_iast C hw a0_2 hin dX9_readItem_135 (fun H locs hw => ?_)
  obtain ⟨σ18, eσ18, h⟩ := lt_of h
  rw [← eσ18] at hw
  refine lv_goto (tgt := 219) C.1 C.2.1 dX9_readItem_136 (by decide) ?_
  exact w_X9_readItem_219 C hw (lv_sub hl [0] rfl) h
set_option maxRecDepth 20000 in
theorem w_X9_readItem_92 {D : va_G} {cy : Nat → ClassId} {ad : Nat → Nat} {p : Program} {l : Launch} {e : Env} {R : Room} {s : State} {m : MethodId} {args : Array Value} {below : List Frame} {meth : Method} {c : Code} (C : Cx 0 D cy ad p R s m args meth c cX9_readItem 4 RX9 none 4)   {z1 : Int32} {z2 : Int32} {v2 : Int32} {v3 : Int32}  {σ : Mem} {H : Heap} {locs : List Loc} {ls : Array Slot} {r : Mem} (hw : Wd 0 D cy ad s σ H locs) (hl : lv_has ls 4 [(0, .ref (ad (0))), (2, .int v2), (3, .int v3)]) (h : j_X9_readItem_92 z1 z2 v2 v3 σ = some r) : W p l e R s m args below meth c H locs 0 0 (QV 0 D cy ad below args s r) (F0 m 92 ls [.int z2, .int z1, .ref (ad (4))]) := by
  unfold j_X9_readItem_92 at h
  obtain ⟨hin, h⟩ := gd_of h
  refine m_iast C hw a0_4 hin dX9_readItem_92 (fun H locs hw => ?_)
  obtain ⟨σ14, eσ14, h⟩ := lt_of h
  rw [← eσ14] at hw
  refine lv_aload_n C.1 C.2.1 dX9_readItem_93 rfl (lv_at hl 0 rfl) ?_
  refine gf_X9_23 C hw dX9_readItem_94 ?_
  refine lv_iload_n C.1 C.2.1 dX9_readItem_97 rfl (lv_at hl 2 rfl) ?_
  refine lv_iload_n C.1 C.2.1 dX9_readItem_98 rfl (lv_at hl 1 rfl) ?_
  refine go_I hw (run_S (As := [.int _]) C hw (c_X9_armsOf C.2.2.2.2.2.2.2.2.2 _ _) mi_X9_armsOf ms_X9_armsOf lk_X9_125 (by decide) (by decide) rfl hl.1 rfl (Nat.le_of_ble_eq_true rfl) dX9_readItem_99 ⟨Nat.le_refl 0, Nat.le_refl 0⟩) (fun H locs hw => ?_)
  refine lv_iconst (v := (1 : Int32)) C.1 C.2.1 dX9_readItem_102 (by decide) ?_
  refine lv_icmp_le (tgt := 113) C.1 C.2.1 dX9_readItem_103 (by decide) (fun cd => ?_) (fun cd => ?_)
  · have h := ite_t cd h
    refine lv_bipush (v := (-9 : Int32)) C.1 C.2.1 dX9_readItem_113 (by decide) ?_
    exact w_X9_readItem_115 C hw (lv_sub hl [0, 2] rfl) h
  · have h := ite_f cd h
    refine lv_aload_n C.1 C.2.1 dX9_readItem_106 rfl (lv_at hl 0 rfl) ?_
    obtain ⟨r19, h1, h⟩ := bS h
    refine go_I hw (run_V (As := []) C hw (c_X9_state C.2.2.2.2.2.2.2.2.2 _ _ h1) mi_X9_state mv_X9_state o0_0 (ci := 9) rfl rfl lk_X9_129 (by decide) (by decide) rfl hl.1 rfl (Nat.le_of_ble_eq_true rfl) dX9_readItem_107 ⟨Nat.le_refl 0, Nat.le_refl 0⟩) (fun H locs hw => ?_)
    refine lv_goto (tgt := 115) C.1 C.2.1 dX9_readItem_110 (by decide) ?_
    exact w_X9_readItem_115 C hw (lv_sub hl [0, 2] rfl) h
set_option maxRecDepth 20000 in
theorem w_X9_readItem_36 {D : va_G} {cy : Nat → ClassId} {ad : Nat → Nat} {p : Program} {l : Launch} {e : Env} {R : Room} {s : State} {m : MethodId} {args : Array Value} {below : List Frame} {meth : Method} {c : Code} (C : Cx 0 D cy ad p R s m args meth c cX9_readItem 4 RX9 none 4)   {z1 : Int32} {v1 : Int32} {v2 : Int32}  {σ : Mem} {H : Heap} {locs : List Loc} {ls : Array Slot} {r : Mem} (hw : Wd 0 D cy ad s σ H locs) (hl : lv_has ls 4 [(0, .ref (ad (0))), (1, .int v1), (2, .int v2)]) (h : j_X9_readItem_36 z1 v1 v2 σ = some r) : W p l e R s m args below meth c H locs 0 0 (QV 0 D cy ad below args s r) (F0 m 36 ls [.int z1, .ref (ad (0))]) := by
  unfold j_X9_readItem_36 at h
  obtain ⟨r3, h1, h⟩ := bS h
  refine go_I hw (run_V (As := [.int _]) C hw (c_X9_due C.2.2.2.2.2.2.2.2.2 _ _ _ h1) mi_X9_due mv_X9_due o0_0 (ci := 9) rfl rfl lk_X9_121 (by decide) (by decide) rfl hl.1 rfl (Nat.le_of_ble_eq_true rfl) dX9_readItem_36 ⟨Nat.le_refl 0, Nat.le_refl 0⟩) (fun H locs hw => ?_)
  refine lv_pop C.1 C.2.1 dX9_readItem_39 rfl ?_
  refine lv_aload_n C.1 C.2.1 dX9_readItem_40 rfl (lv_at hl 0 rfl) ?_
  refine gf_X9_115 C hw dX9_readItem_41 ?_
  refine lv_bipush (v := (-9 : Int32)) C.1 C.2.1 dX9_readItem_44 (by decide) ?_
  refine lv_icmp_eq (tgt := 50) C.1 C.2.1 dX9_readItem_46 (by decide) (fun cd => ?_) (fun cd => ?_)
  · have h := ite_t cd h
    refine lv_iload_n C.1 C.2.1 dX9_readItem_50 rfl (lv_at hl 1 rfl) ?_
    refine lv_if_ne (tgt := 139) C.1 C.2.1 dX9_readItem_51 (by decide) (fun cd => ?_) (fun cd => ?_)
    · have h := ite_f cd h
      refine lv_aload_n C.1 C.2.1 dX9_readItem_139 rfl (lv_at hl 0 rfl) ?_
      obtain ⟨r4, h1, h⟩ := bS h
      refine go_I hw (run_V (As := []) C hw (c_X9_state C.2.2.2.2.2.2.2.2.2 _ _ h1) mi_X9_state mv_X9_state o0_0 (ci := 9) rfl rfl lk_X9_129 (by decide) (by decide) rfl hl.1 rfl (Nat.le_of_ble_eq_true rfl) dX9_readItem_140 ⟨Nat.le_refl 0, Nat.le_refl 0⟩) (fun H locs hw => ?_)
      obtain ⟨x5, ex5, h⟩ := lt_of h
      refine m_topi ex5 ?_
      refine lv_istore_n (lv' := [(3, .int _), (0, .ref _), (1, .int _), (2, .int _)]) C.1 C.2.1 dX9_readItem_143 rfl hl (by decide) rfl (fun ls hl => ?_)
      refine lv_aload_n C.1 C.2.1 dX9_readItem_144 rfl (lv_at hl 1 rfl) ?_
      refine lv_dup C.1 C.2.1 dX9_readItem_145 rfl ?_
      refine gf_X9_132 C hw dX9_readItem_146 ?_
      refine lv_aload_n C.1 C.2.1 dX9_readItem_149 rfl (lv_at hl 1 rfl) ?_
      refine gf_X9_115 C hw dX9_readItem_150 ?_
      refine lv_bipush (v := (-9 : Int32)) C.1 C.2.1 dX9_readItem_153 (by decide) ?_
      refine lv_icmp_ne (tgt := 164) C.1 C.2.1 dX9_readItem_155 (by decide) (fun cd => ?_) (fun cd => ?_)
      · have h := ite_f cd h
        refine lv_iconst (v := (0 : Int32)) C.1 C.2.1 dX9_readItem_164 (by decide) ?_
        exact w_X9_readItem_165 C hw (lv_sub hl [1] rfl) h
      · have h := ite_t cd h
        refine lv_iconst (v := (1 : Int32)) C.1 C.2.1 dX9_readItem_158 (by decide) ?_
        refine lv_iload_n C.1 C.2.1 dX9_readItem_159 rfl (lv_at hl 0 rfl) ?_
        refine lv_ishl C.1 C.2.1 dX9_readItem_160 ?_
        refine lv_goto (tgt := 165) C.1 C.2.1 dX9_readItem_161 (by decide) ?_
        exact w_X9_readItem_165 C hw (lv_sub hl [1] rfl) h
    · have h := ite_t cd h
      refine lv_bipush (v := (16 : Int32)) C.1 C.2.1 dX9_readItem_54 (by decide) ?_
      refine lv_aload_n C.1 C.2.1 dX9_readItem_56 rfl (lv_at hl 0 rfl) ?_
      refine gf_X9_13 C hw dX9_readItem_57 ?_
      refine lv_iconst (v := (1 : Int32)) C.1 C.2.1 dX9_readItem_60 (by decide) ?_
      have hin : vp_in (1 : Int32) 2 := (by decide : ix (1 : Int32) 2)
      refine m_iald C hw a0_2 hin dX9_readItem_61 ?_
      refine lv_iadd C.1 C.2.1 dX9_readItem_62 ?_
      obtain ⟨x12, ex12, h⟩ := lt_of h
      refine m_topi ex12 ?_
      refine lv_istore_n (lv' := [(3, .int _), (0, .ref _), (1, .int _), (2, .int _)]) C.1 C.2.1 dX9_readItem_63 rfl hl (by decide) rfl (fun ls hl => ?_)
      refine lv_aload_n C.1 C.2.1 dX9_readItem_64 rfl (lv_at hl 1 rfl) ?_
      refine gf_X9_17 C hw dX9_readItem_65 ?_
      refine lv_iload_n C.1 C.2.1 dX9_readItem_68 rfl (lv_at hl 0 rfl) ?_
      refine lv_iload_n C.1 C.2.1 dX9_readItem_69 rfl (lv_at hl 3 rfl) ?_
      obtain ⟨hin, h⟩ := gd_of h
      refine m_iast C hw a0_3 hin dX9_readItem_70 (fun H locs hw => ?_)
      obtain ⟨σ13, eσ13, h⟩ := lt_of h
      rw [← eσ13] at hw
      refine lv_aload_n C.1 C.2.1 dX9_readItem_71 rfl (lv_at hl 1 rfl) ?_
      refine gf_X9_20 C hw dX9_readItem_72 ?_
      refine lv_iload_n C.1 C.2.1 dX9_readItem_75 rfl (lv_at hl 0 rfl) ?_
      refine lv_iload_n C.1 C.2.1 dX9_readItem_76 rfl (lv_at hl 3 rfl) ?_
      refine go_I hw (run_S (As := [.int _]) C hw (c_X9_armsOf C.2.2.2.2.2.2.2.2.2 _ _) mi_X9_armsOf ms_X9_armsOf lk_X9_125 (by decide) (by decide) rfl hl.1 rfl (Nat.le_of_ble_eq_true rfl) dX9_readItem_77 ⟨Nat.le_refl 0, Nat.le_refl 0⟩) (fun H locs hw => ?_)
      refine lv_if_le (tgt := 90) C.1 C.2.1 dX9_readItem_80 (by decide) (fun cd => ?_) (fun cd => ?_)
      · have h := ite_t cd h
        refine lv_bipush (v := (-9 : Int32)) C.1 C.2.1 dX9_readItem_90 (by decide) ?_
        exact w_X9_readItem_92 C hw (lv_sub hl [1, 3, 0] rfl) h
      · have h := ite_f cd h
        refine lv_aload_n C.1 C.2.1 dX9_readItem_83 rfl (lv_at hl 1 rfl) ?_
        obtain ⟨r20, h1, h⟩ := bS h
        refine go_I hw (run_V (As := []) C hw (c_X9_state C.2.2.2.2.2.2.2.2.2 _ _ h1) mi_X9_state mv_X9_state o0_0 (ci := 9) rfl rfl lk_X9_129 (by decide) (by decide) rfl hl.1 rfl (Nat.le_of_ble_eq_true rfl) dX9_readItem_84 ⟨Nat.le_refl 0, Nat.le_refl 0⟩) (fun H locs hw => ?_)
        refine lv_goto (tgt := 92) C.1 C.2.1 dX9_readItem_87 (by decide) ?_
        exact w_X9_readItem_92 C hw (lv_sub hl [1, 3, 0] rfl) h
  · have h := ite_f cd h
    exact m_vret C hw (Option.some.inj h) dX9_readItem_49
set_option maxRecDepth 20000 in
theorem w_X9_readItem_31 {D : va_G} {cy : Nat → ClassId} {ad : Nat → Nat} {p : Program} {l : Launch} {e : Env} {R : Room} {s : State} {m : MethodId} {args : Array Value} {below : List Frame} {meth : Method} {c : Code} (C : Cx 0 D cy ad p R s m args meth c cX9_readItem 4 RX9 none 4)   {v1 : Int32} {v2 : Int32}  {σ : Mem} {H : Heap} {locs : List Loc} {ls : Array Slot} {r : Mem} (hw : Wd 0 D cy ad s σ H locs) (hl : lv_has ls 4 [(0, .ref (ad (0))), (1, .int v1), (2, .int v2)]) (h : j_X9_readItem_31 v1 v2 σ = some r) : W p l e R s m args below meth c H locs 0 0 (QV 0 D cy ad below args s r) (F0 m 31 ls [.ref (ad (0))]) := by
  unfold j_X9_readItem_31 at h
  refine lv_iconst (v := (1 : Int32)) C.1 C.2.1 dX9_readItem_31 (by decide) ?_
  refine lv_goto (tgt := 36) C.1 C.2.1 dX9_readItem_32 (by decide) ?_
  exact w_X9_readItem_36 C hw (lv_sub hl [0, 1, 2] rfl) h
set_option maxRecDepth 20000 in
theorem w_X9_readItem_35 {D : va_G} {cy : Nat → ClassId} {ad : Nat → Nat} {p : Program} {l : Launch} {e : Env} {R : Room} {s : State} {m : MethodId} {args : Array Value} {below : List Frame} {meth : Method} {c : Code} (C : Cx 0 D cy ad p R s m args meth c cX9_readItem 4 RX9 none 4)   {v1 : Int32} {v2 : Int32}  {σ : Mem} {H : Heap} {locs : List Loc} {ls : Array Slot} {r : Mem} (hw : Wd 0 D cy ad s σ H locs) (hl : lv_has ls 4 [(0, .ref (ad (0))), (1, .int v1), (2, .int v2)]) (h : j_X9_readItem_35 v1 v2 σ = some r) : W p l e R s m args below meth c H locs 0 0 (QV 0 D cy ad below args s r) (F0 m 35 ls [.ref (ad (0))]) := by
  unfold j_X9_readItem_35 at h
  refine lv_iconst (v := (0 : Int32)) C.1 C.2.1 dX9_readItem_35 (by decide) ?_
  exact w_X9_readItem_36 C hw (lv_sub hl [0, 1, 2] rfl) h
set_option maxRecDepth 20000 in
theorem c_X9_readItem {l : Launch} {D : va_G} {cy : Nat → ClassId} {ad : Nat → Nat} (hj : InjW 0 ad)   (σ : Mem) (r : Mem) (h : f_X9_readItem σ = some r) : CV 0 D cy ad l yX9_readItem cX9_readItem 4 none 4 [.ref (ad (0))] σ r := by
  refine CV.mk (by decide) hj (Nat.le_of_ble_eq_true rfl) (fun p e R s m below meth c ls C hw hl => ?_)
  have hl : lv_has ls 4 [(0, .ref (ad (0)))] := hl
  generalize ([.ref (ad (0))] : List Value).toArray = args at C ⊢
  have C : Cx 0 D cy ad p R s m args meth c cX9_readItem 4 RX9 none 4 := C
  unfold f_X9_readItem at h
  refine lv_aload_n C.1 C.2.1 dX9_readItem_0 rfl (lv_at hl 0 rfl) ?_
  refine gf_X9_111 C hw dX9_readItem_1 ?_
  obtain ⟨x1, ex1, h⟩ := lt_of h
  refine m_topi ex1 ?_
  refine lv_istore_n (lv' := [(1, .int _), (0, .ref _)]) C.1 C.2.1 dX9_readItem_4 rfl hl (by decide) rfl (fun ls hl => ?_)
  refine lv_aload_n C.1 C.2.1 dX9_readItem_5 rfl (lv_at hl 1 rfl) ?_
  refine gf_X9_108 C hw dX9_readItem_6 ?_
  obtain ⟨x2, ex2, h⟩ := lt_of h
  refine m_topi ex2 ?_
  refine lv_istore_n (lv' := [(2, .int _), (1, .int _), (0, .ref _)]) C.1 C.2.1 dX9_readItem_9 rfl hl (by decide) rfl (fun ls hl => ?_)
  refine lv_aload_n C.1 C.2.1 dX9_readItem_10 rfl (lv_at hl 2 rfl) ?_
  refine lv_iload_n C.1 C.2.1 dX9_readItem_11 rfl (lv_at hl 1 rfl) ?_
  refine lv_iconst (v := (1 : Int32)) C.1 C.2.1 dX9_readItem_12 (by decide) ?_
  refine lv_icmp_eq (tgt := 31) C.1 C.2.1 dX9_readItem_13 (by decide) (fun cd => ?_) (fun cd => ?_)
  · have h := ite_t cd h
    exact w_X9_readItem_31 C hw (lv_sub hl [2, 1, 0] rfl) h
  · have h := ite_f cd h
    refine lv_iload_n C.1 C.2.1 dX9_readItem_16 rfl (lv_at hl 1 rfl) ?_
    refine lv_if_ne (tgt := 35) C.1 C.2.1 dX9_readItem_17 (by decide) (fun cd => ?_) (fun cd => ?_)
    · have h := ite_f cd h
      exact w_X9_readItem_35 C hw (lv_sub hl [2, 1, 0] rfl) h
    · have h := ite_t cd h
      refine lv_aload_n C.1 C.2.1 dX9_readItem_20 rfl (lv_at hl 2 rfl) ?_
      refine gf_X9_13 C hw dX9_readItem_21 ?_
      refine lv_iconst (v := (1 : Int32)) C.1 C.2.1 dX9_readItem_24 (by decide) ?_
      have hin : vp_in (1 : Int32) 2 := (by decide : ix (1 : Int32) 2)
      refine m_iald C hw a0_2 hin dX9_readItem_25 ?_
      refine lv_bipush (v := (16 : Int32)) C.1 C.2.1 dX9_readItem_26 (by decide) ?_
      refine lv_icmp_ge (tgt := 35) C.1 C.2.1 dX9_readItem_28 (by decide) (fun cd => ?_) (fun cd => ?_)
      · have h := ite_t cd h
        exact w_X9_readItem_35 C hw (lv_sub hl [2, 1, 0] rfl) h
      · have h := ite_f cd h
        exact w_X9_readItem_31 C hw (lv_sub hl [2, 1, 0] rfl) h
noncomputable def b_X9_law_29  (v1 : Int32) (σ : Mem) : Option ((Int32 × Mem) ⊕ (Int32 × Mem)) :=
  if (σ.1 0 12) = (-9 : Int32) then (if (σ.1 0 10) = (4 : Int32) then (some (.inr (v1, σ))) else ((f_X9_readItem σ).bind (fun r6 => lt (v1 + (1 : Int32)) (fun x7 => some (.inl (x7, r6)))))) else (some (.inr (v1, σ)))
noncomputable def b_X9_law_87  (v1 : Int32) (v2 : Int32) (σ : Mem) : Option ((Int32 × Int32 × Mem) ⊕ (Int32 × Mem)) :=
  if (16 : Int32) ≤ v2 then (some (.inr (v1, σ))) else (gd (ix ((16 : Int32) + v2) 32) (gd (ix v2 32) (lt (sI σ 3 v2.toNatClampNeg (σ.1 3 ((16 : Int32) + v2).toNatClampNeg)) (fun σ10 => gd (ix ((16 : Int32) + v2) 32) (gd (ix v2 32) (lt (sI σ10 4 v2.toNatClampNeg (σ10.1 4 ((16 : Int32) + v2).toNatClampNeg)) (fun σ11 => gd (ix ((16 : Int32) + v2) 32) (gd (ix v2 32) (lt (sI σ11 5 v2.toNatClampNeg (σ11.1 5 ((16 : Int32) + v2).toNatClampNeg)) (fun σ12 => gd (ix ((16 : Int32) + v2) 32) (gd (ix v2 32) (lt (sI σ12 6 v2.toNatClampNeg (σ12.1 6 ((16 : Int32) + v2).toNatClampNeg)) (fun σ13 => lt (v2 + (1 : Int32)) (fun x14 => some (.inl (v1, x14, σ13))))))))))))))))
noncomputable def j_X9_law_56  (v1 : Int32) (σ : Mem) : Option (Int32 × Mem) :=
  if (σ.1 0 12) = (-9 : Int32) then (lt (sI σ 2 (0 : Int32).toNatClampNeg (σ.1 2 (1 : Int32).toNatClampNeg)) (fun σ9 => (Lim (T := (Int32 × Mem)) (fun s => b_X9_law_87 s.1 s.2.1 s.2.2) (v1, (0 : Int32), σ9)).bind (fun r15 => lt (sI r15.2 7 (0 : Int32).toNatClampNeg (((1 : Int32) <<< ((r15.2.1 2 (0 : Int32).toNatClampNeg) &&& 31)) - (1 : Int32))) (fun σ16 => lt (sI σ16 7 (1 : Int32).toNatClampNeg (σ16.1 0 13)) (fun σ17 => lt (sI σ17 8 (0 : Int32).toNatClampNeg (vp_nar .boolean (0 : Int32))) (fun σ18 => lt (sI σ18 8 (1 : Int32).toNatClampNeg (vp_nar .boolean (0 : Int32))) (fun σ19 => lt (sI σ19 0 2 (0 : Int32)) (fun σ20 => some (r15.1, σ20))))))))) else (some ((-10 : Int32) - (σ.1 0 12), σ))
noncomputable def f_X9_law  (σ : Mem) : Option (Int32 × Mem) :=
  lt (sI σ 0 8 (0 : Int32)) (fun σ1 => lt (sI σ1 0 12 (-9 : Int32)) (fun σ2 => lt (sI σ2 2 (1 : Int32).toNatClampNeg (0 : Int32)) (fun σ3 => lt (sI σ3 0 13 (0 : Int32)) (fun σ4 => (f_X9_next σ4).bind (fun r5 => (Lim (T := (Int32 × Mem)) (fun s => b_X9_law_29 s.1 s.2) ((0 : Int32), r5)).bind (fun r8 => j_X9_law_56 r8.1 r8.2))))))
set_option maxRecDepth 20000 in
theorem w_X9_law_29 {D : va_G} {cy : Nat → ClassId} {ad : Nat → Nat} {p : Program} {l : Launch} {e : Env} {R : Room} {s : State} {m : MethodId} {args : Array Value} {below : List Frame} {meth : Method} {c : Code} (C : Cx 0 D cy ad p R s m args meth c cX9_law 3 RX9 (some .int) 5)   {v1 : Int32} {σ : Mem} {Q : State → Prop} {r : (Int32 × Mem)} (hL : Lim (T := (Int32 × Mem)) (fun s => b_X9_law_29 s.1 s.2) (v1, σ) = some r) (hE0 : ∀ (v1 : Int32) (σ1 : Mem), ((v1, σ1) : (Int32 × Mem)) = r → ∀ (H : Heap) (locs : List Loc) (ls : Array Slot), Wd 0 D cy ad s σ1 H locs → lv_has ls 3 [(0, .ref (ad (0))), (1, .int v1)] → W p l e R s m args below meth c H locs 0 0 Q (F0 m 56 ls [])) (H : Heap) (locs : List Loc) (ls : Array Slot) (hw : Wd 0 D cy ad s σ H locs) (hl : lv_has ls 3 [(0, .ref (ad (0))), (1, .int v1)]) : W p l e R s m args below meth c H locs 0 0 Q (F0 m 29 ls []) := by
  refine Lim_ind hL (P := fun u => ∀ (H : Heap) (locs : List Loc) (ls : Array Slot), Wd 0 D cy ad s u.2 H locs → lv_has ls 3 [(0, .ref (ad (0))), (1, .int u.1)] → W p l e R s m args below meth c H locs 0 0 Q (F0 m 29 ls [])) (fun u x h hx H locs ls hw hl => ?_) H locs ls hw hl
  clear hL
  obtain ⟨v1, σ⟩ := u
  have h : b_X9_law_29 v1 σ = some x := h
  have hw : Wd 0 D cy ad s σ H locs := hw
  have hl : lv_has ls 3 [(0, .ref (ad (0))), (1, .int v1)] := hl
  have hP : ∀ (u : (Int32 × Mem)), (∀ (H : Heap) (locs : List Loc) (ls : Array Slot), Wd 0 D cy ad s u.2 H locs → lv_has ls 3 [(0, .ref (ad (0))), (1, .int u.1)] → W p l e R s m args below meth c H locs 0 0 Q (F0 m 29 ls [])) → ∀ (H : Heap) (locs : List Loc) (ls : Array Slot), Wd 0 D cy ad s u.2 H locs → lv_has ls 3 [(0, .ref (ad (0))), (1, .int u.1)] → W p l e R s m args below meth c H locs 0 0 Q (F0 m 29 ls []) := fun _ k => k
  unfold b_X9_law_29 at h
  refine lv_aload_n C.1 C.2.1 dX9_law_29 rfl (lv_at hl 0 rfl) ?_
  refine gf_X9_115 C hw dX9_law_30 ?_
  refine lv_bipush (v := (-9 : Int32)) C.1 C.2.1 dX9_law_33 (by decide) ?_
  refine lv_icmp_ne (tgt := 56) C.1 C.2.1 dX9_law_35 (by decide) (fun cd => ?_) (fun cd => ?_)
  · have h := ite_f cd h
    obtain rfl := Option.some.inj h
    exact hE0 _ _ hx _ _ _ hw (lv_sub hl [0, 1] rfl)
  · have h := ite_t cd h
    refine lv_aload_n C.1 C.2.1 dX9_law_38 rfl (lv_at hl 0 rfl) ?_
    refine gf_X9_111 C hw dX9_law_39 ?_
    refine lv_iconst (v := (4 : Int32)) C.1 C.2.1 dX9_law_42 (by decide) ?_
    refine lv_icmp_eq (tgt := 56) C.1 C.2.1 dX9_law_43 (by decide) (fun cd => ?_) (fun cd => ?_)
    · have h := ite_t cd h
      obtain rfl := Option.some.inj h
      exact hE0 _ _ hx _ _ _ hw (lv_sub hl [0, 1] rfl)
    · have h := ite_f cd h
      refine lv_aload_n C.1 C.2.1 dX9_law_46 rfl (lv_at hl 0 rfl) ?_
      obtain ⟨r6, h1, h⟩ := bS h
      refine go_V hw (run_V (As := []) C hw (c_X9_readItem C.2.2.2.2.2.2.2.2.2 _ _ h1) mi_X9_readItem mv_X9_readItem o0_0 (ci := 9) rfl rfl lk_X9_135 (by decide) (by decide) rfl hl.1 rfl (Nat.le_of_ble_eq_true rfl) dX9_law_47 ⟨Nat.le_refl 0, Nat.le_refl 0⟩) (fun H locs hw => ?_)
      obtain ⟨x7, ex7, h⟩ := lt_of h
      refine m_iinc (k := 1) (lv' := [(1, .int _), (0, .ref _)]) C (1 : Int32) (by decide) dX9_law_50 hl rfl ex7.symm (by decide) rfl (fun ls hl => ?_)
      refine lv_goto (tgt := 29) C.1 C.2.1 dX9_law_53 (by decide) ?_
      obtain rfl := Option.some.inj h
      exact hP _ hx _ _ _ hw (lv_sub hl [1, 0] rfl)
set_option maxRecDepth 20000 in
theorem w_X9_law_87 {D : va_G} {cy : Nat → ClassId} {ad : Nat → Nat} {p : Program} {l : Launch} {e : Env} {R : Room} {s : State} {m : MethodId} {args : Array Value} {below : List Frame} {meth : Method} {c : Code} (C : Cx 0 D cy ad p R s m args meth c cX9_law 3 RX9 (some .int) 5)   {v1 : Int32} {v2 : Int32} {σ : Mem} {Q : State → Prop} {r : (Int32 × Mem)} (hL : Lim (T := (Int32 × Mem)) (fun s => b_X9_law_87 s.1 s.2.1 s.2.2) (v1, v2, σ) = some r) (hE0 : ∀ (v1 : Int32) (σ1 : Mem), ((v1, σ1) : (Int32 × Mem)) = r → ∀ (H : Heap) (locs : List Loc) (ls : Array Slot), Wd 0 D cy ad s σ1 H locs → lv_has ls 3 [(0, .ref (ad (0))), (1, .int v1)] → W p l e R s m args below meth c H locs 0 0 Q (F0 m 159 ls [])) (H : Heap) (locs : List Loc) (ls : Array Slot) (hw : Wd 0 D cy ad s σ H locs) (hl : lv_has ls 3 [(0, .ref (ad (0))), (1, .int v1), (2, .int v2)]) : W p l e R s m args below meth c H locs 0 0 Q (F0 m 87 ls []) := by
  refine Lim_ind hL (P := fun u => ∀ (H : Heap) (locs : List Loc) (ls : Array Slot), Wd 0 D cy ad s u.2.2 H locs → lv_has ls 3 [(0, .ref (ad (0))), (1, .int u.1), (2, .int u.2.1)] → W p l e R s m args below meth c H locs 0 0 Q (F0 m 87 ls [])) (fun u x h hx H locs ls hw hl => ?_) H locs ls hw hl
  clear hL
  obtain ⟨v1, v2, σ⟩ := u
  have h : b_X9_law_87 v1 v2 σ = some x := h
  have hw : Wd 0 D cy ad s σ H locs := hw
  have hl : lv_has ls 3 [(0, .ref (ad (0))), (1, .int v1), (2, .int v2)] := hl
  have hP : ∀ (u : (Int32 × Int32 × Mem)), (∀ (H : Heap) (locs : List Loc) (ls : Array Slot), Wd 0 D cy ad s u.2.2 H locs → lv_has ls 3 [(0, .ref (ad (0))), (1, .int u.1), (2, .int u.2.1)] → W p l e R s m args below meth c H locs 0 0 Q (F0 m 87 ls [])) → ∀ (H : Heap) (locs : List Loc) (ls : Array Slot), Wd 0 D cy ad s u.2.2 H locs → lv_has ls 3 [(0, .ref (ad (0))), (1, .int u.1), (2, .int u.2.1)] → W p l e R s m args below meth c H locs 0 0 Q (F0 m 87 ls []) := fun _ k => k
  unfold b_X9_law_87 at h
  refine lv_iload_n C.1 C.2.1 dX9_law_87 rfl (lv_at hl 2 rfl) ?_
  refine lv_bipush (v := (16 : Int32)) C.1 C.2.1 dX9_law_88 (by decide) ?_
  refine lv_icmp_ge (tgt := 159) C.1 C.2.1 dX9_law_90 (by decide) (fun cd => ?_) (fun cd => ?_)
  · have h := ite_t cd h
    obtain rfl := Option.some.inj h
    exact hE0 _ _ hx _ _ _ hw (lv_sub hl [0, 1] rfl)
  · have h := ite_f cd h
    refine lv_aload_n C.1 C.2.1 dX9_law_93 rfl (lv_at hl 0 rfl) ?_
    refine gf_X9_17 C hw dX9_law_94 ?_
    refine lv_iload_n C.1 C.2.1 dX9_law_97 rfl (lv_at hl 2 rfl) ?_
    refine lv_aload_n C.1 C.2.1 dX9_law_98 rfl (lv_at hl 0 rfl) ?_
    refine gf_X9_17 C hw dX9_law_99 ?_
    refine lv_bipush (v := (16 : Int32)) C.1 C.2.1 dX9_law_102 (by decide) ?_
    refine lv_iload_n C.1 C.2.1 dX9_law_104 rfl (lv_at hl 2 rfl) ?_
    refine lv_iadd C.1 C.2.1 dX9_law_105 ?_
    obtain ⟨hin, h⟩ := gd_of h
    refine m_iald C hw a0_3 hin dX9_law_106 ?_
    obtain ⟨hin, h⟩ := gd_of h
    refine m_iast C hw a0_3 hin dX9_law_107 (fun H locs hw => ?_)
    obtain ⟨σ10, eσ10, h⟩ := lt_of h
    rw [← eσ10] at hw
    refine lv_aload_n C.1 C.2.1 dX9_law_108 rfl (lv_at hl 0 rfl) ?_
    refine gf_X9_20 C hw dX9_law_109 ?_
    refine lv_iload_n C.1 C.2.1 dX9_law_112 rfl (lv_at hl 2 rfl) ?_
    refine lv_aload_n C.1 C.2.1 dX9_law_113 rfl (lv_at hl 0 rfl) ?_
    refine gf_X9_20 C hw dX9_law_114 ?_
    refine lv_bipush (v := (16 : Int32)) C.1 C.2.1 dX9_law_117 (by decide) ?_
    refine lv_iload_n C.1 C.2.1 dX9_law_119 rfl (lv_at hl 2 rfl) ?_
    refine lv_iadd C.1 C.2.1 dX9_law_120 ?_
    obtain ⟨hin, h⟩ := gd_of h
    refine m_iald C hw a0_4 hin dX9_law_121 ?_
    obtain ⟨hin, h⟩ := gd_of h
    refine m_iast C hw a0_4 hin dX9_law_122 (fun H locs hw => ?_)
    obtain ⟨σ11, eσ11, h⟩ := lt_of h
    rw [← eσ11] at hw
    refine lv_aload_n C.1 C.2.1 dX9_law_123 rfl (lv_at hl 0 rfl) ?_
    refine gf_X9_23 C hw dX9_law_124 ?_
    refine lv_iload_n C.1 C.2.1 dX9_law_127 rfl (lv_at hl 2 rfl) ?_
    refine lv_aload_n C.1 C.2.1 dX9_law_128 rfl (lv_at hl 0 rfl) ?_
    refine gf_X9_23 C hw dX9_law_129 ?_
    refine lv_bipush (v := (16 : Int32)) C.1 C.2.1 dX9_law_132 (by decide) ?_
    refine lv_iload_n C.1 C.2.1 dX9_law_134 rfl (lv_at hl 2 rfl) ?_
    refine lv_iadd C.1 C.2.1 dX9_law_135 ?_
    obtain ⟨hin, h⟩ := gd_of h
    refine m_iald C hw a0_5 hin dX9_law_136 ?_
    obtain ⟨hin, h⟩ := gd_of h
    refine m_iast C hw a0_5 hin dX9_law_137 (fun H locs hw => ?_)
    obtain ⟨σ12, eσ12, h⟩ := lt_of h
    rw [← eσ12] at hw
    refine lv_aload_n C.1 C.2.1 dX9_law_138 rfl (lv_at hl 0 rfl) ?_
    refine gf_X9_26 C hw dX9_law_139 ?_
    refine lv_iload_n C.1 C.2.1 dX9_law_142 rfl (lv_at hl 2 rfl) ?_
    refine lv_aload_n C.1 C.2.1 dX9_law_143 rfl (lv_at hl 0 rfl) ?_
    refine gf_X9_26 C hw dX9_law_144 ?_
    refine lv_bipush (v := (16 : Int32)) C.1 C.2.1 dX9_law_147 (by decide) ?_
    refine lv_iload_n C.1 C.2.1 dX9_law_149 rfl (lv_at hl 2 rfl) ?_
    refine lv_iadd C.1 C.2.1 dX9_law_150 ?_
    obtain ⟨hin, h⟩ := gd_of h
    refine m_iald C hw a0_6 hin dX9_law_151 ?_
    obtain ⟨hin, h⟩ := gd_of h
    refine m_iast C hw a0_6 hin dX9_law_152 (fun H locs hw => ?_)
    obtain ⟨σ13, eσ13, h⟩ := lt_of h
    rw [← eσ13] at hw
    obtain ⟨x14, ex14, h⟩ := lt_of h
    refine m_iinc (k := 2) (lv' := [(2, .int _), (0, .ref _), (1, .int _)]) C (1 : Int32) (by decide) dX9_law_153 hl rfl ex14.symm (by decide) rfl (fun ls hl => ?_)
    refine lv_goto (tgt := 87) C.1 C.2.1 dX9_law_156 (by decide) ?_
    obtain rfl := Option.some.inj h
    exact hP _ hx _ _ _ hw (lv_sub hl [1, 2, 0] rfl)
set_option maxRecDepth 20000 in
theorem w_X9_law_56 {D : va_G} {cy : Nat → ClassId} {ad : Nat → Nat} {p : Program} {l : Launch} {e : Env} {R : Room} {s : State} {m : MethodId} {args : Array Value} {below : List Frame} {meth : Method} {c : Code} (C : Cx 0 D cy ad p R s m args meth c cX9_law 3 RX9 (some .int) 5)   {v1 : Int32}  {σ : Mem} {H : Heap} {locs : List Loc} {ls : Array Slot} {r : (Int32 × Mem)} (hw : Wd 0 D cy ad s σ H locs) (hl : lv_has ls 3 [(0, .ref (ad (0))), (1, .int v1)]) (h : j_X9_law_56 v1 σ = some r) : W p l e R s m args below meth c H locs 0 0 (QI 0 D cy ad below args s r.1 r.2) (F0 m 56 ls []) := by
  unfold j_X9_law_56 at h
  refine lv_aload_n C.1 C.2.1 dX9_law_56 rfl (lv_at hl 0 rfl) ?_
  refine gf_X9_115 C hw dX9_law_57 ?_
  refine lv_bipush (v := (-9 : Int32)) C.1 C.2.1 dX9_law_60 (by decide) ?_
  refine lv_icmp_eq (tgt := 73) C.1 C.2.1 dX9_law_62 (by decide) (fun cd => ?_) (fun cd => ?_)
  · have h := ite_t cd h
    refine lv_aload_n C.1 C.2.1 dX9_law_73 rfl (lv_at hl 0 rfl) ?_
    refine gf_X9_13 C hw dX9_law_74 ?_
    refine lv_iconst (v := (0 : Int32)) C.1 C.2.1 dX9_law_77 (by decide) ?_
    refine lv_aload_n C.1 C.2.1 dX9_law_78 rfl (lv_at hl 0 rfl) ?_
    refine gf_X9_13 C hw dX9_law_79 ?_
    refine lv_iconst (v := (1 : Int32)) C.1 C.2.1 dX9_law_82 (by decide) ?_
    have hin : vp_in (1 : Int32) 2 := (by decide : ix (1 : Int32) 2)
    refine m_iald C hw a0_2 hin dX9_law_83 ?_
    have hin : vp_in (0 : Int32) 2 := (by decide : ix (0 : Int32) 2)
    refine m_iast C hw a0_2 hin dX9_law_84 (fun H locs hw => ?_)
    obtain ⟨σ9, eσ9, h⟩ := lt_of h
    rw [← eσ9] at hw
    refine lv_iconst (v := (0 : Int32)) C.1 C.2.1 dX9_law_85 (by decide) ?_
    refine lv_istore_n (lv' := [(2, .int _), (0, .ref _), (1, .int _)]) C.1 C.2.1 dX9_law_86 rfl hl (by decide) rfl (fun ls hl => ?_)
    obtain ⟨r15, hL, h⟩ := bS h
    refine w_X9_law_87 C  hL (fun y0 y1 hr H locs ls hw hl => ?_) _ _ _ hw (lv_sub hl [1, 2, 0] rfl)
    · subst hr
      try dsimp only at h
      try dsimp only at hw
      try dsimp only at hl
      refine lv_aload_n C.1 C.2.1 dX9_law_159 rfl (lv_at hl 0 rfl) ?_
      refine gf_X9_29 C hw dX9_law_160 ?_
      refine lv_iconst (v := (0 : Int32)) C.1 C.2.1 dX9_law_163 (by decide) ?_
      refine lv_iconst (v := (1 : Int32)) C.1 C.2.1 dX9_law_164 (by decide) ?_
      refine lv_aload_n C.1 C.2.1 dX9_law_165 rfl (lv_at hl 0 rfl) ?_
      refine gf_X9_13 C hw dX9_law_166 ?_
      refine lv_iconst (v := (0 : Int32)) C.1 C.2.1 dX9_law_169 (by decide) ?_
      have hin : vp_in (0 : Int32) 2 := (by decide : ix (0 : Int32) 2)
      refine m_iald C hw a0_2 hin dX9_law_170 ?_
      refine lv_ishl C.1 C.2.1 dX9_law_171 ?_
      refine lv_iconst (v := (1 : Int32)) C.1 C.2.1 dX9_law_172 (by decide) ?_
      refine lv_isub C.1 C.2.1 dX9_law_173 ?_
      have hin : vp_in (0 : Int32) 102 := (by decide : ix (0 : Int32) 102)
      refine m_iast C hw a0_7 hin dX9_law_174 (fun H locs hw => ?_)
      obtain ⟨σ16, eσ16, h⟩ := lt_of h
      rw [← eσ16] at hw
      refine lv_aload_n C.1 C.2.1 dX9_law_175 rfl (lv_at hl 0 rfl) ?_
      refine gf_X9_29 C hw dX9_law_176 ?_
      refine lv_iconst (v := (1 : Int32)) C.1 C.2.1 dX9_law_179 (by decide) ?_
      refine lv_aload_n C.1 C.2.1 dX9_law_180 rfl (lv_at hl 0 rfl) ?_
      refine gf_X9_132 C hw dX9_law_181 ?_
      have hin : vp_in (1 : Int32) 102 := (by decide : ix (1 : Int32) 102)
      refine m_iast C hw a0_7 hin dX9_law_184 (fun H locs hw => ?_)
      obtain ⟨σ17, eσ17, h⟩ := lt_of h
      rw [← eσ17] at hw
      refine lv_aload_n C.1 C.2.1 dX9_law_185 rfl (lv_at hl 0 rfl) ?_
      refine gf_X9_32 C hw dX9_law_186 ?_
      refine lv_iconst (v := (0 : Int32)) C.1 C.2.1 dX9_law_189 (by decide) ?_
      refine lv_iconst (v := (0 : Int32)) C.1 C.2.1 dX9_law_190 (by decide) ?_
      have hin : vp_in (0 : Int32) 2 := (by decide : ix (0 : Int32) 2)
      refine m_zast C hw a0_8 hin dX9_law_191 (fun H locs hw => ?_)
      obtain ⟨σ18, eσ18, h⟩ := lt_of h
      rw [← eσ18] at hw
      refine lv_aload_n C.1 C.2.1 dX9_law_192 rfl (lv_at hl 0 rfl) ?_
      refine gf_X9_32 C hw dX9_law_193 ?_
      refine lv_iconst (v := (1 : Int32)) C.1 C.2.1 dX9_law_196 (by decide) ?_
      refine lv_iconst (v := (0 : Int32)) C.1 C.2.1 dX9_law_197 (by decide) ?_
      have hin : vp_in (1 : Int32) 2 := (by decide : ix (1 : Int32) 2)
      refine m_zast C hw a0_8 hin dX9_law_198 (fun H locs hw => ?_)
      obtain ⟨σ19, eσ19, h⟩ := lt_of h
      rw [← eσ19] at hw
      refine lv_aload_n C.1 C.2.1 dX9_law_199 rfl (lv_at hl 0 rfl) ?_
      refine lv_iconst (v := (0 : Int32)) C.1 C.2.1 dX9_law_200 (by decide) ?_
      refine pf_X9_92 C hw dX9_law_201 (fun H locs hw => ?_)
      obtain ⟨σ20, eσ20, h⟩ := lt_of h
      rw [← eσ20] at hw
      refine lv_iload_n C.1 C.2.1 dX9_law_204 rfl (lv_at hl 1 rfl) ?_
      exact m_iret C hw (ret_p h) dX9_law_205
  · have h := ite_f cd h
    refine lv_bipush (v := (-10 : Int32)) C.1 C.2.1 dX9_law_65 (by decide) ?_
    refine lv_aload_n C.1 C.2.1 dX9_law_67 rfl (lv_at hl 0 rfl) ?_
    refine gf_X9_115 C hw dX9_law_68 ?_
    refine lv_isub C.1 C.2.1 dX9_law_71 ?_
    exact m_iret C hw (ret_p h) dX9_law_72
set_option maxRecDepth 20000 in
theorem c_X9_law {l : Launch} {D : va_G} {cy : Nat → ClassId} {ad : Nat → Nat} (hj : InjW 0 ad)   (σ : Mem) (r : (Int32 × Mem)) (h : f_X9_law σ = some r) : CI 0 D cy ad l yX9_law cX9_law 3 (some .int) 5 [.ref (ad (0))] σ r.1 r.2 := by
  refine CI.mk (by decide) hj (Nat.le_of_ble_eq_true rfl) (fun p e R s m below meth c ls C hw hl => ?_)
  have hl : lv_has ls 3 [(0, .ref (ad (0)))] := hl
  generalize ([.ref (ad (0))] : List Value).toArray = args at C ⊢
  have C : Cx 0 D cy ad p R s m args meth c cX9_law 3 RX9 (some .int) 5 := C
  unfold f_X9_law at h
  refine lv_aload_n C.1 C.2.1 dX9_law_0 rfl (lv_at hl 0 rfl) ?_
  refine lv_iconst (v := (0 : Int32)) C.1 C.2.1 dX9_law_1 (by decide) ?_
  refine pf_X9_98 C hw dX9_law_2 (fun H locs hw => ?_)
  obtain ⟨σ1, eσ1, h⟩ := lt_of h
  rw [← eσ1] at hw
  refine lv_aload_n C.1 C.2.1 dX9_law_5 rfl (lv_at hl 0 rfl) ?_
  refine lv_bipush (v := (-9 : Int32)) C.1 C.2.1 dX9_law_6 (by decide) ?_
  refine pf_X9_115 C hw dX9_law_8 (fun H locs hw => ?_)
  obtain ⟨σ2, eσ2, h⟩ := lt_of h
  rw [← eσ2] at hw
  refine lv_aload_n C.1 C.2.1 dX9_law_11 rfl (lv_at hl 0 rfl) ?_
  refine gf_X9_13 C hw dX9_law_12 ?_
  refine lv_iconst (v := (1 : Int32)) C.1 C.2.1 dX9_law_15 (by decide) ?_
  refine lv_iconst (v := (0 : Int32)) C.1 C.2.1 dX9_law_16 (by decide) ?_
  have hin : vp_in (1 : Int32) 2 := (by decide : ix (1 : Int32) 2)
  refine m_iast C hw a0_2 hin dX9_law_17 (fun H locs hw => ?_)
  obtain ⟨σ3, eσ3, h⟩ := lt_of h
  rw [← eσ3] at hw
  refine lv_aload_n C.1 C.2.1 dX9_law_18 rfl (lv_at hl 0 rfl) ?_
  refine lv_iconst (v := (0 : Int32)) C.1 C.2.1 dX9_law_19 (by decide) ?_
  refine pf_X9_132 C hw dX9_law_20 (fun H locs hw => ?_)
  obtain ⟨σ4, eσ4, h⟩ := lt_of h
  rw [← eσ4] at hw
  refine lv_iconst (v := (0 : Int32)) C.1 C.2.1 dX9_law_23 (by decide) ?_
  refine lv_istore_n (lv' := [(1, .int _), (0, .ref _)]) C.1 C.2.1 dX9_law_24 rfl hl (by decide) rfl (fun ls hl => ?_)
  refine lv_aload_n C.1 C.2.1 dX9_law_25 rfl (lv_at hl 1 rfl) ?_
  obtain ⟨r5, h1, h⟩ := bS h
  refine go_V hw (run_V (As := []) C hw (c_X9_next C.2.2.2.2.2.2.2.2.2 _ _ h1) mi_X9_next mv_X9_next o0_0 (ci := 9) rfl rfl lk_X9_118 (by decide) (by decide) rfl hl.1 rfl (Nat.le_of_ble_eq_true rfl) dX9_law_26 ⟨Nat.le_refl 0, Nat.le_refl 0⟩) (fun H locs hw => ?_)
  obtain ⟨r8, hL, h⟩ := bS h
  refine w_X9_law_29 C  hL (fun y0 y1 hr H locs ls hw hl => ?_) _ _ _ hw (lv_sub hl [1, 0] rfl)
  · subst hr
    try dsimp only at h
    try dsimp only at hw
    try dsimp only at hl
    exact w_X9_law_56 C hw (lv_sub hl [0, 1] rfl) h
noncomputable def j_X9_tree_87  (v1 : Int32) (v2 : Int32) (v3 : Int32) (σ : Mem) : Option ((Int32 × Int32 × Int32 × Mem) ⊕ ((Int32 × Mem) ⊕ (Int32 × Int32 × Mem))) :=
  lt (v3 + (1 : Int32)) (fun x2 => some (.inl (v1, v2, x2, σ)))
noncomputable def b_X9_tree_6  (v1 : Int32) (v2 : Int32) (v3 : Int32) (σ : Mem) : Option ((Int32 × Int32 × Int32 × Mem) ⊕ ((Int32 × Mem) ⊕ (Int32 × Int32 × Mem))) :=
  if (σ.1 0 2) ≤ v3 then (some (.inr (.inr (v1, v2, σ)))) else (gd (ix v3 300) (lt ((σ.1 1 v3.toNatClampNeg) &&& (255 : Int32)) (fun x1 => if x1 = (32 : Int32) then (j_X9_tree_87 v1 v2 v3 σ) else (if (f_X9_in x1 (97 : Int32) (104 : Int32)) = 0 then (some (.inr (.inl (v3, σ)))) else (if v2 = 0 then (some (.inr (.inl (v3, σ)))) else (if v1 = (31 : Int32) then (some (.inr (.inl (v3, σ)))) else (gd (ix v1 31) (lt (sI σ 9 v1.toNatClampNeg (x1 - (97 : Int32))) (fun σ3 => lt (v2 + ((f_X9_armsOf (x1 - (97 : Int32))) - (1 : Int32))) (fun x4 => lt (v1 + (1 : Int32)) (fun x5 => j_X9_tree_87 x5 x4 v3 σ3)))))))))))
noncomputable def j_X9_tree_55  (v3 : Int32) (σ : Mem) : Option (Int32 × Mem) :=
  some ((-10 : Int32) - v3, σ)
noncomputable def b_X9_tree_107  (v1 : Int32) (v3 : Int32) (σ : Mem) : Option ((Int32 × Int32 × Mem) ⊕ (Int32 × Mem)) :=
  if v1 ≤ v3 then (some (.inr (v1, σ))) else (gd (ix v3 31) (gd (ix ((3 : Int32) + v3) 102) (lt (sI σ 7 ((3 : Int32) + v3).toNatClampNeg (σ.1 9 v3.toNatClampNeg)) (fun σ7 => lt (v3 + (1 : Int32)) (fun x8 => some (.inl (v1, x8, σ7)))))))
noncomputable def f_X9_tree  (σ : Mem) : Option (Int32 × Mem) :=
  (Lim (T := ((Int32 × Mem) ⊕ (Int32 × Int32 × Mem))) (fun s => b_X9_tree_6 s.1 s.2.1 s.2.2.1 s.2.2.2) ((0 : Int32), (1 : Int32), (0 : Int32), σ)).bind (fun r6 => (match r6 with | .inl r6_0 => (j_X9_tree_55 r6_0.1 r6_0.2) | .inr r6_1 => (if r6_1.2.1 ≤ 0 then ((Lim (T := (Int32 × Mem)) (fun s => b_X9_tree_107 s.1 s.2.1 s.2.2) (r6_1.1, (0 : Int32), r6_1.2.2)).bind (fun r9 => lt (sI r9.2 7 (2 : Int32).toNatClampNeg r9.1) (fun σ10 => lt (sI σ10 0 2 (0 : Int32)) (fun σ11 => some (r9.1, σ11))))) else (some ((-10 : Int32) - (r6_1.2.2.1 0 2), r6_1.2.2)))))
set_option maxRecDepth 20000 in
theorem w_X9_tree_87 {D : va_G} {cy : Nat → ClassId} {ad : Nat → Nat} {p : Program} {l : Launch} {e : Env} {R : Room} {s : State} {m : MethodId} {args : Array Value} {below : List Frame} {meth : Method} {c : Code} (C : Cx 0 D cy ad p R s m args meth c cX9_tree 5 RX9 (some .int) 1)   {v1 : Int32} {v2 : Int32} {v3 : Int32}  {σ : Mem} {H : Heap} {locs : List Loc} {ls : Array Slot} {Q : State → Prop} {P : (Int32 × Int32 × Int32 × Mem) → Prop} {r : ((Int32 × Mem) ⊕ (Int32 × Int32 × Mem))} {x : (Int32 × Int32 × Int32 × Mem) ⊕ ((Int32 × Mem) ⊕ (Int32 × Int32 × Mem))} (hx : LimQ P r x) (hP : ∀ u, P u → ∀ (H : Heap) (locs : List Loc) (ls : Array Slot), Wd 0 D cy ad s u.2.2.2 H locs → lv_has ls 5 [(0, .ref (ad (0))), (1, .int u.1), (2, .int u.2.1), (3, .int u.2.2.1)] → W p l e R s m args below meth c H locs 0 0 Q (F0 m 6 ls [])) (hE0 : ∀ (v3 : Int32) (σ1 : Mem), (.inl (v3, σ1) : ((Int32 × Mem) ⊕ (Int32 × Int32 × Mem))) = r → ∀ (H : Heap) (locs : List Loc) (ls : Array Slot), Wd 0 D cy ad s σ1 H locs → lv_has ls 5 [(3, .int v3)] → W p l e R s m args below meth c H locs 0 0 Q (F0 m 55 ls [])) (hE1 : ∀ (v1 : Int32) (v2 : Int32) (σ1 : Mem), (.inr (v1, v2, σ1) : ((Int32 × Mem) ⊕ (Int32 × Int32 × Mem))) = r → ∀ (H : Heap) (locs : List Loc) (ls : Array Slot), Wd 0 D cy ad s σ1 H locs → lv_has ls 5 [(0, .ref (ad (0))), (1, .int v1), (2, .int v2)] → W p l e R s m args below meth c H locs 0 0 Q (F0 m 93 ls [])) (hw : Wd 0 D cy ad s σ H locs) (hl : lv_has ls 5 [(0, .ref (ad (0))), (1, .int v1), (2, .int v2), (3, .int v3)]) (h : j_X9_tree_87 v1 v2 v3 σ = some x) : W p l e R s m args below meth c H locs 0 0 Q (F0 m 87 ls []) := by
  unfold j_X9_tree_87 at h
  obtain ⟨x2, ex2, h⟩ := lt_of h
  refine m_iinc (k := 3) (lv' := [(3, .int _), (0, .ref _), (1, .int _), (2, .int _)]) C (1 : Int32) (by decide) dX9_tree_87 hl rfl ex2.symm (by decide) rfl (fun ls hl => ?_)
  refine lv_goto (tgt := 6) C.1 C.2.1 dX9_tree_90 (by decide) ?_
  obtain rfl := Option.some.inj h
  exact hP _ hx _ _ _ hw (lv_sub hl [1, 2, 3, 0] rfl)
set_option maxRecDepth 20000 in
theorem w_X9_tree_6 {D : va_G} {cy : Nat → ClassId} {ad : Nat → Nat} {p : Program} {l : Launch} {e : Env} {R : Room} {s : State} {m : MethodId} {args : Array Value} {below : List Frame} {meth : Method} {c : Code} (C : Cx 0 D cy ad p R s m args meth c cX9_tree 5 RX9 (some .int) 1)   {v1 : Int32} {v2 : Int32} {v3 : Int32} {σ : Mem} {Q : State → Prop} {r : ((Int32 × Mem) ⊕ (Int32 × Int32 × Mem))} (hL : Lim (T := ((Int32 × Mem) ⊕ (Int32 × Int32 × Mem))) (fun s => b_X9_tree_6 s.1 s.2.1 s.2.2.1 s.2.2.2) (v1, v2, v3, σ) = some r) (hE0 : ∀ (v3 : Int32) (σ1 : Mem), (.inl (v3, σ1) : ((Int32 × Mem) ⊕ (Int32 × Int32 × Mem))) = r → ∀ (H : Heap) (locs : List Loc) (ls : Array Slot), Wd 0 D cy ad s σ1 H locs → lv_has ls 5 [(3, .int v3)] → W p l e R s m args below meth c H locs 0 0 Q (F0 m 55 ls [])) (hE1 : ∀ (v1 : Int32) (v2 : Int32) (σ1 : Mem), (.inr (v1, v2, σ1) : ((Int32 × Mem) ⊕ (Int32 × Int32 × Mem))) = r → ∀ (H : Heap) (locs : List Loc) (ls : Array Slot), Wd 0 D cy ad s σ1 H locs → lv_has ls 5 [(0, .ref (ad (0))), (1, .int v1), (2, .int v2)] → W p l e R s m args below meth c H locs 0 0 Q (F0 m 93 ls [])) (H : Heap) (locs : List Loc) (ls : Array Slot) (hw : Wd 0 D cy ad s σ H locs) (hl : lv_has ls 5 [(0, .ref (ad (0))), (1, .int v1), (2, .int v2), (3, .int v3)]) : W p l e R s m args below meth c H locs 0 0 Q (F0 m 6 ls []) := by
  refine Lim_ind hL (P := fun u => ∀ (H : Heap) (locs : List Loc) (ls : Array Slot), Wd 0 D cy ad s u.2.2.2 H locs → lv_has ls 5 [(0, .ref (ad (0))), (1, .int u.1), (2, .int u.2.1), (3, .int u.2.2.1)] → W p l e R s m args below meth c H locs 0 0 Q (F0 m 6 ls [])) (fun u x h hx H locs ls hw hl => ?_) H locs ls hw hl
  clear hL
  obtain ⟨v1, v2, v3, σ⟩ := u
  have h : b_X9_tree_6 v1 v2 v3 σ = some x := h
  have hw : Wd 0 D cy ad s σ H locs := hw
  have hl : lv_has ls 5 [(0, .ref (ad (0))), (1, .int v1), (2, .int v2), (3, .int v3)] := hl
  have hP : ∀ (u : (Int32 × Int32 × Int32 × Mem)), (∀ (H : Heap) (locs : List Loc) (ls : Array Slot), Wd 0 D cy ad s u.2.2.2 H locs → lv_has ls 5 [(0, .ref (ad (0))), (1, .int u.1), (2, .int u.2.1), (3, .int u.2.2.1)] → W p l e R s m args below meth c H locs 0 0 Q (F0 m 6 ls [])) → ∀ (H : Heap) (locs : List Loc) (ls : Array Slot), Wd 0 D cy ad s u.2.2.2 H locs → lv_has ls 5 [(0, .ref (ad (0))), (1, .int u.1), (2, .int u.2.1), (3, .int u.2.2.1)] → W p l e R s m args below meth c H locs 0 0 Q (F0 m 6 ls []) := fun _ k => k
  unfold b_X9_tree_6 at h
  refine lv_iload_n C.1 C.2.1 dX9_tree_6 rfl (lv_at hl 3 rfl) ?_
  refine lv_aload_n C.1 C.2.1 dX9_tree_7 rfl (lv_at hl 0 rfl) ?_
  refine gf_X9_92 C hw dX9_tree_8 ?_
  refine lv_icmp_ge (tgt := 93) C.1 C.2.1 dX9_tree_11 (by decide) (fun cd => ?_) (fun cd => ?_)
  · have h := ite_t cd h
    obtain rfl := Option.some.inj h
    exact hE1 _ _ _ hx _ _ _ hw (lv_sub hl [0, 1, 2] rfl)
  · have h := ite_f cd h
    refine lv_aload_n C.1 C.2.1 dX9_tree_14 rfl (lv_at hl 0 rfl) ?_
    refine gf_X9_7 C hw dX9_tree_15 ?_
    refine lv_iload_n C.1 C.2.1 dX9_tree_18 rfl (lv_at hl 3 rfl) ?_
    obtain ⟨hin, h⟩ := gd_of h
    refine m_bald C hw a0_1 hin dX9_tree_19 ?_
    refine lv_sipush (v := (255 : Int32)) C.1 C.2.1 dX9_tree_20 (by decide) ?_
    refine lv_iand C.1 C.2.1 dX9_tree_23 ?_
    obtain ⟨x1, ex1, h⟩ := lt_of h
    refine m_topi ex1 ?_
    refine lv_istore (lv' := [(4, .int _), (0, .ref _), (1, .int _), (2, .int _), (3, .int _)]) C.1 C.2.1 dX9_tree_24 hl (by decide) rfl (fun ls hl => ?_)
    refine lv_iload C.1 C.2.1 dX9_tree_26 (lv_at hl 0 rfl) ?_
    refine lv_bipush (v := (32 : Int32)) C.1 C.2.1 dX9_tree_28 (by decide) ?_
    refine lv_icmp_eq (tgt := 87) C.1 C.2.1 dX9_tree_30 (by decide) (fun cd => ?_) (fun cd => ?_)
    · have h := ite_t cd h
      exact w_X9_tree_87 C hx hP hE0 hE1 hw (lv_sub hl [1, 2, 3, 4] rfl) h
    · have h := ite_f cd h
      refine lv_iload C.1 C.2.1 dX9_tree_33 (lv_at hl 0 rfl) ?_
      refine lv_bipush (v := (97 : Int32)) C.1 C.2.1 dX9_tree_35 (by decide) ?_
      refine lv_bipush (v := (104 : Int32)) C.1 C.2.1 dX9_tree_37 (by decide) ?_
      refine go_I hw (run_S (As := [.int _, .int _, .int _]) C hw (c_X9_in C.2.2.2.2.2.2.2.2.2 _ _ _ _) mi_X9_in ms_X9_in lk_X9_88 (by decide) (by decide) rfl hl.1 rfl (Nat.le_of_ble_eq_true rfl) dX9_tree_39 ⟨Nat.le_refl 0, Nat.le_refl 0⟩) (fun H locs hw => ?_)
      refine lv_if_eq (tgt := 55) C.1 C.2.1 dX9_tree_42 (by decide) (fun cd => ?_) (fun cd => ?_)
      · have h := ite_t cd h
        obtain rfl := Option.some.inj h
        exact hE0 _ _ hx _ _ _ hw (lv_sub hl [4] rfl)
      · have h := ite_f cd h
        refine lv_iload_n C.1 C.2.1 dX9_tree_45 rfl (lv_at hl 3 rfl) ?_
        refine lv_if_eq (tgt := 55) C.1 C.2.1 dX9_tree_46 (by decide) (fun cd => ?_) (fun cd => ?_)
        · have h := ite_t cd h
          obtain rfl := Option.some.inj h
          exact hE0 _ _ hx _ _ _ hw (lv_sub hl [4] rfl)
        · have h := ite_f cd h
          refine lv_iload_n C.1 C.2.1 dX9_tree_49 rfl (lv_at hl 2 rfl) ?_
          refine lv_bipush (v := (31 : Int32)) C.1 C.2.1 dX9_tree_50 (by decide) ?_
          refine lv_icmp_ne (tgt := 60) C.1 C.2.1 dX9_tree_52 (by decide) (fun cd => ?_) (fun cd => ?_)
          · have h := ite_f cd h
            refine lv_aload_n C.1 C.2.1 dX9_tree_60 rfl (lv_at hl 1 rfl) ?_
            refine gf_X9_36 C hw dX9_tree_61 ?_
            refine lv_iload_n C.1 C.2.1 dX9_tree_64 rfl (lv_at hl 2 rfl) ?_
            refine lv_iload C.1 C.2.1 dX9_tree_65 (lv_at hl 0 rfl) ?_
            refine lv_bipush (v := (97 : Int32)) C.1 C.2.1 dX9_tree_67 (by decide) ?_
            refine lv_isub C.1 C.2.1 dX9_tree_69 ?_
            obtain ⟨hin, h⟩ := gd_of h
            refine m_iast C hw a0_9 hin dX9_tree_70 (fun H locs hw => ?_)
            obtain ⟨σ3, eσ3, h⟩ := lt_of h
            rw [← eσ3] at hw
            refine lv_iload_n C.1 C.2.1 dX9_tree_71 rfl (lv_at hl 3 rfl) ?_
            refine lv_iload C.1 C.2.1 dX9_tree_72 (lv_at hl 0 rfl) ?_
            refine lv_bipush (v := (97 : Int32)) C.1 C.2.1 dX9_tree_74 (by decide) ?_
            refine lv_isub C.1 C.2.1 dX9_tree_76 ?_
            refine go_I hw (run_S (As := [.int _]) C hw (c_X9_armsOf C.2.2.2.2.2.2.2.2.2 _ _) mi_X9_armsOf ms_X9_armsOf lk_X9_125 (by decide) (by decide) rfl hl.1 rfl (Nat.le_of_ble_eq_true rfl) dX9_tree_77 ⟨Nat.le_refl 0, Nat.le_refl 0⟩) (fun H locs hw => ?_)
            refine lv_iconst (v := (1 : Int32)) C.1 C.2.1 dX9_tree_80 (by decide) ?_
            refine lv_isub C.1 C.2.1 dX9_tree_81 ?_
            refine lv_iadd C.1 C.2.1 dX9_tree_82 ?_
            obtain ⟨x4, ex4, h⟩ := lt_of h
            refine m_topi ex4 ?_
            refine lv_istore_n (lv' := [(2, .int _), (4, .int _), (0, .ref _), (1, .int _), (3, .int _)]) C.1 C.2.1 dX9_tree_83 rfl hl (by decide) rfl (fun ls hl => ?_)
            obtain ⟨x5, ex5, h⟩ := lt_of h
            refine m_iinc (k := 3) (lv' := [(1, .int _), (2, .int _), (4, .int _), (0, .ref _), (3, .int _)]) C (1 : Int32) (by decide) dX9_tree_84 hl rfl ex5.symm (by decide) rfl (fun ls hl => ?_)
            exact w_X9_tree_87 C hx hP hE0 hE1 hw (lv_sub hl [3, 0, 1, 4] rfl) h
          · have h := ite_t cd h
            obtain rfl := Option.some.inj h
            exact hE0 _ _ hx _ _ _ hw (lv_sub hl [4] rfl)
set_option maxRecDepth 20000 in
theorem w_X9_tree_55 {D : va_G} {cy : Nat → ClassId} {ad : Nat → Nat} {p : Program} {l : Launch} {e : Env} {R : Room} {s : State} {m : MethodId} {args : Array Value} {below : List Frame} {meth : Method} {c : Code} (C : Cx 0 D cy ad p R s m args meth c cX9_tree 5 RX9 (some .int) 1)   {v3 : Int32}  {σ : Mem} {H : Heap} {locs : List Loc} {ls : Array Slot} {r : (Int32 × Mem)} (hw : Wd 0 D cy ad s σ H locs) (hl : lv_has ls 5 [(3, .int v3)]) (h : j_X9_tree_55 v3 σ = some r) : W p l e R s m args below meth c H locs 0 0 (QI 0 D cy ad below args s r.1 r.2) (F0 m 55 ls []) := by
  unfold j_X9_tree_55 at h
  refine lv_bipush (v := (-10 : Int32)) C.1 C.2.1 dX9_tree_55 (by decide) ?_
  refine lv_iload_n C.1 C.2.1 dX9_tree_57 rfl (lv_at hl 0 rfl) ?_
  refine lv_isub C.1 C.2.1 dX9_tree_58 ?_
  exact m_iret C hw (ret_p h) dX9_tree_59
set_option maxRecDepth 20000 in
theorem w_X9_tree_107 {D : va_G} {cy : Nat → ClassId} {ad : Nat → Nat} {p : Program} {l : Launch} {e : Env} {R : Room} {s : State} {m : MethodId} {args : Array Value} {below : List Frame} {meth : Method} {c : Code} (C : Cx 0 D cy ad p R s m args meth c cX9_tree 5 RX9 (some .int) 1)   {v1 : Int32} {v3 : Int32} {σ : Mem} {Q : State → Prop} {r : (Int32 × Mem)} (hL : Lim (T := (Int32 × Mem)) (fun s => b_X9_tree_107 s.1 s.2.1 s.2.2) (v1, v3, σ) = some r) (hE0 : ∀ (v1 : Int32) (σ1 : Mem), ((v1, σ1) : (Int32 × Mem)) = r → ∀ (H : Heap) (locs : List Loc) (ls : Array Slot), Wd 0 D cy ad s σ1 H locs → lv_has ls 5 [(0, .ref (ad (0))), (1, .int v1)] → W p l e R s m args below meth c H locs 0 0 Q (F0 m 132 ls [])) (H : Heap) (locs : List Loc) (ls : Array Slot) (hw : Wd 0 D cy ad s σ H locs) (hl : lv_has ls 5 [(0, .ref (ad (0))), (1, .int v1), (3, .int v3)]) : W p l e R s m args below meth c H locs 0 0 Q (F0 m 107 ls []) := by
  refine Lim_ind hL (P := fun u => ∀ (H : Heap) (locs : List Loc) (ls : Array Slot), Wd 0 D cy ad s u.2.2 H locs → lv_has ls 5 [(0, .ref (ad (0))), (1, .int u.1), (3, .int u.2.1)] → W p l e R s m args below meth c H locs 0 0 Q (F0 m 107 ls [])) (fun u x h hx H locs ls hw hl => ?_) H locs ls hw hl
  clear hL
  obtain ⟨v1, v3, σ⟩ := u
  have h : b_X9_tree_107 v1 v3 σ = some x := h
  have hw : Wd 0 D cy ad s σ H locs := hw
  have hl : lv_has ls 5 [(0, .ref (ad (0))), (1, .int v1), (3, .int v3)] := hl
  have hP : ∀ (u : (Int32 × Int32 × Mem)), (∀ (H : Heap) (locs : List Loc) (ls : Array Slot), Wd 0 D cy ad s u.2.2 H locs → lv_has ls 5 [(0, .ref (ad (0))), (1, .int u.1), (3, .int u.2.1)] → W p l e R s m args below meth c H locs 0 0 Q (F0 m 107 ls [])) → ∀ (H : Heap) (locs : List Loc) (ls : Array Slot), Wd 0 D cy ad s u.2.2 H locs → lv_has ls 5 [(0, .ref (ad (0))), (1, .int u.1), (3, .int u.2.1)] → W p l e R s m args below meth c H locs 0 0 Q (F0 m 107 ls []) := fun _ k => k
  unfold b_X9_tree_107 at h
  refine lv_iload_n C.1 C.2.1 dX9_tree_107 rfl (lv_at hl 2 rfl) ?_
  refine lv_iload_n C.1 C.2.1 dX9_tree_108 rfl (lv_at hl 1 rfl) ?_
  refine lv_icmp_ge (tgt := 132) C.1 C.2.1 dX9_tree_109 (by decide) (fun cd => ?_) (fun cd => ?_)
  · have h := ite_t cd h
    obtain rfl := Option.some.inj h
    exact hE0 _ _ hx _ _ _ hw (lv_sub hl [0, 1] rfl)
  · have h := ite_f cd h
    refine lv_aload_n C.1 C.2.1 dX9_tree_112 rfl (lv_at hl 0 rfl) ?_
    refine gf_X9_29 C hw dX9_tree_113 ?_
    refine lv_iconst (v := (3 : Int32)) C.1 C.2.1 dX9_tree_116 (by decide) ?_
    refine lv_iload_n C.1 C.2.1 dX9_tree_117 rfl (lv_at hl 2 rfl) ?_
    refine lv_iadd C.1 C.2.1 dX9_tree_118 ?_
    refine lv_aload_n C.1 C.2.1 dX9_tree_119 rfl (lv_at hl 0 rfl) ?_
    refine gf_X9_36 C hw dX9_tree_120 ?_
    refine lv_iload_n C.1 C.2.1 dX9_tree_123 rfl (lv_at hl 2 rfl) ?_
    obtain ⟨hin, h⟩ := gd_of h
    refine m_iald C hw a0_9 hin dX9_tree_124 ?_
    obtain ⟨hin, h⟩ := gd_of h
    refine m_iast C hw a0_7 hin dX9_tree_125 (fun H locs hw => ?_)
    obtain ⟨σ7, eσ7, h⟩ := lt_of h
    rw [← eσ7] at hw
    obtain ⟨x8, ex8, h⟩ := lt_of h
    refine m_iinc (k := 2) (lv' := [(3, .int _), (0, .ref _), (1, .int _)]) C (1 : Int32) (by decide) dX9_tree_126 hl rfl ex8.symm (by decide) rfl (fun ls hl => ?_)
    refine lv_goto (tgt := 107) C.1 C.2.1 dX9_tree_129 (by decide) ?_
    obtain rfl := Option.some.inj h
    exact hP _ hx _ _ _ hw (lv_sub hl [1, 2, 0] rfl)
set_option maxRecDepth 20000 in
theorem c_X9_tree {l : Launch} {D : va_G} {cy : Nat → ClassId} {ad : Nat → Nat} (hj : InjW 0 ad)   (σ : Mem) (r : (Int32 × Mem)) (h : f_X9_tree σ = some r) : CI 0 D cy ad l yX9_tree cX9_tree 5 (some .int) 1 [.ref (ad (0))] σ r.1 r.2 := by
  refine CI.mk (by decide) hj (Nat.le_of_ble_eq_true rfl) (fun p e R s m below meth c ls C hw hl => ?_)
  have hl : lv_has ls 5 [(0, .ref (ad (0)))] := hl
  generalize ([.ref (ad (0))] : List Value).toArray = args at C ⊢
  have C : Cx 0 D cy ad p R s m args meth c cX9_tree 5 RX9 (some .int) 1 := C
  unfold f_X9_tree at h
  refine lv_iconst (v := (0 : Int32)) C.1 C.2.1 dX9_tree_0 (by decide) ?_
  refine lv_istore_n (lv' := [(1, .int _), (0, .ref _)]) C.1 C.2.1 dX9_tree_1 rfl hl (by decide) rfl (fun ls hl => ?_)
  refine lv_iconst (v := (1 : Int32)) C.1 C.2.1 dX9_tree_2 (by decide) ?_
  refine lv_istore_n (lv' := [(2, .int _), (1, .int _), (0, .ref _)]) C.1 C.2.1 dX9_tree_3 rfl hl (by decide) rfl (fun ls hl => ?_)
  refine lv_iconst (v := (0 : Int32)) C.1 C.2.1 dX9_tree_4 (by decide) ?_
  refine lv_istore_n (lv' := [(3, .int _), (2, .int _), (1, .int _), (0, .ref _)]) C.1 C.2.1 dX9_tree_5 rfl hl (by decide) rfl (fun ls hl => ?_)
  obtain ⟨r6, hL, h⟩ := bS h
  refine w_X9_tree_6 C  hL (fun y0 y1 hr H locs ls hw hl => ?_) (fun y0 y1 y2 hr H locs ls hw hl => ?_) _ _ _ hw (lv_sub hl [3, 2, 1, 0] rfl)
  · subst hr
    try dsimp only at h
    try dsimp only at hw
    try dsimp only at hl
    exact w_X9_tree_55 C hw (lv_sub hl [0] rfl) h
  · subst hr
    try dsimp only at h
    try dsimp only at hw
    try dsimp only at hl
    refine lv_iload_n C.1 C.2.1 dX9_tree_93 rfl (lv_at hl 2 rfl) ?_
    refine lv_if_le (tgt := 105) C.1 C.2.1 dX9_tree_94 (by decide) (fun cd => ?_) (fun cd => ?_)
    · have h := ite_t cd h
      refine lv_iconst (v := (0 : Int32)) C.1 C.2.1 dX9_tree_105 (by decide) ?_
      refine lv_istore_n (lv' := [(3, .int _), (0, .ref _), (1, .int _), (2, .int _)]) C.1 C.2.1 dX9_tree_106 rfl hl (by decide) rfl (fun ls hl => ?_)
      obtain ⟨r9, hL, h⟩ := bS h
      refine w_X9_tree_107 C  hL (fun y0 y1 hr H locs ls hw hl => ?_) _ _ _ hw (lv_sub hl [1, 2, 0] rfl)
      · subst hr
        try dsimp only at h
        try dsimp only at hw
        try dsimp only at hl
        refine lv_aload_n C.1 C.2.1 dX9_tree_132 rfl (lv_at hl 0 rfl) ?_
        refine gf_X9_29 C hw dX9_tree_133 ?_
        refine lv_iconst (v := (2 : Int32)) C.1 C.2.1 dX9_tree_136 (by decide) ?_
        refine lv_iload_n C.1 C.2.1 dX9_tree_137 rfl (lv_at hl 1 rfl) ?_
        have hin : vp_in (2 : Int32) 102 := (by decide : ix (2 : Int32) 102)
        refine m_iast C hw a0_7 hin dX9_tree_138 (fun H locs hw => ?_)
        obtain ⟨σ10, eσ10, h⟩ := lt_of h
        rw [← eσ10] at hw
        refine lv_aload_n C.1 C.2.1 dX9_tree_139 rfl (lv_at hl 0 rfl) ?_
        refine lv_iconst (v := (0 : Int32)) C.1 C.2.1 dX9_tree_140 (by decide) ?_
        refine pf_X9_92 C hw dX9_tree_141 (fun H locs hw => ?_)
        obtain ⟨σ11, eσ11, h⟩ := lt_of h
        rw [← eσ11] at hw
        refine lv_iload_n C.1 C.2.1 dX9_tree_144 rfl (lv_at hl 1 rfl) ?_
        exact m_iret C hw (ret_p h) dX9_tree_145
    · have h := ite_f cd h
      refine lv_bipush (v := (-10 : Int32)) C.1 C.2.1 dX9_tree_97 (by decide) ?_
      refine lv_aload_n C.1 C.2.1 dX9_tree_99 rfl (lv_at hl 0 rfl) ?_
      refine gf_X9_92 C hw dX9_tree_100 ?_
      refine lv_isub C.1 C.2.1 dX9_tree_103 ?_
      exact m_iret C hw (ret_p h) dX9_tree_104
noncomputable def f_X9_isRule (a1 : Int32) (σ : Mem) : Option Int32 :=
  gd ((f_X9_in a1 (0 : Int32) ((σ.1 2 (0 : Int32).toNatClampNeg) - (1 : Int32))) &&& 1 = (f_X9_in a1 (0 : Int32) ((σ.1 2 (0 : Int32).toNatClampNeg) - (1 : Int32)))) (some (f_X9_in a1 (0 : Int32) ((σ.1 2 (0 : Int32).toNatClampNeg) - (1 : Int32))))
set_option maxRecDepth 20000 in
theorem c_X9_isRule {l : Launch} {D : va_G} {cy : Nat → ClassId} {ad : Nat → Nat} (hj : InjW 0 ad) (a1 : Int32)  (σ : Mem) (r : Int32) (h : f_X9_isRule a1 σ = some r) : CI 0 D cy ad l yX9_isRule cX9_isRule 2 (some .boolean) 1 [.ref (ad (0)), .int a1] σ r σ := by
  refine CI.mk (by decide) hj (Nat.le_of_ble_eq_true rfl) (fun p e R s m below meth c ls C hw hl => ?_)
  have hl : lv_has ls 2 [(0, .ref (ad (0))), (1, .int a1)] := hl
  generalize ([.ref (ad (0)), .int a1] : List Value).toArray = args at C ⊢
  have C : Cx 0 D cy ad p R s m args meth c cX9_isRule 2 RX9 (some .boolean) 1 := C
  unfold f_X9_isRule at h
  refine lv_iload_n C.1 C.2.1 dX9_isRule_0 rfl (lv_at hl 1 rfl) ?_
  refine lv_iconst (v := (0 : Int32)) C.1 C.2.1 dX9_isRule_1 (by decide) ?_
  refine lv_aload_n C.1 C.2.1 dX9_isRule_2 rfl (lv_at hl 0 rfl) ?_
  refine gf_X9_13 C hw dX9_isRule_3 ?_
  refine lv_iconst (v := (0 : Int32)) C.1 C.2.1 dX9_isRule_6 (by decide) ?_
  have hin : vp_in (0 : Int32) 2 := (by decide : ix (0 : Int32) 2)
  refine m_iald C hw a0_2 hin dX9_isRule_7 ?_
  refine lv_iconst (v := (1 : Int32)) C.1 C.2.1 dX9_isRule_8 (by decide) ?_
  refine lv_isub C.1 C.2.1 dX9_isRule_9 ?_
  refine go_I hw (run_S (As := [.int _, .int _, .int _]) C hw (c_X9_in C.2.2.2.2.2.2.2.2.2 _ _ _ _) mi_X9_in ms_X9_in lk_X9_88 (by decide) (by decide) rfl hl.1 rfl (Nat.le_of_ble_eq_true rfl) dX9_isRule_10 ⟨Nat.le_refl 0, Nat.le_refl 0⟩) (fun H locs hw => ?_)
  obtain ⟨hz, h⟩ := gd_of h
  exact m_zret C hw hz (ret_i h) dX9_isRule_13
noncomputable def f_X9_rule (a1 : Int32) (a2 : Int32) (σ : Mem) : Option Int32 :=
  (f_X9_isRule a1 σ).bind (fun r1 => if r1 = 0 then (some (-1 : Int32)) else (if (f_X9_in a2 (0 : Int32) (4 : Int32)) = 0 then (some (-1 : Int32)) else (if a2 = 0 then (gd (ix a1 32) (some (σ.1 3 a1.toNatClampNeg))) else (if a2 = (1 : Int32) then (gd (ix a1 32) (some (σ.1 4 a1.toNatClampNeg))) else (if a2 = (2 : Int32) then (gd (ix a1 32) (some (σ.1 5 a1.toNatClampNeg))) else (if a2 = (3 : Int32) then (gd (ix a1 32) (some (σ.1 6 a1.toNatClampNeg))) else (some (((σ.1 7 (0 : Int32).toNatClampNeg) >>> (a1 &&& 31)) &&& (1 : Int32)))))))))
set_option maxRecDepth 20000 in
theorem c_X9_rule {l : Launch} {D : va_G} {cy : Nat → ClassId} {ad : Nat → Nat} (hj : InjW 0 ad) (a1 : Int32) (a2 : Int32)  (σ : Mem) (r : Int32) (h : f_X9_rule a1 a2 σ = some r) : CI 0 D cy ad l yX9_rule cX9_rule 3 (some .int) 2 [.ref (ad (0)), .int a1, .int a2] σ r σ := by
  refine CI.mk (by decide) hj (Nat.le_of_ble_eq_true rfl) (fun p e R s m below meth c ls C hw hl => ?_)
  have hl : lv_has ls 3 [(0, .ref (ad (0))), (1, .int a1), (2, .int a2)] := hl
  generalize ([.ref (ad (0)), .int a1, .int a2] : List Value).toArray = args at C ⊢
  have C : Cx 0 D cy ad p R s m args meth c cX9_rule 3 RX9 (some .int) 2 := C
  unfold f_X9_rule at h
  refine lv_aload_n C.1 C.2.1 dX9_rule_0 rfl (lv_at hl 0 rfl) ?_
  refine lv_iload_n C.1 C.2.1 dX9_rule_1 rfl (lv_at hl 1 rfl) ?_
  obtain ⟨r1, h1, h⟩ := bS h
  refine go_I hw (run_V (As := [.int _]) C hw (c_X9_isRule C.2.2.2.2.2.2.2.2.2 _ _ _ h1) mi_X9_isRule mv_X9_isRule o0_0 (ci := 9) rfl rfl lk_X9_138 (by decide) (by decide) rfl hl.1 rfl (Nat.le_of_ble_eq_true rfl) dX9_rule_2 ⟨Nat.le_refl 0, Nat.le_refl 0⟩) (fun H locs hw => ?_)
  refine lv_if_eq (tgt := 17) C.1 C.2.1 dX9_rule_5 (by decide) (fun cd => ?_) (fun cd => ?_)
  · have h := ite_t cd h
    refine lv_iconst (v := (-1 : Int32)) C.1 C.2.1 dX9_rule_17 (by decide) ?_
    exact m_iret C hw (ret_i h) dX9_rule_18
  · have h := ite_f cd h
    refine lv_iload_n C.1 C.2.1 dX9_rule_8 rfl (lv_at hl 2 rfl) ?_
    refine lv_iconst (v := (0 : Int32)) C.1 C.2.1 dX9_rule_9 (by decide) ?_
    refine lv_iconst (v := (4 : Int32)) C.1 C.2.1 dX9_rule_10 (by decide) ?_
    refine go_I hw (run_S (As := [.int _, .int _, .int _]) C hw (c_X9_in C.2.2.2.2.2.2.2.2.2 _ _ _ _) mi_X9_in ms_X9_in lk_X9_88 (by decide) (by decide) rfl hl.1 rfl (Nat.le_of_ble_eq_true rfl) dX9_rule_11 ⟨Nat.le_refl 0, Nat.le_refl 0⟩) (fun H locs hw => ?_)
    refine lv_if_ne (tgt := 19) C.1 C.2.1 dX9_rule_14 (by decide) (fun cd => ?_) (fun cd => ?_)
    · have h := ite_f cd h
      refine lv_iload_n C.1 C.2.1 dX9_rule_19 rfl (lv_at hl 2 rfl) ?_
      refine lv_if_ne (tgt := 32) C.1 C.2.1 dX9_rule_20 (by decide) (fun cd => ?_) (fun cd => ?_)
      · have h := ite_f cd h
        refine lv_iload_n C.1 C.2.1 dX9_rule_32 rfl (lv_at hl 2 rfl) ?_
        refine lv_iconst (v := (1 : Int32)) C.1 C.2.1 dX9_rule_33 (by decide) ?_
        refine lv_icmp_ne (tgt := 46) C.1 C.2.1 dX9_rule_34 (by decide) (fun cd => ?_) (fun cd => ?_)
        · have h := ite_f cd h
          refine lv_iload_n C.1 C.2.1 dX9_rule_46 rfl (lv_at hl 2 rfl) ?_
          refine lv_iconst (v := (2 : Int32)) C.1 C.2.1 dX9_rule_47 (by decide) ?_
          refine lv_icmp_ne (tgt := 60) C.1 C.2.1 dX9_rule_48 (by decide) (fun cd => ?_) (fun cd => ?_)
          · have h := ite_f cd h
            refine lv_iload_n C.1 C.2.1 dX9_rule_60 rfl (lv_at hl 2 rfl) ?_
            refine lv_iconst (v := (3 : Int32)) C.1 C.2.1 dX9_rule_61 (by decide) ?_
            refine lv_icmp_ne (tgt := 74) C.1 C.2.1 dX9_rule_62 (by decide) (fun cd => ?_) (fun cd => ?_)
            · have h := ite_f cd h
              refine lv_aload_n C.1 C.2.1 dX9_rule_74 rfl (lv_at hl 0 rfl) ?_
              refine gf_X9_29 C hw dX9_rule_75 ?_
              refine lv_iconst (v := (0 : Int32)) C.1 C.2.1 dX9_rule_78 (by decide) ?_
              have hin : vp_in (0 : Int32) 102 := (by decide : ix (0 : Int32) 102)
              refine m_iald C hw a0_7 hin dX9_rule_79 ?_
              refine lv_iload_n C.1 C.2.1 dX9_rule_80 rfl (lv_at hl 1 rfl) ?_
              refine lv_ishr C.1 C.2.1 dX9_rule_81 ?_
              refine lv_iconst (v := (1 : Int32)) C.1 C.2.1 dX9_rule_82 (by decide) ?_
              refine lv_iand C.1 C.2.1 dX9_rule_83 ?_
              exact m_iret C hw (ret_i h) dX9_rule_84
            · have h := ite_t cd h
              refine lv_aload_n C.1 C.2.1 dX9_rule_65 rfl (lv_at hl 0 rfl) ?_
              refine gf_X9_26 C hw dX9_rule_66 ?_
              refine lv_iload_n C.1 C.2.1 dX9_rule_69 rfl (lv_at hl 1 rfl) ?_
              obtain ⟨hin, h⟩ := gd_of h
              refine m_iald C hw a0_6 hin dX9_rule_70 ?_
              refine lv_goto (tgt := 84) C.1 C.2.1 dX9_rule_71 (by decide) ?_
              exact m_iret C hw (ret_i h) dX9_rule_84
          · have h := ite_t cd h
            refine lv_aload_n C.1 C.2.1 dX9_rule_51 rfl (lv_at hl 0 rfl) ?_
            refine gf_X9_23 C hw dX9_rule_52 ?_
            refine lv_iload_n C.1 C.2.1 dX9_rule_55 rfl (lv_at hl 1 rfl) ?_
            obtain ⟨hin, h⟩ := gd_of h
            refine m_iald C hw a0_5 hin dX9_rule_56 ?_
            refine lv_goto (tgt := 84) C.1 C.2.1 dX9_rule_57 (by decide) ?_
            exact m_iret C hw (ret_i h) dX9_rule_84
        · have h := ite_t cd h
          refine lv_aload_n C.1 C.2.1 dX9_rule_37 rfl (lv_at hl 0 rfl) ?_
          refine gf_X9_20 C hw dX9_rule_38 ?_
          refine lv_iload_n C.1 C.2.1 dX9_rule_41 rfl (lv_at hl 1 rfl) ?_
          obtain ⟨hin, h⟩ := gd_of h
          refine m_iald C hw a0_4 hin dX9_rule_42 ?_
          refine lv_goto (tgt := 84) C.1 C.2.1 dX9_rule_43 (by decide) ?_
          exact m_iret C hw (ret_i h) dX9_rule_84
      · have h := ite_t cd h
        refine lv_aload_n C.1 C.2.1 dX9_rule_23 rfl (lv_at hl 0 rfl) ?_
        refine gf_X9_17 C hw dX9_rule_24 ?_
        refine lv_iload_n C.1 C.2.1 dX9_rule_27 rfl (lv_at hl 1 rfl) ?_
        obtain ⟨hin, h⟩ := gd_of h
        refine m_iald C hw a0_3 hin dX9_rule_28 ?_
        refine lv_goto (tgt := 84) C.1 C.2.1 dX9_rule_29 (by decide) ?_
        exact m_iret C hw (ret_i h) dX9_rule_84
    · have h := ite_t cd h
      refine lv_iconst (v := (-1 : Int32)) C.1 C.2.1 dX9_rule_17 (by decide) ?_
      exact m_iret C hw (ret_i h) dX9_rule_18
noncomputable def f_X9_turn (a1 : Int32) (a2 : Int32) (σ : Mem) : Option (Int32 × Mem) :=
  (f_X9_isRule a1 σ).bind (fun r1 => if r1 = 0 then (some ((-1 : Int32), σ)) else (if (f_X9_in a2 (0 : Int32) (1 : Int32)) = 0 then (some ((-1 : Int32), σ)) else (lt (((σ.1 7 (0 : Int32).toNatClampNeg) >>> (a1 &&& 31)) &&& (1 : Int32)) (fun x2 => lt (sI σ 7 (0 : Int32).toNatClampNeg (((σ.1 7 (0 : Int32).toNatClampNeg) &&& (((1 : Int32) <<< (a1 &&& 31)) ^^^ (-1 : Int32))) ||| (a2 <<< (a1 &&& 31)))) (fun σ3 => some (x2, σ3))))))
set_option maxRecDepth 20000 in
theorem c_X9_turn {l : Launch} {D : va_G} {cy : Nat → ClassId} {ad : Nat → Nat} (hj : InjW 0 ad) (a1 : Int32) (a2 : Int32)  (σ : Mem) (r : (Int32 × Mem)) (h : f_X9_turn a1 a2 σ = some r) : CI 0 D cy ad l yX9_turn cX9_turn 4 (some .int) 2 [.ref (ad (0)), .int a1, .int a2] σ r.1 r.2 := by
  refine CI.mk (by decide) hj (Nat.le_of_ble_eq_true rfl) (fun p e R s m below meth c ls C hw hl => ?_)
  have hl : lv_has ls 4 [(0, .ref (ad (0))), (1, .int a1), (2, .int a2)] := hl
  generalize ([.ref (ad (0)), .int a1, .int a2] : List Value).toArray = args at C ⊢
  have C : Cx 0 D cy ad p R s m args meth c cX9_turn 4 RX9 (some .int) 2 := C
  unfold f_X9_turn at h
  refine lv_aload_n C.1 C.2.1 dX9_turn_0 rfl (lv_at hl 0 rfl) ?_
  refine lv_iload_n C.1 C.2.1 dX9_turn_1 rfl (lv_at hl 1 rfl) ?_
  obtain ⟨r1, h1, h⟩ := bS h
  refine go_I hw (run_V (As := [.int _]) C hw (c_X9_isRule C.2.2.2.2.2.2.2.2.2 _ _ _ h1) mi_X9_isRule mv_X9_isRule o0_0 (ci := 9) rfl rfl lk_X9_138 (by decide) (by decide) rfl hl.1 rfl (Nat.le_of_ble_eq_true rfl) dX9_turn_2 ⟨Nat.le_refl 0, Nat.le_refl 0⟩) (fun H locs hw => ?_)
  refine lv_if_eq (tgt := 17) C.1 C.2.1 dX9_turn_5 (by decide) (fun cd => ?_) (fun cd => ?_)
  · have h := ite_t cd h
    refine lv_iconst (v := (-1 : Int32)) C.1 C.2.1 dX9_turn_17 (by decide) ?_
    exact m_iret C hw (ret_p h) dX9_turn_18
  · have h := ite_f cd h
    refine lv_iload_n C.1 C.2.1 dX9_turn_8 rfl (lv_at hl 2 rfl) ?_
    refine lv_iconst (v := (0 : Int32)) C.1 C.2.1 dX9_turn_9 (by decide) ?_
    refine lv_iconst (v := (1 : Int32)) C.1 C.2.1 dX9_turn_10 (by decide) ?_
    refine go_I hw (run_S (As := [.int _, .int _, .int _]) C hw (c_X9_in C.2.2.2.2.2.2.2.2.2 _ _ _ _) mi_X9_in ms_X9_in lk_X9_88 (by decide) (by decide) rfl hl.1 rfl (Nat.le_of_ble_eq_true rfl) dX9_turn_11 ⟨Nat.le_refl 0, Nat.le_refl 0⟩) (fun H locs hw => ?_)
    refine lv_if_ne (tgt := 19) C.1 C.2.1 dX9_turn_14 (by decide) (fun cd => ?_) (fun cd => ?_)
    · have h := ite_f cd h
      refine lv_aload_n C.1 C.2.1 dX9_turn_19 rfl (lv_at hl 0 rfl) ?_
      refine gf_X9_29 C hw dX9_turn_20 ?_
      refine lv_iconst (v := (0 : Int32)) C.1 C.2.1 dX9_turn_23 (by decide) ?_
      have hin : vp_in (0 : Int32) 102 := (by decide : ix (0 : Int32) 102)
      refine m_iald C hw a0_7 hin dX9_turn_24 ?_
      refine lv_iload_n C.1 C.2.1 dX9_turn_25 rfl (lv_at hl 1 rfl) ?_
      refine lv_ishr C.1 C.2.1 dX9_turn_26 ?_
      refine lv_iconst (v := (1 : Int32)) C.1 C.2.1 dX9_turn_27 (by decide) ?_
      refine lv_iand C.1 C.2.1 dX9_turn_28 ?_
      obtain ⟨x2, ex2, h⟩ := lt_of h
      refine m_topi ex2 ?_
      refine lv_istore_n (lv' := [(3, .int _), (0, .ref _), (1, .int _), (2, .int _)]) C.1 C.2.1 dX9_turn_29 rfl hl (by decide) rfl (fun ls hl => ?_)
      refine lv_aload_n C.1 C.2.1 dX9_turn_30 rfl (lv_at hl 1 rfl) ?_
      refine gf_X9_29 C hw dX9_turn_31 ?_
      refine lv_iconst (v := (0 : Int32)) C.1 C.2.1 dX9_turn_34 (by decide) ?_
      refine lv_aload_n C.1 C.2.1 dX9_turn_35 rfl (lv_at hl 1 rfl) ?_
      refine gf_X9_29 C hw dX9_turn_36 ?_
      refine lv_iconst (v := (0 : Int32)) C.1 C.2.1 dX9_turn_39 (by decide) ?_
      have hin : vp_in (0 : Int32) 102 := (by decide : ix (0 : Int32) 102)
      refine m_iald C hw a0_7 hin dX9_turn_40 ?_
      refine lv_iconst (v := (1 : Int32)) C.1 C.2.1 dX9_turn_41 (by decide) ?_
      refine lv_iload_n C.1 C.2.1 dX9_turn_42 rfl (lv_at hl 2 rfl) ?_
      refine lv_ishl C.1 C.2.1 dX9_turn_43 ?_
      refine lv_iconst (v := (-1 : Int32)) C.1 C.2.1 dX9_turn_44 (by decide) ?_
      refine lv_ixor C.1 C.2.1 dX9_turn_45 ?_
      refine lv_iand C.1 C.2.1 dX9_turn_46 ?_
      refine lv_iload_n C.1 C.2.1 dX9_turn_47 rfl (lv_at hl 3 rfl) ?_
      refine lv_iload_n C.1 C.2.1 dX9_turn_48 rfl (lv_at hl 2 rfl) ?_
      refine lv_ishl C.1 C.2.1 dX9_turn_49 ?_
      refine lv_ior C.1 C.2.1 dX9_turn_50 ?_
      have hin : vp_in (0 : Int32) 102 := (by decide : ix (0 : Int32) 102)
      refine m_iast C hw a0_7 hin dX9_turn_51 (fun H locs hw => ?_)
      obtain ⟨σ3, eσ3, h⟩ := lt_of h
      rw [← eσ3] at hw
      refine lv_iload_n C.1 C.2.1 dX9_turn_52 rfl (lv_at hl 0 rfl) ?_
      exact m_iret C hw (ret_p h) dX9_turn_53
    · have h := ite_t cd h
      refine lv_iconst (v := (-1 : Int32)) C.1 C.2.1 dX9_turn_17 (by decide) ?_
      exact m_iret C hw (ret_p h) dX9_turn_18
noncomputable def f_X9_good (a1 : Int32) (a2 : Int32) (σ : Mem) : Option (Int32 × Mem) :=
  if (f_X9_in a1 (0 : Int32) (5 : Int32)) = 0 then (some ((-1 : Int32), σ)) else (if (f_X9_in a2 (0 : Int32) (1 : Int32)) = 0 then (some ((-1 : Int32), σ)) else (lt (((σ.1 7 (1 : Int32).toNatClampNeg) >>> (a1 &&& 31)) &&& (1 : Int32)) (fun x1 => lt (sI σ 7 (1 : Int32).toNatClampNeg (((σ.1 7 (1 : Int32).toNatClampNeg) &&& (((1 : Int32) <<< (a1 &&& 31)) ^^^ (-1 : Int32))) ||| (a2 <<< (a1 &&& 31)))) (fun σ2 => some (x1, σ2)))))
set_option maxRecDepth 20000 in
theorem c_X9_good {l : Launch} {D : va_G} {cy : Nat → ClassId} {ad : Nat → Nat} (hj : InjW 0 ad) (a1 : Int32) (a2 : Int32)  (σ : Mem) (r : (Int32 × Mem)) (h : f_X9_good a1 a2 σ = some r) : CI 0 D cy ad l yX9_good cX9_good 4 (some .int) 1 [.ref (ad (0)), .int a1, .int a2] σ r.1 r.2 := by
  refine CI.mk (by decide) hj (Nat.le_of_ble_eq_true rfl) (fun p e R s m below meth c ls C hw hl => ?_)
  have hl : lv_has ls 4 [(0, .ref (ad (0))), (1, .int a1), (2, .int a2)] := hl
  generalize ([.ref (ad (0)), .int a1, .int a2] : List Value).toArray = args at C ⊢
  have C : Cx 0 D cy ad p R s m args meth c cX9_good 4 RX9 (some .int) 1 := C
  unfold f_X9_good at h
  refine lv_iload_n C.1 C.2.1 dX9_good_0 rfl (lv_at hl 1 rfl) ?_
  refine lv_iconst (v := (0 : Int32)) C.1 C.2.1 dX9_good_1 (by decide) ?_
  refine lv_iconst (v := (5 : Int32)) C.1 C.2.1 dX9_good_2 (by decide) ?_
  refine go_I hw (run_S (As := [.int _, .int _, .int _]) C hw (c_X9_in C.2.2.2.2.2.2.2.2.2 _ _ _ _) mi_X9_in ms_X9_in lk_X9_88 (by decide) (by decide) rfl hl.1 rfl (Nat.le_of_ble_eq_true rfl) dX9_good_3 ⟨Nat.le_refl 0, Nat.le_refl 0⟩) (fun H locs hw => ?_)
  refine lv_if_eq (tgt := 18) C.1 C.2.1 dX9_good_6 (by decide) (fun cd => ?_) (fun cd => ?_)
  · have h := ite_t cd h
    refine lv_iconst (v := (-1 : Int32)) C.1 C.2.1 dX9_good_18 (by decide) ?_
    exact m_iret C hw (ret_p h) dX9_good_19
  · have h := ite_f cd h
    refine lv_iload_n C.1 C.2.1 dX9_good_9 rfl (lv_at hl 2 rfl) ?_
    refine lv_iconst (v := (0 : Int32)) C.1 C.2.1 dX9_good_10 (by decide) ?_
    refine lv_iconst (v := (1 : Int32)) C.1 C.2.1 dX9_good_11 (by decide) ?_
    refine go_I hw (run_S (As := [.int _, .int _, .int _]) C hw (c_X9_in C.2.2.2.2.2.2.2.2.2 _ _ _ _) mi_X9_in ms_X9_in lk_X9_88 (by decide) (by decide) rfl hl.1 rfl (Nat.le_of_ble_eq_true rfl) dX9_good_12 ⟨Nat.le_refl 0, Nat.le_refl 0⟩) (fun H locs hw => ?_)
    refine lv_if_ne (tgt := 20) C.1 C.2.1 dX9_good_15 (by decide) (fun cd => ?_) (fun cd => ?_)
    · have h := ite_f cd h
      refine lv_aload_n C.1 C.2.1 dX9_good_20 rfl (lv_at hl 0 rfl) ?_
      refine gf_X9_29 C hw dX9_good_21 ?_
      refine lv_iconst (v := (1 : Int32)) C.1 C.2.1 dX9_good_24 (by decide) ?_
      have hin : vp_in (1 : Int32) 102 := (by decide : ix (1 : Int32) 102)
      refine m_iald C hw a0_7 hin dX9_good_25 ?_
      refine lv_iload_n C.1 C.2.1 dX9_good_26 rfl (lv_at hl 1 rfl) ?_
      refine lv_ishr C.1 C.2.1 dX9_good_27 ?_
      refine lv_iconst (v := (1 : Int32)) C.1 C.2.1 dX9_good_28 (by decide) ?_
      refine lv_iand C.1 C.2.1 dX9_good_29 ?_
      obtain ⟨x1, ex1, h⟩ := lt_of h
      refine m_topi ex1 ?_
      refine lv_istore_n (lv' := [(3, .int _), (0, .ref _), (1, .int _), (2, .int _)]) C.1 C.2.1 dX9_good_30 rfl hl (by decide) rfl (fun ls hl => ?_)
      refine lv_aload_n C.1 C.2.1 dX9_good_31 rfl (lv_at hl 1 rfl) ?_
      refine gf_X9_29 C hw dX9_good_32 ?_
      refine lv_iconst (v := (1 : Int32)) C.1 C.2.1 dX9_good_35 (by decide) ?_
      refine lv_aload_n C.1 C.2.1 dX9_good_36 rfl (lv_at hl 1 rfl) ?_
      refine gf_X9_29 C hw dX9_good_37 ?_
      refine lv_iconst (v := (1 : Int32)) C.1 C.2.1 dX9_good_40 (by decide) ?_
      have hin : vp_in (1 : Int32) 102 := (by decide : ix (1 : Int32) 102)
      refine m_iald C hw a0_7 hin dX9_good_41 ?_
      refine lv_iconst (v := (1 : Int32)) C.1 C.2.1 dX9_good_42 (by decide) ?_
      refine lv_iload_n C.1 C.2.1 dX9_good_43 rfl (lv_at hl 2 rfl) ?_
      refine lv_ishl C.1 C.2.1 dX9_good_44 ?_
      refine lv_iconst (v := (-1 : Int32)) C.1 C.2.1 dX9_good_45 (by decide) ?_
      refine lv_ixor C.1 C.2.1 dX9_good_46 ?_
      refine lv_iand C.1 C.2.1 dX9_good_47 ?_
      refine lv_iload_n C.1 C.2.1 dX9_good_48 rfl (lv_at hl 3 rfl) ?_
      refine lv_iload_n C.1 C.2.1 dX9_good_49 rfl (lv_at hl 2 rfl) ?_
      refine lv_ishl C.1 C.2.1 dX9_good_50 ?_
      refine lv_ior C.1 C.2.1 dX9_good_51 ?_
      have hin : vp_in (1 : Int32) 102 := (by decide : ix (1 : Int32) 102)
      refine m_iast C hw a0_7 hin dX9_good_52 (fun H locs hw => ?_)
      obtain ⟨σ2, eσ2, h⟩ := lt_of h
      rw [← eσ2] at hw
      refine lv_iload_n C.1 C.2.1 dX9_good_53 rfl (lv_at hl 0 rfl) ?_
      exact m_iret C hw (ret_p h) dX9_good_54
    · have h := ite_t cd h
      refine lv_iconst (v := (-1 : Int32)) C.1 C.2.1 dX9_good_18 (by decide) ?_
      exact m_iret C hw (ret_p h) dX9_good_19
noncomputable def f_X9_second (a1 : Int32) (σ : Mem) : Option Int32 :=
  gd (ix (a1 + (1 : Int32)) 32) (some ((a1 + (1 : Int32)) + (σ.1 10 (a1 + (1 : Int32)).toNatClampNeg)))
set_option maxRecDepth 20000 in
theorem c_X9_second {l : Launch} {D : va_G} {cy : Nat → ClassId} {ad : Nat → Nat} (hj : InjW 0 ad) (a1 : Int32)  (σ : Mem) (r : Int32) (h : f_X9_second a1 σ = some r) : CI 0 D cy ad l yX9_second cX9_second 2 (some .int) 0 [.ref (ad (0)), .int a1] σ r σ := by
  refine CI.mk (by decide) hj (Nat.le_of_ble_eq_true rfl) (fun p e R s m below meth c ls C hw hl => ?_)
  have hl : lv_has ls 2 [(0, .ref (ad (0))), (1, .int a1)] := hl
  generalize ([.ref (ad (0)), .int a1] : List Value).toArray = args at C ⊢
  have C : Cx 0 D cy ad p R s m args meth c cX9_second 2 RX9 (some .int) 0 := C
  unfold f_X9_second at h
  refine lv_iload_n C.1 C.2.1 dX9_second_0 rfl (lv_at hl 1 rfl) ?_
  refine lv_iconst (v := (1 : Int32)) C.1 C.2.1 dX9_second_1 (by decide) ?_
  refine lv_iadd C.1 C.2.1 dX9_second_2 ?_
  refine lv_aload_n C.1 C.2.1 dX9_second_3 rfl (lv_at hl 0 rfl) ?_
  refine gf_X9_39 C hw dX9_second_4 ?_
  refine lv_iload_n C.1 C.2.1 dX9_second_7 rfl (lv_at hl 1 rfl) ?_
  refine lv_iconst (v := (1 : Int32)) C.1 C.2.1 dX9_second_8 (by decide) ?_
  refine lv_iadd C.1 C.2.1 dX9_second_9 ?_
  obtain ⟨hin, h⟩ := gd_of h
  refine m_iald C hw a0_10 hin dX9_second_10 ?_
  refine lv_iadd C.1 C.2.1 dX9_second_11 ?_
  exact m_iret C hw (ret_i h) dX9_second_12
noncomputable def j_X9_findParts_84  (z1 : Int32) (z2 : Int32) (v1 : Int32) (σ : Mem) : Option ((Int32 × Mem) ⊕ Mem) :=
  gd (ix z1 32) (lt (sI σ 10 z1.toNatClampNeg z2) (fun σ5 => lt (v1 + (-1 : Int32)) (fun x6 => some (.inl (x6, σ5)))))
noncomputable def b_X9_findParts_9  (v1 : Int32) (σ : Mem) : Option ((Int32 × Mem) ⊕ Mem) :=
  if v1 < 0 then (some (.inr σ)) else (gd (ix ((3 : Int32) + v1) 102) (lt (f_X9_armsOf (σ.1 7 ((3 : Int32) + v1).toNatClampNeg)) (fun x2 => gd (ix v1 32) (lt (sI σ 10 v1.toNatClampNeg (1 : Int32)) (fun σ3 => if x2 = 0 then (j_X9_findParts_84 v1 (1 : Int32) v1 σ3) else (if x2 = (1 : Int32) then (gd (ix (v1 + (1 : Int32)) 32) (j_X9_findParts_84 v1 ((1 : Int32) + (σ3.1 10 (v1 + (1 : Int32)).toNatClampNeg)) v1 σ3)) else (gd (ix (v1 + (1 : Int32)) 32) ((f_X9_second v1 σ3).bind (fun r4 => gd (ix r4 32) (j_X9_findParts_84 v1 (((1 : Int32) + (σ3.1 10 (v1 + (1 : Int32)).toNatClampNeg)) + (σ3.1 10 r4.toNatClampNeg)) v1 σ3))))))))))
noncomputable def f_X9_findParts  (σ : Mem) : Option Mem :=
  lt ((σ.1 7 (2 : Int32).toNatClampNeg) - (1 : Int32)) (fun x1 => (Lim (T := Mem) (fun s => b_X9_findParts_9 s.1 s.2) (x1, σ)).bind (fun r7 => some r7))
set_option maxRecDepth 20000 in
theorem w_X9_findParts_84 {D : va_G} {cy : Nat → ClassId} {ad : Nat → Nat} {p : Program} {l : Launch} {e : Env} {R : Room} {s : State} {m : MethodId} {args : Array Value} {below : List Frame} {meth : Method} {c : Code} (C : Cx 0 D cy ad p R s m args meth c cX9_findParts 3 RX9 none 1)   {z1 : Int32} {z2 : Int32} {v1 : Int32}  {σ : Mem} {H : Heap} {locs : List Loc} {ls : Array Slot} {Q : State → Prop} {P : (Int32 × Mem) → Prop} {r : Mem} {x : (Int32 × Mem) ⊕ Mem} (hx : LimQ P r x) (hP : ∀ u, P u → ∀ (H : Heap) (locs : List Loc) (ls : Array Slot), Wd 0 D cy ad s u.2 H locs → lv_has ls 3 [(0, .ref (ad (0))), (1, .int u.1)] → W p l e R s m args below meth c H locs 0 0 Q (F0 m 9 ls [])) (hE0 : ∀ (σ1 : Mem), (σ1 : Mem) = r → ∀ (H : Heap) (locs : List Loc) (ls : Array Slot), Wd 0 D cy ad s σ1 H locs → lv_has ls 3 [] → W p l e R s m args below meth c H locs 0 0 Q (F0 m 91 ls [])) (hw : Wd 0 D cy ad s σ H locs) (hl : lv_has ls 3 [(0, .ref (ad (0))), (1, .int v1)]) (h : j_X9_findParts_84 z1 z2 v1 σ = some x) : W p l e R s m args below meth c H locs 0 0 Q (F0 m 84 ls [.int z2, .int z1, .ref (ad (10))]) := by
  unfold j_X9_findParts_84 at h
  obtain ⟨hin, h⟩ := gd_of h
  refine m_iast C hw a0_10 hin dX9_findParts_84 (fun H locs hw => ?_)
  obtain ⟨σ5, eσ5, h⟩ := lt_of h
  rw [← eσ5] at hw
  obtain ⟨x6, ex6, h⟩ := lt_of h
  refine m_iinc (k := 1) (lv' := [(1, .int _), (0, .ref _)]) C (-1 : Int32) (by decide) dX9_findParts_85 hl rfl ex6.symm (by decide) rfl (fun ls hl => ?_)
  refine lv_goto (tgt := 9) C.1 C.2.1 dX9_findParts_88 (by decide) ?_
  obtain rfl := Option.some.inj h
  exact hP _ hx _ _ _ hw (lv_sub hl [1, 0] rfl)
set_option maxRecDepth 20000 in
theorem w_X9_findParts_9 {D : va_G} {cy : Nat → ClassId} {ad : Nat → Nat} {p : Program} {l : Launch} {e : Env} {R : Room} {s : State} {m : MethodId} {args : Array Value} {below : List Frame} {meth : Method} {c : Code} (C : Cx 0 D cy ad p R s m args meth c cX9_findParts 3 RX9 none 1)   {v1 : Int32} {σ : Mem} {Q : State → Prop} {r : Mem} (hL : Lim (T := Mem) (fun s => b_X9_findParts_9 s.1 s.2) (v1, σ) = some r) (hE0 : ∀ (σ1 : Mem), (σ1 : Mem) = r → ∀ (H : Heap) (locs : List Loc) (ls : Array Slot), Wd 0 D cy ad s σ1 H locs → lv_has ls 3 [] → W p l e R s m args below meth c H locs 0 0 Q (F0 m 91 ls [])) (H : Heap) (locs : List Loc) (ls : Array Slot) (hw : Wd 0 D cy ad s σ H locs) (hl : lv_has ls 3 [(0, .ref (ad (0))), (1, .int v1)]) : W p l e R s m args below meth c H locs 0 0 Q (F0 m 9 ls []) := by
  refine Lim_ind hL (P := fun u => ∀ (H : Heap) (locs : List Loc) (ls : Array Slot), Wd 0 D cy ad s u.2 H locs → lv_has ls 3 [(0, .ref (ad (0))), (1, .int u.1)] → W p l e R s m args below meth c H locs 0 0 Q (F0 m 9 ls [])) (fun u x h hx H locs ls hw hl => ?_) H locs ls hw hl
  clear hL
  obtain ⟨v1, σ⟩ := u
  have h : b_X9_findParts_9 v1 σ = some x := h
  have hw : Wd 0 D cy ad s σ H locs := hw
  have hl : lv_has ls 3 [(0, .ref (ad (0))), (1, .int v1)] := hl
  have hP : ∀ (u : (Int32 × Mem)), (∀ (H : Heap) (locs : List Loc) (ls : Array Slot), Wd 0 D cy ad s u.2 H locs → lv_has ls 3 [(0, .ref (ad (0))), (1, .int u.1)] → W p l e R s m args below meth c H locs 0 0 Q (F0 m 9 ls [])) → ∀ (H : Heap) (locs : List Loc) (ls : Array Slot), Wd 0 D cy ad s u.2 H locs → lv_has ls 3 [(0, .ref (ad (0))), (1, .int u.1)] → W p l e R s m args below meth c H locs 0 0 Q (F0 m 9 ls []) := fun _ k => k
  unfold b_X9_findParts_9 at h
  refine lv_iload_n C.1 C.2.1 dX9_findParts_9 rfl (lv_at hl 1 rfl) ?_
  refine lv_if_lt (tgt := 91) C.1 C.2.1 dX9_findParts_10 (by decide) (fun cd => ?_) (fun cd => ?_)
  · have h := ite_t cd h
    obtain rfl := Option.some.inj h
    exact hE0 _ hx _ _ _ hw (lv_sub hl [] rfl)
  · have h := ite_f cd h
    refine lv_aload_n C.1 C.2.1 dX9_findParts_13 rfl (lv_at hl 0 rfl) ?_
    refine gf_X9_29 C hw dX9_findParts_14 ?_
    refine lv_iconst (v := (3 : Int32)) C.1 C.2.1 dX9_findParts_17 (by decide) ?_
    refine lv_iload_n C.1 C.2.1 dX9_findParts_18 rfl (lv_at hl 1 rfl) ?_
    refine lv_iadd C.1 C.2.1 dX9_findParts_19 ?_
    obtain ⟨hin, h⟩ := gd_of h
    refine m_iald C hw a0_7 hin dX9_findParts_20 ?_
    refine go_I hw (run_S (As := [.int _]) C hw (c_X9_armsOf C.2.2.2.2.2.2.2.2.2 _ _) mi_X9_armsOf ms_X9_armsOf lk_X9_125 (by decide) (by decide) rfl hl.1 rfl (Nat.le_of_ble_eq_true rfl) dX9_findParts_21 ⟨Nat.le_refl 0, Nat.le_refl 0⟩) (fun H locs hw => ?_)
    obtain ⟨x2, ex2, h⟩ := lt_of h
    refine m_topi ex2 ?_
    refine lv_istore_n (lv' := [(2, .int _), (0, .ref _), (1, .int _)]) C.1 C.2.1 dX9_findParts_24 rfl hl (by decide) rfl (fun ls hl => ?_)
    refine lv_aload_n C.1 C.2.1 dX9_findParts_25 rfl (lv_at hl 1 rfl) ?_
    refine gf_X9_39 C hw dX9_findParts_26 ?_
    refine lv_iload_n C.1 C.2.1 dX9_findParts_29 rfl (lv_at hl 2 rfl) ?_
    refine lv_iconst (v := (1 : Int32)) C.1 C.2.1 dX9_findParts_30 (by decide) ?_
    obtain ⟨hin, h⟩ := gd_of h
    refine m_iast C hw a0_10 hin dX9_findParts_31 (fun H locs hw => ?_)
    obtain ⟨σ3, eσ3, h⟩ := lt_of h
    rw [← eσ3] at hw
    refine lv_aload_n C.1 C.2.1 dX9_findParts_32 rfl (lv_at hl 1 rfl) ?_
    refine gf_X9_39 C hw dX9_findParts_33 ?_
    refine lv_iload_n C.1 C.2.1 dX9_findParts_36 rfl (lv_at hl 2 rfl) ?_
    refine lv_iload_n C.1 C.2.1 dX9_findParts_37 rfl (lv_at hl 0 rfl) ?_
    refine lv_if_ne (tgt := 45) C.1 C.2.1 dX9_findParts_38 (by decide) (fun cd => ?_) (fun cd => ?_)
    · have h := ite_f cd h
      refine lv_iload_n C.1 C.2.1 dX9_findParts_45 rfl (lv_at hl 0 rfl) ?_
      refine lv_iconst (v := (1 : Int32)) C.1 C.2.1 dX9_findParts_46 (by decide) ?_
      refine lv_icmp_ne (tgt := 63) C.1 C.2.1 dX9_findParts_47 (by decide) (fun cd => ?_) (fun cd => ?_)
      · have h := ite_f cd h
        refine lv_iconst (v := (1 : Int32)) C.1 C.2.1 dX9_findParts_63 (by decide) ?_
        refine lv_aload_n C.1 C.2.1 dX9_findParts_64 rfl (lv_at hl 1 rfl) ?_
        refine gf_X9_39 C hw dX9_findParts_65 ?_
        refine lv_iload_n C.1 C.2.1 dX9_findParts_68 rfl (lv_at hl 2 rfl) ?_
        refine lv_iconst (v := (1 : Int32)) C.1 C.2.1 dX9_findParts_69 (by decide) ?_
        refine lv_iadd C.1 C.2.1 dX9_findParts_70 ?_
        obtain ⟨hin, h⟩ := gd_of h
        refine m_iald C hw a0_10 hin dX9_findParts_71 ?_
        refine lv_iadd C.1 C.2.1 dX9_findParts_72 ?_
        refine lv_aload_n C.1 C.2.1 dX9_findParts_73 rfl (lv_at hl 1 rfl) ?_
        refine gf_X9_39 C hw dX9_findParts_74 ?_
        refine lv_aload_n C.1 C.2.1 dX9_findParts_77 rfl (lv_at hl 1 rfl) ?_
        refine lv_iload_n C.1 C.2.1 dX9_findParts_78 rfl (lv_at hl 2 rfl) ?_
        obtain ⟨r4, h1, h⟩ := bS h
        refine go_I hw (run_V (As := [.int _]) C hw (c_X9_second C.2.2.2.2.2.2.2.2.2 _ _ _ h1) mi_X9_second mv_X9_second o0_0 (ci := 9) rfl rfl lk_X9_142 (by decide) (by decide) rfl hl.1 rfl (Nat.le_of_ble_eq_true rfl) dX9_findParts_79 ⟨Nat.le_refl 0, Nat.le_refl 0⟩) (fun H locs hw => ?_)
        obtain ⟨hin, h⟩ := gd_of h
        refine m_iald C hw a0_10 hin dX9_findParts_82 ?_
        refine lv_iadd C.1 C.2.1 dX9_findParts_83 ?_
        exact w_X9_findParts_84 C hx hP hE0 hw (lv_sub hl [1, 2] rfl) h
      · have h := ite_t cd h
        refine lv_iconst (v := (1 : Int32)) C.1 C.2.1 dX9_findParts_50 (by decide) ?_
        refine lv_aload_n C.1 C.2.1 dX9_findParts_51 rfl (lv_at hl 1 rfl) ?_
        refine gf_X9_39 C hw dX9_findParts_52 ?_
        refine lv_iload_n C.1 C.2.1 dX9_findParts_55 rfl (lv_at hl 2 rfl) ?_
        refine lv_iconst (v := (1 : Int32)) C.1 C.2.1 dX9_findParts_56 (by decide) ?_
        refine lv_iadd C.1 C.2.1 dX9_findParts_57 ?_
        obtain ⟨hin, h⟩ := gd_of h
        refine m_iald C hw a0_10 hin dX9_findParts_58 ?_
        refine lv_iadd C.1 C.2.1 dX9_findParts_59 ?_
        refine lv_goto (tgt := 84) C.1 C.2.1 dX9_findParts_60 (by decide) ?_
        exact w_X9_findParts_84 C hx hP hE0 hw (lv_sub hl [1, 2] rfl) h
    · have h := ite_t cd h
      refine lv_iconst (v := (1 : Int32)) C.1 C.2.1 dX9_findParts_41 (by decide) ?_
      refine lv_goto (tgt := 84) C.1 C.2.1 dX9_findParts_42 (by decide) ?_
      exact w_X9_findParts_84 C hx hP hE0 hw (lv_sub hl [1, 2] rfl) h
set_option maxRecDepth 20000 in
theorem c_X9_findParts {l : Launch} {D : va_G} {cy : Nat → ClassId} {ad : Nat → Nat} (hj : InjW 0 ad)   (σ : Mem) (r : Mem) (h : f_X9_findParts σ = some r) : CV 0 D cy ad l yX9_findParts cX9_findParts 3 none 1 [.ref (ad (0))] σ r := by
  refine CV.mk (by decide) hj (Nat.le_of_ble_eq_true rfl) (fun p e R s m below meth c ls C hw hl => ?_)
  have hl : lv_has ls 3 [(0, .ref (ad (0)))] := hl
  generalize ([.ref (ad (0))] : List Value).toArray = args at C ⊢
  have C : Cx 0 D cy ad p R s m args meth c cX9_findParts 3 RX9 none 1 := C
  unfold f_X9_findParts at h
  refine lv_aload_n C.1 C.2.1 dX9_findParts_0 rfl (lv_at hl 0 rfl) ?_
  refine gf_X9_29 C hw dX9_findParts_1 ?_
  refine lv_iconst (v := (2 : Int32)) C.1 C.2.1 dX9_findParts_4 (by decide) ?_
  have hin : vp_in (2 : Int32) 102 := (by decide : ix (2 : Int32) 102)
  refine m_iald C hw a0_7 hin dX9_findParts_5 ?_
  refine lv_iconst (v := (1 : Int32)) C.1 C.2.1 dX9_findParts_6 (by decide) ?_
  refine lv_isub C.1 C.2.1 dX9_findParts_7 ?_
  obtain ⟨x1, ex1, h⟩ := lt_of h
  refine m_topi ex1 ?_
  refine lv_istore_n (lv' := [(1, .int _), (0, .ref _)]) C.1 C.2.1 dX9_findParts_8 rfl hl (by decide) rfl (fun ls hl => ?_)
  obtain ⟨r7, hL, h⟩ := bS h
  refine w_X9_findParts_9 C  hL (fun y0 hr H locs ls hw hl => ?_) _ _ _ hw (lv_sub hl [1, 0] rfl)
  · subst hr
    try dsimp only at h
    try dsimp only at hw
    try dsimp only at hl
    exact m_vret C hw (Option.some.inj h) dX9_findParts_91
def f_X9_has (a0 : Int32) (a1 : Int32) : Int32 :=
  if ((a0 >>> (a1 &&& 31)) &&& (1 : Int32)) = (1 : Int32) then ((1 : Int32)) else ((0 : Int32))
set_option maxRecDepth 20000 in
theorem c_X9_has {l : Launch} {D : va_G} {cy : Nat → ClassId} {ad : Nat → Nat} (hj : InjW 0 ad) (a0 : Int32) (a1 : Int32)  (σ : Mem) : CI 0 D cy ad l yX9_has cX9_has 2 (some .boolean) 0 [.int a0, .int a1] σ (f_X9_has a0 a1) σ := by
  refine CI.mk (by decide) hj (Nat.le_of_ble_eq_true rfl) (fun p e R s m below meth c ls C hw hl => ?_)
  have hl : lv_has ls 2 [(0, .int a0), (1, .int a1)] := hl
  generalize ([.int a0, .int a1] : List Value).toArray = args at C ⊢
  have C : Cx 0 D cy ad p R s m args meth c cX9_has 2 RX9 (some .boolean) 0 := C
  obtain ⟨r, h⟩ : ∃ r, f_X9_has a0 a1 = r := ⟨_, rfl⟩
  rw [h]
  unfold f_X9_has at h
  refine lv_iload_n C.1 C.2.1 dX9_has_0 rfl (lv_at hl 0 rfl) ?_
  refine lv_iload_n C.1 C.2.1 dX9_has_1 rfl (lv_at hl 1 rfl) ?_
  refine lv_ishr C.1 C.2.1 dX9_has_2 ?_
  refine lv_iconst (v := (1 : Int32)) C.1 C.2.1 dX9_has_3 (by decide) ?_
  refine lv_iand C.1 C.2.1 dX9_has_4 ?_
  refine lv_iconst (v := (1 : Int32)) C.1 C.2.1 dX9_has_5 (by decide) ?_
  refine lv_icmp_ne (tgt := 13) C.1 C.2.1 dX9_has_6 (by decide) (fun cd => ?_) (fun cd => ?_)
  · have h := ite_f cd h
    refine lv_iconst (v := (0 : Int32)) C.1 C.2.1 dX9_has_13 (by decide) ?_
    exact m_zret C hw (by decide) ⟨h, rfl⟩ dX9_has_14
  · have h := ite_t cd h
    refine lv_iconst (v := (1 : Int32)) C.1 C.2.1 dX9_has_9 (by decide) ?_
    refine lv_goto (tgt := 14) C.1 C.2.1 dX9_has_10 (by decide) ?_
    exact m_zret C hw (by decide) ⟨h, rfl⟩ dX9_has_14
noncomputable def j_X9_makesOf_123 (a1 : Int32) (a2 : Int32) (a3 : Int32) (a4 : Int32) (z0 : Int32) (z1 : Int32) (v6 : Int32) (v7 : Int32) (σ : Mem) : Option ((Int32 × Int32 × Int32) ⊕ Int32) :=
  lt (z0 ||| z1) (fun x2 => lt (v7 + (1 : Int32)) (fun x3 => some (.inl (x2, v6, x3))))
noncomputable def j_X9_makesOf_101 (a1 : Int32) (a2 : Int32) (a3 : Int32) (a4 : Int32) (z0 : Int32) (v5 : Int32) (v6 : Int32) (v7 : Int32) (σ : Mem) : Option ((Int32 × Int32 × Int32) ⊕ Int32) :=
  if z0 = 0 then (j_X9_makesOf_123 a1 a2 a3 a4 v5 (0 : Int32) v6 v7 σ) else (gd (ix v7 32) (j_X9_makesOf_123 a1 a2 a3 a4 v5 ((1 : Int32) <<< ((σ.1 6 v7.toNatClampNeg) &&& 31)) v6 v7 σ))
noncomputable def j_X9_makesOf_100 (a1 : Int32) (a2 : Int32) (a3 : Int32) (a4 : Int32) (v5 : Int32) (v6 : Int32) (v7 : Int32) (σ : Mem) : Option ((Int32 × Int32 × Int32) ⊕ Int32) :=
  j_X9_makesOf_101 a1 a2 a3 a4 (0 : Int32) v5 v6 v7 σ
noncomputable def j_X9_makesOf_96 (a1 : Int32) (a2 : Int32) (a3 : Int32) (a4 : Int32) (v5 : Int32) (v6 : Int32) (v7 : Int32) (σ : Mem) : Option ((Int32 × Int32 × Int32) ⊕ Int32) :=
  j_X9_makesOf_101 a1 a2 a3 a4 (1 : Int32) v5 v6 v7 σ
noncomputable def j_X9_makesOf_75 (a1 : Int32) (a2 : Int32) (a3 : Int32) (a4 : Int32) (v5 : Int32) (v6 : Int32) (v7 : Int32) (σ : Mem) : Option ((Int32 × Int32 × Int32) ⊕ Int32) :=
  if v6 < (2 : Int32) then (j_X9_makesOf_96 a1 a2 a3 a4 v5 v6 v7 σ) else (gd (ix v7 32) (if (f_X9_has a4 (σ.1 5 v7.toNatClampNeg)) = 0 then (j_X9_makesOf_100 a1 a2 a3 a4 v5 v6 v7 σ) else (j_X9_makesOf_96 a1 a2 a3 a4 v5 v6 v7 σ)))
noncomputable def j_X9_makesOf_48 (a1 : Int32) (a2 : Int32) (a3 : Int32) (a4 : Int32) (z0 : Int32) (v5 : Int32) (v6 : Int32) (v7 : Int32) (σ : Mem) : Option ((Int32 × Int32 × Int32) ⊕ Int32) :=
  if z0 = 0 then (j_X9_makesOf_100 a1 a2 a3 a4 v5 v6 v7 σ) else (if v6 < (1 : Int32) then (j_X9_makesOf_75 a1 a2 a3 a4 v5 v6 v7 σ) else (gd (ix v7 32) (if (f_X9_has a3 (σ.1 4 v7.toNatClampNeg)) = 0 then (j_X9_makesOf_100 a1 a2 a3 a4 v5 v6 v7 σ) else (j_X9_makesOf_75 a1 a2 a3 a4 v5 v6 v7 σ))))
noncomputable def j_X9_makesOf_47 (a1 : Int32) (a2 : Int32) (a3 : Int32) (a4 : Int32) (v5 : Int32) (v6 : Int32) (v7 : Int32) (σ : Mem) : Option ((Int32 × Int32 × Int32) ⊕ Int32) :=
  j_X9_makesOf_48 a1 a2 a3 a4 (0 : Int32) v5 v6 v7 σ
noncomputable def b_X9_makesOf_12 (a1 : Int32) (a2 : Int32) (a3 : Int32) (a4 : Int32) (v5 : Int32) (v6 : Int32) (v7 : Int32) (σ : Mem) : Option ((Int32 × Int32 × Int32) ⊕ Int32) :=
  if (σ.1 2 (0 : Int32).toNatClampNeg) ≤ v7 then (some (.inr v5)) else (if (f_X9_has a1 v7) = 0 then (j_X9_makesOf_47 a1 a2 a3 a4 v5 v6 v7 σ) else (gd (ix v7 32) (if (σ.1 3 v7.toNatClampNeg) = a2 then (j_X9_makesOf_48 a1 a2 a3 a4 (1 : Int32) v5 v6 v7 σ) else (j_X9_makesOf_47 a1 a2 a3 a4 v5 v6 v7 σ))))
noncomputable def f_X9_makesOf (a1 : Int32) (a2 : Int32) (a3 : Int32) (a4 : Int32) (σ : Mem) : Option Int32 :=
  lt (f_X9_armsOf a2) (fun x1 => (Lim (T := Int32) (fun s => b_X9_makesOf_12 a1 a2 a3 a4 s.1 s.2.1 s.2.2 σ) ((0 : Int32), x1, (0 : Int32))).bind (fun r4 => some r4))
set_option maxRecDepth 20000 in
theorem w_X9_makesOf_123 {D : va_G} {cy : Nat → ClassId} {ad : Nat → Nat} {p : Program} {l : Launch} {e : Env} {R : Room} {s : State} {m : MethodId} {args : Array Value} {below : List Frame} {meth : Method} {c : Code} (C : Cx 0 D cy ad p R s m args meth c cX9_makesOf 9 RX9 (some .int) 1) {a1 : Int32} {a2 : Int32} {a3 : Int32} {a4 : Int32}  {z0 : Int32} {z1 : Int32} {v6 : Int32} {v7 : Int32}  {σ : Mem} {H : Heap} {locs : List Loc} {ls : Array Slot} {Q : State → Prop} {P : (Int32 × Int32 × Int32) → Prop} {r : Int32} {x : (Int32 × Int32 × Int32) ⊕ Int32} (hx : LimQ P r x) (hP : ∀ u, P u → ∀ (H : Heap) (locs : List Loc) (ls : Array Slot), Wd 0 D cy ad s σ H locs → lv_has ls 9 [(0, .ref (ad (0))), (1, .int a1), (2, .int a2), (3, .int a3), (4, .int a4), (5, .int u.1), (6, .int u.2.1), (7, .int u.2.2)] → W p l e R s m args below meth c H locs 0 0 Q (F0 m 12 ls [])) (hE0 : ∀ (v5 : Int32), (v5 : Int32) = r → ∀ (H : Heap) (locs : List Loc) (ls : Array Slot), Wd 0 D cy ad s σ H locs → lv_has ls 9 [(5, .int v5)] → W p l e R s m args below meth c H locs 0 0 Q (F0 m 132 ls [])) (hw : Wd 0 D cy ad s σ H locs) (hl : lv_has ls 9 [(0, .ref (ad (0))), (1, .int a1), (2, .int a2), (3, .int a3), (4, .int a4), (6, .int v6), (7, .int v7)]) (h : j_X9_makesOf_123 a1 a2 a3 a4 z0 z1 v6 v7 σ = some x) : W p l e R s m args below meth c H locs 0 0 Q (F0 m 123 ls [.int z1, .int z0]) := by
  unfold j_X9_makesOf_123 at h
  refine lv_ior C.1 C.2.1 dX9_makesOf_123 ?_
  obtain ⟨x2, ex2, h⟩ := lt_of h
  refine m_topi ex2 ?_
  refine lv_istore (lv' := [(5, .int _), (0, .ref _), (1, .int _), (2, .int _), (3, .int _), (4, .int _), (6, .int _), (7, .int _)]) C.1 C.2.1 dX9_makesOf_124 hl (by decide) rfl (fun ls hl => ?_)
  obtain ⟨x3, ex3, h⟩ := lt_of h
  refine m_iinc (k := 7) (lv' := [(7, .int _), (5, .int _), (0, .ref _), (1, .int _), (2, .int _), (3, .int _), (4, .int _), (6, .int _)]) C (1 : Int32) (by decide) dX9_makesOf_126 hl rfl ex3.symm (by decide) rfl (fun ls hl => ?_)
  refine lv_goto (tgt := 12) C.1 C.2.1 dX9_makesOf_129 (by decide) ?_
  obtain rfl := Option.some.inj h
  exact hP _ hx _ _ _ hw (lv_sub hl [2, 3, 4, 5, 6, 1, 7, 0] rfl)
set_option maxRecDepth 20000 in
theorem w_X9_makesOf_101 {D : va_G} {cy : Nat → ClassId} {ad : Nat → Nat} {p : Program} {l : Launch} {e : Env} {R : Room} {s : State} {m : MethodId} {args : Array Value} {below : List Frame} {meth : Method} {c : Code} (C : Cx 0 D cy ad p R s m args meth c cX9_makesOf 9 RX9 (some .int) 1) {a1 : Int32} {a2 : Int32} {a3 : Int32} {a4 : Int32}  {z0 : Int32} {v5 : Int32} {v6 : Int32} {v7 : Int32}  {σ : Mem} {H : Heap} {locs : List Loc} {ls : Array Slot} {Q : State → Prop} {P : (Int32 × Int32 × Int32) → Prop} {r : Int32} {x : (Int32 × Int32 × Int32) ⊕ Int32} (hx : LimQ P r x) (hP : ∀ u, P u → ∀ (H : Heap) (locs : List Loc) (ls : Array Slot), Wd 0 D cy ad s σ H locs → lv_has ls 9 [(0, .ref (ad (0))), (1, .int a1), (2, .int a2), (3, .int a3), (4, .int a4), (5, .int u.1), (6, .int u.2.1), (7, .int u.2.2)] → W p l e R s m args below meth c H locs 0 0 Q (F0 m 12 ls [])) (hE0 : ∀ (v5 : Int32), (v5 : Int32) = r → ∀ (H : Heap) (locs : List Loc) (ls : Array Slot), Wd 0 D cy ad s σ H locs → lv_has ls 9 [(5, .int v5)] → W p l e R s m args below meth c H locs 0 0 Q (F0 m 132 ls [])) (hw : Wd 0 D cy ad s σ H locs) (hl : lv_has ls 9 [(0, .ref (ad (0))), (1, .int a1), (2, .int a2), (3, .int a3), (4, .int a4), (5, .int v5), (6, .int v6), (7, .int v7)]) (h : j_X9_makesOf_101 a1 a2 a3 a4 z0 v5 v6 v7 σ = some x) : W p l e R s m args below meth c H locs 0 0 Q (F0 m 101 ls [.int z0]) := by
  unfold j_X9_makesOf_101 at h
  refine lv_istore (lv' := [(8, .int _), (0, .ref _), (1, .int _), (2, .int _), (3, .int _), (4, .int _), (5, .int _), (6, .int _), (7, .int _)]) C.1 C.2.1 dX9_makesOf_101 hl (by decide) rfl (fun ls hl => ?_)
  refine lv_iload C.1 C.2.1 dX9_makesOf_103 (lv_at hl 6 rfl) ?_
  refine lv_iload C.1 C.2.1 dX9_makesOf_105 (lv_at hl 0 rfl) ?_
  refine lv_if_eq (tgt := 122) C.1 C.2.1 dX9_makesOf_107 (by decide) (fun cd => ?_) (fun cd => ?_)
  · have h := ite_t cd h
    refine lv_iconst (v := (0 : Int32)) C.1 C.2.1 dX9_makesOf_122 (by decide) ?_
    exact w_X9_makesOf_123 C hx hP hE0 hw (lv_sub hl [1, 2, 3, 4, 5, 7, 8] rfl) h
  · have h := ite_f cd h
    refine lv_iconst (v := (1 : Int32)) C.1 C.2.1 dX9_makesOf_110 (by decide) ?_
    refine lv_aload_n C.1 C.2.1 dX9_makesOf_111 rfl (lv_at hl 1 rfl) ?_
    refine gf_X9_26 C hw dX9_makesOf_112 ?_
    refine lv_iload C.1 C.2.1 dX9_makesOf_115 (lv_at hl 8 rfl) ?_
    obtain ⟨hin, h⟩ := gd_of h
    refine m_iald C hw a0_6 hin dX9_makesOf_117 ?_
    refine lv_ishl C.1 C.2.1 dX9_makesOf_118 ?_
    refine lv_goto (tgt := 123) C.1 C.2.1 dX9_makesOf_119 (by decide) ?_
    exact w_X9_makesOf_123 C hx hP hE0 hw (lv_sub hl [1, 2, 3, 4, 5, 7, 8] rfl) h
set_option maxRecDepth 20000 in
theorem w_X9_makesOf_100 {D : va_G} {cy : Nat → ClassId} {ad : Nat → Nat} {p : Program} {l : Launch} {e : Env} {R : Room} {s : State} {m : MethodId} {args : Array Value} {below : List Frame} {meth : Method} {c : Code} (C : Cx 0 D cy ad p R s m args meth c cX9_makesOf 9 RX9 (some .int) 1) {a1 : Int32} {a2 : Int32} {a3 : Int32} {a4 : Int32}  {v5 : Int32} {v6 : Int32} {v7 : Int32}  {σ : Mem} {H : Heap} {locs : List Loc} {ls : Array Slot} {Q : State → Prop} {P : (Int32 × Int32 × Int32) → Prop} {r : Int32} {x : (Int32 × Int32 × Int32) ⊕ Int32} (hx : LimQ P r x) (hP : ∀ u, P u → ∀ (H : Heap) (locs : List Loc) (ls : Array Slot), Wd 0 D cy ad s σ H locs → lv_has ls 9 [(0, .ref (ad (0))), (1, .int a1), (2, .int a2), (3, .int a3), (4, .int a4), (5, .int u.1), (6, .int u.2.1), (7, .int u.2.2)] → W p l e R s m args below meth c H locs 0 0 Q (F0 m 12 ls [])) (hE0 : ∀ (v5 : Int32), (v5 : Int32) = r → ∀ (H : Heap) (locs : List Loc) (ls : Array Slot), Wd 0 D cy ad s σ H locs → lv_has ls 9 [(5, .int v5)] → W p l e R s m args below meth c H locs 0 0 Q (F0 m 132 ls [])) (hw : Wd 0 D cy ad s σ H locs) (hl : lv_has ls 9 [(0, .ref (ad (0))), (1, .int a1), (2, .int a2), (3, .int a3), (4, .int a4), (5, .int v5), (6, .int v6), (7, .int v7)]) (h : j_X9_makesOf_100 a1 a2 a3 a4 v5 v6 v7 σ = some x) : W p l e R s m args below meth c H locs 0 0 Q (F0 m 100 ls []) := by
  unfold j_X9_makesOf_100 at h
  refine lv_iconst (v := (0 : Int32)) C.1 C.2.1 dX9_makesOf_100 (by decide) ?_
  exact w_X9_makesOf_101 C hx hP hE0 hw (lv_sub hl [0, 1, 2, 3, 4, 5, 6, 7] rfl) h
set_option maxRecDepth 20000 in
theorem w_X9_makesOf_96 {D : va_G} {cy : Nat → ClassId} {ad : Nat → Nat} {p : Program} {l : Launch} {e : Env} {R : Room} {s : State} {m : MethodId} {args : Array Value} {below : List Frame} {meth : Method} {c : Code} (C : Cx 0 D cy ad p R s m args meth c cX9_makesOf 9 RX9 (some .int) 1) {a1 : Int32} {a2 : Int32} {a3 : Int32} {a4 : Int32}  {v5 : Int32} {v6 : Int32} {v7 : Int32}  {σ : Mem} {H : Heap} {locs : List Loc} {ls : Array Slot} {Q : State → Prop} {P : (Int32 × Int32 × Int32) → Prop} {r : Int32} {x : (Int32 × Int32 × Int32) ⊕ Int32} (hx : LimQ P r x) (hP : ∀ u, P u → ∀ (H : Heap) (locs : List Loc) (ls : Array Slot), Wd 0 D cy ad s σ H locs → lv_has ls 9 [(0, .ref (ad (0))), (1, .int a1), (2, .int a2), (3, .int a3), (4, .int a4), (5, .int u.1), (6, .int u.2.1), (7, .int u.2.2)] → W p l e R s m args below meth c H locs 0 0 Q (F0 m 12 ls [])) (hE0 : ∀ (v5 : Int32), (v5 : Int32) = r → ∀ (H : Heap) (locs : List Loc) (ls : Array Slot), Wd 0 D cy ad s σ H locs → lv_has ls 9 [(5, .int v5)] → W p l e R s m args below meth c H locs 0 0 Q (F0 m 132 ls [])) (hw : Wd 0 D cy ad s σ H locs) (hl : lv_has ls 9 [(0, .ref (ad (0))), (1, .int a1), (2, .int a2), (3, .int a3), (4, .int a4), (5, .int v5), (6, .int v6), (7, .int v7)]) (h : j_X9_makesOf_96 a1 a2 a3 a4 v5 v6 v7 σ = some x) : W p l e R s m args below meth c H locs 0 0 Q (F0 m 96 ls []) := by
  unfold j_X9_makesOf_96 at h
  refine lv_iconst (v := (1 : Int32)) C.1 C.2.1 dX9_makesOf_96 (by decide) ?_
  refine lv_goto (tgt := 101) C.1 C.2.1 dX9_makesOf_97 (by decide) ?_
  exact w_X9_makesOf_101 C hx hP hE0 hw (lv_sub hl [0, 1, 2, 3, 4, 5, 6, 7] rfl) h
set_option maxRecDepth 20000 in
theorem w_X9_makesOf_75 {D : va_G} {cy : Nat → ClassId} {ad : Nat → Nat} {p : Program} {l : Launch} {e : Env} {R : Room} {s : State} {m : MethodId} {args : Array Value} {below : List Frame} {meth : Method} {c : Code} (C : Cx 0 D cy ad p R s m args meth c cX9_makesOf 9 RX9 (some .int) 1) {a1 : Int32} {a2 : Int32} {a3 : Int32} {a4 : Int32}  {v5 : Int32} {v6 : Int32} {v7 : Int32}  {σ : Mem} {H : Heap} {locs : List Loc} {ls : Array Slot} {Q : State → Prop} {P : (Int32 × Int32 × Int32) → Prop} {r : Int32} {x : (Int32 × Int32 × Int32) ⊕ Int32} (hx : LimQ P r x) (hP : ∀ u, P u → ∀ (H : Heap) (locs : List Loc) (ls : Array Slot), Wd 0 D cy ad s σ H locs → lv_has ls 9 [(0, .ref (ad (0))), (1, .int a1), (2, .int a2), (3, .int a3), (4, .int a4), (5, .int u.1), (6, .int u.2.1), (7, .int u.2.2)] → W p l e R s m args below meth c H locs 0 0 Q (F0 m 12 ls [])) (hE0 : ∀ (v5 : Int32), (v5 : Int32) = r → ∀ (H : Heap) (locs : List Loc) (ls : Array Slot), Wd 0 D cy ad s σ H locs → lv_has ls 9 [(5, .int v5)] → W p l e R s m args below meth c H locs 0 0 Q (F0 m 132 ls [])) (hw : Wd 0 D cy ad s σ H locs) (hl : lv_has ls 9 [(0, .ref (ad (0))), (1, .int a1), (2, .int a2), (3, .int a3), (4, .int a4), (5, .int v5), (6, .int v6), (7, .int v7)]) (h : j_X9_makesOf_75 a1 a2 a3 a4 v5 v6 v7 σ = some x) : W p l e R s m args below meth c H locs 0 0 Q (F0 m 75 ls []) := by
  unfold j_X9_makesOf_75 at h
  refine lv_iload C.1 C.2.1 dX9_makesOf_75 (lv_at hl 6 rfl) ?_
  refine lv_iconst (v := (2 : Int32)) C.1 C.2.1 dX9_makesOf_77 (by decide) ?_
  refine lv_icmp_lt (tgt := 96) C.1 C.2.1 dX9_makesOf_78 (by decide) (fun cd => ?_) (fun cd => ?_)
  · have h := ite_t cd h
    exact w_X9_makesOf_96 C hx hP hE0 hw (lv_sub hl [0, 1, 2, 3, 4, 5, 6, 7] rfl) h
  · have h := ite_f cd h
    refine lv_iload C.1 C.2.1 dX9_makesOf_81 (lv_at hl 4 rfl) ?_
    refine lv_aload_n C.1 C.2.1 dX9_makesOf_83 rfl (lv_at hl 0 rfl) ?_
    refine gf_X9_23 C hw dX9_makesOf_84 ?_
    refine lv_iload C.1 C.2.1 dX9_makesOf_87 (lv_at hl 7 rfl) ?_
    obtain ⟨hin, h⟩ := gd_of h
    refine m_iald C hw a0_5 hin dX9_makesOf_89 ?_
    refine go_I hw (run_S (As := [.int _, .int _]) C hw (c_X9_has C.2.2.2.2.2.2.2.2.2 _ _ _) mi_X9_has ms_X9_has lk_X9_145 (by decide) (by decide) rfl hl.1 rfl (Nat.le_of_ble_eq_true rfl) dX9_makesOf_90 ⟨Nat.le_refl 0, Nat.le_refl 0⟩) (fun H locs hw => ?_)
    refine lv_if_eq (tgt := 100) C.1 C.2.1 dX9_makesOf_93 (by decide) (fun cd => ?_) (fun cd => ?_)
    · have h := ite_t cd h
      exact w_X9_makesOf_100 C hx hP hE0 hw (lv_sub hl [0, 1, 2, 3, 4, 5, 6, 7] rfl) h
    · have h := ite_f cd h
      exact w_X9_makesOf_96 C hx hP hE0 hw (lv_sub hl [0, 1, 2, 3, 4, 5, 6, 7] rfl) h
set_option maxRecDepth 20000 in
theorem w_X9_makesOf_48 {D : va_G} {cy : Nat → ClassId} {ad : Nat → Nat} {p : Program} {l : Launch} {e : Env} {R : Room} {s : State} {m : MethodId} {args : Array Value} {below : List Frame} {meth : Method} {c : Code} (C : Cx 0 D cy ad p R s m args meth c cX9_makesOf 9 RX9 (some .int) 1) {a1 : Int32} {a2 : Int32} {a3 : Int32} {a4 : Int32}  {z0 : Int32} {v5 : Int32} {v6 : Int32} {v7 : Int32}  {σ : Mem} {H : Heap} {locs : List Loc} {ls : Array Slot} {Q : State → Prop} {P : (Int32 × Int32 × Int32) → Prop} {r : Int32} {x : (Int32 × Int32 × Int32) ⊕ Int32} (hx : LimQ P r x) (hP : ∀ u, P u → ∀ (H : Heap) (locs : List Loc) (ls : Array Slot), Wd 0 D cy ad s σ H locs → lv_has ls 9 [(0, .ref (ad (0))), (1, .int a1), (2, .int a2), (3, .int a3), (4, .int a4), (5, .int u.1), (6, .int u.2.1), (7, .int u.2.2)] → W p l e R s m args below meth c H locs 0 0 Q (F0 m 12 ls [])) (hE0 : ∀ (v5 : Int32), (v5 : Int32) = r → ∀ (H : Heap) (locs : List Loc) (ls : Array Slot), Wd 0 D cy ad s σ H locs → lv_has ls 9 [(5, .int v5)] → W p l e R s m args below meth c H locs 0 0 Q (F0 m 132 ls [])) (hw : Wd 0 D cy ad s σ H locs) (hl : lv_has ls 9 [(0, .ref (ad (0))), (1, .int a1), (2, .int a2), (3, .int a3), (4, .int a4), (5, .int v5), (6, .int v6), (7, .int v7)]) (h : j_X9_makesOf_48 a1 a2 a3 a4 z0 v5 v6 v7 σ = some x) : W p l e R s m args below meth c H locs 0 0 Q (F0 m 48 ls [.int z0]) := by
  unfold j_X9_makesOf_48 at h
  refine lv_istore (lv' := [(8, .int _), (0, .ref _), (1, .int _), (2, .int _), (3, .int _), (4, .int _), (5, .int _), (6, .int _), (7, .int _)]) C.1 C.2.1 dX9_makesOf_48 hl (by decide) rfl (fun ls hl => ?_)
  refine lv_iload C.1 C.2.1 dX9_makesOf_50 (lv_at hl 0 rfl) ?_
  refine lv_if_eq (tgt := 100) C.1 C.2.1 dX9_makesOf_52 (by decide) (fun cd => ?_) (fun cd => ?_)
  · have h := ite_t cd h
    exact w_X9_makesOf_100 C hx hP hE0 hw (lv_sub hl [1, 2, 3, 4, 5, 6, 7, 8] rfl) h
  · have h := ite_f cd h
    refine lv_iload C.1 C.2.1 dX9_makesOf_55 (lv_at hl 7 rfl) ?_
    refine lv_iconst (v := (1 : Int32)) C.1 C.2.1 dX9_makesOf_57 (by decide) ?_
    refine lv_icmp_lt (tgt := 75) C.1 C.2.1 dX9_makesOf_58 (by decide) (fun cd => ?_) (fun cd => ?_)
    · have h := ite_t cd h
      exact w_X9_makesOf_75 C hx hP hE0 hw (lv_sub hl [1, 2, 3, 4, 5, 6, 7, 8] rfl) h
    · have h := ite_f cd h
      refine lv_iload_n C.1 C.2.1 dX9_makesOf_61 rfl (lv_at hl 4 rfl) ?_
      refine lv_aload_n C.1 C.2.1 dX9_makesOf_62 rfl (lv_at hl 1 rfl) ?_
      refine gf_X9_20 C hw dX9_makesOf_63 ?_
      refine lv_iload C.1 C.2.1 dX9_makesOf_66 (lv_at hl 8 rfl) ?_
      obtain ⟨hin, h⟩ := gd_of h
      refine m_iald C hw a0_4 hin dX9_makesOf_68 ?_
      refine go_I hw (run_S (As := [.int _, .int _]) C hw (c_X9_has C.2.2.2.2.2.2.2.2.2 _ _ _) mi_X9_has ms_X9_has lk_X9_145 (by decide) (by decide) rfl hl.1 rfl (Nat.le_of_ble_eq_true rfl) dX9_makesOf_69 ⟨Nat.le_refl 0, Nat.le_refl 0⟩) (fun H locs hw => ?_)
      refine lv_if_eq (tgt := 100) C.1 C.2.1 dX9_makesOf_72 (by decide) (fun cd => ?_) (fun cd => ?_)
      · have h := ite_t cd h
        exact w_X9_makesOf_100 C hx hP hE0 hw (lv_sub hl [1, 2, 3, 4, 5, 6, 7, 8] rfl) h
      · have h := ite_f cd h
        exact w_X9_makesOf_75 C hx hP hE0 hw (lv_sub hl [1, 2, 3, 4, 5, 6, 7, 8] rfl) h
set_option maxRecDepth 20000 in
theorem w_X9_makesOf_47 {D : va_G} {cy : Nat → ClassId} {ad : Nat → Nat} {p : Program} {l : Launch} {e : Env} {R : Room} {s : State} {m : MethodId} {args : Array Value} {below : List Frame} {meth : Method} {c : Code} (C : Cx 0 D cy ad p R s m args meth c cX9_makesOf 9 RX9 (some .int) 1) {a1 : Int32} {a2 : Int32} {a3 : Int32} {a4 : Int32}  {v5 : Int32} {v6 : Int32} {v7 : Int32}  {σ : Mem} {H : Heap} {locs : List Loc} {ls : Array Slot} {Q : State → Prop} {P : (Int32 × Int32 × Int32) → Prop} {r : Int32} {x : (Int32 × Int32 × Int32) ⊕ Int32} (hx : LimQ P r x) (hP : ∀ u, P u → ∀ (H : Heap) (locs : List Loc) (ls : Array Slot), Wd 0 D cy ad s σ H locs → lv_has ls 9 [(0, .ref (ad (0))), (1, .int a1), (2, .int a2), (3, .int a3), (4, .int a4), (5, .int u.1), (6, .int u.2.1), (7, .int u.2.2)] → W p l e R s m args below meth c H locs 0 0 Q (F0 m 12 ls [])) (hE0 : ∀ (v5 : Int32), (v5 : Int32) = r → ∀ (H : Heap) (locs : List Loc) (ls : Array Slot), Wd 0 D cy ad s σ H locs → lv_has ls 9 [(5, .int v5)] → W p l e R s m args below meth c H locs 0 0 Q (F0 m 132 ls [])) (hw : Wd 0 D cy ad s σ H locs) (hl : lv_has ls 9 [(0, .ref (ad (0))), (1, .int a1), (2, .int a2), (3, .int a3), (4, .int a4), (5, .int v5), (6, .int v6), (7, .int v7)]) (h : j_X9_makesOf_47 a1 a2 a3 a4 v5 v6 v7 σ = some x) : W p l e R s m args below meth c H locs 0 0 Q (F0 m 47 ls []) := by
  unfold j_X9_makesOf_47 at h
  refine lv_iconst (v := (0 : Int32)) C.1 C.2.1 dX9_makesOf_47 (by decide) ?_
  exact w_X9_makesOf_48 C hx hP hE0 hw (lv_sub hl [0, 1, 2, 3, 4, 5, 6, 7] rfl) h
set_option maxRecDepth 20000 in
theorem w_X9_makesOf_12 {D : va_G} {cy : Nat → ClassId} {ad : Nat → Nat} {p : Program} {l : Launch} {e : Env} {R : Room} {s : State} {m : MethodId} {args : Array Value} {below : List Frame} {meth : Method} {c : Code} (C : Cx 0 D cy ad p R s m args meth c cX9_makesOf 9 RX9 (some .int) 1) {a1 : Int32} {a2 : Int32} {a3 : Int32} {a4 : Int32}  {v5 : Int32} {v6 : Int32} {v7 : Int32} {σ : Mem} {Q : State → Prop} {r : Int32} (hL : Lim (T := Int32) (fun s => b_X9_makesOf_12 a1 a2 a3 a4 s.1 s.2.1 s.2.2 σ) (v5, v6, v7) = some r) (hE0 : ∀ (v5 : Int32), (v5 : Int32) = r → ∀ (H : Heap) (locs : List Loc) (ls : Array Slot), Wd 0 D cy ad s σ H locs → lv_has ls 9 [(5, .int v5)] → W p l e R s m args below meth c H locs 0 0 Q (F0 m 132 ls [])) (H : Heap) (locs : List Loc) (ls : Array Slot) (hw : Wd 0 D cy ad s σ H locs) (hl : lv_has ls 9 [(0, .ref (ad (0))), (1, .int a1), (2, .int a2), (3, .int a3), (4, .int a4), (5, .int v5), (6, .int v6), (7, .int v7)]) : W p l e R s m args below meth c H locs 0 0 Q (F0 m 12 ls []) := by
  refine Lim_ind hL (P := fun u => ∀ (H : Heap) (locs : List Loc) (ls : Array Slot), Wd 0 D cy ad s σ H locs → lv_has ls 9 [(0, .ref (ad (0))), (1, .int a1), (2, .int a2), (3, .int a3), (4, .int a4), (5, .int u.1), (6, .int u.2.1), (7, .int u.2.2)] → W p l e R s m args below meth c H locs 0 0 Q (F0 m 12 ls [])) (fun u x h hx H locs ls hw hl => ?_) H locs ls hw hl
  clear hL
  obtain ⟨v5, v6, v7⟩ := u
  have h : b_X9_makesOf_12 a1 a2 a3 a4 v5 v6 v7 σ = some x := h
  have hw : Wd 0 D cy ad s σ H locs := hw
  have hl : lv_has ls 9 [(0, .ref (ad (0))), (1, .int a1), (2, .int a2), (3, .int a3), (4, .int a4), (5, .int v5), (6, .int v6), (7, .int v7)] := hl
  have hP : ∀ (u : (Int32 × Int32 × Int32)), (∀ (H : Heap) (locs : List Loc) (ls : Array Slot), Wd 0 D cy ad s σ H locs → lv_has ls 9 [(0, .ref (ad (0))), (1, .int a1), (2, .int a2), (3, .int a3), (4, .int a4), (5, .int u.1), (6, .int u.2.1), (7, .int u.2.2)] → W p l e R s m args below meth c H locs 0 0 Q (F0 m 12 ls [])) → ∀ (H : Heap) (locs : List Loc) (ls : Array Slot), Wd 0 D cy ad s σ H locs → lv_has ls 9 [(0, .ref (ad (0))), (1, .int a1), (2, .int a2), (3, .int a3), (4, .int a4), (5, .int u.1), (6, .int u.2.1), (7, .int u.2.2)] → W p l e R s m args below meth c H locs 0 0 Q (F0 m 12 ls []) := fun _ k => k
  unfold b_X9_makesOf_12 at h
  refine lv_iload C.1 C.2.1 dX9_makesOf_12 (lv_at hl 7 rfl) ?_
  refine lv_aload_n C.1 C.2.1 dX9_makesOf_14 rfl (lv_at hl 0 rfl) ?_
  refine gf_X9_13 C hw dX9_makesOf_15 ?_
  refine lv_iconst (v := (0 : Int32)) C.1 C.2.1 dX9_makesOf_18 (by decide) ?_
  have hin : vp_in (0 : Int32) 2 := (by decide : ix (0 : Int32) 2)
  refine m_iald C hw a0_2 hin dX9_makesOf_19 ?_
  refine lv_icmp_ge (tgt := 132) C.1 C.2.1 dX9_makesOf_20 (by decide) (fun cd => ?_) (fun cd => ?_)
  · have h := ite_t cd h
    obtain rfl := Option.some.inj h
    exact hE0 _ hx _ _ _ hw (lv_sub hl [5] rfl)
  · have h := ite_f cd h
    refine lv_iload_n C.1 C.2.1 dX9_makesOf_23 rfl (lv_at hl 1 rfl) ?_
    refine lv_iload C.1 C.2.1 dX9_makesOf_24 (lv_at hl 7 rfl) ?_
    refine go_I hw (run_S (As := [.int _, .int _]) C hw (c_X9_has C.2.2.2.2.2.2.2.2.2 _ _ _) mi_X9_has ms_X9_has lk_X9_145 (by decide) (by decide) rfl hl.1 rfl (Nat.le_of_ble_eq_true rfl) dX9_makesOf_26 ⟨Nat.le_refl 0, Nat.le_refl 0⟩) (fun H locs hw => ?_)
    refine lv_if_eq (tgt := 47) C.1 C.2.1 dX9_makesOf_29 (by decide) (fun cd => ?_) (fun cd => ?_)
    · have h := ite_t cd h
      exact w_X9_makesOf_47 C hx hP hE0 hw (lv_sub hl [0, 1, 2, 3, 4, 5, 6, 7] rfl) h
    · have h := ite_f cd h
      refine lv_aload_n C.1 C.2.1 dX9_makesOf_32 rfl (lv_at hl 0 rfl) ?_
      refine gf_X9_17 C hw dX9_makesOf_33 ?_
      refine lv_iload C.1 C.2.1 dX9_makesOf_36 (lv_at hl 7 rfl) ?_
      obtain ⟨hin, h⟩ := gd_of h
      refine m_iald C hw a0_3 hin dX9_makesOf_38 ?_
      refine lv_iload_n C.1 C.2.1 dX9_makesOf_39 rfl (lv_at hl 2 rfl) ?_
      refine lv_icmp_ne (tgt := 47) C.1 C.2.1 dX9_makesOf_40 (by decide) (fun cd => ?_) (fun cd => ?_)
      · have h := ite_f cd h
        exact w_X9_makesOf_47 C hx hP hE0 hw (lv_sub hl [0, 1, 2, 3, 4, 5, 6, 7] rfl) h
      · have h := ite_t cd h
        refine lv_iconst (v := (1 : Int32)) C.1 C.2.1 dX9_makesOf_43 (by decide) ?_
        refine lv_goto (tgt := 48) C.1 C.2.1 dX9_makesOf_44 (by decide) ?_
        exact w_X9_makesOf_48 C hx hP hE0 hw (lv_sub hl [0, 1, 2, 3, 4, 5, 6, 7] rfl) h
set_option maxRecDepth 20000 in
theorem c_X9_makesOf {l : Launch} {D : va_G} {cy : Nat → ClassId} {ad : Nat → Nat} (hj : InjW 0 ad) (a1 : Int32) (a2 : Int32) (a3 : Int32) (a4 : Int32)  (σ : Mem) (r : Int32) (h : f_X9_makesOf a1 a2 a3 a4 σ = some r) : CI 0 D cy ad l yX9_makesOf cX9_makesOf 9 (some .int) 1 [.ref (ad (0)), .int a1, .int a2, .int a3, .int a4] σ r σ := by
  refine CI.mk (by decide) hj (Nat.le_of_ble_eq_true rfl) (fun p e R s m below meth c ls C hw hl => ?_)
  have hl : lv_has ls 9 [(0, .ref (ad (0))), (1, .int a1), (2, .int a2), (3, .int a3), (4, .int a4)] := hl
  generalize ([.ref (ad (0)), .int a1, .int a2, .int a3, .int a4] : List Value).toArray = args at C ⊢
  have C : Cx 0 D cy ad p R s m args meth c cX9_makesOf 9 RX9 (some .int) 1 := C
  unfold f_X9_makesOf at h
  refine lv_iconst (v := (0 : Int32)) C.1 C.2.1 dX9_makesOf_0 (by decide) ?_
  refine lv_istore (lv' := [(5, .int _), (0, .ref _), (1, .int _), (2, .int _), (3, .int _), (4, .int _)]) C.1 C.2.1 dX9_makesOf_1 hl (by decide) rfl (fun ls hl => ?_)
  refine lv_iload_n C.1 C.2.1 dX9_makesOf_3 rfl (lv_at hl 3 rfl) ?_
  refine go_I hw (run_S (As := [.int _]) C hw (c_X9_armsOf C.2.2.2.2.2.2.2.2.2 _ _) mi_X9_armsOf ms_X9_armsOf lk_X9_125 (by decide) (by decide) rfl hl.1 rfl (Nat.le_of_ble_eq_true rfl) dX9_makesOf_4 ⟨Nat.le_refl 0, Nat.le_refl 0⟩) (fun H locs hw => ?_)
  obtain ⟨x1, ex1, h⟩ := lt_of h
  refine m_topi ex1 ?_
  refine lv_istore (lv' := [(6, .int _), (5, .int _), (0, .ref _), (1, .int _), (2, .int _), (3, .int _), (4, .int _)]) C.1 C.2.1 dX9_makesOf_7 hl (by decide) rfl (fun ls hl => ?_)
  refine lv_iconst (v := (0 : Int32)) C.1 C.2.1 dX9_makesOf_9 (by decide) ?_
  refine lv_istore (lv' := [(7, .int _), (6, .int _), (5, .int _), (0, .ref _), (1, .int _), (2, .int _), (3, .int _), (4, .int _)]) C.1 C.2.1 dX9_makesOf_10 hl (by decide) rfl (fun ls hl => ?_)
  obtain ⟨r4, hL, h⟩ := bS h
  refine w_X9_makesOf_12 C  hL (fun y0 hr H locs ls hw hl => ?_) _ _ _ hw (lv_sub hl [3, 4, 5, 6, 7, 2, 1, 0] rfl)
  · subst hr
    try dsimp only at h
    try dsimp only at hw
    try dsimp only at hl
    refine lv_iload C.1 C.2.1 dX9_makesOf_132 (lv_at hl 0 rfl) ?_
    exact m_iret C hw (ret_i h) dX9_makesOf_134
noncomputable def j_X9_findComes_84  (z1 : Int32) (z3 : Int32) (z4 : Int32) (z5 : Int32) (z6 : Int32) (v1 : Int32) (σ : Mem) : Option ((Int32 × Mem) ⊕ Mem) :=
  (f_X9_makesOf z3 z4 z5 z6 σ).bind (fun r4 => gd (ix z1 31) (lt (sI σ 11 z1.toNatClampNeg r4) (fun σ5 => lt (v1 + (-1 : Int32)) (fun x6 => some (.inl (x6, σ5))))))
noncomputable def j_X9_findComes_65  (z1 : Int32) (z3 : Int32) (z4 : Int32) (z5 : Int32) (v1 : Int32) (v2 : Int32) (σ : Mem) : Option ((Int32 × Mem) ⊕ Mem) :=
  if v2 ≤ (1 : Int32) then (j_X9_findComes_84 z1 z3 z4 z5 (0 : Int32) v1 σ) else ((f_X9_second v1 σ).bind (fun r7 => gd (ix r7 31) (j_X9_findComes_84 z1 z3 z4 z5 (σ.1 11 r7.toNatClampNeg) v1 σ)))
noncomputable def b_X9_findComes_13  (v1 : Int32) (σ : Mem) : Option ((Int32 × Mem) ⊕ Mem) :=
  if v1 < 0 then (some (.inr σ)) else (gd (ix ((3 : Int32) + v1) 102) (lt (f_X9_armsOf (σ.1 7 ((3 : Int32) + v1).toNatClampNeg)) (fun x3 => gd (ix ((3 : Int32) + v1) 102) (if x3 ≤ 0 then (j_X9_findComes_65 v1 (σ.1 7 (0 : Int32).toNatClampNeg) (σ.1 7 ((3 : Int32) + v1).toNatClampNeg) (0 : Int32) v1 x3 σ) else (gd (ix (v1 + (1 : Int32)) 31) (j_X9_findComes_65 v1 (σ.1 7 (0 : Int32).toNatClampNeg) (σ.1 7 ((3 : Int32) + v1).toNatClampNeg) (σ.1 11 (v1 + (1 : Int32)).toNatClampNeg) v1 x3 σ))))))
noncomputable def f_X9_findComes  (σ : Mem) : Option Mem :=
  (f_X9_findParts σ).bind (fun r1 => lt ((r1.1 7 (2 : Int32).toNatClampNeg) - (1 : Int32)) (fun x2 => (Lim (T := Mem) (fun s => b_X9_findComes_13 s.1 s.2) (x2, r1)).bind (fun r8 => some r8)))
set_option maxRecDepth 20000 in
theorem w_X9_findComes_84 {D : va_G} {cy : Nat → ClassId} {ad : Nat → Nat} {p : Program} {l : Launch} {e : Env} {R : Room} {s : State} {m : MethodId} {args : Array Value} {below : List Frame} {meth : Method} {c : Code} (C : Cx 0 D cy ad p R s m args meth c cX9_findComes 3 RX9 none 2)   {z1 : Int32} {z3 : Int32} {z4 : Int32} {z5 : Int32} {z6 : Int32} {v1 : Int32}  {σ : Mem} {H : Heap} {locs : List Loc} {ls : Array Slot} {Q : State → Prop} {P : (Int32 × Mem) → Prop} {r : Mem} {x : (Int32 × Mem) ⊕ Mem} (hx : LimQ P r x) (hP : ∀ u, P u → ∀ (H : Heap) (locs : List Loc) (ls : Array Slot), Wd 0 D cy ad s u.2 H locs → lv_has ls 3 [(0, .ref (ad (0))), (1, .int u.1)] → W p l e R s m args below meth c H locs 0 0 Q (F0 m 13 ls [])) (hE0 : ∀ (σ1 : Mem), (σ1 : Mem) = r → ∀ (H : Heap) (locs : List Loc) (ls : Array Slot), Wd 0 D cy ad s σ1 H locs → lv_has ls 3 [] → W p l e R s m args below meth c H locs 0 0 Q (F0 m 94 ls [])) (hw : Wd 0 D cy ad s σ H locs) (hl : lv_has ls 3 [(0, .ref (ad (0))), (1, .int v1)]) (h : j_X9_findComes_84 z1 z3 z4 z5 z6 v1 σ = some x) : W p l e R s m args below meth c H locs 0 0 Q (F0 m 84 ls [.int z6, .int z5, .int z4, .int z3, .ref (ad (0)), .int z1, .ref (ad (11))]) := by
  unfold j_X9_findComes_84 at h
  obtain ⟨r4, h1, h⟩ := bS h
  refine go_I hw (run_V (As := [.int _, .int _, .int _, .int _]) C hw (c_X9_makesOf C.2.2.2.2.2.2.2.2.2 _ _ _ _ _ _ h1) mi_X9_makesOf mv_X9_makesOf o0_0 (ci := 9) rfl rfl lk_X9_152 (by decide) (by decide) rfl hl.1 rfl (Nat.le_of_ble_eq_true rfl) dX9_findComes_84 ⟨Nat.le_refl 0, Nat.le_refl 0⟩) (fun H locs hw => ?_)
  obtain ⟨hin, h⟩ := gd_of h
  refine m_iast C hw a0_11 hin dX9_findComes_87 (fun H locs hw => ?_)
  obtain ⟨σ5, eσ5, h⟩ := lt_of h
  rw [← eσ5] at hw
  obtain ⟨x6, ex6, h⟩ := lt_of h
  refine m_iinc (k := 1) (lv' := [(1, .int _), (0, .ref _)]) C (-1 : Int32) (by decide) dX9_findComes_88 hl rfl ex6.symm (by decide) rfl (fun ls hl => ?_)
  refine lv_goto (tgt := 13) C.1 C.2.1 dX9_findComes_91 (by decide) ?_
  obtain rfl := Option.some.inj h
  exact hP _ hx _ _ _ hw (lv_sub hl [1, 0] rfl)
set_option maxRecDepth 20000 in
theorem w_X9_findComes_65 {D : va_G} {cy : Nat → ClassId} {ad : Nat → Nat} {p : Program} {l : Launch} {e : Env} {R : Room} {s : State} {m : MethodId} {args : Array Value} {below : List Frame} {meth : Method} {c : Code} (C : Cx 0 D cy ad p R s m args meth c cX9_findComes 3 RX9 none 2)   {z1 : Int32} {z3 : Int32} {z4 : Int32} {z5 : Int32} {v1 : Int32} {v2 : Int32}  {σ : Mem} {H : Heap} {locs : List Loc} {ls : Array Slot} {Q : State → Prop} {P : (Int32 × Mem) → Prop} {r : Mem} {x : (Int32 × Mem) ⊕ Mem} (hx : LimQ P r x) (hP : ∀ u, P u → ∀ (H : Heap) (locs : List Loc) (ls : Array Slot), Wd 0 D cy ad s u.2 H locs → lv_has ls 3 [(0, .ref (ad (0))), (1, .int u.1)] → W p l e R s m args below meth c H locs 0 0 Q (F0 m 13 ls [])) (hE0 : ∀ (σ1 : Mem), (σ1 : Mem) = r → ∀ (H : Heap) (locs : List Loc) (ls : Array Slot), Wd 0 D cy ad s σ1 H locs → lv_has ls 3 [] → W p l e R s m args below meth c H locs 0 0 Q (F0 m 94 ls [])) (hw : Wd 0 D cy ad s σ H locs) (hl : lv_has ls 3 [(0, .ref (ad (0))), (1, .int v1), (2, .int v2)]) (h : j_X9_findComes_65 z1 z3 z4 z5 v1 v2 σ = some x) : W p l e R s m args below meth c H locs 0 0 Q (F0 m 65 ls [.int z5, .int z4, .int z3, .ref (ad (0)), .int z1, .ref (ad (11))]) := by
  unfold j_X9_findComes_65 at h
  refine lv_iload_n C.1 C.2.1 dX9_findComes_65 rfl (lv_at hl 2 rfl) ?_
  refine lv_iconst (v := (1 : Int32)) C.1 C.2.1 dX9_findComes_66 (by decide) ?_
  refine lv_icmp_le (tgt := 83) C.1 C.2.1 dX9_findComes_67 (by decide) (fun cd => ?_) (fun cd => ?_)
  · have h := ite_t cd h
    refine lv_iconst (v := (0 : Int32)) C.1 C.2.1 dX9_findComes_83 (by decide) ?_
    exact w_X9_findComes_84 C hx hP hE0 hw (lv_sub hl [0, 1] rfl) h
  · have h := ite_f cd h
    refine lv_aload_n C.1 C.2.1 dX9_findComes_70 rfl (lv_at hl 0 rfl) ?_
    refine gf_X9_42 C hw dX9_findComes_71 ?_
    refine lv_aload_n C.1 C.2.1 dX9_findComes_74 rfl (lv_at hl 0 rfl) ?_
    refine lv_iload_n C.1 C.2.1 dX9_findComes_75 rfl (lv_at hl 1 rfl) ?_
    obtain ⟨r7, h1, h⟩ := bS h
    refine go_I hw (run_V (As := [.int _]) C hw (c_X9_second C.2.2.2.2.2.2.2.2.2 _ _ _ h1) mi_X9_second mv_X9_second o0_0 (ci := 9) rfl rfl lk_X9_142 (by decide) (by decide) rfl hl.1 rfl (Nat.le_of_ble_eq_true rfl) dX9_findComes_76 ⟨Nat.le_refl 0, Nat.le_refl 0⟩) (fun H locs hw => ?_)
    obtain ⟨hin, h⟩ := gd_of h
    refine m_iald C hw a0_11 hin dX9_findComes_79 ?_
    refine lv_goto (tgt := 84) C.1 C.2.1 dX9_findComes_80 (by decide) ?_
    exact w_X9_findComes_84 C hx hP hE0 hw (lv_sub hl [0, 1] rfl) h
set_option maxRecDepth 20000 in
theorem w_X9_findComes_13 {D : va_G} {cy : Nat → ClassId} {ad : Nat → Nat} {p : Program} {l : Launch} {e : Env} {R : Room} {s : State} {m : MethodId} {args : Array Value} {below : List Frame} {meth : Method} {c : Code} (C : Cx 0 D cy ad p R s m args meth c cX9_findComes 3 RX9 none 2)   {v1 : Int32} {σ : Mem} {Q : State → Prop} {r : Mem} (hL : Lim (T := Mem) (fun s => b_X9_findComes_13 s.1 s.2) (v1, σ) = some r) (hE0 : ∀ (σ1 : Mem), (σ1 : Mem) = r → ∀ (H : Heap) (locs : List Loc) (ls : Array Slot), Wd 0 D cy ad s σ1 H locs → lv_has ls 3 [] → W p l e R s m args below meth c H locs 0 0 Q (F0 m 94 ls [])) (H : Heap) (locs : List Loc) (ls : Array Slot) (hw : Wd 0 D cy ad s σ H locs) (hl : lv_has ls 3 [(0, .ref (ad (0))), (1, .int v1)]) : W p l e R s m args below meth c H locs 0 0 Q (F0 m 13 ls []) := by
  refine Lim_ind hL (P := fun u => ∀ (H : Heap) (locs : List Loc) (ls : Array Slot), Wd 0 D cy ad s u.2 H locs → lv_has ls 3 [(0, .ref (ad (0))), (1, .int u.1)] → W p l e R s m args below meth c H locs 0 0 Q (F0 m 13 ls [])) (fun u x h hx H locs ls hw hl => ?_) H locs ls hw hl
  clear hL
  obtain ⟨v1, σ⟩ := u
  have h : b_X9_findComes_13 v1 σ = some x := h
  have hw : Wd 0 D cy ad s σ H locs := hw
  have hl : lv_has ls 3 [(0, .ref (ad (0))), (1, .int v1)] := hl
  have hP : ∀ (u : (Int32 × Mem)), (∀ (H : Heap) (locs : List Loc) (ls : Array Slot), Wd 0 D cy ad s u.2 H locs → lv_has ls 3 [(0, .ref (ad (0))), (1, .int u.1)] → W p l e R s m args below meth c H locs 0 0 Q (F0 m 13 ls [])) → ∀ (H : Heap) (locs : List Loc) (ls : Array Slot), Wd 0 D cy ad s u.2 H locs → lv_has ls 3 [(0, .ref (ad (0))), (1, .int u.1)] → W p l e R s m args below meth c H locs 0 0 Q (F0 m 13 ls []) := fun _ k => k
  unfold b_X9_findComes_13 at h
  refine lv_iload_n C.1 C.2.1 dX9_findComes_13 rfl (lv_at hl 1 rfl) ?_
  refine lv_if_lt (tgt := 94) C.1 C.2.1 dX9_findComes_14 (by decide) (fun cd => ?_) (fun cd => ?_)
  · have h := ite_t cd h
    obtain rfl := Option.some.inj h
    exact hE0 _ hx _ _ _ hw (lv_sub hl [] rfl)
  · have h := ite_f cd h
    refine lv_aload_n C.1 C.2.1 dX9_findComes_17 rfl (lv_at hl 0 rfl) ?_
    refine gf_X9_29 C hw dX9_findComes_18 ?_
    refine lv_iconst (v := (3 : Int32)) C.1 C.2.1 dX9_findComes_21 (by decide) ?_
    refine lv_iload_n C.1 C.2.1 dX9_findComes_22 rfl (lv_at hl 1 rfl) ?_
    refine lv_iadd C.1 C.2.1 dX9_findComes_23 ?_
    obtain ⟨hin, h⟩ := gd_of h
    refine m_iald C hw a0_7 hin dX9_findComes_24 ?_
    refine go_I hw (run_S (As := [.int _]) C hw (c_X9_armsOf C.2.2.2.2.2.2.2.2.2 _ _) mi_X9_armsOf ms_X9_armsOf lk_X9_125 (by decide) (by decide) rfl hl.1 rfl (Nat.le_of_ble_eq_true rfl) dX9_findComes_25 ⟨Nat.le_refl 0, Nat.le_refl 0⟩) (fun H locs hw => ?_)
    obtain ⟨x3, ex3, h⟩ := lt_of h
    refine m_topi ex3 ?_
    refine lv_istore_n (lv' := [(2, .int _), (0, .ref _), (1, .int _)]) C.1 C.2.1 dX9_findComes_28 rfl hl (by decide) rfl (fun ls hl => ?_)
    refine lv_aload_n C.1 C.2.1 dX9_findComes_29 rfl (lv_at hl 1 rfl) ?_
    refine gf_X9_42 C hw dX9_findComes_30 ?_
    refine lv_iload_n C.1 C.2.1 dX9_findComes_33 rfl (lv_at hl 2 rfl) ?_
    refine lv_aload_n C.1 C.2.1 dX9_findComes_34 rfl (lv_at hl 1 rfl) ?_
    refine lv_aload_n C.1 C.2.1 dX9_findComes_35 rfl (lv_at hl 1 rfl) ?_
    refine gf_X9_29 C hw dX9_findComes_36 ?_
    refine lv_iconst (v := (0 : Int32)) C.1 C.2.1 dX9_findComes_39 (by decide) ?_
    have hin : vp_in (0 : Int32) 102 := (by decide : ix (0 : Int32) 102)
    refine m_iald C hw a0_7 hin dX9_findComes_40 ?_
    refine lv_aload_n C.1 C.2.1 dX9_findComes_41 rfl (lv_at hl 1 rfl) ?_
    refine gf_X9_29 C hw dX9_findComes_42 ?_
    refine lv_iconst (v := (3 : Int32)) C.1 C.2.1 dX9_findComes_45 (by decide) ?_
    refine lv_iload_n C.1 C.2.1 dX9_findComes_46 rfl (lv_at hl 2 rfl) ?_
    refine lv_iadd C.1 C.2.1 dX9_findComes_47 ?_
    obtain ⟨hin, h⟩ := gd_of h
    refine m_iald C hw a0_7 hin dX9_findComes_48 ?_
    refine lv_iload_n C.1 C.2.1 dX9_findComes_49 rfl (lv_at hl 0 rfl) ?_
    refine lv_if_le (tgt := 64) C.1 C.2.1 dX9_findComes_50 (by decide) (fun cd => ?_) (fun cd => ?_)
    · have h := ite_t cd h
      refine lv_iconst (v := (0 : Int32)) C.1 C.2.1 dX9_findComes_64 (by decide) ?_
      exact w_X9_findComes_65 C hx hP hE0 hw (lv_sub hl [1, 2, 0] rfl) h
    · have h := ite_f cd h
      refine lv_aload_n C.1 C.2.1 dX9_findComes_53 rfl (lv_at hl 1 rfl) ?_
      refine gf_X9_42 C hw dX9_findComes_54 ?_
      refine lv_iload_n C.1 C.2.1 dX9_findComes_57 rfl (lv_at hl 2 rfl) ?_
      refine lv_iconst (v := (1 : Int32)) C.1 C.2.1 dX9_findComes_58 (by decide) ?_
      refine lv_iadd C.1 C.2.1 dX9_findComes_59 ?_
      obtain ⟨hin, h⟩ := gd_of h
      refine m_iald C hw a0_11 hin dX9_findComes_60 ?_
      refine lv_goto (tgt := 65) C.1 C.2.1 dX9_findComes_61 (by decide) ?_
      exact w_X9_findComes_65 C hx hP hE0 hw (lv_sub hl [1, 2, 0] rfl) h
set_option maxRecDepth 20000 in
theorem c_X9_findComes {l : Launch} {D : va_G} {cy : Nat → ClassId} {ad : Nat → Nat} (hj : InjW 0 ad)   (σ : Mem) (r : Mem) (h : f_X9_findComes σ = some r) : CV 0 D cy ad l yX9_findComes cX9_findComes 3 none 2 [.ref (ad (0))] σ r := by
  refine CV.mk (by decide) hj (Nat.le_of_ble_eq_true rfl) (fun p e R s m below meth c ls C hw hl => ?_)
  have hl : lv_has ls 3 [(0, .ref (ad (0)))] := hl
  generalize ([.ref (ad (0))] : List Value).toArray = args at C ⊢
  have C : Cx 0 D cy ad p R s m args meth c cX9_findComes 3 RX9 none 2 := C
  unfold f_X9_findComes at h
  refine lv_aload_n C.1 C.2.1 dX9_findComes_0 rfl (lv_at hl 0 rfl) ?_
  obtain ⟨r1, h1, h⟩ := bS h
  refine go_V hw (run_V (As := []) C hw (c_X9_findParts C.2.2.2.2.2.2.2.2.2 _ _ h1) mi_X9_findParts mv_X9_findParts o0_0 (ci := 9) rfl rfl lk_X9_149 (by decide) (by decide) rfl hl.1 rfl (Nat.le_of_ble_eq_true rfl) dX9_findComes_1 ⟨Nat.le_refl 0, Nat.le_refl 0⟩) (fun H locs hw => ?_)
  refine lv_aload_n C.1 C.2.1 dX9_findComes_4 rfl (lv_at hl 0 rfl) ?_
  refine gf_X9_29 C hw dX9_findComes_5 ?_
  refine lv_iconst (v := (2 : Int32)) C.1 C.2.1 dX9_findComes_8 (by decide) ?_
  have hin : vp_in (2 : Int32) 102 := (by decide : ix (2 : Int32) 102)
  refine m_iald C hw a0_7 hin dX9_findComes_9 ?_
  refine lv_iconst (v := (1 : Int32)) C.1 C.2.1 dX9_findComes_10 (by decide) ?_
  refine lv_isub C.1 C.2.1 dX9_findComes_11 ?_
  obtain ⟨x2, ex2, h⟩ := lt_of h
  refine m_topi ex2 ?_
  refine lv_istore_n (lv' := [(1, .int _), (0, .ref _)]) C.1 C.2.1 dX9_findComes_12 rfl hl (by decide) rfl (fun ls hl => ?_)
  obtain ⟨r8, hL, h⟩ := bS h
  refine w_X9_findComes_13 C  hL (fun y0 hr H locs ls hw hl => ?_) _ _ _ hw (lv_sub hl [1, 0] rfl)
  · subst hr
    try dsimp only at h
    try dsimp only at hw
    try dsimp only at hl
    exact m_vret C hw (Option.some.inj h) dX9_findComes_94
noncomputable def f_X9_isNode (a1 : Int32) (σ : Mem) : Option Int32 :=
  gd ((f_X9_in a1 (0 : Int32) ((σ.1 7 (2 : Int32).toNatClampNeg) - (1 : Int32))) &&& 1 = (f_X9_in a1 (0 : Int32) ((σ.1 7 (2 : Int32).toNatClampNeg) - (1 : Int32)))) (some (f_X9_in a1 (0 : Int32) ((σ.1 7 (2 : Int32).toNatClampNeg) - (1 : Int32))))
set_option maxRecDepth 20000 in
theorem c_X9_isNode {l : Launch} {D : va_G} {cy : Nat → ClassId} {ad : Nat → Nat} (hj : InjW 0 ad) (a1 : Int32)  (σ : Mem) (r : Int32) (h : f_X9_isNode a1 σ = some r) : CI 0 D cy ad l yX9_isNode cX9_isNode 2 (some .boolean) 1 [.ref (ad (0)), .int a1] σ r σ := by
  refine CI.mk (by decide) hj (Nat.le_of_ble_eq_true rfl) (fun p e R s m below meth c ls C hw hl => ?_)
  have hl : lv_has ls 2 [(0, .ref (ad (0))), (1, .int a1)] := hl
  generalize ([.ref (ad (0)), .int a1] : List Value).toArray = args at C ⊢
  have C : Cx 0 D cy ad p R s m args meth c cX9_isNode 2 RX9 (some .boolean) 1 := C
  unfold f_X9_isNode at h
  refine lv_iload_n C.1 C.2.1 dX9_isNode_0 rfl (lv_at hl 1 rfl) ?_
  refine lv_iconst (v := (0 : Int32)) C.1 C.2.1 dX9_isNode_1 (by decide) ?_
  refine lv_aload_n C.1 C.2.1 dX9_isNode_2 rfl (lv_at hl 0 rfl) ?_
  refine gf_X9_29 C hw dX9_isNode_3 ?_
  refine lv_iconst (v := (2 : Int32)) C.1 C.2.1 dX9_isNode_6 (by decide) ?_
  have hin : vp_in (2 : Int32) 102 := (by decide : ix (2 : Int32) 102)
  refine m_iald C hw a0_7 hin dX9_isNode_7 ?_
  refine lv_iconst (v := (1 : Int32)) C.1 C.2.1 dX9_isNode_8 (by decide) ?_
  refine lv_isub C.1 C.2.1 dX9_isNode_9 ?_
  refine go_I hw (run_S (As := [.int _, .int _, .int _]) C hw (c_X9_in C.2.2.2.2.2.2.2.2.2 _ _ _ _) mi_X9_in ms_X9_in lk_X9_88 (by decide) (by decide) rfl hl.1 rfl (Nat.le_of_ble_eq_true rfl) dX9_isNode_10 ⟨Nat.le_refl 0, Nat.le_refl 0⟩) (fun H locs hw => ?_)
  obtain ⟨hz, h⟩ := gd_of h
  exact m_zret C hw hz (ret_i h) dX9_isNode_13
noncomputable def j_X9_over_55 (a1 : Int32) (z0 : Int32) (v3 : Int32) (σ : Mem) : Option ((Int32 × Int32) ⊕ Int32) :=
  lt (v3 + (1 : Int32)) (fun x2 => some (.inl (z0, x2)))
noncomputable def j_X9_over_54 (a1 : Int32) (v2 : Int32) (v3 : Int32) (σ : Mem) : Option ((Int32 × Int32) ⊕ Int32) :=
  j_X9_over_55 a1 v2 v3 σ
noncomputable def j_X9_over_50 (a1 : Int32) (v3 : Int32) (σ : Mem) : Option ((Int32 × Int32) ⊕ Int32) :=
  j_X9_over_55 a1 v3 v3 σ
noncomputable def j_X9_over_35 (a1 : Int32) (v2 : Int32) (v3 : Int32) (v4 : Int32) (σ : Mem) : Option ((Int32 × Int32) ⊕ Int32) :=
  if v4 ≤ (1 : Int32) then (j_X9_over_54 a1 v2 v3 σ) else ((f_X9_second v3 σ).bind (fun r3 => if r3 = a1 then (j_X9_over_50 a1 v3 σ) else (j_X9_over_54 a1 v2 v3 σ)))
noncomputable def b_X9_over_5 (a1 : Int32) (v2 : Int32) (v3 : Int32) (σ : Mem) : Option ((Int32 × Int32) ⊕ Int32) :=
  if a1 ≤ v3 then (some (.inr v2)) else (gd (ix ((3 : Int32) + v3) 102) (lt (f_X9_armsOf (σ.1 7 ((3 : Int32) + v3).toNatClampNeg)) (fun x1 => if x1 ≤ 0 then (j_X9_over_35 a1 v2 v3 x1 σ) else (if (v3 + (1 : Int32)) = a1 then (j_X9_over_50 a1 v3 σ) else (j_X9_over_35 a1 v2 v3 x1 σ)))))
noncomputable def f_X9_over (a1 : Int32) (σ : Mem) : Option Int32 :=
  (Lim (T := Int32) (fun s => b_X9_over_5 a1 s.1 s.2 σ) ((-9 : Int32), (0 : Int32))).bind (fun r4 => some r4)
set_option maxRecDepth 20000 in
theorem w_X9_over_55 {D : va_G} {cy : Nat → ClassId} {ad : Nat → Nat} {p : Program} {l : Launch} {e : Env} {R : Room} {s : State} {m : MethodId} {args : Array Value} {below : List Frame} {meth : Method} {c : Code} (C : Cx 0 D cy ad p R s m args meth c cX9_over 5 RX9 (some .int) 1) {a1 : Int32}  {z0 : Int32} {v3 : Int32}  {σ : Mem} {H : Heap} {locs : List Loc} {ls : Array Slot} {Q : State → Prop} {P : (Int32 × Int32) → Prop} {r : Int32} {x : (Int32 × Int32) ⊕ Int32} (hx : LimQ P r x) (hP : ∀ u, P u → ∀ (H : Heap) (locs : List Loc) (ls : Array Slot), Wd 0 D cy ad s σ H locs → lv_has ls 5 [(0, .ref (ad (0))), (1, .int a1), (2, .int u.1), (3, .int u.2)] → W p l e R s m args below meth c H locs 0 0 Q (F0 m 5 ls [])) (hE0 : ∀ (v2 : Int32), (v2 : Int32) = r → ∀ (H : Heap) (locs : List Loc) (ls : Array Slot), Wd 0 D cy ad s σ H locs → lv_has ls 5 [(2, .int v2)] → W p l e R s m args below meth c H locs 0 0 Q (F0 m 62 ls [])) (hw : Wd 0 D cy ad s σ H locs) (hl : lv_has ls 5 [(0, .ref (ad (0))), (1, .int a1), (3, .int v3)]) (h : j_X9_over_55 a1 z0 v3 σ = some x) : W p l e R s m args below meth c H locs 0 0 Q (F0 m 55 ls [.int z0]) := by
  unfold j_X9_over_55 at h
  refine lv_istore_n (lv' := [(2, .int _), (0, .ref _), (1, .int _), (3, .int _)]) C.1 C.2.1 dX9_over_55 rfl hl (by decide) rfl (fun ls hl => ?_)
  obtain ⟨x2, ex2, h⟩ := lt_of h
  refine m_iinc (k := 3) (lv' := [(3, .int _), (2, .int _), (0, .ref _), (1, .int _)]) C (1 : Int32) (by decide) dX9_over_56 hl rfl ex2.symm (by decide) rfl (fun ls hl => ?_)
  refine lv_goto (tgt := 5) C.1 C.2.1 dX9_over_59 (by decide) ?_
  obtain rfl := Option.some.inj h
  exact hP _ hx _ _ _ hw (lv_sub hl [2, 3, 1, 0] rfl)
set_option maxRecDepth 20000 in
theorem w_X9_over_54 {D : va_G} {cy : Nat → ClassId} {ad : Nat → Nat} {p : Program} {l : Launch} {e : Env} {R : Room} {s : State} {m : MethodId} {args : Array Value} {below : List Frame} {meth : Method} {c : Code} (C : Cx 0 D cy ad p R s m args meth c cX9_over 5 RX9 (some .int) 1) {a1 : Int32}  {v2 : Int32} {v3 : Int32}  {σ : Mem} {H : Heap} {locs : List Loc} {ls : Array Slot} {Q : State → Prop} {P : (Int32 × Int32) → Prop} {r : Int32} {x : (Int32 × Int32) ⊕ Int32} (hx : LimQ P r x) (hP : ∀ u, P u → ∀ (H : Heap) (locs : List Loc) (ls : Array Slot), Wd 0 D cy ad s σ H locs → lv_has ls 5 [(0, .ref (ad (0))), (1, .int a1), (2, .int u.1), (3, .int u.2)] → W p l e R s m args below meth c H locs 0 0 Q (F0 m 5 ls [])) (hE0 : ∀ (v2 : Int32), (v2 : Int32) = r → ∀ (H : Heap) (locs : List Loc) (ls : Array Slot), Wd 0 D cy ad s σ H locs → lv_has ls 5 [(2, .int v2)] → W p l e R s m args below meth c H locs 0 0 Q (F0 m 62 ls [])) (hw : Wd 0 D cy ad s σ H locs) (hl : lv_has ls 5 [(0, .ref (ad (0))), (1, .int a1), (2, .int v2), (3, .int v3)]) (h : j_X9_over_54 a1 v2 v3 σ = some x) : W p l e R s m args below meth c H locs 0 0 Q (F0 m 54 ls []) := by
  unfold j_X9_over_54 at h
  refine lv_iload_n C.1 C.2.1 dX9_over_54 rfl (lv_at hl 2 rfl) ?_
  exact w_X9_over_55 C hx hP hE0 hw (lv_sub hl [0, 1, 3] rfl) h
set_option maxRecDepth 20000 in
theorem w_X9_over_50 {D : va_G} {cy : Nat → ClassId} {ad : Nat → Nat} {p : Program} {l : Launch} {e : Env} {R : Room} {s : State} {m : MethodId} {args : Array Value} {below : List Frame} {meth : Method} {c : Code} (C : Cx 0 D cy ad p R s m args meth c cX9_over 5 RX9 (some .int) 1) {a1 : Int32}  {v3 : Int32}  {σ : Mem} {H : Heap} {locs : List Loc} {ls : Array Slot} {Q : State → Prop} {P : (Int32 × Int32) → Prop} {r : Int32} {x : (Int32 × Int32) ⊕ Int32} (hx : LimQ P r x) (hP : ∀ u, P u → ∀ (H : Heap) (locs : List Loc) (ls : Array Slot), Wd 0 D cy ad s σ H locs → lv_has ls 5 [(0, .ref (ad (0))), (1, .int a1), (2, .int u.1), (3, .int u.2)] → W p l e R s m args below meth c H locs 0 0 Q (F0 m 5 ls [])) (hE0 : ∀ (v2 : Int32), (v2 : Int32) = r → ∀ (H : Heap) (locs : List Loc) (ls : Array Slot), Wd 0 D cy ad s σ H locs → lv_has ls 5 [(2, .int v2)] → W p l e R s m args below meth c H locs 0 0 Q (F0 m 62 ls [])) (hw : Wd 0 D cy ad s σ H locs) (hl : lv_has ls 5 [(0, .ref (ad (0))), (1, .int a1), (3, .int v3)]) (h : j_X9_over_50 a1 v3 σ = some x) : W p l e R s m args below meth c H locs 0 0 Q (F0 m 50 ls []) := by
  unfold j_X9_over_50 at h
  refine lv_iload_n C.1 C.2.1 dX9_over_50 rfl (lv_at hl 2 rfl) ?_
  refine lv_goto (tgt := 55) C.1 C.2.1 dX9_over_51 (by decide) ?_
  exact w_X9_over_55 C hx hP hE0 hw (lv_sub hl [0, 1, 2] rfl) h
set_option maxRecDepth 20000 in
theorem w_X9_over_35 {D : va_G} {cy : Nat → ClassId} {ad : Nat → Nat} {p : Program} {l : Launch} {e : Env} {R : Room} {s : State} {m : MethodId} {args : Array Value} {below : List Frame} {meth : Method} {c : Code} (C : Cx 0 D cy ad p R s m args meth c cX9_over 5 RX9 (some .int) 1) {a1 : Int32}  {v2 : Int32} {v3 : Int32} {v4 : Int32}  {σ : Mem} {H : Heap} {locs : List Loc} {ls : Array Slot} {Q : State → Prop} {P : (Int32 × Int32) → Prop} {r : Int32} {x : (Int32 × Int32) ⊕ Int32} (hx : LimQ P r x) (hP : ∀ u, P u → ∀ (H : Heap) (locs : List Loc) (ls : Array Slot), Wd 0 D cy ad s σ H locs → lv_has ls 5 [(0, .ref (ad (0))), (1, .int a1), (2, .int u.1), (3, .int u.2)] → W p l e R s m args below meth c H locs 0 0 Q (F0 m 5 ls [])) (hE0 : ∀ (v2 : Int32), (v2 : Int32) = r → ∀ (H : Heap) (locs : List Loc) (ls : Array Slot), Wd 0 D cy ad s σ H locs → lv_has ls 5 [(2, .int v2)] → W p l e R s m args below meth c H locs 0 0 Q (F0 m 62 ls [])) (hw : Wd 0 D cy ad s σ H locs) (hl : lv_has ls 5 [(0, .ref (ad (0))), (1, .int a1), (2, .int v2), (3, .int v3), (4, .int v4)]) (h : j_X9_over_35 a1 v2 v3 v4 σ = some x) : W p l e R s m args below meth c H locs 0 0 Q (F0 m 35 ls []) := by
  unfold j_X9_over_35 at h
  refine lv_iload C.1 C.2.1 dX9_over_35 (lv_at hl 4 rfl) ?_
  refine lv_iconst (v := (1 : Int32)) C.1 C.2.1 dX9_over_37 (by decide) ?_
  refine lv_icmp_le (tgt := 54) C.1 C.2.1 dX9_over_38 (by decide) (fun cd => ?_) (fun cd => ?_)
  · have h := ite_t cd h
    exact w_X9_over_54 C hx hP hE0 hw (lv_sub hl [0, 1, 2, 3] rfl) h
  · have h := ite_f cd h
    refine lv_aload_n C.1 C.2.1 dX9_over_41 rfl (lv_at hl 0 rfl) ?_
    refine lv_iload_n C.1 C.2.1 dX9_over_42 rfl (lv_at hl 3 rfl) ?_
    obtain ⟨r3, h1, h⟩ := bS h
    refine go_I hw (run_V (As := [.int _]) C hw (c_X9_second C.2.2.2.2.2.2.2.2.2 _ _ _ h1) mi_X9_second mv_X9_second o0_0 (ci := 9) rfl rfl lk_X9_142 (by decide) (by decide) rfl hl.1 rfl (Nat.le_of_ble_eq_true rfl) dX9_over_43 ⟨Nat.le_refl 0, Nat.le_refl 0⟩) (fun H locs hw => ?_)
    refine lv_iload_n C.1 C.2.1 dX9_over_46 rfl (lv_at hl 1 rfl) ?_
    refine lv_icmp_ne (tgt := 54) C.1 C.2.1 dX9_over_47 (by decide) (fun cd => ?_) (fun cd => ?_)
    · have h := ite_f cd h
      exact w_X9_over_54 C hx hP hE0 hw (lv_sub hl [0, 1, 2, 3] rfl) h
    · have h := ite_t cd h
      exact w_X9_over_50 C hx hP hE0 hw (lv_sub hl [0, 1, 3] rfl) h
set_option maxRecDepth 20000 in
theorem w_X9_over_5 {D : va_G} {cy : Nat → ClassId} {ad : Nat → Nat} {p : Program} {l : Launch} {e : Env} {R : Room} {s : State} {m : MethodId} {args : Array Value} {below : List Frame} {meth : Method} {c : Code} (C : Cx 0 D cy ad p R s m args meth c cX9_over 5 RX9 (some .int) 1) {a1 : Int32}  {v2 : Int32} {v3 : Int32} {σ : Mem} {Q : State → Prop} {r : Int32} (hL : Lim (T := Int32) (fun s => b_X9_over_5 a1 s.1 s.2 σ) (v2, v3) = some r) (hE0 : ∀ (v2 : Int32), (v2 : Int32) = r → ∀ (H : Heap) (locs : List Loc) (ls : Array Slot), Wd 0 D cy ad s σ H locs → lv_has ls 5 [(2, .int v2)] → W p l e R s m args below meth c H locs 0 0 Q (F0 m 62 ls [])) (H : Heap) (locs : List Loc) (ls : Array Slot) (hw : Wd 0 D cy ad s σ H locs) (hl : lv_has ls 5 [(0, .ref (ad (0))), (1, .int a1), (2, .int v2), (3, .int v3)]) : W p l e R s m args below meth c H locs 0 0 Q (F0 m 5 ls []) := by
  refine Lim_ind hL (P := fun u => ∀ (H : Heap) (locs : List Loc) (ls : Array Slot), Wd 0 D cy ad s σ H locs → lv_has ls 5 [(0, .ref (ad (0))), (1, .int a1), (2, .int u.1), (3, .int u.2)] → W p l e R s m args below meth c H locs 0 0 Q (F0 m 5 ls [])) (fun u x h hx H locs ls hw hl => ?_) H locs ls hw hl
  clear hL
  obtain ⟨v2, v3⟩ := u
  have h : b_X9_over_5 a1 v2 v3 σ = some x := h
  have hw : Wd 0 D cy ad s σ H locs := hw
  have hl : lv_has ls 5 [(0, .ref (ad (0))), (1, .int a1), (2, .int v2), (3, .int v3)] := hl
  have hP : ∀ (u : (Int32 × Int32)), (∀ (H : Heap) (locs : List Loc) (ls : Array Slot), Wd 0 D cy ad s σ H locs → lv_has ls 5 [(0, .ref (ad (0))), (1, .int a1), (2, .int u.1), (3, .int u.2)] → W p l e R s m args below meth c H locs 0 0 Q (F0 m 5 ls [])) → ∀ (H : Heap) (locs : List Loc) (ls : Array Slot), Wd 0 D cy ad s σ H locs → lv_has ls 5 [(0, .ref (ad (0))), (1, .int a1), (2, .int u.1), (3, .int u.2)] → W p l e R s m args below meth c H locs 0 0 Q (F0 m 5 ls []) := fun _ k => k
  unfold b_X9_over_5 at h
  refine lv_iload_n C.1 C.2.1 dX9_over_5 rfl (lv_at hl 3 rfl) ?_
  refine lv_iload_n C.1 C.2.1 dX9_over_6 rfl (lv_at hl 1 rfl) ?_
  refine lv_icmp_ge (tgt := 62) C.1 C.2.1 dX9_over_7 (by decide) (fun cd => ?_) (fun cd => ?_)
  · have h := ite_t cd h
    obtain rfl := Option.some.inj h
    exact hE0 _ hx _ _ _ hw (lv_sub hl [2] rfl)
  · have h := ite_f cd h
    refine lv_aload_n C.1 C.2.1 dX9_over_10 rfl (lv_at hl 0 rfl) ?_
    refine gf_X9_29 C hw dX9_over_11 ?_
    refine lv_iconst (v := (3 : Int32)) C.1 C.2.1 dX9_over_14 (by decide) ?_
    refine lv_iload_n C.1 C.2.1 dX9_over_15 rfl (lv_at hl 3 rfl) ?_
    refine lv_iadd C.1 C.2.1 dX9_over_16 ?_
    obtain ⟨hin, h⟩ := gd_of h
    refine m_iald C hw a0_7 hin dX9_over_17 ?_
    refine go_I hw (run_S (As := [.int _]) C hw (c_X9_armsOf C.2.2.2.2.2.2.2.2.2 _ _) mi_X9_armsOf ms_X9_armsOf lk_X9_125 (by decide) (by decide) rfl hl.1 rfl (Nat.le_of_ble_eq_true rfl) dX9_over_18 ⟨Nat.le_refl 0, Nat.le_refl 0⟩) (fun H locs hw => ?_)
    obtain ⟨x1, ex1, h⟩ := lt_of h
    refine m_topi ex1 ?_
    refine lv_istore (lv' := [(4, .int _), (0, .ref _), (1, .int _), (2, .int _), (3, .int _)]) C.1 C.2.1 dX9_over_21 hl (by decide) rfl (fun ls hl => ?_)
    refine lv_iload C.1 C.2.1 dX9_over_23 (lv_at hl 0 rfl) ?_
    refine lv_if_le (tgt := 35) C.1 C.2.1 dX9_over_25 (by decide) (fun cd => ?_) (fun cd => ?_)
    · have h := ite_t cd h
      exact w_X9_over_35 C hx hP hE0 hw (lv_sub hl [1, 2, 3, 4, 0] rfl) h
    · have h := ite_f cd h
      refine lv_iload_n C.1 C.2.1 dX9_over_28 rfl (lv_at hl 4 rfl) ?_
      refine lv_iconst (v := (1 : Int32)) C.1 C.2.1 dX9_over_29 (by decide) ?_
      refine lv_iadd C.1 C.2.1 dX9_over_30 ?_
      refine lv_iload_n C.1 C.2.1 dX9_over_31 rfl (lv_at hl 2 rfl) ?_
      refine lv_icmp_eq (tgt := 50) C.1 C.2.1 dX9_over_32 (by decide) (fun cd => ?_) (fun cd => ?_)
      · have h := ite_t cd h
        exact w_X9_over_50 C hx hP hE0 hw (lv_sub hl [1, 2, 4] rfl) h
      · have h := ite_f cd h
        exact w_X9_over_35 C hx hP hE0 hw (lv_sub hl [1, 2, 3, 4, 0] rfl) h
set_option maxRecDepth 20000 in
theorem c_X9_over {l : Launch} {D : va_G} {cy : Nat → ClassId} {ad : Nat → Nat} (hj : InjW 0 ad) (a1 : Int32)  (σ : Mem) (r : Int32) (h : f_X9_over a1 σ = some r) : CI 0 D cy ad l yX9_over cX9_over 5 (some .int) 1 [.ref (ad (0)), .int a1] σ r σ := by
  refine CI.mk (by decide) hj (Nat.le_of_ble_eq_true rfl) (fun p e R s m below meth c ls C hw hl => ?_)
  have hl : lv_has ls 5 [(0, .ref (ad (0))), (1, .int a1)] := hl
  generalize ([.ref (ad (0)), .int a1] : List Value).toArray = args at C ⊢
  have C : Cx 0 D cy ad p R s m args meth c cX9_over 5 RX9 (some .int) 1 := C
  unfold f_X9_over at h
  refine lv_bipush (v := (-9 : Int32)) C.1 C.2.1 dX9_over_0 (by decide) ?_
  refine lv_istore_n (lv' := [(2, .int _), (0, .ref _), (1, .int _)]) C.1 C.2.1 dX9_over_2 rfl hl (by decide) rfl (fun ls hl => ?_)
  refine lv_iconst (v := (0 : Int32)) C.1 C.2.1 dX9_over_3 (by decide) ?_
  refine lv_istore_n (lv' := [(3, .int _), (2, .int _), (0, .ref _), (1, .int _)]) C.1 C.2.1 dX9_over_4 rfl hl (by decide) rfl (fun ls hl => ?_)
  obtain ⟨r4, hL, h⟩ := bS h
  refine w_X9_over_5 C  hL (fun y0 hr H locs ls hw hl => ?_) _ _ _ hw (lv_sub hl [2, 3, 1, 0] rfl)
  · subst hr
    try dsimp only at h
    try dsimp only at hw
    try dsimp only at hl
    refine lv_iload_n C.1 C.2.1 dX9_over_62 rfl (lv_at hl 0 rfl) ?_
    exact m_iret C hw (ret_i h) dX9_over_63
noncomputable def f_X9_node (a1 : Int32) (a2 : Int32) (σ : Mem) : Option (Int32 × Mem) :=
  (f_X9_isNode a1 σ).bind (fun r1 => if r1 = 0 then (some ((-1 : Int32), σ)) else (if (f_X9_in a2 (0 : Int32) (3 : Int32)) = 0 then (some ((-1 : Int32), σ)) else ((f_X9_findComes σ).bind (fun r2 => if a2 = 0 then (gd (ix ((3 : Int32) + a1) 102) (some (r2.1 7 ((3 : Int32) + a1).toNatClampNeg, r2))) else (if a2 = (1 : Int32) then (gd (ix a1 32) (some (r2.1 10 a1.toNatClampNeg, r2))) else (if a2 = (2 : Int32) then ((f_X9_over a1 r2).bind (fun r3 => some (r3, r2))) else (gd (ix a1 31) (some (r2.1 11 a1.toNatClampNeg, r2)))))))))
set_option maxRecDepth 20000 in
theorem c_X9_node {l : Launch} {D : va_G} {cy : Nat → ClassId} {ad : Nat → Nat} (hj : InjW 0 ad) (a1 : Int32) (a2 : Int32)  (σ : Mem) (r : (Int32 × Mem)) (h : f_X9_node a1 a2 σ = some r) : CI 0 D cy ad l yX9_node cX9_node 3 (some .int) 3 [.ref (ad (0)), .int a1, .int a2] σ r.1 r.2 := by
  refine CI.mk (by decide) hj (Nat.le_of_ble_eq_true rfl) (fun p e R s m below meth c ls C hw hl => ?_)
  have hl : lv_has ls 3 [(0, .ref (ad (0))), (1, .int a1), (2, .int a2)] := hl
  generalize ([.ref (ad (0)), .int a1, .int a2] : List Value).toArray = args at C ⊢
  have C : Cx 0 D cy ad p R s m args meth c cX9_node 3 RX9 (some .int) 3 := C
  unfold f_X9_node at h
  refine lv_aload_n C.1 C.2.1 dX9_node_0 rfl (lv_at hl 0 rfl) ?_
  refine lv_iload_n C.1 C.2.1 dX9_node_1 rfl (lv_at hl 1 rfl) ?_
  obtain ⟨r1, h1, h⟩ := bS h
  refine go_I hw (run_V (As := [.int _]) C hw (c_X9_isNode C.2.2.2.2.2.2.2.2.2 _ _ _ h1) mi_X9_isNode mv_X9_isNode o0_0 (ci := 9) rfl rfl lk_X9_156 (by decide) (by decide) rfl hl.1 rfl (Nat.le_of_ble_eq_true rfl) dX9_node_2 ⟨Nat.le_refl 0, Nat.le_refl 0⟩) (fun H locs hw => ?_)
  refine lv_if_eq (tgt := 17) C.1 C.2.1 dX9_node_5 (by decide) (fun cd => ?_) (fun cd => ?_)
  · have h := ite_t cd h
    refine lv_iconst (v := (-1 : Int32)) C.1 C.2.1 dX9_node_17 (by decide) ?_
    exact m_iret C hw (ret_p h) dX9_node_18
  · have h := ite_f cd h
    refine lv_iload_n C.1 C.2.1 dX9_node_8 rfl (lv_at hl 2 rfl) ?_
    refine lv_iconst (v := (0 : Int32)) C.1 C.2.1 dX9_node_9 (by decide) ?_
    refine lv_iconst (v := (3 : Int32)) C.1 C.2.1 dX9_node_10 (by decide) ?_
    refine go_I hw (run_S (As := [.int _, .int _, .int _]) C hw (c_X9_in C.2.2.2.2.2.2.2.2.2 _ _ _ _) mi_X9_in ms_X9_in lk_X9_88 (by decide) (by decide) rfl hl.1 rfl (Nat.le_of_ble_eq_true rfl) dX9_node_11 ⟨Nat.le_refl 0, Nat.le_refl 0⟩) (fun H locs hw => ?_)
    refine lv_if_ne (tgt := 19) C.1 C.2.1 dX9_node_14 (by decide) (fun cd => ?_) (fun cd => ?_)
    · have h := ite_f cd h
      refine lv_aload_n C.1 C.2.1 dX9_node_19 rfl (lv_at hl 0 rfl) ?_
      obtain ⟨r2, h1, h⟩ := bS h
      refine go_V hw (run_V (As := []) C hw (c_X9_findComes C.2.2.2.2.2.2.2.2.2 _ _ h1) mi_X9_findComes mv_X9_findComes o0_0 (ci := 9) rfl rfl lk_X9_159 (by decide) (by decide) rfl hl.1 rfl (Nat.le_of_ble_eq_true rfl) dX9_node_20 ⟨Nat.le_refl 0, Nat.le_refl 0⟩) (fun H locs hw => ?_)
      refine lv_iload_n C.1 C.2.1 dX9_node_23 rfl (lv_at hl 2 rfl) ?_
      refine lv_if_ne (tgt := 38) C.1 C.2.1 dX9_node_24 (by decide) (fun cd => ?_) (fun cd => ?_)
      · have h := ite_f cd h
        refine lv_iload_n C.1 C.2.1 dX9_node_38 rfl (lv_at hl 2 rfl) ?_
        refine lv_iconst (v := (1 : Int32)) C.1 C.2.1 dX9_node_39 (by decide) ?_
        refine lv_icmp_ne (tgt := 52) C.1 C.2.1 dX9_node_40 (by decide) (fun cd => ?_) (fun cd => ?_)
        · have h := ite_f cd h
          refine lv_iload_n C.1 C.2.1 dX9_node_52 rfl (lv_at hl 2 rfl) ?_
          refine lv_iconst (v := (2 : Int32)) C.1 C.2.1 dX9_node_53 (by decide) ?_
          refine lv_icmp_ne (tgt := 65) C.1 C.2.1 dX9_node_54 (by decide) (fun cd => ?_) (fun cd => ?_)
          · have h := ite_f cd h
            refine lv_aload_n C.1 C.2.1 dX9_node_65 rfl (lv_at hl 0 rfl) ?_
            refine gf_X9_42 C hw dX9_node_66 ?_
            refine lv_iload_n C.1 C.2.1 dX9_node_69 rfl (lv_at hl 1 rfl) ?_
            obtain ⟨hin, h⟩ := gd_of h
            refine m_iald C hw a0_11 hin dX9_node_70 ?_
            exact m_iret C hw (ret_p h) dX9_node_71
          · have h := ite_t cd h
            refine lv_aload_n C.1 C.2.1 dX9_node_57 rfl (lv_at hl 0 rfl) ?_
            refine lv_iload_n C.1 C.2.1 dX9_node_58 rfl (lv_at hl 1 rfl) ?_
            obtain ⟨r3, h1, h⟩ := bS h
            refine go_I hw (run_V (As := [.int _]) C hw (c_X9_over C.2.2.2.2.2.2.2.2.2 _ _ _ h1) mi_X9_over mv_X9_over o0_0 (ci := 9) rfl rfl lk_X9_162 (by decide) (by decide) rfl hl.1 rfl (Nat.le_of_ble_eq_true rfl) dX9_node_59 ⟨Nat.le_refl 0, Nat.le_refl 0⟩) (fun H locs hw => ?_)
            refine lv_goto (tgt := 71) C.1 C.2.1 dX9_node_62 (by decide) ?_
            exact m_iret C hw (ret_p h) dX9_node_71
        · have h := ite_t cd h
          refine lv_aload_n C.1 C.2.1 dX9_node_43 rfl (lv_at hl 0 rfl) ?_
          refine gf_X9_39 C hw dX9_node_44 ?_
          refine lv_iload_n C.1 C.2.1 dX9_node_47 rfl (lv_at hl 1 rfl) ?_
          obtain ⟨hin, h⟩ := gd_of h
          refine m_iald C hw a0_10 hin dX9_node_48 ?_
          refine lv_goto (tgt := 71) C.1 C.2.1 dX9_node_49 (by decide) ?_
          exact m_iret C hw (ret_p h) dX9_node_71
      · have h := ite_t cd h
        refine lv_aload_n C.1 C.2.1 dX9_node_27 rfl (lv_at hl 0 rfl) ?_
        refine gf_X9_29 C hw dX9_node_28 ?_
        refine lv_iconst (v := (3 : Int32)) C.1 C.2.1 dX9_node_31 (by decide) ?_
        refine lv_iload_n C.1 C.2.1 dX9_node_32 rfl (lv_at hl 1 rfl) ?_
        refine lv_iadd C.1 C.2.1 dX9_node_33 ?_
        obtain ⟨hin, h⟩ := gd_of h
        refine m_iald C hw a0_7 hin dX9_node_34 ?_
        refine lv_goto (tgt := 71) C.1 C.2.1 dX9_node_35 (by decide) ?_
        exact m_iret C hw (ret_p h) dX9_node_71
    · have h := ite_t cd h
      refine lv_iconst (v := (-1 : Int32)) C.1 C.2.1 dX9_node_17 (by decide) ?_
      exact m_iret C hw (ret_p h) dX9_node_18
noncomputable def f_X9_sign (a1 : Int32) (a2 : Int32) (σ : Mem) : Option (Int32 × Mem) :=
  (f_X9_isNode a1 σ).bind (fun r1 => if r1 = 0 then (some ((-1 : Int32), σ)) else (if (f_X9_in a2 (0 : Int32) (7 : Int32)) = 0 then (some ((-1 : Int32), σ)) else (gd (ix ((3 : Int32) + a1) 102) (if (f_X9_armsOf a2) = (f_X9_armsOf (σ.1 7 ((3 : Int32) + a1).toNatClampNeg)) then (gd (ix ((3 : Int32) + a1) 102) (lt (σ.1 7 ((3 : Int32) + a1).toNatClampNeg) (fun x2 => gd (ix ((3 : Int32) + a1) 102) (lt (sI σ 7 ((3 : Int32) + a1).toNatClampNeg a2) (fun σ3 => some (x2, σ3)))))) else (some ((-1 : Int32), σ))))))
set_option maxRecDepth 20000 in
theorem c_X9_sign {l : Launch} {D : va_G} {cy : Nat → ClassId} {ad : Nat → Nat} (hj : InjW 0 ad) (a1 : Int32) (a2 : Int32)  (σ : Mem) (r : (Int32 × Mem)) (h : f_X9_sign a1 a2 σ = some r) : CI 0 D cy ad l yX9_sign cX9_sign 4 (some .int) 2 [.ref (ad (0)), .int a1, .int a2] σ r.1 r.2 := by
  refine CI.mk (by decide) hj (Nat.le_of_ble_eq_true rfl) (fun p e R s m below meth c ls C hw hl => ?_)
  have hl : lv_has ls 4 [(0, .ref (ad (0))), (1, .int a1), (2, .int a2)] := hl
  generalize ([.ref (ad (0)), .int a1, .int a2] : List Value).toArray = args at C ⊢
  have C : Cx 0 D cy ad p R s m args meth c cX9_sign 4 RX9 (some .int) 2 := C
  unfold f_X9_sign at h
  refine lv_aload_n C.1 C.2.1 dX9_sign_0 rfl (lv_at hl 0 rfl) ?_
  refine lv_iload_n C.1 C.2.1 dX9_sign_1 rfl (lv_at hl 1 rfl) ?_
  obtain ⟨r1, h1, h⟩ := bS h
  refine go_I hw (run_V (As := [.int _]) C hw (c_X9_isNode C.2.2.2.2.2.2.2.2.2 _ _ _ h1) mi_X9_isNode mv_X9_isNode o0_0 (ci := 9) rfl rfl lk_X9_156 (by decide) (by decide) rfl hl.1 rfl (Nat.le_of_ble_eq_true rfl) dX9_sign_2 ⟨Nat.le_refl 0, Nat.le_refl 0⟩) (fun H locs hw => ?_)
  refine lv_if_eq (tgt := 36) C.1 C.2.1 dX9_sign_5 (by decide) (fun cd => ?_) (fun cd => ?_)
  · have h := ite_t cd h
    refine lv_iconst (v := (-1 : Int32)) C.1 C.2.1 dX9_sign_36 (by decide) ?_
    exact m_iret C hw (ret_p h) dX9_sign_37
  · have h := ite_f cd h
    refine lv_iload_n C.1 C.2.1 dX9_sign_8 rfl (lv_at hl 2 rfl) ?_
    refine lv_iconst (v := (0 : Int32)) C.1 C.2.1 dX9_sign_9 (by decide) ?_
    refine lv_bipush (v := (7 : Int32)) C.1 C.2.1 dX9_sign_10 (by decide) ?_
    refine go_I hw (run_S (As := [.int _, .int _, .int _]) C hw (c_X9_in C.2.2.2.2.2.2.2.2.2 _ _ _ _) mi_X9_in ms_X9_in lk_X9_88 (by decide) (by decide) rfl hl.1 rfl (Nat.le_of_ble_eq_true rfl) dX9_sign_12 ⟨Nat.le_refl 0, Nat.le_refl 0⟩) (fun H locs hw => ?_)
    refine lv_if_eq (tgt := 36) C.1 C.2.1 dX9_sign_15 (by decide) (fun cd => ?_) (fun cd => ?_)
    · have h := ite_t cd h
      refine lv_iconst (v := (-1 : Int32)) C.1 C.2.1 dX9_sign_36 (by decide) ?_
      exact m_iret C hw (ret_p h) dX9_sign_37
    · have h := ite_f cd h
      refine lv_iload_n C.1 C.2.1 dX9_sign_18 rfl (lv_at hl 2 rfl) ?_
      refine go_I hw (run_S (As := [.int _]) C hw (c_X9_armsOf C.2.2.2.2.2.2.2.2.2 _ _) mi_X9_armsOf ms_X9_armsOf lk_X9_125 (by decide) (by decide) rfl hl.1 rfl (Nat.le_of_ble_eq_true rfl) dX9_sign_19 ⟨Nat.le_refl 0, Nat.le_refl 0⟩) (fun H locs hw => ?_)
      refine lv_aload_n C.1 C.2.1 dX9_sign_22 rfl (lv_at hl 0 rfl) ?_
      refine gf_X9_29 C hw dX9_sign_23 ?_
      refine lv_iconst (v := (3 : Int32)) C.1 C.2.1 dX9_sign_26 (by decide) ?_
      refine lv_iload_n C.1 C.2.1 dX9_sign_27 rfl (lv_at hl 1 rfl) ?_
      refine lv_iadd C.1 C.2.1 dX9_sign_28 ?_
      obtain ⟨hin, h⟩ := gd_of h
      refine m_iald C hw a0_7 hin dX9_sign_29 ?_
      refine go_I hw (run_S (As := [.int _]) C hw (c_X9_armsOf C.2.2.2.2.2.2.2.2.2 _ _) mi_X9_armsOf ms_X9_armsOf lk_X9_125 (by decide) (by decide) rfl hl.1 rfl (Nat.le_of_ble_eq_true rfl) dX9_sign_30 ⟨Nat.le_refl 0, Nat.le_refl 0⟩) (fun H locs hw => ?_)
      refine lv_icmp_eq (tgt := 38) C.1 C.2.1 dX9_sign_33 (by decide) (fun cd => ?_) (fun cd => ?_)
      · have h := ite_t cd h
        refine lv_aload_n C.1 C.2.1 dX9_sign_38 rfl (lv_at hl 0 rfl) ?_
        refine gf_X9_29 C hw dX9_sign_39 ?_
        refine lv_iconst (v := (3 : Int32)) C.1 C.2.1 dX9_sign_42 (by decide) ?_
        refine lv_iload_n C.1 C.2.1 dX9_sign_43 rfl (lv_at hl 1 rfl) ?_
        refine lv_iadd C.1 C.2.1 dX9_sign_44 ?_
        obtain ⟨hin, h⟩ := gd_of h
        refine m_iald C hw a0_7 hin dX9_sign_45 ?_
        obtain ⟨x2, ex2, h⟩ := lt_of h
        refine m_topi ex2 ?_
        refine lv_istore_n (lv' := [(3, .int _), (0, .ref _), (1, .int _), (2, .int _)]) C.1 C.2.1 dX9_sign_46 rfl hl (by decide) rfl (fun ls hl => ?_)
        refine lv_aload_n C.1 C.2.1 dX9_sign_47 rfl (lv_at hl 1 rfl) ?_
        refine gf_X9_29 C hw dX9_sign_48 ?_
        refine lv_iconst (v := (3 : Int32)) C.1 C.2.1 dX9_sign_51 (by decide) ?_
        refine lv_iload_n C.1 C.2.1 dX9_sign_52 rfl (lv_at hl 2 rfl) ?_
        refine lv_iadd C.1 C.2.1 dX9_sign_53 ?_
        refine lv_iload_n C.1 C.2.1 dX9_sign_54 rfl (lv_at hl 3 rfl) ?_
        obtain ⟨hin, h⟩ := gd_of h
        refine m_iast C hw a0_7 hin dX9_sign_55 (fun H locs hw => ?_)
        obtain ⟨σ3, eσ3, h⟩ := lt_of h
        rw [← eσ3] at hw
        refine lv_iload_n C.1 C.2.1 dX9_sign_56 rfl (lv_at hl 0 rfl) ?_
        exact m_iret C hw (ret_p h) dX9_sign_57
      · have h := ite_f cd h
        refine lv_iconst (v := (-1 : Int32)) C.1 C.2.1 dX9_sign_36 (by decide) ?_
        exact m_iret C hw (ret_p h) dX9_sign_37
noncomputable def b_X9_exchange_48 (a1 : Int32) (v2 : Int32) (v3 : Int32) (v4 : Int32) (v5 : Int32) (σ : Mem) : Option ((Int32 × Int32 × Int32 × Int32 × Mem) ⊕ (Int32 × Int32 × Int32 × Mem)) :=
  gd (ix v3 32) (if (v3 + (σ.1 10 v3.toNatClampNeg)) ≤ v5 then (some (.inr (v2, v3, v4, σ))) else (gd (ix ((3 : Int32) + v5) 102) (gd (ix v4 31) (lt (sI σ 9 v4.toNatClampNeg (σ.1 7 ((3 : Int32) + v5).toNatClampNeg)) (fun σ5 => lt (v4 + (1 : Int32)) (fun x6 => lt (v5 + (1 : Int32)) (fun x7 => some (.inl (v2, v3, x6, x7, σ5)))))))))
noncomputable def b_X9_exchange_89 (a1 : Int32) (v2 : Int32) (v3 : Int32) (v4 : Int32) (v5 : Int32) (σ : Mem) : Option ((Int32 × Int32 × Int32 × Int32 × Mem) ⊕ (Int32 × Int32 × Mem)) :=
  if v3 ≤ v5 then (some (.inr (v2, v4, σ))) else (gd (ix ((3 : Int32) + v5) 102) (gd (ix v4 31) (lt (sI σ 9 v4.toNatClampNeg (σ.1 7 ((3 : Int32) + v5).toNatClampNeg)) (fun σ10 => lt (v4 + (1 : Int32)) (fun x11 => lt (v5 + (1 : Int32)) (fun x12 => some (.inl (v2, v3, x11, x12, σ10))))))))
noncomputable def b_X9_exchange_123 (a1 : Int32) (v2 : Int32) (v4 : Int32) (v5 : Int32) (σ : Mem) : Option ((Int32 × Int32 × Int32 × Mem) ⊕ Mem) :=
  if v4 ≤ v5 then (some (.inr σ)) else (gd (ix v5 31) (gd (ix (((3 : Int32) + v2) + v5) 102) (lt (sI σ 7 (((3 : Int32) + v2) + v5).toNatClampNeg (σ.1 9 v5.toNatClampNeg)) (fun σ14 => lt (v5 + (1 : Int32)) (fun x15 => some (.inl (v2, v4, x15, σ14)))))))
noncomputable def f_X9_exchange (a1 : Int32) (σ : Mem) : Option (Int32 × Mem) :=
  (f_X9_isNode a1 σ).bind (fun r1 => if r1 = 0 then (some ((-1 : Int32), σ)) else (gd (ix ((3 : Int32) + a1) 102) (if (f_X9_armsOf (σ.1 7 ((3 : Int32) + a1).toNatClampNeg)) = (2 : Int32) then ((f_X9_findParts σ).bind (fun r2 => lt (a1 + (1 : Int32)) (fun x3 => (f_X9_second a1 r2).bind (fun r4 => (Lim (T := (Int32 × Int32 × Int32 × Mem)) (fun s => b_X9_exchange_48 a1 s.1 s.2.1 s.2.2.1 s.2.2.2.1 s.2.2.2.2) (x3, r4, (0 : Int32), r4, r2)).bind (fun r8 => lt r8.1 (fun x9 => (Lim (T := (Int32 × Int32 × Mem)) (fun s => b_X9_exchange_89 a1 s.1 s.2.1 s.2.2.1 s.2.2.2.1 s.2.2.2.2) (r8.1, r8.2.1, r8.2.2.1, x9, r8.2.2.2)).bind (fun r13 => (Lim (T := Mem) (fun s => b_X9_exchange_123 a1 s.1 s.2.1 s.2.2.1 s.2.2.2) (r13.1, r13.2.1, (0 : Int32), r13.2.2)).bind (fun r16 => some ((1 : Int32), r16))))))))) else (some ((-2 : Int32), σ)))))
set_option maxRecDepth 20000 in
theorem w_X9_exchange_48 {D : va_G} {cy : Nat → ClassId} {ad : Nat → Nat} {p : Program} {l : Launch} {e : Env} {R : Room} {s : State} {m : MethodId} {args : Array Value} {below : List Frame} {meth : Method} {c : Code} (C : Cx 0 D cy ad p R s m args meth c cX9_exchange 6 RX9 (some .int) 2) {a1 : Int32}  {v2 : Int32} {v3 : Int32} {v4 : Int32} {v5 : Int32} {σ : Mem} {Q : State → Prop} {r : (Int32 × Int32 × Int32 × Mem)} (hL : Lim (T := (Int32 × Int32 × Int32 × Mem)) (fun s => b_X9_exchange_48 a1 s.1 s.2.1 s.2.2.1 s.2.2.2.1 s.2.2.2.2) (v2, v3, v4, v5, σ) = some r) (hE0 : ∀ (v2 : Int32) (v3 : Int32) (v4 : Int32) (σ1 : Mem), ((v2, v3, v4, σ1) : (Int32 × Int32 × Int32 × Mem)) = r → ∀ (H : Heap) (locs : List Loc) (ls : Array Slot), Wd 0 D cy ad s σ1 H locs → lv_has ls 6 [(0, .ref (ad (0))), (2, .int v2), (3, .int v3), (4, .int v4)] → W p l e R s m args below meth c H locs 0 0 Q (F0 m 86 ls [])) (H : Heap) (locs : List Loc) (ls : Array Slot) (hw : Wd 0 D cy ad s σ H locs) (hl : lv_has ls 6 [(0, .ref (ad (0))), (2, .int v2), (3, .int v3), (4, .int v4), (5, .int v5)]) : W p l e R s m args below meth c H locs 0 0 Q (F0 m 48 ls []) := by
  refine Lim_ind hL (P := fun u => ∀ (H : Heap) (locs : List Loc) (ls : Array Slot), Wd 0 D cy ad s u.2.2.2.2 H locs → lv_has ls 6 [(0, .ref (ad (0))), (2, .int u.1), (3, .int u.2.1), (4, .int u.2.2.1), (5, .int u.2.2.2.1)] → W p l e R s m args below meth c H locs 0 0 Q (F0 m 48 ls [])) (fun u x h hx H locs ls hw hl => ?_) H locs ls hw hl
  clear hL
  obtain ⟨v2, v3, v4, v5, σ⟩ := u
  have h : b_X9_exchange_48 a1 v2 v3 v4 v5 σ = some x := h
  have hw : Wd 0 D cy ad s σ H locs := hw
  have hl : lv_has ls 6 [(0, .ref (ad (0))), (2, .int v2), (3, .int v3), (4, .int v4), (5, .int v5)] := hl
  have hP : ∀ (u : (Int32 × Int32 × Int32 × Int32 × Mem)), (∀ (H : Heap) (locs : List Loc) (ls : Array Slot), Wd 0 D cy ad s u.2.2.2.2 H locs → lv_has ls 6 [(0, .ref (ad (0))), (2, .int u.1), (3, .int u.2.1), (4, .int u.2.2.1), (5, .int u.2.2.2.1)] → W p l e R s m args below meth c H locs 0 0 Q (F0 m 48 ls [])) → ∀ (H : Heap) (locs : List Loc) (ls : Array Slot), Wd 0 D cy ad s u.2.2.2.2 H locs → lv_has ls 6 [(0, .ref (ad (0))), (2, .int u.1), (3, .int u.2.1), (4, .int u.2.2.1), (5, .int u.2.2.2.1)] → W p l e R s m args below meth c H locs 0 0 Q (F0 m 48 ls []) := fun _ k => k
  unfold b_X9_exchange_48 at h
  refine lv_iload C.1 C.2.1 dX9_exchange_48 (lv_at hl 4 rfl) ?_
  refine lv_iload_n C.1 C.2.1 dX9_exchange_50 rfl (lv_at hl 2 rfl) ?_
  refine lv_aload_n C.1 C.2.1 dX9_exchange_51 rfl (lv_at hl 0 rfl) ?_
  refine gf_X9_39 C hw dX9_exchange_52 ?_
  refine lv_iload_n C.1 C.2.1 dX9_exchange_55 rfl (lv_at hl 2 rfl) ?_
  obtain ⟨hin, h⟩ := gd_of h
  refine m_iald C hw a0_10 hin dX9_exchange_56 ?_
  refine lv_iadd C.1 C.2.1 dX9_exchange_57 ?_
  refine lv_icmp_ge (tgt := 86) C.1 C.2.1 dX9_exchange_58 (by decide) (fun cd => ?_) (fun cd => ?_)
  · have h := ite_t cd h
    obtain rfl := Option.some.inj h
    exact hE0 _ _ _ _ hx _ _ _ hw (lv_sub hl [0, 1, 2, 3] rfl)
  · have h := ite_f cd h
    refine lv_aload_n C.1 C.2.1 dX9_exchange_61 rfl (lv_at hl 0 rfl) ?_
    refine gf_X9_36 C hw dX9_exchange_62 ?_
    refine lv_iload C.1 C.2.1 dX9_exchange_65 (lv_at hl 3 rfl) ?_
    refine lv_aload_n C.1 C.2.1 dX9_exchange_67 rfl (lv_at hl 0 rfl) ?_
    refine gf_X9_29 C hw dX9_exchange_68 ?_
    refine lv_iconst (v := (3 : Int32)) C.1 C.2.1 dX9_exchange_71 (by decide) ?_
    refine lv_iload C.1 C.2.1 dX9_exchange_72 (lv_at hl 4 rfl) ?_
    refine lv_iadd C.1 C.2.1 dX9_exchange_74 ?_
    obtain ⟨hin, h⟩ := gd_of h
    refine m_iald C hw a0_7 hin dX9_exchange_75 ?_
    obtain ⟨hin, h⟩ := gd_of h
    refine m_iast C hw a0_9 hin dX9_exchange_76 (fun H locs hw => ?_)
    obtain ⟨σ5, eσ5, h⟩ := lt_of h
    rw [← eσ5] at hw
    obtain ⟨x6, ex6, h⟩ := lt_of h
    refine m_iinc (k := 3) (lv' := [(4, .int _), (0, .ref _), (2, .int _), (3, .int _), (5, .int _)]) C (1 : Int32) (by decide) dX9_exchange_77 hl rfl ex6.symm (by decide) rfl (fun ls hl => ?_)
    obtain ⟨x7, ex7, h⟩ := lt_of h
    refine m_iinc (k := 4) (lv' := [(5, .int _), (4, .int _), (0, .ref _), (2, .int _), (3, .int _)]) C (1 : Int32) (by decide) dX9_exchange_80 hl rfl ex7.symm (by decide) rfl (fun ls hl => ?_)
    refine lv_goto (tgt := 48) C.1 C.2.1 dX9_exchange_83 (by decide) ?_
    obtain rfl := Option.some.inj h
    exact hP _ hx _ _ _ hw (lv_sub hl [2, 3, 4, 1, 0] rfl)
set_option maxRecDepth 20000 in
theorem w_X9_exchange_89 {D : va_G} {cy : Nat → ClassId} {ad : Nat → Nat} {p : Program} {l : Launch} {e : Env} {R : Room} {s : State} {m : MethodId} {args : Array Value} {below : List Frame} {meth : Method} {c : Code} (C : Cx 0 D cy ad p R s m args meth c cX9_exchange 6 RX9 (some .int) 2) {a1 : Int32}  {v2 : Int32} {v3 : Int32} {v4 : Int32} {v5 : Int32} {σ : Mem} {Q : State → Prop} {r : (Int32 × Int32 × Mem)} (hL : Lim (T := (Int32 × Int32 × Mem)) (fun s => b_X9_exchange_89 a1 s.1 s.2.1 s.2.2.1 s.2.2.2.1 s.2.2.2.2) (v2, v3, v4, v5, σ) = some r) (hE0 : ∀ (v2 : Int32) (v4 : Int32) (σ1 : Mem), ((v2, v4, σ1) : (Int32 × Int32 × Mem)) = r → ∀ (H : Heap) (locs : List Loc) (ls : Array Slot), Wd 0 D cy ad s σ1 H locs → lv_has ls 6 [(0, .ref (ad (0))), (2, .int v2), (4, .int v4)] → W p l e R s m args below meth c H locs 0 0 Q (F0 m 120 ls [])) (H : Heap) (locs : List Loc) (ls : Array Slot) (hw : Wd 0 D cy ad s σ H locs) (hl : lv_has ls 6 [(0, .ref (ad (0))), (2, .int v2), (3, .int v3), (4, .int v4), (5, .int v5)]) : W p l e R s m args below meth c H locs 0 0 Q (F0 m 89 ls []) := by
  refine Lim_ind hL (P := fun u => ∀ (H : Heap) (locs : List Loc) (ls : Array Slot), Wd 0 D cy ad s u.2.2.2.2 H locs → lv_has ls 6 [(0, .ref (ad (0))), (2, .int u.1), (3, .int u.2.1), (4, .int u.2.2.1), (5, .int u.2.2.2.1)] → W p l e R s m args below meth c H locs 0 0 Q (F0 m 89 ls [])) (fun u x h hx H locs ls hw hl => ?_) H locs ls hw hl
  clear hL
  obtain ⟨v2, v3, v4, v5, σ⟩ := u
  have h : b_X9_exchange_89 a1 v2 v3 v4 v5 σ = some x := h
  have hw : Wd 0 D cy ad s σ H locs := hw
  have hl : lv_has ls 6 [(0, .ref (ad (0))), (2, .int v2), (3, .int v3), (4, .int v4), (5, .int v5)] := hl
  have hP : ∀ (u : (Int32 × Int32 × Int32 × Int32 × Mem)), (∀ (H : Heap) (locs : List Loc) (ls : Array Slot), Wd 0 D cy ad s u.2.2.2.2 H locs → lv_has ls 6 [(0, .ref (ad (0))), (2, .int u.1), (3, .int u.2.1), (4, .int u.2.2.1), (5, .int u.2.2.2.1)] → W p l e R s m args below meth c H locs 0 0 Q (F0 m 89 ls [])) → ∀ (H : Heap) (locs : List Loc) (ls : Array Slot), Wd 0 D cy ad s u.2.2.2.2 H locs → lv_has ls 6 [(0, .ref (ad (0))), (2, .int u.1), (3, .int u.2.1), (4, .int u.2.2.1), (5, .int u.2.2.2.1)] → W p l e R s m args below meth c H locs 0 0 Q (F0 m 89 ls []) := fun _ k => k
  unfold b_X9_exchange_89 at h
  refine lv_iload C.1 C.2.1 dX9_exchange_89 (lv_at hl 4 rfl) ?_
  refine lv_iload_n C.1 C.2.1 dX9_exchange_91 rfl (lv_at hl 2 rfl) ?_
  refine lv_icmp_ge (tgt := 120) C.1 C.2.1 dX9_exchange_92 (by decide) (fun cd => ?_) (fun cd => ?_)
  · have h := ite_t cd h
    obtain rfl := Option.some.inj h
    exact hE0 _ _ _ hx _ _ _ hw (lv_sub hl [0, 1, 3] rfl)
  · have h := ite_f cd h
    refine lv_aload_n C.1 C.2.1 dX9_exchange_95 rfl (lv_at hl 0 rfl) ?_
    refine gf_X9_36 C hw dX9_exchange_96 ?_
    refine lv_iload C.1 C.2.1 dX9_exchange_99 (lv_at hl 3 rfl) ?_
    refine lv_aload_n C.1 C.2.1 dX9_exchange_101 rfl (lv_at hl 0 rfl) ?_
    refine gf_X9_29 C hw dX9_exchange_102 ?_
    refine lv_iconst (v := (3 : Int32)) C.1 C.2.1 dX9_exchange_105 (by decide) ?_
    refine lv_iload C.1 C.2.1 dX9_exchange_106 (lv_at hl 4 rfl) ?_
    refine lv_iadd C.1 C.2.1 dX9_exchange_108 ?_
    obtain ⟨hin, h⟩ := gd_of h
    refine m_iald C hw a0_7 hin dX9_exchange_109 ?_
    obtain ⟨hin, h⟩ := gd_of h
    refine m_iast C hw a0_9 hin dX9_exchange_110 (fun H locs hw => ?_)
    obtain ⟨σ10, eσ10, h⟩ := lt_of h
    rw [← eσ10] at hw
    obtain ⟨x11, ex11, h⟩ := lt_of h
    refine m_iinc (k := 3) (lv' := [(4, .int _), (0, .ref _), (2, .int _), (3, .int _), (5, .int _)]) C (1 : Int32) (by decide) dX9_exchange_111 hl rfl ex11.symm (by decide) rfl (fun ls hl => ?_)
    obtain ⟨x12, ex12, h⟩ := lt_of h
    refine m_iinc (k := 4) (lv' := [(5, .int _), (4, .int _), (0, .ref _), (2, .int _), (3, .int _)]) C (1 : Int32) (by decide) dX9_exchange_114 hl rfl ex12.symm (by decide) rfl (fun ls hl => ?_)
    refine lv_goto (tgt := 89) C.1 C.2.1 dX9_exchange_117 (by decide) ?_
    obtain rfl := Option.some.inj h
    exact hP _ hx _ _ _ hw (lv_sub hl [2, 3, 4, 1, 0] rfl)
set_option maxRecDepth 20000 in
theorem w_X9_exchange_123 {D : va_G} {cy : Nat → ClassId} {ad : Nat → Nat} {p : Program} {l : Launch} {e : Env} {R : Room} {s : State} {m : MethodId} {args : Array Value} {below : List Frame} {meth : Method} {c : Code} (C : Cx 0 D cy ad p R s m args meth c cX9_exchange 6 RX9 (some .int) 2) {a1 : Int32}  {v2 : Int32} {v4 : Int32} {v5 : Int32} {σ : Mem} {Q : State → Prop} {r : Mem} (hL : Lim (T := Mem) (fun s => b_X9_exchange_123 a1 s.1 s.2.1 s.2.2.1 s.2.2.2) (v2, v4, v5, σ) = some r) (hE0 : ∀ (σ1 : Mem), (σ1 : Mem) = r → ∀ (H : Heap) (locs : List Loc) (ls : Array Slot), Wd 0 D cy ad s σ1 H locs → lv_has ls 6 [] → W p l e R s m args below meth c H locs 0 0 Q (F0 m 154 ls [])) (H : Heap) (locs : List Loc) (ls : Array Slot) (hw : Wd 0 D cy ad s σ H locs) (hl : lv_has ls 6 [(0, .ref (ad (0))), (2, .int v2), (4, .int v4), (5, .int v5)]) : W p l e R s m args below meth c H locs 0 0 Q (F0 m 123 ls []) := by
  refine Lim_ind hL (P := fun u => ∀ (H : Heap) (locs : List Loc) (ls : Array Slot), Wd 0 D cy ad s u.2.2.2 H locs → lv_has ls 6 [(0, .ref (ad (0))), (2, .int u.1), (4, .int u.2.1), (5, .int u.2.2.1)] → W p l e R s m args below meth c H locs 0 0 Q (F0 m 123 ls [])) (fun u x h hx H locs ls hw hl => ?_) H locs ls hw hl
  clear hL
  obtain ⟨v2, v4, v5, σ⟩ := u
  have h : b_X9_exchange_123 a1 v2 v4 v5 σ = some x := h
  have hw : Wd 0 D cy ad s σ H locs := hw
  have hl : lv_has ls 6 [(0, .ref (ad (0))), (2, .int v2), (4, .int v4), (5, .int v5)] := hl
  have hP : ∀ (u : (Int32 × Int32 × Int32 × Mem)), (∀ (H : Heap) (locs : List Loc) (ls : Array Slot), Wd 0 D cy ad s u.2.2.2 H locs → lv_has ls 6 [(0, .ref (ad (0))), (2, .int u.1), (4, .int u.2.1), (5, .int u.2.2.1)] → W p l e R s m args below meth c H locs 0 0 Q (F0 m 123 ls [])) → ∀ (H : Heap) (locs : List Loc) (ls : Array Slot), Wd 0 D cy ad s u.2.2.2 H locs → lv_has ls 6 [(0, .ref (ad (0))), (2, .int u.1), (4, .int u.2.1), (5, .int u.2.2.1)] → W p l e R s m args below meth c H locs 0 0 Q (F0 m 123 ls []) := fun _ k => k
  unfold b_X9_exchange_123 at h
  refine lv_iload C.1 C.2.1 dX9_exchange_123 (lv_at hl 3 rfl) ?_
  refine lv_iload C.1 C.2.1 dX9_exchange_125 (lv_at hl 2 rfl) ?_
  refine lv_icmp_ge (tgt := 154) C.1 C.2.1 dX9_exchange_127 (by decide) (fun cd => ?_) (fun cd => ?_)
  · have h := ite_t cd h
    obtain rfl := Option.some.inj h
    exact hE0 _ hx _ _ _ hw (lv_sub hl [] rfl)
  · have h := ite_f cd h
    refine lv_aload_n C.1 C.2.1 dX9_exchange_130 rfl (lv_at hl 0 rfl) ?_
    refine gf_X9_29 C hw dX9_exchange_131 ?_
    refine lv_iconst (v := (3 : Int32)) C.1 C.2.1 dX9_exchange_134 (by decide) ?_
    refine lv_iload_n C.1 C.2.1 dX9_exchange_135 rfl (lv_at hl 1 rfl) ?_
    refine lv_iadd C.1 C.2.1 dX9_exchange_136 ?_
    refine lv_iload C.1 C.2.1 dX9_exchange_137 (lv_at hl 3 rfl) ?_
    refine lv_iadd C.1 C.2.1 dX9_exchange_139 ?_
    refine lv_aload_n C.1 C.2.1 dX9_exchange_140 rfl (lv_at hl 0 rfl) ?_
    refine gf_X9_36 C hw dX9_exchange_141 ?_
    refine lv_iload C.1 C.2.1 dX9_exchange_144 (lv_at hl 3 rfl) ?_
    obtain ⟨hin, h⟩ := gd_of h
    refine m_iald C hw a0_9 hin dX9_exchange_146 ?_
    obtain ⟨hin, h⟩ := gd_of h
    refine m_iast C hw a0_7 hin dX9_exchange_147 (fun H locs hw => ?_)
    obtain ⟨σ14, eσ14, h⟩ := lt_of h
    rw [← eσ14] at hw
    obtain ⟨x15, ex15, h⟩ := lt_of h
    refine m_iinc (k := 3) (lv' := [(5, .int _), (0, .ref _), (2, .int _), (4, .int _)]) C (1 : Int32) (by decide) dX9_exchange_148 hl rfl ex15.symm (by decide) rfl (fun ls hl => ?_)
    refine lv_goto (tgt := 123) C.1 C.2.1 dX9_exchange_151 (by decide) ?_
    obtain rfl := Option.some.inj h
    exact hP _ hx _ _ _ hw (lv_sub hl [1, 2, 3, 0] rfl)
set_option maxRecDepth 20000 in
theorem c_X9_exchange {l : Launch} {D : va_G} {cy : Nat → ClassId} {ad : Nat → Nat} (hj : InjW 0 ad) (a1 : Int32)  (σ : Mem) (r : (Int32 × Mem)) (h : f_X9_exchange a1 σ = some r) : CI 0 D cy ad l yX9_exchange cX9_exchange 6 (some .int) 2 [.ref (ad (0)), .int a1] σ r.1 r.2 := by
  refine CI.mk (by decide) hj (Nat.le_of_ble_eq_true rfl) (fun p e R s m below meth c ls C hw hl => ?_)
  have hl : lv_has ls 6 [(0, .ref (ad (0))), (1, .int a1)] := hl
  generalize ([.ref (ad (0)), .int a1] : List Value).toArray = args at C ⊢
  have C : Cx 0 D cy ad p R s m args meth c cX9_exchange 6 RX9 (some .int) 2 := C
  unfold f_X9_exchange at h
  refine lv_aload_n C.1 C.2.1 dX9_exchange_0 rfl (lv_at hl 0 rfl) ?_
  refine lv_iload_n C.1 C.2.1 dX9_exchange_1 rfl (lv_at hl 1 rfl) ?_
  obtain ⟨r1, h1, h⟩ := bS h
  refine go_I hw (run_V (As := [.int _]) C hw (c_X9_isNode C.2.2.2.2.2.2.2.2.2 _ _ _ h1) mi_X9_isNode mv_X9_isNode o0_0 (ci := 9) rfl rfl lk_X9_156 (by decide) (by decide) rfl hl.1 rfl (Nat.le_of_ble_eq_true rfl) dX9_exchange_2 ⟨Nat.le_refl 0, Nat.le_refl 0⟩) (fun H locs hw => ?_)
  refine lv_if_ne (tgt := 10) C.1 C.2.1 dX9_exchange_5 (by decide) (fun cd => ?_) (fun cd => ?_)
  · have h := ite_f cd h
    refine lv_aload_n C.1 C.2.1 dX9_exchange_10 rfl (lv_at hl 0 rfl) ?_
    refine gf_X9_29 C hw dX9_exchange_11 ?_
    refine lv_iconst (v := (3 : Int32)) C.1 C.2.1 dX9_exchange_14 (by decide) ?_
    refine lv_iload_n C.1 C.2.1 dX9_exchange_15 rfl (lv_at hl 1 rfl) ?_
    refine lv_iadd C.1 C.2.1 dX9_exchange_16 ?_
    obtain ⟨hin, h⟩ := gd_of h
    refine m_iald C hw a0_7 hin dX9_exchange_17 ?_
    refine go_I hw (run_S (As := [.int _]) C hw (c_X9_armsOf C.2.2.2.2.2.2.2.2.2 _ _) mi_X9_armsOf ms_X9_armsOf lk_X9_125 (by decide) (by decide) rfl hl.1 rfl (Nat.le_of_ble_eq_true rfl) dX9_exchange_18 ⟨Nat.le_refl 0, Nat.le_refl 0⟩) (fun H locs hw => ?_)
    refine lv_iconst (v := (2 : Int32)) C.1 C.2.1 dX9_exchange_21 (by decide) ?_
    refine lv_icmp_eq (tgt := 28) C.1 C.2.1 dX9_exchange_22 (by decide) (fun cd => ?_) (fun cd => ?_)
    · have h := ite_t cd h
      refine lv_aload_n C.1 C.2.1 dX9_exchange_28 rfl (lv_at hl 0 rfl) ?_
      obtain ⟨r2, h1, h⟩ := bS h
      refine go_V hw (run_V (As := []) C hw (c_X9_findParts C.2.2.2.2.2.2.2.2.2 _ _ h1) mi_X9_findParts mv_X9_findParts o0_0 (ci := 9) rfl rfl lk_X9_149 (by decide) (by decide) rfl hl.1 rfl (Nat.le_of_ble_eq_true rfl) dX9_exchange_29 ⟨Nat.le_refl 0, Nat.le_refl 0⟩) (fun H locs hw => ?_)
      refine lv_iload_n C.1 C.2.1 dX9_exchange_32 rfl (lv_at hl 1 rfl) ?_
      refine lv_iconst (v := (1 : Int32)) C.1 C.2.1 dX9_exchange_33 (by decide) ?_
      refine lv_iadd C.1 C.2.1 dX9_exchange_34 ?_
      obtain ⟨x3, ex3, h⟩ := lt_of h
      refine m_topi ex3 ?_
      refine lv_istore_n (lv' := [(2, .int _), (0, .ref _), (1, .int _)]) C.1 C.2.1 dX9_exchange_35 rfl hl (by decide) rfl (fun ls hl => ?_)
      refine lv_aload_n C.1 C.2.1 dX9_exchange_36 rfl (lv_at hl 1 rfl) ?_
      refine lv_iload_n C.1 C.2.1 dX9_exchange_37 rfl (lv_at hl 2 rfl) ?_
      obtain ⟨r4, h1, h⟩ := bS h
      refine go_I hw (run_V (As := [.int _]) C hw (c_X9_second C.2.2.2.2.2.2.2.2.2 _ _ _ h1) mi_X9_second mv_X9_second o0_0 (ci := 9) rfl rfl lk_X9_142 (by decide) (by decide) rfl hl.1 rfl (Nat.le_of_ble_eq_true rfl) dX9_exchange_38 ⟨Nat.le_refl 0, Nat.le_refl 0⟩) (fun H locs hw => ?_)
      refine lv_istore_n (lv' := [(3, .int _), (2, .int _), (0, .ref _), (1, .int _)]) C.1 C.2.1 dX9_exchange_41 rfl hl (by decide) rfl (fun ls hl => ?_)
      refine lv_iconst (v := (0 : Int32)) C.1 C.2.1 dX9_exchange_42 (by decide) ?_
      refine lv_istore (lv' := [(4, .int _), (3, .int _), (2, .int _), (0, .ref _), (1, .int _)]) C.1 C.2.1 dX9_exchange_43 hl (by decide) rfl (fun ls hl => ?_)
      refine lv_iload_n C.1 C.2.1 dX9_exchange_45 rfl (lv_at hl 1 rfl) ?_
      refine lv_istore (lv' := [(5, .int _), (4, .int _), (3, .int _), (2, .int _), (0, .ref _), (1, .int _)]) C.1 C.2.1 dX9_exchange_46 hl (by decide) rfl (fun ls hl => ?_)
      obtain ⟨r8, hL, h⟩ := bS h
      refine w_X9_exchange_48 C  hL (fun y0 y1 y2 y3 hr H locs ls hw hl => ?_) _ _ _ hw (lv_sub hl [4, 3, 2, 1, 0] rfl)
      · subst hr
        try dsimp only at h
        try dsimp only at hw
        try dsimp only at hl
        refine lv_iload_n C.1 C.2.1 dX9_exchange_86 rfl (lv_at hl 1 rfl) ?_
        obtain ⟨x9, ex9, h⟩ := lt_of h
        refine m_topi ex9 ?_
        refine lv_istore (lv' := [(5, .int _), (0, .ref _), (2, .int _), (3, .int _), (4, .int _)]) C.1 C.2.1 dX9_exchange_87 hl (by decide) rfl (fun ls hl => ?_)
        obtain ⟨r13, hL, h⟩ := bS h
        refine w_X9_exchange_89 C  hL (fun y0 y1 y2 hr H locs ls hw hl => ?_) _ _ _ hw (lv_sub hl [1, 2, 3, 4, 0] rfl)
        · subst hr
          try dsimp only at h
          try dsimp only at hw
          try dsimp only at hl
          refine lv_iconst (v := (0 : Int32)) C.1 C.2.1 dX9_exchange_120 (by decide) ?_
          refine lv_istore (lv' := [(5, .int _), (0, .ref _), (2, .int _), (4, .int _)]) C.1 C.2.1 dX9_exchange_121 hl (by decide) rfl (fun ls hl => ?_)
          obtain ⟨r16, hL, h⟩ := bS h
          refine w_X9_exchange_123 C  hL (fun y0 hr H locs ls hw hl => ?_) _ _ _ hw (lv_sub hl [1, 2, 3, 0] rfl)
          · subst hr
            try dsimp only at h
            try dsimp only at hw
            try dsimp only at hl
            refine lv_iconst (v := (1 : Int32)) C.1 C.2.1 dX9_exchange_154 (by decide) ?_
            exact m_iret C hw (ret_p h) dX9_exchange_155
    · have h := ite_f cd h
      refine lv_bipush (v := (-2 : Int32)) C.1 C.2.1 dX9_exchange_25 (by decide) ?_
      exact m_iret C hw (ret_p h) dX9_exchange_27
  · have h := ite_t cd h
    refine lv_iconst (v := (-1 : Int32)) C.1 C.2.1 dX9_exchange_8 (by decide) ?_
    exact m_iret C hw (ret_p h) dX9_exchange_9
noncomputable def f_X9_isGood  (σ : Mem) : Option (Int32 × Mem) :=
  if (σ.1 7 (2 : Int32).toNatClampNeg) = 0 then (some ((-2 : Int32), σ)) else ((f_X9_findComes σ).bind (fun r1 => if ((r1.1 11 (0 : Int32).toNatClampNeg) &&& (r1.1 7 (1 : Int32).toNatClampNeg)) = 0 then (some ((0 : Int32), r1)) else (some ((1 : Int32), r1))))
set_option maxRecDepth 20000 in
theorem c_X9_isGood {l : Launch} {D : va_G} {cy : Nat → ClassId} {ad : Nat → Nat} (hj : InjW 0 ad)   (σ : Mem) (r : (Int32 × Mem)) (h : f_X9_isGood σ = some r) : CI 0 D cy ad l yX9_isGood cX9_isGood 1 (some .int) 3 [.ref (ad (0))] σ r.1 r.2 := by
  refine CI.mk (by decide) hj (Nat.le_of_ble_eq_true rfl) (fun p e R s m below meth c ls C hw hl => ?_)
  have hl : lv_has ls 1 [(0, .ref (ad (0)))] := hl
  generalize ([.ref (ad (0))] : List Value).toArray = args at C ⊢
  have C : Cx 0 D cy ad p R s m args meth c cX9_isGood 1 RX9 (some .int) 3 := C
  unfold f_X9_isGood at h
  refine lv_aload_n C.1 C.2.1 dX9_isGood_0 rfl (lv_at hl 0 rfl) ?_
  refine gf_X9_29 C hw dX9_isGood_1 ?_
  refine lv_iconst (v := (2 : Int32)) C.1 C.2.1 dX9_isGood_4 (by decide) ?_
  have hin : vp_in (2 : Int32) 102 := (by decide : ix (2 : Int32) 102)
  refine m_iald C hw a0_7 hin dX9_isGood_5 ?_
  refine lv_if_ne (tgt := 12) C.1 C.2.1 dX9_isGood_6 (by decide) (fun cd => ?_) (fun cd => ?_)
  · have h := ite_f cd h
    refine lv_aload_n C.1 C.2.1 dX9_isGood_12 rfl (lv_at hl 0 rfl) ?_
    obtain ⟨r1, h1, h⟩ := bS h
    refine go_V hw (run_V (As := []) C hw (c_X9_findComes C.2.2.2.2.2.2.2.2.2 _ _ h1) mi_X9_findComes mv_X9_findComes o0_0 (ci := 9) rfl rfl lk_X9_159 (by decide) (by decide) rfl hl.1 rfl (Nat.le_of_ble_eq_true rfl) dX9_isGood_13 ⟨Nat.le_refl 0, Nat.le_refl 0⟩) (fun H locs hw => ?_)
    refine lv_aload_n C.1 C.2.1 dX9_isGood_16 rfl (lv_at hl 0 rfl) ?_
    refine gf_X9_42 C hw dX9_isGood_17 ?_
    refine lv_iconst (v := (0 : Int32)) C.1 C.2.1 dX9_isGood_20 (by decide) ?_
    have hin : vp_in (0 : Int32) 31 := (by decide : ix (0 : Int32) 31)
    refine m_iald C hw a0_11 hin dX9_isGood_21 ?_
    refine lv_aload_n C.1 C.2.1 dX9_isGood_22 rfl (lv_at hl 0 rfl) ?_
    refine gf_X9_29 C hw dX9_isGood_23 ?_
    refine lv_iconst (v := (1 : Int32)) C.1 C.2.1 dX9_isGood_26 (by decide) ?_
    have hin : vp_in (1 : Int32) 102 := (by decide : ix (1 : Int32) 102)
    refine m_iald C hw a0_7 hin dX9_isGood_27 ?_
    refine lv_iand C.1 C.2.1 dX9_isGood_28 ?_
    refine lv_if_eq (tgt := 36) C.1 C.2.1 dX9_isGood_29 (by decide) (fun cd => ?_) (fun cd => ?_)
    · have h := ite_t cd h
      refine lv_iconst (v := (0 : Int32)) C.1 C.2.1 dX9_isGood_36 (by decide) ?_
      exact m_iret C hw (ret_p h) dX9_isGood_37
    · have h := ite_f cd h
      refine lv_iconst (v := (1 : Int32)) C.1 C.2.1 dX9_isGood_32 (by decide) ?_
      refine lv_goto (tgt := 37) C.1 C.2.1 dX9_isGood_33 (by decide) ?_
      exact m_iret C hw (ret_p h) dX9_isGood_37
  · have h := ite_t cd h
    refine lv_bipush (v := (-2 : Int32)) C.1 C.2.1 dX9_isGood_9 (by decide) ?_
    exact m_iret C hw (ret_p h) dX9_isGood_11
noncomputable def b_X9_runs_46  (v1 : Int32) (v2 : Int32) (v3 : Int32) (v4 : Int32) (σ : Mem) : Option ((Int32 × Int32 × Int32 × Int32 × Mem) ⊕ (Int32 × Int32 × Int32 × Mem)) :=
  if (6 : Int32) ≤ v4 then (some (.inr (v1, v2, v3, σ))) else (gd (ix (((6 : Int32) * v1) + v4) 186) (lt (sJ σ 12 (((6 : Int32) * v1) + v4).toNatClampNeg (0 : Int64)) (fun σ5 => lt (v4 + (1 : Int32)) (fun x6 => some (.inl (v1, v2, v3, x6, σ5))))))
noncomputable def j_X9_runs_221  (v1 : Int32) (v2 : Int32) (v3 : Int32) (v4 : Int32) (σ : Mem) : Option ((Int32 × Int32 × Int32 × Int32 × Mem) ⊕ (Int32 × Mem)) :=
  lt (v4 + (1 : Int32)) (fun x8 => some (.inl (v1, v2, v3, x8, σ)))
noncomputable def j_X9_runs_178  (z0 : Int64) (v1 : Int32) (v2 : Int32) (v3 : Int32) (v4 : Int32) (σ : Mem) : Option ((Int32 × Int32 × Int32 × Int32 × Mem) ⊕ (Int32 × Mem)) :=
  gd (ix v4 32) (gd (ix v4 32) (gd (ix (((6 : Int32) * v1) + (σ.1 6 v4.toNatClampNeg)) 186) (gd (ix (((6 : Int32) * v1) + (σ.1 6 v4.toNatClampNeg)) 186) (lt (sJ σ 12 (((6 : Int32) * v1) + (σ.1 6 v4.toNatClampNeg)).toNatClampNeg (((σ.2.1 12 (((6 : Int32) * v1) + (σ.1 6 v4.toNatClampNeg)).toNatClampNeg) + z0) - ((σ.2.1 12 (((6 : Int32) * v1) + (σ.1 6 v4.toNatClampNeg)).toNatClampNeg) + z0) / (1000003 : Int64) * (1000003 : Int64))) (fun σ9 => j_X9_runs_221 v1 v2 v3 v4 σ9)))))
noncomputable def j_X9_runs_138  (z0 : Int64) (v1 : Int32) (v2 : Int32) (v3 : Int32) (v4 : Int32) (σ : Mem) : Option ((Int32 × Int32 × Int32 × Int32 × Mem) ⊕ (Int32 × Mem)) :=
  if v3 ≤ (1 : Int32) then (j_X9_runs_178 z0 v1 v2 v3 v4 σ) else ((f_X9_second v1 σ).bind (fun r10 => gd (ix v4 32) (gd (ix (((6 : Int32) * r10) + (σ.1 5 v4.toNatClampNeg)) 186) (j_X9_runs_178 ((z0 * (σ.2.1 12 (((6 : Int32) * r10) + (σ.1 5 v4.toNatClampNeg)).toNatClampNeg)) - (z0 * (σ.2.1 12 (((6 : Int32) * r10) + (σ.1 5 v4.toNatClampNeg)).toNatClampNeg)) / (1000003 : Int64) * (1000003 : Int64)) v1 v2 v3 v4 σ))))
noncomputable def b_X9_runs_75  (v1 : Int32) (v2 : Int32) (v3 : Int32) (v4 : Int32) (σ : Mem) : Option ((Int32 × Int32 × Int32 × Int32 × Mem) ⊕ (Int32 × Mem)) :=
  if (σ.1 2 (0 : Int32).toNatClampNeg) ≤ v4 then (some (.inr (v1, σ))) else (if (f_X9_has (σ.1 7 (0 : Int32).toNatClampNeg) v4) = 0 then (j_X9_runs_221 v1 v2 v3 v4 σ) else (gd (ix v4 32) (if (σ.1 3 v4.toNatClampNeg) = v2 then (if v3 ≤ 0 then (j_X9_runs_138 (1 : Int64) v1 v2 v3 v4 σ) else (gd (ix v4 32) (gd (ix (((6 : Int32) * (v1 + (1 : Int32))) + (σ.1 4 v4.toNatClampNeg)) 186) (j_X9_runs_138 (σ.2.1 12 (((6 : Int32) * (v1 + (1 : Int32))) + (σ.1 4 v4.toNatClampNeg)).toNatClampNeg) v1 v2 v3 v4 σ)))) else (j_X9_runs_221 v1 v2 v3 v4 σ))))
noncomputable def b_X9_runs_25  (v1 : Int32) (σ : Mem) : Option ((Int32 × Mem) ⊕ Mem) :=
  if v1 < 0 then (some (.inr σ)) else (gd (ix ((3 : Int32) + v1) 102) (lt (σ.1 7 ((3 : Int32) + v1).toNatClampNeg) (fun x3 => lt (f_X9_armsOf x3) (fun x4 => (Lim (T := (Int32 × Int32 × Int32 × Mem)) (fun s => b_X9_runs_46 s.1 s.2.1 s.2.2.1 s.2.2.2.1 s.2.2.2.2) (v1, x3, x4, (0 : Int32), σ)).bind (fun r7 => (Lim (T := (Int32 × Mem)) (fun s => b_X9_runs_75 s.1 s.2.1 s.2.2.1 s.2.2.2.1 s.2.2.2.2) (r7.1, r7.2.1, r7.2.2.1, (0 : Int32), r7.2.2.2)).bind (fun r11 => lt (r11.1 + (-1 : Int32)) (fun x12 => some (.inl (x12, r11.2)))))))))
noncomputable def j_X9_runs_267  (z0 : Int64) (z1 : Int64) (v3 : Int32) (σ : Mem) : Option ((Int64 × Int32) ⊕ Int64) :=
  lt (z0 + z1) (fun x14 => lt (v3 + (1 : Int32)) (fun x15 => some (.inl (x14, x15))))
noncomputable def b_X9_runs_237  (v1 : Int64) (v3 : Int32) (σ : Mem) : Option ((Int64 × Int32) ⊕ Int64) :=
  if (6 : Int32) ≤ v3 then (some (.inr v1)) else (if (f_X9_has (σ.1 7 (1 : Int32).toNatClampNeg) v3) = 0 then (j_X9_runs_267 v1 (0 : Int64) v3 σ) else (gd (ix v3 186) (j_X9_runs_267 v1 (σ.2.1 12 v3.toNatClampNeg) v3 σ)))
noncomputable def f_X9_runs  (σ : Mem) : Option (Int32 × Mem) :=
  if (σ.1 7 (2 : Int32).toNatClampNeg) = 0 then (some ((-2 : Int32), σ)) else ((f_X9_findParts σ).bind (fun r1 => lt ((r1.1 7 (2 : Int32).toNatClampNeg) - (1 : Int32)) (fun x2 => (Lim (T := Mem) (fun s => b_X9_runs_25 s.1 s.2) (x2, r1)).bind (fun r13 => (Lim (T := Int64) (fun s => b_X9_runs_237 s.1 s.2 r13) ((0 : Int64), (0 : Int32))).bind (fun r16 => some ((r16 - r16 / (1000003 : Int64) * (1000003 : Int64)).toInt32, r13))))))
set_option maxRecDepth 20000 in
theorem w_X9_runs_46 {D : va_G} {cy : Nat → ClassId} {ad : Nat → Nat} {p : Program} {l : Launch} {e : Env} {R : Room} {s : State} {m : MethodId} {args : Array Value} {below : List Frame} {meth : Method} {c : Code} (C : Cx 0 D cy ad p R s m args meth c cX9_runs 7 RX9 (some .int) 2)   {v1 : Int32} {v2 : Int32} {v3 : Int32} {v4 : Int32} {σ : Mem} {Q : State → Prop} {r : (Int32 × Int32 × Int32 × Mem)} (hL : Lim (T := (Int32 × Int32 × Int32 × Mem)) (fun s => b_X9_runs_46 s.1 s.2.1 s.2.2.1 s.2.2.2.1 s.2.2.2.2) (v1, v2, v3, v4, σ) = some r) (hE0 : ∀ (v1 : Int32) (v2 : Int32) (v3 : Int32) (σ1 : Mem), ((v1, v2, v3, σ1) : (Int32 × Int32 × Int32 × Mem)) = r → ∀ (H : Heap) (locs : List Loc) (ls : Array Slot), Wd 0 D cy ad s σ1 H locs → lv_has ls 7 [(0, .ref (ad (0))), (1, .int v1), (2, .int v2), (3, .int v3)] → W p l e R s m args below meth c H locs 0 0 Q (F0 m 72 ls [])) (H : Heap) (locs : List Loc) (ls : Array Slot) (hw : Wd 0 D cy ad s σ H locs) (hl : lv_has ls 7 [(0, .ref (ad (0))), (1, .int v1), (2, .int v2), (3, .int v3), (4, .int v4)]) : W p l e R s m args below meth c H locs 0 0 Q (F0 m 46 ls []) := by
  refine Lim_ind hL (P := fun u => ∀ (H : Heap) (locs : List Loc) (ls : Array Slot), Wd 0 D cy ad s u.2.2.2.2 H locs → lv_has ls 7 [(0, .ref (ad (0))), (1, .int u.1), (2, .int u.2.1), (3, .int u.2.2.1), (4, .int u.2.2.2.1)] → W p l e R s m args below meth c H locs 0 0 Q (F0 m 46 ls [])) (fun u x h hx H locs ls hw hl => ?_) H locs ls hw hl
  clear hL
  obtain ⟨v1, v2, v3, v4, σ⟩ := u
  have h : b_X9_runs_46 v1 v2 v3 v4 σ = some x := h
  have hw : Wd 0 D cy ad s σ H locs := hw
  have hl : lv_has ls 7 [(0, .ref (ad (0))), (1, .int v1), (2, .int v2), (3, .int v3), (4, .int v4)] := hl
  have hP : ∀ (u : (Int32 × Int32 × Int32 × Int32 × Mem)), (∀ (H : Heap) (locs : List Loc) (ls : Array Slot), Wd 0 D cy ad s u.2.2.2.2 H locs → lv_has ls 7 [(0, .ref (ad (0))), (1, .int u.1), (2, .int u.2.1), (3, .int u.2.2.1), (4, .int u.2.2.2.1)] → W p l e R s m args below meth c H locs 0 0 Q (F0 m 46 ls [])) → ∀ (H : Heap) (locs : List Loc) (ls : Array Slot), Wd 0 D cy ad s u.2.2.2.2 H locs → lv_has ls 7 [(0, .ref (ad (0))), (1, .int u.1), (2, .int u.2.1), (3, .int u.2.2.1), (4, .int u.2.2.2.1)] → W p l e R s m args below meth c H locs 0 0 Q (F0 m 46 ls []) := fun _ k => k
  unfold b_X9_runs_46 at h
  refine lv_iload C.1 C.2.1 dX9_runs_46 (lv_at hl 4 rfl) ?_
  refine lv_bipush (v := (6 : Int32)) C.1 C.2.1 dX9_runs_48 (by decide) ?_
  refine lv_icmp_ge (tgt := 72) C.1 C.2.1 dX9_runs_50 (by decide) (fun cd => ?_) (fun cd => ?_)
  · have h := ite_t cd h
    obtain rfl := Option.some.inj h
    exact hE0 _ _ _ _ hx _ _ _ hw (lv_sub hl [0, 1, 2, 3] rfl)
  · have h := ite_f cd h
    refine lv_aload_n C.1 C.2.1 dX9_runs_53 rfl (lv_at hl 0 rfl) ?_
    refine gf_X9_45 C hw dX9_runs_54 ?_
    refine lv_bipush (v := (6 : Int32)) C.1 C.2.1 dX9_runs_57 (by decide) ?_
    refine lv_iload_n C.1 C.2.1 dX9_runs_59 rfl (lv_at hl 1 rfl) ?_
    refine lv_imul C.1 C.2.1 dX9_runs_60 ?_
    refine lv_iload C.1 C.2.1 dX9_runs_61 (lv_at hl 4 rfl) ?_
    refine lv_iadd C.1 C.2.1 dX9_runs_63 ?_
    refine lv_lconst (v := (0 : Int64)) C.1 C.2.1 dX9_runs_64 (by decide) ?_
    obtain ⟨hin, h⟩ := gd_of h
    refine m_last C hw a0_12 hin dX9_runs_65 (fun H locs hw => ?_)
    obtain ⟨σ5, eσ5, h⟩ := lt_of h
    rw [← eσ5] at hw
    obtain ⟨x6, ex6, h⟩ := lt_of h
    refine m_iinc (k := 4) (lv' := [(4, .int _), (0, .ref _), (1, .int _), (2, .int _), (3, .int _)]) C (1 : Int32) (by decide) dX9_runs_66 hl rfl ex6.symm (by decide) rfl (fun ls hl => ?_)
    refine lv_goto (tgt := 46) C.1 C.2.1 dX9_runs_69 (by decide) ?_
    obtain rfl := Option.some.inj h
    exact hP _ hx _ _ _ hw (lv_sub hl [1, 2, 3, 4, 0] rfl)
set_option maxRecDepth 20000 in
theorem w_X9_runs_221 {D : va_G} {cy : Nat → ClassId} {ad : Nat → Nat} {p : Program} {l : Launch} {e : Env} {R : Room} {s : State} {m : MethodId} {args : Array Value} {below : List Frame} {meth : Method} {c : Code} (C : Cx 0 D cy ad p R s m args meth c cX9_runs 7 RX9 (some .int) 2)   {v1 : Int32} {v2 : Int32} {v3 : Int32} {v4 : Int32}  {σ : Mem} {H : Heap} {locs : List Loc} {ls : Array Slot} {Q : State → Prop} {P : (Int32 × Int32 × Int32 × Int32 × Mem) → Prop} {r : (Int32 × Mem)} {x : (Int32 × Int32 × Int32 × Int32 × Mem) ⊕ (Int32 × Mem)} (hx : LimQ P r x) (hP : ∀ u, P u → ∀ (H : Heap) (locs : List Loc) (ls : Array Slot), Wd 0 D cy ad s u.2.2.2.2 H locs → lv_has ls 7 [(0, .ref (ad (0))), (1, .int u.1), (2, .int u.2.1), (3, .int u.2.2.1), (4, .int u.2.2.2.1)] → W p l e R s m args below meth c H locs 0 0 Q (F0 m 75 ls [])) (hE0 : ∀ (v1 : Int32) (σ1 : Mem), ((v1, σ1) : (Int32 × Mem)) = r → ∀ (H : Heap) (locs : List Loc) (ls : Array Slot), Wd 0 D cy ad s σ1 H locs → lv_has ls 7 [(0, .ref (ad (0))), (1, .int v1)] → W p l e R s m args below meth c H locs 0 0 Q (F0 m 227 ls [])) (hw : Wd 0 D cy ad s σ H locs) (hl : lv_has ls 7 [(0, .ref (ad (0))), (1, .int v1), (2, .int v2), (3, .int v3), (4, .int v4)]) (h : j_X9_runs_221 v1 v2 v3 v4 σ = some x) : W p l e R s m args below meth c H locs 0 0 Q (F0 m 221 ls []) := by
  unfold j_X9_runs_221 at h
  obtain ⟨x8, ex8, h⟩ := lt_of h
  refine m_iinc (k := 4) (lv' := [(4, .int _), (0, .ref _), (1, .int _), (2, .int _), (3, .int _)]) C (1 : Int32) (by decide) dX9_runs_221 hl rfl ex8.symm (by decide) rfl (fun ls hl => ?_)
  refine lv_goto (tgt := 75) C.1 C.2.1 dX9_runs_224 (by decide) ?_
  obtain rfl := Option.some.inj h
  exact hP _ hx _ _ _ hw (lv_sub hl [1, 2, 3, 4, 0] rfl)
set_option maxRecDepth 20000 in
theorem w_X9_runs_178 {D : va_G} {cy : Nat → ClassId} {ad : Nat → Nat} {p : Program} {l : Launch} {e : Env} {R : Room} {s : State} {m : MethodId} {args : Array Value} {below : List Frame} {meth : Method} {c : Code} (C : Cx 0 D cy ad p R s m args meth c cX9_runs 7 RX9 (some .int) 2)   {z0 : Int64} {v1 : Int32} {v2 : Int32} {v3 : Int32} {v4 : Int32}  {σ : Mem} {H : Heap} {locs : List Loc} {ls : Array Slot} {Q : State → Prop} {P : (Int32 × Int32 × Int32 × Int32 × Mem) → Prop} {r : (Int32 × Mem)} {x : (Int32 × Int32 × Int32 × Int32 × Mem) ⊕ (Int32 × Mem)} (hx : LimQ P r x) (hP : ∀ u, P u → ∀ (H : Heap) (locs : List Loc) (ls : Array Slot), Wd 0 D cy ad s u.2.2.2.2 H locs → lv_has ls 7 [(0, .ref (ad (0))), (1, .int u.1), (2, .int u.2.1), (3, .int u.2.2.1), (4, .int u.2.2.2.1)] → W p l e R s m args below meth c H locs 0 0 Q (F0 m 75 ls [])) (hE0 : ∀ (v1 : Int32) (σ1 : Mem), ((v1, σ1) : (Int32 × Mem)) = r → ∀ (H : Heap) (locs : List Loc) (ls : Array Slot), Wd 0 D cy ad s σ1 H locs → lv_has ls 7 [(0, .ref (ad (0))), (1, .int v1)] → W p l e R s m args below meth c H locs 0 0 Q (F0 m 227 ls [])) (hw : Wd 0 D cy ad s σ H locs) (hl : lv_has ls 7 [(0, .ref (ad (0))), (1, .int v1), (2, .int v2), (3, .int v3), (4, .int v4)]) (h : j_X9_runs_178 z0 v1 v2 v3 v4 σ = some x) : W p l e R s m args below meth c H locs 0 0 Q (F0 m 178 ls [.long z0]) := by
  unfold j_X9_runs_178 at h
  refine lv_lstore (lv' := [(5, .long _), (0, .ref _), (1, .int _), (2, .int _), (3, .int _), (4, .int _)]) C.1 C.2.1 dX9_runs_178 hl (by decide) rfl (fun ls hl => ?_)
  refine lv_aload_n C.1 C.2.1 dX9_runs_180 rfl (lv_at hl 1 rfl) ?_
  refine gf_X9_45 C hw dX9_runs_181 ?_
  refine lv_bipush (v := (6 : Int32)) C.1 C.2.1 dX9_runs_184 (by decide) ?_
  refine lv_iload_n C.1 C.2.1 dX9_runs_186 rfl (lv_at hl 2 rfl) ?_
  refine lv_imul C.1 C.2.1 dX9_runs_187 ?_
  refine lv_aload_n C.1 C.2.1 dX9_runs_188 rfl (lv_at hl 1 rfl) ?_
  refine gf_X9_26 C hw dX9_runs_189 ?_
  refine lv_iload C.1 C.2.1 dX9_runs_192 (lv_at hl 5 rfl) ?_
  obtain ⟨hin, h⟩ := gd_of h
  refine m_iald C hw a0_6 hin dX9_runs_194 ?_
  refine lv_iadd C.1 C.2.1 dX9_runs_195 ?_
  refine lv_aload_n C.1 C.2.1 dX9_runs_196 rfl (lv_at hl 1 rfl) ?_
  refine gf_X9_45 C hw dX9_runs_197 ?_
  refine lv_bipush (v := (6 : Int32)) C.1 C.2.1 dX9_runs_200 (by decide) ?_
  refine lv_iload_n C.1 C.2.1 dX9_runs_202 rfl (lv_at hl 2 rfl) ?_
  refine lv_imul C.1 C.2.1 dX9_runs_203 ?_
  refine lv_aload_n C.1 C.2.1 dX9_runs_204 rfl (lv_at hl 1 rfl) ?_
  refine gf_X9_26 C hw dX9_runs_205 ?_
  refine lv_iload C.1 C.2.1 dX9_runs_208 (lv_at hl 5 rfl) ?_
  obtain ⟨hin, h⟩ := gd_of h
  refine m_iald C hw a0_6 hin dX9_runs_210 ?_
  refine lv_iadd C.1 C.2.1 dX9_runs_211 ?_
  obtain ⟨hin, h⟩ := gd_of h
  refine m_lald C hw a0_12 hin dX9_runs_212 ?_
  refine lv_lload C.1 C.2.1 dX9_runs_213 (lv_at hl 0 rfl) ?_
  refine lv_ladd C.1 C.2.1 dX9_runs_215 ?_
  refine lv_ldc2 (v := (1000003 : Int64)) C.1 C.2.1 C.2.2.2.1 (C.2.2.2.2.1 _ kl_X9_165) dX9_runs_216 ?_
  refine lv_lrem C.1 C.2.1 dX9_runs_219 (by decide) ?_
  obtain ⟨hin, h⟩ := gd_of h
  refine m_last C hw a0_12 hin dX9_runs_220 (fun H locs hw => ?_)
  obtain ⟨σ9, eσ9, h⟩ := lt_of h
  rw [← eσ9] at hw
  exact w_X9_runs_221 C hx hP hE0 hw (lv_sub hl [1, 2, 3, 4, 5] rfl) h
set_option maxRecDepth 20000 in
theorem w_X9_runs_138 {D : va_G} {cy : Nat → ClassId} {ad : Nat → Nat} {p : Program} {l : Launch} {e : Env} {R : Room} {s : State} {m : MethodId} {args : Array Value} {below : List Frame} {meth : Method} {c : Code} (C : Cx 0 D cy ad p R s m args meth c cX9_runs 7 RX9 (some .int) 2)   {z0 : Int64} {v1 : Int32} {v2 : Int32} {v3 : Int32} {v4 : Int32}  {σ : Mem} {H : Heap} {locs : List Loc} {ls : Array Slot} {Q : State → Prop} {P : (Int32 × Int32 × Int32 × Int32 × Mem) → Prop} {r : (Int32 × Mem)} {x : (Int32 × Int32 × Int32 × Int32 × Mem) ⊕ (Int32 × Mem)} (hx : LimQ P r x) (hP : ∀ u, P u → ∀ (H : Heap) (locs : List Loc) (ls : Array Slot), Wd 0 D cy ad s u.2.2.2.2 H locs → lv_has ls 7 [(0, .ref (ad (0))), (1, .int u.1), (2, .int u.2.1), (3, .int u.2.2.1), (4, .int u.2.2.2.1)] → W p l e R s m args below meth c H locs 0 0 Q (F0 m 75 ls [])) (hE0 : ∀ (v1 : Int32) (σ1 : Mem), ((v1, σ1) : (Int32 × Mem)) = r → ∀ (H : Heap) (locs : List Loc) (ls : Array Slot), Wd 0 D cy ad s σ1 H locs → lv_has ls 7 [(0, .ref (ad (0))), (1, .int v1)] → W p l e R s m args below meth c H locs 0 0 Q (F0 m 227 ls [])) (hw : Wd 0 D cy ad s σ H locs) (hl : lv_has ls 7 [(0, .ref (ad (0))), (1, .int v1), (2, .int v2), (3, .int v3), (4, .int v4)]) (h : j_X9_runs_138 z0 v1 v2 v3 v4 σ = some x) : W p l e R s m args below meth c H locs 0 0 Q (F0 m 138 ls [.long z0]) := by
  unfold j_X9_runs_138 at h
  refine lv_lstore (lv' := [(5, .long _), (0, .ref _), (1, .int _), (2, .int _), (3, .int _), (4, .int _)]) C.1 C.2.1 dX9_runs_138 hl (by decide) rfl (fun ls hl => ?_)
  refine lv_iload_n C.1 C.2.1 dX9_runs_140 rfl (lv_at hl 4 rfl) ?_
  refine lv_iconst (v := (1 : Int32)) C.1 C.2.1 dX9_runs_141 (by decide) ?_
  refine lv_icmp_le (tgt := 176) C.1 C.2.1 dX9_runs_142 (by decide) (fun cd => ?_) (fun cd => ?_)
  · have h := ite_t cd h
    refine lv_lload C.1 C.2.1 dX9_runs_176 (lv_at hl 0 rfl) ?_
    exact w_X9_runs_178 C hx hP hE0 hw (lv_sub hl [1, 2, 3, 4, 5] rfl) h
  · have h := ite_f cd h
    refine lv_lload C.1 C.2.1 dX9_runs_145 (lv_at hl 0 rfl) ?_
    refine lv_aload_n C.1 C.2.1 dX9_runs_147 rfl (lv_at hl 1 rfl) ?_
    refine gf_X9_45 C hw dX9_runs_148 ?_
    refine lv_bipush (v := (6 : Int32)) C.1 C.2.1 dX9_runs_151 (by decide) ?_
    refine lv_aload_n C.1 C.2.1 dX9_runs_153 rfl (lv_at hl 1 rfl) ?_
    refine lv_iload_n C.1 C.2.1 dX9_runs_154 rfl (lv_at hl 2 rfl) ?_
    obtain ⟨r10, h1, h⟩ := bS h
    refine go_I hw (run_V (As := [.int _]) C hw (c_X9_second C.2.2.2.2.2.2.2.2.2 _ _ _ h1) mi_X9_second mv_X9_second o0_0 (ci := 9) rfl rfl lk_X9_142 (by decide) (by decide) rfl hl.1 rfl (Nat.le_of_ble_eq_true rfl) dX9_runs_155 ⟨Nat.le_refl 0, Nat.le_refl 0⟩) (fun H locs hw => ?_)
    refine lv_imul C.1 C.2.1 dX9_runs_158 ?_
    refine lv_aload_n C.1 C.2.1 dX9_runs_159 rfl (lv_at hl 1 rfl) ?_
    refine gf_X9_23 C hw dX9_runs_160 ?_
    refine lv_iload C.1 C.2.1 dX9_runs_163 (lv_at hl 5 rfl) ?_
    obtain ⟨hin, h⟩ := gd_of h
    refine m_iald C hw a0_5 hin dX9_runs_165 ?_
    refine lv_iadd C.1 C.2.1 dX9_runs_166 ?_
    obtain ⟨hin, h⟩ := gd_of h
    refine m_lald C hw a0_12 hin dX9_runs_167 ?_
    refine lv_lmul C.1 C.2.1 dX9_runs_168 ?_
    refine lv_ldc2 (v := (1000003 : Int64)) C.1 C.2.1 C.2.2.2.1 (C.2.2.2.2.1 _ kl_X9_165) dX9_runs_169 ?_
    refine lv_lrem C.1 C.2.1 dX9_runs_172 (by decide) ?_
    refine lv_goto (tgt := 178) C.1 C.2.1 dX9_runs_173 (by decide) ?_
    exact w_X9_runs_178 C hx hP hE0 hw (lv_sub hl [1, 2, 3, 4, 5] rfl) h
set_option maxRecDepth 20000 in
theorem w_X9_runs_75 {D : va_G} {cy : Nat → ClassId} {ad : Nat → Nat} {p : Program} {l : Launch} {e : Env} {R : Room} {s : State} {m : MethodId} {args : Array Value} {below : List Frame} {meth : Method} {c : Code} (C : Cx 0 D cy ad p R s m args meth c cX9_runs 7 RX9 (some .int) 2)   {v1 : Int32} {v2 : Int32} {v3 : Int32} {v4 : Int32} {σ : Mem} {Q : State → Prop} {r : (Int32 × Mem)} (hL : Lim (T := (Int32 × Mem)) (fun s => b_X9_runs_75 s.1 s.2.1 s.2.2.1 s.2.2.2.1 s.2.2.2.2) (v1, v2, v3, v4, σ) = some r) (hE0 : ∀ (v1 : Int32) (σ1 : Mem), ((v1, σ1) : (Int32 × Mem)) = r → ∀ (H : Heap) (locs : List Loc) (ls : Array Slot), Wd 0 D cy ad s σ1 H locs → lv_has ls 7 [(0, .ref (ad (0))), (1, .int v1)] → W p l e R s m args below meth c H locs 0 0 Q (F0 m 227 ls [])) (H : Heap) (locs : List Loc) (ls : Array Slot) (hw : Wd 0 D cy ad s σ H locs) (hl : lv_has ls 7 [(0, .ref (ad (0))), (1, .int v1), (2, .int v2), (3, .int v3), (4, .int v4)]) : W p l e R s m args below meth c H locs 0 0 Q (F0 m 75 ls []) := by
  refine Lim_ind hL (P := fun u => ∀ (H : Heap) (locs : List Loc) (ls : Array Slot), Wd 0 D cy ad s u.2.2.2.2 H locs → lv_has ls 7 [(0, .ref (ad (0))), (1, .int u.1), (2, .int u.2.1), (3, .int u.2.2.1), (4, .int u.2.2.2.1)] → W p l e R s m args below meth c H locs 0 0 Q (F0 m 75 ls [])) (fun u x h hx H locs ls hw hl => ?_) H locs ls hw hl
  clear hL
  obtain ⟨v1, v2, v3, v4, σ⟩ := u
  have h : b_X9_runs_75 v1 v2 v3 v4 σ = some x := h
  have hw : Wd 0 D cy ad s σ H locs := hw
  have hl : lv_has ls 7 [(0, .ref (ad (0))), (1, .int v1), (2, .int v2), (3, .int v3), (4, .int v4)] := hl
  have hP : ∀ (u : (Int32 × Int32 × Int32 × Int32 × Mem)), (∀ (H : Heap) (locs : List Loc) (ls : Array Slot), Wd 0 D cy ad s u.2.2.2.2 H locs → lv_has ls 7 [(0, .ref (ad (0))), (1, .int u.1), (2, .int u.2.1), (3, .int u.2.2.1), (4, .int u.2.2.2.1)] → W p l e R s m args below meth c H locs 0 0 Q (F0 m 75 ls [])) → ∀ (H : Heap) (locs : List Loc) (ls : Array Slot), Wd 0 D cy ad s u.2.2.2.2 H locs → lv_has ls 7 [(0, .ref (ad (0))), (1, .int u.1), (2, .int u.2.1), (3, .int u.2.2.1), (4, .int u.2.2.2.1)] → W p l e R s m args below meth c H locs 0 0 Q (F0 m 75 ls []) := fun _ k => k
  unfold b_X9_runs_75 at h
  refine lv_iload C.1 C.2.1 dX9_runs_75 (lv_at hl 4 rfl) ?_
  refine lv_aload_n C.1 C.2.1 dX9_runs_77 rfl (lv_at hl 0 rfl) ?_
  refine gf_X9_13 C hw dX9_runs_78 ?_
  refine lv_iconst (v := (0 : Int32)) C.1 C.2.1 dX9_runs_81 (by decide) ?_
  have hin : vp_in (0 : Int32) 2 := (by decide : ix (0 : Int32) 2)
  refine m_iald C hw a0_2 hin dX9_runs_82 ?_
  refine lv_icmp_ge (tgt := 227) C.1 C.2.1 dX9_runs_83 (by decide) (fun cd => ?_) (fun cd => ?_)
  · have h := ite_t cd h
    obtain rfl := Option.some.inj h
    exact hE0 _ _ hx _ _ _ hw (lv_sub hl [0, 1] rfl)
  · have h := ite_f cd h
    refine lv_aload_n C.1 C.2.1 dX9_runs_86 rfl (lv_at hl 0 rfl) ?_
    refine gf_X9_29 C hw dX9_runs_87 ?_
    refine lv_iconst (v := (0 : Int32)) C.1 C.2.1 dX9_runs_90 (by decide) ?_
    have hin : vp_in (0 : Int32) 102 := (by decide : ix (0 : Int32) 102)
    refine m_iald C hw a0_7 hin dX9_runs_91 ?_
    refine lv_iload C.1 C.2.1 dX9_runs_92 (lv_at hl 4 rfl) ?_
    refine go_I hw (run_S (As := [.int _, .int _]) C hw (c_X9_has C.2.2.2.2.2.2.2.2.2 _ _ _) mi_X9_has ms_X9_has lk_X9_145 (by decide) (by decide) rfl hl.1 rfl (Nat.le_of_ble_eq_true rfl) dX9_runs_94 ⟨Nat.le_refl 0, Nat.le_refl 0⟩) (fun H locs hw => ?_)
    refine lv_if_eq (tgt := 221) C.1 C.2.1 dX9_runs_97 (by decide) (fun cd => ?_) (fun cd => ?_)
    · have h := ite_t cd h
      exact w_X9_runs_221 C hx hP hE0 hw (lv_sub hl [0, 1, 2, 3, 4] rfl) h
    · have h := ite_f cd h
      refine lv_aload_n C.1 C.2.1 dX9_runs_100 rfl (lv_at hl 0 rfl) ?_
      refine gf_X9_17 C hw dX9_runs_101 ?_
      refine lv_iload C.1 C.2.1 dX9_runs_104 (lv_at hl 4 rfl) ?_
      obtain ⟨hin, h⟩ := gd_of h
      refine m_iald C hw a0_3 hin dX9_runs_106 ?_
      refine lv_iload_n C.1 C.2.1 dX9_runs_107 rfl (lv_at hl 2 rfl) ?_
      refine lv_icmp_ne (tgt := 221) C.1 C.2.1 dX9_runs_108 (by decide) (fun cd => ?_) (fun cd => ?_)
      · have h := ite_f cd h
        exact w_X9_runs_221 C hx hP hE0 hw (lv_sub hl [0, 1, 2, 3, 4] rfl) h
      · have h := ite_t cd h
        refine lv_iload_n C.1 C.2.1 dX9_runs_111 rfl (lv_at hl 3 rfl) ?_
        refine lv_if_le (tgt := 137) C.1 C.2.1 dX9_runs_112 (by decide) (fun cd => ?_) (fun cd => ?_)
        · have h := ite_t cd h
          refine lv_lconst (v := (1 : Int64)) C.1 C.2.1 dX9_runs_137 (by decide) ?_
          exact w_X9_runs_138 C hx hP hE0 hw (lv_sub hl [0, 1, 2, 3, 4] rfl) h
        · have h := ite_f cd h
          refine lv_aload_n C.1 C.2.1 dX9_runs_115 rfl (lv_at hl 0 rfl) ?_
          refine gf_X9_45 C hw dX9_runs_116 ?_
          refine lv_bipush (v := (6 : Int32)) C.1 C.2.1 dX9_runs_119 (by decide) ?_
          refine lv_iload_n C.1 C.2.1 dX9_runs_121 rfl (lv_at hl 1 rfl) ?_
          refine lv_iconst (v := (1 : Int32)) C.1 C.2.1 dX9_runs_122 (by decide) ?_
          refine lv_iadd C.1 C.2.1 dX9_runs_123 ?_
          refine lv_imul C.1 C.2.1 dX9_runs_124 ?_
          refine lv_aload_n C.1 C.2.1 dX9_runs_125 rfl (lv_at hl 0 rfl) ?_
          refine gf_X9_20 C hw dX9_runs_126 ?_
          refine lv_iload C.1 C.2.1 dX9_runs_129 (lv_at hl 4 rfl) ?_
          obtain ⟨hin, h⟩ := gd_of h
          refine m_iald C hw a0_4 hin dX9_runs_131 ?_
          refine lv_iadd C.1 C.2.1 dX9_runs_132 ?_
          obtain ⟨hin, h⟩ := gd_of h
          refine m_lald C hw a0_12 hin dX9_runs_133 ?_
          refine lv_goto (tgt := 138) C.1 C.2.1 dX9_runs_134 (by decide) ?_
          exact w_X9_runs_138 C hx hP hE0 hw (lv_sub hl [0, 1, 2, 3, 4] rfl) h
set_option maxRecDepth 20000 in
theorem w_X9_runs_25 {D : va_G} {cy : Nat → ClassId} {ad : Nat → Nat} {p : Program} {l : Launch} {e : Env} {R : Room} {s : State} {m : MethodId} {args : Array Value} {below : List Frame} {meth : Method} {c : Code} (C : Cx 0 D cy ad p R s m args meth c cX9_runs 7 RX9 (some .int) 2)   {v1 : Int32} {σ : Mem} {Q : State → Prop} {r : Mem} (hL : Lim (T := Mem) (fun s => b_X9_runs_25 s.1 s.2) (v1, σ) = some r) (hE0 : ∀ (σ1 : Mem), (σ1 : Mem) = r → ∀ (H : Heap) (locs : List Loc) (ls : Array Slot), Wd 0 D cy ad s σ1 H locs → lv_has ls 7 [(0, .ref (ad (0)))] → W p l e R s m args below meth c H locs 0 0 Q (F0 m 233 ls [])) (H : Heap) (locs : List Loc) (ls : Array Slot) (hw : Wd 0 D cy ad s σ H locs) (hl : lv_has ls 7 [(0, .ref (ad (0))), (1, .int v1)]) : W p l e R s m args below meth c H locs 0 0 Q (F0 m 25 ls []) := by
  refine Lim_ind hL (P := fun u => ∀ (H : Heap) (locs : List Loc) (ls : Array Slot), Wd 0 D cy ad s u.2 H locs → lv_has ls 7 [(0, .ref (ad (0))), (1, .int u.1)] → W p l e R s m args below meth c H locs 0 0 Q (F0 m 25 ls [])) (fun u x h hx H locs ls hw hl => ?_) H locs ls hw hl
  clear hL
  obtain ⟨v1, σ⟩ := u
  have h : b_X9_runs_25 v1 σ = some x := h
  have hw : Wd 0 D cy ad s σ H locs := hw
  have hl : lv_has ls 7 [(0, .ref (ad (0))), (1, .int v1)] := hl
  have hP : ∀ (u : (Int32 × Mem)), (∀ (H : Heap) (locs : List Loc) (ls : Array Slot), Wd 0 D cy ad s u.2 H locs → lv_has ls 7 [(0, .ref (ad (0))), (1, .int u.1)] → W p l e R s m args below meth c H locs 0 0 Q (F0 m 25 ls [])) → ∀ (H : Heap) (locs : List Loc) (ls : Array Slot), Wd 0 D cy ad s u.2 H locs → lv_has ls 7 [(0, .ref (ad (0))), (1, .int u.1)] → W p l e R s m args below meth c H locs 0 0 Q (F0 m 25 ls []) := fun _ k => k
  unfold b_X9_runs_25 at h
  refine lv_iload_n C.1 C.2.1 dX9_runs_25 rfl (lv_at hl 1 rfl) ?_
  refine lv_if_lt (tgt := 233) C.1 C.2.1 dX9_runs_26 (by decide) (fun cd => ?_) (fun cd => ?_)
  · have h := ite_t cd h
    obtain rfl := Option.some.inj h
    exact hE0 _ hx _ _ _ hw (lv_sub hl [0] rfl)
  · have h := ite_f cd h
    refine lv_aload_n C.1 C.2.1 dX9_runs_29 rfl (lv_at hl 0 rfl) ?_
    refine gf_X9_29 C hw dX9_runs_30 ?_
    refine lv_iconst (v := (3 : Int32)) C.1 C.2.1 dX9_runs_33 (by decide) ?_
    refine lv_iload_n C.1 C.2.1 dX9_runs_34 rfl (lv_at hl 1 rfl) ?_
    refine lv_iadd C.1 C.2.1 dX9_runs_35 ?_
    obtain ⟨hin, h⟩ := gd_of h
    refine m_iald C hw a0_7 hin dX9_runs_36 ?_
    obtain ⟨x3, ex3, h⟩ := lt_of h
    refine m_topi ex3 ?_
    refine lv_istore_n (lv' := [(2, .int _), (0, .ref _), (1, .int _)]) C.1 C.2.1 dX9_runs_37 rfl hl (by decide) rfl (fun ls hl => ?_)
    refine lv_iload_n C.1 C.2.1 dX9_runs_38 rfl (lv_at hl 0 rfl) ?_
    refine go_I hw (run_S (As := [.int _]) C hw (c_X9_armsOf C.2.2.2.2.2.2.2.2.2 _ _) mi_X9_armsOf ms_X9_armsOf lk_X9_125 (by decide) (by decide) rfl hl.1 rfl (Nat.le_of_ble_eq_true rfl) dX9_runs_39 ⟨Nat.le_refl 0, Nat.le_refl 0⟩) (fun H locs hw => ?_)
    obtain ⟨x4, ex4, h⟩ := lt_of h
    refine m_topi ex4 ?_
    refine lv_istore_n (lv' := [(3, .int _), (2, .int _), (0, .ref _), (1, .int _)]) C.1 C.2.1 dX9_runs_42 rfl hl (by decide) rfl (fun ls hl => ?_)
    refine lv_iconst (v := (0 : Int32)) C.1 C.2.1 dX9_runs_43 (by decide) ?_
    refine lv_istore (lv' := [(4, .int _), (3, .int _), (2, .int _), (0, .ref _), (1, .int _)]) C.1 C.2.1 dX9_runs_44 hl (by decide) rfl (fun ls hl => ?_)
    obtain ⟨r7, hL, h⟩ := bS h
    refine w_X9_runs_46 C  hL (fun y0 y1 y2 y3 hr H locs ls hw hl => ?_) _ _ _ hw (lv_sub hl [3, 4, 2, 1, 0] rfl)
    · subst hr
      try dsimp only at h
      try dsimp only at hw
      try dsimp only at hl
      refine lv_iconst (v := (0 : Int32)) C.1 C.2.1 dX9_runs_72 (by decide) ?_
      refine lv_istore (lv' := [(4, .int _), (0, .ref _), (1, .int _), (2, .int _), (3, .int _)]) C.1 C.2.1 dX9_runs_73 hl (by decide) rfl (fun ls hl => ?_)
      obtain ⟨r11, hL, h⟩ := bS h
      refine w_X9_runs_75 C  hL (fun y0 y1 hr H locs ls hw hl => ?_) _ _ _ hw (lv_sub hl [1, 2, 3, 4, 0] rfl)
      · subst hr
        try dsimp only at h
        try dsimp only at hw
        try dsimp only at hl
        obtain ⟨x12, ex12, h⟩ := lt_of h
        refine m_iinc (k := 1) (lv' := [(1, .int _), (0, .ref _)]) C (-1 : Int32) (by decide) dX9_runs_227 hl rfl ex12.symm (by decide) rfl (fun ls hl => ?_)
        refine lv_goto (tgt := 25) C.1 C.2.1 dX9_runs_230 (by decide) ?_
        obtain rfl := Option.some.inj h
        exact hP _ hx _ _ _ hw (lv_sub hl [1, 0] rfl)
set_option maxRecDepth 20000 in
theorem w_X9_runs_267 {D : va_G} {cy : Nat → ClassId} {ad : Nat → Nat} {p : Program} {l : Launch} {e : Env} {R : Room} {s : State} {m : MethodId} {args : Array Value} {below : List Frame} {meth : Method} {c : Code} (C : Cx 0 D cy ad p R s m args meth c cX9_runs 7 RX9 (some .int) 2)   {z0 : Int64} {z1 : Int64} {v3 : Int32}  {σ : Mem} {H : Heap} {locs : List Loc} {ls : Array Slot} {Q : State → Prop} {P : (Int64 × Int32) → Prop} {r : Int64} {x : (Int64 × Int32) ⊕ Int64} (hx : LimQ P r x) (hP : ∀ u, P u → ∀ (H : Heap) (locs : List Loc) (ls : Array Slot), Wd 0 D cy ad s σ H locs → lv_has ls 7 [(0, .ref (ad (0))), (1, .long u.1), (3, .int u.2)] → W p l e R s m args below meth c H locs 0 0 Q (F0 m 237 ls [])) (hE0 : ∀ (v1 : Int64), (v1 : Int64) = r → ∀ (H : Heap) (locs : List Loc) (ls : Array Slot), Wd 0 D cy ad s σ H locs → lv_has ls 7 [(1, .long v1)] → W p l e R s m args below meth c H locs 0 0 Q (F0 m 275 ls [])) (hw : Wd 0 D cy ad s σ H locs) (hl : lv_has ls 7 [(0, .ref (ad (0))), (3, .int v3)]) (h : j_X9_runs_267 z0 z1 v3 σ = some x) : W p l e R s m args below meth c H locs 0 0 Q (F0 m 267 ls [.long z1, .long z0]) := by
  unfold j_X9_runs_267 at h
  refine lv_ladd C.1 C.2.1 dX9_runs_267 ?_
  obtain ⟨x14, ex14, h⟩ := lt_of h
  refine m_topl ex14 ?_
  refine lv_lstore_n (lv' := [(1, .long _), (0, .ref _), (3, .int _)]) C.1 C.2.1 dX9_runs_268 rfl hl (by decide) rfl (fun ls hl => ?_)
  obtain ⟨x15, ex15, h⟩ := lt_of h
  refine m_iinc (k := 2) (lv' := [(3, .int _), (1, .long _), (0, .ref _)]) C (1 : Int32) (by decide) dX9_runs_269 hl rfl ex15.symm (by decide) rfl (fun ls hl => ?_)
  refine lv_goto (tgt := 237) C.1 C.2.1 dX9_runs_272 (by decide) ?_
  obtain rfl := Option.some.inj h
  exact hP _ hx _ _ _ hw (lv_sub hl [2, 1, 0] rfl)
set_option maxRecDepth 20000 in
theorem w_X9_runs_237 {D : va_G} {cy : Nat → ClassId} {ad : Nat → Nat} {p : Program} {l : Launch} {e : Env} {R : Room} {s : State} {m : MethodId} {args : Array Value} {below : List Frame} {meth : Method} {c : Code} (C : Cx 0 D cy ad p R s m args meth c cX9_runs 7 RX9 (some .int) 2)   {v1 : Int64} {v3 : Int32} {σ : Mem} {Q : State → Prop} {r : Int64} (hL : Lim (T := Int64) (fun s => b_X9_runs_237 s.1 s.2 σ) (v1, v3) = some r) (hE0 : ∀ (v1 : Int64), (v1 : Int64) = r → ∀ (H : Heap) (locs : List Loc) (ls : Array Slot), Wd 0 D cy ad s σ H locs → lv_has ls 7 [(1, .long v1)] → W p l e R s m args below meth c H locs 0 0 Q (F0 m 275 ls [])) (H : Heap) (locs : List Loc) (ls : Array Slot) (hw : Wd 0 D cy ad s σ H locs) (hl : lv_has ls 7 [(0, .ref (ad (0))), (1, .long v1), (3, .int v3)]) : W p l e R s m args below meth c H locs 0 0 Q (F0 m 237 ls []) := by
  refine Lim_ind hL (P := fun u => ∀ (H : Heap) (locs : List Loc) (ls : Array Slot), Wd 0 D cy ad s σ H locs → lv_has ls 7 [(0, .ref (ad (0))), (1, .long u.1), (3, .int u.2)] → W p l e R s m args below meth c H locs 0 0 Q (F0 m 237 ls [])) (fun u x h hx H locs ls hw hl => ?_) H locs ls hw hl
  clear hL
  obtain ⟨v1, v3⟩ := u
  have h : b_X9_runs_237 v1 v3 σ = some x := h
  have hw : Wd 0 D cy ad s σ H locs := hw
  have hl : lv_has ls 7 [(0, .ref (ad (0))), (1, .long v1), (3, .int v3)] := hl
  have hP : ∀ (u : (Int64 × Int32)), (∀ (H : Heap) (locs : List Loc) (ls : Array Slot), Wd 0 D cy ad s σ H locs → lv_has ls 7 [(0, .ref (ad (0))), (1, .long u.1), (3, .int u.2)] → W p l e R s m args below meth c H locs 0 0 Q (F0 m 237 ls [])) → ∀ (H : Heap) (locs : List Loc) (ls : Array Slot), Wd 0 D cy ad s σ H locs → lv_has ls 7 [(0, .ref (ad (0))), (1, .long u.1), (3, .int u.2)] → W p l e R s m args below meth c H locs 0 0 Q (F0 m 237 ls []) := fun _ k => k
  unfold b_X9_runs_237 at h
  refine lv_iload_n C.1 C.2.1 dX9_runs_237 rfl (lv_at hl 2 rfl) ?_
  refine lv_bipush (v := (6 : Int32)) C.1 C.2.1 dX9_runs_238 (by decide) ?_
  refine lv_icmp_ge (tgt := 275) C.1 C.2.1 dX9_runs_240 (by decide) (fun cd => ?_) (fun cd => ?_)
  · have h := ite_t cd h
    obtain rfl := Option.some.inj h
    exact hE0 _ hx _ _ _ hw (lv_sub hl [1] rfl)
  · have h := ite_f cd h
    refine lv_lload_n C.1 C.2.1 dX9_runs_243 rfl (lv_at hl 1 rfl) ?_
    refine lv_aload_n C.1 C.2.1 dX9_runs_244 rfl (lv_at hl 0 rfl) ?_
    refine gf_X9_29 C hw dX9_runs_245 ?_
    refine lv_iconst (v := (1 : Int32)) C.1 C.2.1 dX9_runs_248 (by decide) ?_
    have hin : vp_in (1 : Int32) 102 := (by decide : ix (1 : Int32) 102)
    refine m_iald C hw a0_7 hin dX9_runs_249 ?_
    refine lv_iload_n C.1 C.2.1 dX9_runs_250 rfl (lv_at hl 2 rfl) ?_
    refine go_I hw (run_S (As := [.int _, .int _]) C hw (c_X9_has C.2.2.2.2.2.2.2.2.2 _ _ _) mi_X9_has ms_X9_has lk_X9_145 (by decide) (by decide) rfl hl.1 rfl (Nat.le_of_ble_eq_true rfl) dX9_runs_251 ⟨Nat.le_refl 0, Nat.le_refl 0⟩) (fun H locs hw => ?_)
    refine lv_if_eq (tgt := 266) C.1 C.2.1 dX9_runs_254 (by decide) (fun cd => ?_) (fun cd => ?_)
    · have h := ite_t cd h
      refine lv_lconst (v := (0 : Int64)) C.1 C.2.1 dX9_runs_266 (by decide) ?_
      exact w_X9_runs_267 C hx hP hE0 hw (lv_sub hl [0, 2] rfl) h
    · have h := ite_f cd h
      refine lv_aload_n C.1 C.2.1 dX9_runs_257 rfl (lv_at hl 0 rfl) ?_
      refine gf_X9_45 C hw dX9_runs_258 ?_
      refine lv_iload_n C.1 C.2.1 dX9_runs_261 rfl (lv_at hl 2 rfl) ?_
      obtain ⟨hin, h⟩ := gd_of h
      refine m_lald C hw a0_12 hin dX9_runs_262 ?_
      refine lv_goto (tgt := 267) C.1 C.2.1 dX9_runs_263 (by decide) ?_
      exact w_X9_runs_267 C hx hP hE0 hw (lv_sub hl [0, 2] rfl) h
set_option maxRecDepth 20000 in
theorem c_X9_runs {l : Launch} {D : va_G} {cy : Nat → ClassId} {ad : Nat → Nat} (hj : InjW 0 ad)   (σ : Mem) (r : (Int32 × Mem)) (h : f_X9_runs σ = some r) : CI 0 D cy ad l yX9_runs cX9_runs 7 (some .int) 2 [.ref (ad (0))] σ r.1 r.2 := by
  refine CI.mk (by decide) hj (Nat.le_of_ble_eq_true rfl) (fun p e R s m below meth c ls C hw hl => ?_)
  have hl : lv_has ls 7 [(0, .ref (ad (0)))] := hl
  generalize ([.ref (ad (0))] : List Value).toArray = args at C ⊢
  have C : Cx 0 D cy ad p R s m args meth c cX9_runs 7 RX9 (some .int) 2 := C
  unfold f_X9_runs at h
  refine lv_aload_n C.1 C.2.1 dX9_runs_0 rfl (lv_at hl 0 rfl) ?_
  refine gf_X9_29 C hw dX9_runs_1 ?_
  refine lv_iconst (v := (2 : Int32)) C.1 C.2.1 dX9_runs_4 (by decide) ?_
  have hin : vp_in (2 : Int32) 102 := (by decide : ix (2 : Int32) 102)
  refine m_iald C hw a0_7 hin dX9_runs_5 ?_
  refine lv_if_ne (tgt := 12) C.1 C.2.1 dX9_runs_6 (by decide) (fun cd => ?_) (fun cd => ?_)
  · have h := ite_f cd h
    refine lv_aload_n C.1 C.2.1 dX9_runs_12 rfl (lv_at hl 0 rfl) ?_
    obtain ⟨r1, h1, h⟩ := bS h
    refine go_V hw (run_V (As := []) C hw (c_X9_findParts C.2.2.2.2.2.2.2.2.2 _ _ h1) mi_X9_findParts mv_X9_findParts o0_0 (ci := 9) rfl rfl lk_X9_149 (by decide) (by decide) rfl hl.1 rfl (Nat.le_of_ble_eq_true rfl) dX9_runs_13 ⟨Nat.le_refl 0, Nat.le_refl 0⟩) (fun H locs hw => ?_)
    refine lv_aload_n C.1 C.2.1 dX9_runs_16 rfl (lv_at hl 0 rfl) ?_
    refine gf_X9_29 C hw dX9_runs_17 ?_
    refine lv_iconst (v := (2 : Int32)) C.1 C.2.1 dX9_runs_20 (by decide) ?_
    have hin : vp_in (2 : Int32) 102 := (by decide : ix (2 : Int32) 102)
    refine m_iald C hw a0_7 hin dX9_runs_21 ?_
    refine lv_iconst (v := (1 : Int32)) C.1 C.2.1 dX9_runs_22 (by decide) ?_
    refine lv_isub C.1 C.2.1 dX9_runs_23 ?_
    obtain ⟨x2, ex2, h⟩ := lt_of h
    refine m_topi ex2 ?_
    refine lv_istore_n (lv' := [(1, .int _), (0, .ref _)]) C.1 C.2.1 dX9_runs_24 rfl hl (by decide) rfl (fun ls hl => ?_)
    obtain ⟨r13, hL, h⟩ := bS h
    refine w_X9_runs_25 C  hL (fun y0 hr H locs ls hw hl => ?_) _ _ _ hw (lv_sub hl [1, 0] rfl)
    · subst hr
      try dsimp only at h
      try dsimp only at hw
      try dsimp only at hl
      refine lv_lconst (v := (0 : Int64)) C.1 C.2.1 dX9_runs_233 (by decide) ?_
      refine lv_lstore_n (lv' := [(1, .long _), (0, .ref _)]) C.1 C.2.1 dX9_runs_234 rfl hl (by decide) rfl (fun ls hl => ?_)
      refine lv_iconst (v := (0 : Int32)) C.1 C.2.1 dX9_runs_235 (by decide) ?_
      refine lv_istore_n (lv' := [(3, .int _), (1, .long _), (0, .ref _)]) C.1 C.2.1 dX9_runs_236 rfl hl (by decide) rfl (fun ls hl => ?_)
      obtain ⟨r16, hL, h⟩ := bS h
      refine w_X9_runs_237 C  hL (fun y0 hr H locs ls hw hl => ?_) _ _ _ hw (lv_sub hl [2, 1, 0] rfl)
      · subst hr
        try dsimp only at h
        try dsimp only at hw
        try dsimp only at hl
        refine lv_lload_n C.1 C.2.1 dX9_runs_275 rfl (lv_at hl 0 rfl) ?_
        refine lv_ldc2 (v := (1000003 : Int64)) C.1 C.2.1 C.2.2.2.1 (C.2.2.2.2.1 _ kl_X9_165) dX9_runs_276 ?_
        refine lv_lrem C.1 C.2.1 dX9_runs_279 (by decide) ?_
        refine lv_l2i C.1 C.2.1 dX9_runs_280 rfl ?_
        exact m_iret C hw (ret_p h) dX9_runs_281
  · have h := ite_t cd h
    refine lv_bipush (v := (-2 : Int32)) C.1 C.2.1 dX9_runs_9 (by decide) ?_
    exact m_iret C hw (ret_p h) dX9_runs_11
noncomputable def j_X9_places_50 (a1 : Int32) (z0 : Int32) (z1 : Int32) (v3 : Int32) (σ : Mem) : Option ((Int32 × Int32) ⊕ Int32) :=
  lt (z0 ||| z1) (fun x2 => lt (v3 + (1 : Int32)) (fun x3 => some (.inl (x2, x3))))
noncomputable def b_X9_places_19 (a1 : Int32) (v2 : Int32) (v3 : Int32) (σ : Mem) : Option ((Int32 × Int32) ⊕ Int32) :=
  if (σ.1 7 (2 : Int32).toNatClampNeg) ≤ v3 then (some (.inr v2)) else (gd (ix v3 31) (if (f_X9_has (σ.1 11 v3.toNatClampNeg) a1) = 0 then (j_X9_places_50 a1 v2 (0 : Int32) v3 σ) else (j_X9_places_50 a1 v2 ((1 : Int32) <<< (v3 &&& 31)) v3 σ)))
noncomputable def f_X9_places (a1 : Int32) (σ : Mem) : Option (Int32 × Mem) :=
  if (f_X9_in a1 (0 : Int32) (5 : Int32)) = 0 then (some ((-1 : Int32), σ)) else ((f_X9_findComes σ).bind (fun r1 => (Lim (T := Int32) (fun s => b_X9_places_19 a1 s.1 s.2 r1) ((0 : Int32), (0 : Int32))).bind (fun r4 => some (r4, r1))))
set_option maxRecDepth 20000 in
theorem w_X9_places_50 {D : va_G} {cy : Nat → ClassId} {ad : Nat → Nat} {p : Program} {l : Launch} {e : Env} {R : Room} {s : State} {m : MethodId} {args : Array Value} {below : List Frame} {meth : Method} {c : Code} (C : Cx 0 D cy ad p R s m args meth c cX9_places 4 RX9 (some .int) 3) {a1 : Int32}  {z0 : Int32} {z1 : Int32} {v3 : Int32}  {σ : Mem} {H : Heap} {locs : List Loc} {ls : Array Slot} {Q : State → Prop} {P : (Int32 × Int32) → Prop} {r : Int32} {x : (Int32 × Int32) ⊕ Int32} (hx : LimQ P r x) (hP : ∀ u, P u → ∀ (H : Heap) (locs : List Loc) (ls : Array Slot), Wd 0 D cy ad s σ H locs → lv_has ls 4 [(0, .ref (ad (0))), (1, .int a1), (2, .int u.1), (3, .int u.2)] → W p l e R s m args below meth c H locs 0 0 Q (F0 m 19 ls [])) (hE0 : ∀ (v2 : Int32), (v2 : Int32) = r → ∀ (H : Heap) (locs : List Loc) (ls : Array Slot), Wd 0 D cy ad s σ H locs → lv_has ls 4 [(2, .int v2)] → W p l e R s m args below meth c H locs 0 0 Q (F0 m 58 ls [])) (hw : Wd 0 D cy ad s σ H locs) (hl : lv_has ls 4 [(0, .ref (ad (0))), (1, .int a1), (3, .int v3)]) (h : j_X9_places_50 a1 z0 z1 v3 σ = some x) : W p l e R s m args below meth c H locs 0 0 Q (F0 m 50 ls [.int z1, .int z0]) := by
  unfold j_X9_places_50 at h
  refine lv_ior C.1 C.2.1 dX9_places_50 ?_
  obtain ⟨x2, ex2, h⟩ := lt_of h
  refine m_topi ex2 ?_
  refine lv_istore_n (lv' := [(2, .int _), (0, .ref _), (1, .int _), (3, .int _)]) C.1 C.2.1 dX9_places_51 rfl hl (by decide) rfl (fun ls hl => ?_)
  obtain ⟨x3, ex3, h⟩ := lt_of h
  refine m_iinc (k := 3) (lv' := [(3, .int _), (2, .int _), (0, .ref _), (1, .int _)]) C (1 : Int32) (by decide) dX9_places_52 hl rfl ex3.symm (by decide) rfl (fun ls hl => ?_)
  refine lv_goto (tgt := 19) C.1 C.2.1 dX9_places_55 (by decide) ?_
  obtain rfl := Option.some.inj h
  exact hP _ hx _ _ _ hw (lv_sub hl [2, 3, 1, 0] rfl)
set_option maxRecDepth 20000 in
theorem w_X9_places_19 {D : va_G} {cy : Nat → ClassId} {ad : Nat → Nat} {p : Program} {l : Launch} {e : Env} {R : Room} {s : State} {m : MethodId} {args : Array Value} {below : List Frame} {meth : Method} {c : Code} (C : Cx 0 D cy ad p R s m args meth c cX9_places 4 RX9 (some .int) 3) {a1 : Int32}  {v2 : Int32} {v3 : Int32} {σ : Mem} {Q : State → Prop} {r : Int32} (hL : Lim (T := Int32) (fun s => b_X9_places_19 a1 s.1 s.2 σ) (v2, v3) = some r) (hE0 : ∀ (v2 : Int32), (v2 : Int32) = r → ∀ (H : Heap) (locs : List Loc) (ls : Array Slot), Wd 0 D cy ad s σ H locs → lv_has ls 4 [(2, .int v2)] → W p l e R s m args below meth c H locs 0 0 Q (F0 m 58 ls [])) (H : Heap) (locs : List Loc) (ls : Array Slot) (hw : Wd 0 D cy ad s σ H locs) (hl : lv_has ls 4 [(0, .ref (ad (0))), (1, .int a1), (2, .int v2), (3, .int v3)]) : W p l e R s m args below meth c H locs 0 0 Q (F0 m 19 ls []) := by
  refine Lim_ind hL (P := fun u => ∀ (H : Heap) (locs : List Loc) (ls : Array Slot), Wd 0 D cy ad s σ H locs → lv_has ls 4 [(0, .ref (ad (0))), (1, .int a1), (2, .int u.1), (3, .int u.2)] → W p l e R s m args below meth c H locs 0 0 Q (F0 m 19 ls [])) (fun u x h hx H locs ls hw hl => ?_) H locs ls hw hl
  clear hL
  obtain ⟨v2, v3⟩ := u
  have h : b_X9_places_19 a1 v2 v3 σ = some x := h
  have hw : Wd 0 D cy ad s σ H locs := hw
  have hl : lv_has ls 4 [(0, .ref (ad (0))), (1, .int a1), (2, .int v2), (3, .int v3)] := hl
  have hP : ∀ (u : (Int32 × Int32)), (∀ (H : Heap) (locs : List Loc) (ls : Array Slot), Wd 0 D cy ad s σ H locs → lv_has ls 4 [(0, .ref (ad (0))), (1, .int a1), (2, .int u.1), (3, .int u.2)] → W p l e R s m args below meth c H locs 0 0 Q (F0 m 19 ls [])) → ∀ (H : Heap) (locs : List Loc) (ls : Array Slot), Wd 0 D cy ad s σ H locs → lv_has ls 4 [(0, .ref (ad (0))), (1, .int a1), (2, .int u.1), (3, .int u.2)] → W p l e R s m args below meth c H locs 0 0 Q (F0 m 19 ls []) := fun _ k => k
  unfold b_X9_places_19 at h
  refine lv_iload_n C.1 C.2.1 dX9_places_19 rfl (lv_at hl 3 rfl) ?_
  refine lv_aload_n C.1 C.2.1 dX9_places_20 rfl (lv_at hl 0 rfl) ?_
  refine gf_X9_29 C hw dX9_places_21 ?_
  refine lv_iconst (v := (2 : Int32)) C.1 C.2.1 dX9_places_24 (by decide) ?_
  have hin : vp_in (2 : Int32) 102 := (by decide : ix (2 : Int32) 102)
  refine m_iald C hw a0_7 hin dX9_places_25 ?_
  refine lv_icmp_ge (tgt := 58) C.1 C.2.1 dX9_places_26 (by decide) (fun cd => ?_) (fun cd => ?_)
  · have h := ite_t cd h
    obtain rfl := Option.some.inj h
    exact hE0 _ hx _ _ _ hw (lv_sub hl [2] rfl)
  · have h := ite_f cd h
    refine lv_iload_n C.1 C.2.1 dX9_places_29 rfl (lv_at hl 2 rfl) ?_
    refine lv_aload_n C.1 C.2.1 dX9_places_30 rfl (lv_at hl 0 rfl) ?_
    refine gf_X9_42 C hw dX9_places_31 ?_
    refine lv_iload_n C.1 C.2.1 dX9_places_34 rfl (lv_at hl 3 rfl) ?_
    obtain ⟨hin, h⟩ := gd_of h
    refine m_iald C hw a0_11 hin dX9_places_35 ?_
    refine lv_iload_n C.1 C.2.1 dX9_places_36 rfl (lv_at hl 1 rfl) ?_
    refine go_I hw (run_S (As := [.int _, .int _]) C hw (c_X9_has C.2.2.2.2.2.2.2.2.2 _ _ _) mi_X9_has ms_X9_has lk_X9_145 (by decide) (by decide) rfl hl.1 rfl (Nat.le_of_ble_eq_true rfl) dX9_places_37 ⟨Nat.le_refl 0, Nat.le_refl 0⟩) (fun H locs hw => ?_)
    refine lv_if_eq (tgt := 49) C.1 C.2.1 dX9_places_40 (by decide) (fun cd => ?_) (fun cd => ?_)
    · have h := ite_t cd h
      refine lv_iconst (v := (0 : Int32)) C.1 C.2.1 dX9_places_49 (by decide) ?_
      exact w_X9_places_50 C hx hP hE0 hw (lv_sub hl [0, 1, 3] rfl) h
    · have h := ite_f cd h
      refine lv_iconst (v := (1 : Int32)) C.1 C.2.1 dX9_places_43 (by decide) ?_
      refine lv_iload_n C.1 C.2.1 dX9_places_44 rfl (lv_at hl 3 rfl) ?_
      refine lv_ishl C.1 C.2.1 dX9_places_45 ?_
      refine lv_goto (tgt := 50) C.1 C.2.1 dX9_places_46 (by decide) ?_
      exact w_X9_places_50 C hx hP hE0 hw (lv_sub hl [0, 1, 3] rfl) h
set_option maxRecDepth 20000 in
theorem c_X9_places {l : Launch} {D : va_G} {cy : Nat → ClassId} {ad : Nat → Nat} (hj : InjW 0 ad) (a1 : Int32)  (σ : Mem) (r : (Int32 × Mem)) (h : f_X9_places a1 σ = some r) : CI 0 D cy ad l yX9_places cX9_places 4 (some .int) 3 [.ref (ad (0)), .int a1] σ r.1 r.2 := by
  refine CI.mk (by decide) hj (Nat.le_of_ble_eq_true rfl) (fun p e R s m below meth c ls C hw hl => ?_)
  have hl : lv_has ls 4 [(0, .ref (ad (0))), (1, .int a1)] := hl
  generalize ([.ref (ad (0)), .int a1] : List Value).toArray = args at C ⊢
  have C : Cx 0 D cy ad p R s m args meth c cX9_places 4 RX9 (some .int) 3 := C
  unfold f_X9_places at h
  refine lv_iload_n C.1 C.2.1 dX9_places_0 rfl (lv_at hl 1 rfl) ?_
  refine lv_iconst (v := (0 : Int32)) C.1 C.2.1 dX9_places_1 (by decide) ?_
  refine lv_iconst (v := (5 : Int32)) C.1 C.2.1 dX9_places_2 (by decide) ?_
  refine go_I hw (run_S (As := [.int _, .int _, .int _]) C hw (c_X9_in C.2.2.2.2.2.2.2.2.2 _ _ _ _) mi_X9_in ms_X9_in lk_X9_88 (by decide) (by decide) rfl hl.1 rfl (Nat.le_of_ble_eq_true rfl) dX9_places_3 ⟨Nat.le_refl 0, Nat.le_refl 0⟩) (fun H locs hw => ?_)
  refine lv_if_ne (tgt := 11) C.1 C.2.1 dX9_places_6 (by decide) (fun cd => ?_) (fun cd => ?_)
  · have h := ite_f cd h
    refine lv_aload_n C.1 C.2.1 dX9_places_11 rfl (lv_at hl 0 rfl) ?_
    obtain ⟨r1, h1, h⟩ := bS h
    refine go_V hw (run_V (As := []) C hw (c_X9_findComes C.2.2.2.2.2.2.2.2.2 _ _ h1) mi_X9_findComes mv_X9_findComes o0_0 (ci := 9) rfl rfl lk_X9_159 (by decide) (by decide) rfl hl.1 rfl (Nat.le_of_ble_eq_true rfl) dX9_places_12 ⟨Nat.le_refl 0, Nat.le_refl 0⟩) (fun H locs hw => ?_)
    refine lv_iconst (v := (0 : Int32)) C.1 C.2.1 dX9_places_15 (by decide) ?_
    refine lv_istore_n (lv' := [(2, .int _), (0, .ref _), (1, .int _)]) C.1 C.2.1 dX9_places_16 rfl hl (by decide) rfl (fun ls hl => ?_)
    refine lv_iconst (v := (0 : Int32)) C.1 C.2.1 dX9_places_17 (by decide) ?_
    refine lv_istore_n (lv' := [(3, .int _), (2, .int _), (0, .ref _), (1, .int _)]) C.1 C.2.1 dX9_places_18 rfl hl (by decide) rfl (fun ls hl => ?_)
    obtain ⟨r4, hL, h⟩ := bS h
    refine w_X9_places_19 C  hL (fun y0 hr H locs ls hw hl => ?_) _ _ _ hw (lv_sub hl [2, 3, 1, 0] rfl)
    · subst hr
      try dsimp only at h
      try dsimp only at hw
      try dsimp only at hl
      refine lv_iload_n C.1 C.2.1 dX9_places_58 rfl (lv_at hl 0 rfl) ?_
      exact m_iret C hw (ret_p h) dX9_places_59
  · have h := ite_t cd h
    refine lv_iconst (v := (-1 : Int32)) C.1 C.2.1 dX9_places_9 (by decide) ?_
    exact m_iret C hw (ret_p h) dX9_places_10
noncomputable def b_X9_costAll_27  (v1 : Int32) (v2 : Int32) (v3 : Int32) (σ : Mem) : Option ((Int32 × Int32 × Int32 × Mem) ⊕ (Int32 × Int32 × Mem)) :=
  if (6 : Int32) ≤ v3 then (some (.inr (v1, v2, σ))) else (gd (ix (((6 : Int32) * v1) + v3) 186) (lt (sI σ 13 (((6 : Int32) * v1) + v3).toNatClampNeg (999 : Int32)) (fun σ3 => lt (v3 + (1 : Int32)) (fun x4 => some (.inl (v1, v2, x4, σ3))))))
noncomputable def j_X9_costAll_262  (v1 : Int32) (v2 : Int32) (v3 : Int32) (σ : Mem) : Option ((Int32 × Int32 × Int32 × Mem) ⊕ (Int32 × Mem)) :=
  lt (v3 + (1 : Int32)) (fun x6 => some (.inl (v1, v2, x6, σ)))
noncomputable def j_X9_costAll_261  (z1 : Int32) (z2 : Int32) (v1 : Int32) (v2 : Int32) (v3 : Int32) (σ : Mem) : Option ((Int32 × Int32 × Int32 × Mem) ⊕ (Int32 × Mem)) :=
  gd (ix z1 186) (lt (sI σ 13 z1.toNatClampNeg z2) (fun σ10 => j_X9_costAll_262 v1 v2 v3 σ10))
noncomputable def j_X9_costAll_215  (z0 : Int32) (z1 : Int32) (v1 : Int32) (v2 : Int32) (v3 : Int32) (σ : Mem) : Option ((Int32 × Int32 × Int32 × Mem) ⊕ (Int32 × Mem)) :=
  lt (z0 + z1) (fun x8 => gd (ix v3 32) (lt (((6 : Int32) * v1) + (σ.1 6 v3.toNatClampNeg)) (fun x9 => gd (ix x9 186) (if (σ.1 13 x9.toNatClampNeg) ≤ x8 then (gd (ix x9 186) (j_X9_costAll_261 x9 (σ.1 13 x9.toNatClampNeg) v1 v2 v3 σ)) else (j_X9_costAll_261 x9 x8 v1 v2 v3 σ)))))
noncomputable def j_X9_costAll_181  (z0 : Int32) (z1 : Int32) (v1 : Int32) (v2 : Int32) (v3 : Int32) (σ : Mem) : Option ((Int32 × Int32 × Int32 × Mem) ⊕ (Int32 × Mem)) :=
  lt (z0 + z1) (fun x7 => if v2 ≤ (1 : Int32) then (j_X9_costAll_215 x7 (0 : Int32) v1 v2 v3 σ) else ((f_X9_second v1 σ).bind (fun r11 => gd (ix v3 32) (gd (ix (((6 : Int32) * r11) + (σ.1 5 v3.toNatClampNeg)) 186) (j_X9_costAll_215 x7 (σ.1 13 (((6 : Int32) * r11) + (σ.1 5 v3.toNatClampNeg)).toNatClampNeg) v1 v2 v3 σ)))))
noncomputable def j_X9_costAll_151  (z0 : Int32) (v1 : Int32) (v2 : Int32) (v3 : Int32) (σ : Mem) : Option ((Int32 × Int32 × Int32 × Mem) ⊕ (Int32 × Mem)) :=
  if v2 ≤ 0 then (j_X9_costAll_181 z0 (0 : Int32) v1 v2 v3 σ) else (gd (ix v3 32) (gd (ix (((6 : Int32) * (v1 + (1 : Int32))) + (σ.1 4 v3.toNatClampNeg)) 186) (j_X9_costAll_181 z0 (σ.1 13 (((6 : Int32) * (v1 + (1 : Int32))) + (σ.1 4 v3.toNatClampNeg)).toNatClampNeg) v1 v2 v3 σ)))
noncomputable def j_X9_costAll_122  (z0 : Int32) (v1 : Int32) (v2 : Int32) (v3 : Int32) (σ : Mem) : Option ((Int32 × Int32 × Int32 × Mem) ⊕ (Int32 × Mem)) :=
  if z0 = 0 then (j_X9_costAll_262 v1 v2 v3 σ) else (gd (ix v3 32) (gd (ix ((3 : Int32) + v1) 102) (if (σ.1 3 v3.toNatClampNeg) = (σ.1 7 ((3 : Int32) + v1).toNatClampNeg) then (j_X9_costAll_151 (0 : Int32) v1 v2 v3 σ) else (j_X9_costAll_151 (1 : Int32) v1 v2 v3 σ))))
noncomputable def j_X9_costAll_121  (v1 : Int32) (v2 : Int32) (v3 : Int32) (σ : Mem) : Option ((Int32 × Int32 × Int32 × Mem) ⊕ (Int32 × Mem)) :=
  j_X9_costAll_122 (0 : Int32) v1 v2 v3 σ
noncomputable def j_X9_costAll_117  (v1 : Int32) (v2 : Int32) (v3 : Int32) (σ : Mem) : Option ((Int32 × Int32 × Int32 × Mem) ⊕ (Int32 × Mem)) :=
  j_X9_costAll_122 (1 : Int32) v1 v2 v3 σ
noncomputable def b_X9_costAll_55  (v1 : Int32) (v2 : Int32) (v3 : Int32) (σ : Mem) : Option ((Int32 × Int32 × Int32 × Mem) ⊕ (Int32 × Mem)) :=
  if (σ.1 2 (0 : Int32).toNatClampNeg) ≤ v3 then (some (.inr (v1, σ))) else (if (f_X9_has (σ.1 7 (0 : Int32).toNatClampNeg) v3) = 0 then (j_X9_costAll_121 v1 v2 v3 σ) else (gd (ix v3 32) (if (f_X9_armsOf (σ.1 3 v3.toNatClampNeg)) = v2 then (gd (ix v1 31) (if (σ.1 14 v1.toNatClampNeg) = (-9 : Int32) then (j_X9_costAll_117 v1 v2 v3 σ) else (gd (ix v1 31) (gd (ix v3 32) (if (σ.1 14 v1.toNatClampNeg) = (σ.1 3 v3.toNatClampNeg) then (j_X9_costAll_117 v1 v2 v3 σ) else (j_X9_costAll_121 v1 v2 v3 σ)))))) else (j_X9_costAll_121 v1 v2 v3 σ))))
noncomputable def b_X9_costAll_9  (v1 : Int32) (σ : Mem) : Option ((Int32 × Mem) ⊕ Mem) :=
  if v1 < 0 then (some (.inr σ)) else (gd (ix ((3 : Int32) + v1) 102) (lt (f_X9_armsOf (σ.1 7 ((3 : Int32) + v1).toNatClampNeg)) (fun x2 => (Lim (T := (Int32 × Int32 × Mem)) (fun s => b_X9_costAll_27 s.1 s.2.1 s.2.2.1 s.2.2.2) (v1, x2, (0 : Int32), σ)).bind (fun r5 => (Lim (T := (Int32 × Mem)) (fun s => b_X9_costAll_55 s.1 s.2.1 s.2.2.1 s.2.2.2) (r5.1, r5.2.1, (0 : Int32), r5.2.2)).bind (fun r12 => lt (r12.1 + (-1 : Int32)) (fun x13 => some (.inl (x13, r12.2))))))))
noncomputable def j_X9_costAll_319  (z0 : Int32) (v2 : Int32) (σ : Mem) : Option ((Int32 × Int32) ⊕ Int32) :=
  lt (v2 + (1 : Int32)) (fun x15 => some (.inl (z0, x15)))
noncomputable def j_X9_costAll_318  (v1 : Int32) (v2 : Int32) (σ : Mem) : Option ((Int32 × Int32) ⊕ Int32) :=
  j_X9_costAll_319 v1 v2 σ
noncomputable def b_X9_costAll_280  (v1 : Int32) (v2 : Int32) (σ : Mem) : Option ((Int32 × Int32) ⊕ Int32) :=
  if (6 : Int32) ≤ v2 then (some (.inr v1)) else (if (f_X9_has (σ.1 7 (1 : Int32).toNatClampNeg) v2) = 0 then (j_X9_costAll_318 v1 v2 σ) else (gd (ix v2 186) (if v1 ≤ (σ.1 13 v2.toNatClampNeg) then (j_X9_costAll_318 v1 v2 σ) else (gd (ix v2 186) (j_X9_costAll_319 (σ.1 13 v2.toNatClampNeg) v2 σ)))))
noncomputable def f_X9_costAll  (σ : Mem) : Option (Int32 × Mem) :=
  lt ((σ.1 7 (2 : Int32).toNatClampNeg) - (1 : Int32)) (fun x1 => (Lim (T := Mem) (fun s => b_X9_costAll_9 s.1 s.2) (x1, σ)).bind (fun r14 => (Lim (T := Int32) (fun s => b_X9_costAll_280 s.1 s.2 r14) ((999 : Int32), (0 : Int32))).bind (fun r16 => some (r16, r14))))
set_option maxRecDepth 20000 in
theorem w_X9_costAll_27 {D : va_G} {cy : Nat → ClassId} {ad : Nat → Nat} {p : Program} {l : Launch} {e : Env} {R : Room} {s : State} {m : MethodId} {args : Array Value} {below : List Frame} {meth : Method} {c : Code} (C : Cx 0 D cy ad p R s m args meth c cX9_costAll 7 RX9 (some .int) 1)   {v1 : Int32} {v2 : Int32} {v3 : Int32} {σ : Mem} {Q : State → Prop} {r : (Int32 × Int32 × Mem)} (hL : Lim (T := (Int32 × Int32 × Mem)) (fun s => b_X9_costAll_27 s.1 s.2.1 s.2.2.1 s.2.2.2) (v1, v2, v3, σ) = some r) (hE0 : ∀ (v1 : Int32) (v2 : Int32) (σ1 : Mem), ((v1, v2, σ1) : (Int32 × Int32 × Mem)) = r → ∀ (H : Heap) (locs : List Loc) (ls : Array Slot), Wd 0 D cy ad s σ1 H locs → lv_has ls 7 [(0, .ref (ad (0))), (1, .int v1), (2, .int v2)] → W p l e R s m args below meth c H locs 0 0 Q (F0 m 53 ls [])) (H : Heap) (locs : List Loc) (ls : Array Slot) (hw : Wd 0 D cy ad s σ H locs) (hl : lv_has ls 7 [(0, .ref (ad (0))), (1, .int v1), (2, .int v2), (3, .int v3)]) : W p l e R s m args below meth c H locs 0 0 Q (F0 m 27 ls []) := by
  refine Lim_ind hL (P := fun u => ∀ (H : Heap) (locs : List Loc) (ls : Array Slot), Wd 0 D cy ad s u.2.2.2 H locs → lv_has ls 7 [(0, .ref (ad (0))), (1, .int u.1), (2, .int u.2.1), (3, .int u.2.2.1)] → W p l e R s m args below meth c H locs 0 0 Q (F0 m 27 ls [])) (fun u x h hx H locs ls hw hl => ?_) H locs ls hw hl
  clear hL
  obtain ⟨v1, v2, v3, σ⟩ := u
  have h : b_X9_costAll_27 v1 v2 v3 σ = some x := h
  have hw : Wd 0 D cy ad s σ H locs := hw
  have hl : lv_has ls 7 [(0, .ref (ad (0))), (1, .int v1), (2, .int v2), (3, .int v3)] := hl
  have hP : ∀ (u : (Int32 × Int32 × Int32 × Mem)), (∀ (H : Heap) (locs : List Loc) (ls : Array Slot), Wd 0 D cy ad s u.2.2.2 H locs → lv_has ls 7 [(0, .ref (ad (0))), (1, .int u.1), (2, .int u.2.1), (3, .int u.2.2.1)] → W p l e R s m args below meth c H locs 0 0 Q (F0 m 27 ls [])) → ∀ (H : Heap) (locs : List Loc) (ls : Array Slot), Wd 0 D cy ad s u.2.2.2 H locs → lv_has ls 7 [(0, .ref (ad (0))), (1, .int u.1), (2, .int u.2.1), (3, .int u.2.2.1)] → W p l e R s m args below meth c H locs 0 0 Q (F0 m 27 ls []) := fun _ k => k
  unfold b_X9_costAll_27 at h
  refine lv_iload_n C.1 C.2.1 dX9_costAll_27 rfl (lv_at hl 3 rfl) ?_
  refine lv_bipush (v := (6 : Int32)) C.1 C.2.1 dX9_costAll_28 (by decide) ?_
  refine lv_icmp_ge (tgt := 53) C.1 C.2.1 dX9_costAll_30 (by decide) (fun cd => ?_) (fun cd => ?_)
  · have h := ite_t cd h
    obtain rfl := Option.some.inj h
    exact hE0 _ _ _ hx _ _ _ hw (lv_sub hl [0, 1, 2] rfl)
  · have h := ite_f cd h
    refine lv_aload_n C.1 C.2.1 dX9_costAll_33 rfl (lv_at hl 0 rfl) ?_
    refine gf_X9_49 C hw dX9_costAll_34 ?_
    refine lv_bipush (v := (6 : Int32)) C.1 C.2.1 dX9_costAll_37 (by decide) ?_
    refine lv_iload_n C.1 C.2.1 dX9_costAll_39 rfl (lv_at hl 1 rfl) ?_
    refine lv_imul C.1 C.2.1 dX9_costAll_40 ?_
    refine lv_iload_n C.1 C.2.1 dX9_costAll_41 rfl (lv_at hl 3 rfl) ?_
    refine lv_iadd C.1 C.2.1 dX9_costAll_42 ?_
    refine lv_sipush (v := (999 : Int32)) C.1 C.2.1 dX9_costAll_43 (by decide) ?_
    obtain ⟨hin, h⟩ := gd_of h
    refine m_iast C hw a0_13 hin dX9_costAll_46 (fun H locs hw => ?_)
    obtain ⟨σ3, eσ3, h⟩ := lt_of h
    rw [← eσ3] at hw
    obtain ⟨x4, ex4, h⟩ := lt_of h
    refine m_iinc (k := 3) (lv' := [(3, .int _), (0, .ref _), (1, .int _), (2, .int _)]) C (1 : Int32) (by decide) dX9_costAll_47 hl rfl ex4.symm (by decide) rfl (fun ls hl => ?_)
    refine lv_goto (tgt := 27) C.1 C.2.1 dX9_costAll_50 (by decide) ?_
    obtain rfl := Option.some.inj h
    exact hP _ hx _ _ _ hw (lv_sub hl [1, 2, 3, 0] rfl)
set_option maxRecDepth 20000 in
theorem w_X9_costAll_262 {D : va_G} {cy : Nat → ClassId} {ad : Nat → Nat} {p : Program} {l : Launch} {e : Env} {R : Room} {s : State} {m : MethodId} {args : Array Value} {below : List Frame} {meth : Method} {c : Code} (C : Cx 0 D cy ad p R s m args meth c cX9_costAll 7 RX9 (some .int) 1)   {v1 : Int32} {v2 : Int32} {v3 : Int32}  {σ : Mem} {H : Heap} {locs : List Loc} {ls : Array Slot} {Q : State → Prop} {P : (Int32 × Int32 × Int32 × Mem) → Prop} {r : (Int32 × Mem)} {x : (Int32 × Int32 × Int32 × Mem) ⊕ (Int32 × Mem)} (hx : LimQ P r x) (hP : ∀ u, P u → ∀ (H : Heap) (locs : List Loc) (ls : Array Slot), Wd 0 D cy ad s u.2.2.2 H locs → lv_has ls 7 [(0, .ref (ad (0))), (1, .int u.1), (2, .int u.2.1), (3, .int u.2.2.1)] → W p l e R s m args below meth c H locs 0 0 Q (F0 m 55 ls [])) (hE0 : ∀ (v1 : Int32) (σ1 : Mem), ((v1, σ1) : (Int32 × Mem)) = r → ∀ (H : Heap) (locs : List Loc) (ls : Array Slot), Wd 0 D cy ad s σ1 H locs → lv_has ls 7 [(0, .ref (ad (0))), (1, .int v1)] → W p l e R s m args below meth c H locs 0 0 Q (F0 m 268 ls [])) (hw : Wd 0 D cy ad s σ H locs) (hl : lv_has ls 7 [(0, .ref (ad (0))), (1, .int v1), (2, .int v2), (3, .int v3)]) (h : j_X9_costAll_262 v1 v2 v3 σ = some x) : W p l e R s m args below meth c H locs 0 0 Q (F0 m 262 ls []) := by
  unfold j_X9_costAll_262 at h
  obtain ⟨x6, ex6, h⟩ := lt_of h
  refine m_iinc (k := 3) (lv' := [(3, .int _), (0, .ref _), (1, .int _), (2, .int _)]) C (1 : Int32) (by decide) dX9_costAll_262 hl rfl ex6.symm (by decide) rfl (fun ls hl => ?_)
  refine lv_goto (tgt := 55) C.1 C.2.1 dX9_costAll_265 (by decide) ?_
  obtain rfl := Option.some.inj h
  exact hP _ hx _ _ _ hw (lv_sub hl [1, 2, 3, 0] rfl)
set_option maxRecDepth 20000 in
theorem w_X9_costAll_261 {D : va_G} {cy : Nat → ClassId} {ad : Nat → Nat} {p : Program} {l : Launch} {e : Env} {R : Room} {s : State} {m : MethodId} {args : Array Value} {below : List Frame} {meth : Method} {c : Code} (C : Cx 0 D cy ad p R s m args meth c cX9_costAll 7 RX9 (some .int) 1)   {z1 : Int32} {z2 : Int32} {v1 : Int32} {v2 : Int32} {v3 : Int32}  {σ : Mem} {H : Heap} {locs : List Loc} {ls : Array Slot} {Q : State → Prop} {P : (Int32 × Int32 × Int32 × Mem) → Prop} {r : (Int32 × Mem)} {x : (Int32 × Int32 × Int32 × Mem) ⊕ (Int32 × Mem)} (hx : LimQ P r x) (hP : ∀ u, P u → ∀ (H : Heap) (locs : List Loc) (ls : Array Slot), Wd 0 D cy ad s u.2.2.2 H locs → lv_has ls 7 [(0, .ref (ad (0))), (1, .int u.1), (2, .int u.2.1), (3, .int u.2.2.1)] → W p l e R s m args below meth c H locs 0 0 Q (F0 m 55 ls [])) (hE0 : ∀ (v1 : Int32) (σ1 : Mem), ((v1, σ1) : (Int32 × Mem)) = r → ∀ (H : Heap) (locs : List Loc) (ls : Array Slot), Wd 0 D cy ad s σ1 H locs → lv_has ls 7 [(0, .ref (ad (0))), (1, .int v1)] → W p l e R s m args below meth c H locs 0 0 Q (F0 m 268 ls [])) (hw : Wd 0 D cy ad s σ H locs) (hl : lv_has ls 7 [(0, .ref (ad (0))), (1, .int v1), (2, .int v2), (3, .int v3)]) (h : j_X9_costAll_261 z1 z2 v1 v2 v3 σ = some x) : W p l e R s m args below meth c H locs 0 0 Q (F0 m 261 ls [.int z2, .int z1, .ref (ad (13))]) := by
  unfold j_X9_costAll_261 at h
  obtain ⟨hin, h⟩ := gd_of h
  refine m_iast C hw a0_13 hin dX9_costAll_261 (fun H locs hw => ?_)
  obtain ⟨σ10, eσ10, h⟩ := lt_of h
  rw [← eσ10] at hw
  exact w_X9_costAll_262 C hx hP hE0 hw (lv_sub hl [0, 1, 2, 3] rfl) h
set_option maxRecDepth 20000 in
theorem w_X9_costAll_215 {D : va_G} {cy : Nat → ClassId} {ad : Nat → Nat} {p : Program} {l : Launch} {e : Env} {R : Room} {s : State} {m : MethodId} {args : Array Value} {below : List Frame} {meth : Method} {c : Code} (C : Cx 0 D cy ad p R s m args meth c cX9_costAll 7 RX9 (some .int) 1)   {z0 : Int32} {z1 : Int32} {v1 : Int32} {v2 : Int32} {v3 : Int32}  {σ : Mem} {H : Heap} {locs : List Loc} {ls : Array Slot} {Q : State → Prop} {P : (Int32 × Int32 × Int32 × Mem) → Prop} {r : (Int32 × Mem)} {x : (Int32 × Int32 × Int32 × Mem) ⊕ (Int32 × Mem)} (hx : LimQ P r x) (hP : ∀ u, P u → ∀ (H : Heap) (locs : List Loc) (ls : Array Slot), Wd 0 D cy ad s u.2.2.2 H locs → lv_has ls 7 [(0, .ref (ad (0))), (1, .int u.1), (2, .int u.2.1), (3, .int u.2.2.1)] → W p l e R s m args below meth c H locs 0 0 Q (F0 m 55 ls [])) (hE0 : ∀ (v1 : Int32) (σ1 : Mem), ((v1, σ1) : (Int32 × Mem)) = r → ∀ (H : Heap) (locs : List Loc) (ls : Array Slot), Wd 0 D cy ad s σ1 H locs → lv_has ls 7 [(0, .ref (ad (0))), (1, .int v1)] → W p l e R s m args below meth c H locs 0 0 Q (F0 m 268 ls [])) (hw : Wd 0 D cy ad s σ H locs) (hl : lv_has ls 7 [(0, .ref (ad (0))), (1, .int v1), (2, .int v2), (3, .int v3)]) (h : j_X9_costAll_215 z0 z1 v1 v2 v3 σ = some x) : W p l e R s m args below meth c H locs 0 0 Q (F0 m 215 ls [.int z1, .int z0]) := by
  unfold j_X9_costAll_215 at h
  refine lv_iadd C.1 C.2.1 dX9_costAll_215 ?_
  obtain ⟨x8, ex8, h⟩ := lt_of h
  refine m_topi ex8 ?_
  refine lv_istore (lv' := [(5, .int _), (0, .ref _), (1, .int _), (2, .int _), (3, .int _)]) C.1 C.2.1 dX9_costAll_216 hl (by decide) rfl (fun ls hl => ?_)
  refine lv_bipush (v := (6 : Int32)) C.1 C.2.1 dX9_costAll_218 (by decide) ?_
  refine lv_iload_n C.1 C.2.1 dX9_costAll_220 rfl (lv_at hl 2 rfl) ?_
  refine lv_imul C.1 C.2.1 dX9_costAll_221 ?_
  refine lv_aload_n C.1 C.2.1 dX9_costAll_222 rfl (lv_at hl 1 rfl) ?_
  refine gf_X9_26 C hw dX9_costAll_223 ?_
  refine lv_iload_n C.1 C.2.1 dX9_costAll_226 rfl (lv_at hl 4 rfl) ?_
  obtain ⟨hin, h⟩ := gd_of h
  refine m_iald C hw a0_6 hin dX9_costAll_227 ?_
  refine lv_iadd C.1 C.2.1 dX9_costAll_228 ?_
  obtain ⟨x9, ex9, h⟩ := lt_of h
  refine m_topi ex9 ?_
  refine lv_istore (lv' := [(6, .int _), (5, .int _), (0, .ref _), (1, .int _), (2, .int _), (3, .int _)]) C.1 C.2.1 dX9_costAll_229 hl (by decide) rfl (fun ls hl => ?_)
  refine lv_aload_n C.1 C.2.1 dX9_costAll_231 rfl (lv_at hl 2 rfl) ?_
  refine gf_X9_49 C hw dX9_costAll_232 ?_
  refine lv_iload C.1 C.2.1 dX9_costAll_235 (lv_at hl 0 rfl) ?_
  refine lv_iload C.1 C.2.1 dX9_costAll_237 (lv_at hl 1 rfl) ?_
  refine lv_aload_n C.1 C.2.1 dX9_costAll_239 rfl (lv_at hl 2 rfl) ?_
  refine gf_X9_49 C hw dX9_costAll_240 ?_
  refine lv_iload C.1 C.2.1 dX9_costAll_243 (lv_at hl 0 rfl) ?_
  obtain ⟨hin, h⟩ := gd_of h
  refine m_iald C hw a0_13 hin dX9_costAll_245 ?_
  refine lv_icmp_ge (tgt := 254) C.1 C.2.1 dX9_costAll_246 (by decide) (fun cd => ?_) (fun cd => ?_)
  · have h := ite_t cd h
    refine lv_aload_n C.1 C.2.1 dX9_costAll_254 rfl (lv_at hl 2 rfl) ?_
    refine gf_X9_49 C hw dX9_costAll_255 ?_
    refine lv_iload C.1 C.2.1 dX9_costAll_258 (lv_at hl 0 rfl) ?_
    obtain ⟨hin, h⟩ := gd_of h
    refine m_iald C hw a0_13 hin dX9_costAll_260 ?_
    exact w_X9_costAll_261 C hx hP hE0 hw (lv_sub hl [2, 3, 4, 5] rfl) h
  · have h := ite_f cd h
    refine lv_iload C.1 C.2.1 dX9_costAll_249 (lv_at hl 1 rfl) ?_
    refine lv_goto (tgt := 261) C.1 C.2.1 dX9_costAll_251 (by decide) ?_
    exact w_X9_costAll_261 C hx hP hE0 hw (lv_sub hl [2, 3, 4, 5] rfl) h
set_option maxRecDepth 20000 in
theorem w_X9_costAll_181 {D : va_G} {cy : Nat → ClassId} {ad : Nat → Nat} {p : Program} {l : Launch} {e : Env} {R : Room} {s : State} {m : MethodId} {args : Array Value} {below : List Frame} {meth : Method} {c : Code} (C : Cx 0 D cy ad p R s m args meth c cX9_costAll 7 RX9 (some .int) 1)   {z0 : Int32} {z1 : Int32} {v1 : Int32} {v2 : Int32} {v3 : Int32}  {σ : Mem} {H : Heap} {locs : List Loc} {ls : Array Slot} {Q : State → Prop} {P : (Int32 × Int32 × Int32 × Mem) → Prop} {r : (Int32 × Mem)} {x : (Int32 × Int32 × Int32 × Mem) ⊕ (Int32 × Mem)} (hx : LimQ P r x) (hP : ∀ u, P u → ∀ (H : Heap) (locs : List Loc) (ls : Array Slot), Wd 0 D cy ad s u.2.2.2 H locs → lv_has ls 7 [(0, .ref (ad (0))), (1, .int u.1), (2, .int u.2.1), (3, .int u.2.2.1)] → W p l e R s m args below meth c H locs 0 0 Q (F0 m 55 ls [])) (hE0 : ∀ (v1 : Int32) (σ1 : Mem), ((v1, σ1) : (Int32 × Mem)) = r → ∀ (H : Heap) (locs : List Loc) (ls : Array Slot), Wd 0 D cy ad s σ1 H locs → lv_has ls 7 [(0, .ref (ad (0))), (1, .int v1)] → W p l e R s m args below meth c H locs 0 0 Q (F0 m 268 ls [])) (hw : Wd 0 D cy ad s σ H locs) (hl : lv_has ls 7 [(0, .ref (ad (0))), (1, .int v1), (2, .int v2), (3, .int v3)]) (h : j_X9_costAll_181 z0 z1 v1 v2 v3 σ = some x) : W p l e R s m args below meth c H locs 0 0 Q (F0 m 181 ls [.int z1, .int z0]) := by
  unfold j_X9_costAll_181 at h
  refine lv_iadd C.1 C.2.1 dX9_costAll_181 ?_
  obtain ⟨x7, ex7, h⟩ := lt_of h
  refine m_topi ex7 ?_
  refine lv_istore (lv' := [(5, .int _), (0, .ref _), (1, .int _), (2, .int _), (3, .int _)]) C.1 C.2.1 dX9_costAll_182 hl (by decide) rfl (fun ls hl => ?_)
  refine lv_iload C.1 C.2.1 dX9_costAll_184 (lv_at hl 0 rfl) ?_
  refine lv_iload_n C.1 C.2.1 dX9_costAll_186 rfl (lv_at hl 3 rfl) ?_
  refine lv_iconst (v := (1 : Int32)) C.1 C.2.1 dX9_costAll_187 (by decide) ?_
  refine lv_icmp_le (tgt := 214) C.1 C.2.1 dX9_costAll_188 (by decide) (fun cd => ?_) (fun cd => ?_)
  · have h := ite_t cd h
    refine lv_iconst (v := (0 : Int32)) C.1 C.2.1 dX9_costAll_214 (by decide) ?_
    exact w_X9_costAll_215 C hx hP hE0 hw (lv_sub hl [1, 2, 3, 4] rfl) h
  · have h := ite_f cd h
    refine lv_aload_n C.1 C.2.1 dX9_costAll_191 rfl (lv_at hl 1 rfl) ?_
    refine gf_X9_49 C hw dX9_costAll_192 ?_
    refine lv_bipush (v := (6 : Int32)) C.1 C.2.1 dX9_costAll_195 (by decide) ?_
    refine lv_aload_n C.1 C.2.1 dX9_costAll_197 rfl (lv_at hl 1 rfl) ?_
    refine lv_iload_n C.1 C.2.1 dX9_costAll_198 rfl (lv_at hl 2 rfl) ?_
    obtain ⟨r11, h1, h⟩ := bS h
    refine go_I hw (run_V (As := [.int _]) C hw (c_X9_second C.2.2.2.2.2.2.2.2.2 _ _ _ h1) mi_X9_second mv_X9_second o0_0 (ci := 9) rfl rfl lk_X9_142 (by decide) (by decide) rfl hl.1 rfl (Nat.le_of_ble_eq_true rfl) dX9_costAll_199 ⟨Nat.le_refl 0, Nat.le_refl 0⟩) (fun H locs hw => ?_)
    refine lv_imul C.1 C.2.1 dX9_costAll_202 ?_
    refine lv_aload_n C.1 C.2.1 dX9_costAll_203 rfl (lv_at hl 1 rfl) ?_
    refine gf_X9_23 C hw dX9_costAll_204 ?_
    refine lv_iload_n C.1 C.2.1 dX9_costAll_207 rfl (lv_at hl 4 rfl) ?_
    obtain ⟨hin, h⟩ := gd_of h
    refine m_iald C hw a0_5 hin dX9_costAll_208 ?_
    refine lv_iadd C.1 C.2.1 dX9_costAll_209 ?_
    obtain ⟨hin, h⟩ := gd_of h
    refine m_iald C hw a0_13 hin dX9_costAll_210 ?_
    refine lv_goto (tgt := 215) C.1 C.2.1 dX9_costAll_211 (by decide) ?_
    exact w_X9_costAll_215 C hx hP hE0 hw (lv_sub hl [1, 2, 3, 4] rfl) h
set_option maxRecDepth 20000 in
theorem w_X9_costAll_151 {D : va_G} {cy : Nat → ClassId} {ad : Nat → Nat} {p : Program} {l : Launch} {e : Env} {R : Room} {s : State} {m : MethodId} {args : Array Value} {below : List Frame} {meth : Method} {c : Code} (C : Cx 0 D cy ad p R s m args meth c cX9_costAll 7 RX9 (some .int) 1)   {z0 : Int32} {v1 : Int32} {v2 : Int32} {v3 : Int32}  {σ : Mem} {H : Heap} {locs : List Loc} {ls : Array Slot} {Q : State → Prop} {P : (Int32 × Int32 × Int32 × Mem) → Prop} {r : (Int32 × Mem)} {x : (Int32 × Int32 × Int32 × Mem) ⊕ (Int32 × Mem)} (hx : LimQ P r x) (hP : ∀ u, P u → ∀ (H : Heap) (locs : List Loc) (ls : Array Slot), Wd 0 D cy ad s u.2.2.2 H locs → lv_has ls 7 [(0, .ref (ad (0))), (1, .int u.1), (2, .int u.2.1), (3, .int u.2.2.1)] → W p l e R s m args below meth c H locs 0 0 Q (F0 m 55 ls [])) (hE0 : ∀ (v1 : Int32) (σ1 : Mem), ((v1, σ1) : (Int32 × Mem)) = r → ∀ (H : Heap) (locs : List Loc) (ls : Array Slot), Wd 0 D cy ad s σ1 H locs → lv_has ls 7 [(0, .ref (ad (0))), (1, .int v1)] → W p l e R s m args below meth c H locs 0 0 Q (F0 m 268 ls [])) (hw : Wd 0 D cy ad s σ H locs) (hl : lv_has ls 7 [(0, .ref (ad (0))), (1, .int v1), (2, .int v2), (3, .int v3)]) (h : j_X9_costAll_151 z0 v1 v2 v3 σ = some x) : W p l e R s m args below meth c H locs 0 0 Q (F0 m 151 ls [.int z0]) := by
  unfold j_X9_costAll_151 at h
  refine lv_istore (lv' := [(5, .int _), (0, .ref _), (1, .int _), (2, .int _), (3, .int _)]) C.1 C.2.1 dX9_costAll_151 hl (by decide) rfl (fun ls hl => ?_)
  refine lv_iload C.1 C.2.1 dX9_costAll_153 (lv_at hl 0 rfl) ?_
  refine lv_iload_n C.1 C.2.1 dX9_costAll_155 rfl (lv_at hl 3 rfl) ?_
  refine lv_if_le (tgt := 180) C.1 C.2.1 dX9_costAll_156 (by decide) (fun cd => ?_) (fun cd => ?_)
  · have h := ite_t cd h
    refine lv_iconst (v := (0 : Int32)) C.1 C.2.1 dX9_costAll_180 (by decide) ?_
    exact w_X9_costAll_181 C hx hP hE0 hw (lv_sub hl [1, 2, 3, 4] rfl) h
  · have h := ite_f cd h
    refine lv_aload_n C.1 C.2.1 dX9_costAll_159 rfl (lv_at hl 1 rfl) ?_
    refine gf_X9_49 C hw dX9_costAll_160 ?_
    refine lv_bipush (v := (6 : Int32)) C.1 C.2.1 dX9_costAll_163 (by decide) ?_
    refine lv_iload_n C.1 C.2.1 dX9_costAll_165 rfl (lv_at hl 2 rfl) ?_
    refine lv_iconst (v := (1 : Int32)) C.1 C.2.1 dX9_costAll_166 (by decide) ?_
    refine lv_iadd C.1 C.2.1 dX9_costAll_167 ?_
    refine lv_imul C.1 C.2.1 dX9_costAll_168 ?_
    refine lv_aload_n C.1 C.2.1 dX9_costAll_169 rfl (lv_at hl 1 rfl) ?_
    refine gf_X9_20 C hw dX9_costAll_170 ?_
    refine lv_iload_n C.1 C.2.1 dX9_costAll_173 rfl (lv_at hl 4 rfl) ?_
    obtain ⟨hin, h⟩ := gd_of h
    refine m_iald C hw a0_4 hin dX9_costAll_174 ?_
    refine lv_iadd C.1 C.2.1 dX9_costAll_175 ?_
    obtain ⟨hin, h⟩ := gd_of h
    refine m_iald C hw a0_13 hin dX9_costAll_176 ?_
    refine lv_goto (tgt := 181) C.1 C.2.1 dX9_costAll_177 (by decide) ?_
    exact w_X9_costAll_181 C hx hP hE0 hw (lv_sub hl [1, 2, 3, 4] rfl) h
set_option maxRecDepth 20000 in
theorem w_X9_costAll_122 {D : va_G} {cy : Nat → ClassId} {ad : Nat → Nat} {p : Program} {l : Launch} {e : Env} {R : Room} {s : State} {m : MethodId} {args : Array Value} {below : List Frame} {meth : Method} {c : Code} (C : Cx 0 D cy ad p R s m args meth c cX9_costAll 7 RX9 (some .int) 1)   {z0 : Int32} {v1 : Int32} {v2 : Int32} {v3 : Int32}  {σ : Mem} {H : Heap} {locs : List Loc} {ls : Array Slot} {Q : State → Prop} {P : (Int32 × Int32 × Int32 × Mem) → Prop} {r : (Int32 × Mem)} {x : (Int32 × Int32 × Int32 × Mem) ⊕ (Int32 × Mem)} (hx : LimQ P r x) (hP : ∀ u, P u → ∀ (H : Heap) (locs : List Loc) (ls : Array Slot), Wd 0 D cy ad s u.2.2.2 H locs → lv_has ls 7 [(0, .ref (ad (0))), (1, .int u.1), (2, .int u.2.1), (3, .int u.2.2.1)] → W p l e R s m args below meth c H locs 0 0 Q (F0 m 55 ls [])) (hE0 : ∀ (v1 : Int32) (σ1 : Mem), ((v1, σ1) : (Int32 × Mem)) = r → ∀ (H : Heap) (locs : List Loc) (ls : Array Slot), Wd 0 D cy ad s σ1 H locs → lv_has ls 7 [(0, .ref (ad (0))), (1, .int v1)] → W p l e R s m args below meth c H locs 0 0 Q (F0 m 268 ls [])) (hw : Wd 0 D cy ad s σ H locs) (hl : lv_has ls 7 [(0, .ref (ad (0))), (1, .int v1), (2, .int v2), (3, .int v3)]) (h : j_X9_costAll_122 z0 v1 v2 v3 σ = some x) : W p l e R s m args below meth c H locs 0 0 Q (F0 m 122 ls [.int z0]) := by
  unfold j_X9_costAll_122 at h
  refine lv_istore (lv' := [(4, .int _), (0, .ref _), (1, .int _), (2, .int _), (3, .int _)]) C.1 C.2.1 dX9_costAll_122 hl (by decide) rfl (fun ls hl => ?_)
  refine lv_iload C.1 C.2.1 dX9_costAll_124 (lv_at hl 0 rfl) ?_
  refine lv_if_eq (tgt := 262) C.1 C.2.1 dX9_costAll_126 (by decide) (fun cd => ?_) (fun cd => ?_)
  · have h := ite_t cd h
    exact w_X9_costAll_262 C hx hP hE0 hw (lv_sub hl [1, 2, 3, 4] rfl) h
  · have h := ite_f cd h
    refine lv_aload_n C.1 C.2.1 dX9_costAll_129 rfl (lv_at hl 1 rfl) ?_
    refine gf_X9_17 C hw dX9_costAll_130 ?_
    refine lv_iload_n C.1 C.2.1 dX9_costAll_133 rfl (lv_at hl 4 rfl) ?_
    obtain ⟨hin, h⟩ := gd_of h
    refine m_iald C hw a0_3 hin dX9_costAll_134 ?_
    refine lv_aload_n C.1 C.2.1 dX9_costAll_135 rfl (lv_at hl 1 rfl) ?_
    refine gf_X9_29 C hw dX9_costAll_136 ?_
    refine lv_iconst (v := (3 : Int32)) C.1 C.2.1 dX9_costAll_139 (by decide) ?_
    refine lv_iload_n C.1 C.2.1 dX9_costAll_140 rfl (lv_at hl 2 rfl) ?_
    refine lv_iadd C.1 C.2.1 dX9_costAll_141 ?_
    obtain ⟨hin, h⟩ := gd_of h
    refine m_iald C hw a0_7 hin dX9_costAll_142 ?_
    refine lv_icmp_ne (tgt := 150) C.1 C.2.1 dX9_costAll_143 (by decide) (fun cd => ?_) (fun cd => ?_)
    · have h := ite_f cd h
      refine lv_iconst (v := (1 : Int32)) C.1 C.2.1 dX9_costAll_150 (by decide) ?_
      exact w_X9_costAll_151 C hx hP hE0 hw (lv_sub hl [1, 2, 3, 4] rfl) h
    · have h := ite_t cd h
      refine lv_iconst (v := (0 : Int32)) C.1 C.2.1 dX9_costAll_146 (by decide) ?_
      refine lv_goto (tgt := 151) C.1 C.2.1 dX9_costAll_147 (by decide) ?_
      exact w_X9_costAll_151 C hx hP hE0 hw (lv_sub hl [1, 2, 3, 4] rfl) h
set_option maxRecDepth 20000 in
theorem w_X9_costAll_121 {D : va_G} {cy : Nat → ClassId} {ad : Nat → Nat} {p : Program} {l : Launch} {e : Env} {R : Room} {s : State} {m : MethodId} {args : Array Value} {below : List Frame} {meth : Method} {c : Code} (C : Cx 0 D cy ad p R s m args meth c cX9_costAll 7 RX9 (some .int) 1)   {v1 : Int32} {v2 : Int32} {v3 : Int32}  {σ : Mem} {H : Heap} {locs : List Loc} {ls : Array Slot} {Q : State → Prop} {P : (Int32 × Int32 × Int32 × Mem) → Prop} {r : (Int32 × Mem)} {x : (Int32 × Int32 × Int32 × Mem) ⊕ (Int32 × Mem)} (hx : LimQ P r x) (hP : ∀ u, P u → ∀ (H : Heap) (locs : List Loc) (ls : Array Slot), Wd 0 D cy ad s u.2.2.2 H locs → lv_has ls 7 [(0, .ref (ad (0))), (1, .int u.1), (2, .int u.2.1), (3, .int u.2.2.1)] → W p l e R s m args below meth c H locs 0 0 Q (F0 m 55 ls [])) (hE0 : ∀ (v1 : Int32) (σ1 : Mem), ((v1, σ1) : (Int32 × Mem)) = r → ∀ (H : Heap) (locs : List Loc) (ls : Array Slot), Wd 0 D cy ad s σ1 H locs → lv_has ls 7 [(0, .ref (ad (0))), (1, .int v1)] → W p l e R s m args below meth c H locs 0 0 Q (F0 m 268 ls [])) (hw : Wd 0 D cy ad s σ H locs) (hl : lv_has ls 7 [(0, .ref (ad (0))), (1, .int v1), (2, .int v2), (3, .int v3)]) (h : j_X9_costAll_121 v1 v2 v3 σ = some x) : W p l e R s m args below meth c H locs 0 0 Q (F0 m 121 ls []) := by
  unfold j_X9_costAll_121 at h
  refine lv_iconst (v := (0 : Int32)) C.1 C.2.1 dX9_costAll_121 (by decide) ?_
  exact w_X9_costAll_122 C hx hP hE0 hw (lv_sub hl [0, 1, 2, 3] rfl) h
set_option maxRecDepth 20000 in
theorem w_X9_costAll_117 {D : va_G} {cy : Nat → ClassId} {ad : Nat → Nat} {p : Program} {l : Launch} {e : Env} {R : Room} {s : State} {m : MethodId} {args : Array Value} {below : List Frame} {meth : Method} {c : Code} (C : Cx 0 D cy ad p R s m args meth c cX9_costAll 7 RX9 (some .int) 1)   {v1 : Int32} {v2 : Int32} {v3 : Int32}  {σ : Mem} {H : Heap} {locs : List Loc} {ls : Array Slot} {Q : State → Prop} {P : (Int32 × Int32 × Int32 × Mem) → Prop} {r : (Int32 × Mem)} {x : (Int32 × Int32 × Int32 × Mem) ⊕ (Int32 × Mem)} (hx : LimQ P r x) (hP : ∀ u, P u → ∀ (H : Heap) (locs : List Loc) (ls : Array Slot), Wd 0 D cy ad s u.2.2.2 H locs → lv_has ls 7 [(0, .ref (ad (0))), (1, .int u.1), (2, .int u.2.1), (3, .int u.2.2.1)] → W p l e R s m args below meth c H locs 0 0 Q (F0 m 55 ls [])) (hE0 : ∀ (v1 : Int32) (σ1 : Mem), ((v1, σ1) : (Int32 × Mem)) = r → ∀ (H : Heap) (locs : List Loc) (ls : Array Slot), Wd 0 D cy ad s σ1 H locs → lv_has ls 7 [(0, .ref (ad (0))), (1, .int v1)] → W p l e R s m args below meth c H locs 0 0 Q (F0 m 268 ls [])) (hw : Wd 0 D cy ad s σ H locs) (hl : lv_has ls 7 [(0, .ref (ad (0))), (1, .int v1), (2, .int v2), (3, .int v3)]) (h : j_X9_costAll_117 v1 v2 v3 σ = some x) : W p l e R s m args below meth c H locs 0 0 Q (F0 m 117 ls []) := by
  unfold j_X9_costAll_117 at h
  refine lv_iconst (v := (1 : Int32)) C.1 C.2.1 dX9_costAll_117 (by decide) ?_
  refine lv_goto (tgt := 122) C.1 C.2.1 dX9_costAll_118 (by decide) ?_
  exact w_X9_costAll_122 C hx hP hE0 hw (lv_sub hl [0, 1, 2, 3] rfl) h
set_option maxRecDepth 20000 in
theorem w_X9_costAll_55 {D : va_G} {cy : Nat → ClassId} {ad : Nat → Nat} {p : Program} {l : Launch} {e : Env} {R : Room} {s : State} {m : MethodId} {args : Array Value} {below : List Frame} {meth : Method} {c : Code} (C : Cx 0 D cy ad p R s m args meth c cX9_costAll 7 RX9 (some .int) 1)   {v1 : Int32} {v2 : Int32} {v3 : Int32} {σ : Mem} {Q : State → Prop} {r : (Int32 × Mem)} (hL : Lim (T := (Int32 × Mem)) (fun s => b_X9_costAll_55 s.1 s.2.1 s.2.2.1 s.2.2.2) (v1, v2, v3, σ) = some r) (hE0 : ∀ (v1 : Int32) (σ1 : Mem), ((v1, σ1) : (Int32 × Mem)) = r → ∀ (H : Heap) (locs : List Loc) (ls : Array Slot), Wd 0 D cy ad s σ1 H locs → lv_has ls 7 [(0, .ref (ad (0))), (1, .int v1)] → W p l e R s m args below meth c H locs 0 0 Q (F0 m 268 ls [])) (H : Heap) (locs : List Loc) (ls : Array Slot) (hw : Wd 0 D cy ad s σ H locs) (hl : lv_has ls 7 [(0, .ref (ad (0))), (1, .int v1), (2, .int v2), (3, .int v3)]) : W p l e R s m args below meth c H locs 0 0 Q (F0 m 55 ls []) := by
  refine Lim_ind hL (P := fun u => ∀ (H : Heap) (locs : List Loc) (ls : Array Slot), Wd 0 D cy ad s u.2.2.2 H locs → lv_has ls 7 [(0, .ref (ad (0))), (1, .int u.1), (2, .int u.2.1), (3, .int u.2.2.1)] → W p l e R s m args below meth c H locs 0 0 Q (F0 m 55 ls [])) (fun u x h hx H locs ls hw hl => ?_) H locs ls hw hl
  clear hL
  obtain ⟨v1, v2, v3, σ⟩ := u
  have h : b_X9_costAll_55 v1 v2 v3 σ = some x := h
  have hw : Wd 0 D cy ad s σ H locs := hw
  have hl : lv_has ls 7 [(0, .ref (ad (0))), (1, .int v1), (2, .int v2), (3, .int v3)] := hl
  have hP : ∀ (u : (Int32 × Int32 × Int32 × Mem)), (∀ (H : Heap) (locs : List Loc) (ls : Array Slot), Wd 0 D cy ad s u.2.2.2 H locs → lv_has ls 7 [(0, .ref (ad (0))), (1, .int u.1), (2, .int u.2.1), (3, .int u.2.2.1)] → W p l e R s m args below meth c H locs 0 0 Q (F0 m 55 ls [])) → ∀ (H : Heap) (locs : List Loc) (ls : Array Slot), Wd 0 D cy ad s u.2.2.2 H locs → lv_has ls 7 [(0, .ref (ad (0))), (1, .int u.1), (2, .int u.2.1), (3, .int u.2.2.1)] → W p l e R s m args below meth c H locs 0 0 Q (F0 m 55 ls []) := fun _ k => k
  unfold b_X9_costAll_55 at h
  refine lv_iload_n C.1 C.2.1 dX9_costAll_55 rfl (lv_at hl 3 rfl) ?_
  refine lv_aload_n C.1 C.2.1 dX9_costAll_56 rfl (lv_at hl 0 rfl) ?_
  refine gf_X9_13 C hw dX9_costAll_57 ?_
  refine lv_iconst (v := (0 : Int32)) C.1 C.2.1 dX9_costAll_60 (by decide) ?_
  have hin : vp_in (0 : Int32) 2 := (by decide : ix (0 : Int32) 2)
  refine m_iald C hw a0_2 hin dX9_costAll_61 ?_
  refine lv_icmp_ge (tgt := 268) C.1 C.2.1 dX9_costAll_62 (by decide) (fun cd => ?_) (fun cd => ?_)
  · have h := ite_t cd h
    obtain rfl := Option.some.inj h
    exact hE0 _ _ hx _ _ _ hw (lv_sub hl [0, 1] rfl)
  · have h := ite_f cd h
    refine lv_aload_n C.1 C.2.1 dX9_costAll_65 rfl (lv_at hl 0 rfl) ?_
    refine gf_X9_29 C hw dX9_costAll_66 ?_
    refine lv_iconst (v := (0 : Int32)) C.1 C.2.1 dX9_costAll_69 (by decide) ?_
    have hin : vp_in (0 : Int32) 102 := (by decide : ix (0 : Int32) 102)
    refine m_iald C hw a0_7 hin dX9_costAll_70 ?_
    refine lv_iload_n C.1 C.2.1 dX9_costAll_71 rfl (lv_at hl 3 rfl) ?_
    refine go_I hw (run_S (As := [.int _, .int _]) C hw (c_X9_has C.2.2.2.2.2.2.2.2.2 _ _ _) mi_X9_has ms_X9_has lk_X9_145 (by decide) (by decide) rfl hl.1 rfl (Nat.le_of_ble_eq_true rfl) dX9_costAll_72 ⟨Nat.le_refl 0, Nat.le_refl 0⟩) (fun H locs hw => ?_)
    refine lv_if_eq (tgt := 121) C.1 C.2.1 dX9_costAll_75 (by decide) (fun cd => ?_) (fun cd => ?_)
    · have h := ite_t cd h
      exact w_X9_costAll_121 C hx hP hE0 hw (lv_sub hl [0, 1, 2, 3] rfl) h
    · have h := ite_f cd h
      refine lv_aload_n C.1 C.2.1 dX9_costAll_78 rfl (lv_at hl 0 rfl) ?_
      refine gf_X9_17 C hw dX9_costAll_79 ?_
      refine lv_iload_n C.1 C.2.1 dX9_costAll_82 rfl (lv_at hl 3 rfl) ?_
      obtain ⟨hin, h⟩ := gd_of h
      refine m_iald C hw a0_3 hin dX9_costAll_83 ?_
      refine go_I hw (run_S (As := [.int _]) C hw (c_X9_armsOf C.2.2.2.2.2.2.2.2.2 _ _) mi_X9_armsOf ms_X9_armsOf lk_X9_125 (by decide) (by decide) rfl hl.1 rfl (Nat.le_of_ble_eq_true rfl) dX9_costAll_84 ⟨Nat.le_refl 0, Nat.le_refl 0⟩) (fun H locs hw => ?_)
      refine lv_iload_n C.1 C.2.1 dX9_costAll_87 rfl (lv_at hl 2 rfl) ?_
      refine lv_icmp_ne (tgt := 121) C.1 C.2.1 dX9_costAll_88 (by decide) (fun cd => ?_) (fun cd => ?_)
      · have h := ite_f cd h
        exact w_X9_costAll_121 C hx hP hE0 hw (lv_sub hl [0, 1, 2, 3] rfl) h
      · have h := ite_t cd h
        refine lv_aload_n C.1 C.2.1 dX9_costAll_91 rfl (lv_at hl 0 rfl) ?_
        refine gf_X9_52 C hw dX9_costAll_92 ?_
        refine lv_iload_n C.1 C.2.1 dX9_costAll_95 rfl (lv_at hl 1 rfl) ?_
        obtain ⟨hin, h⟩ := gd_of h
        refine m_iald C hw a0_14 hin dX9_costAll_96 ?_
        refine lv_bipush (v := (-9 : Int32)) C.1 C.2.1 dX9_costAll_97 (by decide) ?_
        refine lv_icmp_eq (tgt := 117) C.1 C.2.1 dX9_costAll_99 (by decide) (fun cd => ?_) (fun cd => ?_)
        · have h := ite_t cd h
          exact w_X9_costAll_117 C hx hP hE0 hw (lv_sub hl [0, 1, 2, 3] rfl) h
        · have h := ite_f cd h
          refine lv_aload_n C.1 C.2.1 dX9_costAll_102 rfl (lv_at hl 0 rfl) ?_
          refine gf_X9_52 C hw dX9_costAll_103 ?_
          refine lv_iload_n C.1 C.2.1 dX9_costAll_106 rfl (lv_at hl 1 rfl) ?_
          obtain ⟨hin, h⟩ := gd_of h
          refine m_iald C hw a0_14 hin dX9_costAll_107 ?_
          refine lv_aload_n C.1 C.2.1 dX9_costAll_108 rfl (lv_at hl 0 rfl) ?_
          refine gf_X9_17 C hw dX9_costAll_109 ?_
          refine lv_iload_n C.1 C.2.1 dX9_costAll_112 rfl (lv_at hl 3 rfl) ?_
          obtain ⟨hin, h⟩ := gd_of h
          refine m_iald C hw a0_3 hin dX9_costAll_113 ?_
          refine lv_icmp_ne (tgt := 121) C.1 C.2.1 dX9_costAll_114 (by decide) (fun cd => ?_) (fun cd => ?_)
          · have h := ite_f cd h
            exact w_X9_costAll_121 C hx hP hE0 hw (lv_sub hl [0, 1, 2, 3] rfl) h
          · have h := ite_t cd h
            exact w_X9_costAll_117 C hx hP hE0 hw (lv_sub hl [0, 1, 2, 3] rfl) h
set_option maxRecDepth 20000 in
theorem w_X9_costAll_9 {D : va_G} {cy : Nat → ClassId} {ad : Nat → Nat} {p : Program} {l : Launch} {e : Env} {R : Room} {s : State} {m : MethodId} {args : Array Value} {below : List Frame} {meth : Method} {c : Code} (C : Cx 0 D cy ad p R s m args meth c cX9_costAll 7 RX9 (some .int) 1)   {v1 : Int32} {σ : Mem} {Q : State → Prop} {r : Mem} (hL : Lim (T := Mem) (fun s => b_X9_costAll_9 s.1 s.2) (v1, σ) = some r) (hE0 : ∀ (σ1 : Mem), (σ1 : Mem) = r → ∀ (H : Heap) (locs : List Loc) (ls : Array Slot), Wd 0 D cy ad s σ1 H locs → lv_has ls 7 [(0, .ref (ad (0)))] → W p l e R s m args below meth c H locs 0 0 Q (F0 m 274 ls [])) (H : Heap) (locs : List Loc) (ls : Array Slot) (hw : Wd 0 D cy ad s σ H locs) (hl : lv_has ls 7 [(0, .ref (ad (0))), (1, .int v1)]) : W p l e R s m args below meth c H locs 0 0 Q (F0 m 9 ls []) := by
  refine Lim_ind hL (P := fun u => ∀ (H : Heap) (locs : List Loc) (ls : Array Slot), Wd 0 D cy ad s u.2 H locs → lv_has ls 7 [(0, .ref (ad (0))), (1, .int u.1)] → W p l e R s m args below meth c H locs 0 0 Q (F0 m 9 ls [])) (fun u x h hx H locs ls hw hl => ?_) H locs ls hw hl
  clear hL
  obtain ⟨v1, σ⟩ := u
  have h : b_X9_costAll_9 v1 σ = some x := h
  have hw : Wd 0 D cy ad s σ H locs := hw
  have hl : lv_has ls 7 [(0, .ref (ad (0))), (1, .int v1)] := hl
  have hP : ∀ (u : (Int32 × Mem)), (∀ (H : Heap) (locs : List Loc) (ls : Array Slot), Wd 0 D cy ad s u.2 H locs → lv_has ls 7 [(0, .ref (ad (0))), (1, .int u.1)] → W p l e R s m args below meth c H locs 0 0 Q (F0 m 9 ls [])) → ∀ (H : Heap) (locs : List Loc) (ls : Array Slot), Wd 0 D cy ad s u.2 H locs → lv_has ls 7 [(0, .ref (ad (0))), (1, .int u.1)] → W p l e R s m args below meth c H locs 0 0 Q (F0 m 9 ls []) := fun _ k => k
  unfold b_X9_costAll_9 at h
  refine lv_iload_n C.1 C.2.1 dX9_costAll_9 rfl (lv_at hl 1 rfl) ?_
  refine lv_if_lt (tgt := 274) C.1 C.2.1 dX9_costAll_10 (by decide) (fun cd => ?_) (fun cd => ?_)
  · have h := ite_t cd h
    obtain rfl := Option.some.inj h
    exact hE0 _ hx _ _ _ hw (lv_sub hl [0] rfl)
  · have h := ite_f cd h
    refine lv_aload_n C.1 C.2.1 dX9_costAll_13 rfl (lv_at hl 0 rfl) ?_
    refine gf_X9_29 C hw dX9_costAll_14 ?_
    refine lv_iconst (v := (3 : Int32)) C.1 C.2.1 dX9_costAll_17 (by decide) ?_
    refine lv_iload_n C.1 C.2.1 dX9_costAll_18 rfl (lv_at hl 1 rfl) ?_
    refine lv_iadd C.1 C.2.1 dX9_costAll_19 ?_
    obtain ⟨hin, h⟩ := gd_of h
    refine m_iald C hw a0_7 hin dX9_costAll_20 ?_
    refine go_I hw (run_S (As := [.int _]) C hw (c_X9_armsOf C.2.2.2.2.2.2.2.2.2 _ _) mi_X9_armsOf ms_X9_armsOf lk_X9_125 (by decide) (by decide) rfl hl.1 rfl (Nat.le_of_ble_eq_true rfl) dX9_costAll_21 ⟨Nat.le_refl 0, Nat.le_refl 0⟩) (fun H locs hw => ?_)
    obtain ⟨x2, ex2, h⟩ := lt_of h
    refine m_topi ex2 ?_
    refine lv_istore_n (lv' := [(2, .int _), (0, .ref _), (1, .int _)]) C.1 C.2.1 dX9_costAll_24 rfl hl (by decide) rfl (fun ls hl => ?_)
    refine lv_iconst (v := (0 : Int32)) C.1 C.2.1 dX9_costAll_25 (by decide) ?_
    refine lv_istore_n (lv' := [(3, .int _), (2, .int _), (0, .ref _), (1, .int _)]) C.1 C.2.1 dX9_costAll_26 rfl hl (by decide) rfl (fun ls hl => ?_)
    obtain ⟨r5, hL, h⟩ := bS h
    refine w_X9_costAll_27 C  hL (fun y0 y1 y2 hr H locs ls hw hl => ?_) _ _ _ hw (lv_sub hl [2, 3, 1, 0] rfl)
    · subst hr
      try dsimp only at h
      try dsimp only at hw
      try dsimp only at hl
      refine lv_iconst (v := (0 : Int32)) C.1 C.2.1 dX9_costAll_53 (by decide) ?_
      refine lv_istore_n (lv' := [(3, .int _), (0, .ref _), (1, .int _), (2, .int _)]) C.1 C.2.1 dX9_costAll_54 rfl hl (by decide) rfl (fun ls hl => ?_)
      obtain ⟨r12, hL, h⟩ := bS h
      refine w_X9_costAll_55 C  hL (fun y0 y1 hr H locs ls hw hl => ?_) _ _ _ hw (lv_sub hl [1, 2, 3, 0] rfl)
      · subst hr
        try dsimp only at h
        try dsimp only at hw
        try dsimp only at hl
        obtain ⟨x13, ex13, h⟩ := lt_of h
        refine m_iinc (k := 1) (lv' := [(1, .int _), (0, .ref _)]) C (-1 : Int32) (by decide) dX9_costAll_268 hl rfl ex13.symm (by decide) rfl (fun ls hl => ?_)
        refine lv_goto (tgt := 9) C.1 C.2.1 dX9_costAll_271 (by decide) ?_
        obtain rfl := Option.some.inj h
        exact hP _ hx _ _ _ hw (lv_sub hl [1, 0] rfl)
set_option maxRecDepth 20000 in
theorem w_X9_costAll_319 {D : va_G} {cy : Nat → ClassId} {ad : Nat → Nat} {p : Program} {l : Launch} {e : Env} {R : Room} {s : State} {m : MethodId} {args : Array Value} {below : List Frame} {meth : Method} {c : Code} (C : Cx 0 D cy ad p R s m args meth c cX9_costAll 7 RX9 (some .int) 1)   {z0 : Int32} {v2 : Int32}  {σ : Mem} {H : Heap} {locs : List Loc} {ls : Array Slot} {Q : State → Prop} {P : (Int32 × Int32) → Prop} {r : Int32} {x : (Int32 × Int32) ⊕ Int32} (hx : LimQ P r x) (hP : ∀ u, P u → ∀ (H : Heap) (locs : List Loc) (ls : Array Slot), Wd 0 D cy ad s σ H locs → lv_has ls 7 [(0, .ref (ad (0))), (1, .int u.1), (2, .int u.2)] → W p l e R s m args below meth c H locs 0 0 Q (F0 m 280 ls [])) (hE0 : ∀ (v1 : Int32), (v1 : Int32) = r → ∀ (H : Heap) (locs : List Loc) (ls : Array Slot), Wd 0 D cy ad s σ H locs → lv_has ls 7 [(1, .int v1)] → W p l e R s m args below meth c H locs 0 0 Q (F0 m 326 ls [])) (hw : Wd 0 D cy ad s σ H locs) (hl : lv_has ls 7 [(0, .ref (ad (0))), (2, .int v2)]) (h : j_X9_costAll_319 z0 v2 σ = some x) : W p l e R s m args below meth c H locs 0 0 Q (F0 m 319 ls [.int z0]) := by
  unfold j_X9_costAll_319 at h
  refine lv_istore_n (lv' := [(1, .int _), (0, .ref _), (2, .int _)]) C.1 C.2.1 dX9_costAll_319 rfl hl (by decide) rfl (fun ls hl => ?_)
  obtain ⟨x15, ex15, h⟩ := lt_of h
  refine m_iinc (k := 2) (lv' := [(2, .int _), (1, .int _), (0, .ref _)]) C (1 : Int32) (by decide) dX9_costAll_320 hl rfl ex15.symm (by decide) rfl (fun ls hl => ?_)
  refine lv_goto (tgt := 280) C.1 C.2.1 dX9_costAll_323 (by decide) ?_
  obtain rfl := Option.some.inj h
  exact hP _ hx _ _ _ hw (lv_sub hl [2, 1, 0] rfl)
set_option maxRecDepth 20000 in
theorem w_X9_costAll_318 {D : va_G} {cy : Nat → ClassId} {ad : Nat → Nat} {p : Program} {l : Launch} {e : Env} {R : Room} {s : State} {m : MethodId} {args : Array Value} {below : List Frame} {meth : Method} {c : Code} (C : Cx 0 D cy ad p R s m args meth c cX9_costAll 7 RX9 (some .int) 1)   {v1 : Int32} {v2 : Int32}  {σ : Mem} {H : Heap} {locs : List Loc} {ls : Array Slot} {Q : State → Prop} {P : (Int32 × Int32) → Prop} {r : Int32} {x : (Int32 × Int32) ⊕ Int32} (hx : LimQ P r x) (hP : ∀ u, P u → ∀ (H : Heap) (locs : List Loc) (ls : Array Slot), Wd 0 D cy ad s σ H locs → lv_has ls 7 [(0, .ref (ad (0))), (1, .int u.1), (2, .int u.2)] → W p l e R s m args below meth c H locs 0 0 Q (F0 m 280 ls [])) (hE0 : ∀ (v1 : Int32), (v1 : Int32) = r → ∀ (H : Heap) (locs : List Loc) (ls : Array Slot), Wd 0 D cy ad s σ H locs → lv_has ls 7 [(1, .int v1)] → W p l e R s m args below meth c H locs 0 0 Q (F0 m 326 ls [])) (hw : Wd 0 D cy ad s σ H locs) (hl : lv_has ls 7 [(0, .ref (ad (0))), (1, .int v1), (2, .int v2)]) (h : j_X9_costAll_318 v1 v2 σ = some x) : W p l e R s m args below meth c H locs 0 0 Q (F0 m 318 ls []) := by
  unfold j_X9_costAll_318 at h
  refine lv_iload_n C.1 C.2.1 dX9_costAll_318 rfl (lv_at hl 1 rfl) ?_
  exact w_X9_costAll_319 C hx hP hE0 hw (lv_sub hl [0, 2] rfl) h
set_option maxRecDepth 20000 in
theorem w_X9_costAll_280 {D : va_G} {cy : Nat → ClassId} {ad : Nat → Nat} {p : Program} {l : Launch} {e : Env} {R : Room} {s : State} {m : MethodId} {args : Array Value} {below : List Frame} {meth : Method} {c : Code} (C : Cx 0 D cy ad p R s m args meth c cX9_costAll 7 RX9 (some .int) 1)   {v1 : Int32} {v2 : Int32} {σ : Mem} {Q : State → Prop} {r : Int32} (hL : Lim (T := Int32) (fun s => b_X9_costAll_280 s.1 s.2 σ) (v1, v2) = some r) (hE0 : ∀ (v1 : Int32), (v1 : Int32) = r → ∀ (H : Heap) (locs : List Loc) (ls : Array Slot), Wd 0 D cy ad s σ H locs → lv_has ls 7 [(1, .int v1)] → W p l e R s m args below meth c H locs 0 0 Q (F0 m 326 ls [])) (H : Heap) (locs : List Loc) (ls : Array Slot) (hw : Wd 0 D cy ad s σ H locs) (hl : lv_has ls 7 [(0, .ref (ad (0))), (1, .int v1), (2, .int v2)]) : W p l e R s m args below meth c H locs 0 0 Q (F0 m 280 ls []) := by
  refine Lim_ind hL (P := fun u => ∀ (H : Heap) (locs : List Loc) (ls : Array Slot), Wd 0 D cy ad s σ H locs → lv_has ls 7 [(0, .ref (ad (0))), (1, .int u.1), (2, .int u.2)] → W p l e R s m args below meth c H locs 0 0 Q (F0 m 280 ls [])) (fun u x h hx H locs ls hw hl => ?_) H locs ls hw hl
  clear hL
  obtain ⟨v1, v2⟩ := u
  have h : b_X9_costAll_280 v1 v2 σ = some x := h
  have hw : Wd 0 D cy ad s σ H locs := hw
  have hl : lv_has ls 7 [(0, .ref (ad (0))), (1, .int v1), (2, .int v2)] := hl
  have hP : ∀ (u : (Int32 × Int32)), (∀ (H : Heap) (locs : List Loc) (ls : Array Slot), Wd 0 D cy ad s σ H locs → lv_has ls 7 [(0, .ref (ad (0))), (1, .int u.1), (2, .int u.2)] → W p l e R s m args below meth c H locs 0 0 Q (F0 m 280 ls [])) → ∀ (H : Heap) (locs : List Loc) (ls : Array Slot), Wd 0 D cy ad s σ H locs → lv_has ls 7 [(0, .ref (ad (0))), (1, .int u.1), (2, .int u.2)] → W p l e R s m args below meth c H locs 0 0 Q (F0 m 280 ls []) := fun _ k => k
  unfold b_X9_costAll_280 at h
  refine lv_iload_n C.1 C.2.1 dX9_costAll_280 rfl (lv_at hl 2 rfl) ?_
  refine lv_bipush (v := (6 : Int32)) C.1 C.2.1 dX9_costAll_281 (by decide) ?_
  refine lv_icmp_ge (tgt := 326) C.1 C.2.1 dX9_costAll_283 (by decide) (fun cd => ?_) (fun cd => ?_)
  · have h := ite_t cd h
    obtain rfl := Option.some.inj h
    exact hE0 _ hx _ _ _ hw (lv_sub hl [1] rfl)
  · have h := ite_f cd h
    refine lv_aload_n C.1 C.2.1 dX9_costAll_286 rfl (lv_at hl 0 rfl) ?_
    refine gf_X9_29 C hw dX9_costAll_287 ?_
    refine lv_iconst (v := (1 : Int32)) C.1 C.2.1 dX9_costAll_290 (by decide) ?_
    have hin : vp_in (1 : Int32) 102 := (by decide : ix (1 : Int32) 102)
    refine m_iald C hw a0_7 hin dX9_costAll_291 ?_
    refine lv_iload_n C.1 C.2.1 dX9_costAll_292 rfl (lv_at hl 2 rfl) ?_
    refine go_I hw (run_S (As := [.int _, .int _]) C hw (c_X9_has C.2.2.2.2.2.2.2.2.2 _ _ _) mi_X9_has ms_X9_has lk_X9_145 (by decide) (by decide) rfl hl.1 rfl (Nat.le_of_ble_eq_true rfl) dX9_costAll_293 ⟨Nat.le_refl 0, Nat.le_refl 0⟩) (fun H locs hw => ?_)
    refine lv_if_eq (tgt := 318) C.1 C.2.1 dX9_costAll_296 (by decide) (fun cd => ?_) (fun cd => ?_)
    · have h := ite_t cd h
      exact w_X9_costAll_318 C hx hP hE0 hw (lv_sub hl [0, 1, 2] rfl) h
    · have h := ite_f cd h
      refine lv_aload_n C.1 C.2.1 dX9_costAll_299 rfl (lv_at hl 0 rfl) ?_
      refine gf_X9_49 C hw dX9_costAll_300 ?_
      refine lv_iload_n C.1 C.2.1 dX9_costAll_303 rfl (lv_at hl 2 rfl) ?_
      obtain ⟨hin, h⟩ := gd_of h
      refine m_iald C hw a0_13 hin dX9_costAll_304 ?_
      refine lv_iload_n C.1 C.2.1 dX9_costAll_305 rfl (lv_at hl 1 rfl) ?_
      refine lv_icmp_ge (tgt := 318) C.1 C.2.1 dX9_costAll_306 (by decide) (fun cd => ?_) (fun cd => ?_)
      · have h := ite_t cd h
        exact w_X9_costAll_318 C hx hP hE0 hw (lv_sub hl [0, 1, 2] rfl) h
      · have h := ite_f cd h
        refine lv_aload_n C.1 C.2.1 dX9_costAll_309 rfl (lv_at hl 0 rfl) ?_
        refine gf_X9_49 C hw dX9_costAll_310 ?_
        refine lv_iload_n C.1 C.2.1 dX9_costAll_313 rfl (lv_at hl 2 rfl) ?_
        obtain ⟨hin, h⟩ := gd_of h
        refine m_iald C hw a0_13 hin dX9_costAll_314 ?_
        refine lv_goto (tgt := 319) C.1 C.2.1 dX9_costAll_315 (by decide) ?_
        exact w_X9_costAll_319 C hx hP hE0 hw (lv_sub hl [0, 2] rfl) h
set_option maxRecDepth 20000 in
theorem c_X9_costAll {l : Launch} {D : va_G} {cy : Nat → ClassId} {ad : Nat → Nat} (hj : InjW 0 ad)   (σ : Mem) (r : (Int32 × Mem)) (h : f_X9_costAll σ = some r) : CI 0 D cy ad l yX9_costAll cX9_costAll 7 (some .int) 1 [.ref (ad (0))] σ r.1 r.2 := by
  refine CI.mk (by decide) hj (Nat.le_of_ble_eq_true rfl) (fun p e R s m below meth c ls C hw hl => ?_)
  have hl : lv_has ls 7 [(0, .ref (ad (0)))] := hl
  generalize ([.ref (ad (0))] : List Value).toArray = args at C ⊢
  have C : Cx 0 D cy ad p R s m args meth c cX9_costAll 7 RX9 (some .int) 1 := C
  unfold f_X9_costAll at h
  refine lv_aload_n C.1 C.2.1 dX9_costAll_0 rfl (lv_at hl 0 rfl) ?_
  refine gf_X9_29 C hw dX9_costAll_1 ?_
  refine lv_iconst (v := (2 : Int32)) C.1 C.2.1 dX9_costAll_4 (by decide) ?_
  have hin : vp_in (2 : Int32) 102 := (by decide : ix (2 : Int32) 102)
  refine m_iald C hw a0_7 hin dX9_costAll_5 ?_
  refine lv_iconst (v := (1 : Int32)) C.1 C.2.1 dX9_costAll_6 (by decide) ?_
  refine lv_isub C.1 C.2.1 dX9_costAll_7 ?_
  obtain ⟨x1, ex1, h⟩ := lt_of h
  refine m_topi ex1 ?_
  refine lv_istore_n (lv' := [(1, .int _), (0, .ref _)]) C.1 C.2.1 dX9_costAll_8 rfl hl (by decide) rfl (fun ls hl => ?_)
  obtain ⟨r14, hL, h⟩ := bS h
  refine w_X9_costAll_9 C  hL (fun y0 hr H locs ls hw hl => ?_) _ _ _ hw (lv_sub hl [1, 0] rfl)
  · subst hr
    try dsimp only at h
    try dsimp only at hw
    try dsimp only at hl
    refine lv_sipush (v := (999 : Int32)) C.1 C.2.1 dX9_costAll_274 (by decide) ?_
    refine lv_istore_n (lv' := [(1, .int _), (0, .ref _)]) C.1 C.2.1 dX9_costAll_277 rfl hl (by decide) rfl (fun ls hl => ?_)
    refine lv_iconst (v := (0 : Int32)) C.1 C.2.1 dX9_costAll_278 (by decide) ?_
    refine lv_istore_n (lv' := [(2, .int _), (1, .int _), (0, .ref _)]) C.1 C.2.1 dX9_costAll_279 rfl hl (by decide) rfl (fun ls hl => ?_)
    obtain ⟨r16, hL, h⟩ := bS h
    refine w_X9_costAll_280 C  hL (fun y0 hr H locs ls hw hl => ?_) _ _ _ hw (lv_sub hl [2, 1, 0] rfl)
    · subst hr
      try dsimp only at h
      try dsimp only at hw
      try dsimp only at hl
      refine lv_iload_n C.1 C.2.1 dX9_costAll_326 rfl (lv_at hl 0 rfl) ?_
      exact m_iret C hw (ret_p h) dX9_costAll_327
noncomputable def b_X9_mend_36 (a1 : Int32) (v2 : Int32) (σ : Mem) : Option ((Int32 × Mem) ⊕ Mem) :=
  if (31 : Int32) ≤ v2 then (some (.inr σ)) else (gd (ix v2 31) (lt (sI σ 14 v2.toNatClampNeg (-9 : Int32)) (fun σ2 => lt (v2 + (1 : Int32)) (fun x3 => some (.inl (x3, σ2))))))
noncomputable def j_X9_mend_116 (a1 : Int32) (v2 : Int32) (v3 : Int32) (σ : Mem) : Option ((Int32 × Int32 × Mem) ⊕ (Int32 × Int32 × Mem)) :=
  gd (ix v3 31) (gd (ix v3 31) (lt (sI σ 14 v3.toNatClampNeg ((σ.1 14 v3.toNatClampNeg) + (1 : Int32))) (fun σ8 => some (.inl (v2, v3, σ8)))))
noncomputable def b_X9_mend_85 (a1 : Int32) (v2 : Int32) (v3 : Int32) (σ : Mem) : Option ((Int32 × Int32 × Mem) ⊕ (Int32 × Int32 × Mem)) :=
  gd (ix v3 31) (gd (ix ((3 : Int32) + v3) 102) (if (f_X9_armsOf (σ.1 14 v3.toNatClampNeg)) = (f_X9_armsOf (σ.1 7 ((3 : Int32) + v3).toNatClampNeg)) then ((f_X9_costAll σ).bind (fun r9 => if r9.1 = v2 then (some (.inr (v2, v3, r9.2))) else (j_X9_mend_116 a1 v2 v3 r9.2))) else (j_X9_mend_116 a1 v2 v3 σ)))
noncomputable def b_X9_mend_73 (a1 : Int32) (v2 : Int32) (v3 : Int32) (σ : Mem) : Option ((Int32 × Int32 × Mem) ⊕ (Int32 × Mem)) :=
  if a1 < v3 then (some (.inr (v2, σ))) else (gd (ix v3 31) (lt (sI σ 14 v3.toNatClampNeg (0 : Int32)) (fun σ7 => (Lim (T := (Int32 × Int32 × Mem)) (fun s => b_X9_mend_85 a1 s.1 s.2.1 s.2.2) (v2, v3, σ7)).bind (fun r10 => lt (r10.2.1 + (1 : Int32)) (fun x11 => some (.inl (r10.1, x11, r10.2.2)))))))
noncomputable def f_X9_mend (a1 : Int32) (σ : Mem) : Option (Int32 × Mem) :=
  if (f_X9_in a1 (-1 : Int32) ((σ.1 7 (2 : Int32).toNatClampNeg) - (1 : Int32))) = 0 then (some ((-1 : Int32), σ)) else (if (σ.1 7 (2 : Int32).toNatClampNeg) = 0 then (some ((-2 : Int32), σ)) else ((f_X9_findParts σ).bind (fun r1 => (Lim (T := Mem) (fun s => b_X9_mend_36 a1 s.1 s.2) ((0 : Int32), r1)).bind (fun r4 => (f_X9_costAll r4).bind (fun r5 => lt r5.1 (fun x6 => if x6 < (999 : Int32) then ((Lim (T := (Int32 × Mem)) (fun s => b_X9_mend_73 a1 s.1 s.2.1 s.2.2) (x6, (0 : Int32), r5.2)).bind (fun r12 => if 0 ≤ a1 then (gd (ix a1 31) (some (r12.2.1 14 a1.toNatClampNeg, r12.2))) else (some (r12.1, r12.2)))) else (some ((-9 : Int32), r5.2))))))))
set_option maxRecDepth 20000 in
theorem w_X9_mend_36 {D : va_G} {cy : Nat → ClassId} {ad : Nat → Nat} {p : Program} {l : Launch} {e : Env} {R : Room} {s : State} {m : MethodId} {args : Array Value} {below : List Frame} {meth : Method} {c : Code} (C : Cx 0 D cy ad p R s m args meth c cX9_mend 4 RX9 (some .int) 2) {a1 : Int32}  {v2 : Int32} {σ : Mem} {Q : State → Prop} {r : Mem} (hL : Lim (T := Mem) (fun s => b_X9_mend_36 a1 s.1 s.2) (v2, σ) = some r) (hE0 : ∀ (σ1 : Mem), (σ1 : Mem) = r → ∀ (H : Heap) (locs : List Loc) (ls : Array Slot), Wd 0 D cy ad s σ1 H locs → lv_has ls 4 [(0, .ref (ad (0))), (1, .int a1)] → W p l e R s m args below meth c H locs 0 0 Q (F0 m 56 ls [])) (H : Heap) (locs : List Loc) (ls : Array Slot) (hw : Wd 0 D cy ad s σ H locs) (hl : lv_has ls 4 [(0, .ref (ad (0))), (1, .int a1), (2, .int v2)]) : W p l e R s m args below meth c H locs 0 0 Q (F0 m 36 ls []) := by
  refine Lim_ind hL (P := fun u => ∀ (H : Heap) (locs : List Loc) (ls : Array Slot), Wd 0 D cy ad s u.2 H locs → lv_has ls 4 [(0, .ref (ad (0))), (1, .int a1), (2, .int u.1)] → W p l e R s m args below meth c H locs 0 0 Q (F0 m 36 ls [])) (fun u x h hx H locs ls hw hl => ?_) H locs ls hw hl
  clear hL
  obtain ⟨v2, σ⟩ := u
  have h : b_X9_mend_36 a1 v2 σ = some x := h
  have hw : Wd 0 D cy ad s σ H locs := hw
  have hl : lv_has ls 4 [(0, .ref (ad (0))), (1, .int a1), (2, .int v2)] := hl
  have hP : ∀ (u : (Int32 × Mem)), (∀ (H : Heap) (locs : List Loc) (ls : Array Slot), Wd 0 D cy ad s u.2 H locs → lv_has ls 4 [(0, .ref (ad (0))), (1, .int a1), (2, .int u.1)] → W p l e R s m args below meth c H locs 0 0 Q (F0 m 36 ls [])) → ∀ (H : Heap) (locs : List Loc) (ls : Array Slot), Wd 0 D cy ad s u.2 H locs → lv_has ls 4 [(0, .ref (ad (0))), (1, .int a1), (2, .int u.1)] → W p l e R s m args below meth c H locs 0 0 Q (F0 m 36 ls []) := fun _ k => k
  unfold b_X9_mend_36 at h
  refine lv_iload_n C.1 C.2.1 dX9_mend_36 rfl (lv_at hl 2 rfl) ?_
  refine lv_bipush (v := (31 : Int32)) C.1 C.2.1 dX9_mend_37 (by decide) ?_
  refine lv_icmp_ge (tgt := 56) C.1 C.2.1 dX9_mend_39 (by decide) (fun cd => ?_) (fun cd => ?_)
  · have h := ite_t cd h
    obtain rfl := Option.some.inj h
    exact hE0 _ hx _ _ _ hw (lv_sub hl [0, 1] rfl)
  · have h := ite_f cd h
    refine lv_aload_n C.1 C.2.1 dX9_mend_42 rfl (lv_at hl 0 rfl) ?_
    refine gf_X9_52 C hw dX9_mend_43 ?_
    refine lv_iload_n C.1 C.2.1 dX9_mend_46 rfl (lv_at hl 2 rfl) ?_
    refine lv_bipush (v := (-9 : Int32)) C.1 C.2.1 dX9_mend_47 (by decide) ?_
    obtain ⟨hin, h⟩ := gd_of h
    refine m_iast C hw a0_14 hin dX9_mend_49 (fun H locs hw => ?_)
    obtain ⟨σ2, eσ2, h⟩ := lt_of h
    rw [← eσ2] at hw
    obtain ⟨x3, ex3, h⟩ := lt_of h
    refine m_iinc (k := 2) (lv' := [(2, .int _), (0, .ref _), (1, .int _)]) C (1 : Int32) (by decide) dX9_mend_50 hl rfl ex3.symm (by decide) rfl (fun ls hl => ?_)
    refine lv_goto (tgt := 36) C.1 C.2.1 dX9_mend_53 (by decide) ?_
    obtain rfl := Option.some.inj h
    exact hP _ hx _ _ _ hw (lv_sub hl [1, 2, 0] rfl)
set_option maxRecDepth 20000 in
theorem w_X9_mend_116 {D : va_G} {cy : Nat → ClassId} {ad : Nat → Nat} {p : Program} {l : Launch} {e : Env} {R : Room} {s : State} {m : MethodId} {args : Array Value} {below : List Frame} {meth : Method} {c : Code} (C : Cx 0 D cy ad p R s m args meth c cX9_mend 4 RX9 (some .int) 2) {a1 : Int32}  {v2 : Int32} {v3 : Int32}  {σ : Mem} {H : Heap} {locs : List Loc} {ls : Array Slot} {Q : State → Prop} {P : (Int32 × Int32 × Mem) → Prop} {r : (Int32 × Int32 × Mem)} {x : (Int32 × Int32 × Mem) ⊕ (Int32 × Int32 × Mem)} (hx : LimQ P r x) (hP : ∀ u, P u → ∀ (H : Heap) (locs : List Loc) (ls : Array Slot), Wd 0 D cy ad s u.2.2 H locs → lv_has ls 4 [(0, .ref (ad (0))), (1, .int a1), (2, .int u.1), (3, .int u.2.1)] → W p l e R s m args below meth c H locs 0 0 Q (F0 m 85 ls [])) (hE0 : ∀ (v2 : Int32) (v3 : Int32) (σ1 : Mem), ((v2, v3, σ1) : (Int32 × Int32 × Mem)) = r → ∀ (H : Heap) (locs : List Loc) (ls : Array Slot), Wd 0 D cy ad s σ1 H locs → lv_has ls 4 [(0, .ref (ad (0))), (1, .int a1), (2, .int v2), (3, .int v3)] → W p l e R s m args below meth c H locs 0 0 Q (F0 m 129 ls [])) (hw : Wd 0 D cy ad s σ H locs) (hl : lv_has ls 4 [(0, .ref (ad (0))), (1, .int a1), (2, .int v2), (3, .int v3)]) (h : j_X9_mend_116 a1 v2 v3 σ = some x) : W p l e R s m args below meth c H locs 0 0 Q (F0 m 116 ls []) := by
  unfold j_X9_mend_116 at h
  refine lv_aload_n C.1 C.2.1 dX9_mend_116 rfl (lv_at hl 0 rfl) ?_
  refine gf_X9_52 C hw dX9_mend_117 ?_
  refine lv_iload_n C.1 C.2.1 dX9_mend_120 rfl (lv_at hl 3 rfl) ?_
  refine lv_dup2_11 C.1 C.2.1 dX9_mend_121 rfl rfl ?_
  obtain ⟨hin, h⟩ := gd_of h
  refine m_iald C hw a0_14 hin dX9_mend_122 ?_
  refine lv_iconst (v := (1 : Int32)) C.1 C.2.1 dX9_mend_123 (by decide) ?_
  refine lv_iadd C.1 C.2.1 dX9_mend_124 ?_
  obtain ⟨hin, h⟩ := gd_of h
  refine m_iast C hw a0_14 hin dX9_mend_125 (fun H locs hw => ?_)
  obtain ⟨σ8, eσ8, h⟩ := lt_of h
  rw [← eσ8] at hw
  refine lv_goto (tgt := 85) C.1 C.2.1 dX9_mend_126 (by decide) ?_
  obtain rfl := Option.some.inj h
  exact hP _ hx _ _ _ hw (lv_sub hl [0, 1, 2, 3] rfl)
set_option maxRecDepth 20000 in
theorem w_X9_mend_85 {D : va_G} {cy : Nat → ClassId} {ad : Nat → Nat} {p : Program} {l : Launch} {e : Env} {R : Room} {s : State} {m : MethodId} {args : Array Value} {below : List Frame} {meth : Method} {c : Code} (C : Cx 0 D cy ad p R s m args meth c cX9_mend 4 RX9 (some .int) 2) {a1 : Int32}  {v2 : Int32} {v3 : Int32} {σ : Mem} {Q : State → Prop} {r : (Int32 × Int32 × Mem)} (hL : Lim (T := (Int32 × Int32 × Mem)) (fun s => b_X9_mend_85 a1 s.1 s.2.1 s.2.2) (v2, v3, σ) = some r) (hE0 : ∀ (v2 : Int32) (v3 : Int32) (σ1 : Mem), ((v2, v3, σ1) : (Int32 × Int32 × Mem)) = r → ∀ (H : Heap) (locs : List Loc) (ls : Array Slot), Wd 0 D cy ad s σ1 H locs → lv_has ls 4 [(0, .ref (ad (0))), (1, .int a1), (2, .int v2), (3, .int v3)] → W p l e R s m args below meth c H locs 0 0 Q (F0 m 129 ls [])) (H : Heap) (locs : List Loc) (ls : Array Slot) (hw : Wd 0 D cy ad s σ H locs) (hl : lv_has ls 4 [(0, .ref (ad (0))), (1, .int a1), (2, .int v2), (3, .int v3)]) : W p l e R s m args below meth c H locs 0 0 Q (F0 m 85 ls []) := by
  refine Lim_ind hL (P := fun u => ∀ (H : Heap) (locs : List Loc) (ls : Array Slot), Wd 0 D cy ad s u.2.2 H locs → lv_has ls 4 [(0, .ref (ad (0))), (1, .int a1), (2, .int u.1), (3, .int u.2.1)] → W p l e R s m args below meth c H locs 0 0 Q (F0 m 85 ls [])) (fun u x h hx H locs ls hw hl => ?_) H locs ls hw hl
  clear hL
  obtain ⟨v2, v3, σ⟩ := u
  have h : b_X9_mend_85 a1 v2 v3 σ = some x := h
  have hw : Wd 0 D cy ad s σ H locs := hw
  have hl : lv_has ls 4 [(0, .ref (ad (0))), (1, .int a1), (2, .int v2), (3, .int v3)] := hl
  have hP : ∀ (u : (Int32 × Int32 × Mem)), (∀ (H : Heap) (locs : List Loc) (ls : Array Slot), Wd 0 D cy ad s u.2.2 H locs → lv_has ls 4 [(0, .ref (ad (0))), (1, .int a1), (2, .int u.1), (3, .int u.2.1)] → W p l e R s m args below meth c H locs 0 0 Q (F0 m 85 ls [])) → ∀ (H : Heap) (locs : List Loc) (ls : Array Slot), Wd 0 D cy ad s u.2.2 H locs → lv_has ls 4 [(0, .ref (ad (0))), (1, .int a1), (2, .int u.1), (3, .int u.2.1)] → W p l e R s m args below meth c H locs 0 0 Q (F0 m 85 ls []) := fun _ k => k
  unfold b_X9_mend_85 at h
  refine lv_aload_n C.1 C.2.1 dX9_mend_85 rfl (lv_at hl 0 rfl) ?_
  refine gf_X9_52 C hw dX9_mend_86 ?_
  refine lv_iload_n C.1 C.2.1 dX9_mend_89 rfl (lv_at hl 3 rfl) ?_
  obtain ⟨hin, h⟩ := gd_of h
  refine m_iald C hw a0_14 hin dX9_mend_90 ?_
  refine go_I hw (run_S (As := [.int _]) C hw (c_X9_armsOf C.2.2.2.2.2.2.2.2.2 _ _) mi_X9_armsOf ms_X9_armsOf lk_X9_125 (by decide) (by decide) rfl hl.1 rfl (Nat.le_of_ble_eq_true rfl) dX9_mend_91 ⟨Nat.le_refl 0, Nat.le_refl 0⟩) (fun H locs hw => ?_)
  refine lv_aload_n C.1 C.2.1 dX9_mend_94 rfl (lv_at hl 0 rfl) ?_
  refine gf_X9_29 C hw dX9_mend_95 ?_
  refine lv_iconst (v := (3 : Int32)) C.1 C.2.1 dX9_mend_98 (by decide) ?_
  refine lv_iload_n C.1 C.2.1 dX9_mend_99 rfl (lv_at hl 3 rfl) ?_
  refine lv_iadd C.1 C.2.1 dX9_mend_100 ?_
  obtain ⟨hin, h⟩ := gd_of h
  refine m_iald C hw a0_7 hin dX9_mend_101 ?_
  refine go_I hw (run_S (As := [.int _]) C hw (c_X9_armsOf C.2.2.2.2.2.2.2.2.2 _ _) mi_X9_armsOf ms_X9_armsOf lk_X9_125 (by decide) (by decide) rfl hl.1 rfl (Nat.le_of_ble_eq_true rfl) dX9_mend_102 ⟨Nat.le_refl 0, Nat.le_refl 0⟩) (fun H locs hw => ?_)
  refine lv_icmp_ne (tgt := 116) C.1 C.2.1 dX9_mend_105 (by decide) (fun cd => ?_) (fun cd => ?_)
  · have h := ite_f cd h
    exact w_X9_mend_116 C hx hP hE0 hw (lv_sub hl [0, 1, 2, 3] rfl) h
  · have h := ite_t cd h
    refine lv_aload_n C.1 C.2.1 dX9_mend_108 rfl (lv_at hl 0 rfl) ?_
    obtain ⟨r9, h1, h⟩ := bS h
    refine go_I hw (run_V (As := []) C hw (c_X9_costAll C.2.2.2.2.2.2.2.2.2 _ _ h1) mi_X9_costAll mv_X9_costAll o0_0 (ci := 9) rfl rfl lk_X9_167 (by decide) (by decide) rfl hl.1 rfl (Nat.le_of_ble_eq_true rfl) dX9_mend_109 ⟨Nat.le_refl 0, Nat.le_refl 0⟩) (fun H locs hw => ?_)
    refine lv_iload_n C.1 C.2.1 dX9_mend_112 rfl (lv_at hl 2 rfl) ?_
    refine lv_icmp_eq (tgt := 129) C.1 C.2.1 dX9_mend_113 (by decide) (fun cd => ?_) (fun cd => ?_)
    · have h := ite_t cd h
      obtain rfl := Option.some.inj h
      exact hE0 _ _ _ hx _ _ _ hw (lv_sub hl [0, 1, 2, 3] rfl)
    · have h := ite_f cd h
      exact w_X9_mend_116 C hx hP hE0 hw (lv_sub hl [0, 1, 2, 3] rfl) h
set_option maxRecDepth 20000 in
theorem w_X9_mend_73 {D : va_G} {cy : Nat → ClassId} {ad : Nat → Nat} {p : Program} {l : Launch} {e : Env} {R : Room} {s : State} {m : MethodId} {args : Array Value} {below : List Frame} {meth : Method} {c : Code} (C : Cx 0 D cy ad p R s m args meth c cX9_mend 4 RX9 (some .int) 2) {a1 : Int32}  {v2 : Int32} {v3 : Int32} {σ : Mem} {Q : State → Prop} {r : (Int32 × Mem)} (hL : Lim (T := (Int32 × Mem)) (fun s => b_X9_mend_73 a1 s.1 s.2.1 s.2.2) (v2, v3, σ) = some r) (hE0 : ∀ (v2 : Int32) (σ1 : Mem), ((v2, σ1) : (Int32 × Mem)) = r → ∀ (H : Heap) (locs : List Loc) (ls : Array Slot), Wd 0 D cy ad s σ1 H locs → lv_has ls 4 [(0, .ref (ad (0))), (1, .int a1), (2, .int v2)] → W p l e R s m args below meth c H locs 0 0 Q (F0 m 135 ls [])) (H : Heap) (locs : List Loc) (ls : Array Slot) (hw : Wd 0 D cy ad s σ H locs) (hl : lv_has ls 4 [(0, .ref (ad (0))), (1, .int a1), (2, .int v2), (3, .int v3)]) : W p l e R s m args below meth c H locs 0 0 Q (F0 m 73 ls []) := by
  refine Lim_ind hL (P := fun u => ∀ (H : Heap) (locs : List Loc) (ls : Array Slot), Wd 0 D cy ad s u.2.2 H locs → lv_has ls 4 [(0, .ref (ad (0))), (1, .int a1), (2, .int u.1), (3, .int u.2.1)] → W p l e R s m args below meth c H locs 0 0 Q (F0 m 73 ls [])) (fun u x h hx H locs ls hw hl => ?_) H locs ls hw hl
  clear hL
  obtain ⟨v2, v3, σ⟩ := u
  have h : b_X9_mend_73 a1 v2 v3 σ = some x := h
  have hw : Wd 0 D cy ad s σ H locs := hw
  have hl : lv_has ls 4 [(0, .ref (ad (0))), (1, .int a1), (2, .int v2), (3, .int v3)] := hl
  have hP : ∀ (u : (Int32 × Int32 × Mem)), (∀ (H : Heap) (locs : List Loc) (ls : Array Slot), Wd 0 D cy ad s u.2.2 H locs → lv_has ls 4 [(0, .ref (ad (0))), (1, .int a1), (2, .int u.1), (3, .int u.2.1)] → W p l e R s m args below meth c H locs 0 0 Q (F0 m 73 ls [])) → ∀ (H : Heap) (locs : List Loc) (ls : Array Slot), Wd 0 D cy ad s u.2.2 H locs → lv_has ls 4 [(0, .ref (ad (0))), (1, .int a1), (2, .int u.1), (3, .int u.2.1)] → W p l e R s m args below meth c H locs 0 0 Q (F0 m 73 ls []) := fun _ k => k
  unfold b_X9_mend_73 at h
  refine lv_iload_n C.1 C.2.1 dX9_mend_73 rfl (lv_at hl 3 rfl) ?_
  refine lv_iload_n C.1 C.2.1 dX9_mend_74 rfl (lv_at hl 1 rfl) ?_
  refine lv_icmp_gt (tgt := 135) C.1 C.2.1 dX9_mend_75 (by decide) (fun cd => ?_) (fun cd => ?_)
  · have h := ite_t cd h
    obtain rfl := Option.some.inj h
    exact hE0 _ _ hx _ _ _ hw (lv_sub hl [0, 1, 2] rfl)
  · have h := ite_f cd h
    refine lv_aload_n C.1 C.2.1 dX9_mend_78 rfl (lv_at hl 0 rfl) ?_
    refine gf_X9_52 C hw dX9_mend_79 ?_
    refine lv_iload_n C.1 C.2.1 dX9_mend_82 rfl (lv_at hl 3 rfl) ?_
    refine lv_iconst (v := (0 : Int32)) C.1 C.2.1 dX9_mend_83 (by decide) ?_
    obtain ⟨hin, h⟩ := gd_of h
    refine m_iast C hw a0_14 hin dX9_mend_84 (fun H locs hw => ?_)
    obtain ⟨σ7, eσ7, h⟩ := lt_of h
    rw [← eσ7] at hw
    obtain ⟨r10, hL, h⟩ := bS h
    refine w_X9_mend_85 C  hL (fun y0 y1 y2 hr H locs ls hw hl => ?_) _ _ _ hw (lv_sub hl [0, 1, 2, 3] rfl)
    · subst hr
      try dsimp only at h
      try dsimp only at hw
      try dsimp only at hl
      obtain ⟨x11, ex11, h⟩ := lt_of h
      refine m_iinc (k := 3) (lv' := [(3, .int _), (0, .ref _), (1, .int _), (2, .int _)]) C (1 : Int32) (by decide) dX9_mend_129 hl rfl ex11.symm (by decide) rfl (fun ls hl => ?_)
      refine lv_goto (tgt := 73) C.1 C.2.1 dX9_mend_132 (by decide) ?_
      obtain rfl := Option.some.inj h
      exact hP _ hx _ _ _ hw (lv_sub hl [1, 2, 3, 0] rfl)
set_option maxRecDepth 20000 in
theorem c_X9_mend {l : Launch} {D : va_G} {cy : Nat → ClassId} {ad : Nat → Nat} (hj : InjW 0 ad) (a1 : Int32)  (σ : Mem) (r : (Int32 × Mem)) (h : f_X9_mend a1 σ = some r) : CI 0 D cy ad l yX9_mend cX9_mend 4 (some .int) 2 [.ref (ad (0)), .int a1] σ r.1 r.2 := by
  refine CI.mk (by decide) hj (Nat.le_of_ble_eq_true rfl) (fun p e R s m below meth c ls C hw hl => ?_)
  have hl : lv_has ls 4 [(0, .ref (ad (0))), (1, .int a1)] := hl
  generalize ([.ref (ad (0)), .int a1] : List Value).toArray = args at C ⊢
  have C : Cx 0 D cy ad p R s m args meth c cX9_mend 4 RX9 (some .int) 2 := C
  unfold f_X9_mend at h
  refine lv_iload_n C.1 C.2.1 dX9_mend_0 rfl (lv_at hl 1 rfl) ?_
  refine lv_iconst (v := (-1 : Int32)) C.1 C.2.1 dX9_mend_1 (by decide) ?_
  refine lv_aload_n C.1 C.2.1 dX9_mend_2 rfl (lv_at hl 0 rfl) ?_
  refine gf_X9_29 C hw dX9_mend_3 ?_
  refine lv_iconst (v := (2 : Int32)) C.1 C.2.1 dX9_mend_6 (by decide) ?_
  have hin : vp_in (2 : Int32) 102 := (by decide : ix (2 : Int32) 102)
  refine m_iald C hw a0_7 hin dX9_mend_7 ?_
  refine lv_iconst (v := (1 : Int32)) C.1 C.2.1 dX9_mend_8 (by decide) ?_
  refine lv_isub C.1 C.2.1 dX9_mend_9 ?_
  refine go_I hw (run_S (As := [.int _, .int _, .int _]) C hw (c_X9_in C.2.2.2.2.2.2.2.2.2 _ _ _ _) mi_X9_in ms_X9_in lk_X9_88 (by decide) (by decide) rfl hl.1 rfl (Nat.le_of_ble_eq_true rfl) dX9_mend_10 ⟨Nat.le_refl 0, Nat.le_refl 0⟩) (fun H locs hw => ?_)
  refine lv_if_ne (tgt := 18) C.1 C.2.1 dX9_mend_13 (by decide) (fun cd => ?_) (fun cd => ?_)
  · have h := ite_f cd h
    refine lv_aload_n C.1 C.2.1 dX9_mend_18 rfl (lv_at hl 0 rfl) ?_
    refine gf_X9_29 C hw dX9_mend_19 ?_
    refine lv_iconst (v := (2 : Int32)) C.1 C.2.1 dX9_mend_22 (by decide) ?_
    have hin : vp_in (2 : Int32) 102 := (by decide : ix (2 : Int32) 102)
    refine m_iald C hw a0_7 hin dX9_mend_23 ?_
    refine lv_if_ne (tgt := 30) C.1 C.2.1 dX9_mend_24 (by decide) (fun cd => ?_) (fun cd => ?_)
    · have h := ite_f cd h
      refine lv_aload_n C.1 C.2.1 dX9_mend_30 rfl (lv_at hl 0 rfl) ?_
      obtain ⟨r1, h1, h⟩ := bS h
      refine go_V hw (run_V (As := []) C hw (c_X9_findParts C.2.2.2.2.2.2.2.2.2 _ _ h1) mi_X9_findParts mv_X9_findParts o0_0 (ci := 9) rfl rfl lk_X9_149 (by decide) (by decide) rfl hl.1 rfl (Nat.le_of_ble_eq_true rfl) dX9_mend_31 ⟨Nat.le_refl 0, Nat.le_refl 0⟩) (fun H locs hw => ?_)
      refine lv_iconst (v := (0 : Int32)) C.1 C.2.1 dX9_mend_34 (by decide) ?_
      refine lv_istore_n (lv' := [(2, .int _), (0, .ref _), (1, .int _)]) C.1 C.2.1 dX9_mend_35 rfl hl (by decide) rfl (fun ls hl => ?_)
      obtain ⟨r4, hL, h⟩ := bS h
      refine w_X9_mend_36 C  hL (fun y0 hr H locs ls hw hl => ?_) _ _ _ hw (lv_sub hl [1, 2, 0] rfl)
      · subst hr
        try dsimp only at h
        try dsimp only at hw
        try dsimp only at hl
        refine lv_aload_n C.1 C.2.1 dX9_mend_56 rfl (lv_at hl 0 rfl) ?_
        obtain ⟨r5, h1, h⟩ := bS h
        refine go_I hw (run_V (As := []) C hw (c_X9_costAll C.2.2.2.2.2.2.2.2.2 _ _ h1) mi_X9_costAll mv_X9_costAll o0_0 (ci := 9) rfl rfl lk_X9_167 (by decide) (by decide) rfl hl.1 rfl (Nat.le_of_ble_eq_true rfl) dX9_mend_57 ⟨Nat.le_refl 0, Nat.le_refl 0⟩) (fun H locs hw => ?_)
        obtain ⟨x6, ex6, h⟩ := lt_of h
        refine m_topi ex6 ?_
        refine lv_istore_n (lv' := [(2, .int _), (0, .ref _), (1, .int _)]) C.1 C.2.1 dX9_mend_60 rfl hl (by decide) rfl (fun ls hl => ?_)
        refine lv_iload_n C.1 C.2.1 dX9_mend_61 rfl (lv_at hl 0 rfl) ?_
        refine lv_sipush (v := (999 : Int32)) C.1 C.2.1 dX9_mend_62 (by decide) ?_
        refine lv_icmp_lt (tgt := 71) C.1 C.2.1 dX9_mend_65 (by decide) (fun cd => ?_) (fun cd => ?_)
        · have h := ite_t cd h
          refine lv_iconst (v := (0 : Int32)) C.1 C.2.1 dX9_mend_71 (by decide) ?_
          refine lv_istore_n (lv' := [(3, .int _), (2, .int _), (0, .ref _), (1, .int _)]) C.1 C.2.1 dX9_mend_72 rfl hl (by decide) rfl (fun ls hl => ?_)
          obtain ⟨r12, hL, h⟩ := bS h
          refine w_X9_mend_73 C  hL (fun y0 y1 hr H locs ls hw hl => ?_) _ _ _ hw (lv_sub hl [2, 3, 1, 0] rfl)
          · subst hr
            try dsimp only at h
            try dsimp only at hw
            try dsimp only at hl
            refine lv_iload_n C.1 C.2.1 dX9_mend_135 rfl (lv_at hl 1 rfl) ?_
            refine lv_if_ge (tgt := 143) C.1 C.2.1 dX9_mend_136 (by decide) (fun cd => ?_) (fun cd => ?_)
            · have h := ite_t cd h
              refine lv_aload_n C.1 C.2.1 dX9_mend_143 rfl (lv_at hl 0 rfl) ?_
              refine gf_X9_52 C hw dX9_mend_144 ?_
              refine lv_iload_n C.1 C.2.1 dX9_mend_147 rfl (lv_at hl 1 rfl) ?_
              obtain ⟨hin, h⟩ := gd_of h
              refine m_iald C hw a0_14 hin dX9_mend_148 ?_
              exact m_iret C hw (ret_p h) dX9_mend_149
            · have h := ite_f cd h
              refine lv_iload_n C.1 C.2.1 dX9_mend_139 rfl (lv_at hl 2 rfl) ?_
              refine lv_goto (tgt := 149) C.1 C.2.1 dX9_mend_140 (by decide) ?_
              exact m_iret C hw (ret_p h) dX9_mend_149
        · have h := ite_f cd h
          refine lv_bipush (v := (-9 : Int32)) C.1 C.2.1 dX9_mend_68 (by decide) ?_
          exact m_iret C hw (ret_p h) dX9_mend_70
    · have h := ite_t cd h
      refine lv_bipush (v := (-2 : Int32)) C.1 C.2.1 dX9_mend_27 (by decide) ?_
      exact m_iret C hw (ret_p h) dX9_mend_29
  · have h := ite_t cd h
    refine lv_iconst (v := (-1 : Int32)) C.1 C.2.1 dX9_mend_16 (by decide) ?_
    exact m_iret C hw (ret_p h) dX9_mend_17
noncomputable def j_X9_pairOf_119 (a1 : Int32) (a2 : Int32) (a3 : Int32) (v4 : Int32) (v5 : Int32) (v6 : Int32) (σ : Mem) : Option ((Int32 × Int32 × Int32) ⊕ (Int32 ⊕ (Int32 × Int32))) :=
  lt (v6 + (1 : Int32)) (fun x3 => some (.inl (v4, v5, x3)))
noncomputable def b_X9_pairOf_83 (a1 : Int32) (a2 : Int32) (a3 : Int32) (v4 : Int32) (v5 : Int32) (v6 : Int32) (σ : Mem) : Option ((Int32 × Int32 × Int32) ⊕ (Int32 ⊕ (Int32 × Int32))) :=
  if (σ.1 0 22) ≤ v6 then (some (.inr (.inr (v4, v5)))) else (gd (ix v6 120) (if (σ.1 15 v6.toNatClampNeg) = v4 then (gd (ix v6 120) (if (σ.1 16 v6.toNatClampNeg) = v5 then (some (.inr (.inl v6))) else (j_X9_pairOf_119 a1 a2 a3 v4 v5 v6 σ))) else (j_X9_pairOf_119 a1 a2 a3 v4 v5 v6 σ)))
noncomputable def j_X9_pairOf_75 (a1 : Int32) (a2 : Int32) (a3 : Int32) (z1 : Int32) (z2 : Int32) (z3 : Int32) (z4 : Int32) (v4 : Int32) (σ : Mem) : Option (Int32 × Mem) :=
  (f_X9_makesOf z1 z2 z3 z4 σ).bind (fun r2 => (Lim (T := (Int32 ⊕ (Int32 × Int32))) (fun s => b_X9_pairOf_83 a1 a2 a3 s.1 s.2.1 s.2.2 σ) (v4, r2, (0 : Int32))).bind (fun r4 => (match r4 with | .inl r4_0 => (some (r4_0, σ)) | .inr r4_1 => (if (σ.1 0 22) = (120 : Int32) then (lt (sI σ 0 30 (1 : Int32)) (fun σ8 => some ((0 : Int32), σ8))) else (gd (ix (σ.1 0 22) 120) (lt (sI σ 15 (σ.1 0 22).toNatClampNeg r4_1.1) (fun σ5 => gd (ix (σ5.1 0 22) 120) (lt (sI σ5 16 (σ5.1 0 22).toNatClampNeg r4_1.2) (fun σ6 => lt (sI σ6 0 22 ((σ6.1 0 22) + (1 : Int32))) (fun σ7 => some ((σ7.1 0 22) - (1 : Int32), σ7)))))))))))
noncomputable def j_X9_pairOf_61 (a1 : Int32) (a2 : Int32) (a3 : Int32) (z1 : Int32) (z2 : Int32) (z3 : Int32) (v4 : Int32) (σ : Mem) : Option (Int32 × Mem) :=
  if 0 ≤ a3 then (gd (ix a3 120) (j_X9_pairOf_75 a1 a2 a3 z1 z2 z3 (σ.1 16 a3.toNatClampNeg) v4 σ)) else (j_X9_pairOf_75 a1 a2 a3 z1 z2 z3 (0 : Int32) v4 σ)
noncomputable def j_X9_pairOf_36 (a1 : Int32) (a2 : Int32) (a3 : Int32) (z1 : Int32) (z2 : Int32) (z3 : Int32) (z4 : Int32) (σ : Mem) : Option (Int32 × Mem) :=
  (f_X9_makesOf z1 z2 z3 z4 σ).bind (fun r1 => if 0 ≤ a2 then (gd (ix a2 120) (j_X9_pairOf_61 a1 a2 a3 (σ.1 0 28) a1 (σ.1 16 a2.toNatClampNeg) r1 σ)) else (j_X9_pairOf_61 a1 a2 a3 (σ.1 0 28) a1 (0 : Int32) r1 σ))
noncomputable def j_X9_pairOf_22 (a1 : Int32) (a2 : Int32) (a3 : Int32) (z1 : Int32) (z2 : Int32) (z3 : Int32) (σ : Mem) : Option (Int32 × Mem) :=
  if 0 ≤ a3 then (gd (ix a3 120) (j_X9_pairOf_36 a1 a2 a3 z1 z2 z3 (σ.1 15 a3.toNatClampNeg) σ)) else (j_X9_pairOf_36 a1 a2 a3 z1 z2 z3 (0 : Int32) σ)
noncomputable def f_X9_pairOf (a1 : Int32) (a2 : Int32) (a3 : Int32) (σ : Mem) : Option (Int32 × Mem) :=
  if 0 ≤ a2 then (gd (ix a2 120) (j_X9_pairOf_22 a1 a2 a3 (σ.1 7 (0 : Int32).toNatClampNeg) a1 (σ.1 15 a2.toNatClampNeg) σ)) else (j_X9_pairOf_22 a1 a2 a3 (σ.1 7 (0 : Int32).toNatClampNeg) a1 (0 : Int32) σ)
set_option maxRecDepth 20000 in
theorem w_X9_pairOf_119 {D : va_G} {cy : Nat → ClassId} {ad : Nat → Nat} {p : Program} {l : Launch} {e : Env} {R : Room} {s : State} {m : MethodId} {args : Array Value} {below : List Frame} {meth : Method} {c : Code} (C : Cx 0 D cy ad p R s m args meth c cX9_pairOf 7 RX9 (some .int) 2) {a1 : Int32} {a2 : Int32} {a3 : Int32}  {v4 : Int32} {v5 : Int32} {v6 : Int32}  {σ : Mem} {H : Heap} {locs : List Loc} {ls : Array Slot} {Q : State → Prop} {P : (Int32 × Int32 × Int32) → Prop} {r : (Int32 ⊕ (Int32 × Int32))} {x : (Int32 × Int32 × Int32) ⊕ (Int32 ⊕ (Int32 × Int32))} (hx : LimQ P r x) (hP : ∀ u, P u → ∀ (H : Heap) (locs : List Loc) (ls : Array Slot), Wd 0 D cy ad s σ H locs → lv_has ls 7 [(0, .ref (ad (0))), (4, .int u.1), (5, .int u.2.1), (6, .int u.2.2)] → W p l e R s m args below meth c H locs 0 0 Q (F0 m 83 ls [])) (hE0 : ∀ (v6 : Int32), (.inl v6 : (Int32 ⊕ (Int32 × Int32))) = r → ∀ (H : Heap) (locs : List Loc) (ls : Array Slot), Wd 0 D cy ad s σ H locs → lv_has ls 7 [(6, .int v6)] → W p l e R s m args below meth c H locs 0 0 Q (F0 m 116 ls [])) (hE1 : ∀ (v4 : Int32) (v5 : Int32), (.inr (v4, v5) : (Int32 ⊕ (Int32 × Int32))) = r → ∀ (H : Heap) (locs : List Loc) (ls : Array Slot), Wd 0 D cy ad s σ H locs → lv_has ls 7 [(0, .ref (ad (0))), (4, .int v4), (5, .int v5)] → W p l e R s m args below meth c H locs 0 0 Q (F0 m 125 ls [])) (hw : Wd 0 D cy ad s σ H locs) (hl : lv_has ls 7 [(0, .ref (ad (0))), (4, .int v4), (5, .int v5), (6, .int v6)]) (h : j_X9_pairOf_119 a1 a2 a3 v4 v5 v6 σ = some x) : W p l e R s m args below meth c H locs 0 0 Q (F0 m 119 ls []) := by
  unfold j_X9_pairOf_119 at h
  obtain ⟨x3, ex3, h⟩ := lt_of h
  refine m_iinc (k := 3) (lv' := [(6, .int _), (0, .ref _), (4, .int _), (5, .int _)]) C (1 : Int32) (by decide) dX9_pairOf_119 hl rfl ex3.symm (by decide) rfl (fun ls hl => ?_)
  refine lv_goto (tgt := 83) C.1 C.2.1 dX9_pairOf_122 (by decide) ?_
  obtain rfl := Option.some.inj h
  exact hP _ hx _ _ _ hw (lv_sub hl [1, 2, 3, 0] rfl)
set_option maxRecDepth 20000 in
theorem w_X9_pairOf_83 {D : va_G} {cy : Nat → ClassId} {ad : Nat → Nat} {p : Program} {l : Launch} {e : Env} {R : Room} {s : State} {m : MethodId} {args : Array Value} {below : List Frame} {meth : Method} {c : Code} (C : Cx 0 D cy ad p R s m args meth c cX9_pairOf 7 RX9 (some .int) 2) {a1 : Int32} {a2 : Int32} {a3 : Int32}  {v4 : Int32} {v5 : Int32} {v6 : Int32} {σ : Mem} {Q : State → Prop} {r : (Int32 ⊕ (Int32 × Int32))} (hL : Lim (T := (Int32 ⊕ (Int32 × Int32))) (fun s => b_X9_pairOf_83 a1 a2 a3 s.1 s.2.1 s.2.2 σ) (v4, v5, v6) = some r) (hE0 : ∀ (v6 : Int32), (.inl v6 : (Int32 ⊕ (Int32 × Int32))) = r → ∀ (H : Heap) (locs : List Loc) (ls : Array Slot), Wd 0 D cy ad s σ H locs → lv_has ls 7 [(6, .int v6)] → W p l e R s m args below meth c H locs 0 0 Q (F0 m 116 ls [])) (hE1 : ∀ (v4 : Int32) (v5 : Int32), (.inr (v4, v5) : (Int32 ⊕ (Int32 × Int32))) = r → ∀ (H : Heap) (locs : List Loc) (ls : Array Slot), Wd 0 D cy ad s σ H locs → lv_has ls 7 [(0, .ref (ad (0))), (4, .int v4), (5, .int v5)] → W p l e R s m args below meth c H locs 0 0 Q (F0 m 125 ls [])) (H : Heap) (locs : List Loc) (ls : Array Slot) (hw : Wd 0 D cy ad s σ H locs) (hl : lv_has ls 7 [(0, .ref (ad (0))), (4, .int v4), (5, .int v5), (6, .int v6)]) : W p l e R s m args below meth c H locs 0 0 Q (F0 m 83 ls []) := by
  refine Lim_ind hL (P := fun u => ∀ (H : Heap) (locs : List Loc) (ls : Array Slot), Wd 0 D cy ad s σ H locs → lv_has ls 7 [(0, .ref (ad (0))), (4, .int u.1), (5, .int u.2.1), (6, .int u.2.2)] → W p l e R s m args below meth c H locs 0 0 Q (F0 m 83 ls [])) (fun u x h hx H locs ls hw hl => ?_) H locs ls hw hl
  clear hL
  obtain ⟨v4, v5, v6⟩ := u
  have h : b_X9_pairOf_83 a1 a2 a3 v4 v5 v6 σ = some x := h
  have hw : Wd 0 D cy ad s σ H locs := hw
  have hl : lv_has ls 7 [(0, .ref (ad (0))), (4, .int v4), (5, .int v5), (6, .int v6)] := hl
  have hP : ∀ (u : (Int32 × Int32 × Int32)), (∀ (H : Heap) (locs : List Loc) (ls : Array Slot), Wd 0 D cy ad s σ H locs → lv_has ls 7 [(0, .ref (ad (0))), (4, .int u.1), (5, .int u.2.1), (6, .int u.2.2)] → W p l e R s m args below meth c H locs 0 0 Q (F0 m 83 ls [])) → ∀ (H : Heap) (locs : List Loc) (ls : Array Slot), Wd 0 D cy ad s σ H locs → lv_has ls 7 [(0, .ref (ad (0))), (4, .int u.1), (5, .int u.2.1), (6, .int u.2.2)] → W p l e R s m args below meth c H locs 0 0 Q (F0 m 83 ls []) := fun _ k => k
  unfold b_X9_pairOf_83 at h
  refine lv_iload C.1 C.2.1 dX9_pairOf_83 (lv_at hl 3 rfl) ?_
  refine lv_aload_n C.1 C.2.1 dX9_pairOf_85 rfl (lv_at hl 0 rfl) ?_
  refine gf_X9_173 C hw dX9_pairOf_86 ?_
  refine lv_icmp_ge (tgt := 125) C.1 C.2.1 dX9_pairOf_89 (by decide) (fun cd => ?_) (fun cd => ?_)
  · have h := ite_t cd h
    obtain rfl := Option.some.inj h
    exact hE1 _ _ hx _ _ _ hw (lv_sub hl [0, 1, 2] rfl)
  · have h := ite_f cd h
    refine lv_aload_n C.1 C.2.1 dX9_pairOf_92 rfl (lv_at hl 0 rfl) ?_
    refine gf_X9_55 C hw dX9_pairOf_93 ?_
    refine lv_iload C.1 C.2.1 dX9_pairOf_96 (lv_at hl 3 rfl) ?_
    obtain ⟨hin, h⟩ := gd_of h
    refine m_iald C hw a0_15 hin dX9_pairOf_98 ?_
    refine lv_iload C.1 C.2.1 dX9_pairOf_99 (lv_at hl 1 rfl) ?_
    refine lv_icmp_ne (tgt := 119) C.1 C.2.1 dX9_pairOf_101 (by decide) (fun cd => ?_) (fun cd => ?_)
    · have h := ite_f cd h
      exact w_X9_pairOf_119 C hx hP hE0 hE1 hw (lv_sub hl [0, 1, 2, 3] rfl) h
    · have h := ite_t cd h
      refine lv_aload_n C.1 C.2.1 dX9_pairOf_104 rfl (lv_at hl 0 rfl) ?_
      refine gf_X9_58 C hw dX9_pairOf_105 ?_
      refine lv_iload C.1 C.2.1 dX9_pairOf_108 (lv_at hl 3 rfl) ?_
      obtain ⟨hin, h⟩ := gd_of h
      refine m_iald C hw a0_16 hin dX9_pairOf_110 ?_
      refine lv_iload C.1 C.2.1 dX9_pairOf_111 (lv_at hl 2 rfl) ?_
      refine lv_icmp_ne (tgt := 119) C.1 C.2.1 dX9_pairOf_113 (by decide) (fun cd => ?_) (fun cd => ?_)
      · have h := ite_f cd h
        exact w_X9_pairOf_119 C hx hP hE0 hE1 hw (lv_sub hl [0, 1, 2, 3] rfl) h
      · have h := ite_t cd h
        obtain rfl := Option.some.inj h
        exact hE0 _ hx _ _ _ hw (lv_sub hl [3] rfl)
set_option maxRecDepth 20000 in
theorem w_X9_pairOf_75 {D : va_G} {cy : Nat → ClassId} {ad : Nat → Nat} {p : Program} {l : Launch} {e : Env} {R : Room} {s : State} {m : MethodId} {args : Array Value} {below : List Frame} {meth : Method} {c : Code} (C : Cx 0 D cy ad p R s m args meth c cX9_pairOf 7 RX9 (some .int) 2) {a1 : Int32} {a2 : Int32} {a3 : Int32}  {z1 : Int32} {z2 : Int32} {z3 : Int32} {z4 : Int32} {v4 : Int32}  {σ : Mem} {H : Heap} {locs : List Loc} {ls : Array Slot} {r : (Int32 × Mem)} (hw : Wd 0 D cy ad s σ H locs) (hl : lv_has ls 7 [(0, .ref (ad (0))), (4, .int v4)]) (h : j_X9_pairOf_75 a1 a2 a3 z1 z2 z3 z4 v4 σ = some r) : W p l e R s m args below meth c H locs 0 0 (QI 0 D cy ad below args s r.1 r.2) (F0 m 75 ls [.int z4, .int z3, .int z2, .int z1, .ref (ad (0))]) := by
  unfold j_X9_pairOf_75 at h
  obtain ⟨r2, h1, h⟩ := bS h
  refine go_I hw (run_V (As := [.int _, .int _, .int _, .int _]) C hw (c_X9_makesOf C.2.2.2.2.2.2.2.2.2 _ _ _ _ _ _ h1) mi_X9_makesOf mv_X9_makesOf o0_0 (ci := 9) rfl rfl lk_X9_152 (by decide) (by decide) rfl hl.1 rfl (Nat.le_of_ble_eq_true rfl) dX9_pairOf_75 ⟨Nat.le_refl 0, Nat.le_refl 0⟩) (fun H locs hw => ?_)
  refine lv_istore (lv' := [(5, .int _), (0, .ref _), (4, .int _)]) C.1 C.2.1 dX9_pairOf_78 hl (by decide) rfl (fun ls hl => ?_)
  refine lv_iconst (v := (0 : Int32)) C.1 C.2.1 dX9_pairOf_80 (by decide) ?_
  refine lv_istore (lv' := [(6, .int _), (5, .int _), (0, .ref _), (4, .int _)]) C.1 C.2.1 dX9_pairOf_81 hl (by decide) rfl (fun ls hl => ?_)
  obtain ⟨r4, hL, h⟩ := bS h
  refine w_X9_pairOf_83 C  hL (fun y0 hr H locs ls hw hl => ?_) (fun y0 y1 hr H locs ls hw hl => ?_) _ _ _ hw (lv_sub hl [2, 3, 1, 0] rfl)
  · subst hr
    try dsimp only at h
    try dsimp only at hw
    try dsimp only at hl
    refine lv_iload C.1 C.2.1 dX9_pairOf_116 (lv_at hl 0 rfl) ?_
    exact m_iret C hw (ret_p h) dX9_pairOf_118
  · subst hr
    try dsimp only at h
    try dsimp only at hw
    try dsimp only at hl
    refine lv_aload_n C.1 C.2.1 dX9_pairOf_125 rfl (lv_at hl 0 rfl) ?_
    refine gf_X9_173 C hw dX9_pairOf_126 ?_
    refine lv_bipush (v := (120 : Int32)) C.1 C.2.1 dX9_pairOf_129 (by decide) ?_
    refine lv_icmp_ne (tgt := 141) C.1 C.2.1 dX9_pairOf_131 (by decide) (fun cd => ?_) (fun cd => ?_)
    · have h := ite_f cd h
      refine lv_aload_n C.1 C.2.1 dX9_pairOf_141 rfl (lv_at hl 0 rfl) ?_
      refine gf_X9_55 C hw dX9_pairOf_142 ?_
      refine lv_aload_n C.1 C.2.1 dX9_pairOf_145 rfl (lv_at hl 0 rfl) ?_
      refine gf_X9_173 C hw dX9_pairOf_146 ?_
      refine lv_iload C.1 C.2.1 dX9_pairOf_149 (lv_at hl 1 rfl) ?_
      obtain ⟨hin, h⟩ := gd_of h
      refine m_iast C hw a0_15 hin dX9_pairOf_151 (fun H locs hw => ?_)
      obtain ⟨σ5, eσ5, h⟩ := lt_of h
      rw [← eσ5] at hw
      refine lv_aload_n C.1 C.2.1 dX9_pairOf_152 rfl (lv_at hl 0 rfl) ?_
      refine gf_X9_58 C hw dX9_pairOf_153 ?_
      refine lv_aload_n C.1 C.2.1 dX9_pairOf_156 rfl (lv_at hl 0 rfl) ?_
      refine gf_X9_173 C hw dX9_pairOf_157 ?_
      refine lv_iload C.1 C.2.1 dX9_pairOf_160 (lv_at hl 2 rfl) ?_
      obtain ⟨hin, h⟩ := gd_of h
      refine m_iast C hw a0_16 hin dX9_pairOf_162 (fun H locs hw => ?_)
      obtain ⟨σ6, eσ6, h⟩ := lt_of h
      rw [← eσ6] at hw
      refine lv_aload_n C.1 C.2.1 dX9_pairOf_163 rfl (lv_at hl 0 rfl) ?_
      refine lv_dup C.1 C.2.1 dX9_pairOf_164 rfl ?_
      refine gf_X9_173 C hw dX9_pairOf_165 ?_
      refine lv_iconst (v := (1 : Int32)) C.1 C.2.1 dX9_pairOf_168 (by decide) ?_
      refine lv_iadd C.1 C.2.1 dX9_pairOf_169 ?_
      refine pf_X9_173 C hw dX9_pairOf_170 (fun H locs hw => ?_)
      obtain ⟨σ7, eσ7, h⟩ := lt_of h
      rw [← eσ7] at hw
      refine lv_aload_n C.1 C.2.1 dX9_pairOf_173 rfl (lv_at hl 0 rfl) ?_
      refine gf_X9_173 C hw dX9_pairOf_174 ?_
      refine lv_iconst (v := (1 : Int32)) C.1 C.2.1 dX9_pairOf_177 (by decide) ?_
      refine lv_isub C.1 C.2.1 dX9_pairOf_178 ?_
      exact m_iret C hw (ret_p h) dX9_pairOf_179
    · have h := ite_t cd h
      refine lv_aload_n C.1 C.2.1 dX9_pairOf_134 rfl (lv_at hl 0 rfl) ?_
      refine lv_iconst (v := (1 : Int32)) C.1 C.2.1 dX9_pairOf_135 (by decide) ?_
      refine pf_X9_176 C hw rfl rfl dX9_pairOf_136 (fun H locs hw => ?_)
      obtain ⟨σ8, eσ8, h⟩ := lt_of h
      rw [← eσ8] at hw
      refine lv_iconst (v := (0 : Int32)) C.1 C.2.1 dX9_pairOf_139 (by decide) ?_
      exact m_iret C hw (ret_p h) dX9_pairOf_140
set_option maxRecDepth 20000 in
theorem w_X9_pairOf_61 {D : va_G} {cy : Nat → ClassId} {ad : Nat → Nat} {p : Program} {l : Launch} {e : Env} {R : Room} {s : State} {m : MethodId} {args : Array Value} {below : List Frame} {meth : Method} {c : Code} (C : Cx 0 D cy ad p R s m args meth c cX9_pairOf 7 RX9 (some .int) 2) {a1 : Int32} {a2 : Int32} {a3 : Int32}  {z1 : Int32} {z2 : Int32} {z3 : Int32} {v4 : Int32}  {σ : Mem} {H : Heap} {locs : List Loc} {ls : Array Slot} {r : (Int32 × Mem)} (hw : Wd 0 D cy ad s σ H locs) (hl : lv_has ls 7 [(0, .ref (ad (0))), (3, .int a3), (4, .int v4)]) (h : j_X9_pairOf_61 a1 a2 a3 z1 z2 z3 v4 σ = some r) : W p l e R s m args below meth c H locs 0 0 (QI 0 D cy ad below args s r.1 r.2) (F0 m 61 ls [.int z3, .int z2, .int z1, .ref (ad (0))]) := by
  unfold j_X9_pairOf_61 at h
  refine lv_iload_n C.1 C.2.1 dX9_pairOf_61 rfl (lv_at hl 1 rfl) ?_
  refine lv_if_ge (tgt := 69) C.1 C.2.1 dX9_pairOf_62 (by decide) (fun cd => ?_) (fun cd => ?_)
  · have h := ite_t cd h
    refine lv_aload_n C.1 C.2.1 dX9_pairOf_69 rfl (lv_at hl 0 rfl) ?_
    refine gf_X9_58 C hw dX9_pairOf_70 ?_
    refine lv_iload_n C.1 C.2.1 dX9_pairOf_73 rfl (lv_at hl 1 rfl) ?_
    obtain ⟨hin, h⟩ := gd_of h
    refine m_iald C hw a0_16 hin dX9_pairOf_74 ?_
    exact w_X9_pairOf_75 C hw (lv_sub hl [0, 2] rfl) h
  · have h := ite_f cd h
    refine lv_iconst (v := (0 : Int32)) C.1 C.2.1 dX9_pairOf_65 (by decide) ?_
    refine lv_goto (tgt := 75) C.1 C.2.1 dX9_pairOf_66 (by decide) ?_
    exact w_X9_pairOf_75 C hw (lv_sub hl [0, 2] rfl) h
set_option maxRecDepth 20000 in
theorem w_X9_pairOf_36 {D : va_G} {cy : Nat → ClassId} {ad : Nat → Nat} {p : Program} {l : Launch} {e : Env} {R : Room} {s : State} {m : MethodId} {args : Array Value} {below : List Frame} {meth : Method} {c : Code} (C : Cx 0 D cy ad p R s m args meth c cX9_pairOf 7 RX9 (some .int) 2) {a1 : Int32} {a2 : Int32} {a3 : Int32}  {z1 : Int32} {z2 : Int32} {z3 : Int32} {z4 : Int32}  {σ : Mem} {H : Heap} {locs : List Loc} {ls : Array Slot} {r : (Int32 × Mem)} (hw : Wd 0 D cy ad s σ H locs) (hl : lv_has ls 7 [(0, .ref (ad (0))), (1, .int a1), (2, .int a2), (3, .int a3)]) (h : j_X9_pairOf_36 a1 a2 a3 z1 z2 z3 z4 σ = some r) : W p l e R s m args below meth c H locs 0 0 (QI 0 D cy ad below args s r.1 r.2) (F0 m 36 ls [.int z4, .int z3, .int z2, .int z1, .ref (ad (0))]) := by
  unfold j_X9_pairOf_36 at h
  obtain ⟨r1, h1, h⟩ := bS h
  refine go_I hw (run_V (As := [.int _, .int _, .int _, .int _]) C hw (c_X9_makesOf C.2.2.2.2.2.2.2.2.2 _ _ _ _ _ _ h1) mi_X9_makesOf mv_X9_makesOf o0_0 (ci := 9) rfl rfl lk_X9_152 (by decide) (by decide) rfl hl.1 rfl (Nat.le_of_ble_eq_true rfl) dX9_pairOf_36 ⟨Nat.le_refl 0, Nat.le_refl 0⟩) (fun H locs hw => ?_)
  refine lv_istore (lv' := [(4, .int _), (0, .ref _), (1, .int _), (2, .int _), (3, .int _)]) C.1 C.2.1 dX9_pairOf_39 hl (by decide) rfl (fun ls hl => ?_)
  refine lv_aload_n C.1 C.2.1 dX9_pairOf_41 rfl (lv_at hl 1 rfl) ?_
  refine lv_aload_n C.1 C.2.1 dX9_pairOf_42 rfl (lv_at hl 1 rfl) ?_
  refine gf_X9_170 C hw dX9_pairOf_43 ?_
  refine lv_iload_n C.1 C.2.1 dX9_pairOf_46 rfl (lv_at hl 2 rfl) ?_
  refine lv_iload_n C.1 C.2.1 dX9_pairOf_47 rfl (lv_at hl 3 rfl) ?_
  refine lv_if_ge (tgt := 55) C.1 C.2.1 dX9_pairOf_48 (by decide) (fun cd => ?_) (fun cd => ?_)
  · have h := ite_t cd h
    refine lv_aload_n C.1 C.2.1 dX9_pairOf_55 rfl (lv_at hl 1 rfl) ?_
    refine gf_X9_58 C hw dX9_pairOf_56 ?_
    refine lv_iload_n C.1 C.2.1 dX9_pairOf_59 rfl (lv_at hl 3 rfl) ?_
    obtain ⟨hin, h⟩ := gd_of h
    refine m_iald C hw a0_16 hin dX9_pairOf_60 ?_
    exact w_X9_pairOf_61 C hw (lv_sub hl [1, 4, 0] rfl) h
  · have h := ite_f cd h
    refine lv_iconst (v := (0 : Int32)) C.1 C.2.1 dX9_pairOf_51 (by decide) ?_
    refine lv_goto (tgt := 61) C.1 C.2.1 dX9_pairOf_52 (by decide) ?_
    exact w_X9_pairOf_61 C hw (lv_sub hl [1, 4, 0] rfl) h
set_option maxRecDepth 20000 in
theorem w_X9_pairOf_22 {D : va_G} {cy : Nat → ClassId} {ad : Nat → Nat} {p : Program} {l : Launch} {e : Env} {R : Room} {s : State} {m : MethodId} {args : Array Value} {below : List Frame} {meth : Method} {c : Code} (C : Cx 0 D cy ad p R s m args meth c cX9_pairOf 7 RX9 (some .int) 2) {a1 : Int32} {a2 : Int32} {a3 : Int32}  {z1 : Int32} {z2 : Int32} {z3 : Int32}  {σ : Mem} {H : Heap} {locs : List Loc} {ls : Array Slot} {r : (Int32 × Mem)} (hw : Wd 0 D cy ad s σ H locs) (hl : lv_has ls 7 [(0, .ref (ad (0))), (1, .int a1), (2, .int a2), (3, .int a3)]) (h : j_X9_pairOf_22 a1 a2 a3 z1 z2 z3 σ = some r) : W p l e R s m args below meth c H locs 0 0 (QI 0 D cy ad below args s r.1 r.2) (F0 m 22 ls [.int z3, .int z2, .int z1, .ref (ad (0))]) := by
  unfold j_X9_pairOf_22 at h
  refine lv_iload_n C.1 C.2.1 dX9_pairOf_22 rfl (lv_at hl 3 rfl) ?_
  refine lv_if_ge (tgt := 30) C.1 C.2.1 dX9_pairOf_23 (by decide) (fun cd => ?_) (fun cd => ?_)
  · have h := ite_t cd h
    refine lv_aload_n C.1 C.2.1 dX9_pairOf_30 rfl (lv_at hl 0 rfl) ?_
    refine gf_X9_55 C hw dX9_pairOf_31 ?_
    refine lv_iload_n C.1 C.2.1 dX9_pairOf_34 rfl (lv_at hl 3 rfl) ?_
    obtain ⟨hin, h⟩ := gd_of h
    refine m_iald C hw a0_15 hin dX9_pairOf_35 ?_
    exact w_X9_pairOf_36 C hw (lv_sub hl [0, 1, 2, 3] rfl) h
  · have h := ite_f cd h
    refine lv_iconst (v := (0 : Int32)) C.1 C.2.1 dX9_pairOf_26 (by decide) ?_
    refine lv_goto (tgt := 36) C.1 C.2.1 dX9_pairOf_27 (by decide) ?_
    exact w_X9_pairOf_36 C hw (lv_sub hl [0, 1, 2, 3] rfl) h
set_option maxRecDepth 20000 in
theorem c_X9_pairOf {l : Launch} {D : va_G} {cy : Nat → ClassId} {ad : Nat → Nat} (hj : InjW 0 ad) (a1 : Int32) (a2 : Int32) (a3 : Int32)  (σ : Mem) (r : (Int32 × Mem)) (h : f_X9_pairOf a1 a2 a3 σ = some r) : CI 0 D cy ad l yX9_pairOf cX9_pairOf 7 (some .int) 2 [.ref (ad (0)), .int a1, .int a2, .int a3] σ r.1 r.2 := by
  refine CI.mk (by decide) hj (Nat.le_of_ble_eq_true rfl) (fun p e R s m below meth c ls C hw hl => ?_)
  have hl : lv_has ls 7 [(0, .ref (ad (0))), (1, .int a1), (2, .int a2), (3, .int a3)] := hl
  generalize ([.ref (ad (0)), .int a1, .int a2, .int a3] : List Value).toArray = args at C ⊢
  have C : Cx 0 D cy ad p R s m args meth c cX9_pairOf 7 RX9 (some .int) 2 := C
  unfold f_X9_pairOf at h
  refine lv_aload_n C.1 C.2.1 dX9_pairOf_0 rfl (lv_at hl 0 rfl) ?_
  refine lv_aload_n C.1 C.2.1 dX9_pairOf_1 rfl (lv_at hl 0 rfl) ?_
  refine gf_X9_29 C hw dX9_pairOf_2 ?_
  refine lv_iconst (v := (0 : Int32)) C.1 C.2.1 dX9_pairOf_5 (by decide) ?_
  have hin : vp_in (0 : Int32) 102 := (by decide : ix (0 : Int32) 102)
  refine m_iald C hw a0_7 hin dX9_pairOf_6 ?_
  refine lv_iload_n C.1 C.2.1 dX9_pairOf_7 rfl (lv_at hl 1 rfl) ?_
  refine lv_iload_n C.1 C.2.1 dX9_pairOf_8 rfl (lv_at hl 2 rfl) ?_
  refine lv_if_ge (tgt := 16) C.1 C.2.1 dX9_pairOf_9 (by decide) (fun cd => ?_) (fun cd => ?_)
  · have h := ite_t cd h
    refine lv_aload_n C.1 C.2.1 dX9_pairOf_16 rfl (lv_at hl 0 rfl) ?_
    refine gf_X9_55 C hw dX9_pairOf_17 ?_
    refine lv_iload_n C.1 C.2.1 dX9_pairOf_20 rfl (lv_at hl 2 rfl) ?_
    obtain ⟨hin, h⟩ := gd_of h
    refine m_iald C hw a0_15 hin dX9_pairOf_21 ?_
    exact w_X9_pairOf_22 C hw (lv_sub hl [0, 1, 2, 3] rfl) h
  · have h := ite_f cd h
    refine lv_iconst (v := (0 : Int32)) C.1 C.2.1 dX9_pairOf_12 (by decide) ?_
    refine lv_goto (tgt := 22) C.1 C.2.1 dX9_pairOf_13 (by decide) ?_
    exact w_X9_pairOf_22 C hw (lv_sub hl [0, 1, 2, 3] rfl) h
