/-! the class: functions and walks, 1 -/
def f_X7_has (t0 : Nat) (a1 : Int32) (σ : Mem) : Int32 :=
  if a1 < 0 then ((0 : Int32)) else (if (σ.1 t0 4) ≤ a1 then ((0 : Int32)) else (if (31 : Int32) ≤ a1 then ((0 : Int32)) else ((1 : Int32))))
set_option maxRecDepth 20000 in
theorem c_X7_has {l : Launch} {D : va_G} {cy : Nat → ClassId} {ad : Nat → Nat} (hj : InjW 1 ad) (t0 : Nat) (a1 : Int32) (ht0 : IsO 1 t0 7) (σ : Mem) : CI 1 D cy ad l yX7_has cX7_has 2 (some .boolean) 0 [.ref (ad (t0)), .int a1] σ (f_X7_has t0 a1 σ) σ := by
  refine CI.mk (by decide) hj (Nat.le_of_ble_eq_true rfl) (fun p e R s m below meth c ls C hw hl => ?_)
  have hl : lv_has ls 2 [(0, .ref (ad (t0))), (1, .int a1)] := hl
  generalize ([.ref (ad (t0)), .int a1] : List Value).toArray = args at C ⊢
  have C : Cx 1 D cy ad p R s m args meth c cX7_has 2 RX7 (some .boolean) 0 := C
  obtain ⟨r, h⟩ : ∃ r, f_X7_has t0 a1 σ = r := ⟨_, rfl⟩
  rw [h]
  unfold f_X7_has at h
  refine lv_iload_n C.1 C.2.1 dX7_has_0 rfl (lv_at hl 1 rfl) ?_
  refine lv_if_lt (tgt := 22) C.1 C.2.1 dX7_has_1 (by decide) (fun cd => ?_) (fun cd => ?_)
  · have h := ite_t cd h
    refine lv_iconst (v := (0 : Int32)) C.1 C.2.1 dX7_has_22 (by decide) ?_
    exact m_zret C hw (by decide) ⟨h, rfl⟩ dX7_has_23
  · have h := ite_f cd h
    refine lv_iload_n C.1 C.2.1 dX7_has_4 rfl (lv_at hl 1 rfl) ?_
    refine lv_aload_n C.1 C.2.1 dX7_has_5 rfl (lv_at hl 0 rfl) ?_
    refine gf_X7_24 C hw ht0 dX7_has_6 ?_
    refine lv_icmp_ge (tgt := 22) C.1 C.2.1 dX7_has_9 (by decide) (fun cd => ?_) (fun cd => ?_)
    · have h := ite_t cd h
      refine lv_iconst (v := (0 : Int32)) C.1 C.2.1 dX7_has_22 (by decide) ?_
      exact m_zret C hw (by decide) ⟨h, rfl⟩ dX7_has_23
    · have h := ite_f cd h
      refine lv_iload_n C.1 C.2.1 dX7_has_12 rfl (lv_at hl 1 rfl) ?_
      refine lv_bipush (v := (31 : Int32)) C.1 C.2.1 dX7_has_13 (by decide) ?_
      refine lv_icmp_ge (tgt := 22) C.1 C.2.1 dX7_has_15 (by decide) (fun cd => ?_) (fun cd => ?_)
      · have h := ite_t cd h
        refine lv_iconst (v := (0 : Int32)) C.1 C.2.1 dX7_has_22 (by decide) ?_
        exact m_zret C hw (by decide) ⟨h, rfl⟩ dX7_has_23
      · have h := ite_f cd h
        refine lv_iconst (v := (1 : Int32)) C.1 C.2.1 dX7_has_18 (by decide) ?_
        refine lv_goto (tgt := 23) C.1 C.2.1 dX7_has_19 (by decide) ?_
        exact m_zret C hw (by decide) ⟨h, rfl⟩ dX7_has_23
noncomputable def f_X0_comesOf (t1 : Nat) (a2 : Int32) (σ : Mem) : Option Int32 :=
  if (f_X7_has t1 a2 σ) = 0 then (some (0 : Int32)) else (gd (ix a2 31) (some (σ.1 5 a2.toNatClampNeg)))
set_option maxRecDepth 20000 in
theorem c_X0_comesOf {l : Launch} {D : va_G} {cy : Nat → ClassId} {ad : Nat → Nat} (hj : InjW 1 ad) (t1 : Nat) (a2 : Int32) (ht1 : IsO 1 t1 7) (σ : Mem) (r : Int32) (h : f_X0_comesOf t1 a2 σ = some r) : CI 1 D cy ad l yX0_comesOf cX0_comesOf 3 (some .int) 1 [.ref (ad (4)), .ref (ad (t1)), .int a2] σ r σ := by
  refine CI.mk (by decide) hj (Nat.le_of_ble_eq_true rfl) (fun p e R s m below meth c ls C hw hl => ?_)
  have hl : lv_has ls 3 [(0, .ref (ad (4))), (1, .ref (ad (t1))), (2, .int a2)] := hl
  generalize ([.ref (ad (4)), .ref (ad (t1)), .int a2] : List Value).toArray = args at C ⊢
  have C : Cx 1 D cy ad p R s m args meth c cX0_comesOf 3 RX0 (some .int) 1 := C
  unfold f_X0_comesOf at h
  refine lv_aload_n C.1 C.2.1 dX0_comesOf_0 rfl (lv_at hl 1 rfl) ?_
  refine lv_iload_n C.1 C.2.1 dX0_comesOf_1 rfl (lv_at hl 2 rfl) ?_
  refine go_I hw (run_V (As := [.int _]) C hw (c_X7_has C.2.2.2.2.2.2.2.2.2 _ _ ht1 _) mi_X7_has mv_X7_has ht1 (ci := 7) rfl rfl lk_X0_48 (by decide) (by decide) rfl hl.1 rfl (Nat.le_of_ble_eq_true rfl) dX0_comesOf_2 ⟨Nat.le_refl 0, Nat.le_refl 0⟩) (fun H locs hw => ?_)
  refine lv_if_eq (tgt := 17) C.1 C.2.1 dX0_comesOf_5 (by decide) (fun cd => ?_) (fun cd => ?_)
  · have h := ite_t cd h
    refine lv_iconst (v := (0 : Int32)) C.1 C.2.1 dX0_comesOf_17 (by decide) ?_
    exact m_iret C hw (ret_i h) dX0_comesOf_18
  · have h := ite_f cd h
    refine lv_aload_n C.1 C.2.1 dX0_comesOf_8 rfl (lv_at hl 0 rfl) ?_
    refine gf_X0_9 C hw dX0_comesOf_9 ?_
    refine lv_iload_n C.1 C.2.1 dX0_comesOf_12 rfl (lv_at hl 2 rfl) ?_
    obtain ⟨hin, h⟩ := gd_of h
    refine m_iald C hw a1_5 hin dX0_comesOf_13 ?_
    refine lv_goto (tgt := 18) C.1 C.2.1 dX0_comesOf_14 (by decide) ?_
    exact m_iret C hw (ret_i h) dX0_comesOf_18
noncomputable def f_X7_secondArm (t0 : Nat) (a1 : Int32) (σ : Mem) : Option Int32 :=
  if (f_X7_has t0 (a1 + (1 : Int32)) σ) = 0 then (some (σ.1 t0 4)) else (gd (ix (a1 + (1 : Int32)) 31) (some ((a1 + (1 : Int32)) + (σ.1 (t0 + 2) (a1 + (1 : Int32)).toNatClampNeg))))
set_option maxRecDepth 20000 in
theorem c_X7_secondArm {l : Launch} {D : va_G} {cy : Nat → ClassId} {ad : Nat → Nat} (hj : InjW 1 ad) (t0 : Nat) (a1 : Int32) (ht0 : IsO 1 t0 7) (σ : Mem) (r : Int32) (h : f_X7_secondArm t0 a1 σ = some r) : CI 1 D cy ad l yX7_secondArm cX7_secondArm 2 (some .int) 1 [.ref (ad (t0)), .int a1] σ r σ := by
  refine CI.mk (by decide) hj (Nat.le_of_ble_eq_true rfl) (fun p e R s m below meth c ls C hw hl => ?_)
  have hl : lv_has ls 2 [(0, .ref (ad (t0))), (1, .int a1)] := hl
  generalize ([.ref (ad (t0)), .int a1] : List Value).toArray = args at C ⊢
  have C : Cx 1 D cy ad p R s m args meth c cX7_secondArm 2 RX7 (some .int) 1 := C
  unfold f_X7_secondArm at h
  refine lv_aload_n C.1 C.2.1 dX7_secondArm_0 rfl (lv_at hl 0 rfl) ?_
  refine lv_iload_n C.1 C.2.1 dX7_secondArm_1 rfl (lv_at hl 1 rfl) ?_
  refine lv_iconst (v := (1 : Int32)) C.1 C.2.1 dX7_secondArm_2 (by decide) ?_
  refine lv_iadd C.1 C.2.1 dX7_secondArm_3 ?_
  refine go_I hw (run_V (As := [.int _]) C hw (c_X7_has C.2.2.2.2.2.2.2.2.2 _ _ ht0 _) mi_X7_has mv_X7_has ht0 (ci := 7) rfl rfl lk_X7_43 (by decide) (by decide) rfl hl.1 rfl (Nat.le_of_ble_eq_true rfl) dX7_secondArm_4 ⟨Nat.le_refl 0, Nat.le_refl 0⟩) (fun H locs hw => ?_)
  refine lv_if_eq (tgt := 25) C.1 C.2.1 dX7_secondArm_7 (by decide) (fun cd => ?_) (fun cd => ?_)
  · have h := ite_t cd h
    refine lv_aload_n C.1 C.2.1 dX7_secondArm_25 rfl (lv_at hl 0 rfl) ?_
    refine gf_X7_24 C hw ht0 dX7_secondArm_26 ?_
    exact m_iret C hw (ret_i h) dX7_secondArm_29
  · have h := ite_f cd h
    refine lv_iload_n C.1 C.2.1 dX7_secondArm_10 rfl (lv_at hl 1 rfl) ?_
    refine lv_iconst (v := (1 : Int32)) C.1 C.2.1 dX7_secondArm_11 (by decide) ?_
    refine lv_iadd C.1 C.2.1 dX7_secondArm_12 ?_
    refine lv_aload_n C.1 C.2.1 dX7_secondArm_13 rfl (lv_at hl 0 rfl) ?_
    refine gf_X7_15 C hw ht0 dX7_secondArm_14 ?_
    refine lv_iload_n C.1 C.2.1 dX7_secondArm_17 rfl (lv_at hl 1 rfl) ?_
    refine lv_iconst (v := (1 : Int32)) C.1 C.2.1 dX7_secondArm_18 (by decide) ?_
    refine lv_iadd C.1 C.2.1 dX7_secondArm_19 ?_
    obtain ⟨hin, h⟩ := gd_of h
    refine m_iald C hw (treeA1 ht0) hin dX7_secondArm_20 ?_
    refine lv_iadd C.1 C.2.1 dX7_secondArm_21 ?_
    refine lv_goto (tgt := 29) C.1 C.2.1 dX7_secondArm_22 (by decide) ?_
    exact m_iret C hw (ret_i h) dX7_secondArm_29
def f_X8_bit (a0 : Int32) (a1 : Int32) : Int32 :=
  (a0 >>> (a1 &&& 31)) &&& (1 : Int32)
set_option maxRecDepth 20000 in
theorem c_X8_bit {l : Launch} {D : va_G} {cy : Nat → ClassId} {ad : Nat → Nat} (hj : InjW 1 ad) (a0 : Int32) (a1 : Int32)  (σ : Mem) : CI 1 D cy ad l yX8_bit cX8_bit 2 (some .int) 0 [.int a0, .int a1] σ (f_X8_bit a0 a1) σ := by
  refine CI.mk (by decide) hj (Nat.le_of_ble_eq_true rfl) (fun p e R s m below meth c ls C hw hl => ?_)
  have hl : lv_has ls 2 [(0, .int a0), (1, .int a1)] := hl
  generalize ([.int a0, .int a1] : List Value).toArray = args at C ⊢
  have C : Cx 1 D cy ad p R s m args meth c cX8_bit 2 RX8 (some .int) 0 := C
  obtain ⟨r, h⟩ : ∃ r, f_X8_bit a0 a1 = r := ⟨_, rfl⟩
  rw [h]
  unfold f_X8_bit at h
  refine lv_iload_n C.1 C.2.1 dX8_bit_0 rfl (lv_at hl 0 rfl) ?_
  refine lv_iload_n C.1 C.2.1 dX8_bit_1 rfl (lv_at hl 1 rfl) ?_
  refine lv_ishr C.1 C.2.1 dX8_bit_2 ?_
  refine lv_iconst (v := (1 : Int32)) C.1 C.2.1 dX8_bit_3 (by decide) ?_
  refine lv_iand C.1 C.2.1 dX8_bit_4 ?_
  exact m_iret C hw ⟨h, rfl⟩ dX8_bit_5
def f_X8_armsOf (a0 : Int32) : Int32 :=
  if (4 : Int32) ≤ a0 then (if (6 : Int32) ≤ a0 then ((2 : Int32)) else ((1 : Int32))) else ((0 : Int32))
set_option maxRecDepth 20000 in
theorem c_X8_armsOf {l : Launch} {D : va_G} {cy : Nat → ClassId} {ad : Nat → Nat} (hj : InjW 1 ad) (a0 : Int32)  (σ : Mem) : CI 1 D cy ad l yX8_armsOf cX8_armsOf 1 (some .int) 0 [.int a0] σ (f_X8_armsOf a0) σ := by
  refine CI.mk (by decide) hj (Nat.le_of_ble_eq_true rfl) (fun p e R s m below meth c ls C hw hl => ?_)
  have hl : lv_has ls 1 [(0, .int a0)] := hl
  generalize ([.int a0] : List Value).toArray = args at C ⊢
  have C : Cx 1 D cy ad p R s m args meth c cX8_armsOf 1 RX8 (some .int) 0 := C
  obtain ⟨r, h⟩ : ∃ r, f_X8_armsOf a0 = r := ⟨_, rfl⟩
  rw [h]
  unfold f_X8_armsOf at h
  refine lv_iload_n C.1 C.2.1 dX8_armsOf_0 rfl (lv_at hl 0 rfl) ?_
  refine lv_iconst (v := (4 : Int32)) C.1 C.2.1 dX8_armsOf_1 (by decide) ?_
  refine lv_icmp_ge (tgt := 9) C.1 C.2.1 dX8_armsOf_2 (by decide) (fun cd => ?_) (fun cd => ?_)
  · have h := ite_t cd h
    refine lv_iload_n C.1 C.2.1 dX8_armsOf_9 rfl (lv_at hl 0 rfl) ?_
    refine lv_bipush (v := (6 : Int32)) C.1 C.2.1 dX8_armsOf_10 (by decide) ?_
    refine lv_icmp_ge (tgt := 19) C.1 C.2.1 dX8_armsOf_12 (by decide) (fun cd => ?_) (fun cd => ?_)
    · have h := ite_t cd h
      refine lv_iconst (v := (2 : Int32)) C.1 C.2.1 dX8_armsOf_19 (by decide) ?_
      exact m_iret C hw ⟨h, rfl⟩ dX8_armsOf_20
    · have h := ite_f cd h
      refine lv_iconst (v := (1 : Int32)) C.1 C.2.1 dX8_armsOf_15 (by decide) ?_
      refine lv_goto (tgt := 20) C.1 C.2.1 dX8_armsOf_16 (by decide) ?_
      exact m_iret C hw ⟨h, rfl⟩ dX8_armsOf_20
  · have h := ite_f cd h
    refine lv_iconst (v := (0 : Int32)) C.1 C.2.1 dX8_armsOf_5 (by decide) ?_
    refine lv_goto (tgt := 20) C.1 C.2.1 dX8_armsOf_6 (by decide) ?_
    exact m_iret C hw ⟨h, rfl⟩ dX8_armsOf_20
noncomputable def j_X3_fits_51 (t0 : Nat) (a1 : Int32) (a2 : Int32) (a3 : Int32) (σ : Mem) : Option Int32 :=
  some (1 : Int32)
noncomputable def j_X3_fits_31 (t0 : Nat) (a1 : Int32) (a2 : Int32) (a3 : Int32) (v4 : Int32) (σ : Mem) : Option Int32 :=
  if v4 < (2 : Int32) then (j_X3_fits_51 t0 a1 a2 a3 σ) else (gd (ix a1 16) (if (f_X8_bit a3 (σ.1 (t0 + 3) a1.toNatClampNeg)) = (1 : Int32) then (j_X3_fits_51 t0 a1 a2 a3 σ) else (some (0 : Int32))))
noncomputable def f_X3_fits (t0 : Nat) (a1 : Int32) (a2 : Int32) (a3 : Int32) (σ : Mem) : Option Int32 :=
  gd (ix a1 16) (lt (f_X8_armsOf (σ.1 (t0 + 1) a1.toNatClampNeg)) (fun x1 => if x1 < (1 : Int32) then (j_X3_fits_31 t0 a1 a2 a3 x1 σ) else (gd (ix a1 16) (if (f_X8_bit a2 (σ.1 (t0 + 2) a1.toNatClampNeg)) = (1 : Int32) then (j_X3_fits_31 t0 a1 a2 a3 x1 σ) else (some (0 : Int32))))))
set_option maxRecDepth 20000 in
theorem w_X3_fits_51 {D : va_G} {cy : Nat → ClassId} {ad : Nat → Nat} {p : Program} {l : Launch} {e : Env} {R : Room} {s : State} {m : MethodId} {args : Array Value} {below : List Frame} {meth : Method} {c : Code} (C : Cx 1 D cy ad p R s m args meth c cX3_fits 5 RX3 (some .boolean) 1) {t0 : Nat} {a1 : Int32} {a2 : Int32} {a3 : Int32} (ht0 : IsO 1 t0 3)   {σ : Mem} {H : Heap} {locs : List Loc} {ls : Array Slot} {r : Int32} (hw : Wd 1 D cy ad s σ H locs) (hl : lv_has ls 5 []) (h : j_X3_fits_51 t0 a1 a2 a3 σ = some r) : W p l e R s m args below meth c H locs 0 0 (QI 1 D cy ad below args s r σ) (F0 m 51 ls []) := by
  unfold j_X3_fits_51 at h
  refine lv_iconst (v := (1 : Int32)) C.1 C.2.1 dX3_fits_51 (by decide) ?_
  refine lv_goto (tgt := 56) C.1 C.2.1 dX3_fits_52 (by decide) ?_
  exact m_zret C hw (by decide) (ret_i h) dX3_fits_56
set_option maxRecDepth 20000 in
theorem w_X3_fits_31 {D : va_G} {cy : Nat → ClassId} {ad : Nat → Nat} {p : Program} {l : Launch} {e : Env} {R : Room} {s : State} {m : MethodId} {args : Array Value} {below : List Frame} {meth : Method} {c : Code} (C : Cx 1 D cy ad p R s m args meth c cX3_fits 5 RX3 (some .boolean) 1) {t0 : Nat} {a1 : Int32} {a2 : Int32} {a3 : Int32} (ht0 : IsO 1 t0 3) {v4 : Int32}  {σ : Mem} {H : Heap} {locs : List Loc} {ls : Array Slot} {r : Int32} (hw : Wd 1 D cy ad s σ H locs) (hl : lv_has ls 5 [(0, .ref (ad (t0))), (1, .int a1), (3, .int a3), (4, .int v4)]) (h : j_X3_fits_31 t0 a1 a2 a3 v4 σ = some r) : W p l e R s m args below meth c H locs 0 0 (QI 1 D cy ad below args s r σ) (F0 m 31 ls []) := by
  unfold j_X3_fits_31 at h
  refine lv_iload C.1 C.2.1 dX3_fits_31 (lv_at hl 3 rfl) ?_
  refine lv_iconst (v := (2 : Int32)) C.1 C.2.1 dX3_fits_33 (by decide) ?_
  refine lv_icmp_lt (tgt := 51) C.1 C.2.1 dX3_fits_34 (by decide) (fun cd => ?_) (fun cd => ?_)
  · have h := ite_t cd h
    exact w_X3_fits_51 C ht0 hw (lv_sub hl [] rfl) h
  · have h := ite_f cd h
    refine lv_iload_n C.1 C.2.1 dX3_fits_37 rfl (lv_at hl 2 rfl) ?_
    refine lv_aload_n C.1 C.2.1 dX3_fits_38 rfl (lv_at hl 0 rfl) ?_
    refine gf_X3_18 C hw ht0 dX3_fits_39 ?_
    refine lv_iload_n C.1 C.2.1 dX3_fits_42 rfl (lv_at hl 1 rfl) ?_
    obtain ⟨hin, h⟩ := gd_of h
    refine m_iald C hw (lawA2 ht0) hin dX3_fits_43 ?_
    refine go_I hw (run_SN (As := [.int _, .int _]) C hw (c_X8_bit C.2.2.2.2.2.2.2.2.2 _ _ _) mi_X8_bit ms_X8_bit lk_X3_66 (by decide) (by decide) rfl hl.1 rfl (Nat.le_of_ble_eq_true rfl) dX3_fits_44 ⟨Nat.le_refl 0, Nat.le_refl 0⟩) (fun H locs hw => ?_)
    refine lv_iconst (v := (1 : Int32)) C.1 C.2.1 dX3_fits_47 (by decide) ?_
    refine lv_icmp_ne (tgt := 55) C.1 C.2.1 dX3_fits_48 (by decide) (fun cd => ?_) (fun cd => ?_)
    · have h := ite_f cd h
      refine lv_iconst (v := (0 : Int32)) C.1 C.2.1 dX3_fits_55 (by decide) ?_
      exact m_zret C hw (by decide) (ret_i h) dX3_fits_56
    · have h := ite_t cd h
      exact w_X3_fits_51 C ht0 hw (lv_sub hl [] rfl) h
set_option maxRecDepth 20000 in
theorem c_X3_fits {l : Launch} {D : va_G} {cy : Nat → ClassId} {ad : Nat → Nat} (hj : InjW 1 ad) (t0 : Nat) (a1 : Int32) (a2 : Int32) (a3 : Int32) (ht0 : IsO 1 t0 3) (σ : Mem) (r : Int32) (h : f_X3_fits t0 a1 a2 a3 σ = some r) : CI 1 D cy ad l yX3_fits cX3_fits 5 (some .boolean) 1 [.ref (ad (t0)), .int a1, .int a2, .int a3] σ r σ := by
  refine CI.mk (by decide) hj (Nat.le_of_ble_eq_true rfl) (fun p e R s m below meth c ls C hw hl => ?_)
  have hl : lv_has ls 5 [(0, .ref (ad (t0))), (1, .int a1), (2, .int a2), (3, .int a3)] := hl
  generalize ([.ref (ad (t0)), .int a1, .int a2, .int a3] : List Value).toArray = args at C ⊢
  have C : Cx 1 D cy ad p R s m args meth c cX3_fits 5 RX3 (some .boolean) 1 := C
  unfold f_X3_fits at h
  refine lv_aload_n C.1 C.2.1 dX3_fits_0 rfl (lv_at hl 0 rfl) ?_
  refine gf_X3_9 C hw ht0 dX3_fits_1 ?_
  refine lv_iload_n C.1 C.2.1 dX3_fits_4 rfl (lv_at hl 1 rfl) ?_
  obtain ⟨hin, h⟩ := gd_of h
  refine m_iald C hw (lawA0 ht0) hin dX3_fits_5 ?_
  refine go_I hw (run_SN (As := [.int _]) C hw (c_X8_armsOf C.2.2.2.2.2.2.2.2.2 _ _) mi_X8_armsOf ms_X8_armsOf lk_X3_58 (by decide) (by decide) rfl hl.1 rfl (Nat.le_of_ble_eq_true rfl) dX3_fits_6 ⟨Nat.le_refl 0, Nat.le_refl 0⟩) (fun H locs hw => ?_)
  obtain ⟨x1, ex1, h⟩ := lt_of h
  refine m_topi ex1 ?_
  refine lv_istore (lv' := [(4, .int _), (0, .ref _), (1, .int _), (2, .int _), (3, .int _)]) C.1 C.2.1 dX3_fits_9 hl (by decide) rfl (fun ls hl => ?_)
  refine lv_iload C.1 C.2.1 dX3_fits_11 (lv_at hl 0 rfl) ?_
  refine lv_iconst (v := (1 : Int32)) C.1 C.2.1 dX3_fits_13 (by decide) ?_
  refine lv_icmp_lt (tgt := 31) C.1 C.2.1 dX3_fits_14 (by decide) (fun cd => ?_) (fun cd => ?_)
  · have h := ite_t cd h
    exact w_X3_fits_31 C ht0 hw (lv_sub hl [1, 2, 4, 0] rfl) h
  · have h := ite_f cd h
    refine lv_iload_n C.1 C.2.1 dX3_fits_17 rfl (lv_at hl 3 rfl) ?_
    refine lv_aload_n C.1 C.2.1 dX3_fits_18 rfl (lv_at hl 1 rfl) ?_
    refine gf_X3_15 C hw ht0 dX3_fits_19 ?_
    refine lv_iload_n C.1 C.2.1 dX3_fits_22 rfl (lv_at hl 2 rfl) ?_
    obtain ⟨hin, h⟩ := gd_of h
    refine m_iald C hw (lawA1 ht0) hin dX3_fits_23 ?_
    refine go_I hw (run_SN (As := [.int _, .int _]) C hw (c_X8_bit C.2.2.2.2.2.2.2.2.2 _ _ _) mi_X8_bit ms_X8_bit lk_X3_66 (by decide) (by decide) rfl hl.1 rfl (Nat.le_of_ble_eq_true rfl) dX3_fits_24 ⟨Nat.le_refl 0, Nat.le_refl 0⟩) (fun H locs hw => ?_)
    refine lv_iconst (v := (1 : Int32)) C.1 C.2.1 dX3_fits_27 (by decide) ?_
    refine lv_icmp_ne (tgt := 55) C.1 C.2.1 dX3_fits_28 (by decide) (fun cd => ?_) (fun cd => ?_)
    · have h := ite_f cd h
      refine lv_iconst (v := (0 : Int32)) C.1 C.2.1 dX3_fits_55 (by decide) ?_
      exact m_zret C hw (by decide) (ret_i h) dX3_fits_56
    · have h := ite_t cd h
      exact w_X3_fits_31 C ht0 hw (lv_sub hl [1, 2, 4, 0] rfl) h
noncomputable def j_X3_outcomes_62 (t0 : Nat) (a1 : Int32) (a2 : Int32) (a3 : Int32) (a4 : Int32) (v5 : Int32) (v6 : Int32) (σ : Mem) : Option ((Int32 × Int32) ⊕ Int32) :=
  lt (v6 + (1 : Int32)) (fun x1 => some (.inl (v5, x1)))
noncomputable def b_X3_outcomes_6 (t0 : Nat) (a1 : Int32) (a2 : Int32) (a3 : Int32) (a4 : Int32) (v5 : Int32) (v6 : Int32) (σ : Mem) : Option ((Int32 × Int32) ⊕ Int32) :=
  if (σ.1 t0 4) ≤ v6 then (some (.inr v5)) else (if (f_X8_bit a2 v6) = (1 : Int32) then (gd (ix v6 16) (if (σ.1 (t0 + 1) v6.toNatClampNeg) = a1 then ((f_X3_fits t0 v6 a3 a4 σ).bind (fun r2 => if r2 = 0 then (j_X3_outcomes_62 t0 a1 a2 a3 a4 v5 v6 σ) else (gd (ix v6 16) (lt (v5 ||| ((1 : Int32) <<< ((σ.1 (t0 + 4) v6.toNatClampNeg) &&& 31))) (fun x3 => j_X3_outcomes_62 t0 a1 a2 a3 a4 x3 v6 σ))))) else (j_X3_outcomes_62 t0 a1 a2 a3 a4 v5 v6 σ))) else (j_X3_outcomes_62 t0 a1 a2 a3 a4 v5 v6 σ))
noncomputable def f_X3_outcomes (t0 : Nat) (a1 : Int32) (a2 : Int32) (a3 : Int32) (a4 : Int32) (σ : Mem) : Option Int32 :=
  (Lim (T := Int32) (fun s => b_X3_outcomes_6 t0 a1 a2 a3 a4 s.1 s.2 σ) ((0 : Int32), (0 : Int32))).bind (fun r4 => some r4)
set_option maxRecDepth 20000 in
theorem w_X3_outcomes_62 {D : va_G} {cy : Nat → ClassId} {ad : Nat → Nat} {p : Program} {l : Launch} {e : Env} {R : Room} {s : State} {m : MethodId} {args : Array Value} {below : List Frame} {meth : Method} {c : Code} (C : Cx 1 D cy ad p R s m args meth c cX3_outcomes 7 RX3 (some .int) 2) {t0 : Nat} {a1 : Int32} {a2 : Int32} {a3 : Int32} {a4 : Int32} (ht0 : IsO 1 t0 3) {v5 : Int32} {v6 : Int32}  {σ : Mem} {H : Heap} {locs : List Loc} {ls : Array Slot} {Q : State → Prop} {P : (Int32 × Int32) → Prop} {r : Int32} {x : (Int32 × Int32) ⊕ Int32} (hx : LimQ P r x) (hP : ∀ u, P u → ∀ (H : Heap) (locs : List Loc) (ls : Array Slot), Wd 1 D cy ad s σ H locs → lv_has ls 7 [(0, .ref (ad (t0))), (1, .int a1), (2, .int a2), (3, .int a3), (4, .int a4), (5, .int u.1), (6, .int u.2)] → W p l e R s m args below meth c H locs 0 0 Q (F0 m 6 ls [])) (hE0 : ∀ (v5 : Int32), (v5 : Int32) = r → ∀ (H : Heap) (locs : List Loc) (ls : Array Slot), Wd 1 D cy ad s σ H locs → lv_has ls 7 [(5, .int v5)] → W p l e R s m args below meth c H locs 0 0 Q (F0 m 68 ls [])) (hw : Wd 1 D cy ad s σ H locs) (hl : lv_has ls 7 [(0, .ref (ad (t0))), (1, .int a1), (2, .int a2), (3, .int a3), (4, .int a4), (5, .int v5), (6, .int v6)]) (h : j_X3_outcomes_62 t0 a1 a2 a3 a4 v5 v6 σ = some x) : W p l e R s m args below meth c H locs 0 0 Q (F0 m 62 ls []) := by
  unfold j_X3_outcomes_62 at h
  obtain ⟨x1, ex1, h⟩ := lt_of h
  refine m_iinc (k := 6) (lv' := [(6, .int _), (0, .ref _), (1, .int _), (2, .int _), (3, .int _), (4, .int _), (5, .int _)]) C (1 : Int32) (by decide) dX3_outcomes_62 hl rfl ex1.symm (by decide) rfl (fun ls hl => ?_)
  refine lv_goto (tgt := 6) C.1 C.2.1 dX3_outcomes_65 (by decide) ?_
  obtain rfl := Option.some.inj h
  exact hP _ hx _ _ _ hw (lv_sub hl [1, 2, 3, 4, 5, 6, 0] rfl)
set_option maxRecDepth 20000 in
theorem w_X3_outcomes_6 {D : va_G} {cy : Nat → ClassId} {ad : Nat → Nat} {p : Program} {l : Launch} {e : Env} {R : Room} {s : State} {m : MethodId} {args : Array Value} {below : List Frame} {meth : Method} {c : Code} (C : Cx 1 D cy ad p R s m args meth c cX3_outcomes 7 RX3 (some .int) 2) {t0 : Nat} {a1 : Int32} {a2 : Int32} {a3 : Int32} {a4 : Int32} (ht0 : IsO 1 t0 3) {v5 : Int32} {v6 : Int32} {σ : Mem} {Q : State → Prop} {r : Int32} (hL : Lim (T := Int32) (fun s => b_X3_outcomes_6 t0 a1 a2 a3 a4 s.1 s.2 σ) (v5, v6) = some r) (hE0 : ∀ (v5 : Int32), (v5 : Int32) = r → ∀ (H : Heap) (locs : List Loc) (ls : Array Slot), Wd 1 D cy ad s σ H locs → lv_has ls 7 [(5, .int v5)] → W p l e R s m args below meth c H locs 0 0 Q (F0 m 68 ls [])) (H : Heap) (locs : List Loc) (ls : Array Slot) (hw : Wd 1 D cy ad s σ H locs) (hl : lv_has ls 7 [(0, .ref (ad (t0))), (1, .int a1), (2, .int a2), (3, .int a3), (4, .int a4), (5, .int v5), (6, .int v6)]) : W p l e R s m args below meth c H locs 0 0 Q (F0 m 6 ls []) := by
  refine Lim_ind hL (P := fun u => ∀ (H : Heap) (locs : List Loc) (ls : Array Slot), Wd 1 D cy ad s σ H locs → lv_has ls 7 [(0, .ref (ad (t0))), (1, .int a1), (2, .int a2), (3, .int a3), (4, .int a4), (5, .int u.1), (6, .int u.2)] → W p l e R s m args below meth c H locs 0 0 Q (F0 m 6 ls [])) (fun u x h hx H locs ls hw hl => ?_) H locs ls hw hl
  clear hL
  obtain ⟨v5, v6⟩ := u
  have h : b_X3_outcomes_6 t0 a1 a2 a3 a4 v5 v6 σ = some x := h
  have hw : Wd 1 D cy ad s σ H locs := hw
  have hl : lv_has ls 7 [(0, .ref (ad (t0))), (1, .int a1), (2, .int a2), (3, .int a3), (4, .int a4), (5, .int v5), (6, .int v6)] := hl
  have hP : ∀ (u : (Int32 × Int32)), (∀ (H : Heap) (locs : List Loc) (ls : Array Slot), Wd 1 D cy ad s σ H locs → lv_has ls 7 [(0, .ref (ad (t0))), (1, .int a1), (2, .int a2), (3, .int a3), (4, .int a4), (5, .int u.1), (6, .int u.2)] → W p l e R s m args below meth c H locs 0 0 Q (F0 m 6 ls [])) → ∀ (H : Heap) (locs : List Loc) (ls : Array Slot), Wd 1 D cy ad s σ H locs → lv_has ls 7 [(0, .ref (ad (t0))), (1, .int a1), (2, .int a2), (3, .int a3), (4, .int a4), (5, .int u.1), (6, .int u.2)] → W p l e R s m args below meth c H locs 0 0 Q (F0 m 6 ls []) := fun _ k => k
  unfold b_X3_outcomes_6 at h
  refine lv_iload C.1 C.2.1 dX3_outcomes_6 (lv_at hl 6 rfl) ?_
  refine lv_aload_n C.1 C.2.1 dX3_outcomes_8 rfl (lv_at hl 0 rfl) ?_
  refine gf_X3_24 C hw ht0 dX3_outcomes_9 ?_
  refine lv_icmp_ge (tgt := 68) C.1 C.2.1 dX3_outcomes_12 (by decide) (fun cd => ?_) (fun cd => ?_)
  · have h := ite_t cd h
    obtain rfl := Option.some.inj h
    exact hE0 _ hx _ _ _ hw (lv_sub hl [5] rfl)
  · have h := ite_f cd h
    refine lv_iload_n C.1 C.2.1 dX3_outcomes_15 rfl (lv_at hl 2 rfl) ?_
    refine lv_iload C.1 C.2.1 dX3_outcomes_16 (lv_at hl 6 rfl) ?_
    refine go_I hw (run_SN (As := [.int _, .int _]) C hw (c_X8_bit C.2.2.2.2.2.2.2.2.2 _ _ _) mi_X8_bit ms_X8_bit lk_X3_66 (by decide) (by decide) rfl hl.1 rfl (Nat.le_of_ble_eq_true rfl) dX3_outcomes_18 ⟨Nat.le_refl 0, Nat.le_refl 0⟩) (fun H locs hw => ?_)
    refine lv_iconst (v := (1 : Int32)) C.1 C.2.1 dX3_outcomes_21 (by decide) ?_
    refine lv_icmp_ne (tgt := 62) C.1 C.2.1 dX3_outcomes_22 (by decide) (fun cd => ?_) (fun cd => ?_)
    · have h := ite_f cd h
      exact w_X3_outcomes_62 C ht0 hx hP hE0 hw (lv_sub hl [0, 1, 2, 3, 4, 5, 6] rfl) h
    · have h := ite_t cd h
      refine lv_aload_n C.1 C.2.1 dX3_outcomes_25 rfl (lv_at hl 0 rfl) ?_
      refine gf_X3_9 C hw ht0 dX3_outcomes_26 ?_
      refine lv_iload C.1 C.2.1 dX3_outcomes_29 (lv_at hl 6 rfl) ?_
      obtain ⟨hin, h⟩ := gd_of h
      refine m_iald C hw (lawA0 ht0) hin dX3_outcomes_31 ?_
      refine lv_iload_n C.1 C.2.1 dX3_outcomes_32 rfl (lv_at hl 1 rfl) ?_
      refine lv_icmp_ne (tgt := 62) C.1 C.2.1 dX3_outcomes_33 (by decide) (fun cd => ?_) (fun cd => ?_)
      · have h := ite_f cd h
        exact w_X3_outcomes_62 C ht0 hx hP hE0 hw (lv_sub hl [0, 1, 2, 3, 4, 5, 6] rfl) h
      · have h := ite_t cd h
        refine lv_aload_n C.1 C.2.1 dX3_outcomes_36 rfl (lv_at hl 0 rfl) ?_
        refine lv_iload C.1 C.2.1 dX3_outcomes_37 (lv_at hl 6 rfl) ?_
        refine lv_iload_n C.1 C.2.1 dX3_outcomes_39 rfl (lv_at hl 3 rfl) ?_
        refine lv_iload C.1 C.2.1 dX3_outcomes_40 (lv_at hl 4 rfl) ?_
        obtain ⟨r2, h1, h⟩ := bS h
        refine go_I hw (run_V (As := [.int _, .int _, .int _]) C hw (c_X3_fits C.2.2.2.2.2.2.2.2.2 _ _ _ _ ht0 _ _ h1) mi_X3_fits mv_X3_fits ht0 (ci := 3) rfl rfl lk_X3_70 (by decide) (by decide) rfl hl.1 rfl (Nat.le_of_ble_eq_true rfl) dX3_outcomes_42 ⟨Nat.le_refl 0, Nat.le_refl 0⟩) (fun H locs hw => ?_)
        refine lv_if_eq (tgt := 62) C.1 C.2.1 dX3_outcomes_45 (by decide) (fun cd => ?_) (fun cd => ?_)
        · have h := ite_t cd h
          exact w_X3_outcomes_62 C ht0 hx hP hE0 hw (lv_sub hl [0, 1, 2, 3, 4, 5, 6] rfl) h
        · have h := ite_f cd h
          refine lv_iload C.1 C.2.1 dX3_outcomes_48 (lv_at hl 5 rfl) ?_
          refine lv_iconst (v := (1 : Int32)) C.1 C.2.1 dX3_outcomes_50 (by decide) ?_
          refine lv_aload_n C.1 C.2.1 dX3_outcomes_51 rfl (lv_at hl 0 rfl) ?_
          refine gf_X3_21 C hw ht0 dX3_outcomes_52 ?_
          refine lv_iload C.1 C.2.1 dX3_outcomes_55 (lv_at hl 6 rfl) ?_
          obtain ⟨hin, h⟩ := gd_of h
          refine m_iald C hw (lawA3 ht0) hin dX3_outcomes_57 ?_
          refine lv_ishl C.1 C.2.1 dX3_outcomes_58 ?_
          refine lv_ior C.1 C.2.1 dX3_outcomes_59 ?_
          obtain ⟨x3, ex3, h⟩ := lt_of h
          refine m_topi ex3 ?_
          refine lv_istore (lv' := [(5, .int _), (0, .ref _), (1, .int _), (2, .int _), (3, .int _), (4, .int _), (6, .int _)]) C.1 C.2.1 dX3_outcomes_60 hl (by decide) rfl (fun ls hl => ?_)
          exact w_X3_outcomes_62 C ht0 hx hP hE0 hw (lv_sub hl [1, 2, 3, 4, 5, 0, 6] rfl) h
set_option maxRecDepth 20000 in
theorem c_X3_outcomes {l : Launch} {D : va_G} {cy : Nat → ClassId} {ad : Nat → Nat} (hj : InjW 1 ad) (t0 : Nat) (a1 : Int32) (a2 : Int32) (a3 : Int32) (a4 : Int32) (ht0 : IsO 1 t0 3) (σ : Mem) (r : Int32) (h : f_X3_outcomes t0 a1 a2 a3 a4 σ = some r) : CI 1 D cy ad l yX3_outcomes cX3_outcomes 7 (some .int) 2 [.ref (ad (t0)), .int a1, .int a2, .int a3, .int a4] σ r σ := by
  refine CI.mk (by decide) hj (Nat.le_of_ble_eq_true rfl) (fun p e R s m below meth c ls C hw hl => ?_)
  have hl : lv_has ls 7 [(0, .ref (ad (t0))), (1, .int a1), (2, .int a2), (3, .int a3), (4, .int a4)] := hl
  generalize ([.ref (ad (t0)), .int a1, .int a2, .int a3, .int a4] : List Value).toArray = args at C ⊢
  have C : Cx 1 D cy ad p R s m args meth c cX3_outcomes 7 RX3 (some .int) 2 := C
  unfold f_X3_outcomes at h
  refine lv_iconst (v := (0 : Int32)) C.1 C.2.1 dX3_outcomes_0 (by decide) ?_
  refine lv_istore (lv' := [(5, .int _), (0, .ref _), (1, .int _), (2, .int _), (3, .int _), (4, .int _)]) C.1 C.2.1 dX3_outcomes_1 hl (by decide) rfl (fun ls hl => ?_)
  refine lv_iconst (v := (0 : Int32)) C.1 C.2.1 dX3_outcomes_3 (by decide) ?_
  refine lv_istore (lv' := [(6, .int _), (5, .int _), (0, .ref _), (1, .int _), (2, .int _), (3, .int _), (4, .int _)]) C.1 C.2.1 dX3_outcomes_4 hl (by decide) rfl (fun ls hl => ?_)
  obtain ⟨r4, hL, h⟩ := bS h
  refine w_X3_outcomes_6 C ht0  hL (fun y0 hr H locs ls hw hl => ?_) _ _ _ hw (lv_sub hl [2, 3, 4, 5, 6, 1, 0] rfl)
  · subst hr
    try dsimp only at h
    try dsimp only at hw
    try dsimp only at hl
    refine lv_iload C.1 C.2.1 dX3_outcomes_68 (lv_at hl 0 rfl) ?_
    exact m_iret C hw (ret_i h) dX3_outcomes_70
noncomputable def b_X0_come_8 (t1 : Nat) (t2 : Nat) (a3 : Int32) (v4 : Int32) (σ : Mem) : Option ((Int32 × Mem) ⊕ Mem) :=
  if v4 < 0 then (some (.inr σ)) else (gd (ix v4 31) ((f_X0_comesOf t1 (v4 + (1 : Int32)) σ).bind (fun r2 => (f_X7_secondArm t1 v4 σ).bind (fun r3 => (f_X0_comesOf t1 r3 σ).bind (fun r4 => (f_X3_outcomes t2 (σ.1 (t1 + 1) v4.toNatClampNeg) a3 r2 r4 σ).bind (fun r5 => gd (ix v4 31) (lt (sI σ 5 v4.toNatClampNeg r5) (fun σ6 => lt (v4 + (-1 : Int32)) (fun x7 => some (.inl (x7, σ6)))))))))))
noncomputable def f_X0_come (t1 : Nat) (t2 : Nat) (a3 : Int32) (σ : Mem) : Option Mem :=
  lt ((σ.1 t1 4) - (1 : Int32)) (fun x1 => (Lim (T := Mem) (fun s => b_X0_come_8 t1 t2 a3 s.1 s.2) (x1, σ)).bind (fun r8 => some r8))
set_option maxRecDepth 20000 in
theorem w_X0_come_8 {D : va_G} {cy : Nat → ClassId} {ad : Nat → Nat} {p : Program} {l : Launch} {e : Env} {R : Room} {s : State} {m : MethodId} {args : Array Value} {below : List Frame} {meth : Method} {c : Code} (C : Cx 1 D cy ad p R s m args meth c cX0_come 5 RX0 none 3) {t1 : Nat} {t2 : Nat} {a3 : Int32} (ht1 : IsO 1 t1 7) (ht2 : IsO 1 t2 3) {v4 : Int32} {σ : Mem} {Q : State → Prop} {r : Mem} (hL : Lim (T := Mem) (fun s => b_X0_come_8 t1 t2 a3 s.1 s.2) (v4, σ) = some r) (hE0 : ∀ (σ1 : Mem), (σ1 : Mem) = r → ∀ (H : Heap) (locs : List Loc) (ls : Array Slot), Wd 1 D cy ad s σ1 H locs → lv_has ls 5 [] → W p l e R s m args below meth c H locs 0 0 Q (F0 m 58 ls [])) (H : Heap) (locs : List Loc) (ls : Array Slot) (hw : Wd 1 D cy ad s σ H locs) (hl : lv_has ls 5 [(0, .ref (ad (4))), (1, .ref (ad (t1))), (2, .ref (ad (t2))), (3, .int a3), (4, .int v4)]) : W p l e R s m args below meth c H locs 0 0 Q (F0 m 8 ls []) := by
  refine Lim_ind hL (P := fun u => ∀ (H : Heap) (locs : List Loc) (ls : Array Slot), Wd 1 D cy ad s u.2 H locs → lv_has ls 5 [(0, .ref (ad (4))), (1, .ref (ad (t1))), (2, .ref (ad (t2))), (3, .int a3), (4, .int u.1)] → W p l e R s m args below meth c H locs 0 0 Q (F0 m 8 ls [])) (fun u x h hx H locs ls hw hl => ?_) H locs ls hw hl
  clear hL
  obtain ⟨v4, σ⟩ := u
  have h : b_X0_come_8 t1 t2 a3 v4 σ = some x := h
  have hw : Wd 1 D cy ad s σ H locs := hw
  have hl : lv_has ls 5 [(0, .ref (ad (4))), (1, .ref (ad (t1))), (2, .ref (ad (t2))), (3, .int a3), (4, .int v4)] := hl
  have hP : ∀ (u : (Int32 × Mem)), (∀ (H : Heap) (locs : List Loc) (ls : Array Slot), Wd 1 D cy ad s u.2 H locs → lv_has ls 5 [(0, .ref (ad (4))), (1, .ref (ad (t1))), (2, .ref (ad (t2))), (3, .int a3), (4, .int u.1)] → W p l e R s m args below meth c H locs 0 0 Q (F0 m 8 ls [])) → ∀ (H : Heap) (locs : List Loc) (ls : Array Slot), Wd 1 D cy ad s u.2 H locs → lv_has ls 5 [(0, .ref (ad (4))), (1, .ref (ad (t1))), (2, .ref (ad (t2))), (3, .int a3), (4, .int u.1)] → W p l e R s m args below meth c H locs 0 0 Q (F0 m 8 ls []) := fun _ k => k
  unfold b_X0_come_8 at h
  refine lv_iload C.1 C.2.1 dX0_come_8 (lv_at hl 4 rfl) ?_
  refine lv_if_lt (tgt := 58) C.1 C.2.1 dX0_come_10 (by decide) (fun cd => ?_) (fun cd => ?_)
  · have h := ite_t cd h
    obtain rfl := Option.some.inj h
    exact hE0 _ hx _ _ _ hw (lv_sub hl [] rfl)
  · have h := ite_f cd h
    refine lv_aload_n C.1 C.2.1 dX0_come_13 rfl (lv_at hl 0 rfl) ?_
    refine gf_X0_9 C hw dX0_come_14 ?_
    refine lv_iload C.1 C.2.1 dX0_come_17 (lv_at hl 4 rfl) ?_
    refine lv_aload_n C.1 C.2.1 dX0_come_19 rfl (lv_at hl 2 rfl) ?_
    refine lv_aload_n C.1 C.2.1 dX0_come_20 rfl (lv_at hl 1 rfl) ?_
    refine gf_X0_31 C hw ht1 dX0_come_21 ?_
    refine lv_iload C.1 C.2.1 dX0_come_24 (lv_at hl 4 rfl) ?_
    obtain ⟨hin, h⟩ := gd_of h
    refine m_iald C hw (treeA0 ht1) hin dX0_come_26 ?_
    refine lv_iload_n C.1 C.2.1 dX0_come_27 rfl (lv_at hl 3 rfl) ?_
    refine lv_aload_n C.1 C.2.1 dX0_come_28 rfl (lv_at hl 0 rfl) ?_
    refine lv_aload_n C.1 C.2.1 dX0_come_29 rfl (lv_at hl 1 rfl) ?_
    refine lv_iload C.1 C.2.1 dX0_come_30 (lv_at hl 4 rfl) ?_
    refine lv_iconst (v := (1 : Int32)) C.1 C.2.1 dX0_come_32 (by decide) ?_
    refine lv_iadd C.1 C.2.1 dX0_come_33 ?_
    obtain ⟨r2, h1, h⟩ := bS h
    refine go_I hw (run_V (As := [.ref _, .int _]) C hw (c_X0_comesOf C.2.2.2.2.2.2.2.2.2 _ _ ht1 _ _ h1) mi_X0_comesOf mv_X0_comesOf o1_4 (ci := 0) rfl rfl lk_X0_34 (by decide) (by decide) rfl hl.1 rfl (Nat.le_of_ble_eq_true rfl) dX0_come_34 ⟨Nat.le_refl 0, Nat.le_refl 0⟩) (fun H locs hw => ?_)
    refine lv_aload_n C.1 C.2.1 dX0_come_37 rfl (lv_at hl 0 rfl) ?_
    refine lv_aload_n C.1 C.2.1 dX0_come_38 rfl (lv_at hl 1 rfl) ?_
    refine lv_aload_n C.1 C.2.1 dX0_come_39 rfl (lv_at hl 1 rfl) ?_
    refine lv_iload C.1 C.2.1 dX0_come_40 (lv_at hl 4 rfl) ?_
    obtain ⟨r3, h1, h⟩ := bS h
    refine go_I hw (run_V (As := [.int _]) C hw (c_X7_secondArm C.2.2.2.2.2.2.2.2.2 _ _ ht1 _ _ h1) mi_X7_secondArm mv_X7_secondArm ht1 (ci := 7) rfl rfl lk_X0_38 (by decide) (by decide) rfl hl.1 rfl (Nat.le_of_ble_eq_true rfl) dX0_come_42 ⟨Nat.le_refl 0, Nat.le_refl 0⟩) (fun H locs hw => ?_)
    obtain ⟨r4, h1, h⟩ := bS h
    refine go_I hw (run_V (As := [.ref _, .int _]) C hw (c_X0_comesOf C.2.2.2.2.2.2.2.2.2 _ _ ht1 _ _ h1) mi_X0_comesOf mv_X0_comesOf o1_4 (ci := 0) rfl rfl lk_X0_34 (by decide) (by decide) rfl hl.1 rfl (Nat.le_of_ble_eq_true rfl) dX0_come_45 ⟨Nat.le_refl 0, Nat.le_refl 0⟩) (fun H locs hw => ?_)
    obtain ⟨r5, h1, h⟩ := bS h
    refine go_I hw (run_V (As := [.int _, .int _, .int _, .int _]) C hw (c_X3_outcomes C.2.2.2.2.2.2.2.2.2 _ _ _ _ _ ht2 _ _ h1) mi_X3_outcomes mv_X3_outcomes ht2 (ci := 3) rfl rfl lk_X0_42 (by decide) (by decide) rfl hl.1 rfl (Nat.le_of_ble_eq_true rfl) dX0_come_48 ⟨Nat.le_refl 0, Nat.le_refl 0⟩) (fun H locs hw => ?_)
    obtain ⟨hin, h⟩ := gd_of h
    refine m_iast C hw a1_5 hin dX0_come_51 (fun H locs hw => ?_)
    obtain ⟨σ6, eσ6, h⟩ := lt_of h
    rw [← eσ6] at hw
    obtain ⟨x7, ex7, h⟩ := lt_of h
    refine m_iinc (k := 4) (lv' := [(4, .int _), (0, .ref _), (1, .ref _), (2, .ref _), (3, .int _)]) C (-1 : Int32) (by decide) dX0_come_52 hl rfl ex7.symm (by decide) rfl (fun ls hl => ?_)
    refine lv_goto (tgt := 8) C.1 C.2.1 dX0_come_55 (by decide) ?_
    obtain rfl := Option.some.inj h
    exact hP _ hx _ _ _ hw (lv_sub hl [1, 2, 3, 4, 0] rfl)
set_option maxRecDepth 20000 in
theorem c_X0_come {l : Launch} {D : va_G} {cy : Nat → ClassId} {ad : Nat → Nat} (hj : InjW 1 ad) (t1 : Nat) (t2 : Nat) (a3 : Int32) (ht1 : IsO 1 t1 7) (ht2 : IsO 1 t2 3) (σ : Mem) (r : Mem) (h : f_X0_come t1 t2 a3 σ = some r) : CV 1 D cy ad l yX0_come cX0_come 5 none 3 [.ref (ad (4)), .ref (ad (t1)), .ref (ad (t2)), .int a3] σ r := by
  refine CV.mk (by decide) hj (Nat.le_of_ble_eq_true rfl) (fun p e R s m below meth c ls C hw hl => ?_)
  have hl : lv_has ls 5 [(0, .ref (ad (4))), (1, .ref (ad (t1))), (2, .ref (ad (t2))), (3, .int a3)] := hl
  generalize ([.ref (ad (4)), .ref (ad (t1)), .ref (ad (t2)), .int a3] : List Value).toArray = args at C ⊢
  have C : Cx 1 D cy ad p R s m args meth c cX0_come 5 RX0 none 3 := C
  unfold f_X0_come at h
  refine lv_aload_n C.1 C.2.1 dX0_come_0 rfl (lv_at hl 1 rfl) ?_
  refine gf_X0_25 C hw ht1 dX0_come_1 ?_
  refine lv_iconst (v := (1 : Int32)) C.1 C.2.1 dX0_come_4 (by decide) ?_
  refine lv_isub C.1 C.2.1 dX0_come_5 ?_
  obtain ⟨x1, ex1, h⟩ := lt_of h
  refine m_topi ex1 ?_
  refine lv_istore (lv' := [(4, .int _), (0, .ref _), (1, .ref _), (2, .ref _), (3, .int _)]) C.1 C.2.1 dX0_come_6 hl (by decide) rfl (fun ls hl => ?_)
  obtain ⟨r8, hL, h⟩ := bS h
  refine w_X0_come_8 C ht1 ht2  hL (fun y0 hr H locs ls hw hl => ?_) _ _ _ hw (lv_sub hl [1, 2, 3, 4, 0] rfl)
  · subst hr
    try dsimp only at h
    try dsimp only at hw
    try dsimp only at hl
    exact m_vret C hw (Option.some.inj h) dX0_come_58
def f_X8_isState (a0 : Int32) : Int32 :=
  if a0 < 0 then ((0 : Int32)) else (if (6 : Int32) ≤ a0 then ((0 : Int32)) else ((1 : Int32)))
set_option maxRecDepth 20000 in
theorem c_X8_isState {l : Launch} {D : va_G} {cy : Nat → ClassId} {ad : Nat → Nat} (hj : InjW 1 ad) (a0 : Int32)  (σ : Mem) : CI 1 D cy ad l yX8_isState cX8_isState 1 (some .boolean) 0 [.int a0] σ (f_X8_isState a0) σ := by
  refine CI.mk (by decide) hj (Nat.le_of_ble_eq_true rfl) (fun p e R s m below meth c ls C hw hl => ?_)
  have hl : lv_has ls 1 [(0, .int a0)] := hl
  generalize ([.int a0] : List Value).toArray = args at C ⊢
  have C : Cx 1 D cy ad p R s m args meth c cX8_isState 1 RX8 (some .boolean) 0 := C
  obtain ⟨r, h⟩ : ∃ r, f_X8_isState a0 = r := ⟨_, rfl⟩
  rw [h]
  unfold f_X8_isState at h
  refine lv_iload_n C.1 C.2.1 dX8_isState_0 rfl (lv_at hl 0 rfl) ?_
  refine lv_if_lt (tgt := 14) C.1 C.2.1 dX8_isState_1 (by decide) (fun cd => ?_) (fun cd => ?_)
  · have h := ite_t cd h
    refine lv_iconst (v := (0 : Int32)) C.1 C.2.1 dX8_isState_14 (by decide) ?_
    exact m_zret C hw (by decide) ⟨h, rfl⟩ dX8_isState_15
  · have h := ite_f cd h
    refine lv_iload_n C.1 C.2.1 dX8_isState_4 rfl (lv_at hl 0 rfl) ?_
    refine lv_bipush (v := (6 : Int32)) C.1 C.2.1 dX8_isState_5 (by decide) ?_
    refine lv_icmp_ge (tgt := 14) C.1 C.2.1 dX8_isState_7 (by decide) (fun cd => ?_) (fun cd => ?_)
    · have h := ite_t cd h
      refine lv_iconst (v := (0 : Int32)) C.1 C.2.1 dX8_isState_14 (by decide) ?_
      exact m_zret C hw (by decide) ⟨h, rfl⟩ dX8_isState_15
    · have h := ite_f cd h
      refine lv_iconst (v := (1 : Int32)) C.1 C.2.1 dX8_isState_10 (by decide) ?_
      refine lv_goto (tgt := 15) C.1 C.2.1 dX8_isState_11 (by decide) ?_
      exact m_zret C hw (by decide) ⟨h, rfl⟩ dX8_isState_15
def f_X0_placeOf (t0 : Nat) (a1 : Int32) (a2 : Int32) (σ : Mem) : Int32 :=
  if (f_X7_has t0 a1 σ) = 0 then ((-1 : Int32)) else (if (f_X8_isState a2) = 0 then ((-1 : Int32)) else ((a1 * (6 : Int32)) + a2))
set_option maxRecDepth 20000 in
theorem c_X0_placeOf {l : Launch} {D : va_G} {cy : Nat → ClassId} {ad : Nat → Nat} (hj : InjW 1 ad) (t0 : Nat) (a1 : Int32) (a2 : Int32) (ht0 : IsO 1 t0 7) (σ : Mem) : CI 1 D cy ad l yX0_placeOf cX0_placeOf 3 (some .int) 1 [.ref (ad (t0)), .int a1, .int a2] σ (f_X0_placeOf t0 a1 a2 σ) σ := by
  refine CI.mk (by decide) hj (Nat.le_of_ble_eq_true rfl) (fun p e R s m below meth c ls C hw hl => ?_)
  have hl : lv_has ls 3 [(0, .ref (ad (t0))), (1, .int a1), (2, .int a2)] := hl
  generalize ([.ref (ad (t0)), .int a1, .int a2] : List Value).toArray = args at C ⊢
  have C : Cx 1 D cy ad p R s m args meth c cX0_placeOf 3 RX0 (some .int) 1 := C
  obtain ⟨r, h⟩ : ∃ r, f_X0_placeOf t0 a1 a2 σ = r := ⟨_, rfl⟩
  rw [h]
  unfold f_X0_placeOf at h
  refine lv_aload_n C.1 C.2.1 dX0_placeOf_0 rfl (lv_at hl 0 rfl) ?_
  refine lv_iload_n C.1 C.2.1 dX0_placeOf_1 rfl (lv_at hl 1 rfl) ?_
  refine go_I hw (run_V (As := [.int _]) C hw (c_X7_has C.2.2.2.2.2.2.2.2.2 _ _ ht0 _) mi_X7_has mv_X7_has ht0 (ci := 7) rfl rfl lk_X0_48 (by decide) (by decide) rfl hl.1 rfl (Nat.le_of_ble_eq_true rfl) dX0_placeOf_2 ⟨Nat.le_refl 0, Nat.le_refl 0⟩) (fun H locs hw => ?_)
  refine lv_if_eq (tgt := 24) C.1 C.2.1 dX0_placeOf_5 (by decide) (fun cd => ?_) (fun cd => ?_)
  · have h := ite_t cd h
    refine lv_iconst (v := (-1 : Int32)) C.1 C.2.1 dX0_placeOf_24 (by decide) ?_
    exact m_iret C hw ⟨h, rfl⟩ dX0_placeOf_25
  · have h := ite_f cd h
    refine lv_iload_n C.1 C.2.1 dX0_placeOf_8 rfl (lv_at hl 2 rfl) ?_
    refine go_I hw (run_SN (As := [.int _]) C hw (c_X8_isState C.2.2.2.2.2.2.2.2.2 _ _) mi_X8_isState ms_X8_isState lk_X0_52 (by decide) (by decide) rfl hl.1 rfl (Nat.le_of_ble_eq_true rfl) dX0_placeOf_9 ⟨Nat.le_refl 0, Nat.le_refl 0⟩) (fun H locs hw => ?_)
    refine lv_if_eq (tgt := 24) C.1 C.2.1 dX0_placeOf_12 (by decide) (fun cd => ?_) (fun cd => ?_)
    · have h := ite_t cd h
      refine lv_iconst (v := (-1 : Int32)) C.1 C.2.1 dX0_placeOf_24 (by decide) ?_
      exact m_iret C hw ⟨h, rfl⟩ dX0_placeOf_25
    · have h := ite_f cd h
      refine lv_iload_n C.1 C.2.1 dX0_placeOf_15 rfl (lv_at hl 1 rfl) ?_
      refine lv_bipush (v := (6 : Int32)) C.1 C.2.1 dX0_placeOf_16 (by decide) ?_
      refine lv_imul C.1 C.2.1 dX0_placeOf_18 ?_
      refine lv_iload_n C.1 C.2.1 dX0_placeOf_19 rfl (lv_at hl 2 rfl) ?_
      refine lv_iadd C.1 C.2.1 dX0_placeOf_20 ?_
      refine lv_goto (tgt := 25) C.1 C.2.1 dX0_placeOf_21 (by decide) ?_
      exact m_iret C hw ⟨h, rfl⟩ dX0_placeOf_25
noncomputable def j_X0_waysBy_103 (t1 : Nat) (t2 : Nat) (a3 : Int32) (a4 : Int32) (v6 : Int64) (σ : Mem) : Option Int64 :=
  some v6
noncomputable def j_X0_waysBy_101 (t1 : Nat) (t2 : Nat) (a3 : Int32) (a4 : Int32) (z0 : Int64) (σ : Mem) : Option Int64 :=
  j_X0_waysBy_103 t1 t2 a3 a4 z0 σ
noncomputable def j_X0_waysBy_54 (t1 : Nat) (t2 : Nat) (a3 : Int32) (a4 : Int32) (v5 : Int32) (v6 : Int64) (σ : Mem) : Option Int64 :=
  if v5 ≤ (1 : Int32) then (j_X0_waysBy_103 t1 t2 a3 a4 v6 σ) else ((f_X7_secondArm t1 a3 σ).bind (fun r2 => gd (ix a4 16) (lt (f_X0_placeOf t1 r2 (σ.1 (t2 + 3) a4.toNatClampNeg) σ) (fun x3 => if 0 ≤ x3 then (gd (ix x3 186) (j_X0_waysBy_101 t1 t2 a3 a4 ((v6 * (σ.2.1 6 x3.toNatClampNeg)) - (v6 * (σ.2.1 6 x3.toNatClampNeg)) / (1000003 : Int64) * (1000003 : Int64)) σ)) else (j_X0_waysBy_101 t1 t2 a3 a4 (0 : Int64) σ)))))
noncomputable def j_X0_waysBy_52 (t1 : Nat) (t2 : Nat) (a3 : Int32) (a4 : Int32) (z0 : Int64) (v5 : Int32) (σ : Mem) : Option Int64 :=
  j_X0_waysBy_54 t1 t2 a3 a4 v5 z0 σ
noncomputable def f_X0_waysBy (t1 : Nat) (t2 : Nat) (a3 : Int32) (a4 : Int32) (σ : Mem) : Option Int64 :=
  gd (ix a4 16) (lt (f_X8_armsOf (σ.1 (t2 + 1) a4.toNatClampNeg)) (fun x1 => if x1 ≤ 0 then (j_X0_waysBy_54 t1 t2 a3 a4 x1 (1 : Int64) σ) else (gd (ix a4 16) (lt (f_X0_placeOf t1 (a3 + (1 : Int32)) (σ.1 (t2 + 2) a4.toNatClampNeg) σ) (fun x4 => if 0 ≤ x4 then (gd (ix x4 186) (j_X0_waysBy_52 t1 t2 a3 a4 (σ.2.1 6 x4.toNatClampNeg) x1 σ)) else (j_X0_waysBy_52 t1 t2 a3 a4 (0 : Int64) x1 σ))))))
set_option maxRecDepth 20000 in
theorem w_X0_waysBy_103 {D : va_G} {cy : Nat → ClassId} {ad : Nat → Nat} {p : Program} {l : Launch} {e : Env} {R : Room} {s : State} {m : MethodId} {args : Array Value} {below : List Frame} {meth : Method} {c : Code} (C : Cx 1 D cy ad p R s m args meth c cX0_waysBy 9 RX0 (some .long) 2) {t1 : Nat} {t2 : Nat} {a3 : Int32} {a4 : Int32} (ht1 : IsO 1 t1 7) (ht2 : IsO 1 t2 3) {v6 : Int64}  {σ : Mem} {H : Heap} {locs : List Loc} {ls : Array Slot} {r : Int64} (hw : Wd 1 D cy ad s σ H locs) (hl : lv_has ls 9 [(6, .long v6)]) (h : j_X0_waysBy_103 t1 t2 a3 a4 v6 σ = some r) : W p l e R s m args below meth c H locs 0 0 (QL 1 D cy ad below args s r σ) (F0 m 103 ls []) := by
  unfold j_X0_waysBy_103 at h
  refine lv_lload C.1 C.2.1 dX0_waysBy_103 (lv_at hl 0 rfl) ?_
  exact m_lret C hw (ret_i h) dX0_waysBy_105
set_option maxRecDepth 20000 in
theorem w_X0_waysBy_101 {D : va_G} {cy : Nat → ClassId} {ad : Nat → Nat} {p : Program} {l : Launch} {e : Env} {R : Room} {s : State} {m : MethodId} {args : Array Value} {below : List Frame} {meth : Method} {c : Code} (C : Cx 1 D cy ad p R s m args meth c cX0_waysBy 9 RX0 (some .long) 2) {t1 : Nat} {t2 : Nat} {a3 : Int32} {a4 : Int32} (ht1 : IsO 1 t1 7) (ht2 : IsO 1 t2 3) {z0 : Int64}  {σ : Mem} {H : Heap} {locs : List Loc} {ls : Array Slot} {r : Int64} (hw : Wd 1 D cy ad s σ H locs) (hl : lv_has ls 9 []) (h : j_X0_waysBy_101 t1 t2 a3 a4 z0 σ = some r) : W p l e R s m args below meth c H locs 0 0 (QL 1 D cy ad below args s r σ) (F0 m 101 ls [.long z0]) := by
  unfold j_X0_waysBy_101 at h
  refine lv_lstore (lv' := [(6, .long _)]) C.1 C.2.1 dX0_waysBy_101 hl (by decide) rfl (fun ls hl => ?_)
  exact w_X0_waysBy_103 C ht1 ht2 hw (lv_sub hl [0] rfl) h
set_option maxRecDepth 20000 in
theorem w_X0_waysBy_54 {D : va_G} {cy : Nat → ClassId} {ad : Nat → Nat} {p : Program} {l : Launch} {e : Env} {R : Room} {s : State} {m : MethodId} {args : Array Value} {below : List Frame} {meth : Method} {c : Code} (C : Cx 1 D cy ad p R s m args meth c cX0_waysBy 9 RX0 (some .long) 2) {t1 : Nat} {t2 : Nat} {a3 : Int32} {a4 : Int32} (ht1 : IsO 1 t1 7) (ht2 : IsO 1 t2 3) {v5 : Int32} {v6 : Int64}  {σ : Mem} {H : Heap} {locs : List Loc} {ls : Array Slot} {r : Int64} (hw : Wd 1 D cy ad s σ H locs) (hl : lv_has ls 9 [(0, .ref (ad (4))), (1, .ref (ad (t1))), (2, .ref (ad (t2))), (3, .int a3), (4, .int a4), (5, .int v5), (6, .long v6)]) (h : j_X0_waysBy_54 t1 t2 a3 a4 v5 v6 σ = some r) : W p l e R s m args below meth c H locs 0 0 (QL 1 D cy ad below args s r σ) (F0 m 54 ls []) := by
  unfold j_X0_waysBy_54 at h
  refine lv_iload C.1 C.2.1 dX0_waysBy_54 (lv_at hl 5 rfl) ?_
  refine lv_iconst (v := (1 : Int32)) C.1 C.2.1 dX0_waysBy_56 (by decide) ?_
  refine lv_icmp_le (tgt := 103) C.1 C.2.1 dX0_waysBy_57 (by decide) (fun cd => ?_) (fun cd => ?_)
  · have h := ite_t cd h
    exact w_X0_waysBy_103 C ht1 ht2 hw (lv_sub hl [6] rfl) h
  · have h := ite_f cd h
    refine lv_aload_n C.1 C.2.1 dX0_waysBy_60 rfl (lv_at hl 1 rfl) ?_
    refine lv_aload_n C.1 C.2.1 dX0_waysBy_61 rfl (lv_at hl 1 rfl) ?_
    refine lv_iload_n C.1 C.2.1 dX0_waysBy_62 rfl (lv_at hl 3 rfl) ?_
    obtain ⟨r2, h1, h⟩ := bS h
    refine go_I hw (run_V (As := [.int _]) C hw (c_X7_secondArm C.2.2.2.2.2.2.2.2.2 _ _ ht1 _ _ h1) mi_X7_secondArm mv_X7_secondArm ht1 (ci := 7) rfl rfl lk_X0_38 (by decide) (by decide) rfl hl.1 rfl (Nat.le_of_ble_eq_true rfl) dX0_waysBy_63 ⟨Nat.le_refl 0, Nat.le_refl 0⟩) (fun H locs hw => ?_)
    refine lv_aload_n C.1 C.2.1 dX0_waysBy_66 rfl (lv_at hl 2 rfl) ?_
    refine gf_X0_80 C hw ht2 dX0_waysBy_67 ?_
    refine lv_iload C.1 C.2.1 dX0_waysBy_70 (lv_at hl 4 rfl) ?_
    obtain ⟨hin, h⟩ := gd_of h
    refine m_iald C hw (lawA2 ht2) hin dX0_waysBy_72 ?_
    refine go_I hw (run_S (As := [.ref _, .int _, .int _]) C hw (c_X0_placeOf C.2.2.2.2.2.2.2.2.2 _ _ _ ht1 _) mi_X0_placeOf ms_X0_placeOf lk_X0_76 (by decide) (by decide) rfl hl.1 rfl (Nat.le_of_ble_eq_true rfl) dX0_waysBy_73 ⟨Nat.le_refl 0, Nat.le_refl 0⟩) (fun H locs hw => ?_)
    obtain ⟨x3, ex3, h⟩ := lt_of h
    refine m_topi ex3 ?_
    refine lv_istore (lv' := [(8, .int _), (0, .ref _), (1, .ref _), (2, .ref _), (3, .int _), (4, .int _), (5, .int _), (6, .long _)]) C.1 C.2.1 dX0_waysBy_76 hl (by decide) rfl (fun ls hl => ?_)
    refine lv_iload C.1 C.2.1 dX0_waysBy_78 (lv_at hl 0 rfl) ?_
    refine lv_if_ge (tgt := 87) C.1 C.2.1 dX0_waysBy_80 (by decide) (fun cd => ?_) (fun cd => ?_)
    · have h := ite_t cd h
      refine lv_lload C.1 C.2.1 dX0_waysBy_87 (lv_at hl 7 rfl) ?_
      refine lv_aload_n C.1 C.2.1 dX0_waysBy_89 rfl (lv_at hl 1 rfl) ?_
      refine gf_X0_15 C hw dX0_waysBy_90 ?_
      refine lv_iload C.1 C.2.1 dX0_waysBy_93 (lv_at hl 0 rfl) ?_
      obtain ⟨hin, h⟩ := gd_of h
      refine m_lald C hw a1_6 hin dX0_waysBy_95 ?_
      refine lv_lmul C.1 C.2.1 dX0_waysBy_96 ?_
      refine lv_ldc2 (v := (1000003 : Int64)) C.1 C.2.1 C.2.2.2.1 (C.2.2.2.2.1 _ kl_X0_68) dX0_waysBy_97 ?_
      refine lv_lrem C.1 C.2.1 dX0_waysBy_100 (by decide) ?_
      exact w_X0_waysBy_101 C ht1 ht2 hw (lv_sub hl [] rfl) h
    · have h := ite_f cd h
      refine lv_lconst (v := (0 : Int64)) C.1 C.2.1 dX0_waysBy_83 (by decide) ?_
      refine lv_goto (tgt := 101) C.1 C.2.1 dX0_waysBy_84 (by decide) ?_
      exact w_X0_waysBy_101 C ht1 ht2 hw (lv_sub hl [] rfl) h
set_option maxRecDepth 20000 in
theorem w_X0_waysBy_52 {D : va_G} {cy : Nat → ClassId} {ad : Nat → Nat} {p : Program} {l : Launch} {e : Env} {R : Room} {s : State} {m : MethodId} {args : Array Value} {below : List Frame} {meth : Method} {c : Code} (C : Cx 1 D cy ad p R s m args meth c cX0_waysBy 9 RX0 (some .long) 2) {t1 : Nat} {t2 : Nat} {a3 : Int32} {a4 : Int32} (ht1 : IsO 1 t1 7) (ht2 : IsO 1 t2 3) {z0 : Int64} {v5 : Int32}  {σ : Mem} {H : Heap} {locs : List Loc} {ls : Array Slot} {r : Int64} (hw : Wd 1 D cy ad s σ H locs) (hl : lv_has ls 9 [(0, .ref (ad (4))), (1, .ref (ad (t1))), (2, .ref (ad (t2))), (3, .int a3), (4, .int a4), (5, .int v5)]) (h : j_X0_waysBy_52 t1 t2 a3 a4 z0 v5 σ = some r) : W p l e R s m args below meth c H locs 0 0 (QL 1 D cy ad below args s r σ) (F0 m 52 ls [.long z0]) := by
  unfold j_X0_waysBy_52 at h
  refine lv_lstore (lv' := [(6, .long _), (0, .ref _), (1, .ref _), (2, .ref _), (3, .int _), (4, .int _), (5, .int _)]) C.1 C.2.1 dX0_waysBy_52 hl (by decide) rfl (fun ls hl => ?_)
  exact w_X0_waysBy_54 C ht1 ht2 hw (lv_sub hl [1, 2, 3, 4, 5, 6, 0] rfl) h
set_option maxRecDepth 20000 in
theorem c_X0_waysBy {l : Launch} {D : va_G} {cy : Nat → ClassId} {ad : Nat → Nat} (hj : InjW 1 ad) (t1 : Nat) (t2 : Nat) (a3 : Int32) (a4 : Int32) (ht1 : IsO 1 t1 7) (ht2 : IsO 1 t2 3) (σ : Mem) (r : Int64) (h : f_X0_waysBy t1 t2 a3 a4 σ = some r) : CL 1 D cy ad l yX0_waysBy cX0_waysBy 9 (some .long) 2 [.ref (ad (4)), .ref (ad (t1)), .ref (ad (t2)), .int a3, .int a4] σ r σ := by
  refine CL.mk (by decide) hj (Nat.le_of_ble_eq_true rfl) (fun p e R s m below meth c ls C hw hl => ?_)
  have hl : lv_has ls 9 [(0, .ref (ad (4))), (1, .ref (ad (t1))), (2, .ref (ad (t2))), (3, .int a3), (4, .int a4)] := hl
  generalize ([.ref (ad (4)), .ref (ad (t1)), .ref (ad (t2)), .int a3, .int a4] : List Value).toArray = args at C ⊢
  have C : Cx 1 D cy ad p R s m args meth c cX0_waysBy 9 RX0 (some .long) 2 := C
  unfold f_X0_waysBy at h
  refine lv_aload_n C.1 C.2.1 dX0_waysBy_0 rfl (lv_at hl 2 rfl) ?_
  refine gf_X0_60 C hw ht2 dX0_waysBy_1 ?_
  refine lv_iload C.1 C.2.1 dX0_waysBy_4 (lv_at hl 4 rfl) ?_
  obtain ⟨hin, h⟩ := gd_of h
  refine m_iald C hw (lawA0 ht2) hin dX0_waysBy_6 ?_
  refine go_I hw (run_SN (As := [.int _]) C hw (c_X8_armsOf C.2.2.2.2.2.2.2.2.2 _ _) mi_X8_armsOf ms_X8_armsOf lk_X0_70 (by decide) (by decide) rfl hl.1 rfl (Nat.le_of_ble_eq_true rfl) dX0_waysBy_7 ⟨Nat.le_refl 0, Nat.le_refl 0⟩) (fun H locs hw => ?_)
  obtain ⟨x1, ex1, h⟩ := lt_of h
  refine m_topi ex1 ?_
  refine lv_istore (lv' := [(5, .int _), (0, .ref _), (1, .ref _), (2, .ref _), (3, .int _), (4, .int _)]) C.1 C.2.1 dX0_waysBy_10 hl (by decide) rfl (fun ls hl => ?_)
  refine lv_lconst (v := (1 : Int64)) C.1 C.2.1 dX0_waysBy_12 (by decide) ?_
  refine lv_lstore (lv' := [(6, .long _), (5, .int _), (0, .ref _), (1, .ref _), (2, .ref _), (3, .int _), (4, .int _)]) C.1 C.2.1 dX0_waysBy_13 hl (by decide) rfl (fun ls hl => ?_)
  refine lv_iload C.1 C.2.1 dX0_waysBy_15 (lv_at hl 1 rfl) ?_
  refine lv_if_le (tgt := 54) C.1 C.2.1 dX0_waysBy_17 (by decide) (fun cd => ?_) (fun cd => ?_)
  · have h := ite_t cd h
    exact w_X0_waysBy_54 C ht1 ht2 hw (lv_sub hl [2, 3, 4, 5, 6, 1, 0] rfl) h
  · have h := ite_f cd h
    refine lv_aload_n C.1 C.2.1 dX0_waysBy_20 rfl (lv_at hl 3 rfl) ?_
    refine lv_iload_n C.1 C.2.1 dX0_waysBy_21 rfl (lv_at hl 5 rfl) ?_
    refine lv_iconst (v := (1 : Int32)) C.1 C.2.1 dX0_waysBy_22 (by decide) ?_
    refine lv_iadd C.1 C.2.1 dX0_waysBy_23 ?_
    refine lv_aload_n C.1 C.2.1 dX0_waysBy_24 rfl (lv_at hl 4 rfl) ?_
    refine gf_X0_73 C hw ht2 dX0_waysBy_25 ?_
    refine lv_iload C.1 C.2.1 dX0_waysBy_28 (lv_at hl 6 rfl) ?_
    obtain ⟨hin, h⟩ := gd_of h
    refine m_iald C hw (lawA1 ht2) hin dX0_waysBy_30 ?_
    refine go_I hw (run_S (As := [.ref _, .int _, .int _]) C hw (c_X0_placeOf C.2.2.2.2.2.2.2.2.2 _ _ _ ht1 _) mi_X0_placeOf ms_X0_placeOf lk_X0_76 (by decide) (by decide) rfl hl.1 rfl (Nat.le_of_ble_eq_true rfl) dX0_waysBy_31 ⟨Nat.le_refl 0, Nat.le_refl 0⟩) (fun H locs hw => ?_)
    obtain ⟨x4, ex4, h⟩ := lt_of h
    refine m_topi ex4 ?_
    refine lv_istore (lv' := [(8, .int _), (6, .long _), (5, .int _), (0, .ref _), (1, .ref _), (2, .ref _), (3, .int _), (4, .int _)]) C.1 C.2.1 dX0_waysBy_34 hl (by decide) rfl (fun ls hl => ?_)
    refine lv_iload C.1 C.2.1 dX0_waysBy_36 (lv_at hl 0 rfl) ?_
    refine lv_if_ge (tgt := 45) C.1 C.2.1 dX0_waysBy_38 (by decide) (fun cd => ?_) (fun cd => ?_)
    · have h := ite_t cd h
      refine lv_aload_n C.1 C.2.1 dX0_waysBy_45 rfl (lv_at hl 3 rfl) ?_
      refine gf_X0_15 C hw dX0_waysBy_46 ?_
      refine lv_iload C.1 C.2.1 dX0_waysBy_49 (lv_at hl 0 rfl) ?_
      obtain ⟨hin, h⟩ := gd_of h
      refine m_lald C hw a1_6 hin dX0_waysBy_51 ?_
      exact w_X0_waysBy_52 C ht1 ht2 hw (lv_sub hl [3, 4, 5, 6, 7, 2] rfl) h
    · have h := ite_f cd h
      refine lv_lconst (v := (0 : Int64)) C.1 C.2.1 dX0_waysBy_41 (by decide) ?_
      refine lv_goto (tgt := 52) C.1 C.2.1 dX0_waysBy_42 (by decide) ?_
      exact w_X0_waysBy_52 C ht1 ht2 hw (lv_sub hl [3, 4, 5, 6, 7, 2] rfl) h
noncomputable def b_X0_countWays_16 (t1 : Nat) (t2 : Nat) (a3 : Int32) (v4 : Int32) (v5 : Int32) (σ : Mem) : Option ((Int32 × Int32 × Mem) ⊕ (Int32 × Mem)) :=
  if (6 : Int32) ≤ v5 then (some (.inr (v4, σ))) else (gd (ix ((v4 * (6 : Int32)) + v5) 186) (lt (sJ σ 6 ((v4 * (6 : Int32)) + v5).toNatClampNeg (0 : Int64)) (fun σ2 => lt (v5 + (1 : Int32)) (fun x3 => some (.inl (v4, x3, σ2))))))
noncomputable def j_X0_countWays_126 (t1 : Nat) (t2 : Nat) (a3 : Int32) (v4 : Int32) (v5 : Int32) (σ : Mem) : Option ((Int32 × Int32 × Mem) ⊕ (Int32 × Mem)) :=
  lt (v5 + (1 : Int32)) (fun x5 => some (.inl (v4, x5, σ)))
noncomputable def b_X0_countWays_46 (t1 : Nat) (t2 : Nat) (a3 : Int32) (v4 : Int32) (v5 : Int32) (σ : Mem) : Option ((Int32 × Int32 × Mem) ⊕ (Int32 × Mem)) :=
  if (σ.1 t2 4) ≤ v5 then (some (.inr (v4, σ))) else (if (f_X8_bit a3 v5) = (1 : Int32) then (gd (ix v5 16) (gd (ix v4 31) (if (σ.1 (t2 + 1) v5.toNatClampNeg) = (σ.1 (t1 + 1) v4.toNatClampNeg) then (gd (ix v5 16) (lt ((v4 * (6 : Int32)) + (σ.1 (t2 + 4) v5.toNatClampNeg)) (fun x6 => gd (ix x6 186) ((f_X0_waysBy t1 t2 v4 v5 σ).bind (fun r7 => gd (ix x6 186) (lt (sJ σ 6 x6.toNatClampNeg (((σ.2.1 6 x6.toNatClampNeg) + r7) - ((σ.2.1 6 x6.toNatClampNeg) + r7) / (1000003 : Int64) * (1000003 : Int64))) (fun σ8 => j_X0_countWays_126 t1 t2 a3 v4 v5 σ8))))))) else (j_X0_countWays_126 t1 t2 a3 v4 v5 σ)))) else (j_X0_countWays_126 t1 t2 a3 v4 v5 σ))
noncomputable def b_X0_countWays_8 (t1 : Nat) (t2 : Nat) (a3 : Int32) (v4 : Int32) (σ : Mem) : Option ((Int32 × Mem) ⊕ Mem) :=
  if v4 < 0 then (some (.inr σ)) else ((Lim (T := (Int32 × Mem)) (fun s => b_X0_countWays_16 t1 t2 a3 s.1 s.2.1 s.2.2) (v4, (0 : Int32), σ)).bind (fun r4 => (Lim (T := (Int32 × Mem)) (fun s => b_X0_countWays_46 t1 t2 a3 s.1 s.2.1 s.2.2) (r4.1, (0 : Int32), r4.2)).bind (fun r9 => lt (r9.1 + (-1 : Int32)) (fun x10 => some (.inl (x10, r9.2))))))
noncomputable def f_X0_countWays (t1 : Nat) (t2 : Nat) (a3 : Int32) (σ : Mem) : Option Mem :=
  lt ((σ.1 t1 4) - (1 : Int32)) (fun x1 => (Lim (T := Mem) (fun s => b_X0_countWays_8 t1 t2 a3 s.1 s.2) (x1, σ)).bind (fun r11 => some r11))
set_option maxRecDepth 20000 in
theorem w_X0_countWays_16 {D : va_G} {cy : Nat → ClassId} {ad : Nat → Nat} {p : Program} {l : Launch} {e : Env} {R : Room} {s : State} {m : MethodId} {args : Array Value} {below : List Frame} {meth : Method} {c : Code} (C : Cx 1 D cy ad p R s m args meth c cX0_countWays 7 RX0 none 3) {t1 : Nat} {t2 : Nat} {a3 : Int32} (ht1 : IsO 1 t1 7) (ht2 : IsO 1 t2 3) {v4 : Int32} {v5 : Int32} {σ : Mem} {Q : State → Prop} {r : (Int32 × Mem)} (hL : Lim (T := (Int32 × Mem)) (fun s => b_X0_countWays_16 t1 t2 a3 s.1 s.2.1 s.2.2) (v4, v5, σ) = some r) (hE0 : ∀ (v4 : Int32) (σ1 : Mem), ((v4, σ1) : (Int32 × Mem)) = r → ∀ (H : Heap) (locs : List Loc) (ls : Array Slot), Wd 1 D cy ad s σ1 H locs → lv_has ls 7 [(0, .ref (ad (4))), (1, .ref (ad (t1))), (2, .ref (ad (t2))), (3, .int a3), (4, .int v4)] → W p l e R s m args below meth c H locs 0 0 Q (F0 m 43 ls [])) (H : Heap) (locs : List Loc) (ls : Array Slot) (hw : Wd 1 D cy ad s σ H locs) (hl : lv_has ls 7 [(0, .ref (ad (4))), (1, .ref (ad (t1))), (2, .ref (ad (t2))), (3, .int a3), (4, .int v4), (5, .int v5)]) : W p l e R s m args below meth c H locs 0 0 Q (F0 m 16 ls []) := by
  refine Lim_ind hL (P := fun u => ∀ (H : Heap) (locs : List Loc) (ls : Array Slot), Wd 1 D cy ad s u.2.2 H locs → lv_has ls 7 [(0, .ref (ad (4))), (1, .ref (ad (t1))), (2, .ref (ad (t2))), (3, .int a3), (4, .int u.1), (5, .int u.2.1)] → W p l e R s m args below meth c H locs 0 0 Q (F0 m 16 ls [])) (fun u x h hx H locs ls hw hl => ?_) H locs ls hw hl
  clear hL
  obtain ⟨v4, v5, σ⟩ := u
  have h : b_X0_countWays_16 t1 t2 a3 v4 v5 σ = some x := h
  have hw : Wd 1 D cy ad s σ H locs := hw
  have hl : lv_has ls 7 [(0, .ref (ad (4))), (1, .ref (ad (t1))), (2, .ref (ad (t2))), (3, .int a3), (4, .int v4), (5, .int v5)] := hl
  have hP : ∀ (u : (Int32 × Int32 × Mem)), (∀ (H : Heap) (locs : List Loc) (ls : Array Slot), Wd 1 D cy ad s u.2.2 H locs → lv_has ls 7 [(0, .ref (ad (4))), (1, .ref (ad (t1))), (2, .ref (ad (t2))), (3, .int a3), (4, .int u.1), (5, .int u.2.1)] → W p l e R s m args below meth c H locs 0 0 Q (F0 m 16 ls [])) → ∀ (H : Heap) (locs : List Loc) (ls : Array Slot), Wd 1 D cy ad s u.2.2 H locs → lv_has ls 7 [(0, .ref (ad (4))), (1, .ref (ad (t1))), (2, .ref (ad (t2))), (3, .int a3), (4, .int u.1), (5, .int u.2.1)] → W p l e R s m args below meth c H locs 0 0 Q (F0 m 16 ls []) := fun _ k => k
  unfold b_X0_countWays_16 at h
  refine lv_iload C.1 C.2.1 dX0_countWays_16 (lv_at hl 5 rfl) ?_
  refine lv_bipush (v := (6 : Int32)) C.1 C.2.1 dX0_countWays_18 (by decide) ?_
  refine lv_icmp_ge (tgt := 43) C.1 C.2.1 dX0_countWays_20 (by decide) (fun cd => ?_) (fun cd => ?_)
  · have h := ite_t cd h
    obtain rfl := Option.some.inj h
    exact hE0 _ _ hx _ _ _ hw (lv_sub hl [0, 1, 2, 3, 4] rfl)
  · have h := ite_f cd h
    refine lv_aload_n C.1 C.2.1 dX0_countWays_23 rfl (lv_at hl 0 rfl) ?_
    refine gf_X0_15 C hw dX0_countWays_24 ?_
    refine lv_iload C.1 C.2.1 dX0_countWays_27 (lv_at hl 4 rfl) ?_
    refine lv_bipush (v := (6 : Int32)) C.1 C.2.1 dX0_countWays_29 (by decide) ?_
    refine lv_imul C.1 C.2.1 dX0_countWays_31 ?_
    refine lv_iload C.1 C.2.1 dX0_countWays_32 (lv_at hl 5 rfl) ?_
    refine lv_iadd C.1 C.2.1 dX0_countWays_34 ?_
    refine lv_lconst (v := (0 : Int64)) C.1 C.2.1 dX0_countWays_35 (by decide) ?_
    obtain ⟨hin, h⟩ := gd_of h
    refine m_last C hw a1_6 hin dX0_countWays_36 (fun H locs hw => ?_)
    obtain ⟨σ2, eσ2, h⟩ := lt_of h
    rw [← eσ2] at hw
    obtain ⟨x3, ex3, h⟩ := lt_of h
    refine m_iinc (k := 5) (lv' := [(5, .int _), (0, .ref _), (1, .ref _), (2, .ref _), (3, .int _), (4, .int _)]) C (1 : Int32) (by decide) dX0_countWays_37 hl rfl ex3.symm (by decide) rfl (fun ls hl => ?_)
    refine lv_goto (tgt := 16) C.1 C.2.1 dX0_countWays_40 (by decide) ?_
    obtain rfl := Option.some.inj h
    exact hP _ hx _ _ _ hw (lv_sub hl [1, 2, 3, 4, 5, 0] rfl)
set_option maxRecDepth 20000 in
theorem w_X0_countWays_126 {D : va_G} {cy : Nat → ClassId} {ad : Nat → Nat} {p : Program} {l : Launch} {e : Env} {R : Room} {s : State} {m : MethodId} {args : Array Value} {below : List Frame} {meth : Method} {c : Code} (C : Cx 1 D cy ad p R s m args meth c cX0_countWays 7 RX0 none 3) {t1 : Nat} {t2 : Nat} {a3 : Int32} (ht1 : IsO 1 t1 7) (ht2 : IsO 1 t2 3) {v4 : Int32} {v5 : Int32}  {σ : Mem} {H : Heap} {locs : List Loc} {ls : Array Slot} {Q : State → Prop} {P : (Int32 × Int32 × Mem) → Prop} {r : (Int32 × Mem)} {x : (Int32 × Int32 × Mem) ⊕ (Int32 × Mem)} (hx : LimQ P r x) (hP : ∀ u, P u → ∀ (H : Heap) (locs : List Loc) (ls : Array Slot), Wd 1 D cy ad s u.2.2 H locs → lv_has ls 7 [(0, .ref (ad (4))), (1, .ref (ad (t1))), (2, .ref (ad (t2))), (3, .int a3), (4, .int u.1), (5, .int u.2.1)] → W p l e R s m args below meth c H locs 0 0 Q (F0 m 46 ls [])) (hE0 : ∀ (v4 : Int32) (σ1 : Mem), ((v4, σ1) : (Int32 × Mem)) = r → ∀ (H : Heap) (locs : List Loc) (ls : Array Slot), Wd 1 D cy ad s σ1 H locs → lv_has ls 7 [(0, .ref (ad (4))), (1, .ref (ad (t1))), (2, .ref (ad (t2))), (3, .int a3), (4, .int v4)] → W p l e R s m args below meth c H locs 0 0 Q (F0 m 132 ls [])) (hw : Wd 1 D cy ad s σ H locs) (hl : lv_has ls 7 [(0, .ref (ad (4))), (1, .ref (ad (t1))), (2, .ref (ad (t2))), (3, .int a3), (4, .int v4), (5, .int v5)]) (h : j_X0_countWays_126 t1 t2 a3 v4 v5 σ = some x) : W p l e R s m args below meth c H locs 0 0 Q (F0 m 126 ls []) := by
  unfold j_X0_countWays_126 at h
  obtain ⟨x5, ex5, h⟩ := lt_of h
  refine m_iinc (k := 5) (lv' := [(5, .int _), (0, .ref _), (1, .ref _), (2, .ref _), (3, .int _), (4, .int _)]) C (1 : Int32) (by decide) dX0_countWays_126 hl rfl ex5.symm (by decide) rfl (fun ls hl => ?_)
  refine lv_goto (tgt := 46) C.1 C.2.1 dX0_countWays_129 (by decide) ?_
  obtain rfl := Option.some.inj h
  exact hP _ hx _ _ _ hw (lv_sub hl [1, 2, 3, 4, 5, 0] rfl)
set_option maxRecDepth 20000 in
theorem w_X0_countWays_46 {D : va_G} {cy : Nat → ClassId} {ad : Nat → Nat} {p : Program} {l : Launch} {e : Env} {R : Room} {s : State} {m : MethodId} {args : Array Value} {below : List Frame} {meth : Method} {c : Code} (C : Cx 1 D cy ad p R s m args meth c cX0_countWays 7 RX0 none 3) {t1 : Nat} {t2 : Nat} {a3 : Int32} (ht1 : IsO 1 t1 7) (ht2 : IsO 1 t2 3) {v4 : Int32} {v5 : Int32} {σ : Mem} {Q : State → Prop} {r : (Int32 × Mem)} (hL : Lim (T := (Int32 × Mem)) (fun s => b_X0_countWays_46 t1 t2 a3 s.1 s.2.1 s.2.2) (v4, v5, σ) = some r) (hE0 : ∀ (v4 : Int32) (σ1 : Mem), ((v4, σ1) : (Int32 × Mem)) = r → ∀ (H : Heap) (locs : List Loc) (ls : Array Slot), Wd 1 D cy ad s σ1 H locs → lv_has ls 7 [(0, .ref (ad (4))), (1, .ref (ad (t1))), (2, .ref (ad (t2))), (3, .int a3), (4, .int v4)] → W p l e R s m args below meth c H locs 0 0 Q (F0 m 132 ls [])) (H : Heap) (locs : List Loc) (ls : Array Slot) (hw : Wd 1 D cy ad s σ H locs) (hl : lv_has ls 7 [(0, .ref (ad (4))), (1, .ref (ad (t1))), (2, .ref (ad (t2))), (3, .int a3), (4, .int v4), (5, .int v5)]) : W p l e R s m args below meth c H locs 0 0 Q (F0 m 46 ls []) := by
  refine Lim_ind hL (P := fun u => ∀ (H : Heap) (locs : List Loc) (ls : Array Slot), Wd 1 D cy ad s u.2.2 H locs → lv_has ls 7 [(0, .ref (ad (4))), (1, .ref (ad (t1))), (2, .ref (ad (t2))), (3, .int a3), (4, .int u.1), (5, .int u.2.1)] → W p l e R s m args below meth c H locs 0 0 Q (F0 m 46 ls [])) (fun u x h hx H locs ls hw hl => ?_) H locs ls hw hl
  clear hL
  obtain ⟨v4, v5, σ⟩ := u
  have h : b_X0_countWays_46 t1 t2 a3 v4 v5 σ = some x := h
  have hw : Wd 1 D cy ad s σ H locs := hw
  have hl : lv_has ls 7 [(0, .ref (ad (4))), (1, .ref (ad (t1))), (2, .ref (ad (t2))), (3, .int a3), (4, .int v4), (5, .int v5)] := hl
  have hP : ∀ (u : (Int32 × Int32 × Mem)), (∀ (H : Heap) (locs : List Loc) (ls : Array Slot), Wd 1 D cy ad s u.2.2 H locs → lv_has ls 7 [(0, .ref (ad (4))), (1, .ref (ad (t1))), (2, .ref (ad (t2))), (3, .int a3), (4, .int u.1), (5, .int u.2.1)] → W p l e R s m args below meth c H locs 0 0 Q (F0 m 46 ls [])) → ∀ (H : Heap) (locs : List Loc) (ls : Array Slot), Wd 1 D cy ad s u.2.2 H locs → lv_has ls 7 [(0, .ref (ad (4))), (1, .ref (ad (t1))), (2, .ref (ad (t2))), (3, .int a3), (4, .int u.1), (5, .int u.2.1)] → W p l e R s m args below meth c H locs 0 0 Q (F0 m 46 ls []) := fun _ k => k
  unfold b_X0_countWays_46 at h
  refine lv_iload C.1 C.2.1 dX0_countWays_46 (lv_at hl 5 rfl) ?_
  refine lv_aload_n C.1 C.2.1 dX0_countWays_48 rfl (lv_at hl 2 rfl) ?_
  refine gf_X0_55 C hw ht2 dX0_countWays_49 ?_
  refine lv_icmp_ge (tgt := 132) C.1 C.2.1 dX0_countWays_52 (by decide) (fun cd => ?_) (fun cd => ?_)
  · have h := ite_t cd h
    obtain rfl := Option.some.inj h
    exact hE0 _ _ hx _ _ _ hw (lv_sub hl [0, 1, 2, 3, 4] rfl)
  · have h := ite_f cd h
    refine lv_iload_n C.1 C.2.1 dX0_countWays_55 rfl (lv_at hl 3 rfl) ?_
    refine lv_iload C.1 C.2.1 dX0_countWays_56 (lv_at hl 5 rfl) ?_
    refine go_I hw (run_SN (As := [.int _, .int _]) C hw (c_X8_bit C.2.2.2.2.2.2.2.2.2 _ _ _) mi_X8_bit ms_X8_bit lk_X0_56 (by decide) (by decide) rfl hl.1 rfl (Nat.le_of_ble_eq_true rfl) dX0_countWays_58 ⟨Nat.le_refl 0, Nat.le_refl 0⟩) (fun H locs hw => ?_)
    refine lv_iconst (v := (1 : Int32)) C.1 C.2.1 dX0_countWays_61 (by decide) ?_
    refine lv_icmp_ne (tgt := 126) C.1 C.2.1 dX0_countWays_62 (by decide) (fun cd => ?_) (fun cd => ?_)
    · have h := ite_f cd h
      exact w_X0_countWays_126 C ht1 ht2 hx hP hE0 hw (lv_sub hl [0, 1, 2, 3, 4, 5] rfl) h
    · have h := ite_t cd h
      refine lv_aload_n C.1 C.2.1 dX0_countWays_65 rfl (lv_at hl 2 rfl) ?_
      refine gf_X0_60 C hw ht2 dX0_countWays_66 ?_
      refine lv_iload C.1 C.2.1 dX0_countWays_69 (lv_at hl 5 rfl) ?_
      obtain ⟨hin, h⟩ := gd_of h
      refine m_iald C hw (lawA0 ht2) hin dX0_countWays_71 ?_
      refine lv_aload_n C.1 C.2.1 dX0_countWays_72 rfl (lv_at hl 1 rfl) ?_
      refine gf_X0_31 C hw ht1 dX0_countWays_73 ?_
      refine lv_iload C.1 C.2.1 dX0_countWays_76 (lv_at hl 4 rfl) ?_
      obtain ⟨hin, h⟩ := gd_of h
      refine m_iald C hw (treeA0 ht1) hin dX0_countWays_78 ?_
      refine lv_icmp_ne (tgt := 126) C.1 C.2.1 dX0_countWays_79 (by decide) (fun cd => ?_) (fun cd => ?_)
      · have h := ite_f cd h
        exact w_X0_countWays_126 C ht1 ht2 hx hP hE0 hw (lv_sub hl [0, 1, 2, 3, 4, 5] rfl) h
      · have h := ite_t cd h
        refine lv_iload C.1 C.2.1 dX0_countWays_82 (lv_at hl 4 rfl) ?_
        refine lv_bipush (v := (6 : Int32)) C.1 C.2.1 dX0_countWays_84 (by decide) ?_
        refine lv_imul C.1 C.2.1 dX0_countWays_86 ?_
        refine lv_aload_n C.1 C.2.1 dX0_countWays_87 rfl (lv_at hl 2 rfl) ?_
        refine gf_X0_61 C hw ht2 dX0_countWays_88 ?_
        refine lv_iload C.1 C.2.1 dX0_countWays_91 (lv_at hl 5 rfl) ?_
        obtain ⟨hin, h⟩ := gd_of h
        refine m_iald C hw (lawA3 ht2) hin dX0_countWays_93 ?_
        refine lv_iadd C.1 C.2.1 dX0_countWays_94 ?_
        obtain ⟨x6, ex6, h⟩ := lt_of h
        refine m_topi ex6 ?_
        refine lv_istore (lv' := [(6, .int _), (0, .ref _), (1, .ref _), (2, .ref _), (3, .int _), (4, .int _), (5, .int _)]) C.1 C.2.1 dX0_countWays_95 hl (by decide) rfl (fun ls hl => ?_)
        refine lv_aload_n C.1 C.2.1 dX0_countWays_97 rfl (lv_at hl 1 rfl) ?_
        refine gf_X0_15 C hw dX0_countWays_98 ?_
        refine lv_iload C.1 C.2.1 dX0_countWays_101 (lv_at hl 0 rfl) ?_
        refine lv_aload_n C.1 C.2.1 dX0_countWays_103 rfl (lv_at hl 1 rfl) ?_
        refine gf_X0_15 C hw dX0_countWays_104 ?_
        refine lv_iload C.1 C.2.1 dX0_countWays_107 (lv_at hl 0 rfl) ?_
        obtain ⟨hin, h⟩ := gd_of h
        refine m_lald C hw a1_6 hin dX0_countWays_109 ?_
        refine lv_aload_n C.1 C.2.1 dX0_countWays_110 rfl (lv_at hl 1 rfl) ?_
        refine lv_aload_n C.1 C.2.1 dX0_countWays_111 rfl (lv_at hl 2 rfl) ?_
        refine lv_aload_n C.1 C.2.1 dX0_countWays_112 rfl (lv_at hl 3 rfl) ?_
        refine lv_iload C.1 C.2.1 dX0_countWays_113 (lv_at hl 5 rfl) ?_
        refine lv_iload C.1 C.2.1 dX0_countWays_115 (lv_at hl 6 rfl) ?_
        obtain ⟨r7, h1, h⟩ := bS h
        refine go_L hw (run_V (As := [.ref _, .ref _, .int _, .int _]) C hw (c_X0_waysBy C.2.2.2.2.2.2.2.2.2 _ _ _ _ ht1 ht2 _ _ h1) mi_X0_waysBy mv_X0_waysBy o1_4 (ci := 0) rfl rfl lk_X0_64 (by decide) (by decide) rfl hl.1 rfl (Nat.le_of_ble_eq_true rfl) dX0_countWays_117 ⟨Nat.le_refl 0, Nat.le_refl 0⟩) (fun H locs hw => ?_)
        refine lv_ladd C.1 C.2.1 dX0_countWays_120 ?_
        refine lv_ldc2 (v := (1000003 : Int64)) C.1 C.2.1 C.2.2.2.1 (C.2.2.2.2.1 _ kl_X0_68) dX0_countWays_121 ?_
        refine lv_lrem C.1 C.2.1 dX0_countWays_124 (by decide) ?_
        obtain ⟨hin, h⟩ := gd_of h
        refine m_last C hw a1_6 hin dX0_countWays_125 (fun H locs hw => ?_)
        obtain ⟨σ8, eσ8, h⟩ := lt_of h
        rw [← eσ8] at hw
        exact w_X0_countWays_126 C ht1 ht2 hx hP hE0 hw (lv_sub hl [1, 2, 3, 4, 5, 6] rfl) h
set_option maxRecDepth 20000 in
theorem w_X0_countWays_8 {D : va_G} {cy : Nat → ClassId} {ad : Nat → Nat} {p : Program} {l : Launch} {e : Env} {R : Room} {s : State} {m : MethodId} {args : Array Value} {below : List Frame} {meth : Method} {c : Code} (C : Cx 1 D cy ad p R s m args meth c cX0_countWays 7 RX0 none 3) {t1 : Nat} {t2 : Nat} {a3 : Int32} (ht1 : IsO 1 t1 7) (ht2 : IsO 1 t2 3) {v4 : Int32} {σ : Mem} {Q : State → Prop} {r : Mem} (hL : Lim (T := Mem) (fun s => b_X0_countWays_8 t1 t2 a3 s.1 s.2) (v4, σ) = some r) (hE0 : ∀ (σ1 : Mem), (σ1 : Mem) = r → ∀ (H : Heap) (locs : List Loc) (ls : Array Slot), Wd 1 D cy ad s σ1 H locs → lv_has ls 7 [] → W p l e R s m args below meth c H locs 0 0 Q (F0 m 138 ls [])) (H : Heap) (locs : List Loc) (ls : Array Slot) (hw : Wd 1 D cy ad s σ H locs) (hl : lv_has ls 7 [(0, .ref (ad (4))), (1, .ref (ad (t1))), (2, .ref (ad (t2))), (3, .int a3), (4, .int v4)]) : W p l e R s m args below meth c H locs 0 0 Q (F0 m 8 ls []) := by
  refine Lim_ind hL (P := fun u => ∀ (H : Heap) (locs : List Loc) (ls : Array Slot), Wd 1 D cy ad s u.2 H locs → lv_has ls 7 [(0, .ref (ad (4))), (1, .ref (ad (t1))), (2, .ref (ad (t2))), (3, .int a3), (4, .int u.1)] → W p l e R s m args below meth c H locs 0 0 Q (F0 m 8 ls [])) (fun u x h hx H locs ls hw hl => ?_) H locs ls hw hl
  clear hL
  obtain ⟨v4, σ⟩ := u
  have h : b_X0_countWays_8 t1 t2 a3 v4 σ = some x := h
  have hw : Wd 1 D cy ad s σ H locs := hw
  have hl : lv_has ls 7 [(0, .ref (ad (4))), (1, .ref (ad (t1))), (2, .ref (ad (t2))), (3, .int a3), (4, .int v4)] := hl
  have hP : ∀ (u : (Int32 × Mem)), (∀ (H : Heap) (locs : List Loc) (ls : Array Slot), Wd 1 D cy ad s u.2 H locs → lv_has ls 7 [(0, .ref (ad (4))), (1, .ref (ad (t1))), (2, .ref (ad (t2))), (3, .int a3), (4, .int u.1)] → W p l e R s m args below meth c H locs 0 0 Q (F0 m 8 ls [])) → ∀ (H : Heap) (locs : List Loc) (ls : Array Slot), Wd 1 D cy ad s u.2 H locs → lv_has ls 7 [(0, .ref (ad (4))), (1, .ref (ad (t1))), (2, .ref (ad (t2))), (3, .int a3), (4, .int u.1)] → W p l e R s m args below meth c H locs 0 0 Q (F0 m 8 ls []) := fun _ k => k
  unfold b_X0_countWays_8 at h
  refine lv_iload C.1 C.2.1 dX0_countWays_8 (lv_at hl 4 rfl) ?_
  refine lv_if_lt (tgt := 138) C.1 C.2.1 dX0_countWays_10 (by decide) (fun cd => ?_) (fun cd => ?_)
  · have h := ite_t cd h
    obtain rfl := Option.some.inj h
    exact hE0 _ hx _ _ _ hw (lv_sub hl [] rfl)
  · have h := ite_f cd h
    refine lv_iconst (v := (0 : Int32)) C.1 C.2.1 dX0_countWays_13 (by decide) ?_
    refine lv_istore (lv' := [(5, .int _), (0, .ref _), (1, .ref _), (2, .ref _), (3, .int _), (4, .int _)]) C.1 C.2.1 dX0_countWays_14 hl (by decide) rfl (fun ls hl => ?_)
    obtain ⟨r4, hL, h⟩ := bS h
    refine w_X0_countWays_16 C ht1 ht2  hL (fun y0 y1 hr H locs ls hw hl => ?_) _ _ _ hw (lv_sub hl [1, 2, 3, 4, 5, 0] rfl)
    · subst hr
      try dsimp only at h
      try dsimp only at hw
      try dsimp only at hl
      refine lv_iconst (v := (0 : Int32)) C.1 C.2.1 dX0_countWays_43 (by decide) ?_
      refine lv_istore (lv' := [(5, .int _), (0, .ref _), (1, .ref _), (2, .ref _), (3, .int _), (4, .int _)]) C.1 C.2.1 dX0_countWays_44 hl (by decide) rfl (fun ls hl => ?_)
      obtain ⟨r9, hL, h⟩ := bS h
      refine w_X0_countWays_46 C ht1 ht2  hL (fun y0 y1 hr H locs ls hw hl => ?_) _ _ _ hw (lv_sub hl [1, 2, 3, 4, 5, 0] rfl)
      · subst hr
        try dsimp only at h
        try dsimp only at hw
        try dsimp only at hl
        obtain ⟨x10, ex10, h⟩ := lt_of h
        refine m_iinc (k := 4) (lv' := [(4, .int _), (0, .ref _), (1, .ref _), (2, .ref _), (3, .int _)]) C (-1 : Int32) (by decide) dX0_countWays_132 hl rfl ex10.symm (by decide) rfl (fun ls hl => ?_)
        refine lv_goto (tgt := 8) C.1 C.2.1 dX0_countWays_135 (by decide) ?_
        obtain rfl := Option.some.inj h
        exact hP _ hx _ _ _ hw (lv_sub hl [1, 2, 3, 4, 0] rfl)
set_option maxRecDepth 20000 in
theorem c_X0_countWays {l : Launch} {D : va_G} {cy : Nat → ClassId} {ad : Nat → Nat} (hj : InjW 1 ad) (t1 : Nat) (t2 : Nat) (a3 : Int32) (ht1 : IsO 1 t1 7) (ht2 : IsO 1 t2 3) (σ : Mem) (r : Mem) (h : f_X0_countWays t1 t2 a3 σ = some r) : CV 1 D cy ad l yX0_countWays cX0_countWays 7 none 3 [.ref (ad (4)), .ref (ad (t1)), .ref (ad (t2)), .int a3] σ r := by
  refine CV.mk (by decide) hj (Nat.le_of_ble_eq_true rfl) (fun p e R s m below meth c ls C hw hl => ?_)
  have hl : lv_has ls 7 [(0, .ref (ad (4))), (1, .ref (ad (t1))), (2, .ref (ad (t2))), (3, .int a3)] := hl
  generalize ([.ref (ad (4)), .ref (ad (t1)), .ref (ad (t2)), .int a3] : List Value).toArray = args at C ⊢
  have C : Cx 1 D cy ad p R s m args meth c cX0_countWays 7 RX0 none 3 := C
  unfold f_X0_countWays at h
  refine lv_aload_n C.1 C.2.1 dX0_countWays_0 rfl (lv_at hl 1 rfl) ?_
  refine gf_X0_25 C hw ht1 dX0_countWays_1 ?_
  refine lv_iconst (v := (1 : Int32)) C.1 C.2.1 dX0_countWays_4 (by decide) ?_
  refine lv_isub C.1 C.2.1 dX0_countWays_5 ?_
  obtain ⟨x1, ex1, h⟩ := lt_of h
  refine m_topi ex1 ?_
  refine lv_istore (lv' := [(4, .int _), (0, .ref _), (1, .ref _), (2, .ref _), (3, .int _)]) C.1 C.2.1 dX0_countWays_6 hl (by decide) rfl (fun ls hl => ?_)
  obtain ⟨r11, hL, h⟩ := bS h
  refine w_X0_countWays_8 C ht1 ht2  hL (fun y0 hr H locs ls hw hl => ?_) _ _ _ hw (lv_sub hl [1, 2, 3, 4, 0] rfl)
  · subst hr
    try dsimp only at h
    try dsimp only at hw
    try dsimp only at hl
    exact m_vret C hw (Option.some.inj h) dX0_countWays_138
noncomputable def j_X0_goodWays_32 (a1 : Int32) (v2 : Int64) (v4 : Int32) (σ : Mem) : Option ((Int64 × Int32) ⊕ Int64) :=
  lt (v4 + (1 : Int32)) (fun x1 => some (.inl (v2, x1)))
noncomputable def b_X0_goodWays_5 (a1 : Int32) (v2 : Int64) (v4 : Int32) (σ : Mem) : Option ((Int64 × Int32) ⊕ Int64) :=
  if (6 : Int32) ≤ v4 then (some (.inr v2)) else (if (f_X8_bit a1 v4) = (1 : Int32) then (gd (ix v4 186) (lt (v2 + (σ.2.1 6 v4.toNatClampNeg)) (fun x2 => j_X0_goodWays_32 a1 x2 v4 σ))) else (j_X0_goodWays_32 a1 v2 v4 σ))
noncomputable def f_X0_goodWays (a1 : Int32) (σ : Mem) : Option Int32 :=
  (Lim (T := Int64) (fun s => b_X0_goodWays_5 a1 s.1 s.2 σ) ((0 : Int64), (0 : Int32))).bind (fun r3 => some ((r3 - r3 / (1000003 : Int64) * (1000003 : Int64)).toInt32))
set_option maxRecDepth 20000 in
theorem w_X0_goodWays_32 {D : va_G} {cy : Nat → ClassId} {ad : Nat → Nat} {p : Program} {l : Launch} {e : Env} {R : Room} {s : State} {m : MethodId} {args : Array Value} {below : List Frame} {meth : Method} {c : Code} (C : Cx 1 D cy ad p R s m args meth c cX0_goodWays 5 RX0 (some .int) 1) {a1 : Int32}  {v2 : Int64} {v4 : Int32}  {σ : Mem} {H : Heap} {locs : List Loc} {ls : Array Slot} {Q : State → Prop} {P : (Int64 × Int32) → Prop} {r : Int64} {x : (Int64 × Int32) ⊕ Int64} (hx : LimQ P r x) (hP : ∀ u, P u → ∀ (H : Heap) (locs : List Loc) (ls : Array Slot), Wd 1 D cy ad s σ H locs → lv_has ls 5 [(0, .ref (ad (4))), (1, .int a1), (2, .long u.1), (4, .int u.2)] → W p l e R s m args below meth c H locs 0 0 Q (F0 m 5 ls [])) (hE0 : ∀ (v2 : Int64), (v2 : Int64) = r → ∀ (H : Heap) (locs : List Loc) (ls : Array Slot), Wd 1 D cy ad s σ H locs → lv_has ls 5 [(2, .long v2)] → W p l e R s m args below meth c H locs 0 0 Q (F0 m 38 ls [])) (hw : Wd 1 D cy ad s σ H locs) (hl : lv_has ls 5 [(0, .ref (ad (4))), (1, .int a1), (2, .long v2), (4, .int v4)]) (h : j_X0_goodWays_32 a1 v2 v4 σ = some x) : W p l e R s m args below meth c H locs 0 0 Q (F0 m 32 ls []) := by
  unfold j_X0_goodWays_32 at h
  obtain ⟨x1, ex1, h⟩ := lt_of h
  refine m_iinc (k := 3) (lv' := [(4, .int _), (0, .ref _), (1, .int _), (2, .long _)]) C (1 : Int32) (by decide) dX0_goodWays_32 hl rfl ex1.symm (by decide) rfl (fun ls hl => ?_)
  refine lv_goto (tgt := 5) C.1 C.2.1 dX0_goodWays_35 (by decide) ?_
  obtain rfl := Option.some.inj h
  exact hP _ hx _ _ _ hw (lv_sub hl [1, 2, 3, 0] rfl)
set_option maxRecDepth 20000 in
theorem w_X0_goodWays_5 {D : va_G} {cy : Nat → ClassId} {ad : Nat → Nat} {p : Program} {l : Launch} {e : Env} {R : Room} {s : State} {m : MethodId} {args : Array Value} {below : List Frame} {meth : Method} {c : Code} (C : Cx 1 D cy ad p R s m args meth c cX0_goodWays 5 RX0 (some .int) 1) {a1 : Int32}  {v2 : Int64} {v4 : Int32} {σ : Mem} {Q : State → Prop} {r : Int64} (hL : Lim (T := Int64) (fun s => b_X0_goodWays_5 a1 s.1 s.2 σ) (v2, v4) = some r) (hE0 : ∀ (v2 : Int64), (v2 : Int64) = r → ∀ (H : Heap) (locs : List Loc) (ls : Array Slot), Wd 1 D cy ad s σ H locs → lv_has ls 5 [(2, .long v2)] → W p l e R s m args below meth c H locs 0 0 Q (F0 m 38 ls [])) (H : Heap) (locs : List Loc) (ls : Array Slot) (hw : Wd 1 D cy ad s σ H locs) (hl : lv_has ls 5 [(0, .ref (ad (4))), (1, .int a1), (2, .long v2), (4, .int v4)]) : W p l e R s m args below meth c H locs 0 0 Q (F0 m 5 ls []) := by
  refine Lim_ind hL (P := fun u => ∀ (H : Heap) (locs : List Loc) (ls : Array Slot), Wd 1 D cy ad s σ H locs → lv_has ls 5 [(0, .ref (ad (4))), (1, .int a1), (2, .long u.1), (4, .int u.2)] → W p l e R s m args below meth c H locs 0 0 Q (F0 m 5 ls [])) (fun u x h hx H locs ls hw hl => ?_) H locs ls hw hl
  clear hL
  obtain ⟨v2, v4⟩ := u
  have h : b_X0_goodWays_5 a1 v2 v4 σ = some x := h
  have hw : Wd 1 D cy ad s σ H locs := hw
  have hl : lv_has ls 5 [(0, .ref (ad (4))), (1, .int a1), (2, .long v2), (4, .int v4)] := hl
  have hP : ∀ (u : (Int64 × Int32)), (∀ (H : Heap) (locs : List Loc) (ls : Array Slot), Wd 1 D cy ad s σ H locs → lv_has ls 5 [(0, .ref (ad (4))), (1, .int a1), (2, .long u.1), (4, .int u.2)] → W p l e R s m args below meth c H locs 0 0 Q (F0 m 5 ls [])) → ∀ (H : Heap) (locs : List Loc) (ls : Array Slot), Wd 1 D cy ad s σ H locs → lv_has ls 5 [(0, .ref (ad (4))), (1, .int a1), (2, .long u.1), (4, .int u.2)] → W p l e R s m args below meth c H locs 0 0 Q (F0 m 5 ls []) := fun _ k => k
  unfold b_X0_goodWays_5 at h
  refine lv_iload C.1 C.2.1 dX0_goodWays_5 (lv_at hl 3 rfl) ?_
  refine lv_bipush (v := (6 : Int32)) C.1 C.2.1 dX0_goodWays_7 (by decide) ?_
  refine lv_icmp_ge (tgt := 38) C.1 C.2.1 dX0_goodWays_9 (by decide) (fun cd => ?_) (fun cd => ?_)
  · have h := ite_t cd h
    obtain rfl := Option.some.inj h
    exact hE0 _ hx _ _ _ hw (lv_sub hl [2] rfl)
  · have h := ite_f cd h
    refine lv_iload_n C.1 C.2.1 dX0_goodWays_12 rfl (lv_at hl 1 rfl) ?_
    refine lv_iload C.1 C.2.1 dX0_goodWays_13 (lv_at hl 3 rfl) ?_
    refine go_I hw (run_SN (As := [.int _, .int _]) C hw (c_X8_bit C.2.2.2.2.2.2.2.2.2 _ _ _) mi_X8_bit ms_X8_bit lk_X0_56 (by decide) (by decide) rfl hl.1 rfl (Nat.le_of_ble_eq_true rfl) dX0_goodWays_15 ⟨Nat.le_refl 0, Nat.le_refl 0⟩) (fun H locs hw => ?_)
    refine lv_iconst (v := (1 : Int32)) C.1 C.2.1 dX0_goodWays_18 (by decide) ?_
    refine lv_icmp_ne (tgt := 32) C.1 C.2.1 dX0_goodWays_19 (by decide) (fun cd => ?_) (fun cd => ?_)
    · have h := ite_f cd h
      exact w_X0_goodWays_32 C hx hP hE0 hw (lv_sub hl [0, 1, 2, 3] rfl) h
    · have h := ite_t cd h
      refine lv_lload_n C.1 C.2.1 dX0_goodWays_22 rfl (lv_at hl 2 rfl) ?_
      refine lv_aload_n C.1 C.2.1 dX0_goodWays_23 rfl (lv_at hl 0 rfl) ?_
      refine gf_X0_15 C hw dX0_goodWays_24 ?_
      refine lv_iload C.1 C.2.1 dX0_goodWays_27 (lv_at hl 3 rfl) ?_
      obtain ⟨hin, h⟩ := gd_of h
      refine m_lald C hw a1_6 hin dX0_goodWays_29 ?_
      refine lv_ladd C.1 C.2.1 dX0_goodWays_30 ?_
      obtain ⟨x2, ex2, h⟩ := lt_of h
      refine m_topl ex2 ?_
      refine lv_lstore_n (lv' := [(2, .long _), (0, .ref _), (1, .int _), (4, .int _)]) C.1 C.2.1 dX0_goodWays_31 rfl hl (by decide) rfl (fun ls hl => ?_)
      exact w_X0_goodWays_32 C hx hP hE0 hw (lv_sub hl [1, 2, 0, 3] rfl) h
set_option maxRecDepth 20000 in
theorem c_X0_goodWays {l : Launch} {D : va_G} {cy : Nat → ClassId} {ad : Nat → Nat} (hj : InjW 1 ad) (a1 : Int32)  (σ : Mem) (r : Int32) (h : f_X0_goodWays a1 σ = some r) : CI 1 D cy ad l yX0_goodWays cX0_goodWays 5 (some .int) 1 [.ref (ad (4)), .int a1] σ r σ := by
  refine CI.mk (by decide) hj (Nat.le_of_ble_eq_true rfl) (fun p e R s m below meth c ls C hw hl => ?_)
  have hl : lv_has ls 5 [(0, .ref (ad (4))), (1, .int a1)] := hl
  generalize ([.ref (ad (4)), .int a1] : List Value).toArray = args at C ⊢
  have C : Cx 1 D cy ad p R s m args meth c cX0_goodWays 5 RX0 (some .int) 1 := C
  unfold f_X0_goodWays at h
  refine lv_lconst (v := (0 : Int64)) C.1 C.2.1 dX0_goodWays_0 (by decide) ?_
  refine lv_lstore_n (lv' := [(2, .long _), (0, .ref _), (1, .int _)]) C.1 C.2.1 dX0_goodWays_1 rfl hl (by decide) rfl (fun ls hl => ?_)
  refine lv_iconst (v := (0 : Int32)) C.1 C.2.1 dX0_goodWays_2 (by decide) ?_
  refine lv_istore (lv' := [(4, .int _), (2, .long _), (0, .ref _), (1, .int _)]) C.1 C.2.1 dX0_goodWays_3 hl (by decide) rfl (fun ls hl => ?_)
  obtain ⟨r3, hL, h⟩ := bS h
  refine w_X0_goodWays_5 C  hL (fun y0 hr H locs ls hw hl => ?_) _ _ _ hw (lv_sub hl [2, 3, 1, 0] rfl)
  · subst hr
    try dsimp only at h
    try dsimp only at hw
    try dsimp only at hl
    refine lv_lload_n C.1 C.2.1 dX0_goodWays_38 rfl (lv_at hl 0 rfl) ?_
    refine lv_ldc2 (v := (1000003 : Int64)) C.1 C.2.1 C.2.2.2.1 (C.2.2.2.2.1 _ kl_X0_68) dX0_goodWays_39 ?_
    refine lv_lrem C.1 C.2.1 dX0_goodWays_42 (by decide) ?_
    refine lv_l2i C.1 C.2.1 dX0_goodWays_43 rfl ?_
    exact m_iret C hw (ret_i h) dX0_goodWays_44
def f_X8_firstSignWith (a0 : Int32) : Int32 :=
  if a0 = 0 then ((0 : Int32)) else (if a0 = (1 : Int32) then ((4 : Int32)) else ((6 : Int32)))
set_option maxRecDepth 20000 in
theorem c_X8_firstSignWith {l : Launch} {D : va_G} {cy : Nat → ClassId} {ad : Nat → Nat} (hj : InjW 1 ad) (a0 : Int32)  (σ : Mem) : CI 1 D cy ad l yX8_firstSignWith cX8_firstSignWith 1 (some .int) 0 [.int a0] σ (f_X8_firstSignWith a0) σ := by
  refine CI.mk (by decide) hj (Nat.le_of_ble_eq_true rfl) (fun p e R s m below meth c ls C hw hl => ?_)
  have hl : lv_has ls 1 [(0, .int a0)] := hl
  generalize ([.int a0] : List Value).toArray = args at C ⊢
  have C : Cx 1 D cy ad p R s m args meth c cX8_firstSignWith 1 RX8 (some .int) 0 := C
  obtain ⟨r, h⟩ : ∃ r, f_X8_firstSignWith a0 = r := ⟨_, rfl⟩
  rw [h]
  unfold f_X8_firstSignWith at h
  refine lv_iload_n C.1 C.2.1 dX8_firstSignWith_0 rfl (lv_at hl 0 rfl) ?_
  refine lv_if_ne (tgt := 8) C.1 C.2.1 dX8_firstSignWith_1 (by decide) (fun cd => ?_) (fun cd => ?_)
  · have h := ite_f cd h
    refine lv_iload_n C.1 C.2.1 dX8_firstSignWith_8 rfl (lv_at hl 0 rfl) ?_
    refine lv_iconst (v := (1 : Int32)) C.1 C.2.1 dX8_firstSignWith_9 (by decide) ?_
    refine lv_icmp_ne (tgt := 17) C.1 C.2.1 dX8_firstSignWith_10 (by decide) (fun cd => ?_) (fun cd => ?_)
    · have h := ite_f cd h
      refine lv_bipush (v := (6 : Int32)) C.1 C.2.1 dX8_firstSignWith_17 (by decide) ?_
      exact m_iret C hw ⟨h, rfl⟩ dX8_firstSignWith_19
    · have h := ite_t cd h
      refine lv_iconst (v := (4 : Int32)) C.1 C.2.1 dX8_firstSignWith_13 (by decide) ?_
      refine lv_goto (tgt := 19) C.1 C.2.1 dX8_firstSignWith_14 (by decide) ?_
      exact m_iret C hw ⟨h, rfl⟩ dX8_firstSignWith_19
  · have h := ite_t cd h
    refine lv_iconst (v := (0 : Int32)) C.1 C.2.1 dX8_firstSignWith_4 (by decide) ?_
    refine lv_goto (tgt := 19) C.1 C.2.1 dX8_firstSignWith_5 (by decide) ?_
    exact m_iret C hw ⟨h, rfl⟩ dX8_firstSignWith_19
def f_X0_codeOfStep (a0 : Int32) (a1 : Int32) : Int64 :=
  a0.toInt64 <<< (((2 : Int32) * ((30 : Int32) - a1)).toInt64 &&& 63)
set_option maxRecDepth 20000 in
theorem c_X0_codeOfStep {l : Launch} {D : va_G} {cy : Nat → ClassId} {ad : Nat → Nat} (hj : InjW 1 ad) (a0 : Int32) (a1 : Int32)  (σ : Mem) : CL 1 D cy ad l yX0_codeOfStep cX0_codeOfStep 2 (some .long) 0 [.int a0, .int a1] σ (f_X0_codeOfStep a0 a1) σ := by
  refine CL.mk (by decide) hj (Nat.le_of_ble_eq_true rfl) (fun p e R s m below meth c ls C hw hl => ?_)
  have hl : lv_has ls 2 [(0, .int a0), (1, .int a1)] := hl
  generalize ([.int a0, .int a1] : List Value).toArray = args at C ⊢
  have C : Cx 1 D cy ad p R s m args meth c cX0_codeOfStep 2 RX0 (some .long) 0 := C
  obtain ⟨r, h⟩ : ∃ r, f_X0_codeOfStep a0 a1 = r := ⟨_, rfl⟩
  rw [h]
  unfold f_X0_codeOfStep at h
  refine lv_iload_n C.1 C.2.1 dX0_codeOfStep_0 rfl (lv_at hl 0 rfl) ?_
  refine lv_i2l C.1 C.2.1 dX0_codeOfStep_1 rfl ?_
  refine lv_iconst (v := (2 : Int32)) C.1 C.2.1 dX0_codeOfStep_2 (by decide) ?_
  refine lv_bipush (v := (30 : Int32)) C.1 C.2.1 dX0_codeOfStep_3 (by decide) ?_
  refine lv_iload_n C.1 C.2.1 dX0_codeOfStep_5 rfl (lv_at hl 1 rfl) ?_
  refine lv_isub C.1 C.2.1 dX0_codeOfStep_6 ?_
  refine lv_imul C.1 C.2.1 dX0_codeOfStep_7 ?_
  refine lv_lshl C.1 C.2.1 dX0_codeOfStep_8 rfl ?_
  exact m_lret C hw ⟨h, rfl⟩ dX0_codeOfStep_9
noncomputable def j_X0_weighRule_246 (t1 : Nat) (t2 : Nat) (a3 : Int32) (a4 : Int32) (v6 : Int32) (v7 : Int64) (v9 : Int32) (σ : Mem) : Option Mem :=
  gd (ix v9 186) (lt (sI σ 7 v9.toNatClampNeg v6) (fun σ4 => gd (ix v9 186) (lt (sJ σ4 8 v9.toNatClampNeg v7) (fun σ5 => some σ5))))
noncomputable def j_X0_weighRule_187 (t1 : Nat) (t2 : Nat) (a3 : Int32) (a4 : Int32) (v6 : Int32) (v7 : Int64) (σ : Mem) : Option Mem :=
  gd (ix a4 16) (lt ((a3 * (6 : Int32)) + (σ.1 (t2 + 4) a4.toNatClampNeg)) (fun x3 => gd (ix x3 186) (if v6 < (σ.1 7 x3.toNatClampNeg) then (j_X0_weighRule_246 t1 t2 a3 a4 v6 v7 x3 σ) else (if (1000 : Int32) ≤ v6 then (some σ) else (gd (ix x3 186) (if v6 = (σ.1 7 x3.toNatClampNeg) then (gd (ix x3 186) (if 0 ≤ (lg_cmp v7 (σ.2.1 8 x3.toNatClampNeg)) then (some σ) else (j_X0_weighRule_246 t1 t2 a3 a4 v6 v7 x3 σ))) else (some σ)))))))
noncomputable def j_X0_weighRule_184 (t1 : Nat) (t2 : Nat) (a3 : Int32) (a4 : Int32) (z0 : Int64) (z1 : Int64) (v6 : Int32) (σ : Mem) : Option Mem :=
  lt (z0 ||| z1) (fun x9 => j_X0_weighRule_187 t1 t2 a3 a4 v6 x9 σ)
noncomputable def j_X0_weighRule_163 (t1 : Nat) (t2 : Nat) (a3 : Int32) (a4 : Int32) (z0 : Int32) (z1 : Int32) (v7 : Int64) (v9 : Int32) (σ : Mem) : Option Mem :=
  lt (z0 + z1) (fun x8 => if 0 ≤ v9 then (gd (ix v9 186) (j_X0_weighRule_184 t1 t2 a3 a4 v7 (σ.2.1 8 v9.toNatClampNeg) x8 σ)) else (j_X0_weighRule_184 t1 t2 a3 a4 v7 (0 : Int64) x8 σ))
noncomputable def j_X0_weighRule_119 (t1 : Nat) (t2 : Nat) (a3 : Int32) (a4 : Int32) (v5 : Int32) (v6 : Int32) (v7 : Int64) (σ : Mem) : Option Mem :=
  if v5 ≤ (1 : Int32) then (j_X0_weighRule_187 t1 t2 a3 a4 v6 v7 σ) else ((f_X7_secondArm t1 a3 σ).bind (fun r6 => gd (ix a4 16) (lt (f_X0_placeOf t1 r6 (σ.1 (t2 + 3) a4.toNatClampNeg) σ) (fun x7 => if 0 ≤ x7 then (gd (ix x7 186) (j_X0_weighRule_163 t1 t2 a3 a4 v6 (σ.1 7 x7.toNatClampNeg) v7 x7 σ)) else (j_X0_weighRule_163 t1 t2 a3 a4 v6 (1000 : Int32) v7 x7 σ)))))
noncomputable def j_X0_weighRule_116 (t1 : Nat) (t2 : Nat) (a3 : Int32) (a4 : Int32) (z0 : Int64) (z1 : Int64) (v5 : Int32) (v6 : Int32) (σ : Mem) : Option Mem :=
  lt (z0 ||| z1) (fun x12 => j_X0_weighRule_119 t1 t2 a3 a4 v5 v6 x12 σ)
noncomputable def j_X0_weighRule_95 (t1 : Nat) (t2 : Nat) (a3 : Int32) (a4 : Int32) (z0 : Int32) (z1 : Int32) (v5 : Int32) (v7 : Int64) (v9 : Int32) (σ : Mem) : Option Mem :=
  lt (z0 + z1) (fun x11 => if 0 ≤ v9 then (gd (ix v9 186) (j_X0_weighRule_116 t1 t2 a3 a4 v7 (σ.2.1 8 v9.toNatClampNeg) v5 x11 σ)) else (j_X0_weighRule_116 t1 t2 a3 a4 v7 (0 : Int64) v5 x11 σ))
noncomputable def j_X0_weighRule_33 (t1 : Nat) (t2 : Nat) (a3 : Int32) (a4 : Int32) (z0 : Int32) (v5 : Int32) (σ : Mem) : Option Mem :=
  gd (ix a4 16) (lt (f_X0_codeOfStep ((σ.1 (t2 + 1) a4.toNatClampNeg) - (f_X8_firstSignWith v5)) a3) (fun x2 => if v5 ≤ 0 then (j_X0_weighRule_119 t1 t2 a3 a4 v5 z0 x2 σ) else (gd (ix a4 16) (lt (f_X0_placeOf t1 (a3 + (1 : Int32)) (σ.1 (t2 + 2) a4.toNatClampNeg) σ) (fun x10 => if 0 ≤ x10 then (gd (ix x10 186) (j_X0_weighRule_95 t1 t2 a3 a4 z0 (σ.1 7 x10.toNatClampNeg) v5 x2 x10 σ)) else (j_X0_weighRule_95 t1 t2 a3 a4 z0 (1000 : Int32) v5 x2 x10 σ))))))
noncomputable def f_X0_weighRule (t1 : Nat) (t2 : Nat) (a3 : Int32) (a4 : Int32) (σ : Mem) : Option Mem :=
  gd (ix a4 16) (lt (f_X8_armsOf (σ.1 (t2 + 1) a4.toNatClampNeg)) (fun x1 => gd (ix a4 16) (gd (ix a3 31) (if (σ.1 (t2 + 1) a4.toNatClampNeg) = (σ.1 (t1 + 1) a3.toNatClampNeg) then (j_X0_weighRule_33 t1 t2 a3 a4 (0 : Int32) x1 σ) else (j_X0_weighRule_33 t1 t2 a3 a4 (1 : Int32) x1 σ)))))
set_option maxRecDepth 20000 in
theorem w_X0_weighRule_246 {D : va_G} {cy : Nat → ClassId} {ad : Nat → Nat} {p : Program} {l : Launch} {e : Env} {R : Room} {s : State} {m : MethodId} {args : Array Value} {below : List Frame} {meth : Method} {c : Code} (C : Cx 1 D cy ad p R s m args meth c cX0_weighRule 10 RX0 none 2) {t1 : Nat} {t2 : Nat} {a3 : Int32} {a4 : Int32} (ht1 : IsO 1 t1 7) (ht2 : IsO 1 t2 3) {v6 : Int32} {v7 : Int64} {v9 : Int32}  {σ : Mem} {H : Heap} {locs : List Loc} {ls : Array Slot} {r : Mem} (hw : Wd 1 D cy ad s σ H locs) (hl : lv_has ls 10 [(0, .ref (ad (4))), (6, .int v6), (7, .long v7), (9, .int v9)]) (h : j_X0_weighRule_246 t1 t2 a3 a4 v6 v7 v9 σ = some r) : W p l e R s m args below meth c H locs 0 0 (QV 1 D cy ad below args s r) (F0 m 246 ls []) := by
  unfold j_X0_weighRule_246 at h
  refine lv_aload_n C.1 C.2.1 dX0_weighRule_246 rfl (lv_at hl 0 rfl) ?_
  refine gf_X0_19 C hw dX0_weighRule_247 ?_
  refine lv_iload C.1 C.2.1 dX0_weighRule_250 (lv_at hl 3 rfl) ?_
  refine lv_iload C.1 C.2.1 dX0_weighRule_252 (lv_at hl 1 rfl) ?_
  obtain ⟨hin, h⟩ := gd_of h
  refine m_iast C hw a1_7 hin dX0_weighRule_254 (fun H locs hw => ?_)
  obtain ⟨σ4, eσ4, h⟩ := lt_of h
  rw [← eσ4] at hw
  refine lv_aload_n C.1 C.2.1 dX0_weighRule_255 rfl (lv_at hl 0 rfl) ?_
  refine gf_X0_22 C hw dX0_weighRule_256 ?_
  refine lv_iload C.1 C.2.1 dX0_weighRule_259 (lv_at hl 3 rfl) ?_
  refine lv_lload C.1 C.2.1 dX0_weighRule_261 (lv_at hl 2 rfl) ?_
  obtain ⟨hin, h⟩ := gd_of h
  refine m_last C hw a1_8 hin dX0_weighRule_263 (fun H locs hw => ?_)
  obtain ⟨σ5, eσ5, h⟩ := lt_of h
  rw [← eσ5] at hw
  exact m_vret C hw (Option.some.inj h) dX0_weighRule_264
set_option maxRecDepth 20000 in
theorem w_X0_weighRule_187 {D : va_G} {cy : Nat → ClassId} {ad : Nat → Nat} {p : Program} {l : Launch} {e : Env} {R : Room} {s : State} {m : MethodId} {args : Array Value} {below : List Frame} {meth : Method} {c : Code} (C : Cx 1 D cy ad p R s m args meth c cX0_weighRule 10 RX0 none 2) {t1 : Nat} {t2 : Nat} {a3 : Int32} {a4 : Int32} (ht1 : IsO 1 t1 7) (ht2 : IsO 1 t2 3) {v6 : Int32} {v7 : Int64}  {σ : Mem} {H : Heap} {locs : List Loc} {ls : Array Slot} {r : Mem} (hw : Wd 1 D cy ad s σ H locs) (hl : lv_has ls 10 [(0, .ref (ad (4))), (2, .ref (ad (t2))), (3, .int a3), (4, .int a4), (6, .int v6), (7, .long v7)]) (h : j_X0_weighRule_187 t1 t2 a3 a4 v6 v7 σ = some r) : W p l e R s m args below meth c H locs 0 0 (QV 1 D cy ad below args s r) (F0 m 187 ls []) := by
  unfold j_X0_weighRule_187 at h
  refine lv_iload_n C.1 C.2.1 dX0_weighRule_187 rfl (lv_at hl 2 rfl) ?_
  refine lv_bipush (v := (6 : Int32)) C.1 C.2.1 dX0_weighRule_188 (by decide) ?_
  refine lv_imul C.1 C.2.1 dX0_weighRule_190 ?_
  refine lv_aload_n C.1 C.2.1 dX0_weighRule_191 rfl (lv_at hl 1 rfl) ?_
  refine gf_X0_61 C hw ht2 dX0_weighRule_192 ?_
  refine lv_iload C.1 C.2.1 dX0_weighRule_195 (lv_at hl 3 rfl) ?_
  obtain ⟨hin, h⟩ := gd_of h
  refine m_iald C hw (lawA3 ht2) hin dX0_weighRule_197 ?_
  refine lv_iadd C.1 C.2.1 dX0_weighRule_198 ?_
  obtain ⟨x3, ex3, h⟩ := lt_of h
  refine m_topi ex3 ?_
  refine lv_istore (lv' := [(9, .int _), (0, .ref _), (2, .ref _), (3, .int _), (4, .int _), (6, .int _), (7, .long _)]) C.1 C.2.1 dX0_weighRule_199 hl (by decide) rfl (fun ls hl => ?_)
  refine lv_iload C.1 C.2.1 dX0_weighRule_201 (lv_at hl 5 rfl) ?_
  refine lv_aload_n C.1 C.2.1 dX0_weighRule_203 rfl (lv_at hl 1 rfl) ?_
  refine gf_X0_19 C hw dX0_weighRule_204 ?_
  refine lv_iload C.1 C.2.1 dX0_weighRule_207 (lv_at hl 0 rfl) ?_
  obtain ⟨hin, h⟩ := gd_of h
  refine m_iald C hw a1_7 hin dX0_weighRule_209 ?_
  refine lv_icmp_lt (tgt := 246) C.1 C.2.1 dX0_weighRule_210 (by decide) (fun cd => ?_) (fun cd => ?_)
  · have h := ite_t cd h
    exact w_X0_weighRule_246 C ht1 ht2 hw (lv_sub hl [1, 5, 6, 0] rfl) h
  · have h := ite_f cd h
    refine lv_iload C.1 C.2.1 dX0_weighRule_213 (lv_at hl 5 rfl) ?_
    refine lv_sipush (v := (1000 : Int32)) C.1 C.2.1 dX0_weighRule_215 (by decide) ?_
    refine lv_icmp_ge (tgt := 264) C.1 C.2.1 dX0_weighRule_218 (by decide) (fun cd => ?_) (fun cd => ?_)
    · have h := ite_t cd h
      exact m_vret C hw (Option.some.inj h) dX0_weighRule_264
    · have h := ite_f cd h
      refine lv_iload C.1 C.2.1 dX0_weighRule_221 (lv_at hl 5 rfl) ?_
      refine lv_aload_n C.1 C.2.1 dX0_weighRule_223 rfl (lv_at hl 1 rfl) ?_
      refine gf_X0_19 C hw dX0_weighRule_224 ?_
      refine lv_iload C.1 C.2.1 dX0_weighRule_227 (lv_at hl 0 rfl) ?_
      obtain ⟨hin, h⟩ := gd_of h
      refine m_iald C hw a1_7 hin dX0_weighRule_229 ?_
      refine lv_icmp_ne (tgt := 264) C.1 C.2.1 dX0_weighRule_230 (by decide) (fun cd => ?_) (fun cd => ?_)
      · have h := ite_f cd h
        exact m_vret C hw (Option.some.inj h) dX0_weighRule_264
      · have h := ite_t cd h
        refine lv_lload C.1 C.2.1 dX0_weighRule_233 (lv_at hl 6 rfl) ?_
        refine lv_aload_n C.1 C.2.1 dX0_weighRule_235 rfl (lv_at hl 1 rfl) ?_
        refine gf_X0_22 C hw dX0_weighRule_236 ?_
        refine lv_iload C.1 C.2.1 dX0_weighRule_239 (lv_at hl 0 rfl) ?_
        obtain ⟨hin, h⟩ := gd_of h
        refine m_lald C hw a1_8 hin dX0_weighRule_241 ?_
        refine W.lcmp C.1 C.2.1 dX0_weighRule_242 ?_
        refine lv_if_ge (tgt := 264) C.1 C.2.1 dX0_weighRule_243 (by decide) (fun cd => ?_) (fun cd => ?_)
        · have h := ite_t cd h
          exact m_vret C hw (Option.some.inj h) dX0_weighRule_264
        · have h := ite_f cd h
          exact w_X0_weighRule_246 C ht1 ht2 hw (lv_sub hl [1, 5, 6, 0] rfl) h
set_option maxRecDepth 20000 in
theorem w_X0_weighRule_184 {D : va_G} {cy : Nat → ClassId} {ad : Nat → Nat} {p : Program} {l : Launch} {e : Env} {R : Room} {s : State} {m : MethodId} {args : Array Value} {below : List Frame} {meth : Method} {c : Code} (C : Cx 1 D cy ad p R s m args meth c cX0_weighRule 10 RX0 none 2) {t1 : Nat} {t2 : Nat} {a3 : Int32} {a4 : Int32} (ht1 : IsO 1 t1 7) (ht2 : IsO 1 t2 3) {z0 : Int64} {z1 : Int64} {v6 : Int32}  {σ : Mem} {H : Heap} {locs : List Loc} {ls : Array Slot} {r : Mem} (hw : Wd 1 D cy ad s σ H locs) (hl : lv_has ls 10 [(0, .ref (ad (4))), (2, .ref (ad (t2))), (3, .int a3), (4, .int a4), (6, .int v6)]) (h : j_X0_weighRule_184 t1 t2 a3 a4 z0 z1 v6 σ = some r) : W p l e R s m args below meth c H locs 0 0 (QV 1 D cy ad below args s r) (F0 m 184 ls [.long z1, .long z0]) := by
  unfold j_X0_weighRule_184 at h
  refine lv_lor C.1 C.2.1 dX0_weighRule_184 ?_
  obtain ⟨x9, ex9, h⟩ := lt_of h
  refine m_topl ex9 ?_
  refine lv_lstore (lv' := [(7, .long _), (0, .ref _), (2, .ref _), (3, .int _), (4, .int _), (6, .int _)]) C.1 C.2.1 dX0_weighRule_185 hl (by decide) rfl (fun ls hl => ?_)
  exact w_X0_weighRule_187 C ht1 ht2 hw (lv_sub hl [1, 2, 3, 4, 5, 0] rfl) h
set_option maxRecDepth 20000 in
theorem w_X0_weighRule_163 {D : va_G} {cy : Nat → ClassId} {ad : Nat → Nat} {p : Program} {l : Launch} {e : Env} {R : Room} {s : State} {m : MethodId} {args : Array Value} {below : List Frame} {meth : Method} {c : Code} (C : Cx 1 D cy ad p R s m args meth c cX0_weighRule 10 RX0 none 2) {t1 : Nat} {t2 : Nat} {a3 : Int32} {a4 : Int32} (ht1 : IsO 1 t1 7) (ht2 : IsO 1 t2 3) {z0 : Int32} {z1 : Int32} {v7 : Int64} {v9 : Int32}  {σ : Mem} {H : Heap} {locs : List Loc} {ls : Array Slot} {r : Mem} (hw : Wd 1 D cy ad s σ H locs) (hl : lv_has ls 10 [(0, .ref (ad (4))), (2, .ref (ad (t2))), (3, .int a3), (4, .int a4), (7, .long v7), (9, .int v9)]) (h : j_X0_weighRule_163 t1 t2 a3 a4 z0 z1 v7 v9 σ = some r) : W p l e R s m args below meth c H locs 0 0 (QV 1 D cy ad below args s r) (F0 m 163 ls [.int z1, .int z0]) := by
  unfold j_X0_weighRule_163 at h
  refine lv_iadd C.1 C.2.1 dX0_weighRule_163 ?_
  obtain ⟨x8, ex8, h⟩ := lt_of h
  refine m_topi ex8 ?_
  refine lv_istore (lv' := [(6, .int _), (0, .ref _), (2, .ref _), (3, .int _), (4, .int _), (7, .long _), (9, .int _)]) C.1 C.2.1 dX0_weighRule_164 hl (by decide) rfl (fun ls hl => ?_)
  refine lv_lload C.1 C.2.1 dX0_weighRule_166 (lv_at hl 5 rfl) ?_
  refine lv_iload C.1 C.2.1 dX0_weighRule_168 (lv_at hl 6 rfl) ?_
  refine lv_if_ge (tgt := 177) C.1 C.2.1 dX0_weighRule_170 (by decide) (fun cd => ?_) (fun cd => ?_)
  · have h := ite_t cd h
    refine lv_aload_n C.1 C.2.1 dX0_weighRule_177 rfl (lv_at hl 1 rfl) ?_
    refine gf_X0_22 C hw dX0_weighRule_178 ?_
    refine lv_iload C.1 C.2.1 dX0_weighRule_181 (lv_at hl 6 rfl) ?_
    obtain ⟨hin, h⟩ := gd_of h
    refine m_lald C hw a1_8 hin dX0_weighRule_183 ?_
    exact w_X0_weighRule_184 C ht1 ht2 hw (lv_sub hl [1, 2, 3, 4, 0] rfl) h
  · have h := ite_f cd h
    refine lv_lconst (v := (0 : Int64)) C.1 C.2.1 dX0_weighRule_173 (by decide) ?_
    refine lv_goto (tgt := 184) C.1 C.2.1 dX0_weighRule_174 (by decide) ?_
    exact w_X0_weighRule_184 C ht1 ht2 hw (lv_sub hl [1, 2, 3, 4, 0] rfl) h
set_option maxRecDepth 20000 in
theorem w_X0_weighRule_119 {D : va_G} {cy : Nat → ClassId} {ad : Nat → Nat} {p : Program} {l : Launch} {e : Env} {R : Room} {s : State} {m : MethodId} {args : Array Value} {below : List Frame} {meth : Method} {c : Code} (C : Cx 1 D cy ad p R s m args meth c cX0_weighRule 10 RX0 none 2) {t1 : Nat} {t2 : Nat} {a3 : Int32} {a4 : Int32} (ht1 : IsO 1 t1 7) (ht2 : IsO 1 t2 3) {v5 : Int32} {v6 : Int32} {v7 : Int64}  {σ : Mem} {H : Heap} {locs : List Loc} {ls : Array Slot} {r : Mem} (hw : Wd 1 D cy ad s σ H locs) (hl : lv_has ls 10 [(0, .ref (ad (4))), (1, .ref (ad (t1))), (2, .ref (ad (t2))), (3, .int a3), (4, .int a4), (5, .int v5), (6, .int v6), (7, .long v7)]) (h : j_X0_weighRule_119 t1 t2 a3 a4 v5 v6 v7 σ = some r) : W p l e R s m args below meth c H locs 0 0 (QV 1 D cy ad below args s r) (F0 m 119 ls []) := by
  unfold j_X0_weighRule_119 at h
  refine lv_iload C.1 C.2.1 dX0_weighRule_119 (lv_at hl 5 rfl) ?_
  refine lv_iconst (v := (1 : Int32)) C.1 C.2.1 dX0_weighRule_121 (by decide) ?_
  refine lv_icmp_le (tgt := 187) C.1 C.2.1 dX0_weighRule_122 (by decide) (fun cd => ?_) (fun cd => ?_)
  · have h := ite_t cd h
    exact w_X0_weighRule_187 C ht1 ht2 hw (lv_sub hl [0, 2, 3, 4, 6, 7] rfl) h
  · have h := ite_f cd h
    refine lv_aload_n C.1 C.2.1 dX0_weighRule_125 rfl (lv_at hl 1 rfl) ?_
    refine lv_aload_n C.1 C.2.1 dX0_weighRule_126 rfl (lv_at hl 1 rfl) ?_
    refine lv_iload_n C.1 C.2.1 dX0_weighRule_127 rfl (lv_at hl 3 rfl) ?_
    obtain ⟨r6, h1, h⟩ := bS h
    refine go_I hw (run_V (As := [.int _]) C hw (c_X7_secondArm C.2.2.2.2.2.2.2.2.2 _ _ ht1 _ _ h1) mi_X7_secondArm mv_X7_secondArm ht1 (ci := 7) rfl rfl lk_X0_38 (by decide) (by decide) rfl hl.1 rfl (Nat.le_of_ble_eq_true rfl) dX0_weighRule_128 ⟨Nat.le_refl 0, Nat.le_refl 0⟩) (fun H locs hw => ?_)
    refine lv_aload_n C.1 C.2.1 dX0_weighRule_131 rfl (lv_at hl 2 rfl) ?_
    refine gf_X0_80 C hw ht2 dX0_weighRule_132 ?_
    refine lv_iload C.1 C.2.1 dX0_weighRule_135 (lv_at hl 4 rfl) ?_
    obtain ⟨hin, h⟩ := gd_of h
    refine m_iald C hw (lawA2 ht2) hin dX0_weighRule_137 ?_
    refine go_I hw (run_S (As := [.ref _, .int _, .int _]) C hw (c_X0_placeOf C.2.2.2.2.2.2.2.2.2 _ _ _ ht1 _) mi_X0_placeOf ms_X0_placeOf lk_X0_76 (by decide) (by decide) rfl hl.1 rfl (Nat.le_of_ble_eq_true rfl) dX0_weighRule_138 ⟨Nat.le_refl 0, Nat.le_refl 0⟩) (fun H locs hw => ?_)
    obtain ⟨x7, ex7, h⟩ := lt_of h
    refine m_topi ex7 ?_
    refine lv_istore (lv' := [(9, .int _), (0, .ref _), (1, .ref _), (2, .ref _), (3, .int _), (4, .int _), (5, .int _), (6, .int _), (7, .long _)]) C.1 C.2.1 dX0_weighRule_141 hl (by decide) rfl (fun ls hl => ?_)
    refine lv_iload C.1 C.2.1 dX0_weighRule_143 (lv_at hl 7 rfl) ?_
    refine lv_iload C.1 C.2.1 dX0_weighRule_145 (lv_at hl 0 rfl) ?_
    refine lv_if_ge (tgt := 156) C.1 C.2.1 dX0_weighRule_147 (by decide) (fun cd => ?_) (fun cd => ?_)
    · have h := ite_t cd h
      refine lv_aload_n C.1 C.2.1 dX0_weighRule_156 rfl (lv_at hl 1 rfl) ?_
      refine gf_X0_19 C hw dX0_weighRule_157 ?_
      refine lv_iload C.1 C.2.1 dX0_weighRule_160 (lv_at hl 0 rfl) ?_
      obtain ⟨hin, h⟩ := gd_of h
      refine m_iald C hw a1_7 hin dX0_weighRule_162 ?_
      exact w_X0_weighRule_163 C ht1 ht2 hw (lv_sub hl [1, 3, 4, 5, 8, 0] rfl) h
    · have h := ite_f cd h
      refine lv_sipush (v := (1000 : Int32)) C.1 C.2.1 dX0_weighRule_150 (by decide) ?_
      refine lv_goto (tgt := 163) C.1 C.2.1 dX0_weighRule_153 (by decide) ?_
      exact w_X0_weighRule_163 C ht1 ht2 hw (lv_sub hl [1, 3, 4, 5, 8, 0] rfl) h
set_option maxRecDepth 20000 in
theorem w_X0_weighRule_116 {D : va_G} {cy : Nat → ClassId} {ad : Nat → Nat} {p : Program} {l : Launch} {e : Env} {R : Room} {s : State} {m : MethodId} {args : Array Value} {below : List Frame} {meth : Method} {c : Code} (C : Cx 1 D cy ad p R s m args meth c cX0_weighRule 10 RX0 none 2) {t1 : Nat} {t2 : Nat} {a3 : Int32} {a4 : Int32} (ht1 : IsO 1 t1 7) (ht2 : IsO 1 t2 3) {z0 : Int64} {z1 : Int64} {v5 : Int32} {v6 : Int32}  {σ : Mem} {H : Heap} {locs : List Loc} {ls : Array Slot} {r : Mem} (hw : Wd 1 D cy ad s σ H locs) (hl : lv_has ls 10 [(0, .ref (ad (4))), (1, .ref (ad (t1))), (2, .ref (ad (t2))), (3, .int a3), (4, .int a4), (5, .int v5), (6, .int v6)]) (h : j_X0_weighRule_116 t1 t2 a3 a4 z0 z1 v5 v6 σ = some r) : W p l e R s m args below meth c H locs 0 0 (QV 1 D cy ad below args s r) (F0 m 116 ls [.long z1, .long z0]) := by
  unfold j_X0_weighRule_116 at h
  refine lv_lor C.1 C.2.1 dX0_weighRule_116 ?_
  obtain ⟨x12, ex12, h⟩ := lt_of h
  refine m_topl ex12 ?_
  refine lv_lstore (lv' := [(7, .long _), (0, .ref _), (1, .ref _), (2, .ref _), (3, .int _), (4, .int _), (5, .int _), (6, .int _)]) C.1 C.2.1 dX0_weighRule_117 hl (by decide) rfl (fun ls hl => ?_)
  exact w_X0_weighRule_119 C ht1 ht2 hw (lv_sub hl [1, 2, 3, 4, 5, 6, 7, 0] rfl) h
set_option maxRecDepth 20000 in
theorem w_X0_weighRule_95 {D : va_G} {cy : Nat → ClassId} {ad : Nat → Nat} {p : Program} {l : Launch} {e : Env} {R : Room} {s : State} {m : MethodId} {args : Array Value} {below : List Frame} {meth : Method} {c : Code} (C : Cx 1 D cy ad p R s m args meth c cX0_weighRule 10 RX0 none 2) {t1 : Nat} {t2 : Nat} {a3 : Int32} {a4 : Int32} (ht1 : IsO 1 t1 7) (ht2 : IsO 1 t2 3) {z0 : Int32} {z1 : Int32} {v5 : Int32} {v7 : Int64} {v9 : Int32}  {σ : Mem} {H : Heap} {locs : List Loc} {ls : Array Slot} {r : Mem} (hw : Wd 1 D cy ad s σ H locs) (hl : lv_has ls 10 [(0, .ref (ad (4))), (1, .ref (ad (t1))), (2, .ref (ad (t2))), (3, .int a3), (4, .int a4), (5, .int v5), (7, .long v7), (9, .int v9)]) (h : j_X0_weighRule_95 t1 t2 a3 a4 z0 z1 v5 v7 v9 σ = some r) : W p l e R s m args below meth c H locs 0 0 (QV 1 D cy ad below args s r) (F0 m 95 ls [.int z1, .int z0]) := by
  unfold j_X0_weighRule_95 at h
  refine lv_iadd C.1 C.2.1 dX0_weighRule_95 ?_
  obtain ⟨x11, ex11, h⟩ := lt_of h
  refine m_topi ex11 ?_
  refine lv_istore (lv' := [(6, .int _), (0, .ref _), (1, .ref _), (2, .ref _), (3, .int _), (4, .int _), (5, .int _), (7, .long _), (9, .int _)]) C.1 C.2.1 dX0_weighRule_96 hl (by decide) rfl (fun ls hl => ?_)
  refine lv_lload C.1 C.2.1 dX0_weighRule_98 (lv_at hl 7 rfl) ?_
  refine lv_iload C.1 C.2.1 dX0_weighRule_100 (lv_at hl 8 rfl) ?_
  refine lv_if_ge (tgt := 109) C.1 C.2.1 dX0_weighRule_102 (by decide) (fun cd => ?_) (fun cd => ?_)
  · have h := ite_t cd h
    refine lv_aload_n C.1 C.2.1 dX0_weighRule_109 rfl (lv_at hl 1 rfl) ?_
    refine gf_X0_22 C hw dX0_weighRule_110 ?_
    refine lv_iload C.1 C.2.1 dX0_weighRule_113 (lv_at hl 8 rfl) ?_
    obtain ⟨hin, h⟩ := gd_of h
    refine m_lald C hw a1_8 hin dX0_weighRule_115 ?_
    exact w_X0_weighRule_116 C ht1 ht2 hw (lv_sub hl [1, 2, 3, 4, 5, 6, 0] rfl) h
  · have h := ite_f cd h
    refine lv_lconst (v := (0 : Int64)) C.1 C.2.1 dX0_weighRule_105 (by decide) ?_
    refine lv_goto (tgt := 116) C.1 C.2.1 dX0_weighRule_106 (by decide) ?_
    exact w_X0_weighRule_116 C ht1 ht2 hw (lv_sub hl [1, 2, 3, 4, 5, 6, 0] rfl) h
set_option maxRecDepth 20000 in
theorem w_X0_weighRule_33 {D : va_G} {cy : Nat → ClassId} {ad : Nat → Nat} {p : Program} {l : Launch} {e : Env} {R : Room} {s : State} {m : MethodId} {args : Array Value} {below : List Frame} {meth : Method} {c : Code} (C : Cx 1 D cy ad p R s m args meth c cX0_weighRule 10 RX0 none 2) {t1 : Nat} {t2 : Nat} {a3 : Int32} {a4 : Int32} (ht1 : IsO 1 t1 7) (ht2 : IsO 1 t2 3) {z0 : Int32} {v5 : Int32}  {σ : Mem} {H : Heap} {locs : List Loc} {ls : Array Slot} {r : Mem} (hw : Wd 1 D cy ad s σ H locs) (hl : lv_has ls 10 [(0, .ref (ad (4))), (1, .ref (ad (t1))), (2, .ref (ad (t2))), (3, .int a3), (4, .int a4), (5, .int v5)]) (h : j_X0_weighRule_33 t1 t2 a3 a4 z0 v5 σ = some r) : W p l e R s m args below meth c H locs 0 0 (QV 1 D cy ad below args s r) (F0 m 33 ls [.int z0]) := by
  unfold j_X0_weighRule_33 at h
  refine lv_istore (lv' := [(6, .int _), (0, .ref _), (1, .ref _), (2, .ref _), (3, .int _), (4, .int _), (5, .int _)]) C.1 C.2.1 dX0_weighRule_33 hl (by decide) rfl (fun ls hl => ?_)
  refine lv_aload_n C.1 C.2.1 dX0_weighRule_35 rfl (lv_at hl 3 rfl) ?_
  refine gf_X0_60 C hw ht2 dX0_weighRule_36 ?_
  refine lv_iload C.1 C.2.1 dX0_weighRule_39 (lv_at hl 5 rfl) ?_
  obtain ⟨hin, h⟩ := gd_of h
  refine m_iald C hw (lawA0 ht2) hin dX0_weighRule_41 ?_
  refine lv_iload C.1 C.2.1 dX0_weighRule_42 (lv_at hl 6 rfl) ?_
  refine go_I hw (run_SN (As := [.int _]) C hw (c_X8_firstSignWith C.2.2.2.2.2.2.2.2.2 _ _) mi_X8_firstSignWith ms_X8_firstSignWith lk_X0_87 (by decide) (by decide) rfl hl.1 rfl (Nat.le_of_ble_eq_true rfl) dX0_weighRule_44 ⟨Nat.le_refl 0, Nat.le_refl 0⟩) (fun H locs hw => ?_)
  refine lv_isub C.1 C.2.1 dX0_weighRule_47 ?_
  refine lv_iload_n C.1 C.2.1 dX0_weighRule_48 rfl (lv_at hl 4 rfl) ?_
  refine go_L hw (run_S (As := [.int _, .int _]) C hw (c_X0_codeOfStep C.2.2.2.2.2.2.2.2.2 _ _ _) mi_X0_codeOfStep ms_X0_codeOfStep lk_X0_90 (by decide) (by decide) rfl hl.1 rfl (Nat.le_of_ble_eq_true rfl) dX0_weighRule_49 ⟨Nat.le_refl 0, Nat.le_refl 0⟩) (fun H locs hw => ?_)
  obtain ⟨x2, ex2, h⟩ := lt_of h
  refine m_topl ex2 ?_
  refine lv_lstore (lv' := [(7, .long _), (6, .int _), (0, .ref _), (1, .ref _), (2, .ref _), (3, .int _), (4, .int _), (5, .int _)]) C.1 C.2.1 dX0_weighRule_52 hl (by decide) rfl (fun ls hl => ?_)
  refine lv_iload C.1 C.2.1 dX0_weighRule_54 (lv_at hl 7 rfl) ?_
  refine lv_if_le (tgt := 119) C.1 C.2.1 dX0_weighRule_56 (by decide) (fun cd => ?_) (fun cd => ?_)
  · have h := ite_t cd h
    exact w_X0_weighRule_119 C ht1 ht2 hw (lv_sub hl [2, 3, 4, 5, 6, 7, 1, 0] rfl) h
  · have h := ite_f cd h
    refine lv_aload_n C.1 C.2.1 dX0_weighRule_59 rfl (lv_at hl 3 rfl) ?_
    refine lv_iload_n C.1 C.2.1 dX0_weighRule_60 rfl (lv_at hl 5 rfl) ?_
    refine lv_iconst (v := (1 : Int32)) C.1 C.2.1 dX0_weighRule_61 (by decide) ?_
    refine lv_iadd C.1 C.2.1 dX0_weighRule_62 ?_
    refine lv_aload_n C.1 C.2.1 dX0_weighRule_63 rfl (lv_at hl 4 rfl) ?_
    refine gf_X0_73 C hw ht2 dX0_weighRule_64 ?_
    refine lv_iload C.1 C.2.1 dX0_weighRule_67 (lv_at hl 6 rfl) ?_
    obtain ⟨hin, h⟩ := gd_of h
    refine m_iald C hw (lawA1 ht2) hin dX0_weighRule_69 ?_
    refine go_I hw (run_S (As := [.ref _, .int _, .int _]) C hw (c_X0_placeOf C.2.2.2.2.2.2.2.2.2 _ _ _ ht1 _) mi_X0_placeOf ms_X0_placeOf lk_X0_76 (by decide) (by decide) rfl hl.1 rfl (Nat.le_of_ble_eq_true rfl) dX0_weighRule_70 ⟨Nat.le_refl 0, Nat.le_refl 0⟩) (fun H locs hw => ?_)
    obtain ⟨x10, ex10, h⟩ := lt_of h
    refine m_topi ex10 ?_
    refine lv_istore (lv' := [(9, .int _), (7, .long _), (6, .int _), (0, .ref _), (1, .ref _), (2, .ref _), (3, .int _), (4, .int _), (5, .int _)]) C.1 C.2.1 dX0_weighRule_73 hl (by decide) rfl (fun ls hl => ?_)
    refine lv_iload C.1 C.2.1 dX0_weighRule_75 (lv_at hl 2 rfl) ?_
    refine lv_iload C.1 C.2.1 dX0_weighRule_77 (lv_at hl 0 rfl) ?_
    refine lv_if_ge (tgt := 88) C.1 C.2.1 dX0_weighRule_79 (by decide) (fun cd => ?_) (fun cd => ?_)
    · have h := ite_t cd h
      refine lv_aload_n C.1 C.2.1 dX0_weighRule_88 rfl (lv_at hl 3 rfl) ?_
      refine gf_X0_19 C hw dX0_weighRule_89 ?_
      refine lv_iload C.1 C.2.1 dX0_weighRule_92 (lv_at hl 0 rfl) ?_
      obtain ⟨hin, h⟩ := gd_of h
      refine m_iald C hw a1_7 hin dX0_weighRule_94 ?_
      exact w_X0_weighRule_95 C ht1 ht2 hw (lv_sub hl [3, 4, 5, 6, 7, 8, 1, 0] rfl) h
    · have h := ite_f cd h
      refine lv_sipush (v := (1000 : Int32)) C.1 C.2.1 dX0_weighRule_82 (by decide) ?_
      refine lv_goto (tgt := 95) C.1 C.2.1 dX0_weighRule_85 (by decide) ?_
      exact w_X0_weighRule_95 C ht1 ht2 hw (lv_sub hl [3, 4, 5, 6, 7, 8, 1, 0] rfl) h
set_option maxRecDepth 20000 in
theorem c_X0_weighRule {l : Launch} {D : va_G} {cy : Nat → ClassId} {ad : Nat → Nat} (hj : InjW 1 ad) (t1 : Nat) (t2 : Nat) (a3 : Int32) (a4 : Int32) (ht1 : IsO 1 t1 7) (ht2 : IsO 1 t2 3) (σ : Mem) (r : Mem) (h : f_X0_weighRule t1 t2 a3 a4 σ = some r) : CV 1 D cy ad l yX0_weighRule cX0_weighRule 10 none 2 [.ref (ad (4)), .ref (ad (t1)), .ref (ad (t2)), .int a3, .int a4] σ r := by
  refine CV.mk (by decide) hj (Nat.le_of_ble_eq_true rfl) (fun p e R s m below meth c ls C hw hl => ?_)
  have hl : lv_has ls 10 [(0, .ref (ad (4))), (1, .ref (ad (t1))), (2, .ref (ad (t2))), (3, .int a3), (4, .int a4)] := hl
  generalize ([.ref (ad (4)), .ref (ad (t1)), .ref (ad (t2)), .int a3, .int a4] : List Value).toArray = args at C ⊢
  have C : Cx 1 D cy ad p R s m args meth c cX0_weighRule 10 RX0 none 2 := C
  unfold f_X0_weighRule at h
  refine lv_aload_n C.1 C.2.1 dX0_weighRule_0 rfl (lv_at hl 2 rfl) ?_
  refine gf_X0_60 C hw ht2 dX0_weighRule_1 ?_
  refine lv_iload C.1 C.2.1 dX0_weighRule_4 (lv_at hl 4 rfl) ?_
  obtain ⟨hin, h⟩ := gd_of h
  refine m_iald C hw (lawA0 ht2) hin dX0_weighRule_6 ?_
  refine go_I hw (run_SN (As := [.int _]) C hw (c_X8_armsOf C.2.2.2.2.2.2.2.2.2 _ _) mi_X8_armsOf ms_X8_armsOf lk_X0_70 (by decide) (by decide) rfl hl.1 rfl (Nat.le_of_ble_eq_true rfl) dX0_weighRule_7 ⟨Nat.le_refl 0, Nat.le_refl 0⟩) (fun H locs hw => ?_)
  obtain ⟨x1, ex1, h⟩ := lt_of h
  refine m_topi ex1 ?_
  refine lv_istore (lv' := [(5, .int _), (0, .ref _), (1, .ref _), (2, .ref _), (3, .int _), (4, .int _)]) C.1 C.2.1 dX0_weighRule_10 hl (by decide) rfl (fun ls hl => ?_)
  refine lv_aload_n C.1 C.2.1 dX0_weighRule_12 rfl (lv_at hl 3 rfl) ?_
  refine gf_X0_60 C hw ht2 dX0_weighRule_13 ?_
  refine lv_iload C.1 C.2.1 dX0_weighRule_16 (lv_at hl 5 rfl) ?_
  obtain ⟨hin, h⟩ := gd_of h
  refine m_iald C hw (lawA0 ht2) hin dX0_weighRule_18 ?_
  refine lv_aload_n C.1 C.2.1 dX0_weighRule_19 rfl (lv_at hl 2 rfl) ?_
  refine gf_X0_31 C hw ht1 dX0_weighRule_20 ?_
  refine lv_iload_n C.1 C.2.1 dX0_weighRule_23 rfl (lv_at hl 4 rfl) ?_
  obtain ⟨hin, h⟩ := gd_of h
  refine m_iald C hw (treeA0 ht1) hin dX0_weighRule_24 ?_
  refine lv_icmp_ne (tgt := 32) C.1 C.2.1 dX0_weighRule_25 (by decide) (fun cd => ?_) (fun cd => ?_)
  · have h := ite_f cd h
    refine lv_iconst (v := (1 : Int32)) C.1 C.2.1 dX0_weighRule_32 (by decide) ?_
    exact w_X0_weighRule_33 C ht1 ht2 hw (lv_sub hl [1, 2, 3, 4, 5, 0] rfl) h
  · have h := ite_t cd h
    refine lv_iconst (v := (0 : Int32)) C.1 C.2.1 dX0_weighRule_28 (by decide) ?_
    refine lv_goto (tgt := 33) C.1 C.2.1 dX0_weighRule_29 (by decide) ?_
    exact w_X0_weighRule_33 C ht1 ht2 hw (lv_sub hl [1, 2, 3, 4, 5, 0] rfl) h
noncomputable def b_X0_weighChanges_16 (t1 : Nat) (t2 : Nat) (a3 : Int32) (v4 : Int32) (v5 : Int32) (σ : Mem) : Option ((Int32 × Int32 × Mem) ⊕ (Int32 × Mem)) :=
  if (6 : Int32) ≤ v5 then (some (.inr (v4, σ))) else (gd (ix ((v4 * (6 : Int32)) + v5) 186) (lt (sI σ 7 ((v4 * (6 : Int32)) + v5).toNatClampNeg (1000 : Int32)) (fun σ2 => gd (ix ((v4 * (6 : Int32)) + v5) 186) (lt (sJ σ2 8 ((v4 * (6 : Int32)) + v5).toNatClampNeg (0 : Int64)) (fun σ3 => lt (v5 + (1 : Int32)) (fun x4 => some (.inl (v4, x4, σ3))))))))
noncomputable def j_X0_weighChanges_114 (t1 : Nat) (t2 : Nat) (a3 : Int32) (v4 : Int32) (v5 : Int32) (σ : Mem) : Option ((Int32 × Int32 × Mem) ⊕ (Int32 × Mem)) :=
  lt (v5 + (1 : Int32)) (fun x6 => some (.inl (v4, x6, σ)))
noncomputable def b_X0_weighChanges_62 (t1 : Nat) (t2 : Nat) (a3 : Int32) (v4 : Int32) (v5 : Int32) (σ : Mem) : Option ((Int32 × Int32 × Mem) ⊕ (Int32 × Mem)) :=
  if (σ.1 t2 4) ≤ v5 then (some (.inr (v4, σ))) else (if (f_X8_bit a3 v5) = (1 : Int32) then (gd (ix v5 16) (gd (ix v4 31) (if (f_X8_armsOf (σ.1 (t2 + 1) v5.toNatClampNeg)) = (f_X8_armsOf (σ.1 (t1 + 1) v4.toNatClampNeg)) then ((f_X0_weighRule t1 t2 v4 v5 σ).bind (fun r7 => j_X0_weighChanges_114 t1 t2 a3 v4 v5 r7)) else (j_X0_weighChanges_114 t1 t2 a3 v4 v5 σ)))) else (j_X0_weighChanges_114 t1 t2 a3 v4 v5 σ))
noncomputable def b_X0_weighChanges_8 (t1 : Nat) (t2 : Nat) (a3 : Int32) (v4 : Int32) (σ : Mem) : Option ((Int32 × Mem) ⊕ Mem) :=
  if v4 < 0 then (some (.inr σ)) else ((Lim (T := (Int32 × Mem)) (fun s => b_X0_weighChanges_16 t1 t2 a3 s.1 s.2.1 s.2.2) (v4, (0 : Int32), σ)).bind (fun r5 => (Lim (T := (Int32 × Mem)) (fun s => b_X0_weighChanges_62 t1 t2 a3 s.1 s.2.1 s.2.2) (r5.1, (0 : Int32), r5.2)).bind (fun r8 => lt (r8.1 + (-1 : Int32)) (fun x9 => some (.inl (x9, r8.2))))))
noncomputable def f_X0_weighChanges (t1 : Nat) (t2 : Nat) (a3 : Int32) (σ : Mem) : Option Mem :=
  lt ((σ.1 t1 4) - (1 : Int32)) (fun x1 => (Lim (T := Mem) (fun s => b_X0_weighChanges_8 t1 t2 a3 s.1 s.2) (x1, σ)).bind (fun r10 => some r10))
set_option maxRecDepth 20000 in
theorem w_X0_weighChanges_16 {D : va_G} {cy : Nat → ClassId} {ad : Nat → Nat} {p : Program} {l : Launch} {e : Env} {R : Room} {s : State} {m : MethodId} {args : Array Value} {below : List Frame} {meth : Method} {c : Code} (C : Cx 1 D cy ad p R s m args meth c cX0_weighChanges 6 RX0 none 3) {t1 : Nat} {t2 : Nat} {a3 : Int32} (ht1 : IsO 1 t1 7) (ht2 : IsO 1 t2 3) {v4 : Int32} {v5 : Int32} {σ : Mem} {Q : State → Prop} {r : (Int32 × Mem)} (hL : Lim (T := (Int32 × Mem)) (fun s => b_X0_weighChanges_16 t1 t2 a3 s.1 s.2.1 s.2.2) (v4, v5, σ) = some r) (hE0 : ∀ (v4 : Int32) (σ1 : Mem), ((v4, σ1) : (Int32 × Mem)) = r → ∀ (H : Heap) (locs : List Loc) (ls : Array Slot), Wd 1 D cy ad s σ1 H locs → lv_has ls 6 [(0, .ref (ad (4))), (1, .ref (ad (t1))), (2, .ref (ad (t2))), (3, .int a3), (4, .int v4)] → W p l e R s m args below meth c H locs 0 0 Q (F0 m 59 ls [])) (H : Heap) (locs : List Loc) (ls : Array Slot) (hw : Wd 1 D cy ad s σ H locs) (hl : lv_has ls 6 [(0, .ref (ad (4))), (1, .ref (ad (t1))), (2, .ref (ad (t2))), (3, .int a3), (4, .int v4), (5, .int v5)]) : W p l e R s m args below meth c H locs 0 0 Q (F0 m 16 ls []) := by
  refine Lim_ind hL (P := fun u => ∀ (H : Heap) (locs : List Loc) (ls : Array Slot), Wd 1 D cy ad s u.2.2 H locs → lv_has ls 6 [(0, .ref (ad (4))), (1, .ref (ad (t1))), (2, .ref (ad (t2))), (3, .int a3), (4, .int u.1), (5, .int u.2.1)] → W p l e R s m args below meth c H locs 0 0 Q (F0 m 16 ls [])) (fun u x h hx H locs ls hw hl => ?_) H locs ls hw hl
  clear hL
  obtain ⟨v4, v5, σ⟩ := u
  have h : b_X0_weighChanges_16 t1 t2 a3 v4 v5 σ = some x := h
  have hw : Wd 1 D cy ad s σ H locs := hw
  have hl : lv_has ls 6 [(0, .ref (ad (4))), (1, .ref (ad (t1))), (2, .ref (ad (t2))), (3, .int a3), (4, .int v4), (5, .int v5)] := hl
  have hP : ∀ (u : (Int32 × Int32 × Mem)), (∀ (H : Heap) (locs : List Loc) (ls : Array Slot), Wd 1 D cy ad s u.2.2 H locs → lv_has ls 6 [(0, .ref (ad (4))), (1, .ref (ad (t1))), (2, .ref (ad (t2))), (3, .int a3), (4, .int u.1), (5, .int u.2.1)] → W p l e R s m args below meth c H locs 0 0 Q (F0 m 16 ls [])) → ∀ (H : Heap) (locs : List Loc) (ls : Array Slot), Wd 1 D cy ad s u.2.2 H locs → lv_has ls 6 [(0, .ref (ad (4))), (1, .ref (ad (t1))), (2, .ref (ad (t2))), (3, .int a3), (4, .int u.1), (5, .int u.2.1)] → W p l e R s m args below meth c H locs 0 0 Q (F0 m 16 ls []) := fun _ k => k
  unfold b_X0_weighChanges_16 at h
  refine lv_iload C.1 C.2.1 dX0_weighChanges_16 (lv_at hl 5 rfl) ?_
  refine lv_bipush (v := (6 : Int32)) C.1 C.2.1 dX0_weighChanges_18 (by decide) ?_
  refine lv_icmp_ge (tgt := 59) C.1 C.2.1 dX0_weighChanges_20 (by decide) (fun cd => ?_) (fun cd => ?_)
  · have h := ite_t cd h
    obtain rfl := Option.some.inj h
    exact hE0 _ _ hx _ _ _ hw (lv_sub hl [0, 1, 2, 3, 4] rfl)
  · have h := ite_f cd h
    refine lv_aload_n C.1 C.2.1 dX0_weighChanges_23 rfl (lv_at hl 0 rfl) ?_
    refine gf_X0_19 C hw dX0_weighChanges_24 ?_
    refine lv_iload C.1 C.2.1 dX0_weighChanges_27 (lv_at hl 4 rfl) ?_
    refine lv_bipush (v := (6 : Int32)) C.1 C.2.1 dX0_weighChanges_29 (by decide) ?_
    refine lv_imul C.1 C.2.1 dX0_weighChanges_31 ?_
    refine lv_iload C.1 C.2.1 dX0_weighChanges_32 (lv_at hl 5 rfl) ?_
    refine lv_iadd C.1 C.2.1 dX0_weighChanges_34 ?_
    refine lv_sipush (v := (1000 : Int32)) C.1 C.2.1 dX0_weighChanges_35 (by decide) ?_
    obtain ⟨hin, h⟩ := gd_of h
    refine m_iast C hw a1_7 hin dX0_weighChanges_38 (fun H locs hw => ?_)
    obtain ⟨σ2, eσ2, h⟩ := lt_of h
    rw [← eσ2] at hw
    refine lv_aload_n C.1 C.2.1 dX0_weighChanges_39 rfl (lv_at hl 0 rfl) ?_
    refine gf_X0_22 C hw dX0_weighChanges_40 ?_
    refine lv_iload C.1 C.2.1 dX0_weighChanges_43 (lv_at hl 4 rfl) ?_
    refine lv_bipush (v := (6 : Int32)) C.1 C.2.1 dX0_weighChanges_45 (by decide) ?_
    refine lv_imul C.1 C.2.1 dX0_weighChanges_47 ?_
    refine lv_iload C.1 C.2.1 dX0_weighChanges_48 (lv_at hl 5 rfl) ?_
    refine lv_iadd C.1 C.2.1 dX0_weighChanges_50 ?_
    refine lv_lconst (v := (0 : Int64)) C.1 C.2.1 dX0_weighChanges_51 (by decide) ?_
    obtain ⟨hin, h⟩ := gd_of h
    refine m_last C hw a1_8 hin dX0_weighChanges_52 (fun H locs hw => ?_)
    obtain ⟨σ3, eσ3, h⟩ := lt_of h
    rw [← eσ3] at hw
    obtain ⟨x4, ex4, h⟩ := lt_of h
    refine m_iinc (k := 5) (lv' := [(5, .int _), (0, .ref _), (1, .ref _), (2, .ref _), (3, .int _), (4, .int _)]) C (1 : Int32) (by decide) dX0_weighChanges_53 hl rfl ex4.symm (by decide) rfl (fun ls hl => ?_)
    refine lv_goto (tgt := 16) C.1 C.2.1 dX0_weighChanges_56 (by decide) ?_
    obtain rfl := Option.some.inj h
    exact hP _ hx _ _ _ hw (lv_sub hl [1, 2, 3, 4, 5, 0] rfl)
set_option maxRecDepth 20000 in
theorem w_X0_weighChanges_114 {D : va_G} {cy : Nat → ClassId} {ad : Nat → Nat} {p : Program} {l : Launch} {e : Env} {R : Room} {s : State} {m : MethodId} {args : Array Value} {below : List Frame} {meth : Method} {c : Code} (C : Cx 1 D cy ad p R s m args meth c cX0_weighChanges 6 RX0 none 3) {t1 : Nat} {t2 : Nat} {a3 : Int32} (ht1 : IsO 1 t1 7) (ht2 : IsO 1 t2 3) {v4 : Int32} {v5 : Int32}  {σ : Mem} {H : Heap} {locs : List Loc} {ls : Array Slot} {Q : State → Prop} {P : (Int32 × Int32 × Mem) → Prop} {r : (Int32 × Mem)} {x : (Int32 × Int32 × Mem) ⊕ (Int32 × Mem)} (hx : LimQ P r x) (hP : ∀ u, P u → ∀ (H : Heap) (locs : List Loc) (ls : Array Slot), Wd 1 D cy ad s u.2.2 H locs → lv_has ls 6 [(0, .ref (ad (4))), (1, .ref (ad (t1))), (2, .ref (ad (t2))), (3, .int a3), (4, .int u.1), (5, .int u.2.1)] → W p l e R s m args below meth c H locs 0 0 Q (F0 m 62 ls [])) (hE0 : ∀ (v4 : Int32) (σ1 : Mem), ((v4, σ1) : (Int32 × Mem)) = r → ∀ (H : Heap) (locs : List Loc) (ls : Array Slot), Wd 1 D cy ad s σ1 H locs → lv_has ls 6 [(0, .ref (ad (4))), (1, .ref (ad (t1))), (2, .ref (ad (t2))), (3, .int a3), (4, .int v4)] → W p l e R s m args below meth c H locs 0 0 Q (F0 m 120 ls [])) (hw : Wd 1 D cy ad s σ H locs) (hl : lv_has ls 6 [(0, .ref (ad (4))), (1, .ref (ad (t1))), (2, .ref (ad (t2))), (3, .int a3), (4, .int v4), (5, .int v5)]) (h : j_X0_weighChanges_114 t1 t2 a3 v4 v5 σ = some x) : W p l e R s m args below meth c H locs 0 0 Q (F0 m 114 ls []) := by
  unfold j_X0_weighChanges_114 at h
  obtain ⟨x6, ex6, h⟩ := lt_of h
  refine m_iinc (k := 5) (lv' := [(5, .int _), (0, .ref _), (1, .ref _), (2, .ref _), (3, .int _), (4, .int _)]) C (1 : Int32) (by decide) dX0_weighChanges_114 hl rfl ex6.symm (by decide) rfl (fun ls hl => ?_)
  refine lv_goto (tgt := 62) C.1 C.2.1 dX0_weighChanges_117 (by decide) ?_
  obtain rfl := Option.some.inj h
  exact hP _ hx _ _ _ hw (lv_sub hl [1, 2, 3, 4, 5, 0] rfl)
set_option maxRecDepth 20000 in
theorem w_X0_weighChanges_62 {D : va_G} {cy : Nat → ClassId} {ad : Nat → Nat} {p : Program} {l : Launch} {e : Env} {R : Room} {s : State} {m : MethodId} {args : Array Value} {below : List Frame} {meth : Method} {c : Code} (C : Cx 1 D cy ad p R s m args meth c cX0_weighChanges 6 RX0 none 3) {t1 : Nat} {t2 : Nat} {a3 : Int32} (ht1 : IsO 1 t1 7) (ht2 : IsO 1 t2 3) {v4 : Int32} {v5 : Int32} {σ : Mem} {Q : State → Prop} {r : (Int32 × Mem)} (hL : Lim (T := (Int32 × Mem)) (fun s => b_X0_weighChanges_62 t1 t2 a3 s.1 s.2.1 s.2.2) (v4, v5, σ) = some r) (hE0 : ∀ (v4 : Int32) (σ1 : Mem), ((v4, σ1) : (Int32 × Mem)) = r → ∀ (H : Heap) (locs : List Loc) (ls : Array Slot), Wd 1 D cy ad s σ1 H locs → lv_has ls 6 [(0, .ref (ad (4))), (1, .ref (ad (t1))), (2, .ref (ad (t2))), (3, .int a3), (4, .int v4)] → W p l e R s m args below meth c H locs 0 0 Q (F0 m 120 ls [])) (H : Heap) (locs : List Loc) (ls : Array Slot) (hw : Wd 1 D cy ad s σ H locs) (hl : lv_has ls 6 [(0, .ref (ad (4))), (1, .ref (ad (t1))), (2, .ref (ad (t2))), (3, .int a3), (4, .int v4), (5, .int v5)]) : W p l e R s m args below meth c H locs 0 0 Q (F0 m 62 ls []) := by
  refine Lim_ind hL (P := fun u => ∀ (H : Heap) (locs : List Loc) (ls : Array Slot), Wd 1 D cy ad s u.2.2 H locs → lv_has ls 6 [(0, .ref (ad (4))), (1, .ref (ad (t1))), (2, .ref (ad (t2))), (3, .int a3), (4, .int u.1), (5, .int u.2.1)] → W p l e R s m args below meth c H locs 0 0 Q (F0 m 62 ls [])) (fun u x h hx H locs ls hw hl => ?_) H locs ls hw hl
  clear hL
  obtain ⟨v4, v5, σ⟩ := u
  have h : b_X0_weighChanges_62 t1 t2 a3 v4 v5 σ = some x := h
  have hw : Wd 1 D cy ad s σ H locs := hw
  have hl : lv_has ls 6 [(0, .ref (ad (4))), (1, .ref (ad (t1))), (2, .ref (ad (t2))), (3, .int a3), (4, .int v4), (5, .int v5)] := hl
  have hP : ∀ (u : (Int32 × Int32 × Mem)), (∀ (H : Heap) (locs : List Loc) (ls : Array Slot), Wd 1 D cy ad s u.2.2 H locs → lv_has ls 6 [(0, .ref (ad (4))), (1, .ref (ad (t1))), (2, .ref (ad (t2))), (3, .int a3), (4, .int u.1), (5, .int u.2.1)] → W p l e R s m args below meth c H locs 0 0 Q (F0 m 62 ls [])) → ∀ (H : Heap) (locs : List Loc) (ls : Array Slot), Wd 1 D cy ad s u.2.2 H locs → lv_has ls 6 [(0, .ref (ad (4))), (1, .ref (ad (t1))), (2, .ref (ad (t2))), (3, .int a3), (4, .int u.1), (5, .int u.2.1)] → W p l e R s m args below meth c H locs 0 0 Q (F0 m 62 ls []) := fun _ k => k
  unfold b_X0_weighChanges_62 at h
  refine lv_iload C.1 C.2.1 dX0_weighChanges_62 (lv_at hl 5 rfl) ?_
  refine lv_aload_n C.1 C.2.1 dX0_weighChanges_64 rfl (lv_at hl 2 rfl) ?_
  refine gf_X0_55 C hw ht2 dX0_weighChanges_65 ?_
  refine lv_icmp_ge (tgt := 120) C.1 C.2.1 dX0_weighChanges_68 (by decide) (fun cd => ?_) (fun cd => ?_)
  · have h := ite_t cd h
    obtain rfl := Option.some.inj h
    exact hE0 _ _ hx _ _ _ hw (lv_sub hl [0, 1, 2, 3, 4] rfl)
  · have h := ite_f cd h
    refine lv_iload_n C.1 C.2.1 dX0_weighChanges_71 rfl (lv_at hl 3 rfl) ?_
    refine lv_iload C.1 C.2.1 dX0_weighChanges_72 (lv_at hl 5 rfl) ?_
    refine go_I hw (run_SN (As := [.int _, .int _]) C hw (c_X8_bit C.2.2.2.2.2.2.2.2.2 _ _ _) mi_X8_bit ms_X8_bit lk_X0_56 (by decide) (by decide) rfl hl.1 rfl (Nat.le_of_ble_eq_true rfl) dX0_weighChanges_74 ⟨Nat.le_refl 0, Nat.le_refl 0⟩) (fun H locs hw => ?_)
    refine lv_iconst (v := (1 : Int32)) C.1 C.2.1 dX0_weighChanges_77 (by decide) ?_
    refine lv_icmp_ne (tgt := 114) C.1 C.2.1 dX0_weighChanges_78 (by decide) (fun cd => ?_) (fun cd => ?_)
    · have h := ite_f cd h
      exact w_X0_weighChanges_114 C ht1 ht2 hx hP hE0 hw (lv_sub hl [0, 1, 2, 3, 4, 5] rfl) h
    · have h := ite_t cd h
      refine lv_aload_n C.1 C.2.1 dX0_weighChanges_81 rfl (lv_at hl 2 rfl) ?_
      refine gf_X0_60 C hw ht2 dX0_weighChanges_82 ?_
      refine lv_iload C.1 C.2.1 dX0_weighChanges_85 (lv_at hl 5 rfl) ?_
      obtain ⟨hin, h⟩ := gd_of h
      refine m_iald C hw (lawA0 ht2) hin dX0_weighChanges_87 ?_
      refine go_I hw (run_SN (As := [.int _]) C hw (c_X8_armsOf C.2.2.2.2.2.2.2.2.2 _ _) mi_X8_armsOf ms_X8_armsOf lk_X0_70 (by decide) (by decide) rfl hl.1 rfl (Nat.le_of_ble_eq_true rfl) dX0_weighChanges_88 ⟨Nat.le_refl 0, Nat.le_refl 0⟩) (fun H locs hw => ?_)
      refine lv_aload_n C.1 C.2.1 dX0_weighChanges_91 rfl (lv_at hl 1 rfl) ?_
      refine gf_X0_31 C hw ht1 dX0_weighChanges_92 ?_
      refine lv_iload C.1 C.2.1 dX0_weighChanges_95 (lv_at hl 4 rfl) ?_
      obtain ⟨hin, h⟩ := gd_of h
      refine m_iald C hw (treeA0 ht1) hin dX0_weighChanges_97 ?_
      refine go_I hw (run_SN (As := [.int _]) C hw (c_X8_armsOf C.2.2.2.2.2.2.2.2.2 _ _) mi_X8_armsOf ms_X8_armsOf lk_X0_70 (by decide) (by decide) rfl hl.1 rfl (Nat.le_of_ble_eq_true rfl) dX0_weighChanges_98 ⟨Nat.le_refl 0, Nat.le_refl 0⟩) (fun H locs hw => ?_)
      refine lv_icmp_ne (tgt := 114) C.1 C.2.1 dX0_weighChanges_101 (by decide) (fun cd => ?_) (fun cd => ?_)
      · have h := ite_f cd h
        exact w_X0_weighChanges_114 C ht1 ht2 hx hP hE0 hw (lv_sub hl [0, 1, 2, 3, 4, 5] rfl) h
      · have h := ite_t cd h
        refine lv_aload_n C.1 C.2.1 dX0_weighChanges_104 rfl (lv_at hl 0 rfl) ?_
        refine lv_aload_n C.1 C.2.1 dX0_weighChanges_105 rfl (lv_at hl 1 rfl) ?_
        refine lv_aload_n C.1 C.2.1 dX0_weighChanges_106 rfl (lv_at hl 2 rfl) ?_
        refine lv_iload C.1 C.2.1 dX0_weighChanges_107 (lv_at hl 4 rfl) ?_
        refine lv_iload C.1 C.2.1 dX0_weighChanges_109 (lv_at hl 5 rfl) ?_
        obtain ⟨r7, h1, h⟩ := bS h
        refine go_V hw (run_V (As := [.ref _, .ref _, .int _, .int _]) C hw (c_X0_weighRule C.2.2.2.2.2.2.2.2.2 _ _ _ _ ht1 ht2 _ _ h1) mi_X0_weighRule mv_X0_weighRule o1_4 (ci := 0) rfl rfl lk_X0_83 (by decide) (by decide) rfl hl.1 rfl (Nat.le_of_ble_eq_true rfl) dX0_weighChanges_111 ⟨Nat.le_refl 0, Nat.le_refl 0⟩) (fun H locs hw => ?_)
        exact w_X0_weighChanges_114 C ht1 ht2 hx hP hE0 hw (lv_sub hl [0, 1, 2, 3, 4, 5] rfl) h
set_option maxRecDepth 20000 in
theorem w_X0_weighChanges_8 {D : va_G} {cy : Nat → ClassId} {ad : Nat → Nat} {p : Program} {l : Launch} {e : Env} {R : Room} {s : State} {m : MethodId} {args : Array Value} {below : List Frame} {meth : Method} {c : Code} (C : Cx 1 D cy ad p R s m args meth c cX0_weighChanges 6 RX0 none 3) {t1 : Nat} {t2 : Nat} {a3 : Int32} (ht1 : IsO 1 t1 7) (ht2 : IsO 1 t2 3) {v4 : Int32} {σ : Mem} {Q : State → Prop} {r : Mem} (hL : Lim (T := Mem) (fun s => b_X0_weighChanges_8 t1 t2 a3 s.1 s.2) (v4, σ) = some r) (hE0 : ∀ (σ1 : Mem), (σ1 : Mem) = r → ∀ (H : Heap) (locs : List Loc) (ls : Array Slot), Wd 1 D cy ad s σ1 H locs → lv_has ls 6 [] → W p l e R s m args below meth c H locs 0 0 Q (F0 m 126 ls [])) (H : Heap) (locs : List Loc) (ls : Array Slot) (hw : Wd 1 D cy ad s σ H locs) (hl : lv_has ls 6 [(0, .ref (ad (4))), (1, .ref (ad (t1))), (2, .ref (ad (t2))), (3, .int a3), (4, .int v4)]) : W p l e R s m args below meth c H locs 0 0 Q (F0 m 8 ls []) := by
  refine Lim_ind hL (P := fun u => ∀ (H : Heap) (locs : List Loc) (ls : Array Slot), Wd 1 D cy ad s u.2 H locs → lv_has ls 6 [(0, .ref (ad (4))), (1, .ref (ad (t1))), (2, .ref (ad (t2))), (3, .int a3), (4, .int u.1)] → W p l e R s m args below meth c H locs 0 0 Q (F0 m 8 ls [])) (fun u x h hx H locs ls hw hl => ?_) H locs ls hw hl
  clear hL
  obtain ⟨v4, σ⟩ := u
  have h : b_X0_weighChanges_8 t1 t2 a3 v4 σ = some x := h
  have hw : Wd 1 D cy ad s σ H locs := hw
  have hl : lv_has ls 6 [(0, .ref (ad (4))), (1, .ref (ad (t1))), (2, .ref (ad (t2))), (3, .int a3), (4, .int v4)] := hl
  have hP : ∀ (u : (Int32 × Mem)), (∀ (H : Heap) (locs : List Loc) (ls : Array Slot), Wd 1 D cy ad s u.2 H locs → lv_has ls 6 [(0, .ref (ad (4))), (1, .ref (ad (t1))), (2, .ref (ad (t2))), (3, .int a3), (4, .int u.1)] → W p l e R s m args below meth c H locs 0 0 Q (F0 m 8 ls [])) → ∀ (H : Heap) (locs : List Loc) (ls : Array Slot), Wd 1 D cy ad s u.2 H locs → lv_has ls 6 [(0, .ref (ad (4))), (1, .ref (ad (t1))), (2, .ref (ad (t2))), (3, .int a3), (4, .int u.1)] → W p l e R s m args below meth c H locs 0 0 Q (F0 m 8 ls []) := fun _ k => k
  unfold b_X0_weighChanges_8 at h
  refine lv_iload C.1 C.2.1 dX0_weighChanges_8 (lv_at hl 4 rfl) ?_
  refine lv_if_lt (tgt := 126) C.1 C.2.1 dX0_weighChanges_10 (by decide) (fun cd => ?_) (fun cd => ?_)
  · have h := ite_t cd h
    obtain rfl := Option.some.inj h
    exact hE0 _ hx _ _ _ hw (lv_sub hl [] rfl)
  · have h := ite_f cd h
    refine lv_iconst (v := (0 : Int32)) C.1 C.2.1 dX0_weighChanges_13 (by decide) ?_
    refine lv_istore (lv' := [(5, .int _), (0, .ref _), (1, .ref _), (2, .ref _), (3, .int _), (4, .int _)]) C.1 C.2.1 dX0_weighChanges_14 hl (by decide) rfl (fun ls hl => ?_)
    obtain ⟨r5, hL, h⟩ := bS h
    refine w_X0_weighChanges_16 C ht1 ht2  hL (fun y0 y1 hr H locs ls hw hl => ?_) _ _ _ hw (lv_sub hl [1, 2, 3, 4, 5, 0] rfl)
    · subst hr
      try dsimp only at h
      try dsimp only at hw
      try dsimp only at hl
      refine lv_iconst (v := (0 : Int32)) C.1 C.2.1 dX0_weighChanges_59 (by decide) ?_
      refine lv_istore (lv' := [(5, .int _), (0, .ref _), (1, .ref _), (2, .ref _), (3, .int _), (4, .int _)]) C.1 C.2.1 dX0_weighChanges_60 hl (by decide) rfl (fun ls hl => ?_)
      obtain ⟨r8, hL, h⟩ := bS h
      refine w_X0_weighChanges_62 C ht1 ht2  hL (fun y0 y1 hr H locs ls hw hl => ?_) _ _ _ hw (lv_sub hl [1, 2, 3, 4, 5, 0] rfl)
      · subst hr
        try dsimp only at h
        try dsimp only at hw
        try dsimp only at hl
        obtain ⟨x9, ex9, h⟩ := lt_of h
        refine m_iinc (k := 4) (lv' := [(4, .int _), (0, .ref _), (1, .ref _), (2, .ref _), (3, .int _)]) C (-1 : Int32) (by decide) dX0_weighChanges_120 hl rfl ex9.symm (by decide) rfl (fun ls hl => ?_)
        refine lv_goto (tgt := 8) C.1 C.2.1 dX0_weighChanges_123 (by decide) ?_
        obtain rfl := Option.some.inj h
        exact hP _ hx _ _ _ hw (lv_sub hl [1, 2, 3, 4, 0] rfl)
set_option maxRecDepth 20000 in
theorem c_X0_weighChanges {l : Launch} {D : va_G} {cy : Nat → ClassId} {ad : Nat → Nat} (hj : InjW 1 ad) (t1 : Nat) (t2 : Nat) (a3 : Int32) (ht1 : IsO 1 t1 7) (ht2 : IsO 1 t2 3) (σ : Mem) (r : Mem) (h : f_X0_weighChanges t1 t2 a3 σ = some r) : CV 1 D cy ad l yX0_weighChanges cX0_weighChanges 6 none 3 [.ref (ad (4)), .ref (ad (t1)), .ref (ad (t2)), .int a3] σ r := by
  refine CV.mk (by decide) hj (Nat.le_of_ble_eq_true rfl) (fun p e R s m below meth c ls C hw hl => ?_)
  have hl : lv_has ls 6 [(0, .ref (ad (4))), (1, .ref (ad (t1))), (2, .ref (ad (t2))), (3, .int a3)] := hl
  generalize ([.ref (ad (4)), .ref (ad (t1)), .ref (ad (t2)), .int a3] : List Value).toArray = args at C ⊢
  have C : Cx 1 D cy ad p R s m args meth c cX0_weighChanges 6 RX0 none 3 := C
  unfold f_X0_weighChanges at h
  refine lv_aload_n C.1 C.2.1 dX0_weighChanges_0 rfl (lv_at hl 1 rfl) ?_
  refine gf_X0_25 C hw ht1 dX0_weighChanges_1 ?_
  refine lv_iconst (v := (1 : Int32)) C.1 C.2.1 dX0_weighChanges_4 (by decide) ?_
  refine lv_isub C.1 C.2.1 dX0_weighChanges_5 ?_
  obtain ⟨x1, ex1, h⟩ := lt_of h
  refine m_topi ex1 ?_
  refine lv_istore (lv' := [(4, .int _), (0, .ref _), (1, .ref _), (2, .ref _), (3, .int _)]) C.1 C.2.1 dX0_weighChanges_6 hl (by decide) rfl (fun ls hl => ?_)
  obtain ⟨r10, hL, h⟩ := bS h
  refine w_X0_weighChanges_8 C ht1 ht2  hL (fun y0 hr H locs ls hw hl => ?_) _ _ _ hw (lv_sub hl [1, 2, 3, 4, 0] rfl)
  · subst hr
    try dsimp only at h
    try dsimp only at hw
    try dsimp only at hl
    exact m_vret C hw (Option.some.inj h) dX0_weighChanges_126
noncomputable def j_X0_isBetter_46 (a1 : Int32) (a2 : Int32) (σ : Mem) : Option Int32 :=
  some (1 : Int32)
noncomputable def f_X0_isBetter (a1 : Int32) (a2 : Int32) (σ : Mem) : Option Int32 :=
  gd (ix a1 186) (gd (ix a2 186) (if (σ.1 7 a1.toNatClampNeg) < (σ.1 7 a2.toNatClampNeg) then (j_X0_isBetter_46 a1 a2 σ) else (gd (ix a1 186) (gd (ix a2 186) (if (σ.1 7 a1.toNatClampNeg) = (σ.1 7 a2.toNatClampNeg) then (gd (ix a1 186) (gd (ix a2 186) (if 0 ≤ (lg_cmp (σ.2.1 8 a1.toNatClampNeg) (σ.2.1 8 a2.toNatClampNeg)) then (some (0 : Int32)) else (j_X0_isBetter_46 a1 a2 σ)))) else (some (0 : Int32)))))))
set_option maxRecDepth 20000 in
theorem w_X0_isBetter_46 {D : va_G} {cy : Nat → ClassId} {ad : Nat → Nat} {p : Program} {l : Launch} {e : Env} {R : Room} {s : State} {m : MethodId} {args : Array Value} {below : List Frame} {meth : Method} {c : Code} (C : Cx 1 D cy ad p R s m args meth c cX0_isBetter 3 RX0 (some .boolean) 0) {a1 : Int32} {a2 : Int32}    {σ : Mem} {H : Heap} {locs : List Loc} {ls : Array Slot} {r : Int32} (hw : Wd 1 D cy ad s σ H locs) (hl : lv_has ls 3 []) (h : j_X0_isBetter_46 a1 a2 σ = some r) : W p l e R s m args below meth c H locs 0 0 (QI 1 D cy ad below args s r σ) (F0 m 46 ls []) := by
  unfold j_X0_isBetter_46 at h
  refine lv_iconst (v := (1 : Int32)) C.1 C.2.1 dX0_isBetter_46 (by decide) ?_
  refine lv_goto (tgt := 51) C.1 C.2.1 dX0_isBetter_47 (by decide) ?_
  exact m_zret C hw (by decide) (ret_i h) dX0_isBetter_51
set_option maxRecDepth 20000 in
theorem c_X0_isBetter {l : Launch} {D : va_G} {cy : Nat → ClassId} {ad : Nat → Nat} (hj : InjW 1 ad) (a1 : Int32) (a2 : Int32)  (σ : Mem) (r : Int32) (h : f_X0_isBetter a1 a2 σ = some r) : CI 1 D cy ad l yX0_isBetter cX0_isBetter 3 (some .boolean) 0 [.ref (ad (4)), .int a1, .int a2] σ r σ := by
  refine CI.mk (by decide) hj (Nat.le_of_ble_eq_true rfl) (fun p e R s m below meth c ls C hw hl => ?_)
  have hl : lv_has ls 3 [(0, .ref (ad (4))), (1, .int a1), (2, .int a2)] := hl
  generalize ([.ref (ad (4)), .int a1, .int a2] : List Value).toArray = args at C ⊢
  have C : Cx 1 D cy ad p R s m args meth c cX0_isBetter 3 RX0 (some .boolean) 0 := C
  unfold f_X0_isBetter at h
  refine lv_aload_n C.1 C.2.1 dX0_isBetter_0 rfl (lv_at hl 0 rfl) ?_
  refine gf_X0_19 C hw dX0_isBetter_1 ?_
  refine lv_iload_n C.1 C.2.1 dX0_isBetter_4 rfl (lv_at hl 1 rfl) ?_
  obtain ⟨hin, h⟩ := gd_of h
  refine m_iald C hw a1_7 hin dX0_isBetter_5 ?_
  refine lv_aload_n C.1 C.2.1 dX0_isBetter_6 rfl (lv_at hl 0 rfl) ?_
  refine gf_X0_19 C hw dX0_isBetter_7 ?_
  refine lv_iload_n C.1 C.2.1 dX0_isBetter_10 rfl (lv_at hl 2 rfl) ?_
  obtain ⟨hin, h⟩ := gd_of h
  refine m_iald C hw a1_7 hin dX0_isBetter_11 ?_
  refine lv_icmp_lt (tgt := 46) C.1 C.2.1 dX0_isBetter_12 (by decide) (fun cd => ?_) (fun cd => ?_)
  · have h := ite_t cd h
    exact w_X0_isBetter_46 C hw (lv_sub hl [] rfl) h
  · have h := ite_f cd h
    refine lv_aload_n C.1 C.2.1 dX0_isBetter_15 rfl (lv_at hl 0 rfl) ?_
    refine gf_X0_19 C hw dX0_isBetter_16 ?_
    refine lv_iload_n C.1 C.2.1 dX0_isBetter_19 rfl (lv_at hl 1 rfl) ?_
    obtain ⟨hin, h⟩ := gd_of h
    refine m_iald C hw a1_7 hin dX0_isBetter_20 ?_
    refine lv_aload_n C.1 C.2.1 dX0_isBetter_21 rfl (lv_at hl 0 rfl) ?_
    refine gf_X0_19 C hw dX0_isBetter_22 ?_
    refine lv_iload_n C.1 C.2.1 dX0_isBetter_25 rfl (lv_at hl 2 rfl) ?_
    obtain ⟨hin, h⟩ := gd_of h
    refine m_iald C hw a1_7 hin dX0_isBetter_26 ?_
    refine lv_icmp_ne (tgt := 50) C.1 C.2.1 dX0_isBetter_27 (by decide) (fun cd => ?_) (fun cd => ?_)
    · have h := ite_f cd h
      refine lv_iconst (v := (0 : Int32)) C.1 C.2.1 dX0_isBetter_50 (by decide) ?_
      exact m_zret C hw (by decide) (ret_i h) dX0_isBetter_51
    · have h := ite_t cd h
      refine lv_aload_n C.1 C.2.1 dX0_isBetter_30 rfl (lv_at hl 0 rfl) ?_
      refine gf_X0_22 C hw dX0_isBetter_31 ?_
      refine lv_iload_n C.1 C.2.1 dX0_isBetter_34 rfl (lv_at hl 1 rfl) ?_
      obtain ⟨hin, h⟩ := gd_of h
      refine m_lald C hw a1_8 hin dX0_isBetter_35 ?_
      refine lv_aload_n C.1 C.2.1 dX0_isBetter_36 rfl (lv_at hl 0 rfl) ?_
      refine gf_X0_22 C hw dX0_isBetter_37 ?_
      refine lv_iload_n C.1 C.2.1 dX0_isBetter_40 rfl (lv_at hl 2 rfl) ?_
      obtain ⟨hin, h⟩ := gd_of h
      refine m_lald C hw a1_8 hin dX0_isBetter_41 ?_
      refine W.lcmp C.1 C.2.1 dX0_isBetter_42 ?_
      refine lv_if_ge (tgt := 50) C.1 C.2.1 dX0_isBetter_43 (by decide) (fun cd => ?_) (fun cd => ?_)
      · have h := ite_t cd h
        refine lv_iconst (v := (0 : Int32)) C.1 C.2.1 dX0_isBetter_50 (by decide) ?_
        exact m_zret C hw (by decide) (ret_i h) dX0_isBetter_51
      · have h := ite_f cd h
        exact w_X0_isBetter_46 C hw (lv_sub hl [] rfl) h
noncomputable def j_X0_cheapestOf_47 (a1 : Int32) (v2 : Int32) (v3 : Int32) (σ : Mem) : Option ((Int32 × Int32) ⊕ Int32) :=
  lt (v3 + (1 : Int32)) (fun x1 => some (.inl (v2, x1)))
noncomputable def j_X0_cheapestOf_45 (a1 : Int32) (v3 : Int32) (σ : Mem) : Option ((Int32 × Int32) ⊕ Int32) :=
  j_X0_cheapestOf_47 a1 v3 v3 σ
noncomputable def b_X0_cheapestOf_5 (a1 : Int32) (v2 : Int32) (v3 : Int32) (σ : Mem) : Option ((Int32 × Int32) ⊕ Int32) :=
  if (6 : Int32) ≤ v3 then (some (.inr v2)) else (if (f_X8_bit a1 v3) = (1 : Int32) then (gd (ix v3 186) (if (1000 : Int32) ≤ (σ.1 7 v3.toNatClampNeg) then (j_X0_cheapestOf_47 a1 v2 v3 σ) else (if v2 < 0 then (j_X0_cheapestOf_45 a1 v3 σ) else ((f_X0_isBetter v3 v2 σ).bind (fun r2 => if r2 = 0 then (j_X0_cheapestOf_47 a1 v2 v3 σ) else (j_X0_cheapestOf_45 a1 v3 σ)))))) else (j_X0_cheapestOf_47 a1 v2 v3 σ))
noncomputable def f_X0_cheapestOf (a1 : Int32) (σ : Mem) : Option Int32 :=
  (Lim (T := Int32) (fun s => b_X0_cheapestOf_5 a1 s.1 s.2 σ) ((-9 : Int32), (0 : Int32))).bind (fun r3 => some r3)
set_option maxRecDepth 20000 in
theorem w_X0_cheapestOf_47 {D : va_G} {cy : Nat → ClassId} {ad : Nat → Nat} {p : Program} {l : Launch} {e : Env} {R : Room} {s : State} {m : MethodId} {args : Array Value} {below : List Frame} {meth : Method} {c : Code} (C : Cx 1 D cy ad p R s m args meth c cX0_cheapestOf 4 RX0 (some .int) 1) {a1 : Int32}  {v2 : Int32} {v3 : Int32}  {σ : Mem} {H : Heap} {locs : List Loc} {ls : Array Slot} {Q : State → Prop} {P : (Int32 × Int32) → Prop} {r : Int32} {x : (Int32 × Int32) ⊕ Int32} (hx : LimQ P r x) (hP : ∀ u, P u → ∀ (H : Heap) (locs : List Loc) (ls : Array Slot), Wd 1 D cy ad s σ H locs → lv_has ls 4 [(0, .ref (ad (4))), (1, .int a1), (2, .int u.1), (3, .int u.2)] → W p l e R s m args below meth c H locs 0 0 Q (F0 m 5 ls [])) (hE0 : ∀ (v2 : Int32), (v2 : Int32) = r → ∀ (H : Heap) (locs : List Loc) (ls : Array Slot), Wd 1 D cy ad s σ H locs → lv_has ls 4 [(2, .int v2)] → W p l e R s m args below meth c H locs 0 0 Q (F0 m 53 ls [])) (hw : Wd 1 D cy ad s σ H locs) (hl : lv_has ls 4 [(0, .ref (ad (4))), (1, .int a1), (2, .int v2), (3, .int v3)]) (h : j_X0_cheapestOf_47 a1 v2 v3 σ = some x) : W p l e R s m args below meth c H locs 0 0 Q (F0 m 47 ls []) := by
  unfold j_X0_cheapestOf_47 at h
  obtain ⟨x1, ex1, h⟩ := lt_of h
  refine m_iinc (k := 3) (lv' := [(3, .int _), (0, .ref _), (1, .int _), (2, .int _)]) C (1 : Int32) (by decide) dX0_cheapestOf_47 hl rfl ex1.symm (by decide) rfl (fun ls hl => ?_)
  refine lv_goto (tgt := 5) C.1 C.2.1 dX0_cheapestOf_50 (by decide) ?_
  obtain rfl := Option.some.inj h
  exact hP _ hx _ _ _ hw (lv_sub hl [1, 2, 3, 0] rfl)
set_option maxRecDepth 20000 in
theorem w_X0_cheapestOf_45 {D : va_G} {cy : Nat → ClassId} {ad : Nat → Nat} {p : Program} {l : Launch} {e : Env} {R : Room} {s : State} {m : MethodId} {args : Array Value} {below : List Frame} {meth : Method} {c : Code} (C : Cx 1 D cy ad p R s m args meth c cX0_cheapestOf 4 RX0 (some .int) 1) {a1 : Int32}  {v3 : Int32}  {σ : Mem} {H : Heap} {locs : List Loc} {ls : Array Slot} {Q : State → Prop} {P : (Int32 × Int32) → Prop} {r : Int32} {x : (Int32 × Int32) ⊕ Int32} (hx : LimQ P r x) (hP : ∀ u, P u → ∀ (H : Heap) (locs : List Loc) (ls : Array Slot), Wd 1 D cy ad s σ H locs → lv_has ls 4 [(0, .ref (ad (4))), (1, .int a1), (2, .int u.1), (3, .int u.2)] → W p l e R s m args below meth c H locs 0 0 Q (F0 m 5 ls [])) (hE0 : ∀ (v2 : Int32), (v2 : Int32) = r → ∀ (H : Heap) (locs : List Loc) (ls : Array Slot), Wd 1 D cy ad s σ H locs → lv_has ls 4 [(2, .int v2)] → W p l e R s m args below meth c H locs 0 0 Q (F0 m 53 ls [])) (hw : Wd 1 D cy ad s σ H locs) (hl : lv_has ls 4 [(0, .ref (ad (4))), (1, .int a1), (3, .int v3)]) (h : j_X0_cheapestOf_45 a1 v3 σ = some x) : W p l e R s m args below meth c H locs 0 0 Q (F0 m 45 ls []) := by
  unfold j_X0_cheapestOf_45 at h
  refine lv_iload_n C.1 C.2.1 dX0_cheapestOf_45 rfl (lv_at hl 2 rfl) ?_
  refine lv_istore_n (lv' := [(2, .int _), (0, .ref _), (1, .int _), (3, .int _)]) C.1 C.2.1 dX0_cheapestOf_46 rfl hl (by decide) rfl (fun ls hl => ?_)
  exact w_X0_cheapestOf_47 C hx hP hE0 hw (lv_sub hl [1, 2, 0, 3] rfl) h
set_option maxRecDepth 20000 in
theorem w_X0_cheapestOf_5 {D : va_G} {cy : Nat → ClassId} {ad : Nat → Nat} {p : Program} {l : Launch} {e : Env} {R : Room} {s : State} {m : MethodId} {args : Array Value} {below : List Frame} {meth : Method} {c : Code} (C : Cx 1 D cy ad p R s m args meth c cX0_cheapestOf 4 RX0 (some .int) 1) {a1 : Int32}  {v2 : Int32} {v3 : Int32} {σ : Mem} {Q : State → Prop} {r : Int32} (hL : Lim (T := Int32) (fun s => b_X0_cheapestOf_5 a1 s.1 s.2 σ) (v2, v3) = some r) (hE0 : ∀ (v2 : Int32), (v2 : Int32) = r → ∀ (H : Heap) (locs : List Loc) (ls : Array Slot), Wd 1 D cy ad s σ H locs → lv_has ls 4 [(2, .int v2)] → W p l e R s m args below meth c H locs 0 0 Q (F0 m 53 ls [])) (H : Heap) (locs : List Loc) (ls : Array Slot) (hw : Wd 1 D cy ad s σ H locs) (hl : lv_has ls 4 [(0, .ref (ad (4))), (1, .int a1), (2, .int v2), (3, .int v3)]) : W p l e R s m args below meth c H locs 0 0 Q (F0 m 5 ls []) := by
  refine Lim_ind hL (P := fun u => ∀ (H : Heap) (locs : List Loc) (ls : Array Slot), Wd 1 D cy ad s σ H locs → lv_has ls 4 [(0, .ref (ad (4))), (1, .int a1), (2, .int u.1), (3, .int u.2)] → W p l e R s m args below meth c H locs 0 0 Q (F0 m 5 ls [])) (fun u x h hx H locs ls hw hl => ?_) H locs ls hw hl
  clear hL
  obtain ⟨v2, v3⟩ := u
  have h : b_X0_cheapestOf_5 a1 v2 v3 σ = some x := h
  have hw : Wd 1 D cy ad s σ H locs := hw
  have hl : lv_has ls 4 [(0, .ref (ad (4))), (1, .int a1), (2, .int v2), (3, .int v3)] := hl
  have hP : ∀ (u : (Int32 × Int32)), (∀ (H : Heap) (locs : List Loc) (ls : Array Slot), Wd 1 D cy ad s σ H locs → lv_has ls 4 [(0, .ref (ad (4))), (1, .int a1), (2, .int u.1), (3, .int u.2)] → W p l e R s m args below meth c H locs 0 0 Q (F0 m 5 ls [])) → ∀ (H : Heap) (locs : List Loc) (ls : Array Slot), Wd 1 D cy ad s σ H locs → lv_has ls 4 [(0, .ref (ad (4))), (1, .int a1), (2, .int u.1), (3, .int u.2)] → W p l e R s m args below meth c H locs 0 0 Q (F0 m 5 ls []) := fun _ k => k
  unfold b_X0_cheapestOf_5 at h
  refine lv_iload_n C.1 C.2.1 dX0_cheapestOf_5 rfl (lv_at hl 3 rfl) ?_
  refine lv_bipush (v := (6 : Int32)) C.1 C.2.1 dX0_cheapestOf_6 (by decide) ?_
  refine lv_icmp_ge (tgt := 53) C.1 C.2.1 dX0_cheapestOf_8 (by decide) (fun cd => ?_) (fun cd => ?_)
  · have h := ite_t cd h
    obtain rfl := Option.some.inj h
    exact hE0 _ hx _ _ _ hw (lv_sub hl [2] rfl)
  · have h := ite_f cd h
    refine lv_iload_n C.1 C.2.1 dX0_cheapestOf_11 rfl (lv_at hl 1 rfl) ?_
    refine lv_iload_n C.1 C.2.1 dX0_cheapestOf_12 rfl (lv_at hl 3 rfl) ?_
    refine go_I hw (run_SN (As := [.int _, .int _]) C hw (c_X8_bit C.2.2.2.2.2.2.2.2.2 _ _ _) mi_X8_bit ms_X8_bit lk_X0_56 (by decide) (by decide) rfl hl.1 rfl (Nat.le_of_ble_eq_true rfl) dX0_cheapestOf_13 ⟨Nat.le_refl 0, Nat.le_refl 0⟩) (fun H locs hw => ?_)
    refine lv_iconst (v := (1 : Int32)) C.1 C.2.1 dX0_cheapestOf_16 (by decide) ?_
    refine lv_icmp_ne (tgt := 47) C.1 C.2.1 dX0_cheapestOf_17 (by decide) (fun cd => ?_) (fun cd => ?_)
    · have h := ite_f cd h
      exact w_X0_cheapestOf_47 C hx hP hE0 hw (lv_sub hl [0, 1, 2, 3] rfl) h
    · have h := ite_t cd h
      refine lv_aload_n C.1 C.2.1 dX0_cheapestOf_20 rfl (lv_at hl 0 rfl) ?_
      refine gf_X0_19 C hw dX0_cheapestOf_21 ?_
      refine lv_iload_n C.1 C.2.1 dX0_cheapestOf_24 rfl (lv_at hl 3 rfl) ?_
      obtain ⟨hin, h⟩ := gd_of h
      refine m_iald C hw a1_7 hin dX0_cheapestOf_25 ?_
      refine lv_sipush (v := (1000 : Int32)) C.1 C.2.1 dX0_cheapestOf_26 (by decide) ?_
      refine lv_icmp_ge (tgt := 47) C.1 C.2.1 dX0_cheapestOf_29 (by decide) (fun cd => ?_) (fun cd => ?_)
      · have h := ite_t cd h
        exact w_X0_cheapestOf_47 C hx hP hE0 hw (lv_sub hl [0, 1, 2, 3] rfl) h
      · have h := ite_f cd h
        refine lv_iload_n C.1 C.2.1 dX0_cheapestOf_32 rfl (lv_at hl 2 rfl) ?_
        refine lv_if_lt (tgt := 45) C.1 C.2.1 dX0_cheapestOf_33 (by decide) (fun cd => ?_) (fun cd => ?_)
        · have h := ite_t cd h
          exact w_X0_cheapestOf_45 C hx hP hE0 hw (lv_sub hl [0, 1, 3] rfl) h
        · have h := ite_f cd h
          refine lv_aload_n C.1 C.2.1 dX0_cheapestOf_36 rfl (lv_at hl 0 rfl) ?_
          refine lv_iload_n C.1 C.2.1 dX0_cheapestOf_37 rfl (lv_at hl 3 rfl) ?_
          refine lv_iload_n C.1 C.2.1 dX0_cheapestOf_38 rfl (lv_at hl 2 rfl) ?_
          obtain ⟨r2, h1, h⟩ := bS h
          refine go_I hw (run_V (As := [.int _, .int _]) C hw (c_X0_isBetter C.2.2.2.2.2.2.2.2.2 _ _ _ _ h1) mi_X0_isBetter mv_X0_isBetter o1_4 (ci := 0) rfl rfl lk_X0_94 (by decide) (by decide) rfl hl.1 rfl (Nat.le_of_ble_eq_true rfl) dX0_cheapestOf_39 ⟨Nat.le_refl 0, Nat.le_refl 0⟩) (fun H locs hw => ?_)
          refine lv_if_eq (tgt := 47) C.1 C.2.1 dX0_cheapestOf_42 (by decide) (fun cd => ?_) (fun cd => ?_)
          · have h := ite_t cd h
            exact w_X0_cheapestOf_47 C hx hP hE0 hw (lv_sub hl [0, 1, 2, 3] rfl) h
          · have h := ite_f cd h
            exact w_X0_cheapestOf_45 C hx hP hE0 hw (lv_sub hl [0, 1, 3] rfl) h
set_option maxRecDepth 20000 in
theorem c_X0_cheapestOf {l : Launch} {D : va_G} {cy : Nat → ClassId} {ad : Nat → Nat} (hj : InjW 1 ad) (a1 : Int32)  (σ : Mem) (r : Int32) (h : f_X0_cheapestOf a1 σ = some r) : CI 1 D cy ad l yX0_cheapestOf cX0_cheapestOf 4 (some .int) 1 [.ref (ad (4)), .int a1] σ r σ := by
  refine CI.mk (by decide) hj (Nat.le_of_ble_eq_true rfl) (fun p e R s m below meth c ls C hw hl => ?_)
  have hl : lv_has ls 4 [(0, .ref (ad (4))), (1, .int a1)] := hl
  generalize ([.ref (ad (4)), .int a1] : List Value).toArray = args at C ⊢
  have C : Cx 1 D cy ad p R s m args meth c cX0_cheapestOf 4 RX0 (some .int) 1 := C
  unfold f_X0_cheapestOf at h
  refine lv_bipush (v := (-9 : Int32)) C.1 C.2.1 dX0_cheapestOf_0 (by decide) ?_
  refine lv_istore_n (lv' := [(2, .int _), (0, .ref _), (1, .int _)]) C.1 C.2.1 dX0_cheapestOf_2 rfl hl (by decide) rfl (fun ls hl => ?_)
  refine lv_iconst (v := (0 : Int32)) C.1 C.2.1 dX0_cheapestOf_3 (by decide) ?_
  refine lv_istore_n (lv' := [(3, .int _), (2, .int _), (0, .ref _), (1, .int _)]) C.1 C.2.1 dX0_cheapestOf_4 rfl hl (by decide) rfl (fun ls hl => ?_)
  obtain ⟨r3, hL, h⟩ := bS h
  refine w_X0_cheapestOf_5 C  hL (fun y0 hr H locs ls hw hl => ?_) _ _ _ hw (lv_sub hl [2, 3, 1, 0] rfl)
  · subst hr
    try dsimp only at h
    try dsimp only at hw
    try dsimp only at hl
    refine lv_iload_n C.1 C.2.1 dX0_cheapestOf_53 rfl (lv_at hl 0 rfl) ?_
    exact m_iret C hw (ret_i h) dX0_cheapestOf_54
def f_X0_stepInCode (a0 : Int64) (a2 : Int32) : Int32 :=
  ((a0 >>> (((2 : Int32) * ((30 : Int32) - a2)).toInt64 &&& 63)).toInt32) &&& (3 : Int32)
set_option maxRecDepth 20000 in
theorem c_X0_stepInCode {l : Launch} {D : va_G} {cy : Nat → ClassId} {ad : Nat → Nat} (hj : InjW 1 ad) (a0 : Int64) (a2 : Int32)  (σ : Mem) : CI 1 D cy ad l yX0_stepInCode cX0_stepInCode 3 (some .int) 0 [.long a0, .int a2] σ (f_X0_stepInCode a0 a2) σ := by
  refine CI.mk (by decide) hj (Nat.le_of_ble_eq_true rfl) (fun p e R s m below meth c ls C hw hl => ?_)
  have hl : lv_has ls 3 [(0, .long a0), (2, .int a2)] := hl
  generalize ([.long a0, .int a2] : List Value).toArray = args at C ⊢
  have C : Cx 1 D cy ad p R s m args meth c cX0_stepInCode 3 RX0 (some .int) 0 := C
  obtain ⟨r, h⟩ : ∃ r, f_X0_stepInCode a0 a2 = r := ⟨_, rfl⟩
  rw [h]
  unfold f_X0_stepInCode at h
  refine lv_lload_n C.1 C.2.1 dX0_stepInCode_0 rfl (lv_at hl 0 rfl) ?_
  refine lv_iconst (v := (2 : Int32)) C.1 C.2.1 dX0_stepInCode_1 (by decide) ?_
  refine lv_bipush (v := (30 : Int32)) C.1 C.2.1 dX0_stepInCode_2 (by decide) ?_
  refine lv_iload_n C.1 C.2.1 dX0_stepInCode_4 rfl (lv_at hl 1 rfl) ?_
  refine lv_isub C.1 C.2.1 dX0_stepInCode_5 ?_
  refine lv_imul C.1 C.2.1 dX0_stepInCode_6 ?_
  refine lv_lshr C.1 C.2.1 dX0_stepInCode_7 rfl ?_
  refine lv_l2i C.1 C.2.1 dX0_stepInCode_8 rfl ?_
  refine lv_iconst (v := (3 : Int32)) C.1 C.2.1 dX0_stepInCode_9 (by decide) ?_
  refine lv_iand C.1 C.2.1 dX0_stepInCode_10 ?_
  exact m_iret C hw ⟨h, rfl⟩ dX0_stepInCode_11
noncomputable def f_X4_isGoodHere (a1 : Int32) (a2 : Int32) (σ : Mem) : Option Int32 :=
  gd (ix a1 120) (if ((σ.1 10 a1.toNatClampNeg) &&& a2) = 0 then (some (0 : Int32)) else (some (1 : Int32)))
set_option maxRecDepth 20000 in
theorem c_X4_isGoodHere {l : Launch} {D : va_G} {cy : Nat → ClassId} {ad : Nat → Nat} (hj : InjW 1 ad) (a1 : Int32) (a2 : Int32)  (σ : Mem) (r : Int32) (h : f_X4_isGoodHere a1 a2 σ = some r) : CI 1 D cy ad l yX4_isGoodHere cX4_isGoodHere 3 (some .boolean) 0 [.ref (ad (9)), .int a1, .int a2] σ r σ := by
  refine CI.mk (by decide) hj (Nat.le_of_ble_eq_true rfl) (fun p e R s m below meth c ls C hw hl => ?_)
  have hl : lv_has ls 3 [(0, .ref (ad (9))), (1, .int a1), (2, .int a2)] := hl
  generalize ([.ref (ad (9)), .int a1, .int a2] : List Value).toArray = args at C ⊢
  have C : Cx 1 D cy ad p R s m args meth c cX4_isGoodHere 3 RX4 (some .boolean) 0 := C
  unfold f_X4_isGoodHere at h
  refine lv_aload_n C.1 C.2.1 dX4_isGoodHere_0 rfl (lv_at hl 0 rfl) ?_
  refine gf_X4_11 C hw dX4_isGoodHere_1 ?_
  refine lv_iload_n C.1 C.2.1 dX4_isGoodHere_4 rfl (lv_at hl 1 rfl) ?_
  obtain ⟨hin, h⟩ := gd_of h
  refine m_iald C hw a1_10 hin dX4_isGoodHere_5 ?_
  refine lv_iload_n C.1 C.2.1 dX4_isGoodHere_6 rfl (lv_at hl 2 rfl) ?_
  refine lv_iand C.1 C.2.1 dX4_isGoodHere_7 ?_
  refine lv_if_eq (tgt := 15) C.1 C.2.1 dX4_isGoodHere_8 (by decide) (fun cd => ?_) (fun cd => ?_)
  · have h := ite_t cd h
    refine lv_iconst (v := (0 : Int32)) C.1 C.2.1 dX4_isGoodHere_15 (by decide) ?_
    exact m_zret C hw (by decide) (ret_i h) dX4_isGoodHere_16
  · have h := ite_f cd h
    refine lv_iconst (v := (1 : Int32)) C.1 C.2.1 dX4_isGoodHere_11 (by decide) ?_
    refine lv_goto (tgt := 16) C.1 C.2.1 dX4_isGoodHere_12 (by decide) ?_
    exact m_zret C hw (by decide) (ret_i h) dX4_isGoodHere_16
noncomputable def f_X4_overOne (a1 : Int32) (σ : Mem) : Option Int32 :=
  gd (ix a1 120) (some (σ.1 20 a1.toNatClampNeg))
set_option maxRecDepth 20000 in
theorem c_X4_overOne {l : Launch} {D : va_G} {cy : Nat → ClassId} {ad : Nat → Nat} (hj : InjW 1 ad) (a1 : Int32)  (σ : Mem) (r : Int32) (h : f_X4_overOne a1 σ = some r) : CI 1 D cy ad l yX4_overOne cX4_overOne 2 (some .int) 0 [.ref (ad (9)), .int a1] σ r σ := by
  refine CI.mk (by decide) hj (Nat.le_of_ble_eq_true rfl) (fun p e R s m below meth c ls C hw hl => ?_)
  have hl : lv_has ls 2 [(0, .ref (ad (9))), (1, .int a1)] := hl
  generalize ([.ref (ad (9)), .int a1] : List Value).toArray = args at C ⊢
  have C : Cx 1 D cy ad p R s m args meth c cX4_overOne 2 RX4 (some .int) 0 := C
  unfold f_X4_overOne at h
  refine lv_aload_n C.1 C.2.1 dX4_overOne_0 rfl (lv_at hl 0 rfl) ?_
  refine gf_X4_44 C hw dX4_overOne_1 ?_
  refine lv_iload_n C.1 C.2.1 dX4_overOne_4 rfl (lv_at hl 1 rfl) ?_
  obtain ⟨hin, h⟩ := gd_of h
  refine m_sald C hw a1_20 hin dX4_overOne_5 ?_
  exact m_iret C hw (ret_i h) dX4_overOne_6
def f_X4_lowOf (a0 : Int32) : Int32 :=
  a0 &&& (127 : Int32)
set_option maxRecDepth 20000 in
theorem c_X4_lowOf {l : Launch} {D : va_G} {cy : Nat → ClassId} {ad : Nat → Nat} (hj : InjW 1 ad) (a0 : Int32)  (σ : Mem) : CI 1 D cy ad l yX4_lowOf cX4_lowOf 1 (some .int) 0 [.int a0] σ (f_X4_lowOf a0) σ := by
  refine CI.mk (by decide) hj (Nat.le_of_ble_eq_true rfl) (fun p e R s m below meth c ls C hw hl => ?_)
  have hl : lv_has ls 1 [(0, .int a0)] := hl
  generalize ([.int a0] : List Value).toArray = args at C ⊢
  have C : Cx 1 D cy ad p R s m args meth c cX4_lowOf 1 RX4 (some .int) 0 := C
  obtain ⟨r, h⟩ : ∃ r, f_X4_lowOf a0 = r := ⟨_, rfl⟩
  rw [h]
  unfold f_X4_lowOf at h
  refine lv_iload_n C.1 C.2.1 dX4_lowOf_0 rfl (lv_at hl 0 rfl) ?_
  refine lv_bipush (v := (127 : Int32)) C.1 C.2.1 dX4_lowOf_1 (by decide) ?_
  refine lv_iand C.1 C.2.1 dX4_lowOf_3 ?_
  exact m_iret C hw ⟨h, rfl⟩ dX4_lowOf_4
def f_X4_highOf (a0 : Int32) : Int32 :=
  (a0 >>> ((7 : Int32) &&& 31)) &&& (127 : Int32)
set_option maxRecDepth 20000 in
theorem c_X4_highOf {l : Launch} {D : va_G} {cy : Nat → ClassId} {ad : Nat → Nat} (hj : InjW 1 ad) (a0 : Int32)  (σ : Mem) : CI 1 D cy ad l yX4_highOf cX4_highOf 1 (some .int) 0 [.int a0] σ (f_X4_highOf a0) σ := by
  refine CI.mk (by decide) hj (Nat.le_of_ble_eq_true rfl) (fun p e R s m below meth c ls C hw hl => ?_)
  have hl : lv_has ls 1 [(0, .int a0)] := hl
  generalize ([.int a0] : List Value).toArray = args at C ⊢
  have C : Cx 1 D cy ad p R s m args meth c cX4_highOf 1 RX4 (some .int) 0 := C
  obtain ⟨r, h⟩ : ∃ r, f_X4_highOf a0 = r := ⟨_, rfl⟩
  rw [h]
  unfold f_X4_highOf at h
  refine lv_iload_n C.1 C.2.1 dX4_highOf_0 rfl (lv_at hl 0 rfl) ?_
  refine lv_bipush (v := (7 : Int32)) C.1 C.2.1 dX4_highOf_1 (by decide) ?_
  refine lv_ishr C.1 C.2.1 dX4_highOf_3 ?_
  refine lv_bipush (v := (127 : Int32)) C.1 C.2.1 dX4_highOf_4 (by decide) ?_
  refine lv_iand C.1 C.2.1 dX4_highOf_6 ?_
  exact m_iret C hw ⟨h, rfl⟩ dX4_highOf_7
noncomputable def f_X2_areKinds (a1 : Int32) (a2 : Int32) (σ : Mem) : Option Int32 :=
  gd (ix (f_X4_lowOf a1) 128) (gd (ix (f_X4_lowOf a2) 128) (if (σ.1 26 (f_X4_lowOf a1).toNatClampNeg) = (σ.1 26 (f_X4_lowOf a2).toNatClampNeg) then (gd (ix (f_X4_highOf a1) 128) (gd (ix (f_X4_highOf a2) 128) (if (σ.1 26 (f_X4_highOf a1).toNatClampNeg) = (σ.1 26 (f_X4_highOf a2).toNatClampNeg) then (some (1 : Int32)) else (some (0 : Int32))))) else (some (0 : Int32))))
set_option maxRecDepth 20000 in
theorem c_X2_areKinds {l : Launch} {D : va_G} {cy : Nat → ClassId} {ad : Nat → Nat} (hj : InjW 1 ad) (a1 : Int32) (a2 : Int32)  (σ : Mem) (r : Int32) (h : f_X2_areKinds a1 a2 σ = some r) : CI 1 D cy ad l yX2_areKinds cX2_areKinds 3 (some .boolean) 1 [.ref (ad (25)), .int a1, .int a2] σ r σ := by
  refine CI.mk (by decide) hj (Nat.le_of_ble_eq_true rfl) (fun p e R s m below meth c ls C hw hl => ?_)
  have hl : lv_has ls 3 [(0, .ref (ad (25))), (1, .int a1), (2, .int a2)] := hl
  generalize ([.ref (ad (25)), .int a1, .int a2] : List Value).toArray = args at C ⊢
  have C : Cx 1 D cy ad p R s m args meth c cX2_areKinds 3 RX2 (some .boolean) 1 := C
  unfold f_X2_areKinds at h
  refine lv_aload_n C.1 C.2.1 dX2_areKinds_0 rfl (lv_at hl 0 rfl) ?_
  refine gf_X2_9 C hw dX2_areKinds_1 ?_
  refine lv_iload_n C.1 C.2.1 dX2_areKinds_4 rfl (lv_at hl 1 rfl) ?_
  refine go_I hw (run_S (As := [.int _]) C hw (c_X4_lowOf C.2.2.2.2.2.2.2.2.2 _ _) mi_X4_lowOf ms_X4_lowOf lk_X2_48 (by decide) (by decide) rfl hl.1 rfl (Nat.le_of_ble_eq_true rfl) dX2_areKinds_5 ⟨Nat.le_refl 0, Nat.le_refl 0⟩) (fun H locs hw => ?_)
  obtain ⟨hin, h⟩ := gd_of h
  refine m_iald C hw a1_26 hin dX2_areKinds_8 ?_
  refine lv_aload_n C.1 C.2.1 dX2_areKinds_9 rfl (lv_at hl 0 rfl) ?_
  refine gf_X2_9 C hw dX2_areKinds_10 ?_
  refine lv_iload_n C.1 C.2.1 dX2_areKinds_13 rfl (lv_at hl 2 rfl) ?_
  refine go_I hw (run_S (As := [.int _]) C hw (c_X4_lowOf C.2.2.2.2.2.2.2.2.2 _ _) mi_X4_lowOf ms_X4_lowOf lk_X2_48 (by decide) (by decide) rfl hl.1 rfl (Nat.le_of_ble_eq_true rfl) dX2_areKinds_14 ⟨Nat.le_refl 0, Nat.le_refl 0⟩) (fun H locs hw => ?_)
  obtain ⟨hin, h⟩ := gd_of h
  refine m_iald C hw a1_26 hin dX2_areKinds_17 ?_
  refine lv_icmp_ne (tgt := 46) C.1 C.2.1 dX2_areKinds_18 (by decide) (fun cd => ?_) (fun cd => ?_)
  · have h := ite_f cd h
    refine lv_iconst (v := (0 : Int32)) C.1 C.2.1 dX2_areKinds_46 (by decide) ?_
    exact m_zret C hw (by decide) (ret_i h) dX2_areKinds_47
  · have h := ite_t cd h
    refine lv_aload_n C.1 C.2.1 dX2_areKinds_21 rfl (lv_at hl 0 rfl) ?_
    refine gf_X2_9 C hw dX2_areKinds_22 ?_
    refine lv_iload_n C.1 C.2.1 dX2_areKinds_25 rfl (lv_at hl 1 rfl) ?_
    refine go_I hw (run_S (As := [.int _]) C hw (c_X4_highOf C.2.2.2.2.2.2.2.2.2 _ _) mi_X4_highOf ms_X4_highOf lk_X2_51 (by decide) (by decide) rfl hl.1 rfl (Nat.le_of_ble_eq_true rfl) dX2_areKinds_26 ⟨Nat.le_refl 0, Nat.le_refl 0⟩) (fun H locs hw => ?_)
    obtain ⟨hin, h⟩ := gd_of h
    refine m_iald C hw a1_26 hin dX2_areKinds_29 ?_
    refine lv_aload_n C.1 C.2.1 dX2_areKinds_30 rfl (lv_at hl 0 rfl) ?_
    refine gf_X2_9 C hw dX2_areKinds_31 ?_
    refine lv_iload_n C.1 C.2.1 dX2_areKinds_34 rfl (lv_at hl 2 rfl) ?_
    refine go_I hw (run_S (As := [.int _]) C hw (c_X4_highOf C.2.2.2.2.2.2.2.2.2 _ _) mi_X4_highOf ms_X4_highOf lk_X2_51 (by decide) (by decide) rfl hl.1 rfl (Nat.le_of_ble_eq_true rfl) dX2_areKinds_35 ⟨Nat.le_refl 0, Nat.le_refl 0⟩) (fun H locs hw => ?_)
    obtain ⟨hin, h⟩ := gd_of h
    refine m_iald C hw a1_26 hin dX2_areKinds_38 ?_
    refine lv_icmp_ne (tgt := 46) C.1 C.2.1 dX2_areKinds_39 (by decide) (fun cd => ?_) (fun cd => ?_)
    · have h := ite_f cd h
      refine lv_iconst (v := (0 : Int32)) C.1 C.2.1 dX2_areKinds_46 (by decide) ?_
      exact m_zret C hw (by decide) (ret_i h) dX2_areKinds_47
    · have h := ite_t cd h
      refine lv_iconst (v := (1 : Int32)) C.1 C.2.1 dX2_areKinds_42 (by decide) ?_
      refine lv_goto (tgt := 47) C.1 C.2.1 dX2_areKinds_43 (by decide) ?_
      exact m_zret C hw (by decide) (ret_i h) dX2_areKinds_47
noncomputable def f_X4_overTwo (a1 : Int32) (a2 : Int32) (σ : Mem) : Option Int32 :=
  gd (ix ((a1 * (120 : Int32)) + a2) 14400) (some (σ.1 21 ((a1 * (120 : Int32)) + a2).toNatClampNeg))
set_option maxRecDepth 20000 in
theorem c_X4_overTwo {l : Launch} {D : va_G} {cy : Nat → ClassId} {ad : Nat → Nat} (hj : InjW 1 ad) (a1 : Int32) (a2 : Int32)  (σ : Mem) (r : Int32) (h : f_X4_overTwo a1 a2 σ = some r) : CI 1 D cy ad l yX4_overTwo cX4_overTwo 3 (some .int) 0 [.ref (ad (9)), .int a1, .int a2] σ r σ := by
  refine CI.mk (by decide) hj (Nat.le_of_ble_eq_true rfl) (fun p e R s m below meth c ls C hw hl => ?_)
  have hl : lv_has ls 3 [(0, .ref (ad (9))), (1, .int a1), (2, .int a2)] := hl
  generalize ([.ref (ad (9)), .int a1, .int a2] : List Value).toArray = args at C ⊢
  have C : Cx 1 D cy ad p R s m args meth c cX4_overTwo 3 RX4 (some .int) 0 := C
  unfold f_X4_overTwo at h
  refine lv_aload_n C.1 C.2.1 dX4_overTwo_0 rfl (lv_at hl 0 rfl) ?_
  refine gf_X4_47 C hw dX4_overTwo_1 ?_
  refine lv_iload_n C.1 C.2.1 dX4_overTwo_4 rfl (lv_at hl 1 rfl) ?_
  refine lv_bipush (v := (120 : Int32)) C.1 C.2.1 dX4_overTwo_5 (by decide) ?_
  refine lv_imul C.1 C.2.1 dX4_overTwo_7 ?_
  refine lv_iload_n C.1 C.2.1 dX4_overTwo_8 rfl (lv_at hl 2 rfl) ?_
  refine lv_iadd C.1 C.2.1 dX4_overTwo_9 ?_
  obtain ⟨hin, h⟩ := gd_of h
  refine m_sald C hw a1_21 hin dX4_overTwo_10 ?_
  exact m_iret C hw (ret_i h) dX4_overTwo_11
noncomputable def b_X2_isLike_37 (a2 : Int32) (a3 : Int32) (v4 : Int32) (σ : Mem) : Option (Int32 ⊕ (Unit ⊕ Unit)) :=
  if (σ.1 9 17) ≤ v4 then (some (.inr (.inr ()))) else ((f_X4_overTwo a2 v4 σ).bind (fun r4 => (f_X4_overTwo a3 v4 σ).bind (fun r5 => (f_X2_areKinds r4 r5 σ).bind (fun r6 => if r6 = 0 then (some (.inr (.inl ()))) else ((f_X4_overTwo v4 a2 σ).bind (fun r7 => (f_X4_overTwo v4 a3 σ).bind (fun r8 => (f_X2_areKinds r7 r8 σ).bind (fun r9 => if r9 = 0 then (some (.inr (.inl ()))) else (lt (v4 + (1 : Int32)) (fun x10 => some (.inl x10)))))))))))
noncomputable def f_X2_isLike (a2 : Int32) (a3 : Int32) (σ : Mem) : Option Int32 :=
  gd (ix a2 128) (gd (ix a3 128) (if (σ.1 26 a2.toNatClampNeg) = (σ.1 26 a3.toNatClampNeg) then ((f_X4_overOne a2 σ).bind (fun r1 => (f_X4_overOne a3 σ).bind (fun r2 => (f_X2_areKinds r1 r2 σ).bind (fun r3 => if r3 = 0 then (some (0 : Int32)) else ((Lim (T := (Unit ⊕ Unit)) (fun s => b_X2_isLike_37 a2 a3 s σ) (0 : Int32)).bind (fun r11 => (match r11 with | .inl r11_0 => (some (0 : Int32)) | .inr r11_1 => (some (1 : Int32))))))))) else (some (0 : Int32))))
set_option maxRecDepth 20000 in
theorem w_X2_isLike_37 {D : va_G} {cy : Nat → ClassId} {ad : Nat → Nat} {p : Program} {l : Launch} {e : Env} {R : Room} {s : State} {m : MethodId} {args : Array Value} {below : List Frame} {meth : Method} {c : Code} (C : Cx 1 D cy ad p R s m args meth c cX2_isLike 5 RX2 (some .boolean) 2) {a2 : Int32} {a3 : Int32}  {v4 : Int32} {σ : Mem} {Q : State → Prop} {r : (Unit ⊕ Unit)} (hL : Lim (T := (Unit ⊕ Unit)) (fun s => b_X2_isLike_37 a2 a3 s σ) v4 = some r) (hE0 : (.inl () : (Unit ⊕ Unit)) = r → ∀ (H : Heap) (locs : List Loc) (ls : Array Slot), Wd 1 D cy ad s σ H locs → lv_has ls 5 [] → W p l e R s m args below meth c H locs 0 0 Q (F0 m 88 ls [])) (hE1 : (.inr () : (Unit ⊕ Unit)) = r → ∀ (H : Heap) (locs : List Loc) (ls : Array Slot), Wd 1 D cy ad s σ H locs → lv_has ls 5 [] → W p l e R s m args below meth c H locs 0 0 Q (F0 m 96 ls [])) (H : Heap) (locs : List Loc) (ls : Array Slot) (hw : Wd 1 D cy ad s σ H locs) (hl : lv_has ls 5 [(0, .ref (ad (25))), (1, .ref (ad (9))), (2, .int a2), (3, .int a3), (4, .int v4)]) : W p l e R s m args below meth c H locs 0 0 Q (F0 m 37 ls []) := by
  refine Lim_ind hL (P := fun u => ∀ (H : Heap) (locs : List Loc) (ls : Array Slot), Wd 1 D cy ad s σ H locs → lv_has ls 5 [(0, .ref (ad (25))), (1, .ref (ad (9))), (2, .int a2), (3, .int a3), (4, .int u)] → W p l e R s m args below meth c H locs 0 0 Q (F0 m 37 ls [])) (fun u x h hx H locs ls hw hl => ?_) H locs ls hw hl
  clear hL
  obtain ⟨v4, rfl⟩ : ∃ z, z = u := ⟨u, rfl⟩
  have h : b_X2_isLike_37 a2 a3 v4 σ = some x := h
  have hw : Wd 1 D cy ad s σ H locs := hw
  have hl : lv_has ls 5 [(0, .ref (ad (25))), (1, .ref (ad (9))), (2, .int a2), (3, .int a3), (4, .int v4)] := hl
  have hP : ∀ (u : Int32), (∀ (H : Heap) (locs : List Loc) (ls : Array Slot), Wd 1 D cy ad s σ H locs → lv_has ls 5 [(0, .ref (ad (25))), (1, .ref (ad (9))), (2, .int a2), (3, .int a3), (4, .int u)] → W p l e R s m args below meth c H locs 0 0 Q (F0 m 37 ls [])) → ∀ (H : Heap) (locs : List Loc) (ls : Array Slot), Wd 1 D cy ad s σ H locs → lv_has ls 5 [(0, .ref (ad (25))), (1, .ref (ad (9))), (2, .int a2), (3, .int a3), (4, .int u)] → W p l e R s m args below meth c H locs 0 0 Q (F0 m 37 ls []) := fun _ k => k
  unfold b_X2_isLike_37 at h
  refine lv_iload C.1 C.2.1 dX2_isLike_37 (lv_at hl 4 rfl) ?_
  refine lv_aload_n C.1 C.2.1 dX2_isLike_39 rfl (lv_at hl 1 rfl) ?_
  refine gf_X2_21 C hw dX2_isLike_40 ?_
  refine lv_icmp_ge (tgt := 96) C.1 C.2.1 dX2_isLike_43 (by decide) (fun cd => ?_) (fun cd => ?_)
  · have h := ite_t cd h
    obtain rfl := Option.some.inj h
    exact hE1  hx _ _ _ hw (lv_sub hl [] rfl)
  · have h := ite_f cd h
    refine lv_aload_n C.1 C.2.1 dX2_isLike_46 rfl (lv_at hl 0 rfl) ?_
    refine lv_aload_n C.1 C.2.1 dX2_isLike_47 rfl (lv_at hl 1 rfl) ?_
    refine lv_iload_n C.1 C.2.1 dX2_isLike_48 rfl (lv_at hl 2 rfl) ?_
    refine lv_iload C.1 C.2.1 dX2_isLike_49 (lv_at hl 4 rfl) ?_
    obtain ⟨r4, h1, h⟩ := bS h
    refine go_I hw (run_V (As := [.int _, .int _]) C hw (c_X4_overTwo C.2.2.2.2.2.2.2.2.2 _ _ _ _ h1) mi_X4_overTwo mv_X4_overTwo o1_9 (ci := 4) rfl rfl lk_X2_44 (by decide) (by decide) rfl hl.1 rfl (Nat.le_of_ble_eq_true rfl) dX2_isLike_51 ⟨Nat.le_refl 0, Nat.le_refl 0⟩) (fun H locs hw => ?_)
    refine lv_aload_n C.1 C.2.1 dX2_isLike_54 rfl (lv_at hl 1 rfl) ?_
    refine lv_iload_n C.1 C.2.1 dX2_isLike_55 rfl (lv_at hl 3 rfl) ?_
    refine lv_iload C.1 C.2.1 dX2_isLike_56 (lv_at hl 4 rfl) ?_
    obtain ⟨r5, h1, h⟩ := bS h
    refine go_I hw (run_V (As := [.int _, .int _]) C hw (c_X4_overTwo C.2.2.2.2.2.2.2.2.2 _ _ _ _ h1) mi_X4_overTwo mv_X4_overTwo o1_9 (ci := 4) rfl rfl lk_X2_44 (by decide) (by decide) rfl hl.1 rfl (Nat.le_of_ble_eq_true rfl) dX2_isLike_58 ⟨Nat.le_refl 0, Nat.le_refl 0⟩) (fun H locs hw => ?_)
    obtain ⟨r6, h1, h⟩ := bS h
    refine go_I hw (run_V (As := [.int _, .int _]) C hw (c_X2_areKinds C.2.2.2.2.2.2.2.2.2 _ _ _ _ h1) mi_X2_areKinds mv_X2_areKinds o1_25 (ci := 2) rfl rfl lk_X2_41 (by decide) (by decide) rfl hl.1 rfl (Nat.le_of_ble_eq_true rfl) dX2_isLike_61 ⟨Nat.le_refl 0, Nat.le_refl 0⟩) (fun H locs hw => ?_)
    refine lv_if_eq (tgt := 88) C.1 C.2.1 dX2_isLike_64 (by decide) (fun cd => ?_) (fun cd => ?_)
    · have h := ite_t cd h
      obtain rfl := Option.some.inj h
      exact hE0  hx _ _ _ hw (lv_sub hl [] rfl)
    · have h := ite_f cd h
      refine lv_aload_n C.1 C.2.1 dX2_isLike_67 rfl (lv_at hl 0 rfl) ?_
      refine lv_aload_n C.1 C.2.1 dX2_isLike_68 rfl (lv_at hl 1 rfl) ?_
      refine lv_iload C.1 C.2.1 dX2_isLike_69 (lv_at hl 4 rfl) ?_
      refine lv_iload_n C.1 C.2.1 dX2_isLike_71 rfl (lv_at hl 2 rfl) ?_
      obtain ⟨r7, h1, h⟩ := bS h
      refine go_I hw (run_V (As := [.int _, .int _]) C hw (c_X4_overTwo C.2.2.2.2.2.2.2.2.2 _ _ _ _ h1) mi_X4_overTwo mv_X4_overTwo o1_9 (ci := 4) rfl rfl lk_X2_44 (by decide) (by decide) rfl hl.1 rfl (Nat.le_of_ble_eq_true rfl) dX2_isLike_72 ⟨Nat.le_refl 0, Nat.le_refl 0⟩) (fun H locs hw => ?_)
      refine lv_aload_n C.1 C.2.1 dX2_isLike_75 rfl (lv_at hl 1 rfl) ?_
      refine lv_iload C.1 C.2.1 dX2_isLike_76 (lv_at hl 4 rfl) ?_
      refine lv_iload_n C.1 C.2.1 dX2_isLike_78 rfl (lv_at hl 3 rfl) ?_
      obtain ⟨r8, h1, h⟩ := bS h
      refine go_I hw (run_V (As := [.int _, .int _]) C hw (c_X4_overTwo C.2.2.2.2.2.2.2.2.2 _ _ _ _ h1) mi_X4_overTwo mv_X4_overTwo o1_9 (ci := 4) rfl rfl lk_X2_44 (by decide) (by decide) rfl hl.1 rfl (Nat.le_of_ble_eq_true rfl) dX2_isLike_79 ⟨Nat.le_refl 0, Nat.le_refl 0⟩) (fun H locs hw => ?_)
      obtain ⟨r9, h1, h⟩ := bS h
      refine go_I hw (run_V (As := [.int _, .int _]) C hw (c_X2_areKinds C.2.2.2.2.2.2.2.2.2 _ _ _ _ h1) mi_X2_areKinds mv_X2_areKinds o1_25 (ci := 2) rfl rfl lk_X2_41 (by decide) (by decide) rfl hl.1 rfl (Nat.le_of_ble_eq_true rfl) dX2_isLike_82 ⟨Nat.le_refl 0, Nat.le_refl 0⟩) (fun H locs hw => ?_)
      refine lv_if_ne (tgt := 90) C.1 C.2.1 dX2_isLike_85 (by decide) (fun cd => ?_) (fun cd => ?_)
      · have h := ite_f cd h
        obtain ⟨x10, ex10, h⟩ := lt_of h
        refine m_iinc (k := 4) (lv' := [(4, .int _), (0, .ref _), (1, .ref _), (2, .int _), (3, .int _)]) C (1 : Int32) (by decide) dX2_isLike_90 hl rfl ex10.symm (by decide) rfl (fun ls hl => ?_)
        refine lv_goto (tgt := 37) C.1 C.2.1 dX2_isLike_93 (by decide) ?_
        obtain rfl := Option.some.inj h
        exact hP _ hx _ _ _ hw (lv_sub hl [1, 2, 3, 4, 0] rfl)
      · have h := ite_t cd h
        obtain rfl := Option.some.inj h
        exact hE0  hx _ _ _ hw (lv_sub hl [] rfl)
set_option maxRecDepth 20000 in
theorem c_X2_isLike {l : Launch} {D : va_G} {cy : Nat → ClassId} {ad : Nat → Nat} (hj : InjW 1 ad) (a2 : Int32) (a3 : Int32)  (σ : Mem) (r : Int32) (h : f_X2_isLike a2 a3 σ = some r) : CI 1 D cy ad l yX2_isLike cX2_isLike 5 (some .boolean) 2 [.ref (ad (25)), .ref (ad (9)), .int a2, .int a3] σ r σ := by
  refine CI.mk (by decide) hj (Nat.le_of_ble_eq_true rfl) (fun p e R s m below meth c ls C hw hl => ?_)
  have hl : lv_has ls 5 [(0, .ref (ad (25))), (1, .ref (ad (9))), (2, .int a2), (3, .int a3)] := hl
  generalize ([.ref (ad (25)), .ref (ad (9)), .int a2, .int a3] : List Value).toArray = args at C ⊢
  have C : Cx 1 D cy ad p R s m args meth c cX2_isLike 5 RX2 (some .boolean) 2 := C
  unfold f_X2_isLike at h
  refine lv_aload_n C.1 C.2.1 dX2_isLike_0 rfl (lv_at hl 0 rfl) ?_
  refine gf_X2_9 C hw dX2_isLike_1 ?_
  refine lv_iload_n C.1 C.2.1 dX2_isLike_4 rfl (lv_at hl 2 rfl) ?_
  obtain ⟨hin, h⟩ := gd_of h
  refine m_iald C hw a1_26 hin dX2_isLike_5 ?_
  refine lv_aload_n C.1 C.2.1 dX2_isLike_6 rfl (lv_at hl 0 rfl) ?_
  refine gf_X2_9 C hw dX2_isLike_7 ?_
  refine lv_iload_n C.1 C.2.1 dX2_isLike_10 rfl (lv_at hl 3 rfl) ?_
  obtain ⟨hin, h⟩ := gd_of h
  refine m_iald C hw a1_26 hin dX2_isLike_11 ?_
  refine lv_icmp_ne (tgt := 32) C.1 C.2.1 dX2_isLike_12 (by decide) (fun cd => ?_) (fun cd => ?_)
  · have h := ite_f cd h
    refine lv_iconst (v := (0 : Int32)) C.1 C.2.1 dX2_isLike_32 (by decide) ?_
    exact m_zret C hw (by decide) (ret_i h) dX2_isLike_33
  · have h := ite_t cd h
    refine lv_aload_n C.1 C.2.1 dX2_isLike_15 rfl (lv_at hl 0 rfl) ?_
    refine lv_aload_n C.1 C.2.1 dX2_isLike_16 rfl (lv_at hl 1 rfl) ?_
    refine lv_iload_n C.1 C.2.1 dX2_isLike_17 rfl (lv_at hl 2 rfl) ?_
    obtain ⟨r1, h1, h⟩ := bS h
    refine go_I hw (run_V (As := [.int _]) C hw (c_X4_overOne C.2.2.2.2.2.2.2.2.2 _ _ _ h1) mi_X4_overOne mv_X4_overOne o1_9 (ci := 4) rfl rfl lk_X2_37 (by decide) (by decide) rfl hl.1 rfl (Nat.le_of_ble_eq_true rfl) dX2_isLike_18 ⟨Nat.le_refl 0, Nat.le_refl 0⟩) (fun H locs hw => ?_)
    refine lv_aload_n C.1 C.2.1 dX2_isLike_21 rfl (lv_at hl 1 rfl) ?_
    refine lv_iload_n C.1 C.2.1 dX2_isLike_22 rfl (lv_at hl 3 rfl) ?_
    obtain ⟨r2, h1, h⟩ := bS h
    refine go_I hw (run_V (As := [.int _]) C hw (c_X4_overOne C.2.2.2.2.2.2.2.2.2 _ _ _ h1) mi_X4_overOne mv_X4_overOne o1_9 (ci := 4) rfl rfl lk_X2_37 (by decide) (by decide) rfl hl.1 rfl (Nat.le_of_ble_eq_true rfl) dX2_isLike_23 ⟨Nat.le_refl 0, Nat.le_refl 0⟩) (fun H locs hw => ?_)
    obtain ⟨r3, h1, h⟩ := bS h
    refine go_I hw (run_V (As := [.int _, .int _]) C hw (c_X2_areKinds C.2.2.2.2.2.2.2.2.2 _ _ _ _ h1) mi_X2_areKinds mv_X2_areKinds o1_25 (ci := 2) rfl rfl lk_X2_41 (by decide) (by decide) rfl hl.1 rfl (Nat.le_of_ble_eq_true rfl) dX2_isLike_26 ⟨Nat.le_refl 0, Nat.le_refl 0⟩) (fun H locs hw => ?_)
    refine lv_if_ne (tgt := 34) C.1 C.2.1 dX2_isLike_29 (by decide) (fun cd => ?_) (fun cd => ?_)
    · have h := ite_f cd h
      refine lv_iconst (v := (0 : Int32)) C.1 C.2.1 dX2_isLike_34 (by decide) ?_
      refine lv_istore (lv' := [(4, .int _), (0, .ref _), (1, .ref _), (2, .int _), (3, .int _)]) C.1 C.2.1 dX2_isLike_35 hl (by decide) rfl (fun ls hl => ?_)
      obtain ⟨r11, hL, h⟩ := bS h
      refine w_X2_isLike_37 C  hL (fun  hr H locs ls hw hl => ?_) (fun  hr H locs ls hw hl => ?_) _ _ _ hw (lv_sub hl [1, 2, 3, 4, 0] rfl)
      · subst hr
        try dsimp only at h
        try dsimp only at hw
        try dsimp only at hl
        refine lv_iconst (v := (0 : Int32)) C.1 C.2.1 dX2_isLike_88 (by decide) ?_
        exact m_zret C hw (by decide) (ret_i h) dX2_isLike_89
      · subst hr
        try dsimp only at h
        try dsimp only at hw
        try dsimp only at hl
        refine lv_iconst (v := (1 : Int32)) C.1 C.2.1 dX2_isLike_96 (by decide) ?_
        exact m_zret C hw (by decide) (ret_i h) dX2_isLike_97
    · have h := ite_t cd h
      refine lv_iconst (v := (0 : Int32)) C.1 C.2.1 dX2_isLike_32 (by decide) ?_
      exact m_zret C hw (by decide) (ret_i h) dX2_isLike_33
noncomputable def b_X2_splitByMoves_15  (v2 : Int32) (v3 : Int32) (v4 : Int32) (σ : Mem) : Option ((Int32 × Int32 × Int32) ⊕ (Int32 × Int32 × Int32)) :=
  if v2 ≤ v4 then (some (.inr (v2, v3, v4))) else (gd (ix v4 128) ((f_X2_isLike (σ.1 28 v4.toNatClampNeg) v3 σ).bind (fun r1 => if r1 = 0 then (lt (v4 + (1 : Int32)) (fun x2 => some (.inl (v2, v3, x2)))) else (some (.inr (v2, v3, v4))))))
noncomputable def j_X2_splitByMoves_59  (v2 : Int32) (v3 : Int32) (v4 : Int32) (σ : Mem) : Option ((Int32 × Int32 × Mem) ⊕ (Int32 × Mem)) :=
  gd (ix v3 128) (lt (sI σ 27 v3.toNatClampNeg v4) (fun σ4 => lt (v3 + (1 : Int32)) (fun x5 => some (.inl (v2, x5, σ4)))))
noncomputable def j_X2_splitByMoves_43  (v2 : Int32) (v3 : Int32) (v4 : Int32) (σ : Mem) : Option ((Int32 × Int32 × Mem) ⊕ (Int32 × Mem)) :=
  if v4 = v2 then (gd (ix v2 128) (lt (sI σ 28 v2.toNatClampNeg v3) (fun σ6 => lt (v2 + (1 : Int32)) (fun x7 => j_X2_splitByMoves_59 x7 v3 v4 σ6)))) else (j_X2_splitByMoves_59 v2 v3 v4 σ)
noncomputable def b_X2_splitByMoves_4  (v2 : Int32) (v3 : Int32) (σ : Mem) : Option ((Int32 × Int32 × Mem) ⊕ (Int32 × Mem)) :=
  if (σ.1 9 17) ≤ v3 then (some (.inr (v2, σ))) else ((Lim (T := (Int32 × Int32 × Int32)) (fun s => b_X2_splitByMoves_15 s.1 s.2.1 s.2.2 σ) (v2, v3, (0 : Int32))).bind (fun r3 => j_X2_splitByMoves_43 r3.1 r3.2.1 r3.2.2 σ))
noncomputable def b_X2_splitByMoves_75  (v2 : Int32) (v3 : Int32) (σ : Mem) : Option ((Int32 × Int32 × Mem) ⊕ (Int32 × Mem)) :=
  if (σ.1 9 17) ≤ v3 then (some (.inr (v2, σ))) else (gd (ix v3 128) (gd (ix v3 128) (lt (sI σ 26 v3.toNatClampNeg (σ.1 27 v3.toNatClampNeg)) (fun σ9 => lt (v3 + (1 : Int32)) (fun x10 => some (.inl (v2, x10, σ9)))))))
noncomputable def f_X2_splitByMoves  (σ : Mem) : Option (Int32 × Mem) :=
  (Lim (T := (Int32 × Mem)) (fun s => b_X2_splitByMoves_4 s.1 s.2.1 s.2.2) ((0 : Int32), (0 : Int32), σ)).bind (fun r8 => (Lim (T := (Int32 × Mem)) (fun s => b_X2_splitByMoves_75 s.1 s.2.1 s.2.2) (r8.1, (0 : Int32), r8.2)).bind (fun r11 => some (r11.1, r11.2)))
set_option maxRecDepth 20000 in
theorem w_X2_splitByMoves_15 {D : va_G} {cy : Nat → ClassId} {ad : Nat → Nat} {p : Program} {l : Launch} {e : Env} {R : Room} {s : State} {m : MethodId} {args : Array Value} {below : List Frame} {meth : Method} {c : Code} (C : Cx 1 D cy ad p R s m args meth c cX2_splitByMoves 5 RX2 (some .int) 3)   {v2 : Int32} {v3 : Int32} {v4 : Int32} {σ : Mem} {Q : State → Prop} {r : (Int32 × Int32 × Int32)} (hL : Lim (T := (Int32 × Int32 × Int32)) (fun s => b_X2_splitByMoves_15 s.1 s.2.1 s.2.2 σ) (v2, v3, v4) = some r) (hE0 : ∀ (v2 : Int32) (v3 : Int32) (v4 : Int32), ((v2, v3, v4) : (Int32 × Int32 × Int32)) = r → ∀ (H : Heap) (locs : List Loc) (ls : Array Slot), Wd 1 D cy ad s σ H locs → lv_has ls 5 [(0, .ref (ad (25))), (1, .ref (ad (9))), (2, .int v2), (3, .int v3), (4, .int v4)] → W p l e R s m args below meth c H locs 0 0 Q (F0 m 43 ls [])) (H : Heap) (locs : List Loc) (ls : Array Slot) (hw : Wd 1 D cy ad s σ H locs) (hl : lv_has ls 5 [(0, .ref (ad (25))), (1, .ref (ad (9))), (2, .int v2), (3, .int v3), (4, .int v4)]) : W p l e R s m args below meth c H locs 0 0 Q (F0 m 15 ls []) := by
  refine Lim_ind hL (P := fun u => ∀ (H : Heap) (locs : List Loc) (ls : Array Slot), Wd 1 D cy ad s σ H locs → lv_has ls 5 [(0, .ref (ad (25))), (1, .ref (ad (9))), (2, .int u.1), (3, .int u.2.1), (4, .int u.2.2)] → W p l e R s m args below meth c H locs 0 0 Q (F0 m 15 ls [])) (fun u x h hx H locs ls hw hl => ?_) H locs ls hw hl
  clear hL
  obtain ⟨v2, v3, v4⟩ := u
  have h : b_X2_splitByMoves_15 v2 v3 v4 σ = some x := h
  have hw : Wd 1 D cy ad s σ H locs := hw
  have hl : lv_has ls 5 [(0, .ref (ad (25))), (1, .ref (ad (9))), (2, .int v2), (3, .int v3), (4, .int v4)] := hl
  have hP : ∀ (u : (Int32 × Int32 × Int32)), (∀ (H : Heap) (locs : List Loc) (ls : Array Slot), Wd 1 D cy ad s σ H locs → lv_has ls 5 [(0, .ref (ad (25))), (1, .ref (ad (9))), (2, .int u.1), (3, .int u.2.1), (4, .int u.2.2)] → W p l e R s m args below meth c H locs 0 0 Q (F0 m 15 ls [])) → ∀ (H : Heap) (locs : List Loc) (ls : Array Slot), Wd 1 D cy ad s σ H locs → lv_has ls 5 [(0, .ref (ad (25))), (1, .ref (ad (9))), (2, .int u.1), (3, .int u.2.1), (4, .int u.2.2)] → W p l e R s m args below meth c H locs 0 0 Q (F0 m 15 ls []) := fun _ k => k
  unfold b_X2_splitByMoves_15 at h
  refine lv_iload C.1 C.2.1 dX2_splitByMoves_15 (lv_at hl 4 rfl) ?_
  refine lv_iload_n C.1 C.2.1 dX2_splitByMoves_17 rfl (lv_at hl 2 rfl) ?_
  refine lv_icmp_ge (tgt := 43) C.1 C.2.1 dX2_splitByMoves_18 (by decide) (fun cd => ?_) (fun cd => ?_)
  · have h := ite_t cd h
    obtain rfl := Option.some.inj h
    exact hE0 _ _ _ hx _ _ _ hw (lv_sub hl [0, 1, 2, 3, 4] rfl)
  · have h := ite_f cd h
    refine lv_aload_n C.1 C.2.1 dX2_splitByMoves_21 rfl (lv_at hl 0 rfl) ?_
    refine lv_aload_n C.1 C.2.1 dX2_splitByMoves_22 rfl (lv_at hl 1 rfl) ?_
    refine lv_aload_n C.1 C.2.1 dX2_splitByMoves_23 rfl (lv_at hl 0 rfl) ?_
    refine gf_X2_18 C hw dX2_splitByMoves_24 ?_
    refine lv_iload C.1 C.2.1 dX2_splitByMoves_27 (lv_at hl 4 rfl) ?_
    obtain ⟨hin, h⟩ := gd_of h
    refine m_iald C hw a1_28 hin dX2_splitByMoves_29 ?_
    refine lv_iload_n C.1 C.2.1 dX2_splitByMoves_30 rfl (lv_at hl 3 rfl) ?_
    obtain ⟨r1, h1, h⟩ := bS h
    refine go_I hw (run_V (As := [.ref _, .int _, .int _]) C hw (c_X2_isLike C.2.2.2.2.2.2.2.2.2 _ _ _ _ h1) mi_X2_isLike mv_X2_isLike o1_25 (ci := 2) rfl rfl lk_X2_33 (by decide) (by decide) rfl hl.1 rfl (Nat.le_of_ble_eq_true rfl) dX2_splitByMoves_31 ⟨Nat.le_refl 0, Nat.le_refl 0⟩) (fun H locs hw => ?_)
    refine lv_if_ne (tgt := 43) C.1 C.2.1 dX2_splitByMoves_34 (by decide) (fun cd => ?_) (fun cd => ?_)
    · have h := ite_f cd h
      obtain rfl := Option.some.inj h
      exact hE0 _ _ _ hx _ _ _ hw (lv_sub hl [0, 1, 2, 3, 4] rfl)
    · have h := ite_t cd h
      obtain ⟨x2, ex2, h⟩ := lt_of h
      refine m_iinc (k := 4) (lv' := [(4, .int _), (0, .ref _), (1, .ref _), (2, .int _), (3, .int _)]) C (1 : Int32) (by decide) dX2_splitByMoves_37 hl rfl ex2.symm (by decide) rfl (fun ls hl => ?_)
      refine lv_goto (tgt := 15) C.1 C.2.1 dX2_splitByMoves_40 (by decide) ?_
      obtain rfl := Option.some.inj h
      exact hP _ hx _ _ _ hw (lv_sub hl [1, 2, 3, 4, 0] rfl)
set_option maxRecDepth 20000 in
theorem w_X2_splitByMoves_59 {D : va_G} {cy : Nat → ClassId} {ad : Nat → Nat} {p : Program} {l : Launch} {e : Env} {R : Room} {s : State} {m : MethodId} {args : Array Value} {below : List Frame} {meth : Method} {c : Code} (C : Cx 1 D cy ad p R s m args meth c cX2_splitByMoves 5 RX2 (some .int) 3)   {v2 : Int32} {v3 : Int32} {v4 : Int32}  {σ : Mem} {H : Heap} {locs : List Loc} {ls : Array Slot} {Q : State → Prop} {P : (Int32 × Int32 × Mem) → Prop} {r : (Int32 × Mem)} {x : (Int32 × Int32 × Mem) ⊕ (Int32 × Mem)} (hx : LimQ P r x) (hP : ∀ u, P u → ∀ (H : Heap) (locs : List Loc) (ls : Array Slot), Wd 1 D cy ad s u.2.2 H locs → lv_has ls 5 [(0, .ref (ad (25))), (1, .ref (ad (9))), (2, .int u.1), (3, .int u.2.1)] → W p l e R s m args below meth c H locs 0 0 Q (F0 m 4 ls [])) (hE0 : ∀ (v2 : Int32) (σ1 : Mem), ((v2, σ1) : (Int32 × Mem)) = r → ∀ (H : Heap) (locs : List Loc) (ls : Array Slot), Wd 1 D cy ad s σ1 H locs → lv_has ls 5 [(0, .ref (ad (25))), (1, .ref (ad (9))), (2, .int v2)] → W p l e R s m args below meth c H locs 0 0 Q (F0 m 73 ls [])) (hw : Wd 1 D cy ad s σ H locs) (hl : lv_has ls 5 [(0, .ref (ad (25))), (1, .ref (ad (9))), (2, .int v2), (3, .int v3), (4, .int v4)]) (h : j_X2_splitByMoves_59 v2 v3 v4 σ = some x) : W p l e R s m args below meth c H locs 0 0 Q (F0 m 59 ls []) := by
  unfold j_X2_splitByMoves_59 at h
  refine lv_aload_n C.1 C.2.1 dX2_splitByMoves_59 rfl (lv_at hl 0 rfl) ?_
  refine gf_X2_15 C hw dX2_splitByMoves_60 ?_
  refine lv_iload_n C.1 C.2.1 dX2_splitByMoves_63 rfl (lv_at hl 3 rfl) ?_
  refine lv_iload C.1 C.2.1 dX2_splitByMoves_64 (lv_at hl 4 rfl) ?_
  obtain ⟨hin, h⟩ := gd_of h
  refine m_iast C hw a1_27 hin dX2_splitByMoves_66 (fun H locs hw => ?_)
  obtain ⟨σ4, eσ4, h⟩ := lt_of h
  rw [← eσ4] at hw
  obtain ⟨x5, ex5, h⟩ := lt_of h
  refine m_iinc (k := 3) (lv' := [(3, .int _), (0, .ref _), (1, .ref _), (2, .int _), (4, .int _)]) C (1 : Int32) (by decide) dX2_splitByMoves_67 hl rfl ex5.symm (by decide) rfl (fun ls hl => ?_)
  refine lv_goto (tgt := 4) C.1 C.2.1 dX2_splitByMoves_70 (by decide) ?_
  obtain rfl := Option.some.inj h
  exact hP _ hx _ _ _ hw (lv_sub hl [1, 2, 3, 0] rfl)
set_option maxRecDepth 20000 in
theorem w_X2_splitByMoves_43 {D : va_G} {cy : Nat → ClassId} {ad : Nat → Nat} {p : Program} {l : Launch} {e : Env} {R : Room} {s : State} {m : MethodId} {args : Array Value} {below : List Frame} {meth : Method} {c : Code} (C : Cx 1 D cy ad p R s m args meth c cX2_splitByMoves 5 RX2 (some .int) 3)   {v2 : Int32} {v3 : Int32} {v4 : Int32}  {σ : Mem} {H : Heap} {locs : List Loc} {ls : Array Slot} {Q : State → Prop} {P : (Int32 × Int32 × Mem) → Prop} {r : (Int32 × Mem)} {x : (Int32 × Int32 × Mem) ⊕ (Int32 × Mem)} (hx : LimQ P r x) (hP : ∀ u, P u → ∀ (H : Heap) (locs : List Loc) (ls : Array Slot), Wd 1 D cy ad s u.2.2 H locs → lv_has ls 5 [(0, .ref (ad (25))), (1, .ref (ad (9))), (2, .int u.1), (3, .int u.2.1)] → W p l e R s m args below meth c H locs 0 0 Q (F0 m 4 ls [])) (hE0 : ∀ (v2 : Int32) (σ1 : Mem), ((v2, σ1) : (Int32 × Mem)) = r → ∀ (H : Heap) (locs : List Loc) (ls : Array Slot), Wd 1 D cy ad s σ1 H locs → lv_has ls 5 [(0, .ref (ad (25))), (1, .ref (ad (9))), (2, .int v2)] → W p l e R s m args below meth c H locs 0 0 Q (F0 m 73 ls [])) (hw : Wd 1 D cy ad s σ H locs) (hl : lv_has ls 5 [(0, .ref (ad (25))), (1, .ref (ad (9))), (2, .int v2), (3, .int v3), (4, .int v4)]) (h : j_X2_splitByMoves_43 v2 v3 v4 σ = some x) : W p l e R s m args below meth c H locs 0 0 Q (F0 m 43 ls []) := by
  unfold j_X2_splitByMoves_43 at h
  refine lv_iload C.1 C.2.1 dX2_splitByMoves_43 (lv_at hl 4 rfl) ?_
  refine lv_iload_n C.1 C.2.1 dX2_splitByMoves_45 rfl (lv_at hl 2 rfl) ?_
  refine lv_icmp_ne (tgt := 59) C.1 C.2.1 dX2_splitByMoves_46 (by decide) (fun cd => ?_) (fun cd => ?_)
  · have h := ite_f cd h
    exact w_X2_splitByMoves_59 C hx hP hE0 hw (lv_sub hl [0, 1, 2, 3, 4] rfl) h
  · have h := ite_t cd h
    refine lv_aload_n C.1 C.2.1 dX2_splitByMoves_49 rfl (lv_at hl 0 rfl) ?_
    refine gf_X2_18 C hw dX2_splitByMoves_50 ?_
    refine lv_iload_n C.1 C.2.1 dX2_splitByMoves_53 rfl (lv_at hl 2 rfl) ?_
    refine lv_iload_n C.1 C.2.1 dX2_splitByMoves_54 rfl (lv_at hl 3 rfl) ?_
    obtain ⟨hin, h⟩ := gd_of h
    refine m_iast C hw a1_28 hin dX2_splitByMoves_55 (fun H locs hw => ?_)
    obtain ⟨σ6, eσ6, h⟩ := lt_of h
    rw [← eσ6] at hw
    obtain ⟨x7, ex7, h⟩ := lt_of h
    refine m_iinc (k := 2) (lv' := [(2, .int _), (0, .ref _), (1, .ref _), (3, .int _), (4, .int _)]) C (1 : Int32) (by decide) dX2_splitByMoves_56 hl rfl ex7.symm (by decide) rfl (fun ls hl => ?_)
    exact w_X2_splitByMoves_59 C hx hP hE0 hw (lv_sub hl [1, 2, 0, 3, 4] rfl) h
set_option maxRecDepth 20000 in
theorem w_X2_splitByMoves_4 {D : va_G} {cy : Nat → ClassId} {ad : Nat → Nat} {p : Program} {l : Launch} {e : Env} {R : Room} {s : State} {m : MethodId} {args : Array Value} {below : List Frame} {meth : Method} {c : Code} (C : Cx 1 D cy ad p R s m args meth c cX2_splitByMoves 5 RX2 (some .int) 3)   {v2 : Int32} {v3 : Int32} {σ : Mem} {Q : State → Prop} {r : (Int32 × Mem)} (hL : Lim (T := (Int32 × Mem)) (fun s => b_X2_splitByMoves_4 s.1 s.2.1 s.2.2) (v2, v3, σ) = some r) (hE0 : ∀ (v2 : Int32) (σ1 : Mem), ((v2, σ1) : (Int32 × Mem)) = r → ∀ (H : Heap) (locs : List Loc) (ls : Array Slot), Wd 1 D cy ad s σ1 H locs → lv_has ls 5 [(0, .ref (ad (25))), (1, .ref (ad (9))), (2, .int v2)] → W p l e R s m args below meth c H locs 0 0 Q (F0 m 73 ls [])) (H : Heap) (locs : List Loc) (ls : Array Slot) (hw : Wd 1 D cy ad s σ H locs) (hl : lv_has ls 5 [(0, .ref (ad (25))), (1, .ref (ad (9))), (2, .int v2), (3, .int v3)]) : W p l e R s m args below meth c H locs 0 0 Q (F0 m 4 ls []) := by
  refine Lim_ind hL (P := fun u => ∀ (H : Heap) (locs : List Loc) (ls : Array Slot), Wd 1 D cy ad s u.2.2 H locs → lv_has ls 5 [(0, .ref (ad (25))), (1, .ref (ad (9))), (2, .int u.1), (3, .int u.2.1)] → W p l e R s m args below meth c H locs 0 0 Q (F0 m 4 ls [])) (fun u x h hx H locs ls hw hl => ?_) H locs ls hw hl
  clear hL
  obtain ⟨v2, v3, σ⟩ := u
  have h : b_X2_splitByMoves_4 v2 v3 σ = some x := h
  have hw : Wd 1 D cy ad s σ H locs := hw
  have hl : lv_has ls 5 [(0, .ref (ad (25))), (1, .ref (ad (9))), (2, .int v2), (3, .int v3)] := hl
  have hP : ∀ (u : (Int32 × Int32 × Mem)), (∀ (H : Heap) (locs : List Loc) (ls : Array Slot), Wd 1 D cy ad s u.2.2 H locs → lv_has ls 5 [(0, .ref (ad (25))), (1, .ref (ad (9))), (2, .int u.1), (3, .int u.2.1)] → W p l e R s m args below meth c H locs 0 0 Q (F0 m 4 ls [])) → ∀ (H : Heap) (locs : List Loc) (ls : Array Slot), Wd 1 D cy ad s u.2.2 H locs → lv_has ls 5 [(0, .ref (ad (25))), (1, .ref (ad (9))), (2, .int u.1), (3, .int u.2.1)] → W p l e R s m args below meth c H locs 0 0 Q (F0 m 4 ls []) := fun _ k => k
  unfold b_X2_splitByMoves_4 at h
  refine lv_iload_n C.1 C.2.1 dX2_splitByMoves_4 rfl (lv_at hl 3 rfl) ?_
  refine lv_aload_n C.1 C.2.1 dX2_splitByMoves_5 rfl (lv_at hl 1 rfl) ?_
  refine gf_X2_21 C hw dX2_splitByMoves_6 ?_
  refine lv_icmp_ge (tgt := 73) C.1 C.2.1 dX2_splitByMoves_9 (by decide) (fun cd => ?_) (fun cd => ?_)
  · have h := ite_t cd h
    obtain rfl := Option.some.inj h
    exact hE0 _ _ hx _ _ _ hw (lv_sub hl [0, 1, 2] rfl)
  · have h := ite_f cd h
    refine lv_iconst (v := (0 : Int32)) C.1 C.2.1 dX2_splitByMoves_12 (by decide) ?_
    refine lv_istore (lv' := [(4, .int _), (0, .ref _), (1, .ref _), (2, .int _), (3, .int _)]) C.1 C.2.1 dX2_splitByMoves_13 hl (by decide) rfl (fun ls hl => ?_)
    obtain ⟨r3, hL, h⟩ := bS h
    refine w_X2_splitByMoves_15 C  hL (fun y0 y1 y2 hr H locs ls hw hl => ?_) _ _ _ hw (lv_sub hl [1, 2, 3, 4, 0] rfl)
    · subst hr
      try dsimp only at h
      try dsimp only at hw
      try dsimp only at hl
      exact w_X2_splitByMoves_43 C hx hP hE0 hw (lv_sub hl [0, 1, 2, 3, 4] rfl) h
set_option maxRecDepth 20000 in
theorem w_X2_splitByMoves_75 {D : va_G} {cy : Nat → ClassId} {ad : Nat → Nat} {p : Program} {l : Launch} {e : Env} {R : Room} {s : State} {m : MethodId} {args : Array Value} {below : List Frame} {meth : Method} {c : Code} (C : Cx 1 D cy ad p R s m args meth c cX2_splitByMoves 5 RX2 (some .int) 3)   {v2 : Int32} {v3 : Int32} {σ : Mem} {Q : State → Prop} {r : (Int32 × Mem)} (hL : Lim (T := (Int32 × Mem)) (fun s => b_X2_splitByMoves_75 s.1 s.2.1 s.2.2) (v2, v3, σ) = some r) (hE0 : ∀ (v2 : Int32) (σ1 : Mem), ((v2, σ1) : (Int32 × Mem)) = r → ∀ (H : Heap) (locs : List Loc) (ls : Array Slot), Wd 1 D cy ad s σ1 H locs → lv_has ls 5 [(2, .int v2)] → W p l e R s m args below meth c H locs 0 0 Q (F0 m 101 ls [])) (H : Heap) (locs : List Loc) (ls : Array Slot) (hw : Wd 1 D cy ad s σ H locs) (hl : lv_has ls 5 [(0, .ref (ad (25))), (1, .ref (ad (9))), (2, .int v2), (3, .int v3)]) : W p l e R s m args below meth c H locs 0 0 Q (F0 m 75 ls []) := by
  refine Lim_ind hL (P := fun u => ∀ (H : Heap) (locs : List Loc) (ls : Array Slot), Wd 1 D cy ad s u.2.2 H locs → lv_has ls 5 [(0, .ref (ad (25))), (1, .ref (ad (9))), (2, .int u.1), (3, .int u.2.1)] → W p l e R s m args below meth c H locs 0 0 Q (F0 m 75 ls [])) (fun u x h hx H locs ls hw hl => ?_) H locs ls hw hl
  clear hL
  obtain ⟨v2, v3, σ⟩ := u
  have h : b_X2_splitByMoves_75 v2 v3 σ = some x := h
  have hw : Wd 1 D cy ad s σ H locs := hw
  have hl : lv_has ls 5 [(0, .ref (ad (25))), (1, .ref (ad (9))), (2, .int v2), (3, .int v3)] := hl
  have hP : ∀ (u : (Int32 × Int32 × Mem)), (∀ (H : Heap) (locs : List Loc) (ls : Array Slot), Wd 1 D cy ad s u.2.2 H locs → lv_has ls 5 [(0, .ref (ad (25))), (1, .ref (ad (9))), (2, .int u.1), (3, .int u.2.1)] → W p l e R s m args below meth c H locs 0 0 Q (F0 m 75 ls [])) → ∀ (H : Heap) (locs : List Loc) (ls : Array Slot), Wd 1 D cy ad s u.2.2 H locs → lv_has ls 5 [(0, .ref (ad (25))), (1, .ref (ad (9))), (2, .int u.1), (3, .int u.2.1)] → W p l e R s m args below meth c H locs 0 0 Q (F0 m 75 ls []) := fun _ k => k
  unfold b_X2_splitByMoves_75 at h
  refine lv_iload_n C.1 C.2.1 dX2_splitByMoves_75 rfl (lv_at hl 3 rfl) ?_
  refine lv_aload_n C.1 C.2.1 dX2_splitByMoves_76 rfl (lv_at hl 1 rfl) ?_
  refine gf_X2_21 C hw dX2_splitByMoves_77 ?_
  refine lv_icmp_ge (tgt := 101) C.1 C.2.1 dX2_splitByMoves_80 (by decide) (fun cd => ?_) (fun cd => ?_)
  · have h := ite_t cd h
    obtain rfl := Option.some.inj h
    exact hE0 _ _ hx _ _ _ hw (lv_sub hl [2] rfl)
  · have h := ite_f cd h
    refine lv_aload_n C.1 C.2.1 dX2_splitByMoves_83 rfl (lv_at hl 0 rfl) ?_
    refine gf_X2_9 C hw dX2_splitByMoves_84 ?_
    refine lv_iload_n C.1 C.2.1 dX2_splitByMoves_87 rfl (lv_at hl 3 rfl) ?_
    refine lv_aload_n C.1 C.2.1 dX2_splitByMoves_88 rfl (lv_at hl 0 rfl) ?_
    refine gf_X2_15 C hw dX2_splitByMoves_89 ?_
    refine lv_iload_n C.1 C.2.1 dX2_splitByMoves_92 rfl (lv_at hl 3 rfl) ?_
    obtain ⟨hin, h⟩ := gd_of h
    refine m_iald C hw a1_27 hin dX2_splitByMoves_93 ?_
    obtain ⟨hin, h⟩ := gd_of h
    refine m_iast C hw a1_26 hin dX2_splitByMoves_94 (fun H locs hw => ?_)
    obtain ⟨σ9, eσ9, h⟩ := lt_of h
    rw [← eσ9] at hw
    obtain ⟨x10, ex10, h⟩ := lt_of h
    refine m_iinc (k := 3) (lv' := [(3, .int _), (0, .ref _), (1, .ref _), (2, .int _)]) C (1 : Int32) (by decide) dX2_splitByMoves_95 hl rfl ex10.symm (by decide) rfl (fun ls hl => ?_)
    refine lv_goto (tgt := 75) C.1 C.2.1 dX2_splitByMoves_98 (by decide) ?_
    obtain rfl := Option.some.inj h
    exact hP _ hx _ _ _ hw (lv_sub hl [1, 2, 3, 0] rfl)
set_option maxRecDepth 20000 in
theorem c_X2_splitByMoves {l : Launch} {D : va_G} {cy : Nat → ClassId} {ad : Nat → Nat} (hj : InjW 1 ad)   (σ : Mem) (r : (Int32 × Mem)) (h : f_X2_splitByMoves σ = some r) : CI 1 D cy ad l yX2_splitByMoves cX2_splitByMoves 5 (some .int) 3 [.ref (ad (25)), .ref (ad (9))] σ r.1 r.2 := by
  refine CI.mk (by decide) hj (Nat.le_of_ble_eq_true rfl) (fun p e R s m below meth c ls C hw hl => ?_)
  have hl : lv_has ls 5 [(0, .ref (ad (25))), (1, .ref (ad (9)))] := hl
  generalize ([.ref (ad (25)), .ref (ad (9))] : List Value).toArray = args at C ⊢
  have C : Cx 1 D cy ad p R s m args meth c cX2_splitByMoves 5 RX2 (some .int) 3 := C
  unfold f_X2_splitByMoves at h
  refine lv_iconst (v := (0 : Int32)) C.1 C.2.1 dX2_splitByMoves_0 (by decide) ?_
  refine lv_istore_n (lv' := [(2, .int _), (0, .ref _), (1, .ref _)]) C.1 C.2.1 dX2_splitByMoves_1 rfl hl (by decide) rfl (fun ls hl => ?_)
  refine lv_iconst (v := (0 : Int32)) C.1 C.2.1 dX2_splitByMoves_2 (by decide) ?_
  refine lv_istore_n (lv' := [(3, .int _), (2, .int _), (0, .ref _), (1, .ref _)]) C.1 C.2.1 dX2_splitByMoves_3 rfl hl (by decide) rfl (fun ls hl => ?_)
  obtain ⟨r8, hL, h⟩ := bS h
  refine w_X2_splitByMoves_4 C  hL (fun y0 y1 hr H locs ls hw hl => ?_) _ _ _ hw (lv_sub hl [2, 3, 1, 0] rfl)
  · subst hr
    try dsimp only at h
    try dsimp only at hw
    try dsimp only at hl
    refine lv_iconst (v := (0 : Int32)) C.1 C.2.1 dX2_splitByMoves_73 (by decide) ?_
    refine lv_istore_n (lv' := [(3, .int _), (0, .ref _), (1, .ref _), (2, .int _)]) C.1 C.2.1 dX2_splitByMoves_74 rfl hl (by decide) rfl (fun ls hl => ?_)
    obtain ⟨r11, hL, h⟩ := bS h
    refine w_X2_splitByMoves_75 C  hL (fun y0 y1 hr H locs ls hw hl => ?_) _ _ _ hw (lv_sub hl [1, 2, 3, 0] rfl)
    · subst hr
      try dsimp only at h
      try dsimp only at hw
      try dsimp only at hl
      refine lv_iload_n C.1 C.2.1 dX2_splitByMoves_101 rfl (lv_at hl 0 rfl) ?_
      exact m_iret C hw (ret_p h) dX2_splitByMoves_102
noncomputable def j_X2_countKinds_29 (a2 : Int32) (z1 : Int32) (z2 : Int32) (v3 : Int32) (σ : Mem) : Option ((Int32 × Mem) ⊕ Mem) :=
  gd (ix z1 128) (lt (sI σ 26 z1.toNatClampNeg z2) (fun σ2 => lt (v3 + (1 : Int32)) (fun x3 => some (.inl (x3, σ2)))))
noncomputable def b_X2_countKinds_2 (a2 : Int32) (v3 : Int32) (σ : Mem) : Option ((Int32 × Mem) ⊕ Mem) :=
  if (σ.1 9 17) ≤ v3 then (some (.inr σ)) else ((f_X4_isGoodHere v3 a2 σ).bind (fun r1 => if r1 = 0 then (j_X2_countKinds_29 a2 v3 (0 : Int32) v3 σ) else (j_X2_countKinds_29 a2 v3 (1 : Int32) v3 σ)))
noncomputable def b_X2_countKinds_41 (a2 : Int32) (v3 : Int32) (v4 : Int32) (σ : Mem) : Option ((Int32 × Int32 × Mem) ⊕ ((Int32 × Mem) ⊕ (Int32 × Mem))) :=
  if (120 : Int32) ≤ v4 then (some (.inr (.inr (v3, σ)))) else ((f_X2_splitByMoves σ).bind (fun r5 => lt r5.1 (fun x6 => if x6 = v3 then (some (.inr (.inl (x6, r5.2)))) else (lt (v4 + (1 : Int32)) (fun x7 => some (.inl (x6, x7, r5.2)))))))
noncomputable def f_X2_countKinds (a2 : Int32) (σ : Mem) : Option (Int32 × Mem) :=
  (Lim (T := Mem) (fun s => b_X2_countKinds_2 a2 s.1 s.2) ((0 : Int32), σ)).bind (fun r4 => (Lim (T := ((Int32 × Mem) ⊕ (Int32 × Mem))) (fun s => b_X2_countKinds_41 a2 s.1 s.2.1 s.2.2) ((0 : Int32), (0 : Int32), r4)).bind (fun r8 => (match r8 with | .inl r8_0 => (some (r8_0.1, r8_0.2)) | .inr r8_1 => (some (r8_1.1, r8_1.2)))))
set_option maxRecDepth 20000 in
theorem w_X2_countKinds_29 {D : va_G} {cy : Nat → ClassId} {ad : Nat → Nat} {p : Program} {l : Launch} {e : Env} {R : Room} {s : State} {m : MethodId} {args : Array Value} {below : List Frame} {meth : Method} {c : Code} (C : Cx 1 D cy ad p R s m args meth c cX2_countKinds 6 RX2 (some .int) 4) {a2 : Int32}  {z1 : Int32} {z2 : Int32} {v3 : Int32}  {σ : Mem} {H : Heap} {locs : List Loc} {ls : Array Slot} {Q : State → Prop} {P : (Int32 × Mem) → Prop} {r : Mem} {x : (Int32 × Mem) ⊕ Mem} (hx : LimQ P r x) (hP : ∀ u, P u → ∀ (H : Heap) (locs : List Loc) (ls : Array Slot), Wd 1 D cy ad s u.2 H locs → lv_has ls 6 [(0, .ref (ad (25))), (1, .ref (ad (9))), (2, .int a2), (3, .int u.1)] → W p l e R s m args below meth c H locs 0 0 Q (F0 m 2 ls [])) (hE0 : ∀ (σ1 : Mem), (σ1 : Mem) = r → ∀ (H : Heap) (locs : List Loc) (ls : Array Slot), Wd 1 D cy ad s σ1 H locs → lv_has ls 6 [(0, .ref (ad (25))), (1, .ref (ad (9)))] → W p l e R s m args below meth c H locs 0 0 Q (F0 m 36 ls [])) (hw : Wd 1 D cy ad s σ H locs) (hl : lv_has ls 6 [(0, .ref (ad (25))), (1, .ref (ad (9))), (2, .int a2), (3, .int v3)]) (h : j_X2_countKinds_29 a2 z1 z2 v3 σ = some x) : W p l e R s m args below meth c H locs 0 0 Q (F0 m 29 ls [.int z2, .int z1, .ref (ad (26))]) := by
  unfold j_X2_countKinds_29 at h
  obtain ⟨hin, h⟩ := gd_of h
  refine m_iast C hw a1_26 hin dX2_countKinds_29 (fun H locs hw => ?_)
  obtain ⟨σ2, eσ2, h⟩ := lt_of h
  rw [← eσ2] at hw
  obtain ⟨x3, ex3, h⟩ := lt_of h
  refine m_iinc (k := 3) (lv' := [(3, .int _), (0, .ref _), (1, .ref _), (2, .int _)]) C (1 : Int32) (by decide) dX2_countKinds_30 hl rfl ex3.symm (by decide) rfl (fun ls hl => ?_)
  refine lv_goto (tgt := 2) C.1 C.2.1 dX2_countKinds_33 (by decide) ?_
  obtain rfl := Option.some.inj h
  exact hP _ hx _ _ _ hw (lv_sub hl [1, 2, 3, 0] rfl)
set_option maxRecDepth 20000 in
theorem w_X2_countKinds_2 {D : va_G} {cy : Nat → ClassId} {ad : Nat → Nat} {p : Program} {l : Launch} {e : Env} {R : Room} {s : State} {m : MethodId} {args : Array Value} {below : List Frame} {meth : Method} {c : Code} (C : Cx 1 D cy ad p R s m args meth c cX2_countKinds 6 RX2 (some .int) 4) {a2 : Int32}  {v3 : Int32} {σ : Mem} {Q : State → Prop} {r : Mem} (hL : Lim (T := Mem) (fun s => b_X2_countKinds_2 a2 s.1 s.2) (v3, σ) = some r) (hE0 : ∀ (σ1 : Mem), (σ1 : Mem) = r → ∀ (H : Heap) (locs : List Loc) (ls : Array Slot), Wd 1 D cy ad s σ1 H locs → lv_has ls 6 [(0, .ref (ad (25))), (1, .ref (ad (9)))] → W p l e R s m args below meth c H locs 0 0 Q (F0 m 36 ls [])) (H : Heap) (locs : List Loc) (ls : Array Slot) (hw : Wd 1 D cy ad s σ H locs) (hl : lv_has ls 6 [(0, .ref (ad (25))), (1, .ref (ad (9))), (2, .int a2), (3, .int v3)]) : W p l e R s m args below meth c H locs 0 0 Q (F0 m 2 ls []) := by
  refine Lim_ind hL (P := fun u => ∀ (H : Heap) (locs : List Loc) (ls : Array Slot), Wd 1 D cy ad s u.2 H locs → lv_has ls 6 [(0, .ref (ad (25))), (1, .ref (ad (9))), (2, .int a2), (3, .int u.1)] → W p l e R s m args below meth c H locs 0 0 Q (F0 m 2 ls [])) (fun u x h hx H locs ls hw hl => ?_) H locs ls hw hl
  clear hL
  obtain ⟨v3, σ⟩ := u
  have h : b_X2_countKinds_2 a2 v3 σ = some x := h
  have hw : Wd 1 D cy ad s σ H locs := hw
  have hl : lv_has ls 6 [(0, .ref (ad (25))), (1, .ref (ad (9))), (2, .int a2), (3, .int v3)] := hl
  have hP : ∀ (u : (Int32 × Mem)), (∀ (H : Heap) (locs : List Loc) (ls : Array Slot), Wd 1 D cy ad s u.2 H locs → lv_has ls 6 [(0, .ref (ad (25))), (1, .ref (ad (9))), (2, .int a2), (3, .int u.1)] → W p l e R s m args below meth c H locs 0 0 Q (F0 m 2 ls [])) → ∀ (H : Heap) (locs : List Loc) (ls : Array Slot), Wd 1 D cy ad s u.2 H locs → lv_has ls 6 [(0, .ref (ad (25))), (1, .ref (ad (9))), (2, .int a2), (3, .int u.1)] → W p l e R s m args below meth c H locs 0 0 Q (F0 m 2 ls []) := fun _ k => k
  unfold b_X2_countKinds_2 at h
  refine lv_iload_n C.1 C.2.1 dX2_countKinds_2 rfl (lv_at hl 3 rfl) ?_
  refine lv_aload_n C.1 C.2.1 dX2_countKinds_3 rfl (lv_at hl 1 rfl) ?_
  refine gf_X2_21 C hw dX2_countKinds_4 ?_
  refine lv_icmp_ge (tgt := 36) C.1 C.2.1 dX2_countKinds_7 (by decide) (fun cd => ?_) (fun cd => ?_)
  · have h := ite_t cd h
    obtain rfl := Option.some.inj h
    exact hE0 _ hx _ _ _ hw (lv_sub hl [0, 1] rfl)
  · have h := ite_f cd h
    refine lv_aload_n C.1 C.2.1 dX2_countKinds_10 rfl (lv_at hl 0 rfl) ?_
    refine gf_X2_9 C hw dX2_countKinds_11 ?_
    refine lv_iload_n C.1 C.2.1 dX2_countKinds_14 rfl (lv_at hl 3 rfl) ?_
    refine lv_aload_n C.1 C.2.1 dX2_countKinds_15 rfl (lv_at hl 1 rfl) ?_
    refine lv_iload_n C.1 C.2.1 dX2_countKinds_16 rfl (lv_at hl 3 rfl) ?_
    refine lv_iload_n C.1 C.2.1 dX2_countKinds_17 rfl (lv_at hl 2 rfl) ?_
    obtain ⟨r1, h1, h⟩ := bS h
    refine go_I hw (run_V (As := [.int _, .int _]) C hw (c_X4_isGoodHere C.2.2.2.2.2.2.2.2.2 _ _ _ _ h1) mi_X4_isGoodHere mv_X4_isGoodHere o1_9 (ci := 4) rfl rfl lk_X2_25 (by decide) (by decide) rfl hl.1 rfl (Nat.le_of_ble_eq_true rfl) dX2_countKinds_18 ⟨Nat.le_refl 0, Nat.le_refl 0⟩) (fun H locs hw => ?_)
    refine lv_if_eq (tgt := 28) C.1 C.2.1 dX2_countKinds_21 (by decide) (fun cd => ?_) (fun cd => ?_)
    · have h := ite_t cd h
      refine lv_iconst (v := (0 : Int32)) C.1 C.2.1 dX2_countKinds_28 (by decide) ?_
      exact w_X2_countKinds_29 C hx hP hE0 hw (lv_sub hl [0, 1, 2, 3] rfl) h
    · have h := ite_f cd h
      refine lv_iconst (v := (1 : Int32)) C.1 C.2.1 dX2_countKinds_24 (by decide) ?_
      refine lv_goto (tgt := 29) C.1 C.2.1 dX2_countKinds_25 (by decide) ?_
      exact w_X2_countKinds_29 C hx hP hE0 hw (lv_sub hl [0, 1, 2, 3] rfl) h
set_option maxRecDepth 20000 in
theorem w_X2_countKinds_41 {D : va_G} {cy : Nat → ClassId} {ad : Nat → Nat} {p : Program} {l : Launch} {e : Env} {R : Room} {s : State} {m : MethodId} {args : Array Value} {below : List Frame} {meth : Method} {c : Code} (C : Cx 1 D cy ad p R s m args meth c cX2_countKinds 6 RX2 (some .int) 4) {a2 : Int32}  {v3 : Int32} {v4 : Int32} {σ : Mem} {Q : State → Prop} {r : ((Int32 × Mem) ⊕ (Int32 × Mem))} (hL : Lim (T := ((Int32 × Mem) ⊕ (Int32 × Mem))) (fun s => b_X2_countKinds_41 a2 s.1 s.2.1 s.2.2) (v3, v4, σ) = some r) (hE0 : ∀ (v5 : Int32) (σ1 : Mem), (.inl (v5, σ1) : ((Int32 × Mem) ⊕ (Int32 × Mem))) = r → ∀ (H : Heap) (locs : List Loc) (ls : Array Slot), Wd 1 D cy ad s σ1 H locs → lv_has ls 6 [(5, .int v5)] → W p l e R s m args below meth c H locs 0 0 Q (F0 m 61 ls [])) (hE1 : ∀ (v3 : Int32) (σ1 : Mem), (.inr (v3, σ1) : ((Int32 × Mem) ⊕ (Int32 × Mem))) = r → ∀ (H : Heap) (locs : List Loc) (ls : Array Slot), Wd 1 D cy ad s σ1 H locs → lv_has ls 6 [(3, .int v3)] → W p l e R s m args below meth c H locs 0 0 Q (F0 m 73 ls [])) (H : Heap) (locs : List Loc) (ls : Array Slot) (hw : Wd 1 D cy ad s σ H locs) (hl : lv_has ls 6 [(0, .ref (ad (25))), (1, .ref (ad (9))), (3, .int v3), (4, .int v4)]) : W p l e R s m args below meth c H locs 0 0 Q (F0 m 41 ls []) := by
  refine Lim_ind hL (P := fun u => ∀ (H : Heap) (locs : List Loc) (ls : Array Slot), Wd 1 D cy ad s u.2.2 H locs → lv_has ls 6 [(0, .ref (ad (25))), (1, .ref (ad (9))), (3, .int u.1), (4, .int u.2.1)] → W p l e R s m args below meth c H locs 0 0 Q (F0 m 41 ls [])) (fun u x h hx H locs ls hw hl => ?_) H locs ls hw hl
  clear hL
  obtain ⟨v3, v4, σ⟩ := u
  have h : b_X2_countKinds_41 a2 v3 v4 σ = some x := h
  have hw : Wd 1 D cy ad s σ H locs := hw
  have hl : lv_has ls 6 [(0, .ref (ad (25))), (1, .ref (ad (9))), (3, .int v3), (4, .int v4)] := hl
  have hP : ∀ (u : (Int32 × Int32 × Mem)), (∀ (H : Heap) (locs : List Loc) (ls : Array Slot), Wd 1 D cy ad s u.2.2 H locs → lv_has ls 6 [(0, .ref (ad (25))), (1, .ref (ad (9))), (3, .int u.1), (4, .int u.2.1)] → W p l e R s m args below meth c H locs 0 0 Q (F0 m 41 ls [])) → ∀ (H : Heap) (locs : List Loc) (ls : Array Slot), Wd 1 D cy ad s u.2.2 H locs → lv_has ls 6 [(0, .ref (ad (25))), (1, .ref (ad (9))), (3, .int u.1), (4, .int u.2.1)] → W p l e R s m args below meth c H locs 0 0 Q (F0 m 41 ls []) := fun _ k => k
  unfold b_X2_countKinds_41 at h
  refine lv_iload C.1 C.2.1 dX2_countKinds_41 (lv_at hl 3 rfl) ?_
  refine lv_bipush (v := (120 : Int32)) C.1 C.2.1 dX2_countKinds_43 (by decide) ?_
  refine lv_icmp_ge (tgt := 73) C.1 C.2.1 dX2_countKinds_45 (by decide) (fun cd => ?_) (fun cd => ?_)
  · have h := ite_t cd h
    obtain rfl := Option.some.inj h
    exact hE1 _ _ hx _ _ _ hw (lv_sub hl [2] rfl)
  · have h := ite_f cd h
    refine lv_aload_n C.1 C.2.1 dX2_countKinds_48 rfl (lv_at hl 0 rfl) ?_
    refine lv_aload_n C.1 C.2.1 dX2_countKinds_49 rfl (lv_at hl 1 rfl) ?_
    obtain ⟨r5, h1, h⟩ := bS h
    refine go_I hw (run_V (As := [.ref _]) C hw (c_X2_splitByMoves C.2.2.2.2.2.2.2.2.2 _ _ h1) mi_X2_splitByMoves mv_X2_splitByMoves o1_25 (ci := 2) rfl rfl lk_X2_29 (by decide) (by decide) rfl hl.1 rfl (Nat.le_of_ble_eq_true rfl) dX2_countKinds_50 ⟨Nat.le_refl 0, Nat.le_refl 0⟩) (fun H locs hw => ?_)
    obtain ⟨x6, ex6, h⟩ := lt_of h
    refine m_topi ex6 ?_
    refine lv_istore (lv' := [(5, .int _), (0, .ref _), (1, .ref _), (3, .int _), (4, .int _)]) C.1 C.2.1 dX2_countKinds_53 hl (by decide) rfl (fun ls hl => ?_)
    refine lv_iload C.1 C.2.1 dX2_countKinds_55 (lv_at hl 0 rfl) ?_
    refine lv_iload_n C.1 C.2.1 dX2_countKinds_57 rfl (lv_at hl 3 rfl) ?_
    refine lv_icmp_ne (tgt := 64) C.1 C.2.1 dX2_countKinds_58 (by decide) (fun cd => ?_) (fun cd => ?_)
    · have h := ite_f cd h
      refine lv_iload C.1 C.2.1 dX2_countKinds_64 (lv_at hl 0 rfl) ?_
      refine lv_istore_n (lv' := [(3, .int _), (5, .int _), (0, .ref _), (1, .ref _), (4, .int _)]) C.1 C.2.1 dX2_countKinds_66 rfl hl (by decide) rfl (fun ls hl => ?_)
      obtain ⟨x7, ex7, h⟩ := lt_of h
      refine m_iinc (k := 4) (lv' := [(4, .int _), (3, .int _), (5, .int _), (0, .ref _), (1, .ref _)]) C (1 : Int32) (by decide) dX2_countKinds_67 hl rfl ex7.symm (by decide) rfl (fun ls hl => ?_)
      refine lv_goto (tgt := 41) C.1 C.2.1 dX2_countKinds_70 (by decide) ?_
      obtain rfl := Option.some.inj h
      exact hP _ hx _ _ _ hw (lv_sub hl [3, 4, 1, 0] rfl)
    · have h := ite_t cd h
      obtain rfl := Option.some.inj h
      exact hE0 _ _ hx _ _ _ hw (lv_sub hl [0] rfl)
set_option maxRecDepth 20000 in
theorem c_X2_countKinds {l : Launch} {D : va_G} {cy : Nat → ClassId} {ad : Nat → Nat} (hj : InjW 1 ad) (a2 : Int32)  (σ : Mem) (r : (Int32 × Mem)) (h : f_X2_countKinds a2 σ = some r) : CI 1 D cy ad l yX2_countKinds cX2_countKinds 6 (some .int) 4 [.ref (ad (25)), .ref (ad (9)), .int a2] σ r.1 r.2 := by
  refine CI.mk (by decide) hj (Nat.le_of_ble_eq_true rfl) (fun p e R s m below meth c ls C hw hl => ?_)
  have hl : lv_has ls 6 [(0, .ref (ad (25))), (1, .ref (ad (9))), (2, .int a2)] := hl
  generalize ([.ref (ad (25)), .ref (ad (9)), .int a2] : List Value).toArray = args at C ⊢
  have C : Cx 1 D cy ad p R s m args meth c cX2_countKinds 6 RX2 (some .int) 4 := C
  unfold f_X2_countKinds at h
  refine lv_iconst (v := (0 : Int32)) C.1 C.2.1 dX2_countKinds_0 (by decide) ?_
  refine lv_istore_n (lv' := [(3, .int _), (0, .ref _), (1, .ref _), (2, .int _)]) C.1 C.2.1 dX2_countKinds_1 rfl hl (by decide) rfl (fun ls hl => ?_)
  obtain ⟨r4, hL, h⟩ := bS h
  refine w_X2_countKinds_2 C  hL (fun y0 hr H locs ls hw hl => ?_) _ _ _ hw (lv_sub hl [1, 2, 3, 0] rfl)
  · subst hr
    try dsimp only at h
    try dsimp only at hw
    try dsimp only at hl
    refine lv_iconst (v := (0 : Int32)) C.1 C.2.1 dX2_countKinds_36 (by decide) ?_
    refine lv_istore_n (lv' := [(3, .int _), (0, .ref _), (1, .ref _)]) C.1 C.2.1 dX2_countKinds_37 rfl hl (by decide) rfl (fun ls hl => ?_)
    refine lv_iconst (v := (0 : Int32)) C.1 C.2.1 dX2_countKinds_38 (by decide) ?_
    refine lv_istore (lv' := [(4, .int _), (3, .int _), (0, .ref _), (1, .ref _)]) C.1 C.2.1 dX2_countKinds_39 hl (by decide) rfl (fun ls hl => ?_)
    obtain ⟨r8, hL, h⟩ := bS h
    refine w_X2_countKinds_41 C  hL (fun y0 y1 hr H locs ls hw hl => ?_) (fun y0 y1 hr H locs ls hw hl => ?_) _ _ _ hw (lv_sub hl [2, 3, 1, 0] rfl)
    · subst hr
      try dsimp only at h
      try dsimp only at hw
      try dsimp only at hl
      refine lv_iload C.1 C.2.1 dX2_countKinds_61 (lv_at hl 0 rfl) ?_
      exact m_iret C hw (ret_p h) dX2_countKinds_63
    · subst hr
      try dsimp only at h
      try dsimp only at hw
      try dsimp only at hl
      refine lv_iload_n C.1 C.2.1 dX2_countKinds_73 rfl (lv_at hl 0 rfl) ?_
      exact m_iret C hw (ret_p h) dX2_countKinds_74
def f_X3_has (t0 : Nat) (a1 : Int32) (σ : Mem) : Int32 :=
  if a1 < 0 then ((0 : Int32)) else (if (σ.1 t0 4) ≤ a1 then ((0 : Int32)) else (if (16 : Int32) ≤ a1 then ((0 : Int32)) else ((1 : Int32))))
set_option maxRecDepth 20000 in
theorem c_X3_has {l : Launch} {D : va_G} {cy : Nat → ClassId} {ad : Nat → Nat} (hj : InjW 1 ad) (t0 : Nat) (a1 : Int32) (ht0 : IsO 1 t0 3) (σ : Mem) : CI 1 D cy ad l yX3_has cX3_has 2 (some .boolean) 0 [.ref (ad (t0)), .int a1] σ (f_X3_has t0 a1 σ) σ := by
  refine CI.mk (by decide) hj (Nat.le_of_ble_eq_true rfl) (fun p e R s m below meth c ls C hw hl => ?_)
  have hl : lv_has ls 2 [(0, .ref (ad (t0))), (1, .int a1)] := hl
  generalize ([.ref (ad (t0)), .int a1] : List Value).toArray = args at C ⊢
  have C : Cx 1 D cy ad p R s m args meth c cX3_has 2 RX3 (some .boolean) 0 := C
  obtain ⟨r, h⟩ : ∃ r, f_X3_has t0 a1 σ = r := ⟨_, rfl⟩
  rw [h]
  unfold f_X3_has at h
  refine lv_iload_n C.1 C.2.1 dX3_has_0 rfl (lv_at hl 1 rfl) ?_
  refine lv_if_lt (tgt := 22) C.1 C.2.1 dX3_has_1 (by decide) (fun cd => ?_) (fun cd => ?_)
  · have h := ite_t cd h
    refine lv_iconst (v := (0 : Int32)) C.1 C.2.1 dX3_has_22 (by decide) ?_
    exact m_zret C hw (by decide) ⟨h, rfl⟩ dX3_has_23
  · have h := ite_f cd h
    refine lv_iload_n C.1 C.2.1 dX3_has_4 rfl (lv_at hl 1 rfl) ?_
    refine lv_aload_n C.1 C.2.1 dX3_has_5 rfl (lv_at hl 0 rfl) ?_
    refine gf_X3_24 C hw ht0 dX3_has_6 ?_
    refine lv_icmp_ge (tgt := 22) C.1 C.2.1 dX3_has_9 (by decide) (fun cd => ?_) (fun cd => ?_)
    · have h := ite_t cd h
      refine lv_iconst (v := (0 : Int32)) C.1 C.2.1 dX3_has_22 (by decide) ?_
      exact m_zret C hw (by decide) ⟨h, rfl⟩ dX3_has_23
    · have h := ite_f cd h
      refine lv_iload_n C.1 C.2.1 dX3_has_12 rfl (lv_at hl 1 rfl) ?_
      refine lv_bipush (v := (16 : Int32)) C.1 C.2.1 dX3_has_13 (by decide) ?_
      refine lv_icmp_ge (tgt := 22) C.1 C.2.1 dX3_has_15 (by decide) (fun cd => ?_) (fun cd => ?_)
      · have h := ite_t cd h
        refine lv_iconst (v := (0 : Int32)) C.1 C.2.1 dX3_has_22 (by decide) ?_
        exact m_zret C hw (by decide) ⟨h, rfl⟩ dX3_has_23
      · have h := ite_f cd h
        refine lv_iconst (v := (1 : Int32)) C.1 C.2.1 dX3_has_18 (by decide) ?_
        refine lv_goto (tgt := 23) C.1 C.2.1 dX3_has_19 (by decide) ?_
        exact m_zret C hw (by decide) ⟨h, rfl⟩ dX3_has_23
def f_X3_allOn (t0 : Nat) (σ : Mem) : Int32 :=
  ((1 : Int32) <<< ((σ.1 t0 4) &&& 31)) - (1 : Int32)
set_option maxRecDepth 20000 in
theorem c_X3_allOn {l : Launch} {D : va_G} {cy : Nat → ClassId} {ad : Nat → Nat} (hj : InjW 1 ad) (t0 : Nat) (ht0 : IsO 1 t0 3) (σ : Mem) : CI 1 D cy ad l yX3_allOn cX3_allOn 1 (some .int) 0 [.ref (ad (t0))] σ (f_X3_allOn t0 σ) σ := by
  refine CI.mk (by decide) hj (Nat.le_of_ble_eq_true rfl) (fun p e R s m below meth c ls C hw hl => ?_)
  have hl : lv_has ls 1 [(0, .ref (ad (t0)))] := hl
  generalize ([.ref (ad (t0))] : List Value).toArray = args at C ⊢
  have C : Cx 1 D cy ad p R s m args meth c cX3_allOn 1 RX3 (some .int) 0 := C
  obtain ⟨r, h⟩ : ∃ r, f_X3_allOn t0 σ = r := ⟨_, rfl⟩
  rw [h]
  unfold f_X3_allOn at h
  refine lv_iconst (v := (1 : Int32)) C.1 C.2.1 dX3_allOn_0 (by decide) ?_
  refine lv_aload_n C.1 C.2.1 dX3_allOn_1 rfl (lv_at hl 0 rfl) ?_
  refine gf_X3_24 C hw ht0 dX3_allOn_2 ?_
  refine lv_ishl C.1 C.2.1 dX3_allOn_5 ?_
  refine lv_iconst (v := (1 : Int32)) C.1 C.2.1 dX3_allOn_6 (by decide) ?_
  refine lv_isub C.1 C.2.1 dX3_allOn_7 ?_
  exact m_iret C hw ⟨h, rfl⟩ dX3_allOn_8
noncomputable def f_X6_byteAt (a1 : Int32) (σ : Mem) : Option Int32 :=
  if a1 < 0 then (some (-1 : Int32)) else (if (σ.1 1 1) ≤ a1 then (some (-1 : Int32)) else (if (300 : Int32) ≤ a1 then (some (-1 : Int32)) else (gd (ix a1 300) (some (σ.1 2 a1.toNatClampNeg)))))
set_option maxRecDepth 20000 in
theorem c_X6_byteAt {l : Launch} {D : va_G} {cy : Nat → ClassId} {ad : Nat → Nat} (hj : InjW 1 ad) (a1 : Int32)  (σ : Mem) (r : Int32) (h : f_X6_byteAt a1 σ = some r) : CI 1 D cy ad l yX6_byteAt cX6_byteAt 2 (some .int) 0 [.ref (ad (1)), .int a1] σ r σ := by
  refine CI.mk (by decide) hj (Nat.le_of_ble_eq_true rfl) (fun p e R s m below meth c ls C hw hl => ?_)
  have hl : lv_has ls 2 [(0, .ref (ad (1))), (1, .int a1)] := hl
  generalize ([.ref (ad (1)), .int a1] : List Value).toArray = args at C ⊢
  have C : Cx 1 D cy ad p R s m args meth c cX6_byteAt 2 RX6 (some .int) 0 := C
  unfold f_X6_byteAt at h
  refine lv_iload_n C.1 C.2.1 dX6_byteAt_0 rfl (lv_at hl 1 rfl) ?_
  refine lv_if_lt (tgt := 28) C.1 C.2.1 dX6_byteAt_1 (by decide) (fun cd => ?_) (fun cd => ?_)
  · have h := ite_t cd h
    refine lv_iconst (v := (-1 : Int32)) C.1 C.2.1 dX6_byteAt_28 (by decide) ?_
    exact m_iret C hw (ret_i h) dX6_byteAt_29
  · have h := ite_f cd h
    refine lv_iload_n C.1 C.2.1 dX6_byteAt_4 rfl (lv_at hl 1 rfl) ?_
    refine lv_aload_n C.1 C.2.1 dX6_byteAt_5 rfl (lv_at hl 0 rfl) ?_
    refine gf_X6_15 C hw dX6_byteAt_6 ?_
    refine lv_icmp_ge (tgt := 28) C.1 C.2.1 dX6_byteAt_9 (by decide) (fun cd => ?_) (fun cd => ?_)
    · have h := ite_t cd h
      refine lv_iconst (v := (-1 : Int32)) C.1 C.2.1 dX6_byteAt_28 (by decide) ?_
      exact m_iret C hw (ret_i h) dX6_byteAt_29
    · have h := ite_f cd h
      refine lv_iload_n C.1 C.2.1 dX6_byteAt_12 rfl (lv_at hl 1 rfl) ?_
      refine lv_sipush (v := (300 : Int32)) C.1 C.2.1 dX6_byteAt_13 (by decide) ?_
      refine lv_icmp_ge (tgt := 28) C.1 C.2.1 dX6_byteAt_16 (by decide) (fun cd => ?_) (fun cd => ?_)
      · have h := ite_t cd h
        refine lv_iconst (v := (-1 : Int32)) C.1 C.2.1 dX6_byteAt_28 (by decide) ?_
        exact m_iret C hw (ret_i h) dX6_byteAt_29
      · have h := ite_f cd h
        refine lv_aload_n C.1 C.2.1 dX6_byteAt_19 rfl (lv_at hl 0 rfl) ?_
        refine gf_X6_9 C hw dX6_byteAt_20 ?_
        refine lv_iload_n C.1 C.2.1 dX6_byteAt_23 rfl (lv_at hl 1 rfl) ?_
        obtain ⟨hin, h⟩ := gd_of h
        refine m_iald C hw a1_2 hin dX6_byteAt_24 ?_
        refine lv_goto (tgt := 29) C.1 C.2.1 dX6_byteAt_25 (by decide) ?_
        exact m_iret C hw (ret_i h) dX6_byteAt_29
def f_X6_isLetter (a0 : Int32) : Int32 :=
  if a0 < (97 : Int32) then ((0 : Int32)) else (if (122 : Int32) < a0 then ((0 : Int32)) else ((1 : Int32)))
set_option maxRecDepth 20000 in
theorem c_X6_isLetter {l : Launch} {D : va_G} {cy : Nat → ClassId} {ad : Nat → Nat} (hj : InjW 1 ad) (a0 : Int32)  (σ : Mem) : CI 1 D cy ad l yX6_isLetter cX6_isLetter 1 (some .boolean) 0 [.int a0] σ (f_X6_isLetter a0) σ := by
  refine CI.mk (by decide) hj (Nat.le_of_ble_eq_true rfl) (fun p e R s m below meth c ls C hw hl => ?_)
  have hl : lv_has ls 1 [(0, .int a0)] := hl
  generalize ([.int a0] : List Value).toArray = args at C ⊢
  have C : Cx 1 D cy ad p R s m args meth c cX6_isLetter 1 RX6 (some .boolean) 0 := C
  obtain ⟨r, h⟩ : ∃ r, f_X6_isLetter a0 = r := ⟨_, rfl⟩
  rw [h]
  unfold f_X6_isLetter at h
  refine lv_iload_n C.1 C.2.1 dX6_isLetter_0 rfl (lv_at hl 0 rfl) ?_
  refine lv_bipush (v := (97 : Int32)) C.1 C.2.1 dX6_isLetter_1 (by decide) ?_
  refine lv_icmp_lt (tgt := 16) C.1 C.2.1 dX6_isLetter_3 (by decide) (fun cd => ?_) (fun cd => ?_)
  · have h := ite_t cd h
    refine lv_iconst (v := (0 : Int32)) C.1 C.2.1 dX6_isLetter_16 (by decide) ?_
    exact m_zret C hw (by decide) ⟨h, rfl⟩ dX6_isLetter_17
  · have h := ite_f cd h
    refine lv_iload_n C.1 C.2.1 dX6_isLetter_6 rfl (lv_at hl 0 rfl) ?_
    refine lv_bipush (v := (122 : Int32)) C.1 C.2.1 dX6_isLetter_7 (by decide) ?_
    refine lv_icmp_gt (tgt := 16) C.1 C.2.1 dX6_isLetter_9 (by decide) (fun cd => ?_) (fun cd => ?_)
    · have h := ite_t cd h
      refine lv_iconst (v := (0 : Int32)) C.1 C.2.1 dX6_isLetter_16 (by decide) ?_
      exact m_zret C hw (by decide) ⟨h, rfl⟩ dX6_isLetter_17
    · have h := ite_f cd h
      refine lv_iconst (v := (1 : Int32)) C.1 C.2.1 dX6_isLetter_12 (by decide) ?_
      refine lv_goto (tgt := 17) C.1 C.2.1 dX6_isLetter_13 (by decide) ?_
      exact m_zret C hw (by decide) ⟨h, rfl⟩ dX6_isLetter_17
noncomputable def f_X6_isGoodWord  (σ : Mem) : Option Int32 :=
  if ((σ.1 1 5) - (σ.1 1 2)) = (4 : Int32) then ((f_X6_byteAt (σ.1 1 2) σ).bind (fun r1 => if r1 = (103 : Int32) then ((f_X6_byteAt ((σ.1 1 2) + (1 : Int32)) σ).bind (fun r2 => if r2 = (111 : Int32) then ((f_X6_byteAt ((σ.1 1 2) + (2 : Int32)) σ).bind (fun r3 => if r3 = (111 : Int32) then ((f_X6_byteAt ((σ.1 1 2) + (3 : Int32)) σ).bind (fun r4 => if r4 = (100 : Int32) then (some (1 : Int32)) else (some (0 : Int32)))) else (some (0 : Int32)))) else (some (0 : Int32)))) else (some (0 : Int32)))) else (some (0 : Int32))
set_option maxRecDepth 20000 in
theorem c_X6_isGoodWord {l : Launch} {D : va_G} {cy : Nat → ClassId} {ad : Nat → Nat} (hj : InjW 1 ad)   (σ : Mem) (r : Int32) (h : f_X6_isGoodWord σ = some r) : CI 1 D cy ad l yX6_isGoodWord cX6_isGoodWord 1 (some .boolean) 1 [.ref (ad (1))] σ r σ := by
  refine CI.mk (by decide) hj (Nat.le_of_ble_eq_true rfl) (fun p e R s m below meth c ls C hw hl => ?_)
  have hl : lv_has ls 1 [(0, .ref (ad (1)))] := hl
  generalize ([.ref (ad (1))] : List Value).toArray = args at C ⊢
  have C : Cx 1 D cy ad p R s m args meth c cX6_isGoodWord 1 RX6 (some .boolean) 1 := C
  unfold f_X6_isGoodWord at h
  refine lv_aload_n C.1 C.2.1 dX6_isGoodWord_0 rfl (lv_at hl 0 rfl) ?_
  refine gf_X6_19 C hw dX6_isGoodWord_1 ?_
  refine lv_aload_n C.1 C.2.1 dX6_isGoodWord_4 rfl (lv_at hl 0 rfl) ?_
  refine gf_X6_29 C hw dX6_isGoodWord_5 ?_
  refine lv_isub C.1 C.2.1 dX6_isGoodWord_8 ?_
  refine lv_iconst (v := (4 : Int32)) C.1 C.2.1 dX6_isGoodWord_9 (by decide) ?_
  refine lv_icmp_ne (tgt := 75) C.1 C.2.1 dX6_isGoodWord_10 (by decide) (fun cd => ?_) (fun cd => ?_)
  · have h := ite_f cd h
    refine lv_iconst (v := (0 : Int32)) C.1 C.2.1 dX6_isGoodWord_75 (by decide) ?_
    exact m_zret C hw (by decide) (ret_i h) dX6_isGoodWord_76
  · have h := ite_t cd h
    refine lv_aload_n C.1 C.2.1 dX6_isGoodWord_13 rfl (lv_at hl 0 rfl) ?_
    refine lv_aload_n C.1 C.2.1 dX6_isGoodWord_14 rfl (lv_at hl 0 rfl) ?_
    refine gf_X6_29 C hw dX6_isGoodWord_15 ?_
    obtain ⟨r1, h1, h⟩ := bS h
    refine go_I hw (run_V (As := [.int _]) C hw (c_X6_byteAt C.2.2.2.2.2.2.2.2.2 _ _ _ h1) mi_X6_byteAt mv_X6_byteAt o1_1 (ci := 6) rfl rfl lk_X6_25 (by decide) (by decide) rfl hl.1 rfl (Nat.le_of_ble_eq_true rfl) dX6_isGoodWord_18 ⟨Nat.le_refl 0, Nat.le_refl 0⟩) (fun H locs hw => ?_)
    refine lv_bipush (v := (103 : Int32)) C.1 C.2.1 dX6_isGoodWord_21 (by decide) ?_
    refine lv_icmp_ne (tgt := 75) C.1 C.2.1 dX6_isGoodWord_23 (by decide) (fun cd => ?_) (fun cd => ?_)
    · have h := ite_f cd h
      refine lv_iconst (v := (0 : Int32)) C.1 C.2.1 dX6_isGoodWord_75 (by decide) ?_
      exact m_zret C hw (by decide) (ret_i h) dX6_isGoodWord_76
    · have h := ite_t cd h
      refine lv_aload_n C.1 C.2.1 dX6_isGoodWord_26 rfl (lv_at hl 0 rfl) ?_
      refine lv_aload_n C.1 C.2.1 dX6_isGoodWord_27 rfl (lv_at hl 0 rfl) ?_
      refine gf_X6_29 C hw dX6_isGoodWord_28 ?_
      refine lv_iconst (v := (1 : Int32)) C.1 C.2.1 dX6_isGoodWord_31 (by decide) ?_
      refine lv_iadd C.1 C.2.1 dX6_isGoodWord_32 ?_
      obtain ⟨r2, h1, h⟩ := bS h
      refine go_I hw (run_V (As := [.int _]) C hw (c_X6_byteAt C.2.2.2.2.2.2.2.2.2 _ _ _ h1) mi_X6_byteAt mv_X6_byteAt o1_1 (ci := 6) rfl rfl lk_X6_25 (by decide) (by decide) rfl hl.1 rfl (Nat.le_of_ble_eq_true rfl) dX6_isGoodWord_33 ⟨Nat.le_refl 0, Nat.le_refl 0⟩) (fun H locs hw => ?_)
      refine lv_bipush (v := (111 : Int32)) C.1 C.2.1 dX6_isGoodWord_36 (by decide) ?_
      refine lv_icmp_ne (tgt := 75) C.1 C.2.1 dX6_isGoodWord_38 (by decide) (fun cd => ?_) (fun cd => ?_)
      · have h := ite_f cd h
        refine lv_iconst (v := (0 : Int32)) C.1 C.2.1 dX6_isGoodWord_75 (by decide) ?_
        exact m_zret C hw (by decide) (ret_i h) dX6_isGoodWord_76
      · have h := ite_t cd h
        refine lv_aload_n C.1 C.2.1 dX6_isGoodWord_41 rfl (lv_at hl 0 rfl) ?_
        refine lv_aload_n C.1 C.2.1 dX6_isGoodWord_42 rfl (lv_at hl 0 rfl) ?_
        refine gf_X6_29 C hw dX6_isGoodWord_43 ?_
        refine lv_iconst (v := (2 : Int32)) C.1 C.2.1 dX6_isGoodWord_46 (by decide) ?_
        refine lv_iadd C.1 C.2.1 dX6_isGoodWord_47 ?_
        obtain ⟨r3, h1, h⟩ := bS h
        refine go_I hw (run_V (As := [.int _]) C hw (c_X6_byteAt C.2.2.2.2.2.2.2.2.2 _ _ _ h1) mi_X6_byteAt mv_X6_byteAt o1_1 (ci := 6) rfl rfl lk_X6_25 (by decide) (by decide) rfl hl.1 rfl (Nat.le_of_ble_eq_true rfl) dX6_isGoodWord_48 ⟨Nat.le_refl 0, Nat.le_refl 0⟩) (fun H locs hw => ?_)
        refine lv_bipush (v := (111 : Int32)) C.1 C.2.1 dX6_isGoodWord_51 (by decide) ?_
        refine lv_icmp_ne (tgt := 75) C.1 C.2.1 dX6_isGoodWord_53 (by decide) (fun cd => ?_) (fun cd => ?_)
        · have h := ite_f cd h
          refine lv_iconst (v := (0 : Int32)) C.1 C.2.1 dX6_isGoodWord_75 (by decide) ?_
          exact m_zret C hw (by decide) (ret_i h) dX6_isGoodWord_76
        · have h := ite_t cd h
          refine lv_aload_n C.1 C.2.1 dX6_isGoodWord_56 rfl (lv_at hl 0 rfl) ?_
          refine lv_aload_n C.1 C.2.1 dX6_isGoodWord_57 rfl (lv_at hl 0 rfl) ?_
          refine gf_X6_29 C hw dX6_isGoodWord_58 ?_
          refine lv_iconst (v := (3 : Int32)) C.1 C.2.1 dX6_isGoodWord_61 (by decide) ?_
          refine lv_iadd C.1 C.2.1 dX6_isGoodWord_62 ?_
          obtain ⟨r4, h1, h⟩ := bS h
          refine go_I hw (run_V (As := [.int _]) C hw (c_X6_byteAt C.2.2.2.2.2.2.2.2.2 _ _ _ h1) mi_X6_byteAt mv_X6_byteAt o1_1 (ci := 6) rfl rfl lk_X6_25 (by decide) (by decide) rfl hl.1 rfl (Nat.le_of_ble_eq_true rfl) dX6_isGoodWord_63 ⟨Nat.le_refl 0, Nat.le_refl 0⟩) (fun H locs hw => ?_)
          refine lv_bipush (v := (100 : Int32)) C.1 C.2.1 dX6_isGoodWord_66 (by decide) ?_
          refine lv_icmp_ne (tgt := 75) C.1 C.2.1 dX6_isGoodWord_68 (by decide) (fun cd => ?_) (fun cd => ?_)
          · have h := ite_f cd h
            refine lv_iconst (v := (0 : Int32)) C.1 C.2.1 dX6_isGoodWord_75 (by decide) ?_
            exact m_zret C hw (by decide) (ret_i h) dX6_isGoodWord_76
          · have h := ite_t cd h
            refine lv_iconst (v := (1 : Int32)) C.1 C.2.1 dX6_isGoodWord_71 (by decide) ?_
            refine lv_goto (tgt := 76) C.1 C.2.1 dX6_isGoodWord_72 (by decide) ?_
            exact m_zret C hw (by decide) (ret_i h) dX6_isGoodWord_76
noncomputable def b_X6_readWord_2  (v1 : Int32) (σ : Mem) : Option ((Int32 × Mem) ⊕ Mem) :=
  if (300 : Int32) ≤ v1 then (some (.inr σ)) else ((f_X6_byteAt (σ.1 1 5) σ).bind (fun r1 => if (f_X6_isLetter r1) = 0 then (some (.inr σ)) else (lt (sI σ 1 5 ((σ.1 1 5) + (1 : Int32))) (fun σ2 => lt (v1 + (1 : Int32)) (fun x3 => some (.inl (x3, σ2)))))))
noncomputable def j_X6_readWord_96  (z1 : Int32) (σ : Mem) : Option Mem :=
  lt (sI σ 1 3 z1) (fun σ8 => some σ8)
noncomputable def j_X6_readWord_83  (σ : Mem) : Option Mem :=
  (f_X6_isGoodWord σ).bind (fun r7 => if r7 = 0 then (j_X6_readWord_96 (5 : Int32) σ) else (j_X6_readWord_96 (2 : Int32) σ))
noncomputable def j_X6_readWord_39  (σ : Mem) : Option Mem :=
  (f_X6_byteAt (σ.1 1 2) σ).bind (fun r5 => lt (r5 - (97 : Int32)) (fun x6 => if ((σ.1 1 5) - (σ.1 1 2)) = (1 : Int32) then (if (8 : Int32) ≤ x6 then (j_X6_readWord_83 σ) else (lt (sI σ 1 3 (1 : Int32)) (fun σ9 => lt (sI σ9 1 4 x6) (fun σ10 => some σ10)))) else (j_X6_readWord_83 σ)))
noncomputable def f_X6_readWord  (σ : Mem) : Option Mem :=
  (Lim (T := Mem) (fun s => b_X6_readWord_2 s.1 s.2) ((0 : Int32), σ)).bind (fun r4 => j_X6_readWord_39 r4)
set_option maxRecDepth 20000 in
theorem w_X6_readWord_2 {D : va_G} {cy : Nat → ClassId} {ad : Nat → Nat} {p : Program} {l : Launch} {e : Env} {R : Room} {s : State} {m : MethodId} {args : Array Value} {below : List Frame} {meth : Method} {c : Code} (C : Cx 1 D cy ad p R s m args meth c cX6_readWord 2 RX6 none 2)   {v1 : Int32} {σ : Mem} {Q : State → Prop} {r : Mem} (hL : Lim (T := Mem) (fun s => b_X6_readWord_2 s.1 s.2) (v1, σ) = some r) (hE0 : ∀ (σ1 : Mem), (σ1 : Mem) = r → ∀ (H : Heap) (locs : List Loc) (ls : Array Slot), Wd 1 D cy ad s σ1 H locs → lv_has ls 2 [(0, .ref (ad (1)))] → W p l e R s m args below meth c H locs 0 0 Q (F0 m 39 ls [])) (H : Heap) (locs : List Loc) (ls : Array Slot) (hw : Wd 1 D cy ad s σ H locs) (hl : lv_has ls 2 [(0, .ref (ad (1))), (1, .int v1)]) : W p l e R s m args below meth c H locs 0 0 Q (F0 m 2 ls []) := by
  refine Lim_ind hL (P := fun u => ∀ (H : Heap) (locs : List Loc) (ls : Array Slot), Wd 1 D cy ad s u.2 H locs → lv_has ls 2 [(0, .ref (ad (1))), (1, .int u.1)] → W p l e R s m args below meth c H locs 0 0 Q (F0 m 2 ls [])) (fun u x h hx H locs ls hw hl => ?_) H locs ls hw hl
  clear hL
  obtain ⟨v1, σ⟩ := u
  have h : b_X6_readWord_2 v1 σ = some x := h
  have hw : Wd 1 D cy ad s σ H locs := hw
  have hl : lv_has ls 2 [(0, .ref (ad (1))), (1, .int v1)] := hl
  have hP : ∀ (u : (Int32 × Mem)), (∀ (H : Heap) (locs : List Loc) (ls : Array Slot), Wd 1 D cy ad s u.2 H locs → lv_has ls 2 [(0, .ref (ad (1))), (1, .int u.1)] → W p l e R s m args below meth c H locs 0 0 Q (F0 m 2 ls [])) → ∀ (H : Heap) (locs : List Loc) (ls : Array Slot), Wd 1 D cy ad s u.2 H locs → lv_has ls 2 [(0, .ref (ad (1))), (1, .int u.1)] → W p l e R s m args below meth c H locs 0 0 Q (F0 m 2 ls []) := fun _ k => k
  unfold b_X6_readWord_2 at h
  refine lv_iload_n C.1 C.2.1 dX6_readWord_2 rfl (lv_at hl 1 rfl) ?_
  refine lv_sipush (v := (300 : Int32)) C.1 C.2.1 dX6_readWord_3 (by decide) ?_
  refine lv_icmp_ge (tgt := 39) C.1 C.2.1 dX6_readWord_6 (by decide) (fun cd => ?_) (fun cd => ?_)
  · have h := ite_t cd h
    obtain rfl := Option.some.inj h
    exact hE0 _ hx _ _ _ hw (lv_sub hl [0] rfl)
  · have h := ite_f cd h
    refine lv_aload_n C.1 C.2.1 dX6_readWord_9 rfl (lv_at hl 0 rfl) ?_
    refine lv_aload_n C.1 C.2.1 dX6_readWord_10 rfl (lv_at hl 0 rfl) ?_
    refine gf_X6_19 C hw dX6_readWord_11 ?_
    obtain ⟨r1, h1, h⟩ := bS h
    refine go_I hw (run_V (As := [.int _]) C hw (c_X6_byteAt C.2.2.2.2.2.2.2.2.2 _ _ _ h1) mi_X6_byteAt mv_X6_byteAt o1_1 (ci := 6) rfl rfl lk_X6_25 (by decide) (by decide) rfl hl.1 rfl (Nat.le_of_ble_eq_true rfl) dX6_readWord_14 ⟨Nat.le_refl 0, Nat.le_refl 0⟩) (fun H locs hw => ?_)
    refine go_I hw (run_S (As := [.int _]) C hw (c_X6_isLetter C.2.2.2.2.2.2.2.2.2 _ _) mi_X6_isLetter ms_X6_isLetter lk_X6_38 (by decide) (by decide) rfl hl.1 rfl (Nat.le_of_ble_eq_true rfl) dX6_readWord_17 ⟨Nat.le_refl 0, Nat.le_refl 0⟩) (fun H locs hw => ?_)
    refine lv_if_eq (tgt := 39) C.1 C.2.1 dX6_readWord_20 (by decide) (fun cd => ?_) (fun cd => ?_)
    · have h := ite_t cd h
      obtain rfl := Option.some.inj h
      exact hE0 _ hx _ _ _ hw (lv_sub hl [0] rfl)
    · have h := ite_f cd h
      refine lv_aload_n C.1 C.2.1 dX6_readWord_23 rfl (lv_at hl 0 rfl) ?_
      refine lv_dup C.1 C.2.1 dX6_readWord_24 rfl ?_
      refine gf_X6_19 C hw dX6_readWord_25 ?_
      refine lv_iconst (v := (1 : Int32)) C.1 C.2.1 dX6_readWord_28 (by decide) ?_
      refine lv_iadd C.1 C.2.1 dX6_readWord_29 ?_
      refine pf_X6_19 C hw dX6_readWord_30 (fun H locs hw => ?_)
      obtain ⟨σ2, eσ2, h⟩ := lt_of h
      rw [← eσ2] at hw
      obtain ⟨x3, ex3, h⟩ := lt_of h
      refine m_iinc (k := 1) (lv' := [(1, .int _), (0, .ref _)]) C (1 : Int32) (by decide) dX6_readWord_33 hl rfl ex3.symm (by decide) rfl (fun ls hl => ?_)
      refine lv_goto (tgt := 2) C.1 C.2.1 dX6_readWord_36 (by decide) ?_
      obtain rfl := Option.some.inj h
      exact hP _ hx _ _ _ hw (lv_sub hl [1, 0] rfl)
set_option maxRecDepth 20000 in
theorem w_X6_readWord_96 {D : va_G} {cy : Nat → ClassId} {ad : Nat → Nat} {p : Program} {l : Launch} {e : Env} {R : Room} {s : State} {m : MethodId} {args : Array Value} {below : List Frame} {meth : Method} {c : Code} (C : Cx 1 D cy ad p R s m args meth c cX6_readWord 2 RX6 none 2)   {z1 : Int32}  {σ : Mem} {H : Heap} {locs : List Loc} {ls : Array Slot} {r : Mem} (hw : Wd 1 D cy ad s σ H locs) (hl : lv_has ls 2 []) (h : j_X6_readWord_96 z1 σ = some r) : W p l e R s m args below meth c H locs 0 0 (QV 1 D cy ad below args s r) (F0 m 96 ls [.int z1, .ref (ad (1))]) := by
  unfold j_X6_readWord_96 at h
  refine pf_X6_35 C hw dX6_readWord_96 (fun H locs hw => ?_)
  obtain ⟨σ8, eσ8, h⟩ := lt_of h
  rw [← eσ8] at hw
  exact m_vret C hw (Option.some.inj h) dX6_readWord_99
set_option maxRecDepth 20000 in
theorem w_X6_readWord_83 {D : va_G} {cy : Nat → ClassId} {ad : Nat → Nat} {p : Program} {l : Launch} {e : Env} {R : Room} {s : State} {m : MethodId} {args : Array Value} {below : List Frame} {meth : Method} {c : Code} (C : Cx 1 D cy ad p R s m args meth c cX6_readWord 2 RX6 none 2)     {σ : Mem} {H : Heap} {locs : List Loc} {ls : Array Slot} {r : Mem} (hw : Wd 1 D cy ad s σ H locs) (hl : lv_has ls 2 [(0, .ref (ad (1)))]) (h : j_X6_readWord_83 σ = some r) : W p l e R s m args below meth c H locs 0 0 (QV 1 D cy ad below args s r) (F0 m 83 ls []) := by
  unfold j_X6_readWord_83 at h
  refine lv_aload_n C.1 C.2.1 dX6_readWord_83 rfl (lv_at hl 0 rfl) ?_
  refine lv_aload_n C.1 C.2.1 dX6_readWord_84 rfl (lv_at hl 0 rfl) ?_
  obtain ⟨r7, h1, h⟩ := bS h
  refine go_I hw (run_V (As := []) C hw (c_X6_isGoodWord C.2.2.2.2.2.2.2.2.2 _ _ h1) mi_X6_isGoodWord mv_X6_isGoodWord o1_1 (ci := 6) rfl rfl lk_X6_54 (by decide) (by decide) rfl hl.1 rfl (Nat.le_of_ble_eq_true rfl) dX6_readWord_85 ⟨Nat.le_refl 0, Nat.le_refl 0⟩) (fun H locs hw => ?_)
  refine lv_if_eq (tgt := 95) C.1 C.2.1 dX6_readWord_88 (by decide) (fun cd => ?_) (fun cd => ?_)
  · have h := ite_t cd h
    refine lv_iconst (v := (5 : Int32)) C.1 C.2.1 dX6_readWord_95 (by decide) ?_
    exact w_X6_readWord_96 C hw (lv_sub hl [] rfl) h
  · have h := ite_f cd h
    refine lv_iconst (v := (2 : Int32)) C.1 C.2.1 dX6_readWord_91 (by decide) ?_
    refine lv_goto (tgt := 96) C.1 C.2.1 dX6_readWord_92 (by decide) ?_
    exact w_X6_readWord_96 C hw (lv_sub hl [] rfl) h
set_option maxRecDepth 20000 in
theorem w_X6_readWord_39 {D : va_G} {cy : Nat → ClassId} {ad : Nat → Nat} {p : Program} {l : Launch} {e : Env} {R : Room} {s : State} {m : MethodId} {args : Array Value} {below : List Frame} {meth : Method} {c : Code} (C : Cx 1 D cy ad p R s m args meth c cX6_readWord 2 RX6 none 2)     {σ : Mem} {H : Heap} {locs : List Loc} {ls : Array Slot} {r : Mem} (hw : Wd 1 D cy ad s σ H locs) (hl : lv_has ls 2 [(0, .ref (ad (1)))]) (h : j_X6_readWord_39 σ = some r) : W p l e R s m args below meth c H locs 0 0 (QV 1 D cy ad below args s r) (F0 m 39 ls []) := by
  unfold j_X6_readWord_39 at h
  refine lv_aload_n C.1 C.2.1 dX6_readWord_39 rfl (lv_at hl 0 rfl) ?_
  refine lv_aload_n C.1 C.2.1 dX6_readWord_40 rfl (lv_at hl 0 rfl) ?_
  refine gf_X6_29 C hw dX6_readWord_41 ?_
  obtain ⟨r5, h1, h⟩ := bS h
  refine go_I hw (run_V (As := [.int _]) C hw (c_X6_byteAt C.2.2.2.2.2.2.2.2.2 _ _ _ h1) mi_X6_byteAt mv_X6_byteAt o1_1 (ci := 6) rfl rfl lk_X6_25 (by decide) (by decide) rfl hl.1 rfl (Nat.le_of_ble_eq_true rfl) dX6_readWord_44 ⟨Nat.le_refl 0, Nat.le_refl 0⟩) (fun H locs hw => ?_)
  refine lv_bipush (v := (97 : Int32)) C.1 C.2.1 dX6_readWord_47 (by decide) ?_
  refine lv_isub C.1 C.2.1 dX6_readWord_49 ?_
  obtain ⟨x6, ex6, h⟩ := lt_of h
  refine m_topi ex6 ?_
  refine lv_istore_n (lv' := [(1, .int _), (0, .ref _)]) C.1 C.2.1 dX6_readWord_50 rfl hl (by decide) rfl (fun ls hl => ?_)
  refine lv_aload_n C.1 C.2.1 dX6_readWord_51 rfl (lv_at hl 1 rfl) ?_
  refine gf_X6_19 C hw dX6_readWord_52 ?_
  refine lv_aload_n C.1 C.2.1 dX6_readWord_55 rfl (lv_at hl 1 rfl) ?_
  refine gf_X6_29 C hw dX6_readWord_56 ?_
  refine lv_isub C.1 C.2.1 dX6_readWord_59 ?_
  refine lv_iconst (v := (1 : Int32)) C.1 C.2.1 dX6_readWord_60 (by decide) ?_
  refine lv_icmp_ne (tgt := 83) C.1 C.2.1 dX6_readWord_61 (by decide) (fun cd => ?_) (fun cd => ?_)
  · have h := ite_f cd h
    exact w_X6_readWord_83 C hw (lv_sub hl [1] rfl) h
  · have h := ite_t cd h
    refine lv_iload_n C.1 C.2.1 dX6_readWord_64 rfl (lv_at hl 0 rfl) ?_
    refine lv_bipush (v := (8 : Int32)) C.1 C.2.1 dX6_readWord_65 (by decide) ?_
    refine lv_icmp_ge (tgt := 83) C.1 C.2.1 dX6_readWord_67 (by decide) (fun cd => ?_) (fun cd => ?_)
    · have h := ite_t cd h
      exact w_X6_readWord_83 C hw (lv_sub hl [1] rfl) h
    · have h := ite_f cd h
      refine lv_aload_n C.1 C.2.1 dX6_readWord_70 rfl (lv_at hl 1 rfl) ?_
      refine lv_iconst (v := (1 : Int32)) C.1 C.2.1 dX6_readWord_71 (by decide) ?_
      refine pf_X6_35 C hw dX6_readWord_72 (fun H locs hw => ?_)
      obtain ⟨σ9, eσ9, h⟩ := lt_of h
      rw [← eσ9] at hw
      refine lv_aload_n C.1 C.2.1 dX6_readWord_75 rfl (lv_at hl 1 rfl) ?_
      refine lv_iload_n C.1 C.2.1 dX6_readWord_76 rfl (lv_at hl 0 rfl) ?_
      refine pf_X6_32 C hw dX6_readWord_77 (fun H locs hw => ?_)
      obtain ⟨σ10, eσ10, h⟩ := lt_of h
      rw [← eσ10] at hw
      refine lv_goto (tgt := 99) C.1 C.2.1 dX6_readWord_80 (by decide) ?_
      exact m_vret C hw (Option.some.inj h) dX6_readWord_99
set_option maxRecDepth 20000 in
theorem c_X6_readWord {l : Launch} {D : va_G} {cy : Nat → ClassId} {ad : Nat → Nat} (hj : InjW 1 ad)   (σ : Mem) (r : Mem) (h : f_X6_readWord σ = some r) : CV 1 D cy ad l yX6_readWord cX6_readWord 2 none 2 [.ref (ad (1))] σ r := by
  refine CV.mk (by decide) hj (Nat.le_of_ble_eq_true rfl) (fun p e R s m below meth c ls C hw hl => ?_)
  have hl : lv_has ls 2 [(0, .ref (ad (1)))] := hl
  generalize ([.ref (ad (1))] : List Value).toArray = args at C ⊢
  have C : Cx 1 D cy ad p R s m args meth c cX6_readWord 2 RX6 none 2 := C
  unfold f_X6_readWord at h
  refine lv_iconst (v := (0 : Int32)) C.1 C.2.1 dX6_readWord_0 (by decide) ?_
  refine lv_istore_n (lv' := [(1, .int _), (0, .ref _)]) C.1 C.2.1 dX6_readWord_1 rfl hl (by decide) rfl (fun ls hl => ?_)
  obtain ⟨r4, hL, h⟩ := bS h
  refine w_X6_readWord_2 C  hL (fun y0 hr H locs ls hw hl => ?_) _ _ _ hw (lv_sub hl [1, 0] rfl)
  · subst hr
    try dsimp only at h
    try dsimp only at hw
    try dsimp only at hl
    exact w_X6_readWord_39 C hw (lv_sub hl [0] rfl) h
def f_X6_isDigit (a0 : Int32) : Int32 :=
  if a0 < (48 : Int32) then ((0 : Int32)) else (if (57 : Int32) < a0 then ((0 : Int32)) else ((1 : Int32)))
set_option maxRecDepth 20000 in
theorem c_X6_isDigit {l : Launch} {D : va_G} {cy : Nat → ClassId} {ad : Nat → Nat} (hj : InjW 1 ad) (a0 : Int32)  (σ : Mem) : CI 1 D cy ad l yX6_isDigit cX6_isDigit 1 (some .boolean) 0 [.int a0] σ (f_X6_isDigit a0) σ := by
  refine CI.mk (by decide) hj (Nat.le_of_ble_eq_true rfl) (fun p e R s m below meth c ls C hw hl => ?_)
  have hl : lv_has ls 1 [(0, .int a0)] := hl
  generalize ([.int a0] : List Value).toArray = args at C ⊢
  have C : Cx 1 D cy ad p R s m args meth c cX6_isDigit 1 RX6 (some .boolean) 0 := C
  obtain ⟨r, h⟩ : ∃ r, f_X6_isDigit a0 = r := ⟨_, rfl⟩
  rw [h]
  unfold f_X6_isDigit at h
  refine lv_iload_n C.1 C.2.1 dX6_isDigit_0 rfl (lv_at hl 0 rfl) ?_
  refine lv_bipush (v := (48 : Int32)) C.1 C.2.1 dX6_isDigit_1 (by decide) ?_
  refine lv_icmp_lt (tgt := 16) C.1 C.2.1 dX6_isDigit_3 (by decide) (fun cd => ?_) (fun cd => ?_)
  · have h := ite_t cd h
    refine lv_iconst (v := (0 : Int32)) C.1 C.2.1 dX6_isDigit_16 (by decide) ?_
    exact m_zret C hw (by decide) ⟨h, rfl⟩ dX6_isDigit_17
  · have h := ite_f cd h
    refine lv_iload_n C.1 C.2.1 dX6_isDigit_6 rfl (lv_at hl 0 rfl) ?_
    refine lv_bipush (v := (57 : Int32)) C.1 C.2.1 dX6_isDigit_7 (by decide) ?_
    refine lv_icmp_gt (tgt := 16) C.1 C.2.1 dX6_isDigit_9 (by decide) (fun cd => ?_) (fun cd => ?_)
    · have h := ite_t cd h
      refine lv_iconst (v := (0 : Int32)) C.1 C.2.1 dX6_isDigit_16 (by decide) ?_
      exact m_zret C hw (by decide) ⟨h, rfl⟩ dX6_isDigit_17
    · have h := ite_f cd h
      refine lv_iconst (v := (1 : Int32)) C.1 C.2.1 dX6_isDigit_12 (by decide) ?_
      refine lv_goto (tgt := 17) C.1 C.2.1 dX6_isDigit_13 (by decide) ?_
      exact m_zret C hw (by decide) ⟨h, rfl⟩ dX6_isDigit_17
noncomputable def j_X6_readNumber_51  (v1 : Int32) (σ : Mem) : Option ((Int32 × Mem) ⊕ Mem) :=
  lt (sI σ 1 5 ((σ.1 1 5) + (1 : Int32))) (fun σ2 => lt (v1 + (1 : Int32)) (fun x3 => some (.inl (x3, σ2))))
noncomputable def b_X6_readNumber_2  (v1 : Int32) (σ : Mem) : Option ((Int32 × Mem) ⊕ Mem) :=
  if (300 : Int32) ≤ v1 then (some (.inr σ)) else ((f_X6_byteAt (σ.1 1 5) σ).bind (fun r1 => if (f_X6_isDigit r1) = 0 then (some (.inr σ)) else (if (2 : Int32) ≤ v1 then (j_X6_readNumber_51 v1 σ) else ((f_X6_byteAt (σ.1 1 5) σ).bind (fun r4 => lt (sI σ 1 4 ((((σ.1 1 4) * (10 : Int32)) + r4) - (48 : Int32))) (fun σ5 => j_X6_readNumber_51 v1 σ5))))))
noncomputable def j_X6_readNumber_116  (z1 : Int32) (σ : Mem) : Option Mem :=
  lt (sI σ 1 3 z1) (fun σ8 => some σ8)
noncomputable def j_X6_readNumber_111  (σ : Mem) : Option Mem :=
  j_X6_readNumber_116 (5 : Int32) σ
noncomputable def j_X6_readNumber_100  (z0 : Int32) (v1 : Int32) (σ : Mem) : Option Mem :=
  if (2 : Int32) < v1 then (j_X6_readNumber_111 σ) else (if z0 = 0 then (j_X6_readNumber_116 (3 : Int32) σ) else (j_X6_readNumber_111 σ))
noncomputable def j_X6_readNumber_99  (v1 : Int32) (σ : Mem) : Option Mem :=
  j_X6_readNumber_100 (0 : Int32) v1 σ
noncomputable def j_X6_readNumber_67  (σ : Mem) : Option Mem :=
  lt ((σ.1 1 5) - (σ.1 1 2)) (fun x7 => if x7 ≤ (1 : Int32) then (j_X6_readNumber_99 x7 σ) else ((f_X6_byteAt (σ.1 1 2) σ).bind (fun r9 => if r9 = (48 : Int32) then (j_X6_readNumber_100 (1 : Int32) x7 σ) else (j_X6_readNumber_99 x7 σ))))
noncomputable def f_X6_readNumber  (σ : Mem) : Option Mem :=
  (Lim (T := Mem) (fun s => b_X6_readNumber_2 s.1 s.2) ((0 : Int32), σ)).bind (fun r6 => j_X6_readNumber_67 r6)
set_option maxRecDepth 20000 in
theorem w_X6_readNumber_51 {D : va_G} {cy : Nat → ClassId} {ad : Nat → Nat} {p : Program} {l : Launch} {e : Env} {R : Room} {s : State} {m : MethodId} {args : Array Value} {below : List Frame} {meth : Method} {c : Code} (C : Cx 1 D cy ad p R s m args meth c cX6_readNumber 3 RX6 none 1)   {v1 : Int32}  {σ : Mem} {H : Heap} {locs : List Loc} {ls : Array Slot} {Q : State → Prop} {P : (Int32 × Mem) → Prop} {r : Mem} {x : (Int32 × Mem) ⊕ Mem} (hx : LimQ P r x) (hP : ∀ u, P u → ∀ (H : Heap) (locs : List Loc) (ls : Array Slot), Wd 1 D cy ad s u.2 H locs → lv_has ls 3 [(0, .ref (ad (1))), (1, .int u.1)] → W p l e R s m args below meth c H locs 0 0 Q (F0 m 2 ls [])) (hE0 : ∀ (σ1 : Mem), (σ1 : Mem) = r → ∀ (H : Heap) (locs : List Loc) (ls : Array Slot), Wd 1 D cy ad s σ1 H locs → lv_has ls 3 [(0, .ref (ad (1)))] → W p l e R s m args below meth c H locs 0 0 Q (F0 m 67 ls [])) (hw : Wd 1 D cy ad s σ H locs) (hl : lv_has ls 3 [(0, .ref (ad (1))), (1, .int v1)]) (h : j_X6_readNumber_51 v1 σ = some x) : W p l e R s m args below meth c H locs 0 0 Q (F0 m 51 ls []) := by
  unfold j_X6_readNumber_51 at h
  refine lv_aload_n C.1 C.2.1 dX6_readNumber_51 rfl (lv_at hl 0 rfl) ?_
  refine lv_dup C.1 C.2.1 dX6_readNumber_52 rfl ?_
  refine gf_X6_19 C hw dX6_readNumber_53 ?_
  refine lv_iconst (v := (1 : Int32)) C.1 C.2.1 dX6_readNumber_56 (by decide) ?_
  refine lv_iadd C.1 C.2.1 dX6_readNumber_57 ?_
  refine pf_X6_19 C hw dX6_readNumber_58 (fun H locs hw => ?_)
  obtain ⟨σ2, eσ2, h⟩ := lt_of h
  rw [← eσ2] at hw
  obtain ⟨x3, ex3, h⟩ := lt_of h
  refine m_iinc (k := 1) (lv' := [(1, .int _), (0, .ref _)]) C (1 : Int32) (by decide) dX6_readNumber_61 hl rfl ex3.symm (by decide) rfl (fun ls hl => ?_)
  refine lv_goto (tgt := 2) C.1 C.2.1 dX6_readNumber_64 (by decide) ?_
  obtain rfl := Option.some.inj h
  exact hP _ hx _ _ _ hw (lv_sub hl [1, 0] rfl)
set_option maxRecDepth 20000 in
theorem w_X6_readNumber_2 {D : va_G} {cy : Nat → ClassId} {ad : Nat → Nat} {p : Program} {l : Launch} {e : Env} {R : Room} {s : State} {m : MethodId} {args : Array Value} {below : List Frame} {meth : Method} {c : Code} (C : Cx 1 D cy ad p R s m args meth c cX6_readNumber 3 RX6 none 1)   {v1 : Int32} {σ : Mem} {Q : State → Prop} {r : Mem} (hL : Lim (T := Mem) (fun s => b_X6_readNumber_2 s.1 s.2) (v1, σ) = some r) (hE0 : ∀ (σ1 : Mem), (σ1 : Mem) = r → ∀ (H : Heap) (locs : List Loc) (ls : Array Slot), Wd 1 D cy ad s σ1 H locs → lv_has ls 3 [(0, .ref (ad (1)))] → W p l e R s m args below meth c H locs 0 0 Q (F0 m 67 ls [])) (H : Heap) (locs : List Loc) (ls : Array Slot) (hw : Wd 1 D cy ad s σ H locs) (hl : lv_has ls 3 [(0, .ref (ad (1))), (1, .int v1)]) : W p l e R s m args below meth c H locs 0 0 Q (F0 m 2 ls []) := by
  refine Lim_ind hL (P := fun u => ∀ (H : Heap) (locs : List Loc) (ls : Array Slot), Wd 1 D cy ad s u.2 H locs → lv_has ls 3 [(0, .ref (ad (1))), (1, .int u.1)] → W p l e R s m args below meth c H locs 0 0 Q (F0 m 2 ls [])) (fun u x h hx H locs ls hw hl => ?_) H locs ls hw hl
  clear hL
  obtain ⟨v1, σ⟩ := u
  have h : b_X6_readNumber_2 v1 σ = some x := h
  have hw : Wd 1 D cy ad s σ H locs := hw
  have hl : lv_has ls 3 [(0, .ref (ad (1))), (1, .int v1)] := hl
  have hP : ∀ (u : (Int32 × Mem)), (∀ (H : Heap) (locs : List Loc) (ls : Array Slot), Wd 1 D cy ad s u.2 H locs → lv_has ls 3 [(0, .ref (ad (1))), (1, .int u.1)] → W p l e R s m args below meth c H locs 0 0 Q (F0 m 2 ls [])) → ∀ (H : Heap) (locs : List Loc) (ls : Array Slot), Wd 1 D cy ad s u.2 H locs → lv_has ls 3 [(0, .ref (ad (1))), (1, .int u.1)] → W p l e R s m args below meth c H locs 0 0 Q (F0 m 2 ls []) := fun _ k => k
  unfold b_X6_readNumber_2 at h
  refine lv_iload_n C.1 C.2.1 dX6_readNumber_2 rfl (lv_at hl 1 rfl) ?_
  refine lv_sipush (v := (300 : Int32)) C.1 C.2.1 dX6_readNumber_3 (by decide) ?_
  refine lv_icmp_ge (tgt := 67) C.1 C.2.1 dX6_readNumber_6 (by decide) (fun cd => ?_) (fun cd => ?_)
  · have h := ite_t cd h
    obtain rfl := Option.some.inj h
    exact hE0 _ hx _ _ _ hw (lv_sub hl [0] rfl)
  · have h := ite_f cd h
    refine lv_aload_n C.1 C.2.1 dX6_readNumber_9 rfl (lv_at hl 0 rfl) ?_
    refine lv_aload_n C.1 C.2.1 dX6_readNumber_10 rfl (lv_at hl 0 rfl) ?_
    refine gf_X6_19 C hw dX6_readNumber_11 ?_
    obtain ⟨r1, h1, h⟩ := bS h
    refine go_I hw (run_V (As := [.int _]) C hw (c_X6_byteAt C.2.2.2.2.2.2.2.2.2 _ _ _ h1) mi_X6_byteAt mv_X6_byteAt o1_1 (ci := 6) rfl rfl lk_X6_25 (by decide) (by decide) rfl hl.1 rfl (Nat.le_of_ble_eq_true rfl) dX6_readNumber_14 ⟨Nat.le_refl 0, Nat.le_refl 0⟩) (fun H locs hw => ?_)
    refine go_I hw (run_S (As := [.int _]) C hw (c_X6_isDigit C.2.2.2.2.2.2.2.2.2 _ _) mi_X6_isDigit ms_X6_isDigit lk_X6_45 (by decide) (by decide) rfl hl.1 rfl (Nat.le_of_ble_eq_true rfl) dX6_readNumber_17 ⟨Nat.le_refl 0, Nat.le_refl 0⟩) (fun H locs hw => ?_)
    refine lv_if_eq (tgt := 67) C.1 C.2.1 dX6_readNumber_20 (by decide) (fun cd => ?_) (fun cd => ?_)
    · have h := ite_t cd h
      obtain rfl := Option.some.inj h
      exact hE0 _ hx _ _ _ hw (lv_sub hl [0] rfl)
    · have h := ite_f cd h
      refine lv_iload_n C.1 C.2.1 dX6_readNumber_23 rfl (lv_at hl 1 rfl) ?_
      refine lv_iconst (v := (2 : Int32)) C.1 C.2.1 dX6_readNumber_24 (by decide) ?_
      refine lv_icmp_ge (tgt := 51) C.1 C.2.1 dX6_readNumber_25 (by decide) (fun cd => ?_) (fun cd => ?_)
      · have h := ite_t cd h
        exact w_X6_readNumber_51 C hx hP hE0 hw (lv_sub hl [0, 1] rfl) h
      · have h := ite_f cd h
        refine lv_aload_n C.1 C.2.1 dX6_readNumber_28 rfl (lv_at hl 0 rfl) ?_
        refine lv_aload_n C.1 C.2.1 dX6_readNumber_29 rfl (lv_at hl 0 rfl) ?_
        refine gf_X6_32 C hw dX6_readNumber_30 ?_
        refine lv_bipush (v := (10 : Int32)) C.1 C.2.1 dX6_readNumber_33 (by decide) ?_
        refine lv_imul C.1 C.2.1 dX6_readNumber_35 ?_
        refine lv_aload_n C.1 C.2.1 dX6_readNumber_36 rfl (lv_at hl 0 rfl) ?_
        refine lv_aload_n C.1 C.2.1 dX6_readNumber_37 rfl (lv_at hl 0 rfl) ?_
        refine gf_X6_19 C hw dX6_readNumber_38 ?_
        obtain ⟨r4, h1, h⟩ := bS h
        refine go_I hw (run_V (As := [.int _]) C hw (c_X6_byteAt C.2.2.2.2.2.2.2.2.2 _ _ _ h1) mi_X6_byteAt mv_X6_byteAt o1_1 (ci := 6) rfl rfl lk_X6_25 (by decide) (by decide) rfl hl.1 rfl (Nat.le_of_ble_eq_true rfl) dX6_readNumber_41 ⟨Nat.le_refl 0, Nat.le_refl 0⟩) (fun H locs hw => ?_)
        refine lv_iadd C.1 C.2.1 dX6_readNumber_44 ?_
        refine lv_bipush (v := (48 : Int32)) C.1 C.2.1 dX6_readNumber_45 (by decide) ?_
        refine lv_isub C.1 C.2.1 dX6_readNumber_47 ?_
        refine pf_X6_32 C hw dX6_readNumber_48 (fun H locs hw => ?_)
        obtain ⟨σ5, eσ5, h⟩ := lt_of h
        rw [← eσ5] at hw
        exact w_X6_readNumber_51 C hx hP hE0 hw (lv_sub hl [0, 1] rfl) h
set_option maxRecDepth 20000 in
theorem w_X6_readNumber_116 {D : va_G} {cy : Nat → ClassId} {ad : Nat → Nat} {p : Program} {l : Launch} {e : Env} {R : Room} {s : State} {m : MethodId} {args : Array Value} {below : List Frame} {meth : Method} {c : Code} (C : Cx 1 D cy ad p R s m args meth c cX6_readNumber 3 RX6 none 1)   {z1 : Int32}  {σ : Mem} {H : Heap} {locs : List Loc} {ls : Array Slot} {r : Mem} (hw : Wd 1 D cy ad s σ H locs) (hl : lv_has ls 3 []) (h : j_X6_readNumber_116 z1 σ = some r) : W p l e R s m args below meth c H locs 0 0 (QV 1 D cy ad below args s r) (F0 m 116 ls [.int z1, .ref (ad (1))]) := by
  unfold j_X6_readNumber_116 at h
  refine pf_X6_35 C hw dX6_readNumber_116 (fun H locs hw => ?_)
  obtain ⟨σ8, eσ8, h⟩ := lt_of h
  rw [← eσ8] at hw
  exact m_vret C hw (Option.some.inj h) dX6_readNumber_119
set_option maxRecDepth 20000 in
theorem w_X6_readNumber_111 {D : va_G} {cy : Nat → ClassId} {ad : Nat → Nat} {p : Program} {l : Launch} {e : Env} {R : Room} {s : State} {m : MethodId} {args : Array Value} {below : List Frame} {meth : Method} {c : Code} (C : Cx 1 D cy ad p R s m args meth c cX6_readNumber 3 RX6 none 1)     {σ : Mem} {H : Heap} {locs : List Loc} {ls : Array Slot} {r : Mem} (hw : Wd 1 D cy ad s σ H locs) (hl : lv_has ls 3 []) (h : j_X6_readNumber_111 σ = some r) : W p l e R s m args below meth c H locs 0 0 (QV 1 D cy ad below args s r) (F0 m 111 ls [.ref (ad (1))]) := by
  unfold j_X6_readNumber_111 at h
  refine lv_iconst (v := (5 : Int32)) C.1 C.2.1 dX6_readNumber_111 (by decide) ?_
  refine lv_goto (tgt := 116) C.1 C.2.1 dX6_readNumber_112 (by decide) ?_
  exact w_X6_readNumber_116 C hw (lv_sub hl [] rfl) h
set_option maxRecDepth 20000 in
theorem w_X6_readNumber_100 {D : va_G} {cy : Nat → ClassId} {ad : Nat → Nat} {p : Program} {l : Launch} {e : Env} {R : Room} {s : State} {m : MethodId} {args : Array Value} {below : List Frame} {meth : Method} {c : Code} (C : Cx 1 D cy ad p R s m args meth c cX6_readNumber 3 RX6 none 1)   {z0 : Int32} {v1 : Int32}  {σ : Mem} {H : Heap} {locs : List Loc} {ls : Array Slot} {r : Mem} (hw : Wd 1 D cy ad s σ H locs) (hl : lv_has ls 3 [(0, .ref (ad (1))), (1, .int v1)]) (h : j_X6_readNumber_100 z0 v1 σ = some r) : W p l e R s m args below meth c H locs 0 0 (QV 1 D cy ad below args s r) (F0 m 100 ls [.int z0]) := by
  unfold j_X6_readNumber_100 at h
  refine lv_istore_n (lv' := [(2, .int _), (0, .ref _), (1, .int _)]) C.1 C.2.1 dX6_readNumber_100 rfl hl (by decide) rfl (fun ls hl => ?_)
  refine lv_aload_n C.1 C.2.1 dX6_readNumber_101 rfl (lv_at hl 1 rfl) ?_
  refine lv_iload_n C.1 C.2.1 dX6_readNumber_102 rfl (lv_at hl 2 rfl) ?_
  refine lv_iconst (v := (2 : Int32)) C.1 C.2.1 dX6_readNumber_103 (by decide) ?_
  refine lv_icmp_gt (tgt := 111) C.1 C.2.1 dX6_readNumber_104 (by decide) (fun cd => ?_) (fun cd => ?_)
  · have h := ite_t cd h
    exact w_X6_readNumber_111 C hw (lv_sub hl [] rfl) h
  · have h := ite_f cd h
    refine lv_iload_n C.1 C.2.1 dX6_readNumber_107 rfl (lv_at hl 0 rfl) ?_
    refine lv_if_eq (tgt := 115) C.1 C.2.1 dX6_readNumber_108 (by decide) (fun cd => ?_) (fun cd => ?_)
    · have h := ite_t cd h
      refine lv_iconst (v := (3 : Int32)) C.1 C.2.1 dX6_readNumber_115 (by decide) ?_
      exact w_X6_readNumber_116 C hw (lv_sub hl [] rfl) h
    · have h := ite_f cd h
      exact w_X6_readNumber_111 C hw (lv_sub hl [] rfl) h
set_option maxRecDepth 20000 in
theorem w_X6_readNumber_99 {D : va_G} {cy : Nat → ClassId} {ad : Nat → Nat} {p : Program} {l : Launch} {e : Env} {R : Room} {s : State} {m : MethodId} {args : Array Value} {below : List Frame} {meth : Method} {c : Code} (C : Cx 1 D cy ad p R s m args meth c cX6_readNumber 3 RX6 none 1)   {v1 : Int32}  {σ : Mem} {H : Heap} {locs : List Loc} {ls : Array Slot} {r : Mem} (hw : Wd 1 D cy ad s σ H locs) (hl : lv_has ls 3 [(0, .ref (ad (1))), (1, .int v1)]) (h : j_X6_readNumber_99 v1 σ = some r) : W p l e R s m args below meth c H locs 0 0 (QV 1 D cy ad below args s r) (F0 m 99 ls []) := by
  unfold j_X6_readNumber_99 at h
  refine lv_iconst (v := (0 : Int32)) C.1 C.2.1 dX6_readNumber_99 (by decide) ?_
  exact w_X6_readNumber_100 C hw (lv_sub hl [0, 1] rfl) h
set_option maxRecDepth 20000 in
theorem w_X6_readNumber_67 {D : va_G} {cy : Nat → ClassId} {ad : Nat → Nat} {p : Program} {l : Launch} {e : Env} {R : Room} {s : State} {m : MethodId} {args : Array Value} {below : List Frame} {meth : Method} {c : Code} (C : Cx 1 D cy ad p R s m args meth c cX6_readNumber 3 RX6 none 1)     {σ : Mem} {H : Heap} {locs : List Loc} {ls : Array Slot} {r : Mem} (hw : Wd 1 D cy ad s σ H locs) (hl : lv_has ls 3 [(0, .ref (ad (1)))]) (h : j_X6_readNumber_67 σ = some r) : W p l e R s m args below meth c H locs 0 0 (QV 1 D cy ad below args s r) (F0 m 67 ls []) := by
  unfold j_X6_readNumber_67 at h
  refine lv_aload_n C.1 C.2.1 dX6_readNumber_67 rfl (lv_at hl 0 rfl) ?_
  refine gf_X6_19 C hw dX6_readNumber_68 ?_
  refine lv_aload_n C.1 C.2.1 dX6_readNumber_71 rfl (lv_at hl 0 rfl) ?_
  refine gf_X6_29 C hw dX6_readNumber_72 ?_
  refine lv_isub C.1 C.2.1 dX6_readNumber_75 ?_
  obtain ⟨x7, ex7, h⟩ := lt_of h
  refine m_topi ex7 ?_
  refine lv_istore_n (lv' := [(1, .int _), (0, .ref _)]) C.1 C.2.1 dX6_readNumber_76 rfl hl (by decide) rfl (fun ls hl => ?_)
  refine lv_iload_n C.1 C.2.1 dX6_readNumber_77 rfl (lv_at hl 0 rfl) ?_
  refine lv_iconst (v := (1 : Int32)) C.1 C.2.1 dX6_readNumber_78 (by decide) ?_
  refine lv_icmp_le (tgt := 99) C.1 C.2.1 dX6_readNumber_79 (by decide) (fun cd => ?_) (fun cd => ?_)
  · have h := ite_t cd h
    exact w_X6_readNumber_99 C hw (lv_sub hl [1, 0] rfl) h
  · have h := ite_f cd h
    refine lv_aload_n C.1 C.2.1 dX6_readNumber_82 rfl (lv_at hl 1 rfl) ?_
    refine lv_aload_n C.1 C.2.1 dX6_readNumber_83 rfl (lv_at hl 1 rfl) ?_
    refine gf_X6_29 C hw dX6_readNumber_84 ?_
    obtain ⟨r9, h1, h⟩ := bS h
    refine go_I hw (run_V (As := [.int _]) C hw (c_X6_byteAt C.2.2.2.2.2.2.2.2.2 _ _ _ h1) mi_X6_byteAt mv_X6_byteAt o1_1 (ci := 6) rfl rfl lk_X6_25 (by decide) (by decide) rfl hl.1 rfl (Nat.le_of_ble_eq_true rfl) dX6_readNumber_87 ⟨Nat.le_refl 0, Nat.le_refl 0⟩) (fun H locs hw => ?_)
    refine lv_bipush (v := (48 : Int32)) C.1 C.2.1 dX6_readNumber_90 (by decide) ?_
    refine lv_icmp_ne (tgt := 99) C.1 C.2.1 dX6_readNumber_92 (by decide) (fun cd => ?_) (fun cd => ?_)
    · have h := ite_f cd h
      exact w_X6_readNumber_99 C hw (lv_sub hl [1, 0] rfl) h
    · have h := ite_t cd h
      refine lv_iconst (v := (1 : Int32)) C.1 C.2.1 dX6_readNumber_95 (by decide) ?_
      refine lv_goto (tgt := 100) C.1 C.2.1 dX6_readNumber_96 (by decide) ?_
      exact w_X6_readNumber_100 C hw (lv_sub hl [1, 0] rfl) h
set_option maxRecDepth 20000 in
theorem c_X6_readNumber {l : Launch} {D : va_G} {cy : Nat → ClassId} {ad : Nat → Nat} (hj : InjW 1 ad)   (σ : Mem) (r : Mem) (h : f_X6_readNumber σ = some r) : CV 1 D cy ad l yX6_readNumber cX6_readNumber 3 none 1 [.ref (ad (1))] σ r := by
  refine CV.mk (by decide) hj (Nat.le_of_ble_eq_true rfl) (fun p e R s m below meth c ls C hw hl => ?_)
  have hl : lv_has ls 3 [(0, .ref (ad (1)))] := hl
  generalize ([.ref (ad (1))] : List Value).toArray = args at C ⊢
  have C : Cx 1 D cy ad p R s m args meth c cX6_readNumber 3 RX6 none 1 := C
  unfold f_X6_readNumber at h
  refine lv_iconst (v := (0 : Int32)) C.1 C.2.1 dX6_readNumber_0 (by decide) ?_
  refine lv_istore_n (lv' := [(1, .int _), (0, .ref _)]) C.1 C.2.1 dX6_readNumber_1 rfl hl (by decide) rfl (fun ls hl => ?_)
  obtain ⟨r6, hL, h⟩ := bS h
  refine w_X6_readNumber_2 C  hL (fun y0 hr H locs ls hw hl => ?_) _ _ _ hw (lv_sub hl [1, 0] rfl)
  · subst hr
    try dsimp only at h
    try dsimp only at hw
    try dsimp only at hl
    exact w_X6_readNumber_67 C hw (lv_sub hl [0] rfl) h
noncomputable def b_X6_next_2  (v1 : Int32) (σ : Mem) : Option ((Int32 × Mem) ⊕ Mem) :=
  if (300 : Int32) ≤ v1 then (some (.inr σ)) else ((f_X6_byteAt (σ.1 1 5) σ).bind (fun r1 => if r1 = (32 : Int32) then (lt (sI σ 1 5 ((σ.1 1 5) + (1 : Int32))) (fun σ2 => lt (v1 + (1 : Int32)) (fun x3 => some (.inl (x3, σ2))))) else (some (.inr σ))))
noncomputable def j_X6_next_112  (z1 : Int32) (σ : Mem) : Option Mem :=
  lt (sI σ 1 3 z1) (fun σ8 => lt (sI σ8 1 5 ((σ8.1 1 5) + (1 : Int32))) (fun σ9 => some σ9))
noncomputable def j_X6_next_38  (σ : Mem) : Option Mem :=
  lt (sI σ 1 2 (σ.1 1 5)) (fun σ5 => lt (sI σ5 1 4 (0 : Int32)) (fun σ6 => (f_X6_byteAt (σ6.1 1 5) σ6).bind (fun r7 => if 0 ≤ r7 then (if (f_X6_isLetter r7) = 0 then (if (f_X6_isDigit r7) = 0 then (if r7 = (59 : Int32) then (j_X6_next_112 (4 : Int32) σ6) else (j_X6_next_112 (5 : Int32) σ6)) else ((f_X6_readNumber σ6).bind (fun r10 => some r10))) else ((f_X6_readWord σ6).bind (fun r11 => some r11))) else (lt (sI σ6 1 3 (0 : Int32)) (fun σ12 => some σ12)))))
noncomputable def f_X6_next  (σ : Mem) : Option Mem :=
  (Lim (T := Mem) (fun s => b_X6_next_2 s.1 s.2) ((0 : Int32), σ)).bind (fun r4 => j_X6_next_38 r4)
set_option maxRecDepth 20000 in
theorem w_X6_next_2 {D : va_G} {cy : Nat → ClassId} {ad : Nat → Nat} {p : Program} {l : Launch} {e : Env} {R : Room} {s : State} {m : MethodId} {args : Array Value} {below : List Frame} {meth : Method} {c : Code} (C : Cx 1 D cy ad p R s m args meth c cX6_next 2 RX6 none 3)   {v1 : Int32} {σ : Mem} {Q : State → Prop} {r : Mem} (hL : Lim (T := Mem) (fun s => b_X6_next_2 s.1 s.2) (v1, σ) = some r) (hE0 : ∀ (σ1 : Mem), (σ1 : Mem) = r → ∀ (H : Heap) (locs : List Loc) (ls : Array Slot), Wd 1 D cy ad s σ1 H locs → lv_has ls 2 [(0, .ref (ad (1)))] → W p l e R s m args below meth c H locs 0 0 Q (F0 m 38 ls [])) (H : Heap) (locs : List Loc) (ls : Array Slot) (hw : Wd 1 D cy ad s σ H locs) (hl : lv_has ls 2 [(0, .ref (ad (1))), (1, .int v1)]) : W p l e R s m args below meth c H locs 0 0 Q (F0 m 2 ls []) := by
  refine Lim_ind hL (P := fun u => ∀ (H : Heap) (locs : List Loc) (ls : Array Slot), Wd 1 D cy ad s u.2 H locs → lv_has ls 2 [(0, .ref (ad (1))), (1, .int u.1)] → W p l e R s m args below meth c H locs 0 0 Q (F0 m 2 ls [])) (fun u x h hx H locs ls hw hl => ?_) H locs ls hw hl
  clear hL
  obtain ⟨v1, σ⟩ := u
  have h : b_X6_next_2 v1 σ = some x := h
  have hw : Wd 1 D cy ad s σ H locs := hw
  have hl : lv_has ls 2 [(0, .ref (ad (1))), (1, .int v1)] := hl
  have hP : ∀ (u : (Int32 × Mem)), (∀ (H : Heap) (locs : List Loc) (ls : Array Slot), Wd 1 D cy ad s u.2 H locs → lv_has ls 2 [(0, .ref (ad (1))), (1, .int u.1)] → W p l e R s m args below meth c H locs 0 0 Q (F0 m 2 ls [])) → ∀ (H : Heap) (locs : List Loc) (ls : Array Slot), Wd 1 D cy ad s u.2 H locs → lv_has ls 2 [(0, .ref (ad (1))), (1, .int u.1)] → W p l e R s m args below meth c H locs 0 0 Q (F0 m 2 ls []) := fun _ k => k
  unfold b_X6_next_2 at h
  refine lv_iload_n C.1 C.2.1 dX6_next_2 rfl (lv_at hl 1 rfl) ?_
  refine lv_sipush (v := (300 : Int32)) C.1 C.2.1 dX6_next_3 (by decide) ?_
  refine lv_icmp_ge (tgt := 38) C.1 C.2.1 dX6_next_6 (by decide) (fun cd => ?_) (fun cd => ?_)
  · have h := ite_t cd h
    obtain rfl := Option.some.inj h
    exact hE0 _ hx _ _ _ hw (lv_sub hl [0] rfl)
  · have h := ite_f cd h
    refine lv_aload_n C.1 C.2.1 dX6_next_9 rfl (lv_at hl 0 rfl) ?_
    refine lv_aload_n C.1 C.2.1 dX6_next_10 rfl (lv_at hl 0 rfl) ?_
    refine gf_X6_19 C hw dX6_next_11 ?_
    obtain ⟨r1, h1, h⟩ := bS h
    refine go_I hw (run_V (As := [.int _]) C hw (c_X6_byteAt C.2.2.2.2.2.2.2.2.2 _ _ _ h1) mi_X6_byteAt mv_X6_byteAt o1_1 (ci := 6) rfl rfl lk_X6_25 (by decide) (by decide) rfl hl.1 rfl (Nat.le_of_ble_eq_true rfl) dX6_next_14 ⟨Nat.le_refl 0, Nat.le_refl 0⟩) (fun H locs hw => ?_)
    refine lv_bipush (v := (32 : Int32)) C.1 C.2.1 dX6_next_17 (by decide) ?_
    refine lv_icmp_ne (tgt := 38) C.1 C.2.1 dX6_next_19 (by decide) (fun cd => ?_) (fun cd => ?_)
    · have h := ite_f cd h
      obtain rfl := Option.some.inj h
      exact hE0 _ hx _ _ _ hw (lv_sub hl [0] rfl)
    · have h := ite_t cd h
      refine lv_aload_n C.1 C.2.1 dX6_next_22 rfl (lv_at hl 0 rfl) ?_
      refine lv_dup C.1 C.2.1 dX6_next_23 rfl ?_
      refine gf_X6_19 C hw dX6_next_24 ?_
      refine lv_iconst (v := (1 : Int32)) C.1 C.2.1 dX6_next_27 (by decide) ?_
      refine lv_iadd C.1 C.2.1 dX6_next_28 ?_
      refine pf_X6_19 C hw dX6_next_29 (fun H locs hw => ?_)
      obtain ⟨σ2, eσ2, h⟩ := lt_of h
      rw [← eσ2] at hw
      obtain ⟨x3, ex3, h⟩ := lt_of h
      refine m_iinc (k := 1) (lv' := [(1, .int _), (0, .ref _)]) C (1 : Int32) (by decide) dX6_next_32 hl rfl ex3.symm (by decide) rfl (fun ls hl => ?_)
      refine lv_goto (tgt := 2) C.1 C.2.1 dX6_next_35 (by decide) ?_
      obtain rfl := Option.some.inj h
      exact hP _ hx _ _ _ hw (lv_sub hl [1, 0] rfl)
set_option maxRecDepth 20000 in
theorem w_X6_next_112 {D : va_G} {cy : Nat → ClassId} {ad : Nat → Nat} {p : Program} {l : Launch} {e : Env} {R : Room} {s : State} {m : MethodId} {args : Array Value} {below : List Frame} {meth : Method} {c : Code} (C : Cx 1 D cy ad p R s m args meth c cX6_next 2 RX6 none 3)   {z1 : Int32}  {σ : Mem} {H : Heap} {locs : List Loc} {ls : Array Slot} {r : Mem} (hw : Wd 1 D cy ad s σ H locs) (hl : lv_has ls 2 [(0, .ref (ad (1)))]) (h : j_X6_next_112 z1 σ = some r) : W p l e R s m args below meth c H locs 0 0 (QV 1 D cy ad below args s r) (F0 m 112 ls [.int z1, .ref (ad (1))]) := by
  unfold j_X6_next_112 at h
  refine pf_X6_35 C hw dX6_next_112 (fun H locs hw => ?_)
  obtain ⟨σ8, eσ8, h⟩ := lt_of h
  rw [← eσ8] at hw
  refine lv_aload_n C.1 C.2.1 dX6_next_115 rfl (lv_at hl 0 rfl) ?_
  refine lv_dup C.1 C.2.1 dX6_next_116 rfl ?_
  refine gf_X6_19 C hw dX6_next_117 ?_
  refine lv_iconst (v := (1 : Int32)) C.1 C.2.1 dX6_next_120 (by decide) ?_
  refine lv_iadd C.1 C.2.1 dX6_next_121 ?_
  refine pf_X6_19 C hw dX6_next_122 (fun H locs hw => ?_)
  obtain ⟨σ9, eσ9, h⟩ := lt_of h
  rw [← eσ9] at hw
  exact m_vret C hw (Option.some.inj h) dX6_next_125
set_option maxRecDepth 20000 in
theorem w_X6_next_38 {D : va_G} {cy : Nat → ClassId} {ad : Nat → Nat} {p : Program} {l : Launch} {e : Env} {R : Room} {s : State} {m : MethodId} {args : Array Value} {below : List Frame} {meth : Method} {c : Code} (C : Cx 1 D cy ad p R s m args meth c cX6_next 2 RX6 none 3)     {σ : Mem} {H : Heap} {locs : List Loc} {ls : Array Slot} {r : Mem} (hw : Wd 1 D cy ad s σ H locs) (hl : lv_has ls 2 [(0, .ref (ad (1)))]) (h : j_X6_next_38 σ = some r) : W p l e R s m args below meth c H locs 0 0 (QV 1 D cy ad below args s r) (F0 m 38 ls []) := by
  unfold j_X6_next_38 at h
  refine lv_aload_n C.1 C.2.1 dX6_next_38 rfl (lv_at hl 0 rfl) ?_
  refine lv_aload_n C.1 C.2.1 dX6_next_39 rfl (lv_at hl 0 rfl) ?_
  refine gf_X6_19 C hw dX6_next_40 ?_
  refine pf_X6_29 C hw dX6_next_43 (fun H locs hw => ?_)
  obtain ⟨σ5, eσ5, h⟩ := lt_of h
  rw [← eσ5] at hw
  refine lv_aload_n C.1 C.2.1 dX6_next_46 rfl (lv_at hl 0 rfl) ?_
  refine lv_iconst (v := (0 : Int32)) C.1 C.2.1 dX6_next_47 (by decide) ?_
  refine pf_X6_32 C hw dX6_next_48 (fun H locs hw => ?_)
  obtain ⟨σ6, eσ6, h⟩ := lt_of h
  rw [← eσ6] at hw
  refine lv_aload_n C.1 C.2.1 dX6_next_51 rfl (lv_at hl 0 rfl) ?_
  refine lv_aload_n C.1 C.2.1 dX6_next_52 rfl (lv_at hl 0 rfl) ?_
  refine gf_X6_19 C hw dX6_next_53 ?_
  obtain ⟨r7, h1, h⟩ := bS h
  refine go_I hw (run_V (As := [.int _]) C hw (c_X6_byteAt C.2.2.2.2.2.2.2.2.2 _ _ _ h1) mi_X6_byteAt mv_X6_byteAt o1_1 (ci := 6) rfl rfl lk_X6_25 (by decide) (by decide) rfl hl.1 rfl (Nat.le_of_ble_eq_true rfl) dX6_next_56 ⟨Nat.le_refl 0, Nat.le_refl 0⟩) (fun H locs hw => ?_)
  refine lv_istore_n (lv' := [(1, .int _), (0, .ref _)]) C.1 C.2.1 dX6_next_59 rfl hl (by decide) rfl (fun ls hl => ?_)
  refine lv_iload_n C.1 C.2.1 dX6_next_60 rfl (lv_at hl 0 rfl) ?_
  refine lv_if_ge (tgt := 72) C.1 C.2.1 dX6_next_61 (by decide) (fun cd => ?_) (fun cd => ?_)
  · have h := ite_t cd h
    refine lv_iload_n C.1 C.2.1 dX6_next_72 rfl (lv_at hl 0 rfl) ?_
    refine go_I hw (run_S (As := [.int _]) C hw (c_X6_isLetter C.2.2.2.2.2.2.2.2.2 _ _) mi_X6_isLetter ms_X6_isLetter lk_X6_38 (by decide) (by decide) rfl hl.1 rfl (Nat.le_of_ble_eq_true rfl) dX6_next_73 ⟨Nat.le_refl 0, Nat.le_refl 0⟩) (fun H locs hw => ?_)
    refine lv_if_eq (tgt := 86) C.1 C.2.1 dX6_next_76 (by decide) (fun cd => ?_) (fun cd => ?_)
    · have h := ite_t cd h
      refine lv_iload_n C.1 C.2.1 dX6_next_86 rfl (lv_at hl 0 rfl) ?_
      refine go_I hw (run_S (As := [.int _]) C hw (c_X6_isDigit C.2.2.2.2.2.2.2.2.2 _ _) mi_X6_isDigit ms_X6_isDigit lk_X6_45 (by decide) (by decide) rfl hl.1 rfl (Nat.le_of_ble_eq_true rfl) dX6_next_87 ⟨Nat.le_refl 0, Nat.le_refl 0⟩) (fun H locs hw => ?_)
      refine lv_if_eq (tgt := 100) C.1 C.2.1 dX6_next_90 (by decide) (fun cd => ?_) (fun cd => ?_)
      · have h := ite_t cd h
        refine lv_aload_n C.1 C.2.1 dX6_next_100 rfl (lv_at hl 1 rfl) ?_
        refine lv_iload_n C.1 C.2.1 dX6_next_101 rfl (lv_at hl 0 rfl) ?_
        refine lv_bipush (v := (59 : Int32)) C.1 C.2.1 dX6_next_102 (by decide) ?_
        refine lv_icmp_ne (tgt := 111) C.1 C.2.1 dX6_next_104 (by decide) (fun cd => ?_) (fun cd => ?_)
        · have h := ite_f cd h
          refine lv_iconst (v := (5 : Int32)) C.1 C.2.1 dX6_next_111 (by decide) ?_
          exact w_X6_next_112 C hw (lv_sub hl [1] rfl) h
        · have h := ite_t cd h
          refine lv_iconst (v := (4 : Int32)) C.1 C.2.1 dX6_next_107 (by decide) ?_
          refine lv_goto (tgt := 112) C.1 C.2.1 dX6_next_108 (by decide) ?_
          exact w_X6_next_112 C hw (lv_sub hl [1] rfl) h
      · have h := ite_f cd h
        refine lv_aload_n C.1 C.2.1 dX6_next_93 rfl (lv_at hl 1 rfl) ?_
        obtain ⟨r10, h1, h⟩ := bS h
        refine go_V hw (run_V (As := []) C hw (c_X6_readNumber C.2.2.2.2.2.2.2.2.2 _ _ h1) mi_X6_readNumber mv_X6_readNumber o1_1 (ci := 6) rfl rfl lk_X6_48 (by decide) (by decide) rfl hl.1 rfl (Nat.le_of_ble_eq_true rfl) dX6_next_94 ⟨Nat.le_refl 0, Nat.le_refl 0⟩) (fun H locs hw => ?_)
        refine lv_goto (tgt := 125) C.1 C.2.1 dX6_next_97 (by decide) ?_
        exact m_vret C hw (Option.some.inj h) dX6_next_125
    · have h := ite_f cd h
      refine lv_aload_n C.1 C.2.1 dX6_next_79 rfl (lv_at hl 1 rfl) ?_
      obtain ⟨r11, h1, h⟩ := bS h
      refine go_V hw (run_V (As := []) C hw (c_X6_readWord C.2.2.2.2.2.2.2.2.2 _ _ h1) mi_X6_readWord mv_X6_readWord o1_1 (ci := 6) rfl rfl lk_X6_42 (by decide) (by decide) rfl hl.1 rfl (Nat.le_of_ble_eq_true rfl) dX6_next_80 ⟨Nat.le_refl 0, Nat.le_refl 0⟩) (fun H locs hw => ?_)
      refine lv_goto (tgt := 125) C.1 C.2.1 dX6_next_83 (by decide) ?_
      exact m_vret C hw (Option.some.inj h) dX6_next_125
  · have h := ite_f cd h
    refine lv_aload_n C.1 C.2.1 dX6_next_64 rfl (lv_at hl 1 rfl) ?_
    refine lv_iconst (v := (0 : Int32)) C.1 C.2.1 dX6_next_65 (by decide) ?_
    refine pf_X6_35 C hw dX6_next_66 (fun H locs hw => ?_)
    obtain ⟨σ12, eσ12, h⟩ := lt_of h
    rw [← eσ12] at hw
    refine lv_goto (tgt := 125) C.1 C.2.1 dX6_next_69 (by decide) ?_
    exact m_vret C hw (Option.some.inj h) dX6_next_125
set_option maxRecDepth 20000 in
theorem c_X6_next {l : Launch} {D : va_G} {cy : Nat → ClassId} {ad : Nat → Nat} (hj : InjW 1 ad)   (σ : Mem) (r : Mem) (h : f_X6_next σ = some r) : CV 1 D cy ad l yX6_next cX6_next 2 none 3 [.ref (ad (1))] σ r := by
  refine CV.mk (by decide) hj (Nat.le_of_ble_eq_true rfl) (fun p e R s m below meth c ls C hw hl => ?_)
  have hl : lv_has ls 2 [(0, .ref (ad (1)))] := hl
  generalize ([.ref (ad (1))] : List Value).toArray = args at C ⊢
  have C : Cx 1 D cy ad p R s m args meth c cX6_next 2 RX6 none 3 := C
  unfold f_X6_next at h
  refine lv_iconst (v := (0 : Int32)) C.1 C.2.1 dX6_next_0 (by decide) ?_
  refine lv_istore_n (lv' := [(1, .int _), (0, .ref _)]) C.1 C.2.1 dX6_next_1 rfl hl (by decide) rfl (fun ls hl => ?_)
  obtain ⟨r4, hL, h⟩ := bS h
  refine w_X6_next_2 C  hL (fun y0 hr H locs ls hw hl => ?_) _ _ _ hw (lv_sub hl [1, 0] rfl)
  · subst hr
    try dsimp only at h
    try dsimp only at hw
    try dsimp only at hl
    exact w_X6_next_38 C hw (lv_sub hl [0] rfl) h
noncomputable def f_X6_begin  (σ : Mem) : Option Mem :=
  lt (sI σ 1 5 (0 : Int32)) (fun σ1 => (f_X6_next σ1).bind (fun r2 => some r2))
set_option maxRecDepth 20000 in
theorem c_X6_begin {l : Launch} {D : va_G} {cy : Nat → ClassId} {ad : Nat → Nat} (hj : InjW 1 ad)   (σ : Mem) (r : Mem) (h : f_X6_begin σ = some r) : CV 1 D cy ad l yX6_begin cX6_begin 1 none 4 [.ref (ad (1))] σ r := by
  refine CV.mk (by decide) hj (Nat.le_of_ble_eq_true rfl) (fun p e R s m below meth c ls C hw hl => ?_)
  have hl : lv_has ls 1 [(0, .ref (ad (1)))] := hl
  generalize ([.ref (ad (1))] : List Value).toArray = args at C ⊢
  have C : Cx 1 D cy ad p R s m args meth c cX6_begin 1 RX6 none 4 := C
  unfold f_X6_begin at h
  refine lv_aload_n C.1 C.2.1 dX6_begin_0 rfl (lv_at hl 0 rfl) ?_
  refine lv_iconst (v := (0 : Int32)) C.1 C.2.1 dX6_begin_1 (by decide) ?_
  refine pf_X6_19 C hw dX6_begin_2 (fun H locs hw => ?_)
  obtain ⟨σ1, eσ1, h⟩ := lt_of h
  rw [← eσ1] at hw
  refine lv_aload_n C.1 C.2.1 dX6_begin_5 rfl (lv_at hl 0 rfl) ?_
  obtain ⟨r2, h1, h⟩ := bS h
  refine go_V hw (run_V (As := []) C hw (c_X6_next C.2.2.2.2.2.2.2.2.2 _ _ h1) mi_X6_next mv_X6_next o1_1 (ci := 6) rfl rfl lk_X6_22 (by decide) (by decide) rfl hl.1 rfl (Nat.le_of_ble_eq_true rfl) dX6_begin_6 ⟨Nat.le_refl 0, Nat.le_refl 0⟩) (fun H locs hw => ?_)
  exact m_vret C hw (Option.some.inj h) dX6_begin_9
def f_X6_isStateNext  (σ : Mem) : Int32 :=
  if (σ.1 1 3) = (3 : Int32) then (if (f_X8_isState (σ.1 1 4)) = 0 then ((0 : Int32)) else ((1 : Int32))) else ((0 : Int32))
set_option maxRecDepth 20000 in
theorem c_X6_isStateNext {l : Launch} {D : va_G} {cy : Nat → ClassId} {ad : Nat → Nat} (hj : InjW 1 ad)   (σ : Mem) : CI 1 D cy ad l yX6_isStateNext cX6_isStateNext 1 (some .boolean) 1 [.ref (ad (1))] σ (f_X6_isStateNext σ) σ := by
  refine CI.mk (by decide) hj (Nat.le_of_ble_eq_true rfl) (fun p e R s m below meth c ls C hw hl => ?_)
  have hl : lv_has ls 1 [(0, .ref (ad (1)))] := hl
  generalize ([.ref (ad (1))] : List Value).toArray = args at C ⊢
  have C : Cx 1 D cy ad p R s m args meth c cX6_isStateNext 1 RX6 (some .boolean) 1 := C
  obtain ⟨r, h⟩ : ∃ r, f_X6_isStateNext σ = r := ⟨_, rfl⟩
  rw [h]
  unfold f_X6_isStateNext at h
  refine lv_aload_n C.1 C.2.1 dX6_isStateNext_0 rfl (lv_at hl 0 rfl) ?_
  refine gf_X6_35 C hw dX6_isStateNext_1 ?_
  refine lv_iconst (v := (3 : Int32)) C.1 C.2.1 dX6_isStateNext_4 (by decide) ?_
  refine lv_icmp_ne (tgt := 22) C.1 C.2.1 dX6_isStateNext_5 (by decide) (fun cd => ?_) (fun cd => ?_)
  · have h := ite_f cd h
    refine lv_iconst (v := (0 : Int32)) C.1 C.2.1 dX6_isStateNext_22 (by decide) ?_
    exact m_zret C hw (by decide) ⟨h, rfl⟩ dX6_isStateNext_23
  · have h := ite_t cd h
    refine lv_aload_n C.1 C.2.1 dX6_isStateNext_8 rfl (lv_at hl 0 rfl) ?_
    refine gf_X6_32 C hw dX6_isStateNext_9 ?_
    refine go_I hw (run_SN (As := [.int _]) C hw (c_X8_isState C.2.2.2.2.2.2.2.2.2 _ _) mi_X8_isState ms_X8_isState lk_X6_51 (by decide) (by decide) rfl hl.1 rfl (Nat.le_of_ble_eq_true rfl) dX6_isStateNext_12 ⟨Nat.le_refl 0, Nat.le_refl 0⟩) (fun H locs hw => ?_)
    refine lv_if_eq (tgt := 22) C.1 C.2.1 dX6_isStateNext_15 (by decide) (fun cd => ?_) (fun cd => ?_)
    · have h := ite_t cd h
      refine lv_iconst (v := (0 : Int32)) C.1 C.2.1 dX6_isStateNext_22 (by decide) ?_
      exact m_zret C hw (by decide) ⟨h, rfl⟩ dX6_isStateNext_23
    · have h := ite_f cd h
      refine lv_iconst (v := (1 : Int32)) C.1 C.2.1 dX6_isStateNext_18 (by decide) ?_
      refine lv_goto (tgt := 23) C.1 C.2.1 dX6_isStateNext_19 (by decide) ?_
      exact m_zret C hw (by decide) ⟨h, rfl⟩ dX6_isStateNext_23
noncomputable def j_X3_readRule_98 (t0 : Nat) (v2 : Int32) (σ : Mem) : Option (Int32 × Mem) :=
  if (f_X6_isStateNext σ) = 0 then (some ((0 : Int32), σ)) else (gd (ix v2 16) (lt (sI σ (t0 + 4) v2.toNatClampNeg (σ.1 1 4)) (fun σ7 => (f_X6_next σ7).bind (fun r8 => lt (sI r8 t0 4 ((r8.1 t0 4) + (1 : Int32))) (fun σ9 => some ((1 : Int32), σ9))))))
noncomputable def j_X3_readRule_67 (t0 : Nat) (v2 : Int32) (v3 : Int32) (σ : Mem) : Option (Int32 × Mem) :=
  if (f_X8_armsOf v3) ≤ (1 : Int32) then (j_X3_readRule_98 t0 v2 σ) else (if (f_X6_isStateNext σ) = 0 then (some ((0 : Int32), σ)) else (gd (ix v2 16) (lt (sI σ (t0 + 3) v2.toNatClampNeg (σ.1 1 4)) (fun σ10 => (f_X6_next σ10).bind (fun r11 => j_X3_readRule_98 t0 v2 r11)))))
noncomputable def f_X3_readRule (t0 : Nat) (σ : Mem) : Option (Int32 × Mem) :=
  lt (σ.1 t0 4) (fun x1 => lt (σ.1 1 4) (fun x2 => gd (ix x1 16) (lt (sI σ (t0 + 1) x1.toNatClampNeg x2) (fun σ3 => gd (ix x1 16) (lt (sI σ3 (t0 + 2) x1.toNatClampNeg (-9 : Int32)) (fun σ4 => gd (ix x1 16) (lt (sI σ4 (t0 + 3) x1.toNatClampNeg (-9 : Int32)) (fun σ5 => (f_X6_next σ5).bind (fun r6 => if (f_X8_armsOf x2) ≤ 0 then (j_X3_readRule_67 t0 x1 x2 r6) else (if (f_X6_isStateNext r6) = 0 then (some ((0 : Int32), r6)) else (gd (ix x1 16) (lt (sI r6 (t0 + 2) x1.toNatClampNeg (r6.1 1 4)) (fun σ12 => (f_X6_next σ12).bind (fun r13 => j_X3_readRule_67 t0 x1 x2 r13))))))))))))))
set_option maxRecDepth 20000 in
theorem w_X3_readRule_98 {D : va_G} {cy : Nat → ClassId} {ad : Nat → Nat} {p : Program} {l : Launch} {e : Env} {R : Room} {s : State} {m : MethodId} {args : Array Value} {below : List Frame} {meth : Method} {c : Code} (C : Cx 1 D cy ad p R s m args meth c cX3_readRule 4 RX3 (some .boolean) 4) {t0 : Nat} (ht0 : IsO 1 t0 3) {v2 : Int32}  {σ : Mem} {H : Heap} {locs : List Loc} {ls : Array Slot} {r : (Int32 × Mem)} (hw : Wd 1 D cy ad s σ H locs) (hl : lv_has ls 4 [(0, .ref (ad (t0))), (1, .ref (ad (1))), (2, .int v2)]) (h : j_X3_readRule_98 t0 v2 σ = some r) : W p l e R s m args below meth c H locs 0 0 (QI 1 D cy ad below args s r.1 r.2) (F0 m 98 ls []) := by
  unfold j_X3_readRule_98 at h
  refine lv_aload_n C.1 C.2.1 dX3_readRule_98 rfl (lv_at hl 1 rfl) ?_
  refine go_I hw (run_V (As := []) C hw (c_X6_isStateNext C.2.2.2.2.2.2.2.2.2 _) mi_X6_isStateNext mv_X6_isStateNext o1_1 (ci := 6) rfl rfl lk_X3_62 (by decide) (by decide) rfl hl.1 rfl (Nat.le_of_ble_eq_true rfl) dX3_readRule_99 ⟨Nat.le_refl 0, Nat.le_refl 0⟩) (fun H locs hw => ?_)
  refine lv_if_ne (tgt := 107) C.1 C.2.1 dX3_readRule_102 (by decide) (fun cd => ?_) (fun cd => ?_)
  · have h := ite_f cd h
    refine lv_aload_n C.1 C.2.1 dX3_readRule_107 rfl (lv_at hl 0 rfl) ?_
    refine gf_X3_21 C hw ht0 dX3_readRule_108 ?_
    refine lv_iload_n C.1 C.2.1 dX3_readRule_111 rfl (lv_at hl 2 rfl) ?_
    refine lv_aload_n C.1 C.2.1 dX3_readRule_112 rfl (lv_at hl 1 rfl) ?_
    refine gf_X3_55 C hw dX3_readRule_113 ?_
    obtain ⟨hin, h⟩ := gd_of h
    refine m_iast C hw (lawA3 ht0) hin dX3_readRule_116 (fun H locs hw => ?_)
    obtain ⟨σ7, eσ7, h⟩ := lt_of h
    rw [← eσ7] at hw
    refine lv_aload_n C.1 C.2.1 dX3_readRule_117 rfl (lv_at hl 1 rfl) ?_
    obtain ⟨r8, h1, h⟩ := bS h
    refine go_V hw (run_V (As := []) C hw (c_X6_next C.2.2.2.2.2.2.2.2.2 _ _ h1) mi_X6_next mv_X6_next o1_1 (ci := 6) rfl rfl lk_X3_46 (by decide) (by decide) rfl hl.1 rfl (Nat.le_of_ble_eq_true rfl) dX3_readRule_118 ⟨Nat.le_refl 0, Nat.le_refl 0⟩) (fun H locs hw => ?_)
    refine lv_aload_n C.1 C.2.1 dX3_readRule_121 rfl (lv_at hl 0 rfl) ?_
    refine lv_dup C.1 C.2.1 dX3_readRule_122 rfl ?_
    refine gf_X3_24 C hw ht0 dX3_readRule_123 ?_
    refine lv_iconst (v := (1 : Int32)) C.1 C.2.1 dX3_readRule_126 (by decide) ?_
    refine lv_iadd C.1 C.2.1 dX3_readRule_127 ?_
    refine pf_X3_24 C hw ht0 dX3_readRule_128 (fun H locs hw => ?_)
    obtain ⟨σ9, eσ9, h⟩ := lt_of h
    rw [← eσ9] at hw
    refine lv_iconst (v := (1 : Int32)) C.1 C.2.1 dX3_readRule_131 (by decide) ?_
    exact m_zret C hw (by decide) (ret_p h) dX3_readRule_132
  · have h := ite_t cd h
    refine lv_iconst (v := (0 : Int32)) C.1 C.2.1 dX3_readRule_105 (by decide) ?_
    exact m_zret C hw (by decide) (ret_p h) dX3_readRule_106
set_option maxRecDepth 20000 in
theorem w_X3_readRule_67 {D : va_G} {cy : Nat → ClassId} {ad : Nat → Nat} {p : Program} {l : Launch} {e : Env} {R : Room} {s : State} {m : MethodId} {args : Array Value} {below : List Frame} {meth : Method} {c : Code} (C : Cx 1 D cy ad p R s m args meth c cX3_readRule 4 RX3 (some .boolean) 4) {t0 : Nat} (ht0 : IsO 1 t0 3) {v2 : Int32} {v3 : Int32}  {σ : Mem} {H : Heap} {locs : List Loc} {ls : Array Slot} {r : (Int32 × Mem)} (hw : Wd 1 D cy ad s σ H locs) (hl : lv_has ls 4 [(0, .ref (ad (t0))), (1, .ref (ad (1))), (2, .int v2), (3, .int v3)]) (h : j_X3_readRule_67 t0 v2 v3 σ = some r) : W p l e R s m args below meth c H locs 0 0 (QI 1 D cy ad below args s r.1 r.2) (F0 m 67 ls []) := by
  unfold j_X3_readRule_67 at h
  refine lv_iload_n C.1 C.2.1 dX3_readRule_67 rfl (lv_at hl 3 rfl) ?_
  refine go_I hw (run_SN (As := [.int _]) C hw (c_X8_armsOf C.2.2.2.2.2.2.2.2.2 _ _) mi_X8_armsOf ms_X8_armsOf lk_X3_58 (by decide) (by decide) rfl hl.1 rfl (Nat.le_of_ble_eq_true rfl) dX3_readRule_68 ⟨Nat.le_refl 0, Nat.le_refl 0⟩) (fun H locs hw => ?_)
  refine lv_iconst (v := (1 : Int32)) C.1 C.2.1 dX3_readRule_71 (by decide) ?_
  refine lv_icmp_le (tgt := 98) C.1 C.2.1 dX3_readRule_72 (by decide) (fun cd => ?_) (fun cd => ?_)
  · have h := ite_t cd h
    exact w_X3_readRule_98 C ht0 hw (lv_sub hl [0, 1, 2] rfl) h
  · have h := ite_f cd h
    refine lv_aload_n C.1 C.2.1 dX3_readRule_75 rfl (lv_at hl 1 rfl) ?_
    refine go_I hw (run_V (As := []) C hw (c_X6_isStateNext C.2.2.2.2.2.2.2.2.2 _) mi_X6_isStateNext mv_X6_isStateNext o1_1 (ci := 6) rfl rfl lk_X3_62 (by decide) (by decide) rfl hl.1 rfl (Nat.le_of_ble_eq_true rfl) dX3_readRule_76 ⟨Nat.le_refl 0, Nat.le_refl 0⟩) (fun H locs hw => ?_)
    refine lv_if_ne (tgt := 84) C.1 C.2.1 dX3_readRule_79 (by decide) (fun cd => ?_) (fun cd => ?_)
    · have h := ite_f cd h
      refine lv_aload_n C.1 C.2.1 dX3_readRule_84 rfl (lv_at hl 0 rfl) ?_
      refine gf_X3_18 C hw ht0 dX3_readRule_85 ?_
      refine lv_iload_n C.1 C.2.1 dX3_readRule_88 rfl (lv_at hl 2 rfl) ?_
      refine lv_aload_n C.1 C.2.1 dX3_readRule_89 rfl (lv_at hl 1 rfl) ?_
      refine gf_X3_55 C hw dX3_readRule_90 ?_
      obtain ⟨hin, h⟩ := gd_of h
      refine m_iast C hw (lawA2 ht0) hin dX3_readRule_93 (fun H locs hw => ?_)
      obtain ⟨σ10, eσ10, h⟩ := lt_of h
      rw [← eσ10] at hw
      refine lv_aload_n C.1 C.2.1 dX3_readRule_94 rfl (lv_at hl 1 rfl) ?_
      obtain ⟨r11, h1, h⟩ := bS h
      refine go_V hw (run_V (As := []) C hw (c_X6_next C.2.2.2.2.2.2.2.2.2 _ _ h1) mi_X6_next mv_X6_next o1_1 (ci := 6) rfl rfl lk_X3_46 (by decide) (by decide) rfl hl.1 rfl (Nat.le_of_ble_eq_true rfl) dX3_readRule_95 ⟨Nat.le_refl 0, Nat.le_refl 0⟩) (fun H locs hw => ?_)
      exact w_X3_readRule_98 C ht0 hw (lv_sub hl [0, 1, 2] rfl) h
    · have h := ite_t cd h
      refine lv_iconst (v := (0 : Int32)) C.1 C.2.1 dX3_readRule_82 (by decide) ?_
      exact m_zret C hw (by decide) (ret_p h) dX3_readRule_83
set_option maxRecDepth 20000 in
theorem c_X3_readRule {l : Launch} {D : va_G} {cy : Nat → ClassId} {ad : Nat → Nat} (hj : InjW 1 ad) (t0 : Nat) (ht0 : IsO 1 t0 3) (σ : Mem) (r : (Int32 × Mem)) (h : f_X3_readRule t0 σ = some r) : CI 1 D cy ad l yX3_readRule cX3_readRule 4 (some .boolean) 4 [.ref (ad (t0)), .ref (ad (1))] σ r.1 r.2 := by
  refine CI.mk (by decide) hj (Nat.le_of_ble_eq_true rfl) (fun p e R s m below meth c ls C hw hl => ?_)
  have hl : lv_has ls 4 [(0, .ref (ad (t0))), (1, .ref (ad (1)))] := hl
  generalize ([.ref (ad (t0)), .ref (ad (1))] : List Value).toArray = args at C ⊢
  have C : Cx 1 D cy ad p R s m args meth c cX3_readRule 4 RX3 (some .boolean) 4 := C
  unfold f_X3_readRule at h
  refine lv_aload_n C.1 C.2.1 dX3_readRule_0 rfl (lv_at hl 0 rfl) ?_
  refine gf_X3_24 C hw ht0 dX3_readRule_1 ?_
  obtain ⟨x1, ex1, h⟩ := lt_of h
  refine m_topi ex1 ?_
  refine lv_istore_n (lv' := [(2, .int _), (0, .ref _), (1, .ref _)]) C.1 C.2.1 dX3_readRule_4 rfl hl (by decide) rfl (fun ls hl => ?_)
  refine lv_aload_n C.1 C.2.1 dX3_readRule_5 rfl (lv_at hl 2 rfl) ?_
  refine gf_X3_55 C hw dX3_readRule_6 ?_
  obtain ⟨x2, ex2, h⟩ := lt_of h
  refine m_topi ex2 ?_
  refine lv_istore_n (lv' := [(3, .int _), (2, .int _), (0, .ref _), (1, .ref _)]) C.1 C.2.1 dX3_readRule_9 rfl hl (by decide) rfl (fun ls hl => ?_)
  refine lv_aload_n C.1 C.2.1 dX3_readRule_10 rfl (lv_at hl 2 rfl) ?_
  refine gf_X3_9 C hw ht0 dX3_readRule_11 ?_
  refine lv_iload_n C.1 C.2.1 dX3_readRule_14 rfl (lv_at hl 1 rfl) ?_
  refine lv_iload_n C.1 C.2.1 dX3_readRule_15 rfl (lv_at hl 0 rfl) ?_
  obtain ⟨hin, h⟩ := gd_of h
  refine m_iast C hw (lawA0 ht0) hin dX3_readRule_16 (fun H locs hw => ?_)
  obtain ⟨σ3, eσ3, h⟩ := lt_of h
  rw [← eσ3] at hw
  refine lv_aload_n C.1 C.2.1 dX3_readRule_17 rfl (lv_at hl 2 rfl) ?_
  refine gf_X3_15 C hw ht0 dX3_readRule_18 ?_
  refine lv_iload_n C.1 C.2.1 dX3_readRule_21 rfl (lv_at hl 1 rfl) ?_
  refine lv_bipush (v := (-9 : Int32)) C.1 C.2.1 dX3_readRule_22 (by decide) ?_
  obtain ⟨hin, h⟩ := gd_of h
  refine m_iast C hw (lawA1 ht0) hin dX3_readRule_24 (fun H locs hw => ?_)
  obtain ⟨σ4, eσ4, h⟩ := lt_of h
  rw [← eσ4] at hw
  refine lv_aload_n C.1 C.2.1 dX3_readRule_25 rfl (lv_at hl 2 rfl) ?_
  refine gf_X3_18 C hw ht0 dX3_readRule_26 ?_
  refine lv_iload_n C.1 C.2.1 dX3_readRule_29 rfl (lv_at hl 1 rfl) ?_
  refine lv_bipush (v := (-9 : Int32)) C.1 C.2.1 dX3_readRule_30 (by decide) ?_
  obtain ⟨hin, h⟩ := gd_of h
  refine m_iast C hw (lawA2 ht0) hin dX3_readRule_32 (fun H locs hw => ?_)
  obtain ⟨σ5, eσ5, h⟩ := lt_of h
  rw [← eσ5] at hw
  refine lv_aload_n C.1 C.2.1 dX3_readRule_33 rfl (lv_at hl 3 rfl) ?_
  obtain ⟨r6, h1, h⟩ := bS h
  refine go_V hw (run_V (As := []) C hw (c_X6_next C.2.2.2.2.2.2.2.2.2 _ _ h1) mi_X6_next mv_X6_next o1_1 (ci := 6) rfl rfl lk_X3_46 (by decide) (by decide) rfl hl.1 rfl (Nat.le_of_ble_eq_true rfl) dX3_readRule_34 ⟨Nat.le_refl 0, Nat.le_refl 0⟩) (fun H locs hw => ?_)
  refine lv_iload_n C.1 C.2.1 dX3_readRule_37 rfl (lv_at hl 0 rfl) ?_
  refine go_I hw (run_SN (As := [.int _]) C hw (c_X8_armsOf C.2.2.2.2.2.2.2.2.2 _ _) mi_X8_armsOf ms_X8_armsOf lk_X3_58 (by decide) (by decide) rfl hl.1 rfl (Nat.le_of_ble_eq_true rfl) dX3_readRule_38 ⟨Nat.le_refl 0, Nat.le_refl 0⟩) (fun H locs hw => ?_)
  refine lv_if_le (tgt := 67) C.1 C.2.1 dX3_readRule_41 (by decide) (fun cd => ?_) (fun cd => ?_)
  · have h := ite_t cd h
    exact w_X3_readRule_67 C ht0 hw (lv_sub hl [2, 3, 1, 0] rfl) h
  · have h := ite_f cd h
    refine lv_aload_n C.1 C.2.1 dX3_readRule_44 rfl (lv_at hl 3 rfl) ?_
    refine go_I hw (run_V (As := []) C hw (c_X6_isStateNext C.2.2.2.2.2.2.2.2.2 _) mi_X6_isStateNext mv_X6_isStateNext o1_1 (ci := 6) rfl rfl lk_X3_62 (by decide) (by decide) rfl hl.1 rfl (Nat.le_of_ble_eq_true rfl) dX3_readRule_45 ⟨Nat.le_refl 0, Nat.le_refl 0⟩) (fun H locs hw => ?_)
    refine lv_if_ne (tgt := 53) C.1 C.2.1 dX3_readRule_48 (by decide) (fun cd => ?_) (fun cd => ?_)
    · have h := ite_f cd h
      refine lv_aload_n C.1 C.2.1 dX3_readRule_53 rfl (lv_at hl 2 rfl) ?_
      refine gf_X3_15 C hw ht0 dX3_readRule_54 ?_
      refine lv_iload_n C.1 C.2.1 dX3_readRule_57 rfl (lv_at hl 1 rfl) ?_
      refine lv_aload_n C.1 C.2.1 dX3_readRule_58 rfl (lv_at hl 3 rfl) ?_
      refine gf_X3_55 C hw dX3_readRule_59 ?_
      obtain ⟨hin, h⟩ := gd_of h
      refine m_iast C hw (lawA1 ht0) hin dX3_readRule_62 (fun H locs hw => ?_)
      obtain ⟨σ12, eσ12, h⟩ := lt_of h
      rw [← eσ12] at hw
      refine lv_aload_n C.1 C.2.1 dX3_readRule_63 rfl (lv_at hl 3 rfl) ?_
      obtain ⟨r13, h1, h⟩ := bS h
      refine go_V hw (run_V (As := []) C hw (c_X6_next C.2.2.2.2.2.2.2.2.2 _ _ h1) mi_X6_next mv_X6_next o1_1 (ci := 6) rfl rfl lk_X3_46 (by decide) (by decide) rfl hl.1 rfl (Nat.le_of_ble_eq_true rfl) dX3_readRule_64 ⟨Nat.le_refl 0, Nat.le_refl 0⟩) (fun H locs hw => ?_)
      exact w_X3_readRule_67 C ht0 hw (lv_sub hl [2, 3, 1, 0] rfl) h
    · have h := ite_t cd h
      refine lv_iconst (v := (0 : Int32)) C.1 C.2.1 dX3_readRule_51 (by decide) ?_
      exact m_zret C hw (by decide) (ret_p h) dX3_readRule_52
noncomputable def b_X3_readGood_15 (t0 : Nat) (v2 : Int32) (σ : Mem) : Option ((Int32 × Mem) ⊕ Mem) :=
  if (300 : Int32) ≤ v2 then (some (.inr σ)) else (if (f_X6_isStateNext σ) = 0 then (some (.inr σ)) else (lt (sI σ t0 5 ((σ.1 t0 5) ||| ((1 : Int32) <<< ((σ.1 1 4) &&& 31)))) (fun σ2 => (f_X6_next σ2).bind (fun r3 => lt (v2 + (1 : Int32)) (fun x4 => some (.inl (x4, r3)))))))
noncomputable def f_X3_readGood (t0 : Nat) (σ : Mem) : Option (Int32 × Mem) :=
  (f_X6_next σ).bind (fun r1 => if (f_X6_isStateNext r1) = 0 then (some ((0 : Int32), r1)) else ((Lim (T := Mem) (fun s => b_X3_readGood_15 t0 s.1 s.2) ((0 : Int32), r1)).bind (fun r5 => some ((1 : Int32), r5))))
set_option maxRecDepth 20000 in
theorem w_X3_readGood_15 {D : va_G} {cy : Nat → ClassId} {ad : Nat → Nat} {p : Program} {l : Launch} {e : Env} {R : Room} {s : State} {m : MethodId} {args : Array Value} {below : List Frame} {meth : Method} {c : Code} (C : Cx 1 D cy ad p R s m args meth c cX3_readGood 3 RX3 (some .boolean) 4) {t0 : Nat} (ht0 : IsO 1 t0 3) {v2 : Int32} {σ : Mem} {Q : State → Prop} {r : Mem} (hL : Lim (T := Mem) (fun s => b_X3_readGood_15 t0 s.1 s.2) (v2, σ) = some r) (hE0 : ∀ (σ1 : Mem), (σ1 : Mem) = r → ∀ (H : Heap) (locs : List Loc) (ls : Array Slot), Wd 1 D cy ad s σ1 H locs → lv_has ls 3 [] → W p l e R s m args below meth c H locs 0 0 Q (F0 m 54 ls [])) (H : Heap) (locs : List Loc) (ls : Array Slot) (hw : Wd 1 D cy ad s σ H locs) (hl : lv_has ls 3 [(0, .ref (ad (t0))), (1, .ref (ad (1))), (2, .int v2)]) : W p l e R s m args below meth c H locs 0 0 Q (F0 m 15 ls []) := by
  refine Lim_ind hL (P := fun u => ∀ (H : Heap) (locs : List Loc) (ls : Array Slot), Wd 1 D cy ad s u.2 H locs → lv_has ls 3 [(0, .ref (ad (t0))), (1, .ref (ad (1))), (2, .int u.1)] → W p l e R s m args below meth c H locs 0 0 Q (F0 m 15 ls [])) (fun u x h hx H locs ls hw hl => ?_) H locs ls hw hl
  clear hL
  obtain ⟨v2, σ⟩ := u
  have h : b_X3_readGood_15 t0 v2 σ = some x := h
  have hw : Wd 1 D cy ad s σ H locs := hw
  have hl : lv_has ls 3 [(0, .ref (ad (t0))), (1, .ref (ad (1))), (2, .int v2)] := hl
  have hP : ∀ (u : (Int32 × Mem)), (∀ (H : Heap) (locs : List Loc) (ls : Array Slot), Wd 1 D cy ad s u.2 H locs → lv_has ls 3 [(0, .ref (ad (t0))), (1, .ref (ad (1))), (2, .int u.1)] → W p l e R s m args below meth c H locs 0 0 Q (F0 m 15 ls [])) → ∀ (H : Heap) (locs : List Loc) (ls : Array Slot), Wd 1 D cy ad s u.2 H locs → lv_has ls 3 [(0, .ref (ad (t0))), (1, .ref (ad (1))), (2, .int u.1)] → W p l e R s m args below meth c H locs 0 0 Q (F0 m 15 ls []) := fun _ k => k
  unfold b_X3_readGood_15 at h
  refine lv_iload_n C.1 C.2.1 dX3_readGood_15 rfl (lv_at hl 2 rfl) ?_
  refine lv_sipush (v := (300 : Int32)) C.1 C.2.1 dX3_readGood_16 (by decide) ?_
  refine lv_icmp_ge (tgt := 54) C.1 C.2.1 dX3_readGood_19 (by decide) (fun cd => ?_) (fun cd => ?_)
  · have h := ite_t cd h
    obtain rfl := Option.some.inj h
    exact hE0 _ hx _ _ _ hw (lv_sub hl [] rfl)
  · have h := ite_f cd h
    refine lv_aload_n C.1 C.2.1 dX3_readGood_22 rfl (lv_at hl 1 rfl) ?_
    refine go_I hw (run_V (As := []) C hw (c_X6_isStateNext C.2.2.2.2.2.2.2.2.2 _) mi_X6_isStateNext mv_X6_isStateNext o1_1 (ci := 6) rfl rfl lk_X3_62 (by decide) (by decide) rfl hl.1 rfl (Nat.le_of_ble_eq_true rfl) dX3_readGood_23 ⟨Nat.le_refl 0, Nat.le_refl 0⟩) (fun H locs hw => ?_)
    refine lv_if_eq (tgt := 54) C.1 C.2.1 dX3_readGood_26 (by decide) (fun cd => ?_) (fun cd => ?_)
    · have h := ite_t cd h
      obtain rfl := Option.some.inj h
      exact hE0 _ hx _ _ _ hw (lv_sub hl [] rfl)
    · have h := ite_f cd h
      refine lv_aload_n C.1 C.2.1 dX3_readGood_29 rfl (lv_at hl 0 rfl) ?_
      refine lv_dup C.1 C.2.1 dX3_readGood_30 rfl ?_
      refine gf_X3_28 C hw ht0 dX3_readGood_31 ?_
      refine lv_iconst (v := (1 : Int32)) C.1 C.2.1 dX3_readGood_34 (by decide) ?_
      refine lv_aload_n C.1 C.2.1 dX3_readGood_35 rfl (lv_at hl 1 rfl) ?_
      refine gf_X3_55 C hw dX3_readGood_36 ?_
      refine lv_ishl C.1 C.2.1 dX3_readGood_39 ?_
      refine lv_ior C.1 C.2.1 dX3_readGood_40 ?_
      refine pf_X3_28 C hw ht0 dX3_readGood_41 (fun H locs hw => ?_)
      obtain ⟨σ2, eσ2, h⟩ := lt_of h
      rw [← eσ2] at hw
      refine lv_aload_n C.1 C.2.1 dX3_readGood_44 rfl (lv_at hl 1 rfl) ?_
      obtain ⟨r3, h1, h⟩ := bS h
      refine go_V hw (run_V (As := []) C hw (c_X6_next C.2.2.2.2.2.2.2.2.2 _ _ h1) mi_X6_next mv_X6_next o1_1 (ci := 6) rfl rfl lk_X3_46 (by decide) (by decide) rfl hl.1 rfl (Nat.le_of_ble_eq_true rfl) dX3_readGood_45 ⟨Nat.le_refl 0, Nat.le_refl 0⟩) (fun H locs hw => ?_)
      obtain ⟨x4, ex4, h⟩ := lt_of h
      refine m_iinc (k := 2) (lv' := [(2, .int _), (0, .ref _), (1, .ref _)]) C (1 : Int32) (by decide) dX3_readGood_48 hl rfl ex4.symm (by decide) rfl (fun ls hl => ?_)
      refine lv_goto (tgt := 15) C.1 C.2.1 dX3_readGood_51 (by decide) ?_
      obtain rfl := Option.some.inj h
      exact hP _ hx _ _ _ hw (lv_sub hl [1, 2, 0] rfl)
set_option maxRecDepth 20000 in
theorem c_X3_readGood {l : Launch} {D : va_G} {cy : Nat → ClassId} {ad : Nat → Nat} (hj : InjW 1 ad) (t0 : Nat) (ht0 : IsO 1 t0 3) (σ : Mem) (r : (Int32 × Mem)) (h : f_X3_readGood t0 σ = some r) : CI 1 D cy ad l yX3_readGood cX3_readGood 3 (some .boolean) 4 [.ref (ad (t0)), .ref (ad (1))] σ r.1 r.2 := by
  refine CI.mk (by decide) hj (Nat.le_of_ble_eq_true rfl) (fun p e R s m below meth c ls C hw hl => ?_)
  have hl : lv_has ls 3 [(0, .ref (ad (t0))), (1, .ref (ad (1)))] := hl
  generalize ([.ref (ad (t0)), .ref (ad (1))] : List Value).toArray = args at C ⊢
  have C : Cx 1 D cy ad p R s m args meth c cX3_readGood 3 RX3 (some .boolean) 4 := C
  unfold f_X3_readGood at h
  refine lv_aload_n C.1 C.2.1 dX3_readGood_0 rfl (lv_at hl 1 rfl) ?_
  obtain ⟨r1, h1, h⟩ := bS h
  refine go_V hw (run_V (As := []) C hw (c_X6_next C.2.2.2.2.2.2.2.2.2 _ _ h1) mi_X6_next mv_X6_next o1_1 (ci := 6) rfl rfl lk_X3_46 (by decide) (by decide) rfl hl.1 rfl (Nat.le_of_ble_eq_true rfl) dX3_readGood_1 ⟨Nat.le_refl 0, Nat.le_refl 0⟩) (fun H locs hw => ?_)
  refine lv_aload_n C.1 C.2.1 dX3_readGood_4 rfl (lv_at hl 1 rfl) ?_
  refine go_I hw (run_V (As := []) C hw (c_X6_isStateNext C.2.2.2.2.2.2.2.2.2 _) mi_X6_isStateNext mv_X6_isStateNext o1_1 (ci := 6) rfl rfl lk_X3_62 (by decide) (by decide) rfl hl.1 rfl (Nat.le_of_ble_eq_true rfl) dX3_readGood_5 ⟨Nat.le_refl 0, Nat.le_refl 0⟩) (fun H locs hw => ?_)
  refine lv_if_ne (tgt := 13) C.1 C.2.1 dX3_readGood_8 (by decide) (fun cd => ?_) (fun cd => ?_)
  · have h := ite_f cd h
    refine lv_iconst (v := (0 : Int32)) C.1 C.2.1 dX3_readGood_13 (by decide) ?_
    refine lv_istore_n (lv' := [(2, .int _), (0, .ref _), (1, .ref _)]) C.1 C.2.1 dX3_readGood_14 rfl hl (by decide) rfl (fun ls hl => ?_)
    obtain ⟨r5, hL, h⟩ := bS h
    refine w_X3_readGood_15 C ht0  hL (fun y0 hr H locs ls hw hl => ?_) _ _ _ hw (lv_sub hl [1, 2, 0] rfl)
    · subst hr
      try dsimp only at h
      try dsimp only at hw
      try dsimp only at hl
      refine lv_iconst (v := (1 : Int32)) C.1 C.2.1 dX3_readGood_54 (by decide) ?_
      exact m_zret C hw (by decide) (ret_p h) dX3_readGood_55
  · have h := ite_t cd h
    refine lv_iconst (v := (0 : Int32)) C.1 C.2.1 dX3_readGood_11 (by decide) ?_
    exact m_zret C hw (by decide) (ret_p h) dX3_readGood_12
noncomputable def f_X3_readItem (t0 : Nat) (σ : Mem) : Option (Int32 × Mem) :=
  if (σ.1 1 3) = (1 : Int32) then (if (16 : Int32) ≤ (σ.1 t0 4) then (some ((0 : Int32), σ)) else ((f_X3_readRule t0 σ).bind (fun r2 => if r2.1 = 0 then (some ((0 : Int32), r2.2)) else (some ((1 : Int32), r2.2))))) else (if (σ.1 1 3) = (2 : Int32) then ((f_X3_readGood t0 σ).bind (fun r1 => if r1.1 = 0 then (some ((0 : Int32), r1.2)) else (some ((1 : Int32), r1.2)))) else (some ((0 : Int32), σ)))
set_option maxRecDepth 20000 in
theorem c_X3_readItem {l : Launch} {D : va_G} {cy : Nat → ClassId} {ad : Nat → Nat} (hj : InjW 1 ad) (t0 : Nat) (ht0 : IsO 1 t0 3) (σ : Mem) (r : (Int32 × Mem)) (h : f_X3_readItem t0 σ = some r) : CI 1 D cy ad l yX3_readItem cX3_readItem 2 (some .boolean) 5 [.ref (ad (t0)), .ref (ad (1))] σ r.1 r.2 := by
  refine CI.mk (by decide) hj (Nat.le_of_ble_eq_true rfl) (fun p e R s m below meth c ls C hw hl => ?_)
  have hl : lv_has ls 2 [(0, .ref (ad (t0))), (1, .ref (ad (1)))] := hl
  generalize ([.ref (ad (t0)), .ref (ad (1))] : List Value).toArray = args at C ⊢
  have C : Cx 1 D cy ad p R s m args meth c cX3_readItem 2 RX3 (some .boolean) 5 := C
  unfold f_X3_readItem at h
  refine lv_aload_n C.1 C.2.1 dX3_readItem_0 rfl (lv_at hl 1 rfl) ?_
  refine gf_X3_36 C hw dX3_readItem_1 ?_
  refine lv_iconst (v := (1 : Int32)) C.1 C.2.1 dX3_readItem_4 (by decide) ?_
  refine lv_icmp_ne (tgt := 31) C.1 C.2.1 dX3_readItem_5 (by decide) (fun cd => ?_) (fun cd => ?_)
  · have h := ite_f cd h
    refine lv_aload_n C.1 C.2.1 dX3_readItem_31 rfl (lv_at hl 1 rfl) ?_
    refine gf_X3_36 C hw dX3_readItem_32 ?_
    refine lv_iconst (v := (2 : Int32)) C.1 C.2.1 dX3_readItem_35 (by decide) ?_
    refine lv_icmp_ne (tgt := 51) C.1 C.2.1 dX3_readItem_36 (by decide) (fun cd => ?_) (fun cd => ?_)
    · have h := ite_f cd h
      refine lv_iconst (v := (0 : Int32)) C.1 C.2.1 dX3_readItem_51 (by decide) ?_
      exact m_zret C hw (by decide) (ret_p h) dX3_readItem_52
    · have h := ite_t cd h
      refine lv_aload_n C.1 C.2.1 dX3_readItem_39 rfl (lv_at hl 0 rfl) ?_
      refine lv_aload_n C.1 C.2.1 dX3_readItem_40 rfl (lv_at hl 1 rfl) ?_
      obtain ⟨r1, h1, h⟩ := bS h
      refine go_I hw (run_V (As := [.ref _]) C hw (c_X3_readGood C.2.2.2.2.2.2.2.2.2 _ ht0 _ _ h1) mi_X3_readGood mv_X3_readGood ht0 (ci := 3) rfl rfl lk_X3_52 (by decide) (by decide) rfl hl.1 rfl (Nat.le_of_ble_eq_true rfl) dX3_readItem_41 ⟨Nat.le_refl 0, Nat.le_refl 0⟩) (fun H locs hw => ?_)
      refine lv_if_eq (tgt := 51) C.1 C.2.1 dX3_readItem_44 (by decide) (fun cd => ?_) (fun cd => ?_)
      · have h := ite_t cd h
        refine lv_iconst (v := (0 : Int32)) C.1 C.2.1 dX3_readItem_51 (by decide) ?_
        exact m_zret C hw (by decide) (ret_p h) dX3_readItem_52
      · have h := ite_f cd h
        refine lv_iconst (v := (1 : Int32)) C.1 C.2.1 dX3_readItem_47 (by decide) ?_
        refine lv_goto (tgt := 52) C.1 C.2.1 dX3_readItem_48 (by decide) ?_
        exact m_zret C hw (by decide) (ret_p h) dX3_readItem_52
  · have h := ite_t cd h
    refine lv_aload_n C.1 C.2.1 dX3_readItem_8 rfl (lv_at hl 0 rfl) ?_
    refine gf_X3_24 C hw ht0 dX3_readItem_9 ?_
    refine lv_bipush (v := (16 : Int32)) C.1 C.2.1 dX3_readItem_12 (by decide) ?_
    refine lv_icmp_ge (tgt := 29) C.1 C.2.1 dX3_readItem_14 (by decide) (fun cd => ?_) (fun cd => ?_)
    · have h := ite_t cd h
      refine lv_iconst (v := (0 : Int32)) C.1 C.2.1 dX3_readItem_29 (by decide) ?_
      exact m_zret C hw (by decide) (ret_p h) dX3_readItem_30
    · have h := ite_f cd h
      refine lv_aload_n C.1 C.2.1 dX3_readItem_17 rfl (lv_at hl 0 rfl) ?_
      refine lv_aload_n C.1 C.2.1 dX3_readItem_18 rfl (lv_at hl 1 rfl) ?_
      obtain ⟨r2, h1, h⟩ := bS h
      refine go_I hw (run_V (As := [.ref _]) C hw (c_X3_readRule C.2.2.2.2.2.2.2.2.2 _ ht0 _ _ h1) mi_X3_readRule mv_X3_readRule ht0 (ci := 3) rfl rfl lk_X3_49 (by decide) (by decide) rfl hl.1 rfl (Nat.le_of_ble_eq_true rfl) dX3_readItem_19 ⟨Nat.le_refl 0, Nat.le_refl 0⟩) (fun H locs hw => ?_)
      refine lv_if_eq (tgt := 29) C.1 C.2.1 dX3_readItem_22 (by decide) (fun cd => ?_) (fun cd => ?_)
      · have h := ite_t cd h
        refine lv_iconst (v := (0 : Int32)) C.1 C.2.1 dX3_readItem_29 (by decide) ?_
        exact m_zret C hw (by decide) (ret_p h) dX3_readItem_30
      · have h := ite_f cd h
        refine lv_iconst (v := (1 : Int32)) C.1 C.2.1 dX3_readItem_25 (by decide) ?_
        refine lv_goto (tgt := 30) C.1 C.2.1 dX3_readItem_26 (by decide) ?_
        exact m_zret C hw (by decide) (ret_p h) dX3_readItem_30
noncomputable def b_X3_read_18 (t0 : Nat) (v2 : Int32) (v3 : Int32) (σ : Mem) : Option ((Int32 × Int32 × Mem) ⊕ (Mem ⊕ (Int32 × Mem))) :=
  if (300 : Int32) ≤ v3 then (some (.inr (.inr (v2, σ)))) else (if (σ.1 1 3) = 0 then (some (.inr (.inr (v2, σ)))) else ((f_X3_readItem t0 σ).bind (fun r4 => if r4.1 = 0 then (some (.inr (.inl r4.2))) else (if (r4.2.1 1 3) = (4 : Int32) then ((f_X6_next r4.2).bind (fun r5 => lt (v2 + (1 : Int32)) (fun x6 => lt (v3 + (1 : Int32)) (fun x7 => some (.inl (x6, x7, r5)))))) else (some (.inr (.inl r4.2)))))))
noncomputable def j_X3_read_48 (t0 : Nat) (σ : Mem) : Option (Int32 × Mem) :=
  some ((-10 : Int32) - (σ.1 1 2), σ)
noncomputable def f_X3_read (t0 : Nat) (σ : Mem) : Option (Int32 × Mem) :=
  lt (sI σ t0 4 (0 : Int32)) (fun σ1 => lt (sI σ1 t0 5 (0 : Int32)) (fun σ2 => (f_X6_begin σ2).bind (fun r3 => (Lim (T := (Mem ⊕ (Int32 × Mem))) (fun s => b_X3_read_18 t0 s.1 s.2.1 s.2.2) ((0 : Int32), (0 : Int32), r3)).bind (fun r8 => (match r8 with | .inl r8_0 => (j_X3_read_48 t0 r8_0) | .inr r8_1 => (some (r8_1.1, r8_1.2)))))))
set_option maxRecDepth 20000 in
theorem w_X3_read_18 {D : va_G} {cy : Nat → ClassId} {ad : Nat → Nat} {p : Program} {l : Launch} {e : Env} {R : Room} {s : State} {m : MethodId} {args : Array Value} {below : List Frame} {meth : Method} {c : Code} (C : Cx 1 D cy ad p R s m args meth c cX3_read 4 RX3 (some .int) 6) {t0 : Nat} (ht0 : IsO 1 t0 3) {v2 : Int32} {v3 : Int32} {σ : Mem} {Q : State → Prop} {r : (Mem ⊕ (Int32 × Mem))} (hL : Lim (T := (Mem ⊕ (Int32 × Mem))) (fun s => b_X3_read_18 t0 s.1 s.2.1 s.2.2) (v2, v3, σ) = some r) (hE0 : ∀ (σ1 : Mem), (.inl σ1 : (Mem ⊕ (Int32 × Mem))) = r → ∀ (H : Heap) (locs : List Loc) (ls : Array Slot), Wd 1 D cy ad s σ1 H locs → lv_has ls 4 [(1, .ref (ad (1)))] → W p l e R s m args below meth c H locs 0 0 Q (F0 m 48 ls [])) (hE1 : ∀ (v2 : Int32) (σ1 : Mem), (.inr (v2, σ1) : (Mem ⊕ (Int32 × Mem))) = r → ∀ (H : Heap) (locs : List Loc) (ls : Array Slot), Wd 1 D cy ad s σ1 H locs → lv_has ls 4 [(2, .int v2)] → W p l e R s m args below meth c H locs 0 0 Q (F0 m 69 ls [])) (H : Heap) (locs : List Loc) (ls : Array Slot) (hw : Wd 1 D cy ad s σ H locs) (hl : lv_has ls 4 [(0, .ref (ad (t0))), (1, .ref (ad (1))), (2, .int v2), (3, .int v3)]) : W p l e R s m args below meth c H locs 0 0 Q (F0 m 18 ls []) := by
  refine Lim_ind hL (P := fun u => ∀ (H : Heap) (locs : List Loc) (ls : Array Slot), Wd 1 D cy ad s u.2.2 H locs → lv_has ls 4 [(0, .ref (ad (t0))), (1, .ref (ad (1))), (2, .int u.1), (3, .int u.2.1)] → W p l e R s m args below meth c H locs 0 0 Q (F0 m 18 ls [])) (fun u x h hx H locs ls hw hl => ?_) H locs ls hw hl
  clear hL
  obtain ⟨v2, v3, σ⟩ := u
  have h : b_X3_read_18 t0 v2 v3 σ = some x := h
  have hw : Wd 1 D cy ad s σ H locs := hw
  have hl : lv_has ls 4 [(0, .ref (ad (t0))), (1, .ref (ad (1))), (2, .int v2), (3, .int v3)] := hl
  have hP : ∀ (u : (Int32 × Int32 × Mem)), (∀ (H : Heap) (locs : List Loc) (ls : Array Slot), Wd 1 D cy ad s u.2.2 H locs → lv_has ls 4 [(0, .ref (ad (t0))), (1, .ref (ad (1))), (2, .int u.1), (3, .int u.2.1)] → W p l e R s m args below meth c H locs 0 0 Q (F0 m 18 ls [])) → ∀ (H : Heap) (locs : List Loc) (ls : Array Slot), Wd 1 D cy ad s u.2.2 H locs → lv_has ls 4 [(0, .ref (ad (t0))), (1, .ref (ad (1))), (2, .int u.1), (3, .int u.2.1)] → W p l e R s m args below meth c H locs 0 0 Q (F0 m 18 ls []) := fun _ k => k
  unfold b_X3_read_18 at h
  refine lv_iload_n C.1 C.2.1 dX3_read_18 rfl (lv_at hl 3 rfl) ?_
  refine lv_sipush (v := (300 : Int32)) C.1 C.2.1 dX3_read_19 (by decide) ?_
  refine lv_icmp_ge (tgt := 69) C.1 C.2.1 dX3_read_22 (by decide) (fun cd => ?_) (fun cd => ?_)
  · have h := ite_t cd h
    obtain rfl := Option.some.inj h
    exact hE1 _ _ hx _ _ _ hw (lv_sub hl [2] rfl)
  · have h := ite_f cd h
    refine lv_aload_n C.1 C.2.1 dX3_read_25 rfl (lv_at hl 1 rfl) ?_
    refine gf_X3_36 C hw dX3_read_26 ?_
    refine lv_if_eq (tgt := 69) C.1 C.2.1 dX3_read_29 (by decide) (fun cd => ?_) (fun cd => ?_)
    · have h := ite_t cd h
      obtain rfl := Option.some.inj h
      exact hE1 _ _ hx _ _ _ hw (lv_sub hl [2] rfl)
    · have h := ite_f cd h
      refine lv_aload_n C.1 C.2.1 dX3_read_32 rfl (lv_at hl 0 rfl) ?_
      refine lv_aload_n C.1 C.2.1 dX3_read_33 rfl (lv_at hl 1 rfl) ?_
      obtain ⟨r4, h1, h⟩ := bS h
      refine go_I hw (run_V (As := [.ref _]) C hw (c_X3_readItem C.2.2.2.2.2.2.2.2.2 _ ht0 _ _ h1) mi_X3_readItem mv_X3_readItem ht0 (ci := 3) rfl rfl lk_X3_39 (by decide) (by decide) rfl hl.1 rfl (Nat.le_of_ble_eq_true rfl) dX3_read_34 ⟨Nat.le_refl 0, Nat.le_refl 0⟩) (fun H locs hw => ?_)
      refine lv_if_eq (tgt := 48) C.1 C.2.1 dX3_read_37 (by decide) (fun cd => ?_) (fun cd => ?_)
      · have h := ite_t cd h
        obtain rfl := Option.some.inj h
        exact hE0 _ hx _ _ _ hw (lv_sub hl [1] rfl)
      · have h := ite_f cd h
        refine lv_aload_n C.1 C.2.1 dX3_read_40 rfl (lv_at hl 1 rfl) ?_
        refine gf_X3_36 C hw dX3_read_41 ?_
        refine lv_iconst (v := (4 : Int32)) C.1 C.2.1 dX3_read_44 (by decide) ?_
        refine lv_icmp_eq (tgt := 56) C.1 C.2.1 dX3_read_45 (by decide) (fun cd => ?_) (fun cd => ?_)
        · have h := ite_t cd h
          refine lv_aload_n C.1 C.2.1 dX3_read_56 rfl (lv_at hl 1 rfl) ?_
          obtain ⟨r5, h1, h⟩ := bS h
          refine go_V hw (run_V (As := []) C hw (c_X6_next C.2.2.2.2.2.2.2.2.2 _ _ h1) mi_X6_next mv_X6_next o1_1 (ci := 6) rfl rfl lk_X3_46 (by decide) (by decide) rfl hl.1 rfl (Nat.le_of_ble_eq_true rfl) dX3_read_57 ⟨Nat.le_refl 0, Nat.le_refl 0⟩) (fun H locs hw => ?_)
          obtain ⟨x6, ex6, h⟩ := lt_of h
          refine m_iinc (k := 2) (lv' := [(2, .int _), (0, .ref _), (1, .ref _), (3, .int _)]) C (1 : Int32) (by decide) dX3_read_60 hl rfl ex6.symm (by decide) rfl (fun ls hl => ?_)
          obtain ⟨x7, ex7, h⟩ := lt_of h
          refine m_iinc (k := 3) (lv' := [(3, .int _), (2, .int _), (0, .ref _), (1, .ref _)]) C (1 : Int32) (by decide) dX3_read_63 hl rfl ex7.symm (by decide) rfl (fun ls hl => ?_)
          refine lv_goto (tgt := 18) C.1 C.2.1 dX3_read_66 (by decide) ?_
          obtain rfl := Option.some.inj h
          exact hP _ hx _ _ _ hw (lv_sub hl [2, 3, 1, 0] rfl)
        · have h := ite_f cd h
          obtain rfl := Option.some.inj h
          exact hE0 _ hx _ _ _ hw (lv_sub hl [1] rfl)
set_option maxRecDepth 20000 in
theorem w_X3_read_48 {D : va_G} {cy : Nat → ClassId} {ad : Nat → Nat} {p : Program} {l : Launch} {e : Env} {R : Room} {s : State} {m : MethodId} {args : Array Value} {below : List Frame} {meth : Method} {c : Code} (C : Cx 1 D cy ad p R s m args meth c cX3_read 4 RX3 (some .int) 6) {t0 : Nat} (ht0 : IsO 1 t0 3)   {σ : Mem} {H : Heap} {locs : List Loc} {ls : Array Slot} {r : (Int32 × Mem)} (hw : Wd 1 D cy ad s σ H locs) (hl : lv_has ls 4 [(1, .ref (ad (1)))]) (h : j_X3_read_48 t0 σ = some r) : W p l e R s m args below meth c H locs 0 0 (QI 1 D cy ad below args s r.1 r.2) (F0 m 48 ls []) := by
  unfold j_X3_read_48 at h
  refine lv_bipush (v := (-10 : Int32)) C.1 C.2.1 dX3_read_48 (by decide) ?_
  refine lv_aload_n C.1 C.2.1 dX3_read_50 rfl (lv_at hl 0 rfl) ?_
  refine gf_X3_43 C hw dX3_read_51 ?_
  refine lv_isub C.1 C.2.1 dX3_read_54 ?_
  exact m_iret C hw (ret_p h) dX3_read_55
set_option maxRecDepth 20000 in
theorem c_X3_read {l : Launch} {D : va_G} {cy : Nat → ClassId} {ad : Nat → Nat} (hj : InjW 1 ad) (t0 : Nat) (ht0 : IsO 1 t0 3) (σ : Mem) (r : (Int32 × Mem)) (h : f_X3_read t0 σ = some r) : CI 1 D cy ad l yX3_read cX3_read 4 (some .int) 6 [.ref (ad (t0)), .ref (ad (1))] σ r.1 r.2 := by
  refine CI.mk (by decide) hj (Nat.le_of_ble_eq_true rfl) (fun p e R s m below meth c ls C hw hl => ?_)
  have hl : lv_has ls 4 [(0, .ref (ad (t0))), (1, .ref (ad (1)))] := hl
  generalize ([.ref (ad (t0)), .ref (ad (1))] : List Value).toArray = args at C ⊢
  have C : Cx 1 D cy ad p R s m args meth c cX3_read 4 RX3 (some .int) 6 := C
  unfold f_X3_read at h
  refine lv_aload_n C.1 C.2.1 dX3_read_0 rfl (lv_at hl 0 rfl) ?_
  refine lv_iconst (v := (0 : Int32)) C.1 C.2.1 dX3_read_1 (by decide) ?_
  refine pf_X3_24 C hw ht0 dX3_read_2 (fun H locs hw => ?_)
  obtain ⟨σ1, eσ1, h⟩ := lt_of h
  rw [← eσ1] at hw
  refine lv_aload_n C.1 C.2.1 dX3_read_5 rfl (lv_at hl 0 rfl) ?_
  refine lv_iconst (v := (0 : Int32)) C.1 C.2.1 dX3_read_6 (by decide) ?_
  refine pf_X3_28 C hw ht0 dX3_read_7 (fun H locs hw => ?_)
  obtain ⟨σ2, eσ2, h⟩ := lt_of h
  rw [← eσ2] at hw
  refine lv_aload_n C.1 C.2.1 dX3_read_10 rfl (lv_at hl 1 rfl) ?_
  obtain ⟨r3, h1, h⟩ := bS h
  refine go_V hw (run_V (As := []) C hw (c_X6_begin C.2.2.2.2.2.2.2.2.2 _ _ h1) mi_X6_begin mv_X6_begin o1_1 (ci := 6) rfl rfl lk_X3_31 (by decide) (by decide) rfl hl.1 rfl (Nat.le_of_ble_eq_true rfl) dX3_read_11 ⟨Nat.le_refl 0, Nat.le_refl 0⟩) (fun H locs hw => ?_)
  refine lv_iconst (v := (0 : Int32)) C.1 C.2.1 dX3_read_14 (by decide) ?_
  refine lv_istore_n (lv' := [(2, .int _), (0, .ref _), (1, .ref _)]) C.1 C.2.1 dX3_read_15 rfl hl (by decide) rfl (fun ls hl => ?_)
  refine lv_iconst (v := (0 : Int32)) C.1 C.2.1 dX3_read_16 (by decide) ?_
  refine lv_istore_n (lv' := [(3, .int _), (2, .int _), (0, .ref _), (1, .ref _)]) C.1 C.2.1 dX3_read_17 rfl hl (by decide) rfl (fun ls hl => ?_)
  obtain ⟨r8, hL, h⟩ := bS h
  refine w_X3_read_18 C ht0  hL (fun y0 hr H locs ls hw hl => ?_) (fun y0 y1 hr H locs ls hw hl => ?_) _ _ _ hw (lv_sub hl [2, 3, 1, 0] rfl)
  · subst hr
    try dsimp only at h
    try dsimp only at hw
    try dsimp only at hl
    exact w_X3_read_48 C ht0 hw (lv_sub hl [0] rfl) h
  · subst hr
    try dsimp only at h
    try dsimp only at hw
    try dsimp only at hl
    refine lv_iload_n C.1 C.2.1 dX3_read_69 rfl (lv_at hl 0 rfl) ?_
    exact m_iret C hw (ret_p h) dX3_read_70
noncomputable def b_X3_copyFrom_18 (t0 : Nat) (t1 : Nat) (v2 : Int32) (σ : Mem) : Option ((Int32 × Mem) ⊕ Mem) :=
  if (16 : Int32) ≤ v2 then (some (.inr σ)) else (gd (ix v2 16) (gd (ix v2 16) (lt (sI σ (t0 + 1) v2.toNatClampNeg (σ.1 (t1 + 1) v2.toNatClampNeg)) (fun σ3 => gd (ix v2 16) (gd (ix v2 16) (lt (sI σ3 (t0 + 2) v2.toNatClampNeg (σ3.1 (t1 + 2) v2.toNatClampNeg)) (fun σ4 => gd (ix v2 16) (gd (ix v2 16) (lt (sI σ4 (t0 + 3) v2.toNatClampNeg (σ4.1 (t1 + 3) v2.toNatClampNeg)) (fun σ5 => gd (ix v2 16) (gd (ix v2 16) (lt (sI σ5 (t0 + 4) v2.toNatClampNeg (σ5.1 (t1 + 4) v2.toNatClampNeg)) (fun σ6 => lt (v2 + (1 : Int32)) (fun x7 => some (.inl (x7, σ6))))))))))))))))
noncomputable def f_X3_copyFrom (t0 : Nat) (t1 : Nat) (σ : Mem) : Option Mem :=
  lt (sI σ t0 4 (σ.1 t1 4)) (fun σ1 => lt (sI σ1 t0 5 (σ1.1 t1 5)) (fun σ2 => (Lim (T := Mem) (fun s => b_X3_copyFrom_18 t0 t1 s.1 s.2) ((0 : Int32), σ2)).bind (fun r8 => some r8)))
set_option maxRecDepth 20000 in
theorem w_X3_copyFrom_18 {D : va_G} {cy : Nat → ClassId} {ad : Nat → Nat} {p : Program} {l : Launch} {e : Env} {R : Room} {s : State} {m : MethodId} {args : Array Value} {below : List Frame} {meth : Method} {c : Code} (C : Cx 1 D cy ad p R s m args meth c cX3_copyFrom 3 RX3 none 0) {t0 : Nat} {t1 : Nat} (ht0 : IsO 1 t0 3) (ht1 : IsO 1 t1 3) {v2 : Int32} {σ : Mem} {Q : State → Prop} {r : Mem} (hL : Lim (T := Mem) (fun s => b_X3_copyFrom_18 t0 t1 s.1 s.2) (v2, σ) = some r) (hE0 : ∀ (σ1 : Mem), (σ1 : Mem) = r → ∀ (H : Heap) (locs : List Loc) (ls : Array Slot), Wd 1 D cy ad s σ1 H locs → lv_has ls 3 [] → W p l e R s m args below meth c H locs 0 0 Q (F0 m 78 ls [])) (H : Heap) (locs : List Loc) (ls : Array Slot) (hw : Wd 1 D cy ad s σ H locs) (hl : lv_has ls 3 [(0, .ref (ad (t0))), (1, .ref (ad (t1))), (2, .int v2)]) : W p l e R s m args below meth c H locs 0 0 Q (F0 m 18 ls []) := by
  refine Lim_ind hL (P := fun u => ∀ (H : Heap) (locs : List Loc) (ls : Array Slot), Wd 1 D cy ad s u.2 H locs → lv_has ls 3 [(0, .ref (ad (t0))), (1, .ref (ad (t1))), (2, .int u.1)] → W p l e R s m args below meth c H locs 0 0 Q (F0 m 18 ls [])) (fun u x h hx H locs ls hw hl => ?_) H locs ls hw hl
  clear hL
  obtain ⟨v2, σ⟩ := u
  have h : b_X3_copyFrom_18 t0 t1 v2 σ = some x := h
  have hw : Wd 1 D cy ad s σ H locs := hw
  have hl : lv_has ls 3 [(0, .ref (ad (t0))), (1, .ref (ad (t1))), (2, .int v2)] := hl
  have hP : ∀ (u : (Int32 × Mem)), (∀ (H : Heap) (locs : List Loc) (ls : Array Slot), Wd 1 D cy ad s u.2 H locs → lv_has ls 3 [(0, .ref (ad (t0))), (1, .ref (ad (t1))), (2, .int u.1)] → W p l e R s m args below meth c H locs 0 0 Q (F0 m 18 ls [])) → ∀ (H : Heap) (locs : List Loc) (ls : Array Slot), Wd 1 D cy ad s u.2 H locs → lv_has ls 3 [(0, .ref (ad (t0))), (1, .ref (ad (t1))), (2, .int u.1)] → W p l e R s m args below meth c H locs 0 0 Q (F0 m 18 ls []) := fun _ k => k
  unfold b_X3_copyFrom_18 at h
  refine lv_iload_n C.1 C.2.1 dX3_copyFrom_18 rfl (lv_at hl 2 rfl) ?_
  refine lv_bipush (v := (16 : Int32)) C.1 C.2.1 dX3_copyFrom_19 (by decide) ?_
  refine lv_icmp_ge (tgt := 78) C.1 C.2.1 dX3_copyFrom_21 (by decide) (fun cd => ?_) (fun cd => ?_)
  · have h := ite_t cd h
    obtain rfl := Option.some.inj h
    exact hE0 _ hx _ _ _ hw (lv_sub hl [] rfl)
  · have h := ite_f cd h
    refine lv_aload_n C.1 C.2.1 dX3_copyFrom_24 rfl (lv_at hl 0 rfl) ?_
    refine gf_X3_9 C hw ht0 dX3_copyFrom_25 ?_
    refine lv_iload_n C.1 C.2.1 dX3_copyFrom_28 rfl (lv_at hl 2 rfl) ?_
    refine lv_aload_n C.1 C.2.1 dX3_copyFrom_29 rfl (lv_at hl 1 rfl) ?_
    refine gf_X3_9 C hw ht1 dX3_copyFrom_30 ?_
    refine lv_iload_n C.1 C.2.1 dX3_copyFrom_33 rfl (lv_at hl 2 rfl) ?_
    obtain ⟨hin, h⟩ := gd_of h
    refine m_iald C hw (lawA0 ht1) hin dX3_copyFrom_34 ?_
    obtain ⟨hin, h⟩ := gd_of h
    refine m_iast C hw (lawA0 ht0) hin dX3_copyFrom_35 (fun H locs hw => ?_)
    obtain ⟨σ3, eσ3, h⟩ := lt_of h
    rw [← eσ3] at hw
    refine lv_aload_n C.1 C.2.1 dX3_copyFrom_36 rfl (lv_at hl 0 rfl) ?_
    refine gf_X3_15 C hw ht0 dX3_copyFrom_37 ?_
    refine lv_iload_n C.1 C.2.1 dX3_copyFrom_40 rfl (lv_at hl 2 rfl) ?_
    refine lv_aload_n C.1 C.2.1 dX3_copyFrom_41 rfl (lv_at hl 1 rfl) ?_
    refine gf_X3_15 C hw ht1 dX3_copyFrom_42 ?_
    refine lv_iload_n C.1 C.2.1 dX3_copyFrom_45 rfl (lv_at hl 2 rfl) ?_
    obtain ⟨hin, h⟩ := gd_of h
    refine m_iald C hw (lawA1 ht1) hin dX3_copyFrom_46 ?_
    obtain ⟨hin, h⟩ := gd_of h
    refine m_iast C hw (lawA1 ht0) hin dX3_copyFrom_47 (fun H locs hw => ?_)
    obtain ⟨σ4, eσ4, h⟩ := lt_of h
    rw [← eσ4] at hw
    refine lv_aload_n C.1 C.2.1 dX3_copyFrom_48 rfl (lv_at hl 0 rfl) ?_
    refine gf_X3_18 C hw ht0 dX3_copyFrom_49 ?_
    refine lv_iload_n C.1 C.2.1 dX3_copyFrom_52 rfl (lv_at hl 2 rfl) ?_
    refine lv_aload_n C.1 C.2.1 dX3_copyFrom_53 rfl (lv_at hl 1 rfl) ?_
    refine gf_X3_18 C hw ht1 dX3_copyFrom_54 ?_
    refine lv_iload_n C.1 C.2.1 dX3_copyFrom_57 rfl (lv_at hl 2 rfl) ?_
    obtain ⟨hin, h⟩ := gd_of h
    refine m_iald C hw (lawA2 ht1) hin dX3_copyFrom_58 ?_
    obtain ⟨hin, h⟩ := gd_of h
    refine m_iast C hw (lawA2 ht0) hin dX3_copyFrom_59 (fun H locs hw => ?_)
    obtain ⟨σ5, eσ5, h⟩ := lt_of h
    rw [← eσ5] at hw
    refine lv_aload_n C.1 C.2.1 dX3_copyFrom_60 rfl (lv_at hl 0 rfl) ?_
    refine gf_X3_21 C hw ht0 dX3_copyFrom_61 ?_
    refine lv_iload_n C.1 C.2.1 dX3_copyFrom_64 rfl (lv_at hl 2 rfl) ?_
    refine lv_aload_n C.1 C.2.1 dX3_copyFrom_65 rfl (lv_at hl 1 rfl) ?_
    refine gf_X3_21 C hw ht1 dX3_copyFrom_66 ?_
    refine lv_iload_n C.1 C.2.1 dX3_copyFrom_69 rfl (lv_at hl 2 rfl) ?_
    obtain ⟨hin, h⟩ := gd_of h
    refine m_iald C hw (lawA3 ht1) hin dX3_copyFrom_70 ?_
    obtain ⟨hin, h⟩ := gd_of h
    refine m_iast C hw (lawA3 ht0) hin dX3_copyFrom_71 (fun H locs hw => ?_)
    obtain ⟨σ6, eσ6, h⟩ := lt_of h
    rw [← eσ6] at hw
    obtain ⟨x7, ex7, h⟩ := lt_of h
    refine m_iinc (k := 2) (lv' := [(2, .int _), (0, .ref _), (1, .ref _)]) C (1 : Int32) (by decide) dX3_copyFrom_72 hl rfl ex7.symm (by decide) rfl (fun ls hl => ?_)
    refine lv_goto (tgt := 18) C.1 C.2.1 dX3_copyFrom_75 (by decide) ?_
    obtain rfl := Option.some.inj h
    exact hP _ hx _ _ _ hw (lv_sub hl [1, 2, 0] rfl)
set_option maxRecDepth 20000 in
theorem c_X3_copyFrom {l : Launch} {D : va_G} {cy : Nat → ClassId} {ad : Nat → Nat} (hj : InjW 1 ad) (t0 : Nat) (t1 : Nat) (ht0 : IsO 1 t0 3) (ht1 : IsO 1 t1 3) (σ : Mem) (r : Mem) (h : f_X3_copyFrom t0 t1 σ = some r) : CV 1 D cy ad l yX3_copyFrom cX3_copyFrom 3 none 0 [.ref (ad (t0)), .ref (ad (t1))] σ r := by
  refine CV.mk (by decide) hj (Nat.le_of_ble_eq_true rfl) (fun p e R s m below meth c ls C hw hl => ?_)
  have hl : lv_has ls 3 [(0, .ref (ad (t0))), (1, .ref (ad (t1)))] := hl
  generalize ([.ref (ad (t0)), .ref (ad (t1))] : List Value).toArray = args at C ⊢
  have C : Cx 1 D cy ad p R s m args meth c cX3_copyFrom 3 RX3 none 0 := C
  unfold f_X3_copyFrom at h
  refine lv_aload_n C.1 C.2.1 dX3_copyFrom_0 rfl (lv_at hl 0 rfl) ?_
  refine lv_aload_n C.1 C.2.1 dX3_copyFrom_1 rfl (lv_at hl 1 rfl) ?_
  refine gf_X3_24 C hw ht1 dX3_copyFrom_2 ?_
  refine pf_X3_24 C hw ht0 dX3_copyFrom_5 (fun H locs hw => ?_)
  obtain ⟨σ1, eσ1, h⟩ := lt_of h
  rw [← eσ1] at hw
  refine lv_aload_n C.1 C.2.1 dX3_copyFrom_8 rfl (lv_at hl 0 rfl) ?_
  refine lv_aload_n C.1 C.2.1 dX3_copyFrom_9 rfl (lv_at hl 1 rfl) ?_
  refine gf_X3_28 C hw ht1 dX3_copyFrom_10 ?_
  refine pf_X3_28 C hw ht0 dX3_copyFrom_13 (fun H locs hw => ?_)
  obtain ⟨σ2, eσ2, h⟩ := lt_of h
  rw [← eσ2] at hw
  refine lv_iconst (v := (0 : Int32)) C.1 C.2.1 dX3_copyFrom_16 (by decide) ?_
  refine lv_istore_n (lv' := [(2, .int _), (0, .ref _), (1, .ref _)]) C.1 C.2.1 dX3_copyFrom_17 rfl hl (by decide) rfl (fun ls hl => ?_)
  obtain ⟨r8, hL, h⟩ := bS h
  refine w_X3_copyFrom_18 C ht0 ht1  hL (fun y0 hr H locs ls hw hl => ?_) _ _ _ hw (lv_sub hl [1, 2, 0] rfl)
  · subst hr
    try dsimp only at h
    try dsimp only at hw
    try dsimp only at hl
    exact m_vret C hw (Option.some.inj h) dX3_copyFrom_78
noncomputable def j_X3_reachedStates_55 (t0 : Nat) (a1 : Int32) (v2 : Int32) (v3 : Int32) (v4 : Int32) (σ : Mem) : Option ((Int32 × Int32 × Int32) ⊕ (Int32 × Int32)) :=
  lt (v4 + (1 : Int32)) (fun x1 => some (.inl (v2, v3, x1)))
noncomputable def b_X3_reachedStates_13 (t0 : Nat) (a1 : Int32) (v2 : Int32) (v3 : Int32) (v4 : Int32) (σ : Mem) : Option ((Int32 × Int32 × Int32) ⊕ (Int32 × Int32)) :=
  if (σ.1 t0 4) ≤ v4 then (some (.inr (v2, v3))) else (if (f_X8_bit a1 v4) = (1 : Int32) then ((f_X3_fits t0 v4 v2 v2 σ).bind (fun r2 => if r2 = 0 then (j_X3_reachedStates_55 t0 a1 v2 v3 v4 σ) else (gd (ix v4 16) (lt (v2 ||| ((1 : Int32) <<< ((σ.1 (t0 + 4) v4.toNatClampNeg) &&& 31))) (fun x3 => j_X3_reachedStates_55 t0 a1 x3 v3 v4 σ))))) else (j_X3_reachedStates_55 t0 a1 v2 v3 v4 σ))
noncomputable def b_X3_reachedStates_4 (t0 : Nat) (a1 : Int32) (v2 : Int32) (v3 : Int32) (σ : Mem) : Option ((Int32 × Int32) ⊕ Int32) :=
  if (6 : Int32) ≤ v3 then (some (.inr v2)) else ((Lim (T := (Int32 × Int32)) (fun s => b_X3_reachedStates_13 t0 a1 s.1 s.2.1 s.2.2 σ) (v2, v3, (0 : Int32))).bind (fun r4 => lt (r4.2 + (1 : Int32)) (fun x5 => some (.inl (r4.1, x5)))))
noncomputable def f_X3_reachedStates (t0 : Nat) (a1 : Int32) (σ : Mem) : Option Int32 :=
  (Lim (T := Int32) (fun s => b_X3_reachedStates_4 t0 a1 s.1 s.2 σ) ((0 : Int32), (0 : Int32))).bind (fun r6 => some r6)
set_option maxRecDepth 20000 in
theorem w_X3_reachedStates_55 {D : va_G} {cy : Nat → ClassId} {ad : Nat → Nat} {p : Program} {l : Launch} {e : Env} {R : Room} {s : State} {m : MethodId} {args : Array Value} {below : List Frame} {meth : Method} {c : Code} (C : Cx 1 D cy ad p R s m args meth c cX3_reachedStates 5 RX3 (some .int) 2) {t0 : Nat} {a1 : Int32} (ht0 : IsO 1 t0 3) {v2 : Int32} {v3 : Int32} {v4 : Int32}  {σ : Mem} {H : Heap} {locs : List Loc} {ls : Array Slot} {Q : State → Prop} {P : (Int32 × Int32 × Int32) → Prop} {r : (Int32 × Int32)} {x : (Int32 × Int32 × Int32) ⊕ (Int32 × Int32)} (hx : LimQ P r x) (hP : ∀ u, P u → ∀ (H : Heap) (locs : List Loc) (ls : Array Slot), Wd 1 D cy ad s σ H locs → lv_has ls 5 [(0, .ref (ad (t0))), (1, .int a1), (2, .int u.1), (3, .int u.2.1), (4, .int u.2.2)] → W p l e R s m args below meth c H locs 0 0 Q (F0 m 13 ls [])) (hE0 : ∀ (v2 : Int32) (v3 : Int32), ((v2, v3) : (Int32 × Int32)) = r → ∀ (H : Heap) (locs : List Loc) (ls : Array Slot), Wd 1 D cy ad s σ H locs → lv_has ls 5 [(0, .ref (ad (t0))), (1, .int a1), (2, .int v2), (3, .int v3)] → W p l e R s m args below meth c H locs 0 0 Q (F0 m 61 ls [])) (hw : Wd 1 D cy ad s σ H locs) (hl : lv_has ls 5 [(0, .ref (ad (t0))), (1, .int a1), (2, .int v2), (3, .int v3), (4, .int v4)]) (h : j_X3_reachedStates_55 t0 a1 v2 v3 v4 σ = some x) : W p l e R s m args below meth c H locs 0 0 Q (F0 m 55 ls []) := by
  unfold j_X3_reachedStates_55 at h
  obtain ⟨x1, ex1, h⟩ := lt_of h
  refine m_iinc (k := 4) (lv' := [(4, .int _), (0, .ref _), (1, .int _), (2, .int _), (3, .int _)]) C (1 : Int32) (by decide) dX3_reachedStates_55 hl rfl ex1.symm (by decide) rfl (fun ls hl => ?_)
  refine lv_goto (tgt := 13) C.1 C.2.1 dX3_reachedStates_58 (by decide) ?_
  obtain rfl := Option.some.inj h
  exact hP _ hx _ _ _ hw (lv_sub hl [1, 2, 3, 4, 0] rfl)
set_option maxRecDepth 20000 in
theorem w_X3_reachedStates_13 {D : va_G} {cy : Nat → ClassId} {ad : Nat → Nat} {p : Program} {l : Launch} {e : Env} {R : Room} {s : State} {m : MethodId} {args : Array Value} {below : List Frame} {meth : Method} {c : Code} (C : Cx 1 D cy ad p R s m args meth c cX3_reachedStates 5 RX3 (some .int) 2) {t0 : Nat} {a1 : Int32} (ht0 : IsO 1 t0 3) {v2 : Int32} {v3 : Int32} {v4 : Int32} {σ : Mem} {Q : State → Prop} {r : (Int32 × Int32)} (hL : Lim (T := (Int32 × Int32)) (fun s => b_X3_reachedStates_13 t0 a1 s.1 s.2.1 s.2.2 σ) (v2, v3, v4) = some r) (hE0 : ∀ (v2 : Int32) (v3 : Int32), ((v2, v3) : (Int32 × Int32)) = r → ∀ (H : Heap) (locs : List Loc) (ls : Array Slot), Wd 1 D cy ad s σ H locs → lv_has ls 5 [(0, .ref (ad (t0))), (1, .int a1), (2, .int v2), (3, .int v3)] → W p l e R s m args below meth c H locs 0 0 Q (F0 m 61 ls [])) (H : Heap) (locs : List Loc) (ls : Array Slot) (hw : Wd 1 D cy ad s σ H locs) (hl : lv_has ls 5 [(0, .ref (ad (t0))), (1, .int a1), (2, .int v2), (3, .int v3), (4, .int v4)]) : W p l e R s m args below meth c H locs 0 0 Q (F0 m 13 ls []) := by
  refine Lim_ind hL (P := fun u => ∀ (H : Heap) (locs : List Loc) (ls : Array Slot), Wd 1 D cy ad s σ H locs → lv_has ls 5 [(0, .ref (ad (t0))), (1, .int a1), (2, .int u.1), (3, .int u.2.1), (4, .int u.2.2)] → W p l e R s m args below meth c H locs 0 0 Q (F0 m 13 ls [])) (fun u x h hx H locs ls hw hl => ?_) H locs ls hw hl
  clear hL
  obtain ⟨v2, v3, v4⟩ := u
  have h : b_X3_reachedStates_13 t0 a1 v2 v3 v4 σ = some x := h
  have hw : Wd 1 D cy ad s σ H locs := hw
  have hl : lv_has ls 5 [(0, .ref (ad (t0))), (1, .int a1), (2, .int v2), (3, .int v3), (4, .int v4)] := hl
  have hP : ∀ (u : (Int32 × Int32 × Int32)), (∀ (H : Heap) (locs : List Loc) (ls : Array Slot), Wd 1 D cy ad s σ H locs → lv_has ls 5 [(0, .ref (ad (t0))), (1, .int a1), (2, .int u.1), (3, .int u.2.1), (4, .int u.2.2)] → W p l e R s m args below meth c H locs 0 0 Q (F0 m 13 ls [])) → ∀ (H : Heap) (locs : List Loc) (ls : Array Slot), Wd 1 D cy ad s σ H locs → lv_has ls 5 [(0, .ref (ad (t0))), (1, .int a1), (2, .int u.1), (3, .int u.2.1), (4, .int u.2.2)] → W p l e R s m args below meth c H locs 0 0 Q (F0 m 13 ls []) := fun _ k => k
  unfold b_X3_reachedStates_13 at h
  refine lv_iload C.1 C.2.1 dX3_reachedStates_13 (lv_at hl 4 rfl) ?_
  refine lv_aload_n C.1 C.2.1 dX3_reachedStates_15 rfl (lv_at hl 0 rfl) ?_
  refine gf_X3_24 C hw ht0 dX3_reachedStates_16 ?_
  refine lv_icmp_ge (tgt := 61) C.1 C.2.1 dX3_reachedStates_19 (by decide) (fun cd => ?_) (fun cd => ?_)
  · have h := ite_t cd h
    obtain rfl := Option.some.inj h
    exact hE0 _ _ hx _ _ _ hw (lv_sub hl [0, 1, 2, 3] rfl)
  · have h := ite_f cd h
    refine lv_iload_n C.1 C.2.1 dX3_reachedStates_22 rfl (lv_at hl 1 rfl) ?_
    refine lv_iload C.1 C.2.1 dX3_reachedStates_23 (lv_at hl 4 rfl) ?_
    refine go_I hw (run_SN (As := [.int _, .int _]) C hw (c_X8_bit C.2.2.2.2.2.2.2.2.2 _ _ _) mi_X8_bit ms_X8_bit lk_X3_66 (by decide) (by decide) rfl hl.1 rfl (Nat.le_of_ble_eq_true rfl) dX3_reachedStates_25 ⟨Nat.le_refl 0, Nat.le_refl 0⟩) (fun H locs hw => ?_)
    refine lv_iconst (v := (1 : Int32)) C.1 C.2.1 dX3_reachedStates_28 (by decide) ?_
    refine lv_icmp_ne (tgt := 55) C.1 C.2.1 dX3_reachedStates_29 (by decide) (fun cd => ?_) (fun cd => ?_)
    · have h := ite_f cd h
      exact w_X3_reachedStates_55 C ht0 hx hP hE0 hw (lv_sub hl [0, 1, 2, 3, 4] rfl) h
    · have h := ite_t cd h
      refine lv_aload_n C.1 C.2.1 dX3_reachedStates_32 rfl (lv_at hl 0 rfl) ?_
      refine lv_iload C.1 C.2.1 dX3_reachedStates_33 (lv_at hl 4 rfl) ?_
      refine lv_iload_n C.1 C.2.1 dX3_reachedStates_35 rfl (lv_at hl 2 rfl) ?_
      refine lv_iload_n C.1 C.2.1 dX3_reachedStates_36 rfl (lv_at hl 2 rfl) ?_
      obtain ⟨r2, h1, h⟩ := bS h
      refine go_I hw (run_V (As := [.int _, .int _, .int _]) C hw (c_X3_fits C.2.2.2.2.2.2.2.2.2 _ _ _ _ ht0 _ _ h1) mi_X3_fits mv_X3_fits ht0 (ci := 3) rfl rfl lk_X3_70 (by decide) (by decide) rfl hl.1 rfl (Nat.le_of_ble_eq_true rfl) dX3_reachedStates_37 ⟨Nat.le_refl 0, Nat.le_refl 0⟩) (fun H locs hw => ?_)
      refine lv_if_eq (tgt := 55) C.1 C.2.1 dX3_reachedStates_40 (by decide) (fun cd => ?_) (fun cd => ?_)
      · have h := ite_t cd h
        exact w_X3_reachedStates_55 C ht0 hx hP hE0 hw (lv_sub hl [0, 1, 2, 3, 4] rfl) h
      · have h := ite_f cd h
        refine lv_iload_n C.1 C.2.1 dX3_reachedStates_43 rfl (lv_at hl 2 rfl) ?_
        refine lv_iconst (v := (1 : Int32)) C.1 C.2.1 dX3_reachedStates_44 (by decide) ?_
        refine lv_aload_n C.1 C.2.1 dX3_reachedStates_45 rfl (lv_at hl 0 rfl) ?_
        refine gf_X3_21 C hw ht0 dX3_reachedStates_46 ?_
        refine lv_iload C.1 C.2.1 dX3_reachedStates_49 (lv_at hl 4 rfl) ?_
        obtain ⟨hin, h⟩ := gd_of h
        refine m_iald C hw (lawA3 ht0) hin dX3_reachedStates_51 ?_
        refine lv_ishl C.1 C.2.1 dX3_reachedStates_52 ?_
        refine lv_ior C.1 C.2.1 dX3_reachedStates_53 ?_
        obtain ⟨x3, ex3, h⟩ := lt_of h
        refine m_topi ex3 ?_
        refine lv_istore_n (lv' := [(2, .int _), (0, .ref _), (1, .int _), (3, .int _), (4, .int _)]) C.1 C.2.1 dX3_reachedStates_54 rfl hl (by decide) rfl (fun ls hl => ?_)
        exact w_X3_reachedStates_55 C ht0 hx hP hE0 hw (lv_sub hl [1, 2, 0, 3, 4] rfl) h
set_option maxRecDepth 20000 in
theorem w_X3_reachedStates_4 {D : va_G} {cy : Nat → ClassId} {ad : Nat → Nat} {p : Program} {l : Launch} {e : Env} {R : Room} {s : State} {m : MethodId} {args : Array Value} {below : List Frame} {meth : Method} {c : Code} (C : Cx 1 D cy ad p R s m args meth c cX3_reachedStates 5 RX3 (some .int) 2) {t0 : Nat} {a1 : Int32} (ht0 : IsO 1 t0 3) {v2 : Int32} {v3 : Int32} {σ : Mem} {Q : State → Prop} {r : Int32} (hL : Lim (T := Int32) (fun s => b_X3_reachedStates_4 t0 a1 s.1 s.2 σ) (v2, v3) = some r) (hE0 : ∀ (v2 : Int32), (v2 : Int32) = r → ∀ (H : Heap) (locs : List Loc) (ls : Array Slot), Wd 1 D cy ad s σ H locs → lv_has ls 5 [(2, .int v2)] → W p l e R s m args below meth c H locs 0 0 Q (F0 m 67 ls [])) (H : Heap) (locs : List Loc) (ls : Array Slot) (hw : Wd 1 D cy ad s σ H locs) (hl : lv_has ls 5 [(0, .ref (ad (t0))), (1, .int a1), (2, .int v2), (3, .int v3)]) : W p l e R s m args below meth c H locs 0 0 Q (F0 m 4 ls []) := by
  refine Lim_ind hL (P := fun u => ∀ (H : Heap) (locs : List Loc) (ls : Array Slot), Wd 1 D cy ad s σ H locs → lv_has ls 5 [(0, .ref (ad (t0))), (1, .int a1), (2, .int u.1), (3, .int u.2)] → W p l e R s m args below meth c H locs 0 0 Q (F0 m 4 ls [])) (fun u x h hx H locs ls hw hl => ?_) H locs ls hw hl
  clear hL
  obtain ⟨v2, v3⟩ := u
  have h : b_X3_reachedStates_4 t0 a1 v2 v3 σ = some x := h
  have hw : Wd 1 D cy ad s σ H locs := hw
  have hl : lv_has ls 5 [(0, .ref (ad (t0))), (1, .int a1), (2, .int v2), (3, .int v3)] := hl
  have hP : ∀ (u : (Int32 × Int32)), (∀ (H : Heap) (locs : List Loc) (ls : Array Slot), Wd 1 D cy ad s σ H locs → lv_has ls 5 [(0, .ref (ad (t0))), (1, .int a1), (2, .int u.1), (3, .int u.2)] → W p l e R s m args below meth c H locs 0 0 Q (F0 m 4 ls [])) → ∀ (H : Heap) (locs : List Loc) (ls : Array Slot), Wd 1 D cy ad s σ H locs → lv_has ls 5 [(0, .ref (ad (t0))), (1, .int a1), (2, .int u.1), (3, .int u.2)] → W p l e R s m args below meth c H locs 0 0 Q (F0 m 4 ls []) := fun _ k => k
  unfold b_X3_reachedStates_4 at h
  refine lv_iload_n C.1 C.2.1 dX3_reachedStates_4 rfl (lv_at hl 3 rfl) ?_
  refine lv_bipush (v := (6 : Int32)) C.1 C.2.1 dX3_reachedStates_5 (by decide) ?_
  refine lv_icmp_ge (tgt := 67) C.1 C.2.1 dX3_reachedStates_7 (by decide) (fun cd => ?_) (fun cd => ?_)
  · have h := ite_t cd h
    obtain rfl := Option.some.inj h
    exact hE0 _ hx _ _ _ hw (lv_sub hl [2] rfl)
  · have h := ite_f cd h
    refine lv_iconst (v := (0 : Int32)) C.1 C.2.1 dX3_reachedStates_10 (by decide) ?_
    refine lv_istore (lv' := [(4, .int _), (0, .ref _), (1, .int _), (2, .int _), (3, .int _)]) C.1 C.2.1 dX3_reachedStates_11 hl (by decide) rfl (fun ls hl => ?_)
    obtain ⟨r4, hL, h⟩ := bS h
    refine w_X3_reachedStates_13 C ht0  hL (fun y0 y1 hr H locs ls hw hl => ?_) _ _ _ hw (lv_sub hl [1, 2, 3, 4, 0] rfl)
    · subst hr
      try dsimp only at h
      try dsimp only at hw
      try dsimp only at hl
      obtain ⟨x5, ex5, h⟩ := lt_of h
      refine m_iinc (k := 3) (lv' := [(3, .int _), (0, .ref _), (1, .int _), (2, .int _)]) C (1 : Int32) (by decide) dX3_reachedStates_61 hl rfl ex5.symm (by decide) rfl (fun ls hl => ?_)
      refine lv_goto (tgt := 4) C.1 C.2.1 dX3_reachedStates_64 (by decide) ?_
      obtain rfl := Option.some.inj h
      exact hP _ hx _ _ _ hw (lv_sub hl [1, 2, 3, 0] rfl)
set_option maxRecDepth 20000 in
theorem c_X3_reachedStates {l : Launch} {D : va_G} {cy : Nat → ClassId} {ad : Nat → Nat} (hj : InjW 1 ad) (t0 : Nat) (a1 : Int32) (ht0 : IsO 1 t0 3) (σ : Mem) (r : Int32) (h : f_X3_reachedStates t0 a1 σ = some r) : CI 1 D cy ad l yX3_reachedStates cX3_reachedStates 5 (some .int) 2 [.ref (ad (t0)), .int a1] σ r σ := by
  refine CI.mk (by decide) hj (Nat.le_of_ble_eq_true rfl) (fun p e R s m below meth c ls C hw hl => ?_)
  have hl : lv_has ls 5 [(0, .ref (ad (t0))), (1, .int a1)] := hl
  generalize ([.ref (ad (t0)), .int a1] : List Value).toArray = args at C ⊢
  have C : Cx 1 D cy ad p R s m args meth c cX3_reachedStates 5 RX3 (some .int) 2 := C
  unfold f_X3_reachedStates at h
  refine lv_iconst (v := (0 : Int32)) C.1 C.2.1 dX3_reachedStates_0 (by decide) ?_
  refine lv_istore_n (lv' := [(2, .int _), (0, .ref _), (1, .int _)]) C.1 C.2.1 dX3_reachedStates_1 rfl hl (by decide) rfl (fun ls hl => ?_)
  refine lv_iconst (v := (0 : Int32)) C.1 C.2.1 dX3_reachedStates_2 (by decide) ?_
  refine lv_istore_n (lv' := [(3, .int _), (2, .int _), (0, .ref _), (1, .int _)]) C.1 C.2.1 dX3_reachedStates_3 rfl hl (by decide) rfl (fun ls hl => ?_)
  obtain ⟨r6, hL, h⟩ := bS h
  refine w_X3_reachedStates_4 C ht0  hL (fun y0 hr H locs ls hw hl => ?_) _ _ _ hw (lv_sub hl [2, 3, 1, 0] rfl)
  · subst hr
    try dsimp only at h
    try dsimp only at hw
    try dsimp only at hl
    refine lv_iload_n C.1 C.2.1 dX3_reachedStates_67 rfl (lv_at hl 0 rfl) ?_
    exact m_iret C hw (ret_i h) dX3_reachedStates_68
noncomputable def j_X3_armStates_26 (t0 : Nat) (a1 : Int32) (z0 : Int32) (v2 : Int32) (σ : Mem) : Option Int32 :=
  if v2 ≤ (1 : Int32) then (some z0) else (gd (ix a1 16) (some (z0 ||| ((1 : Int32) <<< ((σ.1 (t0 + 3) a1.toNatClampNeg) &&& 31)))))
noncomputable def f_X3_armStates (t0 : Nat) (a1 : Int32) (σ : Mem) : Option Int32 :=
  gd (ix a1 16) (lt (f_X8_armsOf (σ.1 (t0 + 1) a1.toNatClampNeg)) (fun x1 => if x1 ≤ 0 then (j_X3_armStates_26 t0 a1 (0 : Int32) x1 σ) else (gd (ix a1 16) (j_X3_armStates_26 t0 a1 ((1 : Int32) <<< ((σ.1 (t0 + 2) a1.toNatClampNeg) &&& 31)) x1 σ))))
set_option maxRecDepth 20000 in
theorem w_X3_armStates_26 {D : va_G} {cy : Nat → ClassId} {ad : Nat → Nat} {p : Program} {l : Launch} {e : Env} {R : Room} {s : State} {m : MethodId} {args : Array Value} {below : List Frame} {meth : Method} {c : Code} (C : Cx 1 D cy ad p R s m args meth c cX3_armStates 4 RX3 (some .int) 1) {t0 : Nat} {a1 : Int32} (ht0 : IsO 1 t0 3) {z0 : Int32} {v2 : Int32}  {σ : Mem} {H : Heap} {locs : List Loc} {ls : Array Slot} {r : Int32} (hw : Wd 1 D cy ad s σ H locs) (hl : lv_has ls 4 [(0, .ref (ad (t0))), (1, .int a1), (2, .int v2)]) (h : j_X3_armStates_26 t0 a1 z0 v2 σ = some r) : W p l e R s m args below meth c H locs 0 0 (QI 1 D cy ad below args s r σ) (F0 m 26 ls [.int z0]) := by
  unfold j_X3_armStates_26 at h
  refine lv_istore_n (lv' := [(3, .int _), (0, .ref _), (1, .int _), (2, .int _)]) C.1 C.2.1 dX3_armStates_26 rfl hl (by decide) rfl (fun ls hl => ?_)
  refine lv_iload_n C.1 C.2.1 dX3_armStates_27 rfl (lv_at hl 3 rfl) ?_
  refine lv_iconst (v := (1 : Int32)) C.1 C.2.1 dX3_armStates_28 (by decide) ?_
  refine lv_icmp_le (tgt := 45) C.1 C.2.1 dX3_armStates_29 (by decide) (fun cd => ?_) (fun cd => ?_)
  · have h := ite_t cd h
    refine lv_iload_n C.1 C.2.1 dX3_armStates_45 rfl (lv_at hl 0 rfl) ?_
    exact m_iret C hw (ret_i h) dX3_armStates_46
  · have h := ite_f cd h
    refine lv_iload_n C.1 C.2.1 dX3_armStates_32 rfl (lv_at hl 0 rfl) ?_
    refine lv_iconst (v := (1 : Int32)) C.1 C.2.1 dX3_armStates_33 (by decide) ?_
    refine lv_aload_n C.1 C.2.1 dX3_armStates_34 rfl (lv_at hl 1 rfl) ?_
    refine gf_X3_18 C hw ht0 dX3_armStates_35 ?_
    refine lv_iload_n C.1 C.2.1 dX3_armStates_38 rfl (lv_at hl 2 rfl) ?_
    obtain ⟨hin, h⟩ := gd_of h
    refine m_iald C hw (lawA2 ht0) hin dX3_armStates_39 ?_
    refine lv_ishl C.1 C.2.1 dX3_armStates_40 ?_
    refine lv_ior C.1 C.2.1 dX3_armStates_41 ?_
    refine lv_goto (tgt := 46) C.1 C.2.1 dX3_armStates_42 (by decide) ?_
    exact m_iret C hw (ret_i h) dX3_armStates_46
set_option maxRecDepth 20000 in
theorem c_X3_armStates {l : Launch} {D : va_G} {cy : Nat → ClassId} {ad : Nat → Nat} (hj : InjW 1 ad) (t0 : Nat) (a1 : Int32) (ht0 : IsO 1 t0 3) (σ : Mem) (r : Int32) (h : f_X3_armStates t0 a1 σ = some r) : CI 1 D cy ad l yX3_armStates cX3_armStates 4 (some .int) 1 [.ref (ad (t0)), .int a1] σ r σ := by
  refine CI.mk (by decide) hj (Nat.le_of_ble_eq_true rfl) (fun p e R s m below meth c ls C hw hl => ?_)
  have hl : lv_has ls 4 [(0, .ref (ad (t0))), (1, .int a1)] := hl
  generalize ([.ref (ad (t0)), .int a1] : List Value).toArray = args at C ⊢
  have C : Cx 1 D cy ad p R s m args meth c cX3_armStates 4 RX3 (some .int) 1 := C
  unfold f_X3_armStates at h
  refine lv_aload_n C.1 C.2.1 dX3_armStates_0 rfl (lv_at hl 0 rfl) ?_
  refine gf_X3_9 C hw ht0 dX3_armStates_1 ?_
  refine lv_iload_n C.1 C.2.1 dX3_armStates_4 rfl (lv_at hl 1 rfl) ?_
  obtain ⟨hin, h⟩ := gd_of h
  refine m_iald C hw (lawA0 ht0) hin dX3_armStates_5 ?_
  refine go_I hw (run_SN (As := [.int _]) C hw (c_X8_armsOf C.2.2.2.2.2.2.2.2.2 _ _) mi_X8_armsOf ms_X8_armsOf lk_X3_58 (by decide) (by decide) rfl hl.1 rfl (Nat.le_of_ble_eq_true rfl) dX3_armStates_6 ⟨Nat.le_refl 0, Nat.le_refl 0⟩) (fun H locs hw => ?_)
  obtain ⟨x1, ex1, h⟩ := lt_of h
  refine m_topi ex1 ?_
  refine lv_istore_n (lv' := [(2, .int _), (0, .ref _), (1, .int _)]) C.1 C.2.1 dX3_armStates_9 rfl hl (by decide) rfl (fun ls hl => ?_)
  refine lv_iload_n C.1 C.2.1 dX3_armStates_10 rfl (lv_at hl 0 rfl) ?_
  refine lv_if_le (tgt := 25) C.1 C.2.1 dX3_armStates_11 (by decide) (fun cd => ?_) (fun cd => ?_)
  · have h := ite_t cd h
    refine lv_iconst (v := (0 : Int32)) C.1 C.2.1 dX3_armStates_25 (by decide) ?_
    exact w_X3_armStates_26 C ht0 hw (lv_sub hl [1, 2, 0] rfl) h
  · have h := ite_f cd h
    refine lv_iconst (v := (1 : Int32)) C.1 C.2.1 dX3_armStates_14 (by decide) ?_
    refine lv_aload_n C.1 C.2.1 dX3_armStates_15 rfl (lv_at hl 1 rfl) ?_
    refine gf_X3_15 C hw ht0 dX3_armStates_16 ?_
    refine lv_iload_n C.1 C.2.1 dX3_armStates_19 rfl (lv_at hl 2 rfl) ?_
    obtain ⟨hin, h⟩ := gd_of h
    refine m_iald C hw (lawA1 ht0) hin dX3_armStates_20 ?_
    refine lv_ishl C.1 C.2.1 dX3_armStates_21 ?_
    refine lv_goto (tgt := 26) C.1 C.2.1 dX3_armStates_22 (by decide) ?_
    exact w_X3_armStates_26 C ht0 hw (lv_sub hl [1, 2, 0] rfl) h
noncomputable def j_X3_usefulStates_81 (t0 : Nat) (a1 : Int32) (a2 : Int32) (v3 : Int32) (v4 : Int32) (v5 : Int32) (v6 : Int32) (σ : Mem) : Option ((Int32 × Int32 × Int32 × Int32) ⊕ (Int32 × Int32 × Int32)) :=
  lt (v6 + (1 : Int32)) (fun x3 => some (.inl (v3, v4, v5, x3)))
noncomputable def b_X3_usefulStates_24 (t0 : Nat) (a1 : Int32) (a2 : Int32) (v3 : Int32) (v4 : Int32) (v5 : Int32) (v6 : Int32) (σ : Mem) : Option ((Int32 × Int32 × Int32 × Int32) ⊕ (Int32 × Int32 × Int32)) :=
  if (σ.1 t0 4) ≤ v6 then (some (.inr (v3, v4, v5))) else (if (f_X8_bit a1 v6) = (1 : Int32) then (gd (ix v6 16) (if (f_X8_bit v4 (σ.1 (t0 + 4) v6.toNatClampNeg)) = (1 : Int32) then ((f_X3_fits t0 v6 v3 v3 σ).bind (fun r4 => if r4 = 0 then (j_X3_usefulStates_81 t0 a1 a2 v3 v4 v5 v6 σ) else ((f_X3_armStates t0 v6 σ).bind (fun r5 => lt (v4 ||| r5) (fun x6 => j_X3_usefulStates_81 t0 a1 a2 v3 x6 v5 v6 σ))))) else (j_X3_usefulStates_81 t0 a1 a2 v3 v4 v5 v6 σ))) else (j_X3_usefulStates_81 t0 a1 a2 v3 v4 v5 v6 σ))
noncomputable def b_X3_usefulStates_14 (t0 : Nat) (a1 : Int32) (a2 : Int32) (v3 : Int32) (v4 : Int32) (v5 : Int32) (σ : Mem) : Option ((Int32 × Int32 × Int32) ⊕ Int32) :=
  if (6 : Int32) ≤ v5 then (some (.inr v4)) else ((Lim (T := (Int32 × Int32 × Int32)) (fun s => b_X3_usefulStates_24 t0 a1 a2 s.1 s.2.1 s.2.2.1 s.2.2.2 σ) (v3, v4, v5, (0 : Int32))).bind (fun r7 => lt (r7.2.2 + (1 : Int32)) (fun x8 => some (.inl (r7.1, r7.2.1, x8)))))
noncomputable def f_X3_usefulStates (t0 : Nat) (a1 : Int32) (a2 : Int32) (σ : Mem) : Option Int32 :=
  (f_X3_reachedStates t0 a1 σ).bind (fun r1 => lt (r1 &&& a2) (fun x2 => (Lim (T := Int32) (fun s => b_X3_usefulStates_14 t0 a1 a2 s.1 s.2.1 s.2.2 σ) (r1, x2, (0 : Int32))).bind (fun r9 => some r9)))
set_option maxRecDepth 20000 in
theorem w_X3_usefulStates_81 {D : va_G} {cy : Nat → ClassId} {ad : Nat → Nat} {p : Program} {l : Launch} {e : Env} {R : Room} {s : State} {m : MethodId} {args : Array Value} {below : List Frame} {meth : Method} {c : Code} (C : Cx 1 D cy ad p R s m args meth c cX3_usefulStates 7 RX3 (some .int) 3) {t0 : Nat} {a1 : Int32} {a2 : Int32} (ht0 : IsO 1 t0 3) {v3 : Int32} {v4 : Int32} {v5 : Int32} {v6 : Int32}  {σ : Mem} {H : Heap} {locs : List Loc} {ls : Array Slot} {Q : State → Prop} {P : (Int32 × Int32 × Int32 × Int32) → Prop} {r : (Int32 × Int32 × Int32)} {x : (Int32 × Int32 × Int32 × Int32) ⊕ (Int32 × Int32 × Int32)} (hx : LimQ P r x) (hP : ∀ u, P u → ∀ (H : Heap) (locs : List Loc) (ls : Array Slot), Wd 1 D cy ad s σ H locs → lv_has ls 7 [(0, .ref (ad (t0))), (1, .int a1), (3, .int u.1), (4, .int u.2.1), (5, .int u.2.2.1), (6, .int u.2.2.2)] → W p l e R s m args below meth c H locs 0 0 Q (F0 m 24 ls [])) (hE0 : ∀ (v3 : Int32) (v4 : Int32) (v5 : Int32), ((v3, v4, v5) : (Int32 × Int32 × Int32)) = r → ∀ (H : Heap) (locs : List Loc) (ls : Array Slot), Wd 1 D cy ad s σ H locs → lv_has ls 7 [(0, .ref (ad (t0))), (1, .int a1), (3, .int v3), (4, .int v4), (5, .int v5)] → W p l e R s m args below meth c H locs 0 0 Q (F0 m 87 ls [])) (hw : Wd 1 D cy ad s σ H locs) (hl : lv_has ls 7 [(0, .ref (ad (t0))), (1, .int a1), (3, .int v3), (4, .int v4), (5, .int v5), (6, .int v6)]) (h : j_X3_usefulStates_81 t0 a1 a2 v3 v4 v5 v6 σ = some x) : W p l e R s m args below meth c H locs 0 0 Q (F0 m 81 ls []) := by
  unfold j_X3_usefulStates_81 at h
  obtain ⟨x3, ex3, h⟩ := lt_of h
  refine m_iinc (k := 5) (lv' := [(6, .int _), (0, .ref _), (1, .int _), (3, .int _), (4, .int _), (5, .int _)]) C (1 : Int32) (by decide) dX3_usefulStates_81 hl rfl ex3.symm (by decide) rfl (fun ls hl => ?_)
  refine lv_goto (tgt := 24) C.1 C.2.1 dX3_usefulStates_84 (by decide) ?_
  obtain rfl := Option.some.inj h
  exact hP _ hx _ _ _ hw (lv_sub hl [1, 2, 3, 4, 5, 0] rfl)
set_option maxRecDepth 20000 in
theorem w_X3_usefulStates_24 {D : va_G} {cy : Nat → ClassId} {ad : Nat → Nat} {p : Program} {l : Launch} {e : Env} {R : Room} {s : State} {m : MethodId} {args : Array Value} {below : List Frame} {meth : Method} {c : Code} (C : Cx 1 D cy ad p R s m args meth c cX3_usefulStates 7 RX3 (some .int) 3) {t0 : Nat} {a1 : Int32} {a2 : Int32} (ht0 : IsO 1 t0 3) {v3 : Int32} {v4 : Int32} {v5 : Int32} {v6 : Int32} {σ : Mem} {Q : State → Prop} {r : (Int32 × Int32 × Int32)} (hL : Lim (T := (Int32 × Int32 × Int32)) (fun s => b_X3_usefulStates_24 t0 a1 a2 s.1 s.2.1 s.2.2.1 s.2.2.2 σ) (v3, v4, v5, v6) = some r) (hE0 : ∀ (v3 : Int32) (v4 : Int32) (v5 : Int32), ((v3, v4, v5) : (Int32 × Int32 × Int32)) = r → ∀ (H : Heap) (locs : List Loc) (ls : Array Slot), Wd 1 D cy ad s σ H locs → lv_has ls 7 [(0, .ref (ad (t0))), (1, .int a1), (3, .int v3), (4, .int v4), (5, .int v5)] → W p l e R s m args below meth c H locs 0 0 Q (F0 m 87 ls [])) (H : Heap) (locs : List Loc) (ls : Array Slot) (hw : Wd 1 D cy ad s σ H locs) (hl : lv_has ls 7 [(0, .ref (ad (t0))), (1, .int a1), (3, .int v3), (4, .int v4), (5, .int v5), (6, .int v6)]) : W p l e R s m args below meth c H locs 0 0 Q (F0 m 24 ls []) := by
  refine Lim_ind hL (P := fun u => ∀ (H : Heap) (locs : List Loc) (ls : Array Slot), Wd 1 D cy ad s σ H locs → lv_has ls 7 [(0, .ref (ad (t0))), (1, .int a1), (3, .int u.1), (4, .int u.2.1), (5, .int u.2.2.1), (6, .int u.2.2.2)] → W p l e R s m args below meth c H locs 0 0 Q (F0 m 24 ls [])) (fun u x h hx H locs ls hw hl => ?_) H locs ls hw hl
  clear hL
  obtain ⟨v3, v4, v5, v6⟩ := u
  have h : b_X3_usefulStates_24 t0 a1 a2 v3 v4 v5 v6 σ = some x := h
  have hw : Wd 1 D cy ad s σ H locs := hw
  have hl : lv_has ls 7 [(0, .ref (ad (t0))), (1, .int a1), (3, .int v3), (4, .int v4), (5, .int v5), (6, .int v6)] := hl
  have hP : ∀ (u : (Int32 × Int32 × Int32 × Int32)), (∀ (H : Heap) (locs : List Loc) (ls : Array Slot), Wd 1 D cy ad s σ H locs → lv_has ls 7 [(0, .ref (ad (t0))), (1, .int a1), (3, .int u.1), (4, .int u.2.1), (5, .int u.2.2.1), (6, .int u.2.2.2)] → W p l e R s m args below meth c H locs 0 0 Q (F0 m 24 ls [])) → ∀ (H : Heap) (locs : List Loc) (ls : Array Slot), Wd 1 D cy ad s σ H locs → lv_has ls 7 [(0, .ref (ad (t0))), (1, .int a1), (3, .int u.1), (4, .int u.2.1), (5, .int u.2.2.1), (6, .int u.2.2.2)] → W p l e R s m args below meth c H locs 0 0 Q (F0 m 24 ls []) := fun _ k => k
  unfold b_X3_usefulStates_24 at h
  refine lv_iload C.1 C.2.1 dX3_usefulStates_24 (lv_at hl 5 rfl) ?_
  refine lv_aload_n C.1 C.2.1 dX3_usefulStates_26 rfl (lv_at hl 0 rfl) ?_
  refine gf_X3_24 C hw ht0 dX3_usefulStates_27 ?_
  refine lv_icmp_ge (tgt := 87) C.1 C.2.1 dX3_usefulStates_30 (by decide) (fun cd => ?_) (fun cd => ?_)
  · have h := ite_t cd h
    obtain rfl := Option.some.inj h
    exact hE0 _ _ _ hx _ _ _ hw (lv_sub hl [0, 1, 2, 3, 4] rfl)
  · have h := ite_f cd h
    refine lv_iload_n C.1 C.2.1 dX3_usefulStates_33 rfl (lv_at hl 1 rfl) ?_
    refine lv_iload C.1 C.2.1 dX3_usefulStates_34 (lv_at hl 5 rfl) ?_
    refine go_I hw (run_SN (As := [.int _, .int _]) C hw (c_X8_bit C.2.2.2.2.2.2.2.2.2 _ _ _) mi_X8_bit ms_X8_bit lk_X3_66 (by decide) (by decide) rfl hl.1 rfl (Nat.le_of_ble_eq_true rfl) dX3_usefulStates_36 ⟨Nat.le_refl 0, Nat.le_refl 0⟩) (fun H locs hw => ?_)
    refine lv_iconst (v := (1 : Int32)) C.1 C.2.1 dX3_usefulStates_39 (by decide) ?_
    refine lv_icmp_ne (tgt := 81) C.1 C.2.1 dX3_usefulStates_40 (by decide) (fun cd => ?_) (fun cd => ?_)
    · have h := ite_f cd h
      exact w_X3_usefulStates_81 C ht0 hx hP hE0 hw (lv_sub hl [0, 1, 2, 3, 4, 5] rfl) h
    · have h := ite_t cd h
      refine lv_iload C.1 C.2.1 dX3_usefulStates_43 (lv_at hl 3 rfl) ?_
      refine lv_aload_n C.1 C.2.1 dX3_usefulStates_45 rfl (lv_at hl 0 rfl) ?_
      refine gf_X3_21 C hw ht0 dX3_usefulStates_46 ?_
      refine lv_iload C.1 C.2.1 dX3_usefulStates_49 (lv_at hl 5 rfl) ?_
      obtain ⟨hin, h⟩ := gd_of h
      refine m_iald C hw (lawA3 ht0) hin dX3_usefulStates_51 ?_
      refine go_I hw (run_SN (As := [.int _, .int _]) C hw (c_X8_bit C.2.2.2.2.2.2.2.2.2 _ _ _) mi_X8_bit ms_X8_bit lk_X3_66 (by decide) (by decide) rfl hl.1 rfl (Nat.le_of_ble_eq_true rfl) dX3_usefulStates_52 ⟨Nat.le_refl 0, Nat.le_refl 0⟩) (fun H locs hw => ?_)
      refine lv_iconst (v := (1 : Int32)) C.1 C.2.1 dX3_usefulStates_55 (by decide) ?_
      refine lv_icmp_ne (tgt := 81) C.1 C.2.1 dX3_usefulStates_56 (by decide) (fun cd => ?_) (fun cd => ?_)
      · have h := ite_f cd h
        exact w_X3_usefulStates_81 C ht0 hx hP hE0 hw (lv_sub hl [0, 1, 2, 3, 4, 5] rfl) h
      · have h := ite_t cd h
        refine lv_aload_n C.1 C.2.1 dX3_usefulStates_59 rfl (lv_at hl 0 rfl) ?_
        refine lv_iload C.1 C.2.1 dX3_usefulStates_60 (lv_at hl 5 rfl) ?_
        refine lv_iload_n C.1 C.2.1 dX3_usefulStates_62 rfl (lv_at hl 2 rfl) ?_
        refine lv_iload_n C.1 C.2.1 dX3_usefulStates_63 rfl (lv_at hl 2 rfl) ?_
        obtain ⟨r4, h1, h⟩ := bS h
        refine go_I hw (run_V (As := [.int _, .int _, .int _]) C hw (c_X3_fits C.2.2.2.2.2.2.2.2.2 _ _ _ _ ht0 _ _ h1) mi_X3_fits mv_X3_fits ht0 (ci := 3) rfl rfl lk_X3_70 (by decide) (by decide) rfl hl.1 rfl (Nat.le_of_ble_eq_true rfl) dX3_usefulStates_64 ⟨Nat.le_refl 0, Nat.le_refl 0⟩) (fun H locs hw => ?_)
        refine lv_if_eq (tgt := 81) C.1 C.2.1 dX3_usefulStates_67 (by decide) (fun cd => ?_) (fun cd => ?_)
        · have h := ite_t cd h
          exact w_X3_usefulStates_81 C ht0 hx hP hE0 hw (lv_sub hl [0, 1, 2, 3, 4, 5] rfl) h
        · have h := ite_f cd h
          refine lv_iload C.1 C.2.1 dX3_usefulStates_70 (lv_at hl 3 rfl) ?_
          refine lv_aload_n C.1 C.2.1 dX3_usefulStates_72 rfl (lv_at hl 0 rfl) ?_
          refine lv_iload C.1 C.2.1 dX3_usefulStates_73 (lv_at hl 5 rfl) ?_
          obtain ⟨r5, h1, h⟩ := bS h
          refine go_I hw (run_V (As := [.int _]) C hw (c_X3_armStates C.2.2.2.2.2.2.2.2.2 _ _ ht0 _ _ h1) mi_X3_armStates mv_X3_armStates ht0 (ci := 3) rfl rfl lk_X3_77 (by decide) (by decide) rfl hl.1 rfl (Nat.le_of_ble_eq_true rfl) dX3_usefulStates_75 ⟨Nat.le_refl 0, Nat.le_refl 0⟩) (fun H locs hw => ?_)
          refine lv_ior C.1 C.2.1 dX3_usefulStates_78 ?_
          obtain ⟨x6, ex6, h⟩ := lt_of h
          refine m_topi ex6 ?_
          refine lv_istore (lv' := [(4, .int _), (0, .ref _), (1, .int _), (3, .int _), (5, .int _), (6, .int _)]) C.1 C.2.1 dX3_usefulStates_79 hl (by decide) rfl (fun ls hl => ?_)
          exact w_X3_usefulStates_81 C ht0 hx hP hE0 hw (lv_sub hl [1, 2, 3, 0, 4, 5] rfl) h
set_option maxRecDepth 20000 in
theorem w_X3_usefulStates_14 {D : va_G} {cy : Nat → ClassId} {ad : Nat → Nat} {p : Program} {l : Launch} {e : Env} {R : Room} {s : State} {m : MethodId} {args : Array Value} {below : List Frame} {meth : Method} {c : Code} (C : Cx 1 D cy ad p R s m args meth c cX3_usefulStates 7 RX3 (some .int) 3) {t0 : Nat} {a1 : Int32} {a2 : Int32} (ht0 : IsO 1 t0 3) {v3 : Int32} {v4 : Int32} {v5 : Int32} {σ : Mem} {Q : State → Prop} {r : Int32} (hL : Lim (T := Int32) (fun s => b_X3_usefulStates_14 t0 a1 a2 s.1 s.2.1 s.2.2 σ) (v3, v4, v5) = some r) (hE0 : ∀ (v4 : Int32), (v4 : Int32) = r → ∀ (H : Heap) (locs : List Loc) (ls : Array Slot), Wd 1 D cy ad s σ H locs → lv_has ls 7 [(4, .int v4)] → W p l e R s m args below meth c H locs 0 0 Q (F0 m 93 ls [])) (H : Heap) (locs : List Loc) (ls : Array Slot) (hw : Wd 1 D cy ad s σ H locs) (hl : lv_has ls 7 [(0, .ref (ad (t0))), (1, .int a1), (3, .int v3), (4, .int v4), (5, .int v5)]) : W p l e R s m args below meth c H locs 0 0 Q (F0 m 14 ls []) := by
  refine Lim_ind hL (P := fun u => ∀ (H : Heap) (locs : List Loc) (ls : Array Slot), Wd 1 D cy ad s σ H locs → lv_has ls 7 [(0, .ref (ad (t0))), (1, .int a1), (3, .int u.1), (4, .int u.2.1), (5, .int u.2.2)] → W p l e R s m args below meth c H locs 0 0 Q (F0 m 14 ls [])) (fun u x h hx H locs ls hw hl => ?_) H locs ls hw hl
  clear hL
  obtain ⟨v3, v4, v5⟩ := u
  have h : b_X3_usefulStates_14 t0 a1 a2 v3 v4 v5 σ = some x := h
  have hw : Wd 1 D cy ad s σ H locs := hw
  have hl : lv_has ls 7 [(0, .ref (ad (t0))), (1, .int a1), (3, .int v3), (4, .int v4), (5, .int v5)] := hl
  have hP : ∀ (u : (Int32 × Int32 × Int32)), (∀ (H : Heap) (locs : List Loc) (ls : Array Slot), Wd 1 D cy ad s σ H locs → lv_has ls 7 [(0, .ref (ad (t0))), (1, .int a1), (3, .int u.1), (4, .int u.2.1), (5, .int u.2.2)] → W p l e R s m args below meth c H locs 0 0 Q (F0 m 14 ls [])) → ∀ (H : Heap) (locs : List Loc) (ls : Array Slot), Wd 1 D cy ad s σ H locs → lv_has ls 7 [(0, .ref (ad (t0))), (1, .int a1), (3, .int u.1), (4, .int u.2.1), (5, .int u.2.2)] → W p l e R s m args below meth c H locs 0 0 Q (F0 m 14 ls []) := fun _ k => k
  unfold b_X3_usefulStates_14 at h
  refine lv_iload C.1 C.2.1 dX3_usefulStates_14 (lv_at hl 4 rfl) ?_
  refine lv_bipush (v := (6 : Int32)) C.1 C.2.1 dX3_usefulStates_16 (by decide) ?_
  refine lv_icmp_ge (tgt := 93) C.1 C.2.1 dX3_usefulStates_18 (by decide) (fun cd => ?_) (fun cd => ?_)
  · have h := ite_t cd h
    obtain rfl := Option.some.inj h
    exact hE0 _ hx _ _ _ hw (lv_sub hl [3] rfl)
  · have h := ite_f cd h
    refine lv_iconst (v := (0 : Int32)) C.1 C.2.1 dX3_usefulStates_21 (by decide) ?_
    refine lv_istore (lv' := [(6, .int _), (0, .ref _), (1, .int _), (3, .int _), (4, .int _), (5, .int _)]) C.1 C.2.1 dX3_usefulStates_22 hl (by decide) rfl (fun ls hl => ?_)
    obtain ⟨r7, hL, h⟩ := bS h
    refine w_X3_usefulStates_24 C ht0  hL (fun y0 y1 y2 hr H locs ls hw hl => ?_) _ _ _ hw (lv_sub hl [1, 2, 3, 4, 5, 0] rfl)
    · subst hr
      try dsimp only at h
      try dsimp only at hw
      try dsimp only at hl
      obtain ⟨x8, ex8, h⟩ := lt_of h
      refine m_iinc (k := 4) (lv' := [(5, .int _), (0, .ref _), (1, .int _), (3, .int _), (4, .int _)]) C (1 : Int32) (by decide) dX3_usefulStates_87 hl rfl ex8.symm (by decide) rfl (fun ls hl => ?_)
      refine lv_goto (tgt := 14) C.1 C.2.1 dX3_usefulStates_90 (by decide) ?_
      obtain rfl := Option.some.inj h
      exact hP _ hx _ _ _ hw (lv_sub hl [1, 2, 3, 4, 0] rfl)
set_option maxRecDepth 20000 in
theorem c_X3_usefulStates {l : Launch} {D : va_G} {cy : Nat → ClassId} {ad : Nat → Nat} (hj : InjW 1 ad) (t0 : Nat) (a1 : Int32) (a2 : Int32) (ht0 : IsO 1 t0 3) (σ : Mem) (r : Int32) (h : f_X3_usefulStates t0 a1 a2 σ = some r) : CI 1 D cy ad l yX3_usefulStates cX3_usefulStates 7 (some .int) 3 [.ref (ad (t0)), .int a1, .int a2] σ r σ := by
  refine CI.mk (by decide) hj (Nat.le_of_ble_eq_true rfl) (fun p e R s m below meth c ls C hw hl => ?_)
  have hl : lv_has ls 7 [(0, .ref (ad (t0))), (1, .int a1), (2, .int a2)] := hl
  generalize ([.ref (ad (t0)), .int a1, .int a2] : List Value).toArray = args at C ⊢
  have C : Cx 1 D cy ad p R s m args meth c cX3_usefulStates 7 RX3 (some .int) 3 := C
  unfold f_X3_usefulStates at h
  refine lv_aload_n C.1 C.2.1 dX3_usefulStates_0 rfl (lv_at hl 0 rfl) ?_
  refine lv_iload_n C.1 C.2.1 dX3_usefulStates_1 rfl (lv_at hl 1 rfl) ?_
  obtain ⟨r1, h1, h⟩ := bS h
  refine go_I hw (run_V (As := [.int _]) C hw (c_X3_reachedStates C.2.2.2.2.2.2.2.2.2 _ _ ht0 _ _ h1) mi_X3_reachedStates mv_X3_reachedStates ht0 (ci := 3) rfl rfl lk_X3_74 (by decide) (by decide) rfl hl.1 rfl (Nat.le_of_ble_eq_true rfl) dX3_usefulStates_2 ⟨Nat.le_refl 0, Nat.le_refl 0⟩) (fun H locs hw => ?_)
  refine lv_istore_n (lv' := [(3, .int _), (0, .ref _), (1, .int _), (2, .int _)]) C.1 C.2.1 dX3_usefulStates_5 rfl hl (by decide) rfl (fun ls hl => ?_)
  refine lv_iload_n C.1 C.2.1 dX3_usefulStates_6 rfl (lv_at hl 0 rfl) ?_
  refine lv_iload_n C.1 C.2.1 dX3_usefulStates_7 rfl (lv_at hl 3 rfl) ?_
  refine lv_iand C.1 C.2.1 dX3_usefulStates_8 ?_
  obtain ⟨x2, ex2, h⟩ := lt_of h
  refine m_topi ex2 ?_
  refine lv_istore (lv' := [(4, .int _), (3, .int _), (0, .ref _), (1, .int _), (2, .int _)]) C.1 C.2.1 dX3_usefulStates_9 hl (by decide) rfl (fun ls hl => ?_)
  refine lv_iconst (v := (0 : Int32)) C.1 C.2.1 dX3_usefulStates_11 (by decide) ?_
  refine lv_istore (lv' := [(5, .int _), (4, .int _), (3, .int _), (0, .ref _), (1, .int _), (2, .int _)]) C.1 C.2.1 dX3_usefulStates_12 hl (by decide) rfl (fun ls hl => ?_)
  obtain ⟨r9, hL, h⟩ := bS h
  refine w_X3_usefulStates_14 C ht0  hL (fun y0 hr H locs ls hw hl => ?_) _ _ _ hw (lv_sub hl [3, 4, 2, 1, 0] rfl)
  · subst hr
    try dsimp only at h
    try dsimp only at hw
    try dsimp only at hl
    refine lv_iload C.1 C.2.1 dX3_usefulStates_93 (lv_at hl 0 rfl) ?_
    exact m_iret C hw (ret_i h) dX3_usefulStates_95
noncomputable def b_X4_forget_2  (v1 : Int32) (σ : Mem) : Option ((Int32 × Mem) ⊕ Mem) :=
  if (σ.1 9 17) ≤ v1 then (some (.inr σ)) else (gd (ix v1 120) (gd (ix (σ.1 10 v1.toNatClampNeg) 4096) (lt (sI σ 18 (σ.1 10 v1.toNatClampNeg).toNatClampNeg (vp_nar .short (0 : Int32))) (fun σ1 => lt (v1 + (1 : Int32)) (fun x2 => some (.inl (x2, σ1)))))))
noncomputable def f_X4_forget  (σ : Mem) : Option Mem :=
  (Lim (T := Mem) (fun s => b_X4_forget_2 s.1 s.2) ((0 : Int32), σ)).bind (fun r3 => lt (sI r3 9 17 (0 : Int32)) (fun σ4 => lt (sI σ4 9 18 (0 : Int32)) (fun σ5 => lt (sI σ5 9 15 (-1 : Int32)) (fun σ6 => lt (sI σ6 9 16 (-1 : Int32)) (fun σ7 => some σ7)))))
set_option maxRecDepth 20000 in
theorem w_X4_forget_2 {D : va_G} {cy : Nat → ClassId} {ad : Nat → Nat} {p : Program} {l : Launch} {e : Env} {R : Room} {s : State} {m : MethodId} {args : Array Value} {below : List Frame} {meth : Method} {c : Code} (C : Cx 1 D cy ad p R s m args meth c cX4_forget 2 RX4 none 0)   {v1 : Int32} {σ : Mem} {Q : State → Prop} {r : Mem} (hL : Lim (T := Mem) (fun s => b_X4_forget_2 s.1 s.2) (v1, σ) = some r) (hE0 : ∀ (σ1 : Mem), (σ1 : Mem) = r → ∀ (H : Heap) (locs : List Loc) (ls : Array Slot), Wd 1 D cy ad s σ1 H locs → lv_has ls 2 [(0, .ref (ad (9)))] → W p l e R s m args below meth c H locs 0 0 Q (F0 m 28 ls [])) (H : Heap) (locs : List Loc) (ls : Array Slot) (hw : Wd 1 D cy ad s σ H locs) (hl : lv_has ls 2 [(0, .ref (ad (9))), (1, .int v1)]) : W p l e R s m args below meth c H locs 0 0 Q (F0 m 2 ls []) := by
  refine Lim_ind hL (P := fun u => ∀ (H : Heap) (locs : List Loc) (ls : Array Slot), Wd 1 D cy ad s u.2 H locs → lv_has ls 2 [(0, .ref (ad (9))), (1, .int u.1)] → W p l e R s m args below meth c H locs 0 0 Q (F0 m 2 ls [])) (fun u x h hx H locs ls hw hl => ?_) H locs ls hw hl
  clear hL
  obtain ⟨v1, σ⟩ := u
  have h : b_X4_forget_2 v1 σ = some x := h
  have hw : Wd 1 D cy ad s σ H locs := hw
  have hl : lv_has ls 2 [(0, .ref (ad (9))), (1, .int v1)] := hl
  have hP : ∀ (u : (Int32 × Mem)), (∀ (H : Heap) (locs : List Loc) (ls : Array Slot), Wd 1 D cy ad s u.2 H locs → lv_has ls 2 [(0, .ref (ad (9))), (1, .int u.1)] → W p l e R s m args below meth c H locs 0 0 Q (F0 m 2 ls [])) → ∀ (H : Heap) (locs : List Loc) (ls : Array Slot), Wd 1 D cy ad s u.2 H locs → lv_has ls 2 [(0, .ref (ad (9))), (1, .int u.1)] → W p l e R s m args below meth c H locs 0 0 Q (F0 m 2 ls []) := fun _ k => k
  unfold b_X4_forget_2 at h
  refine lv_iload_n C.1 C.2.1 dX4_forget_2 rfl (lv_at hl 1 rfl) ?_
  refine lv_aload_n C.1 C.2.1 dX4_forget_3 rfl (lv_at hl 0 rfl) ?_
  refine gf_X4_78 C hw dX4_forget_4 ?_
  refine lv_icmp_ge (tgt := 28) C.1 C.2.1 dX4_forget_7 (by decide) (fun cd => ?_) (fun cd => ?_)
  · have h := ite_t cd h
    obtain rfl := Option.some.inj h
    exact hE0 _ hx _ _ _ hw (lv_sub hl [0] rfl)
  · have h := ite_f cd h
    refine lv_aload_n C.1 C.2.1 dX4_forget_10 rfl (lv_at hl 0 rfl) ?_
    refine gf_X4_37 C hw dX4_forget_11 ?_
    refine lv_aload_n C.1 C.2.1 dX4_forget_14 rfl (lv_at hl 0 rfl) ?_
    refine gf_X4_11 C hw dX4_forget_15 ?_
    refine lv_iload_n C.1 C.2.1 dX4_forget_18 rfl (lv_at hl 1 rfl) ?_
    obtain ⟨hin, h⟩ := gd_of h
    refine m_iald C hw a1_10 hin dX4_forget_19 ?_
    refine lv_iconst (v := (0 : Int32)) C.1 C.2.1 dX4_forget_20 (by decide) ?_
    obtain ⟨hin, h⟩ := gd_of h
    refine m_sast C hw a1_18 hin dX4_forget_21 (fun H locs hw => ?_)
    obtain ⟨σ1, eσ1, h⟩ := lt_of h
    rw [← eσ1] at hw
    obtain ⟨x2, ex2, h⟩ := lt_of h
    refine m_iinc (k := 1) (lv' := [(1, .int _), (0, .ref _)]) C (1 : Int32) (by decide) dX4_forget_22 hl rfl ex2.symm (by decide) rfl (fun ls hl => ?_)
    refine lv_goto (tgt := 2) C.1 C.2.1 dX4_forget_25 (by decide) ?_
    obtain rfl := Option.some.inj h
    exact hP _ hx _ _ _ hw (lv_sub hl [1, 0] rfl)
set_option maxRecDepth 20000 in
theorem c_X4_forget {l : Launch} {D : va_G} {cy : Nat → ClassId} {ad : Nat → Nat} (hj : InjW 1 ad)   (σ : Mem) (r : Mem) (h : f_X4_forget σ = some r) : CV 1 D cy ad l yX4_forget cX4_forget 2 none 0 [.ref (ad (9))] σ r := by
  refine CV.mk (by decide) hj (Nat.le_of_ble_eq_true rfl) (fun p e R s m below meth c ls C hw hl => ?_)
  have hl : lv_has ls 2 [(0, .ref (ad (9)))] := hl
  generalize ([.ref (ad (9))] : List Value).toArray = args at C ⊢
  have C : Cx 1 D cy ad p R s m args meth c cX4_forget 2 RX4 none 0 := C
  unfold f_X4_forget at h
  refine lv_iconst (v := (0 : Int32)) C.1 C.2.1 dX4_forget_0 (by decide) ?_
  refine lv_istore_n (lv' := [(1, .int _), (0, .ref _)]) C.1 C.2.1 dX4_forget_1 rfl hl (by decide) rfl (fun ls hl => ?_)
  obtain ⟨r3, hL, h⟩ := bS h
  refine w_X4_forget_2 C  hL (fun y0 hr H locs ls hw hl => ?_) _ _ _ hw (lv_sub hl [1, 0] rfl)
  · subst hr
    try dsimp only at h
    try dsimp only at hw
    try dsimp only at hl
    refine lv_aload_n C.1 C.2.1 dX4_forget_28 rfl (lv_at hl 0 rfl) ?_
    refine lv_iconst (v := (0 : Int32)) C.1 C.2.1 dX4_forget_29 (by decide) ?_
    refine pf_X4_78 C hw dX4_forget_30 (fun H locs hw => ?_)
    obtain ⟨σ4, eσ4, h⟩ := lt_of h
    rw [← eσ4] at hw
    refine lv_aload_n C.1 C.2.1 dX4_forget_33 rfl (lv_at hl 0 rfl) ?_
    refine lv_iconst (v := (0 : Int32)) C.1 C.2.1 dX4_forget_34 (by decide) ?_
    refine pf_X4_81 C hw rfl rfl dX4_forget_35 (fun H locs hw => ?_)
    obtain ⟨σ5, eσ5, h⟩ := lt_of h
    rw [← eσ5] at hw
    refine lv_aload_n C.1 C.2.1 dX4_forget_38 rfl (lv_at hl 0 rfl) ?_
    refine lv_iconst (v := (-1 : Int32)) C.1 C.2.1 dX4_forget_39 (by decide) ?_
    refine pf_X4_71 C hw dX4_forget_40 (fun H locs hw => ?_)
    obtain ⟨σ6, eσ6, h⟩ := lt_of h
    rw [← eσ6] at hw
    refine lv_aload_n C.1 C.2.1 dX4_forget_43 rfl (lv_at hl 0 rfl) ?_
    refine lv_iconst (v := (-1 : Int32)) C.1 C.2.1 dX4_forget_44 (by decide) ?_
    refine pf_X4_75 C hw dX4_forget_45 (fun H locs hw => ?_)
    obtain ⟨σ7, eσ7, h⟩ := lt_of h
    rw [← eσ7] at hw
    exact m_vret C hw (Option.some.inj h) dX4_forget_48
noncomputable def f_X5_begin  (σ : Mem) : Option Mem :=
  lt (sI σ 22 2 (0 : Int32)) (fun σ1 => some σ1)
set_option maxRecDepth 20000 in
theorem c_X5_begin {l : Launch} {D : va_G} {cy : Nat → ClassId} {ad : Nat → Nat} (hj : InjW 1 ad)   (σ : Mem) (r : Mem) (h : f_X5_begin σ = some r) : CV 1 D cy ad l yX5_begin cX5_begin 1 none 0 [.ref (ad (22))] σ r := by
  refine CV.mk (by decide) hj (Nat.le_of_ble_eq_true rfl) (fun p e R s m below meth c ls C hw hl => ?_)
  have hl : lv_has ls 1 [(0, .ref (ad (22)))] := hl
  generalize ([.ref (ad (22))] : List Value).toArray = args at C ⊢
  have C : Cx 1 D cy ad p R s m args meth c cX5_begin 1 RX5 none 0 := C
  unfold f_X5_begin at h
  refine lv_aload_n C.1 C.2.1 dX5_begin_0 rfl (lv_at hl 0 rfl) ?_
  refine lv_iconst (v := (0 : Int32)) C.1 C.2.1 dX5_begin_1 (by decide) ?_
  refine pf_X5_21 C hw rfl rfl dX5_begin_2 (fun H locs hw => ?_)
  obtain ⟨σ1, eσ1, h⟩ := lt_of h
  rw [← eσ1] at hw
  exact m_vret C hw (Option.some.inj h) dX5_begin_5
noncomputable def b_X4_resultsOf_4 (a1 : Int32) (v2 : Int32) (v3 : Int32) (σ : Mem) : Option ((Int32 × Int32) ⊕ Int32) :=
  if (σ.1 29 4) ≤ v3 then (some (.inr v2)) else (if a1 = 0 then (some (.inr v2)) else (gd (ix v3 16) (lt (v2 ||| ((f_X8_bit a1 v3) <<< ((σ.1 (29 + 4) v3.toNatClampNeg) &&& 31))) (fun x1 => gd (ix v3 16) (lt (x1 ||| ((f_X8_bit a1 (v3 + (16 : Int32))) <<< (((σ.1 (29 + 4) v3.toNatClampNeg) + (6 : Int32)) &&& 31))) (fun x2 => lt (v3 + (1 : Int32)) (fun x3 => some (.inl (x2, x3)))))))))
noncomputable def f_X4_resultsOf (a1 : Int32) (σ : Mem) : Option Int32 :=
  (Lim (T := Int32) (fun s => b_X4_resultsOf_4 a1 s.1 s.2 σ) ((0 : Int32), (0 : Int32))).bind (fun r4 => some r4)
set_option maxRecDepth 20000 in
theorem w_X4_resultsOf_4 {D : va_G} {cy : Nat → ClassId} {ad : Nat → Nat} {p : Program} {l : Launch} {e : Env} {R : Room} {s : State} {m : MethodId} {args : Array Value} {below : List Frame} {meth : Method} {c : Code} (C : Cx 1 D cy ad p R s m args meth c cX4_resultsOf 4 RX4 (some .int) 1) {a1 : Int32}  {v2 : Int32} {v3 : Int32} {σ : Mem} {Q : State → Prop} {r : Int32} (hL : Lim (T := Int32) (fun s => b_X4_resultsOf_4 a1 s.1 s.2 σ) (v2, v3) = some r) (hE0 : ∀ (v2 : Int32), (v2 : Int32) = r → ∀ (H : Heap) (locs : List Loc) (ls : Array Slot), Wd 1 D cy ad s σ H locs → lv_has ls 4 [(2, .int v2)] → W p l e R s m args below meth c H locs 0 0 Q (F0 m 67 ls [])) (H : Heap) (locs : List Loc) (ls : Array Slot) (hw : Wd 1 D cy ad s σ H locs) (hl : lv_has ls 4 [(0, .ref (ad (9))), (1, .int a1), (2, .int v2), (3, .int v3)]) : W p l e R s m args below meth c H locs 0 0 Q (F0 m 4 ls []) := by
  refine Lim_ind hL (P := fun u => ∀ (H : Heap) (locs : List Loc) (ls : Array Slot), Wd 1 D cy ad s σ H locs → lv_has ls 4 [(0, .ref (ad (9))), (1, .int a1), (2, .int u.1), (3, .int u.2)] → W p l e R s m args below meth c H locs 0 0 Q (F0 m 4 ls [])) (fun u x h hx H locs ls hw hl => ?_) H locs ls hw hl
  clear hL
  obtain ⟨v2, v3⟩ := u
  have h : b_X4_resultsOf_4 a1 v2 v3 σ = some x := h
  have hw : Wd 1 D cy ad s σ H locs := hw
  have hl : lv_has ls 4 [(0, .ref (ad (9))), (1, .int a1), (2, .int v2), (3, .int v3)] := hl
  have hP : ∀ (u : (Int32 × Int32)), (∀ (H : Heap) (locs : List Loc) (ls : Array Slot), Wd 1 D cy ad s σ H locs → lv_has ls 4 [(0, .ref (ad (9))), (1, .int a1), (2, .int u.1), (3, .int u.2)] → W p l e R s m args below meth c H locs 0 0 Q (F0 m 4 ls [])) → ∀ (H : Heap) (locs : List Loc) (ls : Array Slot), Wd 1 D cy ad s σ H locs → lv_has ls 4 [(0, .ref (ad (9))), (1, .int a1), (2, .int u.1), (3, .int u.2)] → W p l e R s m args below meth c H locs 0 0 Q (F0 m 4 ls []) := fun _ k => k
  unfold b_X4_resultsOf_4 at h
  refine lv_iload_n C.1 C.2.1 dX4_resultsOf_4 rfl (lv_at hl 3 rfl) ?_
  refine lv_aload_n C.1 C.2.1 dX4_resultsOf_5 rfl (lv_at hl 0 rfl) ?_
  refine gf_X4_67 C hw dX4_resultsOf_6 ?_
  refine gf_X4_108 C hw o1_29 dX4_resultsOf_9 ?_
  refine lv_icmp_ge (tgt := 67) C.1 C.2.1 dX4_resultsOf_12 (by decide) (fun cd => ?_) (fun cd => ?_)
  · have h := ite_t cd h
    obtain rfl := Option.some.inj h
    exact hE0 _ hx _ _ _ hw (lv_sub hl [2] rfl)
  · have h := ite_f cd h
    refine lv_iload_n C.1 C.2.1 dX4_resultsOf_15 rfl (lv_at hl 1 rfl) ?_
    refine lv_if_eq (tgt := 67) C.1 C.2.1 dX4_resultsOf_16 (by decide) (fun cd => ?_) (fun cd => ?_)
    · have h := ite_t cd h
      obtain rfl := Option.some.inj h
      exact hE0 _ hx _ _ _ hw (lv_sub hl [2] rfl)
    · have h := ite_f cd h
      refine lv_iload_n C.1 C.2.1 dX4_resultsOf_19 rfl (lv_at hl 2 rfl) ?_
      refine lv_iload_n C.1 C.2.1 dX4_resultsOf_20 rfl (lv_at hl 1 rfl) ?_
      refine lv_iload_n C.1 C.2.1 dX4_resultsOf_21 rfl (lv_at hl 3 rfl) ?_
      refine go_I hw (run_SN (As := [.int _, .int _]) C hw (c_X8_bit C.2.2.2.2.2.2.2.2.2 _ _ _) mi_X8_bit ms_X8_bit lk_X4_110 (by decide) (by decide) rfl hl.1 rfl (Nat.le_of_ble_eq_true rfl) dX4_resultsOf_22 ⟨Nat.le_refl 0, Nat.le_refl 0⟩) (fun H locs hw => ?_)
      refine lv_aload_n C.1 C.2.1 dX4_resultsOf_25 rfl (lv_at hl 0 rfl) ?_
      refine gf_X4_67 C hw dX4_resultsOf_26 ?_
      refine gf_X4_132 C hw o1_29 dX4_resultsOf_29 ?_
      refine lv_iload_n C.1 C.2.1 dX4_resultsOf_32 rfl (lv_at hl 3 rfl) ?_
      obtain ⟨hin, h⟩ := gd_of h
      refine m_iald C hw (lawA3 o1_29) hin dX4_resultsOf_33 ?_
      refine lv_ishl C.1 C.2.1 dX4_resultsOf_34 ?_
      refine lv_ior C.1 C.2.1 dX4_resultsOf_35 ?_
      obtain ⟨x1, ex1, h⟩ := lt_of h
      refine m_topi ex1 ?_
      refine lv_istore_n (lv' := [(2, .int _), (0, .ref _), (1, .int _), (3, .int _)]) C.1 C.2.1 dX4_resultsOf_36 rfl hl (by decide) rfl (fun ls hl => ?_)
      refine lv_iload_n C.1 C.2.1 dX4_resultsOf_37 rfl (lv_at hl 0 rfl) ?_
      refine lv_iload_n C.1 C.2.1 dX4_resultsOf_38 rfl (lv_at hl 2 rfl) ?_
      refine lv_iload_n C.1 C.2.1 dX4_resultsOf_39 rfl (lv_at hl 3 rfl) ?_
      refine lv_bipush (v := (16 : Int32)) C.1 C.2.1 dX4_resultsOf_40 (by decide) ?_
      refine lv_iadd C.1 C.2.1 dX4_resultsOf_42 ?_
      refine go_I hw (run_SN (As := [.int _, .int _]) C hw (c_X8_bit C.2.2.2.2.2.2.2.2.2 _ _ _) mi_X8_bit ms_X8_bit lk_X4_110 (by decide) (by decide) rfl hl.1 rfl (Nat.le_of_ble_eq_true rfl) dX4_resultsOf_43 ⟨Nat.le_refl 0, Nat.le_refl 0⟩) (fun H locs hw => ?_)
      refine lv_aload_n C.1 C.2.1 dX4_resultsOf_46 rfl (lv_at hl 1 rfl) ?_
      refine gf_X4_67 C hw dX4_resultsOf_47 ?_
      refine gf_X4_132 C hw o1_29 dX4_resultsOf_50 ?_
      refine lv_iload_n C.1 C.2.1 dX4_resultsOf_53 rfl (lv_at hl 3 rfl) ?_
      obtain ⟨hin, h⟩ := gd_of h
      refine m_iald C hw (lawA3 o1_29) hin dX4_resultsOf_54 ?_
      refine lv_bipush (v := (6 : Int32)) C.1 C.2.1 dX4_resultsOf_55 (by decide) ?_
      refine lv_iadd C.1 C.2.1 dX4_resultsOf_57 ?_
      refine lv_ishl C.1 C.2.1 dX4_resultsOf_58 ?_
      refine lv_ior C.1 C.2.1 dX4_resultsOf_59 ?_
      obtain ⟨x2, ex2, h⟩ := lt_of h
      refine m_topi ex2 ?_
      refine lv_istore_n (lv' := [(2, .int _), (0, .ref _), (1, .int _), (3, .int _)]) C.1 C.2.1 dX4_resultsOf_60 rfl hl (by decide) rfl (fun ls hl => ?_)
      obtain ⟨x3, ex3, h⟩ := lt_of h
      refine m_iinc (k := 3) (lv' := [(3, .int _), (2, .int _), (0, .ref _), (1, .int _)]) C (1 : Int32) (by decide) dX4_resultsOf_61 hl rfl ex3.symm (by decide) rfl (fun ls hl => ?_)
      refine lv_goto (tgt := 4) C.1 C.2.1 dX4_resultsOf_64 (by decide) ?_
      obtain rfl := Option.some.inj h
      exact hP _ hx _ _ _ hw (lv_sub hl [2, 3, 1, 0] rfl)
set_option maxRecDepth 20000 in
theorem c_X4_resultsOf {l : Launch} {D : va_G} {cy : Nat → ClassId} {ad : Nat → Nat} (hj : InjW 1 ad) (a1 : Int32)  (σ : Mem) (r : Int32) (h : f_X4_resultsOf a1 σ = some r) : CI 1 D cy ad l yX4_resultsOf cX4_resultsOf 4 (some .int) 1 [.ref (ad (9)), .int a1] σ r σ := by
  refine CI.mk (by decide) hj (Nat.le_of_ble_eq_true rfl) (fun p e R s m below meth c ls C hw hl => ?_)
  have hl : lv_has ls 4 [(0, .ref (ad (9))), (1, .int a1)] := hl
  generalize ([.ref (ad (9)), .int a1] : List Value).toArray = args at C ⊢
  have C : Cx 1 D cy ad p R s m args meth c cX4_resultsOf 4 RX4 (some .int) 1 := C
  unfold f_X4_resultsOf at h
  refine lv_iconst (v := (0 : Int32)) C.1 C.2.1 dX4_resultsOf_0 (by decide) ?_
  refine lv_istore_n (lv' := [(2, .int _), (0, .ref _), (1, .int _)]) C.1 C.2.1 dX4_resultsOf_1 rfl hl (by decide) rfl (fun ls hl => ?_)
  refine lv_iconst (v := (0 : Int32)) C.1 C.2.1 dX4_resultsOf_2 (by decide) ?_
  refine lv_istore_n (lv' := [(3, .int _), (2, .int _), (0, .ref _), (1, .int _)]) C.1 C.2.1 dX4_resultsOf_3 rfl hl (by decide) rfl (fun ls hl => ?_)
  obtain ⟨r4, hL, h⟩ := bS h
  refine w_X4_resultsOf_4 C  hL (fun y0 hr H locs ls hw hl => ?_) _ _ _ hw (lv_sub hl [2, 3, 1, 0] rfl)
  · subst hr
    try dsimp only at h
    try dsimp only at hw
    try dsimp only at hl
    refine lv_iload_n C.1 C.2.1 dX4_resultsOf_67 rfl (lv_at hl 0 rfl) ?_
    exact m_iret C hw (ret_i h) dX4_resultsOf_68
def f_J9_min_7cf53 (a0 : Int32) (a1 : Int32) : Int32 := if a1 < a0 then a1 else a0
theorem m_min {w : Nat} {D : va_G} {cy : Nat → ClassId} {ad : Nat → Nat} {p : Program} {l : Launch} {e : Env} {R : Room} {s : State} {m : MethodId} {args : Array Value} {below : List Frame} {meth : Method} {c : Code} {H : Heap} {locs : List Loc} {Q : State → Prop} {b : ByteArray} {nL : Nat} {own : String} {ret : Option FieldType} {d : Nat} {pc : Nat} {ls : Array Slot} {rest : List Value} {index : Nat} {x y : Int32} (C : Cx w D cy ad p R s m args meth c b nL own ret d) (hl : Cond.methodLink own index yJ9_min_7cf53 ∈ gw_tbl) (hd : 1 ≤ d) (hsz : ls.size = nL) (hr : (rest.map fun v => v.category).sum ≤ 8) (hdg : decode b pc = .ok (.invokestatic index, 3))
    (kk : W p l e R s m args below meth c H locs 0 0 Q (F0 m (pc + 3) ls (.int (f_J9_min_7cf53 x y) :: rest))) : W p l e R s m args below meth c H locs 0 0 Q (F0 m pc ls (.int y :: .int x :: rest)) := by
  obtain ⟨hx, hb, hml, hown, hts, -, -, rfl, -⟩ := C
  exact va_mmin hx hb (hml.trans hsz.symm) hown (hts _ hl) (hts _ ms_J9_min_7cf53) (hts _ mi_J9_min_7cf53.2.1) (hts _ mi_J9_min_7cf53.1) hd (by show _ + 13 ≤ 40 * d; omega) (Nat.zero_le _) (Nat.zero_le _) hdg kk
noncomputable def j_X4_sizeOver_28 (a1 : Int32) (a2 : Int32) (v3 : Int32) (σ : Mem) : Option Int32 :=
  some (f_J9_min_7cf53 v3 (32 : Int32))
noncomputable def j_X4_sizeOver_15 (a1 : Int32) (a2 : Int32) (v3 : Int32) (σ : Mem) : Option Int32 :=
  if a2 < 0 then (j_X4_sizeOver_28 a1 a2 v3 σ) else (gd (ix a2 120) (lt (v3 + (σ.1 13 a2.toNatClampNeg)) (fun x1 => j_X4_sizeOver_28 a1 a2 x1 σ)))
noncomputable def f_X4_sizeOver (a1 : Int32) (a2 : Int32) (σ : Mem) : Option Int32 :=
  if a1 < 0 then (j_X4_sizeOver_15 a1 a2 (1 : Int32) σ) else (gd (ix a1 120) (lt ((1 : Int32) + (σ.1 13 a1.toNatClampNeg)) (fun x2 => j_X4_sizeOver_15 a1 a2 x2 σ)))
set_option maxRecDepth 20000 in
theorem w_X4_sizeOver_28 {D : va_G} {cy : Nat → ClassId} {ad : Nat → Nat} {p : Program} {l : Launch} {e : Env} {R : Room} {s : State} {m : MethodId} {args : Array Value} {below : List Frame} {meth : Method} {c : Code} (C : Cx 1 D cy ad p R s m args meth c cX4_sizeOver 4 RX4 (some .int) 1) {a1 : Int32} {a2 : Int32}  {v3 : Int32}  {σ : Mem} {H : Heap} {locs : List Loc} {ls : Array Slot} {r : Int32} (hw : Wd 1 D cy ad s σ H locs) (hl : lv_has ls 4 [(3, .int v3)]) (h : j_X4_sizeOver_28 a1 a2 v3 σ = some r) : W p l e R s m args below meth c H locs 0 0 (QI 1 D cy ad below args s r σ) (F0 m 28 ls []) := by
  unfold j_X4_sizeOver_28 at h
  refine lv_iload_n C.1 C.2.1 dX4_sizeOver_28 rfl (lv_at hl 0 rfl) ?_
  refine lv_bipush (v := (32 : Int32)) C.1 C.2.1 dX4_sizeOver_29 (by decide) ?_
  refine m_min C (hl := lk_X4_135) (by decide) hl.1 (by decide +revert) dX4_sizeOver_31 ?_
  exact m_iret C hw (ret_i h) dX4_sizeOver_34
set_option maxRecDepth 20000 in
theorem w_X4_sizeOver_15 {D : va_G} {cy : Nat → ClassId} {ad : Nat → Nat} {p : Program} {l : Launch} {e : Env} {R : Room} {s : State} {m : MethodId} {args : Array Value} {below : List Frame} {meth : Method} {c : Code} (C : Cx 1 D cy ad p R s m args meth c cX4_sizeOver 4 RX4 (some .int) 1) {a1 : Int32} {a2 : Int32}  {v3 : Int32}  {σ : Mem} {H : Heap} {locs : List Loc} {ls : Array Slot} {r : Int32} (hw : Wd 1 D cy ad s σ H locs) (hl : lv_has ls 4 [(0, .ref (ad (9))), (2, .int a2), (3, .int v3)]) (h : j_X4_sizeOver_15 a1 a2 v3 σ = some r) : W p l e R s m args below meth c H locs 0 0 (QI 1 D cy ad below args s r σ) (F0 m 15 ls []) := by
  unfold j_X4_sizeOver_15 at h
  refine lv_iload_n C.1 C.2.1 dX4_sizeOver_15 rfl (lv_at hl 1 rfl) ?_
  refine lv_if_lt (tgt := 28) C.1 C.2.1 dX4_sizeOver_16 (by decide) (fun cd => ?_) (fun cd => ?_)
  · have h := ite_t cd h
    exact w_X4_sizeOver_28 C hw (lv_sub hl [2] rfl) h
  · have h := ite_f cd h
    refine lv_iload_n C.1 C.2.1 dX4_sizeOver_19 rfl (lv_at hl 2 rfl) ?_
    refine lv_aload_n C.1 C.2.1 dX4_sizeOver_20 rfl (lv_at hl 0 rfl) ?_
    refine gf_X4_21 C hw dX4_sizeOver_21 ?_
    refine lv_iload_n C.1 C.2.1 dX4_sizeOver_24 rfl (lv_at hl 1 rfl) ?_
    obtain ⟨hin, h⟩ := gd_of h
    refine m_iald C hw a1_13 hin dX4_sizeOver_25 ?_
    refine lv_iadd C.1 C.2.1 dX4_sizeOver_26 ?_
    obtain ⟨x1, ex1, h⟩ := lt_of h
    refine m_topi ex1 ?_
    refine lv_istore_n (lv' := [(3, .int _), (0, .ref _), (2, .int _)]) C.1 C.2.1 dX4_sizeOver_27 rfl hl (by decide) rfl (fun ls hl => ?_)
    exact w_X4_sizeOver_28 C hw (lv_sub hl [0] rfl) h
set_option maxRecDepth 20000 in
theorem c_X4_sizeOver {l : Launch} {D : va_G} {cy : Nat → ClassId} {ad : Nat → Nat} (hj : InjW 1 ad) (a1 : Int32) (a2 : Int32)  (σ : Mem) (r : Int32) (h : f_X4_sizeOver a1 a2 σ = some r) : CI 1 D cy ad l yX4_sizeOver cX4_sizeOver 4 (some .int) 1 [.ref (ad (9)), .int a1, .int a2] σ r σ := by
  refine CI.mk (by decide) hj (Nat.le_of_ble_eq_true rfl) (fun p e R s m below meth c ls C hw hl => ?_)
  have hl : lv_has ls 4 [(0, .ref (ad (9))), (1, .int a1), (2, .int a2)] := hl
  generalize ([.ref (ad (9)), .int a1, .int a2] : List Value).toArray = args at C ⊢
  have C : Cx 1 D cy ad p R s m args meth c cX4_sizeOver 4 RX4 (some .int) 1 := C
  unfold f_X4_sizeOver at h
  refine lv_iconst (v := (1 : Int32)) C.1 C.2.1 dX4_sizeOver_0 (by decide) ?_
  refine lv_istore_n (lv' := [(3, .int _), (0, .ref _), (1, .int _), (2, .int _)]) C.1 C.2.1 dX4_sizeOver_1 rfl hl (by decide) rfl (fun ls hl => ?_)
  refine lv_iload_n C.1 C.2.1 dX4_sizeOver_2 rfl (lv_at hl 2 rfl) ?_
  refine lv_if_lt (tgt := 15) C.1 C.2.1 dX4_sizeOver_3 (by decide) (fun cd => ?_) (fun cd => ?_)
  · have h := ite_t cd h
    exact w_X4_sizeOver_15 C hw (lv_sub hl [1, 3, 0] rfl) h
  · have h := ite_f cd h
    refine lv_iload_n C.1 C.2.1 dX4_sizeOver_6 rfl (lv_at hl 0 rfl) ?_
    refine lv_aload_n C.1 C.2.1 dX4_sizeOver_7 rfl (lv_at hl 1 rfl) ?_
    refine gf_X4_21 C hw dX4_sizeOver_8 ?_
    refine lv_iload_n C.1 C.2.1 dX4_sizeOver_11 rfl (lv_at hl 2 rfl) ?_
    obtain ⟨hin, h⟩ := gd_of h
    refine m_iald C hw a1_13 hin dX4_sizeOver_12 ?_
    refine lv_iadd C.1 C.2.1 dX4_sizeOver_13 ?_
    obtain ⟨x2, ex2, h⟩ := lt_of h
    refine m_topi ex2 ?_
    refine lv_istore_n (lv' := [(3, .int _), (0, .ref _), (1, .int _), (2, .int _)]) C.1 C.2.1 dX4_sizeOver_14 rfl hl (by decide) rfl (fun ls hl => ?_)
    exact w_X4_sizeOver_15 C hw (lv_sub hl [1, 3, 0] rfl) h
def f_X4_ruleBits (a0 : Int32) (a1 : Int32) (a2 : Int32) : Int32 :=
  ((f_X8_bit a0 a1) <<< (a2 &&& 31)) ||| ((f_X8_bit a0 (a1 + (6 : Int32))) <<< ((a2 + (16 : Int32)) &&& 31))
set_option maxRecDepth 20000 in
theorem c_X4_ruleBits {l : Launch} {D : va_G} {cy : Nat → ClassId} {ad : Nat → Nat} (hj : InjW 1 ad) (a0 : Int32) (a1 : Int32) (a2 : Int32)  (σ : Mem) : CI 1 D cy ad l yX4_ruleBits cX4_ruleBits 3 (some .int) 1 [.int a0, .int a1, .int a2] σ (f_X4_ruleBits a0 a1 a2) σ := by
  refine CI.mk (by decide) hj (Nat.le_of_ble_eq_true rfl) (fun p e R s m below meth c ls C hw hl => ?_)
  have hl : lv_has ls 3 [(0, .int a0), (1, .int a1), (2, .int a2)] := hl
  generalize ([.int a0, .int a1, .int a2] : List Value).toArray = args at C ⊢
  have C : Cx 1 D cy ad p R s m args meth c cX4_ruleBits 3 RX4 (some .int) 1 := C
  obtain ⟨r, h⟩ : ∃ r, f_X4_ruleBits a0 a1 a2 = r := ⟨_, rfl⟩
  rw [h]
  unfold f_X4_ruleBits at h
  refine lv_iload_n C.1 C.2.1 dX4_ruleBits_0 rfl (lv_at hl 0 rfl) ?_
  refine lv_iload_n C.1 C.2.1 dX4_ruleBits_1 rfl (lv_at hl 1 rfl) ?_
  refine go_I hw (run_SN (As := [.int _, .int _]) C hw (c_X8_bit C.2.2.2.2.2.2.2.2.2 _ _ _) mi_X8_bit ms_X8_bit lk_X4_110 (by decide) (by decide) rfl hl.1 rfl (Nat.le_of_ble_eq_true rfl) dX4_ruleBits_2 ⟨Nat.le_refl 0, Nat.le_refl 0⟩) (fun H locs hw => ?_)
  refine lv_iload_n C.1 C.2.1 dX4_ruleBits_5 rfl (lv_at hl 2 rfl) ?_
  refine lv_ishl C.1 C.2.1 dX4_ruleBits_6 ?_
  refine lv_iload_n C.1 C.2.1 dX4_ruleBits_7 rfl (lv_at hl 0 rfl) ?_
  refine lv_iload_n C.1 C.2.1 dX4_ruleBits_8 rfl (lv_at hl 1 rfl) ?_
  refine lv_bipush (v := (6 : Int32)) C.1 C.2.1 dX4_ruleBits_9 (by decide) ?_
  refine lv_iadd C.1 C.2.1 dX4_ruleBits_11 ?_
  refine go_I hw (run_SN (As := [.int _, .int _]) C hw (c_X8_bit C.2.2.2.2.2.2.2.2.2 _ _ _) mi_X8_bit ms_X8_bit lk_X4_110 (by decide) (by decide) rfl hl.1 rfl (Nat.le_of_ble_eq_true rfl) dX4_ruleBits_12 ⟨Nat.le_refl 0, Nat.le_refl 0⟩) (fun H locs hw => ?_)
  refine lv_iload_n C.1 C.2.1 dX4_ruleBits_15 rfl (lv_at hl 2 rfl) ?_
  refine lv_bipush (v := (16 : Int32)) C.1 C.2.1 dX4_ruleBits_16 (by decide) ?_
  refine lv_iadd C.1 C.2.1 dX4_ruleBits_18 ?_
  refine lv_ishl C.1 C.2.1 dX4_ruleBits_19 ?_
  refine lv_ior C.1 C.2.1 dX4_ruleBits_20 ?_
  exact m_iret C hw ⟨h, rfl⟩ dX4_ruleBits_21
noncomputable def j_X4_add_144 (a1 : Int32) (v2 : Int32) (v3 : Int32) (σ : Mem) : Option ((Int32 × Int32 × Mem) ⊕ Mem) :=
  lt (v3 + (1 : Int32)) (fun x8 => some (.inl (v2, x8, σ)))
noncomputable def j_X4_add_105 (a1 : Int32) (v2 : Int32) (v3 : Int32) (σ : Mem) : Option ((Int32 × Int32 × Mem) ⊕ Mem) :=
  gd (ix v3 16) (if (f_X8_armsOf (σ.1 (29 + 1) v3.toNatClampNeg)) ≤ (1 : Int32) then (j_X4_add_144 a1 v2 v3 σ) else (gd (ix v2 120) (gd (ix v3 16) (gd (ix v2 120) (lt (sI σ 12 v2.toNatClampNeg ((σ.1 12 v2.toNatClampNeg) ||| (f_X4_ruleBits a1 (σ.1 (29 + 3) v3.toNatClampNeg) v3))) (fun σ9 => j_X4_add_144 a1 v2 v3 σ9))))))
noncomputable def b_X4_add_56 (a1 : Int32) (v2 : Int32) (v3 : Int32) (σ : Mem) : Option ((Int32 × Int32 × Mem) ⊕ Mem) :=
  if (σ.1 29 4) ≤ v3 then (some (.inr σ)) else (gd (ix v3 16) (if (f_X8_armsOf (σ.1 (29 + 1) v3.toNatClampNeg)) ≤ 0 then (j_X4_add_105 a1 v2 v3 σ) else (gd (ix v2 120) (gd (ix v3 16) (gd (ix v2 120) (lt (sI σ 11 v2.toNatClampNeg ((σ.1 11 v2.toNatClampNeg) ||| (f_X4_ruleBits a1 (σ.1 (29 + 2) v3.toNatClampNeg) v3))) (fun σ10 => j_X4_add_105 a1 v2 v3 σ10)))))))
noncomputable def f_X4_add (a1 : Int32) (σ : Mem) : Option Mem :=
  lt (σ.1 9 17) (fun x1 => lt (sI σ 9 17 ((σ.1 9 17) + (1 : Int32))) (fun σ2 => gd (ix a1 4096) (lt (sI σ2 18 a1.toNatClampNeg (vp_nar .short ((σ2.1 9 17).toInt16.toInt32))) (fun σ3 => gd (ix x1 120) (lt (sI σ3 10 x1.toNatClampNeg a1) (fun σ4 => gd (ix x1 120) (lt (sI σ4 17 x1.toNatClampNeg (vp_nar .boolean (0 : Int32))) (fun σ5 => gd (ix x1 120) (lt (sI σ5 11 x1.toNatClampNeg (0 : Int32)) (fun σ6 => gd (ix x1 120) (lt (sI σ6 12 x1.toNatClampNeg (0 : Int32)) (fun σ7 => (Lim (T := Mem) (fun s => b_X4_add_56 a1 s.1 s.2.1 s.2.2) (x1, (0 : Int32), σ7)).bind (fun r11 => some r11)))))))))))))
set_option maxRecDepth 20000 in
theorem w_X4_add_144 {D : va_G} {cy : Nat → ClassId} {ad : Nat → Nat} {p : Program} {l : Launch} {e : Env} {R : Room} {s : State} {m : MethodId} {args : Array Value} {below : List Frame} {meth : Method} {c : Code} (C : Cx 1 D cy ad p R s m args meth c cX4_add 4 RX4 none 2) {a1 : Int32}  {v2 : Int32} {v3 : Int32}  {σ : Mem} {H : Heap} {locs : List Loc} {ls : Array Slot} {Q : State → Prop} {P : (Int32 × Int32 × Mem) → Prop} {r : Mem} {x : (Int32 × Int32 × Mem) ⊕ Mem} (hx : LimQ P r x) (hP : ∀ u, P u → ∀ (H : Heap) (locs : List Loc) (ls : Array Slot), Wd 1 D cy ad s u.2.2 H locs → lv_has ls 4 [(0, .ref (ad (9))), (1, .int a1), (2, .int u.1), (3, .int u.2.1)] → W p l e R s m args below meth c H locs 0 0 Q (F0 m 56 ls [])) (hE0 : ∀ (σ1 : Mem), (σ1 : Mem) = r → ∀ (H : Heap) (locs : List Loc) (ls : Array Slot), Wd 1 D cy ad s σ1 H locs → lv_has ls 4 [] → W p l e R s m args below meth c H locs 0 0 Q (F0 m 150 ls [])) (hw : Wd 1 D cy ad s σ H locs) (hl : lv_has ls 4 [(0, .ref (ad (9))), (1, .int a1), (2, .int v2), (3, .int v3)]) (h : j_X4_add_144 a1 v2 v3 σ = some x) : W p l e R s m args below meth c H locs 0 0 Q (F0 m 144 ls []) := by
  unfold j_X4_add_144 at h
  obtain ⟨x8, ex8, h⟩ := lt_of h
  refine m_iinc (k := 3) (lv' := [(3, .int _), (0, .ref _), (1, .int _), (2, .int _)]) C (1 : Int32) (by decide) dX4_add_144 hl rfl ex8.symm (by decide) rfl (fun ls hl => ?_)
  refine lv_goto (tgt := 56) C.1 C.2.1 dX4_add_147 (by decide) ?_
  obtain rfl := Option.some.inj h
  exact hP _ hx _ _ _ hw (lv_sub hl [1, 2, 3, 0] rfl)
set_option maxRecDepth 20000 in
theorem w_X4_add_105 {D : va_G} {cy : Nat → ClassId} {ad : Nat → Nat} {p : Program} {l : Launch} {e : Env} {R : Room} {s : State} {m : MethodId} {args : Array Value} {below : List Frame} {meth : Method} {c : Code} (C : Cx 1 D cy ad p R s m args meth c cX4_add 4 RX4 none 2) {a1 : Int32}  {v2 : Int32} {v3 : Int32}  {σ : Mem} {H : Heap} {locs : List Loc} {ls : Array Slot} {Q : State → Prop} {P : (Int32 × Int32 × Mem) → Prop} {r : Mem} {x : (Int32 × Int32 × Mem) ⊕ Mem} (hx : LimQ P r x) (hP : ∀ u, P u → ∀ (H : Heap) (locs : List Loc) (ls : Array Slot), Wd 1 D cy ad s u.2.2 H locs → lv_has ls 4 [(0, .ref (ad (9))), (1, .int a1), (2, .int u.1), (3, .int u.2.1)] → W p l e R s m args below meth c H locs 0 0 Q (F0 m 56 ls [])) (hE0 : ∀ (σ1 : Mem), (σ1 : Mem) = r → ∀ (H : Heap) (locs : List Loc) (ls : Array Slot), Wd 1 D cy ad s σ1 H locs → lv_has ls 4 [] → W p l e R s m args below meth c H locs 0 0 Q (F0 m 150 ls [])) (hw : Wd 1 D cy ad s σ H locs) (hl : lv_has ls 4 [(0, .ref (ad (9))), (1, .int a1), (2, .int v2), (3, .int v3)]) (h : j_X4_add_105 a1 v2 v3 σ = some x) : W p l e R s m args below meth c H locs 0 0 Q (F0 m 105 ls []) := by
  unfold j_X4_add_105 at h
  refine lv_aload_n C.1 C.2.1 dX4_add_105 rfl (lv_at hl 0 rfl) ?_
  refine gf_X4_67 C hw dX4_add_106 ?_
  refine gf_X4_109 C hw o1_29 dX4_add_109 ?_
  refine lv_iload_n C.1 C.2.1 dX4_add_112 rfl (lv_at hl 3 rfl) ?_
  obtain ⟨hin, h⟩ := gd_of h
  refine m_iald C hw (lawA0 o1_29) hin dX4_add_113 ?_
  refine go_I hw (run_SN (As := [.int _]) C hw (c_X8_armsOf C.2.2.2.2.2.2.2.2.2 _ _) mi_X8_armsOf ms_X8_armsOf lk_X4_140 (by decide) (by decide) rfl hl.1 rfl (Nat.le_of_ble_eq_true rfl) dX4_add_114 ⟨Nat.le_refl 0, Nat.le_refl 0⟩) (fun H locs hw => ?_)
  refine lv_iconst (v := (1 : Int32)) C.1 C.2.1 dX4_add_117 (by decide) ?_
  refine lv_icmp_le (tgt := 144) C.1 C.2.1 dX4_add_118 (by decide) (fun cd => ?_) (fun cd => ?_)
  · have h := ite_t cd h
    exact w_X4_add_144 C hx hP hE0 hw (lv_sub hl [0, 1, 2, 3] rfl) h
  · have h := ite_f cd h
    refine lv_aload_n C.1 C.2.1 dX4_add_121 rfl (lv_at hl 0 rfl) ?_
    refine gf_X4_18 C hw dX4_add_122 ?_
    refine lv_iload_n C.1 C.2.1 dX4_add_125 rfl (lv_at hl 2 rfl) ?_
    refine lv_dup2_11 C.1 C.2.1 dX4_add_126 rfl rfl ?_
    obtain ⟨hin, h⟩ := gd_of h
    refine m_iald C hw a1_12 hin dX4_add_127 ?_
    refine lv_iload_n C.1 C.2.1 dX4_add_128 rfl (lv_at hl 1 rfl) ?_
    refine lv_aload_n C.1 C.2.1 dX4_add_129 rfl (lv_at hl 0 rfl) ?_
    refine gf_X4_67 C hw dX4_add_130 ?_
    refine gf_X4_148 C hw o1_29 dX4_add_133 ?_
    refine lv_iload_n C.1 C.2.1 dX4_add_136 rfl (lv_at hl 3 rfl) ?_
    obtain ⟨hin, h⟩ := gd_of h
    refine m_iald C hw (lawA2 o1_29) hin dX4_add_137 ?_
    refine lv_iload_n C.1 C.2.1 dX4_add_138 rfl (lv_at hl 3 rfl) ?_
    refine go_I hw (run_S (As := [.int _, .int _, .int _]) C hw (c_X4_ruleBits C.2.2.2.2.2.2.2.2.2 _ _ _ _) mi_X4_ruleBits ms_X4_ruleBits lk_X4_144 (by decide) (by decide) rfl hl.1 rfl (Nat.le_of_ble_eq_true rfl) dX4_add_139 ⟨Nat.le_refl 0, Nat.le_refl 0⟩) (fun H locs hw => ?_)
    refine lv_ior C.1 C.2.1 dX4_add_142 ?_
    obtain ⟨hin, h⟩ := gd_of h
    refine m_iast C hw a1_12 hin dX4_add_143 (fun H locs hw => ?_)
    obtain ⟨σ9, eσ9, h⟩ := lt_of h
    rw [← eσ9] at hw
    exact w_X4_add_144 C hx hP hE0 hw (lv_sub hl [0, 1, 2, 3] rfl) h
set_option maxRecDepth 20000 in
theorem w_X4_add_56 {D : va_G} {cy : Nat → ClassId} {ad : Nat → Nat} {p : Program} {l : Launch} {e : Env} {R : Room} {s : State} {m : MethodId} {args : Array Value} {below : List Frame} {meth : Method} {c : Code} (C : Cx 1 D cy ad p R s m args meth c cX4_add 4 RX4 none 2) {a1 : Int32}  {v2 : Int32} {v3 : Int32} {σ : Mem} {Q : State → Prop} {r : Mem} (hL : Lim (T := Mem) (fun s => b_X4_add_56 a1 s.1 s.2.1 s.2.2) (v2, v3, σ) = some r) (hE0 : ∀ (σ1 : Mem), (σ1 : Mem) = r → ∀ (H : Heap) (locs : List Loc) (ls : Array Slot), Wd 1 D cy ad s σ1 H locs → lv_has ls 4 [] → W p l e R s m args below meth c H locs 0 0 Q (F0 m 150 ls [])) (H : Heap) (locs : List Loc) (ls : Array Slot) (hw : Wd 1 D cy ad s σ H locs) (hl : lv_has ls 4 [(0, .ref (ad (9))), (1, .int a1), (2, .int v2), (3, .int v3)]) : W p l e R s m args below meth c H locs 0 0 Q (F0 m 56 ls []) := by
  refine Lim_ind hL (P := fun u => ∀ (H : Heap) (locs : List Loc) (ls : Array Slot), Wd 1 D cy ad s u.2.2 H locs → lv_has ls 4 [(0, .ref (ad (9))), (1, .int a1), (2, .int u.1), (3, .int u.2.1)] → W p l e R s m args below meth c H locs 0 0 Q (F0 m 56 ls [])) (fun u x h hx H locs ls hw hl => ?_) H locs ls hw hl
  clear hL
  obtain ⟨v2, v3, σ⟩ := u
  have h : b_X4_add_56 a1 v2 v3 σ = some x := h
  have hw : Wd 1 D cy ad s σ H locs := hw
  have hl : lv_has ls 4 [(0, .ref (ad (9))), (1, .int a1), (2, .int v2), (3, .int v3)] := hl
  have hP : ∀ (u : (Int32 × Int32 × Mem)), (∀ (H : Heap) (locs : List Loc) (ls : Array Slot), Wd 1 D cy ad s u.2.2 H locs → lv_has ls 4 [(0, .ref (ad (9))), (1, .int a1), (2, .int u.1), (3, .int u.2.1)] → W p l e R s m args below meth c H locs 0 0 Q (F0 m 56 ls [])) → ∀ (H : Heap) (locs : List Loc) (ls : Array Slot), Wd 1 D cy ad s u.2.2 H locs → lv_has ls 4 [(0, .ref (ad (9))), (1, .int a1), (2, .int u.1), (3, .int u.2.1)] → W p l e R s m args below meth c H locs 0 0 Q (F0 m 56 ls []) := fun _ k => k
  unfold b_X4_add_56 at h
  refine lv_iload_n C.1 C.2.1 dX4_add_56 rfl (lv_at hl 3 rfl) ?_
  refine lv_aload_n C.1 C.2.1 dX4_add_57 rfl (lv_at hl 0 rfl) ?_
  refine gf_X4_67 C hw dX4_add_58 ?_
  refine gf_X4_108 C hw o1_29 dX4_add_61 ?_
  refine lv_icmp_ge (tgt := 150) C.1 C.2.1 dX4_add_64 (by decide) (fun cd => ?_) (fun cd => ?_)
  · have h := ite_t cd h
    obtain rfl := Option.some.inj h
    exact hE0 _ hx _ _ _ hw (lv_sub hl [] rfl)
  · have h := ite_f cd h
    refine lv_aload_n C.1 C.2.1 dX4_add_67 rfl (lv_at hl 0 rfl) ?_
    refine gf_X4_67 C hw dX4_add_68 ?_
    refine gf_X4_109 C hw o1_29 dX4_add_71 ?_
    refine lv_iload_n C.1 C.2.1 dX4_add_74 rfl (lv_at hl 3 rfl) ?_
    obtain ⟨hin, h⟩ := gd_of h
    refine m_iald C hw (lawA0 o1_29) hin dX4_add_75 ?_
    refine go_I hw (run_SN (As := [.int _]) C hw (c_X8_armsOf C.2.2.2.2.2.2.2.2.2 _ _) mi_X8_armsOf ms_X8_armsOf lk_X4_140 (by decide) (by decide) rfl hl.1 rfl (Nat.le_of_ble_eq_true rfl) dX4_add_76 ⟨Nat.le_refl 0, Nat.le_refl 0⟩) (fun H locs hw => ?_)
    refine lv_if_le (tgt := 105) C.1 C.2.1 dX4_add_79 (by decide) (fun cd => ?_) (fun cd => ?_)
    · have h := ite_t cd h
      exact w_X4_add_105 C hx hP hE0 hw (lv_sub hl [0, 1, 2, 3] rfl) h
    · have h := ite_f cd h
      refine lv_aload_n C.1 C.2.1 dX4_add_82 rfl (lv_at hl 0 rfl) ?_
      refine gf_X4_15 C hw dX4_add_83 ?_
      refine lv_iload_n C.1 C.2.1 dX4_add_86 rfl (lv_at hl 2 rfl) ?_
      refine lv_dup2_11 C.1 C.2.1 dX4_add_87 rfl rfl ?_
      obtain ⟨hin, h⟩ := gd_of h
      refine m_iald C hw a1_11 hin dX4_add_88 ?_
      refine lv_iload_n C.1 C.2.1 dX4_add_89 rfl (lv_at hl 1 rfl) ?_
      refine lv_aload_n C.1 C.2.1 dX4_add_90 rfl (lv_at hl 0 rfl) ?_
      refine gf_X4_67 C hw dX4_add_91 ?_
      refine gf_X4_143 C hw o1_29 dX4_add_94 ?_
      refine lv_iload_n C.1 C.2.1 dX4_add_97 rfl (lv_at hl 3 rfl) ?_
      obtain ⟨hin, h⟩ := gd_of h
      refine m_iald C hw (lawA1 o1_29) hin dX4_add_98 ?_
      refine lv_iload_n C.1 C.2.1 dX4_add_99 rfl (lv_at hl 3 rfl) ?_
      refine go_I hw (run_S (As := [.int _, .int _, .int _]) C hw (c_X4_ruleBits C.2.2.2.2.2.2.2.2.2 _ _ _ _) mi_X4_ruleBits ms_X4_ruleBits lk_X4_144 (by decide) (by decide) rfl hl.1 rfl (Nat.le_of_ble_eq_true rfl) dX4_add_100 ⟨Nat.le_refl 0, Nat.le_refl 0⟩) (fun H locs hw => ?_)
      refine lv_ior C.1 C.2.1 dX4_add_103 ?_
      obtain ⟨hin, h⟩ := gd_of h
      refine m_iast C hw a1_11 hin dX4_add_104 (fun H locs hw => ?_)
      obtain ⟨σ10, eσ10, h⟩ := lt_of h
      rw [← eσ10] at hw
      exact w_X4_add_105 C hx hP hE0 hw (lv_sub hl [0, 1, 2, 3] rfl) h
set_option maxRecDepth 20000 in
theorem c_X4_add {l : Launch} {D : va_G} {cy : Nat → ClassId} {ad : Nat → Nat} (hj : InjW 1 ad) (a1 : Int32)  (σ : Mem) (r : Mem) (h : f_X4_add a1 σ = some r) : CV 1 D cy ad l yX4_add cX4_add 4 none 2 [.ref (ad (9)), .int a1] σ r := by
  refine CV.mk (by decide) hj (Nat.le_of_ble_eq_true rfl) (fun p e R s m below meth c ls C hw hl => ?_)
  have hl : lv_has ls 4 [(0, .ref (ad (9))), (1, .int a1)] := hl
  generalize ([.ref (ad (9)), .int a1] : List Value).toArray = args at C ⊢
  have C : Cx 1 D cy ad p R s m args meth c cX4_add 4 RX4 none 2 := C
  unfold f_X4_add at h
  refine lv_aload_n C.1 C.2.1 dX4_add_0 rfl (lv_at hl 0 rfl) ?_
  refine gf_X4_78 C hw dX4_add_1 ?_
  obtain ⟨x1, ex1, h⟩ := lt_of h
  refine m_topi ex1 ?_
  refine lv_istore_n (lv' := [(2, .int _), (0, .ref _), (1, .int _)]) C.1 C.2.1 dX4_add_4 rfl hl (by decide) rfl (fun ls hl => ?_)
  refine lv_aload_n C.1 C.2.1 dX4_add_5 rfl (lv_at hl 1 rfl) ?_
  refine lv_dup C.1 C.2.1 dX4_add_6 rfl ?_
  refine gf_X4_78 C hw dX4_add_7 ?_
  refine lv_iconst (v := (1 : Int32)) C.1 C.2.1 dX4_add_10 (by decide) ?_
  refine lv_iadd C.1 C.2.1 dX4_add_11 ?_
  refine pf_X4_78 C hw dX4_add_12 (fun H locs hw => ?_)
  obtain ⟨σ2, eσ2, h⟩ := lt_of h
  rw [← eσ2] at hw
  refine lv_aload_n C.1 C.2.1 dX4_add_15 rfl (lv_at hl 1 rfl) ?_
  refine gf_X4_37 C hw dX4_add_16 ?_
  refine lv_iload_n C.1 C.2.1 dX4_add_19 rfl (lv_at hl 2 rfl) ?_
  refine lv_aload_n C.1 C.2.1 dX4_add_20 rfl (lv_at hl 1 rfl) ?_
  refine gf_X4_78 C hw dX4_add_21 ?_
  refine lv_i2s C.1 C.2.1 dX4_add_24 rfl ?_
  obtain ⟨hin, h⟩ := gd_of h
  refine m_sast C hw a1_18 hin dX4_add_25 (fun H locs hw => ?_)
  obtain ⟨σ3, eσ3, h⟩ := lt_of h
  rw [← eσ3] at hw
  refine lv_aload_n C.1 C.2.1 dX4_add_26 rfl (lv_at hl 1 rfl) ?_
  refine gf_X4_11 C hw dX4_add_27 ?_
  refine lv_iload_n C.1 C.2.1 dX4_add_30 rfl (lv_at hl 0 rfl) ?_
  refine lv_iload_n C.1 C.2.1 dX4_add_31 rfl (lv_at hl 2 rfl) ?_
  obtain ⟨hin, h⟩ := gd_of h
  refine m_iast C hw a1_10 hin dX4_add_32 (fun H locs hw => ?_)
  obtain ⟨σ4, eσ4, h⟩ := lt_of h
  rw [← eσ4] at hw
  refine lv_aload_n C.1 C.2.1 dX4_add_33 rfl (lv_at hl 1 rfl) ?_
  refine gf_X4_33 C hw dX4_add_34 ?_
  refine lv_iload_n C.1 C.2.1 dX4_add_37 rfl (lv_at hl 0 rfl) ?_
  refine lv_iconst (v := (0 : Int32)) C.1 C.2.1 dX4_add_38 (by decide) ?_
  obtain ⟨hin, h⟩ := gd_of h
  refine m_zast C hw a1_17 hin dX4_add_39 (fun H locs hw => ?_)
  obtain ⟨σ5, eσ5, h⟩ := lt_of h
  rw [← eσ5] at hw
  refine lv_aload_n C.1 C.2.1 dX4_add_40 rfl (lv_at hl 1 rfl) ?_
  refine gf_X4_15 C hw dX4_add_41 ?_
  refine lv_iload_n C.1 C.2.1 dX4_add_44 rfl (lv_at hl 0 rfl) ?_
  refine lv_iconst (v := (0 : Int32)) C.1 C.2.1 dX4_add_45 (by decide) ?_
  obtain ⟨hin, h⟩ := gd_of h
  refine m_iast C hw a1_11 hin dX4_add_46 (fun H locs hw => ?_)
  obtain ⟨σ6, eσ6, h⟩ := lt_of h
  rw [← eσ6] at hw
  refine lv_aload_n C.1 C.2.1 dX4_add_47 rfl (lv_at hl 1 rfl) ?_
  refine gf_X4_18 C hw dX4_add_48 ?_
  refine lv_iload_n C.1 C.2.1 dX4_add_51 rfl (lv_at hl 0 rfl) ?_
  refine lv_iconst (v := (0 : Int32)) C.1 C.2.1 dX4_add_52 (by decide) ?_
  obtain ⟨hin, h⟩ := gd_of h
  refine m_iast C hw a1_12 hin dX4_add_53 (fun H locs hw => ?_)
  obtain ⟨σ7, eσ7, h⟩ := lt_of h
  rw [← eσ7] at hw
  refine lv_iconst (v := (0 : Int32)) C.1 C.2.1 dX4_add_54 (by decide) ?_
  refine lv_istore_n (lv' := [(3, .int _), (2, .int _), (0, .ref _), (1, .int _)]) C.1 C.2.1 dX4_add_55 rfl hl (by decide) rfl (fun ls hl => ?_)
  obtain ⟨r11, hL, h⟩ := bS h
  refine w_X4_add_56 C  hL (fun y0 hr H locs ls hw hl => ?_) _ _ _ hw (lv_sub hl [2, 3, 1, 0] rfl)
  · subst hr
    try dsimp only at h
    try dsimp only at hw
    try dsimp only at hl
    exact m_vret C hw (Option.some.inj h) dX4_add_150
noncomputable def j_X4_comesBefore_134 (a1 : Int32) (a2 : Int32) (z0 : Int32) (v3 : Int32) (v5 : Int32) (σ : Mem) : Option ((Int32 × Int32 × Int32) ⊕ ((Int32 × Int32) ⊕ Unit)) :=
  lt (v5 + (1 : Int32)) (fun x1 => some (.inl (v3, z0, x1)))
noncomputable def j_X4_comesBefore_111 (a1 : Int32) (a2 : Int32) (z0 : Int32) (v4 : Int32) (v5 : Int32) (v6 : Int32) (σ : Mem) : Option ((Int32 × Int32 × Int32) ⊕ ((Int32 × Int32) ⊕ Unit)) :=
  if v6 = 0 then (gd (ix v4 120) (j_X4_comesBefore_134 a1 a2 (σ.1 15 v4.toNatClampNeg) z0 v5 σ)) else (gd (ix v4 120) (j_X4_comesBefore_134 a1 a2 (σ.1 16 v4.toNatClampNeg) z0 v5 σ))
noncomputable def j_X4_comesBefore_89 (a1 : Int32) (a2 : Int32) (z0 : Int32) (v3 : Int32) (v4 : Int32) (v5 : Int32) (σ : Mem) : Option ((Int32 × Int32 × Int32) ⊕ ((Int32 × Int32) ⊕ Unit)) :=
  if z0 = 0 then (gd (ix v3 120) (j_X4_comesBefore_111 a1 a2 (σ.1 15 v3.toNatClampNeg) v4 v5 z0 σ)) else (gd (ix v3 120) (j_X4_comesBefore_111 a1 a2 (σ.1 16 v3.toNatClampNeg) v4 v5 z0 σ))
noncomputable def b_X4_comesBefore_8 (a1 : Int32) (a2 : Int32) (v3 : Int32) (v4 : Int32) (v5 : Int32) (σ : Mem) : Option ((Int32 × Int32 × Int32) ⊕ ((Int32 × Int32) ⊕ Unit)) :=
  if (31 : Int32) ≤ v5 then (some (.inr (.inr ()))) else (if v3 < 0 then (some (.inr (.inr ()))) else (if v4 < 0 then (some (.inr (.inr ()))) else (if v3 = v4 then (some (.inr (.inr ()))) else (gd (ix v3 120) (gd (ix v4 120) (if (σ.1 14 v3.toNatClampNeg) = (σ.1 14 v4.toNatClampNeg) then (gd (ix v3 120) (gd (ix v4 120) (if (σ.1 15 v3.toNatClampNeg) = (σ.1 15 v4.toNatClampNeg) then (j_X4_comesBefore_89 a1 a2 (1 : Int32) v3 v4 v5 σ) else (j_X4_comesBefore_89 a1 a2 (0 : Int32) v3 v4 v5 σ)))) else (some (.inr (.inl (v3, v4))))))))))
noncomputable def f_X4_comesBefore (a1 : Int32) (a2 : Int32) (σ : Mem) : Option Int32 :=
  (Lim (T := ((Int32 × Int32) ⊕ Unit)) (fun s => b_X4_comesBefore_8 a1 a2 s.1 s.2.1 s.2.2 σ) (a1, a2, (0 : Int32))).bind (fun r2 => (match r2 with | .inl r2_0 => (gd (ix r2_0.1 120) (gd (ix r2_0.2 120) (if (σ.1 14 r2_0.2.toNatClampNeg) ≤ (σ.1 14 r2_0.1.toNatClampNeg) then (some (0 : Int32)) else (some (1 : Int32))))) | .inr r2_1 => (some (0 : Int32))))
set_option maxRecDepth 20000 in
theorem w_X4_comesBefore_134 {D : va_G} {cy : Nat → ClassId} {ad : Nat → Nat} {p : Program} {l : Launch} {e : Env} {R : Room} {s : State} {m : MethodId} {args : Array Value} {below : List Frame} {meth : Method} {c : Code} (C : Cx 1 D cy ad p R s m args meth c cX4_comesBefore 7 RX4 (some .boolean) 0) {a1 : Int32} {a2 : Int32}  {z0 : Int32} {v3 : Int32} {v5 : Int32}  {σ : Mem} {H : Heap} {locs : List Loc} {ls : Array Slot} {Q : State → Prop} {P : (Int32 × Int32 × Int32) → Prop} {r : ((Int32 × Int32) ⊕ Unit)} {x : (Int32 × Int32 × Int32) ⊕ ((Int32 × Int32) ⊕ Unit)} (hx : LimQ P r x) (hP : ∀ u, P u → ∀ (H : Heap) (locs : List Loc) (ls : Array Slot), Wd 1 D cy ad s σ H locs → lv_has ls 7 [(0, .ref (ad (9))), (3, .int u.1), (4, .int u.2.1), (5, .int u.2.2)] → W p l e R s m args below meth c H locs 0 0 Q (F0 m 8 ls [])) (hE0 : ∀ (v3 : Int32) (v4 : Int32), (.inl (v3, v4) : ((Int32 × Int32) ⊕ Unit)) = r → ∀ (H : Heap) (locs : List Loc) (ls : Array Slot), Wd 1 D cy ad s σ H locs → lv_has ls 7 [(0, .ref (ad (9))), (3, .int v3), (4, .int v4)] → W p l e R s m args below meth c H locs 0 0 Q (F0 m 46 ls [])) (hE1 : (.inr () : ((Int32 × Int32) ⊕ Unit)) = r → ∀ (H : Heap) (locs : List Loc) (ls : Array Slot), Wd 1 D cy ad s σ H locs → lv_has ls 7 [] → W p l e R s m args below meth c H locs 0 0 Q (F0 m 142 ls [])) (hw : Wd 1 D cy ad s σ H locs) (hl : lv_has ls 7 [(0, .ref (ad (9))), (3, .int v3), (5, .int v5)]) (h : j_X4_comesBefore_134 a1 a2 z0 v3 v5 σ = some x) : W p l e R s m args below meth c H locs 0 0 Q (F0 m 134 ls [.int z0]) := by
  unfold j_X4_comesBefore_134 at h
  refine lv_istore (lv' := [(4, .int _), (0, .ref _), (3, .int _), (5, .int _)]) C.1 C.2.1 dX4_comesBefore_134 hl (by decide) rfl (fun ls hl => ?_)
  obtain ⟨x1, ex1, h⟩ := lt_of h
  refine m_iinc (k := 3) (lv' := [(5, .int _), (4, .int _), (0, .ref _), (3, .int _)]) C (1 : Int32) (by decide) dX4_comesBefore_136 hl rfl ex1.symm (by decide) rfl (fun ls hl => ?_)
  refine lv_goto (tgt := 8) C.1 C.2.1 dX4_comesBefore_139 (by decide) ?_
  obtain rfl := Option.some.inj h
  exact hP _ hx _ _ _ hw (lv_sub hl [2, 3, 1, 0] rfl)
set_option maxRecDepth 20000 in
theorem w_X4_comesBefore_111 {D : va_G} {cy : Nat → ClassId} {ad : Nat → Nat} {p : Program} {l : Launch} {e : Env} {R : Room} {s : State} {m : MethodId} {args : Array Value} {below : List Frame} {meth : Method} {c : Code} (C : Cx 1 D cy ad p R s m args meth c cX4_comesBefore 7 RX4 (some .boolean) 0) {a1 : Int32} {a2 : Int32}  {z0 : Int32} {v4 : Int32} {v5 : Int32} {v6 : Int32}  {σ : Mem} {H : Heap} {locs : List Loc} {ls : Array Slot} {Q : State → Prop} {P : (Int32 × Int32 × Int32) → Prop} {r : ((Int32 × Int32) ⊕ Unit)} {x : (Int32 × Int32 × Int32) ⊕ ((Int32 × Int32) ⊕ Unit)} (hx : LimQ P r x) (hP : ∀ u, P u → ∀ (H : Heap) (locs : List Loc) (ls : Array Slot), Wd 1 D cy ad s σ H locs → lv_has ls 7 [(0, .ref (ad (9))), (3, .int u.1), (4, .int u.2.1), (5, .int u.2.2)] → W p l e R s m args below meth c H locs 0 0 Q (F0 m 8 ls [])) (hE0 : ∀ (v3 : Int32) (v4 : Int32), (.inl (v3, v4) : ((Int32 × Int32) ⊕ Unit)) = r → ∀ (H : Heap) (locs : List Loc) (ls : Array Slot), Wd 1 D cy ad s σ H locs → lv_has ls 7 [(0, .ref (ad (9))), (3, .int v3), (4, .int v4)] → W p l e R s m args below meth c H locs 0 0 Q (F0 m 46 ls [])) (hE1 : (.inr () : ((Int32 × Int32) ⊕ Unit)) = r → ∀ (H : Heap) (locs : List Loc) (ls : Array Slot), Wd 1 D cy ad s σ H locs → lv_has ls 7 [] → W p l e R s m args below meth c H locs 0 0 Q (F0 m 142 ls [])) (hw : Wd 1 D cy ad s σ H locs) (hl : lv_has ls 7 [(0, .ref (ad (9))), (4, .int v4), (5, .int v5), (6, .int v6)]) (h : j_X4_comesBefore_111 a1 a2 z0 v4 v5 v6 σ = some x) : W p l e R s m args below meth c H locs 0 0 Q (F0 m 111 ls [.int z0]) := by
  unfold j_X4_comesBefore_111 at h
  refine lv_istore_n (lv' := [(3, .int _), (0, .ref _), (4, .int _), (5, .int _), (6, .int _)]) C.1 C.2.1 dX4_comesBefore_111 rfl hl (by decide) rfl (fun ls hl => ?_)
  refine lv_iload C.1 C.2.1 dX4_comesBefore_112 (lv_at hl 4 rfl) ?_
  refine lv_if_eq (tgt := 127) C.1 C.2.1 dX4_comesBefore_114 (by decide) (fun cd => ?_) (fun cd => ?_)
  · have h := ite_t cd h
    refine lv_aload_n C.1 C.2.1 dX4_comesBefore_127 rfl (lv_at hl 1 rfl) ?_
    refine gf_X4_27 C hw dX4_comesBefore_128 ?_
    refine lv_iload C.1 C.2.1 dX4_comesBefore_131 (lv_at hl 2 rfl) ?_
    obtain ⟨hin, h⟩ := gd_of h
    refine m_iald C hw a1_15 hin dX4_comesBefore_133 ?_
    exact w_X4_comesBefore_134 C hx hP hE0 hE1 hw (lv_sub hl [1, 0, 3] rfl) h
  · have h := ite_f cd h
    refine lv_aload_n C.1 C.2.1 dX4_comesBefore_117 rfl (lv_at hl 1 rfl) ?_
    refine gf_X4_30 C hw dX4_comesBefore_118 ?_
    refine lv_iload C.1 C.2.1 dX4_comesBefore_121 (lv_at hl 2 rfl) ?_
    obtain ⟨hin, h⟩ := gd_of h
    refine m_iald C hw a1_16 hin dX4_comesBefore_123 ?_
    refine lv_goto (tgt := 134) C.1 C.2.1 dX4_comesBefore_124 (by decide) ?_
    exact w_X4_comesBefore_134 C hx hP hE0 hE1 hw (lv_sub hl [1, 0, 3] rfl) h
set_option maxRecDepth 20000 in
theorem w_X4_comesBefore_89 {D : va_G} {cy : Nat → ClassId} {ad : Nat → Nat} {p : Program} {l : Launch} {e : Env} {R : Room} {s : State} {m : MethodId} {args : Array Value} {below : List Frame} {meth : Method} {c : Code} (C : Cx 1 D cy ad p R s m args meth c cX4_comesBefore 7 RX4 (some .boolean) 0) {a1 : Int32} {a2 : Int32}  {z0 : Int32} {v3 : Int32} {v4 : Int32} {v5 : Int32}  {σ : Mem} {H : Heap} {locs : List Loc} {ls : Array Slot} {Q : State → Prop} {P : (Int32 × Int32 × Int32) → Prop} {r : ((Int32 × Int32) ⊕ Unit)} {x : (Int32 × Int32 × Int32) ⊕ ((Int32 × Int32) ⊕ Unit)} (hx : LimQ P r x) (hP : ∀ u, P u → ∀ (H : Heap) (locs : List Loc) (ls : Array Slot), Wd 1 D cy ad s σ H locs → lv_has ls 7 [(0, .ref (ad (9))), (3, .int u.1), (4, .int u.2.1), (5, .int u.2.2)] → W p l e R s m args below meth c H locs 0 0 Q (F0 m 8 ls [])) (hE0 : ∀ (v3 : Int32) (v4 : Int32), (.inl (v3, v4) : ((Int32 × Int32) ⊕ Unit)) = r → ∀ (H : Heap) (locs : List Loc) (ls : Array Slot), Wd 1 D cy ad s σ H locs → lv_has ls 7 [(0, .ref (ad (9))), (3, .int v3), (4, .int v4)] → W p l e R s m args below meth c H locs 0 0 Q (F0 m 46 ls [])) (hE1 : (.inr () : ((Int32 × Int32) ⊕ Unit)) = r → ∀ (H : Heap) (locs : List Loc) (ls : Array Slot), Wd 1 D cy ad s σ H locs → lv_has ls 7 [] → W p l e R s m args below meth c H locs 0 0 Q (F0 m 142 ls [])) (hw : Wd 1 D cy ad s σ H locs) (hl : lv_has ls 7 [(0, .ref (ad (9))), (3, .int v3), (4, .int v4), (5, .int v5)]) (h : j_X4_comesBefore_89 a1 a2 z0 v3 v4 v5 σ = some x) : W p l e R s m args below meth c H locs 0 0 Q (F0 m 89 ls [.int z0]) := by
  unfold j_X4_comesBefore_89 at h
  refine lv_istore (lv' := [(6, .int _), (0, .ref _), (3, .int _), (4, .int _), (5, .int _)]) C.1 C.2.1 dX4_comesBefore_89 hl (by decide) rfl (fun ls hl => ?_)
  refine lv_iload C.1 C.2.1 dX4_comesBefore_91 (lv_at hl 0 rfl) ?_
  refine lv_if_eq (tgt := 105) C.1 C.2.1 dX4_comesBefore_93 (by decide) (fun cd => ?_) (fun cd => ?_)
  · have h := ite_t cd h
    refine lv_aload_n C.1 C.2.1 dX4_comesBefore_105 rfl (lv_at hl 1 rfl) ?_
    refine gf_X4_27 C hw dX4_comesBefore_106 ?_
    refine lv_iload_n C.1 C.2.1 dX4_comesBefore_109 rfl (lv_at hl 2 rfl) ?_
    obtain ⟨hin, h⟩ := gd_of h
    refine m_iald C hw a1_15 hin dX4_comesBefore_110 ?_
    exact w_X4_comesBefore_111 C hx hP hE0 hE1 hw (lv_sub hl [1, 3, 4, 0] rfl) h
  · have h := ite_f cd h
    refine lv_aload_n C.1 C.2.1 dX4_comesBefore_96 rfl (lv_at hl 1 rfl) ?_
    refine gf_X4_30 C hw dX4_comesBefore_97 ?_
    refine lv_iload_n C.1 C.2.1 dX4_comesBefore_100 rfl (lv_at hl 2 rfl) ?_
    obtain ⟨hin, h⟩ := gd_of h
    refine m_iald C hw a1_16 hin dX4_comesBefore_101 ?_
    refine lv_goto (tgt := 111) C.1 C.2.1 dX4_comesBefore_102 (by decide) ?_
    exact w_X4_comesBefore_111 C hx hP hE0 hE1 hw (lv_sub hl [1, 3, 4, 0] rfl) h
set_option maxRecDepth 20000 in
theorem w_X4_comesBefore_8 {D : va_G} {cy : Nat → ClassId} {ad : Nat → Nat} {p : Program} {l : Launch} {e : Env} {R : Room} {s : State} {m : MethodId} {args : Array Value} {below : List Frame} {meth : Method} {c : Code} (C : Cx 1 D cy ad p R s m args meth c cX4_comesBefore 7 RX4 (some .boolean) 0) {a1 : Int32} {a2 : Int32}  {v3 : Int32} {v4 : Int32} {v5 : Int32} {σ : Mem} {Q : State → Prop} {r : ((Int32 × Int32) ⊕ Unit)} (hL : Lim (T := ((Int32 × Int32) ⊕ Unit)) (fun s => b_X4_comesBefore_8 a1 a2 s.1 s.2.1 s.2.2 σ) (v3, v4, v5) = some r) (hE0 : ∀ (v3 : Int32) (v4 : Int32), (.inl (v3, v4) : ((Int32 × Int32) ⊕ Unit)) = r → ∀ (H : Heap) (locs : List Loc) (ls : Array Slot), Wd 1 D cy ad s σ H locs → lv_has ls 7 [(0, .ref (ad (9))), (3, .int v3), (4, .int v4)] → W p l e R s m args below meth c H locs 0 0 Q (F0 m 46 ls [])) (hE1 : (.inr () : ((Int32 × Int32) ⊕ Unit)) = r → ∀ (H : Heap) (locs : List Loc) (ls : Array Slot), Wd 1 D cy ad s σ H locs → lv_has ls 7 [] → W p l e R s m args below meth c H locs 0 0 Q (F0 m 142 ls [])) (H : Heap) (locs : List Loc) (ls : Array Slot) (hw : Wd 1 D cy ad s σ H locs) (hl : lv_has ls 7 [(0, .ref (ad (9))), (3, .int v3), (4, .int v4), (5, .int v5)]) : W p l e R s m args below meth c H locs 0 0 Q (F0 m 8 ls []) := by
  refine Lim_ind hL (P := fun u => ∀ (H : Heap) (locs : List Loc) (ls : Array Slot), Wd 1 D cy ad s σ H locs → lv_has ls 7 [(0, .ref (ad (9))), (3, .int u.1), (4, .int u.2.1), (5, .int u.2.2)] → W p l e R s m args below meth c H locs 0 0 Q (F0 m 8 ls [])) (fun u x h hx H locs ls hw hl => ?_) H locs ls hw hl
  clear hL
  obtain ⟨v3, v4, v5⟩ := u
  have h : b_X4_comesBefore_8 a1 a2 v3 v4 v5 σ = some x := h
  have hw : Wd 1 D cy ad s σ H locs := hw
  have hl : lv_has ls 7 [(0, .ref (ad (9))), (3, .int v3), (4, .int v4), (5, .int v5)] := hl
  have hP : ∀ (u : (Int32 × Int32 × Int32)), (∀ (H : Heap) (locs : List Loc) (ls : Array Slot), Wd 1 D cy ad s σ H locs → lv_has ls 7 [(0, .ref (ad (9))), (3, .int u.1), (4, .int u.2.1), (5, .int u.2.2)] → W p l e R s m args below meth c H locs 0 0 Q (F0 m 8 ls [])) → ∀ (H : Heap) (locs : List Loc) (ls : Array Slot), Wd 1 D cy ad s σ H locs → lv_has ls 7 [(0, .ref (ad (9))), (3, .int u.1), (4, .int u.2.1), (5, .int u.2.2)] → W p l e R s m args below meth c H locs 0 0 Q (F0 m 8 ls []) := fun _ k => k
  unfold b_X4_comesBefore_8 at h
  refine lv_iload C.1 C.2.1 dX4_comesBefore_8 (lv_at hl 3 rfl) ?_
  refine lv_bipush (v := (31 : Int32)) C.1 C.2.1 dX4_comesBefore_10 (by decide) ?_
  refine lv_icmp_ge (tgt := 142) C.1 C.2.1 dX4_comesBefore_12 (by decide) (fun cd => ?_) (fun cd => ?_)
  · have h := ite_t cd h
    obtain rfl := Option.some.inj h
    exact hE1  hx _ _ _ hw (lv_sub hl [] rfl)
  · have h := ite_f cd h
    refine lv_iload_n C.1 C.2.1 dX4_comesBefore_15 rfl (lv_at hl 1 rfl) ?_
    refine lv_if_lt (tgt := 142) C.1 C.2.1 dX4_comesBefore_16 (by decide) (fun cd => ?_) (fun cd => ?_)
    · have h := ite_t cd h
      obtain rfl := Option.some.inj h
      exact hE1  hx _ _ _ hw (lv_sub hl [] rfl)
    · have h := ite_f cd h
      refine lv_iload C.1 C.2.1 dX4_comesBefore_19 (lv_at hl 2 rfl) ?_
      refine lv_if_lt (tgt := 142) C.1 C.2.1 dX4_comesBefore_21 (by decide) (fun cd => ?_) (fun cd => ?_)
      · have h := ite_t cd h
        obtain rfl := Option.some.inj h
        exact hE1  hx _ _ _ hw (lv_sub hl [] rfl)
      · have h := ite_f cd h
        refine lv_iload_n C.1 C.2.1 dX4_comesBefore_24 rfl (lv_at hl 1 rfl) ?_
        refine lv_iload C.1 C.2.1 dX4_comesBefore_25 (lv_at hl 2 rfl) ?_
        refine lv_icmp_eq (tgt := 142) C.1 C.2.1 dX4_comesBefore_27 (by decide) (fun cd => ?_) (fun cd => ?_)
        · have h := ite_t cd h
          obtain rfl := Option.some.inj h
          exact hE1  hx _ _ _ hw (lv_sub hl [] rfl)
        · have h := ite_f cd h
          refine lv_aload_n C.1 C.2.1 dX4_comesBefore_30 rfl (lv_at hl 0 rfl) ?_
          refine gf_X4_24 C hw dX4_comesBefore_31 ?_
          refine lv_iload_n C.1 C.2.1 dX4_comesBefore_34 rfl (lv_at hl 1 rfl) ?_
          obtain ⟨hin, h⟩ := gd_of h
          refine m_iald C hw a1_14 hin dX4_comesBefore_35 ?_
          refine lv_aload_n C.1 C.2.1 dX4_comesBefore_36 rfl (lv_at hl 0 rfl) ?_
          refine gf_X4_24 C hw dX4_comesBefore_37 ?_
          refine lv_iload C.1 C.2.1 dX4_comesBefore_40 (lv_at hl 2 rfl) ?_
          obtain ⟨hin, h⟩ := gd_of h
          refine m_iald C hw a1_14 hin dX4_comesBefore_42 ?_
          refine lv_icmp_eq (tgt := 68) C.1 C.2.1 dX4_comesBefore_43 (by decide) (fun cd => ?_) (fun cd => ?_)
          · have h := ite_t cd h
            refine lv_aload_n C.1 C.2.1 dX4_comesBefore_68 rfl (lv_at hl 0 rfl) ?_
            refine gf_X4_27 C hw dX4_comesBefore_69 ?_
            refine lv_iload_n C.1 C.2.1 dX4_comesBefore_72 rfl (lv_at hl 1 rfl) ?_
            obtain ⟨hin, h⟩ := gd_of h
            refine m_iald C hw a1_15 hin dX4_comesBefore_73 ?_
            refine lv_aload_n C.1 C.2.1 dX4_comesBefore_74 rfl (lv_at hl 0 rfl) ?_
            refine gf_X4_27 C hw dX4_comesBefore_75 ?_
            refine lv_iload C.1 C.2.1 dX4_comesBefore_78 (lv_at hl 2 rfl) ?_
            obtain ⟨hin, h⟩ := gd_of h
            refine m_iald C hw a1_15 hin dX4_comesBefore_80 ?_
            refine lv_icmp_ne (tgt := 88) C.1 C.2.1 dX4_comesBefore_81 (by decide) (fun cd => ?_) (fun cd => ?_)
            · have h := ite_f cd h
              refine lv_iconst (v := (0 : Int32)) C.1 C.2.1 dX4_comesBefore_88 (by decide) ?_
              exact w_X4_comesBefore_89 C hx hP hE0 hE1 hw (lv_sub hl [0, 1, 2, 3] rfl) h
            · have h := ite_t cd h
              refine lv_iconst (v := (1 : Int32)) C.1 C.2.1 dX4_comesBefore_84 (by decide) ?_
              refine lv_goto (tgt := 89) C.1 C.2.1 dX4_comesBefore_85 (by decide) ?_
              exact w_X4_comesBefore_89 C hx hP hE0 hE1 hw (lv_sub hl [0, 1, 2, 3] rfl) h
          · have h := ite_f cd h
            obtain rfl := Option.some.inj h
            exact hE0 _ _ hx _ _ _ hw (lv_sub hl [0, 1, 2] rfl)
set_option maxRecDepth 20000 in
theorem c_X4_comesBefore {l : Launch} {D : va_G} {cy : Nat → ClassId} {ad : Nat → Nat} (hj : InjW 1 ad) (a1 : Int32) (a2 : Int32)  (σ : Mem) (r : Int32) (h : f_X4_comesBefore a1 a2 σ = some r) : CI 1 D cy ad l yX4_comesBefore cX4_comesBefore 7 (some .boolean) 0 [.ref (ad (9)), .int a1, .int a2] σ r σ := by
  refine CI.mk (by decide) hj (Nat.le_of_ble_eq_true rfl) (fun p e R s m below meth c ls C hw hl => ?_)
  have hl : lv_has ls 7 [(0, .ref (ad (9))), (1, .int a1), (2, .int a2)] := hl
  generalize ([.ref (ad (9)), .int a1, .int a2] : List Value).toArray = args at C ⊢
  have C : Cx 1 D cy ad p R s m args meth c cX4_comesBefore 7 RX4 (some .boolean) 0 := C
  unfold f_X4_comesBefore at h
  refine lv_iload_n C.1 C.2.1 dX4_comesBefore_0 rfl (lv_at hl 1 rfl) ?_
  refine lv_istore_n (lv' := [(3, .int _), (0, .ref _), (1, .int _), (2, .int _)]) C.1 C.2.1 dX4_comesBefore_1 rfl hl (by decide) rfl (fun ls hl => ?_)
  refine lv_iload_n C.1 C.2.1 dX4_comesBefore_2 rfl (lv_at hl 3 rfl) ?_
  refine lv_istore (lv' := [(4, .int _), (3, .int _), (0, .ref _), (1, .int _), (2, .int _)]) C.1 C.2.1 dX4_comesBefore_3 hl (by decide) rfl (fun ls hl => ?_)
  refine lv_iconst (v := (0 : Int32)) C.1 C.2.1 dX4_comesBefore_5 (by decide) ?_
  refine lv_istore (lv' := [(5, .int _), (4, .int _), (3, .int _), (0, .ref _), (1, .int _), (2, .int _)]) C.1 C.2.1 dX4_comesBefore_6 hl (by decide) rfl (fun ls hl => ?_)
  obtain ⟨r2, hL, h⟩ := bS h
  refine w_X4_comesBefore_8 C  hL (fun y0 y1 hr H locs ls hw hl => ?_) (fun  hr H locs ls hw hl => ?_) _ _ _ hw (lv_sub hl [3, 2, 1, 0] rfl)
  · subst hr
    try dsimp only at h
    try dsimp only at hw
    try dsimp only at hl
    refine lv_aload_n C.1 C.2.1 dX4_comesBefore_46 rfl (lv_at hl 0 rfl) ?_
    refine gf_X4_24 C hw dX4_comesBefore_47 ?_
    refine lv_iload_n C.1 C.2.1 dX4_comesBefore_50 rfl (lv_at hl 1 rfl) ?_
    obtain ⟨hin, h⟩ := gd_of h
    refine m_iald C hw a1_14 hin dX4_comesBefore_51 ?_
    refine lv_aload_n C.1 C.2.1 dX4_comesBefore_52 rfl (lv_at hl 0 rfl) ?_
    refine gf_X4_24 C hw dX4_comesBefore_53 ?_
    refine lv_iload C.1 C.2.1 dX4_comesBefore_56 (lv_at hl 2 rfl) ?_
    obtain ⟨hin, h⟩ := gd_of h
    refine m_iald C hw a1_14 hin dX4_comesBefore_58 ?_
    refine lv_icmp_ge (tgt := 66) C.1 C.2.1 dX4_comesBefore_59 (by decide) (fun cd => ?_) (fun cd => ?_)
    · have h := ite_t cd h
      refine lv_iconst (v := (0 : Int32)) C.1 C.2.1 dX4_comesBefore_66 (by decide) ?_
      exact m_zret C hw (by decide) (ret_i h) dX4_comesBefore_67
    · have h := ite_f cd h
      refine lv_iconst (v := (1 : Int32)) C.1 C.2.1 dX4_comesBefore_62 (by decide) ?_
      refine lv_goto (tgt := 67) C.1 C.2.1 dX4_comesBefore_63 (by decide) ?_
      exact m_zret C hw (by decide) (ret_i h) dX4_comesBefore_67
  · subst hr
    try dsimp only at h
    try dsimp only at hw
    try dsimp only at hl
    refine lv_iconst (v := (0 : Int32)) C.1 C.2.1 dX4_comesBefore_142 (by decide) ?_
    exact m_zret C hw (by decide) (ret_i h) dX4_comesBefore_143
noncomputable def j_X4_isLess_17 (a1 : Int32) (a2 : Int32) (a3 : Int32) (a4 : Int32) (a5 : Int32) (σ : Mem) : Option Int32 :=
  gd (ix a5 120) (if (σ.1 13 a5.toNatClampNeg) ≤ a1 then (some (0 : Int32)) else (some (1 : Int32)))
noncomputable def f_X4_isLess (a1 : Int32) (a2 : Int32) (a3 : Int32) (a4 : Int32) (a5 : Int32) (σ : Mem) : Option Int32 :=
  gd (ix a5 120) (if a1 = (σ.1 13 a5.toNatClampNeg) then (if a1 = (32 : Int32) then (j_X4_isLess_17 a1 a2 a3 a4 a5 σ) else (gd (ix a5 120) (if a2 = (σ.1 14 a5.toNatClampNeg) then (gd (ix a5 120) (if a3 = (σ.1 15 a5.toNatClampNeg) then (gd (ix a5 120) ((f_X4_comesBefore a4 (σ.1 16 a5.toNatClampNeg) σ).bind (fun r1 => gd (r1 &&& 1 = r1) (some r1)))) else (gd (ix a5 120) ((f_X4_comesBefore a3 (σ.1 15 a5.toNatClampNeg) σ).bind (fun r2 => gd (r2 &&& 1 = r2) (some r2)))))) else (gd (ix a5 120) (if (σ.1 14 a5.toNatClampNeg) ≤ a2 then (some (0 : Int32)) else (some (1 : Int32))))))) else (j_X4_isLess_17 a1 a2 a3 a4 a5 σ))
set_option maxRecDepth 20000 in
theorem w_X4_isLess_17 {D : va_G} {cy : Nat → ClassId} {ad : Nat → Nat} {p : Program} {l : Launch} {e : Env} {R : Room} {s : State} {m : MethodId} {args : Array Value} {below : List Frame} {meth : Method} {c : Code} (C : Cx 1 D cy ad p R s m args meth c cX4_isLess 6 RX4 (some .boolean) 1) {a1 : Int32} {a2 : Int32} {a3 : Int32} {a4 : Int32} {a5 : Int32}    {σ : Mem} {H : Heap} {locs : List Loc} {ls : Array Slot} {r : Int32} (hw : Wd 1 D cy ad s σ H locs) (hl : lv_has ls 6 [(0, .ref (ad (9))), (1, .int a1), (5, .int a5)]) (h : j_X4_isLess_17 a1 a2 a3 a4 a5 σ = some r) : W p l e R s m args below meth c H locs 0 0 (QI 1 D cy ad below args s r σ) (F0 m 17 ls []) := by
  unfold j_X4_isLess_17 at h
  refine lv_iload_n C.1 C.2.1 dX4_isLess_17 rfl (lv_at hl 1 rfl) ?_
  refine lv_aload_n C.1 C.2.1 dX4_isLess_18 rfl (lv_at hl 0 rfl) ?_
  refine gf_X4_21 C hw dX4_isLess_19 ?_
  refine lv_iload C.1 C.2.1 dX4_isLess_22 (lv_at hl 2 rfl) ?_
  obtain ⟨hin, h⟩ := gd_of h
  refine m_iald C hw a1_13 hin dX4_isLess_24 ?_
  refine lv_icmp_ge (tgt := 32) C.1 C.2.1 dX4_isLess_25 (by decide) (fun cd => ?_) (fun cd => ?_)
  · have h := ite_t cd h
    refine lv_iconst (v := (0 : Int32)) C.1 C.2.1 dX4_isLess_32 (by decide) ?_
    exact m_zret C hw (by decide) (ret_i h) dX4_isLess_33
  · have h := ite_f cd h
    refine lv_iconst (v := (1 : Int32)) C.1 C.2.1 dX4_isLess_28 (by decide) ?_
    refine lv_goto (tgt := 33) C.1 C.2.1 dX4_isLess_29 (by decide) ?_
    exact m_zret C hw (by decide) (ret_i h) dX4_isLess_33
set_option maxRecDepth 20000 in
theorem c_X4_isLess {l : Launch} {D : va_G} {cy : Nat → ClassId} {ad : Nat → Nat} (hj : InjW 1 ad) (a1 : Int32) (a2 : Int32) (a3 : Int32) (a4 : Int32) (a5 : Int32)  (σ : Mem) (r : Int32) (h : f_X4_isLess a1 a2 a3 a4 a5 σ = some r) : CI 1 D cy ad l yX4_isLess cX4_isLess 6 (some .boolean) 1 [.ref (ad (9)), .int a1, .int a2, .int a3, .int a4, .int a5] σ r σ := by
  refine CI.mk (by decide) hj (Nat.le_of_ble_eq_true rfl) (fun p e R s m below meth c ls C hw hl => ?_)
  have hl : lv_has ls 6 [(0, .ref (ad (9))), (1, .int a1), (2, .int a2), (3, .int a3), (4, .int a4), (5, .int a5)] := hl
  generalize ([.ref (ad (9)), .int a1, .int a2, .int a3, .int a4, .int a5] : List Value).toArray = args at C ⊢
  have C : Cx 1 D cy ad p R s m args meth c cX4_isLess 6 RX4 (some .boolean) 1 := C
  unfold f_X4_isLess at h
  refine lv_iload_n C.1 C.2.1 dX4_isLess_0 rfl (lv_at hl 1 rfl) ?_
  refine lv_aload_n C.1 C.2.1 dX4_isLess_1 rfl (lv_at hl 0 rfl) ?_
  refine gf_X4_21 C hw dX4_isLess_2 ?_
  refine lv_iload C.1 C.2.1 dX4_isLess_5 (lv_at hl 5 rfl) ?_
  obtain ⟨hin, h⟩ := gd_of h
  refine m_iald C hw a1_13 hin dX4_isLess_7 ?_
  refine lv_icmp_ne (tgt := 17) C.1 C.2.1 dX4_isLess_8 (by decide) (fun cd => ?_) (fun cd => ?_)
  · have h := ite_f cd h
    exact w_X4_isLess_17 C hw (lv_sub hl [0, 1, 5] rfl) h
  · have h := ite_t cd h
    refine lv_iload_n C.1 C.2.1 dX4_isLess_11 rfl (lv_at hl 1 rfl) ?_
    refine lv_bipush (v := (32 : Int32)) C.1 C.2.1 dX4_isLess_12 (by decide) ?_
    refine lv_icmp_ne (tgt := 34) C.1 C.2.1 dX4_isLess_14 (by decide) (fun cd => ?_) (fun cd => ?_)
    · have h := ite_f cd h
      refine lv_iload_n C.1 C.2.1 dX4_isLess_34 rfl (lv_at hl 2 rfl) ?_
      refine lv_aload_n C.1 C.2.1 dX4_isLess_35 rfl (lv_at hl 0 rfl) ?_
      refine gf_X4_24 C hw dX4_isLess_36 ?_
      refine lv_iload C.1 C.2.1 dX4_isLess_39 (lv_at hl 5 rfl) ?_
      obtain ⟨hin, h⟩ := gd_of h
      refine m_iald C hw a1_14 hin dX4_isLess_41 ?_
      refine lv_icmp_eq (tgt := 62) C.1 C.2.1 dX4_isLess_42 (by decide) (fun cd => ?_) (fun cd => ?_)
      · have h := ite_t cd h
        refine lv_iload_n C.1 C.2.1 dX4_isLess_62 rfl (lv_at hl 3 rfl) ?_
        refine lv_aload_n C.1 C.2.1 dX4_isLess_63 rfl (lv_at hl 0 rfl) ?_
        refine gf_X4_27 C hw dX4_isLess_64 ?_
        refine lv_iload C.1 C.2.1 dX4_isLess_67 (lv_at hl 5 rfl) ?_
        obtain ⟨hin, h⟩ := gd_of h
        refine m_iald C hw a1_15 hin dX4_isLess_69 ?_
        refine lv_icmp_eq (tgt := 88) C.1 C.2.1 dX4_isLess_70 (by decide) (fun cd => ?_) (fun cd => ?_)
        · have h := ite_t cd h
          refine lv_aload_n C.1 C.2.1 dX4_isLess_88 rfl (lv_at hl 0 rfl) ?_
          refine lv_iload C.1 C.2.1 dX4_isLess_89 (lv_at hl 4 rfl) ?_
          refine lv_aload_n C.1 C.2.1 dX4_isLess_91 rfl (lv_at hl 0 rfl) ?_
          refine gf_X4_30 C hw dX4_isLess_92 ?_
          refine lv_iload C.1 C.2.1 dX4_isLess_95 (lv_at hl 5 rfl) ?_
          obtain ⟨hin, h⟩ := gd_of h
          refine m_iald C hw a1_16 hin dX4_isLess_97 ?_
          obtain ⟨r1, h1, h⟩ := bS h
          refine go_I hw (run_V (As := [.int _, .int _]) C hw (c_X4_comesBefore C.2.2.2.2.2.2.2.2.2 _ _ _ _ h1) mi_X4_comesBefore mv_X4_comesBefore o1_9 (ci := 4) rfl rfl lk_X4_149 (by decide) (by decide) rfl hl.1 rfl (Nat.le_of_ble_eq_true rfl) dX4_isLess_98 ⟨Nat.le_refl 0, Nat.le_refl 0⟩) (fun H locs hw => ?_)
          obtain ⟨hz, h⟩ := gd_of h
          exact m_zret C hw hz (ret_i h) dX4_isLess_101
        · have h := ite_f cd h
          refine lv_aload_n C.1 C.2.1 dX4_isLess_73 rfl (lv_at hl 0 rfl) ?_
          refine lv_iload_n C.1 C.2.1 dX4_isLess_74 rfl (lv_at hl 3 rfl) ?_
          refine lv_aload_n C.1 C.2.1 dX4_isLess_75 rfl (lv_at hl 0 rfl) ?_
          refine gf_X4_27 C hw dX4_isLess_76 ?_
          refine lv_iload C.1 C.2.1 dX4_isLess_79 (lv_at hl 5 rfl) ?_
          obtain ⟨hin, h⟩ := gd_of h
          refine m_iald C hw a1_15 hin dX4_isLess_81 ?_
          obtain ⟨r2, h1, h⟩ := bS h
          refine go_I hw (run_V (As := [.int _, .int _]) C hw (c_X4_comesBefore C.2.2.2.2.2.2.2.2.2 _ _ _ _ h1) mi_X4_comesBefore mv_X4_comesBefore o1_9 (ci := 4) rfl rfl lk_X4_149 (by decide) (by decide) rfl hl.1 rfl (Nat.le_of_ble_eq_true rfl) dX4_isLess_82 ⟨Nat.le_refl 0, Nat.le_refl 0⟩) (fun H locs hw => ?_)
          refine lv_goto (tgt := 101) C.1 C.2.1 dX4_isLess_85 (by decide) ?_
          obtain ⟨hz, h⟩ := gd_of h
          exact m_zret C hw hz (ret_i h) dX4_isLess_101
      · have h := ite_f cd h
        refine lv_iload_n C.1 C.2.1 dX4_isLess_45 rfl (lv_at hl 2 rfl) ?_
        refine lv_aload_n C.1 C.2.1 dX4_isLess_46 rfl (lv_at hl 0 rfl) ?_
        refine gf_X4_24 C hw dX4_isLess_47 ?_
        refine lv_iload C.1 C.2.1 dX4_isLess_50 (lv_at hl 5 rfl) ?_
        obtain ⟨hin, h⟩ := gd_of h
        refine m_iald C hw a1_14 hin dX4_isLess_52 ?_
        refine lv_icmp_ge (tgt := 60) C.1 C.2.1 dX4_isLess_53 (by decide) (fun cd => ?_) (fun cd => ?_)
        · have h := ite_t cd h
          refine lv_iconst (v := (0 : Int32)) C.1 C.2.1 dX4_isLess_60 (by decide) ?_
          exact m_zret C hw (by decide) (ret_i h) dX4_isLess_61
        · have h := ite_f cd h
          refine lv_iconst (v := (1 : Int32)) C.1 C.2.1 dX4_isLess_56 (by decide) ?_
          refine lv_goto (tgt := 61) C.1 C.2.1 dX4_isLess_57 (by decide) ?_
          exact m_zret C hw (by decide) (ret_i h) dX4_isLess_61
    · have h := ite_t cd h
      exact w_X4_isLess_17 C hw (lv_sub hl [0, 1, 5] rfl) h
noncomputable def j_X4_offer_91 (a1 : Int32) (a2 : Int32) (a3 : Int32) (a4 : Int32) (v6 : Int32) (v7 : Int32) (σ : Mem) : Option (Int32 × Mem) :=
  gd (ix v6 120) (lt (sI σ 13 v6.toNatClampNeg v7) (fun σ5 => gd (ix v6 120) (lt (sI σ5 14 v6.toNatClampNeg a2) (fun σ6 => gd (ix v6 120) (lt (sI σ6 15 v6.toNatClampNeg a3) (fun σ7 => gd (ix v6 120) (lt (sI σ7 16 v6.toNatClampNeg a4) (fun σ8 => some (v6, σ8)))))))))
noncomputable def f_X4_offer (a1 : Int32) (a2 : Int32) (a3 : Int32) (a4 : Int32) (σ : Mem) : Option (Int32 × Mem) :=
  (f_X4_resultsOf a1 σ).bind (fun r1 => gd (ix r1 4096) (lt ((σ.1 18 r1.toNatClampNeg) - (1 : Int32)) (fun x2 => (f_X4_sizeOver a3 a4 σ).bind (fun r3 => if 0 ≤ x2 then (gd (ix x2 120) (if (σ.1 17 x2.toNatClampNeg) = 0 then ((f_X4_isLess r3 a2 a3 a4 x2 σ).bind (fun r4 => if r4 = 0 then (some (x2, σ)) else (j_X4_offer_91 a1 a2 a3 a4 x2 r3 σ))) else (some (x2, σ)))) else (if (σ.1 9 17) < (120 : Int32) then (lt (σ.1 9 17) (fun x9 => (f_X4_add r1 σ).bind (fun r10 => j_X4_offer_91 a1 a2 a3 a4 x9 r3 r10))) else (lt (sI σ 9 18 (1 : Int32)) (fun σ11 => some ((0 : Int32), σ11))))))))
set_option maxRecDepth 20000 in
theorem w_X4_offer_91 {D : va_G} {cy : Nat → ClassId} {ad : Nat → Nat} {p : Program} {l : Launch} {e : Env} {R : Room} {s : State} {m : MethodId} {args : Array Value} {below : List Frame} {meth : Method} {c : Code} (C : Cx 1 D cy ad p R s m args meth c cX4_offer 8 RX4 (some .int) 3) {a1 : Int32} {a2 : Int32} {a3 : Int32} {a4 : Int32}  {v6 : Int32} {v7 : Int32}  {σ : Mem} {H : Heap} {locs : List Loc} {ls : Array Slot} {r : (Int32 × Mem)} (hw : Wd 1 D cy ad s σ H locs) (hl : lv_has ls 8 [(0, .ref (ad (9))), (2, .int a2), (3, .int a3), (4, .int a4), (6, .int v6), (7, .int v7)]) (h : j_X4_offer_91 a1 a2 a3 a4 v6 v7 σ = some r) : W p l e R s m args below meth c H locs 0 0 (QI 1 D cy ad below args s r.1 r.2) (F0 m 91 ls []) := by
  unfold j_X4_offer_91 at h
  refine lv_aload_n C.1 C.2.1 dX4_offer_91 rfl (lv_at hl 0 rfl) ?_
  refine gf_X4_21 C hw dX4_offer_92 ?_
  refine lv_iload C.1 C.2.1 dX4_offer_95 (lv_at hl 4 rfl) ?_
  refine lv_iload C.1 C.2.1 dX4_offer_97 (lv_at hl 5 rfl) ?_
  obtain ⟨hin, h⟩ := gd_of h
  refine m_iast C hw a1_13 hin dX4_offer_99 (fun H locs hw => ?_)
  obtain ⟨σ5, eσ5, h⟩ := lt_of h
  rw [← eσ5] at hw
  refine lv_aload_n C.1 C.2.1 dX4_offer_100 rfl (lv_at hl 0 rfl) ?_
  refine gf_X4_24 C hw dX4_offer_101 ?_
  refine lv_iload C.1 C.2.1 dX4_offer_104 (lv_at hl 4 rfl) ?_
  refine lv_iload_n C.1 C.2.1 dX4_offer_106 rfl (lv_at hl 1 rfl) ?_
  obtain ⟨hin, h⟩ := gd_of h
  refine m_iast C hw a1_14 hin dX4_offer_107 (fun H locs hw => ?_)
  obtain ⟨σ6, eσ6, h⟩ := lt_of h
  rw [← eσ6] at hw
  refine lv_aload_n C.1 C.2.1 dX4_offer_108 rfl (lv_at hl 0 rfl) ?_
  refine gf_X4_27 C hw dX4_offer_109 ?_
  refine lv_iload C.1 C.2.1 dX4_offer_112 (lv_at hl 4 rfl) ?_
  refine lv_iload_n C.1 C.2.1 dX4_offer_114 rfl (lv_at hl 2 rfl) ?_
  obtain ⟨hin, h⟩ := gd_of h
  refine m_iast C hw a1_15 hin dX4_offer_115 (fun H locs hw => ?_)
  obtain ⟨σ7, eσ7, h⟩ := lt_of h
  rw [← eσ7] at hw
  refine lv_aload_n C.1 C.2.1 dX4_offer_116 rfl (lv_at hl 0 rfl) ?_
  refine gf_X4_30 C hw dX4_offer_117 ?_
  refine lv_iload C.1 C.2.1 dX4_offer_120 (lv_at hl 4 rfl) ?_
  refine lv_iload C.1 C.2.1 dX4_offer_122 (lv_at hl 3 rfl) ?_
  obtain ⟨hin, h⟩ := gd_of h
  refine m_iast C hw a1_16 hin dX4_offer_124 (fun H locs hw => ?_)
  obtain ⟨σ8, eσ8, h⟩ := lt_of h
  rw [← eσ8] at hw
  refine lv_iload C.1 C.2.1 dX4_offer_125 (lv_at hl 4 rfl) ?_
  exact m_iret C hw (ret_p h) dX4_offer_127
set_option maxRecDepth 20000 in
theorem c_X4_offer {l : Launch} {D : va_G} {cy : Nat → ClassId} {ad : Nat → Nat} (hj : InjW 1 ad) (a1 : Int32) (a2 : Int32) (a3 : Int32) (a4 : Int32)  (σ : Mem) (r : (Int32 × Mem)) (h : f_X4_offer a1 a2 a3 a4 σ = some r) : CI 1 D cy ad l yX4_offer cX4_offer 8 (some .int) 3 [.ref (ad (9)), .int a1, .int a2, .int a3, .int a4] σ r.1 r.2 := by
  refine CI.mk (by decide) hj (Nat.le_of_ble_eq_true rfl) (fun p e R s m below meth c ls C hw hl => ?_)
  have hl : lv_has ls 8 [(0, .ref (ad (9))), (1, .int a1), (2, .int a2), (3, .int a3), (4, .int a4)] := hl
  generalize ([.ref (ad (9)), .int a1, .int a2, .int a3, .int a4] : List Value).toArray = args at C ⊢
  have C : Cx 1 D cy ad p R s m args meth c cX4_offer 8 RX4 (some .int) 3 := C
  unfold f_X4_offer at h
  refine lv_aload_n C.1 C.2.1 dX4_offer_0 rfl (lv_at hl 0 rfl) ?_
  refine lv_iload_n C.1 C.2.1 dX4_offer_1 rfl (lv_at hl 1 rfl) ?_
  obtain ⟨r1, h1, h⟩ := bS h
  refine go_I hw (run_V (As := [.int _]) C hw (c_X4_resultsOf C.2.2.2.2.2.2.2.2.2 _ _ _ h1) mi_X4_resultsOf mv_X4_resultsOf o1_9 (ci := 4) rfl rfl lk_X4_117 (by decide) (by decide) rfl hl.1 rfl (Nat.le_of_ble_eq_true rfl) dX4_offer_2 ⟨Nat.le_refl 0, Nat.le_refl 0⟩) (fun H locs hw => ?_)
  refine lv_istore (lv' := [(5, .int _), (0, .ref _), (1, .int _), (2, .int _), (3, .int _), (4, .int _)]) C.1 C.2.1 dX4_offer_5 hl (by decide) rfl (fun ls hl => ?_)
  refine lv_aload_n C.1 C.2.1 dX4_offer_7 rfl (lv_at hl 1 rfl) ?_
  refine gf_X4_37 C hw dX4_offer_8 ?_
  refine lv_iload C.1 C.2.1 dX4_offer_11 (lv_at hl 0 rfl) ?_
  obtain ⟨hin, h⟩ := gd_of h
  refine m_sald C hw a1_18 hin dX4_offer_13 ?_
  refine lv_iconst (v := (1 : Int32)) C.1 C.2.1 dX4_offer_14 (by decide) ?_
  refine lv_isub C.1 C.2.1 dX4_offer_15 ?_
  obtain ⟨x2, ex2, h⟩ := lt_of h
  refine m_topi ex2 ?_
  refine lv_istore (lv' := [(6, .int _), (5, .int _), (0, .ref _), (1, .int _), (2, .int _), (3, .int _), (4, .int _)]) C.1 C.2.1 dX4_offer_16 hl (by decide) rfl (fun ls hl => ?_)
  refine lv_aload_n C.1 C.2.1 dX4_offer_18 rfl (lv_at hl 2 rfl) ?_
  refine lv_iload_n C.1 C.2.1 dX4_offer_19 rfl (lv_at hl 5 rfl) ?_
  refine lv_iload C.1 C.2.1 dX4_offer_20 (lv_at hl 6 rfl) ?_
  obtain ⟨r3, h1, h⟩ := bS h
  refine go_I hw (run_V (As := [.int _, .int _]) C hw (c_X4_sizeOver C.2.2.2.2.2.2.2.2.2 _ _ _ _ h1) mi_X4_sizeOver mv_X4_sizeOver o1_9 (ci := 4) rfl rfl lk_X4_121 (by decide) (by decide) rfl hl.1 rfl (Nat.le_of_ble_eq_true rfl) dX4_offer_22 ⟨Nat.le_refl 0, Nat.le_refl 0⟩) (fun H locs hw => ?_)
  refine lv_istore (lv' := [(7, .int _), (6, .int _), (5, .int _), (0, .ref _), (1, .int _), (2, .int _), (3, .int _), (4, .int _)]) C.1 C.2.1 dX4_offer_25 hl (by decide) rfl (fun ls hl => ?_)
  refine lv_iload C.1 C.2.1 dX4_offer_27 (lv_at hl 1 rfl) ?_
  refine lv_if_ge (tgt := 63) C.1 C.2.1 dX4_offer_29 (by decide) (fun cd => ?_) (fun cd => ?_)
  · have h := ite_t cd h
    refine lv_aload_n C.1 C.2.1 dX4_offer_63 rfl (lv_at hl 3 rfl) ?_
    refine gf_X4_33 C hw dX4_offer_64 ?_
    refine lv_iload C.1 C.2.1 dX4_offer_67 (lv_at hl 1 rfl) ?_
    obtain ⟨hin, h⟩ := gd_of h
    refine m_zald C hw a1_17 hin dX4_offer_69 ?_
    refine lv_if_ne (tgt := 88) C.1 C.2.1 dX4_offer_70 (by decide) (fun cd => ?_) (fun cd => ?_)
    · have h := ite_f cd h
      refine lv_iload C.1 C.2.1 dX4_offer_88 (lv_at hl 1 rfl) ?_
      exact m_iret C hw (ret_p h) dX4_offer_90
    · have h := ite_t cd h
      refine lv_aload_n C.1 C.2.1 dX4_offer_73 rfl (lv_at hl 3 rfl) ?_
      refine lv_iload C.1 C.2.1 dX4_offer_74 (lv_at hl 0 rfl) ?_
      refine lv_iload_n C.1 C.2.1 dX4_offer_76 rfl (lv_at hl 5 rfl) ?_
      refine lv_iload_n C.1 C.2.1 dX4_offer_77 rfl (lv_at hl 6 rfl) ?_
      refine lv_iload C.1 C.2.1 dX4_offer_78 (lv_at hl 7 rfl) ?_
      refine lv_iload C.1 C.2.1 dX4_offer_80 (lv_at hl 1 rfl) ?_
      obtain ⟨r4, h1, h⟩ := bS h
      refine go_I hw (run_V (As := [.int _, .int _, .int _, .int _, .int _]) C hw (c_X4_isLess C.2.2.2.2.2.2.2.2.2 _ _ _ _ _ _ _ h1) mi_X4_isLess mv_X4_isLess o1_9 (ci := 4) rfl rfl lk_X4_128 (by decide) (by decide) rfl hl.1 rfl (Nat.le_of_ble_eq_true rfl) dX4_offer_82 ⟨Nat.le_refl 0, Nat.le_refl 0⟩) (fun H locs hw => ?_)
      refine lv_if_ne (tgt := 91) C.1 C.2.1 dX4_offer_85 (by decide) (fun cd => ?_) (fun cd => ?_)
      · have h := ite_f cd h
        exact w_X4_offer_91 C hw (lv_sub hl [3, 5, 6, 7, 1, 0] rfl) h
      · have h := ite_t cd h
        refine lv_iload C.1 C.2.1 dX4_offer_88 (lv_at hl 1 rfl) ?_
        exact m_iret C hw (ret_p h) dX4_offer_90
  · have h := ite_f cd h
    refine lv_aload_n C.1 C.2.1 dX4_offer_32 rfl (lv_at hl 3 rfl) ?_
    refine gf_X4_78 C hw dX4_offer_33 ?_
    refine lv_bipush (v := (120 : Int32)) C.1 C.2.1 dX4_offer_36 (by decide) ?_
    refine lv_icmp_lt (tgt := 48) C.1 C.2.1 dX4_offer_38 (by decide) (fun cd => ?_) (fun cd => ?_)
    · have h := ite_t cd h
      refine lv_aload_n C.1 C.2.1 dX4_offer_48 rfl (lv_at hl 3 rfl) ?_
      refine gf_X4_78 C hw dX4_offer_49 ?_
      obtain ⟨x9, ex9, h⟩ := lt_of h
      refine m_topi ex9 ?_
      refine lv_istore (lv' := [(6, .int _), (7, .int _), (5, .int _), (0, .ref _), (1, .int _), (2, .int _), (3, .int _), (4, .int _)]) C.1 C.2.1 dX4_offer_52 hl (by decide) rfl (fun ls hl => ?_)
      refine lv_aload_n C.1 C.2.1 dX4_offer_54 rfl (lv_at hl 3 rfl) ?_
      refine lv_iload C.1 C.2.1 dX4_offer_55 (lv_at hl 2 rfl) ?_
      obtain ⟨r10, h1, h⟩ := bS h
      refine go_V hw (run_V (As := [.int _]) C hw (c_X4_add C.2.2.2.2.2.2.2.2.2 _ _ _ h1) mi_X4_add mv_X4_add o1_9 (ci := 4) rfl rfl lk_X4_124 (by decide) (by decide) rfl hl.1 rfl (Nat.le_of_ble_eq_true rfl) dX4_offer_57 ⟨Nat.le_refl 0, Nat.le_refl 0⟩) (fun H locs hw => ?_)
      refine lv_goto (tgt := 91) C.1 C.2.1 dX4_offer_60 (by decide) ?_
      exact w_X4_offer_91 C hw (lv_sub hl [3, 5, 6, 7, 0, 1] rfl) h
    · have h := ite_f cd h
      refine lv_aload_n C.1 C.2.1 dX4_offer_41 rfl (lv_at hl 3 rfl) ?_
      refine lv_iconst (v := (1 : Int32)) C.1 C.2.1 dX4_offer_42 (by decide) ?_
      refine pf_X4_81 C hw rfl rfl dX4_offer_43 (fun H locs hw => ?_)
      obtain ⟨σ11, eσ11, h⟩ := lt_of h
      rw [← eσ11] at hw
      refine lv_iconst (v := (0 : Int32)) C.1 C.2.1 dX4_offer_46 (by decide) ?_
      exact m_iret C hw (ret_p h) dX4_offer_47
noncomputable def f_X5_putLeaf (a1 : Int32) (a2 : Int32) (σ : Mem) : Option Mem :=
  if a1 < 0 then (some σ) else (if (4 : Int32) ≤ a1 then (some σ) else (gd (ix a1 4) (lt (sI σ 24 a1.toNatClampNeg a2) (fun σ1 => some σ1))))
set_option maxRecDepth 20000 in
theorem c_X5_putLeaf {l : Launch} {D : va_G} {cy : Nat → ClassId} {ad : Nat → Nat} (hj : InjW 1 ad) (a1 : Int32) (a2 : Int32)  (σ : Mem) (r : Mem) (h : f_X5_putLeaf a1 a2 σ = some r) : CV 1 D cy ad l yX5_putLeaf cX5_putLeaf 3 none 0 [.ref (ad (22)), .int a1, .int a2] σ r := by
  refine CV.mk (by decide) hj (Nat.le_of_ble_eq_true rfl) (fun p e R s m below meth c ls C hw hl => ?_)
  have hl : lv_has ls 3 [(0, .ref (ad (22))), (1, .int a1), (2, .int a2)] := hl
  generalize ([.ref (ad (22)), .int a1, .int a2] : List Value).toArray = args at C ⊢
  have C : Cx 1 D cy ad p R s m args meth c cX5_putLeaf 3 RX5 none 0 := C
  unfold f_X5_putLeaf at h
  refine lv_iload_n C.1 C.2.1 dX5_putLeaf_0 rfl (lv_at hl 1 rfl) ?_
  refine lv_if_lt (tgt := 16) C.1 C.2.1 dX5_putLeaf_1 (by decide) (fun cd => ?_) (fun cd => ?_)
  · have h := ite_t cd h
    exact m_vret C hw (Option.some.inj h) dX5_putLeaf_16
  · have h := ite_f cd h
    refine lv_iload_n C.1 C.2.1 dX5_putLeaf_4 rfl (lv_at hl 1 rfl) ?_
    refine lv_iconst (v := (4 : Int32)) C.1 C.2.1 dX5_putLeaf_5 (by decide) ?_
    refine lv_icmp_ge (tgt := 16) C.1 C.2.1 dX5_putLeaf_6 (by decide) (fun cd => ?_) (fun cd => ?_)
    · have h := ite_t cd h
      exact m_vret C hw (Option.some.inj h) dX5_putLeaf_16
    · have h := ite_f cd h
      refine lv_aload_n C.1 C.2.1 dX5_putLeaf_9 rfl (lv_at hl 0 rfl) ?_
      refine gf_X5_17 C hw dX5_putLeaf_10 ?_
      refine lv_iload_n C.1 C.2.1 dX5_putLeaf_13 rfl (lv_at hl 1 rfl) ?_
      refine lv_iload_n C.1 C.2.1 dX5_putLeaf_14 rfl (lv_at hl 2 rfl) ?_
      obtain ⟨hin, h⟩ := gd_of h
      refine m_iast C hw a1_24 hin dX5_putLeaf_15 (fun H locs hw => ?_)
      obtain ⟨σ1, eσ1, h⟩ := lt_of h
      rw [← eσ1] at hw
      exact m_vret C hw (Option.some.inj h) dX5_putLeaf_16
noncomputable def b_X4_begin_9  (v1 : Int32) (σ : Mem) : Option ((Int32 × Mem) ⊕ Mem) :=
  if (8 : Int32) ≤ v1 then (some (.inr σ)) else (gd (ix v1 8) (lt (sI σ 19 v1.toNatClampNeg (0 : Int32)) (fun σ2 => lt (v1 + (1 : Int32)) (fun x3 => some (.inl (x3, σ2))))))
noncomputable def b_X4_begin_30  (v1 : Int32) (σ : Mem) : Option ((Int32 × Mem) ⊕ Mem) :=
  if (σ.1 29 4) ≤ v1 then (some (.inr σ)) else (gd (ix v1 16) (gd (ix (σ.1 (29 + 1) v1.toNatClampNeg) 8) (gd (ix (σ.1 (29 + 1) v1.toNatClampNeg) 8) (lt (sI σ 19 (σ.1 (29 + 1) v1.toNatClampNeg).toNatClampNeg ((σ.1 19 (σ.1 (29 + 1) v1.toNatClampNeg).toNatClampNeg) ||| (((f_X8_bit (σ.1 9 15) v1) <<< (v1 &&& 31)) ||| ((f_X8_bit (σ.1 9 16) v1) <<< ((v1 + (16 : Int32)) &&& 31))))) (fun σ5 => lt (v1 + (1 : Int32)) (fun x6 => some (.inl (x6, σ5))))))))
noncomputable def b_X4_begin_90  (v1 : Int32) (σ : Mem) : Option ((Int32 × Mem) ⊕ Mem) :=
  if (4 : Int32) ≤ v1 then (some (.inr σ)) else (gd (ix v1 8) ((f_X4_offer (σ.1 19 v1.toNatClampNeg) v1 (-1 : Int32) (-1 : Int32) σ).bind (fun r8 => (f_X5_putLeaf v1 r8.1 r8.2).bind (fun r9 => lt (v1 + (1 : Int32)) (fun x10 => some (.inl (x10, r9)))))))
noncomputable def f_X4_begin  (σ : Mem) : Option Mem :=
  (f_X5_begin σ).bind (fun r1 => (Lim (T := Mem) (fun s => b_X4_begin_9 s.1 s.2) ((0 : Int32), r1)).bind (fun r4 => (Lim (T := Mem) (fun s => b_X4_begin_30 s.1 s.2) ((0 : Int32), r4)).bind (fun r7 => (Lim (T := Mem) (fun s => b_X4_begin_90 s.1 s.2) ((0 : Int32), r7)).bind (fun r11 => some r11))))
set_option maxRecDepth 20000 in
theorem w_X4_begin_9 {D : va_G} {cy : Nat → ClassId} {ad : Nat → Nat} {p : Program} {l : Launch} {e : Env} {R : Room} {s : State} {m : MethodId} {args : Array Value} {below : List Frame} {meth : Method} {c : Code} (C : Cx 1 D cy ad p R s m args meth c cX4_begin 2 RX4 none 4)   {v1 : Int32} {σ : Mem} {Q : State → Prop} {r : Mem} (hL : Lim (T := Mem) (fun s => b_X4_begin_9 s.1 s.2) (v1, σ) = some r) (hE0 : ∀ (σ1 : Mem), (σ1 : Mem) = r → ∀ (H : Heap) (locs : List Loc) (ls : Array Slot), Wd 1 D cy ad s σ1 H locs → lv_has ls 2 [(0, .ref (ad (9)))] → W p l e R s m args below meth c H locs 0 0 Q (F0 m 28 ls [])) (H : Heap) (locs : List Loc) (ls : Array Slot) (hw : Wd 1 D cy ad s σ H locs) (hl : lv_has ls 2 [(0, .ref (ad (9))), (1, .int v1)]) : W p l e R s m args below meth c H locs 0 0 Q (F0 m 9 ls []) := by
  refine Lim_ind hL (P := fun u => ∀ (H : Heap) (locs : List Loc) (ls : Array Slot), Wd 1 D cy ad s u.2 H locs → lv_has ls 2 [(0, .ref (ad (9))), (1, .int u.1)] → W p l e R s m args below meth c H locs 0 0 Q (F0 m 9 ls [])) (fun u x h hx H locs ls hw hl => ?_) H locs ls hw hl
  clear hL
  obtain ⟨v1, σ⟩ := u
  have h : b_X4_begin_9 v1 σ = some x := h
  have hw : Wd 1 D cy ad s σ H locs := hw
  have hl : lv_has ls 2 [(0, .ref (ad (9))), (1, .int v1)] := hl
  have hP : ∀ (u : (Int32 × Mem)), (∀ (H : Heap) (locs : List Loc) (ls : Array Slot), Wd 1 D cy ad s u.2 H locs → lv_has ls 2 [(0, .ref (ad (9))), (1, .int u.1)] → W p l e R s m args below meth c H locs 0 0 Q (F0 m 9 ls [])) → ∀ (H : Heap) (locs : List Loc) (ls : Array Slot), Wd 1 D cy ad s u.2 H locs → lv_has ls 2 [(0, .ref (ad (9))), (1, .int u.1)] → W p l e R s m args below meth c H locs 0 0 Q (F0 m 9 ls []) := fun _ k => k
  unfold b_X4_begin_9 at h
  refine lv_iload_n C.1 C.2.1 dX4_begin_9 rfl (lv_at hl 1 rfl) ?_
  refine lv_bipush (v := (8 : Int32)) C.1 C.2.1 dX4_begin_10 (by decide) ?_
  refine lv_icmp_ge (tgt := 28) C.1 C.2.1 dX4_begin_12 (by decide) (fun cd => ?_) (fun cd => ?_)
  · have h := ite_t cd h
    obtain rfl := Option.some.inj h
    exact hE0 _ hx _ _ _ hw (lv_sub hl [0] rfl)
  · have h := ite_f cd h
    refine lv_aload_n C.1 C.2.1 dX4_begin_15 rfl (lv_at hl 0 rfl) ?_
    refine gf_X4_41 C hw dX4_begin_16 ?_
    refine lv_iload_n C.1 C.2.1 dX4_begin_19 rfl (lv_at hl 1 rfl) ?_
    refine lv_iconst (v := (0 : Int32)) C.1 C.2.1 dX4_begin_20 (by decide) ?_
    obtain ⟨hin, h⟩ := gd_of h
    refine m_iast C hw a1_19 hin dX4_begin_21 (fun H locs hw => ?_)
    obtain ⟨σ2, eσ2, h⟩ := lt_of h
    rw [← eσ2] at hw
    obtain ⟨x3, ex3, h⟩ := lt_of h
    refine m_iinc (k := 1) (lv' := [(1, .int _), (0, .ref _)]) C (1 : Int32) (by decide) dX4_begin_22 hl rfl ex3.symm (by decide) rfl (fun ls hl => ?_)
    refine lv_goto (tgt := 9) C.1 C.2.1 dX4_begin_25 (by decide) ?_
    obtain rfl := Option.some.inj h
    exact hP _ hx _ _ _ hw (lv_sub hl [1, 0] rfl)
set_option maxRecDepth 20000 in
theorem w_X4_begin_30 {D : va_G} {cy : Nat → ClassId} {ad : Nat → Nat} {p : Program} {l : Launch} {e : Env} {R : Room} {s : State} {m : MethodId} {args : Array Value} {below : List Frame} {meth : Method} {c : Code} (C : Cx 1 D cy ad p R s m args meth c cX4_begin 2 RX4 none 4)   {v1 : Int32} {σ : Mem} {Q : State → Prop} {r : Mem} (hL : Lim (T := Mem) (fun s => b_X4_begin_30 s.1 s.2) (v1, σ) = some r) (hE0 : ∀ (σ1 : Mem), (σ1 : Mem) = r → ∀ (H : Heap) (locs : List Loc) (ls : Array Slot), Wd 1 D cy ad s σ1 H locs → lv_has ls 2 [(0, .ref (ad (9)))] → W p l e R s m args below meth c H locs 0 0 Q (F0 m 88 ls [])) (H : Heap) (locs : List Loc) (ls : Array Slot) (hw : Wd 1 D cy ad s σ H locs) (hl : lv_has ls 2 [(0, .ref (ad (9))), (1, .int v1)]) : W p l e R s m args below meth c H locs 0 0 Q (F0 m 30 ls []) := by
  refine Lim_ind hL (P := fun u => ∀ (H : Heap) (locs : List Loc) (ls : Array Slot), Wd 1 D cy ad s u.2 H locs → lv_has ls 2 [(0, .ref (ad (9))), (1, .int u.1)] → W p l e R s m args below meth c H locs 0 0 Q (F0 m 30 ls [])) (fun u x h hx H locs ls hw hl => ?_) H locs ls hw hl
  clear hL
  obtain ⟨v1, σ⟩ := u
  have h : b_X4_begin_30 v1 σ = some x := h
  have hw : Wd 1 D cy ad s σ H locs := hw
  have hl : lv_has ls 2 [(0, .ref (ad (9))), (1, .int v1)] := hl
  have hP : ∀ (u : (Int32 × Mem)), (∀ (H : Heap) (locs : List Loc) (ls : Array Slot), Wd 1 D cy ad s u.2 H locs → lv_has ls 2 [(0, .ref (ad (9))), (1, .int u.1)] → W p l e R s m args below meth c H locs 0 0 Q (F0 m 30 ls [])) → ∀ (H : Heap) (locs : List Loc) (ls : Array Slot), Wd 1 D cy ad s u.2 H locs → lv_has ls 2 [(0, .ref (ad (9))), (1, .int u.1)] → W p l e R s m args below meth c H locs 0 0 Q (F0 m 30 ls []) := fun _ k => k
  unfold b_X4_begin_30 at h
  refine lv_iload_n C.1 C.2.1 dX4_begin_30 rfl (lv_at hl 1 rfl) ?_
  refine lv_aload_n C.1 C.2.1 dX4_begin_31 rfl (lv_at hl 0 rfl) ?_
  refine gf_X4_67 C hw dX4_begin_32 ?_
  refine gf_X4_108 C hw o1_29 dX4_begin_35 ?_
  refine lv_icmp_ge (tgt := 88) C.1 C.2.1 dX4_begin_38 (by decide) (fun cd => ?_) (fun cd => ?_)
  · have h := ite_t cd h
    obtain rfl := Option.some.inj h
    exact hE0 _ hx _ _ _ hw (lv_sub hl [0] rfl)
  · have h := ite_f cd h
    refine lv_aload_n C.1 C.2.1 dX4_begin_41 rfl (lv_at hl 0 rfl) ?_
    refine gf_X4_41 C hw dX4_begin_42 ?_
    refine lv_aload_n C.1 C.2.1 dX4_begin_45 rfl (lv_at hl 0 rfl) ?_
    refine gf_X4_67 C hw dX4_begin_46 ?_
    refine gf_X4_109 C hw o1_29 dX4_begin_49 ?_
    refine lv_iload_n C.1 C.2.1 dX4_begin_52 rfl (lv_at hl 1 rfl) ?_
    obtain ⟨hin, h⟩ := gd_of h
    refine m_iald C hw (lawA0 o1_29) hin dX4_begin_53 ?_
    refine lv_dup2_11 C.1 C.2.1 dX4_begin_54 rfl rfl ?_
    obtain ⟨hin, h⟩ := gd_of h
    refine m_iald C hw a1_19 hin dX4_begin_55 ?_
    refine lv_aload_n C.1 C.2.1 dX4_begin_56 rfl (lv_at hl 0 rfl) ?_
    refine gf_X4_71 C hw dX4_begin_57 ?_
    refine lv_iload_n C.1 C.2.1 dX4_begin_60 rfl (lv_at hl 1 rfl) ?_
    refine go_I hw (run_SN (As := [.int _, .int _]) C hw (c_X8_bit C.2.2.2.2.2.2.2.2.2 _ _ _) mi_X8_bit ms_X8_bit lk_X4_110 (by decide) (by decide) rfl hl.1 rfl (Nat.le_of_ble_eq_true rfl) dX4_begin_61 ⟨Nat.le_refl 0, Nat.le_refl 0⟩) (fun H locs hw => ?_)
    refine lv_iload_n C.1 C.2.1 dX4_begin_64 rfl (lv_at hl 1 rfl) ?_
    refine lv_ishl C.1 C.2.1 dX4_begin_65 ?_
    refine lv_aload_n C.1 C.2.1 dX4_begin_66 rfl (lv_at hl 0 rfl) ?_
    refine gf_X4_75 C hw dX4_begin_67 ?_
    refine lv_iload_n C.1 C.2.1 dX4_begin_70 rfl (lv_at hl 1 rfl) ?_
    refine go_I hw (run_SN (As := [.int _, .int _]) C hw (c_X8_bit C.2.2.2.2.2.2.2.2.2 _ _ _) mi_X8_bit ms_X8_bit lk_X4_110 (by decide) (by decide) rfl hl.1 rfl (Nat.le_of_ble_eq_true rfl) dX4_begin_71 ⟨Nat.le_refl 0, Nat.le_refl 0⟩) (fun H locs hw => ?_)
    refine lv_iload_n C.1 C.2.1 dX4_begin_74 rfl (lv_at hl 1 rfl) ?_
    refine lv_bipush (v := (16 : Int32)) C.1 C.2.1 dX4_begin_75 (by decide) ?_
    refine lv_iadd C.1 C.2.1 dX4_begin_77 ?_
    refine lv_ishl C.1 C.2.1 dX4_begin_78 ?_
    refine lv_ior C.1 C.2.1 dX4_begin_79 ?_
    refine lv_ior C.1 C.2.1 dX4_begin_80 ?_
    obtain ⟨hin, h⟩ := gd_of h
    refine m_iast C hw a1_19 hin dX4_begin_81 (fun H locs hw => ?_)
    obtain ⟨σ5, eσ5, h⟩ := lt_of h
    rw [← eσ5] at hw
    obtain ⟨x6, ex6, h⟩ := lt_of h
    refine m_iinc (k := 1) (lv' := [(1, .int _), (0, .ref _)]) C (1 : Int32) (by decide) dX4_begin_82 hl rfl ex6.symm (by decide) rfl (fun ls hl => ?_)
    refine lv_goto (tgt := 30) C.1 C.2.1 dX4_begin_85 (by decide) ?_
    obtain rfl := Option.some.inj h
    exact hP _ hx _ _ _ hw (lv_sub hl [1, 0] rfl)
set_option maxRecDepth 20000 in
theorem w_X4_begin_90 {D : va_G} {cy : Nat → ClassId} {ad : Nat → Nat} {p : Program} {l : Launch} {e : Env} {R : Room} {s : State} {m : MethodId} {args : Array Value} {below : List Frame} {meth : Method} {c : Code} (C : Cx 1 D cy ad p R s m args meth c cX4_begin 2 RX4 none 4)   {v1 : Int32} {σ : Mem} {Q : State → Prop} {r : Mem} (hL : Lim (T := Mem) (fun s => b_X4_begin_90 s.1 s.2) (v1, σ) = some r) (hE0 : ∀ (σ1 : Mem), (σ1 : Mem) = r → ∀ (H : Heap) (locs : List Loc) (ls : Array Slot), Wd 1 D cy ad s σ1 H locs → lv_has ls 2 [] → W p l e R s m args below meth c H locs 0 0 Q (F0 m 122 ls [])) (H : Heap) (locs : List Loc) (ls : Array Slot) (hw : Wd 1 D cy ad s σ H locs) (hl : lv_has ls 2 [(0, .ref (ad (9))), (1, .int v1)]) : W p l e R s m args below meth c H locs 0 0 Q (F0 m 90 ls []) := by
  refine Lim_ind hL (P := fun u => ∀ (H : Heap) (locs : List Loc) (ls : Array Slot), Wd 1 D cy ad s u.2 H locs → lv_has ls 2 [(0, .ref (ad (9))), (1, .int u.1)] → W p l e R s m args below meth c H locs 0 0 Q (F0 m 90 ls [])) (fun u x h hx H locs ls hw hl => ?_) H locs ls hw hl
  clear hL
  obtain ⟨v1, σ⟩ := u
  have h : b_X4_begin_90 v1 σ = some x := h
  have hw : Wd 1 D cy ad s σ H locs := hw
  have hl : lv_has ls 2 [(0, .ref (ad (9))), (1, .int v1)] := hl
  have hP : ∀ (u : (Int32 × Mem)), (∀ (H : Heap) (locs : List Loc) (ls : Array Slot), Wd 1 D cy ad s u.2 H locs → lv_has ls 2 [(0, .ref (ad (9))), (1, .int u.1)] → W p l e R s m args below meth c H locs 0 0 Q (F0 m 90 ls [])) → ∀ (H : Heap) (locs : List Loc) (ls : Array Slot), Wd 1 D cy ad s u.2 H locs → lv_has ls 2 [(0, .ref (ad (9))), (1, .int u.1)] → W p l e R s m args below meth c H locs 0 0 Q (F0 m 90 ls []) := fun _ k => k
  unfold b_X4_begin_90 at h
  refine lv_iload_n C.1 C.2.1 dX4_begin_90 rfl (lv_at hl 1 rfl) ?_
  refine lv_iconst (v := (4 : Int32)) C.1 C.2.1 dX4_begin_91 (by decide) ?_
  refine lv_icmp_ge (tgt := 122) C.1 C.2.1 dX4_begin_92 (by decide) (fun cd => ?_) (fun cd => ?_)
  · have h := ite_t cd h
    obtain rfl := Option.some.inj h
    exact hE0 _ hx _ _ _ hw (lv_sub hl [] rfl)
  · have h := ite_f cd h
    refine lv_aload_n C.1 C.2.1 dX4_begin_95 rfl (lv_at hl 0 rfl) ?_
    refine gf_X4_53 C hw dX4_begin_96 ?_
    refine lv_iload_n C.1 C.2.1 dX4_begin_99 rfl (lv_at hl 1 rfl) ?_
    refine lv_aload_n C.1 C.2.1 dX4_begin_100 rfl (lv_at hl 0 rfl) ?_
    refine lv_aload_n C.1 C.2.1 dX4_begin_101 rfl (lv_at hl 0 rfl) ?_
    refine gf_X4_41 C hw dX4_begin_102 ?_
    refine lv_iload_n C.1 C.2.1 dX4_begin_105 rfl (lv_at hl 1 rfl) ?_
    obtain ⟨hin, h⟩ := gd_of h
    refine m_iald C hw a1_19 hin dX4_begin_106 ?_
    refine lv_iload_n C.1 C.2.1 dX4_begin_107 rfl (lv_at hl 1 rfl) ?_
    refine lv_iconst (v := (-1 : Int32)) C.1 C.2.1 dX4_begin_108 (by decide) ?_
    refine lv_iconst (v := (-1 : Int32)) C.1 C.2.1 dX4_begin_109 (by decide) ?_
    obtain ⟨r8, h1, h⟩ := bS h
    refine go_I hw (run_V (As := [.int _, .int _, .int _, .int _]) C hw (c_X4_offer C.2.2.2.2.2.2.2.2.2 _ _ _ _ _ _ h1) mi_X4_offer mv_X4_offer o1_9 (ci := 4) rfl rfl lk_X4_99 (by decide) (by decide) rfl hl.1 rfl (Nat.le_of_ble_eq_true rfl) dX4_begin_110 ⟨Nat.le_refl 0, Nat.le_refl 0⟩) (fun H locs hw => ?_)
    obtain ⟨r9, h1, h⟩ := bS h
    refine go_V hw (run_V (As := [.int _, .int _]) C hw (c_X5_putLeaf C.2.2.2.2.2.2.2.2.2 _ _ _ _ h1) mi_X5_putLeaf mv_X5_putLeaf o1_22 (ci := 5) rfl rfl lk_X4_114 (by decide) (by decide) rfl hl.1 rfl (Nat.le_of_ble_eq_true rfl) dX4_begin_113 ⟨Nat.le_refl 0, Nat.le_refl 0⟩) (fun H locs hw => ?_)
    obtain ⟨x10, ex10, h⟩ := lt_of h
    refine m_iinc (k := 1) (lv' := [(1, .int _), (0, .ref _)]) C (1 : Int32) (by decide) dX4_begin_116 hl rfl ex10.symm (by decide) rfl (fun ls hl => ?_)
    refine lv_goto (tgt := 90) C.1 C.2.1 dX4_begin_119 (by decide) ?_
    obtain rfl := Option.some.inj h
    exact hP _ hx _ _ _ hw (lv_sub hl [1, 0] rfl)
set_option maxRecDepth 20000 in
theorem c_X4_begin {l : Launch} {D : va_G} {cy : Nat → ClassId} {ad : Nat → Nat} (hj : InjW 1 ad)   (σ : Mem) (r : Mem) (h : f_X4_begin σ = some r) : CV 1 D cy ad l yX4_begin cX4_begin 2 none 4 [.ref (ad (9))] σ r := by
  refine CV.mk (by decide) hj (Nat.le_of_ble_eq_true rfl) (fun p e R s m below meth c ls C hw hl => ?_)
  have hl : lv_has ls 2 [(0, .ref (ad (9)))] := hl
  generalize ([.ref (ad (9))] : List Value).toArray = args at C ⊢
  have C : Cx 1 D cy ad p R s m args meth c cX4_begin 2 RX4 none 4 := C
  unfold f_X4_begin at h
  refine lv_aload_n C.1 C.2.1 dX4_begin_0 rfl (lv_at hl 0 rfl) ?_
  refine gf_X4_53 C hw dX4_begin_1 ?_
  obtain ⟨r1, h1, h⟩ := bS h
  refine go_V hw (run_V (As := []) C hw (c_X5_begin C.2.2.2.2.2.2.2.2.2 _ _ h1) mi_X5_begin mv_X5_begin o1_22 (ci := 5) rfl rfl lk_X4_107 (by decide) (by decide) rfl hl.1 rfl (Nat.le_of_ble_eq_true rfl) dX4_begin_4 ⟨Nat.le_refl 0, Nat.le_refl 0⟩) (fun H locs hw => ?_)
  refine lv_iconst (v := (0 : Int32)) C.1 C.2.1 dX4_begin_7 (by decide) ?_
  refine lv_istore_n (lv' := [(1, .int _), (0, .ref _)]) C.1 C.2.1 dX4_begin_8 rfl hl (by decide) rfl (fun ls hl => ?_)
  obtain ⟨r4, hL, h⟩ := bS h
  refine w_X4_begin_9 C  hL (fun y0 hr H locs ls hw hl => ?_) _ _ _ hw (lv_sub hl [1, 0] rfl)
  · subst hr
    try dsimp only at h
    try dsimp only at hw
    try dsimp only at hl
    refine lv_iconst (v := (0 : Int32)) C.1 C.2.1 dX4_begin_28 (by decide) ?_
    refine lv_istore_n (lv' := [(1, .int _), (0, .ref _)]) C.1 C.2.1 dX4_begin_29 rfl hl (by decide) rfl (fun ls hl => ?_)
    obtain ⟨r7, hL, h⟩ := bS h
    refine w_X4_begin_30 C  hL (fun y0 hr H locs ls hw hl => ?_) _ _ _ hw (lv_sub hl [1, 0] rfl)
    · subst hr
      try dsimp only at h
      try dsimp only at hw
      try dsimp only at hl
      refine lv_iconst (v := (0 : Int32)) C.1 C.2.1 dX4_begin_88 (by decide) ?_
      refine lv_istore_n (lv' := [(1, .int _), (0, .ref _)]) C.1 C.2.1 dX4_begin_89 rfl hl (by decide) rfl (fun ls hl => ?_)
      obtain ⟨r11, hL, h⟩ := bS h
      refine w_X4_begin_90 C  hL (fun y0 hr H locs ls hw hl => ?_) _ _ _ hw (lv_sub hl [1, 0] rfl)
      · subst hr
        try dsimp only at h
        try dsimp only at hw
        try dsimp only at hl
        exact m_vret C hw (Option.some.inj h) dX4_begin_122
