/-! constructors -/
theorem vpc_int (n : Nat) (cA : ClassId) : vp_cell cA (n, .inl (fun _ => 0)) = arrV cA n (fun _ => defaultValue .int) := rfl
theorem vpc_byte (n : Nat) (cA : ClassId) : vp_cell cA (n, .inl (fun _ => 0)) = arrV cA n (fun _ => defaultValue .byte) := rfl
theorem vpc_short (n : Nat) (cA : ClassId) : vp_cell cA (n, .inl (fun _ => 0)) = arrV cA n (fun _ => defaultValue .short) := rfl
theorem vpc_boolean (n : Nat) (cA : ClassId) : vp_cell cA (n, .inl (fun _ => 0)) = arrV cA n (fun _ => defaultValue .boolean) := rfl
theorem vpc_long (n : Nat) (cA : ClassId) : vp_cell cA (n, .inr (.inl (fun _ => 0))) = arrV cA n (fun _ => defaultValue .long) := rfl
theorem mi_X6_init : MI yX6_init cX6_init 1 none 0 := ⟨gw_in (List.mem_of_getElem? (i := 91) (by decide +kernel)) rfl, gw_in (List.mem_of_getElem? (i := 68) (by decide +kernel)) rfl, by decide, by decide, by decide +kernel⟩
theorem mj_X6_init : Cond.instanceMethod yX6_init ∈ gw_tbl := gw_in (List.mem_of_getElem? (i := 90) (by decide +kernel)) rfl
theorem df_X6 : ∀ j, j < 6 → defaultValue (tyX6 j) = vp_V [.null, .int 0, .int 0, .int 0, .int 0, .int 0] j := by decide
def po_X6 (cy : Nat → ClassId) (h0 : Nat) (ws : va_W) : Prop := ∃ (q1 : Nat), ws = [(h0, .inr (6, [.ref q1, .int 0, .int 0, .int 0, .int 0, .int 0])), (q1, .inl (cy 0, 300, .inl (fun _ => 0)))]
set_option maxRecDepth 100000 in
set_option maxHeartbeats 4000000 in
theorem k_X6 {D : va_G} {cy : Nat → ClassId} {l : Launch} : KC D cy l yX6_init cX6_init 1 1 1 300 6 [.null, .int 0, .int 0, .int 0, .int 0, .int 0] (po_X6 cy) := by
  refine KC.mk (by decide) rfl (by decide) (fun h0 p e R s m below meth c ls args A K hP hD hS hA hl => ?_)
  obtain ⟨hx, hb, hml, hown, hts, hr, hlk, rfl, hK, hO, hin⟩ := K
  refine lv_aload_n hx hb dX6_init_0 rfl (lv_at hl 0 rfl) ?_
  refine W.objInit hx hb hown (hts _ (gw_in (List.mem_of_getElem? (i := 92) (by decide +kernel)) rfl)) (hts (.instanceMethod objectInit) (gw_in (List.mem_of_getElem? (i := 85) (by decide +kernel)) rfl)) (hts (.code objectInit ⟨#[0xb1]⟩ 1 none) (gw_in (List.mem_of_getElem? (i := 86) (by decide +kernel)) rfl)) rfl (by rw [hml]; exact hl.1) rfl dX6_init_1 (Nat.le_of_ble_eq_true rfl) (Nat.le_of_ble_eq_true rfl) ?_
  refine W.eq (g2 := F0 m 4 ls []) rfl ?_
  refine lv_aload_n hx hb dX6_init_4 rfl (lv_at hl 0 rfl) ?_
  refine lv_sipush (v := 300) hx hb dX6_init_5 (by decide) ?_
  refine k_newa (at1 := .int) (a0 := (300, .inl (fun _ => 0))) hx hb hts hK 0 rfl rfl (gw_in (List.mem_of_getElem? (i := 117) (by decide +kernel)) rfl) hP hD hS hA (fun cA => vpc_int 300 cA) (by decide +kernel) (by decide +kernel) (by decide +kernel) (Nat.le_of_ble_eq_true rfl) (Nat.le_of_ble_eq_true rfl) dX6_init_8 (fun q1 H hP hD hS => ?_)
  have hP : va_P D classes [(h0, .inr (6, [.null, .int 0, .int 0, .int 0, .int 0, .int 0])), (q1, .inl (cy 0, 300, .inl (fun _ => 0)))] H := hP
  have hD : va_D A [(h0, .inr (6, [.null, .int 0, .int 0, .int 0, .int 0, .int 0])), (q1, .inl (cy 0, 300, .inl (fun _ => 0)))] := hD
  refine W.widen (k := 1) (n := 300) (Nat.le_of_ble_eq_true rfl) (Nat.le_of_ble_eq_true rfl) ?_
  refine va_putF (v := .ref q1) hx hb hts in6 tyX6 tyX6_ok nmX6 hown hK.1 hP hD hS 0 rfl rfl 0 (by decide) (hts _ (gw_in (List.mem_of_getElem? (i := 93) (by decide +kernel)) rfl)) (fun x h => h) rfl hin rfl (tyX6_ok 0 (by decide)) rfl rfl (Nat.le_of_ble_eq_true rfl) dX6_init_10 (fun H locs hP hD hS => ?_)
  have hP : va_P D classes [(h0, .inr (6, [.ref q1, .int 0, .int 0, .int 0, .int 0, .int 0])), (q1, .inl (cy 0, 300, .inl (fun _ => 0)))] H := hP
  have hD : va_D A [(h0, .inr (6, [.ref q1, .int 0, .int 0, .int 0, .int 0, .int 0])), (q1, .inl (cy 0, 300, .inl (fun _ => 0)))] := hD
  refine W.widen (k := 1) (n := 300) (Nat.le_of_ble_eq_true rfl) (Nat.le_of_ble_eq_true rfl) ?_
  exact W.vret hx hb hr (fun t ht _ => ⟨⟨_, rfl, ⟨q1, rfl⟩, show va_P D classes _ t.heap by rw [ht]; exact hP, hD⟩, hS.F ht⟩) hS.2.2 dX6_init_13 hlk
theorem mi_X0_init : MI yX0_init cX0_init 1 none 0 := ⟨gw_in (List.mem_of_getElem? (i := 124) (by decide +kernel)) rfl, gw_in (List.mem_of_getElem? (i := 69) (by decide +kernel)) rfl, by decide, by decide, by decide +kernel⟩
theorem mj_X0_init : Cond.instanceMethod yX0_init ∈ gw_tbl := gw_in (List.mem_of_getElem? (i := 123) (by decide +kernel)) rfl
theorem df_X0 : ∀ j, j < 4 → defaultValue (tyX0 j) = vp_V [.null, .null, .null, .null] j := by decide
def po_X0 (cy : Nat → ClassId) (h0 : Nat) (ws : va_W) : Prop := ∃ (q1 : Nat) (q2 : Nat) (q3 : Nat) (q4 : Nat), ws = [(h0, .inr (0, [.ref q1, .ref q2, .ref q3, .ref q4])), (q1, .inl (cy 0, 31, .inl (fun _ => 0))), (q2, .inl (cy 1, 186, .inr (.inl (fun _ => 0)))), (q3, .inl (cy 0, 186, .inl (fun _ => 0))), (q4, .inl (cy 1, 186, .inr (.inl (fun _ => 0))))]
set_option maxRecDepth 100000 in
set_option maxHeartbeats 4000000 in
theorem k_X0 {D : va_G} {cy : Nat → ClassId} {l : Launch} : KC D cy l yX0_init cX0_init 1 1 4 589 0 [.null, .null, .null, .null] (po_X0 cy) := by
  refine KC.mk (by decide) rfl (by decide) (fun h0 p e R s m below meth c ls args A K hP hD hS hA hl => ?_)
  obtain ⟨hx, hb, hml, hown, hts, hr, hlk, rfl, hK, hO, hin⟩ := K
  refine lv_aload_n hx hb dX0_init_0 rfl (lv_at hl 0 rfl) ?_
  refine W.objInit hx hb hown (hts _ (gw_in (List.mem_of_getElem? (i := 125) (by decide +kernel)) rfl)) (hts (.instanceMethod objectInit) (gw_in (List.mem_of_getElem? (i := 85) (by decide +kernel)) rfl)) (hts (.code objectInit ⟨#[0xb1]⟩ 1 none) (gw_in (List.mem_of_getElem? (i := 86) (by decide +kernel)) rfl)) rfl (by rw [hml]; exact hl.1) rfl dX0_init_1 (Nat.le_of_ble_eq_true rfl) (Nat.le_of_ble_eq_true rfl) ?_
  refine W.eq (g2 := F0 m 4 ls []) rfl ?_
  refine lv_aload_n hx hb dX0_init_4 rfl (lv_at hl 0 rfl) ?_
  refine lv_bipush (v := 31) hx hb dX0_init_5 (by decide) ?_
  refine k_newa (at1 := .int) (a0 := (31, .inl (fun _ => 0))) hx hb hts hK 0 rfl rfl (gw_in (List.mem_of_getElem? (i := 117) (by decide +kernel)) rfl) hP hD hS hA (fun cA => vpc_int 31 cA) (by decide +kernel) (by decide +kernel) (by decide +kernel) (Nat.le_of_ble_eq_true rfl) (Nat.le_of_ble_eq_true rfl) dX0_init_7 (fun q1 H hP hD hS => ?_)
  have hP : va_P D classes [(h0, .inr (0, [.null, .null, .null, .null])), (q1, .inl (cy 0, 31, .inl (fun _ => 0)))] H := hP
  have hD : va_D A [(h0, .inr (0, [.null, .null, .null, .null])), (q1, .inl (cy 0, 31, .inl (fun _ => 0)))] := hD
  refine W.widen (k := 1) (n := 31) (Nat.le_of_ble_eq_true rfl) (Nat.le_of_ble_eq_true rfl) ?_
  refine va_putF (v := .ref q1) hx hb hts in0 tyX0 tyX0_ok nmX0 hown hK.1 hP hD hS 0 rfl rfl 0 (by decide) (hts _ (gw_in (List.mem_of_getElem? (i := 126) (by decide +kernel)) rfl)) (fun x h => h) rfl hin rfl (tyX0_ok 0 (by decide)) rfl rfl (Nat.le_of_ble_eq_true rfl) dX0_init_9 (fun H locs hP hD hS => ?_)
  have hP : va_P D classes [(h0, .inr (0, [.ref q1, .null, .null, .null])), (q1, .inl (cy 0, 31, .inl (fun _ => 0)))] H := hP
  have hD : va_D A [(h0, .inr (0, [.ref q1, .null, .null, .null])), (q1, .inl (cy 0, 31, .inl (fun _ => 0)))] := hD
  refine lv_aload_n hx hb dX0_init_12 rfl (lv_at hl 0 rfl) ?_
  refine lv_sipush (v := 186) hx hb dX0_init_13 (by decide) ?_
  refine k_newa (at1 := .long) (a0 := (186, .inr (.inl (fun _ => 0)))) hx hb hts hK 1 rfl rfl (gw_in (List.mem_of_getElem? (i := 142) (by decide +kernel)) rfl) hP hD hS hA (fun cA => vpc_long 186 cA) (by decide +kernel) (by decide +kernel) (by decide +kernel) (Nat.le_of_ble_eq_true rfl) (Nat.le_of_ble_eq_true rfl) dX0_init_16 (fun q2 H hP hD hS => ?_)
  have hP : va_P D classes [(h0, .inr (0, [.ref q1, .null, .null, .null])), (q1, .inl (cy 0, 31, .inl (fun _ => 0))), (q2, .inl (cy 1, 186, .inr (.inl (fun _ => 0))))] H := hP
  have hD : va_D A [(h0, .inr (0, [.ref q1, .null, .null, .null])), (q1, .inl (cy 0, 31, .inl (fun _ => 0))), (q2, .inl (cy 1, 186, .inr (.inl (fun _ => 0))))] := hD
  refine W.widen (k := 2) (n := 217) (Nat.le_of_ble_eq_true rfl) (Nat.le_of_ble_eq_true rfl) ?_
  refine va_putF (v := .ref q2) hx hb hts in0 tyX0 tyX0_ok nmX0 hown hK.1 hP hD hS 0 rfl rfl 1 (by decide) (hts _ (gw_in (List.mem_of_getElem? (i := 128) (by decide +kernel)) rfl)) (fun x h => h) rfl hin rfl (tyX0_ok 1 (by decide)) rfl rfl (Nat.le_of_ble_eq_true rfl) dX0_init_18 (fun H locs hP hD hS => ?_)
  have hP : va_P D classes [(h0, .inr (0, [.ref q1, .ref q2, .null, .null])), (q1, .inl (cy 0, 31, .inl (fun _ => 0))), (q2, .inl (cy 1, 186, .inr (.inl (fun _ => 0))))] H := hP
  have hD : va_D A [(h0, .inr (0, [.ref q1, .ref q2, .null, .null])), (q1, .inl (cy 0, 31, .inl (fun _ => 0))), (q2, .inl (cy 1, 186, .inr (.inl (fun _ => 0))))] := hD
  refine lv_aload_n hx hb dX0_init_21 rfl (lv_at hl 0 rfl) ?_
  refine lv_sipush (v := 186) hx hb dX0_init_22 (by decide) ?_
  refine k_newa (at1 := .int) (a0 := (186, .inl (fun _ => 0))) hx hb hts hK 0 rfl rfl (gw_in (List.mem_of_getElem? (i := 117) (by decide +kernel)) rfl) hP hD hS hA (fun cA => vpc_int 186 cA) (by decide +kernel) (by decide +kernel) (by decide +kernel) (Nat.le_of_ble_eq_true rfl) (Nat.le_of_ble_eq_true rfl) dX0_init_25 (fun q3 H hP hD hS => ?_)
  have hP : va_P D classes [(h0, .inr (0, [.ref q1, .ref q2, .null, .null])), (q1, .inl (cy 0, 31, .inl (fun _ => 0))), (q2, .inl (cy 1, 186, .inr (.inl (fun _ => 0)))), (q3, .inl (cy 0, 186, .inl (fun _ => 0)))] H := hP
  have hD : va_D A [(h0, .inr (0, [.ref q1, .ref q2, .null, .null])), (q1, .inl (cy 0, 31, .inl (fun _ => 0))), (q2, .inl (cy 1, 186, .inr (.inl (fun _ => 0)))), (q3, .inl (cy 0, 186, .inl (fun _ => 0)))] := hD
  refine W.widen (k := 3) (n := 403) (Nat.le_of_ble_eq_true rfl) (Nat.le_of_ble_eq_true rfl) ?_
  refine va_putF (v := .ref q3) hx hb hts in0 tyX0 tyX0_ok nmX0 hown hK.1 hP hD hS 0 rfl rfl 2 (by decide) (hts _ (gw_in (List.mem_of_getElem? (i := 129) (by decide +kernel)) rfl)) (fun x h => h) rfl hin rfl (tyX0_ok 2 (by decide)) rfl rfl (Nat.le_of_ble_eq_true rfl) dX0_init_27 (fun H locs hP hD hS => ?_)
  have hP : va_P D classes [(h0, .inr (0, [.ref q1, .ref q2, .ref q3, .null])), (q1, .inl (cy 0, 31, .inl (fun _ => 0))), (q2, .inl (cy 1, 186, .inr (.inl (fun _ => 0)))), (q3, .inl (cy 0, 186, .inl (fun _ => 0)))] H := hP
  have hD : va_D A [(h0, .inr (0, [.ref q1, .ref q2, .ref q3, .null])), (q1, .inl (cy 0, 31, .inl (fun _ => 0))), (q2, .inl (cy 1, 186, .inr (.inl (fun _ => 0)))), (q3, .inl (cy 0, 186, .inl (fun _ => 0)))] := hD
  refine lv_aload_n hx hb dX0_init_30 rfl (lv_at hl 0 rfl) ?_
  refine lv_sipush (v := 186) hx hb dX0_init_31 (by decide) ?_
  refine k_newa (at1 := .long) (a0 := (186, .inr (.inl (fun _ => 0)))) hx hb hts hK 1 rfl rfl (gw_in (List.mem_of_getElem? (i := 142) (by decide +kernel)) rfl) hP hD hS hA (fun cA => vpc_long 186 cA) (by decide +kernel) (by decide +kernel) (by decide +kernel) (Nat.le_of_ble_eq_true rfl) (Nat.le_of_ble_eq_true rfl) dX0_init_34 (fun q4 H hP hD hS => ?_)
  have hP : va_P D classes [(h0, .inr (0, [.ref q1, .ref q2, .ref q3, .null])), (q1, .inl (cy 0, 31, .inl (fun _ => 0))), (q2, .inl (cy 1, 186, .inr (.inl (fun _ => 0)))), (q3, .inl (cy 0, 186, .inl (fun _ => 0))), (q4, .inl (cy 1, 186, .inr (.inl (fun _ => 0))))] H := hP
  have hD : va_D A [(h0, .inr (0, [.ref q1, .ref q2, .ref q3, .null])), (q1, .inl (cy 0, 31, .inl (fun _ => 0))), (q2, .inl (cy 1, 186, .inr (.inl (fun _ => 0)))), (q3, .inl (cy 0, 186, .inl (fun _ => 0))), (q4, .inl (cy 1, 186, .inr (.inl (fun _ => 0))))] := hD
  refine W.widen (k := 4) (n := 589) (Nat.le_of_ble_eq_true rfl) (Nat.le_of_ble_eq_true rfl) ?_
  refine va_putF (v := .ref q4) hx hb hts in0 tyX0 tyX0_ok nmX0 hown hK.1 hP hD hS 0 rfl rfl 3 (by decide) (hts _ (gw_in (List.mem_of_getElem? (i := 131) (by decide +kernel)) rfl)) (fun x h => h) rfl hin rfl (tyX0_ok 3 (by decide)) rfl rfl (Nat.le_of_ble_eq_true rfl) dX0_init_36 (fun H locs hP hD hS => ?_)
  have hP : va_P D classes [(h0, .inr (0, [.ref q1, .ref q2, .ref q3, .ref q4])), (q1, .inl (cy 0, 31, .inl (fun _ => 0))), (q2, .inl (cy 1, 186, .inr (.inl (fun _ => 0)))), (q3, .inl (cy 0, 186, .inl (fun _ => 0))), (q4, .inl (cy 1, 186, .inr (.inl (fun _ => 0))))] H := hP
  have hD : va_D A [(h0, .inr (0, [.ref q1, .ref q2, .ref q3, .ref q4])), (q1, .inl (cy 0, 31, .inl (fun _ => 0))), (q2, .inl (cy 1, 186, .inr (.inl (fun _ => 0)))), (q3, .inl (cy 0, 186, .inl (fun _ => 0))), (q4, .inl (cy 1, 186, .inr (.inl (fun _ => 0))))] := hD
  refine W.widen (k := 4) (n := 589) (Nat.le_of_ble_eq_true rfl) (Nat.le_of_ble_eq_true rfl) ?_
  exact W.vret hx hb hr (fun t ht _ => ⟨⟨_, rfl, ⟨q1, q2, q3, q4, rfl⟩, show va_P D classes _ t.heap by rw [ht]; exact hP, hD⟩, hS.F ht⟩) hS.2.2 dX0_init_39 hlk
theorem mi_X5_init : MI yX5_init cX5_init 1 none 0 := ⟨gw_in (List.mem_of_getElem? (i := 153) (by decide +kernel)) rfl, gw_in (List.mem_of_getElem? (i := 71) (by decide +kernel)) rfl, by decide, by decide, by decide +kernel⟩
theorem mj_X5_init : Cond.instanceMethod yX5_init ∈ gw_tbl := gw_in (List.mem_of_getElem? (i := 152) (by decide +kernel)) rfl
theorem df_X5 : ∀ j, j < 3 → defaultValue (tyX5 j) = vp_V [.null, .null, .int 0] j := by decide
def po_X5 (cy : Nat → ClassId) (h0 : Nat) (ws : va_W) : Prop := ∃ (q1 : Nat) (q2 : Nat), ws = [(h0, .inr (5, [.ref q1, .ref q2, .int 0])), (q1, .inl (cy 1, 2048, .inr (.inl (fun _ => 0)))), (q2, .inl (cy 0, 4, .inl (fun _ => 0)))]
set_option maxRecDepth 100000 in
set_option maxHeartbeats 4000000 in
theorem k_X5 {D : va_G} {cy : Nat → ClassId} {l : Launch} : KC D cy l yX5_init cX5_init 1 1 2 2052 5 [.null, .null, .int 0] (po_X5 cy) := by
  refine KC.mk (by decide) rfl (by decide) (fun h0 p e R s m below meth c ls args A K hP hD hS hA hl => ?_)
  obtain ⟨hx, hb, hml, hown, hts, hr, hlk, rfl, hK, hO, hin⟩ := K
  refine lv_aload_n hx hb dX5_init_0 rfl (lv_at hl 0 rfl) ?_
  refine W.objInit hx hb hown (hts _ (gw_in (List.mem_of_getElem? (i := 154) (by decide +kernel)) rfl)) (hts (.instanceMethod objectInit) (gw_in (List.mem_of_getElem? (i := 85) (by decide +kernel)) rfl)) (hts (.code objectInit ⟨#[0xb1]⟩ 1 none) (gw_in (List.mem_of_getElem? (i := 86) (by decide +kernel)) rfl)) rfl (by rw [hml]; exact hl.1) rfl dX5_init_1 (Nat.le_of_ble_eq_true rfl) (Nat.le_of_ble_eq_true rfl) ?_
  refine W.eq (g2 := F0 m 4 ls []) rfl ?_
  refine lv_aload_n hx hb dX5_init_4 rfl (lv_at hl 0 rfl) ?_
  refine lv_sipush (v := 2048) hx hb dX5_init_5 (by decide) ?_
  refine k_newa (at1 := .long) (a0 := (2048, .inr (.inl (fun _ => 0)))) hx hb hts hK 1 rfl rfl (gw_in (List.mem_of_getElem? (i := 142) (by decide +kernel)) rfl) hP hD hS hA (fun cA => vpc_long 2048 cA) (by decide +kernel) (by decide +kernel) (by decide +kernel) (Nat.le_of_ble_eq_true rfl) (Nat.le_of_ble_eq_true rfl) dX5_init_8 (fun q1 H hP hD hS => ?_)
  have hP : va_P D classes [(h0, .inr (5, [.null, .null, .int 0])), (q1, .inl (cy 1, 2048, .inr (.inl (fun _ => 0))))] H := hP
  have hD : va_D A [(h0, .inr (5, [.null, .null, .int 0])), (q1, .inl (cy 1, 2048, .inr (.inl (fun _ => 0))))] := hD
  refine W.widen (k := 1) (n := 2048) (Nat.le_of_ble_eq_true rfl) (Nat.le_of_ble_eq_true rfl) ?_
  refine va_putF (v := .ref q1) hx hb hts in5 tyX5 tyX5_ok nmX5 hown hK.1 hP hD hS 0 rfl rfl 0 (by decide) (hts _ (gw_in (List.mem_of_getElem? (i := 155) (by decide +kernel)) rfl)) (fun x h => h) rfl hin rfl (tyX5_ok 0 (by decide)) rfl rfl (Nat.le_of_ble_eq_true rfl) dX5_init_10 (fun H locs hP hD hS => ?_)
  have hP : va_P D classes [(h0, .inr (5, [.ref q1, .null, .int 0])), (q1, .inl (cy 1, 2048, .inr (.inl (fun _ => 0))))] H := hP
  have hD : va_D A [(h0, .inr (5, [.ref q1, .null, .int 0])), (q1, .inl (cy 1, 2048, .inr (.inl (fun _ => 0))))] := hD
  refine lv_aload_n hx hb dX5_init_13 rfl (lv_at hl 0 rfl) ?_
  refine lv_iconst (v := 4) hx hb dX5_init_14 (by decide) ?_
  refine k_newa (at1 := .int) (a0 := (4, .inl (fun _ => 0))) hx hb hts hK 0 rfl rfl (gw_in (List.mem_of_getElem? (i := 117) (by decide +kernel)) rfl) hP hD hS hA (fun cA => vpc_int 4 cA) (by decide +kernel) (by decide +kernel) (by decide +kernel) (Nat.le_of_ble_eq_true rfl) (Nat.le_of_ble_eq_true rfl) dX5_init_15 (fun q2 H hP hD hS => ?_)
  have hP : va_P D classes [(h0, .inr (5, [.ref q1, .null, .int 0])), (q1, .inl (cy 1, 2048, .inr (.inl (fun _ => 0)))), (q2, .inl (cy 0, 4, .inl (fun _ => 0)))] H := hP
  have hD : va_D A [(h0, .inr (5, [.ref q1, .null, .int 0])), (q1, .inl (cy 1, 2048, .inr (.inl (fun _ => 0)))), (q2, .inl (cy 0, 4, .inl (fun _ => 0)))] := hD
  refine W.widen (k := 2) (n := 2052) (Nat.le_of_ble_eq_true rfl) (Nat.le_of_ble_eq_true rfl) ?_
  refine va_putF (v := .ref q2) hx hb hts in5 tyX5 tyX5_ok nmX5 hown hK.1 hP hD hS 0 rfl rfl 1 (by decide) (hts _ (gw_in (List.mem_of_getElem? (i := 156) (by decide +kernel)) rfl)) (fun x h => h) rfl hin rfl (tyX5_ok 1 (by decide)) rfl rfl (Nat.le_of_ble_eq_true rfl) dX5_init_17 (fun H locs hP hD hS => ?_)
  have hP : va_P D classes [(h0, .inr (5, [.ref q1, .ref q2, .int 0])), (q1, .inl (cy 1, 2048, .inr (.inl (fun _ => 0)))), (q2, .inl (cy 0, 4, .inl (fun _ => 0)))] H := hP
  have hD : va_D A [(h0, .inr (5, [.ref q1, .ref q2, .int 0])), (q1, .inl (cy 1, 2048, .inr (.inl (fun _ => 0)))), (q2, .inl (cy 0, 4, .inl (fun _ => 0)))] := hD
  refine W.widen (k := 2) (n := 2052) (Nat.le_of_ble_eq_true rfl) (Nat.le_of_ble_eq_true rfl) ?_
  exact W.vret hx hb hr (fun t ht _ => ⟨⟨_, rfl, ⟨q1, q2, rfl⟩, show va_P D classes _ t.heap by rw [ht]; exact hP, hD⟩, hS.F ht⟩) hS.2.2 dX5_init_20 hlk
theorem mi_X2_init : MI yX2_init cX2_init 1 none 0 := ⟨gw_in (List.mem_of_getElem? (i := 171) (by decide +kernel)) rfl, gw_in (List.mem_of_getElem? (i := 72) (by decide +kernel)) rfl, by decide, by decide, by decide +kernel⟩
theorem mj_X2_init : Cond.instanceMethod yX2_init ∈ gw_tbl := gw_in (List.mem_of_getElem? (i := 170) (by decide +kernel)) rfl
theorem df_X2 : ∀ j, j < 3 → defaultValue (tyX2 j) = vp_V [.null, .null, .null] j := by decide
def po_X2 (cy : Nat → ClassId) (h0 : Nat) (ws : va_W) : Prop := ∃ (q1 : Nat) (q2 : Nat) (q3 : Nat), ws = [(h0, .inr (2, [.ref q1, .ref q2, .ref q3])), (q1, .inl (cy 0, 128, .inl (fun _ => 0))), (q2, .inl (cy 0, 128, .inl (fun _ => 0))), (q3, .inl (cy 0, 128, .inl (fun _ => 0)))]
set_option maxRecDepth 100000 in
set_option maxHeartbeats 4000000 in
theorem k_X2 {D : va_G} {cy : Nat → ClassId} {l : Launch} : KC D cy l yX2_init cX2_init 1 1 3 384 2 [.null, .null, .null] (po_X2 cy) := by
  refine KC.mk (by decide) rfl (by decide) (fun h0 p e R s m below meth c ls args A K hP hD hS hA hl => ?_)
  obtain ⟨hx, hb, hml, hown, hts, hr, hlk, rfl, hK, hO, hin⟩ := K
  refine lv_aload_n hx hb dX2_init_0 rfl (lv_at hl 0 rfl) ?_
  refine W.objInit hx hb hown (hts _ (gw_in (List.mem_of_getElem? (i := 172) (by decide +kernel)) rfl)) (hts (.instanceMethod objectInit) (gw_in (List.mem_of_getElem? (i := 85) (by decide +kernel)) rfl)) (hts (.code objectInit ⟨#[0xb1]⟩ 1 none) (gw_in (List.mem_of_getElem? (i := 86) (by decide +kernel)) rfl)) rfl (by rw [hml]; exact hl.1) rfl dX2_init_1 (Nat.le_of_ble_eq_true rfl) (Nat.le_of_ble_eq_true rfl) ?_
  refine W.eq (g2 := F0 m 4 ls []) rfl ?_
  refine lv_aload_n hx hb dX2_init_4 rfl (lv_at hl 0 rfl) ?_
  refine lv_sipush (v := 128) hx hb dX2_init_5 (by decide) ?_
  refine k_newa (at1 := .int) (a0 := (128, .inl (fun _ => 0))) hx hb hts hK 0 rfl rfl (gw_in (List.mem_of_getElem? (i := 117) (by decide +kernel)) rfl) hP hD hS hA (fun cA => vpc_int 128 cA) (by decide +kernel) (by decide +kernel) (by decide +kernel) (Nat.le_of_ble_eq_true rfl) (Nat.le_of_ble_eq_true rfl) dX2_init_8 (fun q1 H hP hD hS => ?_)
  have hP : va_P D classes [(h0, .inr (2, [.null, .null, .null])), (q1, .inl (cy 0, 128, .inl (fun _ => 0)))] H := hP
  have hD : va_D A [(h0, .inr (2, [.null, .null, .null])), (q1, .inl (cy 0, 128, .inl (fun _ => 0)))] := hD
  refine W.widen (k := 1) (n := 128) (Nat.le_of_ble_eq_true rfl) (Nat.le_of_ble_eq_true rfl) ?_
  refine va_putF (v := .ref q1) hx hb hts in2 tyX2 tyX2_ok nmX2 hown hK.1 hP hD hS 0 rfl rfl 0 (by decide) (hts _ (gw_in (List.mem_of_getElem? (i := 173) (by decide +kernel)) rfl)) (fun x h => h) rfl hin rfl (tyX2_ok 0 (by decide)) rfl rfl (Nat.le_of_ble_eq_true rfl) dX2_init_10 (fun H locs hP hD hS => ?_)
  have hP : va_P D classes [(h0, .inr (2, [.ref q1, .null, .null])), (q1, .inl (cy 0, 128, .inl (fun _ => 0)))] H := hP
  have hD : va_D A [(h0, .inr (2, [.ref q1, .null, .null])), (q1, .inl (cy 0, 128, .inl (fun _ => 0)))] := hD
  refine lv_aload_n hx hb dX2_init_13 rfl (lv_at hl 0 rfl) ?_
  refine lv_sipush (v := 128) hx hb dX2_init_14 (by decide) ?_
  refine k_newa (at1 := .int) (a0 := (128, .inl (fun _ => 0))) hx hb hts hK 0 rfl rfl (gw_in (List.mem_of_getElem? (i := 117) (by decide +kernel)) rfl) hP hD hS hA (fun cA => vpc_int 128 cA) (by decide +kernel) (by decide +kernel) (by decide +kernel) (Nat.le_of_ble_eq_true rfl) (Nat.le_of_ble_eq_true rfl) dX2_init_17 (fun q2 H hP hD hS => ?_)
  have hP : va_P D classes [(h0, .inr (2, [.ref q1, .null, .null])), (q1, .inl (cy 0, 128, .inl (fun _ => 0))), (q2, .inl (cy 0, 128, .inl (fun _ => 0)))] H := hP
  have hD : va_D A [(h0, .inr (2, [.ref q1, .null, .null])), (q1, .inl (cy 0, 128, .inl (fun _ => 0))), (q2, .inl (cy 0, 128, .inl (fun _ => 0)))] := hD
  refine W.widen (k := 2) (n := 256) (Nat.le_of_ble_eq_true rfl) (Nat.le_of_ble_eq_true rfl) ?_
  refine va_putF (v := .ref q2) hx hb hts in2 tyX2 tyX2_ok nmX2 hown hK.1 hP hD hS 0 rfl rfl 1 (by decide) (hts _ (gw_in (List.mem_of_getElem? (i := 174) (by decide +kernel)) rfl)) (fun x h => h) rfl hin rfl (tyX2_ok 1 (by decide)) rfl rfl (Nat.le_of_ble_eq_true rfl) dX2_init_19 (fun H locs hP hD hS => ?_)
  have hP : va_P D classes [(h0, .inr (2, [.ref q1, .ref q2, .null])), (q1, .inl (cy 0, 128, .inl (fun _ => 0))), (q2, .inl (cy 0, 128, .inl (fun _ => 0)))] H := hP
  have hD : va_D A [(h0, .inr (2, [.ref q1, .ref q2, .null])), (q1, .inl (cy 0, 128, .inl (fun _ => 0))), (q2, .inl (cy 0, 128, .inl (fun _ => 0)))] := hD
  refine lv_aload_n hx hb dX2_init_22 rfl (lv_at hl 0 rfl) ?_
  refine lv_sipush (v := 128) hx hb dX2_init_23 (by decide) ?_
  refine k_newa (at1 := .int) (a0 := (128, .inl (fun _ => 0))) hx hb hts hK 0 rfl rfl (gw_in (List.mem_of_getElem? (i := 117) (by decide +kernel)) rfl) hP hD hS hA (fun cA => vpc_int 128 cA) (by decide +kernel) (by decide +kernel) (by decide +kernel) (Nat.le_of_ble_eq_true rfl) (Nat.le_of_ble_eq_true rfl) dX2_init_26 (fun q3 H hP hD hS => ?_)
  have hP : va_P D classes [(h0, .inr (2, [.ref q1, .ref q2, .null])), (q1, .inl (cy 0, 128, .inl (fun _ => 0))), (q2, .inl (cy 0, 128, .inl (fun _ => 0))), (q3, .inl (cy 0, 128, .inl (fun _ => 0)))] H := hP
  have hD : va_D A [(h0, .inr (2, [.ref q1, .ref q2, .null])), (q1, .inl (cy 0, 128, .inl (fun _ => 0))), (q2, .inl (cy 0, 128, .inl (fun _ => 0))), (q3, .inl (cy 0, 128, .inl (fun _ => 0)))] := hD
  refine W.widen (k := 3) (n := 384) (Nat.le_of_ble_eq_true rfl) (Nat.le_of_ble_eq_true rfl) ?_
  refine va_putF (v := .ref q3) hx hb hts in2 tyX2 tyX2_ok nmX2 hown hK.1 hP hD hS 0 rfl rfl 2 (by decide) (hts _ (gw_in (List.mem_of_getElem? (i := 175) (by decide +kernel)) rfl)) (fun x h => h) rfl hin rfl (tyX2_ok 2 (by decide)) rfl rfl (Nat.le_of_ble_eq_true rfl) dX2_init_28 (fun H locs hP hD hS => ?_)
  have hP : va_P D classes [(h0, .inr (2, [.ref q1, .ref q2, .ref q3])), (q1, .inl (cy 0, 128, .inl (fun _ => 0))), (q2, .inl (cy 0, 128, .inl (fun _ => 0))), (q3, .inl (cy 0, 128, .inl (fun _ => 0)))] H := hP
  have hD : va_D A [(h0, .inr (2, [.ref q1, .ref q2, .ref q3])), (q1, .inl (cy 0, 128, .inl (fun _ => 0))), (q2, .inl (cy 0, 128, .inl (fun _ => 0))), (q3, .inl (cy 0, 128, .inl (fun _ => 0)))] := hD
  refine W.widen (k := 3) (n := 384) (Nat.le_of_ble_eq_true rfl) (Nat.le_of_ble_eq_true rfl) ?_
  exact W.vret hx hb hr (fun t ht _ => ⟨⟨_, rfl, ⟨q1, q2, q3, rfl⟩, show va_P D classes _ t.heap by rw [ht]; exact hP, hD⟩, hS.F ht⟩) hS.2.2 dX2_init_31 hlk
theorem mi_X3_init : MI yX3_init cX3_init 1 none 0 := ⟨gw_in (List.mem_of_getElem? (i := 187) (by decide +kernel)) rfl, gw_in (List.mem_of_getElem? (i := 73) (by decide +kernel)) rfl, by decide, by decide, by decide +kernel⟩
theorem mj_X3_init : Cond.instanceMethod yX3_init ∈ gw_tbl := gw_in (List.mem_of_getElem? (i := 186) (by decide +kernel)) rfl
theorem df_X3 : ∀ j, j < 6 → defaultValue (tyX3 j) = vp_V [.null, .null, .null, .null, .int 0, .int 0] j := by decide
def po_X3 (cy : Nat → ClassId) (h0 : Nat) (ws : va_W) : Prop := ∃ (q1 : Nat) (q2 : Nat) (q3 : Nat) (q4 : Nat), ws = [(h0, .inr (3, [.ref q1, .ref q2, .ref q3, .ref q4, .int 0, .int 0])), (q1, .inl (cy 0, 16, .inl (fun _ => 0))), (q2, .inl (cy 0, 16, .inl (fun _ => 0))), (q3, .inl (cy 0, 16, .inl (fun _ => 0))), (q4, .inl (cy 0, 16, .inl (fun _ => 0)))]
set_option maxRecDepth 100000 in
set_option maxHeartbeats 4000000 in
theorem k_X3 {D : va_G} {cy : Nat → ClassId} {l : Launch} : KC D cy l yX3_init cX3_init 1 1 4 64 3 [.null, .null, .null, .null, .int 0, .int 0] (po_X3 cy) := by
  refine KC.mk (by decide) rfl (by decide) (fun h0 p e R s m below meth c ls args A K hP hD hS hA hl => ?_)
  obtain ⟨hx, hb, hml, hown, hts, hr, hlk, rfl, hK, hO, hin⟩ := K
  refine lv_aload_n hx hb dX3_init_0 rfl (lv_at hl 0 rfl) ?_
  refine W.objInit hx hb hown (hts _ (gw_in (List.mem_of_getElem? (i := 188) (by decide +kernel)) rfl)) (hts (.instanceMethod objectInit) (gw_in (List.mem_of_getElem? (i := 85) (by decide +kernel)) rfl)) (hts (.code objectInit ⟨#[0xb1]⟩ 1 none) (gw_in (List.mem_of_getElem? (i := 86) (by decide +kernel)) rfl)) rfl (by rw [hml]; exact hl.1) rfl dX3_init_1 (Nat.le_of_ble_eq_true rfl) (Nat.le_of_ble_eq_true rfl) ?_
  refine W.eq (g2 := F0 m 4 ls []) rfl ?_
  refine lv_aload_n hx hb dX3_init_4 rfl (lv_at hl 0 rfl) ?_
  refine lv_bipush (v := 16) hx hb dX3_init_5 (by decide) ?_
  refine k_newa (at1 := .int) (a0 := (16, .inl (fun _ => 0))) hx hb hts hK 0 rfl rfl (gw_in (List.mem_of_getElem? (i := 117) (by decide +kernel)) rfl) hP hD hS hA (fun cA => vpc_int 16 cA) (by decide +kernel) (by decide +kernel) (by decide +kernel) (Nat.le_of_ble_eq_true rfl) (Nat.le_of_ble_eq_true rfl) dX3_init_7 (fun q1 H hP hD hS => ?_)
  have hP : va_P D classes [(h0, .inr (3, [.null, .null, .null, .null, .int 0, .int 0])), (q1, .inl (cy 0, 16, .inl (fun _ => 0)))] H := hP
  have hD : va_D A [(h0, .inr (3, [.null, .null, .null, .null, .int 0, .int 0])), (q1, .inl (cy 0, 16, .inl (fun _ => 0)))] := hD
  refine W.widen (k := 1) (n := 16) (Nat.le_of_ble_eq_true rfl) (Nat.le_of_ble_eq_true rfl) ?_
  refine va_putF (v := .ref q1) hx hb hts in3 tyX3 tyX3_ok nmX3 hown hK.1 hP hD hS 0 rfl rfl 0 (by decide) (hts _ (gw_in (List.mem_of_getElem? (i := 189) (by decide +kernel)) rfl)) (fun x h => h) rfl hin rfl (tyX3_ok 0 (by decide)) rfl rfl (Nat.le_of_ble_eq_true rfl) dX3_init_9 (fun H locs hP hD hS => ?_)
  have hP : va_P D classes [(h0, .inr (3, [.ref q1, .null, .null, .null, .int 0, .int 0])), (q1, .inl (cy 0, 16, .inl (fun _ => 0)))] H := hP
  have hD : va_D A [(h0, .inr (3, [.ref q1, .null, .null, .null, .int 0, .int 0])), (q1, .inl (cy 0, 16, .inl (fun _ => 0)))] := hD
  refine lv_aload_n hx hb dX3_init_12 rfl (lv_at hl 0 rfl) ?_
  refine lv_bipush (v := 16) hx hb dX3_init_13 (by decide) ?_
  refine k_newa (at1 := .int) (a0 := (16, .inl (fun _ => 0))) hx hb hts hK 0 rfl rfl (gw_in (List.mem_of_getElem? (i := 117) (by decide +kernel)) rfl) hP hD hS hA (fun cA => vpc_int 16 cA) (by decide +kernel) (by decide +kernel) (by decide +kernel) (Nat.le_of_ble_eq_true rfl) (Nat.le_of_ble_eq_true rfl) dX3_init_15 (fun q2 H hP hD hS => ?_)
  have hP : va_P D classes [(h0, .inr (3, [.ref q1, .null, .null, .null, .int 0, .int 0])), (q1, .inl (cy 0, 16, .inl (fun _ => 0))), (q2, .inl (cy 0, 16, .inl (fun _ => 0)))] H := hP
  have hD : va_D A [(h0, .inr (3, [.ref q1, .null, .null, .null, .int 0, .int 0])), (q1, .inl (cy 0, 16, .inl (fun _ => 0))), (q2, .inl (cy 0, 16, .inl (fun _ => 0)))] := hD
  refine W.widen (k := 2) (n := 32) (Nat.le_of_ble_eq_true rfl) (Nat.le_of_ble_eq_true rfl) ?_
  refine va_putF (v := .ref q2) hx hb hts in3 tyX3 tyX3_ok nmX3 hown hK.1 hP hD hS 0 rfl rfl 1 (by decide) (hts _ (gw_in (List.mem_of_getElem? (i := 193) (by decide +kernel)) rfl)) (fun x h => h) rfl hin rfl (tyX3_ok 1 (by decide)) rfl rfl (Nat.le_of_ble_eq_true rfl) dX3_init_17 (fun H locs hP hD hS => ?_)
  have hP : va_P D classes [(h0, .inr (3, [.ref q1, .ref q2, .null, .null, .int 0, .int 0])), (q1, .inl (cy 0, 16, .inl (fun _ => 0))), (q2, .inl (cy 0, 16, .inl (fun _ => 0)))] H := hP
  have hD : va_D A [(h0, .inr (3, [.ref q1, .ref q2, .null, .null, .int 0, .int 0])), (q1, .inl (cy 0, 16, .inl (fun _ => 0))), (q2, .inl (cy 0, 16, .inl (fun _ => 0)))] := hD
  refine lv_aload_n hx hb dX3_init_20 rfl (lv_at hl 0 rfl) ?_
  refine lv_bipush (v := 16) hx hb dX3_init_21 (by decide) ?_
  refine k_newa (at1 := .int) (a0 := (16, .inl (fun _ => 0))) hx hb hts hK 0 rfl rfl (gw_in (List.mem_of_getElem? (i := 117) (by decide +kernel)) rfl) hP hD hS hA (fun cA => vpc_int 16 cA) (by decide +kernel) (by decide +kernel) (by decide +kernel) (Nat.le_of_ble_eq_true rfl) (Nat.le_of_ble_eq_true rfl) dX3_init_23 (fun q3 H hP hD hS => ?_)
  have hP : va_P D classes [(h0, .inr (3, [.ref q1, .ref q2, .null, .null, .int 0, .int 0])), (q1, .inl (cy 0, 16, .inl (fun _ => 0))), (q2, .inl (cy 0, 16, .inl (fun _ => 0))), (q3, .inl (cy 0, 16, .inl (fun _ => 0)))] H := hP
  have hD : va_D A [(h0, .inr (3, [.ref q1, .ref q2, .null, .null, .int 0, .int 0])), (q1, .inl (cy 0, 16, .inl (fun _ => 0))), (q2, .inl (cy 0, 16, .inl (fun _ => 0))), (q3, .inl (cy 0, 16, .inl (fun _ => 0)))] := hD
  refine W.widen (k := 3) (n := 48) (Nat.le_of_ble_eq_true rfl) (Nat.le_of_ble_eq_true rfl) ?_
  refine va_putF (v := .ref q3) hx hb hts in3 tyX3 tyX3_ok nmX3 hown hK.1 hP hD hS 0 rfl rfl 2 (by decide) (hts _ (gw_in (List.mem_of_getElem? (i := 197) (by decide +kernel)) rfl)) (fun x h => h) rfl hin rfl (tyX3_ok 2 (by decide)) rfl rfl (Nat.le_of_ble_eq_true rfl) dX3_init_25 (fun H locs hP hD hS => ?_)
  have hP : va_P D classes [(h0, .inr (3, [.ref q1, .ref q2, .ref q3, .null, .int 0, .int 0])), (q1, .inl (cy 0, 16, .inl (fun _ => 0))), (q2, .inl (cy 0, 16, .inl (fun _ => 0))), (q3, .inl (cy 0, 16, .inl (fun _ => 0)))] H := hP
  have hD : va_D A [(h0, .inr (3, [.ref q1, .ref q2, .ref q3, .null, .int 0, .int 0])), (q1, .inl (cy 0, 16, .inl (fun _ => 0))), (q2, .inl (cy 0, 16, .inl (fun _ => 0))), (q3, .inl (cy 0, 16, .inl (fun _ => 0)))] := hD
  refine lv_aload_n hx hb dX3_init_28 rfl (lv_at hl 0 rfl) ?_
  refine lv_bipush (v := 16) hx hb dX3_init_29 (by decide) ?_
  refine k_newa (at1 := .int) (a0 := (16, .inl (fun _ => 0))) hx hb hts hK 0 rfl rfl (gw_in (List.mem_of_getElem? (i := 117) (by decide +kernel)) rfl) hP hD hS hA (fun cA => vpc_int 16 cA) (by decide +kernel) (by decide +kernel) (by decide +kernel) (Nat.le_of_ble_eq_true rfl) (Nat.le_of_ble_eq_true rfl) dX3_init_31 (fun q4 H hP hD hS => ?_)
  have hP : va_P D classes [(h0, .inr (3, [.ref q1, .ref q2, .ref q3, .null, .int 0, .int 0])), (q1, .inl (cy 0, 16, .inl (fun _ => 0))), (q2, .inl (cy 0, 16, .inl (fun _ => 0))), (q3, .inl (cy 0, 16, .inl (fun _ => 0))), (q4, .inl (cy 0, 16, .inl (fun _ => 0)))] H := hP
  have hD : va_D A [(h0, .inr (3, [.ref q1, .ref q2, .ref q3, .null, .int 0, .int 0])), (q1, .inl (cy 0, 16, .inl (fun _ => 0))), (q2, .inl (cy 0, 16, .inl (fun _ => 0))), (q3, .inl (cy 0, 16, .inl (fun _ => 0))), (q4, .inl (cy 0, 16, .inl (fun _ => 0)))] := hD
  refine W.widen (k := 4) (n := 64) (Nat.le_of_ble_eq_true rfl) (Nat.le_of_ble_eq_true rfl) ?_
  refine va_putF (v := .ref q4) hx hb hts in3 tyX3 tyX3_ok nmX3 hown hK.1 hP hD hS 0 rfl rfl 3 (by decide) (hts _ (gw_in (List.mem_of_getElem? (i := 201) (by decide +kernel)) rfl)) (fun x h => h) rfl hin rfl (tyX3_ok 3 (by decide)) rfl rfl (Nat.le_of_ble_eq_true rfl) dX3_init_33 (fun H locs hP hD hS => ?_)
  have hP : va_P D classes [(h0, .inr (3, [.ref q1, .ref q2, .ref q3, .ref q4, .int 0, .int 0])), (q1, .inl (cy 0, 16, .inl (fun _ => 0))), (q2, .inl (cy 0, 16, .inl (fun _ => 0))), (q3, .inl (cy 0, 16, .inl (fun _ => 0))), (q4, .inl (cy 0, 16, .inl (fun _ => 0)))] H := hP
  have hD : va_D A [(h0, .inr (3, [.ref q1, .ref q2, .ref q3, .ref q4, .int 0, .int 0])), (q1, .inl (cy 0, 16, .inl (fun _ => 0))), (q2, .inl (cy 0, 16, .inl (fun _ => 0))), (q3, .inl (cy 0, 16, .inl (fun _ => 0))), (q4, .inl (cy 0, 16, .inl (fun _ => 0)))] := hD
  refine W.widen (k := 4) (n := 64) (Nat.le_of_ble_eq_true rfl) (Nat.le_of_ble_eq_true rfl) ?_
  exact W.vret hx hb hr (fun t ht _ => ⟨⟨_, rfl, ⟨q1, q2, q3, q4, rfl⟩, show va_P D classes _ t.heap by rw [ht]; exact hP, hD⟩, hS.F ht⟩) hS.2.2 dX3_init_36 hlk
theorem mi_X7_init : MI yX7_init cX7_init 1 none 0 := ⟨gw_in (List.mem_of_getElem? (i := 294) (by decide +kernel)) rfl, gw_in (List.mem_of_getElem? (i := 74) (by decide +kernel)) rfl, by decide, by decide, by decide +kernel⟩
theorem mj_X7_init : Cond.instanceMethod yX7_init ∈ gw_tbl := gw_in (List.mem_of_getElem? (i := 293) (by decide +kernel)) rfl
theorem df_X7 : ∀ j, j < 5 → defaultValue (tyX7 j) = vp_V [.null, .null, .null, .null, .int 0] j := by decide
def po_X7 (cy : Nat → ClassId) (h0 : Nat) (ws : va_W) : Prop := ∃ (q1 : Nat) (q2 : Nat) (q3 : Nat) (q4 : Nat), ws = [(h0, .inr (7, [.ref q1, .ref q2, .ref q3, .ref q4, .int 0])), (q1, .inl (cy 0, 31, .inl (fun _ => 0))), (q2, .inl (cy 0, 31, .inl (fun _ => 0))), (q3, .inl (cy 0, 31, .inl (fun _ => 0))), (q4, .inl (cy 0, 31, .inl (fun _ => 0)))]
set_option maxRecDepth 100000 in
set_option maxHeartbeats 4000000 in
theorem k_X7 {D : va_G} {cy : Nat → ClassId} {l : Launch} : KC D cy l yX7_init cX7_init 1 1 4 124 7 [.null, .null, .null, .null, .int 0] (po_X7 cy) := by
  refine KC.mk (by decide) rfl (by decide) (fun h0 p e R s m below meth c ls args A K hP hD hS hA hl => ?_)
  obtain ⟨hx, hb, hml, hown, hts, hr, hlk, rfl, hK, hO, hin⟩ := K
  refine lv_aload_n hx hb dX7_init_0 rfl (lv_at hl 0 rfl) ?_
  refine W.objInit hx hb hown (hts _ (gw_in (List.mem_of_getElem? (i := 295) (by decide +kernel)) rfl)) (hts (.instanceMethod objectInit) (gw_in (List.mem_of_getElem? (i := 85) (by decide +kernel)) rfl)) (hts (.code objectInit ⟨#[0xb1]⟩ 1 none) (gw_in (List.mem_of_getElem? (i := 86) (by decide +kernel)) rfl)) rfl (by rw [hml]; exact hl.1) rfl dX7_init_1 (Nat.le_of_ble_eq_true rfl) (Nat.le_of_ble_eq_true rfl) ?_
  refine W.eq (g2 := F0 m 4 ls []) rfl ?_
  refine lv_aload_n hx hb dX7_init_4 rfl (lv_at hl 0 rfl) ?_
  refine lv_bipush (v := 31) hx hb dX7_init_5 (by decide) ?_
  refine k_newa (at1 := .int) (a0 := (31, .inl (fun _ => 0))) hx hb hts hK 0 rfl rfl (gw_in (List.mem_of_getElem? (i := 117) (by decide +kernel)) rfl) hP hD hS hA (fun cA => vpc_int 31 cA) (by decide +kernel) (by decide +kernel) (by decide +kernel) (Nat.le_of_ble_eq_true rfl) (Nat.le_of_ble_eq_true rfl) dX7_init_7 (fun q1 H hP hD hS => ?_)
  have hP : va_P D classes [(h0, .inr (7, [.null, .null, .null, .null, .int 0])), (q1, .inl (cy 0, 31, .inl (fun _ => 0)))] H := hP
  have hD : va_D A [(h0, .inr (7, [.null, .null, .null, .null, .int 0])), (q1, .inl (cy 0, 31, .inl (fun _ => 0)))] := hD
  refine W.widen (k := 1) (n := 31) (Nat.le_of_ble_eq_true rfl) (Nat.le_of_ble_eq_true rfl) ?_
  refine va_putF (v := .ref q1) hx hb hts in7 tyX7 tyX7_ok nmX7 hown hK.1 hP hD hS 0 rfl rfl 0 (by decide) (hts _ (gw_in (List.mem_of_getElem? (i := 296) (by decide +kernel)) rfl)) (fun x h => h) rfl hin rfl (tyX7_ok 0 (by decide)) rfl rfl (Nat.le_of_ble_eq_true rfl) dX7_init_9 (fun H locs hP hD hS => ?_)
  have hP : va_P D classes [(h0, .inr (7, [.ref q1, .null, .null, .null, .int 0])), (q1, .inl (cy 0, 31, .inl (fun _ => 0)))] H := hP
  have hD : va_D A [(h0, .inr (7, [.ref q1, .null, .null, .null, .int 0])), (q1, .inl (cy 0, 31, .inl (fun _ => 0)))] := hD
  refine lv_aload_n hx hb dX7_init_12 rfl (lv_at hl 0 rfl) ?_
  refine lv_bipush (v := 31) hx hb dX7_init_13 (by decide) ?_
  refine k_newa (at1 := .int) (a0 := (31, .inl (fun _ => 0))) hx hb hts hK 0 rfl rfl (gw_in (List.mem_of_getElem? (i := 117) (by decide +kernel)) rfl) hP hD hS hA (fun cA => vpc_int 31 cA) (by decide +kernel) (by decide +kernel) (by decide +kernel) (Nat.le_of_ble_eq_true rfl) (Nat.le_of_ble_eq_true rfl) dX7_init_15 (fun q2 H hP hD hS => ?_)
  have hP : va_P D classes [(h0, .inr (7, [.ref q1, .null, .null, .null, .int 0])), (q1, .inl (cy 0, 31, .inl (fun _ => 0))), (q2, .inl (cy 0, 31, .inl (fun _ => 0)))] H := hP
  have hD : va_D A [(h0, .inr (7, [.ref q1, .null, .null, .null, .int 0])), (q1, .inl (cy 0, 31, .inl (fun _ => 0))), (q2, .inl (cy 0, 31, .inl (fun _ => 0)))] := hD
  refine W.widen (k := 2) (n := 62) (Nat.le_of_ble_eq_true rfl) (Nat.le_of_ble_eq_true rfl) ?_
  refine va_putF (v := .ref q2) hx hb hts in7 tyX7 tyX7_ok nmX7 hown hK.1 hP hD hS 0 rfl rfl 1 (by decide) (hts _ (gw_in (List.mem_of_getElem? (i := 299) (by decide +kernel)) rfl)) (fun x h => h) rfl hin rfl (tyX7_ok 1 (by decide)) rfl rfl (Nat.le_of_ble_eq_true rfl) dX7_init_17 (fun H locs hP hD hS => ?_)
  have hP : va_P D classes [(h0, .inr (7, [.ref q1, .ref q2, .null, .null, .int 0])), (q1, .inl (cy 0, 31, .inl (fun _ => 0))), (q2, .inl (cy 0, 31, .inl (fun _ => 0)))] H := hP
  have hD : va_D A [(h0, .inr (7, [.ref q1, .ref q2, .null, .null, .int 0])), (q1, .inl (cy 0, 31, .inl (fun _ => 0))), (q2, .inl (cy 0, 31, .inl (fun _ => 0)))] := hD
  refine lv_aload_n hx hb dX7_init_20 rfl (lv_at hl 0 rfl) ?_
  refine lv_bipush (v := 31) hx hb dX7_init_21 (by decide) ?_
  refine k_newa (at1 := .int) (a0 := (31, .inl (fun _ => 0))) hx hb hts hK 0 rfl rfl (gw_in (List.mem_of_getElem? (i := 117) (by decide +kernel)) rfl) hP hD hS hA (fun cA => vpc_int 31 cA) (by decide +kernel) (by decide +kernel) (by decide +kernel) (Nat.le_of_ble_eq_true rfl) (Nat.le_of_ble_eq_true rfl) dX7_init_23 (fun q3 H hP hD hS => ?_)
  have hP : va_P D classes [(h0, .inr (7, [.ref q1, .ref q2, .null, .null, .int 0])), (q1, .inl (cy 0, 31, .inl (fun _ => 0))), (q2, .inl (cy 0, 31, .inl (fun _ => 0))), (q3, .inl (cy 0, 31, .inl (fun _ => 0)))] H := hP
  have hD : va_D A [(h0, .inr (7, [.ref q1, .ref q2, .null, .null, .int 0])), (q1, .inl (cy 0, 31, .inl (fun _ => 0))), (q2, .inl (cy 0, 31, .inl (fun _ => 0))), (q3, .inl (cy 0, 31, .inl (fun _ => 0)))] := hD
  refine W.widen (k := 3) (n := 93) (Nat.le_of_ble_eq_true rfl) (Nat.le_of_ble_eq_true rfl) ?_
  refine va_putF (v := .ref q3) hx hb hts in7 tyX7 tyX7_ok nmX7 hown hK.1 hP hD hS 0 rfl rfl 2 (by decide) (hts _ (gw_in (List.mem_of_getElem? (i := 301) (by decide +kernel)) rfl)) (fun x h => h) rfl hin rfl (tyX7_ok 2 (by decide)) rfl rfl (Nat.le_of_ble_eq_true rfl) dX7_init_25 (fun H locs hP hD hS => ?_)
  have hP : va_P D classes [(h0, .inr (7, [.ref q1, .ref q2, .ref q3, .null, .int 0])), (q1, .inl (cy 0, 31, .inl (fun _ => 0))), (q2, .inl (cy 0, 31, .inl (fun _ => 0))), (q3, .inl (cy 0, 31, .inl (fun _ => 0)))] H := hP
  have hD : va_D A [(h0, .inr (7, [.ref q1, .ref q2, .ref q3, .null, .int 0])), (q1, .inl (cy 0, 31, .inl (fun _ => 0))), (q2, .inl (cy 0, 31, .inl (fun _ => 0))), (q3, .inl (cy 0, 31, .inl (fun _ => 0)))] := hD
  refine lv_aload_n hx hb dX7_init_28 rfl (lv_at hl 0 rfl) ?_
  refine lv_bipush (v := 31) hx hb dX7_init_29 (by decide) ?_
  refine k_newa (at1 := .int) (a0 := (31, .inl (fun _ => 0))) hx hb hts hK 0 rfl rfl (gw_in (List.mem_of_getElem? (i := 117) (by decide +kernel)) rfl) hP hD hS hA (fun cA => vpc_int 31 cA) (by decide +kernel) (by decide +kernel) (by decide +kernel) (Nat.le_of_ble_eq_true rfl) (Nat.le_of_ble_eq_true rfl) dX7_init_31 (fun q4 H hP hD hS => ?_)
  have hP : va_P D classes [(h0, .inr (7, [.ref q1, .ref q2, .ref q3, .null, .int 0])), (q1, .inl (cy 0, 31, .inl (fun _ => 0))), (q2, .inl (cy 0, 31, .inl (fun _ => 0))), (q3, .inl (cy 0, 31, .inl (fun _ => 0))), (q4, .inl (cy 0, 31, .inl (fun _ => 0)))] H := hP
  have hD : va_D A [(h0, .inr (7, [.ref q1, .ref q2, .ref q3, .null, .int 0])), (q1, .inl (cy 0, 31, .inl (fun _ => 0))), (q2, .inl (cy 0, 31, .inl (fun _ => 0))), (q3, .inl (cy 0, 31, .inl (fun _ => 0))), (q4, .inl (cy 0, 31, .inl (fun _ => 0)))] := hD
  refine W.widen (k := 4) (n := 124) (Nat.le_of_ble_eq_true rfl) (Nat.le_of_ble_eq_true rfl) ?_
  refine va_putF (v := .ref q4) hx hb hts in7 tyX7 tyX7_ok nmX7 hown hK.1 hP hD hS 0 rfl rfl 3 (by decide) (hts _ (gw_in (List.mem_of_getElem? (i := 303) (by decide +kernel)) rfl)) (fun x h => h) rfl hin rfl (tyX7_ok 3 (by decide)) rfl rfl (Nat.le_of_ble_eq_true rfl) dX7_init_33 (fun H locs hP hD hS => ?_)
  have hP : va_P D classes [(h0, .inr (7, [.ref q1, .ref q2, .ref q3, .ref q4, .int 0])), (q1, .inl (cy 0, 31, .inl (fun _ => 0))), (q2, .inl (cy 0, 31, .inl (fun _ => 0))), (q3, .inl (cy 0, 31, .inl (fun _ => 0))), (q4, .inl (cy 0, 31, .inl (fun _ => 0)))] H := hP
  have hD : va_D A [(h0, .inr (7, [.ref q1, .ref q2, .ref q3, .ref q4, .int 0])), (q1, .inl (cy 0, 31, .inl (fun _ => 0))), (q2, .inl (cy 0, 31, .inl (fun _ => 0))), (q3, .inl (cy 0, 31, .inl (fun _ => 0))), (q4, .inl (cy 0, 31, .inl (fun _ => 0)))] := hD
  refine W.widen (k := 4) (n := 124) (Nat.le_of_ble_eq_true rfl) (Nat.le_of_ble_eq_true rfl) ?_
  exact W.vret hx hb hr (fun t ht _ => ⟨⟨_, rfl, ⟨q1, q2, q3, q4, rfl⟩, show va_P D classes _ t.heap by rw [ht]; exact hP, hD⟩, hS.F ht⟩) hS.2.2 dX7_init_36 hlk
theorem mi_X1_init : MI yX1_init cX1_init 1 none 0 := ⟨gw_in (List.mem_of_getElem? (i := 321) (by decide +kernel)) rfl, gw_in (List.mem_of_getElem? (i := 75) (by decide +kernel)) rfl, by decide, by decide, by decide +kernel⟩
theorem mj_X1_init : Cond.instanceMethod yX1_init ∈ gw_tbl := gw_in (List.mem_of_getElem? (i := 320) (by decide +kernel)) rfl
theorem df_X1 : ∀ j, j < 4 → defaultValue (tyX1 j) = vp_V [.int 0, .int 0, .int 0, .null] j := by decide
def po_X1 (cy : Nat → ClassId) (h0 : Nat) (ws : va_W) : Prop := ∃ (q1 : Nat) (q2 : Nat) (q3 : Nat) (q4 : Nat) (q5 : Nat), ws = [(h0, .inr (1, [.int 0, .int 0, .int 0, .ref q1])), (q1, .inr (7, [.ref q2, .ref q3, .ref q4, .ref q5, .int 0])), (q2, .inl (cy 0, 31, .inl (fun _ => 0))), (q3, .inl (cy 0, 31, .inl (fun _ => 0))), (q4, .inl (cy 0, 31, .inl (fun _ => 0))), (q5, .inl (cy 0, 31, .inl (fun _ => 0)))]
set_option maxRecDepth 100000 in
set_option maxHeartbeats 4000000 in
theorem k_X1 {D : va_G} {cy : Nat → ClassId} {l : Launch} : KC D cy l yX1_init cX1_init 1 2 5 129 1 [.int 0, .int 0, .int 0, .null] (po_X1 cy) := by
  refine KC.mk (by decide) rfl (by decide) (fun h0 p e R s m below meth c ls args A K hP hD hS hA hl => ?_)
  obtain ⟨hx, hb, hml, hown, hts, hr, hlk, rfl, hK, hO, hin⟩ := K
  refine lv_aload_n hx hb dX1_init_0 rfl (lv_at hl 0 rfl) ?_
  refine W.objInit hx hb hown (hts _ (gw_in (List.mem_of_getElem? (i := 322) (by decide +kernel)) rfl)) (hts (.instanceMethod objectInit) (gw_in (List.mem_of_getElem? (i := 85) (by decide +kernel)) rfl)) (hts (.code objectInit ⟨#[0xb1]⟩ 1 none) (gw_in (List.mem_of_getElem? (i := 86) (by decide +kernel)) rfl)) rfl (by rw [hml]; exact hl.1) rfl dX1_init_1 (Nat.le_of_ble_eq_true rfl) (Nat.le_of_ble_eq_true rfl) ?_
  refine W.eq (g2 := F0 m 4 ls []) rfl ?_
  refine lv_aload_n hx hb dX1_init_4 rfl (lv_at hl 0 rfl) ?_
  refine va_new (ci := 7) (fs := [.null, .null, .null, .null, .int 0]) (C := RX7) (T := TX7) (N := 5) hx hb hts in7 tyX7 tyX7_ok hown (hts _ (gw_in (List.mem_of_getElem? (i := 323) (by decide +kernel)) rfl)) (hts _ (gw_in (List.mem_of_getElem? (i := 291) (by decide +kernel)) rfl)) (hts _ (gw_in (List.mem_of_getElem? (i := 74) (by decide +kernel)) rfl)) hK.1 hP hD hS hA rfl df_X7 (Nat.le_of_ble_eq_true rfl) (Nat.le_of_ble_eq_true rfl) dX1_init_5 (fun q1 H hP hD hS => ?_)
  have hP : va_P D classes [(h0, .inr (1, [.int 0, .int 0, .int 0, .null])), (q1, .inr (7, [.null, .null, .null, .null, .int 0]))] H := hP
  have hD : va_D A [(h0, .inr (1, [.int 0, .int 0, .int 0, .null])), (q1, .inr (7, [.null, .null, .null, .null, .int 0]))] := hD
  refine W.widen (k := 1) (n := 5) (Nat.le_of_ble_eq_true rfl) (Nat.le_of_ble_eq_true rfl) ?_
  refine lv_dup hx hb dX1_init_8 rfl ?_
  refine k_callN (host := RX8) hx hb hml hown hts hK hO k_X7 mi_X7_init mj_X7_init rfl (hK.2 _ (nw_in (List.mem_of_getElem? (i := 324) (by decide +kernel)) rfl)) ⟨Nat.le_of_ble_eq_true rfl, Nat.le_of_ble_eq_true rfl⟩ hl.1 (Nat.le_of_ble_eq_true rfl) dX1_init_9 ⟨Nat.le_of_ble_eq_true rfl, Nat.le_of_ble_eq_true rfl⟩ (wr := [(h0, .inr (1, [.int 0, .int 0, .int 0, .null]))]) 1 [0] hP hD hS hA rfl rfl (by decide) (by decide) (fun w1 H locs hpo hP hD hS => ?_)
  obtain ⟨q2, q3, q4, q5, rfl⟩ := hpo
  have hP : va_P D classes [(h0, .inr (1, [.int 0, .int 0, .int 0, .null])), (q1, .inr (7, [.ref q2, .ref q3, .ref q4, .ref q5, .int 0])), (q2, .inl (cy 0, 31, .inl (fun _ => 0))), (q3, .inl (cy 0, 31, .inl (fun _ => 0))), (q4, .inl (cy 0, 31, .inl (fun _ => 0))), (q5, .inl (cy 0, 31, .inl (fun _ => 0)))] H := hP
  have hD : va_D A [(h0, .inr (1, [.int 0, .int 0, .int 0, .null])), (q1, .inr (7, [.ref q2, .ref q3, .ref q4, .ref q5, .int 0])), (q2, .inl (cy 0, 31, .inl (fun _ => 0))), (q3, .inl (cy 0, 31, .inl (fun _ => 0))), (q4, .inl (cy 0, 31, .inl (fun _ => 0))), (q5, .inl (cy 0, 31, .inl (fun _ => 0)))] := hD
  refine W.widen (k := 5) (n := 129) (Nat.le_of_ble_eq_true rfl) (Nat.le_of_ble_eq_true rfl) ?_
  refine va_putF (v := .ref q1) hx hb hts in1 tyX1 tyX1_ok nmX1 hown hK.1 hP hD hS 0 rfl rfl 3 (by decide) (hts _ (gw_in (List.mem_of_getElem? (i := 328) (by decide +kernel)) rfl)) (fun x h => h) rfl hin rfl (tyX1_ok 3 (by decide)) rfl rfl (Nat.le_of_ble_eq_true rfl) dX1_init_12 (fun H locs hP hD hS => ?_)
  have hP : va_P D classes [(h0, .inr (1, [.int 0, .int 0, .int 0, .ref q1])), (q1, .inr (7, [.ref q2, .ref q3, .ref q4, .ref q5, .int 0])), (q2, .inl (cy 0, 31, .inl (fun _ => 0))), (q3, .inl (cy 0, 31, .inl (fun _ => 0))), (q4, .inl (cy 0, 31, .inl (fun _ => 0))), (q5, .inl (cy 0, 31, .inl (fun _ => 0)))] H := hP
  have hD : va_D A [(h0, .inr (1, [.int 0, .int 0, .int 0, .ref q1])), (q1, .inr (7, [.ref q2, .ref q3, .ref q4, .ref q5, .int 0])), (q2, .inl (cy 0, 31, .inl (fun _ => 0))), (q3, .inl (cy 0, 31, .inl (fun _ => 0))), (q4, .inl (cy 0, 31, .inl (fun _ => 0))), (q5, .inl (cy 0, 31, .inl (fun _ => 0)))] := hD
  refine W.widen (k := 5) (n := 129) (Nat.le_of_ble_eq_true rfl) (Nat.le_of_ble_eq_true rfl) ?_
  exact W.vret hx hb hr (fun t ht _ => ⟨⟨_, rfl, ⟨q1, q2, q3, q4, q5, rfl⟩, show va_P D classes _ t.heap by rw [ht]; exact hP, hD⟩, hS.F ht⟩) hS.2.2 dX1_init_15 hlk
