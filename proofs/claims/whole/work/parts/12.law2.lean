/-! the law from its entry, over any relation of the two memories that every call keeps -/
set_option maxHeartbeats 4000000 in
set_option maxRecDepth 100000 in
theorem law_start {Rel : Mem → Mem → Prop} (hSim : SimAll Rel) (h00 : Rel σc0 σr0) {p : Program} {e : Env} {s : State} {m : MethodId} {below : List Frame} {meth : Method} {c : Code} (l : Launch) {b L : Nat} {xs : Nat → Int32} (hL : L ≤ 2048) (C0 : lw_At p s m meth c b L xs) : W p l e room_1 s m #[Value.ref b] below meth c s.heap [] 0 0 (lw_Z below #[Value.ref b] s) (entryFrame m ([Value.ref b] : List Value).toArray 4) := by
  obtain ⟨hx, hb, hr, hml, hown, hts, hX, hbl, hlocks, hgv⟩ := id C0
  have hA : ∀ q : Nat, s.heap.size ≤ q → (fun q : Nat => s.heap.size ≤ q) q := fun _ h => h
  have hbA : ¬ (fun q : Nat => s.heap.size ≤ q) b := Nat.not_le.mpr hbl
  have hg : ∀ x ∈ gw_tbl, x.before #[Value.ref b] s = true := fun x h => hts x (List.mem_filter.mp h).1
  obtain ⟨D, cy, hK, hO⟩ := tk_start hts
  have hS : va_S (fun q : Nat => s.heap.size ≤ q) s.heap s.heap [] := va_S.rf
  have hP : va_P D classes [] s.heap := fun k q h => by simp at h
  have hD : va_D (fun q : Nat => s.heap.size ≤ q) [] := ⟨fun i j p q h => by simp at h, fun k q h => by simp at h⟩
  have hl := lv_entry ([.ref b]) (n := 4) (Nat.le_of_ble_eq_true rfl)
  rw [lg_entry_eq]
  generalize (lg_sl ([.ref b]) ++ List.replicate (4 - (lg_sl ([.ref b])).length) Slot.unset).toArray = ls at hl ⊢
  have hl : lv_has ls 4 [(0, .ref b)] := hl
  refine va_new (ci := 8) (fs := [.null, .null, .null, .null, .null, .null, .null, .null, .int 0, .int 0, .long 0]) (C := RX8) (T := TX8) (N := 11) hx hb hg in8 tyX8 tyX8_ok hown (hg _ (gw_in (List.mem_of_getElem? (i := 79) (by decide +kernel)) rfl)) (hg _ (gw_in (List.mem_of_getElem? (i := 80) (by decide +kernel)) rfl)) (hg _ (gw_in (List.mem_of_getElem? (i := 67) (by decide +kernel)) rfl)) hK.1 hP hD hS hA rfl df_X8 (Nat.le_of_ble_eq_true rfl) (Nat.le_of_ble_eq_true rfl) dL_law_0 (fun q0 H hP hD hS => ?_)
  refine W.widen (k := 1) (n := 11) (Nat.le_of_ble_eq_true rfl) (Nat.le_of_ble_eq_true rfl) ?_
  refine lv_dup hx hb dL_law_3 rfl ?_
  refine k_call (wr := []) hx hb hml hown hg hK hO k_X8 mi_X8_init mj_X8_init rfl (gw_in (List.mem_of_getElem? (i := 81) (by decide +kernel)) rfl) ⟨Nat.le_of_ble_eq_true rfl, Nat.le_of_ble_eq_true rfl⟩ hl.1 (Nat.le_of_ble_eq_true rfl) dL_law_4 ⟨Nat.le_of_ble_eq_true rfl, Nat.le_of_ble_eq_true rfl⟩ 0 [] hP hD hS hA rfl rfl rfl (fun i h => absurd h List.not_mem_nil) (fun w1 H locs hpo1 hP hD hS => ?_)
  refine W.widen (k := 66) (n := 23691) (Nat.le_of_ble_eq_true rfl) (Nat.le_of_ble_eq_true rfl) ?_
  rw [List.nil_append] at hP hD
  refine lv_astore_n (lv' := [(1, .ref q0), (0, .ref b)]) hx hb dL_law_7 rfl hl (by decide) rfl (fun ls hl => ?_)
  refine va_new (ci := 9) (fs := [.long 0, .null, .int 0, .null, .null, .null, .null, .null, .int 0, .int 0, .int 0, .int 0, .int 0, .int 0, .null, .null, .null, .null, .null, .null, .null, .null, .int 0, .null, .null, .null, .null, .null, .int 0, .int 0, .int 0, .null, .null, .null, .null, .null, .null]) (C := RX9) (T := TX9) (N := 37) hx hb hg in9 tyX9 tyX9_ok hown (hg _ (gw_in (List.mem_of_getElem? (i := 851) (by decide +kernel)) rfl)) (hg _ (gw_in (List.mem_of_getElem? (i := 852) (by decide +kernel)) rfl)) (hg _ (gw_in (List.mem_of_getElem? (i := 76) (by decide +kernel)) rfl)) hK.1 hP hD hS hA rfl df_X9 (Nat.le_of_ble_eq_true rfl) (Nat.le_of_ble_eq_true rfl) dL_law_8 (fun q1 H hP hD hS => ?_)
  refine W.widen (k := 67) (n := 23728) (Nat.le_of_ble_eq_true rfl) (Nat.le_of_ble_eq_true rfl) ?_
  refine lv_dup hx hb dL_law_11 rfl ?_
  refine k_call (wr := w1) hx hb hml hown hg hK hO k_X9 mi_X9_init mj_X9_init rfl (gw_in (List.mem_of_getElem? (i := 853) (by decide +kernel)) rfl) ⟨Nat.le_of_ble_eq_true rfl, Nat.le_of_ble_eq_true rfl⟩ hl.1 (Nat.le_of_ble_eq_true rfl) dL_law_12 ⟨Nat.le_of_ble_eq_true rfl, Nat.le_of_ble_eq_true rfl⟩ w1.length (List.range w1.length) hP hD hS hA (by simp) (range_some w1 _) (nd_range _) (fun i hi h => by have h1 := List.mem_range.mp hi; have h2 := List.mem_singleton.mp h; omega) (fun w2 H locs hpo2 hP hD hS => ?_)
  refine W.widen (k := 92) (n := 59962) (Nat.le_of_ble_eq_true rfl) (Nat.le_of_ble_eq_true rfl) ?_
  have hP1 : va_P D classes w1 H := fun k q h => hP k q (by rw [List.getElem?_append_left (List.getElem?_eq_some_iff.mp h).1]; exact h)
  have hP2 : va_P D classes w2 H := fun k q h => hP (w1.length + k) q (by rw [List.getElem?_append_right (by omega), Nat.add_sub_cancel_left]; exact h)
  have hD1 : va_D (fun q : Nat => s.heap.size ≤ q) w1 := by
    refine ⟨fun i j x y hi hj h => hD.1 i j x y (by rw [List.getElem?_append_left (List.getElem?_eq_some_iff.mp hi).1]; exact hi) (by rw [List.getElem?_append_left (List.getElem?_eq_some_iff.mp hj).1]; exact hj) h, fun k q h => hD.2 k q (by rw [List.getElem?_append_left (List.getElem?_eq_some_iff.mp h).1]; exact h)⟩
  have hD2 : va_D (fun q : Nat => s.heap.size ≤ q) w2 := by
    refine ⟨fun i j x y hi hj h => ?_, fun k q h => hD.2 (w1.length + k) q (by rw [List.getElem?_append_right (by omega), Nat.add_sub_cancel_left]; exact h)⟩
    have := hD.1 (w1.length + i) (w1.length + j) x y (by rw [List.getElem?_append_right (by omega), Nat.add_sub_cancel_left]; exact hi) (by rw [List.getElem?_append_right (by omega), Nat.add_sub_cancel_left]; exact hj) h
    omega
  have hx12 : ∀ (i j : Nat) (x y : Nat × va_E), w1[i]? = some x → w2[j]? = some y → x.1 ≠ y.1 := by
    intro i j x y hi hj h
    have hil := (List.getElem?_eq_some_iff.mp hi).1
    have := hD.1 i (w1.length + j) x y (by rw [List.getElem?_append_left hil]; exact hi) (by rw [List.getElem?_append_right (by omega), Nat.add_sub_cancel_left]; exact hj) h
    omega
  obtain ⟨adc, rfl, hjc, hac, hPc, hmc⟩ := conv_X8m hpo1 hP1 hD1
  obtain ⟨adr, rfl, hjr, har, hPr, hmr⟩ := conv_X9m hpo2 hP2 hD2
  have Xx : LX D cy adc adr p s m #[Value.ref b] c := ⟨hx, hb, hml, hown, hg, hK, hjc, hjr, hac, har, fun i j hi hj => by
    obtain ⟨e1, g1⟩ := hmc i hi
    obtain ⟨e2, g2⟩ := hmr j hj
    exact hx12 i j _ _ g1 g2⟩
  refine lv_astore_n (lv' := [(2, .ref _), (1, .ref _), (0, .ref _)]) hx hb dL_law_15 rfl hl (by decide) rfl (fun ls hl => ?_)
  refine lv_iconst (v := 0) hx hb dL_law_16 (by decide) ?_
  refine lv_istore_n (lv' := [(3, .int _), (2, .ref _), (1, .ref _), (0, .ref _)]) hx hb dL_law_17 rfl hl (by decide) rfl (fun ls hl => ?_)
  exact law_loop Xx hSim hr hlocks hX hbl hL ⟨by omega, by omega⟩ (L + 5) 0 (by omega) (by omega) σc0 σr0 H locs ls 0 rfl ⟨hPc, hPr, wt0, hS⟩ h00 (lv_sub hl [3, 2, 1, 0] rfl)
