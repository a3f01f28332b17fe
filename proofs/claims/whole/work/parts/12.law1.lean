/-! the law: what both sides owe each other, call by call; each case of the switch -/
def S_type (Rel : Mem → Mem → Prop) : Prop := ∀ (a1 : Int64) (a2 : Int32) (σc σr : Mem), Rel σc σr → ∃ (v : Int32) (σc' σr' : Mem), f_X8_type a1 a2 σc = some (v, σc') ∧ f_X9_type a1 a2 σr = some (v, σr') ∧ Rel σc' σr'
def S_clear (Rel : Mem → Mem → Prop) : Prop := ∀  (σc σr : Mem), Rel σc σr → ∃ (v : Int32) (σc' σr' : Mem), f_X8_clear σc = some (v, σc') ∧ f_X9_clear σr = some (v, σr') ∧ Rel σc' σr'
def S_law (Rel : Mem → Mem → Prop) : Prop := ∀  (σc σr : Mem), Rel σc σr → ∃ (v : Int32) (σc' σr' : Mem), f_X8_law σc = some (v, σc') ∧ f_X9_law σr = some (v, σr') ∧ Rel σc' σr'
def S_tree (Rel : Mem → Mem → Prop) : Prop := ∀  (σc σr : Mem), Rel σc σr → ∃ (v : Int32) (σc' σr' : Mem), f_X8_tree σc = some (v, σc') ∧ f_X9_tree σr = some (v, σr') ∧ Rel σc' σr'
def S_rule (Rel : Mem → Mem → Prop) : Prop := ∀ (a1 : Int32) (a2 : Int32) (σc σr : Mem), Rel σc σr → ∃ (v : Int32) (σc' σr' : Mem), (f_X8_rule a1 a2 σc = some v ∧ σc' = σc) ∧ (f_X9_rule a1 a2 σr = some v ∧ σr' = σr) ∧ Rel σc' σr'
def S_turn (Rel : Mem → Mem → Prop) : Prop := ∀ (a1 : Int32) (a2 : Int32) (σc σr : Mem), Rel σc σr → ∃ (v : Int32) (σc' σr' : Mem), f_X8_turn a1 a2 σc = some (v, σc') ∧ f_X9_turn a1 a2 σr = some (v, σr') ∧ Rel σc' σr'
def S_good (Rel : Mem → Mem → Prop) : Prop := ∀ (a1 : Int32) (a2 : Int32) (σc σr : Mem), Rel σc σr → ∃ (v : Int32) (σc' σr' : Mem), f_X8_good a1 a2 σc = some (v, σc') ∧ f_X9_good a1 a2 σr = some (v, σr') ∧ Rel σc' σr'
def S_node (Rel : Mem → Mem → Prop) : Prop := ∀ (a1 : Int32) (a2 : Int32) (σc σr : Mem), Rel σc σr → ∃ (v : Int32) (σc' σr' : Mem), f_X8_node a1 a2 σc = some (v, σc') ∧ f_X9_node a1 a2 σr = some (v, σr') ∧ Rel σc' σr'
def S_sign (Rel : Mem → Mem → Prop) : Prop := ∀ (a1 : Int32) (a2 : Int32) (σc σr : Mem), Rel σc σr → ∃ (v : Int32) (σc' σr' : Mem), f_X8_sign a1 a2 σc = some (v, σc') ∧ f_X9_sign a1 a2 σr = some (v, σr') ∧ Rel σc' σr'
def S_exchange (Rel : Mem → Mem → Prop) : Prop := ∀ (a1 : Int32) (σc σr : Mem), Rel σc σr → ∃ (v : Int32) (σc' σr' : Mem), f_X8_exchange a1 σc = some (v, σc') ∧ f_X9_exchange a1 σr = some (v, σr') ∧ Rel σc' σr'
def S_isGood (Rel : Mem → Mem → Prop) : Prop := ∀  (σc σr : Mem), Rel σc σr → ∃ (v : Int32) (σc' σr' : Mem), f_X8_isGood σc = some (v, σc') ∧ f_X9_isGood σr = some (v, σr') ∧ Rel σc' σr'
def S_runs (Rel : Mem → Mem → Prop) : Prop := ∀  (σc σr : Mem), Rel σc σr → ∃ (v : Int32) (σc' σr' : Mem), f_X8_runs σc = some (v, σc') ∧ f_X9_runs σr = some (v, σr') ∧ Rel σc' σr'
def S_places (Rel : Mem → Mem → Prop) : Prop := ∀ (a1 : Int32) (σc σr : Mem), Rel σc σr → ∃ (v : Int32) (σc' σr' : Mem), f_X8_places a1 σc = some (v, σc') ∧ f_X9_places a1 σr = some (v, σr') ∧ Rel σc' σr'
def S_mend (Rel : Mem → Mem → Prop) : Prop := ∀ (a1 : Int32) (σc σr : Mem), Rel σc σr → ∃ (v : Int32) (σc' σr' : Mem), f_X8_mend a1 σc = some (v, σc') ∧ f_X9_mend a1 σr = some (v, σr') ∧ Rel σc' σr'
def S_sets (Rel : Mem → Mem → Prop) : Prop := ∀  (σc σr : Mem), Rel σc σr → ∃ (v : Int32) (σc' σr' : Mem), f_X8_sets σc = some (v, σc') ∧ f_X9_sets σr = some (v, σr') ∧ Rel σc' σr'
def S_classes (Rel : Mem → Mem → Prop) : Prop := ∀  (σc σr : Mem), Rel σc σr → ∃ (v : Int32) (σc' σr' : Mem), f_X8_classes σc = some (v, σc') ∧ f_X9_classes σr = some (v, σr') ∧ Rel σc' σr'
def S_useful (Rel : Mem → Mem → Prop) : Prop := ∀  (σc σr : Mem), Rel σc σr → ∃ (v : Int32) (σc' σr' : Mem), (f_X8_useful σc = some v ∧ σc' = σc) ∧ f_X9_useful σr = some (v, σr') ∧ Rel σc' σr'
def S_least (Rel : Mem → Mem → Prop) : Prop := ∀ (a1 : Int32) (σc σr : Mem), Rel σc σr → ∃ (v : Int32) (σc' σr' : Mem), f_X8_least a1 σc = some (v, σc') ∧ f_X9_least a1 σr = some (v, σr') ∧ Rel σc' σr'
def S_many (Rel : Mem → Mem → Prop) : Prop := ∀ (a1 : Int32) (σc σr : Mem), Rel σc σr → ∃ (v : Int64) (σc' σr' : Mem), f_X8_many a1 σc = some (v, σc') ∧ f_X9_many a1 σr = some (v, σr') ∧ Rel σc' σr'
def S_alike (Rel : Mem → Mem → Prop) : Prop := ∀ (a1 : Int32) (σc σr : Mem), Rel σc σr → ∃ (v : Int32) (σc' σr' : Mem), f_X8_alike a1 σc = some (v, σc') ∧ f_X9_alike a1 σr = some (v, σr') ∧ Rel σc' σr'
def S_apart (Rel : Mem → Mem → Prop) : Prop := ∀ (a1 : Int32) (a2 : Int32) (σc σr : Mem), Rel σc σr → ∃ (v : Int32) (σc' σr' : Mem), f_X8_apart a1 a2 σc = some (v, σc') ∧ f_X9_apart a1 a2 σr = some (v, σr') ∧ Rel σc' σr'
def S_both (Rel : Mem → Mem → Prop) : Prop := ∀ (a1 : Int32) (a2 : Int32) (σc σr : Mem), Rel σc σr → ∃ (v : Int64) (σc' σr' : Mem), f_X8_both a1 a2 σc = some (v, σc') ∧ f_X9_both a1 a2 σr = some (v, σr') ∧ Rel σc' σr'
def S_mark (Rel : Mem → Mem → Prop) : Prop := ∀ (a1 : Int32) (a2 : Int32) (σc σr : Mem), Rel σc σr → ∃ (v : Int32) (σc' σr' : Mem), f_X8_mark a1 a2 σc = some (v, σc') ∧ f_X9_mark a1 a2 σr = some (v, σr') ∧ Rel σc' σr'
def S_keep (Rel : Mem → Mem → Prop) : Prop := ∀ (a1 : Int32) (σc σr : Mem), Rel σc σr → ∃ (v : Int32) (σc' σr' : Mem), f_X8_keep a1 σc = some (v, σc') ∧ f_X9_keep a1 σr = some (v, σr') ∧ Rel σc' σr'
def S_back (Rel : Mem → Mem → Prop) : Prop := ∀ (a1 : Int32) (σc σr : Mem), Rel σc σr → ∃ (v : Int32) (σc' σr' : Mem), f_X8_back a1 σc = some (v, σc') ∧ f_X9_back a1 σr = some (v, σr') ∧ Rel σc' σr'
def S_count (Rel : Mem → Mem → Prop) : Prop := ∀ (a1 : Int32) (σc σr : Mem), Rel σc σr → ∃ (v : Int32) (σc' σr' : Mem), (f_X8_count a1 σc = v ∧ σc' = σc) ∧ (f_X9_count a1 σr = some v ∧ σr' = σr) ∧ Rel σc' σr'
def S_trace (Rel : Mem → Mem → Prop) : Prop := ∀  (σc σr : Mem), Rel σc σr → ∃ (v : Int64) (σc' σr' : Mem), (f_X8_trace σc = v ∧ σc' = σc) ∧ (f_X9_trace σr = v ∧ σr' = σr) ∧ Rel σc' σr'
def SimAll (Rel : Mem → Mem → Prop) : Prop := S_type Rel ∧ S_clear Rel ∧ S_law Rel ∧ S_tree Rel ∧ S_rule Rel ∧ S_turn Rel ∧ S_good Rel ∧ S_node Rel ∧ S_sign Rel ∧ S_exchange Rel ∧ S_isGood Rel ∧ S_runs Rel ∧ S_places Rel ∧ S_mend Rel ∧ S_sets Rel ∧ S_classes Rel ∧ S_useful Rel ∧ S_least Rel ∧ S_many Rel ∧ S_alike Rel ∧ S_apart Rel ∧ S_both Rel ∧ S_mark Rel ∧ S_keep Rel ∧ S_back Rel ∧ S_count Rel ∧ S_trace Rel
theorem lg_cmp_self (v : Int64) : lg_cmp v v = 0 := by simp [lg_cmp]
section LK
variable {Rel : Mem → Mem → Prop} {D : va_G} {cy : Nat → ClassId} {adc adr : Nat → Nat} {p : Program} {l : Launch} {e : Env} {s : State} {m : MethodId} {args : Array Value} {below : List Frame} {meth : Method} {c : Code} {H : Heap} {locs : List Loc} {cells slots : Nat} {Q : State → Prop} {σc σr : Mem} {ls : Array Slot} {b L : Nat} {xs : Nat → Int32} {x3 : Int32}
theorem lk_case_0 (X : LX D cy adc adr p s m args c) (hS : S_type Rel) (hRel : Rel σc σr) (hX : va_X b L xs s s.heap) (hbl : b < s.heap.size) (hi1 : vp_in (x3 + 1) L) (hi2 : vp_in (x3 + 2) L) (hi3 : vp_in (x3 + 3) L) (hcs : cells ≤ 600000 ∧ slots ≤ 7302250) (hW : LW D cy adc adr s σc σr H locs) (hl : lv_has ls 4 [(0, .ref b), (1, .ref (adc 0)), (2, .ref (adr 0)), (3, .int x3)])
    (hk : ∀ (σc σr : Mem) (H : Heap) (locs : List Loc) (ls : Array Slot), LW D cy adc adr s σc σr H locs → Rel σc σr → lv_has ls 4 [(0, .ref b), (1, .ref (adc 0)), (2, .ref (adr 0)), (3, .int x3)] → W p l e room_1 s m args below meth c H locs cells slots Q (F0 m 810 ls [])) : W p l e room_1 s m args below meth c H locs cells slots Q (F0 m 156 ls []) := by
  obtain ⟨v, σc', σr', e1, e2, hrel⟩ := hS ((((xs (x3 + (1 : Int32)).toNatClampNeg).toInt64 <<< ((32 : Int32).toInt64 &&& 63)) ||| ((xs (x3 + (2 : Int32)).toNatClampNeg).toInt64 &&& (4294967295 : Int64)))) (xs (x3 + (3 : Int32)).toNatClampNeg) σc σr hRel
  refine lv_aload_n X.1 X.2.1 dL_law_156 rfl (lv_at hl 1 rfl) ?_
  refine lv_aload_n X.1 X.2.1 dL_law_157 rfl (lv_at hl 0 rfl) ?_
  refine lv_iload_n X.1 X.2.1 dL_law_158 rfl (lv_at hl 3 rfl) ?_
  refine lv_iconst (v := (1 : Int32)) X.1 X.2.1 dL_law_159 (by decide) ?_
  refine lv_iadd X.1 X.2.1 dL_law_160 ?_
  refine va_sld X.1 X.2.1 hX hbl (Nat.not_le.mpr hbl) hW.2.2.2 hi1 dL_law_161 ?_
  refine lv_i2l X.1 X.2.1 dL_law_162 rfl ?_
  refine lv_bipush (v := (32 : Int32)) X.1 X.2.1 dL_law_163 (by decide) ?_
  refine lv_lshl X.1 X.2.1 dL_law_165 rfl ?_
  refine lv_aload_n X.1 X.2.1 dL_law_166 rfl (lv_at hl 0 rfl) ?_
  refine lv_iload_n X.1 X.2.1 dL_law_167 rfl (lv_at hl 3 rfl) ?_
  refine lv_iconst (v := (2 : Int32)) X.1 X.2.1 dL_law_168 (by decide) ?_
  refine lv_iadd X.1 X.2.1 dL_law_169 ?_
  refine va_sld X.1 X.2.1 hX hbl (Nat.not_le.mpr hbl) hW.2.2.2 hi2 dL_law_170 ?_
  refine lv_i2l X.1 X.2.1 dL_law_171 rfl ?_
  refine lv_ldc2 (v := (4294967295 : Int64)) X.1 X.2.1 X.2.2.2.1 (X.2.2.2.2.1 _ kl_L_13) dL_law_172 ?_
  refine lv_land X.1 X.2.1 dL_law_175 ?_
  refine lv_lor X.1 X.2.1 dL_law_176 ?_
  refine lv_aload_n X.1 X.2.1 dL_law_177 rfl (lv_at hl 0 rfl) ?_
  refine lv_iload_n X.1 X.2.1 dL_law_178 rfl (lv_at hl 3 rfl) ?_
  refine lv_iconst (v := (3 : Int32)) X.1 X.2.1 dL_law_179 (by decide) ?_
  refine lv_iadd X.1 X.2.1 dL_law_180 ?_
  refine va_sld X.1 X.2.1 hX hbl (Nat.not_le.mpr hbl) hW.2.2.2 hi3 dL_law_181 ?_
  have hM : CI 1 D cy adc l yX8_type cX8_type 5 (some .int) 1 [.ref (adc 0), .long ((((xs (x3 + (1 : Int32)).toNatClampNeg).toInt64 <<< ((32 : Int32).toInt64 &&& 63)) ||| ((xs (x3 + (2 : Int32)).toNatClampNeg).toInt64 &&& (4294967295 : Int64)))), .int (xs (x3 + (3 : Int32)).toNatClampNeg)] σc v σc' := c_X8_type X.2.2.2.2.2.2.1 ((((xs (x3 + (1 : Int32)).toNatClampNeg).toInt64 <<< ((32 : Int32).toInt64 &&& 63)) ||| ((xs (x3 + (2 : Int32)).toNatClampNeg).toInt64 &&& (4294967295 : Int64)))) (xs (x3 + (3 : Int32)).toNatClampNeg) σc (v, σc') e1
  refine lc_I (As := [.long _, .int _]) X hW hM mi_X8_type mv_X8_type rfl lk_L_15 (by decide) (by decide) rfl hl.1 rfl (Nat.le_of_ble_eq_true rfl) dL_law_182 hcs (fun H locs hW => ?_)
  refine lv_aload_n X.1 X.2.1 dL_law_185 rfl (lv_at hl 2 rfl) ?_
  refine lv_aload_n X.1 X.2.1 dL_law_186 rfl (lv_at hl 0 rfl) ?_
  refine lv_iload_n X.1 X.2.1 dL_law_187 rfl (lv_at hl 3 rfl) ?_
  refine lv_iconst (v := (1 : Int32)) X.1 X.2.1 dL_law_188 (by decide) ?_
  refine lv_iadd X.1 X.2.1 dL_law_189 ?_
  refine va_sld X.1 X.2.1 hX hbl (Nat.not_le.mpr hbl) hW.2.2.2 hi1 dL_law_190 ?_
  refine lv_i2l X.1 X.2.1 dL_law_191 rfl ?_
  refine lv_bipush (v := (32 : Int32)) X.1 X.2.1 dL_law_192 (by decide) ?_
  refine lv_lshl X.1 X.2.1 dL_law_194 rfl ?_
  refine lv_aload_n X.1 X.2.1 dL_law_195 rfl (lv_at hl 0 rfl) ?_
  refine lv_iload_n X.1 X.2.1 dL_law_196 rfl (lv_at hl 3 rfl) ?_
  refine lv_iconst (v := (2 : Int32)) X.1 X.2.1 dL_law_197 (by decide) ?_
  refine lv_iadd X.1 X.2.1 dL_law_198 ?_
  refine va_sld X.1 X.2.1 hX hbl (Nat.not_le.mpr hbl) hW.2.2.2 hi2 dL_law_199 ?_
  refine lv_i2l X.1 X.2.1 dL_law_200 rfl ?_
  refine lv_ldc2 (v := (4294967295 : Int64)) X.1 X.2.1 X.2.2.2.1 (X.2.2.2.2.1 _ kl_L_13) dL_law_201 ?_
  refine lv_land X.1 X.2.1 dL_law_204 ?_
  refine lv_lor X.1 X.2.1 dL_law_205 ?_
  refine lv_aload_n X.1 X.2.1 dL_law_206 rfl (lv_at hl 0 rfl) ?_
  refine lv_iload_n X.1 X.2.1 dL_law_207 rfl (lv_at hl 3 rfl) ?_
  refine lv_iconst (v := (3 : Int32)) X.1 X.2.1 dL_law_208 (by decide) ?_
  refine lv_iadd X.1 X.2.1 dL_law_209 ?_
  refine va_sld X.1 X.2.1 hX hbl (Nat.not_le.mpr hbl) hW.2.2.2 hi3 dL_law_210 ?_
  have hM : CI 0 D cy adr l yX9_type cX9_type 5 (some .int) 1 [.ref (adr 0), .long ((((xs (x3 + (1 : Int32)).toNatClampNeg).toInt64 <<< ((32 : Int32).toInt64 &&& 63)) ||| ((xs (x3 + (2 : Int32)).toNatClampNeg).toInt64 &&& (4294967295 : Int64)))), .int (xs (x3 + (3 : Int32)).toNatClampNeg)] σr v σr' := c_X9_type X.2.2.2.2.2.2.2.1 ((((xs (x3 + (1 : Int32)).toNatClampNeg).toInt64 <<< ((32 : Int32).toInt64 &&& 63)) ||| ((xs (x3 + (2 : Int32)).toNatClampNeg).toInt64 &&& (4294967295 : Int64)))) (xs (x3 + (3 : Int32)).toNatClampNeg) σr (v, σr') e2
  refine lr_I (As := [.long _, .int _]) X hW hM mi_X9_type mv_X9_type rfl lk_L_19 (by decide) (by decide) rfl hl.1 rfl (Nat.le_of_ble_eq_true rfl) dL_law_211 hcs (fun H locs hW => ?_)
  refine lv_icmp_eq (tgt := 810) X.1 X.2.1 dL_law_214 (by decide) (fun _ => ?_) (fun cd => absurd rfl cd)
  exact hk σc' σr' _ _ _ hW hrel hl
theorem lk_case_1 (X : LX D cy adc adr p s m args c) (hS : S_clear Rel) (hRel : Rel σc σr) (hX : va_X b L xs s s.heap) (hbl : b < s.heap.size) (hi1 : vp_in (x3 + 1) L) (hi2 : vp_in (x3 + 2) L) (hi3 : vp_in (x3 + 3) L) (hcs : cells ≤ 600000 ∧ slots ≤ 7302250) (hW : LW D cy adc adr s σc σr H locs) (hl : lv_has ls 4 [(0, .ref b), (1, .ref (adc 0)), (2, .ref (adr 0)), (3, .int x3)])
    (hk : ∀ (σc σr : Mem) (H : Heap) (locs : List Loc) (ls : Array Slot), LW D cy adc adr s σc σr H locs → Rel σc σr → lv_has ls 4 [(0, .ref b), (1, .ref (adc 0)), (2, .ref (adr 0)), (3, .int x3)] → W p l e room_1 s m args below meth c H locs cells slots Q (F0 m 810 ls [])) : W p l e room_1 s m args below meth c H locs cells slots Q (F0 m 219 ls []) := by
  obtain ⟨v, σc', σr', e1, e2, hrel⟩ := hS  σc σr hRel
  refine lv_aload_n X.1 X.2.1 dL_law_219 rfl (lv_at hl 1 rfl) ?_
  have hM : CI 1 D cy adc l yX8_clear cX8_clear 2 (some .int) 0 [.ref (adc 0)] σc v σc' := c_X8_clear X.2.2.2.2.2.2.1  σc (v, σc') e1
  refine lc_I (As := []) X hW hM mi_X8_clear mv_X8_clear rfl lk_L_20 (by decide) (by decide) rfl hl.1 rfl (Nat.le_of_ble_eq_true rfl) dL_law_220 hcs (fun H locs hW => ?_)
  refine lv_aload_n X.1 X.2.1 dL_law_223 rfl (lv_at hl 2 rfl) ?_
  have hM : CI 0 D cy adr l yX9_clear cX9_clear 2 (some .int) 0 [.ref (adr 0)] σr v σr' := c_X9_clear X.2.2.2.2.2.2.2.1  σr (v, σr') e2
  refine lr_I (As := []) X hW hM mi_X9_clear mv_X9_clear rfl lk_L_24 (by decide) (by decide) rfl hl.1 rfl (Nat.le_of_ble_eq_true rfl) dL_law_224 hcs (fun H locs hW => ?_)
  refine lv_icmp_eq (tgt := 810) X.1 X.2.1 dL_law_227 (by decide) (fun _ => ?_) (fun cd => absurd rfl cd)
  exact hk σc' σr' _ _ _ hW hrel hl
theorem lk_case_2 (X : LX D cy adc adr p s m args c) (hS : S_law Rel) (hRel : Rel σc σr) (hX : va_X b L xs s s.heap) (hbl : b < s.heap.size) (hi1 : vp_in (x3 + 1) L) (hi2 : vp_in (x3 + 2) L) (hi3 : vp_in (x3 + 3) L) (hcs : cells ≤ 600000 ∧ slots ≤ 7302250) (hW : LW D cy adc adr s σc σr H locs) (hl : lv_has ls 4 [(0, .ref b), (1, .ref (adc 0)), (2, .ref (adr 0)), (3, .int x3)])
    (hk : ∀ (σc σr : Mem) (H : Heap) (locs : List Loc) (ls : Array Slot), LW D cy adc adr s σc σr H locs → Rel σc σr → lv_has ls 4 [(0, .ref b), (1, .ref (adc 0)), (2, .ref (adr 0)), (3, .int x3)] → W p l e room_1 s m args below meth c H locs cells slots Q (F0 m 810 ls [])) : W p l e room_1 s m args below meth c H locs cells slots Q (F0 m 232 ls []) := by
  obtain ⟨v, σc', σr', e1, e2, hrel⟩ := hS  σc σr hRel
  refine lv_aload_n X.1 X.2.1 dL_law_232 rfl (lv_at hl 1 rfl) ?_
  have hM : CI 1 D cy adc l yX8_law cX8_law 4 (some .int) 7 [.ref (adc 0)] σc v σc' := c_X8_law X.2.2.2.2.2.2.1  σc (v, σc') e1
  refine lc_I (As := []) X hW hM mi_X8_law mv_X8_law rfl lk_L_25 (by decide) (by decide) rfl hl.1 rfl (Nat.le_of_ble_eq_true rfl) dL_law_233 hcs (fun H locs hW => ?_)
  refine lv_aload_n X.1 X.2.1 dL_law_236 rfl (lv_at hl 2 rfl) ?_
  have hM : CI 0 D cy adr l yX9_law cX9_law 3 (some .int) 5 [.ref (adr 0)] σr v σr' := c_X9_law X.2.2.2.2.2.2.2.1  σr (v, σr') e2
  refine lr_I (As := []) X hW hM mi_X9_law mv_X9_law rfl lk_L_28 (by decide) (by decide) rfl hl.1 rfl (Nat.le_of_ble_eq_true rfl) dL_law_237 hcs (fun H locs hW => ?_)
  refine lv_icmp_eq (tgt := 810) X.1 X.2.1 dL_law_240 (by decide) (fun _ => ?_) (fun cd => absurd rfl cd)
  exact hk σc' σr' _ _ _ hW hrel hl
theorem lk_case_3 (X : LX D cy adc adr p s m args c) (hS : S_tree Rel) (hRel : Rel σc σr) (hX : va_X b L xs s s.heap) (hbl : b < s.heap.size) (hi1 : vp_in (x3 + 1) L) (hi2 : vp_in (x3 + 2) L) (hi3 : vp_in (x3 + 3) L) (hcs : cells ≤ 600000 ∧ slots ≤ 7302250) (hW : LW D cy adc adr s σc σr H locs) (hl : lv_has ls 4 [(0, .ref b), (1, .ref (adc 0)), (2, .ref (adr 0)), (3, .int x3)])
    (hk : ∀ (σc σr : Mem) (H : Heap) (locs : List Loc) (ls : Array Slot), LW D cy adc adr s σc σr H locs → Rel σc σr → lv_has ls 4 [(0, .ref b), (1, .ref (adc 0)), (2, .ref (adr 0)), (3, .int x3)] → W p l e room_1 s m args below meth c H locs cells slots Q (F0 m 810 ls [])) : W p l e room_1 s m args below meth c H locs cells slots Q (F0 m 245 ls []) := by
  obtain ⟨v, σc', σr', e1, e2, hrel⟩ := hS  σc σr hRel
  refine lv_aload_n X.1 X.2.1 dL_law_245 rfl (lv_at hl 1 rfl) ?_
  have hM : CI 1 D cy adc l yX8_tree cX8_tree 3 (some .int) 3 [.ref (adc 0)] σc v σc' := c_X8_tree X.2.2.2.2.2.2.1  σc (v, σc') e1
  refine lc_I (As := []) X hW hM mi_X8_tree mv_X8_tree rfl lk_L_29 (by decide) (by decide) rfl hl.1 rfl (Nat.le_of_ble_eq_true rfl) dL_law_246 hcs (fun H locs hW => ?_)
  refine lv_aload_n X.1 X.2.1 dL_law_249 rfl (lv_at hl 2 rfl) ?_
  have hM : CI 0 D cy adr l yX9_tree cX9_tree 5 (some .int) 1 [.ref (adr 0)] σr v σr' := c_X9_tree X.2.2.2.2.2.2.2.1  σr (v, σr') e2
  refine lr_I (As := []) X hW hM mi_X9_tree mv_X9_tree rfl lk_L_32 (by decide) (by decide) rfl hl.1 rfl (Nat.le_of_ble_eq_true rfl) dL_law_250 hcs (fun H locs hW => ?_)
  refine lv_icmp_eq (tgt := 810) X.1 X.2.1 dL_law_253 (by decide) (fun _ => ?_) (fun cd => absurd rfl cd)
  exact hk σc' σr' _ _ _ hW hrel hl
theorem lk_case_4 (X : LX D cy adc adr p s m args c) (hS : S_rule Rel) (hRel : Rel σc σr) (hX : va_X b L xs s s.heap) (hbl : b < s.heap.size) (hi1 : vp_in (x3 + 1) L) (hi2 : vp_in (x3 + 2) L) (hi3 : vp_in (x3 + 3) L) (hcs : cells ≤ 600000 ∧ slots ≤ 7302250) (hW : LW D cy adc adr s σc σr H locs) (hl : lv_has ls 4 [(0, .ref b), (1, .ref (adc 0)), (2, .ref (adr 0)), (3, .int x3)])
    (hk : ∀ (σc σr : Mem) (H : Heap) (locs : List Loc) (ls : Array Slot), LW D cy adc adr s σc σr H locs → Rel σc σr → lv_has ls 4 [(0, .ref b), (1, .ref (adc 0)), (2, .ref (adr 0)), (3, .int x3)] → W p l e room_1 s m args below meth c H locs cells slots Q (F0 m 810 ls [])) : W p l e room_1 s m args below meth c H locs cells slots Q (F0 m 258 ls []) := by
  obtain ⟨v, σc', σr', e1, e2, hrel⟩ := hS (xs (x3 + (1 : Int32)).toNatClampNeg) (xs (x3 + (2 : Int32)).toNatClampNeg) σc σr hRel
  refine lv_aload_n X.1 X.2.1 dL_law_258 rfl (lv_at hl 1 rfl) ?_
  refine lv_aload_n X.1 X.2.1 dL_law_259 rfl (lv_at hl 0 rfl) ?_
  refine lv_iload_n X.1 X.2.1 dL_law_260 rfl (lv_at hl 3 rfl) ?_
  refine lv_iconst (v := (1 : Int32)) X.1 X.2.1 dL_law_261 (by decide) ?_
  refine lv_iadd X.1 X.2.1 dL_law_262 ?_
  refine va_sld X.1 X.2.1 hX hbl (Nat.not_le.mpr hbl) hW.2.2.2 hi1 dL_law_263 ?_
  refine lv_aload_n X.1 X.2.1 dL_law_264 rfl (lv_at hl 0 rfl) ?_
  refine lv_iload_n X.1 X.2.1 dL_law_265 rfl (lv_at hl 3 rfl) ?_
  refine lv_iconst (v := (2 : Int32)) X.1 X.2.1 dL_law_266 (by decide) ?_
  refine lv_iadd X.1 X.2.1 dL_law_267 ?_
  refine va_sld X.1 X.2.1 hX hbl (Nat.not_le.mpr hbl) hW.2.2.2 hi2 dL_law_268 ?_
  have hM : CI 1 D cy adc l yX8_rule cX8_rule 3 (some .int) 1 [.ref (adc 0), .int (xs (x3 + (1 : Int32)).toNatClampNeg), .int (xs (x3 + (2 : Int32)).toNatClampNeg)] σc v σc' := by obtain ⟨e1, e2⟩ := e1; rw [e2]; exact c_X8_rule X.2.2.2.2.2.2.1 (xs (x3 + (1 : Int32)).toNatClampNeg) (xs (x3 + (2 : Int32)).toNatClampNeg) σc v e1
  refine lc_I (As := [.int _, .int _]) X hW hM mi_X8_rule mv_X8_rule rfl lk_L_33 (by decide) (by decide) rfl hl.1 rfl (Nat.le_of_ble_eq_true rfl) dL_law_269 hcs (fun H locs hW => ?_)
  refine lv_aload_n X.1 X.2.1 dL_law_272 rfl (lv_at hl 2 rfl) ?_
  refine lv_aload_n X.1 X.2.1 dL_law_273 rfl (lv_at hl 0 rfl) ?_
  refine lv_iload_n X.1 X.2.1 dL_law_274 rfl (lv_at hl 3 rfl) ?_
  refine lv_iconst (v := (1 : Int32)) X.1 X.2.1 dL_law_275 (by decide) ?_
  refine lv_iadd X.1 X.2.1 dL_law_276 ?_
  refine va_sld X.1 X.2.1 hX hbl (Nat.not_le.mpr hbl) hW.2.2.2 hi1 dL_law_277 ?_
  refine lv_aload_n X.1 X.2.1 dL_law_278 rfl (lv_at hl 0 rfl) ?_
  refine lv_iload_n X.1 X.2.1 dL_law_279 rfl (lv_at hl 3 rfl) ?_
  refine lv_iconst (v := (2 : Int32)) X.1 X.2.1 dL_law_280 (by decide) ?_
  refine lv_iadd X.1 X.2.1 dL_law_281 ?_
  refine va_sld X.1 X.2.1 hX hbl (Nat.not_le.mpr hbl) hW.2.2.2 hi2 dL_law_282 ?_
  have hM : CI 0 D cy adr l yX9_rule cX9_rule 3 (some .int) 2 [.ref (adr 0), .int (xs (x3 + (1 : Int32)).toNatClampNeg), .int (xs (x3 + (2 : Int32)).toNatClampNeg)] σr v σr' := by obtain ⟨e1, e2⟩ := e2; rw [e2]; exact c_X9_rule X.2.2.2.2.2.2.2.1 (xs (x3 + (1 : Int32)).toNatClampNeg) (xs (x3 + (2 : Int32)).toNatClampNeg) σr v e1
  refine lr_I (As := [.int _, .int _]) X hW hM mi_X9_rule mv_X9_rule rfl lk_L_37 (by decide) (by decide) rfl hl.1 rfl (Nat.le_of_ble_eq_true rfl) dL_law_283 hcs (fun H locs hW => ?_)
  refine lv_icmp_eq (tgt := 810) X.1 X.2.1 dL_law_286 (by decide) (fun _ => ?_) (fun cd => absurd rfl cd)
  exact hk σc' σr' _ _ _ hW hrel hl
theorem lk_case_5 (X : LX D cy adc adr p s m args c) (hS : S_turn Rel) (hRel : Rel σc σr) (hX : va_X b L xs s s.heap) (hbl : b < s.heap.size) (hi1 : vp_in (x3 + 1) L) (hi2 : vp_in (x3 + 2) L) (hi3 : vp_in (x3 + 3) L) (hcs : cells ≤ 600000 ∧ slots ≤ 7302250) (hW : LW D cy adc adr s σc σr H locs) (hl : lv_has ls 4 [(0, .ref b), (1, .ref (adc 0)), (2, .ref (adr 0)), (3, .int x3)])
    (hk : ∀ (σc σr : Mem) (H : Heap) (locs : List Loc) (ls : Array Slot), LW D cy adc adr s σc σr H locs → Rel σc σr → lv_has ls 4 [(0, .ref b), (1, .ref (adc 0)), (2, .ref (adr 0)), (3, .int x3)] → W p l e room_1 s m args below meth c H locs cells slots Q (F0 m 810 ls [])) : W p l e room_1 s m args below meth c H locs cells slots Q (F0 m 291 ls []) := by
  obtain ⟨v, σc', σr', e1, e2, hrel⟩ := hS (xs (x3 + (1 : Int32)).toNatClampNeg) (xs (x3 + (2 : Int32)).toNatClampNeg) σc σr hRel
  refine lv_aload_n X.1 X.2.1 dL_law_291 rfl (lv_at hl 1 rfl) ?_
  refine lv_aload_n X.1 X.2.1 dL_law_292 rfl (lv_at hl 0 rfl) ?_
  refine lv_iload_n X.1 X.2.1 dL_law_293 rfl (lv_at hl 3 rfl) ?_
  refine lv_iconst (v := (1 : Int32)) X.1 X.2.1 dL_law_294 (by decide) ?_
  refine lv_iadd X.1 X.2.1 dL_law_295 ?_
  refine va_sld X.1 X.2.1 hX hbl (Nat.not_le.mpr hbl) hW.2.2.2 hi1 dL_law_296 ?_
  refine lv_aload_n X.1 X.2.1 dL_law_297 rfl (lv_at hl 0 rfl) ?_
  refine lv_iload_n X.1 X.2.1 dL_law_298 rfl (lv_at hl 3 rfl) ?_
  refine lv_iconst (v := (2 : Int32)) X.1 X.2.1 dL_law_299 (by decide) ?_
  refine lv_iadd X.1 X.2.1 dL_law_300 ?_
  refine va_sld X.1 X.2.1 hX hbl (Nat.not_le.mpr hbl) hW.2.2.2 hi2 dL_law_301 ?_
  have hM : CI 1 D cy adc l yX8_turn cX8_turn 4 (some .int) 1 [.ref (adc 0), .int (xs (x3 + (1 : Int32)).toNatClampNeg), .int (xs (x3 + (2 : Int32)).toNatClampNeg)] σc v σc' := c_X8_turn X.2.2.2.2.2.2.1 (xs (x3 + (1 : Int32)).toNatClampNeg) (xs (x3 + (2 : Int32)).toNatClampNeg) σc (v, σc') e1
  refine lc_I (As := [.int _, .int _]) X hW hM mi_X8_turn mv_X8_turn rfl lk_L_38 (by decide) (by decide) rfl hl.1 rfl (Nat.le_of_ble_eq_true rfl) dL_law_302 hcs (fun H locs hW => ?_)
  refine lv_aload_n X.1 X.2.1 dL_law_305 rfl (lv_at hl 2 rfl) ?_
  refine lv_aload_n X.1 X.2.1 dL_law_306 rfl (lv_at hl 0 rfl) ?_
  refine lv_iload_n X.1 X.2.1 dL_law_307 rfl (lv_at hl 3 rfl) ?_
  refine lv_iconst (v := (1 : Int32)) X.1 X.2.1 dL_law_308 (by decide) ?_
  refine lv_iadd X.1 X.2.1 dL_law_309 ?_
  refine va_sld X.1 X.2.1 hX hbl (Nat.not_le.mpr hbl) hW.2.2.2 hi1 dL_law_310 ?_
  refine lv_aload_n X.1 X.2.1 dL_law_311 rfl (lv_at hl 0 rfl) ?_
  refine lv_iload_n X.1 X.2.1 dL_law_312 rfl (lv_at hl 3 rfl) ?_
  refine lv_iconst (v := (2 : Int32)) X.1 X.2.1 dL_law_313 (by decide) ?_
  refine lv_iadd X.1 X.2.1 dL_law_314 ?_
  refine va_sld X.1 X.2.1 hX hbl (Nat.not_le.mpr hbl) hW.2.2.2 hi2 dL_law_315 ?_
  have hM : CI 0 D cy adr l yX9_turn cX9_turn 4 (some .int) 2 [.ref (adr 0), .int (xs (x3 + (1 : Int32)).toNatClampNeg), .int (xs (x3 + (2 : Int32)).toNatClampNeg)] σr v σr' := c_X9_turn X.2.2.2.2.2.2.2.1 (xs (x3 + (1 : Int32)).toNatClampNeg) (xs (x3 + (2 : Int32)).toNatClampNeg) σr (v, σr') e2
  refine lr_I (As := [.int _, .int _]) X hW hM mi_X9_turn mv_X9_turn rfl lk_L_41 (by decide) (by decide) rfl hl.1 rfl (Nat.le_of_ble_eq_true rfl) dL_law_316 hcs (fun H locs hW => ?_)
  refine lv_icmp_eq (tgt := 810) X.1 X.2.1 dL_law_319 (by decide) (fun _ => ?_) (fun cd => absurd rfl cd)
  exact hk σc' σr' _ _ _ hW hrel hl
theorem lk_case_6 (X : LX D cy adc adr p s m args c) (hS : S_good Rel) (hRel : Rel σc σr) (hX : va_X b L xs s s.heap) (hbl : b < s.heap.size) (hi1 : vp_in (x3 + 1) L) (hi2 : vp_in (x3 + 2) L) (hi3 : vp_in (x3 + 3) L) (hcs : cells ≤ 600000 ∧ slots ≤ 7302250) (hW : LW D cy adc adr s σc σr H locs) (hl : lv_has ls 4 [(0, .ref b), (1, .ref (adc 0)), (2, .ref (adr 0)), (3, .int x3)])
    (hk : ∀ (σc σr : Mem) (H : Heap) (locs : List Loc) (ls : Array Slot), LW D cy adc adr s σc σr H locs → Rel σc σr → lv_has ls 4 [(0, .ref b), (1, .ref (adc 0)), (2, .ref (adr 0)), (3, .int x3)] → W p l e room_1 s m args below meth c H locs cells slots Q (F0 m 810 ls [])) : W p l e room_1 s m args below meth c H locs cells slots Q (F0 m 324 ls []) := by
  obtain ⟨v, σc', σr', e1, e2, hrel⟩ := hS (xs (x3 + (1 : Int32)).toNatClampNeg) (xs (x3 + (2 : Int32)).toNatClampNeg) σc σr hRel
  refine lv_aload_n X.1 X.2.1 dL_law_324 rfl (lv_at hl 1 rfl) ?_
  refine lv_aload_n X.1 X.2.1 dL_law_325 rfl (lv_at hl 0 rfl) ?_
  refine lv_iload_n X.1 X.2.1 dL_law_326 rfl (lv_at hl 3 rfl) ?_
  refine lv_iconst (v := (1 : Int32)) X.1 X.2.1 dL_law_327 (by decide) ?_
  refine lv_iadd X.1 X.2.1 dL_law_328 ?_
  refine va_sld X.1 X.2.1 hX hbl (Nat.not_le.mpr hbl) hW.2.2.2 hi1 dL_law_329 ?_
  refine lv_aload_n X.1 X.2.1 dL_law_330 rfl (lv_at hl 0 rfl) ?_
  refine lv_iload_n X.1 X.2.1 dL_law_331 rfl (lv_at hl 3 rfl) ?_
  refine lv_iconst (v := (2 : Int32)) X.1 X.2.1 dL_law_332 (by decide) ?_
  refine lv_iadd X.1 X.2.1 dL_law_333 ?_
  refine va_sld X.1 X.2.1 hX hbl (Nat.not_le.mpr hbl) hW.2.2.2 hi2 dL_law_334 ?_
  have hM : CI 1 D cy adc l yX8_good cX8_good 4 (some .int) 1 [.ref (adc 0), .int (xs (x3 + (1 : Int32)).toNatClampNeg), .int (xs (x3 + (2 : Int32)).toNatClampNeg)] σc v σc' := c_X8_good X.2.2.2.2.2.2.1 (xs (x3 + (1 : Int32)).toNatClampNeg) (xs (x3 + (2 : Int32)).toNatClampNeg) σc (v, σc') e1
  refine lc_I (As := [.int _, .int _]) X hW hM mi_X8_good mv_X8_good rfl lk_L_42 (by decide) (by decide) rfl hl.1 rfl (Nat.le_of_ble_eq_true rfl) dL_law_335 hcs (fun H locs hW => ?_)
  refine lv_aload_n X.1 X.2.1 dL_law_338 rfl (lv_at hl 2 rfl) ?_
  refine lv_aload_n X.1 X.2.1 dL_law_339 rfl (lv_at hl 0 rfl) ?_
  refine lv_iload_n X.1 X.2.1 dL_law_340 rfl (lv_at hl 3 rfl) ?_
  refine lv_iconst (v := (1 : Int32)) X.1 X.2.1 dL_law_341 (by decide) ?_
  refine lv_iadd X.1 X.2.1 dL_law_342 ?_
  refine va_sld X.1 X.2.1 hX hbl (Nat.not_le.mpr hbl) hW.2.2.2 hi1 dL_law_343 ?_
  refine lv_aload_n X.1 X.2.1 dL_law_344 rfl (lv_at hl 0 rfl) ?_
  refine lv_iload_n X.1 X.2.1 dL_law_345 rfl (lv_at hl 3 rfl) ?_
  refine lv_iconst (v := (2 : Int32)) X.1 X.2.1 dL_law_346 (by decide) ?_
  refine lv_iadd X.1 X.2.1 dL_law_347 ?_
  refine va_sld X.1 X.2.1 hX hbl (Nat.not_le.mpr hbl) hW.2.2.2 hi2 dL_law_348 ?_
  have hM : CI 0 D cy adr l yX9_good cX9_good 4 (some .int) 1 [.ref (adr 0), .int (xs (x3 + (1 : Int32)).toNatClampNeg), .int (xs (x3 + (2 : Int32)).toNatClampNeg)] σr v σr' := c_X9_good X.2.2.2.2.2.2.2.1 (xs (x3 + (1 : Int32)).toNatClampNeg) (xs (x3 + (2 : Int32)).toNatClampNeg) σr (v, σr') e2
  refine lr_I (As := [.int _, .int _]) X hW hM mi_X9_good mv_X9_good rfl lk_L_45 (by decide) (by decide) rfl hl.1 rfl (Nat.le_of_ble_eq_true rfl) dL_law_349 hcs (fun H locs hW => ?_)
  refine lv_icmp_eq (tgt := 810) X.1 X.2.1 dL_law_352 (by decide) (fun _ => ?_) (fun cd => absurd rfl cd)
  exact hk σc' σr' _ _ _ hW hrel hl
theorem lk_case_7 (X : LX D cy adc adr p s m args c) (hS : S_node Rel) (hRel : Rel σc σr) (hX : va_X b L xs s s.heap) (hbl : b < s.heap.size) (hi1 : vp_in (x3 + 1) L) (hi2 : vp_in (x3 + 2) L) (hi3 : vp_in (x3 + 3) L) (hcs : cells ≤ 600000 ∧ slots ≤ 7302250) (hW : LW D cy adc adr s σc σr H locs) (hl : lv_has ls 4 [(0, .ref b), (1, .ref (adc 0)), (2, .ref (adr 0)), (3, .int x3)])
    (hk : ∀ (σc σr : Mem) (H : Heap) (locs : List Loc) (ls : Array Slot), LW D cy adc adr s σc σr H locs → Rel σc σr → lv_has ls 4 [(0, .ref b), (1, .ref (adc 0)), (2, .ref (adr 0)), (3, .int x3)] → W p l e room_1 s m args below meth c H locs cells slots Q (F0 m 810 ls [])) : W p l e room_1 s m args below meth c H locs cells slots Q (F0 m 357 ls []) := by
  obtain ⟨v, σc', σr', e1, e2, hrel⟩ := hS (xs (x3 + (1 : Int32)).toNatClampNeg) (xs (x3 + (2 : Int32)).toNatClampNeg) σc σr hRel
  refine lv_aload_n X.1 X.2.1 dL_law_357 rfl (lv_at hl 1 rfl) ?_
  refine lv_aload_n X.1 X.2.1 dL_law_358 rfl (lv_at hl 0 rfl) ?_
  refine lv_iload_n X.1 X.2.1 dL_law_359 rfl (lv_at hl 3 rfl) ?_
  refine lv_iconst (v := (1 : Int32)) X.1 X.2.1 dL_law_360 (by decide) ?_
  refine lv_iadd X.1 X.2.1 dL_law_361 ?_
  refine va_sld X.1 X.2.1 hX hbl (Nat.not_le.mpr hbl) hW.2.2.2 hi1 dL_law_362 ?_
  refine lv_aload_n X.1 X.2.1 dL_law_363 rfl (lv_at hl 0 rfl) ?_
  refine lv_iload_n X.1 X.2.1 dL_law_364 rfl (lv_at hl 3 rfl) ?_
  refine lv_iconst (v := (2 : Int32)) X.1 X.2.1 dL_law_365 (by decide) ?_
  refine lv_iadd X.1 X.2.1 dL_law_366 ?_
  refine va_sld X.1 X.2.1 hX hbl (Nat.not_le.mpr hbl) hW.2.2.2 hi2 dL_law_367 ?_
  have hM : CI 1 D cy adc l yX8_node cX8_node 3 (some .int) 5 [.ref (adc 0), .int (xs (x3 + (1 : Int32)).toNatClampNeg), .int (xs (x3 + (2 : Int32)).toNatClampNeg)] σc v σc' := c_X8_node X.2.2.2.2.2.2.1 (xs (x3 + (1 : Int32)).toNatClampNeg) (xs (x3 + (2 : Int32)).toNatClampNeg) σc (v, σc') e1
  refine lc_I (As := [.int _, .int _]) X hW hM mi_X8_node mv_X8_node rfl lk_L_46 (by decide) (by decide) rfl hl.1 rfl (Nat.le_of_ble_eq_true rfl) dL_law_368 hcs (fun H locs hW => ?_)
  refine lv_aload_n X.1 X.2.1 dL_law_371 rfl (lv_at hl 2 rfl) ?_
  refine lv_aload_n X.1 X.2.1 dL_law_372 rfl (lv_at hl 0 rfl) ?_
  refine lv_iload_n X.1 X.2.1 dL_law_373 rfl (lv_at hl 3 rfl) ?_
  refine lv_iconst (v := (1 : Int32)) X.1 X.2.1 dL_law_374 (by decide) ?_
  refine lv_iadd X.1 X.2.1 dL_law_375 ?_
  refine va_sld X.1 X.2.1 hX hbl (Nat.not_le.mpr hbl) hW.2.2.2 hi1 dL_law_376 ?_
  refine lv_aload_n X.1 X.2.1 dL_law_377 rfl (lv_at hl 0 rfl) ?_
  refine lv_iload_n X.1 X.2.1 dL_law_378 rfl (lv_at hl 3 rfl) ?_
  refine lv_iconst (v := (2 : Int32)) X.1 X.2.1 dL_law_379 (by decide) ?_
  refine lv_iadd X.1 X.2.1 dL_law_380 ?_
  refine va_sld X.1 X.2.1 hX hbl (Nat.not_le.mpr hbl) hW.2.2.2 hi2 dL_law_381 ?_
  have hM : CI 0 D cy adr l yX9_node cX9_node 3 (some .int) 3 [.ref (adr 0), .int (xs (x3 + (1 : Int32)).toNatClampNeg), .int (xs (x3 + (2 : Int32)).toNatClampNeg)] σr v σr' := c_X9_node X.2.2.2.2.2.2.2.1 (xs (x3 + (1 : Int32)).toNatClampNeg) (xs (x3 + (2 : Int32)).toNatClampNeg) σr (v, σr') e2
  refine lr_I (As := [.int _, .int _]) X hW hM mi_X9_node mv_X9_node rfl lk_L_49 (by decide) (by decide) rfl hl.1 rfl (Nat.le_of_ble_eq_true rfl) dL_law_382 hcs (fun H locs hW => ?_)
  refine lv_icmp_eq (tgt := 810) X.1 X.2.1 dL_law_385 (by decide) (fun _ => ?_) (fun cd => absurd rfl cd)
  exact hk σc' σr' _ _ _ hW hrel hl
theorem lk_case_8 (X : LX D cy adc adr p s m args c) (hS : S_sign Rel) (hRel : Rel σc σr) (hX : va_X b L xs s s.heap) (hbl : b < s.heap.size) (hi1 : vp_in (x3 + 1) L) (hi2 : vp_in (x3 + 2) L) (hi3 : vp_in (x3 + 3) L) (hcs : cells ≤ 600000 ∧ slots ≤ 7302250) (hW : LW D cy adc adr s σc σr H locs) (hl : lv_has ls 4 [(0, .ref b), (1, .ref (adc 0)), (2, .ref (adr 0)), (3, .int x3)])
    (hk : ∀ (σc σr : Mem) (H : Heap) (locs : List Loc) (ls : Array Slot), LW D cy adc adr s σc σr H locs → Rel σc σr → lv_has ls 4 [(0, .ref b), (1, .ref (adc 0)), (2, .ref (adr 0)), (3, .int x3)] → W p l e room_1 s m args below meth c H locs cells slots Q (F0 m 810 ls [])) : W p l e room_1 s m args below meth c H locs cells slots Q (F0 m 390 ls []) := by
  obtain ⟨v, σc', σr', e1, e2, hrel⟩ := hS (xs (x3 + (1 : Int32)).toNatClampNeg) (xs (x3 + (2 : Int32)).toNatClampNeg) σc σr hRel
  refine lv_aload_n X.1 X.2.1 dL_law_390 rfl (lv_at hl 1 rfl) ?_
  refine lv_aload_n X.1 X.2.1 dL_law_391 rfl (lv_at hl 0 rfl) ?_
  refine lv_iload_n X.1 X.2.1 dL_law_392 rfl (lv_at hl 3 rfl) ?_
  refine lv_iconst (v := (1 : Int32)) X.1 X.2.1 dL_law_393 (by decide) ?_
  refine lv_iadd X.1 X.2.1 dL_law_394 ?_
  refine va_sld X.1 X.2.1 hX hbl (Nat.not_le.mpr hbl) hW.2.2.2 hi1 dL_law_395 ?_
  refine lv_aload_n X.1 X.2.1 dL_law_396 rfl (lv_at hl 0 rfl) ?_
  refine lv_iload_n X.1 X.2.1 dL_law_397 rfl (lv_at hl 3 rfl) ?_
  refine lv_iconst (v := (2 : Int32)) X.1 X.2.1 dL_law_398 (by decide) ?_
  refine lv_iadd X.1 X.2.1 dL_law_399 ?_
  refine va_sld X.1 X.2.1 hX hbl (Nat.not_le.mpr hbl) hW.2.2.2 hi2 dL_law_400 ?_
  have hM : CI 1 D cy adc l yX8_sign cX8_sign 4 (some .int) 1 [.ref (adc 0), .int (xs (x3 + (1 : Int32)).toNatClampNeg), .int (xs (x3 + (2 : Int32)).toNatClampNeg)] σc v σc' := c_X8_sign X.2.2.2.2.2.2.1 (xs (x3 + (1 : Int32)).toNatClampNeg) (xs (x3 + (2 : Int32)).toNatClampNeg) σc (v, σc') e1
  refine lc_I (As := [.int _, .int _]) X hW hM mi_X8_sign mv_X8_sign rfl lk_L_50 (by decide) (by decide) rfl hl.1 rfl (Nat.le_of_ble_eq_true rfl) dL_law_401 hcs (fun H locs hW => ?_)
  refine lv_aload_n X.1 X.2.1 dL_law_404 rfl (lv_at hl 2 rfl) ?_
  refine lv_aload_n X.1 X.2.1 dL_law_405 rfl (lv_at hl 0 rfl) ?_
  refine lv_iload_n X.1 X.2.1 dL_law_406 rfl (lv_at hl 3 rfl) ?_
  refine lv_iconst (v := (1 : Int32)) X.1 X.2.1 dL_law_407 (by decide) ?_
  refine lv_iadd X.1 X.2.1 dL_law_408 ?_
  refine va_sld X.1 X.2.1 hX hbl (Nat.not_le.mpr hbl) hW.2.2.2 hi1 dL_law_409 ?_
  refine lv_aload_n X.1 X.2.1 dL_law_410 rfl (lv_at hl 0 rfl) ?_
  refine lv_iload_n X.1 X.2.1 dL_law_411 rfl (lv_at hl 3 rfl) ?_
  refine lv_iconst (v := (2 : Int32)) X.1 X.2.1 dL_law_412 (by decide) ?_
  refine lv_iadd X.1 X.2.1 dL_law_413 ?_
  refine va_sld X.1 X.2.1 hX hbl (Nat.not_le.mpr hbl) hW.2.2.2 hi2 dL_law_414 ?_
  have hM : CI 0 D cy adr l yX9_sign cX9_sign 4 (some .int) 2 [.ref (adr 0), .int (xs (x3 + (1 : Int32)).toNatClampNeg), .int (xs (x3 + (2 : Int32)).toNatClampNeg)] σr v σr' := c_X9_sign X.2.2.2.2.2.2.2.1 (xs (x3 + (1 : Int32)).toNatClampNeg) (xs (x3 + (2 : Int32)).toNatClampNeg) σr (v, σr') e2
  refine lr_I (As := [.int _, .int _]) X hW hM mi_X9_sign mv_X9_sign rfl lk_L_53 (by decide) (by decide) rfl hl.1 rfl (Nat.le_of_ble_eq_true rfl) dL_law_415 hcs (fun H locs hW => ?_)
  refine lv_icmp_eq (tgt := 810) X.1 X.2.1 dL_law_418 (by decide) (fun _ => ?_) (fun cd => absurd rfl cd)
  exact hk σc' σr' _ _ _ hW hrel hl
theorem lk_case_9 (X : LX D cy adc adr p s m args c) (hS : S_exchange Rel) (hRel : Rel σc σr) (hX : va_X b L xs s s.heap) (hbl : b < s.heap.size) (hi1 : vp_in (x3 + 1) L) (hi2 : vp_in (x3 + 2) L) (hi3 : vp_in (x3 + 3) L) (hcs : cells ≤ 600000 ∧ slots ≤ 7302250) (hW : LW D cy adc adr s σc σr H locs) (hl : lv_has ls 4 [(0, .ref b), (1, .ref (adc 0)), (2, .ref (adr 0)), (3, .int x3)])
    (hk : ∀ (σc σr : Mem) (H : Heap) (locs : List Loc) (ls : Array Slot), LW D cy adc adr s σc σr H locs → Rel σc σr → lv_has ls 4 [(0, .ref b), (1, .ref (adc 0)), (2, .ref (adr 0)), (3, .int x3)] → W p l e room_1 s m args below meth c H locs cells slots Q (F0 m 810 ls [])) : W p l e room_1 s m args below meth c H locs cells slots Q (F0 m 423 ls []) := by
  obtain ⟨v, σc', σr', e1, e2, hrel⟩ := hS (xs (x3 + (1 : Int32)).toNatClampNeg) σc σr hRel
  refine lv_aload_n X.1 X.2.1 dL_law_423 rfl (lv_at hl 1 rfl) ?_
  refine lv_aload_n X.1 X.2.1 dL_law_424 rfl (lv_at hl 0 rfl) ?_
  refine lv_iload_n X.1 X.2.1 dL_law_425 rfl (lv_at hl 3 rfl) ?_
  refine lv_iconst (v := (1 : Int32)) X.1 X.2.1 dL_law_426 (by decide) ?_
  refine lv_iadd X.1 X.2.1 dL_law_427 ?_
  refine va_sld X.1 X.2.1 hX hbl (Nat.not_le.mpr hbl) hW.2.2.2 hi1 dL_law_428 ?_
  have hM : CI 1 D cy adc l yX8_exchange cX8_exchange 2 (some .int) 3 [.ref (adc 0), .int (xs (x3 + (1 : Int32)).toNatClampNeg)] σc v σc' := c_X8_exchange X.2.2.2.2.2.2.1 (xs (x3 + (1 : Int32)).toNatClampNeg) σc (v, σc') e1
  refine lc_I (As := [.int _]) X hW hM mi_X8_exchange mv_X8_exchange rfl lk_L_54 (by decide) (by decide) rfl hl.1 rfl (Nat.le_of_ble_eq_true rfl) dL_law_429 hcs (fun H locs hW => ?_)
  refine lv_aload_n X.1 X.2.1 dL_law_432 rfl (lv_at hl 2 rfl) ?_
  refine lv_aload_n X.1 X.2.1 dL_law_433 rfl (lv_at hl 0 rfl) ?_
  refine lv_iload_n X.1 X.2.1 dL_law_434 rfl (lv_at hl 3 rfl) ?_
  refine lv_iconst (v := (1 : Int32)) X.1 X.2.1 dL_law_435 (by decide) ?_
  refine lv_iadd X.1 X.2.1 dL_law_436 ?_
  refine va_sld X.1 X.2.1 hX hbl (Nat.not_le.mpr hbl) hW.2.2.2 hi1 dL_law_437 ?_
  have hM : CI 0 D cy adr l yX9_exchange cX9_exchange 6 (some .int) 2 [.ref (adr 0), .int (xs (x3 + (1 : Int32)).toNatClampNeg)] σr v σr' := c_X9_exchange X.2.2.2.2.2.2.2.1 (xs (x3 + (1 : Int32)).toNatClampNeg) σr (v, σr') e2
  refine lr_I (As := [.int _]) X hW hM mi_X9_exchange mv_X9_exchange rfl lk_L_58 (by decide) (by decide) rfl hl.1 rfl (Nat.le_of_ble_eq_true rfl) dL_law_438 hcs (fun H locs hW => ?_)
  refine lv_icmp_eq (tgt := 810) X.1 X.2.1 dL_law_441 (by decide) (fun _ => ?_) (fun cd => absurd rfl cd)
  exact hk σc' σr' _ _ _ hW hrel hl
theorem lk_case_10 (X : LX D cy adc adr p s m args c) (hS : S_isGood Rel) (hRel : Rel σc σr) (hX : va_X b L xs s s.heap) (hbl : b < s.heap.size) (hi1 : vp_in (x3 + 1) L) (hi2 : vp_in (x3 + 2) L) (hi3 : vp_in (x3 + 3) L) (hcs : cells ≤ 600000 ∧ slots ≤ 7302250) (hW : LW D cy adc adr s σc σr H locs) (hl : lv_has ls 4 [(0, .ref b), (1, .ref (adc 0)), (2, .ref (adr 0)), (3, .int x3)])
    (hk : ∀ (σc σr : Mem) (H : Heap) (locs : List Loc) (ls : Array Slot), LW D cy adc adr s σc σr H locs → Rel σc σr → lv_has ls 4 [(0, .ref b), (1, .ref (adc 0)), (2, .ref (adr 0)), (3, .int x3)] → W p l e room_1 s m args below meth c H locs cells slots Q (F0 m 810 ls [])) : W p l e room_1 s m args below meth c H locs cells slots Q (F0 m 446 ls []) := by
  obtain ⟨v, σc', σr', e1, e2, hrel⟩ := hS  σc σr hRel
  refine lv_aload_n X.1 X.2.1 dL_law_446 rfl (lv_at hl 1 rfl) ?_
  have hM : CI 1 D cy adc l yX8_isGood cX8_isGood 1 (some .int) 5 [.ref (adc 0)] σc v σc' := c_X8_isGood X.2.2.2.2.2.2.1  σc (v, σc') e1
  refine lc_I (As := []) X hW hM mi_X8_isGood mv_X8_isGood rfl lk_L_59 (by decide) (by decide) rfl hl.1 rfl (Nat.le_of_ble_eq_true rfl) dL_law_447 hcs (fun H locs hW => ?_)
  refine lv_aload_n X.1 X.2.1 dL_law_450 rfl (lv_at hl 2 rfl) ?_
  have hM : CI 0 D cy adr l yX9_isGood cX9_isGood 1 (some .int) 3 [.ref (adr 0)] σr v σr' := c_X9_isGood X.2.2.2.2.2.2.2.1  σr (v, σr') e2
  refine lr_I (As := []) X hW hM mi_X9_isGood mv_X9_isGood rfl lk_L_62 (by decide) (by decide) rfl hl.1 rfl (Nat.le_of_ble_eq_true rfl) dL_law_451 hcs (fun H locs hW => ?_)
  refine lv_icmp_eq (tgt := 810) X.1 X.2.1 dL_law_454 (by decide) (fun _ => ?_) (fun cd => absurd rfl cd)
  exact hk σc' σr' _ _ _ hW hrel hl
theorem lk_case_11 (X : LX D cy adc adr p s m args c) (hS : S_runs Rel) (hRel : Rel σc σr) (hX : va_X b L xs s s.heap) (hbl : b < s.heap.size) (hi1 : vp_in (x3 + 1) L) (hi2 : vp_in (x3 + 2) L) (hi3 : vp_in (x3 + 3) L) (hcs : cells ≤ 600000 ∧ slots ≤ 7302250) (hW : LW D cy adc adr s σc σr H locs) (hl : lv_has ls 4 [(0, .ref b), (1, .ref (adc 0)), (2, .ref (adr 0)), (3, .int x3)])
    (hk : ∀ (σc σr : Mem) (H : Heap) (locs : List Loc) (ls : Array Slot), LW D cy adc adr s σc σr H locs → Rel σc σr → lv_has ls 4 [(0, .ref b), (1, .ref (adc 0)), (2, .ref (adr 0)), (3, .int x3)] → W p l e room_1 s m args below meth c H locs cells slots Q (F0 m 810 ls [])) : W p l e room_1 s m args below meth c H locs cells slots Q (F0 m 459 ls []) := by
  obtain ⟨v, σc', σr', e1, e2, hrel⟩ := hS  σc σr hRel
  refine lv_aload_n X.1 X.2.1 dL_law_459 rfl (lv_at hl 1 rfl) ?_
  have hM : CI 1 D cy adc l yX8_runs cX8_runs 1 (some .int) 4 [.ref (adc 0)] σc v σc' := c_X8_runs X.2.2.2.2.2.2.1  σc (v, σc') e1
  refine lc_I (As := []) X hW hM mi_X8_runs mv_X8_runs rfl lk_L_63 (by decide) (by decide) rfl hl.1 rfl (Nat.le_of_ble_eq_true rfl) dL_law_460 hcs (fun H locs hW => ?_)
  refine lv_aload_n X.1 X.2.1 dL_law_463 rfl (lv_at hl 2 rfl) ?_
  have hM : CI 0 D cy adr l yX9_runs cX9_runs 7 (some .int) 2 [.ref (adr 0)] σr v σr' := c_X9_runs X.2.2.2.2.2.2.2.1  σr (v, σr') e2
  refine lr_I (As := []) X hW hM mi_X9_runs mv_X9_runs rfl lk_L_66 (by decide) (by decide) rfl hl.1 rfl (Nat.le_of_ble_eq_true rfl) dL_law_464 hcs (fun H locs hW => ?_)
  refine lv_icmp_eq (tgt := 810) X.1 X.2.1 dL_law_467 (by decide) (fun _ => ?_) (fun cd => absurd rfl cd)
  exact hk σc' σr' _ _ _ hW hrel hl
theorem lk_case_12 (X : LX D cy adc adr p s m args c) (hS : S_places Rel) (hRel : Rel σc σr) (hX : va_X b L xs s s.heap) (hbl : b < s.heap.size) (hi1 : vp_in (x3 + 1) L) (hi2 : vp_in (x3 + 2) L) (hi3 : vp_in (x3 + 3) L) (hcs : cells ≤ 600000 ∧ slots ≤ 7302250) (hW : LW D cy adc adr s σc σr H locs) (hl : lv_has ls 4 [(0, .ref b), (1, .ref (adc 0)), (2, .ref (adr 0)), (3, .int x3)])
    (hk : ∀ (σc σr : Mem) (H : Heap) (locs : List Loc) (ls : Array Slot), LW D cy adc adr s σc σr H locs → Rel σc σr → lv_has ls 4 [(0, .ref b), (1, .ref (adc 0)), (2, .ref (adr 0)), (3, .int x3)] → W p l e room_1 s m args below meth c H locs cells slots Q (F0 m 810 ls [])) : W p l e room_1 s m args below meth c H locs cells slots Q (F0 m 472 ls []) := by
  obtain ⟨v, σc', σr', e1, e2, hrel⟩ := hS (xs (x3 + (1 : Int32)).toNatClampNeg) σc σr hRel
  refine lv_aload_n X.1 X.2.1 dL_law_472 rfl (lv_at hl 1 rfl) ?_
  refine lv_aload_n X.1 X.2.1 dL_law_473 rfl (lv_at hl 0 rfl) ?_
  refine lv_iload_n X.1 X.2.1 dL_law_474 rfl (lv_at hl 3 rfl) ?_
  refine lv_iconst (v := (1 : Int32)) X.1 X.2.1 dL_law_475 (by decide) ?_
  refine lv_iadd X.1 X.2.1 dL_law_476 ?_
  refine va_sld X.1 X.2.1 hX hbl (Nat.not_le.mpr hbl) hW.2.2.2 hi1 dL_law_477 ?_
  have hM : CI 1 D cy adc l yX8_places cX8_places 4 (some .int) 4 [.ref (adc 0), .int (xs (x3 + (1 : Int32)).toNatClampNeg)] σc v σc' := c_X8_places X.2.2.2.2.2.2.1 (xs (x3 + (1 : Int32)).toNatClampNeg) σc (v, σc') e1
  refine lc_I (As := [.int _]) X hW hM mi_X8_places mv_X8_places rfl lk_L_67 (by decide) (by decide) rfl hl.1 rfl (Nat.le_of_ble_eq_true rfl) dL_law_478 hcs (fun H locs hW => ?_)
  refine lv_aload_n X.1 X.2.1 dL_law_481 rfl (lv_at hl 2 rfl) ?_
  refine lv_aload_n X.1 X.2.1 dL_law_482 rfl (lv_at hl 0 rfl) ?_
  refine lv_iload_n X.1 X.2.1 dL_law_483 rfl (lv_at hl 3 rfl) ?_
  refine lv_iconst (v := (1 : Int32)) X.1 X.2.1 dL_law_484 (by decide) ?_
  refine lv_iadd X.1 X.2.1 dL_law_485 ?_
  refine va_sld X.1 X.2.1 hX hbl (Nat.not_le.mpr hbl) hW.2.2.2 hi1 dL_law_486 ?_
  have hM : CI 0 D cy adr l yX9_places cX9_places 4 (some .int) 3 [.ref (adr 0), .int (xs (x3 + (1 : Int32)).toNatClampNeg)] σr v σr' := c_X9_places X.2.2.2.2.2.2.2.1 (xs (x3 + (1 : Int32)).toNatClampNeg) σr (v, σr') e2
  refine lr_I (As := [.int _]) X hW hM mi_X9_places mv_X9_places rfl lk_L_70 (by decide) (by decide) rfl hl.1 rfl (Nat.le_of_ble_eq_true rfl) dL_law_487 hcs (fun H locs hW => ?_)
  refine lv_icmp_eq (tgt := 810) X.1 X.2.1 dL_law_490 (by decide) (fun _ => ?_) (fun cd => absurd rfl cd)
  exact hk σc' σr' _ _ _ hW hrel hl
theorem lk_case_13 (X : LX D cy adc adr p s m args c) (hS : S_mend Rel) (hRel : Rel σc σr) (hX : va_X b L xs s s.heap) (hbl : b < s.heap.size) (hi1 : vp_in (x3 + 1) L) (hi2 : vp_in (x3 + 2) L) (hi3 : vp_in (x3 + 3) L) (hcs : cells ≤ 600000 ∧ slots ≤ 7302250) (hW : LW D cy adc adr s σc σr H locs) (hl : lv_has ls 4 [(0, .ref b), (1, .ref (adc 0)), (2, .ref (adr 0)), (3, .int x3)])
    (hk : ∀ (σc σr : Mem) (H : Heap) (locs : List Loc) (ls : Array Slot), LW D cy adc adr s σc σr H locs → Rel σc σr → lv_has ls 4 [(0, .ref b), (1, .ref (adc 0)), (2, .ref (adr 0)), (3, .int x3)] → W p l e room_1 s m args below meth c H locs cells slots Q (F0 m 810 ls [])) : W p l e room_1 s m args below meth c H locs cells slots Q (F0 m 495 ls []) := by
  obtain ⟨v, σc', σr', e1, e2, hrel⟩ := hS (xs (x3 + (1 : Int32)).toNatClampNeg) σc σr hRel
  refine lv_aload_n X.1 X.2.1 dL_law_495 rfl (lv_at hl 1 rfl) ?_
  refine lv_aload_n X.1 X.2.1 dL_law_496 rfl (lv_at hl 0 rfl) ?_
  refine lv_iload_n X.1 X.2.1 dL_law_497 rfl (lv_at hl 3 rfl) ?_
  refine lv_iconst (v := (1 : Int32)) X.1 X.2.1 dL_law_498 (by decide) ?_
  refine lv_iadd X.1 X.2.1 dL_law_499 ?_
  refine va_sld X.1 X.2.1 hX hbl (Nat.not_le.mpr hbl) hW.2.2.2 hi1 dL_law_500 ?_
  have hM : CI 1 D cy adc l yX8_mend cX8_mend 3 (some .int) 4 [.ref (adc 0), .int (xs (x3 + (1 : Int32)).toNatClampNeg)] σc v σc' := c_X8_mend X.2.2.2.2.2.2.1 (xs (x3 + (1 : Int32)).toNatClampNeg) σc (v, σc') e1
  refine lc_I (As := [.int _]) X hW hM mi_X8_mend mv_X8_mend rfl lk_L_71 (by decide) (by decide) rfl hl.1 rfl (Nat.le_of_ble_eq_true rfl) dL_law_501 hcs (fun H locs hW => ?_)
  refine lv_aload_n X.1 X.2.1 dL_law_504 rfl (lv_at hl 2 rfl) ?_
  refine lv_aload_n X.1 X.2.1 dL_law_505 rfl (lv_at hl 0 rfl) ?_
  refine lv_iload_n X.1 X.2.1 dL_law_506 rfl (lv_at hl 3 rfl) ?_
  refine lv_iconst (v := (1 : Int32)) X.1 X.2.1 dL_law_507 (by decide) ?_
  refine lv_iadd X.1 X.2.1 dL_law_508 ?_
  refine va_sld X.1 X.2.1 hX hbl (Nat.not_le.mpr hbl) hW.2.2.2 hi1 dL_law_509 ?_
  have hM : CI 0 D cy adr l yX9_mend cX9_mend 4 (some .int) 2 [.ref (adr 0), .int (xs (x3 + (1 : Int32)).toNatClampNeg)] σr v σr' := c_X9_mend X.2.2.2.2.2.2.2.1 (xs (x3 + (1 : Int32)).toNatClampNeg) σr (v, σr') e2
  refine lr_I (As := [.int _]) X hW hM mi_X9_mend mv_X9_mend rfl lk_L_74 (by decide) (by decide) rfl hl.1 rfl (Nat.le_of_ble_eq_true rfl) dL_law_510 hcs (fun H locs hW => ?_)
  refine lv_icmp_eq (tgt := 810) X.1 X.2.1 dL_law_513 (by decide) (fun _ => ?_) (fun cd => absurd rfl cd)
  exact hk σc' σr' _ _ _ hW hrel hl
theorem lk_case_14 (X : LX D cy adc adr p s m args c) (hS : S_sets Rel) (hRel : Rel σc σr) (hX : va_X b L xs s s.heap) (hbl : b < s.heap.size) (hi1 : vp_in (x3 + 1) L) (hi2 : vp_in (x3 + 2) L) (hi3 : vp_in (x3 + 3) L) (hcs : cells ≤ 600000 ∧ slots ≤ 7302250) (hW : LW D cy adc adr s σc σr H locs) (hl : lv_has ls 4 [(0, .ref b), (1, .ref (adc 0)), (2, .ref (adr 0)), (3, .int x3)])
    (hk : ∀ (σc σr : Mem) (H : Heap) (locs : List Loc) (ls : Array Slot), LW D cy adc adr s σc σr H locs → Rel σc σr → lv_has ls 4 [(0, .ref b), (1, .ref (adc 0)), (2, .ref (adr 0)), (3, .int x3)] → W p l e room_1 s m args below meth c H locs cells slots Q (F0 m 810 ls [])) : W p l e room_1 s m args below meth c H locs cells slots Q (F0 m 518 ls []) := by
  obtain ⟨v, σc', σr', e1, e2, hrel⟩ := hS  σc σr hRel
  refine lv_aload_n X.1 X.2.1 dL_law_518 rfl (lv_at hl 1 rfl) ?_
  have hM : CI 1 D cy adc l yX8_sets cX8_sets 1 (some .int) 7 [.ref (adc 0)] σc v σc' := c_X8_sets X.2.2.2.2.2.2.1  σc (v, σc') e1
  refine lc_I (As := []) X hW hM mi_X8_sets mv_X8_sets rfl lk_L_75 (by decide) (by decide) rfl hl.1 rfl (Nat.le_of_ble_eq_true rfl) dL_law_519 hcs (fun H locs hW => ?_)
  refine lv_aload_n X.1 X.2.1 dL_law_522 rfl (lv_at hl 2 rfl) ?_
  have hM : CI 0 D cy adr l yX9_sets cX9_sets 1 (some .int) 5 [.ref (adr 0)] σr v σr' := c_X9_sets X.2.2.2.2.2.2.2.1  σr (v, σr') e2
  refine lr_I (As := []) X hW hM mi_X9_sets mv_X9_sets rfl lk_L_78 (by decide) (by decide) rfl hl.1 rfl (Nat.le_of_ble_eq_true rfl) dL_law_523 hcs (fun H locs hW => ?_)
  refine lv_icmp_eq (tgt := 810) X.1 X.2.1 dL_law_526 (by decide) (fun _ => ?_) (fun cd => absurd rfl cd)
  exact hk σc' σr' _ _ _ hW hrel hl
theorem lk_case_15 (X : LX D cy adc adr p s m args c) (hS : S_classes Rel) (hRel : Rel σc σr) (hX : va_X b L xs s s.heap) (hbl : b < s.heap.size) (hi1 : vp_in (x3 + 1) L) (hi2 : vp_in (x3 + 2) L) (hi3 : vp_in (x3 + 3) L) (hcs : cells ≤ 600000 ∧ slots ≤ 7302250) (hW : LW D cy adc adr s σc σr H locs) (hl : lv_has ls 4 [(0, .ref b), (1, .ref (adc 0)), (2, .ref (adr 0)), (3, .int x3)])
    (hk : ∀ (σc σr : Mem) (H : Heap) (locs : List Loc) (ls : Array Slot), LW D cy adc adr s σc σr H locs → Rel σc σr → lv_has ls 4 [(0, .ref b), (1, .ref (adc 0)), (2, .ref (adr 0)), (3, .int x3)] → W p l e room_1 s m args below meth c H locs cells slots Q (F0 m 810 ls [])) : W p l e room_1 s m args below meth c H locs cells slots Q (F0 m 531 ls []) := by
  obtain ⟨v, σc', σr', e1, e2, hrel⟩ := hS  σc σr hRel
  refine lv_aload_n X.1 X.2.1 dL_law_531 rfl (lv_at hl 1 rfl) ?_
  have hM : CI 1 D cy adc l yX8_classes cX8_classes 2 (some .int) 7 [.ref (adc 0)] σc v σc' := c_X8_classes X.2.2.2.2.2.2.1  σc (v, σc') e1
  refine lc_I (As := []) X hW hM mi_X8_classes mv_X8_classes rfl lk_L_79 (by decide) (by decide) rfl hl.1 rfl (Nat.le_of_ble_eq_true rfl) dL_law_532 hcs (fun H locs hW => ?_)
  refine lv_aload_n X.1 X.2.1 dL_law_535 rfl (lv_at hl 2 rfl) ?_
  have hM : CI 0 D cy adr l yX9_classes cX9_classes 5 (some .int) 5 [.ref (adr 0)] σr v σr' := c_X9_classes X.2.2.2.2.2.2.2.1  σr (v, σr') e2
  refine lr_I (As := []) X hW hM mi_X9_classes mv_X9_classes rfl lk_L_82 (by decide) (by decide) rfl hl.1 rfl (Nat.le_of_ble_eq_true rfl) dL_law_536 hcs (fun H locs hW => ?_)
  refine lv_icmp_eq (tgt := 810) X.1 X.2.1 dL_law_539 (by decide) (fun _ => ?_) (fun cd => absurd rfl cd)
  exact hk σc' σr' _ _ _ hW hrel hl
theorem lk_case_16 (X : LX D cy adc adr p s m args c) (hS : S_useful Rel) (hRel : Rel σc σr) (hX : va_X b L xs s s.heap) (hbl : b < s.heap.size) (hi1 : vp_in (x3 + 1) L) (hi2 : vp_in (x3 + 2) L) (hi3 : vp_in (x3 + 3) L) (hcs : cells ≤ 600000 ∧ slots ≤ 7302250) (hW : LW D cy adc adr s σc σr H locs) (hl : lv_has ls 4 [(0, .ref b), (1, .ref (adc 0)), (2, .ref (adr 0)), (3, .int x3)])
    (hk : ∀ (σc σr : Mem) (H : Heap) (locs : List Loc) (ls : Array Slot), LW D cy adc adr s σc σr H locs → Rel σc σr → lv_has ls 4 [(0, .ref b), (1, .ref (adc 0)), (2, .ref (adr 0)), (3, .int x3)] → W p l e room_1 s m args below meth c H locs cells slots Q (F0 m 810 ls [])) : W p l e room_1 s m args below meth c H locs cells slots Q (F0 m 544 ls []) := by
  obtain ⟨v, σc', σr', e1, e2, hrel⟩ := hS  σc σr hRel
  refine lv_aload_n X.1 X.2.1 dL_law_544 rfl (lv_at hl 1 rfl) ?_
  have hM : CI 1 D cy adc l yX8_useful cX8_useful 1 (some .int) 4 [.ref (adc 0)] σc v σc' := by obtain ⟨e1, e2⟩ := e1; rw [e2]; exact c_X8_useful X.2.2.2.2.2.2.1  σc v e1
  refine lc_I (As := []) X hW hM mi_X8_useful mv_X8_useful rfl lk_L_83 (by decide) (by decide) rfl hl.1 rfl (Nat.le_of_ble_eq_true rfl) dL_law_545 hcs (fun H locs hW => ?_)
  refine lv_aload_n X.1 X.2.1 dL_law_548 rfl (lv_at hl 2 rfl) ?_
  have hM : CI 0 D cy adr l yX9_useful cX9_useful 7 (some .int) 5 [.ref (adr 0)] σr v σr' := c_X9_useful X.2.2.2.2.2.2.2.1  σr (v, σr') e2
  refine lr_I (As := []) X hW hM mi_X9_useful mv_X9_useful rfl lk_L_86 (by decide) (by decide) rfl hl.1 rfl (Nat.le_of_ble_eq_true rfl) dL_law_549 hcs (fun H locs hW => ?_)
  refine lv_icmp_eq (tgt := 810) X.1 X.2.1 dL_law_552 (by decide) (fun _ => ?_) (fun cd => absurd rfl cd)
  exact hk σc' σr' _ _ _ hW hrel hl
theorem lk_case_17 (X : LX D cy adc adr p s m args c) (hS : S_least Rel) (hRel : Rel σc σr) (hX : va_X b L xs s s.heap) (hbl : b < s.heap.size) (hi1 : vp_in (x3 + 1) L) (hi2 : vp_in (x3 + 2) L) (hi3 : vp_in (x3 + 3) L) (hcs : cells ≤ 600000 ∧ slots ≤ 7302250) (hW : LW D cy adc adr s σc σr H locs) (hl : lv_has ls 4 [(0, .ref b), (1, .ref (adc 0)), (2, .ref (adr 0)), (3, .int x3)])
    (hk : ∀ (σc σr : Mem) (H : Heap) (locs : List Loc) (ls : Array Slot), LW D cy adc adr s σc σr H locs → Rel σc σr → lv_has ls 4 [(0, .ref b), (1, .ref (adc 0)), (2, .ref (adr 0)), (3, .int x3)] → W p l e room_1 s m args below meth c H locs cells slots Q (F0 m 810 ls [])) : W p l e room_1 s m args below meth c H locs cells slots Q (F0 m 557 ls []) := by
  obtain ⟨v, σc', σr', e1, e2, hrel⟩ := hS (xs (x3 + (1 : Int32)).toNatClampNeg) σc σr hRel
  refine lv_aload_n X.1 X.2.1 dL_law_557 rfl (lv_at hl 1 rfl) ?_
  refine lv_aload_n X.1 X.2.1 dL_law_558 rfl (lv_at hl 0 rfl) ?_
  refine lv_iload_n X.1 X.2.1 dL_law_559 rfl (lv_at hl 3 rfl) ?_
  refine lv_iconst (v := (1 : Int32)) X.1 X.2.1 dL_law_560 (by decide) ?_
  refine lv_iadd X.1 X.2.1 dL_law_561 ?_
  refine va_sld X.1 X.2.1 hX hbl (Nat.not_le.mpr hbl) hW.2.2.2 hi1 dL_law_562 ?_
  have hM : CI 1 D cy adc l yX8_least cX8_least 3 (some .int) 7 [.ref (adc 0), .int (xs (x3 + (1 : Int32)).toNatClampNeg)] σc v σc' := c_X8_least X.2.2.2.2.2.2.1 (xs (x3 + (1 : Int32)).toNatClampNeg) σc (v, σc') e1
  refine lc_I (As := [.int _]) X hW hM mi_X8_least mv_X8_least rfl lk_L_87 (by decide) (by decide) rfl hl.1 rfl (Nat.le_of_ble_eq_true rfl) dL_law_563 hcs (fun H locs hW => ?_)
  refine lv_aload_n X.1 X.2.1 dL_law_566 rfl (lv_at hl 2 rfl) ?_
  refine lv_aload_n X.1 X.2.1 dL_law_567 rfl (lv_at hl 0 rfl) ?_
  refine lv_iload_n X.1 X.2.1 dL_law_568 rfl (lv_at hl 3 rfl) ?_
  refine lv_iconst (v := (1 : Int32)) X.1 X.2.1 dL_law_569 (by decide) ?_
  refine lv_iadd X.1 X.2.1 dL_law_570 ?_
  refine va_sld X.1 X.2.1 hX hbl (Nat.not_le.mpr hbl) hW.2.2.2 hi1 dL_law_571 ?_
  have hM : CI 0 D cy adr l yX9_least cX9_least 2 (some .int) 5 [.ref (adr 0), .int (xs (x3 + (1 : Int32)).toNatClampNeg)] σr v σr' := c_X9_least X.2.2.2.2.2.2.2.1 (xs (x3 + (1 : Int32)).toNatClampNeg) σr (v, σr') e2
  refine lr_I (As := [.int _]) X hW hM mi_X9_least mv_X9_least rfl lk_L_90 (by decide) (by decide) rfl hl.1 rfl (Nat.le_of_ble_eq_true rfl) dL_law_572 hcs (fun H locs hW => ?_)
  refine lv_icmp_eq (tgt := 810) X.1 X.2.1 dL_law_575 (by decide) (fun _ => ?_) (fun cd => absurd rfl cd)
  exact hk σc' σr' _ _ _ hW hrel hl
theorem lk_case_18 (X : LX D cy adc adr p s m args c) (hS : S_many Rel) (hRel : Rel σc σr) (hX : va_X b L xs s s.heap) (hbl : b < s.heap.size) (hi1 : vp_in (x3 + 1) L) (hi2 : vp_in (x3 + 2) L) (hi3 : vp_in (x3 + 3) L) (hcs : cells ≤ 600000 ∧ slots ≤ 7302250) (hW : LW D cy adc adr s σc σr H locs) (hl : lv_has ls 4 [(0, .ref b), (1, .ref (adc 0)), (2, .ref (adr 0)), (3, .int x3)])
    (hk : ∀ (σc σr : Mem) (H : Heap) (locs : List Loc) (ls : Array Slot), LW D cy adc adr s σc σr H locs → Rel σc σr → lv_has ls 4 [(0, .ref b), (1, .ref (adc 0)), (2, .ref (adr 0)), (3, .int x3)] → W p l e room_1 s m args below meth c H locs cells slots Q (F0 m 810 ls [])) : W p l e room_1 s m args below meth c H locs cells slots Q (F0 m 580 ls []) := by
  obtain ⟨v, σc', σr', e1, e2, hrel⟩ := hS (xs (x3 + (1 : Int32)).toNatClampNeg) σc σr hRel
  refine lv_aload_n X.1 X.2.1 dL_law_580 rfl (lv_at hl 1 rfl) ?_
  refine lv_aload_n X.1 X.2.1 dL_law_581 rfl (lv_at hl 0 rfl) ?_
  refine lv_iload_n X.1 X.2.1 dL_law_582 rfl (lv_at hl 3 rfl) ?_
  refine lv_iconst (v := (1 : Int32)) X.1 X.2.1 dL_law_583 (by decide) ?_
  refine lv_iadd X.1 X.2.1 dL_law_584 ?_
  refine va_sld X.1 X.2.1 hX hbl (Nat.not_le.mpr hbl) hW.2.2.2 hi1 dL_law_585 ?_
  have hM : CL 1 D cy adc l yX8_many cX8_many 6 (some .long) 7 [.ref (adc 0), .int (xs (x3 + (1 : Int32)).toNatClampNeg)] σc v σc' := c_X8_many X.2.2.2.2.2.2.1 (xs (x3 + (1 : Int32)).toNatClampNeg) σc (v, σc') e1
  refine lc_L (As := [.int _]) X hW hM mi_X8_many mv_X8_many rfl lk_L_91 (by decide) (by decide) rfl hl.1 rfl (Nat.le_of_ble_eq_true rfl) dL_law_586 hcs (fun H locs hW => ?_)
  refine lv_aload_n X.1 X.2.1 dL_law_589 rfl (lv_at hl 2 rfl) ?_
  refine lv_aload_n X.1 X.2.1 dL_law_590 rfl (lv_at hl 0 rfl) ?_
  refine lv_iload_n X.1 X.2.1 dL_law_591 rfl (lv_at hl 3 rfl) ?_
  refine lv_iconst (v := (1 : Int32)) X.1 X.2.1 dL_law_592 (by decide) ?_
  refine lv_iadd X.1 X.2.1 dL_law_593 ?_
  refine va_sld X.1 X.2.1 hX hbl (Nat.not_le.mpr hbl) hW.2.2.2 hi1 dL_law_594 ?_
  have hM : CL 0 D cy adr l yX9_many cX9_many 2 (some .long) 5 [.ref (adr 0), .int (xs (x3 + (1 : Int32)).toNatClampNeg)] σr v σr' := c_X9_many X.2.2.2.2.2.2.2.1 (xs (x3 + (1 : Int32)).toNatClampNeg) σr (v, σr') e2
  refine lr_L (As := [.int _]) X hW hM mi_X9_many mv_X9_many rfl lk_L_95 (by decide) (by decide) rfl hl.1 rfl (Nat.le_of_ble_eq_true rfl) dL_law_595 hcs (fun H locs hW => ?_)
  refine W.lcmp X.1 X.2.1 dL_law_598 ?_
  refine lv_if_eq (tgt := 810) X.1 X.2.1 dL_law_599 (by decide) (fun _ => ?_) (fun cd => absurd (lg_cmp_self v) cd)
  exact hk σc' σr' _ _ _ hW hrel hl
theorem lk_case_19 (X : LX D cy adc adr p s m args c) (hS : S_alike Rel) (hRel : Rel σc σr) (hX : va_X b L xs s s.heap) (hbl : b < s.heap.size) (hi1 : vp_in (x3 + 1) L) (hi2 : vp_in (x3 + 2) L) (hi3 : vp_in (x3 + 3) L) (hcs : cells ≤ 600000 ∧ slots ≤ 7302250) (hW : LW D cy adc adr s σc σr H locs) (hl : lv_has ls 4 [(0, .ref b), (1, .ref (adc 0)), (2, .ref (adr 0)), (3, .int x3)])
    (hk : ∀ (σc σr : Mem) (H : Heap) (locs : List Loc) (ls : Array Slot), LW D cy adc adr s σc σr H locs → Rel σc σr → lv_has ls 4 [(0, .ref b), (1, .ref (adc 0)), (2, .ref (adr 0)), (3, .int x3)] → W p l e room_1 s m args below meth c H locs cells slots Q (F0 m 810 ls [])) : W p l e room_1 s m args below meth c H locs cells slots Q (F0 m 604 ls []) := by
  obtain ⟨v, σc', σr', e1, e2, hrel⟩ := hS (xs (x3 + (1 : Int32)).toNatClampNeg) σc σr hRel
  refine lv_aload_n X.1 X.2.1 dL_law_604 rfl (lv_at hl 1 rfl) ?_
  refine lv_aload_n X.1 X.2.1 dL_law_605 rfl (lv_at hl 0 rfl) ?_
  refine lv_iload_n X.1 X.2.1 dL_law_606 rfl (lv_at hl 3 rfl) ?_
  refine lv_iconst (v := (1 : Int32)) X.1 X.2.1 dL_law_607 (by decide) ?_
  refine lv_iadd X.1 X.2.1 dL_law_608 ?_
  refine va_sld X.1 X.2.1 hX hbl (Nat.not_le.mpr hbl) hW.2.2.2 hi1 dL_law_609 ?_
  have hM : CI 1 D cy adc l yX8_alike cX8_alike 5 (some .int) 7 [.ref (adc 0), .int (xs (x3 + (1 : Int32)).toNatClampNeg)] σc v σc' := c_X8_alike X.2.2.2.2.2.2.1 (xs (x3 + (1 : Int32)).toNatClampNeg) σc (v, σc') e1
  refine lc_I (As := [.int _]) X hW hM mi_X8_alike mv_X8_alike rfl lk_L_96 (by decide) (by decide) rfl hl.1 rfl (Nat.le_of_ble_eq_true rfl) dL_law_610 hcs (fun H locs hW => ?_)
  refine lv_aload_n X.1 X.2.1 dL_law_613 rfl (lv_at hl 2 rfl) ?_
  refine lv_aload_n X.1 X.2.1 dL_law_614 rfl (lv_at hl 0 rfl) ?_
  refine lv_iload_n X.1 X.2.1 dL_law_615 rfl (lv_at hl 3 rfl) ?_
  refine lv_iconst (v := (1 : Int32)) X.1 X.2.1 dL_law_616 (by decide) ?_
  refine lv_iadd X.1 X.2.1 dL_law_617 ?_
  refine va_sld X.1 X.2.1 hX hbl (Nat.not_le.mpr hbl) hW.2.2.2 hi1 dL_law_618 ?_
  have hM : CI 0 D cy adr l yX9_alike cX9_alike 4 (some .int) 5 [.ref (adr 0), .int (xs (x3 + (1 : Int32)).toNatClampNeg)] σr v σr' := c_X9_alike X.2.2.2.2.2.2.2.1 (xs (x3 + (1 : Int32)).toNatClampNeg) σr (v, σr') e2
  refine lr_I (As := [.int _]) X hW hM mi_X9_alike mv_X9_alike rfl lk_L_99 (by decide) (by decide) rfl hl.1 rfl (Nat.le_of_ble_eq_true rfl) dL_law_619 hcs (fun H locs hW => ?_)
  refine lv_icmp_eq (tgt := 810) X.1 X.2.1 dL_law_622 (by decide) (fun _ => ?_) (fun cd => absurd rfl cd)
  exact hk σc' σr' _ _ _ hW hrel hl
theorem lk_case_20 (X : LX D cy adc adr p s m args c) (hS : S_apart Rel) (hRel : Rel σc σr) (hX : va_X b L xs s s.heap) (hbl : b < s.heap.size) (hi1 : vp_in (x3 + 1) L) (hi2 : vp_in (x3 + 2) L) (hi3 : vp_in (x3 + 3) L) (hcs : cells ≤ 600000 ∧ slots ≤ 7302250) (hW : LW D cy adc adr s σc σr H locs) (hl : lv_has ls 4 [(0, .ref b), (1, .ref (adc 0)), (2, .ref (adr 0)), (3, .int x3)])
    (hk : ∀ (σc σr : Mem) (H : Heap) (locs : List Loc) (ls : Array Slot), LW D cy adc adr s σc σr H locs → Rel σc σr → lv_has ls 4 [(0, .ref b), (1, .ref (adc 0)), (2, .ref (adr 0)), (3, .int x3)] → W p l e room_1 s m args below meth c H locs cells slots Q (F0 m 810 ls [])) : W p l e room_1 s m args below meth c H locs cells slots Q (F0 m 627 ls []) := by
  obtain ⟨v, σc', σr', e1, e2, hrel⟩ := hS (xs (x3 + (1 : Int32)).toNatClampNeg) (xs (x3 + (2 : Int32)).toNatClampNeg) σc σr hRel
  refine lv_aload_n X.1 X.2.1 dL_law_627 rfl (lv_at hl 1 rfl) ?_
  refine lv_aload_n X.1 X.2.1 dL_law_628 rfl (lv_at hl 0 rfl) ?_
  refine lv_iload_n X.1 X.2.1 dL_law_629 rfl (lv_at hl 3 rfl) ?_
  refine lv_iconst (v := (1 : Int32)) X.1 X.2.1 dL_law_630 (by decide) ?_
  refine lv_iadd X.1 X.2.1 dL_law_631 ?_
  refine va_sld X.1 X.2.1 hX hbl (Nat.not_le.mpr hbl) hW.2.2.2 hi1 dL_law_632 ?_
  refine lv_aload_n X.1 X.2.1 dL_law_633 rfl (lv_at hl 0 rfl) ?_
  refine lv_iload_n X.1 X.2.1 dL_law_634 rfl (lv_at hl 3 rfl) ?_
  refine lv_iconst (v := (2 : Int32)) X.1 X.2.1 dL_law_635 (by decide) ?_
  refine lv_iadd X.1 X.2.1 dL_law_636 ?_
  refine va_sld X.1 X.2.1 hX hbl (Nat.not_le.mpr hbl) hW.2.2.2 hi2 dL_law_637 ?_
  have hM : CI 1 D cy adc l yX8_apart cX8_apart 5 (some .int) 7 [.ref (adc 0), .int (xs (x3 + (1 : Int32)).toNatClampNeg), .int (xs (x3 + (2 : Int32)).toNatClampNeg)] σc v σc' := c_X8_apart X.2.2.2.2.2.2.1 (xs (x3 + (1 : Int32)).toNatClampNeg) (xs (x3 + (2 : Int32)).toNatClampNeg) σc (v, σc') e1
  refine lc_I (As := [.int _, .int _]) X hW hM mi_X8_apart mv_X8_apart rfl lk_L_100 (by decide) (by decide) rfl hl.1 rfl (Nat.le_of_ble_eq_true rfl) dL_law_638 hcs (fun H locs hW => ?_)
  refine lv_aload_n X.1 X.2.1 dL_law_641 rfl (lv_at hl 2 rfl) ?_
  refine lv_aload_n X.1 X.2.1 dL_law_642 rfl (lv_at hl 0 rfl) ?_
  refine lv_iload_n X.1 X.2.1 dL_law_643 rfl (lv_at hl 3 rfl) ?_
  refine lv_iconst (v := (1 : Int32)) X.1 X.2.1 dL_law_644 (by decide) ?_
  refine lv_iadd X.1 X.2.1 dL_law_645 ?_
  refine va_sld X.1 X.2.1 hX hbl (Nat.not_le.mpr hbl) hW.2.2.2 hi1 dL_law_646 ?_
  refine lv_aload_n X.1 X.2.1 dL_law_647 rfl (lv_at hl 0 rfl) ?_
  refine lv_iload_n X.1 X.2.1 dL_law_648 rfl (lv_at hl 3 rfl) ?_
  refine lv_iconst (v := (2 : Int32)) X.1 X.2.1 dL_law_649 (by decide) ?_
  refine lv_iadd X.1 X.2.1 dL_law_650 ?_
  refine va_sld X.1 X.2.1 hX hbl (Nat.not_le.mpr hbl) hW.2.2.2 hi2 dL_law_651 ?_
  have hM : CI 0 D cy adr l yX9_apart cX9_apart 4 (some .int) 5 [.ref (adr 0), .int (xs (x3 + (1 : Int32)).toNatClampNeg), .int (xs (x3 + (2 : Int32)).toNatClampNeg)] σr v σr' := c_X9_apart X.2.2.2.2.2.2.2.1 (xs (x3 + (1 : Int32)).toNatClampNeg) (xs (x3 + (2 : Int32)).toNatClampNeg) σr (v, σr') e2
  refine lr_I (As := [.int _, .int _]) X hW hM mi_X9_apart mv_X9_apart rfl lk_L_103 (by decide) (by decide) rfl hl.1 rfl (Nat.le_of_ble_eq_true rfl) dL_law_652 hcs (fun H locs hW => ?_)
  refine lv_icmp_eq (tgt := 810) X.1 X.2.1 dL_law_655 (by decide) (fun _ => ?_) (fun cd => absurd rfl cd)
  exact hk σc' σr' _ _ _ hW hrel hl
theorem lk_case_21 (X : LX D cy adc adr p s m args c) (hS : S_both Rel) (hRel : Rel σc σr) (hX : va_X b L xs s s.heap) (hbl : b < s.heap.size) (hi1 : vp_in (x3 + 1) L) (hi2 : vp_in (x3 + 2) L) (hi3 : vp_in (x3 + 3) L) (hcs : cells ≤ 600000 ∧ slots ≤ 7302250) (hW : LW D cy adc adr s σc σr H locs) (hl : lv_has ls 4 [(0, .ref b), (1, .ref (adc 0)), (2, .ref (adr 0)), (3, .int x3)])
    (hk : ∀ (σc σr : Mem) (H : Heap) (locs : List Loc) (ls : Array Slot), LW D cy adc adr s σc σr H locs → Rel σc σr → lv_has ls 4 [(0, .ref b), (1, .ref (adc 0)), (2, .ref (adr 0)), (3, .int x3)] → W p l e room_1 s m args below meth c H locs cells slots Q (F0 m 810 ls [])) : W p l e room_1 s m args below meth c H locs cells slots Q (F0 m 660 ls []) := by
  obtain ⟨v, σc', σr', e1, e2, hrel⟩ := hS (xs (x3 + (1 : Int32)).toNatClampNeg) (xs (x3 + (2 : Int32)).toNatClampNeg) σc σr hRel
  refine lv_aload_n X.1 X.2.1 dL_law_660 rfl (lv_at hl 1 rfl) ?_
  refine lv_aload_n X.1 X.2.1 dL_law_661 rfl (lv_at hl 0 rfl) ?_
  refine lv_iload_n X.1 X.2.1 dL_law_662 rfl (lv_at hl 3 rfl) ?_
  refine lv_iconst (v := (1 : Int32)) X.1 X.2.1 dL_law_663 (by decide) ?_
  refine lv_iadd X.1 X.2.1 dL_law_664 ?_
  refine va_sld X.1 X.2.1 hX hbl (Nat.not_le.mpr hbl) hW.2.2.2 hi1 dL_law_665 ?_
  refine lv_aload_n X.1 X.2.1 dL_law_666 rfl (lv_at hl 0 rfl) ?_
  refine lv_iload_n X.1 X.2.1 dL_law_667 rfl (lv_at hl 3 rfl) ?_
  refine lv_iconst (v := (2 : Int32)) X.1 X.2.1 dL_law_668 (by decide) ?_
  refine lv_iadd X.1 X.2.1 dL_law_669 ?_
  refine va_sld X.1 X.2.1 hX hbl (Nat.not_le.mpr hbl) hW.2.2.2 hi2 dL_law_670 ?_
  have hM : CL 1 D cy adc l yX8_both cX8_both 8 (some .long) 7 [.ref (adc 0), .int (xs (x3 + (1 : Int32)).toNatClampNeg), .int (xs (x3 + (2 : Int32)).toNatClampNeg)] σc v σc' := c_X8_both X.2.2.2.2.2.2.1 (xs (x3 + (1 : Int32)).toNatClampNeg) (xs (x3 + (2 : Int32)).toNatClampNeg) σc (v, σc') e1
  refine lc_L (As := [.int _, .int _]) X hW hM mi_X8_both mv_X8_both rfl lk_L_104 (by decide) (by decide) rfl hl.1 rfl (Nat.le_of_ble_eq_true rfl) dL_law_671 hcs (fun H locs hW => ?_)
  refine lv_aload_n X.1 X.2.1 dL_law_674 rfl (lv_at hl 2 rfl) ?_
  refine lv_aload_n X.1 X.2.1 dL_law_675 rfl (lv_at hl 0 rfl) ?_
  refine lv_iload_n X.1 X.2.1 dL_law_676 rfl (lv_at hl 3 rfl) ?_
  refine lv_iconst (v := (1 : Int32)) X.1 X.2.1 dL_law_677 (by decide) ?_
  refine lv_iadd X.1 X.2.1 dL_law_678 ?_
  refine va_sld X.1 X.2.1 hX hbl (Nat.not_le.mpr hbl) hW.2.2.2 hi1 dL_law_679 ?_
  refine lv_aload_n X.1 X.2.1 dL_law_680 rfl (lv_at hl 0 rfl) ?_
  refine lv_iload_n X.1 X.2.1 dL_law_681 rfl (lv_at hl 3 rfl) ?_
  refine lv_iconst (v := (2 : Int32)) X.1 X.2.1 dL_law_682 (by decide) ?_
  refine lv_iadd X.1 X.2.1 dL_law_683 ?_
  refine va_sld X.1 X.2.1 hX hbl (Nat.not_le.mpr hbl) hW.2.2.2 hi2 dL_law_684 ?_
  have hM : CL 0 D cy adr l yX9_both cX9_both 4 (some .long) 5 [.ref (adr 0), .int (xs (x3 + (1 : Int32)).toNatClampNeg), .int (xs (x3 + (2 : Int32)).toNatClampNeg)] σr v σr' := c_X9_both X.2.2.2.2.2.2.2.1 (xs (x3 + (1 : Int32)).toNatClampNeg) (xs (x3 + (2 : Int32)).toNatClampNeg) σr (v, σr') e2
  refine lr_L (As := [.int _, .int _]) X hW hM mi_X9_both mv_X9_both rfl lk_L_108 (by decide) (by decide) rfl hl.1 rfl (Nat.le_of_ble_eq_true rfl) dL_law_685 hcs (fun H locs hW => ?_)
  refine W.lcmp X.1 X.2.1 dL_law_688 ?_
  refine lv_if_eq (tgt := 810) X.1 X.2.1 dL_law_689 (by decide) (fun _ => ?_) (fun cd => absurd (lg_cmp_self v) cd)
  exact hk σc' σr' _ _ _ hW hrel hl
theorem lk_case_22 (X : LX D cy adc adr p s m args c) (hS : S_mark Rel) (hRel : Rel σc σr) (hX : va_X b L xs s s.heap) (hbl : b < s.heap.size) (hi1 : vp_in (x3 + 1) L) (hi2 : vp_in (x3 + 2) L) (hi3 : vp_in (x3 + 3) L) (hcs : cells ≤ 600000 ∧ slots ≤ 7302250) (hW : LW D cy adc adr s σc σr H locs) (hl : lv_has ls 4 [(0, .ref b), (1, .ref (adc 0)), (2, .ref (adr 0)), (3, .int x3)])
    (hk : ∀ (σc σr : Mem) (H : Heap) (locs : List Loc) (ls : Array Slot), LW D cy adc adr s σc σr H locs → Rel σc σr → lv_has ls 4 [(0, .ref b), (1, .ref (adc 0)), (2, .ref (adr 0)), (3, .int x3)] → W p l e room_1 s m args below meth c H locs cells slots Q (F0 m 810 ls [])) : W p l e room_1 s m args below meth c H locs cells slots Q (F0 m 694 ls []) := by
  obtain ⟨v, σc', σr', e1, e2, hrel⟩ := hS (xs (x3 + (1 : Int32)).toNatClampNeg) (xs (x3 + (2 : Int32)).toNatClampNeg) σc σr hRel
  refine lv_aload_n X.1 X.2.1 dL_law_694 rfl (lv_at hl 1 rfl) ?_
  refine lv_aload_n X.1 X.2.1 dL_law_695 rfl (lv_at hl 0 rfl) ?_
  refine lv_iload_n X.1 X.2.1 dL_law_696 rfl (lv_at hl 3 rfl) ?_
  refine lv_iconst (v := (1 : Int32)) X.1 X.2.1 dL_law_697 (by decide) ?_
  refine lv_iadd X.1 X.2.1 dL_law_698 ?_
  refine va_sld X.1 X.2.1 hX hbl (Nat.not_le.mpr hbl) hW.2.2.2 hi1 dL_law_699 ?_
  refine lv_aload_n X.1 X.2.1 dL_law_700 rfl (lv_at hl 0 rfl) ?_
  refine lv_iload_n X.1 X.2.1 dL_law_701 rfl (lv_at hl 3 rfl) ?_
  refine lv_iconst (v := (2 : Int32)) X.1 X.2.1 dL_law_702 (by decide) ?_
  refine lv_iadd X.1 X.2.1 dL_law_703 ?_
  refine va_sld X.1 X.2.1 hX hbl (Nat.not_le.mpr hbl) hW.2.2.2 hi2 dL_law_704 ?_
  have hM : CI 1 D cy adc l yX8_mark cX8_mark 3 (some .int) 9 [.ref (adc 0), .int (xs (x3 + (1 : Int32)).toNatClampNeg), .int (xs (x3 + (2 : Int32)).toNatClampNeg)] σc v σc' := c_X8_mark X.2.2.2.2.2.2.1 (xs (x3 + (1 : Int32)).toNatClampNeg) (xs (x3 + (2 : Int32)).toNatClampNeg) σc (v, σc') e1
  refine lc_I (As := [.int _, .int _]) X hW hM mi_X8_mark mv_X8_mark rfl lk_L_109 (by decide) (by decide) rfl hl.1 rfl (Nat.le_of_ble_eq_true rfl) dL_law_705 hcs (fun H locs hW => ?_)
  refine lv_aload_n X.1 X.2.1 dL_law_708 rfl (lv_at hl 2 rfl) ?_
  refine lv_aload_n X.1 X.2.1 dL_law_709 rfl (lv_at hl 0 rfl) ?_
  refine lv_iload_n X.1 X.2.1 dL_law_710 rfl (lv_at hl 3 rfl) ?_
  refine lv_iconst (v := (1 : Int32)) X.1 X.2.1 dL_law_711 (by decide) ?_
  refine lv_iadd X.1 X.2.1 dL_law_712 ?_
  refine va_sld X.1 X.2.1 hX hbl (Nat.not_le.mpr hbl) hW.2.2.2 hi1 dL_law_713 ?_
  refine lv_aload_n X.1 X.2.1 dL_law_714 rfl (lv_at hl 0 rfl) ?_
  refine lv_iload_n X.1 X.2.1 dL_law_715 rfl (lv_at hl 3 rfl) ?_
  refine lv_iconst (v := (2 : Int32)) X.1 X.2.1 dL_law_716 (by decide) ?_
  refine lv_iadd X.1 X.2.1 dL_law_717 ?_
  refine va_sld X.1 X.2.1 hX hbl (Nat.not_le.mpr hbl) hW.2.2.2 hi2 dL_law_718 ?_
  have hM : CI 0 D cy adr l yX9_mark cX9_mark 5 (some .int) 3 [.ref (adr 0), .int (xs (x3 + (1 : Int32)).toNatClampNeg), .int (xs (x3 + (2 : Int32)).toNatClampNeg)] σr v σr' := c_X9_mark X.2.2.2.2.2.2.2.1 (xs (x3 + (1 : Int32)).toNatClampNeg) (xs (x3 + (2 : Int32)).toNatClampNeg) σr (v, σr') e2
  refine lr_I (As := [.int _, .int _]) X hW hM mi_X9_mark mv_X9_mark rfl lk_L_112 (by decide) (by decide) rfl hl.1 rfl (Nat.le_of_ble_eq_true rfl) dL_law_719 hcs (fun H locs hW => ?_)
  refine lv_icmp_eq (tgt := 810) X.1 X.2.1 dL_law_722 (by decide) (fun _ => ?_) (fun cd => absurd rfl cd)
  exact hk σc' σr' _ _ _ hW hrel hl
theorem lk_case_23 (X : LX D cy adc adr p s m args c) (hS : S_keep Rel) (hRel : Rel σc σr) (hX : va_X b L xs s s.heap) (hbl : b < s.heap.size) (hi1 : vp_in (x3 + 1) L) (hi2 : vp_in (x3 + 2) L) (hi3 : vp_in (x3 + 3) L) (hcs : cells ≤ 600000 ∧ slots ≤ 7302250) (hW : LW D cy adc adr s σc σr H locs) (hl : lv_has ls 4 [(0, .ref b), (1, .ref (adc 0)), (2, .ref (adr 0)), (3, .int x3)])
    (hk : ∀ (σc σr : Mem) (H : Heap) (locs : List Loc) (ls : Array Slot), LW D cy adc adr s σc σr H locs → Rel σc σr → lv_has ls 4 [(0, .ref b), (1, .ref (adc 0)), (2, .ref (adr 0)), (3, .int x3)] → W p l e room_1 s m args below meth c H locs cells slots Q (F0 m 810 ls [])) : W p l e room_1 s m args below meth c H locs cells slots Q (F0 m 727 ls []) := by
  obtain ⟨v, σc', σr', e1, e2, hrel⟩ := hS (xs (x3 + (1 : Int32)).toNatClampNeg) σc σr hRel
  refine lv_aload_n X.1 X.2.1 dL_law_727 rfl (lv_at hl 1 rfl) ?_
  refine lv_aload_n X.1 X.2.1 dL_law_728 rfl (lv_at hl 0 rfl) ?_
  refine lv_iload_n X.1 X.2.1 dL_law_729 rfl (lv_at hl 3 rfl) ?_
  refine lv_iconst (v := (1 : Int32)) X.1 X.2.1 dL_law_730 (by decide) ?_
  refine lv_iadd X.1 X.2.1 dL_law_731 ?_
  refine va_sld X.1 X.2.1 hX hbl (Nat.not_le.mpr hbl) hW.2.2.2 hi1 dL_law_732 ?_
  have hM : CI 1 D cy adc l yX8_keep cX8_keep 3 (some .int) 1 [.ref (adc 0), .int (xs (x3 + (1 : Int32)).toNatClampNeg)] σc v σc' := c_X8_keep X.2.2.2.2.2.2.1 (xs (x3 + (1 : Int32)).toNatClampNeg) σc (v, σc') e1
  refine lc_I (As := [.int _]) X hW hM mi_X8_keep mv_X8_keep rfl lk_L_113 (by decide) (by decide) rfl hl.1 rfl (Nat.le_of_ble_eq_true rfl) dL_law_733 hcs (fun H locs hW => ?_)
  refine lv_aload_n X.1 X.2.1 dL_law_736 rfl (lv_at hl 2 rfl) ?_
  refine lv_aload_n X.1 X.2.1 dL_law_737 rfl (lv_at hl 0 rfl) ?_
  refine lv_iload_n X.1 X.2.1 dL_law_738 rfl (lv_at hl 3 rfl) ?_
  refine lv_iconst (v := (1 : Int32)) X.1 X.2.1 dL_law_739 (by decide) ?_
  refine lv_iadd X.1 X.2.1 dL_law_740 ?_
  refine va_sld X.1 X.2.1 hX hbl (Nat.not_le.mpr hbl) hW.2.2.2 hi1 dL_law_741 ?_
  have hM : CI 0 D cy adr l yX9_keep cX9_keep 2 (some .int) 1 [.ref (adr 0), .int (xs (x3 + (1 : Int32)).toNatClampNeg)] σr v σr' := c_X9_keep X.2.2.2.2.2.2.2.1 (xs (x3 + (1 : Int32)).toNatClampNeg) σr (v, σr') e2
  refine lr_I (As := [.int _]) X hW hM mi_X9_keep mv_X9_keep rfl lk_L_116 (by decide) (by decide) rfl hl.1 rfl (Nat.le_of_ble_eq_true rfl) dL_law_742 hcs (fun H locs hW => ?_)
  refine lv_icmp_eq (tgt := 810) X.1 X.2.1 dL_law_745 (by decide) (fun _ => ?_) (fun cd => absurd rfl cd)
  exact hk σc' σr' _ _ _ hW hrel hl
theorem lk_case_24 (X : LX D cy adc adr p s m args c) (hS : S_back Rel) (hRel : Rel σc σr) (hX : va_X b L xs s s.heap) (hbl : b < s.heap.size) (hi1 : vp_in (x3 + 1) L) (hi2 : vp_in (x3 + 2) L) (hi3 : vp_in (x3 + 3) L) (hcs : cells ≤ 600000 ∧ slots ≤ 7302250) (hW : LW D cy adc adr s σc σr H locs) (hl : lv_has ls 4 [(0, .ref b), (1, .ref (adc 0)), (2, .ref (adr 0)), (3, .int x3)])
    (hk : ∀ (σc σr : Mem) (H : Heap) (locs : List Loc) (ls : Array Slot), LW D cy adc adr s σc σr H locs → Rel σc σr → lv_has ls 4 [(0, .ref b), (1, .ref (adc 0)), (2, .ref (adr 0)), (3, .int x3)] → W p l e room_1 s m args below meth c H locs cells slots Q (F0 m 810 ls [])) : W p l e room_1 s m args below meth c H locs cells slots Q (F0 m 750 ls []) := by
  obtain ⟨v, σc', σr', e1, e2, hrel⟩ := hS (xs (x3 + (1 : Int32)).toNatClampNeg) σc σr hRel
  refine lv_aload_n X.1 X.2.1 dL_law_750 rfl (lv_at hl 1 rfl) ?_
  refine lv_aload_n X.1 X.2.1 dL_law_751 rfl (lv_at hl 0 rfl) ?_
  refine lv_iload_n X.1 X.2.1 dL_law_752 rfl (lv_at hl 3 rfl) ?_
  refine lv_iconst (v := (1 : Int32)) X.1 X.2.1 dL_law_753 (by decide) ?_
  refine lv_iadd X.1 X.2.1 dL_law_754 ?_
  refine va_sld X.1 X.2.1 hX hbl (Nat.not_le.mpr hbl) hW.2.2.2 hi1 dL_law_755 ?_
  have hM : CI 1 D cy adc l yX8_back cX8_back 4 (some .int) 2 [.ref (adc 0), .int (xs (x3 + (1 : Int32)).toNatClampNeg)] σc v σc' := c_X8_back X.2.2.2.2.2.2.1 (xs (x3 + (1 : Int32)).toNatClampNeg) σc (v, σc') e1
  refine lc_I (As := [.int _]) X hW hM mi_X8_back mv_X8_back rfl lk_L_117 (by decide) (by decide) rfl hl.1 rfl (Nat.le_of_ble_eq_true rfl) dL_law_756 hcs (fun H locs hW => ?_)
  refine lv_aload_n X.1 X.2.1 dL_law_759 rfl (lv_at hl 2 rfl) ?_
  refine lv_aload_n X.1 X.2.1 dL_law_760 rfl (lv_at hl 0 rfl) ?_
  refine lv_iload_n X.1 X.2.1 dL_law_761 rfl (lv_at hl 3 rfl) ?_
  refine lv_iconst (v := (1 : Int32)) X.1 X.2.1 dL_law_762 (by decide) ?_
  refine lv_iadd X.1 X.2.1 dL_law_763 ?_
  refine va_sld X.1 X.2.1 hX hbl (Nat.not_le.mpr hbl) hW.2.2.2 hi1 dL_law_764 ?_
  have hM : CI 0 D cy adr l yX9_back cX9_back 2 (some .int) 1 [.ref (adr 0), .int (xs (x3 + (1 : Int32)).toNatClampNeg)] σr v σr' := c_X9_back X.2.2.2.2.2.2.2.1 (xs (x3 + (1 : Int32)).toNatClampNeg) σr (v, σr') e2
  refine lr_I (As := [.int _]) X hW hM mi_X9_back mv_X9_back rfl lk_L_120 (by decide) (by decide) rfl hl.1 rfl (Nat.le_of_ble_eq_true rfl) dL_law_765 hcs (fun H locs hW => ?_)
  refine lv_icmp_eq (tgt := 810) X.1 X.2.1 dL_law_768 (by decide) (fun _ => ?_) (fun cd => absurd rfl cd)
  exact hk σc' σr' _ _ _ hW hrel hl
theorem lk_case_25 (X : LX D cy adc adr p s m args c) (hS : S_count Rel) (hRel : Rel σc σr) (hX : va_X b L xs s s.heap) (hbl : b < s.heap.size) (hi1 : vp_in (x3 + 1) L) (hi2 : vp_in (x3 + 2) L) (hi3 : vp_in (x3 + 3) L) (hcs : cells ≤ 600000 ∧ slots ≤ 7302250) (hW : LW D cy adc adr s σc σr H locs) (hl : lv_has ls 4 [(0, .ref b), (1, .ref (adc 0)), (2, .ref (adr 0)), (3, .int x3)])
    (hk : ∀ (σc σr : Mem) (H : Heap) (locs : List Loc) (ls : Array Slot), LW D cy adc adr s σc σr H locs → Rel σc σr → lv_has ls 4 [(0, .ref b), (1, .ref (adc 0)), (2, .ref (adr 0)), (3, .int x3)] → W p l e room_1 s m args below meth c H locs cells slots Q (F0 m 810 ls [])) : W p l e room_1 s m args below meth c H locs cells slots Q (F0 m 773 ls []) := by
  obtain ⟨v, σc', σr', e1, e2, hrel⟩ := hS (xs (x3 + (1 : Int32)).toNatClampNeg) σc σr hRel
  refine lv_aload_n X.1 X.2.1 dL_law_773 rfl (lv_at hl 1 rfl) ?_
  refine lv_aload_n X.1 X.2.1 dL_law_774 rfl (lv_at hl 0 rfl) ?_
  refine lv_iload_n X.1 X.2.1 dL_law_775 rfl (lv_at hl 3 rfl) ?_
  refine lv_iconst (v := (1 : Int32)) X.1 X.2.1 dL_law_776 (by decide) ?_
  refine lv_iadd X.1 X.2.1 dL_law_777 ?_
  refine va_sld X.1 X.2.1 hX hbl (Nat.not_le.mpr hbl) hW.2.2.2 hi1 dL_law_778 ?_
  have hM : CI 1 D cy adc l yX8_count cX8_count 2 (some .int) 1 [.ref (adc 0), .int (xs (x3 + (1 : Int32)).toNatClampNeg)] σc v σc' := by obtain ⟨e1, e2⟩ := e1; rw [e2, ← e1]; exact c_X8_count X.2.2.2.2.2.2.1 (xs (x3 + (1 : Int32)).toNatClampNeg) σc
  refine lc_I (As := [.int _]) X hW hM mi_X8_count mv_X8_count rfl lk_L_121 (by decide) (by decide) rfl hl.1 rfl (Nat.le_of_ble_eq_true rfl) dL_law_779 hcs (fun H locs hW => ?_)
  refine lv_aload_n X.1 X.2.1 dL_law_782 rfl (lv_at hl 2 rfl) ?_
  refine lv_aload_n X.1 X.2.1 dL_law_783 rfl (lv_at hl 0 rfl) ?_
  refine lv_iload_n X.1 X.2.1 dL_law_784 rfl (lv_at hl 3 rfl) ?_
  refine lv_iconst (v := (1 : Int32)) X.1 X.2.1 dL_law_785 (by decide) ?_
  refine lv_iadd X.1 X.2.1 dL_law_786 ?_
  refine va_sld X.1 X.2.1 hX hbl (Nat.not_le.mpr hbl) hW.2.2.2 hi1 dL_law_787 ?_
  have hM : CI 0 D cy adr l yX9_count cX9_count 2 (some .int) 1 [.ref (adr 0), .int (xs (x3 + (1 : Int32)).toNatClampNeg)] σr v σr' := by obtain ⟨e1, e2⟩ := e2; rw [e2]; exact c_X9_count X.2.2.2.2.2.2.2.1 (xs (x3 + (1 : Int32)).toNatClampNeg) σr v e1
  refine lr_I (As := [.int _]) X hW hM mi_X9_count mv_X9_count rfl lk_L_124 (by decide) (by decide) rfl hl.1 rfl (Nat.le_of_ble_eq_true rfl) dL_law_788 hcs (fun H locs hW => ?_)
  refine lv_icmp_eq (tgt := 810) X.1 X.2.1 dL_law_791 (by decide) (fun _ => ?_) (fun cd => absurd rfl cd)
  exact hk σc' σr' _ _ _ hW hrel hl
theorem lk_case_26 (X : LX D cy adc adr p s m args c) (hS : S_trace Rel) (hRel : Rel σc σr) (hX : va_X b L xs s s.heap) (hbl : b < s.heap.size) (hi1 : vp_in (x3 + 1) L) (hi2 : vp_in (x3 + 2) L) (hi3 : vp_in (x3 + 3) L) (hcs : cells ≤ 600000 ∧ slots ≤ 7302250) (hW : LW D cy adc adr s σc σr H locs) (hl : lv_has ls 4 [(0, .ref b), (1, .ref (adc 0)), (2, .ref (adr 0)), (3, .int x3)])
    (hk : ∀ (σc σr : Mem) (H : Heap) (locs : List Loc) (ls : Array Slot), LW D cy adc adr s σc σr H locs → Rel σc σr → lv_has ls 4 [(0, .ref b), (1, .ref (adc 0)), (2, .ref (adr 0)), (3, .int x3)] → W p l e room_1 s m args below meth c H locs cells slots Q (F0 m 810 ls [])) : W p l e room_1 s m args below meth c H locs cells slots Q (F0 m 796 ls []) := by
  obtain ⟨v, σc', σr', e1, e2, hrel⟩ := hS  σc σr hRel
  refine lv_aload_n X.1 X.2.1 dL_law_796 rfl (lv_at hl 1 rfl) ?_
  have hM : CL 1 D cy adc l yX8_trace cX8_trace 1 (some .long) 0 [.ref (adc 0)] σc v σc' := by obtain ⟨e1, e2⟩ := e1; rw [e2, ← e1]; exact c_X8_trace X.2.2.2.2.2.2.1  σc
  refine lc_L (As := []) X hW hM mi_X8_trace mv_X8_trace rfl lk_L_125 (by decide) (by decide) rfl hl.1 rfl (Nat.le_of_ble_eq_true rfl) dL_law_797 hcs (fun H locs hW => ?_)
  refine lv_aload_n X.1 X.2.1 dL_law_800 rfl (lv_at hl 2 rfl) ?_
  have hM : CL 0 D cy adr l yX9_trace cX9_trace 1 (some .long) 0 [.ref (adr 0)] σr v σr' := by obtain ⟨e1, e2⟩ := e2; rw [e2, ← e1]; exact c_X9_trace X.2.2.2.2.2.2.2.1  σr
  refine lr_L (As := []) X hW hM mi_X9_trace mv_X9_trace rfl lk_L_129 (by decide) (by decide) rfl hl.1 rfl (Nat.le_of_ble_eq_true rfl) dL_law_801 hcs (fun H locs hW => ?_)
  refine W.lcmp X.1 X.2.1 dL_law_804 ?_
  refine lv_if_eq (tgt := 810) X.1 X.2.1 dL_law_805 (by decide) (fun _ => ?_) (fun cd => absurd (lg_cmp_self v) cd)
  exact hk σc' σr' _ _ _ hW hrel hl
end LK
/-! THE CLAIM OUT OF ONE WALK OF THE LAW'S BODY. Your part is whole_start (and what it stands on); all else here is the same for every law, but numbers. -/
def R_law : String := "TreeBecomesLaw"
def lw_P (b : Addr) (xs : List Int32) (args : Array Value) (s : State) : Prop := args = #[.ref b] ∧ s.IntsAt b xs ∧ xs.length ≤ 2048 ∧ (Jvm.Cond.and given_1 narrow_1).before args s = true
def lw_Q (_ : Array Value) (s : State) (o : Outcome) (t : State) : Prop := o = .returned (some (.int 1)) ∧ Framed s o t [] 600000 7302250
def lw_Z (below : List Frame) (a : Array Value) (s : State) : State → Prop := fun t => ∃ o, t.status = .running ∧ Ended t below o ∧ lw_Q a s o t
/-- the law's own end, with 1 on the stack, nothing written that was there before, its room as the claim has it -/
theorem lw_ret {p : Program} {l : Launch} {e : Env} {s : State} {m : MethodId} {below : List Frame} {meth : Method} {c : Code} {b : Nat} (hx : p.tables.exec = Jvm.exec) (hb : c.code = code) (hr : meth.sig.returnType = ret) (hlocks : meth.locks = false) {pc : Nat} {H : Heap} {ls : Array Slot} (hdg : decode code pc = .ok (.ireturn, 1)) : W p l e room_1 s m #[Value.ref b] below meth c H [] 600000 7302250 (lw_Z below #[Value.ref b] s) (F0 m pc ls [.int 1]) := by
  intro T hT X
  obtain ⟨fs, hret, hrun, hended, hW, hframe⟩ := X.leave (v := some (.int 1)) (hlocks := hlocks) (fun h => by rw [hr] at h; cases h)
  have hmeth' : T.vm.method? m = some meth := X.method'
  refine ⟨T.setFrames fs, ?_, .returned (some (.int 1)), hrun, hended, rfl, ⟨_, rfl⟩, hW, hframe⟩
  jvm_step X.here [X.here.top, hx, hb, hdg, hmeth', hr, ret, narrow_b1]
  (try refine ⟨rfl, ?_⟩); (try refine ⟨rfl, ?_⟩)
  first | (intro acts; rw [hret _ acts rfl rfl rfl]) | rw [hret _ _ rfl rfl rfl]
  exact Steps.refl _
/-- what holds at the law's entry: the machine, the code, the tables' words (any of lw_tbl by 'hts w (by decide +kernel)'), the script of L ints xs at the cell b, what the Statement gives of the start (any of its parts by flat_of_before) -/
def lw_At (p : Program) (s : State) (m : MethodId) (meth : Method) (c : Code) (b L : Nat) (xs : Nat → Int32) : Prop :=
  p.tables.exec = Jvm.exec ∧ c.code = code ∧ meth.sig.returnType = ret ∧ c.maxLocals = 4 ∧ s.vm.findClass R_law = some m.cls ∧ (∀ w ∈ lw_tbl, w.before #[Value.ref b] s = true) ∧ va_X b L xs s s.heap ∧ b < s.heap.size ∧ meth.locks = false ∧ (Jvm.Cond.and given_1 narrow_1).before #[Value.ref b] s = true
theorem law_sub {L : Nat} (hL : L ≤ 2048) : (Int32.ofNat L - 4).toInt = (L : Int) - 4 := by
  have h := pk_sub_toInt (a := L) (b := 4) (by omega) (by omega)
  exact h
theorem law_gt {x3 : Int32} {i L : Nat} (hx : x3 = nI i) (hL : L ≤ 2048) (hi : i ≤ 2052) (h : L < i + 4) : Int32.ofNat L - 4 < x3 := by
  rw [Int32.lt_iff_toInt_lt, law_sub hL, hx, nI_toInt (by omega)]
  omega
theorem law_le {x3 : Int32} {i L : Nat} (hx : x3 = nI i) (hL : L ≤ 2048) (hi : i ≤ 2052) (h : ¬ Int32.ofNat L - 4 < x3) : i + 4 ≤ L := by
  by_cases hh : i + 4 ≤ L
  · exact hh
  · exact absurd (law_gt hx hL hi (by omega)) h
theorem vp_at {x3 : Int32} {i L k : Nat} {z : Int32} (hx : x3 = nI i) (hz : z = nI k) (h : i + k < L) (hL : L ≤ 2048) : vp_in (x3 + z) L := by
  rw [hx, hz, nI_add]
  exact vp_in_nI h (by omega)
set_option maxRecDepth 20000 in
theorem law_loop {Rel : Mem → Mem → Prop} {D : va_G} {cy : Nat → ClassId} {adc adr : Nat → Nat} {p : Program} {l : Launch} {e : Env} {s : State} {m : MethodId} {below : List Frame} {meth : Method} {c : Code} {cells slots : Nat} {b L : Nat} {xs : Nat → Int32} (X : LX D cy adc adr p s m #[Value.ref b] c) (hS : SimAll Rel) (hr : meth.sig.returnType = ret) (hlk : meth.locks = false) (hX : va_X b L xs s s.heap) (hbl : b < s.heap.size) (hL : L ≤ 2048) (hcs : cells ≤ 600000 ∧ slots ≤ 7302250) :
    ∀ (n i : Nat), L + 4 < n + i → i ≤ 2052 → ∀ (σc σr : Mem) (H : Heap) (locs : List Loc) (ls : Array Slot) (x3 : Int32), x3 = nI i → LW D cy adc adr s σc σr H locs → Rel σc σr → lv_has ls 4 [(0, .ref b), (1, .ref (adc 0)), (2, .ref (adr 0)), (3, .int x3)] → W p l e room_1 s m #[Value.ref b] below meth c H locs cells slots (lw_Z below #[Value.ref b] s) (F0 m 18 ls []) := by
  intro n
  induction n with
  | zero =>
    intro i h1 h2 σc σr H locs ls x3 hx3 hW hRel hl
    have hbA : ¬ (fun q : Nat => s.heap.size ≤ q) b := Nat.not_le.mpr hbl
    refine lv_iload_n X.1 X.2.1 dL_law_18 rfl (lv_at hl 3 rfl) ?_
    refine lv_aload_n X.1 X.2.1 dL_law_19 rfl (lv_at hl 0 rfl) ?_
    refine va_slen X.1 X.2.1 hX hbl hbA hW.2.2.2 dL_law_20 ?_
    refine lv_iconst (v := (4 : Int32)) X.1 X.2.1 dL_law_21 (by decide) ?_
    refine lv_isub X.1 X.2.1 dL_law_22 ?_
    refine lv_icmp_gt (tgt := 816) X.1 X.2.1 dL_law_23 (by decide) (fun _ => ?_) (fun cd => absurd (law_gt hx3 hL h2 (by omega)) cd)
    refine lv_iconst (v := (1 : Int32)) X.1 X.2.1 dL_law_816 (by decide) ?_
    refine va_forget hW.2.2.2.2.2 ?_
    refine W.widen (k := 600000) (n := 7302250) hcs.1 hcs.2 ?_
    exact lw_ret X.1 X.2.1 hr hlk dL_law_817
  | succ n ih =>
    intro i h1 h2 σc σr H locs ls x3 hx3 hW hRel hl
    have hbA : ¬ (fun q : Nat => s.heap.size ≤ q) b := Nat.not_le.mpr hbl
    refine lv_iload_n X.1 X.2.1 dL_law_18 rfl (lv_at hl 3 rfl) ?_
    refine lv_aload_n X.1 X.2.1 dL_law_19 rfl (lv_at hl 0 rfl) ?_
    refine va_slen X.1 X.2.1 hX hbl hbA hW.2.2.2 dL_law_20 ?_
    refine lv_iconst (v := (4 : Int32)) X.1 X.2.1 dL_law_21 (by decide) ?_
    refine lv_isub X.1 X.2.1 dL_law_22 ?_
    refine lv_icmp_gt (tgt := 816) X.1 X.2.1 dL_law_23 (by decide) (fun _ => ?_) (fun cd => ?_)
    · refine lv_iconst (v := (1 : Int32)) X.1 X.2.1 dL_law_816 (by decide) ?_
      refine va_forget hW.2.2.2.2.2 ?_
      refine W.widen (k := 600000) (n := 7302250) hcs.1 hcs.2 ?_
      exact lw_ret X.1 X.2.1 hr hlk dL_law_817
    · have hle : i + 4 ≤ L := law_le hx3 hL h2 cd
      have hi0 : vp_in x3 L := by rw [hx3]; exact vp_in_nI (by omega) (by omega)
      have hi1 : vp_in (x3 + 1) L := vp_at (k := 1) hx3 rfl (by omega) hL
      have hi2 : vp_in (x3 + 2) L := vp_at (k := 2) hx3 rfl (by omega) hL
      have hi3 : vp_in (x3 + 3) L := vp_at (k := 3) hx3 rfl (by omega) hL
      have hk : ∀ (σc σr : Mem) (H : Heap) (locs : List Loc) (ls : Array Slot), LW D cy adc adr s σc σr H locs → Rel σc σr → lv_has ls 4 [(0, .ref b), (1, .ref (adc 0)), (2, .ref (adr 0)), (3, .int x3)] → W p l e room_1 s m #[Value.ref b] below meth c H locs cells slots (lw_Z below #[Value.ref b] s) (F0 m 810 ls []) := by
        intro σc σr H locs ls hW hRel hl
        refine lv_iinc (v := x3 + 4) (lv' := [(3, .int _), (0, .ref _), (1, .ref _), (2, .ref _)]) X.1 X.2.1 dL_law_810 hl (k := 3) rfl rfl (by decide) rfl (fun ls hl => ?_)
        refine lv_goto (tgt := 18) X.1 X.2.1 dL_law_813 (by decide) ?_
        exact ih (i + 4) (by omega) (by omega) σc σr H locs ls (x3 + 4) (by rw [hx3]; exact nI_add i 4) hW hRel (lv_sub hl [1, 2, 3, 0] rfl)
      refine lv_aload_n X.1 X.2.1 dL_law_26 rfl (lv_at hl 0 rfl) ?_
      refine lv_iload_n X.1 X.2.1 dL_law_27 rfl (lv_at hl 3 rfl) ?_
      refine va_sld X.1 X.2.1 hX hbl hbA hW.2.2.2 hi0 dL_law_28 ?_
      refine lv_bipush (v := (31 : Int32)) X.1 X.2.1 dL_law_29 (by decide) ?_
      refine lv_iand X.1 X.2.1 dL_law_31 ?_
      generalize xs x3.toNatClampNeg &&& (31 : Int32) = t
      by_cases cd0 : t = 0
      · subst cd0
        refine lv_tableIn (tgt := 156) X.1 X.2.1 dL_law_32 (by decide) (by decide) rfl (by decide) ?_
        exact lk_case_0 X (hS.1) hRel hX hbl hi1 hi2 hi3 hcs hW hl hk
      by_cases cd1 : t = 1
      · subst cd1
        refine lv_tableIn (tgt := 219) X.1 X.2.1 dL_law_32 (by decide) (by decide) rfl (by decide) ?_
        exact lk_case_1 X (hS.2.1) hRel hX hbl hi1 hi2 hi3 hcs hW hl hk
      by_cases cd2 : t = 2
      · subst cd2
        refine lv_tableIn (tgt := 232) X.1 X.2.1 dL_law_32 (by decide) (by decide) rfl (by decide) ?_
        exact lk_case_2 X (hS.2.2.1) hRel hX hbl hi1 hi2 hi3 hcs hW hl hk
      by_cases cd3 : t = 3
      · subst cd3
        refine lv_tableIn (tgt := 245) X.1 X.2.1 dL_law_32 (by decide) (by decide) rfl (by decide) ?_
        exact lk_case_3 X (hS.2.2.2.1) hRel hX hbl hi1 hi2 hi3 hcs hW hl hk
      by_cases cd4 : t = 4
      · subst cd4
        refine lv_tableIn (tgt := 258) X.1 X.2.1 dL_law_32 (by decide) (by decide) rfl (by decide) ?_
        exact lk_case_4 X (hS.2.2.2.2.1) hRel hX hbl hi1 hi2 hi3 hcs hW hl hk
      by_cases cd5 : t = 5
      · subst cd5
        refine lv_tableIn (tgt := 291) X.1 X.2.1 dL_law_32 (by decide) (by decide) rfl (by decide) ?_
        exact lk_case_5 X (hS.2.2.2.2.2.1) hRel hX hbl hi1 hi2 hi3 hcs hW hl hk
      by_cases cd6 : t = 6
      · subst cd6
        refine lv_tableIn (tgt := 324) X.1 X.2.1 dL_law_32 (by decide) (by decide) rfl (by decide) ?_
        exact lk_case_6 X (hS.2.2.2.2.2.2.1) hRel hX hbl hi1 hi2 hi3 hcs hW hl hk
      by_cases cd7 : t = 7
      · subst cd7
        refine lv_tableIn (tgt := 357) X.1 X.2.1 dL_law_32 (by decide) (by decide) rfl (by decide) ?_
        exact lk_case_7 X (hS.2.2.2.2.2.2.2.1) hRel hX hbl hi1 hi2 hi3 hcs hW hl hk
      by_cases cd8 : t = 8
      · subst cd8
        refine lv_tableIn (tgt := 390) X.1 X.2.1 dL_law_32 (by decide) (by decide) rfl (by decide) ?_
        exact lk_case_8 X (hS.2.2.2.2.2.2.2.2.1) hRel hX hbl hi1 hi2 hi3 hcs hW hl hk
      by_cases cd9 : t = 9
      · subst cd9
        refine lv_tableIn (tgt := 423) X.1 X.2.1 dL_law_32 (by decide) (by decide) rfl (by decide) ?_
        exact lk_case_9 X (hS.2.2.2.2.2.2.2.2.2.1) hRel hX hbl hi1 hi2 hi3 hcs hW hl hk
      by_cases cd10 : t = 10
      · subst cd10
        refine lv_tableIn (tgt := 446) X.1 X.2.1 dL_law_32 (by decide) (by decide) rfl (by decide) ?_
        exact lk_case_10 X (hS.2.2.2.2.2.2.2.2.2.2.1) hRel hX hbl hi1 hi2 hi3 hcs hW hl hk
      by_cases cd11 : t = 11
      · subst cd11
        refine lv_tableIn (tgt := 459) X.1 X.2.1 dL_law_32 (by decide) (by decide) rfl (by decide) ?_
        exact lk_case_11 X (hS.2.2.2.2.2.2.2.2.2.2.2.1) hRel hX hbl hi1 hi2 hi3 hcs hW hl hk
      by_cases cd12 : t = 12
      · subst cd12
        refine lv_tableIn (tgt := 472) X.1 X.2.1 dL_law_32 (by decide) (by decide) rfl (by decide) ?_
        exact lk_case_12 X (hS.2.2.2.2.2.2.2.2.2.2.2.2.1) hRel hX hbl hi1 hi2 hi3 hcs hW hl hk
      by_cases cd13 : t = 13
      · subst cd13
        refine lv_tableIn (tgt := 495) X.1 X.2.1 dL_law_32 (by decide) (by decide) rfl (by decide) ?_
        exact lk_case_13 X (hS.2.2.2.2.2.2.2.2.2.2.2.2.2.1) hRel hX hbl hi1 hi2 hi3 hcs hW hl hk
      by_cases cd14 : t = 14
      · subst cd14
        refine lv_tableIn (tgt := 518) X.1 X.2.1 dL_law_32 (by decide) (by decide) rfl (by decide) ?_
        exact lk_case_14 X (hS.2.2.2.2.2.2.2.2.2.2.2.2.2.2.1) hRel hX hbl hi1 hi2 hi3 hcs hW hl hk
      by_cases cd15 : t = 15
      · subst cd15
        refine lv_tableIn (tgt := 531) X.1 X.2.1 dL_law_32 (by decide) (by decide) rfl (by decide) ?_
        exact lk_case_15 X (hS.2.2.2.2.2.2.2.2.2.2.2.2.2.2.2.1) hRel hX hbl hi1 hi2 hi3 hcs hW hl hk
      by_cases cd16 : t = 16
      · subst cd16
        refine lv_tableIn (tgt := 544) X.1 X.2.1 dL_law_32 (by decide) (by decide) rfl (by decide) ?_
        exact lk_case_16 X (hS.2.2.2.2.2.2.2.2.2.2.2.2.2.2.2.2.1) hRel hX hbl hi1 hi2 hi3 hcs hW hl hk
      by_cases cd17 : t = 17
      · subst cd17
        refine lv_tableIn (tgt := 557) X.1 X.2.1 dL_law_32 (by decide) (by decide) rfl (by decide) ?_
        exact lk_case_17 X (hS.2.2.2.2.2.2.2.2.2.2.2.2.2.2.2.2.2.1) hRel hX hbl hi1 hi2 hi3 hcs hW hl hk
      by_cases cd18 : t = 18
      · subst cd18
        refine lv_tableIn (tgt := 580) X.1 X.2.1 dL_law_32 (by decide) (by decide) rfl (by decide) ?_
        exact lk_case_18 X (hS.2.2.2.2.2.2.2.2.2.2.2.2.2.2.2.2.2.2.1) hRel hX hbl hi1 hi2 hi3 hcs hW hl hk
      by_cases cd19 : t = 19
      · subst cd19
        refine lv_tableIn (tgt := 604) X.1 X.2.1 dL_law_32 (by decide) (by decide) rfl (by decide) ?_
        exact lk_case_19 X (hS.2.2.2.2.2.2.2.2.2.2.2.2.2.2.2.2.2.2.2.1) hRel hX hbl hi1 hi2 hi3 hcs hW hl hk
      by_cases cd20 : t = 20
      · subst cd20
        refine lv_tableIn (tgt := 627) X.1 X.2.1 dL_law_32 (by decide) (by decide) rfl (by decide) ?_
        exact lk_case_20 X (hS.2.2.2.2.2.2.2.2.2.2.2.2.2.2.2.2.2.2.2.2.1) hRel hX hbl hi1 hi2 hi3 hcs hW hl hk
      by_cases cd21 : t = 21
      · subst cd21
        refine lv_tableIn (tgt := 660) X.1 X.2.1 dL_law_32 (by decide) (by decide) rfl (by decide) ?_
        exact lk_case_21 X (hS.2.2.2.2.2.2.2.2.2.2.2.2.2.2.2.2.2.2.2.2.2.1) hRel hX hbl hi1 hi2 hi3 hcs hW hl hk
      by_cases cd22 : t = 22
      · subst cd22
        refine lv_tableIn (tgt := 694) X.1 X.2.1 dL_law_32 (by decide) (by decide) rfl (by decide) ?_
        exact lk_case_22 X (hS.2.2.2.2.2.2.2.2.2.2.2.2.2.2.2.2.2.2.2.2.2.2.1) hRel hX hbl hi1 hi2 hi3 hcs hW hl hk
      by_cases cd23 : t = 23
      · subst cd23
        refine lv_tableIn (tgt := 727) X.1 X.2.1 dL_law_32 (by decide) (by decide) rfl (by decide) ?_
        exact lk_case_23 X (hS.2.2.2.2.2.2.2.2.2.2.2.2.2.2.2.2.2.2.2.2.2.2.2.1) hRel hX hbl hi1 hi2 hi3 hcs hW hl hk
      by_cases cd24 : t = 24
      · subst cd24
        refine lv_tableIn (tgt := 750) X.1 X.2.1 dL_law_32 (by decide) (by decide) rfl (by decide) ?_
        exact lk_case_24 X (hS.2.2.2.2.2.2.2.2.2.2.2.2.2.2.2.2.2.2.2.2.2.2.2.2.1) hRel hX hbl hi1 hi2 hi3 hcs hW hl hk
      by_cases cd25 : t = 25
      · subst cd25
        refine lv_tableIn (tgt := 773) X.1 X.2.1 dL_law_32 (by decide) (by decide) rfl (by decide) ?_
        exact lk_case_25 X (hS.2.2.2.2.2.2.2.2.2.2.2.2.2.2.2.2.2.2.2.2.2.2.2.2.2.1) hRel hX hbl hi1 hi2 hi3 hcs hW hl hk
      by_cases cd26 : t = 26
      · subst cd26
        refine lv_tableIn (tgt := 796) X.1 X.2.1 dL_law_32 (by decide) (by decide) rfl (by decide) ?_
        exact lk_case_26 X (hS.2.2.2.2.2.2.2.2.2.2.2.2.2.2.2.2.2.2.2.2.2.2.2.2.2.2) hRel hX hbl hi1 hi2 hi3 hcs hW hl hk
      have cn0 := ne_toInt cd0
      have cn1 := ne_toInt cd1
      have cn2 := ne_toInt cd2
      have cn3 := ne_toInt cd3
      have cn4 := ne_toInt cd4
      have cn5 := ne_toInt cd5
      have cn6 := ne_toInt cd6
      have cn7 := ne_toInt cd7
      have cn8 := ne_toInt cd8
      have cn9 := ne_toInt cd9
      have cn10 := ne_toInt cd10
      have cn11 := ne_toInt cd11
      have cn12 := ne_toInt cd12
      have cn13 := ne_toInt cd13
      have cn14 := ne_toInt cd14
      have cn15 := ne_toInt cd15
      have cn16 := ne_toInt cd16
      have cn17 := ne_toInt cd17
      have cn18 := ne_toInt cd18
      have cn19 := ne_toInt cd19
      have cn20 := ne_toInt cd20
      have cn21 := ne_toInt cd21
      have cn22 := ne_toInt cd22
      have cn23 := ne_toInt cd23
      have cn24 := ne_toInt cd24
      have cn25 := ne_toInt cd25
      have cn26 := ne_toInt cd26
      refine lv_tableOut (tgt := 810) X.1 X.2.1 dL_law_32 (by simp only [show (0 : Int32).toInt = 0 from by decide, show (1 : Int32).toInt = 1 from by decide, show (2 : Int32).toInt = 2 from by decide, show (3 : Int32).toInt = 3 from by decide, show (4 : Int32).toInt = 4 from by decide, show (5 : Int32).toInt = 5 from by decide, show (6 : Int32).toInt = 6 from by decide, show (7 : Int32).toInt = 7 from by decide, show (8 : Int32).toInt = 8 from by decide, show (9 : Int32).toInt = 9 from by decide, show (10 : Int32).toInt = 10 from by decide, show (11 : Int32).toInt = 11 from by decide, show (12 : Int32).toInt = 12 from by decide, show (13 : Int32).toInt = 13 from by decide, show (14 : Int32).toInt = 14 from by decide, show (15 : Int32).toInt = 15 from by decide, show (16 : Int32).toInt = 16 from by decide, show (17 : Int32).toInt = 17 from by decide, show (18 : Int32).toInt = 18 from by decide, show (19 : Int32).toInt = 19 from by decide, show (20 : Int32).toInt = 20 from by decide, show (21 : Int32).toInt = 21 from by decide, show (22 : Int32).toInt = 22 from by decide, show (23 : Int32).toInt = 23 from by decide, show (24 : Int32).toInt = 24 from by decide, show (25 : Int32).toInt = 25 from by decide, show (26 : Int32).toInt = 26 from by decide] at cn0 cn1 cn2 cn3 cn4 cn5 cn6 cn7 cn8 cn9 cn10 cn11 cn12 cn13 cn14 cn15 cn16 cn17 cn18 cn19 cn20 cn21 cn22 cn23 cn24 cn25 cn26; omega) (by decide) ?_
      exact hk σc σr H locs ls hW hRel hl
