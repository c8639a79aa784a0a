/-! text that is built: the methods that do not reach the builder's own appends -/
theorem yv_J8_newLength : gYS yJ8_newLength_cabcc cJ8_newLength_cabcc 4 (some .int) 3 := ⟨u_3_203, u_1_22, u_3_204, ⟨by decide +kernel, by decide +kernel, by decide +kernel⟩, by decide⟩
theorem yu_J5_newCapacity : jYU yJ5_newCapacity_0f7a4 cJ5_newCapacity_0f7a4 6 (some .int) 1 := ⟨u_3_200, u_7_48, u_1_18, u_3_201, ⟨by decide +kernel, by decide +kernel, by decide +kernel⟩, by decide⟩
theorem yv_J7_copyOf : gYS yJ7_copyOf_9075b cJ7_copyOf_9075b 3 (some (.array .byte)) 2 := ⟨u_3_214, u_1_3, u_3_215, ⟨by decide +kernel, by decide +kernel, by decide +kernel⟩, by decide⟩
theorem yu_J5_isLatin1 : jYU yJ5_isLatin1_aae02 cJ5_isLatin1_aae02 1 (some .boolean) 0 := ⟨u_3_226, u_3_227, u_1_18, u_3_229, ⟨by decide +kernel, by decide +kernel, by decide +kernel⟩, by decide⟩
theorem yv_J1_canEncode : gYS yJ1_canEncode_fc78d cJ1_canEncode_fc78d 1 (some .boolean) 1 := ⟨u_4_37, u_1_24, u_4_38, ⟨by decide +kernel, by decide +kernel, by decide +kernel⟩, by decide⟩
theorem yv_J6_stringSize : gYS yJ6_stringSize_0f7a4 cJ6_stringSize_0f7a4 4 (some .int) 1 := ⟨u_3_192, u_1_16, u_3_193, ⟨by decide +kernel, by decide +kernel, by decide +kernel⟩, by decide⟩
theorem yv_J6_getChars : gYS yJ6_getChars_ba4f3 cJ6_getChars_ba4f3 7 (some .int) 3 := ⟨u_3_231, u_1_16, u_3_232, ⟨by decide +kernel, by decide +kernel, by decide +kernel⟩, by decide⟩
theorem yu_J5_ens : jYU yJ5_ensureCapacityInternal_d00df cJ5_ensureCapacityInternal_d00df 3 (none) 1 := ⟨u_3_196, u_7_47, u_1_18, u_3_197, ⟨by decide +kernel, by decide +kernel, by decide +kernel⟩, by decide⟩
theorem yu_J5_appC : jYU yJ5_append_3fe6f cJ5_append_3fe6f 2 (some (.object "java/lang/AbstractStringBuilder")) 1 := ⟨u_4_34, u_7_49, u_1_18, u_4_35, ⟨by decide +kernel, by decide +kernel, by decide +kernel⟩, by decide⟩
theorem yu_J5_appI : jYU yJ5_append_c97b9 cJ5_append_c97b9 4 (some (.object "java/lang/AbstractStringBuilder")) 1 := ⟨u_3_189, u_7_46, u_1_18, u_3_190, ⟨by decide +kernel, by decide +kernel, by decide +kernel⟩, by decide⟩
theorem yv_J4_appC : gYV yJ4_append_cf468 cJ4_append_cf468 2 (some (.object "java/lang/StringBuilder")) 1 := ⟨u_4_30, u_4_31, u_1_19, u_4_32, ⟨by decide +kernel, by decide +kernel, by decide +kernel⟩, by decide⟩
theorem yv_J4_appI : gYV yJ4_append_bf812 cJ4_append_bf812 2 (some (.object "java/lang/StringBuilder")) 1 := ⟨u_3_185, u_3_186, u_1_19, u_3_187, ⟨by decide +kernel, by decide +kernel, by decide +kernel⟩, by decide⟩
theorem yi_J5_init : jYI yJ5_init_d00df cJ5_init_d00df 2 1 := ⟨u_3_160, u_1_18, u_3_161, ⟨by decide +kernel, by decide +kernel, by decide +kernel⟩, by decide, rfl⟩
theorem yi_J4_init : jYI yJ4_init_da8c8 cJ4_init_da8c8 1 0 := ⟨u_3_157, u_1_19, u_3_158, ⟨by decide +kernel, by decide +kernel, by decide +kernel⟩, by decide, rfl⟩
theorem yu_J5_length : jYU yJ5_length_8abf5 cJ5_length_8abf5 1 (some .int) 0 := ⟨u_4_75, u_7_51, u_1_18, u_4_76, ⟨by decide +kernel, by decide +kernel, by decide +kernel⟩, by decide⟩
theorem yv_J4_length : gYV yJ4_length_8abf5 cJ4_length_8abf5 1 (some .int) 0 := ⟨u_4_71, u_4_72, u_1_19, u_4_73, ⟨by decide +kernel, by decide +kernel, by decide +kernel⟩, by decide⟩
theorem yu_J5_charAt : jYU yJ5_charAt_5068e cJ5_charAt_5068e 5 (some .char) 1 := ⟨u_4_82, u_7_52, u_1_18, u_4_83, ⟨by decide +kernel, by decide +kernel, by decide +kernel⟩, by decide⟩
theorem yv_J4_charAt : gYV yJ4_charAt_5068e cJ4_charAt_5068e 2 (some .char) 1 := ⟨u_4_78, u_4_79, u_1_19, u_4_80, ⟨by decide +kernel, by decide +kernel, by decide +kernel⟩, by decide⟩
theorem yv_J0_checkIndex : gYS yJ0_checkIndex_df160 cJ0_checkIndex_df160 2 (none) 2 := ⟨u_4_65, u_1_20, u_4_66, ⟨by decide +kernel, by decide +kernel, by decide +kernel⟩, by decide⟩
theorem yv_J3_checkIndex : gYS yJ3_checkIndex_8e157 cJ3_checkIndex_8e157 3 (some .int) 3 := ⟨u_4_68, u_1_23, u_4_69, ⟨by decide +kernel, by decide +kernel, by decide +kernel⟩, by decide⟩
theorem yv_X3_textOf : gYV yX3_textOf cX3_textOf 5 (some (.object "java/lang/StringBuilder")) 1 := ⟨u_3_151, u_3_152, u_1_2, u_3_153, ⟨by decide +kernel, by decide +kernel, by decide +kernel⟩, by decide⟩
set_option maxHeartbeats 4000000 in
set_option maxRecDepth 100000 in
theorem c8_newLength (l : Launch) {γ : GA} {sz : Nat} {wb : va_W} {x : Int32} (hx1 : (if x < 18 then (18 : Int32) else x) = 18) : Met l yJ8_newLength_cabcc (gU yJ8_newLength_cabcc cJ8_newLength_cabcc 4 (some .int)) (gR 1 0 0) (jPc γ [.int 16, .int x, .int 18] sz (wb)) (jK γ (va_A (wb) sz) 34 wb) 0 0 (va_A (wb) sz) := by
  refine j_met (fun A => jK γ A 34 wb) (by decide) (Nat.le_of_ble_eq_true rfl) ?_
  intro p e s m args below meth c ls A hAe hmn hC hZ hA hP hD hS hl
  have hx := hC.x
  have hb := hC.b
  have hl : lv_has ls 4 [(0, .int 16), (1, .int x), (2, .int 18)] := hl
  refine lv_iload_n hx hb dJ8_newLength_cabcc_0 rfl (lv_at hl 0 rfl) ?_
  refine lv_iload_n hx hb dJ8_newLength_cabcc_1 rfl (lv_at hl 1 rfl) ?_
  refine lv_iload_n hx hb dJ8_newLength_cabcc_2 rfl (lv_at hl 2 rfl) ?_
  refine va_mmax hx hb (hC.1.2.2.1.trans hl.1.symm) hC.o (hC.w u_3_205) (hC.w u_3_206) (hC.w u_1_14) (hC.w u_3_207) (Nat.le_of_ble_eq_true rfl) (Nat.le_of_ble_eq_true rfl) (Nat.le_of_ble_eq_true rfl) (Nat.le_of_ble_eq_true rfl) dJ8_newLength_cabcc_3 ?_
  refine lv_topi (fun y9 e9 => ?_)
  obtain rfl : y9 = 18 := e9.trans (hx1)
  clear e9
  refine lv_iadd hx hb dJ8_newLength_cabcc_6 ?_
  refine lv_topi (fun y9 e9 => ?_)
  obtain rfl : y9 = 34 := e9.trans (by decide)
  clear e9
  refine lv_istore_n (lv' := [(3, .int 34), (0, .int 16), (1, .int x), (2, .int 18)]) hx hb dJ8_newLength_cabcc_7 rfl hl (by decide) rfl (fun ls hl => ?_)
  refine lv_iconst (v := 0) hx hb dJ8_newLength_cabcc_8 (by decide) ?_
  refine lv_iload_n hx hb dJ8_newLength_cabcc_9 rfl (lv_at hl 0 rfl) ?_
  refine lv_icmp_ge (tgt := 21) hx hb dJ8_newLength_cabcc_10 (by decide) (fun c9 => absurd c9 (by decide)) (fun c9 => ?_)
  refine lv_iload_n hx hb dJ8_newLength_cabcc_13 rfl (lv_at hl 0 rfl) ?_
  refine lv_ldc (v := 2147483639) hx hb hC.o (hC.w u_3_208) dJ8_newLength_cabcc_14 ?_
  refine lv_icmp_gt (tgt := 21) hx hb dJ8_newLength_cabcc_16 (by decide) (fun c9 => absurd c9 (by decide)) (fun c9 => ?_)
  refine lv_iload_n hx hb dJ8_newLength_cabcc_19 rfl (lv_at hl 0 rfl) ?_
  exact j_iret hC hP hD hS dJ8_newLength_cabcc_20 rfl
set_option maxHeartbeats 4000000 in
set_option maxRecDepth 100000 in
theorem c5_newCapacity (l : Launch) {γ : GA} {sz : Nat} {o v n k : Nat} {f : Nat → Int32} (hk : k < 35) (hk1 : 16 < k) : Met l yJ5_newCapacity_0f7a4 (gU yJ5_newCapacity_0f7a4 cJ5_newCapacity_0f7a4 6 (some .int)) (gR 2 0 0) (jPc γ [.ref o, .int (nI k)] sz (jw γ o v 16 n f)) (jK γ (va_A (jw γ o v 16 n f) sz) 34 (jw γ o v 16 n f)) 0 0 (va_A (jw γ o v 16 n f) sz) := by
  refine j_met (fun A => jK γ A 34 (jw γ o v 16 n f)) (by decide) (Nat.le_of_ble_eq_true rfl) ?_
  intro p e s m args below meth c ls A hAe hmn hC hZ hA hP hD hS hl
  have hx := hC.x
  have hb := hC.b
  have hl : lv_has ls 6 [(0, .ref o), (1, .int (nI k))] := hl
  refine lv_aload_n hx hb dJ5_newCapacity_0f7a4_0 rfl (lv_at hl 0 rfl) ?_
  refine k_get hC hP 0 0 dJ5_newCapacity_0f7a4_1 rfl rfl inJ4' (by decide) rfl u_3_172 ?_
  refine va_alen (v := 16) hx hb hC.k hP 1 4 rfl rfl rfl dJ5_newCapacity_0f7a4_4 ?_
  refine lv_istore_n (lv' := [(2, .int 16), (0, .ref o), (1, .int (nI k))]) hx hb dJ5_newCapacity_0f7a4_5 rfl hl (by decide) rfl (fun ls hl => ?_)
  refine lv_iload_n hx hb dJ5_newCapacity_0f7a4_6 rfl (lv_at hl 2 rfl) ?_
  refine lv_aload_n hx hb dJ5_newCapacity_0f7a4_7 rfl (lv_at hl 1 rfl) ?_
  refine k_get hC hP 0 1 dJ5_newCapacity_0f7a4_8 rfl rfl inJ4' (by decide) rfl u_3_173 ?_
  refine lv_ishl hx hb dJ5_newCapacity_0f7a4_11 ?_
  refine lv_topi (fun y9 e9 => ?_)
  obtain rfl : y9 = (nI k) := e9.trans (sh1 k (by omega))
  clear e9
  refine lv_istore_n (lv' := [(3, .int (nI k)), (2, .int 16), (0, .ref o), (1, .int (nI k))]) hx hb dJ5_newCapacity_0f7a4_12 rfl hl (by decide) rfl (fun ls hl => ?_)
  refine lv_iload_n hx hb dJ5_newCapacity_0f7a4_13 rfl (lv_at hl 0 rfl) ?_
  refine lv_iload_n hx hb dJ5_newCapacity_0f7a4_14 rfl (lv_at hl 1 rfl) ?_
  refine lv_isub hx hb dJ5_newCapacity_0f7a4_15 ?_
  refine lv_istore (lv' := [(4, .int (nI k - 16)), (3, .int (nI k)), (2, .int 16), (0, .ref o), (1, .int (nI k))]) hx hb dJ5_newCapacity_0f7a4_16 hl (by decide) rfl (fun ls hl => ?_)
  refine lv_iload_n hx hb dJ5_newCapacity_0f7a4_18 rfl (lv_at hl 2 rfl) ?_
  refine lv_iload hx hb dJ5_newCapacity_0f7a4_19 (lv_at hl 0 rfl) ?_
  refine lv_iload_n hx hb dJ5_newCapacity_0f7a4_21 rfl (lv_at hl 2 rfl) ?_
  refine lv_iconst (v := 2) hx hb dJ5_newCapacity_0f7a4_22 (by decide) ?_
  refine lv_aload_n hx hb dJ5_newCapacity_0f7a4_23 rfl (lv_at hl 3 rfl) ?_
  refine k_get hC hP 0 1 dJ5_newCapacity_0f7a4_24 rfl rfl inJ4' (by decide) rfl u_3_173 ?_
  refine lv_ishl hx hb dJ5_newCapacity_0f7a4_27 ?_
  refine lv_topi (fun y9 e9 => ?_)
  obtain rfl : y9 = 2 := e9.trans (by decide)
  clear e9
  refine lv_iadd hx hb dJ5_newCapacity_0f7a4_28 ?_
  refine lv_topi (fun y9 e9 => ?_)
  obtain rfl : y9 = 18 := e9.trans (by decide)
  clear e9
  refine j_gok (ws := []) (wb := (jw γ o v 16 n f)) (j_runS (As := [.int 16, .int (nI k - 16), .int 18]) (rest := []) (ws := []) (wb := (jw γ o v 16 n f)) hC hZ hA hP hD hS (c8_newLength l (nc1 k hk hk1)) u_3_202 yv_J8_newLength (Nat.le_of_ble_eq_true rfl) rfl hl.1 rfl (Nat.le_of_ble_eq_true rfl) dJ5_newCapacity_0f7a4_29 ⟨by decide, by decide⟩) hP hD hS hA (fun H locs hP hD hS => ?_)
  have hP : va_P γ.1 vwCl (jw γ o v 16 n f) H := hP
  have hD : va_D A (jw γ o v 16 n f) := hD
  refine lv_istore (lv' := [(5, .int 34), (4, .int (nI k - 16)), (3, .int (nI k)), (2, .int 16), (0, .ref o), (1, .int (nI k))]) hx hb dJ5_newCapacity_0f7a4_32 hl (by decide) rfl (fun ls hl => ?_)
  refine lv_iload hx hb dJ5_newCapacity_0f7a4_34 (lv_at hl 0 rfl) ?_
  refine lv_ldc (v := 2147483647) hx hb hC.o (hC.w u_3_212) dJ5_newCapacity_0f7a4_36 ?_
  refine lv_icmp_ne (tgt := 51) hx hb dJ5_newCapacity_0f7a4_38 (by decide) (fun c9 => ?_) (fun c9 => absurd c9 (by decide))
  refine lv_iload hx hb dJ5_newCapacity_0f7a4_51 (lv_at hl 0 rfl) ?_
  refine lv_aload_n hx hb dJ5_newCapacity_0f7a4_53 rfl (lv_at hl 4 rfl) ?_
  refine k_get hC hP 0 1 dJ5_newCapacity_0f7a4_54 rfl rfl inJ4' (by decide) rfl u_3_173 ?_
  refine lv_ishr hx hb dJ5_newCapacity_0f7a4_57 ?_
  refine lv_topi (fun y9 e9 => ?_)
  obtain rfl : y9 = 34 := e9.trans (by decide)
  clear e9
  exact j_iret hC hP hD hS dJ5_newCapacity_0f7a4_58 rfl
set_option maxHeartbeats 4000000 in
set_option maxRecDepth 100000 in
theorem c7_copyOf (l : Launch) {γ : GA} {sz : Nat} {o v n : Nat} {f : Nat → Int32} (hf : ∀ i, fits .byte (.int (f i)) = true) : Met l yJ7_copyOf_9075b (gU yJ7_copyOf_9075b cJ7_copyOf_9075b 3 (some (.array .byte))) (gR 1 1 34) (jPc γ [.ref v, .int 34] sz (jw γ o v 16 n f)) (jQr γ (va_A (jw γ o v 16 n f) sz) (fun (_ : Unit) => True) (fun _ _ => True) (fun _ q => [(o, .inr (0, [.ref v, .int 0, .int 0, .int (nI n)])), (v, .inl (gBy γ, 16, .inl f)), (q, .inl (gBy γ, 34, .inl (va_cpy f (fun _ => 0) 0 0 16)))])) 1 34 (va_A (jw γ o v 16 n f) sz) := by
  refine j_met (fun A => jQr γ A (fun (_ : Unit) => True) (fun _ _ => True) (fun _ q => [(o, .inr (0, [.ref v, .int 0, .int 0, .int (nI n)])), (v, .inl (gBy γ, 16, .inl f)), (q, .inl (gBy γ, 34, .inl (va_cpy f (fun _ => 0) 0 0 16)))])) (by decide) (Nat.le_of_ble_eq_true rfl) ?_
  intro p e s m args below meth c ls A hAe hmn hC hZ hA hP hD hS hl
  have hx := hC.x
  have hb := hC.b
  have hl : lv_has ls 3 [(0, .ref v), (1, .int 34)] := hl
  refine lv_iload_n hx hb dJ7_copyOf_9075b_0 rfl (lv_at hl 1 rfl) ?_
  refine lv_aload_n hx hb dJ7_copyOf_9075b_1 rfl (lv_at hl 0 rfl) ?_
  refine va_alen (v := 16) hx hb hC.k hP 1 4 rfl rfl rfl dJ7_copyOf_9075b_2 ?_
  refine lv_icmp_ne (tgt := 14) hx hb dJ7_copyOf_9075b_3 (by decide) (fun c9 => ?_) (fun c9 => absurd c9 (by decide))
  refine lv_iload_n hx hb dJ7_copyOf_9075b_14 rfl (lv_at hl 1 rfl) ?_
  refine j_newB (N' := 34) hC hP hD hS hA dJ7_copyOf_9075b_15 (by decide) rfl (by decide) (Nat.le_of_ble_eq_true rfl) (Nat.le_of_ble_eq_true rfl) (fun q H hP hD hS => ?_)
  have hP : va_P γ.1 vwCl ([(o, .inr (0, [.ref v, .int 0, .int 0, .int (nI n)])), (v, .inl (gBy γ, 16, .inl f)), (q, .inl (gBy γ, 34, .inl (fun _ => 0)))]) H := hP
  have hD : va_D A ([(o, .inr (0, [.ref v, .int 0, .int 0, .int (nI n)])), (v, .inl (gBy γ, 16, .inl f)), (q, .inl (gBy γ, 34, .inl (fun _ => 0)))]) := hD
  refine lv_astore_n (lv' := [(2, .ref q), (0, .ref v), (1, .int 34)]) hx hb dJ7_copyOf_9075b_17 rfl hl (by decide) rfl (fun ls hl => ?_)
  refine lv_aload_n hx hb dJ7_copyOf_9075b_18 rfl (lv_at hl 1 rfl) ?_
  refine lv_iconst (v := 0) hx hb dJ7_copyOf_9075b_19 (by decide) ?_
  refine lv_aload_n hx hb dJ7_copyOf_9075b_20 rfl (lv_at hl 0 rfl) ?_
  refine lv_iconst (v := 0) hx hb dJ7_copyOf_9075b_21 (by decide) ?_
  refine lv_aload_n hx hb dJ7_copyOf_9075b_22 rfl (lv_at hl 1 rfl) ?_
  refine va_alen (v := 16) hx hb hC.k hP 1 4 rfl rfl rfl dJ7_copyOf_9075b_23 ?_
  refine lv_iload_n hx hb dJ7_copyOf_9075b_24 rfl (lv_at hl 2 rfl) ?_
  refine va_mmin hx hb (hC.1.2.2.1.trans hl.1.symm) hC.o (hC.w u_3_223) (hC.w u_1_239) (hC.w u_1_14) (hC.w u_2_0) (Nat.le_of_ble_eq_true rfl) (Nat.le_of_ble_eq_true rfl) (Nat.le_of_ble_eq_true rfl) (Nat.le_of_ble_eq_true rfl) dJ7_copyOf_9075b_25 ?_
  refine lv_topi (fun y9 e9 => ?_)
  obtain rfl : y9 = 16 := e9.trans (by decide)
  clear e9
  refine va_copyi hx hb (hC.1.2.2.1.trans hl.1.symm) hC.o (hC.w u_3_224) (hC.w u_1_233) (hC.w u_1_232) (hC.w u_1_13) hC.k hP hD hS 1 2 4 4 rfl rfl rfl rfl rfl (by decide) (by decide) (by decide) (by decide) (by decide) (fun i hi => hf _) (Nat.le_of_ble_eq_true rfl) (Nat.le_of_ble_eq_true rfl) dJ7_copyOf_9075b_28 (fun H locs hP hD hS => ?_)
  refine lv_aload_n hx hb dJ7_copyOf_9075b_31 rfl (lv_at hl 0 rfl) ?_
  exact j_aret hC (Or.inr ⟨_, rfl⟩) () trivial trivial hP hD hS dJ7_copyOf_9075b_32
set_option maxHeartbeats 4000000 in
set_option maxRecDepth 100000 in
theorem c5_isLatin1 (l : Launch) {γ : GA} {sz : Nat} {o v cap n : Nat} {f : Nat → Int32}  : Met l yJ5_isLatin1_aae02 (gU yJ5_isLatin1_aae02 cJ5_isLatin1_aae02 1 (some .boolean)) (gR 0 0 0) (jPc γ [.ref o] sz (jw γ o v cap n f)) (jK γ (va_A (jw γ o v cap n f) sz) 1 (jw γ o v cap n f)) 0 0 (va_A (jw γ o v cap n f) sz) := by
  refine j_met (fun A => jK γ A 1 (jw γ o v cap n f)) (by decide) (Nat.le_of_ble_eq_true rfl) ?_
  intro p e s m args below meth c ls A hAe hmn hC hZ hA hP hD hS hl
  have hx := hC.x
  have hb := hC.b
  have hl : lv_has ls 1 [(0, .ref o)] := hl
  refine va_gets hx hb hZ.2.2.1 hS hC.o (hC.w u_3_163) (fun _ h => h) dJ5_isLatin1_aae02_0 ?_
  refine lv_if_eq (tgt := 17) hx hb dJ5_isLatin1_aae02_3 (by decide) (fun c9 => absurd c9 (by decide)) (fun c9 => ?_)
  refine lv_aload_n hx hb dJ5_isLatin1_aae02_6 rfl (lv_at hl 0 rfl) ?_
  refine k_get hC hP 0 1 dJ5_isLatin1_aae02_7 rfl rfl inJ4' (by decide) rfl u_3_173 ?_
  refine lv_if_ne (tgt := 17) hx hb dJ5_isLatin1_aae02_10 (by decide) (fun c9 => absurd rfl c9) (fun c9 => ?_)
  refine lv_iconst (v := 1) hx hb dJ5_isLatin1_aae02_13 (by decide) ?_
  refine lv_goto (tgt := 18) hx hb dJ5_isLatin1_aae02_14 (by decide) ?_
  exact j_zret hC rfl hP hD hS dJ5_isLatin1_aae02_18 rfl
set_option maxHeartbeats 4000000 in
set_option maxRecDepth 100000 in
theorem c1_canEncode (l : Launch) {γ : GA} {sz : Nat} {wb : va_W} {x : Int32} (hx1 : ¬ (255 : Int32) < x) : Met l yJ1_canEncode_fc78d (gU yJ1_canEncode_fc78d cJ1_canEncode_fc78d 1 (some .boolean)) (gR 0 0 0) (jPc γ [.int x] sz (wb)) (jK γ (va_A (wb) sz) 1 wb) 0 0 (va_A (wb) sz) := by
  refine j_met (fun A => jK γ A 1 wb) (by decide) (Nat.le_of_ble_eq_true rfl) ?_
  intro p e s m args below meth c ls A hAe hmn hC hZ hA hP hD hS hl
  have hx := hC.x
  have hb := hC.b
  have hl : lv_has ls 1 [(0, .int x)] := hl
  refine lv_iload_n hx hb dJ1_canEncode_fc78d_0 rfl (lv_at hl 0 rfl) ?_
  refine lv_sipush (v := 255) hx hb dJ1_canEncode_fc78d_1 (by decide) ?_
  refine lv_icmp_gt (tgt := 11) hx hb dJ1_canEncode_fc78d_4 (by decide) (fun c9 => absurd c9 hx1) (fun c9 => ?_)
  refine lv_iconst (v := 1) hx hb dJ1_canEncode_fc78d_7 (by decide) ?_
  refine lv_goto (tgt := 12) hx hb dJ1_canEncode_fc78d_8 (by decide) ?_
  exact j_zret hC rfl hP hD hS dJ1_canEncode_fc78d_12 rfl
set_option maxHeartbeats 4000000 in
set_option maxRecDepth 100000 in
theorem c6_stringSize (l : Launch) {γ : GA} {sz : Nat} {wb : va_W} {k : Nat} (hk : k < 100) : Met l yJ6_stringSize_0f7a4 (gU yJ6_stringSize_0f7a4 cJ6_stringSize_0f7a4 4 (some .int)) (gR 0 0 0) (jPc γ [.int (nI k)] sz (wb)) (jK γ (va_A (wb) sz) (nI (dl k)) wb) 0 0 (va_A (wb) sz) := by
  refine j_met (fun A => jK γ A (nI (dl k)) wb) (by decide) (Nat.le_of_ble_eq_true rfl) ?_
  intro p e s m args below meth c ls A hAe hmn hC hZ hA hP hD hS hl
  have hx := hC.x
  have hb := hC.b
  have hl : lv_has ls 4 [(0, .int (nI k))] := hl
  refine lv_iconst (v := 1) hx hb dJ6_stringSize_0f7a4_0 (by decide) ?_
  refine lv_istore_n (lv' := [(1, .int 1), (0, .int (nI k))]) hx hb dJ6_stringSize_0f7a4_1 rfl hl (by decide) rfl (fun ls hl => ?_)
  refine lv_iload_n hx hb dJ6_stringSize_0f7a4_2 rfl (lv_at hl 1 rfl) ?_
  refine lv_if_lt (tgt := 11) hx hb dJ6_stringSize_0f7a4_3 (by decide) (fun c9 => absurd c9 (nI_pos (by omega))) (fun c9 => ?_)
  refine lv_iconst (v := 0) hx hb dJ6_stringSize_0f7a4_6 (by decide) ?_
  refine lv_istore_n (lv' := [(1, .int 0), (0, .int (nI k))]) hx hb dJ6_stringSize_0f7a4_7 rfl hl (by decide) rfl (fun ls hl => ?_)
  refine lv_iload_n hx hb dJ6_stringSize_0f7a4_8 rfl (lv_at hl 1 rfl) ?_
  refine lv_ineg hx hb dJ6_stringSize_0f7a4_9 ?_
  refine lv_istore_n (lv' := [(0, .int (-nI k)), (1, .int 0)]) hx hb dJ6_stringSize_0f7a4_10 rfl hl (by decide) rfl (fun ls hl => ?_)
  refine lv_bipush (v := (-10)) hx hb dJ6_stringSize_0f7a4_11 (by decide) ?_
  refine lv_istore_n (lv' := [(2, .int (-10)), (0, .int (-nI k)), (1, .int 0)]) hx hb dJ6_stringSize_0f7a4_13 rfl hl (by decide) rfl (fun ls hl => ?_)
  refine lv_iconst (v := 1) hx hb dJ6_stringSize_0f7a4_14 (by decide) ?_
  refine lv_istore_n (lv' := [(3, .int 1), (2, .int (-10)), (0, .int (-nI k)), (1, .int 0)]) hx hb dJ6_stringSize_0f7a4_15 rfl hl (by decide) rfl (fun ls hl => ?_)
  refine lv_iload_n hx hb dJ6_stringSize_0f7a4_16 rfl (lv_at hl 0 rfl) ?_
  refine lv_bipush (v := 10) hx hb dJ6_stringSize_0f7a4_17 (by decide) ?_
  refine lv_icmp_ge (tgt := 42) hx hb dJ6_stringSize_0f7a4_19 (by decide) (fun c9 => absurd c9 (by decide)) (fun c9 => ?_)
  refine lv_iload_n hx hb dJ6_stringSize_0f7a4_22 rfl (lv_at hl 2 rfl) ?_
  refine lv_iload_n hx hb dJ6_stringSize_0f7a4_23 rfl (lv_at hl 1 rfl) ?_
  refine lv_icmp_le (tgt := 31) hx hb dJ6_stringSize_0f7a4_24 (by decide) (fun c1 => ?_) (fun c1 => ?_)
  · refine lv_bipush (v := 10) hx hb dJ6_stringSize_0f7a4_31 (by decide) ?_
    refine lv_iload_n hx hb dJ6_stringSize_0f7a4_33 rfl (lv_at hl 1 rfl) ?_
    refine lv_imul hx hb dJ6_stringSize_0f7a4_34 ?_
    refine lv_topi (fun y9 e9 => ?_)
    obtain rfl : y9 = (-100) := e9.trans (by decide)
    clear e9
    refine lv_istore_n (lv' := [(2, .int (-100)), (3, .int 1), (0, .int (-nI k)), (1, .int 0)]) hx hb dJ6_stringSize_0f7a4_35 rfl hl (by decide) rfl (fun ls hl => ?_)
    refine lv_iinc (v := 2) (lv' := [(3, .int 2), (2, .int (-100)), (0, .int (-nI k)), (1, .int 0)]) hx hb dJ6_stringSize_0f7a4_36 hl (k := 1) rfl (by decide) (by decide) rfl (fun ls hl => ?_)
    refine lv_goto (tgt := 16) hx hb dJ6_stringSize_0f7a4_39 (by decide) ?_
    refine lv_iload_n hx hb dJ6_stringSize_0f7a4_16 rfl (lv_at hl 0 rfl) ?_
    refine lv_bipush (v := 10) hx hb dJ6_stringSize_0f7a4_17 (by decide) ?_
    refine lv_icmp_ge (tgt := 42) hx hb dJ6_stringSize_0f7a4_19 (by decide) (fun c9 => absurd c9 (by decide)) (fun c9 => ?_)
    refine lv_iload_n hx hb dJ6_stringSize_0f7a4_22 rfl (lv_at hl 2 rfl) ?_
    refine lv_iload_n hx hb dJ6_stringSize_0f7a4_23 rfl (lv_at hl 1 rfl) ?_
    refine lv_icmp_le (tgt := 31) hx hb dJ6_stringSize_0f7a4_24 (by decide) (fun c9 => absurd c9 (ss2 k hk)) (fun c9 => ?_)
    refine lv_iload_n hx hb dJ6_stringSize_0f7a4_27 rfl (lv_at hl 0 rfl) ?_
    refine lv_iload_n hx hb dJ6_stringSize_0f7a4_28 rfl (lv_at hl 3 rfl) ?_
    refine lv_iadd hx hb dJ6_stringSize_0f7a4_29 ?_
    refine lv_topi (fun y9 e9 => ?_)
    obtain rfl : y9 = 2 := e9.trans (by decide)
    clear e9
    exact j_iret hC hP hD hS dJ6_stringSize_0f7a4_30 (by unfold dl; rw [if_neg (by have := (ss1 k hk).mp c1; omega)]; exact id rfl)
  · refine lv_iload_n hx hb dJ6_stringSize_0f7a4_27 rfl (lv_at hl 0 rfl) ?_
    refine lv_iload_n hx hb dJ6_stringSize_0f7a4_28 rfl (lv_at hl 3 rfl) ?_
    refine lv_iadd hx hb dJ6_stringSize_0f7a4_29 ?_
    refine lv_topi (fun y9 e9 => ?_)
    obtain rfl : y9 = 1 := e9.trans (by decide)
    clear e9
    exact j_iret hC hP hD hS dJ6_stringSize_0f7a4_30 (by unfold dl; rw [if_pos (Nat.lt_of_not_le fun z => c1 ((ss1 k hk).mpr z))]; exact id rfl)
set_option maxHeartbeats 4000000 in
set_option maxRecDepth 100000 in
theorem c6_getChars (l : Launch) {γ : GA} {sz : Nat} {o v cap cnt n k : Nat} {f : Nat → Int32} (hk : k < 100) (hcap : n + dl k ≤ cap) (hcap2 : cap ≤ 34) : Met l yJ6_getChars_ba4f3 (gU yJ6_getChars_ba4f3 cJ6_getChars_ba4f3 7 (some .int)) (gR 0 0 0) (jPc γ [.int (nI k), .int (nI (n + dl k)), .ref v] sz (jw γ o v cap cnt f)) (jK γ (va_A (jw γ o v cap cnt f) sz) (nI n) (jw γ o v cap cnt (gch n k f))) 0 0 (va_A (jw γ o v cap cnt f) sz) := by
  refine j_met (fun A => jK γ A (nI n) (jw γ o v cap cnt (gch n k f))) (by decide) (Nat.le_of_ble_eq_true rfl) ?_
  intro p e s m args below meth c ls A hAe hmn hC hZ hA hP hD hS hl
  have hx := hC.x
  have hb := hC.b
  have hl : lv_has ls 7 [(0, .int (nI k)), (1, .int (nI (n + dl k))), (2, .ref v)] := hl
  refine lv_iload_n hx hb dJ6_getChars_ba4f3_0 rfl (lv_at hl 1 rfl) ?_
  refine lv_istore (lv' := [(5, .int (nI (n + dl k))), (0, .int (nI k)), (1, .int (nI (n + dl k))), (2, .ref v)]) hx hb dJ6_getChars_ba4f3_1 hl (by decide) rfl (fun ls hl => ?_)
  refine lv_iload_n hx hb dJ6_getChars_ba4f3_3 rfl (lv_at hl 1 rfl) ?_
  refine lv_if_ge (tgt := 11) hx hb dJ6_getChars_ba4f3_4 (by decide) (fun c9 => ?_) (fun c9 => absurd (nI_pos' (by omega)) c9)
  refine lv_iconst (v := 0) hx hb dJ6_getChars_ba4f3_11 (by decide) ?_
  refine lv_istore (lv' := [(6, .int 0), (5, .int (nI (n + dl k))), (0, .int (nI k)), (1, .int (nI (n + dl k))), (2, .ref v)]) hx hb dJ6_getChars_ba4f3_12 hl (by decide) rfl (fun ls hl => ?_)
  refine lv_iload hx hb dJ6_getChars_ba4f3_14 (lv_at hl 0 rfl) ?_
  refine lv_if_ne (tgt := 22) hx hb dJ6_getChars_ba4f3_16 (by decide) (fun c9 => absurd rfl c9) (fun c9 => ?_)
  refine lv_iload_n hx hb dJ6_getChars_ba4f3_19 rfl (lv_at hl 2 rfl) ?_
  refine lv_ineg hx hb dJ6_getChars_ba4f3_20 ?_
  refine lv_istore_n (lv' := [(0, .int (-nI k)), (6, .int 0), (5, .int (nI (n + dl k))), (1, .int (nI (n + dl k))), (2, .ref v)]) hx hb dJ6_getChars_ba4f3_21 rfl hl (by decide) rfl (fun ls hl => ?_)
  refine lv_iload_n hx hb dJ6_getChars_ba4f3_22 rfl (lv_at hl 0 rfl) ?_
  refine lv_bipush (v := (-100)) hx hb dJ6_getChars_ba4f3_23 (by decide) ?_
  refine lv_icmp_gt (tgt := 72) hx hb dJ6_getChars_ba4f3_25 (by decide) (fun c9 => ?_) (fun c9 => absurd (gc1 k hk) c9)
  refine lv_aload_n hx hb dJ6_getChars_ba4f3_72 rfl (lv_at hl 4 rfl) ?_
  by_cases c1 : k < 10
  · have e1 : nI (n + dl k) = nI (n + 1) := by unfold dl; rw [if_pos c1]
    have hd : n + 1 ≤ cap := by unfold dl at hcap; rw [if_pos c1] at hcap; exact hcap
    refine lv_iinc (v := nI n) (lv' := [(5, .int (nI n)), (0, .int (-nI k)), (6, .int 0), (1, .int (nI (n + dl k))), (2, .ref v)]) hx hb dJ6_getChars_ba4f3_73 hl (k := 2) rfl (by rw [e1]; exact gc4 n (by omega)) (by decide) rfl (fun ls hl => ?_)
    refine lv_iload hx hb dJ6_getChars_ba4f3_76 (lv_at hl 0 rfl) ?_
    obtain ⟨t, hz1, hz2⟩ := hZ.2.2.2.1
    refine va_gets hx hb hz1 hS hC.o (hC.w u_3_233) (fun _ h => h) dJ6_getChars_ba4f3_78 ?_
    refine lv_iload_n hx hb dJ6_getChars_ba4f3_81 rfl (lv_at hl 1 rfl) ?_
    refine lv_ineg hx hb dJ6_getChars_ba4f3_82 ?_
    refine lv_topi (fun y9 e9 => ?_)
    obtain rfl : y9 = (nI k) := e9.trans (gc3 k hk)
    clear e9
    refine va_tb (v := .int (nI (48 + k % 10))) hx hb hz2 hS (nI_in (show k < 100 from hk) (by decide)) (by rw [nI_clamp (by omega)]; show Value.int (dgOf "DigitOnes" k) = _; unfold dgOf; rw [if_pos rfl]) dJ6_getChars_ba4f3_83 ?_
    refine va_bast hx hb hC.k hP hD hS 1 4 rfl rfl (nI_in (show n < cap by omega) (by omega)) dJ6_getChars_ba4f3_84 (fun H locs hP hD hS => ?_)
    rw [nI_clamp (by omega), nb1 _ (by omega)] at hP hD
    have hP : va_P γ.1 vwCl (jw γ o v cap cnt (upd f n (nI (48 + k % 10)))) H := hP
    have hD : va_D A (jw γ o v cap cnt (upd f n (nI (48 + k % 10)))) := hD
    refine lv_iload_n hx hb dJ6_getChars_ba4f3_85 rfl (lv_at hl 1 rfl) ?_
    refine lv_bipush (v := (-9)) hx hb dJ6_getChars_ba4f3_86 (by decide) ?_
    refine lv_icmp_ge (tgt := 104) hx hb dJ6_getChars_ba4f3_88 (by decide) (fun c9 => ?_) (fun c9 => absurd ((gc2 k hk).mpr c1) c9)
    refine lv_iload hx hb dJ6_getChars_ba4f3_104 (lv_at hl 2 rfl) ?_
    refine lv_if_eq (tgt := 118) hx hb dJ6_getChars_ba4f3_106 (by decide) (fun c9 => ?_) (fun c9 => absurd rfl c9)
    refine lv_iload hx hb dJ6_getChars_ba4f3_118 (lv_at hl 0 rfl) ?_
    refine j_iret hC ?_ ?_ hS dJ6_getChars_ba4f3_120 rfl
    · rw [show gch n k f = _ from if_pos c1]; exact hP
    · rw [show gch n k f = _ from if_pos c1]; exact hD
  · have e1 : nI (n + dl k) = nI (n + 1 + 1) := by unfold dl; rw [if_neg c1]
    have hd : n + 2 ≤ cap := by unfold dl at hcap; rw [if_neg c1] at hcap; exact hcap
    refine lv_iinc (v := nI (n + 1)) (lv' := [(5, .int (nI (n + 1))), (0, .int (-nI k)), (6, .int 0), (1, .int (nI (n + dl k))), (2, .ref v)]) hx hb dJ6_getChars_ba4f3_73 hl (k := 2) rfl (by rw [e1]; exact gc4 (n + 1) (by omega)) (by decide) rfl (fun ls hl => ?_)
    refine lv_iload hx hb dJ6_getChars_ba4f3_76 (lv_at hl 0 rfl) ?_
    obtain ⟨t, hz1, hz2⟩ := hZ.2.2.2.1
    refine va_gets hx hb hz1 hS hC.o (hC.w u_3_233) (fun _ h => h) dJ6_getChars_ba4f3_78 ?_
    refine lv_iload_n hx hb dJ6_getChars_ba4f3_81 rfl (lv_at hl 1 rfl) ?_
    refine lv_ineg hx hb dJ6_getChars_ba4f3_82 ?_
    refine lv_topi (fun y9 e9 => ?_)
    obtain rfl : y9 = (nI k) := e9.trans (gc3 k hk)
    clear e9
    refine va_tb (v := .int (nI (48 + k % 10))) hx hb hz2 hS (nI_in (show k < 100 from hk) (by decide)) (by rw [nI_clamp (by omega)]; show Value.int (dgOf "DigitOnes" k) = _; unfold dgOf; rw [if_pos rfl]) dJ6_getChars_ba4f3_83 ?_
    refine va_bast hx hb hC.k hP hD hS 1 4 rfl rfl (nI_in (show n + 1 < cap by omega) (by omega)) dJ6_getChars_ba4f3_84 (fun H locs hP hD hS => ?_)
    rw [nI_clamp (by omega), nb1 _ (by omega)] at hP hD
    have hP : va_P γ.1 vwCl (jw γ o v cap cnt (upd f (n + 1) (nI (48 + k % 10)))) H := hP
    have hD : va_D A (jw γ o v cap cnt (upd f (n + 1) (nI (48 + k % 10)))) := hD
    refine lv_iload_n hx hb dJ6_getChars_ba4f3_85 rfl (lv_at hl 1 rfl) ?_
    refine lv_bipush (v := (-9)) hx hb dJ6_getChars_ba4f3_86 (by decide) ?_
    refine lv_icmp_ge (tgt := 104) hx hb dJ6_getChars_ba4f3_88 (by decide) (fun c9 => absurd c9 (fun z => c1 ((gc2 k hk).mp z))) (fun c9 => ?_)
    refine lv_aload_n hx hb dJ6_getChars_ba4f3_91 rfl (lv_at hl 4 rfl) ?_
    refine lv_iinc (v := nI n) (lv' := [(5, .int (nI n)), (0, .int (-nI k)), (6, .int 0), (1, .int (nI (n + dl k))), (2, .ref v)]) hx hb dJ6_getChars_ba4f3_92 hl (k := 0) rfl (gc4 n (by omega)) (by decide) rfl (fun ls hl => ?_)
    refine lv_iload hx hb dJ6_getChars_ba4f3_95 (lv_at hl 0 rfl) ?_
    obtain ⟨t, hz1, hz2⟩ := hZ.2.2.2.2.1
    refine va_gets hx hb hz1 hS hC.o (hC.w u_3_235) (fun _ h => h) dJ6_getChars_ba4f3_97 ?_
    refine lv_iload_n hx hb dJ6_getChars_ba4f3_100 rfl (lv_at hl 1 rfl) ?_
    refine lv_ineg hx hb dJ6_getChars_ba4f3_101 ?_
    refine lv_topi (fun y9 e9 => ?_)
    obtain rfl : y9 = (nI k) := e9.trans (gc3 k hk)
    clear e9
    refine va_tb (v := .int (nI (48 + k / 10))) hx hb hz2 hS (nI_in (show k < 100 from hk) (by decide)) (by rw [nI_clamp (by omega)]; show Value.int (dgOf "DigitTens" k) = _; unfold dgOf; rw [if_neg (by decide)]) dJ6_getChars_ba4f3_102 ?_
    refine va_bast hx hb hC.k hP hD hS 1 4 rfl rfl (nI_in (show n < cap by omega) (by omega)) dJ6_getChars_ba4f3_103 (fun H locs hP hD hS => ?_)
    rw [nI_clamp (by omega), nb1 _ (by omega)] at hP hD
    have hP : va_P γ.1 vwCl (jw γ o v cap cnt (upd (upd f (n + 1) (nI (48 + k % 10))) n (nI (48 + k / 10)))) H := hP
    have hD : va_D A (jw γ o v cap cnt (upd (upd f (n + 1) (nI (48 + k % 10))) n (nI (48 + k / 10)))) := hD
    refine lv_iload hx hb dJ6_getChars_ba4f3_104 (lv_at hl 2 rfl) ?_
    refine lv_if_eq (tgt := 118) hx hb dJ6_getChars_ba4f3_106 (by decide) (fun c9 => ?_) (fun c9 => absurd rfl c9)
    refine lv_iload hx hb dJ6_getChars_ba4f3_118 (lv_at hl 0 rfl) ?_
    refine j_iret hC ?_ ?_ hS dJ6_getChars_ba4f3_120 rfl
    · rw [show gch n k f = _ from if_neg c1]; exact hP
    · rw [show gch n k f = _ from if_neg c1]; exact hD
set_option maxHeartbeats 4000000 in
set_option maxRecDepth 100000 in
theorem c5_ens (l : Launch) {γ : GA} {sz : Nat} {o v k : Nat} {cs : List Int32} {f : Nat → Int32} (hk : k < 35) (hk0 : cs.length ≤ k) (ht : tx cs f) : Met l yJ5_ensureCapacityInternal_d00df (gU yJ5_ensureCapacityInternal_d00df cJ5_ensureCapacityInternal_d00df 3 (none)) (gR 3 (kc k - kc cs.length) (34 * (kc k - kc cs.length))) (jPc γ [.ref o, .int (nI k)] sz (jw γ o v (cp cs.length) cs.length f)) (jQv γ (va_A (jw γ o v (cp cs.length) cs.length f) sz) (fun u : Nat × (Nat → Int32) => tx cs u.2) (fun u => jw γ o u.1 (cp k) cs.length u.2)) (kc k - kc cs.length) (34 * (kc k - kc cs.length)) (va_A (jw γ o v (cp cs.length) cs.length f) sz) := by
  refine j_met (fun A => jQv γ A (fun u : Nat × (Nat → Int32) => tx cs u.2) (fun u => jw γ o u.1 (cp k) cs.length u.2)) (by decide) (Nat.le_of_ble_eq_true rfl) ?_
  intro p e s m args below meth c ls A hAe hmn hC hZ hA hP hD hS hl
  have hx := hC.x
  have hb := hC.b
  have hl : lv_has ls 3 [(0, .ref o), (1, .int (nI k))] := hl
  have hcp : cp cs.length < 64 := by unfold cp; split <;> decide
  refine lv_aload_n hx hb dJ5_ensureCapacityInternal_d00df_0 rfl (lv_at hl 0 rfl) ?_
  refine k_get hC hP 0 0 dJ5_ensureCapacityInternal_d00df_1 rfl rfl inJ4' (by decide) rfl u_3_172 ?_
  refine va_alen (v := nI (cp cs.length)) hx hb hC.k hP 1 4 rfl rfl rfl dJ5_ensureCapacityInternal_d00df_4 ?_
  refine lv_aload_n hx hb dJ5_ensureCapacityInternal_d00df_5 rfl (lv_at hl 0 rfl) ?_
  refine k_get hC hP 0 1 dJ5_ensureCapacityInternal_d00df_6 rfl rfl inJ4' (by decide) rfl u_3_173 ?_
  refine lv_ishr hx hb dJ5_ensureCapacityInternal_d00df_9 ?_
  refine lv_topi (fun y9 e9 => ?_)
  obtain rfl : y9 = (nI (cp cs.length)) := e9.trans (sh2 _ hcp)
  clear e9
  refine lv_istore_n (lv' := [(2, .int (nI (cp cs.length))), (0, .ref o), (1, .int (nI k))]) hx hb dJ5_ensureCapacityInternal_d00df_10 rfl hl (by decide) rfl (fun ls hl => ?_)
  refine lv_iload_n hx hb dJ5_ensureCapacityInternal_d00df_11 rfl (lv_at hl 2 rfl) ?_
  refine lv_iload_n hx hb dJ5_ensureCapacityInternal_d00df_12 rfl (lv_at hl 0 rfl) ?_
  refine lv_isub hx hb dJ5_ensureCapacityInternal_d00df_13 ?_
  by_cases hg : cs.length ≤ 16 ∧ 16 < k
  · obtain ⟨h1, h2⟩ := hg
    have e1 : cp cs.length = 16 := if_pos h1
    have e2 : cp k = 34 := if_neg (by omega)
    have e3 : kc k - kc cs.length = 1 := by unfold kc; rw [if_neg (by omega), if_pos h1]
    rw [e1] at hP hD ⊢
    refine lv_if_le (tgt := 38) hx hb dJ5_ensureCapacityInternal_d00df_14 (by decide) (fun c1 => absurd ((nc2 k hk).mp c1) (by omega)) (fun c1 => ?_)
    refine lv_aload_n hx hb dJ5_ensureCapacityInternal_d00df_17 rfl (lv_at hl 1 rfl) ?_
    refine lv_aload_n hx hb dJ5_ensureCapacityInternal_d00df_18 rfl (lv_at hl 1 rfl) ?_
    refine k_get hC hP 0 0 dJ5_ensureCapacityInternal_d00df_19 rfl rfl inJ4' (by decide) rfl u_3_172 ?_
    refine lv_aload_n hx hb dJ5_ensureCapacityInternal_d00df_22 rfl (lv_at hl 1 rfl) ?_
    refine lv_iload_n hx hb dJ5_ensureCapacityInternal_d00df_23 rfl (lv_at hl 2 rfl) ?_
    refine j_gok (ws := []) (wb := (jw γ o v 16 cs.length f)) (j_runU (As := [.int (nI k)]) (rest := [.ref v, .ref o]) (ws := []) (wb := (jw γ o v 16 cs.length f)) hC hZ hA hP hD hS 0 (c5_newCapacity l hk h2) rfl u_3_198 yu_J5_newCapacity (va_Nw.use rfl hZ.2.2.2.2.2.2.2) (Nat.le_of_ble_eq_true rfl) rfl hl.1 rfl (Nat.le_of_ble_eq_true rfl) dJ5_ensureCapacityInternal_d00df_24 ⟨by omega, by omega⟩) hP hD hS hA (fun H locs hP hD hS => ?_)
    have hP : va_P γ.1 vwCl (jw γ o v 16 cs.length f) H := hP
    have hD : va_D A (jw γ o v 16 cs.length f) := hD
    refine lv_aload_n hx hb dJ5_ensureCapacityInternal_d00df_27 rfl (lv_at hl 1 rfl) ?_
    refine k_get hC hP 0 1 dJ5_ensureCapacityInternal_d00df_28 rfl rfl inJ4' (by decide) rfl u_3_173 ?_
    refine lv_ishl hx hb dJ5_ensureCapacityInternal_d00df_31 ?_
    refine lv_topi (fun y9 e9 => ?_)
    obtain rfl : y9 = 34 := e9.trans (by decide)
    clear e9
    refine j_gor (ws := []) (wb := (jw γ o v 16 cs.length f)) (j_runS (As := [.ref v, .int 34]) (rest := [.ref o]) (ws := []) (wb := (jw γ o v 16 cs.length f)) hC hZ hA hP hD hS (c7_copyOf l (tx_nm ht)) u_3_213 yv_J7_copyOf (Nat.le_of_ble_eq_true rfl) rfl hl.1 rfl (Nat.le_of_ble_eq_true rfl) dJ5_ensureCapacityInternal_d00df_32 ⟨by omega, by omega⟩) hP hD hS hA (fun _ q H locs _ _ hP hD hS => ?_)
    have hP : va_P γ.1 vwCl ([(o, .inr (0, [.ref v, .int 0, .int 0, .int (nI cs.length)])), (v, .inl (gBy γ, 16, .inl f)), (q, .inl (gBy γ, 34, .inl (va_cpy f (fun _ => 0) 0 0 16)))]) H := hP
    have hD : va_D A ([(o, .inr (0, [.ref v, .int 0, .int 0, .int (nI cs.length)])), (v, .inl (gBy γ, 16, .inl f)), (q, .inl (gBy γ, 34, .inl (va_cpy f (fun _ => 0) 0 0 16)))]) := hD
    refine k_putI hC hP hD hS 0 0 tyJ4 dJ5_ensureCapacityInternal_d00df_35 rfl rfl inJ4' tyJ4_ok nmJ4 (by decide) u_3_172 rfl rfl rfl rfl (Nat.le_of_ble_eq_true rfl) (fun H locs hP hD hS => ?_)
    refine W.widen (k := kc k - kc cs.length) (n := 34 * (kc k - kc cs.length)) (by omega) (by omega) ?_
    refine j_vret hC (q, va_cpy f (fun _ => 0) 0 0 16) (tx_cpy ht h1) ?_ ?_ hS dJ5_ensureCapacityInternal_d00df_38
    · rw [e2]; exact va_P.sub hP [0, 2] rfl
    · rw [e2]; exact va_D.sub hD [0, 2] rfl rfl
  · have e2 : cp k = cp cs.length := by
      unfold cp
      by_cases h1 : cs.length ≤ 16
      · rw [if_pos h1, if_pos (by omega)]
      · rw [if_neg h1, if_neg (by omega)]
    have h0 : nI k - nI (cp cs.length) ≤ 0 := by
      unfold cp
      by_cases h1 : cs.length ≤ 16
      · rw [if_pos h1]; exact (nc2 k hk).mpr (by omega)
      · rw [if_neg h1]; exact nc3 k hk
    refine lv_if_le (tgt := 38) hx hb dJ5_ensureCapacityInternal_d00df_14 (by decide) (fun c9 => ?_) (fun c9 => absurd h0 c9)
    refine W.widen (k := kc k - kc cs.length) (n := 34 * (kc k - kc cs.length)) (by omega) (by omega) ?_
    refine j_vret hC (v, f) ht ?_ ?_ hS dJ5_ensureCapacityInternal_d00df_38
    · rw [e2]; exact hP
    · rw [e2]; exact hD
