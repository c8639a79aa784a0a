def r6_bitCount_0f7a4 (x0 : Int32) : Option Int32 :=
  (some (x0 - ((iu x0 1) &&& 1431655765))).bind fun v1 =>
  (some ((v1 &&& 858993459) + ((iu v1 2) &&& 858993459))).bind fun v2 =>
  (some ((v2 + (iu v2 4)) &&& 252645135)).bind fun v3 =>
  (some ((v3 + (iu v3 8)) + (iu (v3 + (iu v3 8)) 16))).bind fun v4 =>
  some (v4 &&& 63)
theorem yv_J6_bitCount_0f7a4 : gYS yJ6_bitCount_0f7a4 cJ6_bitCount_0f7a4 1 (some .int) 1 := ⟨u_2_26, u_1_16, u_2_27, ⟨by decide +kernel, by decide +kernel, by decide +kernel⟩, by decide⟩
set_option maxHeartbeats 4000000 in
set_option maxRecDepth 100000 in
theorem c6_bitCount_0f7a4 (l : Launch) {γ : GA} {sz : Nat} {T P X Y B M : OS} {E : Nat → OS} {O : Nat → Int64} {x0 : Int32} {r0 : Int32} (h : r6_bitCount_0f7a4 x0 = some r0) : Met l yJ6_bitCount_0f7a4 (gU yJ6_bitCount_0f7a4 cJ6_bitCount_0f7a4 1 (some .int)) (gR 0 0 0) (gPc γ [.int x0] sz (T, P, X, Y, E, B, M, O)) (gQi γ r0 sz (T, P, X, Y, E, B, M, O)) 0 0 (gA γ sz) := by
  refine g_met (fun sz => gQi γ r0 sz (T, P, X, Y, E, B, M, O)) (by decide) (Nat.le_of_ble_eq_true rfl) ?_
  intro p e s m args below meth c ls hC hP hS hl
  have hx := hC.x
  have hb := hC.b
  have hl : lv_has ls 1 [(0, .int x0)] := hl
  unfold r6_bitCount_0f7a4 at h
  refine lv_iload_n hx hb dJ6_bitCount_0f7a4_0 rfl (lv_at hl 0 rfl) ?_
  refine lv_iload_n hx hb dJ6_bitCount_0f7a4_1 rfl (lv_at hl 0 rfl) ?_
  refine lv_iconst (v := 1) hx hb dJ6_bitCount_0f7a4_2 (by decide) ?_
  refine lv_iushr (v := (iu x0 1)) hx hb dJ6_bitCount_0f7a4_3 rfl ?_
  refine lv_ldcw (v := 1431655765) hx hb hC.o (hC.w u_2_28) dJ6_bitCount_0f7a4_4 ?_
  refine lv_iand hx hb dJ6_bitCount_0f7a4_7 ?_
  refine lv_isub hx hb dJ6_bitCount_0f7a4_8 ?_
  obtain ⟨v1, hv, h⟩ := ob h
  refine lv_topi (fun y9 ey9 => ?_)
  obtain rfl : v1 = y9 := (Option.some.inj hv).symm.trans ey9.symm
  clear hv ey9
  refine lv_istore_n (lv' := [(0, .int v1)]) hx hb dJ6_bitCount_0f7a4_9 rfl hl (by decide) rfl (fun ls hl => ?_)
  refine lv_iload_n hx hb dJ6_bitCount_0f7a4_10 rfl (lv_at hl 0 rfl) ?_
  refine lv_ldcw (v := 858993459) hx hb hC.o (hC.w u_2_29) dJ6_bitCount_0f7a4_11 ?_
  refine lv_iand hx hb dJ6_bitCount_0f7a4_14 ?_
  refine lv_iload_n hx hb dJ6_bitCount_0f7a4_15 rfl (lv_at hl 0 rfl) ?_
  refine lv_iconst (v := 2) hx hb dJ6_bitCount_0f7a4_16 (by decide) ?_
  refine lv_iushr (v := (iu v1 2)) hx hb dJ6_bitCount_0f7a4_17 rfl ?_
  refine lv_ldcw (v := 858993459) hx hb hC.o (hC.w u_2_29) dJ6_bitCount_0f7a4_18 ?_
  refine lv_iand hx hb dJ6_bitCount_0f7a4_21 ?_
  refine lv_iadd hx hb dJ6_bitCount_0f7a4_22 ?_
  obtain ⟨v2, hv, h⟩ := ob h
  refine lv_topi (fun y9 ey9 => ?_)
  obtain rfl : v2 = y9 := (Option.some.inj hv).symm.trans ey9.symm
  clear hv ey9
  refine lv_istore_n (lv' := [(0, .int v2)]) hx hb dJ6_bitCount_0f7a4_23 rfl hl (by decide) rfl (fun ls hl => ?_)
  refine lv_iload_n hx hb dJ6_bitCount_0f7a4_24 rfl (lv_at hl 0 rfl) ?_
  refine lv_iload_n hx hb dJ6_bitCount_0f7a4_25 rfl (lv_at hl 0 rfl) ?_
  refine lv_iconst (v := 4) hx hb dJ6_bitCount_0f7a4_26 (by decide) ?_
  refine lv_iushr (v := (iu v2 4)) hx hb dJ6_bitCount_0f7a4_27 rfl ?_
  refine lv_iadd hx hb dJ6_bitCount_0f7a4_28 ?_
  refine lv_ldcw (v := 252645135) hx hb hC.o (hC.w u_2_30) dJ6_bitCount_0f7a4_29 ?_
  refine lv_iand hx hb dJ6_bitCount_0f7a4_32 ?_
  obtain ⟨v3, hv, h⟩ := ob h
  refine lv_topi (fun y9 ey9 => ?_)
  obtain rfl : v3 = y9 := (Option.some.inj hv).symm.trans ey9.symm
  clear hv ey9
  refine lv_istore_n (lv' := [(0, .int v3)]) hx hb dJ6_bitCount_0f7a4_33 rfl hl (by decide) rfl (fun ls hl => ?_)
  refine lv_iload_n hx hb dJ6_bitCount_0f7a4_34 rfl (lv_at hl 0 rfl) ?_
  refine lv_iload_n hx hb dJ6_bitCount_0f7a4_35 rfl (lv_at hl 0 rfl) ?_
  refine lv_bipush (v := 8) hx hb dJ6_bitCount_0f7a4_36 (by decide) ?_
  refine lv_iushr (v := (iu v3 8)) hx hb dJ6_bitCount_0f7a4_38 rfl ?_
  refine lv_iadd hx hb dJ6_bitCount_0f7a4_39 ?_
  refine lv_istore_n (lv' := [(0, .int (v3 + (iu v3 8)))]) hx hb dJ6_bitCount_0f7a4_40 rfl hl (by decide) rfl (fun ls hl => ?_)
  refine lv_iload_n hx hb dJ6_bitCount_0f7a4_41 rfl (lv_at hl 0 rfl) ?_
  refine lv_iload_n hx hb dJ6_bitCount_0f7a4_42 rfl (lv_at hl 0 rfl) ?_
  refine lv_bipush (v := 16) hx hb dJ6_bitCount_0f7a4_43 (by decide) ?_
  refine lv_iushr (v := (iu (v3 + (iu v3 8)) 16)) hx hb dJ6_bitCount_0f7a4_45 rfl ?_
  refine lv_iadd hx hb dJ6_bitCount_0f7a4_46 ?_
  obtain ⟨v4, hv, h⟩ := ob h
  refine lv_topi (fun y9 ey9 => ?_)
  obtain rfl : v4 = y9 := (Option.some.inj hv).symm.trans ey9.symm
  clear hv ey9
  refine lv_istore_n (lv' := [(0, .int v4)]) hx hb dJ6_bitCount_0f7a4_47 rfl hl (by decide) rfl (fun ls hl => ?_)
  refine lv_iload_n hx hb dJ6_bitCount_0f7a4_48 rfl (lv_at hl 0 rfl) ?_
  refine lv_bipush (v := 63) hx hb dJ6_bitCount_0f7a4_49 (by decide) ?_
  refine lv_iand hx hb dJ6_bitCount_0f7a4_51 ?_
  cases h
  exact g_iret hC hP hS dJ6_bitCount_0f7a4_52 rfl
def r4_contains (x0 : Int32) (x1 : Int32) : Option Int32 :=
  (if ((x0 >>> (x1 &&& 31)) &&& 1) = 0 then some 0
  else some 1)
theorem yv_X4_contains : gYS yX4_contains cX4_contains 2 (some .boolean) 2 := ⟨u_2_49, u_1_1, u_2_50, ⟨by decide +kernel, by decide +kernel, by decide +kernel⟩, by decide⟩
set_option maxHeartbeats 4000000 in
set_option maxRecDepth 100000 in
theorem c4_contains (l : Launch) {γ : GA} {sz : Nat} {T P X Y B M : OS} {E : Nat → OS} {O : Nat → Int64} {x0 : Int32} {x1 : Int32} {r0 : Int32} (h : r4_contains x0 x1 = some r0) : Met l yX4_contains (gU yX4_contains cX4_contains 2 (some .boolean)) (gR 0 0 0) (gPc γ [.int x0, .int x1] sz (T, P, X, Y, E, B, M, O)) (gQi γ r0 sz (T, P, X, Y, E, B, M, O)) 0 0 (gA γ sz) := by
  refine g_met (fun sz => gQi γ r0 sz (T, P, X, Y, E, B, M, O)) (by decide) (Nat.le_of_ble_eq_true rfl) ?_
  intro p e s m args below meth c ls hC hP hS hl
  have hx := hC.x
  have hb := hC.b
  have hl : lv_has ls 2 [(0, .int x0), (1, .int x1)] := hl
  unfold r4_contains at h
  refine lv_iload_n hx hb dX4_contains_0 rfl (lv_at hl 0 rfl) ?_
  refine lv_iload_n hx hb dX4_contains_1 rfl (lv_at hl 1 rfl) ?_
  refine lv_ishr hx hb dX4_contains_2 ?_
  refine lv_iconst (v := 1) hx hb dX4_contains_3 (by decide) ?_
  refine lv_iand hx hb dX4_contains_4 ?_
  refine lv_if_eq (tgt := 12) hx hb dX4_contains_5 (by decide) (fun c1 => ?_) (fun c1 => ?_)
  · rw [if_pos c1] at h
    refine lv_iconst (v := 0) hx hb dX4_contains_12 (by decide) ?_
    have hz : zz 0 = some 0 := rfl
    cases h
    exact g_zret hC hP hS dX4_contains_13 hz rfl
  · rw [if_neg c1] at h
    refine lv_iconst (v := 1) hx hb dX4_contains_8 (by decide) ?_
    refine lv_goto (tgt := 13) hx hb dX4_contains_9 (by decide) ?_
    have hz : zz 1 = some 1 := rfl
    cases h
    exact g_zret hC hP hS dX4_contains_13 hz rfl
def r3_hasEvent (T : OS) (x1 : Int32) : Option Int32 :=
  (if x1 < 0 then some 0
  else (if 14 ≤ x1 then some 0
  else (if (T 13 0) ≤ x1 then some 0
  else some 1)))
theorem yv_X3_hasEvent : gYV yX3_hasEvent cX3_hasEvent 2 (some .boolean) 1 := ⟨u_2_6, u_2_7, u_1_2, u_2_8, ⟨by decide +kernel, by decide +kernel, by decide +kernel⟩, by decide⟩
set_option maxHeartbeats 4000000 in
set_option maxRecDepth 100000 in
theorem c3_hasEvent (l : Launch) {γ : GA} {sz : Nat} {T P X Y B M : OS} {E : Nat → OS} {O : Nat → Int64} {x1 : Int32} {r0 : Int32} (h : r3_hasEvent T x1 = some r0) : Met l yX3_hasEvent (gU yX3_hasEvent cX3_hasEvent 2 (some .boolean)) (gR 0 0 0) (gPc γ [.ref (ad γ 1), .int x1] sz (T, P, X, Y, E, B, M, O)) (gQi γ r0 sz (T, P, X, Y, E, B, M, O)) 0 0 (gA γ sz) := by
  refine g_met (fun sz => gQi γ r0 sz (T, P, X, Y, E, B, M, O)) (by decide) (Nat.le_of_ble_eq_true rfl) ?_
  intro p e s m args below meth c ls hC hP hS hl
  have hx := hC.x
  have hb := hC.b
  have hl : lv_has ls 2 [(0, .ref (ad γ 1)), (1, .int x1)] := hl
  unfold r3_hasEvent at h
  refine lv_iload_n hx hb dX3_hasEvent_0 rfl (lv_at hl 1 rfl) ?_
  refine lv_if_lt (tgt := 22) hx hb dX3_hasEvent_1 (by decide) (fun c1 => ?_) (fun c1 => ?_)
  · rw [if_pos c1] at h
    refine lv_iconst (v := 0) hx hb dX3_hasEvent_22 (by decide) ?_
    have hz : zz 0 = some 0 := rfl
    cases h
    exact g_zret hC hP hS dX3_hasEvent_23 hz rfl
  · rw [if_neg c1] at h
    refine lv_iload_n hx hb dX3_hasEvent_4 rfl (lv_at hl 1 rfl) ?_
    refine lv_bipush (v := 14) hx hb dX3_hasEvent_5 (by decide) ?_
    refine lv_icmp_ge (tgt := 22) hx hb dX3_hasEvent_7 (by decide) (fun c2 => ?_) (fun c2 => ?_)
    · rw [if_pos c2] at h
      refine lv_iconst (v := 0) hx hb dX3_hasEvent_22 (by decide) ?_
      have hz : zz 0 = some 0 := rfl
      cases h
      exact g_zret hC hP hS dX3_hasEvent_23 hz rfl
    · rw [if_neg c2] at h
      refine lv_iload_n hx hb dX3_hasEvent_10 rfl (lv_at hl 1 rfl) ?_
      refine lv_aload_n hx hb dX3_hasEvent_11 rfl (lv_at hl 0 rfl) ?_
      refine g_get hC hP 13 dX3_hasEvent_12 (by decide) ge_1 rfl inX3 (by decide) rfl u_1_76 ?_
      refine lv_icmp_ge (tgt := 22) hx hb dX3_hasEvent_15 (by decide) (fun c3 => ?_) (fun c3 => ?_)
      · rw [if_pos c3] at h
        refine lv_iconst (v := 0) hx hb dX3_hasEvent_22 (by decide) ?_
        have hz : zz 0 = some 0 := rfl
        cases h
        exact g_zret hC hP hS dX3_hasEvent_23 hz rfl
      · rw [if_neg c3] at h
        refine lv_iconst (v := 1) hx hb dX3_hasEvent_18 (by decide) ?_
        refine lv_goto (tgt := 23) hx hb dX3_hasEvent_19 (by decide) ?_
        have hz : zz 1 = some 1 := rfl
        cases h
        exact g_zret hC hP hS dX3_hasEvent_23 hz rfl
def r3_newEvent (T : OS) (x1 : Int32) (x2 : Int32) (x3 : Int32) (x4 : Int32) : Option (Int32 × OS) :=
  (if (T 13 0) < 0 then some ((-1), T)
  else (if (T 13 0) < 14 then (wr 14 T 5 (T 13 0) x1).bind fun T3 =>
  (wr 14 T3 6 (T 13 0) x2).bind fun T4 =>
  (wr 14 T4 7 (T 13 0) x3).bind fun T5 =>
  (wr 14 T5 8 (T 13 0) x4).bind fun T6 =>
  (sw T6 13 ((T 13 0) + 1)).bind fun T7 =>
  some ((T 13 0), T7)
  else some ((-1), T)))
theorem yv_X3_newEvent : gYV yX3_newEvent cX3_newEvent 6 (some .int) 4 := ⟨u_3_104, u_3_105, u_1_2, u_3_106, ⟨by decide +kernel, by decide +kernel, by decide +kernel⟩, by decide⟩
set_option maxHeartbeats 4000000 in
set_option maxRecDepth 100000 in
theorem c3_newEvent (l : Launch) {γ : GA} {sz : Nat} {T P X Y B M : OS} {E : Nat → OS} {O : Nat → Int64} {x1 : Int32} {x2 : Int32} {x3 : Int32} {x4 : Int32} {r0 : Int32} {Tz : OS} (h : r3_newEvent T x1 x2 x3 x4 = some (r0, Tz)) : Met l yX3_newEvent (gU yX3_newEvent cX3_newEvent 6 (some .int)) (gR 0 0 0) (gPc γ [.ref (ad γ 1), .int x1, .int x2, .int x3, .int x4] sz (T, P, X, Y, E, B, M, O)) (gQi γ r0 sz (Tz, P, X, Y, E, B, M, O)) 0 0 (gA γ sz) := by
  refine g_met (fun sz => gQi γ r0 sz (Tz, P, X, Y, E, B, M, O)) (by decide) (Nat.le_of_ble_eq_true rfl) ?_
  intro p e s m args below meth c ls hC hP hS hl
  have hx := hC.x
  have hb := hC.b
  have hl : lv_has ls 6 [(0, .ref (ad γ 1)), (1, .int x1), (2, .int x2), (3, .int x3), (4, .int x4)] := hl
  unfold r3_newEvent at h
  refine lv_aload_n hx hb dX3_newEvent_0 rfl (lv_at hl 0 rfl) ?_
  refine g_get hC hP 13 dX3_newEvent_1 (by decide) ge_1 rfl inX3 (by decide) rfl u_1_76 ?_
  refine lv_istore (lv' := [(5, .int (T 13 0)), (0, .ref (ad γ 1)), (1, .int x1), (2, .int x2), (3, .int x3), (4, .int x4)]) hx hb dX3_newEvent_4 hl (by decide) rfl (fun ls hl => ?_)
  refine lv_iload hx hb dX3_newEvent_6 (lv_at hl 0 rfl) ?_
  refine lv_if_lt (tgt := 18) hx hb dX3_newEvent_8 (by decide) (fun c1 => ?_) (fun c1 => ?_)
  · rw [if_pos c1] at h
    refine lv_iconst (v := -1) hx hb dX3_newEvent_18 (by decide) ?_
    cases h
    exact g_iret hC hP hS dX3_newEvent_19 rfl
  · rw [if_neg c1] at h
    refine lv_iload hx hb dX3_newEvent_11 (lv_at hl 0 rfl) ?_
    refine lv_bipush (v := 14) hx hb dX3_newEvent_13 (by decide) ?_
    refine lv_icmp_lt (tgt := 20) hx hb dX3_newEvent_15 (by decide) (fun c2 => ?_) (fun c2 => ?_)
    · rw [if_pos c2] at h
      refine lv_aload_n hx hb dX3_newEvent_20 rfl (lv_at hl 1 rfl) ?_
      refine g_get hC hP 5 dX3_newEvent_21 (by decide) ge_1 rfl inX3 (by decide) rfl u_1_55 ?_
      refine lv_iload hx hb dX3_newEvent_24 (lv_at hl 0 rfl) ?_
      refine lv_iload_n hx hb dX3_newEvent_26 rfl (lv_at hl 2 rfl) ?_
      obtain ⟨T3, hv, h⟩ := ob h
      refine g_st hC hP hS (fun Z => (Z, P, X, Y, E, B, M, O)) dX3_newEvent_27 (by decide) ge_7 gs_7 hv (fun H locs hP hS => ?_)
      refine lv_aload_n hx hb dX3_newEvent_28 rfl (lv_at hl 1 rfl) ?_
      refine g_get hC hP 6 dX3_newEvent_29 (by decide) ge_1 rfl inX3 (by decide) rfl u_1_58 ?_
      refine lv_iload hx hb dX3_newEvent_32 (lv_at hl 0 rfl) ?_
      refine lv_iload_n hx hb dX3_newEvent_34 rfl (lv_at hl 3 rfl) ?_
      obtain ⟨T4, hv, h⟩ := ob h
      refine g_st hC hP hS (fun Z => (Z, P, X, Y, E, B, M, O)) dX3_newEvent_35 (by decide) ge_8 gs_8 hv (fun H locs hP hS => ?_)
      refine lv_aload_n hx hb dX3_newEvent_36 rfl (lv_at hl 1 rfl) ?_
      refine g_get hC hP 7 dX3_newEvent_37 (by decide) ge_1 rfl inX3 (by decide) rfl u_1_61 ?_
      refine lv_iload hx hb dX3_newEvent_40 (lv_at hl 0 rfl) ?_
      refine lv_iload_n hx hb dX3_newEvent_42 rfl (lv_at hl 4 rfl) ?_
      obtain ⟨T5, hv, h⟩ := ob h
      refine g_st hC hP hS (fun Z => (Z, P, X, Y, E, B, M, O)) dX3_newEvent_43 (by decide) ge_9 gs_9 hv (fun H locs hP hS => ?_)
      refine lv_aload_n hx hb dX3_newEvent_44 rfl (lv_at hl 1 rfl) ?_
      refine g_get hC hP 8 dX3_newEvent_45 (by decide) ge_1 rfl inX3 (by decide) rfl u_1_63 ?_
      refine lv_iload hx hb dX3_newEvent_48 (lv_at hl 0 rfl) ?_
      refine lv_iload hx hb dX3_newEvent_50 (lv_at hl 5 rfl) ?_
      obtain ⟨T6, hv, h⟩ := ob h
      refine g_st hC hP hS (fun Z => (Z, P, X, Y, E, B, M, O)) dX3_newEvent_52 (by decide) ge_10 gs_10 hv (fun H locs hP hS => ?_)
      refine lv_aload_n hx hb dX3_newEvent_53 rfl (lv_at hl 1 rfl) ?_
      refine lv_iload hx hb dX3_newEvent_54 (lv_at hl 0 rfl) ?_
      refine lv_iconst (v := 1) hx hb dX3_newEvent_56 (by decide) ?_
      refine lv_iadd hx hb dX3_newEvent_57 ?_
      obtain ⟨T7, hv, h⟩ := ob h
      refine g_putI hC hP hS (fun Z => (Z, P, X, Y, E, B, M, O)) 13 tyX3 dX3_newEvent_58 (by decide) ge_1 rfl inX3 tyX3_ok nmX3 (by decide) u_1_76 rfl rfl (Nat.le_of_ble_eq_true rfl) gp_1_13 hv (fun H locs hP hS => ?_)
      refine lv_iload hx hb dX3_newEvent_61 (lv_at hl 0 rfl) ?_
      cases h
      exact g_iret hC hP hS dX3_newEvent_63 rfl
    · rw [if_neg c2] at h
      refine lv_iconst (v := -1) hx hb dX3_newEvent_18 (by decide) ?_
      cases h
      exact g_iret hC hP hS dX3_newEvent_19 rfl
def r3_closeUp_c7_b2 (x2 : Int32) (T_2 : OS) (x3_2 : Int32) : Option ((OS × Int32) ⊕ (OS)) :=
  (if 13 ≤ x3_2 then some (.inr T_2)
  else (rd 14 (T_2 5) (x3_2 + 1)).bind fun v2 =>
  (wr 14 T_2 5 x3_2 v2).bind fun T3 =>
  some (.inl (T3, (x3_2 + 1))))
def r3_closeUp_c7 (T : OS) (x1 : Int32) (x2 : Int32) : Option OS :=
  bd1 (it2 (r3_closeUp_c7_b2 x2) 200 T x1) (fun T_x2 => (wr 14 T_x2 5 13 x2).bind fun T4 =>
  some T4)
theorem yv_X3_closeUp : gYS yX3_closeUp cX3_closeUp 4 none 3 := ⟨u_3_125, u_1_2, u_3_126, ⟨by decide +kernel, by decide +kernel, by decide +kernel⟩, by decide⟩
set_option maxHeartbeats 4000000 in
set_option maxRecDepth 100000 in
theorem c3_closeUp_c7 (l : Launch) {γ : GA} {sz : Nat} {T P X Y B M : OS} {E : Nat → OS} {O : Nat → Int64} {x1 : Int32} {x2 : Int32} {Tz : OS} (h : r3_closeUp_c7 T x1 x2 = some Tz) : Met l yX3_closeUp (gU yX3_closeUp cX3_closeUp 4 none) (gR 0 0 0) (gPc γ [.ref (ad γ 7), .int x1, .int x2] sz (T, P, X, Y, E, B, M, O)) (gQv γ sz (Tz, P, X, Y, E, B, M, O)) 0 0 (gA γ sz) := by
  refine g_met (fun sz => gQv γ sz (Tz, P, X, Y, E, B, M, O)) (by decide) (Nat.le_of_ble_eq_true rfl) ?_
  intro p e s m args below meth c ls hC hP hS hl
  have hx := hC.x
  have hb := hC.b
  have hl : lv_has ls 4 [(0, .ref (ad γ 7)), (1, .int x1), (2, .int x2)] := hl
  unfold r3_closeUp_c7 at h
  refine lv_iload_n hx hb dX3_closeUp_0 rfl (lv_at hl 1 rfl) ?_
  refine lv_istore_n (lv' := [(3, .int x1), (0, .ref (ad γ 7)), (1, .int x1), (2, .int x2)]) hx hb dX3_closeUp_1 rfl hl (by decide) rfl (fun ls hl => ?_)
  have L2 := it2_W (r3_closeUp_c7_b2 x2) (fun (T_2 : OS) (x3_2 : Int32) => ∀ (H : Heap) (locs : List Loc) (ls : Array Slot), va_P γ.1 vwCl (gw γ (T_2, P, X, Y, E, B, M, O)) H → va_S (gA γ s.heap.size) s.heap H locs → lv_has ls 4 [(0, .ref (ad γ 7)), (2, .int x2), (3, .int x3_2)] → W p l e (gR 0 0 0) s m args below meth c H locs 0 0 (MQ below (gQv γ s.heap.size (Tz, P, X, Y, E, B, M, O)) args s 0 0 (gA γ s.heap.size)) (F0 m 2 ls [])) (fun (r_k : OS) => (∀ (T_x2 : OS), r_k = T_x2 → ∀ (H : Heap) (locs : List Loc) (ls : Array Slot), va_P γ.1 vwCl (gw γ (T_x2, P, X, Y, E, B, M, O)) H → va_S (gA γ s.heap.size) s.heap H locs → lv_has ls 4 [(0, .ref (ad γ 7)), (2, .int x2)] → W p l e (gR 0 0 0) s m args below meth c H locs 0 0 (MQ below (gQv γ s.heap.size (Tz, P, X, Y, E, B, M, O)) args s 0 0 (gA γ s.heap.size)) (F0 m 22 ls []))) (by
    intro T_2 x3_2 o_2 h kS kR H locs ls hP hS hl
    unfold r3_closeUp_c7_b2 at h
    refine lv_iload_n hx hb dX3_closeUp_2 rfl (lv_at hl 2 rfl) ?_
    refine lv_bipush (v := 13) hx hb dX3_closeUp_3 (by decide) ?_
    refine lv_icmp_ge (tgt := 22) hx hb dX3_closeUp_5 (by decide) (fun c1 => ?_) (fun c1 => ?_)
    · rw [if_pos c1] at h
      cases h
      exact kR _ rfl _ rfl _ _ _ hP hS (lv_sub hl [0, 1] rfl)
    · rw [if_neg c1] at h
      refine lv_aload_n hx hb dX3_closeUp_8 rfl (lv_at hl 0 rfl) ?_
      refine lv_iload_n hx hb dX3_closeUp_9 rfl (lv_at hl 2 rfl) ?_
      refine lv_aload_n hx hb dX3_closeUp_10 rfl (lv_at hl 0 rfl) ?_
      refine lv_iload_n hx hb dX3_closeUp_11 rfl (lv_at hl 2 rfl) ?_
      refine lv_iconst (v := 1) hx hb dX3_closeUp_12 (by decide) ?_
      refine lv_iadd hx hb dX3_closeUp_13 ?_
      obtain ⟨v2, hv, h⟩ := ob h
      refine g_ld hC hP dX3_closeUp_14 (by decide) ge_7 hv ?_
      obtain ⟨T3, hv, h⟩ := ob h
      refine g_st hC hP hS (fun Z => (Z, P, X, Y, E, B, M, O)) dX3_closeUp_15 (by decide) ge_7 gs_7 hv (fun H locs hP hS => ?_)
      refine lv_iinc (v := (x3_2 + 1)) (lv' := [(3, .int (x3_2 + 1)), (0, .ref (ad γ 7)), (2, .int x2)]) hx hb dX3_closeUp_16 hl (k := 2) rfl rfl (by decide) rfl (fun ls hl => ?_)
      refine lv_goto (tgt := 2) hx hb dX3_closeUp_19 (by decide) ?_
      cases h
      exact kS _ _ rfl _ _ _ hP hS (lv_sub hl [1, 2, 0] rfl))
  obtain ⟨T_x2, hv, h⟩ := bd1_e h
  refine L2 _ _ _ _ hv (fun q0 e9 H locs ls hP hS hl => ?_) _ _ _ hP hS (lv_sub hl [1, 3, 0] rfl)
  obtain rfl := e9
  refine lv_aload_n hx hb dX3_closeUp_22 rfl (lv_at hl 0 rfl) ?_
  refine lv_bipush (v := 13) hx hb dX3_closeUp_23 (by decide) ?_
  refine lv_iload_n hx hb dX3_closeUp_25 rfl (lv_at hl 1 rfl) ?_
  obtain ⟨T4, hv, h⟩ := ob h
  refine g_st hC hP hS (fun Z => (Z, P, X, Y, E, B, M, O)) dX3_closeUp_26 (by decide) ge_7 gs_7 hv (fun H locs hP hS => ?_)
  cases h
  exact g_vret hC hP hS dX3_closeUp_27
def r3_closeUp_c8_b2 (x2 : Int32) (T_2 : OS) (x3_2 : Int32) : Option ((OS × Int32) ⊕ (OS)) :=
  (if 13 ≤ x3_2 then some (.inr T_2)
  else (rd 14 (T_2 6) (x3_2 + 1)).bind fun v2 =>
  (wr 14 T_2 6 x3_2 v2).bind fun T3 =>
  some (.inl (T3, (x3_2 + 1))))
def r3_closeUp_c8 (T : OS) (x1 : Int32) (x2 : Int32) : Option OS :=
  bd1 (it2 (r3_closeUp_c8_b2 x2) 200 T x1) (fun T_x2 => (wr 14 T_x2 6 13 x2).bind fun T4 =>
  some T4)
set_option maxHeartbeats 4000000 in
set_option maxRecDepth 100000 in
theorem c3_closeUp_c8 (l : Launch) {γ : GA} {sz : Nat} {T P X Y B M : OS} {E : Nat → OS} {O : Nat → Int64} {x1 : Int32} {x2 : Int32} {Tz : OS} (h : r3_closeUp_c8 T x1 x2 = some Tz) : Met l yX3_closeUp (gU yX3_closeUp cX3_closeUp 4 none) (gR 0 0 0) (gPc γ [.ref (ad γ 8), .int x1, .int x2] sz (T, P, X, Y, E, B, M, O)) (gQv γ sz (Tz, P, X, Y, E, B, M, O)) 0 0 (gA γ sz) := by
  refine g_met (fun sz => gQv γ sz (Tz, P, X, Y, E, B, M, O)) (by decide) (Nat.le_of_ble_eq_true rfl) ?_
  intro p e s m args below meth c ls hC hP hS hl
  have hx := hC.x
  have hb := hC.b
  have hl : lv_has ls 4 [(0, .ref (ad γ 8)), (1, .int x1), (2, .int x2)] := hl
  unfold r3_closeUp_c8 at h
  refine lv_iload_n hx hb dX3_closeUp_0 rfl (lv_at hl 1 rfl) ?_
  refine lv_istore_n (lv' := [(3, .int x1), (0, .ref (ad γ 8)), (1, .int x1), (2, .int x2)]) hx hb dX3_closeUp_1 rfl hl (by decide) rfl (fun ls hl => ?_)
  have L2 := it2_W (r3_closeUp_c8_b2 x2) (fun (T_2 : OS) (x3_2 : Int32) => ∀ (H : Heap) (locs : List Loc) (ls : Array Slot), va_P γ.1 vwCl (gw γ (T_2, P, X, Y, E, B, M, O)) H → va_S (gA γ s.heap.size) s.heap H locs → lv_has ls 4 [(0, .ref (ad γ 8)), (2, .int x2), (3, .int x3_2)] → W p l e (gR 0 0 0) s m args below meth c H locs 0 0 (MQ below (gQv γ s.heap.size (Tz, P, X, Y, E, B, M, O)) args s 0 0 (gA γ s.heap.size)) (F0 m 2 ls [])) (fun (r_k : OS) => (∀ (T_x2 : OS), r_k = T_x2 → ∀ (H : Heap) (locs : List Loc) (ls : Array Slot), va_P γ.1 vwCl (gw γ (T_x2, P, X, Y, E, B, M, O)) H → va_S (gA γ s.heap.size) s.heap H locs → lv_has ls 4 [(0, .ref (ad γ 8)), (2, .int x2)] → W p l e (gR 0 0 0) s m args below meth c H locs 0 0 (MQ below (gQv γ s.heap.size (Tz, P, X, Y, E, B, M, O)) args s 0 0 (gA γ s.heap.size)) (F0 m 22 ls []))) (by
    intro T_2 x3_2 o_2 h kS kR H locs ls hP hS hl
    unfold r3_closeUp_c8_b2 at h
    refine lv_iload_n hx hb dX3_closeUp_2 rfl (lv_at hl 2 rfl) ?_
    refine lv_bipush (v := 13) hx hb dX3_closeUp_3 (by decide) ?_
    refine lv_icmp_ge (tgt := 22) hx hb dX3_closeUp_5 (by decide) (fun c1 => ?_) (fun c1 => ?_)
    · rw [if_pos c1] at h
      cases h
      exact kR _ rfl _ rfl _ _ _ hP hS (lv_sub hl [0, 1] rfl)
    · rw [if_neg c1] at h
      refine lv_aload_n hx hb dX3_closeUp_8 rfl (lv_at hl 0 rfl) ?_
      refine lv_iload_n hx hb dX3_closeUp_9 rfl (lv_at hl 2 rfl) ?_
      refine lv_aload_n hx hb dX3_closeUp_10 rfl (lv_at hl 0 rfl) ?_
      refine lv_iload_n hx hb dX3_closeUp_11 rfl (lv_at hl 2 rfl) ?_
      refine lv_iconst (v := 1) hx hb dX3_closeUp_12 (by decide) ?_
      refine lv_iadd hx hb dX3_closeUp_13 ?_
      obtain ⟨v2, hv, h⟩ := ob h
      refine g_ld hC hP dX3_closeUp_14 (by decide) ge_8 hv ?_
      obtain ⟨T3, hv, h⟩ := ob h
      refine g_st hC hP hS (fun Z => (Z, P, X, Y, E, B, M, O)) dX3_closeUp_15 (by decide) ge_8 gs_8 hv (fun H locs hP hS => ?_)
      refine lv_iinc (v := (x3_2 + 1)) (lv' := [(3, .int (x3_2 + 1)), (0, .ref (ad γ 8)), (2, .int x2)]) hx hb dX3_closeUp_16 hl (k := 2) rfl rfl (by decide) rfl (fun ls hl => ?_)
      refine lv_goto (tgt := 2) hx hb dX3_closeUp_19 (by decide) ?_
      cases h
      exact kS _ _ rfl _ _ _ hP hS (lv_sub hl [1, 2, 0] rfl))
  obtain ⟨T_x2, hv, h⟩ := bd1_e h
  refine L2 _ _ _ _ hv (fun q0 e9 H locs ls hP hS hl => ?_) _ _ _ hP hS (lv_sub hl [1, 3, 0] rfl)
  obtain rfl := e9
  refine lv_aload_n hx hb dX3_closeUp_22 rfl (lv_at hl 0 rfl) ?_
  refine lv_bipush (v := 13) hx hb dX3_closeUp_23 (by decide) ?_
  refine lv_iload_n hx hb dX3_closeUp_25 rfl (lv_at hl 1 rfl) ?_
  obtain ⟨T4, hv, h⟩ := ob h
  refine g_st hC hP hS (fun Z => (Z, P, X, Y, E, B, M, O)) dX3_closeUp_26 (by decide) ge_8 gs_8 hv (fun H locs hP hS => ?_)
  cases h
  exact g_vret hC hP hS dX3_closeUp_27
def r3_closeUp_c9_b2 (x2 : Int32) (T_2 : OS) (x3_2 : Int32) : Option ((OS × Int32) ⊕ (OS)) :=
  (if 13 ≤ x3_2 then some (.inr T_2)
  else (rd 14 (T_2 7) (x3_2 + 1)).bind fun v2 =>
  (wr 14 T_2 7 x3_2 v2).bind fun T3 =>
  some (.inl (T3, (x3_2 + 1))))
def r3_closeUp_c9 (T : OS) (x1 : Int32) (x2 : Int32) : Option OS :=
  bd1 (it2 (r3_closeUp_c9_b2 x2) 200 T x1) (fun T_x2 => (wr 14 T_x2 7 13 x2).bind fun T4 =>
  some T4)
set_option maxHeartbeats 4000000 in
set_option maxRecDepth 100000 in
theorem c3_closeUp_c9 (l : Launch) {γ : GA} {sz : Nat} {T P X Y B M : OS} {E : Nat → OS} {O : Nat → Int64} {x1 : Int32} {x2 : Int32} {Tz : OS} (h : r3_closeUp_c9 T x1 x2 = some Tz) : Met l yX3_closeUp (gU yX3_closeUp cX3_closeUp 4 none) (gR 0 0 0) (gPc γ [.ref (ad γ 9), .int x1, .int x2] sz (T, P, X, Y, E, B, M, O)) (gQv γ sz (Tz, P, X, Y, E, B, M, O)) 0 0 (gA γ sz) := by
  refine g_met (fun sz => gQv γ sz (Tz, P, X, Y, E, B, M, O)) (by decide) (Nat.le_of_ble_eq_true rfl) ?_
  intro p e s m args below meth c ls hC hP hS hl
  have hx := hC.x
  have hb := hC.b
  have hl : lv_has ls 4 [(0, .ref (ad γ 9)), (1, .int x1), (2, .int x2)] := hl
  unfold r3_closeUp_c9 at h
  refine lv_iload_n hx hb dX3_closeUp_0 rfl (lv_at hl 1 rfl) ?_
  refine lv_istore_n (lv' := [(3, .int x1), (0, .ref (ad γ 9)), (1, .int x1), (2, .int x2)]) hx hb dX3_closeUp_1 rfl hl (by decide) rfl (fun ls hl => ?_)
  have L2 := it2_W (r3_closeUp_c9_b2 x2) (fun (T_2 : OS) (x3_2 : Int32) => ∀ (H : Heap) (locs : List Loc) (ls : Array Slot), va_P γ.1 vwCl (gw γ (T_2, P, X, Y, E, B, M, O)) H → va_S (gA γ s.heap.size) s.heap H locs → lv_has ls 4 [(0, .ref (ad γ 9)), (2, .int x2), (3, .int x3_2)] → W p l e (gR 0 0 0) s m args below meth c H locs 0 0 (MQ below (gQv γ s.heap.size (Tz, P, X, Y, E, B, M, O)) args s 0 0 (gA γ s.heap.size)) (F0 m 2 ls [])) (fun (r_k : OS) => (∀ (T_x2 : OS), r_k = T_x2 → ∀ (H : Heap) (locs : List Loc) (ls : Array Slot), va_P γ.1 vwCl (gw γ (T_x2, P, X, Y, E, B, M, O)) H → va_S (gA γ s.heap.size) s.heap H locs → lv_has ls 4 [(0, .ref (ad γ 9)), (2, .int x2)] → W p l e (gR 0 0 0) s m args below meth c H locs 0 0 (MQ below (gQv γ s.heap.size (Tz, P, X, Y, E, B, M, O)) args s 0 0 (gA γ s.heap.size)) (F0 m 22 ls []))) (by
    intro T_2 x3_2 o_2 h kS kR H locs ls hP hS hl
    unfold r3_closeUp_c9_b2 at h
    refine lv_iload_n hx hb dX3_closeUp_2 rfl (lv_at hl 2 rfl) ?_
    refine lv_bipush (v := 13) hx hb dX3_closeUp_3 (by decide) ?_
    refine lv_icmp_ge (tgt := 22) hx hb dX3_closeUp_5 (by decide) (fun c1 => ?_) (fun c1 => ?_)
    · rw [if_pos c1] at h
      cases h
      exact kR _ rfl _ rfl _ _ _ hP hS (lv_sub hl [0, 1] rfl)
    · rw [if_neg c1] at h
      refine lv_aload_n hx hb dX3_closeUp_8 rfl (lv_at hl 0 rfl) ?_
      refine lv_iload_n hx hb dX3_closeUp_9 rfl (lv_at hl 2 rfl) ?_
      refine lv_aload_n hx hb dX3_closeUp_10 rfl (lv_at hl 0 rfl) ?_
      refine lv_iload_n hx hb dX3_closeUp_11 rfl (lv_at hl 2 rfl) ?_
      refine lv_iconst (v := 1) hx hb dX3_closeUp_12 (by decide) ?_
      refine lv_iadd hx hb dX3_closeUp_13 ?_
      obtain ⟨v2, hv, h⟩ := ob h
      refine g_ld hC hP dX3_closeUp_14 (by decide) ge_9 hv ?_
      obtain ⟨T3, hv, h⟩ := ob h
      refine g_st hC hP hS (fun Z => (Z, P, X, Y, E, B, M, O)) dX3_closeUp_15 (by decide) ge_9 gs_9 hv (fun H locs hP hS => ?_)
      refine lv_iinc (v := (x3_2 + 1)) (lv' := [(3, .int (x3_2 + 1)), (0, .ref (ad γ 9)), (2, .int x2)]) hx hb dX3_closeUp_16 hl (k := 2) rfl rfl (by decide) rfl (fun ls hl => ?_)
      refine lv_goto (tgt := 2) hx hb dX3_closeUp_19 (by decide) ?_
      cases h
      exact kS _ _ rfl _ _ _ hP hS (lv_sub hl [1, 2, 0] rfl))
  obtain ⟨T_x2, hv, h⟩ := bd1_e h
  refine L2 _ _ _ _ hv (fun q0 e9 H locs ls hP hS hl => ?_) _ _ _ hP hS (lv_sub hl [1, 3, 0] rfl)
  obtain rfl := e9
  refine lv_aload_n hx hb dX3_closeUp_22 rfl (lv_at hl 0 rfl) ?_
  refine lv_bipush (v := 13) hx hb dX3_closeUp_23 (by decide) ?_
  refine lv_iload_n hx hb dX3_closeUp_25 rfl (lv_at hl 1 rfl) ?_
  obtain ⟨T4, hv, h⟩ := ob h
  refine g_st hC hP hS (fun Z => (Z, P, X, Y, E, B, M, O)) dX3_closeUp_26 (by decide) ge_9 gs_9 hv (fun H locs hP hS => ?_)
  cases h
  exact g_vret hC hP hS dX3_closeUp_27
def r3_closeUp_c10_b2 (x2 : Int32) (T_2 : OS) (x3_2 : Int32) : Option ((OS × Int32) ⊕ (OS)) :=
  (if 13 ≤ x3_2 then some (.inr T_2)
  else (rd 14 (T_2 8) (x3_2 + 1)).bind fun v2 =>
  (wr 14 T_2 8 x3_2 v2).bind fun T3 =>
  some (.inl (T3, (x3_2 + 1))))
def r3_closeUp_c10 (T : OS) (x1 : Int32) (x2 : Int32) : Option OS :=
  bd1 (it2 (r3_closeUp_c10_b2 x2) 200 T x1) (fun T_x2 => (wr 14 T_x2 8 13 x2).bind fun T4 =>
  some T4)
set_option maxHeartbeats 4000000 in
set_option maxRecDepth 100000 in
theorem c3_closeUp_c10 (l : Launch) {γ : GA} {sz : Nat} {T P X Y B M : OS} {E : Nat → OS} {O : Nat → Int64} {x1 : Int32} {x2 : Int32} {Tz : OS} (h : r3_closeUp_c10 T x1 x2 = some Tz) : Met l yX3_closeUp (gU yX3_closeUp cX3_closeUp 4 none) (gR 0 0 0) (gPc γ [.ref (ad γ 10), .int x1, .int x2] sz (T, P, X, Y, E, B, M, O)) (gQv γ sz (Tz, P, X, Y, E, B, M, O)) 0 0 (gA γ sz) := by
  refine g_met (fun sz => gQv γ sz (Tz, P, X, Y, E, B, M, O)) (by decide) (Nat.le_of_ble_eq_true rfl) ?_
  intro p e s m args below meth c ls hC hP hS hl
  have hx := hC.x
  have hb := hC.b
  have hl : lv_has ls 4 [(0, .ref (ad γ 10)), (1, .int x1), (2, .int x2)] := hl
  unfold r3_closeUp_c10 at h
  refine lv_iload_n hx hb dX3_closeUp_0 rfl (lv_at hl 1 rfl) ?_
  refine lv_istore_n (lv' := [(3, .int x1), (0, .ref (ad γ 10)), (1, .int x1), (2, .int x2)]) hx hb dX3_closeUp_1 rfl hl (by decide) rfl (fun ls hl => ?_)
  have L2 := it2_W (r3_closeUp_c10_b2 x2) (fun (T_2 : OS) (x3_2 : Int32) => ∀ (H : Heap) (locs : List Loc) (ls : Array Slot), va_P γ.1 vwCl (gw γ (T_2, P, X, Y, E, B, M, O)) H → va_S (gA γ s.heap.size) s.heap H locs → lv_has ls 4 [(0, .ref (ad γ 10)), (2, .int x2), (3, .int x3_2)] → W p l e (gR 0 0 0) s m args below meth c H locs 0 0 (MQ below (gQv γ s.heap.size (Tz, P, X, Y, E, B, M, O)) args s 0 0 (gA γ s.heap.size)) (F0 m 2 ls [])) (fun (r_k : OS) => (∀ (T_x2 : OS), r_k = T_x2 → ∀ (H : Heap) (locs : List Loc) (ls : Array Slot), va_P γ.1 vwCl (gw γ (T_x2, P, X, Y, E, B, M, O)) H → va_S (gA γ s.heap.size) s.heap H locs → lv_has ls 4 [(0, .ref (ad γ 10)), (2, .int x2)] → W p l e (gR 0 0 0) s m args below meth c H locs 0 0 (MQ below (gQv γ s.heap.size (Tz, P, X, Y, E, B, M, O)) args s 0 0 (gA γ s.heap.size)) (F0 m 22 ls []))) (by
    intro T_2 x3_2 o_2 h kS kR H locs ls hP hS hl
    unfold r3_closeUp_c10_b2 at h
    refine lv_iload_n hx hb dX3_closeUp_2 rfl (lv_at hl 2 rfl) ?_
    refine lv_bipush (v := 13) hx hb dX3_closeUp_3 (by decide) ?_
    refine lv_icmp_ge (tgt := 22) hx hb dX3_closeUp_5 (by decide) (fun c1 => ?_) (fun c1 => ?_)
    · rw [if_pos c1] at h
      cases h
      exact kR _ rfl _ rfl _ _ _ hP hS (lv_sub hl [0, 1] rfl)
    · rw [if_neg c1] at h
      refine lv_aload_n hx hb dX3_closeUp_8 rfl (lv_at hl 0 rfl) ?_
      refine lv_iload_n hx hb dX3_closeUp_9 rfl (lv_at hl 2 rfl) ?_
      refine lv_aload_n hx hb dX3_closeUp_10 rfl (lv_at hl 0 rfl) ?_
      refine lv_iload_n hx hb dX3_closeUp_11 rfl (lv_at hl 2 rfl) ?_
      refine lv_iconst (v := 1) hx hb dX3_closeUp_12 (by decide) ?_
      refine lv_iadd hx hb dX3_closeUp_13 ?_
      obtain ⟨v2, hv, h⟩ := ob h
      refine g_ld hC hP dX3_closeUp_14 (by decide) ge_10 hv ?_
      obtain ⟨T3, hv, h⟩ := ob h
      refine g_st hC hP hS (fun Z => (Z, P, X, Y, E, B, M, O)) dX3_closeUp_15 (by decide) ge_10 gs_10 hv (fun H locs hP hS => ?_)
      refine lv_iinc (v := (x3_2 + 1)) (lv' := [(3, .int (x3_2 + 1)), (0, .ref (ad γ 10)), (2, .int x2)]) hx hb dX3_closeUp_16 hl (k := 2) rfl rfl (by decide) rfl (fun ls hl => ?_)
      refine lv_goto (tgt := 2) hx hb dX3_closeUp_19 (by decide) ?_
      cases h
      exact kS _ _ rfl _ _ _ hP hS (lv_sub hl [1, 2, 0] rfl))
  obtain ⟨T_x2, hv, h⟩ := bd1_e h
  refine L2 _ _ _ _ hv (fun q0 e9 H locs ls hP hS hl => ?_) _ _ _ hP hS (lv_sub hl [1, 3, 0] rfl)
  obtain rfl := e9
  refine lv_aload_n hx hb dX3_closeUp_22 rfl (lv_at hl 0 rfl) ?_
  refine lv_bipush (v := 13) hx hb dX3_closeUp_23 (by decide) ?_
  refine lv_iload_n hx hb dX3_closeUp_25 rfl (lv_at hl 1 rfl) ?_
  obtain ⟨T4, hv, h⟩ := ob h
  refine g_st hC hP hS (fun Z => (Z, P, X, Y, E, B, M, O)) dX3_closeUp_26 (by decide) ge_10 gs_10 hv (fun H locs hP hS => ?_)
  cases h
  exact g_vret hC hP hS dX3_closeUp_27
def r3_closeUp_c11_b2 (x2 : Int32) (T_2 : OS) (x3_2 : Int32) : Option ((OS × Int32) ⊕ (OS)) :=
  (if 13 ≤ x3_2 then some (.inr T_2)
  else (rd 14 (T_2 9) (x3_2 + 1)).bind fun v2 =>
  (wr 14 T_2 9 x3_2 v2).bind fun T3 =>
  some (.inl (T3, (x3_2 + 1))))
def r3_closeUp_c11 (T : OS) (x1 : Int32) (x2 : Int32) : Option OS :=
  bd1 (it2 (r3_closeUp_c11_b2 x2) 200 T x1) (fun T_x2 => (wr 14 T_x2 9 13 x2).bind fun T4 =>
  some T4)
set_option maxHeartbeats 4000000 in
set_option maxRecDepth 100000 in
theorem c3_closeUp_c11 (l : Launch) {γ : GA} {sz : Nat} {T P X Y B M : OS} {E : Nat → OS} {O : Nat → Int64} {x1 : Int32} {x2 : Int32} {Tz : OS} (h : r3_closeUp_c11 T x1 x2 = some Tz) : Met l yX3_closeUp (gU yX3_closeUp cX3_closeUp 4 none) (gR 0 0 0) (gPc γ [.ref (ad γ 11), .int x1, .int x2] sz (T, P, X, Y, E, B, M, O)) (gQv γ sz (Tz, P, X, Y, E, B, M, O)) 0 0 (gA γ sz) := by
  refine g_met (fun sz => gQv γ sz (Tz, P, X, Y, E, B, M, O)) (by decide) (Nat.le_of_ble_eq_true rfl) ?_
  intro p e s m args below meth c ls hC hP hS hl
  have hx := hC.x
  have hb := hC.b
  have hl : lv_has ls 4 [(0, .ref (ad γ 11)), (1, .int x1), (2, .int x2)] := hl
  unfold r3_closeUp_c11 at h
  refine lv_iload_n hx hb dX3_closeUp_0 rfl (lv_at hl 1 rfl) ?_
  refine lv_istore_n (lv' := [(3, .int x1), (0, .ref (ad γ 11)), (1, .int x1), (2, .int x2)]) hx hb dX3_closeUp_1 rfl hl (by decide) rfl (fun ls hl => ?_)
  have L2 := it2_W (r3_closeUp_c11_b2 x2) (fun (T_2 : OS) (x3_2 : Int32) => ∀ (H : Heap) (locs : List Loc) (ls : Array Slot), va_P γ.1 vwCl (gw γ (T_2, P, X, Y, E, B, M, O)) H → va_S (gA γ s.heap.size) s.heap H locs → lv_has ls 4 [(0, .ref (ad γ 11)), (2, .int x2), (3, .int x3_2)] → W p l e (gR 0 0 0) s m args below meth c H locs 0 0 (MQ below (gQv γ s.heap.size (Tz, P, X, Y, E, B, M, O)) args s 0 0 (gA γ s.heap.size)) (F0 m 2 ls [])) (fun (r_k : OS) => (∀ (T_x2 : OS), r_k = T_x2 → ∀ (H : Heap) (locs : List Loc) (ls : Array Slot), va_P γ.1 vwCl (gw γ (T_x2, P, X, Y, E, B, M, O)) H → va_S (gA γ s.heap.size) s.heap H locs → lv_has ls 4 [(0, .ref (ad γ 11)), (2, .int x2)] → W p l e (gR 0 0 0) s m args below meth c H locs 0 0 (MQ below (gQv γ s.heap.size (Tz, P, X, Y, E, B, M, O)) args s 0 0 (gA γ s.heap.size)) (F0 m 22 ls []))) (by
    intro T_2 x3_2 o_2 h kS kR H locs ls hP hS hl
    unfold r3_closeUp_c11_b2 at h
    refine lv_iload_n hx hb dX3_closeUp_2 rfl (lv_at hl 2 rfl) ?_
    refine lv_bipush (v := 13) hx hb dX3_closeUp_3 (by decide) ?_
    refine lv_icmp_ge (tgt := 22) hx hb dX3_closeUp_5 (by decide) (fun c1 => ?_) (fun c1 => ?_)
    · rw [if_pos c1] at h
      cases h
      exact kR _ rfl _ rfl _ _ _ hP hS (lv_sub hl [0, 1] rfl)
    · rw [if_neg c1] at h
      refine lv_aload_n hx hb dX3_closeUp_8 rfl (lv_at hl 0 rfl) ?_
      refine lv_iload_n hx hb dX3_closeUp_9 rfl (lv_at hl 2 rfl) ?_
      refine lv_aload_n hx hb dX3_closeUp_10 rfl (lv_at hl 0 rfl) ?_
      refine lv_iload_n hx hb dX3_closeUp_11 rfl (lv_at hl 2 rfl) ?_
      refine lv_iconst (v := 1) hx hb dX3_closeUp_12 (by decide) ?_
      refine lv_iadd hx hb dX3_closeUp_13 ?_
      obtain ⟨v2, hv, h⟩ := ob h
      refine g_ld hC hP dX3_closeUp_14 (by decide) ge_11 hv ?_
      obtain ⟨T3, hv, h⟩ := ob h
      refine g_st hC hP hS (fun Z => (Z, P, X, Y, E, B, M, O)) dX3_closeUp_15 (by decide) ge_11 gs_11 hv (fun H locs hP hS => ?_)
      refine lv_iinc (v := (x3_2 + 1)) (lv' := [(3, .int (x3_2 + 1)), (0, .ref (ad γ 11)), (2, .int x2)]) hx hb dX3_closeUp_16 hl (k := 2) rfl rfl (by decide) rfl (fun ls hl => ?_)
      refine lv_goto (tgt := 2) hx hb dX3_closeUp_19 (by decide) ?_
      cases h
      exact kS _ _ rfl _ _ _ hP hS (lv_sub hl [1, 2, 0] rfl))
  obtain ⟨T_x2, hv, h⟩ := bd1_e h
  refine L2 _ _ _ _ hv (fun q0 e9 H locs ls hP hS hl => ?_) _ _ _ hP hS (lv_sub hl [1, 3, 0] rfl)
  obtain rfl := e9
  refine lv_aload_n hx hb dX3_closeUp_22 rfl (lv_at hl 0 rfl) ?_
  refine lv_bipush (v := 13) hx hb dX3_closeUp_23 (by decide) ?_
  refine lv_iload_n hx hb dX3_closeUp_25 rfl (lv_at hl 1 rfl) ?_
  obtain ⟨T4, hv, h⟩ := ob h
  refine g_st hC hP hS (fun Z => (Z, P, X, Y, E, B, M, O)) dX3_closeUp_26 (by decide) ge_11 gs_11 hv (fun H locs hP hS => ?_)
  cases h
  exact g_vret hC hP hS dX3_closeUp_27
def r3_closeUp_c12_b2 (x2 : Int32) (T_2 : OS) (x3_2 : Int32) : Option ((OS × Int32) ⊕ (OS)) :=
  (if 13 ≤ x3_2 then some (.inr T_2)
  else (rd 14 (T_2 10) (x3_2 + 1)).bind fun v2 =>
  (wr 14 T_2 10 x3_2 v2).bind fun T3 =>
  some (.inl (T3, (x3_2 + 1))))
def r3_closeUp_c12 (T : OS) (x1 : Int32) (x2 : Int32) : Option OS :=
  bd1 (it2 (r3_closeUp_c12_b2 x2) 200 T x1) (fun T_x2 => (wr 14 T_x2 10 13 x2).bind fun T4 =>
  some T4)
set_option maxHeartbeats 4000000 in
set_option maxRecDepth 100000 in
theorem c3_closeUp_c12 (l : Launch) {γ : GA} {sz : Nat} {T P X Y B M : OS} {E : Nat → OS} {O : Nat → Int64} {x1 : Int32} {x2 : Int32} {Tz : OS} (h : r3_closeUp_c12 T x1 x2 = some Tz) : Met l yX3_closeUp (gU yX3_closeUp cX3_closeUp 4 none) (gR 0 0 0) (gPc γ [.ref (ad γ 12), .int x1, .int x2] sz (T, P, X, Y, E, B, M, O)) (gQv γ sz (Tz, P, X, Y, E, B, M, O)) 0 0 (gA γ sz) := by
  refine g_met (fun sz => gQv γ sz (Tz, P, X, Y, E, B, M, O)) (by decide) (Nat.le_of_ble_eq_true rfl) ?_
  intro p e s m args below meth c ls hC hP hS hl
  have hx := hC.x
  have hb := hC.b
  have hl : lv_has ls 4 [(0, .ref (ad γ 12)), (1, .int x1), (2, .int x2)] := hl
  unfold r3_closeUp_c12 at h
  refine lv_iload_n hx hb dX3_closeUp_0 rfl (lv_at hl 1 rfl) ?_
  refine lv_istore_n (lv' := [(3, .int x1), (0, .ref (ad γ 12)), (1, .int x1), (2, .int x2)]) hx hb dX3_closeUp_1 rfl hl (by decide) rfl (fun ls hl => ?_)
  have L2 := it2_W (r3_closeUp_c12_b2 x2) (fun (T_2 : OS) (x3_2 : Int32) => ∀ (H : Heap) (locs : List Loc) (ls : Array Slot), va_P γ.1 vwCl (gw γ (T_2, P, X, Y, E, B, M, O)) H → va_S (gA γ s.heap.size) s.heap H locs → lv_has ls 4 [(0, .ref (ad γ 12)), (2, .int x2), (3, .int x3_2)] → W p l e (gR 0 0 0) s m args below meth c H locs 0 0 (MQ below (gQv γ s.heap.size (Tz, P, X, Y, E, B, M, O)) args s 0 0 (gA γ s.heap.size)) (F0 m 2 ls [])) (fun (r_k : OS) => (∀ (T_x2 : OS), r_k = T_x2 → ∀ (H : Heap) (locs : List Loc) (ls : Array Slot), va_P γ.1 vwCl (gw γ (T_x2, P, X, Y, E, B, M, O)) H → va_S (gA γ s.heap.size) s.heap H locs → lv_has ls 4 [(0, .ref (ad γ 12)), (2, .int x2)] → W p l e (gR 0 0 0) s m args below meth c H locs 0 0 (MQ below (gQv γ s.heap.size (Tz, P, X, Y, E, B, M, O)) args s 0 0 (gA γ s.heap.size)) (F0 m 22 ls []))) (by
    intro T_2 x3_2 o_2 h kS kR H locs ls hP hS hl
    unfold r3_closeUp_c12_b2 at h
    refine lv_iload_n hx hb dX3_closeUp_2 rfl (lv_at hl 2 rfl) ?_
    refine lv_bipush (v := 13) hx hb dX3_closeUp_3 (by decide) ?_
    refine lv_icmp_ge (tgt := 22) hx hb dX3_closeUp_5 (by decide) (fun c1 => ?_) (fun c1 => ?_)
    · rw [if_pos c1] at h
      cases h
      exact kR _ rfl _ rfl _ _ _ hP hS (lv_sub hl [0, 1] rfl)
    · rw [if_neg c1] at h
      refine lv_aload_n hx hb dX3_closeUp_8 rfl (lv_at hl 0 rfl) ?_
      refine lv_iload_n hx hb dX3_closeUp_9 rfl (lv_at hl 2 rfl) ?_
      refine lv_aload_n hx hb dX3_closeUp_10 rfl (lv_at hl 0 rfl) ?_
      refine lv_iload_n hx hb dX3_closeUp_11 rfl (lv_at hl 2 rfl) ?_
      refine lv_iconst (v := 1) hx hb dX3_closeUp_12 (by decide) ?_
      refine lv_iadd hx hb dX3_closeUp_13 ?_
      obtain ⟨v2, hv, h⟩ := ob h
      refine g_ld hC hP dX3_closeUp_14 (by decide) ge_12 hv ?_
      obtain ⟨T3, hv, h⟩ := ob h
      refine g_st hC hP hS (fun Z => (Z, P, X, Y, E, B, M, O)) dX3_closeUp_15 (by decide) ge_12 gs_12 hv (fun H locs hP hS => ?_)
      refine lv_iinc (v := (x3_2 + 1)) (lv' := [(3, .int (x3_2 + 1)), (0, .ref (ad γ 12)), (2, .int x2)]) hx hb dX3_closeUp_16 hl (k := 2) rfl rfl (by decide) rfl (fun ls hl => ?_)
      refine lv_goto (tgt := 2) hx hb dX3_closeUp_19 (by decide) ?_
      cases h
      exact kS _ _ rfl _ _ _ hP hS (lv_sub hl [1, 2, 0] rfl))
  obtain ⟨T_x2, hv, h⟩ := bd1_e h
  refine L2 _ _ _ _ hv (fun q0 e9 H locs ls hP hS hl => ?_) _ _ _ hP hS (lv_sub hl [1, 3, 0] rfl)
  obtain rfl := e9
  refine lv_aload_n hx hb dX3_closeUp_22 rfl (lv_at hl 0 rfl) ?_
  refine lv_bipush (v := 13) hx hb dX3_closeUp_23 (by decide) ?_
  refine lv_iload_n hx hb dX3_closeUp_25 rfl (lv_at hl 1 rfl) ?_
  obtain ⟨T4, hv, h⟩ := ob h
  refine g_st hC hP hS (fun Z => (Z, P, X, Y, E, B, M, O)) dX3_closeUp_26 (by decide) ge_12 gs_12 hv (fun H locs hP hS => ?_)
  cases h
  exact g_vret hC hP hS dX3_closeUp_27
def r3_closeUp_c13_b2 (x2 : Int32) (T_2 : OS) (x3_2 : Int32) : Option ((OS × Int32) ⊕ (OS)) :=
  (if 13 ≤ x3_2 then some (.inr T_2)
  else (rd 14 (T_2 11) (x3_2 + 1)).bind fun v2 =>
  (wr 14 T_2 11 x3_2 v2).bind fun T3 =>
  some (.inl (T3, (x3_2 + 1))))
def r3_closeUp_c13 (T : OS) (x1 : Int32) (x2 : Int32) : Option OS :=
  bd1 (it2 (r3_closeUp_c13_b2 x2) 200 T x1) (fun T_x2 => (wr 14 T_x2 11 13 x2).bind fun T4 =>
  some T4)
set_option maxHeartbeats 4000000 in
set_option maxRecDepth 100000 in
theorem c3_closeUp_c13 (l : Launch) {γ : GA} {sz : Nat} {T P X Y B M : OS} {E : Nat → OS} {O : Nat → Int64} {x1 : Int32} {x2 : Int32} {Tz : OS} (h : r3_closeUp_c13 T x1 x2 = some Tz) : Met l yX3_closeUp (gU yX3_closeUp cX3_closeUp 4 none) (gR 0 0 0) (gPc γ [.ref (ad γ 13), .int x1, .int x2] sz (T, P, X, Y, E, B, M, O)) (gQv γ sz (Tz, P, X, Y, E, B, M, O)) 0 0 (gA γ sz) := by
  refine g_met (fun sz => gQv γ sz (Tz, P, X, Y, E, B, M, O)) (by decide) (Nat.le_of_ble_eq_true rfl) ?_
  intro p e s m args below meth c ls hC hP hS hl
  have hx := hC.x
  have hb := hC.b
  have hl : lv_has ls 4 [(0, .ref (ad γ 13)), (1, .int x1), (2, .int x2)] := hl
  unfold r3_closeUp_c13 at h
  refine lv_iload_n hx hb dX3_closeUp_0 rfl (lv_at hl 1 rfl) ?_
  refine lv_istore_n (lv' := [(3, .int x1), (0, .ref (ad γ 13)), (1, .int x1), (2, .int x2)]) hx hb dX3_closeUp_1 rfl hl (by decide) rfl (fun ls hl => ?_)
  have L2 := it2_W (r3_closeUp_c13_b2 x2) (fun (T_2 : OS) (x3_2 : Int32) => ∀ (H : Heap) (locs : List Loc) (ls : Array Slot), va_P γ.1 vwCl (gw γ (T_2, P, X, Y, E, B, M, O)) H → va_S (gA γ s.heap.size) s.heap H locs → lv_has ls 4 [(0, .ref (ad γ 13)), (2, .int x2), (3, .int x3_2)] → W p l e (gR 0 0 0) s m args below meth c H locs 0 0 (MQ below (gQv γ s.heap.size (Tz, P, X, Y, E, B, M, O)) args s 0 0 (gA γ s.heap.size)) (F0 m 2 ls [])) (fun (r_k : OS) => (∀ (T_x2 : OS), r_k = T_x2 → ∀ (H : Heap) (locs : List Loc) (ls : Array Slot), va_P γ.1 vwCl (gw γ (T_x2, P, X, Y, E, B, M, O)) H → va_S (gA γ s.heap.size) s.heap H locs → lv_has ls 4 [(0, .ref (ad γ 13)), (2, .int x2)] → W p l e (gR 0 0 0) s m args below meth c H locs 0 0 (MQ below (gQv γ s.heap.size (Tz, P, X, Y, E, B, M, O)) args s 0 0 (gA γ s.heap.size)) (F0 m 22 ls []))) (by
    intro T_2 x3_2 o_2 h kS kR H locs ls hP hS hl
    unfold r3_closeUp_c13_b2 at h
    refine lv_iload_n hx hb dX3_closeUp_2 rfl (lv_at hl 2 rfl) ?_
    refine lv_bipush (v := 13) hx hb dX3_closeUp_3 (by decide) ?_
    refine lv_icmp_ge (tgt := 22) hx hb dX3_closeUp_5 (by decide) (fun c1 => ?_) (fun c1 => ?_)
    · rw [if_pos c1] at h
      cases h
      exact kR _ rfl _ rfl _ _ _ hP hS (lv_sub hl [0, 1] rfl)
    · rw [if_neg c1] at h
      refine lv_aload_n hx hb dX3_closeUp_8 rfl (lv_at hl 0 rfl) ?_
      refine lv_iload_n hx hb dX3_closeUp_9 rfl (lv_at hl 2 rfl) ?_
      refine lv_aload_n hx hb dX3_closeUp_10 rfl (lv_at hl 0 rfl) ?_
      refine lv_iload_n hx hb dX3_closeUp_11 rfl (lv_at hl 2 rfl) ?_
      refine lv_iconst (v := 1) hx hb dX3_closeUp_12 (by decide) ?_
      refine lv_iadd hx hb dX3_closeUp_13 ?_
      obtain ⟨v2, hv, h⟩ := ob h
      refine g_ld hC hP dX3_closeUp_14 (by decide) ge_13 hv ?_
      obtain ⟨T3, hv, h⟩ := ob h
      refine g_st hC hP hS (fun Z => (Z, P, X, Y, E, B, M, O)) dX3_closeUp_15 (by decide) ge_13 gs_13 hv (fun H locs hP hS => ?_)
      refine lv_iinc (v := (x3_2 + 1)) (lv' := [(3, .int (x3_2 + 1)), (0, .ref (ad γ 13)), (2, .int x2)]) hx hb dX3_closeUp_16 hl (k := 2) rfl rfl (by decide) rfl (fun ls hl => ?_)
      refine lv_goto (tgt := 2) hx hb dX3_closeUp_19 (by decide) ?_
      cases h
      exact kS _ _ rfl _ _ _ hP hS (lv_sub hl [1, 2, 0] rfl))
  obtain ⟨T_x2, hv, h⟩ := bd1_e h
  refine L2 _ _ _ _ hv (fun q0 e9 H locs ls hP hS hl => ?_) _ _ _ hP hS (lv_sub hl [1, 3, 0] rfl)
  obtain rfl := e9
  refine lv_aload_n hx hb dX3_closeUp_22 rfl (lv_at hl 0 rfl) ?_
  refine lv_bipush (v := 13) hx hb dX3_closeUp_23 (by decide) ?_
  refine lv_iload_n hx hb dX3_closeUp_25 rfl (lv_at hl 1 rfl) ?_
  obtain ⟨T4, hv, h⟩ := ob h
  refine g_st hC hP hS (fun Z => (Z, P, X, Y, E, B, M, O)) dX3_closeUp_26 (by decide) ge_13 gs_13 hv (fun H locs hP hS => ?_)
  cases h
  exact g_vret hC hP hS dX3_closeUp_27
def r3_dropEvent_b65 (T_65 : OS) (x2_65 : Int32) : Option ((OS × Int32) ⊕ (OS)) :=
  (if 13 ≤ x2_65 then some (.inr T_65)
  else (rd 14 (T_65 12) (x2_65 + 1)).bind fun v9 =>
  (zz v9).bind fun v11 =>
  (wr 14 T_65 12 x2_65 v11).bind fun T10 =>
  some (.inl (T10, (x2_65 + 1))))
def r3_dropEvent (T : OS) (x1 : Int32) : Option OS :=
  bd1 (r3_closeUp_c7 T x1 0) (fun T1 =>
  bd1 (r3_closeUp_c8 T1 x1 0) (fun T2 =>
  bd1 (r3_closeUp_c9 T2 x1 0) (fun T3 =>
  bd1 (r3_closeUp_c10 T3 x1 0) (fun T4 =>
  bd1 (r3_closeUp_c11 T4 x1 (-1)) (fun T5 =>
  bd1 (r3_closeUp_c12 T5 x1 0) (fun T6 =>
  bd1 (r3_closeUp_c13 T6 x1 (-1)) (fun T7 =>
  bd1 (it2 r3_dropEvent_b65 200 T7 x1) (fun T_x65 => (zz 0).bind fun v13 =>
  (wr 14 T_x65 12 13 v13).bind fun T12 =>
  (sw T12 13 ((T12 13 0) - 1)).bind fun T14 =>
  some T14))))))))
theorem yv_X3_dropEvent : gYV yX3_dropEvent cX3_dropEvent 3 none 1 := ⟨u_3_121, u_3_122, u_1_2, u_3_123, ⟨by decide +kernel, by decide +kernel, by decide +kernel⟩, by decide⟩
set_option maxHeartbeats 4000000 in
set_option maxRecDepth 100000 in
theorem c3_dropEvent (l : Launch) {γ : GA} {sz : Nat} {T P X Y B M : OS} {E : Nat → OS} {O : Nat → Int64} {x1 : Int32} {Tz : OS} (h : r3_dropEvent T x1 = some Tz) : Met l yX3_dropEvent (gU yX3_dropEvent cX3_dropEvent 3 none) (gR 1 0 0) (gPc γ [.ref (ad γ 1), .int x1] sz (T, P, X, Y, E, B, M, O)) (gQv γ sz (Tz, P, X, Y, E, B, M, O)) 0 0 (gA γ sz) := by
  refine g_met (fun sz => gQv γ sz (Tz, P, X, Y, E, B, M, O)) (by decide) (Nat.le_of_ble_eq_true rfl) ?_
  intro p e s m args below meth c ls hC hP hS hl
  have hx := hC.x
  have hb := hC.b
  have hl : lv_has ls 3 [(0, .ref (ad γ 1)), (1, .int x1)] := hl
  unfold r3_dropEvent at h
  refine lv_aload_n hx hb dX3_dropEvent_0 rfl (lv_at hl 0 rfl) ?_
  refine g_get hC hP 5 dX3_dropEvent_1 (by decide) ge_1 rfl inX3 (by decide) rfl u_1_55 ?_
  refine lv_iload_n hx hb dX3_dropEvent_4 rfl (lv_at hl 1 rfl) ?_
  refine lv_iconst (v := 0) hx hb dX3_dropEvent_5 (by decide) ?_
  obtain ⟨T1, hv, h⟩ := bd1_e h
  refine g_kv (g_runS (As := [.ref (ad γ 7), .int x1, .int 0]) (rest := []) hC hP (c3_closeUp_c7 l hv) u_3_124 yv_X3_closeUp (Nat.le_of_ble_eq_true rfl) rfl hl.1 rfl (Nat.le_of_ble_eq_true rfl) dX3_dropEvent_6 ⟨by decide, by decide⟩) hS (fun H locs hP hS => ?_)
  refine lv_aload_n hx hb dX3_dropEvent_9 rfl (lv_at hl 0 rfl) ?_
  refine g_get hC hP 6 dX3_dropEvent_10 (by decide) ge_1 rfl inX3 (by decide) rfl u_1_58 ?_
  refine lv_iload_n hx hb dX3_dropEvent_13 rfl (lv_at hl 1 rfl) ?_
  refine lv_iconst (v := 0) hx hb dX3_dropEvent_14 (by decide) ?_
  obtain ⟨T2, hv, h⟩ := bd1_e h
  refine g_kv (g_runS (As := [.ref (ad γ 8), .int x1, .int 0]) (rest := []) hC hP (c3_closeUp_c8 l hv) u_3_124 yv_X3_closeUp (Nat.le_of_ble_eq_true rfl) rfl hl.1 rfl (Nat.le_of_ble_eq_true rfl) dX3_dropEvent_15 ⟨by decide, by decide⟩) hS (fun H locs hP hS => ?_)
  refine lv_aload_n hx hb dX3_dropEvent_18 rfl (lv_at hl 0 rfl) ?_
  refine g_get hC hP 7 dX3_dropEvent_19 (by decide) ge_1 rfl inX3 (by decide) rfl u_1_61 ?_
  refine lv_iload_n hx hb dX3_dropEvent_22 rfl (lv_at hl 1 rfl) ?_
  refine lv_iconst (v := 0) hx hb dX3_dropEvent_23 (by decide) ?_
  obtain ⟨T3, hv, h⟩ := bd1_e h
  refine g_kv (g_runS (As := [.ref (ad γ 9), .int x1, .int 0]) (rest := []) hC hP (c3_closeUp_c9 l hv) u_3_124 yv_X3_closeUp (Nat.le_of_ble_eq_true rfl) rfl hl.1 rfl (Nat.le_of_ble_eq_true rfl) dX3_dropEvent_24 ⟨by decide, by decide⟩) hS (fun H locs hP hS => ?_)
  refine lv_aload_n hx hb dX3_dropEvent_27 rfl (lv_at hl 0 rfl) ?_
  refine g_get hC hP 8 dX3_dropEvent_28 (by decide) ge_1 rfl inX3 (by decide) rfl u_1_63 ?_
  refine lv_iload_n hx hb dX3_dropEvent_31 rfl (lv_at hl 1 rfl) ?_
  refine lv_iconst (v := 0) hx hb dX3_dropEvent_32 (by decide) ?_
  obtain ⟨T4, hv, h⟩ := bd1_e h
  refine g_kv (g_runS (As := [.ref (ad γ 10), .int x1, .int 0]) (rest := []) hC hP (c3_closeUp_c10 l hv) u_3_124 yv_X3_closeUp (Nat.le_of_ble_eq_true rfl) rfl hl.1 rfl (Nat.le_of_ble_eq_true rfl) dX3_dropEvent_33 ⟨by decide, by decide⟩) hS (fun H locs hP hS => ?_)
  refine lv_aload_n hx hb dX3_dropEvent_36 rfl (lv_at hl 0 rfl) ?_
  refine g_get hC hP 9 dX3_dropEvent_37 (by decide) ge_1 rfl inX3 (by decide) rfl u_1_66 ?_
  refine lv_iload_n hx hb dX3_dropEvent_40 rfl (lv_at hl 1 rfl) ?_
  refine lv_iconst (v := -1) hx hb dX3_dropEvent_41 (by decide) ?_
  obtain ⟨T5, hv, h⟩ := bd1_e h
  refine g_kv (g_runS (As := [.ref (ad γ 11), .int x1, .int (-1)]) (rest := []) hC hP (c3_closeUp_c11 l hv) u_3_124 yv_X3_closeUp (Nat.le_of_ble_eq_true rfl) rfl hl.1 rfl (Nat.le_of_ble_eq_true rfl) dX3_dropEvent_42 ⟨by decide, by decide⟩) hS (fun H locs hP hS => ?_)
  refine lv_aload_n hx hb dX3_dropEvent_45 rfl (lv_at hl 0 rfl) ?_
  refine g_get hC hP 10 dX3_dropEvent_46 (by decide) ge_1 rfl inX3 (by decide) rfl u_1_69 ?_
  refine lv_iload_n hx hb dX3_dropEvent_49 rfl (lv_at hl 1 rfl) ?_
  refine lv_iconst (v := 0) hx hb dX3_dropEvent_50 (by decide) ?_
  obtain ⟨T6, hv, h⟩ := bd1_e h
  refine g_kv (g_runS (As := [.ref (ad γ 12), .int x1, .int 0]) (rest := []) hC hP (c3_closeUp_c12 l hv) u_3_124 yv_X3_closeUp (Nat.le_of_ble_eq_true rfl) rfl hl.1 rfl (Nat.le_of_ble_eq_true rfl) dX3_dropEvent_51 ⟨by decide, by decide⟩) hS (fun H locs hP hS => ?_)
  refine lv_aload_n hx hb dX3_dropEvent_54 rfl (lv_at hl 0 rfl) ?_
  refine g_get hC hP 11 dX3_dropEvent_55 (by decide) ge_1 rfl inX3 (by decide) rfl u_1_71 ?_
  refine lv_iload_n hx hb dX3_dropEvent_58 rfl (lv_at hl 1 rfl) ?_
  refine lv_iconst (v := -1) hx hb dX3_dropEvent_59 (by decide) ?_
  obtain ⟨T7, hv, h⟩ := bd1_e h
  refine g_kv (g_runS (As := [.ref (ad γ 13), .int x1, .int (-1)]) (rest := []) hC hP (c3_closeUp_c13 l hv) u_3_124 yv_X3_closeUp (Nat.le_of_ble_eq_true rfl) rfl hl.1 rfl (Nat.le_of_ble_eq_true rfl) dX3_dropEvent_60 ⟨by decide, by decide⟩) hS (fun H locs hP hS => ?_)
  refine lv_iload_n hx hb dX3_dropEvent_63 rfl (lv_at hl 1 rfl) ?_
  refine lv_istore_n (lv' := [(2, .int x1), (0, .ref (ad γ 1)), (1, .int x1)]) hx hb dX3_dropEvent_64 rfl hl (by decide) rfl (fun ls hl => ?_)
  have L65 := it2_W r3_dropEvent_b65 (fun (T_65 : OS) (x2_65 : Int32) => ∀ (H : Heap) (locs : List Loc) (ls : Array Slot), va_P γ.1 vwCl (gw γ (T_65, P, X, Y, E, B, M, O)) H → va_S (gA γ s.heap.size) s.heap H locs → lv_has ls 3 [(0, .ref (ad γ 1)), (2, .int x2_65)] → W p l e (gR 1 0 0) s m args below meth c H locs 0 0 (MQ below (gQv γ s.heap.size (Tz, P, X, Y, E, B, M, O)) args s 0 0 (gA γ s.heap.size)) (F0 m 65 ls [])) (fun (r_k : OS) => (∀ (T_x65 : OS), r_k = T_x65 → ∀ (H : Heap) (locs : List Loc) (ls : Array Slot), va_P γ.1 vwCl (gw γ (T_x65, P, X, Y, E, B, M, O)) H → va_S (gA γ s.heap.size) s.heap H locs → lv_has ls 3 [(0, .ref (ad γ 1))] → W p l e (gR 1 0 0) s m args below meth c H locs 0 0 (MQ below (gQv γ s.heap.size (Tz, P, X, Y, E, B, M, O)) args s 0 0 (gA γ s.heap.size)) (F0 m 91 ls []))) (by
    intro T_65 x2_65 o_65 h kS kR H locs ls hP hS hl
    unfold r3_dropEvent_b65 at h
    refine lv_iload_n hx hb dX3_dropEvent_65 rfl (lv_at hl 1 rfl) ?_
    refine lv_bipush (v := 13) hx hb dX3_dropEvent_66 (by decide) ?_
    refine lv_icmp_ge (tgt := 91) hx hb dX3_dropEvent_68 (by decide) (fun c8 => ?_) (fun c8 => ?_)
    · rw [if_pos c8] at h
      cases h
      exact kR _ rfl _ rfl _ _ _ hP hS (lv_sub hl [0] rfl)
    · rw [if_neg c8] at h
      refine lv_aload_n hx hb dX3_dropEvent_71 rfl (lv_at hl 0 rfl) ?_
      refine g_get hC hP 12 dX3_dropEvent_72 (by decide) ge_1 rfl inX3 (by decide) rfl u_1_73 ?_
      refine lv_iload_n hx hb dX3_dropEvent_75 rfl (lv_at hl 1 rfl) ?_
      refine lv_aload_n hx hb dX3_dropEvent_76 rfl (lv_at hl 0 rfl) ?_
      refine g_get hC hP 12 dX3_dropEvent_77 (by decide) ge_1 rfl inX3 (by decide) rfl u_1_73 ?_
      refine lv_iload_n hx hb dX3_dropEvent_80 rfl (lv_at hl 1 rfl) ?_
      refine lv_iconst (v := 1) hx hb dX3_dropEvent_81 (by decide) ?_
      refine lv_iadd hx hb dX3_dropEvent_82 ?_
      obtain ⟨v9, hv, h⟩ := ob h
      refine g_zld hC hP dX3_dropEvent_83 (by decide) ge_14 hv ?_
      obtain ⟨v11, hz, h⟩ := ob h
      obtain ⟨T10, hv, h⟩ := ob h
      refine g_zst hC hP hS (fun Z => (Z, P, X, Y, E, B, M, O)) dX3_dropEvent_84 (by decide) ge_14 gs_14 hz hv (fun H locs hP hS => ?_)
      refine lv_iinc (v := (x2_65 + 1)) (lv' := [(2, .int (x2_65 + 1)), (0, .ref (ad γ 1))]) hx hb dX3_dropEvent_85 hl (k := 1) rfl rfl (by decide) rfl (fun ls hl => ?_)
      refine lv_goto (tgt := 65) hx hb dX3_dropEvent_88 (by decide) ?_
      cases h
      exact kS _ _ rfl _ _ _ hP hS (lv_sub hl [1, 0] rfl))
  obtain ⟨T_x65, hv, h⟩ := bd1_e h
  refine L65 _ _ _ _ hv (fun q0 e9 H locs ls hP hS hl => ?_) _ _ _ hP hS (lv_sub hl [1, 0] rfl)
  obtain rfl := e9
  refine lv_aload_n hx hb dX3_dropEvent_91 rfl (lv_at hl 0 rfl) ?_
  refine g_get hC hP 12 dX3_dropEvent_92 (by decide) ge_1 rfl inX3 (by decide) rfl u_1_73 ?_
  refine lv_bipush (v := 13) hx hb dX3_dropEvent_95 (by decide) ?_
  refine lv_iconst (v := 0) hx hb dX3_dropEvent_97 (by decide) ?_
  obtain ⟨v13, hz, h⟩ := ob h
  obtain ⟨T12, hv, h⟩ := ob h
  refine g_zst hC hP hS (fun Z => (Z, P, X, Y, E, B, M, O)) dX3_dropEvent_98 (by decide) ge_14 gs_14 hz hv (fun H locs hP hS => ?_)
  refine lv_aload_n hx hb dX3_dropEvent_99 rfl (lv_at hl 0 rfl) ?_
  refine lv_dup hx hb dX3_dropEvent_100 rfl ?_
  refine g_get hC hP 13 dX3_dropEvent_101 (by decide) ge_1 rfl inX3 (by decide) rfl u_1_76 ?_
  refine lv_iconst (v := 1) hx hb dX3_dropEvent_104 (by decide) ?_
  refine lv_isub hx hb dX3_dropEvent_105 ?_
  obtain ⟨T14, hv, h⟩ := ob h
  refine g_putI hC hP hS (fun Z => (Z, P, X, Y, E, B, M, O)) 13 tyX3 dX3_dropEvent_106 (by decide) ge_1 rfl inX3 tyX3_ok nmX3 (by decide) u_1_76 rfl rfl (Nat.le_of_ble_eq_true rfl) gp_1_13 hv (fun H locs hP hS => ?_)
  cases h
  exact g_vret hC hP hS dX3_dropEvent_109
def r3_slotsAt_j30 (T : OS) (x3_30 : Int32) (s0_30 : Int32)  : Option Int32 :=
  (if s0_30 = 0 then some x3_30
  else some (x3_30 ||| (x3_30 <<< (1 &&& 31))))
def r3_slotsAt (T : OS) (x1 : Int32) (x2 : Int32) : Option Int32 :=
  (some (1 <<< ((x2 / 6) &&& 31))).bind fun v2 =>
  (rd 14 (T 8) x1).bind fun v3 =>
  (if v3 = 2 then (if (v2 &&& 528) = 0 then r3_slotsAt_j30 T v2 1
  else r3_slotsAt_j30 T v2 0)
  else r3_slotsAt_j30 T v2 0)
theorem yv_X3_slotsAt : gYV yX3_slotsAt cX3_slotsAt 5 (some .int) 2 := ⟨u_2_22, u_2_23, u_1_2, u_2_24, ⟨by decide +kernel, by decide +kernel, by decide +kernel⟩, by decide⟩
set_option maxHeartbeats 4000000 in
set_option maxRecDepth 100000 in
theorem c3_slotsAt (l : Launch) {γ : GA} {sz : Nat} {T P X Y B M : OS} {E : Nat → OS} {O : Nat → Int64} {x1 : Int32} {x2 : Int32} {r0 : Int32} (h : r3_slotsAt T x1 x2 = some r0) : Met l yX3_slotsAt (gU yX3_slotsAt cX3_slotsAt 5 (some .int)) (gR 0 0 0) (gPc γ [.ref (ad γ 1), .int x1, .int x2] sz (T, P, X, Y, E, B, M, O)) (gQi γ r0 sz (T, P, X, Y, E, B, M, O)) 0 0 (gA γ sz) := by
  refine g_met (fun sz => gQi γ r0 sz (T, P, X, Y, E, B, M, O)) (by decide) (Nat.le_of_ble_eq_true rfl) ?_
  intro p e s m args below meth c ls hC hP hS hl
  have hx := hC.x
  have hb := hC.b
  have hl : lv_has ls 5 [(0, .ref (ad γ 1)), (1, .int x1), (2, .int x2)] := hl
  unfold r3_slotsAt at h
  have J30 : ∀ (x3_30 : Int32) (s0_30 : Int32) (h : r3_slotsAt_j30 T x3_30 s0_30 = some r0), ∀ (H : Heap) (locs : List Loc) (ls : Array Slot), va_P γ.1 vwCl (gw γ (T, P, X, Y, E, B, M, O)) H → va_S (gA γ s.heap.size) s.heap H locs → lv_has ls 5 [(3, .int x3_30)] → W p l e (gR 0 0 0) s m args below meth c H locs 0 0 (MQ below (gQi γ r0 s.heap.size (T, P, X, Y, E, B, M, O)) args s 0 0 (gA γ s.heap.size)) (F0 m 30 ls [.int s0_30]) := by
    intro x3_30 s0_30 h H locs ls hP hS hl
    unfold r3_slotsAt_j30 at h
    refine lv_istore (lv' := [(4, .int s0_30), (3, .int x3_30)]) hx hb dX3_slotsAt_30 hl (by decide) rfl (fun ls hl => ?_)
    refine lv_iload hx hb dX3_slotsAt_32 (lv_at hl 0 rfl) ?_
    refine lv_if_eq (tgt := 45) hx hb dX3_slotsAt_34 (by decide) (fun c1 => ?_) (fun c1 => ?_)
    · rw [if_pos c1] at h
      refine lv_iload_n hx hb dX3_slotsAt_45 rfl (lv_at hl 1 rfl) ?_
      cases h
      exact g_iret hC hP hS dX3_slotsAt_46 rfl
    · rw [if_neg c1] at h
      refine lv_iload_n hx hb dX3_slotsAt_37 rfl (lv_at hl 1 rfl) ?_
      refine lv_iload_n hx hb dX3_slotsAt_38 rfl (lv_at hl 1 rfl) ?_
      refine lv_iconst (v := 1) hx hb dX3_slotsAt_39 (by decide) ?_
      refine lv_ishl hx hb dX3_slotsAt_40 ?_
      refine lv_ior hx hb dX3_slotsAt_41 ?_
      refine lv_goto (tgt := 46) hx hb dX3_slotsAt_42 (by decide) ?_
      cases h
      exact g_iret hC hP hS dX3_slotsAt_46 rfl
  refine lv_iconst (v := 1) hx hb dX3_slotsAt_0 (by decide) ?_
  refine lv_iload_n hx hb dX3_slotsAt_1 rfl (lv_at hl 2 rfl) ?_
  refine lv_bipush (v := 6) hx hb dX3_slotsAt_2 (by decide) ?_
  refine lv_idiv hx hb dX3_slotsAt_4 (by decide) ?_
  refine lv_ishl hx hb dX3_slotsAt_5 ?_
  obtain ⟨v2, hv, h⟩ := ob h
  refine lv_topi (fun y9 ey9 => ?_)
  obtain rfl : v2 = y9 := (Option.some.inj hv).symm.trans ey9.symm
  clear hv ey9
  refine lv_istore_n (lv' := [(3, .int v2), (0, .ref (ad γ 1)), (1, .int x1), (2, .int x2)]) hx hb dX3_slotsAt_6 rfl hl (by decide) rfl (fun ls hl => ?_)
  refine lv_aload_n hx hb dX3_slotsAt_7 rfl (lv_at hl 1 rfl) ?_
  refine g_get hC hP 8 dX3_slotsAt_8 (by decide) ge_1 rfl inX3 (by decide) rfl u_1_63 ?_
  refine lv_iload_n hx hb dX3_slotsAt_11 rfl (lv_at hl 2 rfl) ?_
  obtain ⟨v3, hv, h⟩ := ob h
  refine g_ld hC hP dX3_slotsAt_12 (by decide) ge_10 hv ?_
  refine lv_iconst (v := 2) hx hb dX3_slotsAt_13 (by decide) ?_
  refine lv_icmp_ne (tgt := 29) hx hb dX3_slotsAt_14 (by decide) (fun c4 => ?_) (fun c4 => ?_)
  · rw [if_neg c4] at h
    refine lv_iconst (v := 0) hx hb dX3_slotsAt_29 (by decide) ?_
    exact J30 v2 0 h _ _ _ hP hS (lv_sub hl [0] rfl)
  · rw [if_pos c4] at h
    refine lv_iload_n hx hb dX3_slotsAt_17 rfl (lv_at hl 0 rfl) ?_
    refine lv_sipush (v := 528) hx hb dX3_slotsAt_18 (by decide) ?_
    refine lv_iand hx hb dX3_slotsAt_21 ?_
    refine lv_if_ne (tgt := 29) hx hb dX3_slotsAt_22 (by decide) (fun c5 => ?_) (fun c5 => ?_)
    · rw [if_neg c5] at h
      refine lv_iconst (v := 0) hx hb dX3_slotsAt_29 (by decide) ?_
      exact J30 v2 0 h _ _ _ hP hS (lv_sub hl [0] rfl)
    · rw [if_pos c5] at h
      refine lv_iconst (v := 1) hx hb dX3_slotsAt_25 (by decide) ?_
      refine lv_goto (tgt := 30) hx hb dX3_slotsAt_26 (by decide) ?_
      exact J30 v2 1 h _ _ _ hP hS (lv_sub hl [0] rfl)
def r3_moveTo_j27 (T_27 : OS) (s0_27 : Int32) (s1_27 : Int32)  : Option OS :=
  (wr 14 T_27 10 s1_27 s0_27).bind fun T1 =>
  some T1
def r3_moveTo (T : OS) (x1 : Int32) (x2 : Int32) : Option OS :=
  (wr 14 T 9 x1 x2).bind fun T2 =>
  (if x2 = (-1) then r3_moveTo_j27 T2 0 x1
  else bd1 (r3_slotsAt T2 x1 x2) (fun v4 =>
  r3_moveTo_j27 T2 v4 x1))
theorem yv_X3_moveTo : gYV yX3_moveTo cX3_moveTo 3 none 2 := ⟨u_2_78, u_2_79, u_1_2, u_2_80, ⟨by decide +kernel, by decide +kernel, by decide +kernel⟩, by decide⟩
set_option maxHeartbeats 4000000 in
set_option maxRecDepth 100000 in
theorem c3_moveTo (l : Launch) {γ : GA} {sz : Nat} {T P X Y B M : OS} {E : Nat → OS} {O : Nat → Int64} {x1 : Int32} {x2 : Int32} {Tz : OS} (h : r3_moveTo T x1 x2 = some Tz) : Met l yX3_moveTo (gU yX3_moveTo cX3_moveTo 3 none) (gR 1 0 0) (gPc γ [.ref (ad γ 1), .int x1, .int x2] sz (T, P, X, Y, E, B, M, O)) (gQv γ sz (Tz, P, X, Y, E, B, M, O)) 0 0 (gA γ sz) := by
  refine g_met (fun sz => gQv γ sz (Tz, P, X, Y, E, B, M, O)) (by decide) (Nat.le_of_ble_eq_true rfl) ?_
  intro p e s m args below meth c ls hC hP hS hl
  have hx := hC.x
  have hb := hC.b
  have hl : lv_has ls 3 [(0, .ref (ad γ 1)), (1, .int x1), (2, .int x2)] := hl
  unfold r3_moveTo at h
  have J27 : ∀ (T_27 : OS) (s0_27 : Int32) (s1_27 : Int32) (h : r3_moveTo_j27 T_27 s0_27 s1_27 = some Tz), ∀ (H : Heap) (locs : List Loc) (ls : Array Slot), va_P γ.1 vwCl (gw γ (T_27, P, X, Y, E, B, M, O)) H → va_S (gA γ s.heap.size) s.heap H locs → lv_has ls 3 [] → W p l e (gR 1 0 0) s m args below meth c H locs 0 0 (MQ below (gQv γ s.heap.size (Tz, P, X, Y, E, B, M, O)) args s 0 0 (gA γ s.heap.size)) (F0 m 27 ls [.int s0_27, .int s1_27, .ref (ad γ 12)]) := by
    intro T_27 s0_27 s1_27 h H locs ls hP hS hl
    unfold r3_moveTo_j27 at h
    obtain ⟨T1, hv, h⟩ := ob h
    refine g_st hC hP hS (fun Z => (Z, P, X, Y, E, B, M, O)) dX3_moveTo_27 (by decide) ge_12 gs_12 hv (fun H locs hP hS => ?_)
    cases h
    exact g_vret hC hP hS dX3_moveTo_28
  refine lv_aload_n hx hb dX3_moveTo_0 rfl (lv_at hl 0 rfl) ?_
  refine g_get hC hP 9 dX3_moveTo_1 (by decide) ge_1 rfl inX3 (by decide) rfl u_1_66 ?_
  refine lv_iload_n hx hb dX3_moveTo_4 rfl (lv_at hl 1 rfl) ?_
  refine lv_iload_n hx hb dX3_moveTo_5 rfl (lv_at hl 2 rfl) ?_
  obtain ⟨T2, hv, h⟩ := ob h
  refine g_st hC hP hS (fun Z => (Z, P, X, Y, E, B, M, O)) dX3_moveTo_6 (by decide) ge_11 gs_11 hv (fun H locs hP hS => ?_)
  refine lv_aload_n hx hb dX3_moveTo_7 rfl (lv_at hl 0 rfl) ?_
  refine g_get hC hP 10 dX3_moveTo_8 (by decide) ge_1 rfl inX3 (by decide) rfl u_1_69 ?_
  refine lv_iload_n hx hb dX3_moveTo_11 rfl (lv_at hl 1 rfl) ?_
  refine lv_iload_n hx hb dX3_moveTo_12 rfl (lv_at hl 2 rfl) ?_
  refine lv_iconst (v := -1) hx hb dX3_moveTo_13 (by decide) ?_
  refine lv_icmp_ne (tgt := 21) hx hb dX3_moveTo_14 (by decide) (fun c3 => ?_) (fun c3 => ?_)
  · rw [if_neg c3] at h
    refine lv_aload_n hx hb dX3_moveTo_21 rfl (lv_at hl 0 rfl) ?_
    refine lv_iload_n hx hb dX3_moveTo_22 rfl (lv_at hl 1 rfl) ?_
    refine lv_iload_n hx hb dX3_moveTo_23 rfl (lv_at hl 2 rfl) ?_
    obtain ⟨v4, hv, h⟩ := bd1_e h
    refine g_ki (g_runV (As := [.int x1, .int x2]) (rest := [.int x1, .ref (ad γ 12)]) hC hP (c3_slotsAt l hv) (by decide) ge_1 rfl u_2_21 yv_X3_slotsAt (Nat.le_of_ble_eq_true rfl) rfl hl.1 rfl (Nat.le_of_ble_eq_true rfl) dX3_moveTo_24 ⟨by decide, by decide⟩) hS (fun H locs hP hS => ?_)
    exact J27 T2 v4 x1 h _ _ _ hP hS (lv_sub hl [] rfl)
  · rw [if_pos c3] at h
    refine lv_iconst (v := 0) hx hb dX3_moveTo_17 (by decide) ?_
    refine lv_goto (tgt := 27) hx hb dX3_moveTo_18 (by decide) ?_
    exact J27 T2 0 x1 h _ _ _ hP hS (lv_sub hl [] rfl)
def r3_release (T : OS) (x1 : Int32) : Option OS :=
  bd1 (r3_moveTo T x1 (-1)) (fun T1 =>
  (zz 0).bind fun v3 =>
  (wr 14 T1 12 x1 v3).bind fun T2 =>
  some T2)
theorem yv_X3_release : gYV yX3_release cX3_release 2 none 1 := ⟨u_2_230, u_2_231, u_1_2, u_2_232, ⟨by decide +kernel, by decide +kernel, by decide +kernel⟩, by decide⟩
set_option maxHeartbeats 4000000 in
set_option maxRecDepth 100000 in
theorem c3_release (l : Launch) {γ : GA} {sz : Nat} {T P X Y B M : OS} {E : Nat → OS} {O : Nat → Int64} {x1 : Int32} {Tz : OS} (h : r3_release T x1 = some Tz) : Met l yX3_release (gU yX3_release cX3_release 2 none) (gR 2 0 0) (gPc γ [.ref (ad γ 1), .int x1] sz (T, P, X, Y, E, B, M, O)) (gQv γ sz (Tz, P, X, Y, E, B, M, O)) 0 0 (gA γ sz) := by
  refine g_met (fun sz => gQv γ sz (Tz, P, X, Y, E, B, M, O)) (by decide) (Nat.le_of_ble_eq_true rfl) ?_
  intro p e s m args below meth c ls hC hP hS hl
  have hx := hC.x
  have hb := hC.b
  have hl : lv_has ls 2 [(0, .ref (ad γ 1)), (1, .int x1)] := hl
  unfold r3_release at h
  refine lv_aload_n hx hb dX3_release_0 rfl (lv_at hl 0 rfl) ?_
  refine lv_iload_n hx hb dX3_release_1 rfl (lv_at hl 1 rfl) ?_
  refine lv_iconst (v := -1) hx hb dX3_release_2 (by decide) ?_
  obtain ⟨T1, hv, h⟩ := bd1_e h
  refine g_kv (g_runV (As := [.int x1, .int (-1)]) (rest := []) hC hP (c3_moveTo l hv) (by decide) ge_1 rfl u_2_233 yv_X3_moveTo (Nat.le_of_ble_eq_true rfl) rfl hl.1 rfl (Nat.le_of_ble_eq_true rfl) dX3_release_3 ⟨by decide, by decide⟩) hS (fun H locs hP hS => ?_)
  refine lv_aload_n hx hb dX3_release_6 rfl (lv_at hl 0 rfl) ?_
  refine g_get hC hP 12 dX3_release_7 (by decide) ge_1 rfl inX3 (by decide) rfl u_1_73 ?_
  refine lv_iload_n hx hb dX3_release_10 rfl (lv_at hl 1 rfl) ?_
  refine lv_iconst (v := 0) hx hb dX3_release_11 (by decide) ?_
  obtain ⟨v3, hz, h⟩ := ob h
  obtain ⟨T2, hv, h⟩ := ob h
  refine g_zst hC hP hS (fun Z => (Z, P, X, Y, E, B, M, O)) dX3_release_12 (by decide) ge_14 gs_14 hz hv (fun H locs hP hS => ?_)
  cases h
  exact g_vret hC hP hS dX3_release_13
def r3_sizeOf_b4 (T : OS) (x1 : Int32) (x2_4 : Int32) (x3_4 : Int32) : Option ((Int32 × Int32) ⊕ (Int32)) :=
  (if 6 ≤ x3_4 then some (.inr x2_4)
  else (rd 14 (T 6) x1).bind fun v2 =>
  (rd 6 (T 2) x3_4).bind fun v3 =>
  (some (x2_4 + (((v2 >>> (x3_4 &&& 31)) &&& 1) * v3))).bind fun v4 =>
  some (.inl (v4, (x3_4 + 1))))
def r3_sizeOf (T : OS) (x1 : Int32) : Option Int32 :=
  bd1 (it2 (r3_sizeOf_b4 T x1) 200 0 0) (fun x2_x4 => some x2_x4)
theorem yv_X3_sizeOf : gYV yX3_sizeOf cX3_sizeOf 4 (some .int) 1 := ⟨u_2_36, u_2_37, u_1_2, u_2_38, ⟨by decide +kernel, by decide +kernel, by decide +kernel⟩, by decide⟩
set_option maxHeartbeats 4000000 in
set_option maxRecDepth 100000 in
theorem c3_sizeOf (l : Launch) {γ : GA} {sz : Nat} {T P X Y B M : OS} {E : Nat → OS} {O : Nat → Int64} {x1 : Int32} {r0 : Int32} (h : r3_sizeOf T x1 = some r0) : Met l yX3_sizeOf (gU yX3_sizeOf cX3_sizeOf 4 (some .int)) (gR 0 0 0) (gPc γ [.ref (ad γ 1), .int x1] sz (T, P, X, Y, E, B, M, O)) (gQi γ r0 sz (T, P, X, Y, E, B, M, O)) 0 0 (gA γ sz) := by
  refine g_met (fun sz => gQi γ r0 sz (T, P, X, Y, E, B, M, O)) (by decide) (Nat.le_of_ble_eq_true rfl) ?_
  intro p e s m args below meth c ls hC hP hS hl
  have hx := hC.x
  have hb := hC.b
  have hl : lv_has ls 4 [(0, .ref (ad γ 1)), (1, .int x1)] := hl
  unfold r3_sizeOf at h
  refine lv_iconst (v := 0) hx hb dX3_sizeOf_0 (by decide) ?_
  refine lv_istore_n (lv' := [(2, .int 0), (0, .ref (ad γ 1)), (1, .int x1)]) hx hb dX3_sizeOf_1 rfl hl (by decide) rfl (fun ls hl => ?_)
  refine lv_iconst (v := 0) hx hb dX3_sizeOf_2 (by decide) ?_
  refine lv_istore_n (lv' := [(3, .int 0), (2, .int 0), (0, .ref (ad γ 1)), (1, .int x1)]) hx hb dX3_sizeOf_3 rfl hl (by decide) rfl (fun ls hl => ?_)
  have L4 := it2_W (r3_sizeOf_b4 T x1) (fun (x2_4 : Int32) (x3_4 : Int32) => ∀ (H : Heap) (locs : List Loc) (ls : Array Slot), va_P γ.1 vwCl (gw γ (T, P, X, Y, E, B, M, O)) H → va_S (gA γ s.heap.size) s.heap H locs → lv_has ls 4 [(0, .ref (ad γ 1)), (1, .int x1), (2, .int x2_4), (3, .int x3_4)] → W p l e (gR 0 0 0) s m args below meth c H locs 0 0 (MQ below (gQi γ r0 s.heap.size (T, P, X, Y, E, B, M, O)) args s 0 0 (gA γ s.heap.size)) (F0 m 4 ls [])) (fun (r_k : Int32) => (∀ (x2_x4 : Int32), r_k = x2_x4 → ∀ (H : Heap) (locs : List Loc) (ls : Array Slot), va_P γ.1 vwCl (gw γ (T, P, X, Y, E, B, M, O)) H → va_S (gA γ s.heap.size) s.heap H locs → lv_has ls 4 [(2, .int x2_x4)] → W p l e (gR 0 0 0) s m args below meth c H locs 0 0 (MQ below (gQi γ r0 s.heap.size (T, P, X, Y, E, B, M, O)) args s 0 0 (gA γ s.heap.size)) (F0 m 36 ls []))) (by
    intro x2_4 x3_4 o_4 h kS kR H locs ls hP hS hl
    unfold r3_sizeOf_b4 at h
    refine lv_iload_n hx hb dX3_sizeOf_4 rfl (lv_at hl 3 rfl) ?_
    refine lv_bipush (v := 6) hx hb dX3_sizeOf_5 (by decide) ?_
    refine lv_icmp_ge (tgt := 36) hx hb dX3_sizeOf_7 (by decide) (fun c1 => ?_) (fun c1 => ?_)
    · rw [if_pos c1] at h
      cases h
      exact kR _ rfl _ rfl _ _ _ hP hS (lv_sub hl [2] rfl)
    · rw [if_neg c1] at h
      refine lv_iload_n hx hb dX3_sizeOf_10 rfl (lv_at hl 2 rfl) ?_
      refine lv_aload_n hx hb dX3_sizeOf_11 rfl (lv_at hl 0 rfl) ?_
      refine g_get hC hP 6 dX3_sizeOf_12 (by decide) ge_1 rfl inX3 (by decide) rfl u_1_58 ?_
      refine lv_iload_n hx hb dX3_sizeOf_15 rfl (lv_at hl 1 rfl) ?_
      obtain ⟨v2, hv, h⟩ := ob h
      refine g_ld hC hP dX3_sizeOf_16 (by decide) ge_8 hv ?_
      refine lv_iload_n hx hb dX3_sizeOf_17 rfl (lv_at hl 3 rfl) ?_
      refine lv_ishr hx hb dX3_sizeOf_18 ?_
      refine lv_iconst (v := 1) hx hb dX3_sizeOf_19 (by decide) ?_
      refine lv_iand hx hb dX3_sizeOf_20 ?_
      refine lv_aload_n hx hb dX3_sizeOf_21 rfl (lv_at hl 0 rfl) ?_
      refine g_get hC hP 2 dX3_sizeOf_22 (by decide) ge_1 rfl inX3 (by decide) rfl u_1_49 ?_
      refine lv_iload_n hx hb dX3_sizeOf_25 rfl (lv_at hl 3 rfl) ?_
      obtain ⟨v3, hv, h⟩ := ob h
      refine g_ld hC hP dX3_sizeOf_26 (by decide) ge_4 hv ?_
      refine lv_imul hx hb dX3_sizeOf_27 ?_
      refine lv_iadd hx hb dX3_sizeOf_28 ?_
      obtain ⟨v4, hv, h⟩ := ob h
      refine lv_topi (fun y9 ey9 => ?_)
      obtain rfl : v4 = y9 := (Option.some.inj hv).symm.trans ey9.symm
      clear hv ey9
      refine lv_istore_n (lv' := [(2, .int v4), (0, .ref (ad γ 1)), (1, .int x1), (3, .int x3_4)]) hx hb dX3_sizeOf_29 rfl hl (by decide) rfl (fun ls hl => ?_)
      refine lv_iinc (v := (x3_4 + 1)) (lv' := [(3, .int (x3_4 + 1)), (2, .int v4), (0, .ref (ad γ 1)), (1, .int x1)]) hx hb dX3_sizeOf_30 hl (k := 3) rfl rfl (by decide) rfl (fun ls hl => ?_)
      refine lv_goto (tgt := 4) hx hb dX3_sizeOf_33 (by decide) ?_
      cases h
      exact kS _ _ rfl _ _ _ hP hS (lv_sub hl [2, 3, 1, 0] rfl))
  obtain ⟨x2_x4, hv, h⟩ := bd1_e h
  refine L4 _ _ _ _ hv (fun q0 e9 H locs ls hP hS hl => ?_) _ _ _ hP hS (lv_sub hl [2, 3, 1, 0] rfl)
  obtain rfl := e9
  refine lv_iload_n hx hb dX3_sizeOf_36 rfl (lv_at hl 0 rfl) ?_
  cases h
  exact g_iret hC hP hS dX3_sizeOf_37 rfl
def r3_isAvailable (T : OS) (x1 : Int32) (x2 : Int32) : Option Int32 :=
  (rd 14 (T 5) x1).bind fun v1 =>
  (if v1 < 0 then some 0
  else (if 6 ≤ v1 then some 0
  else (rd 6 (T 3) v1).bind fun v4 =>
  (if (x2 &&& (v4 ^^^ (-1))) = 0 then some 1
  else some 0)))
theorem yv_X3_isAvailable : gYV yX3_isAvailable cX3_isAvailable 4 (some .boolean) 2 := ⟨u_2_32, u_2_33, u_1_2, u_2_34, ⟨by decide +kernel, by decide +kernel, by decide +kernel⟩, by decide⟩
set_option maxHeartbeats 4000000 in
set_option maxRecDepth 100000 in
theorem c3_isAvailable (l : Launch) {γ : GA} {sz : Nat} {T P X Y B M : OS} {E : Nat → OS} {O : Nat → Int64} {x1 : Int32} {x2 : Int32} {r0 : Int32} (h : r3_isAvailable T x1 x2 = some r0) : Met l yX3_isAvailable (gU yX3_isAvailable cX3_isAvailable 4 (some .boolean)) (gR 0 0 0) (gPc γ [.ref (ad γ 1), .int x1, .int x2] sz (T, P, X, Y, E, B, M, O)) (gQi γ r0 sz (T, P, X, Y, E, B, M, O)) 0 0 (gA γ sz) := by
  refine g_met (fun sz => gQi γ r0 sz (T, P, X, Y, E, B, M, O)) (by decide) (Nat.le_of_ble_eq_true rfl) ?_
  intro p e s m args below meth c ls hC hP hS hl
  have hx := hC.x
  have hb := hC.b
  have hl : lv_has ls 4 [(0, .ref (ad γ 1)), (1, .int x1), (2, .int x2)] := hl
  unfold r3_isAvailable at h
  refine lv_aload_n hx hb dX3_isAvailable_0 rfl (lv_at hl 0 rfl) ?_
  refine g_get hC hP 5 dX3_isAvailable_1 (by decide) ge_1 rfl inX3 (by decide) rfl u_1_55 ?_
  refine lv_iload_n hx hb dX3_isAvailable_4 rfl (lv_at hl 1 rfl) ?_
  obtain ⟨v1, hv, h⟩ := ob h
  refine g_ld hC hP dX3_isAvailable_5 (by decide) ge_7 hv ?_
  refine lv_istore_n (lv' := [(3, .int v1), (0, .ref (ad γ 1)), (1, .int x1), (2, .int x2)]) hx hb dX3_isAvailable_6 rfl hl (by decide) rfl (fun ls hl => ?_)
  refine lv_iload_n hx hb dX3_isAvailable_7 rfl (lv_at hl 0 rfl) ?_
  refine lv_if_lt (tgt := 34) hx hb dX3_isAvailable_8 (by decide) (fun c2 => ?_) (fun c2 => ?_)
  · rw [if_pos c2] at h
    refine lv_iconst (v := 0) hx hb dX3_isAvailable_34 (by decide) ?_
    have hz : zz 0 = some 0 := rfl
    cases h
    exact g_zret hC hP hS dX3_isAvailable_35 hz rfl
  · rw [if_neg c2] at h
    refine lv_iload_n hx hb dX3_isAvailable_11 rfl (lv_at hl 0 rfl) ?_
    refine lv_bipush (v := 6) hx hb dX3_isAvailable_12 (by decide) ?_
    refine lv_icmp_ge (tgt := 34) hx hb dX3_isAvailable_14 (by decide) (fun c3 => ?_) (fun c3 => ?_)
    · rw [if_pos c3] at h
      refine lv_iconst (v := 0) hx hb dX3_isAvailable_34 (by decide) ?_
      have hz : zz 0 = some 0 := rfl
      cases h
      exact g_zret hC hP hS dX3_isAvailable_35 hz rfl
    · rw [if_neg c3] at h
      refine lv_iload_n hx hb dX3_isAvailable_17 rfl (lv_at hl 3 rfl) ?_
      refine lv_aload_n hx hb dX3_isAvailable_18 rfl (lv_at hl 1 rfl) ?_
      refine g_get hC hP 3 dX3_isAvailable_19 (by decide) ge_1 rfl inX3 (by decide) rfl u_1_51 ?_
      refine lv_iload_n hx hb dX3_isAvailable_22 rfl (lv_at hl 0 rfl) ?_
      obtain ⟨v4, hv, h⟩ := ob h
      refine g_ld hC hP dX3_isAvailable_23 (by decide) ge_5 hv ?_
      refine lv_iconst (v := -1) hx hb dX3_isAvailable_24 (by decide) ?_
      refine lv_ixor hx hb dX3_isAvailable_25 ?_
      refine lv_iand hx hb dX3_isAvailable_26 ?_
      refine lv_if_ne (tgt := 34) hx hb dX3_isAvailable_27 (by decide) (fun c5 => ?_) (fun c5 => ?_)
      · rw [if_neg c5] at h
        refine lv_iconst (v := 0) hx hb dX3_isAvailable_34 (by decide) ?_
        have hz : zz 0 = some 0 := rfl
        cases h
        exact g_zret hC hP hS dX3_isAvailable_35 hz rfl
      · rw [if_pos c5] at h
        refine lv_iconst (v := 1) hx hb dX3_isAvailable_30 (by decide) ?_
        refine lv_goto (tgt := 35) hx hb dX3_isAvailable_31 (by decide) ?_
        have hz : zz 1 = some 1 := rfl
        cases h
        exact g_zret hC hP hS dX3_isAvailable_35 hz rfl
def r3_hasNeeds (T : OS) (x1 : Int32) (x2 : Int32) : Option Int32 :=
  (rd 14 (T 7) x1).bind fun v1 =>
  (rd 6 (T 1) x2).bind fun v2 =>
  (if (v1 &&& (v2 ^^^ (-1))) = 0 then some 1
  else some 0)
theorem yv_X3_hasNeeds : gYV yX3_hasNeeds cX3_hasNeeds 3 (some .boolean) 2 := ⟨u_2_40, u_2_41, u_1_2, u_2_42, ⟨by decide +kernel, by decide +kernel, by decide +kernel⟩, by decide⟩
set_option maxHeartbeats 4000000 in
set_option maxRecDepth 100000 in
theorem c3_hasNeeds (l : Launch) {γ : GA} {sz : Nat} {T P X Y B M : OS} {E : Nat → OS} {O : Nat → Int64} {x1 : Int32} {x2 : Int32} {r0 : Int32} (h : r3_hasNeeds T x1 x2 = some r0) : Met l yX3_hasNeeds (gU yX3_hasNeeds cX3_hasNeeds 3 (some .boolean)) (gR 0 0 0) (gPc γ [.ref (ad γ 1), .int x1, .int x2] sz (T, P, X, Y, E, B, M, O)) (gQi γ r0 sz (T, P, X, Y, E, B, M, O)) 0 0 (gA γ sz) := by
  refine g_met (fun sz => gQi γ r0 sz (T, P, X, Y, E, B, M, O)) (by decide) (Nat.le_of_ble_eq_true rfl) ?_
  intro p e s m args below meth c ls hC hP hS hl
  have hx := hC.x
  have hb := hC.b
  have hl : lv_has ls 3 [(0, .ref (ad γ 1)), (1, .int x1), (2, .int x2)] := hl
  unfold r3_hasNeeds at h
  refine lv_aload_n hx hb dX3_hasNeeds_0 rfl (lv_at hl 0 rfl) ?_
  refine g_get hC hP 7 dX3_hasNeeds_1 (by decide) ge_1 rfl inX3 (by decide) rfl u_1_61 ?_
  refine lv_iload_n hx hb dX3_hasNeeds_4 rfl (lv_at hl 1 rfl) ?_
  obtain ⟨v1, hv, h⟩ := ob h
  refine g_ld hC hP dX3_hasNeeds_5 (by decide) ge_9 hv ?_
  refine lv_aload_n hx hb dX3_hasNeeds_6 rfl (lv_at hl 0 rfl) ?_
  refine g_get hC hP 1 dX3_hasNeeds_7 (by decide) ge_1 rfl inX3 (by decide) rfl u_1_47 ?_
  refine lv_iload_n hx hb dX3_hasNeeds_10 rfl (lv_at hl 2 rfl) ?_
  obtain ⟨v2, hv, h⟩ := ob h
  refine g_ld hC hP dX3_hasNeeds_11 (by decide) ge_3 hv ?_
  refine lv_iconst (v := -1) hx hb dX3_hasNeeds_12 (by decide) ?_
  refine lv_ixor hx hb dX3_hasNeeds_13 ?_
  refine lv_iand hx hb dX3_hasNeeds_14 ?_
  refine lv_if_ne (tgt := 22) hx hb dX3_hasNeeds_15 (by decide) (fun c3 => ?_) (fun c3 => ?_)
  · rw [if_neg c3] at h
    refine lv_iconst (v := 0) hx hb dX3_hasNeeds_22 (by decide) ?_
    have hz : zz 0 = some 0 := rfl
    cases h
    exact g_zret hC hP hS dX3_hasNeeds_23 hz rfl
  · rw [if_pos c3] at h
    refine lv_iconst (v := 1) hx hb dX3_hasNeeds_18 (by decide) ?_
    refine lv_goto (tgt := 23) hx hb dX3_hasNeeds_19 (by decide) ?_
    have hz : zz 1 = some 1 := rfl
    cases h
    exact g_zret hC hP hS dX3_hasNeeds_23 hz rfl
def r3_unsuitableAt (T : OS) (x1 : Int32) (x2 : Int32) : Option Int32 :=
  bd1 (r3_slotsAt T x1 x2) (fun v1 =>
  bd1 (r6_bitCount_0f7a4 v1) (fun v2 =>
  (rd 14 (T 8) x1).bind fun v3 =>
  (if v3 ≤ v2 then bd1 (r3_isAvailable T x1 v1) (fun v5 =>
  (if v5 = 0 then some 2
  else (rd 6 (T 0) (im x2 6)).bind fun v7 =>
  bd1 (r3_sizeOf T x1) (fun v8 =>
  (if v8 ≤ v7 then bd1 (r3_hasNeeds T x1 (im x2 6)) (fun v10 =>
  (if v10 = 0 then some 4
  else some 0))
  else some 3))))
  else some 1)))
theorem yv_X3_unsuitableAt : gYV yX3_unsuitableAt cX3_unsuitableAt 5 (some .int) 2 := ⟨u_2_18, u_2_19, u_1_2, u_2_20, ⟨by decide +kernel, by decide +kernel, by decide +kernel⟩, by decide⟩
set_option maxHeartbeats 4000000 in
set_option maxRecDepth 100000 in
theorem c3_unsuitableAt (l : Launch) {γ : GA} {sz : Nat} {T P X Y B M : OS} {E : Nat → OS} {O : Nat → Int64} {x1 : Int32} {x2 : Int32} {r0 : Int32} (h : r3_unsuitableAt T x1 x2 = some r0) : Met l yX3_unsuitableAt (gU yX3_unsuitableAt cX3_unsuitableAt 5 (some .int)) (gR 1 0 0) (gPc γ [.ref (ad γ 1), .int x1, .int x2] sz (T, P, X, Y, E, B, M, O)) (gQi γ r0 sz (T, P, X, Y, E, B, M, O)) 0 0 (gA γ sz) := by
  refine g_met (fun sz => gQi γ r0 sz (T, P, X, Y, E, B, M, O)) (by decide) (Nat.le_of_ble_eq_true rfl) ?_
  intro p e s m args below meth c ls hC hP hS hl
  have hx := hC.x
  have hb := hC.b
  have hl : lv_has ls 5 [(0, .ref (ad γ 1)), (1, .int x1), (2, .int x2)] := hl
  unfold r3_unsuitableAt at h
  refine lv_aload_n hx hb dX3_unsuitableAt_0 rfl (lv_at hl 0 rfl) ?_
  refine lv_iload_n hx hb dX3_unsuitableAt_1 rfl (lv_at hl 1 rfl) ?_
  refine lv_iload_n hx hb dX3_unsuitableAt_2 rfl (lv_at hl 2 rfl) ?_
  obtain ⟨v1, hv, h⟩ := bd1_e h
  refine g_ki (g_runV (As := [.int x1, .int x2]) (rest := []) hC hP (c3_slotsAt l hv) (by decide) ge_1 rfl u_2_21 yv_X3_slotsAt (Nat.le_of_ble_eq_true rfl) rfl hl.1 rfl (Nat.le_of_ble_eq_true rfl) dX3_unsuitableAt_3 ⟨by decide, by decide⟩) hS (fun H locs hP hS => ?_)
  refine lv_istore_n (lv' := [(3, .int v1), (0, .ref (ad γ 1)), (1, .int x1), (2, .int x2)]) hx hb dX3_unsuitableAt_6 rfl hl (by decide) rfl (fun ls hl => ?_)
  refine lv_iload_n hx hb dX3_unsuitableAt_7 rfl (lv_at hl 3 rfl) ?_
  refine lv_bipush (v := 6) hx hb dX3_unsuitableAt_8 (by decide) ?_
  refine lv_irem hx hb dX3_unsuitableAt_10 (by decide) ?_
  refine lv_istore (lv' := [(4, .int (im x2 6)), (3, .int v1), (0, .ref (ad γ 1)), (1, .int x1), (2, .int x2)]) hx hb dX3_unsuitableAt_11 hl (by decide) rfl (fun ls hl => ?_)
  refine lv_iload_n hx hb dX3_unsuitableAt_13 rfl (lv_at hl 1 rfl) ?_
  obtain ⟨v2, hv, h⟩ := bd1_e h
  refine g_ki (g_runS (As := [.int v1]) (rest := []) hC hP (c6_bitCount_0f7a4 l hv) u_2_25 yv_J6_bitCount_0f7a4 (Nat.le_of_ble_eq_true rfl) rfl hl.1 rfl (Nat.le_of_ble_eq_true rfl) dX3_unsuitableAt_14 ⟨by decide, by decide⟩) hS (fun H locs hP hS => ?_)
  refine lv_aload_n hx hb dX3_unsuitableAt_17 rfl (lv_at hl 2 rfl) ?_
  refine g_get hC hP 8 dX3_unsuitableAt_18 (by decide) ge_1 rfl inX3 (by decide) rfl u_1_63 ?_
  refine lv_iload_n hx hb dX3_unsuitableAt_21 rfl (lv_at hl 3 rfl) ?_
  obtain ⟨v3, hv, h⟩ := ob h
  refine g_ld hC hP dX3_unsuitableAt_22 (by decide) ge_10 hv ?_
  refine lv_icmp_ge (tgt := 28) hx hb dX3_unsuitableAt_23 (by decide) (fun c4 => ?_) (fun c4 => ?_)
  · rw [if_pos c4] at h
    refine lv_aload_n hx hb dX3_unsuitableAt_28 rfl (lv_at hl 2 rfl) ?_
    refine lv_iload_n hx hb dX3_unsuitableAt_29 rfl (lv_at hl 3 rfl) ?_
    refine lv_iload_n hx hb dX3_unsuitableAt_30 rfl (lv_at hl 1 rfl) ?_
    obtain ⟨v5, hv, h⟩ := bd1_e h
    refine g_ki (g_runV (As := [.int x1, .int v1]) (rest := []) hC hP (c3_isAvailable l hv) (by decide) ge_1 rfl u_2_31 yv_X3_isAvailable (Nat.le_of_ble_eq_true rfl) rfl hl.1 rfl (Nat.le_of_ble_eq_true rfl) dX3_unsuitableAt_31 ⟨by decide, by decide⟩) hS (fun H locs hP hS => ?_)
    refine lv_if_ne (tgt := 39) hx hb dX3_unsuitableAt_34 (by decide) (fun c6 => ?_) (fun c6 => ?_)
    · rw [if_neg c6] at h
      refine lv_aload_n hx hb dX3_unsuitableAt_39 rfl (lv_at hl 2 rfl) ?_
      refine g_get hC hP 0 dX3_unsuitableAt_40 (by decide) ge_1 rfl inX3 (by decide) rfl u_1_44 ?_
      refine lv_iload hx hb dX3_unsuitableAt_43 (lv_at hl 0 rfl) ?_
      obtain ⟨v7, hv, h⟩ := ob h
      refine g_ld hC hP dX3_unsuitableAt_45 (by decide) ge_2 hv ?_
      refine lv_aload_n hx hb dX3_unsuitableAt_46 rfl (lv_at hl 2 rfl) ?_
      refine lv_iload_n hx hb dX3_unsuitableAt_47 rfl (lv_at hl 3 rfl) ?_
      obtain ⟨v8, hv, h⟩ := bd1_e h
      refine g_ki (g_runV (As := [.int x1]) (rest := [.int v7]) hC hP (c3_sizeOf l hv) (by decide) ge_1 rfl u_2_35 yv_X3_sizeOf (Nat.le_of_ble_eq_true rfl) rfl hl.1 rfl (Nat.le_of_ble_eq_true rfl) dX3_unsuitableAt_48 ⟨by decide, by decide⟩) hS (fun H locs hP hS => ?_)
      refine lv_icmp_ge (tgt := 56) hx hb dX3_unsuitableAt_51 (by decide) (fun c9 => ?_) (fun c9 => ?_)
      · rw [if_pos c9] at h
        refine lv_aload_n hx hb dX3_unsuitableAt_56 rfl (lv_at hl 2 rfl) ?_
        refine lv_iload_n hx hb dX3_unsuitableAt_57 rfl (lv_at hl 3 rfl) ?_
        refine lv_iload hx hb dX3_unsuitableAt_58 (lv_at hl 0 rfl) ?_
        obtain ⟨v10, hv, h⟩ := bd1_e h
        refine g_ki (g_runV (As := [.int x1, .int (im x2 6)]) (rest := []) hC hP (c3_hasNeeds l hv) (by decide) ge_1 rfl u_2_39 yv_X3_hasNeeds (Nat.le_of_ble_eq_true rfl) rfl hl.1 rfl (Nat.le_of_ble_eq_true rfl) dX3_unsuitableAt_60 ⟨by decide, by decide⟩) hS (fun H locs hP hS => ?_)
        refine lv_if_eq (tgt := 70) hx hb dX3_unsuitableAt_63 (by decide) (fun c11 => ?_) (fun c11 => ?_)
        · rw [if_pos c11] at h
          refine lv_iconst (v := 4) hx hb dX3_unsuitableAt_70 (by decide) ?_
          cases h
          exact g_iret hC hP hS dX3_unsuitableAt_71 rfl
        · rw [if_neg c11] at h
          refine lv_iconst (v := 0) hx hb dX3_unsuitableAt_66 (by decide) ?_
          refine lv_goto (tgt := 71) hx hb dX3_unsuitableAt_67 (by decide) ?_
          cases h
          exact g_iret hC hP hS dX3_unsuitableAt_71 rfl
      · rw [if_neg c9] at h
        refine lv_iconst (v := 3) hx hb dX3_unsuitableAt_54 (by decide) ?_
        cases h
        exact g_iret hC hP hS dX3_unsuitableAt_55 rfl
    · rw [if_pos c6] at h
      refine lv_iconst (v := 2) hx hb dX3_unsuitableAt_37 (by decide) ?_
      cases h
      exact g_iret hC hP hS dX3_unsuitableAt_38 rfl
  · rw [if_neg c4] at h
    refine lv_iconst (v := 1) hx hb dX3_unsuitableAt_26 (by decide) ?_
    cases h
    exact g_iret hC hP hS dX3_unsuitableAt_27 rfl
def r3_unplaceUnsuitable_b4 (T_4 : OS) (x1_4 : Int32) (x2_4 : Int32) : Option ((OS × Int32 × Int32) ⊕ (OS × Int32)) :=
  (if 14 ≤ x2_4 then some (.inr (T_4, x1_4))
  else (rd 14 (T_4 9) x2_4).bind fun v2 =>
  (if v2 = (-1) then some (.inl (T_4, x1_4, (x2_4 + 1)))
  else bd1 (r3_unsuitableAt T_4 x2_4 v2) (fun v4 =>
  (if v4 = 0 then some (.inl (T_4, x1_4, (x2_4 + 1)))
  else bd1 (r3_release T_4 x2_4) (fun T6 =>
  some (.inl (T6, (x1_4 + 1), (x2_4 + 1))))))))
def r3_unplaceUnsuitable (T : OS) : Option (Int32 × OS) :=
  bd2 (it3 r3_unplaceUnsuitable_b4 200 T 0 0) (fun T_x4 x1_x4 => some (x1_x4, T_x4))
theorem yv_X3_unplaceUnsuitable : gYV yX3_unplaceUnsuitable cX3_unplaceUnsuitable 4 (some .int) 0 := ⟨u_2_226, u_2_227, u_1_2, u_2_228, ⟨by decide +kernel, by decide +kernel, by decide +kernel⟩, by decide⟩
set_option maxHeartbeats 4000000 in
set_option maxRecDepth 100000 in
theorem c3_unplaceUnsuitable (l : Launch) {γ : GA} {sz : Nat} {T P X Y B M : OS} {E : Nat → OS} {O : Nat → Int64} {r0 : Int32} {Tz : OS} (h : r3_unplaceUnsuitable T = some (r0, Tz)) : Met l yX3_unplaceUnsuitable (gU yX3_unplaceUnsuitable cX3_unplaceUnsuitable 4 (some .int)) (gR 3 0 0) (gPc γ [.ref (ad γ 1)] sz (T, P, X, Y, E, B, M, O)) (gQi γ r0 sz (Tz, P, X, Y, E, B, M, O)) 0 0 (gA γ sz) := by
  refine g_met (fun sz => gQi γ r0 sz (Tz, P, X, Y, E, B, M, O)) (by decide) (Nat.le_of_ble_eq_true rfl) ?_
  intro p e s m args below meth c ls hC hP hS hl
  have hx := hC.x
  have hb := hC.b
  have hl : lv_has ls 4 [(0, .ref (ad γ 1))] := hl
  unfold r3_unplaceUnsuitable at h
  refine lv_iconst (v := 0) hx hb dX3_unplaceUnsuitable_0 (by decide) ?_
  refine lv_istore_n (lv' := [(1, .int 0), (0, .ref (ad γ 1))]) hx hb dX3_unplaceUnsuitable_1 rfl hl (by decide) rfl (fun ls hl => ?_)
  refine lv_iconst (v := 0) hx hb dX3_unplaceUnsuitable_2 (by decide) ?_
  refine lv_istore_n (lv' := [(2, .int 0), (1, .int 0), (0, .ref (ad γ 1))]) hx hb dX3_unplaceUnsuitable_3 rfl hl (by decide) rfl (fun ls hl => ?_)
  have L4 := it3_W r3_unplaceUnsuitable_b4 (fun (T_4 : OS) (x1_4 : Int32) (x2_4 : Int32) => ∀ (H : Heap) (locs : List Loc) (ls : Array Slot), va_P γ.1 vwCl (gw γ (T_4, P, X, Y, E, B, M, O)) H → va_S (gA γ s.heap.size) s.heap H locs → lv_has ls 4 [(0, .ref (ad γ 1)), (1, .int x1_4), (2, .int x2_4)] → W p l e (gR 3 0 0) s m args below meth c H locs 0 0 (MQ below (gQi γ r0 s.heap.size (Tz, P, X, Y, E, B, M, O)) args s 0 0 (gA γ s.heap.size)) (F0 m 4 ls [])) (fun (r_k : OS × Int32) => (∀ (T_x4 : OS) (x1_x4 : Int32), r_k = (T_x4, x1_x4) → ∀ (H : Heap) (locs : List Loc) (ls : Array Slot), va_P γ.1 vwCl (gw γ (T_x4, P, X, Y, E, B, M, O)) H → va_S (gA γ s.heap.size) s.heap H locs → lv_has ls 4 [(1, .int x1_x4)] → W p l e (gR 3 0 0) s m args below meth c H locs 0 0 (MQ below (gQi γ r0 s.heap.size (Tz, P, X, Y, E, B, M, O)) args s 0 0 (gA γ s.heap.size)) (F0 m 45 ls []))) (by
    intro T_4 x1_4 x2_4 o_4 h kS kR H locs ls hP hS hl
    unfold r3_unplaceUnsuitable_b4 at h
    refine lv_iload_n hx hb dX3_unplaceUnsuitable_4 rfl (lv_at hl 2 rfl) ?_
    refine lv_bipush (v := 14) hx hb dX3_unplaceUnsuitable_5 (by decide) ?_
    refine lv_icmp_ge (tgt := 45) hx hb dX3_unplaceUnsuitable_7 (by decide) (fun c1 => ?_) (fun c1 => ?_)
    · rw [if_pos c1] at h
      cases h
      exact kR _ rfl _ _ rfl _ _ _ hP hS (lv_sub hl [1] rfl)
    · rw [if_neg c1] at h
      refine lv_aload_n hx hb dX3_unplaceUnsuitable_10 rfl (lv_at hl 0 rfl) ?_
      refine g_get hC hP 9 dX3_unplaceUnsuitable_11 (by decide) ge_1 rfl inX3 (by decide) rfl u_1_66 ?_
      refine lv_iload_n hx hb dX3_unplaceUnsuitable_14 rfl (lv_at hl 2 rfl) ?_
      obtain ⟨v2, hv, h⟩ := ob h
      refine g_ld hC hP dX3_unplaceUnsuitable_15 (by decide) ge_11 hv ?_
      refine lv_istore_n (lv' := [(3, .int v2), (0, .ref (ad γ 1)), (1, .int x1_4), (2, .int x2_4)]) hx hb dX3_unplaceUnsuitable_16 rfl hl (by decide) rfl (fun ls hl => ?_)
      refine lv_iload_n hx hb dX3_unplaceUnsuitable_17 rfl (lv_at hl 0 rfl) ?_
      refine lv_iconst (v := -1) hx hb dX3_unplaceUnsuitable_18 (by decide) ?_
      refine lv_icmp_eq (tgt := 39) hx hb dX3_unplaceUnsuitable_19 (by decide) (fun c3 => ?_) (fun c3 => ?_)
      · rw [if_pos c3] at h
        refine lv_iinc (v := (x2_4 + 1)) (lv' := [(2, .int (x2_4 + 1)), (3, .int v2), (0, .ref (ad γ 1)), (1, .int x1_4)]) hx hb dX3_unplaceUnsuitable_39 hl (k := 3) rfl rfl (by decide) rfl (fun ls hl => ?_)
        refine lv_goto (tgt := 4) hx hb dX3_unplaceUnsuitable_42 (by decide) ?_
        cases h
        exact kS _ _ _ rfl _ _ _ hP hS (lv_sub hl [2, 3, 0] rfl)
      · rw [if_neg c3] at h
        refine lv_aload_n hx hb dX3_unplaceUnsuitable_22 rfl (lv_at hl 1 rfl) ?_
        refine lv_iload_n hx hb dX3_unplaceUnsuitable_23 rfl (lv_at hl 3 rfl) ?_
        refine lv_iload_n hx hb dX3_unplaceUnsuitable_24 rfl (lv_at hl 0 rfl) ?_
        obtain ⟨v4, hv, h⟩ := bd1_e h
        refine g_ki (g_runV (As := [.int x2_4, .int v2]) (rest := []) hC hP (c3_unsuitableAt l hv) (by decide) ge_1 rfl u_2_17 yv_X3_unsuitableAt (Nat.le_of_ble_eq_true rfl) rfl hl.1 rfl (Nat.le_of_ble_eq_true rfl) dX3_unplaceUnsuitable_25 ⟨by decide, by decide⟩) hS (fun H locs hP hS => ?_)
        refine lv_if_eq (tgt := 39) hx hb dX3_unplaceUnsuitable_28 (by decide) (fun c5 => ?_) (fun c5 => ?_)
        · rw [if_pos c5] at h
          refine lv_iinc (v := (x2_4 + 1)) (lv' := [(2, .int (x2_4 + 1)), (3, .int v2), (0, .ref (ad γ 1)), (1, .int x1_4)]) hx hb dX3_unplaceUnsuitable_39 hl (k := 3) rfl rfl (by decide) rfl (fun ls hl => ?_)
          refine lv_goto (tgt := 4) hx hb dX3_unplaceUnsuitable_42 (by decide) ?_
          cases h
          exact kS _ _ _ rfl _ _ _ hP hS (lv_sub hl [2, 3, 0] rfl)
        · rw [if_neg c5] at h
          refine lv_aload_n hx hb dX3_unplaceUnsuitable_31 rfl (lv_at hl 1 rfl) ?_
          refine lv_iload_n hx hb dX3_unplaceUnsuitable_32 rfl (lv_at hl 3 rfl) ?_
          obtain ⟨T6, hv, h⟩ := bd1_e h
          refine g_kv (g_runV (As := [.int x2_4]) (rest := []) hC hP (c3_release l hv) (by decide) ge_1 rfl u_2_229 yv_X3_release (Nat.le_of_ble_eq_true rfl) rfl hl.1 rfl (Nat.le_of_ble_eq_true rfl) dX3_unplaceUnsuitable_33 ⟨by decide, by decide⟩) hS (fun H locs hP hS => ?_)
          refine lv_iinc (v := (x1_4 + 1)) (lv' := [(1, .int (x1_4 + 1)), (3, .int v2), (0, .ref (ad γ 1)), (2, .int x2_4)]) hx hb dX3_unplaceUnsuitable_36 hl (k := 2) rfl rfl (by decide) rfl (fun ls hl => ?_)
          refine lv_iinc (v := (x2_4 + 1)) (lv' := [(2, .int (x2_4 + 1)), (1, .int (x1_4 + 1)), (3, .int v2), (0, .ref (ad γ 1))]) hx hb dX3_unplaceUnsuitable_39 hl (k := 3) rfl rfl (by decide) rfl (fun ls hl => ?_)
          refine lv_goto (tgt := 4) hx hb dX3_unplaceUnsuitable_42 (by decide) ?_
          cases h
          exact kS _ _ _ rfl _ _ _ hP hS (lv_sub hl [3, 1, 0] rfl))
  obtain ⟨T_x4, x1_x4, hv, h⟩ := bd2_e h
  refine L4 _ _ _ _ _ hv (fun q0 q1 e9 H locs ls hP hS hl => ?_) _ _ _ hP hS (lv_sub hl [2, 1, 0] rfl)
  obtain ⟨rfl, rfl⟩ := inj2 e9
  refine lv_iload_n hx hb dX3_unplaceUnsuitable_45 rfl (lv_at hl 0 rfl) ?_
  cases h
  exact g_iret hC hP hS dX3_unplaceUnsuitable_46 rfl
def r3_slotOf (T : OS) (x1 : Int32) : Option Int32 :=
  (rd 14 (T 9) x1).bind fun v1 =>
  some (v1 / 6)
theorem yv_X3_slotOf : gYV yX3_slotOf cX3_slotOf 2 (some .int) 1 := ⟨u_5_0, u_5_1, u_1_2, u_5_2, ⟨by decide +kernel, by decide +kernel, by decide +kernel⟩, by decide⟩
set_option maxHeartbeats 4000000 in
set_option maxRecDepth 100000 in
theorem c3_slotOf (l : Launch) {γ : GA} {sz : Nat} {T P X Y B M : OS} {E : Nat → OS} {O : Nat → Int64} {x1 : Int32} {r0 : Int32} (h : r3_slotOf T x1 = some r0) : Met l yX3_slotOf (gU yX3_slotOf cX3_slotOf 2 (some .int)) (gR 0 0 0) (gPc γ [.ref (ad γ 1), .int x1] sz (T, P, X, Y, E, B, M, O)) (gQi γ r0 sz (T, P, X, Y, E, B, M, O)) 0 0 (gA γ sz) := by
  refine g_met (fun sz => gQi γ r0 sz (T, P, X, Y, E, B, M, O)) (by decide) (Nat.le_of_ble_eq_true rfl) ?_
  intro p e s m args below meth c ls hC hP hS hl
  have hx := hC.x
  have hb := hC.b
  have hl : lv_has ls 2 [(0, .ref (ad γ 1)), (1, .int x1)] := hl
  unfold r3_slotOf at h
  refine lv_aload_n hx hb dX3_slotOf_0 rfl (lv_at hl 0 rfl) ?_
  refine g_get hC hP 9 dX3_slotOf_1 (by decide) ge_1 rfl inX3 (by decide) rfl u_1_66 ?_
  refine lv_iload_n hx hb dX3_slotOf_4 rfl (lv_at hl 1 rfl) ?_
  obtain ⟨v1, hv, h⟩ := ob h
  refine g_ld hC hP dX3_slotOf_5 (by decide) ge_11 hv ?_
  refine lv_bipush (v := 6) hx hb dX3_slotOf_6 (by decide) ?_
  refine lv_idiv hx hb dX3_slotOf_8 (by decide) ?_
  cases h
  exact g_iret hC hP hS dX3_slotOf_9 rfl
def r3_clashWith (T : OS) (x1 : Int32) (x2 : Int32) (x3 : Int32) (x4 : Int32) : Option Int32 :=
  (if x1 = x2 then some 0
  else (rd 14 (T 10) x1).bind fun v2 =>
  (if (v2 &&& x4) = 0 then some 0
  else (rd 14 (T 9) x1).bind fun v4 =>
  (if (im v4 6) = x3 then some 5
  else (rd 14 (T 5) x1).bind fun v6 =>
  (rd 14 (T 5) x2).bind fun v7 =>
  (if v6 = v7 then some 6
  else (rd 14 (T 6) x1).bind fun v9 =>
  (rd 14 (T 6) x2).bind fun v10 =>
  (if (v9 &&& v10) = 0 then some 0
  else some 7)))))
theorem yv_X3_clashWith : gYV yX3_clashWith cX3_clashWith 5 (some .int) 4 := ⟨u_2_66, u_sp_3, u_1_2, u_2_67, ⟨by decide +kernel, by decide +kernel, by decide +kernel⟩, by decide⟩
set_option maxHeartbeats 4000000 in
set_option maxRecDepth 100000 in
theorem c3_clashWith (l : Launch) {γ : GA} {sz : Nat} {T P X Y B M : OS} {E : Nat → OS} {O : Nat → Int64} {x1 : Int32} {x2 : Int32} {x3 : Int32} {x4 : Int32} {r0 : Int32} (h : r3_clashWith T x1 x2 x3 x4 = some r0) : Met l yX3_clashWith (gU yX3_clashWith cX3_clashWith 5 (some .int)) (gR 0 0 0) (gPc γ [.ref (ad γ 1), .int x1, .int x2, .int x3, .int x4] sz (T, P, X, Y, E, B, M, O)) (gQi γ r0 sz (T, P, X, Y, E, B, M, O)) 0 0 (gA γ sz) := by
  refine g_met (fun sz => gQi γ r0 sz (T, P, X, Y, E, B, M, O)) (by decide) (Nat.le_of_ble_eq_true rfl) ?_
  intro p e s m args below meth c ls hC hP hS hl
  have hx := hC.x
  have hb := hC.b
  have hl : lv_has ls 5 [(0, .ref (ad γ 1)), (1, .int x1), (2, .int x2), (3, .int x3), (4, .int x4)] := hl
  unfold r3_clashWith at h
  refine lv_iload_n hx hb dX3_clashWith_0 rfl (lv_at hl 1 rfl) ?_
  refine lv_iload_n hx hb dX3_clashWith_1 rfl (lv_at hl 2 rfl) ?_
  refine lv_icmp_eq (tgt := 17) hx hb dX3_clashWith_2 (by decide) (fun c1 => ?_) (fun c1 => ?_)
  · rw [if_pos c1] at h
    refine lv_iconst (v := 0) hx hb dX3_clashWith_17 (by decide) ?_
    cases h
    exact g_iret hC hP hS dX3_clashWith_18 rfl
  · rw [if_neg c1] at h
    refine lv_aload_n hx hb dX3_clashWith_5 rfl (lv_at hl 0 rfl) ?_
    refine g_get hC hP 10 dX3_clashWith_6 (by decide) ge_1 rfl inX3 (by decide) rfl u_1_69 ?_
    refine lv_iload_n hx hb dX3_clashWith_9 rfl (lv_at hl 1 rfl) ?_
    obtain ⟨v2, hv, h⟩ := ob h
    refine g_ld hC hP dX3_clashWith_10 (by decide) ge_12 hv ?_
    refine lv_iload hx hb dX3_clashWith_11 (lv_at hl 4 rfl) ?_
    refine lv_iand hx hb dX3_clashWith_13 ?_
    refine lv_if_ne (tgt := 19) hx hb dX3_clashWith_14 (by decide) (fun c3 => ?_) (fun c3 => ?_)
    · rw [if_neg c3] at h
      refine lv_aload_n hx hb dX3_clashWith_19 rfl (lv_at hl 0 rfl) ?_
      refine g_get hC hP 9 dX3_clashWith_20 (by decide) ge_1 rfl inX3 (by decide) rfl u_1_66 ?_
      refine lv_iload_n hx hb dX3_clashWith_23 rfl (lv_at hl 1 rfl) ?_
      obtain ⟨v4, hv, h⟩ := ob h
      refine g_ld hC hP dX3_clashWith_24 (by decide) ge_11 hv ?_
      refine lv_bipush (v := 6) hx hb dX3_clashWith_25 (by decide) ?_
      refine lv_irem hx hb dX3_clashWith_27 (by decide) ?_
      refine lv_iload_n hx hb dX3_clashWith_28 rfl (lv_at hl 3 rfl) ?_
      refine lv_icmp_ne (tgt := 34) hx hb dX3_clashWith_29 (by decide) (fun c5 => ?_) (fun c5 => ?_)
      · rw [if_neg c5] at h
        refine lv_aload_n hx hb dX3_clashWith_34 rfl (lv_at hl 0 rfl) ?_
        refine g_get hC hP 5 dX3_clashWith_35 (by decide) ge_1 rfl inX3 (by decide) rfl u_1_55 ?_
        refine lv_iload_n hx hb dX3_clashWith_38 rfl (lv_at hl 1 rfl) ?_
        obtain ⟨v6, hv, h⟩ := ob h
        refine g_ld hC hP dX3_clashWith_39 (by decide) ge_7 hv ?_
        refine lv_aload_n hx hb dX3_clashWith_40 rfl (lv_at hl 0 rfl) ?_
        refine g_get hC hP 5 dX3_clashWith_41 (by decide) ge_1 rfl inX3 (by decide) rfl u_1_55 ?_
        refine lv_iload_n hx hb dX3_clashWith_44 rfl (lv_at hl 2 rfl) ?_
        obtain ⟨v7, hv, h⟩ := ob h
        refine g_ld hC hP dX3_clashWith_45 (by decide) ge_7 hv ?_
        refine lv_icmp_ne (tgt := 52) hx hb dX3_clashWith_46 (by decide) (fun c8 => ?_) (fun c8 => ?_)
        · rw [if_neg c8] at h
          refine lv_aload_n hx hb dX3_clashWith_52 rfl (lv_at hl 0 rfl) ?_
          refine g_get hC hP 6 dX3_clashWith_53 (by decide) ge_1 rfl inX3 (by decide) rfl u_1_58 ?_
          refine lv_iload_n hx hb dX3_clashWith_56 rfl (lv_at hl 1 rfl) ?_
          obtain ⟨v9, hv, h⟩ := ob h
          refine g_ld hC hP dX3_clashWith_57 (by decide) ge_8 hv ?_
          refine lv_aload_n hx hb dX3_clashWith_58 rfl (lv_at hl 0 rfl) ?_
          refine g_get hC hP 6 dX3_clashWith_59 (by decide) ge_1 rfl inX3 (by decide) rfl u_1_58 ?_
          refine lv_iload_n hx hb dX3_clashWith_62 rfl (lv_at hl 2 rfl) ?_
          obtain ⟨v10, hv, h⟩ := ob h
          refine g_ld hC hP dX3_clashWith_63 (by decide) ge_8 hv ?_
          refine lv_iand hx hb dX3_clashWith_64 ?_
          refine lv_if_eq (tgt := 73) hx hb dX3_clashWith_65 (by decide) (fun c11 => ?_) (fun c11 => ?_)
          · rw [if_pos c11] at h
            refine lv_iconst (v := 0) hx hb dX3_clashWith_73 (by decide) ?_
            cases h
            exact g_iret hC hP hS dX3_clashWith_74 rfl
          · rw [if_neg c11] at h
            refine lv_bipush (v := 7) hx hb dX3_clashWith_68 (by decide) ?_
            refine lv_goto (tgt := 74) hx hb dX3_clashWith_70 (by decide) ?_
            cases h
            exact g_iret hC hP hS dX3_clashWith_74 rfl
        · rw [if_pos c8] at h
          refine lv_bipush (v := 6) hx hb dX3_clashWith_49 (by decide) ?_
          cases h
          exact g_iret hC hP hS dX3_clashWith_51 rfl
      · rw [if_pos c5] at h
        refine lv_iconst (v := 5) hx hb dX3_clashWith_32 (by decide) ?_
        cases h
        exact g_iret hC hP hS dX3_clashWith_33 rfl
    · rw [if_pos c3] at h
      refine lv_iconst (v := 0) hx hb dX3_clashWith_17 (by decide) ?_
      cases h
      exact g_iret hC hP hS dX3_clashWith_18 rfl
def r3_obstacleAt_b24 (T : OS) (x1 : Int32) (x2 : Int32) (v3 : Int32) (x3_24 : Int32) (x5_24 : Int32) : Option ((Int32 × Int32) ⊕ (Int32)) :=
  (if 14 ≤ x5_24 then some (.inr x3_24)
  else bd1 (r3_clashWith T x5_24 x1 (im x2 6) v3) (fun v5 =>
  (if v5 = 0 then some (.inl (x3_24, (x5_24 + 1)))
  else (if x3_24 = 0 then some (.inl (v5, (x5_24 + 1)))
  else (if x3_24 ≤ v5 then some (.inl (x3_24, (x5_24 + 1)))
  else some (.inl (v5, (x5_24 + 1))))))))
def r3_obstacleAt (T : OS) (x1 : Int32) (x2 : Int32) : Option Int32 :=
  bd1 (r3_unsuitableAt T x1 x2) (fun v1 =>
  (if v1 = 0 then bd1 (r3_slotsAt T x1 x2) (fun v3 =>
  bd1 (it2 (r3_obstacleAt_b24 T x1 x2 v3) 200 v1 0) (fun x3_x24 => some x3_x24))
  else some v1))
theorem yv_X3_obstacleAt : gYV yX3_obstacleAt cX3_obstacleAt 7 (some .int) 2 := ⟨u_2_90, u_2_91, u_1_2, u_2_92, ⟨by decide +kernel, by decide +kernel, by decide +kernel⟩, by decide⟩
set_option maxHeartbeats 4000000 in
set_option maxRecDepth 100000 in
theorem c3_obstacleAt (l : Launch) {γ : GA} {sz : Nat} {T P X Y B M : OS} {E : Nat → OS} {O : Nat → Int64} {x1 : Int32} {x2 : Int32} {r0 : Int32} (h : r3_obstacleAt T x1 x2 = some r0) : Met l yX3_obstacleAt (gU yX3_obstacleAt cX3_obstacleAt 7 (some .int)) (gR 2 0 0) (gPc γ [.ref (ad γ 1), .int x1, .int x2] sz (T, P, X, Y, E, B, M, O)) (gQi γ r0 sz (T, P, X, Y, E, B, M, O)) 0 0 (gA γ sz) := by
  refine g_met (fun sz => gQi γ r0 sz (T, P, X, Y, E, B, M, O)) (by decide) (Nat.le_of_ble_eq_true rfl) ?_
  intro p e s m args below meth c ls hC hP hS hl
  have hx := hC.x
  have hb := hC.b
  have hl : lv_has ls 7 [(0, .ref (ad γ 1)), (1, .int x1), (2, .int x2)] := hl
  unfold r3_obstacleAt at h
  refine lv_aload_n hx hb dX3_obstacleAt_0 rfl (lv_at hl 0 rfl) ?_
  refine lv_iload_n hx hb dX3_obstacleAt_1 rfl (lv_at hl 1 rfl) ?_
  refine lv_iload_n hx hb dX3_obstacleAt_2 rfl (lv_at hl 2 rfl) ?_
  obtain ⟨v1, hv, h⟩ := bd1_e h
  refine g_ki (g_runV (As := [.int x1, .int x2]) (rest := []) hC hP (c3_unsuitableAt l hv) (by decide) ge_1 rfl u_2_17 yv_X3_unsuitableAt (Nat.le_of_ble_eq_true rfl) rfl hl.1 rfl (Nat.le_of_ble_eq_true rfl) dX3_obstacleAt_3 ⟨by decide, by decide⟩) hS (fun H locs hP hS => ?_)
  refine lv_istore_n (lv' := [(3, .int v1), (0, .ref (ad γ 1)), (1, .int x1), (2, .int x2)]) hx hb dX3_obstacleAt_6 rfl hl (by decide) rfl (fun ls hl => ?_)
  refine lv_iload_n hx hb dX3_obstacleAt_7 rfl (lv_at hl 0 rfl) ?_
  refine lv_if_eq (tgt := 13) hx hb dX3_obstacleAt_8 (by decide) (fun c2 => ?_) (fun c2 => ?_)
  · rw [if_pos c2] at h
    refine lv_aload_n hx hb dX3_obstacleAt_13 rfl (lv_at hl 1 rfl) ?_
    refine lv_iload_n hx hb dX3_obstacleAt_14 rfl (lv_at hl 2 rfl) ?_
    refine lv_iload_n hx hb dX3_obstacleAt_15 rfl (lv_at hl 3 rfl) ?_
    obtain ⟨v3, hv, h⟩ := bd1_e h
    refine g_ki (g_runV (As := [.int x1, .int x2]) (rest := []) hC hP (c3_slotsAt l hv) (by decide) ge_1 rfl u_2_21 yv_X3_slotsAt (Nat.le_of_ble_eq_true rfl) rfl hl.1 rfl (Nat.le_of_ble_eq_true rfl) dX3_obstacleAt_16 ⟨by decide, by decide⟩) hS (fun H locs hP hS => ?_)
    refine lv_istore (lv' := [(4, .int v3), (3, .int v1), (0, .ref (ad γ 1)), (1, .int x1), (2, .int x2)]) hx hb dX3_obstacleAt_19 hl (by decide) rfl (fun ls hl => ?_)
    refine lv_iconst (v := 0) hx hb dX3_obstacleAt_21 (by decide) ?_
    refine lv_istore (lv' := [(5, .int 0), (4, .int v3), (3, .int v1), (0, .ref (ad γ 1)), (1, .int x1), (2, .int x2)]) hx hb dX3_obstacleAt_22 hl (by decide) rfl (fun ls hl => ?_)
    have L24 := it2_W (r3_obstacleAt_b24 T x1 x2 v3) (fun (x3_24 : Int32) (x5_24 : Int32) => ∀ (H : Heap) (locs : List Loc) (ls : Array Slot), va_P γ.1 vwCl (gw γ (T, P, X, Y, E, B, M, O)) H → va_S (gA γ s.heap.size) s.heap H locs → lv_has ls 7 [(0, .ref (ad γ 1)), (1, .int x1), (2, .int x2), (3, .int x3_24), (4, .int v3), (5, .int x5_24)] → W p l e (gR 2 0 0) s m args below meth c H locs 0 0 (MQ below (gQi γ r0 s.heap.size (T, P, X, Y, E, B, M, O)) args s 0 0 (gA γ s.heap.size)) (F0 m 24 ls [])) (fun (r_k : Int32) => (∀ (x3_x24 : Int32), r_k = x3_x24 → ∀ (H : Heap) (locs : List Loc) (ls : Array Slot), va_P γ.1 vwCl (gw γ (T, P, X, Y, E, B, M, O)) H → va_S (gA γ s.heap.size) s.heap H locs → lv_has ls 7 [(3, .int x3_x24)] → W p l e (gR 2 0 0) s m args below meth c H locs 0 0 (MQ below (gQi γ r0 s.heap.size (T, P, X, Y, E, B, M, O)) args s 0 0 (gA γ s.heap.size)) (F0 m 70 ls []))) (by
      intro x3_24 x5_24 o_24 h kS kR H locs ls hP hS hl
      unfold r3_obstacleAt_b24 at h
      refine lv_iload hx hb dX3_obstacleAt_24 (lv_at hl 5 rfl) ?_
      refine lv_bipush (v := 14) hx hb dX3_obstacleAt_26 (by decide) ?_
      refine lv_icmp_ge (tgt := 70) hx hb dX3_obstacleAt_28 (by decide) (fun c4 => ?_) (fun c4 => ?_)
      · rw [if_pos c4] at h
        cases h
        exact kR _ rfl _ rfl _ _ _ hP hS (lv_sub hl [3] rfl)
      · rw [if_neg c4] at h
        refine lv_aload_n hx hb dX3_obstacleAt_31 rfl (lv_at hl 0 rfl) ?_
        refine lv_iload hx hb dX3_obstacleAt_32 (lv_at hl 5 rfl) ?_
        refine lv_iload_n hx hb dX3_obstacleAt_34 rfl (lv_at hl 1 rfl) ?_
        refine lv_iload_n hx hb dX3_obstacleAt_35 rfl (lv_at hl 2 rfl) ?_
        refine lv_bipush (v := 6) hx hb dX3_obstacleAt_36 (by decide) ?_
        refine lv_irem hx hb dX3_obstacleAt_38 (by decide) ?_
        refine lv_iload hx hb dX3_obstacleAt_39 (lv_at hl 4 rfl) ?_
        obtain ⟨v5, hv, h⟩ := bd1_e h
        refine g_ki (g_runV (As := [.int x5_24, .int x1, .int (im x2 6), .int v3]) (rest := []) hC hP (c3_clashWith l hv) (by decide) ge_1 rfl u_2_64 yv_X3_clashWith (Nat.le_of_ble_eq_true rfl) rfl hl.1 rfl (Nat.le_of_ble_eq_true rfl) dX3_obstacleAt_41 ⟨by decide, by decide⟩) hS (fun H locs hP hS => ?_)
        refine lv_istore (lv' := [(6, .int v5), (0, .ref (ad γ 1)), (1, .int x1), (2, .int x2), (3, .int x3_24), (4, .int v3), (5, .int x5_24)]) hx hb dX3_obstacleAt_44 hl (by decide) rfl (fun ls hl => ?_)
        refine lv_iload hx hb dX3_obstacleAt_46 (lv_at hl 0 rfl) ?_
        refine lv_if_eq (tgt := 64) hx hb dX3_obstacleAt_48 (by decide) (fun c6 => ?_) (fun c6 => ?_)
        · rw [if_pos c6] at h
          refine lv_iinc (v := (x5_24 + 1)) (lv' := [(5, .int (x5_24 + 1)), (6, .int v5), (0, .ref (ad γ 1)), (1, .int x1), (2, .int x2), (3, .int x3_24), (4, .int v3)]) hx hb dX3_obstacleAt_64 hl (k := 6) rfl rfl (by decide) rfl (fun ls hl => ?_)
          refine lv_goto (tgt := 24) hx hb dX3_obstacleAt_67 (by decide) ?_
          cases h
          exact kS _ _ rfl _ _ _ hP hS (lv_sub hl [2, 3, 4, 5, 6, 0] rfl)
        · rw [if_neg c6] at h
          refine lv_iload_n hx hb dX3_obstacleAt_51 rfl (lv_at hl 4 rfl) ?_
          refine lv_if_eq (tgt := 61) hx hb dX3_obstacleAt_52 (by decide) (fun c7 => ?_) (fun c7 => ?_)
          · rw [if_pos c7] at h
            refine lv_iload hx hb dX3_obstacleAt_61 (lv_at hl 0 rfl) ?_
            refine lv_istore_n (lv' := [(3, .int v5), (6, .int v5), (0, .ref (ad γ 1)), (1, .int x1), (2, .int x2), (4, .int v3), (5, .int x5_24)]) hx hb dX3_obstacleAt_63 rfl hl (by decide) rfl (fun ls hl => ?_)
            refine lv_iinc (v := (x5_24 + 1)) (lv' := [(5, .int (x5_24 + 1)), (3, .int v5), (6, .int v5), (0, .ref (ad γ 1)), (1, .int x1), (2, .int x2), (4, .int v3)]) hx hb dX3_obstacleAt_64 hl (k := 6) rfl rfl (by decide) rfl (fun ls hl => ?_)
            refine lv_goto (tgt := 24) hx hb dX3_obstacleAt_67 (by decide) ?_
            cases h
            exact kS _ _ rfl _ _ _ hP hS (lv_sub hl [3, 4, 5, 1, 6, 0] rfl)
          · rw [if_neg c7] at h
            refine lv_iload hx hb dX3_obstacleAt_55 (lv_at hl 0 rfl) ?_
            refine lv_iload_n hx hb dX3_obstacleAt_57 rfl (lv_at hl 4 rfl) ?_
            refine lv_icmp_ge (tgt := 64) hx hb dX3_obstacleAt_58 (by decide) (fun c8 => ?_) (fun c8 => ?_)
            · rw [if_pos c8] at h
              refine lv_iinc (v := (x5_24 + 1)) (lv' := [(5, .int (x5_24 + 1)), (6, .int v5), (0, .ref (ad γ 1)), (1, .int x1), (2, .int x2), (3, .int x3_24), (4, .int v3)]) hx hb dX3_obstacleAt_64 hl (k := 6) rfl rfl (by decide) rfl (fun ls hl => ?_)
              refine lv_goto (tgt := 24) hx hb dX3_obstacleAt_67 (by decide) ?_
              cases h
              exact kS _ _ rfl _ _ _ hP hS (lv_sub hl [2, 3, 4, 5, 6, 0] rfl)
            · rw [if_neg c8] at h
              refine lv_iload hx hb dX3_obstacleAt_61 (lv_at hl 0 rfl) ?_
              refine lv_istore_n (lv' := [(3, .int v5), (6, .int v5), (0, .ref (ad γ 1)), (1, .int x1), (2, .int x2), (4, .int v3), (5, .int x5_24)]) hx hb dX3_obstacleAt_63 rfl hl (by decide) rfl (fun ls hl => ?_)
              refine lv_iinc (v := (x5_24 + 1)) (lv' := [(5, .int (x5_24 + 1)), (3, .int v5), (6, .int v5), (0, .ref (ad γ 1)), (1, .int x1), (2, .int x2), (4, .int v3)]) hx hb dX3_obstacleAt_64 hl (k := 6) rfl rfl (by decide) rfl (fun ls hl => ?_)
              refine lv_goto (tgt := 24) hx hb dX3_obstacleAt_67 (by decide) ?_
              cases h
              exact kS _ _ rfl _ _ _ hP hS (lv_sub hl [3, 4, 5, 1, 6, 0] rfl))
    obtain ⟨x3_x24, hv, h⟩ := bd1_e h
    refine L24 _ _ _ _ hv (fun q0 e9 H locs ls hP hS hl => ?_) _ _ _ hP hS (lv_sub hl [3, 4, 5, 2, 1, 0] rfl)
    obtain rfl := e9
    refine lv_iload_n hx hb dX3_obstacleAt_70 rfl (lv_at hl 0 rfl) ?_
    cases h
    exact g_iret hC hP hS dX3_obstacleAt_71 rfl
  · rw [if_neg c2] at h
    refine lv_iload_n hx hb dX3_obstacleAt_11 rfl (lv_at hl 0 rfl) ?_
    cases h
    exact g_iret hC hP hS dX3_obstacleAt_12 rfl
def r3_hinderingAt_b13 (T : OS) (x1 : Int32) (x2 : Int32) (v1 : Int32) (x3_13 : Int32) (x5_13 : Int32) : Option ((Int32 × Int32) ⊕ (Int32)) :=
  (if 14 ≤ x5_13 then some (.inr x3_13)
  else bd1 (r3_clashWith T x5_13 x1 (im x2 6) v1) (fun v3 =>
  (if v3 = 0 then some (.inl (x3_13, (x5_13 + 1)))
  else (some (x3_13 ||| (1 <<< (x5_13 &&& 31)))).bind fun v5 =>
  some (.inl (v5, (x5_13 + 1))))))
def r3_hinderingAt (T : OS) (x1 : Int32) (x2 : Int32) : Option Int32 :=
  bd1 (r3_slotsAt T x1 x2) (fun v1 =>
  bd1 (it2 (r3_hinderingAt_b13 T x1 x2 v1) 200 0 0) (fun x3_x13 => some x3_x13))
theorem yv_X3_hinderingAt : gYV yX3_hinderingAt cX3_hinderingAt 6 (some .int) 2 := ⟨u_2_61, u_2_62, u_1_2, u_2_63, ⟨by decide +kernel, by decide +kernel, by decide +kernel⟩, by decide⟩
set_option maxHeartbeats 4000000 in
set_option maxRecDepth 100000 in
theorem c3_hinderingAt (l : Launch) {γ : GA} {sz : Nat} {T P X Y B M : OS} {E : Nat → OS} {O : Nat → Int64} {x1 : Int32} {x2 : Int32} {r0 : Int32} (h : r3_hinderingAt T x1 x2 = some r0) : Met l yX3_hinderingAt (gU yX3_hinderingAt cX3_hinderingAt 6 (some .int)) (gR 1 0 0) (gPc γ [.ref (ad γ 1), .int x1, .int x2] sz (T, P, X, Y, E, B, M, O)) (gQi γ r0 sz (T, P, X, Y, E, B, M, O)) 0 0 (gA γ sz) := by
  refine g_met (fun sz => gQi γ r0 sz (T, P, X, Y, E, B, M, O)) (by decide) (Nat.le_of_ble_eq_true rfl) ?_
  intro p e s m args below meth c ls hC hP hS hl
  have hx := hC.x
  have hb := hC.b
  have hl : lv_has ls 6 [(0, .ref (ad γ 1)), (1, .int x1), (2, .int x2)] := hl
  unfold r3_hinderingAt at h
  refine lv_iconst (v := 0) hx hb dX3_hinderingAt_0 (by decide) ?_
  refine lv_istore_n (lv' := [(3, .int 0), (0, .ref (ad γ 1)), (1, .int x1), (2, .int x2)]) hx hb dX3_hinderingAt_1 rfl hl (by decide) rfl (fun ls hl => ?_)
  refine lv_aload_n hx hb dX3_hinderingAt_2 rfl (lv_at hl 1 rfl) ?_
  refine lv_iload_n hx hb dX3_hinderingAt_3 rfl (lv_at hl 2 rfl) ?_
  refine lv_iload_n hx hb dX3_hinderingAt_4 rfl (lv_at hl 3 rfl) ?_
  obtain ⟨v1, hv, h⟩ := bd1_e h
  refine g_ki (g_runV (As := [.int x1, .int x2]) (rest := []) hC hP (c3_slotsAt l hv) (by decide) ge_1 rfl u_2_21 yv_X3_slotsAt (Nat.le_of_ble_eq_true rfl) rfl hl.1 rfl (Nat.le_of_ble_eq_true rfl) dX3_hinderingAt_5 ⟨by decide, by decide⟩) hS (fun H locs hP hS => ?_)
  refine lv_istore (lv' := [(4, .int v1), (3, .int 0), (0, .ref (ad γ 1)), (1, .int x1), (2, .int x2)]) hx hb dX3_hinderingAt_8 hl (by decide) rfl (fun ls hl => ?_)
  refine lv_iconst (v := 0) hx hb dX3_hinderingAt_10 (by decide) ?_
  refine lv_istore (lv' := [(5, .int 0), (4, .int v1), (3, .int 0), (0, .ref (ad γ 1)), (1, .int x1), (2, .int x2)]) hx hb dX3_hinderingAt_11 hl (by decide) rfl (fun ls hl => ?_)
  have L13 := it2_W (r3_hinderingAt_b13 T x1 x2 v1) (fun (x3_13 : Int32) (x5_13 : Int32) => ∀ (H : Heap) (locs : List Loc) (ls : Array Slot), va_P γ.1 vwCl (gw γ (T, P, X, Y, E, B, M, O)) H → va_S (gA γ s.heap.size) s.heap H locs → lv_has ls 6 [(0, .ref (ad γ 1)), (1, .int x1), (2, .int x2), (3, .int x3_13), (4, .int v1), (5, .int x5_13)] → W p l e (gR 1 0 0) s m args below meth c H locs 0 0 (MQ below (gQi γ r0 s.heap.size (T, P, X, Y, E, B, M, O)) args s 0 0 (gA γ s.heap.size)) (F0 m 13 ls [])) (fun (r_k : Int32) => (∀ (x3_x13 : Int32), r_k = x3_x13 → ∀ (H : Heap) (locs : List Loc) (ls : Array Slot), va_P γ.1 vwCl (gw γ (T, P, X, Y, E, B, M, O)) H → va_S (gA γ s.heap.size) s.heap H locs → lv_has ls 6 [(3, .int x3_x13)] → W p l e (gR 1 0 0) s m args below meth c H locs 0 0 (MQ below (gQi γ r0 s.heap.size (T, P, X, Y, E, B, M, O)) args s 0 0 (gA γ s.heap.size)) (F0 m 49 ls []))) (by
    intro x3_13 x5_13 o_13 h kS kR H locs ls hP hS hl
    unfold r3_hinderingAt_b13 at h
    refine lv_iload hx hb dX3_hinderingAt_13 (lv_at hl 5 rfl) ?_
    refine lv_bipush (v := 14) hx hb dX3_hinderingAt_15 (by decide) ?_
    refine lv_icmp_ge (tgt := 49) hx hb dX3_hinderingAt_17 (by decide) (fun c2 => ?_) (fun c2 => ?_)
    · rw [if_pos c2] at h
      cases h
      exact kR _ rfl _ rfl _ _ _ hP hS (lv_sub hl [3] rfl)
    · rw [if_neg c2] at h
      refine lv_aload_n hx hb dX3_hinderingAt_20 rfl (lv_at hl 0 rfl) ?_
      refine lv_iload hx hb dX3_hinderingAt_21 (lv_at hl 5 rfl) ?_
      refine lv_iload_n hx hb dX3_hinderingAt_23 rfl (lv_at hl 1 rfl) ?_
      refine lv_iload_n hx hb dX3_hinderingAt_24 rfl (lv_at hl 2 rfl) ?_
      refine lv_bipush (v := 6) hx hb dX3_hinderingAt_25 (by decide) ?_
      refine lv_irem hx hb dX3_hinderingAt_27 (by decide) ?_
      refine lv_iload hx hb dX3_hinderingAt_28 (lv_at hl 4 rfl) ?_
      obtain ⟨v3, hv, h⟩ := bd1_e h
      refine g_ki (g_runV (As := [.int x5_13, .int x1, .int (im x2 6), .int v1]) (rest := []) hC hP (c3_clashWith l hv) (by decide) ge_1 rfl u_2_64 yv_X3_clashWith (Nat.le_of_ble_eq_true rfl) rfl hl.1 rfl (Nat.le_of_ble_eq_true rfl) dX3_hinderingAt_30 ⟨by decide, by decide⟩) hS (fun H locs hP hS => ?_)
      refine lv_if_eq (tgt := 43) hx hb dX3_hinderingAt_33 (by decide) (fun c4 => ?_) (fun c4 => ?_)
      · rw [if_pos c4] at h
        refine lv_iinc (v := (x5_13 + 1)) (lv' := [(5, .int (x5_13 + 1)), (0, .ref (ad γ 1)), (1, .int x1), (2, .int x2), (3, .int x3_13), (4, .int v1)]) hx hb dX3_hinderingAt_43 hl (k := 5) rfl rfl (by decide) rfl (fun ls hl => ?_)
        refine lv_goto (tgt := 13) hx hb dX3_hinderingAt_46 (by decide) ?_
        cases h
        exact kS _ _ rfl _ _ _ hP hS (lv_sub hl [1, 2, 3, 4, 5, 0] rfl)
      · rw [if_neg c4] at h
        refine lv_iload_n hx hb dX3_hinderingAt_36 rfl (lv_at hl 3 rfl) ?_
        refine lv_iconst (v := 1) hx hb dX3_hinderingAt_37 (by decide) ?_
        refine lv_iload hx hb dX3_hinderingAt_38 (lv_at hl 5 rfl) ?_
        refine lv_ishl hx hb dX3_hinderingAt_40 ?_
        refine lv_ior hx hb dX3_hinderingAt_41 ?_
        obtain ⟨v5, hv, h⟩ := ob h
        refine lv_topi (fun y9 ey9 => ?_)
        obtain rfl : v5 = y9 := (Option.some.inj hv).symm.trans ey9.symm
        clear hv ey9
        refine lv_istore_n (lv' := [(3, .int v5), (0, .ref (ad γ 1)), (1, .int x1), (2, .int x2), (4, .int v1), (5, .int x5_13)]) hx hb dX3_hinderingAt_42 rfl hl (by decide) rfl (fun ls hl => ?_)
        refine lv_iinc (v := (x5_13 + 1)) (lv' := [(5, .int (x5_13 + 1)), (3, .int v5), (0, .ref (ad γ 1)), (1, .int x1), (2, .int x2), (4, .int v1)]) hx hb dX3_hinderingAt_43 hl (k := 5) rfl rfl (by decide) rfl (fun ls hl => ?_)
        refine lv_goto (tgt := 13) hx hb dX3_hinderingAt_46 (by decide) ?_
        cases h
        exact kS _ _ rfl _ _ _ hP hS (lv_sub hl [2, 3, 4, 1, 5, 0] rfl))
  obtain ⟨x3_x13, hv, h⟩ := bd1_e h
  refine L13 _ _ _ _ hv (fun q0 e9 H locs ls hP hS hl => ?_) _ _ _ hP hS (lv_sub hl [3, 4, 5, 2, 1, 0] rfl)
  obtain rfl := e9
  refine lv_iload_n hx hb dX3_hinderingAt_49 rfl (lv_at hl 0 rfl) ?_
  cases h
  exact g_iret hC hP hS dX3_hinderingAt_50 rfl
def r3_freePlace_b5 (T : OS) (x1 : Int32) (x2 : Int32) (x3_5 : Int32) (x4_5 : Int32) : Option ((Int32 × Int32) ⊕ ((Unit) ⊕ (Int32))) :=
  (if 60 ≤ x4_5 then some (.inr (.inl ()))
  else bd1 (r3_obstacleAt T x1 x4_5) (fun v2 =>
  (if v2 = 0 then (if x3_5 = x2 then some (.inr (.inr x4_5))
  else some (.inl ((x3_5 + 1), (x4_5 + 1))))
  else some (.inl (x3_5, (x4_5 + 1))))))
def r3_freePlace (T : OS) (x1 : Int32) (x2 : Int32) : Option Int32 :=
  bs0 (it2 (r3_freePlace_b5 T x1 x2) 200 0 0) (fun _ => some (-1)) (fun t5 => some t5)
theorem yv_X3_freePlace : gYV yX3_freePlace cX3_freePlace 5 (some .int) 2 := ⟨u_2_86, u_2_87, u_1_2, u_2_88, ⟨by decide +kernel, by decide +kernel, by decide +kernel⟩, by decide⟩
set_option maxHeartbeats 4000000 in
set_option maxRecDepth 100000 in
theorem c3_freePlace (l : Launch) {γ : GA} {sz : Nat} {T P X Y B M : OS} {E : Nat → OS} {O : Nat → Int64} {x1 : Int32} {x2 : Int32} {r0 : Int32} (h : r3_freePlace T x1 x2 = some r0) : Met l yX3_freePlace (gU yX3_freePlace cX3_freePlace 5 (some .int)) (gR 3 0 0) (gPc γ [.ref (ad γ 1), .int x1, .int x2] sz (T, P, X, Y, E, B, M, O)) (gQi γ r0 sz (T, P, X, Y, E, B, M, O)) 0 0 (gA γ sz) := by
  refine g_met (fun sz => gQi γ r0 sz (T, P, X, Y, E, B, M, O)) (by decide) (Nat.le_of_ble_eq_true rfl) ?_
  intro p e s m args below meth c ls hC hP hS hl
  have hx := hC.x
  have hb := hC.b
  have hl : lv_has ls 5 [(0, .ref (ad γ 1)), (1, .int x1), (2, .int x2)] := hl
  unfold r3_freePlace at h
  refine lv_iconst (v := 0) hx hb dX3_freePlace_0 (by decide) ?_
  refine lv_istore_n (lv' := [(3, .int 0), (0, .ref (ad γ 1)), (1, .int x1), (2, .int x2)]) hx hb dX3_freePlace_1 rfl hl (by decide) rfl (fun ls hl => ?_)
  refine lv_iconst (v := 0) hx hb dX3_freePlace_2 (by decide) ?_
  refine lv_istore (lv' := [(4, .int 0), (3, .int 0), (0, .ref (ad γ 1)), (1, .int x1), (2, .int x2)]) hx hb dX3_freePlace_3 hl (by decide) rfl (fun ls hl => ?_)
  have L5 := it2_W (r3_freePlace_b5 T x1 x2) (fun (x3_5 : Int32) (x4_5 : Int32) => ∀ (H : Heap) (locs : List Loc) (ls : Array Slot), va_P γ.1 vwCl (gw γ (T, P, X, Y, E, B, M, O)) H → va_S (gA γ s.heap.size) s.heap H locs → lv_has ls 5 [(0, .ref (ad γ 1)), (1, .int x1), (2, .int x2), (3, .int x3_5), (4, .int x4_5)] → W p l e (gR 3 0 0) s m args below meth c H locs 0 0 (MQ below (gQi γ r0 s.heap.size (T, P, X, Y, E, B, M, O)) args s 0 0 (gA γ s.heap.size)) (F0 m 5 ls [])) (fun (r_k : (Unit) ⊕ (Int32)) => (r_k = .inl () → ∀ (H : Heap) (locs : List Loc) (ls : Array Slot), va_P γ.1 vwCl (gw γ (T, P, X, Y, E, B, M, O)) H → va_S (gA γ s.heap.size) s.heap H locs → lv_has ls 5 [] → W p l e (gR 3 0 0) s m args below meth c H locs 0 0 (MQ below (gQi γ r0 s.heap.size (T, P, X, Y, E, B, M, O)) args s 0 0 (gA γ s.heap.size)) (F0 m 39 ls [])) ∧ (∀ t_k, r_k = .inr t_k → t_k = r0)) (by
    intro x3_5 x4_5 o_5 h kS kR H locs ls hP hS hl
    unfold r3_freePlace_b5 at h
    refine lv_iload hx hb dX3_freePlace_5 (lv_at hl 4 rfl) ?_
    refine lv_bipush (v := 60) hx hb dX3_freePlace_7 (by decide) ?_
    refine lv_icmp_ge (tgt := 39) hx hb dX3_freePlace_9 (by decide) (fun c1 => ?_) (fun c1 => ?_)
    · rw [if_pos c1] at h
      cases h
      exact (kR _ rfl).1  rfl _ _ _ hP hS (lv_sub hl [] rfl)
    · rw [if_neg c1] at h
      refine lv_aload_n hx hb dX3_freePlace_12 rfl (lv_at hl 0 rfl) ?_
      refine lv_iload_n hx hb dX3_freePlace_13 rfl (lv_at hl 1 rfl) ?_
      refine lv_iload hx hb dX3_freePlace_14 (lv_at hl 4 rfl) ?_
      obtain ⟨v2, hv, h⟩ := bd1_e h
      refine g_ki (g_runV (As := [.int x1, .int x4_5]) (rest := []) hC hP (c3_obstacleAt l hv) (by decide) ge_1 rfl u_2_89 yv_X3_obstacleAt (Nat.le_of_ble_eq_true rfl) rfl hl.1 rfl (Nat.le_of_ble_eq_true rfl) dX3_freePlace_16 ⟨by decide, by decide⟩) hS (fun H locs hP hS => ?_)
      refine lv_if_ne (tgt := 33) hx hb dX3_freePlace_19 (by decide) (fun c3 => ?_) (fun c3 => ?_)
      · rw [if_neg c3] at h
        refine lv_iinc (v := (x4_5 + 1)) (lv' := [(4, .int (x4_5 + 1)), (0, .ref (ad γ 1)), (1, .int x1), (2, .int x2), (3, .int x3_5)]) hx hb dX3_freePlace_33 hl (k := 4) rfl rfl (by decide) rfl (fun ls hl => ?_)
        refine lv_goto (tgt := 5) hx hb dX3_freePlace_36 (by decide) ?_
        cases h
        exact kS _ _ rfl _ _ _ hP hS (lv_sub hl [1, 2, 3, 4, 0] rfl)
      · rw [if_pos c3] at h
        refine lv_iload_n hx hb dX3_freePlace_22 rfl (lv_at hl 3 rfl) ?_
        refine lv_iload_n hx hb dX3_freePlace_23 rfl (lv_at hl 2 rfl) ?_
        refine lv_icmp_ne (tgt := 30) hx hb dX3_freePlace_24 (by decide) (fun c4 => ?_) (fun c4 => ?_)
        · rw [if_neg c4] at h
          refine lv_iinc (v := (x3_5 + 1)) (lv' := [(3, .int (x3_5 + 1)), (0, .ref (ad γ 1)), (1, .int x1), (2, .int x2), (4, .int x4_5)]) hx hb dX3_freePlace_30 hl (k := 3) rfl rfl (by decide) rfl (fun ls hl => ?_)
          refine lv_iinc (v := (x4_5 + 1)) (lv' := [(4, .int (x4_5 + 1)), (3, .int (x3_5 + 1)), (0, .ref (ad γ 1)), (1, .int x1), (2, .int x2)]) hx hb dX3_freePlace_33 hl (k := 4) rfl rfl (by decide) rfl (fun ls hl => ?_)
          refine lv_goto (tgt := 5) hx hb dX3_freePlace_36 (by decide) ?_
          cases h
          exact kS _ _ rfl _ _ _ hP hS (lv_sub hl [2, 3, 4, 1, 0] rfl)
        · rw [if_pos c4] at h
          refine lv_iload hx hb dX3_freePlace_27 (lv_at hl 4 rfl) ?_
          cases h
          cases (kR _ rfl).2 _ rfl
          exact g_iret hC hP hS dX3_freePlace_29 rfl)
  rcases bs0_e h with ⟨hv, h⟩ | ⟨t5, hv, h⟩
  · refine L5 _ _ _ _ hv ⟨fun e9 H locs ls hP hS hl => ?_, fun t9 e9 => nomatch e9⟩ _ _ _ hP hS (lv_sub hl [2, 3, 4, 1, 0] rfl)
    skip
    refine lv_iconst (v := -1) hx hb dX3_freePlace_39 (by decide) ?_
    cases h
    exact g_iret hC hP hS dX3_freePlace_40 rfl
  · refine L5 _ _ _ _ hv ⟨fun e9 => (nomatch e9), fun t9 e9 => ?_⟩ _ _ _ hP hS (lv_sub hl [2, 3, 4, 1, 0] rfl)
    cases e9
    exact Option.some.inj h
def r3_suitablePlaces_b4 (T : OS) (x1 : Int32) (x2_4 : Int32) (x3_4 : Int32) : Option ((Int32 × Int32) ⊕ (Int32)) :=
  (if 60 ≤ x3_4 then some (.inr x2_4)
  else bd1 (r3_unsuitableAt T x1 x3_4) (fun v2 =>
  (if v2 = 0 then some (.inl ((x2_4 + 1), (x3_4 + 1)))
  else some (.inl (x2_4, (x3_4 + 1))))))
def r3_suitablePlaces (T : OS) (x1 : Int32) : Option Int32 :=
  bd1 (it2 (r3_suitablePlaces_b4 T x1) 200 0 0) (fun x2_x4 => some x2_x4)
theorem yv_X3_suitablePlaces : gYV yX3_suitablePlaces cX3_suitablePlaces 4 (some .int) 1 := ⟨u_2_14, u_2_15, u_1_2, u_2_16, ⟨by decide +kernel, by decide +kernel, by decide +kernel⟩, by decide⟩
set_option maxHeartbeats 4000000 in
set_option maxRecDepth 100000 in
theorem c3_suitablePlaces (l : Launch) {γ : GA} {sz : Nat} {T P X Y B M : OS} {E : Nat → OS} {O : Nat → Int64} {x1 : Int32} {r0 : Int32} (h : r3_suitablePlaces T x1 = some r0) : Met l yX3_suitablePlaces (gU yX3_suitablePlaces cX3_suitablePlaces 4 (some .int)) (gR 2 0 0) (gPc γ [.ref (ad γ 1), .int x1] sz (T, P, X, Y, E, B, M, O)) (gQi γ r0 sz (T, P, X, Y, E, B, M, O)) 0 0 (gA γ sz) := by
  refine g_met (fun sz => gQi γ r0 sz (T, P, X, Y, E, B, M, O)) (by decide) (Nat.le_of_ble_eq_true rfl) ?_
  intro p e s m args below meth c ls hC hP hS hl
  have hx := hC.x
  have hb := hC.b
  have hl : lv_has ls 4 [(0, .ref (ad γ 1)), (1, .int x1)] := hl
  unfold r3_suitablePlaces at h
  refine lv_iconst (v := 0) hx hb dX3_suitablePlaces_0 (by decide) ?_
  refine lv_istore_n (lv' := [(2, .int 0), (0, .ref (ad γ 1)), (1, .int x1)]) hx hb dX3_suitablePlaces_1 rfl hl (by decide) rfl (fun ls hl => ?_)
  refine lv_iconst (v := 0) hx hb dX3_suitablePlaces_2 (by decide) ?_
  refine lv_istore_n (lv' := [(3, .int 0), (2, .int 0), (0, .ref (ad γ 1)), (1, .int x1)]) hx hb dX3_suitablePlaces_3 rfl hl (by decide) rfl (fun ls hl => ?_)
  have L4 := it2_W (r3_suitablePlaces_b4 T x1) (fun (x2_4 : Int32) (x3_4 : Int32) => ∀ (H : Heap) (locs : List Loc) (ls : Array Slot), va_P γ.1 vwCl (gw γ (T, P, X, Y, E, B, M, O)) H → va_S (gA γ s.heap.size) s.heap H locs → lv_has ls 4 [(0, .ref (ad γ 1)), (1, .int x1), (2, .int x2_4), (3, .int x3_4)] → W p l e (gR 2 0 0) s m args below meth c H locs 0 0 (MQ below (gQi γ r0 s.heap.size (T, P, X, Y, E, B, M, O)) args s 0 0 (gA γ s.heap.size)) (F0 m 4 ls [])) (fun (r_k : Int32) => (∀ (x2_x4 : Int32), r_k = x2_x4 → ∀ (H : Heap) (locs : List Loc) (ls : Array Slot), va_P γ.1 vwCl (gw γ (T, P, X, Y, E, B, M, O)) H → va_S (gA γ s.heap.size) s.heap H locs → lv_has ls 4 [(2, .int x2_x4)] → W p l e (gR 2 0 0) s m args below meth c H locs 0 0 (MQ below (gQi γ r0 s.heap.size (T, P, X, Y, E, B, M, O)) args s 0 0 (gA γ s.heap.size)) (F0 m 28 ls []))) (by
    intro x2_4 x3_4 o_4 h kS kR H locs ls hP hS hl
    unfold r3_suitablePlaces_b4 at h
    refine lv_iload_n hx hb dX3_suitablePlaces_4 rfl (lv_at hl 3 rfl) ?_
    refine lv_bipush (v := 60) hx hb dX3_suitablePlaces_5 (by decide) ?_
    refine lv_icmp_ge (tgt := 28) hx hb dX3_suitablePlaces_7 (by decide) (fun c1 => ?_) (fun c1 => ?_)
    · rw [if_pos c1] at h
      cases h
      exact kR _ rfl _ rfl _ _ _ hP hS (lv_sub hl [2] rfl)
    · rw [if_neg c1] at h
      refine lv_aload_n hx hb dX3_suitablePlaces_10 rfl (lv_at hl 0 rfl) ?_
      refine lv_iload_n hx hb dX3_suitablePlaces_11 rfl (lv_at hl 1 rfl) ?_
      refine lv_iload_n hx hb dX3_suitablePlaces_12 rfl (lv_at hl 3 rfl) ?_
      obtain ⟨v2, hv, h⟩ := bd1_e h
      refine g_ki (g_runV (As := [.int x1, .int x3_4]) (rest := []) hC hP (c3_unsuitableAt l hv) (by decide) ge_1 rfl u_2_17 yv_X3_unsuitableAt (Nat.le_of_ble_eq_true rfl) rfl hl.1 rfl (Nat.le_of_ble_eq_true rfl) dX3_suitablePlaces_13 ⟨by decide, by decide⟩) hS (fun H locs hP hS => ?_)
      refine lv_if_ne (tgt := 22) hx hb dX3_suitablePlaces_16 (by decide) (fun c3 => ?_) (fun c3 => ?_)
      · rw [if_neg c3] at h
        refine lv_iinc (v := (x3_4 + 1)) (lv' := [(3, .int (x3_4 + 1)), (0, .ref (ad γ 1)), (1, .int x1), (2, .int x2_4)]) hx hb dX3_suitablePlaces_22 hl (k := 3) rfl rfl (by decide) rfl (fun ls hl => ?_)
        refine lv_goto (tgt := 4) hx hb dX3_suitablePlaces_25 (by decide) ?_
        cases h
        exact kS _ _ rfl _ _ _ hP hS (lv_sub hl [1, 2, 3, 0] rfl)
      · rw [if_pos c3] at h
        refine lv_iinc (v := (x2_4 + 1)) (lv' := [(2, .int (x2_4 + 1)), (0, .ref (ad γ 1)), (1, .int x1), (3, .int x3_4)]) hx hb dX3_suitablePlaces_19 hl (k := 2) rfl rfl (by decide) rfl (fun ls hl => ?_)
        refine lv_iinc (v := (x3_4 + 1)) (lv' := [(3, .int (x3_4 + 1)), (2, .int (x2_4 + 1)), (0, .ref (ad γ 1)), (1, .int x1)]) hx hb dX3_suitablePlaces_22 hl (k := 3) rfl rfl (by decide) rfl (fun ls hl => ?_)
        refine lv_goto (tgt := 4) hx hb dX3_suitablePlaces_25 (by decide) ?_
        cases h
        exact kS _ _ rfl _ _ _ hP hS (lv_sub hl [2, 3, 1, 0] rfl))
  obtain ⟨x2_x4, hv, h⟩ := bd1_e h
  refine L4 _ _ _ _ hv (fun q0 e9 H locs ls hP hS hl => ?_) _ _ _ hP hS (lv_sub hl [2, 3, 1, 0] rfl)
  obtain rfl := e9
  refine lv_iload_n hx hb dX3_suitablePlaces_28 rfl (lv_at hl 0 rfl) ?_
  cases h
  exact g_iret hC hP hS dX3_suitablePlaces_29 rfl
def r3_eventIn_b2 (T : OS) (x1 : Int32) (x2 : Int32) (x3_2 : Int32) : Option ((Int32) ⊕ ((Unit) ⊕ (Int32))) :=
  (if 14 ≤ x3_2 then some (.inr (.inl ()))
  else (rd 14 (T 10) x3_2).bind fun v2 =>
  bd1 (r4_contains v2 x1) (fun v3 =>
  (if v3 = 0 then some (.inl (x3_2 + 1))
  else (rd 14 (T 9) x3_2).bind fun v5 =>
  (if (im v5 6) = x2 then some (.inr (.inr x3_2))
  else some (.inl (x3_2 + 1))))))
def r3_eventIn (T : OS) (x1 : Int32) (x2 : Int32) : Option Int32 :=
  bs0 (it1 (r3_eventIn_b2 T x1 x2) 200 0) (fun _ => some (-1)) (fun t7 => some t7)
theorem yv_X3_eventIn : gYV yX3_eventIn cX3_eventIn 4 (some .int) 2 := ⟨u_4_194, u_4_195, u_1_2, u_4_196, ⟨by decide +kernel, by decide +kernel, by decide +kernel⟩, by decide⟩
set_option maxHeartbeats 4000000 in
set_option maxRecDepth 100000 in
theorem c3_eventIn (l : Launch) {γ : GA} {sz : Nat} {T P X Y B M : OS} {E : Nat → OS} {O : Nat → Int64} {x1 : Int32} {x2 : Int32} {r0 : Int32} (h : r3_eventIn T x1 x2 = some r0) : Met l yX3_eventIn (gU yX3_eventIn cX3_eventIn 4 (some .int)) (gR 1 0 0) (gPc γ [.ref (ad γ 1), .int x1, .int x2] sz (T, P, X, Y, E, B, M, O)) (gQi γ r0 sz (T, P, X, Y, E, B, M, O)) 0 0 (gA γ sz) := by
  refine g_met (fun sz => gQi γ r0 sz (T, P, X, Y, E, B, M, O)) (by decide) (Nat.le_of_ble_eq_true rfl) ?_
  intro p e s m args below meth c ls hC hP hS hl
  have hx := hC.x
  have hb := hC.b
  have hl : lv_has ls 4 [(0, .ref (ad γ 1)), (1, .int x1), (2, .int x2)] := hl
  unfold r3_eventIn at h
  refine lv_iconst (v := 0) hx hb dX3_eventIn_0 (by decide) ?_
  refine lv_istore_n (lv' := [(3, .int 0), (0, .ref (ad γ 1)), (1, .int x1), (2, .int x2)]) hx hb dX3_eventIn_1 rfl hl (by decide) rfl (fun ls hl => ?_)
  have L2 := it1_W (r3_eventIn_b2 T x1 x2) (fun (x3_2 : Int32) => ∀ (H : Heap) (locs : List Loc) (ls : Array Slot), va_P γ.1 vwCl (gw γ (T, P, X, Y, E, B, M, O)) H → va_S (gA γ s.heap.size) s.heap H locs → lv_has ls 4 [(0, .ref (ad γ 1)), (1, .int x1), (2, .int x2), (3, .int x3_2)] → W p l e (gR 1 0 0) s m args below meth c H locs 0 0 (MQ below (gQi γ r0 s.heap.size (T, P, X, Y, E, B, M, O)) args s 0 0 (gA γ s.heap.size)) (F0 m 2 ls [])) (fun (r_k : (Unit) ⊕ (Int32)) => (r_k = .inl () → ∀ (H : Heap) (locs : List Loc) (ls : Array Slot), va_P γ.1 vwCl (gw γ (T, P, X, Y, E, B, M, O)) H → va_S (gA γ s.heap.size) s.heap H locs → lv_has ls 4 [] → W p l e (gR 1 0 0) s m args below meth c H locs 0 0 (MQ below (gQi γ r0 s.heap.size (T, P, X, Y, E, B, M, O)) args s 0 0 (gA γ s.heap.size)) (F0 m 42 ls [])) ∧ (∀ t_k, r_k = .inr t_k → t_k = r0)) (by
    intro x3_2 o_2 h kS kR H locs ls hP hS hl
    unfold r3_eventIn_b2 at h
    refine lv_iload_n hx hb dX3_eventIn_2 rfl (lv_at hl 3 rfl) ?_
    refine lv_bipush (v := 14) hx hb dX3_eventIn_3 (by decide) ?_
    refine lv_icmp_ge (tgt := 42) hx hb dX3_eventIn_5 (by decide) (fun c1 => ?_) (fun c1 => ?_)
    · rw [if_pos c1] at h
      cases h
      exact (kR _ rfl).1  rfl _ _ _ hP hS (lv_sub hl [] rfl)
    · rw [if_neg c1] at h
      refine lv_aload_n hx hb dX3_eventIn_8 rfl (lv_at hl 0 rfl) ?_
      refine g_get hC hP 10 dX3_eventIn_9 (by decide) ge_1 rfl inX3 (by decide) rfl u_1_69 ?_
      refine lv_iload_n hx hb dX3_eventIn_12 rfl (lv_at hl 3 rfl) ?_
      obtain ⟨v2, hv, h⟩ := ob h
      refine g_ld hC hP dX3_eventIn_13 (by decide) ge_12 hv ?_
      refine lv_iload_n hx hb dX3_eventIn_14 rfl (lv_at hl 1 rfl) ?_
      obtain ⟨v3, hv, h⟩ := bd1_e h
      refine g_ki (g_runN (As := [.int v2, .int x1]) (rest := []) hC hP (c4_contains l hv) (List.mem_cons_of_mem _ List.mem_cons_self) yv_X4_contains (Nat.le_of_ble_eq_true rfl) rfl hl.1 rfl (Nat.le_of_ble_eq_true rfl) dX3_eventIn_15 ⟨by decide, by decide⟩) hS (fun H locs hP hS => ?_)
      refine lv_if_eq (tgt := 36) hx hb dX3_eventIn_18 (by decide) (fun c4 => ?_) (fun c4 => ?_)
      · rw [if_pos c4] at h
        refine lv_iinc (v := (x3_2 + 1)) (lv' := [(3, .int (x3_2 + 1)), (0, .ref (ad γ 1)), (1, .int x1), (2, .int x2)]) hx hb dX3_eventIn_36 hl (k := 3) rfl rfl (by decide) rfl (fun ls hl => ?_)
        refine lv_goto (tgt := 2) hx hb dX3_eventIn_39 (by decide) ?_
        cases h
        exact kS _ rfl _ _ _ hP hS (lv_sub hl [1, 2, 3, 0] rfl)
      · rw [if_neg c4] at h
        refine lv_aload_n hx hb dX3_eventIn_21 rfl (lv_at hl 0 rfl) ?_
        refine g_get hC hP 9 dX3_eventIn_22 (by decide) ge_1 rfl inX3 (by decide) rfl u_1_66 ?_
        refine lv_iload_n hx hb dX3_eventIn_25 rfl (lv_at hl 3 rfl) ?_
        obtain ⟨v5, hv, h⟩ := ob h
        refine g_ld hC hP dX3_eventIn_26 (by decide) ge_11 hv ?_
        refine lv_bipush (v := 6) hx hb dX3_eventIn_27 (by decide) ?_
        refine lv_irem hx hb dX3_eventIn_29 (by decide) ?_
        refine lv_iload_n hx hb dX3_eventIn_30 rfl (lv_at hl 2 rfl) ?_
        refine lv_icmp_ne (tgt := 36) hx hb dX3_eventIn_31 (by decide) (fun c6 => ?_) (fun c6 => ?_)
        · rw [if_neg c6] at h
          refine lv_iinc (v := (x3_2 + 1)) (lv' := [(3, .int (x3_2 + 1)), (0, .ref (ad γ 1)), (1, .int x1), (2, .int x2)]) hx hb dX3_eventIn_36 hl (k := 3) rfl rfl (by decide) rfl (fun ls hl => ?_)
          refine lv_goto (tgt := 2) hx hb dX3_eventIn_39 (by decide) ?_
          cases h
          exact kS _ rfl _ _ _ hP hS (lv_sub hl [1, 2, 3, 0] rfl)
        · rw [if_pos c6] at h
          refine lv_iload_n hx hb dX3_eventIn_34 rfl (lv_at hl 3 rfl) ?_
          cases h
          cases (kR _ rfl).2 _ rfl
          exact g_iret hC hP hS dX3_eventIn_35 rfl)
  rcases bs0_e h with ⟨hv, h⟩ | ⟨t7, hv, h⟩
  · refine L2 _ _ _ hv ⟨fun e9 H locs ls hP hS hl => ?_, fun t9 e9 => nomatch e9⟩ _ _ _ hP hS (lv_sub hl [1, 2, 3, 0] rfl)
    skip
    refine lv_iconst (v := -1) hx hb dX3_eventIn_42 (by decide) ?_
    cases h
    exact g_iret hC hP hS dX3_eventIn_43 rfl
  · refine L2 _ _ _ hv ⟨fun e9 => (nomatch e9), fun t9 e9 => ?_⟩ _ _ _ hP hS (lv_sub hl [1, 2, 3, 0] rfl)
    cases e9
    exact Option.some.inj h
def r3_slotsOfTeacher_b4 (T : OS) (x1 : Int32) (x2_4 : Int32) (x3_4 : Int32) : Option ((Int32 × Int32) ⊕ (Int32)) :=
  (if 14 ≤ x3_4 then some (.inr x2_4)
  else (rd 14 (T 5) x3_4).bind fun v2 =>
  (if v2 = x1 then (rd 14 (T 10) x3_4).bind fun v4 =>
  some (.inl ((x2_4 ||| v4), (x3_4 + 1)))
  else some (.inl (x2_4, (x3_4 + 1)))))
def r3_slotsOfTeacher (T : OS) (x1 : Int32) : Option Int32 :=
  bd1 (it2 (r3_slotsOfTeacher_b4 T x1) 200 0 0) (fun x2_x4 => some x2_x4)
theorem yv_X3_slotsOfTeacher : gYV yX3_slotsOfTeacher cX3_slotsOfTeacher 4 (some .int) 1 := ⟨u_4_206, u_4_207, u_1_2, u_4_208, ⟨by decide +kernel, by decide +kernel, by decide +kernel⟩, by decide⟩
set_option maxHeartbeats 4000000 in
set_option maxRecDepth 100000 in
theorem c3_slotsOfTeacher (l : Launch) {γ : GA} {sz : Nat} {T P X Y B M : OS} {E : Nat → OS} {O : Nat → Int64} {x1 : Int32} {r0 : Int32} (h : r3_slotsOfTeacher T x1 = some r0) : Met l yX3_slotsOfTeacher (gU yX3_slotsOfTeacher cX3_slotsOfTeacher 4 (some .int)) (gR 0 0 0) (gPc γ [.ref (ad γ 1), .int x1] sz (T, P, X, Y, E, B, M, O)) (gQi γ r0 sz (T, P, X, Y, E, B, M, O)) 0 0 (gA γ sz) := by
  refine g_met (fun sz => gQi γ r0 sz (T, P, X, Y, E, B, M, O)) (by decide) (Nat.le_of_ble_eq_true rfl) ?_
  intro p e s m args below meth c ls hC hP hS hl
  have hx := hC.x
  have hb := hC.b
  have hl : lv_has ls 4 [(0, .ref (ad γ 1)), (1, .int x1)] := hl
  unfold r3_slotsOfTeacher at h
  refine lv_iconst (v := 0) hx hb dX3_slotsOfTeacher_0 (by decide) ?_
  refine lv_istore_n (lv' := [(2, .int 0), (0, .ref (ad γ 1)), (1, .int x1)]) hx hb dX3_slotsOfTeacher_1 rfl hl (by decide) rfl (fun ls hl => ?_)
  refine lv_iconst (v := 0) hx hb dX3_slotsOfTeacher_2 (by decide) ?_
  refine lv_istore_n (lv' := [(3, .int 0), (2, .int 0), (0, .ref (ad γ 1)), (1, .int x1)]) hx hb dX3_slotsOfTeacher_3 rfl hl (by decide) rfl (fun ls hl => ?_)
  have L4 := it2_W (r3_slotsOfTeacher_b4 T x1) (fun (x2_4 : Int32) (x3_4 : Int32) => ∀ (H : Heap) (locs : List Loc) (ls : Array Slot), va_P γ.1 vwCl (gw γ (T, P, X, Y, E, B, M, O)) H → va_S (gA γ s.heap.size) s.heap H locs → lv_has ls 4 [(0, .ref (ad γ 1)), (1, .int x1), (2, .int x2_4), (3, .int x3_4)] → W p l e (gR 0 0 0) s m args below meth c H locs 0 0 (MQ below (gQi γ r0 s.heap.size (T, P, X, Y, E, B, M, O)) args s 0 0 (gA γ s.heap.size)) (F0 m 4 ls [])) (fun (r_k : Int32) => (∀ (x2_x4 : Int32), r_k = x2_x4 → ∀ (H : Heap) (locs : List Loc) (ls : Array Slot), va_P γ.1 vwCl (gw γ (T, P, X, Y, E, B, M, O)) H → va_S (gA γ s.heap.size) s.heap H locs → lv_has ls 4 [(2, .int x2_x4)] → W p l e (gR 0 0 0) s m args below meth c H locs 0 0 (MQ below (gQi γ r0 s.heap.size (T, P, X, Y, E, B, M, O)) args s 0 0 (gA γ s.heap.size)) (F0 m 35 ls []))) (by
    intro x2_4 x3_4 o_4 h kS kR H locs ls hP hS hl
    unfold r3_slotsOfTeacher_b4 at h
    refine lv_iload_n hx hb dX3_slotsOfTeacher_4 rfl (lv_at hl 3 rfl) ?_
    refine lv_bipush (v := 14) hx hb dX3_slotsOfTeacher_5 (by decide) ?_
    refine lv_icmp_ge (tgt := 35) hx hb dX3_slotsOfTeacher_7 (by decide) (fun c1 => ?_) (fun c1 => ?_)
    · rw [if_pos c1] at h
      cases h
      exact kR _ rfl _ rfl _ _ _ hP hS (lv_sub hl [2] rfl)
    · rw [if_neg c1] at h
      refine lv_aload_n hx hb dX3_slotsOfTeacher_10 rfl (lv_at hl 0 rfl) ?_
      refine g_get hC hP 5 dX3_slotsOfTeacher_11 (by decide) ge_1 rfl inX3 (by decide) rfl u_1_55 ?_
      refine lv_iload_n hx hb dX3_slotsOfTeacher_14 rfl (lv_at hl 3 rfl) ?_
      obtain ⟨v2, hv, h⟩ := ob h
      refine g_ld hC hP dX3_slotsOfTeacher_15 (by decide) ge_7 hv ?_
      refine lv_iload_n hx hb dX3_slotsOfTeacher_16 rfl (lv_at hl 1 rfl) ?_
      refine lv_icmp_ne (tgt := 29) hx hb dX3_slotsOfTeacher_17 (by decide) (fun c3 => ?_) (fun c3 => ?_)
      · rw [if_neg c3] at h
        refine lv_iinc (v := (x3_4 + 1)) (lv' := [(3, .int (x3_4 + 1)), (0, .ref (ad γ 1)), (1, .int x1), (2, .int x2_4)]) hx hb dX3_slotsOfTeacher_29 hl (k := 3) rfl rfl (by decide) rfl (fun ls hl => ?_)
        refine lv_goto (tgt := 4) hx hb dX3_slotsOfTeacher_32 (by decide) ?_
        cases h
        exact kS _ _ rfl _ _ _ hP hS (lv_sub hl [1, 2, 3, 0] rfl)
      · rw [if_pos c3] at h
        refine lv_iload_n hx hb dX3_slotsOfTeacher_20 rfl (lv_at hl 2 rfl) ?_
        refine lv_aload_n hx hb dX3_slotsOfTeacher_21 rfl (lv_at hl 0 rfl) ?_
        refine g_get hC hP 10 dX3_slotsOfTeacher_22 (by decide) ge_1 rfl inX3 (by decide) rfl u_1_69 ?_
        refine lv_iload_n hx hb dX3_slotsOfTeacher_25 rfl (lv_at hl 3 rfl) ?_
        obtain ⟨v4, hv, h⟩ := ob h
        refine g_ld hC hP dX3_slotsOfTeacher_26 (by decide) ge_12 hv ?_
        refine lv_ior hx hb dX3_slotsOfTeacher_27 ?_
        refine lv_istore_n (lv' := [(2, .int (x2_4 ||| v4)), (0, .ref (ad γ 1)), (1, .int x1), (3, .int x3_4)]) hx hb dX3_slotsOfTeacher_28 rfl hl (by decide) rfl (fun ls hl => ?_)
        refine lv_iinc (v := (x3_4 + 1)) (lv' := [(3, .int (x3_4 + 1)), (2, .int (x2_4 ||| v4)), (0, .ref (ad γ 1)), (1, .int x1)]) hx hb dX3_slotsOfTeacher_29 hl (k := 3) rfl rfl (by decide) rfl (fun ls hl => ?_)
        refine lv_goto (tgt := 4) hx hb dX3_slotsOfTeacher_32 (by decide) ?_
        cases h
        exact kS _ _ rfl _ _ _ hP hS (lv_sub hl [2, 3, 1, 0] rfl))
  obtain ⟨x2_x4, hv, h⟩ := bd1_e h
  refine L4 _ _ _ _ hv (fun q0 e9 H locs ls hP hS hl => ?_) _ _ _ hP hS (lv_sub hl [2, 3, 1, 0] rfl)
  obtain rfl := e9
  refine lv_iload_n hx hb dX3_slotsOfTeacher_35 rfl (lv_at hl 0 rfl) ?_
  cases h
  exact g_iret hC hP hS dX3_slotsOfTeacher_36 rfl
def r3_slotsOfGroup_b4 (T : OS) (x1 : Int32) (x2_4 : Int32) (x3_4 : Int32) : Option ((Int32 × Int32) ⊕ (Int32)) :=
  (if 14 ≤ x3_4 then some (.inr x2_4)
  else (rd 14 (T 6) x3_4).bind fun v2 =>
  bd1 (r4_contains v2 x1) (fun v3 =>
  (if v3 = 0 then some (.inl (x2_4, (x3_4 + 1)))
  else (rd 14 (T 10) x3_4).bind fun v5 =>
  some (.inl ((x2_4 ||| v5), (x3_4 + 1))))))
def r3_slotsOfGroup (T : OS) (x1 : Int32) : Option Int32 :=
  bd1 (it2 (r3_slotsOfGroup_b4 T x1) 200 0 0) (fun x2_x4 => some x2_x4)
theorem yv_X3_slotsOfGroup : gYV yX3_slotsOfGroup cX3_slotsOfGroup 4 (some .int) 1 := ⟨u_4_210, u_4_211, u_1_2, u_4_212, ⟨by decide +kernel, by decide +kernel, by decide +kernel⟩, by decide⟩
set_option maxHeartbeats 4000000 in
set_option maxRecDepth 100000 in
theorem c3_slotsOfGroup (l : Launch) {γ : GA} {sz : Nat} {T P X Y B M : OS} {E : Nat → OS} {O : Nat → Int64} {x1 : Int32} {r0 : Int32} (h : r3_slotsOfGroup T x1 = some r0) : Met l yX3_slotsOfGroup (gU yX3_slotsOfGroup cX3_slotsOfGroup 4 (some .int)) (gR 1 0 0) (gPc γ [.ref (ad γ 1), .int x1] sz (T, P, X, Y, E, B, M, O)) (gQi γ r0 sz (T, P, X, Y, E, B, M, O)) 0 0 (gA γ sz) := by
  refine g_met (fun sz => gQi γ r0 sz (T, P, X, Y, E, B, M, O)) (by decide) (Nat.le_of_ble_eq_true rfl) ?_
  intro p e s m args below meth c ls hC hP hS hl
  have hx := hC.x
  have hb := hC.b
  have hl : lv_has ls 4 [(0, .ref (ad γ 1)), (1, .int x1)] := hl
  unfold r3_slotsOfGroup at h
  refine lv_iconst (v := 0) hx hb dX3_slotsOfGroup_0 (by decide) ?_
  refine lv_istore_n (lv' := [(2, .int 0), (0, .ref (ad γ 1)), (1, .int x1)]) hx hb dX3_slotsOfGroup_1 rfl hl (by decide) rfl (fun ls hl => ?_)
  refine lv_iconst (v := 0) hx hb dX3_slotsOfGroup_2 (by decide) ?_
  refine lv_istore_n (lv' := [(3, .int 0), (2, .int 0), (0, .ref (ad γ 1)), (1, .int x1)]) hx hb dX3_slotsOfGroup_3 rfl hl (by decide) rfl (fun ls hl => ?_)
  have L4 := it2_W (r3_slotsOfGroup_b4 T x1) (fun (x2_4 : Int32) (x3_4 : Int32) => ∀ (H : Heap) (locs : List Loc) (ls : Array Slot), va_P γ.1 vwCl (gw γ (T, P, X, Y, E, B, M, O)) H → va_S (gA γ s.heap.size) s.heap H locs → lv_has ls 4 [(0, .ref (ad γ 1)), (1, .int x1), (2, .int x2_4), (3, .int x3_4)] → W p l e (gR 1 0 0) s m args below meth c H locs 0 0 (MQ below (gQi γ r0 s.heap.size (T, P, X, Y, E, B, M, O)) args s 0 0 (gA γ s.heap.size)) (F0 m 4 ls [])) (fun (r_k : Int32) => (∀ (x2_x4 : Int32), r_k = x2_x4 → ∀ (H : Heap) (locs : List Loc) (ls : Array Slot), va_P γ.1 vwCl (gw γ (T, P, X, Y, E, B, M, O)) H → va_S (gA γ s.heap.size) s.heap H locs → lv_has ls 4 [(2, .int x2_x4)] → W p l e (gR 1 0 0) s m args below meth c H locs 0 0 (MQ below (gQi γ r0 s.heap.size (T, P, X, Y, E, B, M, O)) args s 0 0 (gA γ s.heap.size)) (F0 m 38 ls []))) (by
    intro x2_4 x3_4 o_4 h kS kR H locs ls hP hS hl
    unfold r3_slotsOfGroup_b4 at h
    refine lv_iload_n hx hb dX3_slotsOfGroup_4 rfl (lv_at hl 3 rfl) ?_
    refine lv_bipush (v := 14) hx hb dX3_slotsOfGroup_5 (by decide) ?_
    refine lv_icmp_ge (tgt := 38) hx hb dX3_slotsOfGroup_7 (by decide) (fun c1 => ?_) (fun c1 => ?_)
    · rw [if_pos c1] at h
      cases h
      exact kR _ rfl _ rfl _ _ _ hP hS (lv_sub hl [2] rfl)
    · rw [if_neg c1] at h
      refine lv_aload_n hx hb dX3_slotsOfGroup_10 rfl (lv_at hl 0 rfl) ?_
      refine g_get hC hP 6 dX3_slotsOfGroup_11 (by decide) ge_1 rfl inX3 (by decide) rfl u_1_58 ?_
      refine lv_iload_n hx hb dX3_slotsOfGroup_14 rfl (lv_at hl 3 rfl) ?_
      obtain ⟨v2, hv, h⟩ := ob h
      refine g_ld hC hP dX3_slotsOfGroup_15 (by decide) ge_8 hv ?_
      refine lv_iload_n hx hb dX3_slotsOfGroup_16 rfl (lv_at hl 1 rfl) ?_
      obtain ⟨v3, hv, h⟩ := bd1_e h
      refine g_ki (g_runN (As := [.int v2, .int x1]) (rest := []) hC hP (c4_contains l hv) (List.mem_cons_of_mem _ List.mem_cons_self) yv_X4_contains (Nat.le_of_ble_eq_true rfl) rfl hl.1 rfl (Nat.le_of_ble_eq_true rfl) dX3_slotsOfGroup_17 ⟨by decide, by decide⟩) hS (fun H locs hP hS => ?_)
      refine lv_if_eq (tgt := 32) hx hb dX3_slotsOfGroup_20 (by decide) (fun c4 => ?_) (fun c4 => ?_)
      · rw [if_pos c4] at h
        refine lv_iinc (v := (x3_4 + 1)) (lv' := [(3, .int (x3_4 + 1)), (0, .ref (ad γ 1)), (1, .int x1), (2, .int x2_4)]) hx hb dX3_slotsOfGroup_32 hl (k := 3) rfl rfl (by decide) rfl (fun ls hl => ?_)
        refine lv_goto (tgt := 4) hx hb dX3_slotsOfGroup_35 (by decide) ?_
        cases h
        exact kS _ _ rfl _ _ _ hP hS (lv_sub hl [1, 2, 3, 0] rfl)
      · rw [if_neg c4] at h
        refine lv_iload_n hx hb dX3_slotsOfGroup_23 rfl (lv_at hl 2 rfl) ?_
        refine lv_aload_n hx hb dX3_slotsOfGroup_24 rfl (lv_at hl 0 rfl) ?_
        refine g_get hC hP 10 dX3_slotsOfGroup_25 (by decide) ge_1 rfl inX3 (by decide) rfl u_1_69 ?_
        refine lv_iload_n hx hb dX3_slotsOfGroup_28 rfl (lv_at hl 3 rfl) ?_
        obtain ⟨v5, hv, h⟩ := ob h
        refine g_ld hC hP dX3_slotsOfGroup_29 (by decide) ge_12 hv ?_
        refine lv_ior hx hb dX3_slotsOfGroup_30 ?_
        refine lv_istore_n (lv' := [(2, .int (x2_4 ||| v5)), (0, .ref (ad γ 1)), (1, .int x1), (3, .int x3_4)]) hx hb dX3_slotsOfGroup_31 rfl hl (by decide) rfl (fun ls hl => ?_)
        refine lv_iinc (v := (x3_4 + 1)) (lv' := [(3, .int (x3_4 + 1)), (2, .int (x2_4 ||| v5)), (0, .ref (ad γ 1)), (1, .int x1)]) hx hb dX3_slotsOfGroup_32 hl (k := 3) rfl rfl (by decide) rfl (fun ls hl => ?_)
        refine lv_goto (tgt := 4) hx hb dX3_slotsOfGroup_35 (by decide) ?_
        cases h
        exact kS _ _ rfl _ _ _ hP hS (lv_sub hl [2, 3, 1, 0] rfl))
  obtain ⟨x2_x4, hv, h⟩ := bd1_e h
  refine L4 _ _ _ _ hv (fun q0 e9 H locs ls hP hS hl => ?_) _ _ _ hP hS (lv_sub hl [2, 3, 1, 0] rfl)
  obtain rfl := e9
  refine lv_iload_n hx hb dX3_slotsOfGroup_38 rfl (lv_at hl 0 rfl) ?_
  cases h
  exact g_iret hC hP hS dX3_slotsOfGroup_39 rfl
def r3_slotsOfRoom_b4 (T : OS) (x1 : Int32) (x2_4 : Int32) (x3_4 : Int32) : Option ((Int32 × Int32) ⊕ (Int32)) :=
  (if 14 ≤ x3_4 then some (.inr x2_4)
  else (rd 14 (T 9) x3_4).bind fun v2 =>
  (if (im v2 6) = x1 then (rd 14 (T 10) x3_4).bind fun v4 =>
  some (.inl ((x2_4 ||| v4), (x3_4 + 1)))
  else some (.inl (x2_4, (x3_4 + 1)))))
def r3_slotsOfRoom (T : OS) (x1 : Int32) : Option Int32 :=
  bd1 (it2 (r3_slotsOfRoom_b4 T x1) 200 0 0) (fun x2_x4 => some x2_x4)
theorem yv_X3_slotsOfRoom : gYV yX3_slotsOfRoom cX3_slotsOfRoom 4 (some .int) 1 := ⟨u_4_214, u_4_215, u_1_2, u_4_216, ⟨by decide +kernel, by decide +kernel, by decide +kernel⟩, by decide⟩
set_option maxHeartbeats 4000000 in
set_option maxRecDepth 100000 in
theorem c3_slotsOfRoom (l : Launch) {γ : GA} {sz : Nat} {T P X Y B M : OS} {E : Nat → OS} {O : Nat → Int64} {x1 : Int32} {r0 : Int32} (h : r3_slotsOfRoom T x1 = some r0) : Met l yX3_slotsOfRoom (gU yX3_slotsOfRoom cX3_slotsOfRoom 4 (some .int)) (gR 0 0 0) (gPc γ [.ref (ad γ 1), .int x1] sz (T, P, X, Y, E, B, M, O)) (gQi γ r0 sz (T, P, X, Y, E, B, M, O)) 0 0 (gA γ sz) := by
  refine g_met (fun sz => gQi γ r0 sz (T, P, X, Y, E, B, M, O)) (by decide) (Nat.le_of_ble_eq_true rfl) ?_
  intro p e s m args below meth c ls hC hP hS hl
  have hx := hC.x
  have hb := hC.b
  have hl : lv_has ls 4 [(0, .ref (ad γ 1)), (1, .int x1)] := hl
  unfold r3_slotsOfRoom at h
  refine lv_iconst (v := 0) hx hb dX3_slotsOfRoom_0 (by decide) ?_
  refine lv_istore_n (lv' := [(2, .int 0), (0, .ref (ad γ 1)), (1, .int x1)]) hx hb dX3_slotsOfRoom_1 rfl hl (by decide) rfl (fun ls hl => ?_)
  refine lv_iconst (v := 0) hx hb dX3_slotsOfRoom_2 (by decide) ?_
  refine lv_istore_n (lv' := [(3, .int 0), (2, .int 0), (0, .ref (ad γ 1)), (1, .int x1)]) hx hb dX3_slotsOfRoom_3 rfl hl (by decide) rfl (fun ls hl => ?_)
  have L4 := it2_W (r3_slotsOfRoom_b4 T x1) (fun (x2_4 : Int32) (x3_4 : Int32) => ∀ (H : Heap) (locs : List Loc) (ls : Array Slot), va_P γ.1 vwCl (gw γ (T, P, X, Y, E, B, M, O)) H → va_S (gA γ s.heap.size) s.heap H locs → lv_has ls 4 [(0, .ref (ad γ 1)), (1, .int x1), (2, .int x2_4), (3, .int x3_4)] → W p l e (gR 0 0 0) s m args below meth c H locs 0 0 (MQ below (gQi γ r0 s.heap.size (T, P, X, Y, E, B, M, O)) args s 0 0 (gA γ s.heap.size)) (F0 m 4 ls [])) (fun (r_k : Int32) => (∀ (x2_x4 : Int32), r_k = x2_x4 → ∀ (H : Heap) (locs : List Loc) (ls : Array Slot), va_P γ.1 vwCl (gw γ (T, P, X, Y, E, B, M, O)) H → va_S (gA γ s.heap.size) s.heap H locs → lv_has ls 4 [(2, .int x2_x4)] → W p l e (gR 0 0 0) s m args below meth c H locs 0 0 (MQ below (gQi γ r0 s.heap.size (T, P, X, Y, E, B, M, O)) args s 0 0 (gA γ s.heap.size)) (F0 m 38 ls []))) (by
    intro x2_4 x3_4 o_4 h kS kR H locs ls hP hS hl
    unfold r3_slotsOfRoom_b4 at h
    refine lv_iload_n hx hb dX3_slotsOfRoom_4 rfl (lv_at hl 3 rfl) ?_
    refine lv_bipush (v := 14) hx hb dX3_slotsOfRoom_5 (by decide) ?_
    refine lv_icmp_ge (tgt := 38) hx hb dX3_slotsOfRoom_7 (by decide) (fun c1 => ?_) (fun c1 => ?_)
    · rw [if_pos c1] at h
      cases h
      exact kR _ rfl _ rfl _ _ _ hP hS (lv_sub hl [2] rfl)
    · rw [if_neg c1] at h
      refine lv_aload_n hx hb dX3_slotsOfRoom_10 rfl (lv_at hl 0 rfl) ?_
      refine g_get hC hP 9 dX3_slotsOfRoom_11 (by decide) ge_1 rfl inX3 (by decide) rfl u_1_66 ?_
      refine lv_iload_n hx hb dX3_slotsOfRoom_14 rfl (lv_at hl 3 rfl) ?_
      obtain ⟨v2, hv, h⟩ := ob h
      refine g_ld hC hP dX3_slotsOfRoom_15 (by decide) ge_11 hv ?_
      refine lv_bipush (v := 6) hx hb dX3_slotsOfRoom_16 (by decide) ?_
      refine lv_irem hx hb dX3_slotsOfRoom_18 (by decide) ?_
      refine lv_iload_n hx hb dX3_slotsOfRoom_19 rfl (lv_at hl 1 rfl) ?_
      refine lv_icmp_ne (tgt := 32) hx hb dX3_slotsOfRoom_20 (by decide) (fun c3 => ?_) (fun c3 => ?_)
      · rw [if_neg c3] at h
        refine lv_iinc (v := (x3_4 + 1)) (lv' := [(3, .int (x3_4 + 1)), (0, .ref (ad γ 1)), (1, .int x1), (2, .int x2_4)]) hx hb dX3_slotsOfRoom_32 hl (k := 3) rfl rfl (by decide) rfl (fun ls hl => ?_)
        refine lv_goto (tgt := 4) hx hb dX3_slotsOfRoom_35 (by decide) ?_
        cases h
        exact kS _ _ rfl _ _ _ hP hS (lv_sub hl [1, 2, 3, 0] rfl)
      · rw [if_pos c3] at h
        refine lv_iload_n hx hb dX3_slotsOfRoom_23 rfl (lv_at hl 2 rfl) ?_
        refine lv_aload_n hx hb dX3_slotsOfRoom_24 rfl (lv_at hl 0 rfl) ?_
        refine g_get hC hP 10 dX3_slotsOfRoom_25 (by decide) ge_1 rfl inX3 (by decide) rfl u_1_69 ?_
        refine lv_iload_n hx hb dX3_slotsOfRoom_28 rfl (lv_at hl 3 rfl) ?_
        obtain ⟨v4, hv, h⟩ := ob h
        refine g_ld hC hP dX3_slotsOfRoom_29 (by decide) ge_12 hv ?_
        refine lv_ior hx hb dX3_slotsOfRoom_30 ?_
        refine lv_istore_n (lv' := [(2, .int (x2_4 ||| v4)), (0, .ref (ad γ 1)), (1, .int x1), (3, .int x3_4)]) hx hb dX3_slotsOfRoom_31 rfl hl (by decide) rfl (fun ls hl => ?_)
        refine lv_iinc (v := (x3_4 + 1)) (lv' := [(3, .int (x3_4 + 1)), (2, .int (x2_4 ||| v4)), (0, .ref (ad γ 1)), (1, .int x1)]) hx hb dX3_slotsOfRoom_32 hl (k := 3) rfl rfl (by decide) rfl (fun ls hl => ?_)
        refine lv_goto (tgt := 4) hx hb dX3_slotsOfRoom_35 (by decide) ?_
        cases h
        exact kS _ _ rfl _ _ _ hP hS (lv_sub hl [2, 3, 1, 0] rfl))
  obtain ⟨x2_x4, hv, h⟩ := bd1_e h
  refine L4 _ _ _ _ hv (fun q0 e9 H locs ls hP hS hl => ?_) _ _ _ hP hS (lv_sub hl [2, 3, 1, 0] rfl)
  obtain rfl := e9
  refine lv_iload_n hx hb dX3_slotsOfRoom_38 rfl (lv_at hl 0 rfl) ?_
  cases h
  exact g_iret hC hP hS dX3_slotsOfRoom_39 rfl
def r3_gapsOfDay_b4 (x0 : Int32) (x1_4 : Int32) (x2_4 : Int32) : Option ((Int32 × Int32) ⊕ (Int32)) :=
  (if 4 ≤ x2_4 then some (.inr x1_4)
  else (some (x0 &&& ((1 <<< (x2_4 &&& 31)) - 1))).bind fun v2 =>
  (some (x0 >>> ((x2_4 + 1) &&& 31))).bind fun v3 =>
  bd1 (r4_contains x0 x2_4) (fun v4 =>
  (if v4 = 0 then (if v2 = 0 then some (.inl (x1_4, (x2_4 + 1)))
  else (if v3 = 0 then some (.inl (x1_4, (x2_4 + 1)))
  else some (.inl ((x1_4 + 1), (x2_4 + 1)))))
  else some (.inl (x1_4, (x2_4 + 1))))))
def r3_gapsOfDay (x0 : Int32) : Option Int32 :=
  bd1 (it2 (r3_gapsOfDay_b4 x0) 200 0 1) (fun x1_x4 => some x1_x4)
theorem yv_X3_gapsOfDay : gYS yX3_gapsOfDay cX3_gapsOfDay 5 (some .int) 1 := ⟨u_5_66, u_1_2, u_5_67, ⟨by decide +kernel, by decide +kernel, by decide +kernel⟩, by decide⟩
set_option maxHeartbeats 4000000 in
set_option maxRecDepth 100000 in
theorem c3_gapsOfDay (l : Launch) {γ : GA} {sz : Nat} {T P X Y B M : OS} {E : Nat → OS} {O : Nat → Int64} {x0 : Int32} {r0 : Int32} (h : r3_gapsOfDay x0 = some r0) : Met l yX3_gapsOfDay (gU yX3_gapsOfDay cX3_gapsOfDay 5 (some .int)) (gR 1 0 0) (gPc γ [.int x0] sz (T, P, X, Y, E, B, M, O)) (gQi γ r0 sz (T, P, X, Y, E, B, M, O)) 0 0 (gA γ sz) := by
  refine g_met (fun sz => gQi γ r0 sz (T, P, X, Y, E, B, M, O)) (by decide) (Nat.le_of_ble_eq_true rfl) ?_
  intro p e s m args below meth c ls hC hP hS hl
  have hx := hC.x
  have hb := hC.b
  have hl : lv_has ls 5 [(0, .int x0)] := hl
  unfold r3_gapsOfDay at h
  refine lv_iconst (v := 0) hx hb dX3_gapsOfDay_0 (by decide) ?_
  refine lv_istore_n (lv' := [(1, .int 0), (0, .int x0)]) hx hb dX3_gapsOfDay_1 rfl hl (by decide) rfl (fun ls hl => ?_)
  refine lv_iconst (v := 1) hx hb dX3_gapsOfDay_2 (by decide) ?_
  refine lv_istore_n (lv' := [(2, .int 1), (1, .int 0), (0, .int x0)]) hx hb dX3_gapsOfDay_3 rfl hl (by decide) rfl (fun ls hl => ?_)
  have L4 := it2_W (r3_gapsOfDay_b4 x0) (fun (x1_4 : Int32) (x2_4 : Int32) => ∀ (H : Heap) (locs : List Loc) (ls : Array Slot), va_P γ.1 vwCl (gw γ (T, P, X, Y, E, B, M, O)) H → va_S (gA γ s.heap.size) s.heap H locs → lv_has ls 5 [(0, .int x0), (1, .int x1_4), (2, .int x2_4)] → W p l e (gR 1 0 0) s m args below meth c H locs 0 0 (MQ below (gQi γ r0 s.heap.size (T, P, X, Y, E, B, M, O)) args s 0 0 (gA γ s.heap.size)) (F0 m 4 ls [])) (fun (r_k : Int32) => (∀ (x1_x4 : Int32), r_k = x1_x4 → ∀ (H : Heap) (locs : List Loc) (ls : Array Slot), va_P γ.1 vwCl (gw γ (T, P, X, Y, E, B, M, O)) H → va_S (gA γ s.heap.size) s.heap H locs → lv_has ls 5 [(1, .int x1_x4)] → W p l e (gR 1 0 0) s m args below meth c H locs 0 0 (MQ below (gQi γ r0 s.heap.size (T, P, X, Y, E, B, M, O)) args s 0 0 (gA γ s.heap.size)) (F0 m 50 ls []))) (by
    intro x1_4 x2_4 o_4 h kS kR H locs ls hP hS hl
    unfold r3_gapsOfDay_b4 at h
    refine lv_iload_n hx hb dX3_gapsOfDay_4 rfl (lv_at hl 2 rfl) ?_
    refine lv_iconst (v := 4) hx hb dX3_gapsOfDay_5 (by decide) ?_
    refine lv_icmp_ge (tgt := 50) hx hb dX3_gapsOfDay_6 (by decide) (fun c1 => ?_) (fun c1 => ?_)
    · rw [if_pos c1] at h
      cases h
      exact kR _ rfl _ rfl _ _ _ hP hS (lv_sub hl [1] rfl)
    · rw [if_neg c1] at h
      refine lv_iload_n hx hb dX3_gapsOfDay_9 rfl (lv_at hl 0 rfl) ?_
      refine lv_iconst (v := 1) hx hb dX3_gapsOfDay_10 (by decide) ?_
      refine lv_iload_n hx hb dX3_gapsOfDay_11 rfl (lv_at hl 2 rfl) ?_
      refine lv_ishl hx hb dX3_gapsOfDay_12 ?_
      refine lv_iconst (v := 1) hx hb dX3_gapsOfDay_13 (by decide) ?_
      refine lv_isub hx hb dX3_gapsOfDay_14 ?_
      refine lv_iand hx hb dX3_gapsOfDay_15 ?_
      obtain ⟨v2, hv, h⟩ := ob h
      refine lv_topi (fun y9 ey9 => ?_)
      obtain rfl : v2 = y9 := (Option.some.inj hv).symm.trans ey9.symm
      clear hv ey9
      refine lv_istore_n (lv' := [(3, .int v2), (0, .int x0), (1, .int x1_4), (2, .int x2_4)]) hx hb dX3_gapsOfDay_16 rfl hl (by decide) rfl (fun ls hl => ?_)
      refine lv_iload_n hx hb dX3_gapsOfDay_17 rfl (lv_at hl 1 rfl) ?_
      refine lv_iload_n hx hb dX3_gapsOfDay_18 rfl (lv_at hl 3 rfl) ?_
      refine lv_iconst (v := 1) hx hb dX3_gapsOfDay_19 (by decide) ?_
      refine lv_iadd hx hb dX3_gapsOfDay_20 ?_
      refine lv_ishr hx hb dX3_gapsOfDay_21 ?_
      obtain ⟨v3, hv, h⟩ := ob h
      refine lv_topi (fun y9 ey9 => ?_)
      obtain rfl : v3 = y9 := (Option.some.inj hv).symm.trans ey9.symm
      clear hv ey9
      refine lv_istore (lv' := [(4, .int v3), (3, .int v2), (0, .int x0), (1, .int x1_4), (2, .int x2_4)]) hx hb dX3_gapsOfDay_22 hl (by decide) rfl (fun ls hl => ?_)
      refine lv_iload_n hx hb dX3_gapsOfDay_24 rfl (lv_at hl 2 rfl) ?_
      refine lv_iload_n hx hb dX3_gapsOfDay_25 rfl (lv_at hl 4 rfl) ?_
      obtain ⟨v4, hv, h⟩ := bd1_e h
      refine g_ki (g_runN (As := [.int x0, .int x2_4]) (rest := []) hC hP (c4_contains l hv) (List.mem_cons_of_mem _ List.mem_cons_self) yv_X4_contains (Nat.le_of_ble_eq_true rfl) rfl hl.1 rfl (Nat.le_of_ble_eq_true rfl) dX3_gapsOfDay_26 ⟨by decide, by decide⟩) hS (fun H locs hP hS => ?_)
      refine lv_if_ne (tgt := 44) hx hb dX3_gapsOfDay_29 (by decide) (fun c5 => ?_) (fun c5 => ?_)
      · rw [if_neg c5] at h
        refine lv_iinc (v := (x2_4 + 1)) (lv' := [(2, .int (x2_4 + 1)), (4, .int v3), (3, .int v2), (0, .int x0), (1, .int x1_4)]) hx hb dX3_gapsOfDay_44 hl (k := 4) rfl rfl (by decide) rfl (fun ls hl => ?_)
        refine lv_goto (tgt := 4) hx hb dX3_gapsOfDay_47 (by decide) ?_
        cases h
        exact kS _ _ rfl _ _ _ hP hS (lv_sub hl [3, 4, 0] rfl)
      · rw [if_pos c5] at h
        refine lv_iload_n hx hb dX3_gapsOfDay_32 rfl (lv_at hl 1 rfl) ?_
        refine lv_if_eq (tgt := 44) hx hb dX3_gapsOfDay_33 (by decide) (fun c6 => ?_) (fun c6 => ?_)
        · rw [if_pos c6] at h
          refine lv_iinc (v := (x2_4 + 1)) (lv' := [(2, .int (x2_4 + 1)), (4, .int v3), (3, .int v2), (0, .int x0), (1, .int x1_4)]) hx hb dX3_gapsOfDay_44 hl (k := 4) rfl rfl (by decide) rfl (fun ls hl => ?_)
          refine lv_goto (tgt := 4) hx hb dX3_gapsOfDay_47 (by decide) ?_
          cases h
          exact kS _ _ rfl _ _ _ hP hS (lv_sub hl [3, 4, 0] rfl)
        · rw [if_neg c6] at h
          refine lv_iload hx hb dX3_gapsOfDay_36 (lv_at hl 0 rfl) ?_
          refine lv_if_eq (tgt := 44) hx hb dX3_gapsOfDay_38 (by decide) (fun c7 => ?_) (fun c7 => ?_)
          · rw [if_pos c7] at h
            refine lv_iinc (v := (x2_4 + 1)) (lv' := [(2, .int (x2_4 + 1)), (4, .int v3), (3, .int v2), (0, .int x0), (1, .int x1_4)]) hx hb dX3_gapsOfDay_44 hl (k := 4) rfl rfl (by decide) rfl (fun ls hl => ?_)
            refine lv_goto (tgt := 4) hx hb dX3_gapsOfDay_47 (by decide) ?_
            cases h
            exact kS _ _ rfl _ _ _ hP hS (lv_sub hl [3, 4, 0] rfl)
          · rw [if_neg c7] at h
            refine lv_iinc (v := (x1_4 + 1)) (lv' := [(1, .int (x1_4 + 1)), (4, .int v3), (3, .int v2), (0, .int x0), (2, .int x2_4)]) hx hb dX3_gapsOfDay_41 hl (k := 3) rfl rfl (by decide) rfl (fun ls hl => ?_)
            refine lv_iinc (v := (x2_4 + 1)) (lv' := [(2, .int (x2_4 + 1)), (1, .int (x1_4 + 1)), (4, .int v3), (3, .int v2), (0, .int x0)]) hx hb dX3_gapsOfDay_44 hl (k := 4) rfl rfl (by decide) rfl (fun ls hl => ?_)
            refine lv_goto (tgt := 4) hx hb dX3_gapsOfDay_47 (by decide) ?_
            cases h
            exact kS _ _ rfl _ _ _ hP hS (lv_sub hl [4, 1, 0] rfl))
  obtain ⟨x1_x4, hv, h⟩ := bd1_e h
  refine L4 _ _ _ _ hv (fun q0 e9 H locs ls hP hS hl => ?_) _ _ _ hP hS (lv_sub hl [2, 1, 0] rfl)
  obtain rfl := e9
  refine lv_iload_n hx hb dX3_gapsOfDay_50 rfl (lv_at hl 0 rfl) ?_
  cases h
  exact g_iret hC hP hS dX3_gapsOfDay_51 rfl
def r3_gaps_b4 (T : OS) (x1_4 : Int32) (x2_4 : Int32) : Option ((Int32 × Int32) ⊕ (Int32)) :=
  (if 6 ≤ x2_4 then some (.inr x1_4)
  else bd1 (r3_slotsOfGroup T x2_4) (fun v2 =>
  bd1 (r3_gapsOfDay (v2 &&& 31)) (fun v3 =>
  bd1 (r3_gapsOfDay ((v2 >>> (5 &&& 31)) &&& 31)) (fun v4 =>
  some (.inl ((x1_4 + (v3 + v4)), (x2_4 + 1)))))))
def r3_gaps (T : OS) : Option Int32 :=
  bd1 (it2 (r3_gaps_b4 T) 200 0 0) (fun x1_x4 => some x1_x4)
theorem yv_X3_gaps : gYV yX3_gaps cX3_gaps 4 (some .int) 0 := ⟨u_5_61, u_5_62, u_1_2, u_5_63, ⟨by decide +kernel, by decide +kernel, by decide +kernel⟩, by decide⟩
set_option maxHeartbeats 4000000 in
set_option maxRecDepth 100000 in
theorem c3_gaps (l : Launch) {γ : GA} {sz : Nat} {T P X Y B M : OS} {E : Nat → OS} {O : Nat → Int64} {r0 : Int32} (h : r3_gaps T = some r0) : Met l yX3_gaps (gU yX3_gaps cX3_gaps 4 (some .int)) (gR 2 0 0) (gPc γ [.ref (ad γ 1)] sz (T, P, X, Y, E, B, M, O)) (gQi γ r0 sz (T, P, X, Y, E, B, M, O)) 0 0 (gA γ sz) := by
  refine g_met (fun sz => gQi γ r0 sz (T, P, X, Y, E, B, M, O)) (by decide) (Nat.le_of_ble_eq_true rfl) ?_
  intro p e s m args below meth c ls hC hP hS hl
  have hx := hC.x
  have hb := hC.b
  have hl : lv_has ls 4 [(0, .ref (ad γ 1))] := hl
  unfold r3_gaps at h
  refine lv_iconst (v := 0) hx hb dX3_gaps_0 (by decide) ?_
  refine lv_istore_n (lv' := [(1, .int 0), (0, .ref (ad γ 1))]) hx hb dX3_gaps_1 rfl hl (by decide) rfl (fun ls hl => ?_)
  refine lv_iconst (v := 0) hx hb dX3_gaps_2 (by decide) ?_
  refine lv_istore_n (lv' := [(2, .int 0), (1, .int 0), (0, .ref (ad γ 1))]) hx hb dX3_gaps_3 rfl hl (by decide) rfl (fun ls hl => ?_)
  have L4 := it2_W (r3_gaps_b4 T) (fun (x1_4 : Int32) (x2_4 : Int32) => ∀ (H : Heap) (locs : List Loc) (ls : Array Slot), va_P γ.1 vwCl (gw γ (T, P, X, Y, E, B, M, O)) H → va_S (gA γ s.heap.size) s.heap H locs → lv_has ls 4 [(0, .ref (ad γ 1)), (1, .int x1_4), (2, .int x2_4)] → W p l e (gR 2 0 0) s m args below meth c H locs 0 0 (MQ below (gQi γ r0 s.heap.size (T, P, X, Y, E, B, M, O)) args s 0 0 (gA γ s.heap.size)) (F0 m 4 ls [])) (fun (r_k : Int32) => (∀ (x1_x4 : Int32), r_k = x1_x4 → ∀ (H : Heap) (locs : List Loc) (ls : Array Slot), va_P γ.1 vwCl (gw γ (T, P, X, Y, E, B, M, O)) H → va_S (gA γ s.heap.size) s.heap H locs → lv_has ls 4 [(1, .int x1_x4)] → W p l e (gR 2 0 0) s m args below meth c H locs 0 0 (MQ below (gQi γ r0 s.heap.size (T, P, X, Y, E, B, M, O)) args s 0 0 (gA γ s.heap.size)) (F0 m 42 ls []))) (by
    intro x1_4 x2_4 o_4 h kS kR H locs ls hP hS hl
    unfold r3_gaps_b4 at h
    refine lv_iload_n hx hb dX3_gaps_4 rfl (lv_at hl 2 rfl) ?_
    refine lv_bipush (v := 6) hx hb dX3_gaps_5 (by decide) ?_
    refine lv_icmp_ge (tgt := 42) hx hb dX3_gaps_7 (by decide) (fun c1 => ?_) (fun c1 => ?_)
    · rw [if_pos c1] at h
      cases h
      exact kR _ rfl _ rfl _ _ _ hP hS (lv_sub hl [1] rfl)
    · rw [if_neg c1] at h
      refine lv_aload_n hx hb dX3_gaps_10 rfl (lv_at hl 0 rfl) ?_
      refine lv_iload_n hx hb dX3_gaps_11 rfl (lv_at hl 2 rfl) ?_
      obtain ⟨v2, hv, h⟩ := bd1_e h
      refine g_ki (g_runV (As := [.int x2_4]) (rest := []) hC hP (c3_slotsOfGroup l hv) (by decide) ge_1 rfl u_5_64 yv_X3_slotsOfGroup (Nat.le_of_ble_eq_true rfl) rfl hl.1 rfl (Nat.le_of_ble_eq_true rfl) dX3_gaps_12 ⟨by decide, by decide⟩) hS (fun H locs hP hS => ?_)
      refine lv_istore_n (lv' := [(3, .int v2), (0, .ref (ad γ 1)), (1, .int x1_4), (2, .int x2_4)]) hx hb dX3_gaps_15 rfl hl (by decide) rfl (fun ls hl => ?_)
      refine lv_iload_n hx hb dX3_gaps_16 rfl (lv_at hl 2 rfl) ?_
      refine lv_iload_n hx hb dX3_gaps_17 rfl (lv_at hl 0 rfl) ?_
      refine lv_bipush (v := 31) hx hb dX3_gaps_18 (by decide) ?_
      refine lv_iand hx hb dX3_gaps_20 ?_
      obtain ⟨v3, hv, h⟩ := bd1_e h
      refine g_ki (g_runS (As := [.int (v2 &&& 31)]) (rest := [.int x1_4]) hC hP (c3_gapsOfDay l hv) u_5_65 yv_X3_gapsOfDay (Nat.le_of_ble_eq_true rfl) rfl hl.1 rfl (Nat.le_of_ble_eq_true rfl) dX3_gaps_21 ⟨by decide, by decide⟩) hS (fun H locs hP hS => ?_)
      refine lv_iload_n hx hb dX3_gaps_24 rfl (lv_at hl 0 rfl) ?_
      refine lv_iconst (v := 5) hx hb dX3_gaps_25 (by decide) ?_
      refine lv_ishr hx hb dX3_gaps_26 ?_
      refine lv_bipush (v := 31) hx hb dX3_gaps_27 (by decide) ?_
      refine lv_iand hx hb dX3_gaps_29 ?_
      obtain ⟨v4, hv, h⟩ := bd1_e h
      refine g_ki (g_runS (As := [.int ((v2 >>> (5 &&& 31)) &&& 31)]) (rest := [.int v3, .int x1_4]) hC hP (c3_gapsOfDay l hv) u_5_65 yv_X3_gapsOfDay (Nat.le_of_ble_eq_true rfl) rfl hl.1 rfl (Nat.le_of_ble_eq_true rfl) dX3_gaps_30 ⟨by decide, by decide⟩) hS (fun H locs hP hS => ?_)
      refine lv_iadd hx hb dX3_gaps_33 ?_
      refine lv_iadd hx hb dX3_gaps_34 ?_
      refine lv_istore_n (lv' := [(1, .int (x1_4 + (v3 + v4))), (3, .int v2), (0, .ref (ad γ 1)), (2, .int x2_4)]) hx hb dX3_gaps_35 rfl hl (by decide) rfl (fun ls hl => ?_)
      refine lv_iinc (v := (x2_4 + 1)) (lv' := [(2, .int (x2_4 + 1)), (1, .int (x1_4 + (v3 + v4))), (3, .int v2), (0, .ref (ad γ 1))]) hx hb dX3_gaps_36 hl (k := 3) rfl rfl (by decide) rfl (fun ls hl => ?_)
      refine lv_goto (tgt := 4) hx hb dX3_gaps_39 (by decide) ?_
      cases h
      exact kS _ _ rfl _ _ _ hP hS (lv_sub hl [3, 1, 0] rfl))
  obtain ⟨x1_x4, hv, h⟩ := bd1_e h
  refine L4 _ _ _ _ hv (fun q0 e9 H locs ls hP hS hl => ?_) _ _ _ hP hS (lv_sub hl [2, 1, 0] rfl)
  obtain rfl := e9
  refine lv_iload_n hx hb dX3_gaps_42 rfl (lv_at hl 0 rfl) ?_
  cases h
  exact g_iret hC hP hS dX3_gaps_43 rfl
def r3_lateOnes_b4 (T : OS) (x1_4 : Int32) (x2_4 : Int32) : Option ((Int32 × Int32) ⊕ (Int32)) :=
  (if 14 ≤ x2_4 then some (.inr x1_4)
  else (rd 14 (T 10) x2_4).bind fun v2 =>
  (if (v2 &&& 528) = 0 then some (.inl (x1_4, (x2_4 + 1)))
  else some (.inl ((x1_4 + 1), (x2_4 + 1)))))
def r3_lateOnes (T : OS) : Option Int32 :=
  bd1 (it2 (r3_lateOnes_b4 T) 200 0 0) (fun x1_x4 => some x1_x4)
theorem yv_X3_lateOnes : gYV yX3_lateOnes cX3_lateOnes 3 (some .int) 0 := ⟨u_5_69, u_5_70, u_1_2, u_5_71, ⟨by decide +kernel, by decide +kernel, by decide +kernel⟩, by decide⟩
set_option maxHeartbeats 4000000 in
set_option maxRecDepth 100000 in
theorem c3_lateOnes (l : Launch) {γ : GA} {sz : Nat} {T P X Y B M : OS} {E : Nat → OS} {O : Nat → Int64} {r0 : Int32} (h : r3_lateOnes T = some r0) : Met l yX3_lateOnes (gU yX3_lateOnes cX3_lateOnes 3 (some .int)) (gR 0 0 0) (gPc γ [.ref (ad γ 1)] sz (T, P, X, Y, E, B, M, O)) (gQi γ r0 sz (T, P, X, Y, E, B, M, O)) 0 0 (gA γ sz) := by
  refine g_met (fun sz => gQi γ r0 sz (T, P, X, Y, E, B, M, O)) (by decide) (Nat.le_of_ble_eq_true rfl) ?_
  intro p e s m args below meth c ls hC hP hS hl
  have hx := hC.x
  have hb := hC.b
  have hl : lv_has ls 3 [(0, .ref (ad γ 1))] := hl
  unfold r3_lateOnes at h
  refine lv_iconst (v := 0) hx hb dX3_lateOnes_0 (by decide) ?_
  refine lv_istore_n (lv' := [(1, .int 0), (0, .ref (ad γ 1))]) hx hb dX3_lateOnes_1 rfl hl (by decide) rfl (fun ls hl => ?_)
  refine lv_iconst (v := 0) hx hb dX3_lateOnes_2 (by decide) ?_
  refine lv_istore_n (lv' := [(2, .int 0), (1, .int 0), (0, .ref (ad γ 1))]) hx hb dX3_lateOnes_3 rfl hl (by decide) rfl (fun ls hl => ?_)
  have L4 := it2_W (r3_lateOnes_b4 T) (fun (x1_4 : Int32) (x2_4 : Int32) => ∀ (H : Heap) (locs : List Loc) (ls : Array Slot), va_P γ.1 vwCl (gw γ (T, P, X, Y, E, B, M, O)) H → va_S (gA γ s.heap.size) s.heap H locs → lv_has ls 3 [(0, .ref (ad γ 1)), (1, .int x1_4), (2, .int x2_4)] → W p l e (gR 0 0 0) s m args below meth c H locs 0 0 (MQ below (gQi γ r0 s.heap.size (T, P, X, Y, E, B, M, O)) args s 0 0 (gA γ s.heap.size)) (F0 m 4 ls [])) (fun (r_k : Int32) => (∀ (x1_x4 : Int32), r_k = x1_x4 → ∀ (H : Heap) (locs : List Loc) (ls : Array Slot), va_P γ.1 vwCl (gw γ (T, P, X, Y, E, B, M, O)) H → va_S (gA γ s.heap.size) s.heap H locs → lv_has ls 3 [(1, .int x1_x4)] → W p l e (gR 0 0 0) s m args below meth c H locs 0 0 (MQ below (gQi γ r0 s.heap.size (T, P, X, Y, E, B, M, O)) args s 0 0 (gA γ s.heap.size)) (F0 m 32 ls []))) (by
    intro x1_4 x2_4 o_4 h kS kR H locs ls hP hS hl
    unfold r3_lateOnes_b4 at h
    refine lv_iload_n hx hb dX3_lateOnes_4 rfl (lv_at hl 2 rfl) ?_
    refine lv_bipush (v := 14) hx hb dX3_lateOnes_5 (by decide) ?_
    refine lv_icmp_ge (tgt := 32) hx hb dX3_lateOnes_7 (by decide) (fun c1 => ?_) (fun c1 => ?_)
    · rw [if_pos c1] at h
      cases h
      exact kR _ rfl _ rfl _ _ _ hP hS (lv_sub hl [1] rfl)
    · rw [if_neg c1] at h
      refine lv_aload_n hx hb dX3_lateOnes_10 rfl (lv_at hl 0 rfl) ?_
      refine g_get hC hP 10 dX3_lateOnes_11 (by decide) ge_1 rfl inX3 (by decide) rfl u_1_69 ?_
      refine lv_iload_n hx hb dX3_lateOnes_14 rfl (lv_at hl 2 rfl) ?_
      obtain ⟨v2, hv, h⟩ := ob h
      refine g_ld hC hP dX3_lateOnes_15 (by decide) ge_12 hv ?_
      refine lv_sipush (v := 528) hx hb dX3_lateOnes_16 (by decide) ?_
      refine lv_iand hx hb dX3_lateOnes_19 ?_
      refine lv_if_eq (tgt := 26) hx hb dX3_lateOnes_20 (by decide) (fun c3 => ?_) (fun c3 => ?_)
      · rw [if_pos c3] at h
        refine lv_iinc (v := (x2_4 + 1)) (lv' := [(2, .int (x2_4 + 1)), (0, .ref (ad γ 1)), (1, .int x1_4)]) hx hb dX3_lateOnes_26 hl (k := 2) rfl rfl (by decide) rfl (fun ls hl => ?_)
        refine lv_goto (tgt := 4) hx hb dX3_lateOnes_29 (by decide) ?_
        cases h
        exact kS _ _ rfl _ _ _ hP hS (lv_sub hl [1, 2, 0] rfl)
      · rw [if_neg c3] at h
        refine lv_iinc (v := (x1_4 + 1)) (lv' := [(1, .int (x1_4 + 1)), (0, .ref (ad γ 1)), (2, .int x2_4)]) hx hb dX3_lateOnes_23 hl (k := 1) rfl rfl (by decide) rfl (fun ls hl => ?_)
        refine lv_iinc (v := (x2_4 + 1)) (lv' := [(2, .int (x2_4 + 1)), (1, .int (x1_4 + 1)), (0, .ref (ad γ 1))]) hx hb dX3_lateOnes_26 hl (k := 2) rfl rfl (by decide) rfl (fun ls hl => ?_)
        refine lv_goto (tgt := 4) hx hb dX3_lateOnes_29 (by decide) ?_
        cases h
        exact kS _ _ rfl _ _ _ hP hS (lv_sub hl [2, 1, 0] rfl))
  obtain ⟨x1_x4, hv, h⟩ := bd1_e h
  refine L4 _ _ _ _ hv (fun q0 e9 H locs ls hP hS hl => ?_) _ _ _ hP hS (lv_sub hl [2, 1, 0] rfl)
  obtain rfl := e9
  refine lv_iload_n hx hb dX3_lateOnes_32 rfl (lv_at hl 0 rfl) ?_
  cases h
  exact g_iret hC hP hS dX3_lateOnes_33 rfl
def r3_slack_b4 (T : OS) (x1_4 : Int32) (x2_4 : Int32) : Option ((Int32 × Int32) ⊕ (Int32)) :=
  (if 14 ≤ x2_4 then some (.inr x1_4)
  else (rd 14 (T 9) x2_4).bind fun v2 =>
  (if v2 < 0 then some (.inl (x1_4, (x2_4 + 1)))
  else (rd 6 (T 0) (im v2 6)).bind fun v4 =>
  bd1 (r3_sizeOf T x2_4) (fun v5 =>
  (some (x1_4 + ((v4 - v5) / 10))).bind fun v6 =>
  some (.inl (v6, (x2_4 + 1))))))
def r3_slack (T : OS) : Option Int32 :=
  bd1 (it2 (r3_slack_b4 T) 200 0 0) (fun x1_x4 => some x1_x4)
theorem yv_X3_slack : gYV yX3_slack cX3_slack 4 (some .int) 0 := ⟨u_5_73, u_5_74, u_1_2, u_5_75, ⟨by decide +kernel, by decide +kernel, by decide +kernel⟩, by decide⟩
set_option maxHeartbeats 4000000 in
set_option maxRecDepth 100000 in
theorem c3_slack (l : Launch) {γ : GA} {sz : Nat} {T P X Y B M : OS} {E : Nat → OS} {O : Nat → Int64} {r0 : Int32} (h : r3_slack T = some r0) : Met l yX3_slack (gU yX3_slack cX3_slack 4 (some .int)) (gR 1 0 0) (gPc γ [.ref (ad γ 1)] sz (T, P, X, Y, E, B, M, O)) (gQi γ r0 sz (T, P, X, Y, E, B, M, O)) 0 0 (gA γ sz) := by
  refine g_met (fun sz => gQi γ r0 sz (T, P, X, Y, E, B, M, O)) (by decide) (Nat.le_of_ble_eq_true rfl) ?_
  intro p e s m args below meth c ls hC hP hS hl
  have hx := hC.x
  have hb := hC.b
  have hl : lv_has ls 4 [(0, .ref (ad γ 1))] := hl
  unfold r3_slack at h
  refine lv_iconst (v := 0) hx hb dX3_slack_0 (by decide) ?_
  refine lv_istore_n (lv' := [(1, .int 0), (0, .ref (ad γ 1))]) hx hb dX3_slack_1 rfl hl (by decide) rfl (fun ls hl => ?_)
  refine lv_iconst (v := 0) hx hb dX3_slack_2 (by decide) ?_
  refine lv_istore_n (lv' := [(2, .int 0), (1, .int 0), (0, .ref (ad γ 1))]) hx hb dX3_slack_3 rfl hl (by decide) rfl (fun ls hl => ?_)
  have L4 := it2_W (r3_slack_b4 T) (fun (x1_4 : Int32) (x2_4 : Int32) => ∀ (H : Heap) (locs : List Loc) (ls : Array Slot), va_P γ.1 vwCl (gw γ (T, P, X, Y, E, B, M, O)) H → va_S (gA γ s.heap.size) s.heap H locs → lv_has ls 4 [(0, .ref (ad γ 1)), (1, .int x1_4), (2, .int x2_4)] → W p l e (gR 1 0 0) s m args below meth c H locs 0 0 (MQ below (gQi γ r0 s.heap.size (T, P, X, Y, E, B, M, O)) args s 0 0 (gA γ s.heap.size)) (F0 m 4 ls [])) (fun (r_k : Int32) => (∀ (x1_x4 : Int32), r_k = x1_x4 → ∀ (H : Heap) (locs : List Loc) (ls : Array Slot), va_P γ.1 vwCl (gw γ (T, P, X, Y, E, B, M, O)) H → va_S (gA γ s.heap.size) s.heap H locs → lv_has ls 4 [(1, .int x1_x4)] → W p l e (gR 1 0 0) s m args below meth c H locs 0 0 (MQ below (gQi γ r0 s.heap.size (T, P, X, Y, E, B, M, O)) args s 0 0 (gA γ s.heap.size)) (F0 m 48 ls []))) (by
    intro x1_4 x2_4 o_4 h kS kR H locs ls hP hS hl
    unfold r3_slack_b4 at h
    refine lv_iload_n hx hb dX3_slack_4 rfl (lv_at hl 2 rfl) ?_
    refine lv_bipush (v := 14) hx hb dX3_slack_5 (by decide) ?_
    refine lv_icmp_ge (tgt := 48) hx hb dX3_slack_7 (by decide) (fun c1 => ?_) (fun c1 => ?_)
    · rw [if_pos c1] at h
      cases h
      exact kR _ rfl _ rfl _ _ _ hP hS (lv_sub hl [1] rfl)
    · rw [if_neg c1] at h
      refine lv_aload_n hx hb dX3_slack_10 rfl (lv_at hl 0 rfl) ?_
      refine g_get hC hP 9 dX3_slack_11 (by decide) ge_1 rfl inX3 (by decide) rfl u_1_66 ?_
      refine lv_iload_n hx hb dX3_slack_14 rfl (lv_at hl 2 rfl) ?_
      obtain ⟨v2, hv, h⟩ := ob h
      refine g_ld hC hP dX3_slack_15 (by decide) ge_11 hv ?_
      refine lv_istore_n (lv' := [(3, .int v2), (0, .ref (ad γ 1)), (1, .int x1_4), (2, .int x2_4)]) hx hb dX3_slack_16 rfl hl (by decide) rfl (fun ls hl => ?_)
      refine lv_iload_n hx hb dX3_slack_17 rfl (lv_at hl 0 rfl) ?_
      refine lv_if_lt (tgt := 42) hx hb dX3_slack_18 (by decide) (fun c3 => ?_) (fun c3 => ?_)
      · rw [if_pos c3] at h
        refine lv_iinc (v := (x2_4 + 1)) (lv' := [(2, .int (x2_4 + 1)), (3, .int v2), (0, .ref (ad γ 1)), (1, .int x1_4)]) hx hb dX3_slack_42 hl (k := 3) rfl rfl (by decide) rfl (fun ls hl => ?_)
        refine lv_goto (tgt := 4) hx hb dX3_slack_45 (by decide) ?_
        cases h
        exact kS _ _ rfl _ _ _ hP hS (lv_sub hl [2, 3, 0] rfl)
      · rw [if_neg c3] at h
        refine lv_iload_n hx hb dX3_slack_21 rfl (lv_at hl 2 rfl) ?_
        refine lv_aload_n hx hb dX3_slack_22 rfl (lv_at hl 1 rfl) ?_
        refine g_get hC hP 0 dX3_slack_23 (by decide) ge_1 rfl inX3 (by decide) rfl u_1_44 ?_
        refine lv_iload_n hx hb dX3_slack_26 rfl (lv_at hl 0 rfl) ?_
        refine lv_bipush (v := 6) hx hb dX3_slack_27 (by decide) ?_
        refine lv_irem hx hb dX3_slack_29 (by decide) ?_
        obtain ⟨v4, hv, h⟩ := ob h
        refine g_ld hC hP dX3_slack_30 (by decide) ge_2 hv ?_
        refine lv_aload_n hx hb dX3_slack_31 rfl (lv_at hl 1 rfl) ?_
        refine lv_iload_n hx hb dX3_slack_32 rfl (lv_at hl 3 rfl) ?_
        obtain ⟨v5, hv, h⟩ := bd1_e h
        refine g_ki (g_runV (As := [.int x2_4]) (rest := [.int v4, .int x1_4]) hC hP (c3_sizeOf l hv) (by decide) ge_1 rfl u_2_35 yv_X3_sizeOf (Nat.le_of_ble_eq_true rfl) rfl hl.1 rfl (Nat.le_of_ble_eq_true rfl) dX3_slack_33 ⟨by decide, by decide⟩) hS (fun H locs hP hS => ?_)
        refine lv_isub hx hb dX3_slack_36 ?_
        refine lv_bipush (v := 10) hx hb dX3_slack_37 (by decide) ?_
        refine lv_idiv hx hb dX3_slack_39 (by decide) ?_
        refine lv_iadd hx hb dX3_slack_40 ?_
        obtain ⟨v6, hv, h⟩ := ob h
        refine lv_topi (fun y9 ey9 => ?_)
        obtain rfl : v6 = y9 := (Option.some.inj hv).symm.trans ey9.symm
        clear hv ey9
        refine lv_istore_n (lv' := [(1, .int v6), (3, .int v2), (0, .ref (ad γ 1)), (2, .int x2_4)]) hx hb dX3_slack_41 rfl hl (by decide) rfl (fun ls hl => ?_)
        refine lv_iinc (v := (x2_4 + 1)) (lv' := [(2, .int (x2_4 + 1)), (1, .int v6), (3, .int v2), (0, .ref (ad γ 1))]) hx hb dX3_slack_42 hl (k := 3) rfl rfl (by decide) rfl (fun ls hl => ?_)
        refine lv_goto (tgt := 4) hx hb dX3_slack_45 (by decide) ?_
        cases h
        exact kS _ _ rfl _ _ _ hP hS (lv_sub hl [3, 1, 0] rfl))
  obtain ⟨x1_x4, hv, h⟩ := bd1_e h
  refine L4 _ _ _ _ hv (fun q0 e9 H locs ls hP hS hl => ?_) _ _ _ hP hS (lv_sub hl [2, 1, 0] rfl)
  obtain rfl := e9
  refine lv_iload_n hx hb dX3_slack_48 rfl (lv_at hl 0 rfl) ?_
  cases h
  exact g_iret hC hP hS dX3_slack_49 rfl
def r3_placedOnes_b4 (T : OS) (x1_4 : Int32) (x2_4 : Int32) : Option ((Int32 × Int32) ⊕ (Int32)) :=
  (if 14 ≤ x2_4 then some (.inr x1_4)
  else (rd 14 (T 9) x2_4).bind fun v2 =>
  (if v2 = (-1) then some (.inl (x1_4, (x2_4 + 1)))
  else some (.inl ((x1_4 + 1), (x2_4 + 1)))))
def r3_placedOnes (T : OS) : Option Int32 :=
  bd1 (it2 (r3_placedOnes_b4 T) 200 0 0) (fun x1_x4 => some x1_x4)
theorem yv_X3_placedOnes : gYV yX3_placedOnes cX3_placedOnes 3 (some .int) 0 := ⟨u_2_106, u_2_107, u_1_2, u_2_108, ⟨by decide +kernel, by decide +kernel, by decide +kernel⟩, by decide⟩
set_option maxHeartbeats 4000000 in
set_option maxRecDepth 100000 in
theorem c3_placedOnes (l : Launch) {γ : GA} {sz : Nat} {T P X Y B M : OS} {E : Nat → OS} {O : Nat → Int64} {r0 : Int32} (h : r3_placedOnes T = some r0) : Met l yX3_placedOnes (gU yX3_placedOnes cX3_placedOnes 3 (some .int)) (gR 0 0 0) (gPc γ [.ref (ad γ 1)] sz (T, P, X, Y, E, B, M, O)) (gQi γ r0 sz (T, P, X, Y, E, B, M, O)) 0 0 (gA γ sz) := by
  refine g_met (fun sz => gQi γ r0 sz (T, P, X, Y, E, B, M, O)) (by decide) (Nat.le_of_ble_eq_true rfl) ?_
  intro p e s m args below meth c ls hC hP hS hl
  have hx := hC.x
  have hb := hC.b
  have hl : lv_has ls 3 [(0, .ref (ad γ 1))] := hl
  unfold r3_placedOnes at h
  refine lv_iconst (v := 0) hx hb dX3_placedOnes_0 (by decide) ?_
  refine lv_istore_n (lv' := [(1, .int 0), (0, .ref (ad γ 1))]) hx hb dX3_placedOnes_1 rfl hl (by decide) rfl (fun ls hl => ?_)
  refine lv_iconst (v := 0) hx hb dX3_placedOnes_2 (by decide) ?_
  refine lv_istore_n (lv' := [(2, .int 0), (1, .int 0), (0, .ref (ad γ 1))]) hx hb dX3_placedOnes_3 rfl hl (by decide) rfl (fun ls hl => ?_)
  have L4 := it2_W (r3_placedOnes_b4 T) (fun (x1_4 : Int32) (x2_4 : Int32) => ∀ (H : Heap) (locs : List Loc) (ls : Array Slot), va_P γ.1 vwCl (gw γ (T, P, X, Y, E, B, M, O)) H → va_S (gA γ s.heap.size) s.heap H locs → lv_has ls 3 [(0, .ref (ad γ 1)), (1, .int x1_4), (2, .int x2_4)] → W p l e (gR 0 0 0) s m args below meth c H locs 0 0 (MQ below (gQi γ r0 s.heap.size (T, P, X, Y, E, B, M, O)) args s 0 0 (gA γ s.heap.size)) (F0 m 4 ls [])) (fun (r_k : Int32) => (∀ (x1_x4 : Int32), r_k = x1_x4 → ∀ (H : Heap) (locs : List Loc) (ls : Array Slot), va_P γ.1 vwCl (gw γ (T, P, X, Y, E, B, M, O)) H → va_S (gA γ s.heap.size) s.heap H locs → lv_has ls 3 [(1, .int x1_x4)] → W p l e (gR 0 0 0) s m args below meth c H locs 0 0 (MQ below (gQi γ r0 s.heap.size (T, P, X, Y, E, B, M, O)) args s 0 0 (gA γ s.heap.size)) (F0 m 29 ls []))) (by
    intro x1_4 x2_4 o_4 h kS kR H locs ls hP hS hl
    unfold r3_placedOnes_b4 at h
    refine lv_iload_n hx hb dX3_placedOnes_4 rfl (lv_at hl 2 rfl) ?_
    refine lv_bipush (v := 14) hx hb dX3_placedOnes_5 (by decide) ?_
    refine lv_icmp_ge (tgt := 29) hx hb dX3_placedOnes_7 (by decide) (fun c1 => ?_) (fun c1 => ?_)
    · rw [if_pos c1] at h
      cases h
      exact kR _ rfl _ rfl _ _ _ hP hS (lv_sub hl [1] rfl)
    · rw [if_neg c1] at h
      refine lv_aload_n hx hb dX3_placedOnes_10 rfl (lv_at hl 0 rfl) ?_
      refine g_get hC hP 9 dX3_placedOnes_11 (by decide) ge_1 rfl inX3 (by decide) rfl u_1_66 ?_
      refine lv_iload_n hx hb dX3_placedOnes_14 rfl (lv_at hl 2 rfl) ?_
      obtain ⟨v2, hv, h⟩ := ob h
      refine g_ld hC hP dX3_placedOnes_15 (by decide) ge_11 hv ?_
      refine lv_iconst (v := -1) hx hb dX3_placedOnes_16 (by decide) ?_
      refine lv_icmp_eq (tgt := 23) hx hb dX3_placedOnes_17 (by decide) (fun c3 => ?_) (fun c3 => ?_)
      · rw [if_pos c3] at h
        refine lv_iinc (v := (x2_4 + 1)) (lv' := [(2, .int (x2_4 + 1)), (0, .ref (ad γ 1)), (1, .int x1_4)]) hx hb dX3_placedOnes_23 hl (k := 2) rfl rfl (by decide) rfl (fun ls hl => ?_)
        refine lv_goto (tgt := 4) hx hb dX3_placedOnes_26 (by decide) ?_
        cases h
        exact kS _ _ rfl _ _ _ hP hS (lv_sub hl [1, 2, 0] rfl)
      · rw [if_neg c3] at h
        refine lv_iinc (v := (x1_4 + 1)) (lv' := [(1, .int (x1_4 + 1)), (0, .ref (ad γ 1)), (2, .int x2_4)]) hx hb dX3_placedOnes_20 hl (k := 1) rfl rfl (by decide) rfl (fun ls hl => ?_)
        refine lv_iinc (v := (x2_4 + 1)) (lv' := [(2, .int (x2_4 + 1)), (1, .int (x1_4 + 1)), (0, .ref (ad γ 1))]) hx hb dX3_placedOnes_23 hl (k := 2) rfl rfl (by decide) rfl (fun ls hl => ?_)
        refine lv_goto (tgt := 4) hx hb dX3_placedOnes_26 (by decide) ?_
        cases h
        exact kS _ _ rfl _ _ _ hP hS (lv_sub hl [2, 1, 0] rfl))
  obtain ⟨x1_x4, hv, h⟩ := bd1_e h
  refine L4 _ _ _ _ hv (fun q0 e9 H locs ls hP hS hl => ?_) _ _ _ hP hS (lv_sub hl [2, 1, 0] rfl)
  obtain rfl := e9
  refine lv_iload_n hx hb dX3_placedOnes_29 rfl (lv_at hl 0 rfl) ?_
  cases h
  exact g_iret hC hP hS dX3_placedOnes_30 rfl
def r3_fixedOnes_b4 (T : OS) (x1_4 : Int32) (x2_4 : Int32) : Option ((Int32 × Int32) ⊕ (Int32)) :=
  (if 14 ≤ x2_4 then some (.inr x1_4)
  else (rd 14 (T 12) x2_4).bind fun v2 =>
  (if v2 = 0 then some (.inl (x1_4, (x2_4 + 1)))
  else some (.inl ((x1_4 + 1), (x2_4 + 1)))))
def r3_fixedOnes (T : OS) : Option Int32 :=
  bd1 (it2 (r3_fixedOnes_b4 T) 200 0 0) (fun x1_x4 => some x1_x4)
theorem yv_X3_fixedOnes : gYV yX3_fixedOnes cX3_fixedOnes 3 (some .int) 0 := ⟨u_5_120, u_5_121, u_1_2, u_5_122, ⟨by decide +kernel, by decide +kernel, by decide +kernel⟩, by decide⟩
set_option maxHeartbeats 4000000 in
set_option maxRecDepth 100000 in
theorem c3_fixedOnes (l : Launch) {γ : GA} {sz : Nat} {T P X Y B M : OS} {E : Nat → OS} {O : Nat → Int64} {r0 : Int32} (h : r3_fixedOnes T = some r0) : Met l yX3_fixedOnes (gU yX3_fixedOnes cX3_fixedOnes 3 (some .int)) (gR 0 0 0) (gPc γ [.ref (ad γ 1)] sz (T, P, X, Y, E, B, M, O)) (gQi γ r0 sz (T, P, X, Y, E, B, M, O)) 0 0 (gA γ sz) := by
  refine g_met (fun sz => gQi γ r0 sz (T, P, X, Y, E, B, M, O)) (by decide) (Nat.le_of_ble_eq_true rfl) ?_
  intro p e s m args below meth c ls hC hP hS hl
  have hx := hC.x
  have hb := hC.b
  have hl : lv_has ls 3 [(0, .ref (ad γ 1))] := hl
  unfold r3_fixedOnes at h
  refine lv_iconst (v := 0) hx hb dX3_fixedOnes_0 (by decide) ?_
  refine lv_istore_n (lv' := [(1, .int 0), (0, .ref (ad γ 1))]) hx hb dX3_fixedOnes_1 rfl hl (by decide) rfl (fun ls hl => ?_)
  refine lv_iconst (v := 0) hx hb dX3_fixedOnes_2 (by decide) ?_
  refine lv_istore_n (lv' := [(2, .int 0), (1, .int 0), (0, .ref (ad γ 1))]) hx hb dX3_fixedOnes_3 rfl hl (by decide) rfl (fun ls hl => ?_)
  have L4 := it2_W (r3_fixedOnes_b4 T) (fun (x1_4 : Int32) (x2_4 : Int32) => ∀ (H : Heap) (locs : List Loc) (ls : Array Slot), va_P γ.1 vwCl (gw γ (T, P, X, Y, E, B, M, O)) H → va_S (gA γ s.heap.size) s.heap H locs → lv_has ls 3 [(0, .ref (ad γ 1)), (1, .int x1_4), (2, .int x2_4)] → W p l e (gR 0 0 0) s m args below meth c H locs 0 0 (MQ below (gQi γ r0 s.heap.size (T, P, X, Y, E, B, M, O)) args s 0 0 (gA γ s.heap.size)) (F0 m 4 ls [])) (fun (r_k : Int32) => (∀ (x1_x4 : Int32), r_k = x1_x4 → ∀ (H : Heap) (locs : List Loc) (ls : Array Slot), va_P γ.1 vwCl (gw γ (T, P, X, Y, E, B, M, O)) H → va_S (gA γ s.heap.size) s.heap H locs → lv_has ls 3 [(1, .int x1_x4)] → W p l e (gR 0 0 0) s m args below meth c H locs 0 0 (MQ below (gQi γ r0 s.heap.size (T, P, X, Y, E, B, M, O)) args s 0 0 (gA γ s.heap.size)) (F0 m 28 ls []))) (by
    intro x1_4 x2_4 o_4 h kS kR H locs ls hP hS hl
    unfold r3_fixedOnes_b4 at h
    refine lv_iload_n hx hb dX3_fixedOnes_4 rfl (lv_at hl 2 rfl) ?_
    refine lv_bipush (v := 14) hx hb dX3_fixedOnes_5 (by decide) ?_
    refine lv_icmp_ge (tgt := 28) hx hb dX3_fixedOnes_7 (by decide) (fun c1 => ?_) (fun c1 => ?_)
    · rw [if_pos c1] at h
      cases h
      exact kR _ rfl _ rfl _ _ _ hP hS (lv_sub hl [1] rfl)
    · rw [if_neg c1] at h
      refine lv_aload_n hx hb dX3_fixedOnes_10 rfl (lv_at hl 0 rfl) ?_
      refine g_get hC hP 12 dX3_fixedOnes_11 (by decide) ge_1 rfl inX3 (by decide) rfl u_1_73 ?_
      refine lv_iload_n hx hb dX3_fixedOnes_14 rfl (lv_at hl 2 rfl) ?_
      obtain ⟨v2, hv, h⟩ := ob h
      refine g_zld hC hP dX3_fixedOnes_15 (by decide) ge_14 hv ?_
      refine lv_if_eq (tgt := 22) hx hb dX3_fixedOnes_16 (by decide) (fun c3 => ?_) (fun c3 => ?_)
      · rw [if_pos c3] at h
        refine lv_iinc (v := (x2_4 + 1)) (lv' := [(2, .int (x2_4 + 1)), (0, .ref (ad γ 1)), (1, .int x1_4)]) hx hb dX3_fixedOnes_22 hl (k := 2) rfl rfl (by decide) rfl (fun ls hl => ?_)
        refine lv_goto (tgt := 4) hx hb dX3_fixedOnes_25 (by decide) ?_
        cases h
        exact kS _ _ rfl _ _ _ hP hS (lv_sub hl [1, 2, 0] rfl)
      · rw [if_neg c3] at h
        refine lv_iinc (v := (x1_4 + 1)) (lv' := [(1, .int (x1_4 + 1)), (0, .ref (ad γ 1)), (2, .int x2_4)]) hx hb dX3_fixedOnes_19 hl (k := 1) rfl rfl (by decide) rfl (fun ls hl => ?_)
        refine lv_iinc (v := (x2_4 + 1)) (lv' := [(2, .int (x2_4 + 1)), (1, .int (x1_4 + 1)), (0, .ref (ad γ 1))]) hx hb dX3_fixedOnes_22 hl (k := 2) rfl rfl (by decide) rfl (fun ls hl => ?_)
        refine lv_goto (tgt := 4) hx hb dX3_fixedOnes_25 (by decide) ?_
        cases h
        exact kS _ _ rfl _ _ _ hP hS (lv_sub hl [2, 1, 0] rfl))
  obtain ⟨x1_x4, hv, h⟩ := bd1_e h
  refine L4 _ _ _ _ hv (fun q0 e9 H locs ls hP hS hl => ?_) _ _ _ hP hS (lv_sub hl [2, 1, 0] rfl)
  obtain rfl := e9
  refine lv_iload_n hx hb dX3_fixedOnes_28 rfl (lv_at hl 0 rfl) ?_
  cases h
  exact g_iret hC hP hS dX3_fixedOnes_29 rfl
def r3_unplaced (T : OS) : Option Int32 :=
  bd1 (r3_placedOnes T) (fun v1 =>
  some ((T 13 0) - v1))
theorem yv_X3_unplaced : gYV yX3_unplaced cX3_unplaced 1 (some .int) 0 := ⟨u_2_102, u_2_103, u_1_2, u_2_104, ⟨by decide +kernel, by decide +kernel, by decide +kernel⟩, by decide⟩
set_option maxHeartbeats 4000000 in
set_option maxRecDepth 100000 in
theorem c3_unplaced (l : Launch) {γ : GA} {sz : Nat} {T P X Y B M : OS} {E : Nat → OS} {O : Nat → Int64} {r0 : Int32} (h : r3_unplaced T = some r0) : Met l yX3_unplaced (gU yX3_unplaced cX3_unplaced 1 (some .int)) (gR 1 0 0) (gPc γ [.ref (ad γ 1)] sz (T, P, X, Y, E, B, M, O)) (gQi γ r0 sz (T, P, X, Y, E, B, M, O)) 0 0 (gA γ sz) := by
  refine g_met (fun sz => gQi γ r0 sz (T, P, X, Y, E, B, M, O)) (by decide) (Nat.le_of_ble_eq_true rfl) ?_
  intro p e s m args below meth c ls hC hP hS hl
  have hx := hC.x
  have hb := hC.b
  have hl : lv_has ls 1 [(0, .ref (ad γ 1))] := hl
  unfold r3_unplaced at h
  refine lv_aload_n hx hb dX3_unplaced_0 rfl (lv_at hl 0 rfl) ?_
  refine g_get hC hP 13 dX3_unplaced_1 (by decide) ge_1 rfl inX3 (by decide) rfl u_1_76 ?_
  refine lv_aload_n hx hb dX3_unplaced_4 rfl (lv_at hl 0 rfl) ?_
  obtain ⟨v1, hv, h⟩ := bd1_e h
  refine g_ki (g_runV (As := []) (rest := [.int (T 13 0)]) hC hP (c3_placedOnes l hv) (by decide) ge_1 rfl u_2_105 yv_X3_placedOnes (Nat.le_of_ble_eq_true rfl) rfl hl.1 rfl (Nat.le_of_ble_eq_true rfl) dX3_unplaced_5 ⟨by decide, by decide⟩) hS (fun H locs hP hS => ?_)
  refine lv_isub hx hb dX3_unplaced_8 ?_
  cases h
  exact g_iret hC hP hS dX3_unplaced_9 rfl
def r3_totalCost (T : OS) : Option Int32 :=
  (rd 3 (T 4) 0).bind fun v1 =>
  bd1 (r3_gaps T) (fun v2 =>
  (rd 3 (T 4) 1).bind fun v3 =>
  bd1 (r3_lateOnes T) (fun v4 =>
  (rd 3 (T 4) 2).bind fun v5 =>
  bd1 (r3_slack T) (fun v6 =>
  bd1 (r3_unplaced T) (fun v7 =>
  some ((((v1 * v2) + (v3 * v4)) + (v5 * v6)) + (100 * v7))))))
theorem yv_X3_totalCost : gYV yX3_totalCost cX3_totalCost 1 (some .int) 0 := ⟨u_5_57, u_5_58, u_1_2, u_5_59, ⟨by decide +kernel, by decide +kernel, by decide +kernel⟩, by decide⟩
set_option maxHeartbeats 4000000 in
set_option maxRecDepth 100000 in
theorem c3_totalCost (l : Launch) {γ : GA} {sz : Nat} {T P X Y B M : OS} {E : Nat → OS} {O : Nat → Int64} {r0 : Int32} (h : r3_totalCost T = some r0) : Met l yX3_totalCost (gU yX3_totalCost cX3_totalCost 1 (some .int)) (gR 3 0 0) (gPc γ [.ref (ad γ 1)] sz (T, P, X, Y, E, B, M, O)) (gQi γ r0 sz (T, P, X, Y, E, B, M, O)) 0 0 (gA γ sz) := by
  refine g_met (fun sz => gQi γ r0 sz (T, P, X, Y, E, B, M, O)) (by decide) (Nat.le_of_ble_eq_true rfl) ?_
  intro p e s m args below meth c ls hC hP hS hl
  have hx := hC.x
  have hb := hC.b
  have hl : lv_has ls 1 [(0, .ref (ad γ 1))] := hl
  unfold r3_totalCost at h
  refine lv_aload_n hx hb dX3_totalCost_0 rfl (lv_at hl 0 rfl) ?_
  refine g_get hC hP 4 dX3_totalCost_1 (by decide) ge_1 rfl inX3 (by decide) rfl u_1_53 ?_
  refine lv_iconst (v := 0) hx hb dX3_totalCost_4 (by decide) ?_
  obtain ⟨v1, hv, h⟩ := ob h
  refine g_ld hC hP dX3_totalCost_5 (by decide) ge_6 hv ?_
  refine lv_aload_n hx hb dX3_totalCost_6 rfl (lv_at hl 0 rfl) ?_
  obtain ⟨v2, hv, h⟩ := bd1_e h
  refine g_ki (g_runV (As := []) (rest := [.int v1]) hC hP (c3_gaps l hv) (by decide) ge_1 rfl u_5_60 yv_X3_gaps (Nat.le_of_ble_eq_true rfl) rfl hl.1 rfl (Nat.le_of_ble_eq_true rfl) dX3_totalCost_7 ⟨by decide, by decide⟩) hS (fun H locs hP hS => ?_)
  refine lv_imul hx hb dX3_totalCost_10 ?_
  refine lv_aload_n hx hb dX3_totalCost_11 rfl (lv_at hl 0 rfl) ?_
  refine g_get hC hP 4 dX3_totalCost_12 (by decide) ge_1 rfl inX3 (by decide) rfl u_1_53 ?_
  refine lv_iconst (v := 1) hx hb dX3_totalCost_15 (by decide) ?_
  obtain ⟨v3, hv, h⟩ := ob h
  refine g_ld hC hP dX3_totalCost_16 (by decide) ge_6 hv ?_
  refine lv_aload_n hx hb dX3_totalCost_17 rfl (lv_at hl 0 rfl) ?_
  obtain ⟨v4, hv, h⟩ := bd1_e h
  refine g_ki (g_runV (As := []) (rest := [.int v3, .int (v1 * v2)]) hC hP (c3_lateOnes l hv) (by decide) ge_1 rfl u_5_68 yv_X3_lateOnes (Nat.le_of_ble_eq_true rfl) rfl hl.1 rfl (Nat.le_of_ble_eq_true rfl) dX3_totalCost_18 ⟨by decide, by decide⟩) hS (fun H locs hP hS => ?_)
  refine lv_imul hx hb dX3_totalCost_21 ?_
  refine lv_iadd hx hb dX3_totalCost_22 ?_
  refine lv_aload_n hx hb dX3_totalCost_23 rfl (lv_at hl 0 rfl) ?_
  refine g_get hC hP 4 dX3_totalCost_24 (by decide) ge_1 rfl inX3 (by decide) rfl u_1_53 ?_
  refine lv_iconst (v := 2) hx hb dX3_totalCost_27 (by decide) ?_
  obtain ⟨v5, hv, h⟩ := ob h
  refine g_ld hC hP dX3_totalCost_28 (by decide) ge_6 hv ?_
  refine lv_aload_n hx hb dX3_totalCost_29 rfl (lv_at hl 0 rfl) ?_
  obtain ⟨v6, hv, h⟩ := bd1_e h
  refine g_ki (g_runV (As := []) (rest := [.int v5, .int ((v1 * v2) + (v3 * v4))]) hC hP (c3_slack l hv) (by decide) ge_1 rfl u_5_72 yv_X3_slack (Nat.le_of_ble_eq_true rfl) rfl hl.1 rfl (Nat.le_of_ble_eq_true rfl) dX3_totalCost_30 ⟨by decide, by decide⟩) hS (fun H locs hP hS => ?_)
  refine lv_imul hx hb dX3_totalCost_33 ?_
  refine lv_iadd hx hb dX3_totalCost_34 ?_
  refine lv_bipush (v := 100) hx hb dX3_totalCost_35 (by decide) ?_
  refine lv_aload_n hx hb dX3_totalCost_37 rfl (lv_at hl 0 rfl) ?_
  obtain ⟨v7, hv, h⟩ := bd1_e h
  refine g_ki (g_runV (As := []) (rest := [.int 100, .int (((v1 * v2) + (v3 * v4)) + (v5 * v6))]) hC hP (c3_unplaced l hv) (by decide) ge_1 rfl u_5_76 yv_X3_unplaced (Nat.le_of_ble_eq_true rfl) rfl hl.1 rfl (Nat.le_of_ble_eq_true rfl) dX3_totalCost_38 ⟨by decide, by decide⟩) hS (fun H locs hP hS => ?_)
  refine lv_imul hx hb dX3_totalCost_41 ?_
  refine lv_iadd hx hb dX3_totalCost_42 ?_
  cases h
  exact g_iret hC hP hS dX3_totalCost_43 rfl
def r3_costIf (T : OS) (x1 : Int32) (x2 : Int32) : Option (Int32 × OS) :=
  (rd 14 (T 9) x1).bind fun v1 =>
  bd1 (r3_moveTo T x1 x2) (fun T2 =>
  bd1 (r3_totalCost T2) (fun v3 =>
  bd1 (r3_moveTo T2 x1 v1) (fun T4 =>
  some (v3, T4))))
theorem yv_X3_costIf : gYV yX3_costIf cX3_costIf 5 (some .int) 2 := ⟨u_5_82, u_5_83, u_1_2, u_5_84, ⟨by decide +kernel, by decide +kernel, by decide +kernel⟩, by decide⟩
set_option maxHeartbeats 4000000 in
set_option maxRecDepth 100000 in
theorem c3_costIf (l : Launch) {γ : GA} {sz : Nat} {T P X Y B M : OS} {E : Nat → OS} {O : Nat → Int64} {x1 : Int32} {x2 : Int32} {r0 : Int32} {Tz : OS} (h : r3_costIf T x1 x2 = some (r0, Tz)) : Met l yX3_costIf (gU yX3_costIf cX3_costIf 5 (some .int)) (gR 4 0 0) (gPc γ [.ref (ad γ 1), .int x1, .int x2] sz (T, P, X, Y, E, B, M, O)) (gQi γ r0 sz (Tz, P, X, Y, E, B, M, O)) 0 0 (gA γ sz) := by
  refine g_met (fun sz => gQi γ r0 sz (Tz, P, X, Y, E, B, M, O)) (by decide) (Nat.le_of_ble_eq_true rfl) ?_
  intro p e s m args below meth c ls hC hP hS hl
  have hx := hC.x
  have hb := hC.b
  have hl : lv_has ls 5 [(0, .ref (ad γ 1)), (1, .int x1), (2, .int x2)] := hl
  unfold r3_costIf at h
  refine lv_aload_n hx hb dX3_costIf_0 rfl (lv_at hl 0 rfl) ?_
  refine g_get hC hP 9 dX3_costIf_1 (by decide) ge_1 rfl inX3 (by decide) rfl u_1_66 ?_
  refine lv_iload_n hx hb dX3_costIf_4 rfl (lv_at hl 1 rfl) ?_
  obtain ⟨v1, hv, h⟩ := ob h
  refine g_ld hC hP dX3_costIf_5 (by decide) ge_11 hv ?_
  refine lv_istore_n (lv' := [(3, .int v1), (0, .ref (ad γ 1)), (1, .int x1), (2, .int x2)]) hx hb dX3_costIf_6 rfl hl (by decide) rfl (fun ls hl => ?_)
  refine lv_aload_n hx hb dX3_costIf_7 rfl (lv_at hl 1 rfl) ?_
  refine lv_iload_n hx hb dX3_costIf_8 rfl (lv_at hl 2 rfl) ?_
  refine lv_iload_n hx hb dX3_costIf_9 rfl (lv_at hl 3 rfl) ?_
  obtain ⟨T2, hv, h⟩ := bd1_e h
  refine g_kv (g_runV (As := [.int x1, .int x2]) (rest := []) hC hP (c3_moveTo l hv) (by decide) ge_1 rfl u_2_233 yv_X3_moveTo (Nat.le_of_ble_eq_true rfl) rfl hl.1 rfl (Nat.le_of_ble_eq_true rfl) dX3_costIf_10 ⟨by decide, by decide⟩) hS (fun H locs hP hS => ?_)
  refine lv_aload_n hx hb dX3_costIf_13 rfl (lv_at hl 1 rfl) ?_
  obtain ⟨v3, hv, h⟩ := bd1_e h
  refine g_ki (g_runV (As := []) (rest := []) hC hP (c3_totalCost l hv) (by decide) ge_1 rfl u_5_85 yv_X3_totalCost (Nat.le_of_ble_eq_true rfl) rfl hl.1 rfl (Nat.le_of_ble_eq_true rfl) dX3_costIf_14 ⟨by decide, by decide⟩) hS (fun H locs hP hS => ?_)
  refine lv_istore (lv' := [(4, .int v3), (3, .int v1), (0, .ref (ad γ 1)), (1, .int x1), (2, .int x2)]) hx hb dX3_costIf_17 hl (by decide) rfl (fun ls hl => ?_)
  refine lv_aload_n hx hb dX3_costIf_19 rfl (lv_at hl 2 rfl) ?_
  refine lv_iload_n hx hb dX3_costIf_20 rfl (lv_at hl 3 rfl) ?_
  refine lv_iload_n hx hb dX3_costIf_21 rfl (lv_at hl 1 rfl) ?_
  obtain ⟨T4, hv, h⟩ := bd1_e h
  refine g_kv (g_runV (As := [.int x1, .int v1]) (rest := []) hC hP (c3_moveTo l hv) (by decide) ge_1 rfl u_2_233 yv_X3_moveTo (Nat.le_of_ble_eq_true rfl) rfl hl.1 rfl (Nat.le_of_ble_eq_true rfl) dX3_costIf_22 ⟨by decide, by decide⟩) hS (fun H locs hP hS => ?_)
  refine lv_iload hx hb dX3_costIf_25 (lv_at hl 0 rfl) ?_
  cases h
  exact g_iret hC hP hS dX3_costIf_27 rfl
