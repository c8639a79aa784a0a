def r5_thrown (M : OS) : Option Int32 :=
  some (M 0 0)
theorem yv_X5_thrown : gYV yX5_thrown cX5_thrown 1 (some .int) 0 := ⟨u_5_145, u_5_146, u_1_7, u_5_147, ⟨by decide +kernel, by decide +kernel, by decide +kernel⟩, by decide⟩
set_option maxHeartbeats 4000000 in
set_option maxRecDepth 100000 in
theorem c5_thrown (l : Launch) {γ : GA} {sz : Nat} {T P X Y B M : OS} {E : Nat → OS} {O : Nat → Int64} {r0 : Int32} (h : r5_thrown M = some r0) : Met l yX5_thrown (gU yX5_thrown cX5_thrown 1 (some .int)) (gR 0 0 0) (gPc γ [.ref (ad γ 23)] sz (T, P, X, Y, E, B, M, O)) (gQi γ r0 sz (T, P, X, Y, E, B, M, O)) 0 0 (gA γ sz) := by
  refine g_met (fun sz => gQi γ r0 sz (T, P, X, Y, E, B, M, O)) (by decide) (Nat.le_of_ble_eq_true rfl) ?_
  intro p e s m args below meth c ls hC hP hS hl
  have hx := hC.x
  have hb := hC.b
  have hl : lv_has ls 1 [(0, .ref (ad γ 23))] := hl
  unfold r5_thrown at h
  refine lv_aload_n hx hb dX5_thrown_0 rfl (lv_at hl 0 rfl) ?_
  refine g_get hC hP 0 dX5_thrown_1 (by decide) ge_23 rfl inX5 (by decide) rfl u_5_154 ?_
  cases h
  exact g_iret hC hP hS dX5_thrown_4 rfl
def r5_in (x0 : Int32) (x1 : Int32) (x2 : Int32) : Option Int32 :=
  (if x0 < x1 then some 0
  else (if x2 < x0 then some 0
  else some 1))
theorem yv_X5_in : gYS yX5_in cX5_in 3 (some .boolean) 3 := ⟨u_5_211, u_1_7, u_5_212, ⟨by decide +kernel, by decide +kernel, by decide +kernel⟩, by decide⟩
set_option maxHeartbeats 4000000 in
set_option maxRecDepth 100000 in
theorem c5_in (l : Launch) {γ : GA} {sz : Nat} {T P X Y B M : OS} {E : Nat → OS} {O : Nat → Int64} {x0 : Int32} {x1 : Int32} {x2 : Int32} {r0 : Int32} (h : r5_in x0 x1 x2 = some r0) : Met l yX5_in (gU yX5_in cX5_in 3 (some .boolean)) (gR 0 0 0) (gPc γ [.int x0, .int x1, .int x2] sz (T, P, X, Y, E, B, M, O)) (gQi γ r0 sz (T, P, X, Y, E, B, M, O)) 0 0 (gA γ sz) := by
  refine g_met (fun sz => gQi γ r0 sz (T, P, X, Y, E, B, M, O)) (by decide) (Nat.le_of_ble_eq_true rfl) ?_
  intro p e s m args below meth c ls hC hP hS hl
  have hx := hC.x
  have hb := hC.b
  have hl : lv_has ls 3 [(0, .int x0), (1, .int x1), (2, .int x2)] := hl
  unfold r5_in at h
  refine lv_iload_n hx hb dX5_in_0 rfl (lv_at hl 0 rfl) ?_
  refine lv_iload_n hx hb dX5_in_1 rfl (lv_at hl 1 rfl) ?_
  refine lv_icmp_lt (tgt := 14) hx hb dX5_in_2 (by decide) (fun c1 => ?_) (fun c1 => ?_)
  · rw [if_pos c1] at h
    refine lv_iconst (v := 0) hx hb dX5_in_14 (by decide) ?_
    have hz : zz 0 = some 0 := rfl
    cases h
    exact g_zret hC hP hS dX5_in_15 hz rfl
  · rw [if_neg c1] at h
    refine lv_iload_n hx hb dX5_in_5 rfl (lv_at hl 0 rfl) ?_
    refine lv_iload_n hx hb dX5_in_6 rfl (lv_at hl 2 rfl) ?_
    refine lv_icmp_gt (tgt := 14) hx hb dX5_in_7 (by decide) (fun c2 => ?_) (fun c2 => ?_)
    · rw [if_pos c2] at h
      refine lv_iconst (v := 0) hx hb dX5_in_14 (by decide) ?_
      have hz : zz 0 = some 0 := rfl
      cases h
      exact g_zret hC hP hS dX5_in_15 hz rfl
    · rw [if_neg c2] at h
      refine lv_iconst (v := 1) hx hb dX5_in_10 (by decide) ?_
      refine lv_goto (tgt := 15) hx hb dX5_in_11 (by decide) ?_
      have hz : zz 1 = some 1 := rfl
      cases h
      exact g_zret hC hP hS dX5_in_15 hz rfl
def r5_of (M : OS) (x1 : Int32) (x2 : Int32) : Option Int32 :=
  (rd 1008 (M 1) (x1 + x2)).bind fun v1 =>
  some v1
theorem yv_X5_of : gYV yX5_of cX5_of 3 (some .int) 2 := ⟨u_5_231, u_sp_29, u_1_7, u_5_232, ⟨by decide +kernel, by decide +kernel, by decide +kernel⟩, by decide⟩
set_option maxHeartbeats 4000000 in
set_option maxRecDepth 100000 in
theorem c5_of (l : Launch) {γ : GA} {sz : Nat} {T P X Y B M : OS} {E : Nat → OS} {O : Nat → Int64} {x1 : Int32} {x2 : Int32} {r0 : Int32} (h : r5_of M x1 x2 = some r0) : Met l yX5_of (gU yX5_of cX5_of 3 (some .int)) (gR 0 0 0) (gPc γ [.ref (ad γ 23), .int x1, .int x2] sz (T, P, X, Y, E, B, M, O)) (gQi γ r0 sz (T, P, X, Y, E, B, M, O)) 0 0 (gA γ sz) := by
  refine g_met (fun sz => gQi γ r0 sz (T, P, X, Y, E, B, M, O)) (by decide) (Nat.le_of_ble_eq_true rfl) ?_
  intro p e s m args below meth c ls hC hP hS hl
  have hx := hC.x
  have hb := hC.b
  have hl : lv_has ls 3 [(0, .ref (ad γ 23)), (1, .int x1), (2, .int x2)] := hl
  unfold r5_of at h
  refine lv_aload_n hx hb dX5_of_0 rfl (lv_at hl 0 rfl) ?_
  refine g_get hC hP 1 dX5_of_1 (by decide) ge_23 rfl inX5 (by decide) rfl u_5_155 ?_
  refine lv_iload_n hx hb dX5_of_4 rfl (lv_at hl 1 rfl) ?_
  refine lv_iload_n hx hb dX5_of_5 rfl (lv_at hl 2 rfl) ?_
  refine lv_iadd hx hb dX5_of_6 ?_
  obtain ⟨v1, hv, h⟩ := ob h
  refine g_ld hC hP dX5_of_7 (by decide) ge_24 hv ?_
  cases h
  exact g_iret hC hP hS dX5_of_8 rfl
def r5_many (M : OS) : Option Int32 :=
  (rd 1008 (M 1) 27).bind fun v1 =>
  some v1
theorem yv_X5_many : gYV yX5_many cX5_many 1 (some .int) 0 := ⟨u_5_227, u_sp_28, u_1_7, u_5_228, ⟨by decide +kernel, by decide +kernel, by decide +kernel⟩, by decide⟩
set_option maxHeartbeats 4000000 in
set_option maxRecDepth 100000 in
theorem c5_many (l : Launch) {γ : GA} {sz : Nat} {T P X Y B M : OS} {E : Nat → OS} {O : Nat → Int64} {r0 : Int32} (h : r5_many M = some r0) : Met l yX5_many (gU yX5_many cX5_many 1 (some .int)) (gR 0 0 0) (gPc γ [.ref (ad γ 23)] sz (T, P, X, Y, E, B, M, O)) (gQi γ r0 sz (T, P, X, Y, E, B, M, O)) 0 0 (gA γ sz) := by
  refine g_met (fun sz => gQi γ r0 sz (T, P, X, Y, E, B, M, O)) (by decide) (Nat.le_of_ble_eq_true rfl) ?_
  intro p e s m args below meth c ls hC hP hS hl
  have hx := hC.x
  have hb := hC.b
  have hl : lv_has ls 1 [(0, .ref (ad γ 23))] := hl
  unfold r5_many at h
  refine lv_aload_n hx hb dX5_many_0 rfl (lv_at hl 0 rfl) ?_
  refine g_get hC hP 1 dX5_many_1 (by decide) ge_23 rfl inX5 (by decide) rfl u_5_155 ?_
  refine lv_bipush (v := 27) hx hb dX5_many_4 (by decide) ?_
  obtain ⟨v1, hv, h⟩ := ob h
  refine g_ld hC hP dX5_many_6 (by decide) ge_24 hv ?_
  cases h
  exact g_iret hC hP hS dX5_many_7 rfl
def r5_isEvent (M : OS) (x1 : Int32) : Option Int32 :=
  bd1 (r5_many M) (fun v1 =>
  bd1 (r5_in x1 0 (v1 - 1)) (fun v2 =>
  (zz v2).bind fun v3 =>
  some v3))
theorem yv_X5_isEvent : gYV yX5_isEvent cX5_isEvent 2 (some .boolean) 1 := ⟨u_6_73, u_sp_40, u_1_7, u_6_74, ⟨by decide +kernel, by decide +kernel, by decide +kernel⟩, by decide⟩
set_option maxHeartbeats 4000000 in
set_option maxRecDepth 100000 in
theorem c5_isEvent (l : Launch) {γ : GA} {sz : Nat} {T P X Y B M : OS} {E : Nat → OS} {O : Nat → Int64} {x1 : Int32} {r0 : Int32} (h : r5_isEvent M x1 = some r0) : Met l yX5_isEvent (gU yX5_isEvent cX5_isEvent 2 (some .boolean)) (gR 1 0 0) (gPc γ [.ref (ad γ 23), .int x1] sz (T, P, X, Y, E, B, M, O)) (gQi γ r0 sz (T, P, X, Y, E, B, M, O)) 0 0 (gA γ sz) := by
  refine g_met (fun sz => gQi γ r0 sz (T, P, X, Y, E, B, M, O)) (by decide) (Nat.le_of_ble_eq_true rfl) ?_
  intro p e s m args below meth c ls hC hP hS hl
  have hx := hC.x
  have hb := hC.b
  have hl : lv_has ls 2 [(0, .ref (ad γ 23)), (1, .int x1)] := hl
  unfold r5_isEvent at h
  refine lv_iload_n hx hb dX5_isEvent_0 rfl (lv_at hl 1 rfl) ?_
  refine lv_iconst (v := 0) hx hb dX5_isEvent_1 (by decide) ?_
  refine lv_aload_n hx hb dX5_isEvent_2 rfl (lv_at hl 0 rfl) ?_
  obtain ⟨v1, hv, h⟩ := bd1_e h
  refine g_ki (g_runV (As := []) (rest := [.int 0, .int x1]) hC hP (c5_many l hv) (by decide) ge_23 rfl u_5_225 yv_X5_many (Nat.le_of_ble_eq_true rfl) rfl hl.1 rfl (Nat.le_of_ble_eq_true rfl) dX5_isEvent_3 ⟨by decide, by decide⟩) hS (fun H locs hP hS => ?_)
  refine lv_iconst (v := 1) hx hb dX5_isEvent_6 (by decide) ?_
  refine lv_isub hx hb dX5_isEvent_7 ?_
  obtain ⟨v2, hv, h⟩ := bd1_e h
  refine g_ki (g_runS (As := [.int x1, .int 0, .int (v1 - 1)]) (rest := []) hC hP (c5_in l hv) u_5_210 yv_X5_in (Nat.le_of_ble_eq_true rfl) rfl hl.1 rfl (Nat.le_of_ble_eq_true rfl) dX5_isEvent_8 ⟨by decide, by decide⟩) hS (fun H locs hP hS => ?_)
  obtain ⟨v3, hz, h⟩ := ob h
  cases h
  exact g_zret hC hP hS dX5_isEvent_11 hz rfl
def r5_copies_b2 (x1 : Int32) (x2 : Int32) (M_2 : OS) (x3_2 : Int32) : Option ((OS × Int32) ⊕ (OS)) :=
  (if 126 ≤ x3_2 then some (.inr M_2)
  else (rd 1008 (M_2 1) ((126 * x1) + x3_2)).bind fun v2 =>
  (wr 1008 M_2 1 ((126 * x2) + x3_2) v2).bind fun M3 =>
  some (.inl (M3, (x3_2 + 1))))
def r5_copies (M : OS) (x1 : Int32) (x2 : Int32) : Option OS :=
  bd1 (it2 (r5_copies_b2 x1 x2) 200 M 0) (fun M_x2 => some M_x2)
theorem yv_X5_copies : gYV yX5_copies cX5_copies 4 none 2 := ⟨u_5_219, u_sp_26, u_1_7, u_5_220, ⟨by decide +kernel, by decide +kernel, by decide +kernel⟩, by decide⟩
set_option maxHeartbeats 4000000 in
set_option maxRecDepth 100000 in
theorem c5_copies (l : Launch) {γ : GA} {sz : Nat} {T P X Y B M : OS} {E : Nat → OS} {O : Nat → Int64} {x1 : Int32} {x2 : Int32} {Mz : OS} (h : r5_copies M x1 x2 = some Mz) : Met l yX5_copies (gU yX5_copies cX5_copies 4 none) (gR 0 0 0) (gPc γ [.ref (ad γ 23), .int x1, .int x2] sz (T, P, X, Y, E, B, M, O)) (gQv γ sz (T, P, X, Y, E, B, Mz, O)) 0 0 (gA γ sz) := by
  refine g_met (fun sz => gQv γ sz (T, P, X, Y, E, B, Mz, O)) (by decide) (Nat.le_of_ble_eq_true rfl) ?_
  intro p e s m args below meth c ls hC hP hS hl
  have hx := hC.x
  have hb := hC.b
  have hl : lv_has ls 4 [(0, .ref (ad γ 23)), (1, .int x1), (2, .int x2)] := hl
  unfold r5_copies at h
  refine lv_iconst (v := 0) hx hb dX5_copies_0 (by decide) ?_
  refine lv_istore_n (lv' := [(3, .int 0), (0, .ref (ad γ 23)), (1, .int x1), (2, .int x2)]) hx hb dX5_copies_1 rfl hl (by decide) rfl (fun ls hl => ?_)
  have L2 := it2_W (r5_copies_b2 x1 x2) (fun (M_2 : OS) (x3_2 : Int32) => ∀ (H : Heap) (locs : List Loc) (ls : Array Slot), va_P γ.1 vwCl (gw γ (T, P, X, Y, E, B, M_2, O)) H → va_S (gA γ s.heap.size) s.heap H locs → lv_has ls 4 [(0, .ref (ad γ 23)), (1, .int x1), (2, .int x2), (3, .int x3_2)] → W p l e (gR 0 0 0) s m args below meth c H locs 0 0 (MQ below (gQv γ s.heap.size (T, P, X, Y, E, B, Mz, O)) args s 0 0 (gA γ s.heap.size)) (F0 m 2 ls [])) (fun (r_k : OS) => (∀ (M_x2 : OS), r_k = M_x2 → ∀ (H : Heap) (locs : List Loc) (ls : Array Slot), va_P γ.1 vwCl (gw γ (T, P, X, Y, E, B, M_x2, O)) H → va_S (gA γ s.heap.size) s.heap H locs → lv_has ls 4 [] → W p l e (gR 0 0 0) s m args below meth c H locs 0 0 (MQ below (gQv γ s.heap.size (T, P, X, Y, E, B, Mz, O)) args s 0 0 (gA γ s.heap.size)) (F0 m 36 ls []))) (by
    intro M_2 x3_2 o_2 h kS kR H locs ls hP hS hl
    unfold r5_copies_b2 at h
    refine lv_iload_n hx hb dX5_copies_2 rfl (lv_at hl 3 rfl) ?_
    refine lv_bipush (v := 126) hx hb dX5_copies_3 (by decide) ?_
    refine lv_icmp_ge (tgt := 36) hx hb dX5_copies_5 (by decide) (fun c1 => ?_) (fun c1 => ?_)
    · rw [if_pos c1] at h
      cases h
      exact kR _ rfl _ rfl _ _ _ hP hS (lv_sub hl [] rfl)
    · rw [if_neg c1] at h
      refine lv_aload_n hx hb dX5_copies_8 rfl (lv_at hl 0 rfl) ?_
      refine g_get hC hP 1 dX5_copies_9 (by decide) ge_23 rfl inX5 (by decide) rfl u_5_155 ?_
      refine lv_bipush (v := 126) hx hb dX5_copies_12 (by decide) ?_
      refine lv_iload_n hx hb dX5_copies_14 rfl (lv_at hl 2 rfl) ?_
      refine lv_imul hx hb dX5_copies_15 ?_
      refine lv_iload_n hx hb dX5_copies_16 rfl (lv_at hl 3 rfl) ?_
      refine lv_iadd hx hb dX5_copies_17 ?_
      refine lv_aload_n hx hb dX5_copies_18 rfl (lv_at hl 0 rfl) ?_
      refine g_get hC hP 1 dX5_copies_19 (by decide) ge_23 rfl inX5 (by decide) rfl u_5_155 ?_
      refine lv_bipush (v := 126) hx hb dX5_copies_22 (by decide) ?_
      refine lv_iload_n hx hb dX5_copies_24 rfl (lv_at hl 1 rfl) ?_
      refine lv_imul hx hb dX5_copies_25 ?_
      refine lv_iload_n hx hb dX5_copies_26 rfl (lv_at hl 3 rfl) ?_
      refine lv_iadd hx hb dX5_copies_27 ?_
      obtain ⟨v2, hv, h⟩ := ob h
      refine g_ld hC hP dX5_copies_28 (by decide) ge_24 hv ?_
      obtain ⟨M3, hv, h⟩ := ob h
      refine g_st hC hP hS (fun Z => (T, P, X, Y, E, B, Z, O)) dX5_copies_29 (by decide) ge_24 gs_24 hv (fun H locs hP hS => ?_)
      refine lv_iinc (v := (x3_2 + 1)) (lv' := [(3, .int (x3_2 + 1)), (0, .ref (ad γ 23)), (1, .int x1), (2, .int x2)]) hx hb dX5_copies_30 hl (k := 3) rfl rfl (by decide) rfl (fun ls hl => ?_)
      refine lv_goto (tgt := 2) hx hb dX5_copies_33 (by decide) ?_
      cases h
      exact kS _ _ rfl _ _ _ hP hS (lv_sub hl [1, 2, 3, 0] rfl))
  obtain ⟨M_x2, hv, h⟩ := bd1_e h
  refine L2 _ _ _ _ hv (fun q0 e9 H locs ls hP hS hl => ?_) _ _ _ hP hS (lv_sub hl [1, 2, 3, 0] rfl)
  obtain rfl := e9
  cases h
  exact g_vret hC hP hS dX5_copies_36
def r5_keeps_j41 (M_41 : OS)  : Option OS :=
  (sw M_41 2 ((M_41 2 0) + 1)).bind fun M1 =>
  bd1 (r5_copies M1 0 (M1 2 0)) (fun M2 =>
  some M2)
def r5_keeps_b11 (M_11 : OS) (x1_11 : Int32) : Option ((OS × Int32) ⊕ (OS)) :=
  (if 6 ≤ x1_11 then some (.inr M_11)
  else bd1 (r5_copies M_11 (x1_11 + 1) x1_11) (fun M5 =>
  some (.inl (M5, (x1_11 + 1)))))
def r5_keeps (M : OS) : Option OS :=
  (if (M 2 0) = 6 then bd1 (it2 r5_keeps_b11 200 M 1) (fun M_x11 => (sw M_x11 2 ((M_x11 2 0) - 1)).bind fun M6 =>
  r5_keeps_j41 M6)
  else r5_keeps_j41 M)
theorem yv_X5_keeps : gYV yX5_keeps cX5_keeps 2 none 0 := ⟨u_5_215, u_sp_25, u_1_7, u_5_216, ⟨by decide +kernel, by decide +kernel, by decide +kernel⟩, by decide⟩
set_option maxHeartbeats 4000000 in
set_option maxRecDepth 100000 in
theorem c5_keeps (l : Launch) {γ : GA} {sz : Nat} {T P X Y B M : OS} {E : Nat → OS} {O : Nat → Int64} {Mz : OS} (h : r5_keeps M = some Mz) : Met l yX5_keeps (gU yX5_keeps cX5_keeps 2 none) (gR 1 0 0) (gPc γ [.ref (ad γ 23)] sz (T, P, X, Y, E, B, M, O)) (gQv γ sz (T, P, X, Y, E, B, Mz, O)) 0 0 (gA γ sz) := by
  refine g_met (fun sz => gQv γ sz (T, P, X, Y, E, B, Mz, O)) (by decide) (Nat.le_of_ble_eq_true rfl) ?_
  intro p e s m args below meth c ls hC hP hS hl
  have hx := hC.x
  have hb := hC.b
  have hl : lv_has ls 2 [(0, .ref (ad γ 23))] := hl
  unfold r5_keeps at h
  have J41 : ∀ (M_41 : OS) (h : r5_keeps_j41 M_41 = some Mz), ∀ (H : Heap) (locs : List Loc) (ls : Array Slot), va_P γ.1 vwCl (gw γ (T, P, X, Y, E, B, M_41, O)) H → va_S (gA γ s.heap.size) s.heap H locs → lv_has ls 2 [(0, .ref (ad γ 23))] → W p l e (gR 1 0 0) s m args below meth c H locs 0 0 (MQ below (gQv γ s.heap.size (T, P, X, Y, E, B, Mz, O)) args s 0 0 (gA γ s.heap.size)) (F0 m 41 ls []) := by
    intro M_41 h H locs ls hP hS hl
    unfold r5_keeps_j41 at h
    refine lv_aload_n hx hb dX5_keeps_41 rfl (lv_at hl 0 rfl) ?_
    refine lv_dup hx hb dX5_keeps_42 rfl ?_
    refine g_get hC hP 2 dX5_keeps_43 (by decide) ge_23 rfl inX5 (by decide) rfl u_5_156 ?_
    refine lv_iconst (v := 1) hx hb dX5_keeps_46 (by decide) ?_
    refine lv_iadd hx hb dX5_keeps_47 ?_
    obtain ⟨M1, hv, h⟩ := ob h
    refine g_putI hC hP hS (fun Z => (T, P, X, Y, E, B, Z, O)) 2 tyX5 dX5_keeps_48 (by decide) ge_23 rfl inX5 tyX5_ok nmX5 (by decide) u_5_156 rfl rfl (Nat.le_of_ble_eq_true rfl) gp_23_2 hv (fun H locs hP hS => ?_)
    refine lv_aload_n hx hb dX5_keeps_51 rfl (lv_at hl 0 rfl) ?_
    refine lv_iconst (v := 0) hx hb dX5_keeps_52 (by decide) ?_
    refine lv_aload_n hx hb dX5_keeps_53 rfl (lv_at hl 0 rfl) ?_
    refine g_get hC hP 2 dX5_keeps_54 (by decide) ge_23 rfl inX5 (by decide) rfl u_5_156 ?_
    obtain ⟨M2, hv, h⟩ := bd1_e h
    refine g_kv (g_runV (As := [.int 0, .int (M1 2 0)]) (rest := []) hC hP (c5_copies l hv) (by decide) ge_23 rfl u_5_217 yv_X5_copies (Nat.le_of_ble_eq_true rfl) rfl hl.1 rfl (Nat.le_of_ble_eq_true rfl) dX5_keeps_57 ⟨by decide, by decide⟩) hS (fun H locs hP hS => ?_)
    cases h
    exact g_vret hC hP hS dX5_keeps_60
  refine lv_aload_n hx hb dX5_keeps_0 rfl (lv_at hl 0 rfl) ?_
  refine g_get hC hP 2 dX5_keeps_1 (by decide) ge_23 rfl inX5 (by decide) rfl u_5_156 ?_
  refine lv_bipush (v := 6) hx hb dX5_keeps_4 (by decide) ?_
  refine lv_icmp_ne (tgt := 41) hx hb dX5_keeps_6 (by decide) (fun c3 => ?_) (fun c3 => ?_)
  · rw [if_neg c3] at h
    exact J41 M h _ _ _ hP hS (lv_sub hl [0] rfl)
  · rw [if_pos c3] at h
    refine lv_iconst (v := 1) hx hb dX5_keeps_9 (by decide) ?_
    refine lv_istore_n (lv' := [(1, .int 1), (0, .ref (ad γ 23))]) hx hb dX5_keeps_10 rfl hl (by decide) rfl (fun ls hl => ?_)
    have L11 := it2_W r5_keeps_b11 (fun (M_11 : OS) (x1_11 : Int32) => ∀ (H : Heap) (locs : List Loc) (ls : Array Slot), va_P γ.1 vwCl (gw γ (T, P, X, Y, E, B, M_11, O)) H → va_S (gA γ s.heap.size) s.heap H locs → lv_has ls 2 [(0, .ref (ad γ 23)), (1, .int x1_11)] → W p l e (gR 1 0 0) s m args below meth c H locs 0 0 (MQ below (gQv γ s.heap.size (T, P, X, Y, E, B, Mz, O)) args s 0 0 (gA γ s.heap.size)) (F0 m 11 ls [])) (fun (r_k : OS) => (∀ (M_x11 : OS), r_k = M_x11 → ∀ (H : Heap) (locs : List Loc) (ls : Array Slot), va_P γ.1 vwCl (gw γ (T, P, X, Y, E, B, M_x11, O)) H → va_S (gA γ s.heap.size) s.heap H locs → lv_has ls 2 [(0, .ref (ad γ 23))] → W p l e (gR 1 0 0) s m args below meth c H locs 0 0 (MQ below (gQv γ s.heap.size (T, P, X, Y, E, B, Mz, O)) args s 0 0 (gA γ s.heap.size)) (F0 m 31 ls []))) (by
      intro M_11 x1_11 o_11 h kS kR H locs ls hP hS hl
      unfold r5_keeps_b11 at h
      refine lv_iload_n hx hb dX5_keeps_11 rfl (lv_at hl 1 rfl) ?_
      refine lv_bipush (v := 6) hx hb dX5_keeps_12 (by decide) ?_
      refine lv_icmp_ge (tgt := 31) hx hb dX5_keeps_14 (by decide) (fun c4 => ?_) (fun c4 => ?_)
      · rw [if_pos c4] at h
        cases h
        exact kR _ rfl _ rfl _ _ _ hP hS (lv_sub hl [0] rfl)
      · rw [if_neg c4] at h
        refine lv_aload_n hx hb dX5_keeps_17 rfl (lv_at hl 0 rfl) ?_
        refine lv_iload_n hx hb dX5_keeps_18 rfl (lv_at hl 1 rfl) ?_
        refine lv_iconst (v := 1) hx hb dX5_keeps_19 (by decide) ?_
        refine lv_iadd hx hb dX5_keeps_20 ?_
        refine lv_iload_n hx hb dX5_keeps_21 rfl (lv_at hl 1 rfl) ?_
        obtain ⟨M5, hv, h⟩ := bd1_e h
        refine g_kv (g_runV (As := [.int (x1_11 + 1), .int x1_11]) (rest := []) hC hP (c5_copies l hv) (by decide) ge_23 rfl u_5_217 yv_X5_copies (Nat.le_of_ble_eq_true rfl) rfl hl.1 rfl (Nat.le_of_ble_eq_true rfl) dX5_keeps_22 ⟨by decide, by decide⟩) hS (fun H locs hP hS => ?_)
        refine lv_iinc (v := (x1_11 + 1)) (lv' := [(1, .int (x1_11 + 1)), (0, .ref (ad γ 23))]) hx hb dX5_keeps_25 hl (k := 1) rfl rfl (by decide) rfl (fun ls hl => ?_)
        refine lv_goto (tgt := 11) hx hb dX5_keeps_28 (by decide) ?_
        cases h
        exact kS _ _ rfl _ _ _ hP hS (lv_sub hl [1, 0] rfl))
    obtain ⟨M_x11, hv, h⟩ := bd1_e h
    refine L11 _ _ _ _ hv (fun q0 e9 H locs ls hP hS hl => ?_) _ _ _ hP hS (lv_sub hl [1, 0] rfl)
    obtain rfl := e9
    refine lv_aload_n hx hb dX5_keeps_31 rfl (lv_at hl 0 rfl) ?_
    refine lv_dup hx hb dX5_keeps_32 rfl ?_
    refine g_get hC hP 2 dX5_keeps_33 (by decide) ge_23 rfl inX5 (by decide) rfl u_5_156 ?_
    refine lv_iconst (v := 1) hx hb dX5_keeps_36 (by decide) ?_
    refine lv_isub hx hb dX5_keeps_37 ?_
    obtain ⟨M6, hv, h⟩ := ob h
    refine g_putI hC hP hS (fun Z => (T, P, X, Y, E, B, Z, O)) 2 tyX5 dX5_keeps_38 (by decide) ge_23 rfl inX5 tyX5_ok nmX5 (by decide) u_5_156 rfl rfl (Nat.le_of_ble_eq_true rfl) gp_23_2 hv (fun H locs hP hS => ?_)
    exact J41 M6 h _ _ _ hP hS (lv_sub hl [0] rfl)
def r5_isLast (x0 : Int32) : Option Int32 :=
  (if (im x0 5) = 4 then some 1
  else some 0)
theorem yv_X5_isLast : gYS yX5_isLast cX5_isLast 1 (some .boolean) 1 := ⟨u_6_2, u_1_7, u_6_3, ⟨by decide +kernel, by decide +kernel, by decide +kernel⟩, by decide⟩
set_option maxHeartbeats 4000000 in
set_option maxRecDepth 100000 in
theorem c5_isLast (l : Launch) {γ : GA} {sz : Nat} {T P X Y B M : OS} {E : Nat → OS} {O : Nat → Int64} {x0 : Int32} {r0 : Int32} (h : r5_isLast x0 = some r0) : Met l yX5_isLast (gU yX5_isLast cX5_isLast 1 (some .boolean)) (gR 0 0 0) (gPc γ [.int x0] sz (T, P, X, Y, E, B, M, O)) (gQi γ r0 sz (T, P, X, Y, E, B, M, O)) 0 0 (gA γ sz) := by
  refine g_met (fun sz => gQi γ r0 sz (T, P, X, Y, E, B, M, O)) (by decide) (Nat.le_of_ble_eq_true rfl) ?_
  intro p e s m args below meth c ls hC hP hS hl
  have hx := hC.x
  have hb := hC.b
  have hl : lv_has ls 1 [(0, .int x0)] := hl
  unfold r5_isLast at h
  refine lv_iload_n hx hb dX5_isLast_0 rfl (lv_at hl 0 rfl) ?_
  refine lv_iconst (v := 5) hx hb dX5_isLast_1 (by decide) ?_
  refine lv_irem hx hb dX5_isLast_2 (by decide) ?_
  refine lv_iconst (v := 4) hx hb dX5_isLast_3 (by decide) ?_
  refine lv_icmp_ne (tgt := 11) hx hb dX5_isLast_4 (by decide) (fun c1 => ?_) (fun c1 => ?_)
  · rw [if_neg c1] at h
    refine lv_iconst (v := 0) hx hb dX5_isLast_11 (by decide) ?_
    have hz : zz 0 = some 0 := rfl
    cases h
    exact g_zret hC hP hS dX5_isLast_12 hz rfl
  · rw [if_pos c1] at h
    refine lv_iconst (v := 1) hx hb dX5_isLast_7 (by decide) ?_
    refine lv_goto (tgt := 12) hx hb dX5_isLast_8 (by decide) ?_
    have hz : zz 1 = some 1 := rfl
    cases h
    exact g_zret hC hP hS dX5_isLast_12 hz rfl
def r5_slots (x0 : Int32) (x1 : Int32) : Option Int32 :=
  (if x1 = 2 then bd1 (r5_isLast x0) (fun v2 =>
  (if v2 = 0 then some ((1 <<< (x0 &&& 31)) ||| (1 <<< ((x0 + 1) &&& 31)))
  else some ((1 <<< (x0 &&& 31)) ||| 0)))
  else some ((1 <<< (x0 &&& 31)) ||| 0))
theorem yv_X5_slots : gYS yX5_slots cX5_slots 2 (some .int) 2 := ⟨u_6_5, u_1_7, u_6_6, ⟨by decide +kernel, by decide +kernel, by decide +kernel⟩, by decide⟩
set_option maxHeartbeats 4000000 in
set_option maxRecDepth 100000 in
theorem c5_slots (l : Launch) {γ : GA} {sz : Nat} {T P X Y B M : OS} {E : Nat → OS} {O : Nat → Int64} {x0 : Int32} {x1 : Int32} {r0 : Int32} (h : r5_slots x0 x1 = some r0) : Met l yX5_slots (gU yX5_slots cX5_slots 2 (some .int)) (gR 1 0 0) (gPc γ [.int x0, .int x1] sz (T, P, X, Y, E, B, M, O)) (gQi γ r0 sz (T, P, X, Y, E, B, M, O)) 0 0 (gA γ sz) := by
  refine g_met (fun sz => gQi γ r0 sz (T, P, X, Y, E, B, M, O)) (by decide) (Nat.le_of_ble_eq_true rfl) ?_
  intro p e s m args below meth c ls hC hP hS hl
  have hx := hC.x
  have hb := hC.b
  have hl : lv_has ls 2 [(0, .int x0), (1, .int x1)] := hl
  unfold r5_slots at h
  refine lv_iconst (v := 1) hx hb dX5_slots_0 (by decide) ?_
  refine lv_iload_n hx hb dX5_slots_1 rfl (lv_at hl 0 rfl) ?_
  refine lv_ishl hx hb dX5_slots_2 ?_
  refine lv_iload_n hx hb dX5_slots_3 rfl (lv_at hl 1 rfl) ?_
  refine lv_iconst (v := 2) hx hb dX5_slots_4 (by decide) ?_
  refine lv_icmp_ne (tgt := 23) hx hb dX5_slots_5 (by decide) (fun c1 => ?_) (fun c1 => ?_)
  · rw [if_neg c1] at h
    refine lv_iconst (v := 0) hx hb dX5_slots_23 (by decide) ?_
    refine lv_ior hx hb dX5_slots_24 ?_
    cases h
    exact g_iret hC hP hS dX5_slots_25 rfl
  · rw [if_pos c1] at h
    refine lv_iload_n hx hb dX5_slots_8 rfl (lv_at hl 0 rfl) ?_
    obtain ⟨v2, hv, h⟩ := bd1_e h
    refine g_ki (g_runS (As := [.int x0]) (rest := [.int (1 <<< (x0 &&& 31))]) hC hP (c5_isLast l hv) u_6_1 yv_X5_isLast (Nat.le_of_ble_eq_true rfl) rfl hl.1 rfl (Nat.le_of_ble_eq_true rfl) dX5_slots_9 ⟨by decide, by decide⟩) hS (fun H locs hP hS => ?_)
    refine lv_if_ne (tgt := 23) hx hb dX5_slots_12 (by decide) (fun c3 => ?_) (fun c3 => ?_)
    · rw [if_neg c3] at h
      refine lv_iconst (v := 0) hx hb dX5_slots_23 (by decide) ?_
      refine lv_ior hx hb dX5_slots_24 ?_
      cases h
      exact g_iret hC hP hS dX5_slots_25 rfl
    · rw [if_pos c3] at h
      refine lv_iconst (v := 1) hx hb dX5_slots_15 (by decide) ?_
      refine lv_iload_n hx hb dX5_slots_16 rfl (lv_at hl 0 rfl) ?_
      refine lv_iconst (v := 1) hx hb dX5_slots_17 (by decide) ?_
      refine lv_iadd hx hb dX5_slots_18 ?_
      refine lv_ishl hx hb dX5_slots_19 ?_
      refine lv_goto (tgt := 24) hx hb dX5_slots_20 (by decide) ?_
      refine lv_ior hx hb dX5_slots_24 ?_
      cases h
      exact g_iret hC hP hS dX5_slots_25 rfl
def r5_slotsOf (M : OS) (x1 : Int32) : Option Int32 :=
  bd1 (r5_of M 84 x1) (fun v1 =>
  (if 0 ≤ v1 then bd1 (r5_of M 84 x1) (fun v3 =>
  bd1 (r5_of M 70 x1) (fun v4 =>
  bd1 (r5_slots (v3 / 6) v4) (fun v5 =>
  some v5)))
  else some 0))
theorem yv_X5_slotsOf : gYV yX5_slotsOf cX5_slotsOf 2 (some .int) 1 := ⟨u_6_17, u_sp_34, u_1_7, u_6_18, ⟨by decide +kernel, by decide +kernel, by decide +kernel⟩, by decide⟩
set_option maxHeartbeats 4000000 in
set_option maxRecDepth 100000 in
theorem c5_slotsOf (l : Launch) {γ : GA} {sz : Nat} {T P X Y B M : OS} {E : Nat → OS} {O : Nat → Int64} {x1 : Int32} {r0 : Int32} (h : r5_slotsOf M x1 = some r0) : Met l yX5_slotsOf (gU yX5_slotsOf cX5_slotsOf 2 (some .int)) (gR 2 0 0) (gPc γ [.ref (ad γ 23), .int x1] sz (T, P, X, Y, E, B, M, O)) (gQi γ r0 sz (T, P, X, Y, E, B, M, O)) 0 0 (gA γ sz) := by
  refine g_met (fun sz => gQi γ r0 sz (T, P, X, Y, E, B, M, O)) (by decide) (Nat.le_of_ble_eq_true rfl) ?_
  intro p e s m args below meth c ls hC hP hS hl
  have hx := hC.x
  have hb := hC.b
  have hl : lv_has ls 2 [(0, .ref (ad γ 23)), (1, .int x1)] := hl
  unfold r5_slotsOf at h
  refine lv_aload_n hx hb dX5_slotsOf_0 rfl (lv_at hl 0 rfl) ?_
  refine lv_bipush (v := 84) hx hb dX5_slotsOf_1 (by decide) ?_
  refine lv_iload_n hx hb dX5_slotsOf_3 rfl (lv_at hl 1 rfl) ?_
  obtain ⟨v1, hv, h⟩ := bd1_e h
  refine g_ki (g_runV (As := [.int 84, .int x1]) (rest := []) hC hP (c5_of l hv) (by decide) ge_23 rfl u_5_229 yv_X5_of (Nat.le_of_ble_eq_true rfl) rfl hl.1 rfl (Nat.le_of_ble_eq_true rfl) dX5_slotsOf_4 ⟨by decide, by decide⟩) hS (fun H locs hP hS => ?_)
  refine lv_if_ge (tgt := 14) hx hb dX5_slotsOf_7 (by decide) (fun c2 => ?_) (fun c2 => ?_)
  · rw [if_pos c2] at h
    refine lv_aload_n hx hb dX5_slotsOf_14 rfl (lv_at hl 0 rfl) ?_
    refine lv_bipush (v := 84) hx hb dX5_slotsOf_15 (by decide) ?_
    refine lv_iload_n hx hb dX5_slotsOf_17 rfl (lv_at hl 1 rfl) ?_
    obtain ⟨v3, hv, h⟩ := bd1_e h
    refine g_ki (g_runV (As := [.int 84, .int x1]) (rest := []) hC hP (c5_of l hv) (by decide) ge_23 rfl u_5_229 yv_X5_of (Nat.le_of_ble_eq_true rfl) rfl hl.1 rfl (Nat.le_of_ble_eq_true rfl) dX5_slotsOf_18 ⟨by decide, by decide⟩) hS (fun H locs hP hS => ?_)
    refine lv_bipush (v := 6) hx hb dX5_slotsOf_21 (by decide) ?_
    refine lv_idiv hx hb dX5_slotsOf_23 (by decide) ?_
    refine lv_aload_n hx hb dX5_slotsOf_24 rfl (lv_at hl 0 rfl) ?_
    refine lv_bipush (v := 70) hx hb dX5_slotsOf_25 (by decide) ?_
    refine lv_iload_n hx hb dX5_slotsOf_27 rfl (lv_at hl 1 rfl) ?_
    obtain ⟨v4, hv, h⟩ := bd1_e h
    refine g_ki (g_runV (As := [.int 70, .int x1]) (rest := [.int (v3 / 6)]) hC hP (c5_of l hv) (by decide) ge_23 rfl u_5_229 yv_X5_of (Nat.le_of_ble_eq_true rfl) rfl hl.1 rfl (Nat.le_of_ble_eq_true rfl) dX5_slotsOf_28 ⟨by decide, by decide⟩) hS (fun H locs hP hS => ?_)
    obtain ⟨v5, hv, h⟩ := bd1_e h
    refine g_ki (g_runS (As := [.int (v3 / 6), .int v4]) (rest := []) hC hP (c5_slots l hv) u_6_4 yv_X5_slots (Nat.le_of_ble_eq_true rfl) rfl hl.1 rfl (Nat.le_of_ble_eq_true rfl) dX5_slotsOf_31 ⟨by decide, by decide⟩) hS (fun H locs hP hS => ?_)
    cases h
    exact g_iret hC hP hS dX5_slotsOf_34 rfl
  · rw [if_neg c2] at h
    refine lv_iconst (v := 0) hx hb dX5_slotsOf_10 (by decide) ?_
    refine lv_goto (tgt := 34) hx hb dX5_slotsOf_11 (by decide) ?_
    cases h
    exact g_iret hC hP hS dX5_slotsOf_34 rfl
def r5_sizeOf_b4 (M : OS) (x1 : Int32) (x2_4 : Int32) (x3_4 : Int32) : Option ((Int32 × Int32) ⊕ (Int32)) :=
  (if 6 ≤ x3_4 then some (.inr x2_4)
  else bd1 (r5_of M 12 x3_4) (fun v2 =>
  (some (x2_4 + (((x1 >>> (x3_4 &&& 31)) &&& 1) * v2))).bind fun v3 =>
  some (.inl (v3, (x3_4 + 1)))))
def r5_sizeOf (M : OS) (x1 : Int32) : Option Int32 :=
  bd1 (it2 (r5_sizeOf_b4 M x1) 200 0 0) (fun x2_x4 => some x2_x4)
theorem yv_X5_sizeOf : gYV yX5_sizeOf cX5_sizeOf 4 (some .int) 1 := ⟨u_6_9, u_sp_32, u_1_7, u_6_10, ⟨by decide +kernel, by decide +kernel, by decide +kernel⟩, by decide⟩
set_option maxHeartbeats 4000000 in
set_option maxRecDepth 100000 in
theorem c5_sizeOf (l : Launch) {γ : GA} {sz : Nat} {T P X Y B M : OS} {E : Nat → OS} {O : Nat → Int64} {x1 : Int32} {r0 : Int32} (h : r5_sizeOf M x1 = some r0) : Met l yX5_sizeOf (gU yX5_sizeOf cX5_sizeOf 4 (some .int)) (gR 1 0 0) (gPc γ [.ref (ad γ 23), .int x1] sz (T, P, X, Y, E, B, M, O)) (gQi γ r0 sz (T, P, X, Y, E, B, M, O)) 0 0 (gA γ sz) := by
  refine g_met (fun sz => gQi γ r0 sz (T, P, X, Y, E, B, M, O)) (by decide) (Nat.le_of_ble_eq_true rfl) ?_
  intro p e s m args below meth c ls hC hP hS hl
  have hx := hC.x
  have hb := hC.b
  have hl : lv_has ls 4 [(0, .ref (ad γ 23)), (1, .int x1)] := hl
  unfold r5_sizeOf at h
  refine lv_iconst (v := 0) hx hb dX5_sizeOf_0 (by decide) ?_
  refine lv_istore_n (lv' := [(2, .int 0), (0, .ref (ad γ 23)), (1, .int x1)]) hx hb dX5_sizeOf_1 rfl hl (by decide) rfl (fun ls hl => ?_)
  refine lv_iconst (v := 0) hx hb dX5_sizeOf_2 (by decide) ?_
  refine lv_istore_n (lv' := [(3, .int 0), (2, .int 0), (0, .ref (ad γ 23)), (1, .int x1)]) hx hb dX5_sizeOf_3 rfl hl (by decide) rfl (fun ls hl => ?_)
  have L4 := it2_W (r5_sizeOf_b4 M x1) (fun (x2_4 : Int32) (x3_4 : Int32) => ∀ (H : Heap) (locs : List Loc) (ls : Array Slot), va_P γ.1 vwCl (gw γ (T, P, X, Y, E, B, M, O)) H → va_S (gA γ s.heap.size) s.heap H locs → lv_has ls 4 [(0, .ref (ad γ 23)), (1, .int x1), (2, .int x2_4), (3, .int x3_4)] → W p l e (gR 1 0 0) s m args below meth c H locs 0 0 (MQ below (gQi γ r0 s.heap.size (T, P, X, Y, E, B, M, O)) args s 0 0 (gA γ s.heap.size)) (F0 m 4 ls [])) (fun (r_k : Int32) => (∀ (x2_x4 : Int32), r_k = x2_x4 → ∀ (H : Heap) (locs : List Loc) (ls : Array Slot), va_P γ.1 vwCl (gw γ (T, P, X, Y, E, B, M, O)) H → va_S (gA γ s.heap.size) s.heap H locs → lv_has ls 4 [(2, .int x2_x4)] → W p l e (gR 1 0 0) s m args below meth c H locs 0 0 (MQ below (gQi γ r0 s.heap.size (T, P, X, Y, E, B, M, O)) args s 0 0 (gA γ s.heap.size)) (F0 m 32 ls []))) (by
    intro x2_4 x3_4 o_4 h kS kR H locs ls hP hS hl
    unfold r5_sizeOf_b4 at h
    refine lv_iload_n hx hb dX5_sizeOf_4 rfl (lv_at hl 3 rfl) ?_
    refine lv_bipush (v := 6) hx hb dX5_sizeOf_5 (by decide) ?_
    refine lv_icmp_ge (tgt := 32) hx hb dX5_sizeOf_7 (by decide) (fun c1 => ?_) (fun c1 => ?_)
    · rw [if_pos c1] at h
      cases h
      exact kR _ rfl _ rfl _ _ _ hP hS (lv_sub hl [2] rfl)
    · rw [if_neg c1] at h
      refine lv_iload_n hx hb dX5_sizeOf_10 rfl (lv_at hl 2 rfl) ?_
      refine lv_iload_n hx hb dX5_sizeOf_11 rfl (lv_at hl 1 rfl) ?_
      refine lv_iload_n hx hb dX5_sizeOf_12 rfl (lv_at hl 3 rfl) ?_
      refine lv_ishr hx hb dX5_sizeOf_13 ?_
      refine lv_iconst (v := 1) hx hb dX5_sizeOf_14 (by decide) ?_
      refine lv_iand hx hb dX5_sizeOf_15 ?_
      refine lv_aload_n hx hb dX5_sizeOf_16 rfl (lv_at hl 0 rfl) ?_
      refine lv_bipush (v := 12) hx hb dX5_sizeOf_17 (by decide) ?_
      refine lv_iload_n hx hb dX5_sizeOf_19 rfl (lv_at hl 3 rfl) ?_
      obtain ⟨v2, hv, h⟩ := bd1_e h
      refine g_ki (g_runV (As := [.int 12, .int x3_4]) (rest := [.int ((x1 >>> (x3_4 &&& 31)) &&& 1), .int x2_4]) hC hP (c5_of l hv) (by decide) ge_23 rfl u_5_229 yv_X5_of (Nat.le_of_ble_eq_true rfl) rfl hl.1 rfl (Nat.le_of_ble_eq_true rfl) dX5_sizeOf_20 ⟨by decide, by decide⟩) hS (fun H locs hP hS => ?_)
      refine lv_imul hx hb dX5_sizeOf_23 ?_
      refine lv_iadd hx hb dX5_sizeOf_24 ?_
      obtain ⟨v3, hv, h⟩ := ob h
      refine lv_topi (fun y9 ey9 => ?_)
      obtain rfl : v3 = y9 := (Option.some.inj hv).symm.trans ey9.symm
      clear hv ey9
      refine lv_istore_n (lv' := [(2, .int v3), (0, .ref (ad γ 23)), (1, .int x1), (3, .int x3_4)]) hx hb dX5_sizeOf_25 rfl hl (by decide) rfl (fun ls hl => ?_)
      refine lv_iinc (v := (x3_4 + 1)) (lv' := [(3, .int (x3_4 + 1)), (2, .int v3), (0, .ref (ad γ 23)), (1, .int x1)]) hx hb dX5_sizeOf_26 hl (k := 3) rfl rfl (by decide) rfl (fun ls hl => ?_)
      refine lv_goto (tgt := 4) hx hb dX5_sizeOf_29 (by decide) ?_
      cases h
      exact kS _ _ rfl _ _ _ hP hS (lv_sub hl [2, 3, 1, 0] rfl))
  obtain ⟨x2_x4, hv, h⟩ := bd1_e h
  refine L4 _ _ _ _ hv (fun q0 e9 H locs ls hP hS hl => ?_) _ _ _ hP hS (lv_sub hl [2, 3, 1, 0] rfl)
  obtain rfl := e9
  refine lv_iload_n hx hb dX5_sizeOf_32 rfl (lv_at hl 0 rfl) ?_
  cases h
  exact g_iret hC hP hS dX5_sizeOf_33 rfl
def r5_isBound (M : OS) (x1 : Int32) (x2 : Int32) : Option Int32 :=
  bd1 (r5_of M 28 x1) (fun v1 =>
  bd1 (r5_of M 28 x2) (fun v2 =>
  (if v1 = v2 then some 1
  else bd1 (r5_of M 42 x1) (fun v4 =>
  bd1 (r5_of M 42 x2) (fun v5 =>
  (if (v4 &&& v5) = 0 then some 0
  else some 1))))))
theorem yv_X5_isBound : gYV yX5_isBound cX5_isBound 3 (some .boolean) 2 := ⟨u_6_194, u_sp_53, u_1_7, u_6_195, ⟨by decide +kernel, by decide +kernel, by decide +kernel⟩, by decide⟩
set_option maxHeartbeats 4000000 in
set_option maxRecDepth 100000 in
theorem c5_isBound (l : Launch) {γ : GA} {sz : Nat} {T P X Y B M : OS} {E : Nat → OS} {O : Nat → Int64} {x1 : Int32} {x2 : Int32} {r0 : Int32} (h : r5_isBound M x1 x2 = some r0) : Met l yX5_isBound (gU yX5_isBound cX5_isBound 3 (some .boolean)) (gR 1 0 0) (gPc γ [.ref (ad γ 23), .int x1, .int x2] sz (T, P, X, Y, E, B, M, O)) (gQi γ r0 sz (T, P, X, Y, E, B, M, O)) 0 0 (gA γ sz) := by
  refine g_met (fun sz => gQi γ r0 sz (T, P, X, Y, E, B, M, O)) (by decide) (Nat.le_of_ble_eq_true rfl) ?_
  intro p e s m args below meth c ls hC hP hS hl
  have hx := hC.x
  have hb := hC.b
  have hl : lv_has ls 3 [(0, .ref (ad γ 23)), (1, .int x1), (2, .int x2)] := hl
  unfold r5_isBound at h
  refine lv_aload_n hx hb dX5_isBound_0 rfl (lv_at hl 0 rfl) ?_
  refine lv_bipush (v := 28) hx hb dX5_isBound_1 (by decide) ?_
  refine lv_iload_n hx hb dX5_isBound_3 rfl (lv_at hl 1 rfl) ?_
  obtain ⟨v1, hv, h⟩ := bd1_e h
  refine g_ki (g_runV (As := [.int 28, .int x1]) (rest := []) hC hP (c5_of l hv) (by decide) ge_23 rfl u_5_229 yv_X5_of (Nat.le_of_ble_eq_true rfl) rfl hl.1 rfl (Nat.le_of_ble_eq_true rfl) dX5_isBound_4 ⟨by decide, by decide⟩) hS (fun H locs hP hS => ?_)
  refine lv_aload_n hx hb dX5_isBound_7 rfl (lv_at hl 0 rfl) ?_
  refine lv_bipush (v := 28) hx hb dX5_isBound_8 (by decide) ?_
  refine lv_iload_n hx hb dX5_isBound_10 rfl (lv_at hl 2 rfl) ?_
  obtain ⟨v2, hv, h⟩ := bd1_e h
  refine g_ki (g_runV (As := [.int 28, .int x2]) (rest := [.int v1]) hC hP (c5_of l hv) (by decide) ge_23 rfl u_5_229 yv_X5_of (Nat.le_of_ble_eq_true rfl) rfl hl.1 rfl (Nat.le_of_ble_eq_true rfl) dX5_isBound_11 ⟨by decide, by decide⟩) hS (fun H locs hP hS => ?_)
  refine lv_icmp_eq (tgt := 35) hx hb dX5_isBound_14 (by decide) (fun c3 => ?_) (fun c3 => ?_)
  · rw [if_pos c3] at h
    refine lv_iconst (v := 1) hx hb dX5_isBound_35 (by decide) ?_
    refine lv_goto (tgt := 40) hx hb dX5_isBound_36 (by decide) ?_
    have hz : zz 1 = some 1 := rfl
    cases h
    exact g_zret hC hP hS dX5_isBound_40 hz rfl
  · rw [if_neg c3] at h
    refine lv_aload_n hx hb dX5_isBound_17 rfl (lv_at hl 0 rfl) ?_
    refine lv_bipush (v := 42) hx hb dX5_isBound_18 (by decide) ?_
    refine lv_iload_n hx hb dX5_isBound_20 rfl (lv_at hl 1 rfl) ?_
    obtain ⟨v4, hv, h⟩ := bd1_e h
    refine g_ki (g_runV (As := [.int 42, .int x1]) (rest := []) hC hP (c5_of l hv) (by decide) ge_23 rfl u_5_229 yv_X5_of (Nat.le_of_ble_eq_true rfl) rfl hl.1 rfl (Nat.le_of_ble_eq_true rfl) dX5_isBound_21 ⟨by decide, by decide⟩) hS (fun H locs hP hS => ?_)
    refine lv_aload_n hx hb dX5_isBound_24 rfl (lv_at hl 0 rfl) ?_
    refine lv_bipush (v := 42) hx hb dX5_isBound_25 (by decide) ?_
    refine lv_iload_n hx hb dX5_isBound_27 rfl (lv_at hl 2 rfl) ?_
    obtain ⟨v5, hv, h⟩ := bd1_e h
    refine g_ki (g_runV (As := [.int 42, .int x2]) (rest := [.int v4]) hC hP (c5_of l hv) (by decide) ge_23 rfl u_5_229 yv_X5_of (Nat.le_of_ble_eq_true rfl) rfl hl.1 rfl (Nat.le_of_ble_eq_true rfl) dX5_isBound_28 ⟨by decide, by decide⟩) hS (fun H locs hP hS => ?_)
    refine lv_iand hx hb dX5_isBound_31 ?_
    refine lv_if_eq (tgt := 39) hx hb dX5_isBound_32 (by decide) (fun c6 => ?_) (fun c6 => ?_)
    · rw [if_pos c6] at h
      refine lv_iconst (v := 0) hx hb dX5_isBound_39 (by decide) ?_
      have hz : zz 0 = some 0 := rfl
      cases h
      exact g_zret hC hP hS dX5_isBound_40 hz rfl
    · rw [if_neg c6] at h
      refine lv_iconst (v := 1) hx hb dX5_isBound_35 (by decide) ?_
      refine lv_goto (tgt := 40) hx hb dX5_isBound_36 (by decide) ?_
      have hz : zz 1 = some 1 := rfl
      cases h
      exact g_zret hC hP hS dX5_isBound_40 hz rfl
def r5_hinders (M : OS) (x1 : Int32) (x2 : Int32) (x3 : Int32) (x4 : Int32) : Option Int32 :=
  (if x3 = x1 then some 0
  else bd1 (r5_slotsOf M x3) (fun v2 =>
  bd1 (r5_of M 70 x1) (fun v3 =>
  bd1 (r5_slots (x2 / 6) v3) (fun v4 =>
  (if (v2 &&& v4) = 0 then some 0
  else (if x4 = 5 then bd1 (r5_of M 84 x3) (fun v14 =>
  (if (im v14 6) = (im x2 6) then some 1
  else some 0))
  else (if x4 = 6 then bd1 (r5_of M 28 x3) (fun v11 =>
  bd1 (r5_of M 28 x1) (fun v12 =>
  (if v11 = v12 then some 1
  else some 0)))
  else bd1 (r5_of M 42 x3) (fun v8 =>
  bd1 (r5_of M 42 x1) (fun v9 =>
  (if (v8 &&& v9) = 0 then some 0
  else some 1))))))))))
theorem yv_X5_hinders : gYV yX5_hinders cX5_hinders 5 (some .boolean) 4 := ⟨u_6_13, u_sp_33, u_1_7, u_6_14, ⟨by decide +kernel, by decide +kernel, by decide +kernel⟩, by decide⟩
set_option maxHeartbeats 4000000 in
set_option maxRecDepth 100000 in
theorem c5_hinders (l : Launch) {γ : GA} {sz : Nat} {T P X Y B M : OS} {E : Nat → OS} {O : Nat → Int64} {x1 : Int32} {x2 : Int32} {x3 : Int32} {x4 : Int32} {r0 : Int32} (h : r5_hinders M x1 x2 x3 x4 = some r0) : Met l yX5_hinders (gU yX5_hinders cX5_hinders 5 (some .boolean)) (gR 3 0 0) (gPc γ [.ref (ad γ 23), .int x1, .int x2, .int x3, .int x4] sz (T, P, X, Y, E, B, M, O)) (gQi γ r0 sz (T, P, X, Y, E, B, M, O)) 0 0 (gA γ sz) := by
  refine g_met (fun sz => gQi γ r0 sz (T, P, X, Y, E, B, M, O)) (by decide) (Nat.le_of_ble_eq_true rfl) ?_
  intro p e s m args below meth c ls hC hP hS hl
  have hx := hC.x
  have hb := hC.b
  have hl : lv_has ls 5 [(0, .ref (ad γ 23)), (1, .int x1), (2, .int x2), (3, .int x3), (4, .int x4)] := hl
  unfold r5_hinders at h
  refine lv_iload_n hx hb dX5_hinders_0 rfl (lv_at hl 3 rfl) ?_
  refine lv_iload_n hx hb dX5_hinders_1 rfl (lv_at hl 1 rfl) ?_
  refine lv_icmp_eq (tgt := 28) hx hb dX5_hinders_2 (by decide) (fun c1 => ?_) (fun c1 => ?_)
  · rw [if_pos c1] at h
    refine lv_iconst (v := 0) hx hb dX5_hinders_28 (by decide) ?_
    have hz : zz 0 = some 0 := rfl
    cases h
    exact g_zret hC hP hS dX5_hinders_29 hz rfl
  · rw [if_neg c1] at h
    refine lv_aload_n hx hb dX5_hinders_5 rfl (lv_at hl 0 rfl) ?_
    refine lv_iload_n hx hb dX5_hinders_6 rfl (lv_at hl 3 rfl) ?_
    obtain ⟨v2, hv, h⟩ := bd1_e h
    refine g_ki (g_runV (As := [.int x3]) (rest := []) hC hP (c5_slotsOf l hv) (by decide) ge_23 rfl u_6_15 yv_X5_slotsOf (Nat.le_of_ble_eq_true rfl) rfl hl.1 rfl (Nat.le_of_ble_eq_true rfl) dX5_hinders_7 ⟨by decide, by decide⟩) hS (fun H locs hP hS => ?_)
    refine lv_iload_n hx hb dX5_hinders_10 rfl (lv_at hl 2 rfl) ?_
    refine lv_bipush (v := 6) hx hb dX5_hinders_11 (by decide) ?_
    refine lv_idiv hx hb dX5_hinders_13 (by decide) ?_
    refine lv_aload_n hx hb dX5_hinders_14 rfl (lv_at hl 0 rfl) ?_
    refine lv_bipush (v := 70) hx hb dX5_hinders_15 (by decide) ?_
    refine lv_iload_n hx hb dX5_hinders_17 rfl (lv_at hl 1 rfl) ?_
    obtain ⟨v3, hv, h⟩ := bd1_e h
    refine g_ki (g_runV (As := [.int 70, .int x1]) (rest := [.int (x2 / 6), .int v2]) hC hP (c5_of l hv) (by decide) ge_23 rfl u_5_229 yv_X5_of (Nat.le_of_ble_eq_true rfl) rfl hl.1 rfl (Nat.le_of_ble_eq_true rfl) dX5_hinders_18 ⟨by decide, by decide⟩) hS (fun H locs hP hS => ?_)
    obtain ⟨v4, hv, h⟩ := bd1_e h
    refine g_ki (g_runS (As := [.int (x2 / 6), .int v3]) (rest := [.int v2]) hC hP (c5_slots l hv) u_6_4 yv_X5_slots (Nat.le_of_ble_eq_true rfl) rfl hl.1 rfl (Nat.le_of_ble_eq_true rfl) dX5_hinders_21 ⟨by decide, by decide⟩) hS (fun H locs hP hS => ?_)
    refine lv_iand hx hb dX5_hinders_24 ?_
    refine lv_if_ne (tgt := 30) hx hb dX5_hinders_25 (by decide) (fun c5 => ?_) (fun c5 => ?_)
    · rw [if_neg c5] at h
      refine lv_iload hx hb dX5_hinders_30 (lv_at hl 4 rfl) ?_
      refine lv_iconst (v := 5) hx hb dX5_hinders_32 (by decide) ?_
      refine lv_icmp_ne (tgt := 61) hx hb dX5_hinders_33 (by decide) (fun c6 => ?_) (fun c6 => ?_)
      · rw [if_neg c6] at h
        refine lv_iload hx hb dX5_hinders_61 (lv_at hl 4 rfl) ?_
        refine lv_bipush (v := 6) hx hb dX5_hinders_63 (by decide) ?_
        refine lv_icmp_ne (tgt := 93) hx hb dX5_hinders_65 (by decide) (fun c7 => ?_) (fun c7 => ?_)
        · rw [if_neg c7] at h
          refine lv_aload_n hx hb dX5_hinders_93 rfl (lv_at hl 0 rfl) ?_
          refine lv_bipush (v := 42) hx hb dX5_hinders_94 (by decide) ?_
          refine lv_iload_n hx hb dX5_hinders_96 rfl (lv_at hl 3 rfl) ?_
          obtain ⟨v8, hv, h⟩ := bd1_e h
          refine g_ki (g_runV (As := [.int 42, .int x3]) (rest := []) hC hP (c5_of l hv) (by decide) ge_23 rfl u_5_229 yv_X5_of (Nat.le_of_ble_eq_true rfl) rfl hl.1 rfl (Nat.le_of_ble_eq_true rfl) dX5_hinders_97 ⟨by decide, by decide⟩) hS (fun H locs hP hS => ?_)
          refine lv_aload_n hx hb dX5_hinders_100 rfl (lv_at hl 0 rfl) ?_
          refine lv_bipush (v := 42) hx hb dX5_hinders_101 (by decide) ?_
          refine lv_iload_n hx hb dX5_hinders_103 rfl (lv_at hl 1 rfl) ?_
          obtain ⟨v9, hv, h⟩ := bd1_e h
          refine g_ki (g_runV (As := [.int 42, .int x1]) (rest := [.int v8]) hC hP (c5_of l hv) (by decide) ge_23 rfl u_5_229 yv_X5_of (Nat.le_of_ble_eq_true rfl) rfl hl.1 rfl (Nat.le_of_ble_eq_true rfl) dX5_hinders_104 ⟨by decide, by decide⟩) hS (fun H locs hP hS => ?_)
          refine lv_iand hx hb dX5_hinders_107 ?_
          refine lv_if_eq (tgt := 115) hx hb dX5_hinders_108 (by decide) (fun c10 => ?_) (fun c10 => ?_)
          · rw [if_pos c10] at h
            refine lv_iconst (v := 0) hx hb dX5_hinders_115 (by decide) ?_
            have hz : zz 0 = some 0 := rfl
            cases h
            exact g_zret hC hP hS dX5_hinders_116 hz rfl
          · rw [if_neg c10] at h
            refine lv_iconst (v := 1) hx hb dX5_hinders_111 (by decide) ?_
            refine lv_goto (tgt := 116) hx hb dX5_hinders_112 (by decide) ?_
            have hz : zz 1 = some 1 := rfl
            cases h
            exact g_zret hC hP hS dX5_hinders_116 hz rfl
        · rw [if_pos c7] at h
          refine lv_aload_n hx hb dX5_hinders_68 rfl (lv_at hl 0 rfl) ?_
          refine lv_bipush (v := 28) hx hb dX5_hinders_69 (by decide) ?_
          refine lv_iload_n hx hb dX5_hinders_71 rfl (lv_at hl 3 rfl) ?_
          obtain ⟨v11, hv, h⟩ := bd1_e h
          refine g_ki (g_runV (As := [.int 28, .int x3]) (rest := []) hC hP (c5_of l hv) (by decide) ge_23 rfl u_5_229 yv_X5_of (Nat.le_of_ble_eq_true rfl) rfl hl.1 rfl (Nat.le_of_ble_eq_true rfl) dX5_hinders_72 ⟨by decide, by decide⟩) hS (fun H locs hP hS => ?_)
          refine lv_aload_n hx hb dX5_hinders_75 rfl (lv_at hl 0 rfl) ?_
          refine lv_bipush (v := 28) hx hb dX5_hinders_76 (by decide) ?_
          refine lv_iload_n hx hb dX5_hinders_78 rfl (lv_at hl 1 rfl) ?_
          obtain ⟨v12, hv, h⟩ := bd1_e h
          refine g_ki (g_runV (As := [.int 28, .int x1]) (rest := [.int v11]) hC hP (c5_of l hv) (by decide) ge_23 rfl u_5_229 yv_X5_of (Nat.le_of_ble_eq_true rfl) rfl hl.1 rfl (Nat.le_of_ble_eq_true rfl) dX5_hinders_79 ⟨by decide, by decide⟩) hS (fun H locs hP hS => ?_)
          refine lv_icmp_ne (tgt := 89) hx hb dX5_hinders_82 (by decide) (fun c13 => ?_) (fun c13 => ?_)
          · rw [if_neg c13] at h
            refine lv_iconst (v := 0) hx hb dX5_hinders_89 (by decide) ?_
            refine lv_goto (tgt := 116) hx hb dX5_hinders_90 (by decide) ?_
            have hz : zz 0 = some 0 := rfl
            cases h
            exact g_zret hC hP hS dX5_hinders_116 hz rfl
          · rw [if_pos c13] at h
            refine lv_iconst (v := 1) hx hb dX5_hinders_85 (by decide) ?_
            refine lv_goto (tgt := 116) hx hb dX5_hinders_86 (by decide) ?_
            have hz : zz 1 = some 1 := rfl
            cases h
            exact g_zret hC hP hS dX5_hinders_116 hz rfl
      · rw [if_pos c6] at h
        refine lv_aload_n hx hb dX5_hinders_36 rfl (lv_at hl 0 rfl) ?_
        refine lv_bipush (v := 84) hx hb dX5_hinders_37 (by decide) ?_
        refine lv_iload_n hx hb dX5_hinders_39 rfl (lv_at hl 3 rfl) ?_
        obtain ⟨v14, hv, h⟩ := bd1_e h
        refine g_ki (g_runV (As := [.int 84, .int x3]) (rest := []) hC hP (c5_of l hv) (by decide) ge_23 rfl u_5_229 yv_X5_of (Nat.le_of_ble_eq_true rfl) rfl hl.1 rfl (Nat.le_of_ble_eq_true rfl) dX5_hinders_40 ⟨by decide, by decide⟩) hS (fun H locs hP hS => ?_)
        refine lv_bipush (v := 6) hx hb dX5_hinders_43 (by decide) ?_
        refine lv_irem hx hb dX5_hinders_45 (by decide) ?_
        refine lv_iload_n hx hb dX5_hinders_46 rfl (lv_at hl 2 rfl) ?_
        refine lv_bipush (v := 6) hx hb dX5_hinders_47 (by decide) ?_
        refine lv_irem hx hb dX5_hinders_49 (by decide) ?_
        refine lv_icmp_ne (tgt := 57) hx hb dX5_hinders_50 (by decide) (fun c15 => ?_) (fun c15 => ?_)
        · rw [if_neg c15] at h
          refine lv_iconst (v := 0) hx hb dX5_hinders_57 (by decide) ?_
          refine lv_goto (tgt := 116) hx hb dX5_hinders_58 (by decide) ?_
          have hz : zz 0 = some 0 := rfl
          cases h
          exact g_zret hC hP hS dX5_hinders_116 hz rfl
        · rw [if_pos c15] at h
          refine lv_iconst (v := 1) hx hb dX5_hinders_53 (by decide) ?_
          refine lv_goto (tgt := 116) hx hb dX5_hinders_54 (by decide) ?_
          have hz : zz 1 = some 1 := rfl
          cases h
          exact g_zret hC hP hS dX5_hinders_116 hz rfl
    · rw [if_pos c5] at h
      refine lv_iconst (v := 0) hx hb dX5_hinders_28 (by decide) ?_
      have hz : zz 0 = some 0 := rfl
      cases h
      exact g_zret hC hP hS dX5_hinders_29 hz rfl
def r5_hinderingOf_b5 (M : OS) (x1 : Int32) (x2 : Int32) (x3_5 : Int32) (x4_5 : Int32) : Option ((Int32 × Int32) ⊕ (Int32)) :=
  bd1 (r5_many M) (fun v1 =>
  (if v1 ≤ x4_5 then some (.inr x3_5)
  else bd1 (r5_hinders M x1 x2 x4_5 5) (fun v3 =>
  (if v3 = 0 then bd1 (r5_hinders M x1 x2 x4_5 6) (fun v6 =>
  (if v6 = 0 then bd1 (r5_hinders M x1 x2 x4_5 7) (fun v9 =>
  (if v9 = 0 then some (.inl ((x3_5 ||| 0), (x4_5 + 1)))
  else (some (x3_5 ||| (1 <<< (x4_5 &&& 31)))).bind fun v11 =>
  some (.inl (v11, (x4_5 + 1)))))
  else (some (x3_5 ||| (1 <<< (x4_5 &&& 31)))).bind fun v8 =>
  some (.inl (v8, (x4_5 + 1)))))
  else (some (x3_5 ||| (1 <<< (x4_5 &&& 31)))).bind fun v5 =>
  some (.inl (v5, (x4_5 + 1)))))))
def r5_hinderingOf (M : OS) (x1 : Int32) (x2 : Int32) : Option Int32 :=
  bd1 (it2 (r5_hinderingOf_b5 M x1 x2) 200 0 0) (fun x3_x5 => some x3_x5)
theorem yv_X5_hinderingOf : gYV yX5_hinderingOf cX5_hinderingOf 5 (some .int) 2 := ⟨u_6_132, u_sp_44, u_1_7, u_6_133, ⟨by decide +kernel, by decide +kernel, by decide +kernel⟩, by decide⟩
set_option maxHeartbeats 4000000 in
set_option maxRecDepth 100000 in
theorem c5_hinderingOf (l : Launch) {γ : GA} {sz : Nat} {T P X Y B M : OS} {E : Nat → OS} {O : Nat → Int64} {x1 : Int32} {x2 : Int32} {r0 : Int32} (h : r5_hinderingOf M x1 x2 = some r0) : Met l yX5_hinderingOf (gU yX5_hinderingOf cX5_hinderingOf 5 (some .int)) (gR 4 0 0) (gPc γ [.ref (ad γ 23), .int x1, .int x2] sz (T, P, X, Y, E, B, M, O)) (gQi γ r0 sz (T, P, X, Y, E, B, M, O)) 0 0 (gA γ sz) := by
  refine g_met (fun sz => gQi γ r0 sz (T, P, X, Y, E, B, M, O)) (by decide) (Nat.le_of_ble_eq_true rfl) ?_
  intro p e s m args below meth c ls hC hP hS hl
  have hx := hC.x
  have hb := hC.b
  have hl : lv_has ls 5 [(0, .ref (ad γ 23)), (1, .int x1), (2, .int x2)] := hl
  unfold r5_hinderingOf at h
  refine lv_iconst (v := 0) hx hb dX5_hinderingOf_0 (by decide) ?_
  refine lv_istore_n (lv' := [(3, .int 0), (0, .ref (ad γ 23)), (1, .int x1), (2, .int x2)]) hx hb dX5_hinderingOf_1 rfl hl (by decide) rfl (fun ls hl => ?_)
  refine lv_iconst (v := 0) hx hb dX5_hinderingOf_2 (by decide) ?_
  refine lv_istore (lv' := [(4, .int 0), (3, .int 0), (0, .ref (ad γ 23)), (1, .int x1), (2, .int x2)]) hx hb dX5_hinderingOf_3 hl (by decide) rfl (fun ls hl => ?_)
  have L5 := it2_W (r5_hinderingOf_b5 M x1 x2) (fun (x3_5 : Int32) (x4_5 : Int32) => ∀ (H : Heap) (locs : List Loc) (ls : Array Slot), va_P γ.1 vwCl (gw γ (T, P, X, Y, E, B, M, O)) H → va_S (gA γ s.heap.size) s.heap H locs → lv_has ls 5 [(0, .ref (ad γ 23)), (1, .int x1), (2, .int x2), (3, .int x3_5), (4, .int x4_5)] → W p l e (gR 4 0 0) s m args below meth c H locs 0 0 (MQ below (gQi γ r0 s.heap.size (T, P, X, Y, E, B, M, O)) args s 0 0 (gA γ s.heap.size)) (F0 m 5 ls [])) (fun (r_k : Int32) => (∀ (x3_x5 : Int32), r_k = x3_x5 → ∀ (H : Heap) (locs : List Loc) (ls : Array Slot), va_P γ.1 vwCl (gw γ (T, P, X, Y, E, B, M, O)) H → va_S (gA γ s.heap.size) s.heap H locs → lv_has ls 5 [(3, .int x3_x5)] → W p l e (gR 4 0 0) s m args below meth c H locs 0 0 (MQ below (gQi γ r0 s.heap.size (T, P, X, Y, E, B, M, O)) args s 0 0 (gA γ s.heap.size)) (F0 m 69 ls []))) (by
    intro x3_5 x4_5 o_5 h kS kR H locs ls hP hS hl
    unfold r5_hinderingOf_b5 at h
    refine lv_iload hx hb dX5_hinderingOf_5 (lv_at hl 4 rfl) ?_
    refine lv_aload_n hx hb dX5_hinderingOf_7 rfl (lv_at hl 0 rfl) ?_
    obtain ⟨v1, hv, h⟩ := bd1_e h
    refine g_ki (g_runV (As := []) (rest := [.int x4_5]) hC hP (c5_many l hv) (by decide) ge_23 rfl u_5_225 yv_X5_many (Nat.le_of_ble_eq_true rfl) rfl hl.1 rfl (Nat.le_of_ble_eq_true rfl) dX5_hinderingOf_8 ⟨by decide, by decide⟩) hS (fun H locs hP hS => ?_)
    refine lv_icmp_ge (tgt := 69) hx hb dX5_hinderingOf_11 (by decide) (fun c2 => ?_) (fun c2 => ?_)
    · rw [if_pos c2] at h
      cases h
      exact kR _ rfl _ rfl _ _ _ hP hS (lv_sub hl [3] rfl)
    · rw [if_neg c2] at h
      refine lv_iload_n hx hb dX5_hinderingOf_14 rfl (lv_at hl 3 rfl) ?_
      refine lv_aload_n hx hb dX5_hinderingOf_15 rfl (lv_at hl 0 rfl) ?_
      refine lv_iload_n hx hb dX5_hinderingOf_16 rfl (lv_at hl 1 rfl) ?_
      refine lv_iload_n hx hb dX5_hinderingOf_17 rfl (lv_at hl 2 rfl) ?_
      refine lv_iload hx hb dX5_hinderingOf_18 (lv_at hl 4 rfl) ?_
      refine lv_iconst (v := 5) hx hb dX5_hinderingOf_20 (by decide) ?_
      obtain ⟨v3, hv, h⟩ := bd1_e h
      refine g_ki (g_runV (As := [.int x1, .int x2, .int x4_5, .int 5]) (rest := [.int x3_5]) hC hP (c5_hinders l hv) (by decide) ge_23 rfl u_6_11 yv_X5_hinders (Nat.le_of_ble_eq_true rfl) rfl hl.1 rfl (Nat.le_of_ble_eq_true rfl) dX5_hinderingOf_21 ⟨by decide, by decide⟩) hS (fun H locs hP hS => ?_)
      refine lv_if_ne (tgt := 53) hx hb dX5_hinderingOf_24 (by decide) (fun c4 => ?_) (fun c4 => ?_)
      · rw [if_neg c4] at h
        refine lv_iconst (v := 1) hx hb dX5_hinderingOf_53 (by decide) ?_
        refine lv_iload hx hb dX5_hinderingOf_54 (lv_at hl 4 rfl) ?_
        refine lv_ishl hx hb dX5_hinderingOf_56 ?_
        refine lv_goto (tgt := 61) hx hb dX5_hinderingOf_57 (by decide) ?_
        refine lv_ior hx hb dX5_hinderingOf_61 ?_
        obtain ⟨v5, hv, h⟩ := ob h
        refine lv_topi (fun y9 ey9 => ?_)
        obtain rfl : v5 = y9 := (Option.some.inj hv).symm.trans ey9.symm
        clear hv ey9
        refine lv_istore_n (lv' := [(3, .int v5), (0, .ref (ad γ 23)), (1, .int x1), (2, .int x2), (4, .int x4_5)]) hx hb dX5_hinderingOf_62 rfl hl (by decide) rfl (fun ls hl => ?_)
        refine lv_iinc (v := (x4_5 + 1)) (lv' := [(4, .int (x4_5 + 1)), (3, .int v5), (0, .ref (ad γ 23)), (1, .int x1), (2, .int x2)]) hx hb dX5_hinderingOf_63 hl (k := 4) rfl rfl (by decide) rfl (fun ls hl => ?_)
        refine lv_goto (tgt := 5) hx hb dX5_hinderingOf_66 (by decide) ?_
        cases h
        exact kS _ _ rfl _ _ _ hP hS (lv_sub hl [2, 3, 4, 1, 0] rfl)
      · rw [if_pos c4] at h
        refine lv_aload_n hx hb dX5_hinderingOf_27 rfl (lv_at hl 0 rfl) ?_
        refine lv_iload_n hx hb dX5_hinderingOf_28 rfl (lv_at hl 1 rfl) ?_
        refine lv_iload_n hx hb dX5_hinderingOf_29 rfl (lv_at hl 2 rfl) ?_
        refine lv_iload hx hb dX5_hinderingOf_30 (lv_at hl 4 rfl) ?_
        refine lv_bipush (v := 6) hx hb dX5_hinderingOf_32 (by decide) ?_
        obtain ⟨v6, hv, h⟩ := bd1_e h
        refine g_ki (g_runV (As := [.int x1, .int x2, .int x4_5, .int 6]) (rest := [.int x3_5]) hC hP (c5_hinders l hv) (by decide) ge_23 rfl u_6_11 yv_X5_hinders (Nat.le_of_ble_eq_true rfl) rfl hl.1 rfl (Nat.le_of_ble_eq_true rfl) dX5_hinderingOf_34 ⟨by decide, by decide⟩) hS (fun H locs hP hS => ?_)
        refine lv_if_ne (tgt := 53) hx hb dX5_hinderingOf_37 (by decide) (fun c7 => ?_) (fun c7 => ?_)
        · rw [if_neg c7] at h
          refine lv_iconst (v := 1) hx hb dX5_hinderingOf_53 (by decide) ?_
          refine lv_iload hx hb dX5_hinderingOf_54 (lv_at hl 4 rfl) ?_
          refine lv_ishl hx hb dX5_hinderingOf_56 ?_
          refine lv_goto (tgt := 61) hx hb dX5_hinderingOf_57 (by decide) ?_
          refine lv_ior hx hb dX5_hinderingOf_61 ?_
          obtain ⟨v8, hv, h⟩ := ob h
          refine lv_topi (fun y9 ey9 => ?_)
          obtain rfl : v8 = y9 := (Option.some.inj hv).symm.trans ey9.symm
          clear hv ey9
          refine lv_istore_n (lv' := [(3, .int v8), (0, .ref (ad γ 23)), (1, .int x1), (2, .int x2), (4, .int x4_5)]) hx hb dX5_hinderingOf_62 rfl hl (by decide) rfl (fun ls hl => ?_)
          refine lv_iinc (v := (x4_5 + 1)) (lv' := [(4, .int (x4_5 + 1)), (3, .int v8), (0, .ref (ad γ 23)), (1, .int x1), (2, .int x2)]) hx hb dX5_hinderingOf_63 hl (k := 4) rfl rfl (by decide) rfl (fun ls hl => ?_)
          refine lv_goto (tgt := 5) hx hb dX5_hinderingOf_66 (by decide) ?_
          cases h
          exact kS _ _ rfl _ _ _ hP hS (lv_sub hl [2, 3, 4, 1, 0] rfl)
        · rw [if_pos c7] at h
          refine lv_aload_n hx hb dX5_hinderingOf_40 rfl (lv_at hl 0 rfl) ?_
          refine lv_iload_n hx hb dX5_hinderingOf_41 rfl (lv_at hl 1 rfl) ?_
          refine lv_iload_n hx hb dX5_hinderingOf_42 rfl (lv_at hl 2 rfl) ?_
          refine lv_iload hx hb dX5_hinderingOf_43 (lv_at hl 4 rfl) ?_
          refine lv_bipush (v := 7) hx hb dX5_hinderingOf_45 (by decide) ?_
          obtain ⟨v9, hv, h⟩ := bd1_e h
          refine g_ki (g_runV (As := [.int x1, .int x2, .int x4_5, .int 7]) (rest := [.int x3_5]) hC hP (c5_hinders l hv) (by decide) ge_23 rfl u_6_11 yv_X5_hinders (Nat.le_of_ble_eq_true rfl) rfl hl.1 rfl (Nat.le_of_ble_eq_true rfl) dX5_hinderingOf_47 ⟨by decide, by decide⟩) hS (fun H locs hP hS => ?_)
          refine lv_if_eq (tgt := 60) hx hb dX5_hinderingOf_50 (by decide) (fun c10 => ?_) (fun c10 => ?_)
          · rw [if_pos c10] at h
            refine lv_iconst (v := 0) hx hb dX5_hinderingOf_60 (by decide) ?_
            refine lv_ior hx hb dX5_hinderingOf_61 ?_
            refine lv_istore_n (lv' := [(3, .int (x3_5 ||| 0)), (0, .ref (ad γ 23)), (1, .int x1), (2, .int x2), (4, .int x4_5)]) hx hb dX5_hinderingOf_62 rfl hl (by decide) rfl (fun ls hl => ?_)
            refine lv_iinc (v := (x4_5 + 1)) (lv' := [(4, .int (x4_5 + 1)), (3, .int (x3_5 ||| 0)), (0, .ref (ad γ 23)), (1, .int x1), (2, .int x2)]) hx hb dX5_hinderingOf_63 hl (k := 4) rfl rfl (by decide) rfl (fun ls hl => ?_)
            refine lv_goto (tgt := 5) hx hb dX5_hinderingOf_66 (by decide) ?_
            cases h
            exact kS _ _ rfl _ _ _ hP hS (lv_sub hl [2, 3, 4, 1, 0] rfl)
          · rw [if_neg c10] at h
            refine lv_iconst (v := 1) hx hb dX5_hinderingOf_53 (by decide) ?_
            refine lv_iload hx hb dX5_hinderingOf_54 (lv_at hl 4 rfl) ?_
            refine lv_ishl hx hb dX5_hinderingOf_56 ?_
            refine lv_goto (tgt := 61) hx hb dX5_hinderingOf_57 (by decide) ?_
            refine lv_ior hx hb dX5_hinderingOf_61 ?_
            obtain ⟨v11, hv, h⟩ := ob h
            refine lv_topi (fun y9 ey9 => ?_)
            obtain rfl : v11 = y9 := (Option.some.inj hv).symm.trans ey9.symm
            clear hv ey9
            refine lv_istore_n (lv' := [(3, .int v11), (0, .ref (ad γ 23)), (1, .int x1), (2, .int x2), (4, .int x4_5)]) hx hb dX5_hinderingOf_62 rfl hl (by decide) rfl (fun ls hl => ?_)
            refine lv_iinc (v := (x4_5 + 1)) (lv' := [(4, .int (x4_5 + 1)), (3, .int v11), (0, .ref (ad γ 23)), (1, .int x1), (2, .int x2)]) hx hb dX5_hinderingOf_63 hl (k := 4) rfl rfl (by decide) rfl (fun ls hl => ?_)
            refine lv_goto (tgt := 5) hx hb dX5_hinderingOf_66 (by decide) ?_
            cases h
            exact kS _ _ rfl _ _ _ hP hS (lv_sub hl [2, 3, 4, 1, 0] rfl))
  obtain ⟨x3_x5, hv, h⟩ := bd1_e h
  refine L5 _ _ _ _ hv (fun q0 e9 H locs ls hP hS hl => ?_) _ _ _ hP hS (lv_sub hl [2, 3, 4, 1, 0] rfl)
  obtain rfl := e9
  refine lv_iload_n hx hb dX5_hinderingOf_69 rfl (lv_at hl 0 rfl) ?_
  cases h
  exact g_iret hC hP hS dX5_hinderingOf_70 rfl
def r5_obstacleOf_b122 (M : OS) (x1 : Int32) (x2 : Int32) (x5_112 : Int32) (x6_122 : Int32) : Option ((Int32) ⊕ ((Unit) ⊕ (Int32))) :=
  bd1 (r5_many M) (fun v14 =>
  (if v14 ≤ x6_122 then some (.inr (.inl ()))
  else bd1 (r5_hinders M x1 x2 x6_122 x5_112) (fun v16 =>
  (if v16 = 0 then some (.inl (x6_122 + 1))
  else some (.inr (.inr x5_112))))))
def r5_obstacleOf_b112 (M : OS) (x1 : Int32) (x2 : Int32) (x5_112 : Int32) : Option ((Int32) ⊕ ((Unit) ⊕ (Int32))) :=
  (if 8 ≤ x5_112 then some (.inr (.inl ()))
  else bs0 (it1 (r5_obstacleOf_b122 M x1 x2 x5_112) 200 0) (fun _ => some (.inl (x5_112 + 1))) (fun t18 => some (.inr (.inr t18))))
def r5_obstacleOf_j31 (M : OS) (x1 : Int32) (x2 : Int32) (x3_31 : Int32) (x4_31 : Int32)  : Option Int32 :=
  bd1 (r5_of M 70 x1) (fun v1 =>
  bd1 (r5_slots x3_31 v1) (fun v2 =>
  bd1 (r5_of M 28 x1) (fun v3 =>
  bd1 (r5_of M 18 v3) (fun v4 =>
  (if (v2 &&& (v4 ^^^ (-1))) = 0 then bd1 (r5_of M 0 x4_31) (fun v6 =>
  bd1 (r5_of M 42 x1) (fun v7 =>
  bd1 (r5_sizeOf M v7) (fun v8 =>
  (if v8 ≤ v6 then bd1 (r5_of M 56 x1) (fun v10 =>
  bd1 (r5_of M 6 x4_31) (fun v11 =>
  (if (v10 &&& (v11 ^^^ (-1))) = 0 then bs0 (it1 (r5_obstacleOf_b112 M x1 x2) 200 5) (fun _ => some 0) (fun t19 => some t19)
  else some 4)))
  else some 3))))
  else some 2)))))
def r5_obstacleOf (M : OS) (x1 : Int32) (x2 : Int32) : Option Int32 :=
  bd1 (r5_of M 70 x1) (fun v20 =>
  (if v20 = 2 then bd1 (r5_isLast (x2 / 6)) (fun v22 =>
  (if v22 = 0 then r5_obstacleOf_j31 M x1 x2 (x2 / 6) (im x2 6)
  else some 1))
  else r5_obstacleOf_j31 M x1 x2 (x2 / 6) (im x2 6)))
theorem yv_X5_obstacleOf : gYV yX5_obstacleOf cX5_obstacleOf 7 (some .int) 2 := ⟨u_5_239, u_sp_31, u_1_7, u_6_0, ⟨by decide +kernel, by decide +kernel, by decide +kernel⟩, by decide⟩
set_option maxHeartbeats 4000000 in
set_option maxRecDepth 100000 in
theorem c5_obstacleOf (l : Launch) {γ : GA} {sz : Nat} {T P X Y B M : OS} {E : Nat → OS} {O : Nat → Int64} {x1 : Int32} {x2 : Int32} {r0 : Int32} (h : r5_obstacleOf M x1 x2 = some r0) : Met l yX5_obstacleOf (gU yX5_obstacleOf cX5_obstacleOf 7 (some .int)) (gR 4 0 0) (gPc γ [.ref (ad γ 23), .int x1, .int x2] sz (T, P, X, Y, E, B, M, O)) (gQi γ r0 sz (T, P, X, Y, E, B, M, O)) 0 0 (gA γ sz) := by
  refine g_met (fun sz => gQi γ r0 sz (T, P, X, Y, E, B, M, O)) (by decide) (Nat.le_of_ble_eq_true rfl) ?_
  intro p e s m args below meth c ls hC hP hS hl
  have hx := hC.x
  have hb := hC.b
  have hl : lv_has ls 7 [(0, .ref (ad γ 23)), (1, .int x1), (2, .int x2)] := hl
  unfold r5_obstacleOf at h
  have J31 : ∀ (x3_31 : Int32) (x4_31 : Int32) (h : r5_obstacleOf_j31 M x1 x2 x3_31 x4_31 = some r0), ∀ (H : Heap) (locs : List Loc) (ls : Array Slot), va_P γ.1 vwCl (gw γ (T, P, X, Y, E, B, M, O)) H → va_S (gA γ s.heap.size) s.heap H locs → lv_has ls 7 [(0, .ref (ad γ 23)), (1, .int x1), (2, .int x2), (3, .int x3_31), (4, .int x4_31)] → W p l e (gR 4 0 0) s m args below meth c H locs 0 0 (MQ below (gQi γ r0 s.heap.size (T, P, X, Y, E, B, M, O)) args s 0 0 (gA γ s.heap.size)) (F0 m 31 ls []) := by
    intro x3_31 x4_31 h H locs ls hP hS hl
    unfold r5_obstacleOf_j31 at h
    refine lv_iload_n hx hb dX5_obstacleOf_31 rfl (lv_at hl 3 rfl) ?_
    refine lv_aload_n hx hb dX5_obstacleOf_32 rfl (lv_at hl 0 rfl) ?_
    refine lv_bipush (v := 70) hx hb dX5_obstacleOf_33 (by decide) ?_
    refine lv_iload_n hx hb dX5_obstacleOf_35 rfl (lv_at hl 1 rfl) ?_
    obtain ⟨v1, hv, h⟩ := bd1_e h
    refine g_ki (g_runV (As := [.int 70, .int x1]) (rest := [.int x3_31]) hC hP (c5_of l hv) (by decide) ge_23 rfl u_5_229 yv_X5_of (Nat.le_of_ble_eq_true rfl) rfl hl.1 rfl (Nat.le_of_ble_eq_true rfl) dX5_obstacleOf_36 ⟨by decide, by decide⟩) hS (fun H locs hP hS => ?_)
    obtain ⟨v2, hv, h⟩ := bd1_e h
    refine g_ki (g_runS (As := [.int x3_31, .int v1]) (rest := []) hC hP (c5_slots l hv) u_6_4 yv_X5_slots (Nat.le_of_ble_eq_true rfl) rfl hl.1 rfl (Nat.le_of_ble_eq_true rfl) dX5_obstacleOf_39 ⟨by decide, by decide⟩) hS (fun H locs hP hS => ?_)
    refine lv_aload_n hx hb dX5_obstacleOf_42 rfl (lv_at hl 0 rfl) ?_
    refine lv_bipush (v := 18) hx hb dX5_obstacleOf_43 (by decide) ?_
    refine lv_aload_n hx hb dX5_obstacleOf_45 rfl (lv_at hl 0 rfl) ?_
    refine lv_bipush (v := 28) hx hb dX5_obstacleOf_46 (by decide) ?_
    refine lv_iload_n hx hb dX5_obstacleOf_48 rfl (lv_at hl 1 rfl) ?_
    obtain ⟨v3, hv, h⟩ := bd1_e h
    refine g_ki (g_runV (As := [.int 28, .int x1]) (rest := [.int 18, .ref (ad γ 23), .int v2]) hC hP (c5_of l hv) (by decide) ge_23 rfl u_5_229 yv_X5_of (Nat.le_of_ble_eq_true rfl) rfl hl.1 rfl (Nat.le_of_ble_eq_true rfl) dX5_obstacleOf_49 ⟨by decide, by decide⟩) hS (fun H locs hP hS => ?_)
    obtain ⟨v4, hv, h⟩ := bd1_e h
    refine g_ki (g_runV (As := [.int 18, .int v3]) (rest := [.int v2]) hC hP (c5_of l hv) (by decide) ge_23 rfl u_5_229 yv_X5_of (Nat.le_of_ble_eq_true rfl) rfl hl.1 rfl (Nat.le_of_ble_eq_true rfl) dX5_obstacleOf_52 ⟨by decide, by decide⟩) hS (fun H locs hP hS => ?_)
    refine lv_iconst (v := -1) hx hb dX5_obstacleOf_55 (by decide) ?_
    refine lv_ixor hx hb dX5_obstacleOf_56 ?_
    refine lv_iand hx hb dX5_obstacleOf_57 ?_
    refine lv_if_eq (tgt := 63) hx hb dX5_obstacleOf_58 (by decide) (fun c5 => ?_) (fun c5 => ?_)
    · rw [if_pos c5] at h
      refine lv_aload_n hx hb dX5_obstacleOf_63 rfl (lv_at hl 0 rfl) ?_
      refine lv_iconst (v := 0) hx hb dX5_obstacleOf_64 (by decide) ?_
      refine lv_iload hx hb dX5_obstacleOf_65 (lv_at hl 4 rfl) ?_
      obtain ⟨v6, hv, h⟩ := bd1_e h
      refine g_ki (g_runV (As := [.int 0, .int x4_31]) (rest := []) hC hP (c5_of l hv) (by decide) ge_23 rfl u_5_229 yv_X5_of (Nat.le_of_ble_eq_true rfl) rfl hl.1 rfl (Nat.le_of_ble_eq_true rfl) dX5_obstacleOf_67 ⟨by decide, by decide⟩) hS (fun H locs hP hS => ?_)
      refine lv_aload_n hx hb dX5_obstacleOf_70 rfl (lv_at hl 0 rfl) ?_
      refine lv_aload_n hx hb dX5_obstacleOf_71 rfl (lv_at hl 0 rfl) ?_
      refine lv_bipush (v := 42) hx hb dX5_obstacleOf_72 (by decide) ?_
      refine lv_iload_n hx hb dX5_obstacleOf_74 rfl (lv_at hl 1 rfl) ?_
      obtain ⟨v7, hv, h⟩ := bd1_e h
      refine g_ki (g_runV (As := [.int 42, .int x1]) (rest := [.ref (ad γ 23), .int v6]) hC hP (c5_of l hv) (by decide) ge_23 rfl u_5_229 yv_X5_of (Nat.le_of_ble_eq_true rfl) rfl hl.1 rfl (Nat.le_of_ble_eq_true rfl) dX5_obstacleOf_75 ⟨by decide, by decide⟩) hS (fun H locs hP hS => ?_)
      obtain ⟨v8, hv, h⟩ := bd1_e h
      refine g_ki (g_runV (As := [.int v7]) (rest := [.int v6]) hC hP (c5_sizeOf l hv) (by decide) ge_23 rfl u_6_7 yv_X5_sizeOf (Nat.le_of_ble_eq_true rfl) rfl hl.1 rfl (Nat.le_of_ble_eq_true rfl) dX5_obstacleOf_78 ⟨by decide, by decide⟩) hS (fun H locs hP hS => ?_)
      refine lv_icmp_ge (tgt := 86) hx hb dX5_obstacleOf_81 (by decide) (fun c9 => ?_) (fun c9 => ?_)
      · rw [if_pos c9] at h
        refine lv_aload_n hx hb dX5_obstacleOf_86 rfl (lv_at hl 0 rfl) ?_
        refine lv_bipush (v := 56) hx hb dX5_obstacleOf_87 (by decide) ?_
        refine lv_iload_n hx hb dX5_obstacleOf_89 rfl (lv_at hl 1 rfl) ?_
        obtain ⟨v10, hv, h⟩ := bd1_e h
        refine g_ki (g_runV (As := [.int 56, .int x1]) (rest := []) hC hP (c5_of l hv) (by decide) ge_23 rfl u_5_229 yv_X5_of (Nat.le_of_ble_eq_true rfl) rfl hl.1 rfl (Nat.le_of_ble_eq_true rfl) dX5_obstacleOf_90 ⟨by decide, by decide⟩) hS (fun H locs hP hS => ?_)
        refine lv_aload_n hx hb dX5_obstacleOf_93 rfl (lv_at hl 0 rfl) ?_
        refine lv_bipush (v := 6) hx hb dX5_obstacleOf_94 (by decide) ?_
        refine lv_iload hx hb dX5_obstacleOf_96 (lv_at hl 4 rfl) ?_
        obtain ⟨v11, hv, h⟩ := bd1_e h
        refine g_ki (g_runV (As := [.int 6, .int x4_31]) (rest := [.int v10]) hC hP (c5_of l hv) (by decide) ge_23 rfl u_5_229 yv_X5_of (Nat.le_of_ble_eq_true rfl) rfl hl.1 rfl (Nat.le_of_ble_eq_true rfl) dX5_obstacleOf_98 ⟨by decide, by decide⟩) hS (fun H locs hP hS => ?_)
        refine lv_iconst (v := -1) hx hb dX5_obstacleOf_101 (by decide) ?_
        refine lv_ixor hx hb dX5_obstacleOf_102 ?_
        refine lv_iand hx hb dX5_obstacleOf_103 ?_
        refine lv_if_eq (tgt := 109) hx hb dX5_obstacleOf_104 (by decide) (fun c12 => ?_) (fun c12 => ?_)
        · rw [if_pos c12] at h
          refine lv_iconst (v := 5) hx hb dX5_obstacleOf_109 (by decide) ?_
          refine lv_istore (lv' := [(5, .int 5), (0, .ref (ad γ 23)), (1, .int x1), (2, .int x2), (3, .int x3_31), (4, .int x4_31)]) hx hb dX5_obstacleOf_110 hl (by decide) rfl (fun ls hl => ?_)
          have L112 := it1_W (r5_obstacleOf_b112 M x1 x2) (fun (x5_112 : Int32) => ∀ (H : Heap) (locs : List Loc) (ls : Array Slot), va_P γ.1 vwCl (gw γ (T, P, X, Y, E, B, M, O)) H → va_S (gA γ s.heap.size) s.heap H locs → lv_has ls 7 [(0, .ref (ad γ 23)), (1, .int x1), (2, .int x2), (5, .int x5_112)] → W p l e (gR 4 0 0) s m args below meth c H locs 0 0 (MQ below (gQi γ r0 s.heap.size (T, P, X, Y, E, B, M, O)) args s 0 0 (gA γ s.heap.size)) (F0 m 112 ls [])) (fun (r_k : (Unit) ⊕ (Int32)) => (r_k = .inl () → ∀ (H : Heap) (locs : List Loc) (ls : Array Slot), va_P γ.1 vwCl (gw γ (T, P, X, Y, E, B, M, O)) H → va_S (gA γ s.heap.size) s.heap H locs → lv_has ls 7 [] → W p l e (gR 4 0 0) s m args below meth c H locs 0 0 (MQ below (gQi γ r0 s.heap.size (T, P, X, Y, E, B, M, O)) args s 0 0 (gA γ s.heap.size)) (F0 m 159 ls [])) ∧ (∀ t_k, r_k = .inr t_k → t_k = r0)) (by
            intro x5_112 o_112 h kS kR H locs ls hP hS hl
            unfold r5_obstacleOf_b112 at h
            refine lv_iload hx hb dX5_obstacleOf_112 (lv_at hl 3 rfl) ?_
            refine lv_bipush (v := 8) hx hb dX5_obstacleOf_114 (by decide) ?_
            refine lv_icmp_ge (tgt := 159) hx hb dX5_obstacleOf_116 (by decide) (fun c13 => ?_) (fun c13 => ?_)
            · rw [if_pos c13] at h
              cases h
              exact (kR _ rfl).1  rfl _ _ _ hP hS (lv_sub hl [] rfl)
            · rw [if_neg c13] at h
              refine lv_iconst (v := 0) hx hb dX5_obstacleOf_119 (by decide) ?_
              refine lv_istore (lv' := [(6, .int 0), (0, .ref (ad γ 23)), (1, .int x1), (2, .int x2), (5, .int x5_112)]) hx hb dX5_obstacleOf_120 hl (by decide) rfl (fun ls hl => ?_)
              have L122 := it1_W (r5_obstacleOf_b122 M x1 x2 x5_112) (fun (x6_122 : Int32) => ∀ (H : Heap) (locs : List Loc) (ls : Array Slot), va_P γ.1 vwCl (gw γ (T, P, X, Y, E, B, M, O)) H → va_S (gA γ s.heap.size) s.heap H locs → lv_has ls 7 [(0, .ref (ad γ 23)), (1, .int x1), (2, .int x2), (5, .int x5_112), (6, .int x6_122)] → W p l e (gR 4 0 0) s m args below meth c H locs 0 0 (MQ below (gQi γ r0 s.heap.size (T, P, X, Y, E, B, M, O)) args s 0 0 (gA γ s.heap.size)) (F0 m 122 ls [])) (fun (r_k : (Unit) ⊕ (Int32)) => (r_k = .inl () → ∀ (H : Heap) (locs : List Loc) (ls : Array Slot), va_P γ.1 vwCl (gw γ (T, P, X, Y, E, B, M, O)) H → va_S (gA γ s.heap.size) s.heap H locs → lv_has ls 7 [(0, .ref (ad γ 23)), (1, .int x1), (2, .int x2), (5, .int x5_112)] → W p l e (gR 4 0 0) s m args below meth c H locs 0 0 (MQ below (gQi γ r0 s.heap.size (T, P, X, Y, E, B, M, O)) args s 0 0 (gA γ s.heap.size)) (F0 m 153 ls [])) ∧ (∀ t_k, r_k = .inr t_k → t_k = r0)) (by
                intro x6_122 o_122 h kS kR H locs ls hP hS hl
                unfold r5_obstacleOf_b122 at h
                refine lv_iload hx hb dX5_obstacleOf_122 (lv_at hl 4 rfl) ?_
                refine lv_aload_n hx hb dX5_obstacleOf_124 rfl (lv_at hl 0 rfl) ?_
                obtain ⟨v14, hv, h⟩ := bd1_e h
                refine g_ki (g_runV (As := []) (rest := [.int x6_122]) hC hP (c5_many l hv) (by decide) ge_23 rfl u_5_225 yv_X5_many (Nat.le_of_ble_eq_true rfl) rfl hl.1 rfl (Nat.le_of_ble_eq_true rfl) dX5_obstacleOf_125 ⟨by decide, by decide⟩) hS (fun H locs hP hS => ?_)
                refine lv_icmp_ge (tgt := 153) hx hb dX5_obstacleOf_128 (by decide) (fun c15 => ?_) (fun c15 => ?_)
                · rw [if_pos c15] at h
                  cases h
                  exact (kR _ rfl).1  rfl _ _ _ hP hS (lv_sub hl [0, 1, 2, 3] rfl)
                · rw [if_neg c15] at h
                  refine lv_aload_n hx hb dX5_obstacleOf_131 rfl (lv_at hl 0 rfl) ?_
                  refine lv_iload_n hx hb dX5_obstacleOf_132 rfl (lv_at hl 1 rfl) ?_
                  refine lv_iload_n hx hb dX5_obstacleOf_133 rfl (lv_at hl 2 rfl) ?_
                  refine lv_iload hx hb dX5_obstacleOf_134 (lv_at hl 4 rfl) ?_
                  refine lv_iload hx hb dX5_obstacleOf_136 (lv_at hl 3 rfl) ?_
                  obtain ⟨v16, hv, h⟩ := bd1_e h
                  refine g_ki (g_runV (As := [.int x1, .int x2, .int x6_122, .int x5_112]) (rest := []) hC hP (c5_hinders l hv) (by decide) ge_23 rfl u_6_11 yv_X5_hinders (Nat.le_of_ble_eq_true rfl) rfl hl.1 rfl (Nat.le_of_ble_eq_true rfl) dX5_obstacleOf_138 ⟨by decide, by decide⟩) hS (fun H locs hP hS => ?_)
                  refine lv_if_eq (tgt := 147) hx hb dX5_obstacleOf_141 (by decide) (fun c17 => ?_) (fun c17 => ?_)
                  · rw [if_pos c17] at h
                    refine lv_iinc (v := (x6_122 + 1)) (lv' := [(6, .int (x6_122 + 1)), (0, .ref (ad γ 23)), (1, .int x1), (2, .int x2), (5, .int x5_112)]) hx hb dX5_obstacleOf_147 hl (k := 4) rfl rfl (by decide) rfl (fun ls hl => ?_)
                    refine lv_goto (tgt := 122) hx hb dX5_obstacleOf_150 (by decide) ?_
                    cases h
                    exact kS _ rfl _ _ _ hP hS (lv_sub hl [1, 2, 3, 4, 0] rfl)
                  · rw [if_neg c17] at h
                    refine lv_iload hx hb dX5_obstacleOf_144 (lv_at hl 3 rfl) ?_
                    cases h
                    cases (kR _ rfl).2 _ rfl
                    exact g_iret hC hP hS dX5_obstacleOf_146 rfl)
              rcases bs0_e h with ⟨hv, h⟩ | ⟨t18, hv, h⟩
              · refine L122 _ _ _ hv ⟨fun e9 H locs ls hP hS hl => ?_, fun t9 e9 => nomatch e9⟩ _ _ _ hP hS (lv_sub hl [1, 2, 3, 4, 0] rfl)
                skip
                refine lv_iinc (v := (x5_112 + 1)) (lv' := [(5, .int (x5_112 + 1)), (0, .ref (ad γ 23)), (1, .int x1), (2, .int x2)]) hx hb dX5_obstacleOf_153 hl (k := 3) rfl rfl (by decide) rfl (fun ls hl => ?_)
                refine lv_goto (tgt := 112) hx hb dX5_obstacleOf_156 (by decide) ?_
                cases h
                exact kS _ rfl _ _ _ hP hS (lv_sub hl [1, 2, 3, 0] rfl)
              · refine L122 _ _ _ hv ⟨fun e9 => (nomatch e9), fun t9 e9 => ?_⟩ _ _ _ hP hS (lv_sub hl [1, 2, 3, 4, 0] rfl)
                cases e9
                cases h
                exact (kR _ rfl).2 _ rfl)
          rcases bs0_e h with ⟨hv, h⟩ | ⟨t19, hv, h⟩
          · refine L112 _ _ _ hv ⟨fun e9 H locs ls hP hS hl => ?_, fun t9 e9 => nomatch e9⟩ _ _ _ hP hS (lv_sub hl [1, 2, 3, 0] rfl)
            skip
            refine lv_iconst (v := 0) hx hb dX5_obstacleOf_159 (by decide) ?_
            cases h
            exact g_iret hC hP hS dX5_obstacleOf_160 rfl
          · refine L112 _ _ _ hv ⟨fun e9 => (nomatch e9), fun t9 e9 => ?_⟩ _ _ _ hP hS (lv_sub hl [1, 2, 3, 0] rfl)
            cases e9
            exact Option.some.inj h
        · rw [if_neg c12] at h
          refine lv_iconst (v := 4) hx hb dX5_obstacleOf_107 (by decide) ?_
          cases h
          exact g_iret hC hP hS dX5_obstacleOf_108 rfl
      · rw [if_neg c9] at h
        refine lv_iconst (v := 3) hx hb dX5_obstacleOf_84 (by decide) ?_
        cases h
        exact g_iret hC hP hS dX5_obstacleOf_85 rfl
    · rw [if_neg c5] at h
      refine lv_iconst (v := 2) hx hb dX5_obstacleOf_61 (by decide) ?_
      cases h
      exact g_iret hC hP hS dX5_obstacleOf_62 rfl
  refine lv_iload_n hx hb dX5_obstacleOf_0 rfl (lv_at hl 2 rfl) ?_
  refine lv_bipush (v := 6) hx hb dX5_obstacleOf_1 (by decide) ?_
  refine lv_idiv hx hb dX5_obstacleOf_3 (by decide) ?_
  refine lv_istore_n (lv' := [(3, .int (x2 / 6)), (0, .ref (ad γ 23)), (1, .int x1), (2, .int x2)]) hx hb dX5_obstacleOf_4 rfl hl (by decide) rfl (fun ls hl => ?_)
  refine lv_iload_n hx hb dX5_obstacleOf_5 rfl (lv_at hl 3 rfl) ?_
  refine lv_bipush (v := 6) hx hb dX5_obstacleOf_6 (by decide) ?_
  refine lv_irem hx hb dX5_obstacleOf_8 (by decide) ?_
  refine lv_istore (lv' := [(4, .int (im x2 6)), (3, .int (x2 / 6)), (0, .ref (ad γ 23)), (1, .int x1), (2, .int x2)]) hx hb dX5_obstacleOf_9 hl (by decide) rfl (fun ls hl => ?_)
  refine lv_aload_n hx hb dX5_obstacleOf_11 rfl (lv_at hl 2 rfl) ?_
  refine lv_bipush (v := 70) hx hb dX5_obstacleOf_12 (by decide) ?_
  refine lv_iload_n hx hb dX5_obstacleOf_14 rfl (lv_at hl 3 rfl) ?_
  obtain ⟨v20, hv, h⟩ := bd1_e h
  refine g_ki (g_runV (As := [.int 70, .int x1]) (rest := []) hC hP (c5_of l hv) (by decide) ge_23 rfl u_5_229 yv_X5_of (Nat.le_of_ble_eq_true rfl) rfl hl.1 rfl (Nat.le_of_ble_eq_true rfl) dX5_obstacleOf_15 ⟨by decide, by decide⟩) hS (fun H locs hP hS => ?_)
  refine lv_iconst (v := 2) hx hb dX5_obstacleOf_18 (by decide) ?_
  refine lv_icmp_ne (tgt := 31) hx hb dX5_obstacleOf_19 (by decide) (fun c21 => ?_) (fun c21 => ?_)
  · rw [if_neg c21] at h
    exact J31 (x2 / 6) (im x2 6) h _ _ _ hP hS (lv_sub hl [2, 3, 4, 1, 0] rfl)
  · rw [if_pos c21] at h
    refine lv_iload_n hx hb dX5_obstacleOf_22 rfl (lv_at hl 1 rfl) ?_
    obtain ⟨v22, hv, h⟩ := bd1_e h
    refine g_ki (g_runS (As := [.int (x2 / 6)]) (rest := []) hC hP (c5_isLast l hv) u_6_1 yv_X5_isLast (Nat.le_of_ble_eq_true rfl) rfl hl.1 rfl (Nat.le_of_ble_eq_true rfl) dX5_obstacleOf_23 ⟨by decide, by decide⟩) hS (fun H locs hP hS => ?_)
    refine lv_if_eq (tgt := 31) hx hb dX5_obstacleOf_26 (by decide) (fun c23 => ?_) (fun c23 => ?_)
    · rw [if_pos c23] at h
      exact J31 (x2 / 6) (im x2 6) h _ _ _ hP hS (lv_sub hl [2, 3, 4, 1, 0] rfl)
    · rw [if_neg c23] at h
      refine lv_iconst (v := 1) hx hb dX5_obstacleOf_29 (by decide) ?_
      cases h
      exact g_iret hC hP hS dX5_obstacleOf_30 rfl
def r5_isSuitable (M : OS) (x1 : Int32) (x2 : Int32) : Option Int32 :=
  bd1 (r5_obstacleOf M x1 x2) (fun v1 =>
  bd1 (r5_in v1 1 4) (fun v2 =>
  (if v2 = 0 then some 1
  else some 0)))
theorem yv_X5_isSuitable : gYV yX5_isSuitable cX5_isSuitable 3 (some .boolean) 2 := ⟨u_5_235, u_sp_30, u_1_7, u_5_236, ⟨by decide +kernel, by decide +kernel, by decide +kernel⟩, by decide⟩
set_option maxHeartbeats 4000000 in
set_option maxRecDepth 100000 in
theorem c5_isSuitable (l : Launch) {γ : GA} {sz : Nat} {T P X Y B M : OS} {E : Nat → OS} {O : Nat → Int64} {x1 : Int32} {x2 : Int32} {r0 : Int32} (h : r5_isSuitable M x1 x2 = some r0) : Met l yX5_isSuitable (gU yX5_isSuitable cX5_isSuitable 3 (some .boolean)) (gR 5 0 0) (gPc γ [.ref (ad γ 23), .int x1, .int x2] sz (T, P, X, Y, E, B, M, O)) (gQi γ r0 sz (T, P, X, Y, E, B, M, O)) 0 0 (gA γ sz) := by
  refine g_met (fun sz => gQi γ r0 sz (T, P, X, Y, E, B, M, O)) (by decide) (Nat.le_of_ble_eq_true rfl) ?_
  intro p e s m args below meth c ls hC hP hS hl
  have hx := hC.x
  have hb := hC.b
  have hl : lv_has ls 3 [(0, .ref (ad γ 23)), (1, .int x1), (2, .int x2)] := hl
  unfold r5_isSuitable at h
  refine lv_aload_n hx hb dX5_isSuitable_0 rfl (lv_at hl 0 rfl) ?_
  refine lv_iload_n hx hb dX5_isSuitable_1 rfl (lv_at hl 1 rfl) ?_
  refine lv_iload_n hx hb dX5_isSuitable_2 rfl (lv_at hl 2 rfl) ?_
  obtain ⟨v1, hv, h⟩ := bd1_e h
  refine g_ki (g_runV (As := [.int x1, .int x2]) (rest := []) hC hP (c5_obstacleOf l hv) (by decide) ge_23 rfl u_5_237 yv_X5_obstacleOf (Nat.le_of_ble_eq_true rfl) rfl hl.1 rfl (Nat.le_of_ble_eq_true rfl) dX5_isSuitable_3 ⟨by decide, by decide⟩) hS (fun H locs hP hS => ?_)
  refine lv_iconst (v := 1) hx hb dX5_isSuitable_6 (by decide) ?_
  refine lv_iconst (v := 4) hx hb dX5_isSuitable_7 (by decide) ?_
  obtain ⟨v2, hv, h⟩ := bd1_e h
  refine g_ki (g_runS (As := [.int v1, .int 1, .int 4]) (rest := []) hC hP (c5_in l hv) u_5_210 yv_X5_in (Nat.le_of_ble_eq_true rfl) rfl hl.1 rfl (Nat.le_of_ble_eq_true rfl) dX5_isSuitable_8 ⟨by decide, by decide⟩) hS (fun H locs hP hS => ?_)
  refine lv_if_ne (tgt := 18) hx hb dX5_isSuitable_11 (by decide) (fun c3 => ?_) (fun c3 => ?_)
  · rw [if_neg c3] at h
    refine lv_iconst (v := 0) hx hb dX5_isSuitable_18 (by decide) ?_
    have hz : zz 0 = some 0 := rfl
    cases h
    exact g_zret hC hP hS dX5_isSuitable_19 hz rfl
  · rw [if_pos c3] at h
    refine lv_iconst (v := 1) hx hb dX5_isSuitable_14 (by decide) ?_
    refine lv_goto (tgt := 19) hx hb dX5_isSuitable_15 (by decide) ?_
    have hz : zz 1 = some 1 := rfl
    cases h
    exact g_zret hC hP hS dX5_isSuitable_19 hz rfl
def r5_lays (M : OS) (x1 : Int32) (x2 : Int32) : Option OS :=
  (wr 1008 M 1 (84 + x1) x2).bind fun M1 =>
  some M1
theorem yv_X5_lays : gYV yX5_lays cX5_lays 3 none 2 := ⟨u_6_100, u_sp_42, u_1_7, u_6_101, ⟨by decide +kernel, by decide +kernel, by decide +kernel⟩, by decide⟩
set_option maxHeartbeats 4000000 in
set_option maxRecDepth 100000 in
theorem c5_lays (l : Launch) {γ : GA} {sz : Nat} {T P X Y B M : OS} {E : Nat → OS} {O : Nat → Int64} {x1 : Int32} {x2 : Int32} {Mz : OS} (h : r5_lays M x1 x2 = some Mz) : Met l yX5_lays (gU yX5_lays cX5_lays 3 none) (gR 0 0 0) (gPc γ [.ref (ad γ 23), .int x1, .int x2] sz (T, P, X, Y, E, B, M, O)) (gQv γ sz (T, P, X, Y, E, B, Mz, O)) 0 0 (gA γ sz) := by
  refine g_met (fun sz => gQv γ sz (T, P, X, Y, E, B, Mz, O)) (by decide) (Nat.le_of_ble_eq_true rfl) ?_
  intro p e s m args below meth c ls hC hP hS hl
  have hx := hC.x
  have hb := hC.b
  have hl : lv_has ls 3 [(0, .ref (ad γ 23)), (1, .int x1), (2, .int x2)] := hl
  unfold r5_lays at h
  refine lv_aload_n hx hb dX5_lays_0 rfl (lv_at hl 0 rfl) ?_
  refine g_get hC hP 1 dX5_lays_1 (by decide) ge_23 rfl inX5 (by decide) rfl u_5_155 ?_
  refine lv_bipush (v := 84) hx hb dX5_lays_4 (by decide) ?_
  refine lv_iload_n hx hb dX5_lays_6 rfl (lv_at hl 1 rfl) ?_
  refine lv_iadd hx hb dX5_lays_7 ?_
  refine lv_iload_n hx hb dX5_lays_8 rfl (lv_at hl 2 rfl) ?_
  obtain ⟨M1, hv, h⟩ := ob h
  refine g_st hC hP hS (fun Z => (T, P, X, Y, E, B, Z, O)) dX5_lays_9 (by decide) ge_24 gs_24 hv (fun H locs hP hS => ?_)
  cases h
  exact g_vret hC hP hS dX5_lays_10
def r5_lifts (M : OS) (x1 : Int32) : Option OS :=
  (wr 1008 M 1 (84 + x1) (-1)).bind fun M1 =>
  (wr 1008 M1 1 (98 + x1) 0).bind fun M2 =>
  some M2
theorem yv_X5_lifts : gYV yX5_lifts cX5_lifts 2 none 1 := ⟨u_6_21, u_sp_35, u_1_7, u_6_22, ⟨by decide +kernel, by decide +kernel, by decide +kernel⟩, by decide⟩
set_option maxHeartbeats 4000000 in
set_option maxRecDepth 100000 in
theorem c5_lifts (l : Launch) {γ : GA} {sz : Nat} {T P X Y B M : OS} {E : Nat → OS} {O : Nat → Int64} {x1 : Int32} {Mz : OS} (h : r5_lifts M x1 = some Mz) : Met l yX5_lifts (gU yX5_lifts cX5_lifts 2 none) (gR 0 0 0) (gPc γ [.ref (ad γ 23), .int x1] sz (T, P, X, Y, E, B, M, O)) (gQv γ sz (T, P, X, Y, E, B, Mz, O)) 0 0 (gA γ sz) := by
  refine g_met (fun sz => gQv γ sz (T, P, X, Y, E, B, Mz, O)) (by decide) (Nat.le_of_ble_eq_true rfl) ?_
  intro p e s m args below meth c ls hC hP hS hl
  have hx := hC.x
  have hb := hC.b
  have hl : lv_has ls 2 [(0, .ref (ad γ 23)), (1, .int x1)] := hl
  unfold r5_lifts at h
  refine lv_aload_n hx hb dX5_lifts_0 rfl (lv_at hl 0 rfl) ?_
  refine g_get hC hP 1 dX5_lifts_1 (by decide) ge_23 rfl inX5 (by decide) rfl u_5_155 ?_
  refine lv_bipush (v := 84) hx hb dX5_lifts_4 (by decide) ?_
  refine lv_iload_n hx hb dX5_lifts_6 rfl (lv_at hl 1 rfl) ?_
  refine lv_iadd hx hb dX5_lifts_7 ?_
  refine lv_iconst (v := -1) hx hb dX5_lifts_8 (by decide) ?_
  obtain ⟨M1, hv, h⟩ := ob h
  refine g_st hC hP hS (fun Z => (T, P, X, Y, E, B, Z, O)) dX5_lifts_9 (by decide) ge_24 gs_24 hv (fun H locs hP hS => ?_)
  refine lv_aload_n hx hb dX5_lifts_10 rfl (lv_at hl 0 rfl) ?_
  refine g_get hC hP 1 dX5_lifts_11 (by decide) ge_23 rfl inX5 (by decide) rfl u_5_155 ?_
  refine lv_bipush (v := 98) hx hb dX5_lifts_14 (by decide) ?_
  refine lv_iload_n hx hb dX5_lifts_16 rfl (lv_at hl 1 rfl) ?_
  refine lv_iadd hx hb dX5_lifts_17 ?_
  refine lv_iconst (v := 0) hx hb dX5_lifts_18 (by decide) ?_
  obtain ⟨M2, hv, h⟩ := ob h
  refine g_st hC hP hS (fun Z => (T, P, X, Y, E, B, Z, O)) dX5_lifts_19 (by decide) ge_24 gs_24 hv (fun H locs hP hS => ?_)
  cases h
  exact g_vret hC hP hS dX5_lifts_20
def r5_clears_b4 (M_4 : OS) (x1_4 : Int32) (x2_4 : Int32) : Option ((OS × Int32 × Int32) ⊕ (OS × Int32)) :=
  bd1 (r5_many M_4) (fun v1 =>
  (if v1 ≤ x2_4 then some (.inr (M_4, x1_4))
  else bd1 (r5_of M_4 84 x2_4) (fun v3 =>
  (if v3 < 0 then some (.inl (M_4, x1_4, (x2_4 + 1)))
  else bd1 (r5_of M_4 84 x2_4) (fun v5 =>
  bd1 (r5_isSuitable M_4 x2_4 v5) (fun v6 =>
  (if v6 = 0 then bd1 (r5_lifts M_4 x2_4) (fun M8 =>
  some (.inl (M8, (x1_4 + 1), (x2_4 + 1))))
  else some (.inl (M_4, x1_4, (x2_4 + 1))))))))))
def r5_clears (M : OS) : Option (Int32 × OS) :=
  bd2 (it3 r5_clears_b4 200 M 0 0) (fun M_x4 x1_x4 => some (x1_x4, M_x4))
theorem yv_X5_clears : gYV yX5_clears cX5_clears 3 (some .int) 0 := ⟨u_5_223, u_sp_27, u_1_7, u_5_224, ⟨by decide +kernel, by decide +kernel, by decide +kernel⟩, by decide⟩
set_option maxHeartbeats 4000000 in
set_option maxRecDepth 100000 in
theorem c5_clears (l : Launch) {γ : GA} {sz : Nat} {T P X Y B M : OS} {E : Nat → OS} {O : Nat → Int64} {r0 : Int32} {Mz : OS} (h : r5_clears M = some (r0, Mz)) : Met l yX5_clears (gU yX5_clears cX5_clears 3 (some .int)) (gR 6 0 0) (gPc γ [.ref (ad γ 23)] sz (T, P, X, Y, E, B, M, O)) (gQi γ r0 sz (T, P, X, Y, E, B, Mz, O)) 0 0 (gA γ sz) := by
  refine g_met (fun sz => gQi γ r0 sz (T, P, X, Y, E, B, Mz, O)) (by decide) (Nat.le_of_ble_eq_true rfl) ?_
  intro p e s m args below meth c ls hC hP hS hl
  have hx := hC.x
  have hb := hC.b
  have hl : lv_has ls 3 [(0, .ref (ad γ 23))] := hl
  unfold r5_clears at h
  refine lv_iconst (v := 0) hx hb dX5_clears_0 (by decide) ?_
  refine lv_istore_n (lv' := [(1, .int 0), (0, .ref (ad γ 23))]) hx hb dX5_clears_1 rfl hl (by decide) rfl (fun ls hl => ?_)
  refine lv_iconst (v := 0) hx hb dX5_clears_2 (by decide) ?_
  refine lv_istore_n (lv' := [(2, .int 0), (1, .int 0), (0, .ref (ad γ 23))]) hx hb dX5_clears_3 rfl hl (by decide) rfl (fun ls hl => ?_)
  have L4 := it3_W r5_clears_b4 (fun (M_4 : OS) (x1_4 : Int32) (x2_4 : Int32) => ∀ (H : Heap) (locs : List Loc) (ls : Array Slot), va_P γ.1 vwCl (gw γ (T, P, X, Y, E, B, M_4, O)) H → va_S (gA γ s.heap.size) s.heap H locs → lv_has ls 3 [(0, .ref (ad γ 23)), (1, .int x1_4), (2, .int x2_4)] → W p l e (gR 6 0 0) s m args below meth c H locs 0 0 (MQ below (gQi γ r0 s.heap.size (T, P, X, Y, E, B, Mz, O)) args s 0 0 (gA γ s.heap.size)) (F0 m 4 ls [])) (fun (r_k : OS × Int32) => (∀ (M_x4 : OS) (x1_x4 : Int32), r_k = (M_x4, x1_x4) → ∀ (H : Heap) (locs : List Loc) (ls : Array Slot), va_P γ.1 vwCl (gw γ (T, P, X, Y, E, B, M_x4, O)) H → va_S (gA γ s.heap.size) s.heap H locs → lv_has ls 3 [(1, .int x1_x4)] → W p l e (gR 6 0 0) s m args below meth c H locs 0 0 (MQ below (gQi γ r0 s.heap.size (T, P, X, Y, E, B, Mz, O)) args s 0 0 (gA γ s.heap.size)) (F0 m 54 ls []))) (by
    intro M_4 x1_4 x2_4 o_4 h kS kR H locs ls hP hS hl
    unfold r5_clears_b4 at h
    refine lv_iload_n hx hb dX5_clears_4 rfl (lv_at hl 2 rfl) ?_
    refine lv_aload_n hx hb dX5_clears_5 rfl (lv_at hl 0 rfl) ?_
    obtain ⟨v1, hv, h⟩ := bd1_e h
    refine g_ki (g_runV (As := []) (rest := [.int x2_4]) hC hP (c5_many l hv) (by decide) ge_23 rfl u_5_225 yv_X5_many (Nat.le_of_ble_eq_true rfl) rfl hl.1 rfl (Nat.le_of_ble_eq_true rfl) dX5_clears_6 ⟨by decide, by decide⟩) hS (fun H locs hP hS => ?_)
    refine lv_icmp_ge (tgt := 54) hx hb dX5_clears_9 (by decide) (fun c2 => ?_) (fun c2 => ?_)
    · rw [if_pos c2] at h
      cases h
      exact kR _ rfl _ _ rfl _ _ _ hP hS (lv_sub hl [1] rfl)
    · rw [if_neg c2] at h
      refine lv_aload_n hx hb dX5_clears_12 rfl (lv_at hl 0 rfl) ?_
      refine lv_bipush (v := 84) hx hb dX5_clears_13 (by decide) ?_
      refine lv_iload_n hx hb dX5_clears_15 rfl (lv_at hl 2 rfl) ?_
      obtain ⟨v3, hv, h⟩ := bd1_e h
      refine g_ki (g_runV (As := [.int 84, .int x2_4]) (rest := []) hC hP (c5_of l hv) (by decide) ge_23 rfl u_5_229 yv_X5_of (Nat.le_of_ble_eq_true rfl) rfl hl.1 rfl (Nat.le_of_ble_eq_true rfl) dX5_clears_16 ⟨by decide, by decide⟩) hS (fun H locs hP hS => ?_)
      refine lv_if_lt (tgt := 48) hx hb dX5_clears_19 (by decide) (fun c4 => ?_) (fun c4 => ?_)
      · rw [if_pos c4] at h
        refine lv_iinc (v := (x2_4 + 1)) (lv' := [(2, .int (x2_4 + 1)), (0, .ref (ad γ 23)), (1, .int x1_4)]) hx hb dX5_clears_48 hl (k := 2) rfl rfl (by decide) rfl (fun ls hl => ?_)
        refine lv_goto (tgt := 4) hx hb dX5_clears_51 (by decide) ?_
        cases h
        exact kS _ _ _ rfl _ _ _ hP hS (lv_sub hl [1, 2, 0] rfl)
      · rw [if_neg c4] at h
        refine lv_aload_n hx hb dX5_clears_22 rfl (lv_at hl 0 rfl) ?_
        refine lv_iload_n hx hb dX5_clears_23 rfl (lv_at hl 2 rfl) ?_
        refine lv_aload_n hx hb dX5_clears_24 rfl (lv_at hl 0 rfl) ?_
        refine lv_bipush (v := 84) hx hb dX5_clears_25 (by decide) ?_
        refine lv_iload_n hx hb dX5_clears_27 rfl (lv_at hl 2 rfl) ?_
        obtain ⟨v5, hv, h⟩ := bd1_e h
        refine g_ki (g_runV (As := [.int 84, .int x2_4]) (rest := [.int x2_4, .ref (ad γ 23)]) hC hP (c5_of l hv) (by decide) ge_23 rfl u_5_229 yv_X5_of (Nat.le_of_ble_eq_true rfl) rfl hl.1 rfl (Nat.le_of_ble_eq_true rfl) dX5_clears_28 ⟨by decide, by decide⟩) hS (fun H locs hP hS => ?_)
        obtain ⟨v6, hv, h⟩ := bd1_e h
        refine g_ki (g_runV (As := [.int x2_4, .int v5]) (rest := []) hC hP (c5_isSuitable l hv) (by decide) ge_23 rfl u_5_233 yv_X5_isSuitable (Nat.le_of_ble_eq_true rfl) rfl hl.1 rfl (Nat.le_of_ble_eq_true rfl) dX5_clears_31 ⟨by decide, by decide⟩) hS (fun H locs hP hS => ?_)
        refine lv_if_eq (tgt := 40) hx hb dX5_clears_34 (by decide) (fun c7 => ?_) (fun c7 => ?_)
        · rw [if_pos c7] at h
          refine lv_aload_n hx hb dX5_clears_40 rfl (lv_at hl 0 rfl) ?_
          refine lv_iload_n hx hb dX5_clears_41 rfl (lv_at hl 2 rfl) ?_
          obtain ⟨M8, hv, h⟩ := bd1_e h
          refine g_kv (g_runV (As := [.int x2_4]) (rest := []) hC hP (c5_lifts l hv) (by decide) ge_23 rfl u_6_19 yv_X5_lifts (Nat.le_of_ble_eq_true rfl) rfl hl.1 rfl (Nat.le_of_ble_eq_true rfl) dX5_clears_42 ⟨by decide, by decide⟩) hS (fun H locs hP hS => ?_)
          refine lv_iinc (v := (x1_4 + 1)) (lv' := [(1, .int (x1_4 + 1)), (0, .ref (ad γ 23)), (2, .int x2_4)]) hx hb dX5_clears_45 hl (k := 1) rfl rfl (by decide) rfl (fun ls hl => ?_)
          refine lv_iinc (v := (x2_4 + 1)) (lv' := [(2, .int (x2_4 + 1)), (1, .int (x1_4 + 1)), (0, .ref (ad γ 23))]) hx hb dX5_clears_48 hl (k := 2) rfl rfl (by decide) rfl (fun ls hl => ?_)
          refine lv_goto (tgt := 4) hx hb dX5_clears_51 (by decide) ?_
          cases h
          exact kS _ _ _ rfl _ _ _ hP hS (lv_sub hl [2, 1, 0] rfl)
        · rw [if_neg c7] at h
          refine lv_goto (tgt := 48) hx hb dX5_clears_37 (by decide) ?_
          refine lv_iinc (v := (x2_4 + 1)) (lv' := [(2, .int (x2_4 + 1)), (0, .ref (ad γ 23)), (1, .int x1_4)]) hx hb dX5_clears_48 hl (k := 2) rfl rfl (by decide) rfl (fun ls hl => ?_)
          refine lv_goto (tgt := 4) hx hb dX5_clears_51 (by decide) ?_
          cases h
          exact kS _ _ _ rfl _ _ _ hP hS (lv_sub hl [1, 2, 0] rfl))
  obtain ⟨M_x4, x1_x4, hv, h⟩ := bd2_e h
  refine L4 _ _ _ _ _ hv (fun q0 q1 e9 H locs ls hP hS hl => ?_) _ _ _ hP hS (lv_sub hl [2, 1, 0] rfl)
  obtain ⟨rfl, rfl⟩ := inj2 e9
  refine lv_iload_n hx hb dX5_clears_54 rfl (lv_at hl 0 rfl) ?_
  cases h
  exact g_iret hC hP hS dX5_clears_55 rfl
def r5_setRoom_j39 (M_39 : OS) (x1 : Int32) (x2 : Int32) (x3 : Int32) (s0_39 : Int32)  : Option (Int32 × OS) :=
  (sw M_39 0 s0_39).bind fun M1 =>
  (if (M1 0 0) = 0 then bd1 (r5_keeps M1) (fun M3 =>
  (wr 1008 M3 1 (0 + x1) x2).bind fun M4 =>
  (wr 1008 M4 1 (6 + x1) x3).bind fun M5 =>
  bd2 (r5_clears M5) (fun v6 M7 =>
  some (v6, M7)))
  else some (0, M1))
def r5_setRoom (M : OS) (x1 : Int32) (x2 : Int32) (x3 : Int32) : Option (Int32 × OS) :=
  bd1 (r5_in x1 0 5) (fun v8 =>
  (if v8 = 0 then r5_setRoom_j39 M x1 x2 x3 1
  else bd1 (r5_in x2 0 99) (fun v10 =>
  (if v10 = 0 then r5_setRoom_j39 M x1 x2 x3 2
  else bd1 (r5_in x3 0 15) (fun v12 =>
  (if v12 = 0 then r5_setRoom_j39 M x1 x2 x3 2
  else r5_setRoom_j39 M x1 x2 x3 0))))))
theorem yv_X5_setRoom : gYV yX5_setRoom cX5_setRoom 4 (some .int) 3 := ⟨u_5_207, u_5_208, u_1_7, u_5_209, ⟨by decide +kernel, by decide +kernel, by decide +kernel⟩, by decide⟩
set_option maxHeartbeats 4000000 in
set_option maxRecDepth 100000 in
theorem c5_setRoom (l : Launch) {γ : GA} {sz : Nat} {T P X Y B M : OS} {E : Nat → OS} {O : Nat → Int64} {x1 : Int32} {x2 : Int32} {x3 : Int32} {r0 : Int32} {Mz : OS} (h : r5_setRoom M x1 x2 x3 = some (r0, Mz)) : Met l yX5_setRoom (gU yX5_setRoom cX5_setRoom 4 (some .int)) (gR 7 0 0) (gPc γ [.ref (ad γ 23), .int x1, .int x2, .int x3] sz (T, P, X, Y, E, B, M, O)) (gQi γ r0 sz (T, P, X, Y, E, B, Mz, O)) 0 0 (gA γ sz) := by
  refine g_met (fun sz => gQi γ r0 sz (T, P, X, Y, E, B, Mz, O)) (by decide) (Nat.le_of_ble_eq_true rfl) ?_
  intro p e s m args below meth c ls hC hP hS hl
  have hx := hC.x
  have hb := hC.b
  have hl : lv_has ls 4 [(0, .ref (ad γ 23)), (1, .int x1), (2, .int x2), (3, .int x3)] := hl
  unfold r5_setRoom at h
  have J39 : ∀ (M_39 : OS) (s0_39 : Int32) (h : r5_setRoom_j39 M_39 x1 x2 x3 s0_39 = some (r0, Mz)), ∀ (H : Heap) (locs : List Loc) (ls : Array Slot), va_P γ.1 vwCl (gw γ (T, P, X, Y, E, B, M_39, O)) H → va_S (gA γ s.heap.size) s.heap H locs → lv_has ls 4 [(0, .ref (ad γ 23)), (1, .int x1), (2, .int x2), (3, .int x3)] → W p l e (gR 7 0 0) s m args below meth c H locs 0 0 (MQ below (gQi γ r0 s.heap.size (T, P, X, Y, E, B, Mz, O)) args s 0 0 (gA γ s.heap.size)) (F0 m 39 ls [.int s0_39, .ref (ad γ 23)]) := by
    intro M_39 s0_39 h H locs ls hP hS hl
    unfold r5_setRoom_j39 at h
    obtain ⟨M1, hv, h⟩ := ob h
    refine g_putI hC hP hS (fun Z => (T, P, X, Y, E, B, Z, O)) 0 tyX5 dX5_setRoom_39 (by decide) ge_23 rfl inX5 tyX5_ok nmX5 (by decide) u_5_154 rfl rfl (Nat.le_of_ble_eq_true rfl) gp_23_0 hv (fun H locs hP hS => ?_)
    refine lv_aload_n hx hb dX5_setRoom_42 rfl (lv_at hl 0 rfl) ?_
    refine g_get hC hP 0 dX5_setRoom_43 (by decide) ge_23 rfl inX5 (by decide) rfl u_5_154 ?_
    refine lv_if_eq (tgt := 51) hx hb dX5_setRoom_46 (by decide) (fun c2 => ?_) (fun c2 => ?_)
    · rw [if_pos c2] at h
      refine lv_aload_n hx hb dX5_setRoom_51 rfl (lv_at hl 0 rfl) ?_
      obtain ⟨M3, hv, h⟩ := bd1_e h
      refine g_kv (g_runV (As := []) (rest := []) hC hP (c5_keeps l hv) (by decide) ge_23 rfl u_5_213 yv_X5_keeps (Nat.le_of_ble_eq_true rfl) rfl hl.1 rfl (Nat.le_of_ble_eq_true rfl) dX5_setRoom_52 ⟨by decide, by decide⟩) hS (fun H locs hP hS => ?_)
      refine lv_aload_n hx hb dX5_setRoom_55 rfl (lv_at hl 0 rfl) ?_
      refine g_get hC hP 1 dX5_setRoom_56 (by decide) ge_23 rfl inX5 (by decide) rfl u_5_155 ?_
      refine lv_iconst (v := 0) hx hb dX5_setRoom_59 (by decide) ?_
      refine lv_iload_n hx hb dX5_setRoom_60 rfl (lv_at hl 1 rfl) ?_
      refine lv_iadd hx hb dX5_setRoom_61 ?_
      refine lv_iload_n hx hb dX5_setRoom_62 rfl (lv_at hl 2 rfl) ?_
      obtain ⟨M4, hv, h⟩ := ob h
      refine g_st hC hP hS (fun Z => (T, P, X, Y, E, B, Z, O)) dX5_setRoom_63 (by decide) ge_24 gs_24 hv (fun H locs hP hS => ?_)
      refine lv_aload_n hx hb dX5_setRoom_64 rfl (lv_at hl 0 rfl) ?_
      refine g_get hC hP 1 dX5_setRoom_65 (by decide) ge_23 rfl inX5 (by decide) rfl u_5_155 ?_
      refine lv_bipush (v := 6) hx hb dX5_setRoom_68 (by decide) ?_
      refine lv_iload_n hx hb dX5_setRoom_70 rfl (lv_at hl 1 rfl) ?_
      refine lv_iadd hx hb dX5_setRoom_71 ?_
      refine lv_iload_n hx hb dX5_setRoom_72 rfl (lv_at hl 3 rfl) ?_
      obtain ⟨M5, hv, h⟩ := ob h
      refine g_st hC hP hS (fun Z => (T, P, X, Y, E, B, Z, O)) dX5_setRoom_73 (by decide) ge_24 gs_24 hv (fun H locs hP hS => ?_)
      refine lv_aload_n hx hb dX5_setRoom_74 rfl (lv_at hl 0 rfl) ?_
      obtain ⟨v6, M7, hv, h⟩ := bd2_e h
      refine g_ki (g_runV (As := []) (rest := []) hC hP (c5_clears l hv) (by decide) ge_23 rfl u_5_221 yv_X5_clears (Nat.le_of_ble_eq_true rfl) rfl hl.1 rfl (Nat.le_of_ble_eq_true rfl) dX5_setRoom_75 ⟨by decide, by decide⟩) hS (fun H locs hP hS => ?_)
      cases h
      exact g_iret hC hP hS dX5_setRoom_78 rfl
    · rw [if_neg c2] at h
      refine lv_iconst (v := 0) hx hb dX5_setRoom_49 (by decide) ?_
      cases h
      exact g_iret hC hP hS dX5_setRoom_50 rfl
  refine lv_aload_n hx hb dX5_setRoom_0 rfl (lv_at hl 0 rfl) ?_
  refine lv_iload_n hx hb dX5_setRoom_1 rfl (lv_at hl 1 rfl) ?_
  refine lv_iconst (v := 0) hx hb dX5_setRoom_2 (by decide) ?_
  refine lv_iconst (v := 5) hx hb dX5_setRoom_3 (by decide) ?_
  obtain ⟨v8, hv, h⟩ := bd1_e h
  refine g_ki (g_runS (As := [.int x1, .int 0, .int 5]) (rest := [.ref (ad γ 23)]) hC hP (c5_in l hv) u_5_210 yv_X5_in (Nat.le_of_ble_eq_true rfl) rfl hl.1 rfl (Nat.le_of_ble_eq_true rfl) dX5_setRoom_4 ⟨by decide, by decide⟩) hS (fun H locs hP hS => ?_)
  refine lv_if_ne (tgt := 14) hx hb dX5_setRoom_7 (by decide) (fun c9 => ?_) (fun c9 => ?_)
  · rw [if_neg c9] at h
    refine lv_iload_n hx hb dX5_setRoom_14 rfl (lv_at hl 2 rfl) ?_
    refine lv_iconst (v := 0) hx hb dX5_setRoom_15 (by decide) ?_
    refine lv_bipush (v := 99) hx hb dX5_setRoom_16 (by decide) ?_
    obtain ⟨v10, hv, h⟩ := bd1_e h
    refine g_ki (g_runS (As := [.int x2, .int 0, .int 99]) (rest := [.ref (ad γ 23)]) hC hP (c5_in l hv) u_5_210 yv_X5_in (Nat.le_of_ble_eq_true rfl) rfl hl.1 rfl (Nat.le_of_ble_eq_true rfl) dX5_setRoom_18 ⟨by decide, by decide⟩) hS (fun H locs hP hS => ?_)
    refine lv_if_eq (tgt := 34) hx hb dX5_setRoom_21 (by decide) (fun c11 => ?_) (fun c11 => ?_)
    · rw [if_pos c11] at h
      refine lv_iconst (v := 2) hx hb dX5_setRoom_34 (by decide) ?_
      refine lv_goto (tgt := 39) hx hb dX5_setRoom_35 (by decide) ?_
      exact J39 M 2 h _ _ _ hP hS (lv_sub hl [0, 1, 2, 3] rfl)
    · rw [if_neg c11] at h
      refine lv_iload_n hx hb dX5_setRoom_24 rfl (lv_at hl 3 rfl) ?_
      refine lv_iconst (v := 0) hx hb dX5_setRoom_25 (by decide) ?_
      refine lv_bipush (v := 15) hx hb dX5_setRoom_26 (by decide) ?_
      obtain ⟨v12, hv, h⟩ := bd1_e h
      refine g_ki (g_runS (As := [.int x3, .int 0, .int 15]) (rest := [.ref (ad γ 23)]) hC hP (c5_in l hv) u_5_210 yv_X5_in (Nat.le_of_ble_eq_true rfl) rfl hl.1 rfl (Nat.le_of_ble_eq_true rfl) dX5_setRoom_28 ⟨by decide, by decide⟩) hS (fun H locs hP hS => ?_)
      refine lv_if_ne (tgt := 38) hx hb dX5_setRoom_31 (by decide) (fun c13 => ?_) (fun c13 => ?_)
      · rw [if_neg c13] at h
        refine lv_iconst (v := 0) hx hb dX5_setRoom_38 (by decide) ?_
        exact J39 M 0 h _ _ _ hP hS (lv_sub hl [0, 1, 2, 3] rfl)
      · rw [if_pos c13] at h
        refine lv_iconst (v := 2) hx hb dX5_setRoom_34 (by decide) ?_
        refine lv_goto (tgt := 39) hx hb dX5_setRoom_35 (by decide) ?_
        exact J39 M 2 h _ _ _ hP hS (lv_sub hl [0, 1, 2, 3] rfl)
  · rw [if_pos c9] at h
    refine lv_iconst (v := 1) hx hb dX5_setRoom_10 (by decide) ?_
    refine lv_goto (tgt := 39) hx hb dX5_setRoom_11 (by decide) ?_
    exact J39 M 1 h _ _ _ hP hS (lv_sub hl [0, 1, 2, 3] rfl)
def r5_setGroup_j29 (M_29 : OS) (x1 : Int32) (x2 : Int32) (s0_29 : Int32)  : Option (Int32 × OS) :=
  (sw M_29 0 s0_29).bind fun M1 =>
  (if (M1 0 0) = 0 then bd1 (r5_keeps M1) (fun M3 =>
  (wr 1008 M3 1 (12 + x1) x2).bind fun M4 =>
  bd2 (r5_clears M4) (fun v5 M6 =>
  some (v5, M6)))
  else some (0, M1))
def r5_setGroup (M : OS) (x1 : Int32) (x2 : Int32) : Option (Int32 × OS) :=
  bd1 (r5_in x1 0 5) (fun v7 =>
  (if v7 = 0 then r5_setGroup_j29 M x1 x2 1
  else bd1 (r5_in x2 0 40) (fun v9 =>
  (if v9 = 0 then r5_setGroup_j29 M x1 x2 2
  else r5_setGroup_j29 M x1 x2 0))))
theorem yv_X5_setGroup : gYV yX5_setGroup cX5_setGroup 3 (some .int) 2 := ⟨u_6_24, u_6_25, u_1_7, u_6_26, ⟨by decide +kernel, by decide +kernel, by decide +kernel⟩, by decide⟩
set_option maxHeartbeats 4000000 in
set_option maxRecDepth 100000 in
theorem c5_setGroup (l : Launch) {γ : GA} {sz : Nat} {T P X Y B M : OS} {E : Nat → OS} {O : Nat → Int64} {x1 : Int32} {x2 : Int32} {r0 : Int32} {Mz : OS} (h : r5_setGroup M x1 x2 = some (r0, Mz)) : Met l yX5_setGroup (gU yX5_setGroup cX5_setGroup 3 (some .int)) (gR 7 0 0) (gPc γ [.ref (ad γ 23), .int x1, .int x2] sz (T, P, X, Y, E, B, M, O)) (gQi γ r0 sz (T, P, X, Y, E, B, Mz, O)) 0 0 (gA γ sz) := by
  refine g_met (fun sz => gQi γ r0 sz (T, P, X, Y, E, B, Mz, O)) (by decide) (Nat.le_of_ble_eq_true rfl) ?_
  intro p e s m args below meth c ls hC hP hS hl
  have hx := hC.x
  have hb := hC.b
  have hl : lv_has ls 3 [(0, .ref (ad γ 23)), (1, .int x1), (2, .int x2)] := hl
  unfold r5_setGroup at h
  have J29 : ∀ (M_29 : OS) (s0_29 : Int32) (h : r5_setGroup_j29 M_29 x1 x2 s0_29 = some (r0, Mz)), ∀ (H : Heap) (locs : List Loc) (ls : Array Slot), va_P γ.1 vwCl (gw γ (T, P, X, Y, E, B, M_29, O)) H → va_S (gA γ s.heap.size) s.heap H locs → lv_has ls 3 [(0, .ref (ad γ 23)), (1, .int x1), (2, .int x2)] → W p l e (gR 7 0 0) s m args below meth c H locs 0 0 (MQ below (gQi γ r0 s.heap.size (T, P, X, Y, E, B, Mz, O)) args s 0 0 (gA γ s.heap.size)) (F0 m 29 ls [.int s0_29, .ref (ad γ 23)]) := by
    intro M_29 s0_29 h H locs ls hP hS hl
    unfold r5_setGroup_j29 at h
    obtain ⟨M1, hv, h⟩ := ob h
    refine g_putI hC hP hS (fun Z => (T, P, X, Y, E, B, Z, O)) 0 tyX5 dX5_setGroup_29 (by decide) ge_23 rfl inX5 tyX5_ok nmX5 (by decide) u_5_154 rfl rfl (Nat.le_of_ble_eq_true rfl) gp_23_0 hv (fun H locs hP hS => ?_)
    refine lv_aload_n hx hb dX5_setGroup_32 rfl (lv_at hl 0 rfl) ?_
    refine g_get hC hP 0 dX5_setGroup_33 (by decide) ge_23 rfl inX5 (by decide) rfl u_5_154 ?_
    refine lv_if_eq (tgt := 41) hx hb dX5_setGroup_36 (by decide) (fun c2 => ?_) (fun c2 => ?_)
    · rw [if_pos c2] at h
      refine lv_aload_n hx hb dX5_setGroup_41 rfl (lv_at hl 0 rfl) ?_
      obtain ⟨M3, hv, h⟩ := bd1_e h
      refine g_kv (g_runV (As := []) (rest := []) hC hP (c5_keeps l hv) (by decide) ge_23 rfl u_5_213 yv_X5_keeps (Nat.le_of_ble_eq_true rfl) rfl hl.1 rfl (Nat.le_of_ble_eq_true rfl) dX5_setGroup_42 ⟨by decide, by decide⟩) hS (fun H locs hP hS => ?_)
      refine lv_aload_n hx hb dX5_setGroup_45 rfl (lv_at hl 0 rfl) ?_
      refine g_get hC hP 1 dX5_setGroup_46 (by decide) ge_23 rfl inX5 (by decide) rfl u_5_155 ?_
      refine lv_bipush (v := 12) hx hb dX5_setGroup_49 (by decide) ?_
      refine lv_iload_n hx hb dX5_setGroup_51 rfl (lv_at hl 1 rfl) ?_
      refine lv_iadd hx hb dX5_setGroup_52 ?_
      refine lv_iload_n hx hb dX5_setGroup_53 rfl (lv_at hl 2 rfl) ?_
      obtain ⟨M4, hv, h⟩ := ob h
      refine g_st hC hP hS (fun Z => (T, P, X, Y, E, B, Z, O)) dX5_setGroup_54 (by decide) ge_24 gs_24 hv (fun H locs hP hS => ?_)
      refine lv_aload_n hx hb dX5_setGroup_55 rfl (lv_at hl 0 rfl) ?_
      obtain ⟨v5, M6, hv, h⟩ := bd2_e h
      refine g_ki (g_runV (As := []) (rest := []) hC hP (c5_clears l hv) (by decide) ge_23 rfl u_5_221 yv_X5_clears (Nat.le_of_ble_eq_true rfl) rfl hl.1 rfl (Nat.le_of_ble_eq_true rfl) dX5_setGroup_56 ⟨by decide, by decide⟩) hS (fun H locs hP hS => ?_)
      cases h
      exact g_iret hC hP hS dX5_setGroup_59 rfl
    · rw [if_neg c2] at h
      refine lv_iconst (v := 0) hx hb dX5_setGroup_39 (by decide) ?_
      cases h
      exact g_iret hC hP hS dX5_setGroup_40 rfl
  refine lv_aload_n hx hb dX5_setGroup_0 rfl (lv_at hl 0 rfl) ?_
  refine lv_iload_n hx hb dX5_setGroup_1 rfl (lv_at hl 1 rfl) ?_
  refine lv_iconst (v := 0) hx hb dX5_setGroup_2 (by decide) ?_
  refine lv_iconst (v := 5) hx hb dX5_setGroup_3 (by decide) ?_
  obtain ⟨v7, hv, h⟩ := bd1_e h
  refine g_ki (g_runS (As := [.int x1, .int 0, .int 5]) (rest := [.ref (ad γ 23)]) hC hP (c5_in l hv) u_5_210 yv_X5_in (Nat.le_of_ble_eq_true rfl) rfl hl.1 rfl (Nat.le_of_ble_eq_true rfl) dX5_setGroup_4 ⟨by decide, by decide⟩) hS (fun H locs hP hS => ?_)
  refine lv_if_ne (tgt := 14) hx hb dX5_setGroup_7 (by decide) (fun c8 => ?_) (fun c8 => ?_)
  · rw [if_neg c8] at h
    refine lv_iload_n hx hb dX5_setGroup_14 rfl (lv_at hl 2 rfl) ?_
    refine lv_iconst (v := 0) hx hb dX5_setGroup_15 (by decide) ?_
    refine lv_bipush (v := 40) hx hb dX5_setGroup_16 (by decide) ?_
    obtain ⟨v9, hv, h⟩ := bd1_e h
    refine g_ki (g_runS (As := [.int x2, .int 0, .int 40]) (rest := [.ref (ad γ 23)]) hC hP (c5_in l hv) u_5_210 yv_X5_in (Nat.le_of_ble_eq_true rfl) rfl hl.1 rfl (Nat.le_of_ble_eq_true rfl) dX5_setGroup_18 ⟨by decide, by decide⟩) hS (fun H locs hP hS => ?_)
    refine lv_if_ne (tgt := 28) hx hb dX5_setGroup_21 (by decide) (fun c10 => ?_) (fun c10 => ?_)
    · rw [if_neg c10] at h
      refine lv_iconst (v := 0) hx hb dX5_setGroup_28 (by decide) ?_
      exact J29 M 0 h _ _ _ hP hS (lv_sub hl [0, 1, 2] rfl)
    · rw [if_pos c10] at h
      refine lv_iconst (v := 2) hx hb dX5_setGroup_24 (by decide) ?_
      refine lv_goto (tgt := 29) hx hb dX5_setGroup_25 (by decide) ?_
      exact J29 M 2 h _ _ _ hP hS (lv_sub hl [0, 1, 2] rfl)
  · rw [if_pos c8] at h
    refine lv_iconst (v := 1) hx hb dX5_setGroup_10 (by decide) ?_
    refine lv_goto (tgt := 29) hx hb dX5_setGroup_11 (by decide) ?_
    exact J29 M 1 h _ _ _ hP hS (lv_sub hl [0, 1, 2] rfl)
def r5_setTeacher_j30 (M_30 : OS) (x1 : Int32) (x2 : Int32) (s0_30 : Int32)  : Option (Int32 × OS) :=
  (sw M_30 0 s0_30).bind fun M1 =>
  (if (M1 0 0) = 0 then bd1 (r5_keeps M1) (fun M3 =>
  (wr 1008 M3 1 (18 + x1) x2).bind fun M4 =>
  bd2 (r5_clears M4) (fun v5 M6 =>
  some (v5, M6)))
  else some (0, M1))
def r5_setTeacher (M : OS) (x1 : Int32) (x2 : Int32) : Option (Int32 × OS) :=
  bd1 (r5_in x1 0 5) (fun v7 =>
  (if v7 = 0 then r5_setTeacher_j30 M x1 x2 1
  else bd1 (r5_in x2 0 1023) (fun v9 =>
  (if v9 = 0 then r5_setTeacher_j30 M x1 x2 2
  else r5_setTeacher_j30 M x1 x2 0))))
theorem yv_X5_setTeacher : gYV yX5_setTeacher cX5_setTeacher 3 (some .int) 2 := ⟨u_6_28, u_6_29, u_1_7, u_6_30, ⟨by decide +kernel, by decide +kernel, by decide +kernel⟩, by decide⟩
set_option maxHeartbeats 4000000 in
set_option maxRecDepth 100000 in
theorem c5_setTeacher (l : Launch) {γ : GA} {sz : Nat} {T P X Y B M : OS} {E : Nat → OS} {O : Nat → Int64} {x1 : Int32} {x2 : Int32} {r0 : Int32} {Mz : OS} (h : r5_setTeacher M x1 x2 = some (r0, Mz)) : Met l yX5_setTeacher (gU yX5_setTeacher cX5_setTeacher 3 (some .int)) (gR 7 0 0) (gPc γ [.ref (ad γ 23), .int x1, .int x2] sz (T, P, X, Y, E, B, M, O)) (gQi γ r0 sz (T, P, X, Y, E, B, Mz, O)) 0 0 (gA γ sz) := by
  refine g_met (fun sz => gQi γ r0 sz (T, P, X, Y, E, B, Mz, O)) (by decide) (Nat.le_of_ble_eq_true rfl) ?_
  intro p e s m args below meth c ls hC hP hS hl
  have hx := hC.x
  have hb := hC.b
  have hl : lv_has ls 3 [(0, .ref (ad γ 23)), (1, .int x1), (2, .int x2)] := hl
  unfold r5_setTeacher at h
  have J30 : ∀ (M_30 : OS) (s0_30 : Int32) (h : r5_setTeacher_j30 M_30 x1 x2 s0_30 = some (r0, Mz)), ∀ (H : Heap) (locs : List Loc) (ls : Array Slot), va_P γ.1 vwCl (gw γ (T, P, X, Y, E, B, M_30, O)) H → va_S (gA γ s.heap.size) s.heap H locs → lv_has ls 3 [(0, .ref (ad γ 23)), (1, .int x1), (2, .int x2)] → W p l e (gR 7 0 0) s m args below meth c H locs 0 0 (MQ below (gQi γ r0 s.heap.size (T, P, X, Y, E, B, Mz, O)) args s 0 0 (gA γ s.heap.size)) (F0 m 30 ls [.int s0_30, .ref (ad γ 23)]) := by
    intro M_30 s0_30 h H locs ls hP hS hl
    unfold r5_setTeacher_j30 at h
    obtain ⟨M1, hv, h⟩ := ob h
    refine g_putI hC hP hS (fun Z => (T, P, X, Y, E, B, Z, O)) 0 tyX5 dX5_setTeacher_30 (by decide) ge_23 rfl inX5 tyX5_ok nmX5 (by decide) u_5_154 rfl rfl (Nat.le_of_ble_eq_true rfl) gp_23_0 hv (fun H locs hP hS => ?_)
    refine lv_aload_n hx hb dX5_setTeacher_33 rfl (lv_at hl 0 rfl) ?_
    refine g_get hC hP 0 dX5_setTeacher_34 (by decide) ge_23 rfl inX5 (by decide) rfl u_5_154 ?_
    refine lv_if_eq (tgt := 42) hx hb dX5_setTeacher_37 (by decide) (fun c2 => ?_) (fun c2 => ?_)
    · rw [if_pos c2] at h
      refine lv_aload_n hx hb dX5_setTeacher_42 rfl (lv_at hl 0 rfl) ?_
      obtain ⟨M3, hv, h⟩ := bd1_e h
      refine g_kv (g_runV (As := []) (rest := []) hC hP (c5_keeps l hv) (by decide) ge_23 rfl u_5_213 yv_X5_keeps (Nat.le_of_ble_eq_true rfl) rfl hl.1 rfl (Nat.le_of_ble_eq_true rfl) dX5_setTeacher_43 ⟨by decide, by decide⟩) hS (fun H locs hP hS => ?_)
      refine lv_aload_n hx hb dX5_setTeacher_46 rfl (lv_at hl 0 rfl) ?_
      refine g_get hC hP 1 dX5_setTeacher_47 (by decide) ge_23 rfl inX5 (by decide) rfl u_5_155 ?_
      refine lv_bipush (v := 18) hx hb dX5_setTeacher_50 (by decide) ?_
      refine lv_iload_n hx hb dX5_setTeacher_52 rfl (lv_at hl 1 rfl) ?_
      refine lv_iadd hx hb dX5_setTeacher_53 ?_
      refine lv_iload_n hx hb dX5_setTeacher_54 rfl (lv_at hl 2 rfl) ?_
      obtain ⟨M4, hv, h⟩ := ob h
      refine g_st hC hP hS (fun Z => (T, P, X, Y, E, B, Z, O)) dX5_setTeacher_55 (by decide) ge_24 gs_24 hv (fun H locs hP hS => ?_)
      refine lv_aload_n hx hb dX5_setTeacher_56 rfl (lv_at hl 0 rfl) ?_
      obtain ⟨v5, M6, hv, h⟩ := bd2_e h
      refine g_ki (g_runV (As := []) (rest := []) hC hP (c5_clears l hv) (by decide) ge_23 rfl u_5_221 yv_X5_clears (Nat.le_of_ble_eq_true rfl) rfl hl.1 rfl (Nat.le_of_ble_eq_true rfl) dX5_setTeacher_57 ⟨by decide, by decide⟩) hS (fun H locs hP hS => ?_)
      cases h
      exact g_iret hC hP hS dX5_setTeacher_60 rfl
    · rw [if_neg c2] at h
      refine lv_iconst (v := 0) hx hb dX5_setTeacher_40 (by decide) ?_
      cases h
      exact g_iret hC hP hS dX5_setTeacher_41 rfl
  refine lv_aload_n hx hb dX5_setTeacher_0 rfl (lv_at hl 0 rfl) ?_
  refine lv_iload_n hx hb dX5_setTeacher_1 rfl (lv_at hl 1 rfl) ?_
  refine lv_iconst (v := 0) hx hb dX5_setTeacher_2 (by decide) ?_
  refine lv_iconst (v := 5) hx hb dX5_setTeacher_3 (by decide) ?_
  obtain ⟨v7, hv, h⟩ := bd1_e h
  refine g_ki (g_runS (As := [.int x1, .int 0, .int 5]) (rest := [.ref (ad γ 23)]) hC hP (c5_in l hv) u_5_210 yv_X5_in (Nat.le_of_ble_eq_true rfl) rfl hl.1 rfl (Nat.le_of_ble_eq_true rfl) dX5_setTeacher_4 ⟨by decide, by decide⟩) hS (fun H locs hP hS => ?_)
  refine lv_if_ne (tgt := 14) hx hb dX5_setTeacher_7 (by decide) (fun c8 => ?_) (fun c8 => ?_)
  · rw [if_neg c8] at h
    refine lv_iload_n hx hb dX5_setTeacher_14 rfl (lv_at hl 2 rfl) ?_
    refine lv_iconst (v := 0) hx hb dX5_setTeacher_15 (by decide) ?_
    refine lv_sipush (v := 1023) hx hb dX5_setTeacher_16 (by decide) ?_
    obtain ⟨v9, hv, h⟩ := bd1_e h
    refine g_ki (g_runS (As := [.int x2, .int 0, .int 1023]) (rest := [.ref (ad γ 23)]) hC hP (c5_in l hv) u_5_210 yv_X5_in (Nat.le_of_ble_eq_true rfl) rfl hl.1 rfl (Nat.le_of_ble_eq_true rfl) dX5_setTeacher_19 ⟨by decide, by decide⟩) hS (fun H locs hP hS => ?_)
    refine lv_if_ne (tgt := 29) hx hb dX5_setTeacher_22 (by decide) (fun c10 => ?_) (fun c10 => ?_)
    · rw [if_neg c10] at h
      refine lv_iconst (v := 0) hx hb dX5_setTeacher_29 (by decide) ?_
      exact J30 M 0 h _ _ _ hP hS (lv_sub hl [0, 1, 2] rfl)
    · rw [if_pos c10] at h
      refine lv_iconst (v := 2) hx hb dX5_setTeacher_25 (by decide) ?_
      refine lv_goto (tgt := 30) hx hb dX5_setTeacher_26 (by decide) ?_
      exact J30 M 2 h _ _ _ hP hS (lv_sub hl [0, 1, 2] rfl)
  · rw [if_pos c8] at h
    refine lv_iconst (v := 1) hx hb dX5_setTeacher_10 (by decide) ?_
    refine lv_goto (tgt := 30) hx hb dX5_setTeacher_11 (by decide) ?_
    exact J30 M 1 h _ _ _ hP hS (lv_sub hl [0, 1, 2] rfl)
def r5_setWeight_j29 (M_29 : OS) (x1 : Int32) (x2 : Int32) (s0_29 : Int32)  : Option (Int32 × OS) :=
  (sw M_29 0 s0_29).bind fun M1 =>
  (if (M1 0 0) = 0 then bd1 (r5_keeps M1) (fun M3 =>
  (rd 1008 (M3 1) (24 + x1)).bind fun v4 =>
  (wr 1008 M3 1 (24 + x1) x2).bind fun M5 =>
  some (v4, M5))
  else some (0, M1))
def r5_setWeight (M : OS) (x1 : Int32) (x2 : Int32) : Option (Int32 × OS) :=
  bd1 (r5_in x1 0 2) (fun v6 =>
  (if v6 = 0 then r5_setWeight_j29 M x1 x2 1
  else bd1 (r5_in x2 0 9) (fun v8 =>
  (if v8 = 0 then r5_setWeight_j29 M x1 x2 2
  else r5_setWeight_j29 M x1 x2 0))))
theorem yv_X5_setWeight : gYV yX5_setWeight cX5_setWeight 4 (some .int) 2 := ⟨u_6_32, u_6_33, u_1_7, u_6_34, ⟨by decide +kernel, by decide +kernel, by decide +kernel⟩, by decide⟩
set_option maxHeartbeats 4000000 in
set_option maxRecDepth 100000 in
theorem c5_setWeight (l : Launch) {γ : GA} {sz : Nat} {T P X Y B M : OS} {E : Nat → OS} {O : Nat → Int64} {x1 : Int32} {x2 : Int32} {r0 : Int32} {Mz : OS} (h : r5_setWeight M x1 x2 = some (r0, Mz)) : Met l yX5_setWeight (gU yX5_setWeight cX5_setWeight 4 (some .int)) (gR 2 0 0) (gPc γ [.ref (ad γ 23), .int x1, .int x2] sz (T, P, X, Y, E, B, M, O)) (gQi γ r0 sz (T, P, X, Y, E, B, Mz, O)) 0 0 (gA γ sz) := by
  refine g_met (fun sz => gQi γ r0 sz (T, P, X, Y, E, B, Mz, O)) (by decide) (Nat.le_of_ble_eq_true rfl) ?_
  intro p e s m args below meth c ls hC hP hS hl
  have hx := hC.x
  have hb := hC.b
  have hl : lv_has ls 4 [(0, .ref (ad γ 23)), (1, .int x1), (2, .int x2)] := hl
  unfold r5_setWeight at h
  have J29 : ∀ (M_29 : OS) (s0_29 : Int32) (h : r5_setWeight_j29 M_29 x1 x2 s0_29 = some (r0, Mz)), ∀ (H : Heap) (locs : List Loc) (ls : Array Slot), va_P γ.1 vwCl (gw γ (T, P, X, Y, E, B, M_29, O)) H → va_S (gA γ s.heap.size) s.heap H locs → lv_has ls 4 [(0, .ref (ad γ 23)), (1, .int x1), (2, .int x2)] → W p l e (gR 2 0 0) s m args below meth c H locs 0 0 (MQ below (gQi γ r0 s.heap.size (T, P, X, Y, E, B, Mz, O)) args s 0 0 (gA γ s.heap.size)) (F0 m 29 ls [.int s0_29, .ref (ad γ 23)]) := by
    intro M_29 s0_29 h H locs ls hP hS hl
    unfold r5_setWeight_j29 at h
    obtain ⟨M1, hv, h⟩ := ob h
    refine g_putI hC hP hS (fun Z => (T, P, X, Y, E, B, Z, O)) 0 tyX5 dX5_setWeight_29 (by decide) ge_23 rfl inX5 tyX5_ok nmX5 (by decide) u_5_154 rfl rfl (Nat.le_of_ble_eq_true rfl) gp_23_0 hv (fun H locs hP hS => ?_)
    refine lv_aload_n hx hb dX5_setWeight_32 rfl (lv_at hl 0 rfl) ?_
    refine g_get hC hP 0 dX5_setWeight_33 (by decide) ge_23 rfl inX5 (by decide) rfl u_5_154 ?_
    refine lv_if_eq (tgt := 41) hx hb dX5_setWeight_36 (by decide) (fun c2 => ?_) (fun c2 => ?_)
    · rw [if_pos c2] at h
      refine lv_aload_n hx hb dX5_setWeight_41 rfl (lv_at hl 0 rfl) ?_
      obtain ⟨M3, hv, h⟩ := bd1_e h
      refine g_kv (g_runV (As := []) (rest := []) hC hP (c5_keeps l hv) (by decide) ge_23 rfl u_5_213 yv_X5_keeps (Nat.le_of_ble_eq_true rfl) rfl hl.1 rfl (Nat.le_of_ble_eq_true rfl) dX5_setWeight_42 ⟨by decide, by decide⟩) hS (fun H locs hP hS => ?_)
      refine lv_aload_n hx hb dX5_setWeight_45 rfl (lv_at hl 0 rfl) ?_
      refine g_get hC hP 1 dX5_setWeight_46 (by decide) ge_23 rfl inX5 (by decide) rfl u_5_155 ?_
      refine lv_bipush (v := 24) hx hb dX5_setWeight_49 (by decide) ?_
      refine lv_iload_n hx hb dX5_setWeight_51 rfl (lv_at hl 1 rfl) ?_
      refine lv_iadd hx hb dX5_setWeight_52 ?_
      obtain ⟨v4, hv, h⟩ := ob h
      refine g_ld hC hP dX5_setWeight_53 (by decide) ge_24 hv ?_
      refine lv_istore_n (lv' := [(3, .int v4), (0, .ref (ad γ 23)), (1, .int x1), (2, .int x2)]) hx hb dX5_setWeight_54 rfl hl (by decide) rfl (fun ls hl => ?_)
      refine lv_aload_n hx hb dX5_setWeight_55 rfl (lv_at hl 1 rfl) ?_
      refine g_get hC hP 1 dX5_setWeight_56 (by decide) ge_23 rfl inX5 (by decide) rfl u_5_155 ?_
      refine lv_bipush (v := 24) hx hb dX5_setWeight_59 (by decide) ?_
      refine lv_iload_n hx hb dX5_setWeight_61 rfl (lv_at hl 2 rfl) ?_
      refine lv_iadd hx hb dX5_setWeight_62 ?_
      refine lv_iload_n hx hb dX5_setWeight_63 rfl (lv_at hl 3 rfl) ?_
      obtain ⟨M5, hv, h⟩ := ob h
      refine g_st hC hP hS (fun Z => (T, P, X, Y, E, B, Z, O)) dX5_setWeight_64 (by decide) ge_24 gs_24 hv (fun H locs hP hS => ?_)
      refine lv_iload_n hx hb dX5_setWeight_65 rfl (lv_at hl 0 rfl) ?_
      cases h
      exact g_iret hC hP hS dX5_setWeight_66 rfl
    · rw [if_neg c2] at h
      refine lv_iconst (v := 0) hx hb dX5_setWeight_39 (by decide) ?_
      cases h
      exact g_iret hC hP hS dX5_setWeight_40 rfl
  refine lv_aload_n hx hb dX5_setWeight_0 rfl (lv_at hl 0 rfl) ?_
  refine lv_iload_n hx hb dX5_setWeight_1 rfl (lv_at hl 1 rfl) ?_
  refine lv_iconst (v := 0) hx hb dX5_setWeight_2 (by decide) ?_
  refine lv_iconst (v := 2) hx hb dX5_setWeight_3 (by decide) ?_
  obtain ⟨v6, hv, h⟩ := bd1_e h
  refine g_ki (g_runS (As := [.int x1, .int 0, .int 2]) (rest := [.ref (ad γ 23)]) hC hP (c5_in l hv) u_5_210 yv_X5_in (Nat.le_of_ble_eq_true rfl) rfl hl.1 rfl (Nat.le_of_ble_eq_true rfl) dX5_setWeight_4 ⟨by decide, by decide⟩) hS (fun H locs hP hS => ?_)
  refine lv_if_ne (tgt := 14) hx hb dX5_setWeight_7 (by decide) (fun c7 => ?_) (fun c7 => ?_)
  · rw [if_neg c7] at h
    refine lv_iload_n hx hb dX5_setWeight_14 rfl (lv_at hl 2 rfl) ?_
    refine lv_iconst (v := 0) hx hb dX5_setWeight_15 (by decide) ?_
    refine lv_bipush (v := 9) hx hb dX5_setWeight_16 (by decide) ?_
    obtain ⟨v8, hv, h⟩ := bd1_e h
    refine g_ki (g_runS (As := [.int x2, .int 0, .int 9]) (rest := [.ref (ad γ 23)]) hC hP (c5_in l hv) u_5_210 yv_X5_in (Nat.le_of_ble_eq_true rfl) rfl hl.1 rfl (Nat.le_of_ble_eq_true rfl) dX5_setWeight_18 ⟨by decide, by decide⟩) hS (fun H locs hP hS => ?_)
    refine lv_if_ne (tgt := 28) hx hb dX5_setWeight_21 (by decide) (fun c9 => ?_) (fun c9 => ?_)
    · rw [if_neg c9] at h
      refine lv_iconst (v := 0) hx hb dX5_setWeight_28 (by decide) ?_
      exact J29 M 0 h _ _ _ hP hS (lv_sub hl [0, 1, 2] rfl)
    · rw [if_pos c9] at h
      refine lv_iconst (v := 2) hx hb dX5_setWeight_24 (by decide) ?_
      refine lv_goto (tgt := 29) hx hb dX5_setWeight_25 (by decide) ?_
      exact J29 M 2 h _ _ _ hP hS (lv_sub hl [0, 1, 2] rfl)
  · rw [if_pos c7] at h
    refine lv_iconst (v := 1) hx hb dX5_setWeight_10 (by decide) ?_
    refine lv_goto (tgt := 29) hx hb dX5_setWeight_11 (by decide) ?_
    exact J29 M 1 h _ _ _ hP hS (lv_sub hl [0, 1, 2] rfl)
def r5_setting_j28 (M_28 : OS) (x1 : Int32) (x2 : Int32) (s0_28 : Int32)  : Option (Int32 × OS) :=
  (sw M_28 0 s0_28).bind fun M1 =>
  (if (M1 0 0) = 0 then (rd 1008 (M1 1) ((6 * x1) + x2)).bind fun v3 =>
  some (v3, M1)
  else some (0, M1))
def r5_setting (M : OS) (x1 : Int32) (x2 : Int32) : Option (Int32 × OS) :=
  bd1 (r5_in x1 0 3) (fun v4 =>
  (if v4 = 0 then r5_setting_j28 M x1 x2 1
  else bd1 (r5_in x2 0 5) (fun v6 =>
  (if v6 = 0 then r5_setting_j28 M x1 x2 2
  else r5_setting_j28 M x1 x2 0))))
theorem yv_X5_setting : gYV yX5_setting cX5_setting 3 (some .int) 2 := ⟨u_6_36, u_6_37, u_1_7, u_6_38, ⟨by decide +kernel, by decide +kernel, by decide +kernel⟩, by decide⟩
set_option maxHeartbeats 4000000 in
set_option maxRecDepth 100000 in
theorem c5_setting (l : Launch) {γ : GA} {sz : Nat} {T P X Y B M : OS} {E : Nat → OS} {O : Nat → Int64} {x1 : Int32} {x2 : Int32} {r0 : Int32} {Mz : OS} (h : r5_setting M x1 x2 = some (r0, Mz)) : Met l yX5_setting (gU yX5_setting cX5_setting 3 (some .int)) (gR 1 0 0) (gPc γ [.ref (ad γ 23), .int x1, .int x2] sz (T, P, X, Y, E, B, M, O)) (gQi γ r0 sz (T, P, X, Y, E, B, Mz, O)) 0 0 (gA γ sz) := by
  refine g_met (fun sz => gQi γ r0 sz (T, P, X, Y, E, B, Mz, O)) (by decide) (Nat.le_of_ble_eq_true rfl) ?_
  intro p e s m args below meth c ls hC hP hS hl
  have hx := hC.x
  have hb := hC.b
  have hl : lv_has ls 3 [(0, .ref (ad γ 23)), (1, .int x1), (2, .int x2)] := hl
  unfold r5_setting at h
  have J28 : ∀ (M_28 : OS) (s0_28 : Int32) (h : r5_setting_j28 M_28 x1 x2 s0_28 = some (r0, Mz)), ∀ (H : Heap) (locs : List Loc) (ls : Array Slot), va_P γ.1 vwCl (gw γ (T, P, X, Y, E, B, M_28, O)) H → va_S (gA γ s.heap.size) s.heap H locs → lv_has ls 3 [(0, .ref (ad γ 23)), (1, .int x1), (2, .int x2)] → W p l e (gR 1 0 0) s m args below meth c H locs 0 0 (MQ below (gQi γ r0 s.heap.size (T, P, X, Y, E, B, Mz, O)) args s 0 0 (gA γ s.heap.size)) (F0 m 28 ls [.int s0_28, .ref (ad γ 23)]) := by
    intro M_28 s0_28 h H locs ls hP hS hl
    unfold r5_setting_j28 at h
    obtain ⟨M1, hv, h⟩ := ob h
    refine g_putI hC hP hS (fun Z => (T, P, X, Y, E, B, Z, O)) 0 tyX5 dX5_setting_28 (by decide) ge_23 rfl inX5 tyX5_ok nmX5 (by decide) u_5_154 rfl rfl (Nat.le_of_ble_eq_true rfl) gp_23_0 hv (fun H locs hP hS => ?_)
    refine lv_aload_n hx hb dX5_setting_31 rfl (lv_at hl 0 rfl) ?_
    refine g_get hC hP 0 dX5_setting_32 (by decide) ge_23 rfl inX5 (by decide) rfl u_5_154 ?_
    refine lv_if_ne (tgt := 52) hx hb dX5_setting_35 (by decide) (fun c2 => ?_) (fun c2 => ?_)
    · rw [if_neg c2] at h
      refine lv_iconst (v := 0) hx hb dX5_setting_52 (by decide) ?_
      cases h
      exact g_iret hC hP hS dX5_setting_53 rfl
    · rw [if_pos c2] at h
      refine lv_aload_n hx hb dX5_setting_38 rfl (lv_at hl 0 rfl) ?_
      refine g_get hC hP 1 dX5_setting_39 (by decide) ge_23 rfl inX5 (by decide) rfl u_5_155 ?_
      refine lv_bipush (v := 6) hx hb dX5_setting_42 (by decide) ?_
      refine lv_iload_n hx hb dX5_setting_44 rfl (lv_at hl 1 rfl) ?_
      refine lv_imul hx hb dX5_setting_45 ?_
      refine lv_iload_n hx hb dX5_setting_46 rfl (lv_at hl 2 rfl) ?_
      refine lv_iadd hx hb dX5_setting_47 ?_
      obtain ⟨v3, hv, h⟩ := ob h
      refine g_ld hC hP dX5_setting_48 (by decide) ge_24 hv ?_
      refine lv_goto (tgt := 53) hx hb dX5_setting_49 (by decide) ?_
      cases h
      exact g_iret hC hP hS dX5_setting_53 rfl
  refine lv_aload_n hx hb dX5_setting_0 rfl (lv_at hl 0 rfl) ?_
  refine lv_iload_n hx hb dX5_setting_1 rfl (lv_at hl 1 rfl) ?_
  refine lv_iconst (v := 0) hx hb dX5_setting_2 (by decide) ?_
  refine lv_iconst (v := 3) hx hb dX5_setting_3 (by decide) ?_
  obtain ⟨v4, hv, h⟩ := bd1_e h
  refine g_ki (g_runS (As := [.int x1, .int 0, .int 3]) (rest := [.ref (ad γ 23)]) hC hP (c5_in l hv) u_5_210 yv_X5_in (Nat.le_of_ble_eq_true rfl) rfl hl.1 rfl (Nat.le_of_ble_eq_true rfl) dX5_setting_4 ⟨by decide, by decide⟩) hS (fun H locs hP hS => ?_)
  refine lv_if_ne (tgt := 14) hx hb dX5_setting_7 (by decide) (fun c5 => ?_) (fun c5 => ?_)
  · rw [if_neg c5] at h
    refine lv_iload_n hx hb dX5_setting_14 rfl (lv_at hl 2 rfl) ?_
    refine lv_iconst (v := 0) hx hb dX5_setting_15 (by decide) ?_
    refine lv_iconst (v := 5) hx hb dX5_setting_16 (by decide) ?_
    obtain ⟨v6, hv, h⟩ := bd1_e h
    refine g_ki (g_runS (As := [.int x2, .int 0, .int 5]) (rest := [.ref (ad γ 23)]) hC hP (c5_in l hv) u_5_210 yv_X5_in (Nat.le_of_ble_eq_true rfl) rfl hl.1 rfl (Nat.le_of_ble_eq_true rfl) dX5_setting_17 ⟨by decide, by decide⟩) hS (fun H locs hP hS => ?_)
    refine lv_if_ne (tgt := 27) hx hb dX5_setting_20 (by decide) (fun c7 => ?_) (fun c7 => ?_)
    · rw [if_neg c7] at h
      refine lv_iconst (v := 0) hx hb dX5_setting_27 (by decide) ?_
      exact J28 M 0 h _ _ _ hP hS (lv_sub hl [0, 1, 2] rfl)
    · rw [if_pos c7] at h
      refine lv_iconst (v := 2) hx hb dX5_setting_23 (by decide) ?_
      refine lv_goto (tgt := 28) hx hb dX5_setting_24 (by decide) ?_
      exact J28 M 2 h _ _ _ hP hS (lv_sub hl [0, 1, 2] rfl)
  · rw [if_pos c5] at h
    refine lv_iconst (v := 1) hx hb dX5_setting_10 (by decide) ?_
    refine lv_goto (tgt := 28) hx hb dX5_setting_11 (by decide) ?_
    exact J28 M 1 h _ _ _ hP hS (lv_sub hl [0, 1, 2] rfl)
def r5_append_b113 (x1 : Int32) (M_113 : OS) (x3_113 : Int32) : Option ((OS × Int32) ⊕ (OS)) :=
  (if x3_113 < 0 then some (.inr M_113)
  else (some ((x1 >>> (x3_113 &&& 31)) &&& 255)).bind fun v4 =>
  (if v4 = 0 then some (.inl (M_113, (x3_113 + (-8))))
  else (wr 40 M_113 4 (M_113 5 0) v4).bind fun M6 =>
  (sw M6 5 ((M6 5 0) + 1)).bind fun M7 =>
  some (.inl (M7, (x3_113 + (-8))))))
def r5_append_j98 (M_98 : OS) (x1 : Int32) (s0_98 : Int32)  : Option (Int32 × OS) :=
  (sw M_98 0 s0_98).bind fun M1 =>
  (if (M1 0 0) = 0 then bd1 (it2 (r5_append_b113 x1) 200 M1 24) (fun M_x113 => some ((M_x113 5 0), M_x113))
  else some (0, M1))
def r5_append_j62 (M_62 : OS) (x1 : Int32) (x2_62 : Int32) (x3_62 : Int32) (s0_62 : Int32)  : Option ((OS × Int32 × Int32) ⊕ (OS × Int32)) :=
  (sw M_62 0 s0_62).bind fun M9 =>
  some (.inl (M9, x2_62, (x3_62 + (-8))))
def r5_append_j34 (M_34 : OS) (x1 : Int32) (x3_34 : Int32) (x4_34 : Int32) (s0_34 : Int32) (s1_34 : Int32)  : Option ((OS × Int32 × Int32) ⊕ (OS × Int32)) :=
  (if x4_34 = 0 then r5_append_j62 M_34 x1 (s1_34 + s0_34) x3_34 (M_34 0 0)
  else bd1 (r5_in x4_34 33 126) (fun v11 =>
  (if v11 = 0 then r5_append_j62 M_34 x1 (s1_34 + s0_34) x3_34 1
  else r5_append_j62 M_34 x1 (s1_34 + s0_34) x3_34 (M_34 0 0))))
def r5_append_b10 (x1 : Int32) (M_10 : OS) (x2_10 : Int32) (x3_10 : Int32) : Option ((OS × Int32 × Int32) ⊕ (OS × Int32)) :=
  (if x3_10 < 0 then some (.inr (M_10, x2_10))
  else (some ((x1 >>> (x3_10 &&& 31)) &&& 255)).bind fun v14 =>
  (if v14 = 0 then r5_append_j34 M_10 x1 x3_10 v14 0 x2_10
  else r5_append_j34 M_10 x1 x3_10 v14 1 x2_10))
def r5_append (M : OS) (x1 : Int32) : Option (Int32 × OS) :=
  (sw M 0 0).bind fun M8 =>
  bd2 (it3 (r5_append_b10 x1) 200 M8 0 24) (fun M_x10 x2_x10 => (if (M_x10 0 0) = 0 then (if ((M_x10 5 0) + x2_x10) ≤ 40 then r5_append_j98 M_x10 x1 (M_x10 0 0)
  else r5_append_j98 M_x10 x1 2)
  else r5_append_j98 M_x10 x1 (M_x10 0 0)))
theorem yv_X5_append : gYV yX5_append cX5_append 5 (some .int) 1 := ⟨u_6_40, u_6_41, u_1_7, u_6_42, ⟨by decide +kernel, by decide +kernel, by decide +kernel⟩, by decide⟩
set_option maxHeartbeats 4000000 in
set_option maxRecDepth 100000 in
theorem c5_append (l : Launch) {γ : GA} {sz : Nat} {T P X Y B M : OS} {E : Nat → OS} {O : Nat → Int64} {x1 : Int32} {r0 : Int32} {Mz : OS} (h : r5_append M x1 = some (r0, Mz)) : Met l yX5_append (gU yX5_append cX5_append 5 (some .int)) (gR 1 0 0) (gPc γ [.ref (ad γ 23), .int x1] sz (T, P, X, Y, E, B, M, O)) (gQi γ r0 sz (T, P, X, Y, E, B, Mz, O)) 0 0 (gA γ sz) := by
  refine g_met (fun sz => gQi γ r0 sz (T, P, X, Y, E, B, Mz, O)) (by decide) (Nat.le_of_ble_eq_true rfl) ?_
  intro p e s m args below meth c ls hC hP hS hl
  have hx := hC.x
  have hb := hC.b
  have hl : lv_has ls 5 [(0, .ref (ad γ 23)), (1, .int x1)] := hl
  unfold r5_append at h
  have J98 : ∀ (M_98 : OS) (s0_98 : Int32) (h : r5_append_j98 M_98 x1 s0_98 = some (r0, Mz)), ∀ (H : Heap) (locs : List Loc) (ls : Array Slot), va_P γ.1 vwCl (gw γ (T, P, X, Y, E, B, M_98, O)) H → va_S (gA γ s.heap.size) s.heap H locs → lv_has ls 5 [(0, .ref (ad γ 23)), (1, .int x1)] → W p l e (gR 1 0 0) s m args below meth c H locs 0 0 (MQ below (gQi γ r0 s.heap.size (T, P, X, Y, E, B, Mz, O)) args s 0 0 (gA γ s.heap.size)) (F0 m 98 ls [.int s0_98, .ref (ad γ 23)]) := by
    intro M_98 s0_98 h H locs ls hP hS hl
    unfold r5_append_j98 at h
    obtain ⟨M1, hv, h⟩ := ob h
    refine g_putI hC hP hS (fun Z => (T, P, X, Y, E, B, Z, O)) 0 tyX5 dX5_append_98 (by decide) ge_23 rfl inX5 tyX5_ok nmX5 (by decide) u_5_154 rfl rfl (Nat.le_of_ble_eq_true rfl) gp_23_0 hv (fun H locs hP hS => ?_)
    refine lv_aload_n hx hb dX5_append_101 rfl (lv_at hl 0 rfl) ?_
    refine g_get hC hP 0 dX5_append_102 (by decide) ge_23 rfl inX5 (by decide) rfl u_5_154 ?_
    refine lv_if_eq (tgt := 110) hx hb dX5_append_105 (by decide) (fun c2 => ?_) (fun c2 => ?_)
    · rw [if_pos c2] at h
      refine lv_bipush (v := 24) hx hb dX5_append_110 (by decide) ?_
      refine lv_istore_n (lv' := [(3, .int 24), (0, .ref (ad γ 23)), (1, .int x1)]) hx hb dX5_append_112 rfl hl (by decide) rfl (fun ls hl => ?_)
      have L113 := it2_W (r5_append_b113 x1) (fun (M_113 : OS) (x3_113 : Int32) => ∀ (H : Heap) (locs : List Loc) (ls : Array Slot), va_P γ.1 vwCl (gw γ (T, P, X, Y, E, B, M_113, O)) H → va_S (gA γ s.heap.size) s.heap H locs → lv_has ls 5 [(0, .ref (ad γ 23)), (1, .int x1), (3, .int x3_113)] → W p l e (gR 1 0 0) s m args below meth c H locs 0 0 (MQ below (gQi γ r0 s.heap.size (T, P, X, Y, E, B, Mz, O)) args s 0 0 (gA γ s.heap.size)) (F0 m 113 ls [])) (fun (r_k : OS) => (∀ (M_x113 : OS), r_k = M_x113 → ∀ (H : Heap) (locs : List Loc) (ls : Array Slot), va_P γ.1 vwCl (gw γ (T, P, X, Y, E, B, M_x113, O)) H → va_S (gA γ s.heap.size) s.heap H locs → lv_has ls 5 [(0, .ref (ad γ 23))] → W p l e (gR 1 0 0) s m args below meth c H locs 0 0 (MQ below (gQi γ r0 s.heap.size (T, P, X, Y, E, B, Mz, O)) args s 0 0 (gA γ s.heap.size)) (F0 m 161 ls []))) (by
        intro M_113 x3_113 o_113 h kS kR H locs ls hP hS hl
        unfold r5_append_b113 at h
        refine lv_iload_n hx hb dX5_append_113 rfl (lv_at hl 2 rfl) ?_
        refine lv_if_lt (tgt := 161) hx hb dX5_append_114 (by decide) (fun c3 => ?_) (fun c3 => ?_)
        · rw [if_pos c3] at h
          cases h
          exact kR _ rfl _ rfl _ _ _ hP hS (lv_sub hl [0] rfl)
        · rw [if_neg c3] at h
          refine lv_iload_n hx hb dX5_append_117 rfl (lv_at hl 1 rfl) ?_
          refine lv_iload_n hx hb dX5_append_118 rfl (lv_at hl 2 rfl) ?_
          refine lv_ishr hx hb dX5_append_119 ?_
          refine lv_sipush (v := 255) hx hb dX5_append_120 (by decide) ?_
          refine lv_iand hx hb dX5_append_123 ?_
          obtain ⟨v4, hv, h⟩ := ob h
          refine lv_topi (fun y9 ey9 => ?_)
          obtain rfl : v4 = y9 := (Option.some.inj hv).symm.trans ey9.symm
          clear hv ey9
          refine lv_istore (lv' := [(4, .int v4), (0, .ref (ad γ 23)), (1, .int x1), (3, .int x3_113)]) hx hb dX5_append_124 hl (by decide) rfl (fun ls hl => ?_)
          refine lv_iload hx hb dX5_append_126 (lv_at hl 0 rfl) ?_
          refine lv_if_ne (tgt := 134) hx hb dX5_append_128 (by decide) (fun c5 => ?_) (fun c5 => ?_)
          · rw [if_neg c5] at h
            refine lv_aload_n hx hb dX5_append_134 rfl (lv_at hl 1 rfl) ?_
            refine g_get hC hP 4 dX5_append_135 (by decide) ge_23 rfl inX5 (by decide) rfl u_5_158 ?_
            refine lv_aload_n hx hb dX5_append_138 rfl (lv_at hl 1 rfl) ?_
            refine g_get hC hP 5 dX5_append_139 (by decide) ge_23 rfl inX5 (by decide) rfl u_5_159 ?_
            refine lv_iload hx hb dX5_append_142 (lv_at hl 0 rfl) ?_
            obtain ⟨M6, hv, h⟩ := ob h
            refine g_st hC hP hS (fun Z => (T, P, X, Y, E, B, Z, O)) dX5_append_144 (by decide) ge_25 gs_25 hv (fun H locs hP hS => ?_)
            refine lv_aload_n hx hb dX5_append_145 rfl (lv_at hl 1 rfl) ?_
            refine lv_dup hx hb dX5_append_146 rfl ?_
            refine g_get hC hP 5 dX5_append_147 (by decide) ge_23 rfl inX5 (by decide) rfl u_5_159 ?_
            refine lv_iconst (v := 1) hx hb dX5_append_150 (by decide) ?_
            refine lv_iadd hx hb dX5_append_151 ?_
            obtain ⟨M7, hv, h⟩ := ob h
            refine g_putI hC hP hS (fun Z => (T, P, X, Y, E, B, Z, O)) 5 tyX5 dX5_append_152 (by decide) ge_23 rfl inX5 tyX5_ok nmX5 (by decide) u_5_159 rfl rfl (Nat.le_of_ble_eq_true rfl) gp_23_5 hv (fun H locs hP hS => ?_)
            refine lv_iinc (v := (x3_113 + (-8))) (lv' := [(3, .int (x3_113 + (-8))), (4, .int v4), (0, .ref (ad γ 23)), (1, .int x1)]) hx hb dX5_append_155 hl (k := 3) rfl rfl (by decide) rfl (fun ls hl => ?_)
            refine lv_goto (tgt := 113) hx hb dX5_append_158 (by decide) ?_
            cases h
            exact kS _ _ rfl _ _ _ hP hS (lv_sub hl [2, 3, 0] rfl)
          · rw [if_pos c5] at h
            refine lv_goto (tgt := 155) hx hb dX5_append_131 (by decide) ?_
            refine lv_iinc (v := (x3_113 + (-8))) (lv' := [(3, .int (x3_113 + (-8))), (4, .int v4), (0, .ref (ad γ 23)), (1, .int x1)]) hx hb dX5_append_155 hl (k := 3) rfl rfl (by decide) rfl (fun ls hl => ?_)
            refine lv_goto (tgt := 113) hx hb dX5_append_158 (by decide) ?_
            cases h
            exact kS _ _ rfl _ _ _ hP hS (lv_sub hl [2, 3, 0] rfl))
      obtain ⟨M_x113, hv, h⟩ := bd1_e h
      refine L113 _ _ _ _ hv (fun q0 e9 H locs ls hP hS hl => ?_) _ _ _ hP hS (lv_sub hl [1, 2, 0] rfl)
      obtain rfl := e9
      refine lv_aload_n hx hb dX5_append_161 rfl (lv_at hl 0 rfl) ?_
      refine g_get hC hP 5 dX5_append_162 (by decide) ge_23 rfl inX5 (by decide) rfl u_5_159 ?_
      cases h
      exact g_iret hC hP hS dX5_append_165 rfl
    · rw [if_neg c2] at h
      refine lv_iconst (v := 0) hx hb dX5_append_108 (by decide) ?_
      cases h
      exact g_iret hC hP hS dX5_append_109 rfl
  refine lv_aload_n hx hb dX5_append_0 rfl (lv_at hl 0 rfl) ?_
  refine lv_iconst (v := 0) hx hb dX5_append_1 (by decide) ?_
  obtain ⟨M8, hv, h⟩ := ob h
  refine g_putI hC hP hS (fun Z => (T, P, X, Y, E, B, Z, O)) 0 tyX5 dX5_append_2 (by decide) ge_23 rfl inX5 tyX5_ok nmX5 (by decide) u_5_154 rfl rfl (Nat.le_of_ble_eq_true rfl) gp_23_0 hv (fun H locs hP hS => ?_)
  refine lv_iconst (v := 0) hx hb dX5_append_5 (by decide) ?_
  refine lv_istore_n (lv' := [(2, .int 0), (0, .ref (ad γ 23)), (1, .int x1)]) hx hb dX5_append_6 rfl hl (by decide) rfl (fun ls hl => ?_)
  refine lv_bipush (v := 24) hx hb dX5_append_7 (by decide) ?_
  refine lv_istore_n (lv' := [(3, .int 24), (2, .int 0), (0, .ref (ad γ 23)), (1, .int x1)]) hx hb dX5_append_9 rfl hl (by decide) rfl (fun ls hl => ?_)
  have L10 := it3_W (r5_append_b10 x1) (fun (M_10 : OS) (x2_10 : Int32) (x3_10 : Int32) => ∀ (H : Heap) (locs : List Loc) (ls : Array Slot), va_P γ.1 vwCl (gw γ (T, P, X, Y, E, B, M_10, O)) H → va_S (gA γ s.heap.size) s.heap H locs → lv_has ls 5 [(0, .ref (ad γ 23)), (1, .int x1), (2, .int x2_10), (3, .int x3_10)] → W p l e (gR 1 0 0) s m args below meth c H locs 0 0 (MQ below (gQi γ r0 s.heap.size (T, P, X, Y, E, B, Mz, O)) args s 0 0 (gA γ s.heap.size)) (F0 m 10 ls [])) (fun (r_k : OS × Int32) => (∀ (M_x10 : OS) (x2_x10 : Int32), r_k = (M_x10, x2_x10) → ∀ (H : Heap) (locs : List Loc) (ls : Array Slot), va_P γ.1 vwCl (gw γ (T, P, X, Y, E, B, M_x10, O)) H → va_S (gA γ s.heap.size) s.heap H locs → lv_has ls 5 [(0, .ref (ad γ 23)), (1, .int x1), (2, .int x2_x10)] → W p l e (gR 1 0 0) s m args below meth c H locs 0 0 (MQ below (gQi γ r0 s.heap.size (T, P, X, Y, E, B, Mz, O)) args s 0 0 (gA γ s.heap.size)) (F0 m 71 ls []))) (by
    intro M_10 x2_10 x3_10 o_10 h kS kR H locs ls hP hS hl
    unfold r5_append_b10 at h
    have J62 : ∀ (M_62 : OS) (x2_62 : Int32) (x3_62 : Int32) (s0_62 : Int32) (h : r5_append_j62 M_62 x1 x2_62 x3_62 s0_62 = some o_10), ∀ (H : Heap) (locs : List Loc) (ls : Array Slot), va_P γ.1 vwCl (gw γ (T, P, X, Y, E, B, M_62, O)) H → va_S (gA γ s.heap.size) s.heap H locs → lv_has ls 5 [(0, .ref (ad γ 23)), (1, .int x1), (2, .int x2_62), (3, .int x3_62)] → W p l e (gR 1 0 0) s m args below meth c H locs 0 0 (MQ below (gQi γ r0 s.heap.size (T, P, X, Y, E, B, Mz, O)) args s 0 0 (gA γ s.heap.size)) (F0 m 62 ls [.int s0_62, .ref (ad γ 23)]) := by
      intro M_62 x2_62 x3_62 s0_62 h H locs ls hP hS hl
      unfold r5_append_j62 at h
      obtain ⟨M9, hv, h⟩ := ob h
      refine g_putI hC hP hS (fun Z => (T, P, X, Y, E, B, Z, O)) 0 tyX5 dX5_append_62 (by decide) ge_23 rfl inX5 tyX5_ok nmX5 (by decide) u_5_154 rfl rfl (Nat.le_of_ble_eq_true rfl) gp_23_0 hv (fun H locs hP hS => ?_)
      refine lv_iinc (v := (x3_62 + (-8))) (lv' := [(3, .int (x3_62 + (-8))), (0, .ref (ad γ 23)), (1, .int x1), (2, .int x2_62)]) hx hb dX5_append_65 hl (k := 3) rfl rfl (by decide) rfl (fun ls hl => ?_)
      refine lv_goto (tgt := 10) hx hb dX5_append_68 (by decide) ?_
      cases h
      exact kS _ _ _ rfl _ _ _ hP hS (lv_sub hl [1, 2, 3, 0] rfl)
    have J34 : ∀ (M_34 : OS) (x3_34 : Int32) (x4_34 : Int32) (s0_34 : Int32) (s1_34 : Int32) (h : r5_append_j34 M_34 x1 x3_34 x4_34 s0_34 s1_34 = some o_10), ∀ (H : Heap) (locs : List Loc) (ls : Array Slot), va_P γ.1 vwCl (gw γ (T, P, X, Y, E, B, M_34, O)) H → va_S (gA γ s.heap.size) s.heap H locs → lv_has ls 5 [(0, .ref (ad γ 23)), (1, .int x1), (3, .int x3_34), (4, .int x4_34)] → W p l e (gR 1 0 0) s m args below meth c H locs 0 0 (MQ below (gQi γ r0 s.heap.size (T, P, X, Y, E, B, Mz, O)) args s 0 0 (gA γ s.heap.size)) (F0 m 34 ls [.int s0_34, .int s1_34]) := by
      intro M_34 x3_34 x4_34 s0_34 s1_34 h H locs ls hP hS hl
      unfold r5_append_j34 at h
      refine lv_iadd hx hb dX5_append_34 ?_
      refine lv_istore_n (lv' := [(2, .int (s1_34 + s0_34)), (0, .ref (ad γ 23)), (1, .int x1), (3, .int x3_34), (4, .int x4_34)]) hx hb dX5_append_35 rfl hl (by decide) rfl (fun ls hl => ?_)
      refine lv_aload_n hx hb dX5_append_36 rfl (lv_at hl 1 rfl) ?_
      refine lv_iload hx hb dX5_append_37 (lv_at hl 4 rfl) ?_
      refine lv_if_eq (tgt := 58) hx hb dX5_append_39 (by decide) (fun c10 => ?_) (fun c10 => ?_)
      · rw [if_pos c10] at h
        refine lv_aload_n hx hb dX5_append_58 rfl (lv_at hl 1 rfl) ?_
        refine g_get hC hP 0 dX5_append_59 (by decide) ge_23 rfl inX5 (by decide) rfl u_5_154 ?_
        exact J62 M_34 (s1_34 + s0_34) x3_34 (M_34 0 0) h _ _ _ hP hS (lv_sub hl [1, 2, 0, 3] rfl)
      · rw [if_neg c10] at h
        refine lv_iload hx hb dX5_append_42 (lv_at hl 4 rfl) ?_
        refine lv_bipush (v := 33) hx hb dX5_append_44 (by decide) ?_
        refine lv_bipush (v := 126) hx hb dX5_append_46 (by decide) ?_
        obtain ⟨v11, hv, h⟩ := bd1_e h
        refine g_ki (g_runS (As := [.int x4_34, .int 33, .int 126]) (rest := [.ref (ad γ 23)]) hC hP (c5_in l hv) u_5_210 yv_X5_in (Nat.le_of_ble_eq_true rfl) rfl hl.1 rfl (Nat.le_of_ble_eq_true rfl) dX5_append_48 ⟨by decide, by decide⟩) hS (fun H locs hP hS => ?_)
        refine lv_if_ne (tgt := 58) hx hb dX5_append_51 (by decide) (fun c12 => ?_) (fun c12 => ?_)
        · rw [if_neg c12] at h
          refine lv_aload_n hx hb dX5_append_58 rfl (lv_at hl 1 rfl) ?_
          refine g_get hC hP 0 dX5_append_59 (by decide) ge_23 rfl inX5 (by decide) rfl u_5_154 ?_
          exact J62 M_34 (s1_34 + s0_34) x3_34 (M_34 0 0) h _ _ _ hP hS (lv_sub hl [1, 2, 0, 3] rfl)
        · rw [if_pos c12] at h
          refine lv_iconst (v := 1) hx hb dX5_append_54 (by decide) ?_
          refine lv_goto (tgt := 62) hx hb dX5_append_55 (by decide) ?_
          exact J62 M_34 (s1_34 + s0_34) x3_34 1 h _ _ _ hP hS (lv_sub hl [1, 2, 0, 3] rfl)
    refine lv_iload_n hx hb dX5_append_10 rfl (lv_at hl 3 rfl) ?_
    refine lv_if_lt (tgt := 71) hx hb dX5_append_11 (by decide) (fun c13 => ?_) (fun c13 => ?_)
    · rw [if_pos c13] at h
      cases h
      exact kR _ rfl _ _ rfl _ _ _ hP hS (lv_sub hl [0, 1, 2] rfl)
    · rw [if_neg c13] at h
      refine lv_iload_n hx hb dX5_append_14 rfl (lv_at hl 1 rfl) ?_
      refine lv_iload_n hx hb dX5_append_15 rfl (lv_at hl 3 rfl) ?_
      refine lv_ishr hx hb dX5_append_16 ?_
      refine lv_sipush (v := 255) hx hb dX5_append_17 (by decide) ?_
      refine lv_iand hx hb dX5_append_20 ?_
      obtain ⟨v14, hv, h⟩ := ob h
      refine lv_topi (fun y9 ey9 => ?_)
      obtain rfl : v14 = y9 := (Option.some.inj hv).symm.trans ey9.symm
      clear hv ey9
      refine lv_istore (lv' := [(4, .int v14), (0, .ref (ad γ 23)), (1, .int x1), (2, .int x2_10), (3, .int x3_10)]) hx hb dX5_append_21 hl (by decide) rfl (fun ls hl => ?_)
      refine lv_iload_n hx hb dX5_append_23 rfl (lv_at hl 3 rfl) ?_
      refine lv_iload hx hb dX5_append_24 (lv_at hl 0 rfl) ?_
      refine lv_if_ne (tgt := 33) hx hb dX5_append_26 (by decide) (fun c15 => ?_) (fun c15 => ?_)
      · rw [if_neg c15] at h
        refine lv_iconst (v := 1) hx hb dX5_append_33 (by decide) ?_
        exact J34 M_10 x3_10 v14 1 x2_10 h _ _ _ hP hS (lv_sub hl [1, 2, 4, 0] rfl)
      · rw [if_pos c15] at h
        refine lv_iconst (v := 0) hx hb dX5_append_29 (by decide) ?_
        refine lv_goto (tgt := 34) hx hb dX5_append_30 (by decide) ?_
        exact J34 M_10 x3_10 v14 0 x2_10 h _ _ _ hP hS (lv_sub hl [1, 2, 4, 0] rfl))
  obtain ⟨M_x10, x2_x10, hv, h⟩ := bd2_e h
  refine L10 _ _ _ _ _ hv (fun q0 q1 e9 H locs ls hP hS hl => ?_) _ _ _ hP hS (lv_sub hl [2, 3, 1, 0] rfl)
  obtain ⟨rfl, rfl⟩ := inj2 e9
  refine lv_aload_n hx hb dX5_append_71 rfl (lv_at hl 0 rfl) ?_
  refine lv_aload_n hx hb dX5_append_72 rfl (lv_at hl 0 rfl) ?_
  refine g_get hC hP 0 dX5_append_73 (by decide) ge_23 rfl inX5 (by decide) rfl u_5_154 ?_
  refine lv_if_ne (tgt := 94) hx hb dX5_append_76 (by decide) (fun c16 => ?_) (fun c16 => ?_)
  · rw [if_neg c16] at h
    refine lv_aload_n hx hb dX5_append_94 rfl (lv_at hl 0 rfl) ?_
    refine g_get hC hP 0 dX5_append_95 (by decide) ge_23 rfl inX5 (by decide) rfl u_5_154 ?_
    exact J98 M_x10 (M_x10 0 0) h _ _ _ hP hS (lv_sub hl [0, 1] rfl)
  · rw [if_pos c16] at h
    refine lv_aload_n hx hb dX5_append_79 rfl (lv_at hl 0 rfl) ?_
    refine g_get hC hP 5 dX5_append_80 (by decide) ge_23 rfl inX5 (by decide) rfl u_5_159 ?_
    refine lv_iload_n hx hb dX5_append_83 rfl (lv_at hl 2 rfl) ?_
    refine lv_iadd hx hb dX5_append_84 ?_
    refine lv_bipush (v := 40) hx hb dX5_append_85 (by decide) ?_
    refine lv_icmp_le (tgt := 94) hx hb dX5_append_87 (by decide) (fun c17 => ?_) (fun c17 => ?_)
    · rw [if_pos c17] at h
      refine lv_aload_n hx hb dX5_append_94 rfl (lv_at hl 0 rfl) ?_
      refine g_get hC hP 0 dX5_append_95 (by decide) ge_23 rfl inX5 (by decide) rfl u_5_154 ?_
      exact J98 M_x10 (M_x10 0 0) h _ _ _ hP hS (lv_sub hl [0, 1] rfl)
    · rw [if_neg c17] at h
      refine lv_iconst (v := 2) hx hb dX5_append_90 (by decide) ?_
      refine lv_goto (tgt := 98) hx hb dX5_append_91 (by decide) ?_
      exact J98 M_x10 2 h _ _ _ hP hS (lv_sub hl [0, 1] rfl)
def r5_here (M : OS) : Option Int32 :=
  (if (M 5 0) ≤ (M 6 0) then some (-1)
  else (rd 40 (M 4) (M 6 0)).bind fun v2 =>
  some v2)
theorem yv_X5_here : gYV yX5_here cX5_here 1 (some .int) 0 := ⟨u_6_57, u_sp_38, u_1_7, u_6_58, ⟨by decide +kernel, by decide +kernel, by decide +kernel⟩, by decide⟩
set_option maxHeartbeats 4000000 in
set_option maxRecDepth 100000 in
theorem c5_here (l : Launch) {γ : GA} {sz : Nat} {T P X Y B M : OS} {E : Nat → OS} {O : Nat → Int64} {r0 : Int32} (h : r5_here M = some r0) : Met l yX5_here (gU yX5_here cX5_here 1 (some .int)) (gR 0 0 0) (gPc γ [.ref (ad γ 23)] sz (T, P, X, Y, E, B, M, O)) (gQi γ r0 sz (T, P, X, Y, E, B, M, O)) 0 0 (gA γ sz) := by
  refine g_met (fun sz => gQi γ r0 sz (T, P, X, Y, E, B, M, O)) (by decide) (Nat.le_of_ble_eq_true rfl) ?_
  intro p e s m args below meth c ls hC hP hS hl
  have hx := hC.x
  have hb := hC.b
  have hl : lv_has ls 1 [(0, .ref (ad γ 23))] := hl
  unfold r5_here at h
  refine lv_aload_n hx hb dX5_here_0 rfl (lv_at hl 0 rfl) ?_
  refine g_get hC hP 6 dX5_here_1 (by decide) ge_23 rfl inX5 (by decide) rfl u_5_160 ?_
  refine lv_aload_n hx hb dX5_here_4 rfl (lv_at hl 0 rfl) ?_
  refine g_get hC hP 5 dX5_here_5 (by decide) ge_23 rfl inX5 (by decide) rfl u_5_159 ?_
  refine lv_icmp_ge (tgt := 23) hx hb dX5_here_8 (by decide) (fun c1 => ?_) (fun c1 => ?_)
  · rw [if_pos c1] at h
    refine lv_iconst (v := -1) hx hb dX5_here_23 (by decide) ?_
    cases h
    exact g_iret hC hP hS dX5_here_24 rfl
  · rw [if_neg c1] at h
    refine lv_aload_n hx hb dX5_here_11 rfl (lv_at hl 0 rfl) ?_
    refine g_get hC hP 4 dX5_here_12 (by decide) ge_23 rfl inX5 (by decide) rfl u_5_158 ?_
    refine lv_aload_n hx hb dX5_here_15 rfl (lv_at hl 0 rfl) ?_
    refine g_get hC hP 6 dX5_here_16 (by decide) ge_23 rfl inX5 (by decide) rfl u_5_160 ?_
    obtain ⟨v2, hv, h⟩ := ob h
    refine g_ld hC hP dX5_here_19 (by decide) ge_25 hv ?_
    refine lv_goto (tgt := 24) hx hb dX5_here_20 (by decide) ?_
    cases h
    exact g_iret hC hP hS dX5_here_24 rfl
def r5_digit_j33 (M_33 : OS)  : Option (Int32 × OS) :=
  (if (M_33 7 0) < 0 then (sw M_33 6 ((M_33 6 0) + 1)).bind fun M2 =>
  (rd 40 (M2 4) ((M2 6 0) - 1)).bind fun v3 =>
  some ((v3 - 48), M2)
  else some (0, M_33))
def r5_digit (M : OS) (x1 : Int32) (x2 : Int32) : Option (Int32 × OS) :=
  (if 0 ≤ (M 7 0) then r5_digit_j33 M
  else bd1 (r5_here M) (fun v5 =>
  bd1 (r5_in v5 (48 + x1) (48 + x2)) (fun v6 =>
  (if v6 = 0 then (sw M 7 (M 6 0)).bind fun M8 =>
  r5_digit_j33 M8
  else r5_digit_j33 M))))
theorem yv_X5_digit : gYV yX5_digit cX5_digit 3 (some .int) 2 := ⟨u_6_53, u_sp_37, u_1_7, u_6_54, ⟨by decide +kernel, by decide +kernel, by decide +kernel⟩, by decide⟩
set_option maxHeartbeats 4000000 in
set_option maxRecDepth 100000 in
theorem c5_digit (l : Launch) {γ : GA} {sz : Nat} {T P X Y B M : OS} {E : Nat → OS} {O : Nat → Int64} {x1 : Int32} {x2 : Int32} {r0 : Int32} {Mz : OS} (h : r5_digit M x1 x2 = some (r0, Mz)) : Met l yX5_digit (gU yX5_digit cX5_digit 3 (some .int)) (gR 1 0 0) (gPc γ [.ref (ad γ 23), .int x1, .int x2] sz (T, P, X, Y, E, B, M, O)) (gQi γ r0 sz (T, P, X, Y, E, B, Mz, O)) 0 0 (gA γ sz) := by
  refine g_met (fun sz => gQi γ r0 sz (T, P, X, Y, E, B, Mz, O)) (by decide) (Nat.le_of_ble_eq_true rfl) ?_
  intro p e s m args below meth c ls hC hP hS hl
  have hx := hC.x
  have hb := hC.b
  have hl : lv_has ls 3 [(0, .ref (ad γ 23)), (1, .int x1), (2, .int x2)] := hl
  unfold r5_digit at h
  have J33 : ∀ (M_33 : OS) (h : r5_digit_j33 M_33 = some (r0, Mz)), ∀ (H : Heap) (locs : List Loc) (ls : Array Slot), va_P γ.1 vwCl (gw γ (T, P, X, Y, E, B, M_33, O)) H → va_S (gA γ s.heap.size) s.heap H locs → lv_has ls 3 [(0, .ref (ad γ 23))] → W p l e (gR 1 0 0) s m args below meth c H locs 0 0 (MQ below (gQi γ r0 s.heap.size (T, P, X, Y, E, B, Mz, O)) args s 0 0 (gA γ s.heap.size)) (F0 m 33 ls []) := by
    intro M_33 h H locs ls hP hS hl
    unfold r5_digit_j33 at h
    refine lv_aload_n hx hb dX5_digit_33 rfl (lv_at hl 0 rfl) ?_
    refine g_get hC hP 7 dX5_digit_34 (by decide) ge_23 rfl inX5 (by decide) rfl u_5_161 ?_
    refine lv_if_lt (tgt := 42) hx hb dX5_digit_37 (by decide) (fun c1 => ?_) (fun c1 => ?_)
    · rw [if_pos c1] at h
      refine lv_aload_n hx hb dX5_digit_42 rfl (lv_at hl 0 rfl) ?_
      refine lv_dup hx hb dX5_digit_43 rfl ?_
      refine g_get hC hP 6 dX5_digit_44 (by decide) ge_23 rfl inX5 (by decide) rfl u_5_160 ?_
      refine lv_iconst (v := 1) hx hb dX5_digit_47 (by decide) ?_
      refine lv_iadd hx hb dX5_digit_48 ?_
      obtain ⟨M2, hv, h⟩ := ob h
      refine g_putI hC hP hS (fun Z => (T, P, X, Y, E, B, Z, O)) 6 tyX5 dX5_digit_49 (by decide) ge_23 rfl inX5 tyX5_ok nmX5 (by decide) u_5_160 rfl rfl (Nat.le_of_ble_eq_true rfl) gp_23_6 hv (fun H locs hP hS => ?_)
      refine lv_aload_n hx hb dX5_digit_52 rfl (lv_at hl 0 rfl) ?_
      refine g_get hC hP 4 dX5_digit_53 (by decide) ge_23 rfl inX5 (by decide) rfl u_5_158 ?_
      refine lv_aload_n hx hb dX5_digit_56 rfl (lv_at hl 0 rfl) ?_
      refine g_get hC hP 6 dX5_digit_57 (by decide) ge_23 rfl inX5 (by decide) rfl u_5_160 ?_
      refine lv_iconst (v := 1) hx hb dX5_digit_60 (by decide) ?_
      refine lv_isub hx hb dX5_digit_61 ?_
      obtain ⟨v3, hv, h⟩ := ob h
      refine g_ld hC hP dX5_digit_62 (by decide) ge_25 hv ?_
      refine lv_bipush (v := 48) hx hb dX5_digit_63 (by decide) ?_
      refine lv_isub hx hb dX5_digit_65 ?_
      cases h
      exact g_iret hC hP hS dX5_digit_66 rfl
    · rw [if_neg c1] at h
      refine lv_iconst (v := 0) hx hb dX5_digit_40 (by decide) ?_
      cases h
      exact g_iret hC hP hS dX5_digit_41 rfl
  refine lv_aload_n hx hb dX5_digit_0 rfl (lv_at hl 0 rfl) ?_
  refine g_get hC hP 7 dX5_digit_1 (by decide) ge_23 rfl inX5 (by decide) rfl u_5_161 ?_
  refine lv_if_ge (tgt := 33) hx hb dX5_digit_4 (by decide) (fun c4 => ?_) (fun c4 => ?_)
  · rw [if_pos c4] at h
    exact J33 M h _ _ _ hP hS (lv_sub hl [0] rfl)
  · rw [if_neg c4] at h
    refine lv_aload_n hx hb dX5_digit_7 rfl (lv_at hl 0 rfl) ?_
    obtain ⟨v5, hv, h⟩ := bd1_e h
    refine g_ki (g_runV (As := []) (rest := []) hC hP (c5_here l hv) (by decide) ge_23 rfl u_6_55 yv_X5_here (Nat.le_of_ble_eq_true rfl) rfl hl.1 rfl (Nat.le_of_ble_eq_true rfl) dX5_digit_8 ⟨by decide, by decide⟩) hS (fun H locs hP hS => ?_)
    refine lv_bipush (v := 48) hx hb dX5_digit_11 (by decide) ?_
    refine lv_iload_n hx hb dX5_digit_13 rfl (lv_at hl 1 rfl) ?_
    refine lv_iadd hx hb dX5_digit_14 ?_
    refine lv_bipush (v := 48) hx hb dX5_digit_15 (by decide) ?_
    refine lv_iload_n hx hb dX5_digit_17 rfl (lv_at hl 2 rfl) ?_
    refine lv_iadd hx hb dX5_digit_18 ?_
    obtain ⟨v6, hv, h⟩ := bd1_e h
    refine g_ki (g_runS (As := [.int v5, .int (48 + x1), .int (48 + x2)]) (rest := []) hC hP (c5_in l hv) u_5_210 yv_X5_in (Nat.le_of_ble_eq_true rfl) rfl hl.1 rfl (Nat.le_of_ble_eq_true rfl) dX5_digit_19 ⟨by decide, by decide⟩) hS (fun H locs hP hS => ?_)
    refine lv_if_ne (tgt := 33) hx hb dX5_digit_22 (by decide) (fun c7 => ?_) (fun c7 => ?_)
    · rw [if_neg c7] at h
      exact J33 M h _ _ _ hP hS (lv_sub hl [0] rfl)
    · rw [if_pos c7] at h
      refine lv_aload_n hx hb dX5_digit_25 rfl (lv_at hl 0 rfl) ?_
      refine lv_aload_n hx hb dX5_digit_26 rfl (lv_at hl 0 rfl) ?_
      refine g_get hC hP 6 dX5_digit_27 (by decide) ge_23 rfl inX5 (by decide) rfl u_5_160 ?_
      obtain ⟨M8, hv, h⟩ := ob h
      refine g_putI hC hP hS (fun Z => (T, P, X, Y, E, B, Z, O)) 7 tyX5 dX5_digit_30 (by decide) ge_23 rfl inX5 tyX5_ok nmX5 (by decide) u_5_161 rfl rfl (Nat.le_of_ble_eq_true rfl) gp_23_7 hv (fun H locs hP hS => ?_)
      exact J33 M8 h _ _ _ hP hS (lv_sub hl [0] rfl)
def r5_reads_j274 (M_274 : OS)  : Option OS :=
  (if 0 ≤ (M_274 7 0) then some M_274
  else (if (M_274 5 0) ≤ (M_274 6 0) then some M_274
  else (sw M_274 7 (M_274 6 0)).bind fun M3 =>
  some M3))
def r5_reads_j238 (M_238 : OS)  : Option OS :=
  (if 0 ≤ (M_238 7 0) then r5_reads_j274 M_238
  else bd1 (r5_here M_238) (fun v5 =>
  (if v5 = 42 then (sw M_238 6 ((M_238 6 0) + 1)).bind fun M7 =>
  bd2 (r5_digit M7 1 2) (fun v8 M9 =>
  (sw M9 11 v8).bind fun M10 =>
  r5_reads_j274 M10)
  else r5_reads_j274 M_238)))
def r5_reads_j217 (M_217 : OS) (x2_217 : Int32)  : Option OS :=
  (if 0 ≤ (M_217 7 0) then r5_reads_j238 M_217
  else (if (M_217 10 0) ≤ 15 then r5_reads_j238 M_217
  else (sw M_217 7 x2_217).bind fun M13 =>
  r5_reads_j238 M13))
def r5_reads_b78 (M_78 : OS) (x1_78 : Int32) : Option ((OS × Int32) ⊕ (OS)) :=
  (if 0 ≤ (M_78 7 0) then some (.inr M_78)
  else bd1 (r5_here M_78) (fun v19 =>
  (if v19 = 44 then (sw M_78 6 ((M_78 6 0) + 1)).bind fun M21 =>
  bd2 (r5_digit M21 (x1_78 + 1) 5) (fun v22 M23 =>
  (sw M23 9 ((M23 9 0) ||| (1 <<< (v22 &&& 31)))).bind fun M24 =>
  some (.inl (M24, v22)))
  else some (.inr M_78))))
def r5_reads_j54 (M_54 : OS)  : Option OS :=
  (sw M_54 6 ((M_54 6 0) + 1)).bind fun M14 =>
  bd2 (r5_digit M14 0 5) (fun v15 M16 =>
  (sw M16 9 (1 <<< (v15 &&& 31))).bind fun M17 =>
  bd1 (it2 r5_reads_b78 200 M17 v15) (fun M_x78 => (if 0 ≤ (M_x78 7 0) then r5_reads_j238 M_x78
  else bd1 (r5_here M_x78) (fun v26 =>
  (if v26 = 47 then (sw M_x78 6 ((M_x78 6 0) + 1)).bind fun M28 =>
  bd2 (r5_digit M28 0 9) (fun v29 M30 =>
  (sw M30 10 v29).bind fun M31 =>
  (if 0 ≤ (M31 7 0) then r5_reads_j217 M31 (M28 6 0)
  else (if (M31 10 0) = 0 then r5_reads_j217 M31 (M28 6 0)
  else bd1 (r5_here M31) (fun v34 =>
  bd1 (r5_in v34 48 57) (fun v35 =>
  (if v35 = 0 then r5_reads_j217 M31 (M28 6 0)
  else bd2 (r5_digit M31 0 9) (fun v37 M38 =>
  (sw M38 10 ((10 * (M31 10 0)) + v37)).bind fun M39 =>
  r5_reads_j217 M39 (M28 6 0))))))))
  else r5_reads_j238 M_x78)))))
def r5_reads (M : OS) : Option OS :=
  (sw M 6 0).bind fun M40 =>
  (sw M40 7 (-1)).bind fun M41 =>
  (sw M41 10 0).bind fun M42 =>
  (sw M42 11 1).bind fun M43 =>
  bd2 (r5_digit M43 0 5) (fun v44 M45 =>
  (sw M45 8 v44).bind fun M46 =>
  (if 0 ≤ (M46 7 0) then r5_reads_j54 M46
  else bd1 (r5_here M46) (fun v48 =>
  (if v48 = 58 then r5_reads_j54 M46
  else (sw M46 7 (M46 6 0)).bind fun M50 =>
  r5_reads_j54 M50))))
theorem yv_X5_reads : gYV yX5_reads cX5_reads 3 none 0 := ⟨u_6_49, u_sp_36, u_1_7, u_6_50, ⟨by decide +kernel, by decide +kernel, by decide +kernel⟩, by decide⟩
set_option maxHeartbeats 4000000 in
set_option maxRecDepth 100000 in
theorem c5_reads (l : Launch) {γ : GA} {sz : Nat} {T P X Y B M : OS} {E : Nat → OS} {O : Nat → Int64} {Mz : OS} (h : r5_reads M = some Mz) : Met l yX5_reads (gU yX5_reads cX5_reads 3 none) (gR 2 0 0) (gPc γ [.ref (ad γ 23)] sz (T, P, X, Y, E, B, M, O)) (gQv γ sz (T, P, X, Y, E, B, Mz, O)) 0 0 (gA γ sz) := by
  refine g_met (fun sz => gQv γ sz (T, P, X, Y, E, B, Mz, O)) (by decide) (Nat.le_of_ble_eq_true rfl) ?_
  intro p e s m args below meth c ls hC hP hS hl
  have hx := hC.x
  have hb := hC.b
  have hl : lv_has ls 3 [(0, .ref (ad γ 23))] := hl
  unfold r5_reads at h
  have J274 : ∀ (M_274 : OS) (h : r5_reads_j274 M_274 = some Mz), ∀ (H : Heap) (locs : List Loc) (ls : Array Slot), va_P γ.1 vwCl (gw γ (T, P, X, Y, E, B, M_274, O)) H → va_S (gA γ s.heap.size) s.heap H locs → lv_has ls 3 [(0, .ref (ad γ 23))] → W p l e (gR 2 0 0) s m args below meth c H locs 0 0 (MQ below (gQv γ s.heap.size (T, P, X, Y, E, B, Mz, O)) args s 0 0 (gA γ s.heap.size)) (F0 m 274 ls []) := by
    intro M_274 h H locs ls hP hS hl
    unfold r5_reads_j274 at h
    refine lv_aload_n hx hb dX5_reads_274 rfl (lv_at hl 0 rfl) ?_
    refine g_get hC hP 7 dX5_reads_275 (by decide) ge_23 rfl inX5 (by decide) rfl u_5_161 ?_
    refine lv_if_ge (tgt := 300) hx hb dX5_reads_278 (by decide) (fun c1 => ?_) (fun c1 => ?_)
    · rw [if_pos c1] at h
      cases h
      exact g_vret hC hP hS dX5_reads_300
    · rw [if_neg c1] at h
      refine lv_aload_n hx hb dX5_reads_281 rfl (lv_at hl 0 rfl) ?_
      refine g_get hC hP 6 dX5_reads_282 (by decide) ge_23 rfl inX5 (by decide) rfl u_5_160 ?_
      refine lv_aload_n hx hb dX5_reads_285 rfl (lv_at hl 0 rfl) ?_
      refine g_get hC hP 5 dX5_reads_286 (by decide) ge_23 rfl inX5 (by decide) rfl u_5_159 ?_
      refine lv_icmp_ge (tgt := 300) hx hb dX5_reads_289 (by decide) (fun c2 => ?_) (fun c2 => ?_)
      · rw [if_pos c2] at h
        cases h
        exact g_vret hC hP hS dX5_reads_300
      · rw [if_neg c2] at h
        refine lv_aload_n hx hb dX5_reads_292 rfl (lv_at hl 0 rfl) ?_
        refine lv_aload_n hx hb dX5_reads_293 rfl (lv_at hl 0 rfl) ?_
        refine g_get hC hP 6 dX5_reads_294 (by decide) ge_23 rfl inX5 (by decide) rfl u_5_160 ?_
        obtain ⟨M3, hv, h⟩ := ob h
        refine g_putI hC hP hS (fun Z => (T, P, X, Y, E, B, Z, O)) 7 tyX5 dX5_reads_297 (by decide) ge_23 rfl inX5 tyX5_ok nmX5 (by decide) u_5_161 rfl rfl (Nat.le_of_ble_eq_true rfl) gp_23_7 hv (fun H locs hP hS => ?_)
        cases h
        exact g_vret hC hP hS dX5_reads_300
  have J238 : ∀ (M_238 : OS) (h : r5_reads_j238 M_238 = some Mz), ∀ (H : Heap) (locs : List Loc) (ls : Array Slot), va_P γ.1 vwCl (gw γ (T, P, X, Y, E, B, M_238, O)) H → va_S (gA γ s.heap.size) s.heap H locs → lv_has ls 3 [(0, .ref (ad γ 23))] → W p l e (gR 2 0 0) s m args below meth c H locs 0 0 (MQ below (gQv γ s.heap.size (T, P, X, Y, E, B, Mz, O)) args s 0 0 (gA γ s.heap.size)) (F0 m 238 ls []) := by
    intro M_238 h H locs ls hP hS hl
    unfold r5_reads_j238 at h
    refine lv_aload_n hx hb dX5_reads_238 rfl (lv_at hl 0 rfl) ?_
    refine g_get hC hP 7 dX5_reads_239 (by decide) ge_23 rfl inX5 (by decide) rfl u_5_161 ?_
    refine lv_if_ge (tgt := 274) hx hb dX5_reads_242 (by decide) (fun c4 => ?_) (fun c4 => ?_)
    · rw [if_pos c4] at h
      exact J274 M_238 h _ _ _ hP hS (lv_sub hl [0] rfl)
    · rw [if_neg c4] at h
      refine lv_aload_n hx hb dX5_reads_245 rfl (lv_at hl 0 rfl) ?_
      obtain ⟨v5, hv, h⟩ := bd1_e h
      refine g_ki (g_runV (As := []) (rest := []) hC hP (c5_here l hv) (by decide) ge_23 rfl u_6_55 yv_X5_here (Nat.le_of_ble_eq_true rfl) rfl hl.1 rfl (Nat.le_of_ble_eq_true rfl) dX5_reads_246 ⟨by decide, by decide⟩) hS (fun H locs hP hS => ?_)
      refine lv_bipush (v := 42) hx hb dX5_reads_249 (by decide) ?_
      refine lv_icmp_ne (tgt := 274) hx hb dX5_reads_251 (by decide) (fun c6 => ?_) (fun c6 => ?_)
      · rw [if_neg c6] at h
        exact J274 M_238 h _ _ _ hP hS (lv_sub hl [0] rfl)
      · rw [if_pos c6] at h
        refine lv_aload_n hx hb dX5_reads_254 rfl (lv_at hl 0 rfl) ?_
        refine lv_dup hx hb dX5_reads_255 rfl ?_
        refine g_get hC hP 6 dX5_reads_256 (by decide) ge_23 rfl inX5 (by decide) rfl u_5_160 ?_
        refine lv_iconst (v := 1) hx hb dX5_reads_259 (by decide) ?_
        refine lv_iadd hx hb dX5_reads_260 ?_
        obtain ⟨M7, hv, h⟩ := ob h
        refine g_putI hC hP hS (fun Z => (T, P, X, Y, E, B, Z, O)) 6 tyX5 dX5_reads_261 (by decide) ge_23 rfl inX5 tyX5_ok nmX5 (by decide) u_5_160 rfl rfl (Nat.le_of_ble_eq_true rfl) gp_23_6 hv (fun H locs hP hS => ?_)
        refine lv_aload_n hx hb dX5_reads_264 rfl (lv_at hl 0 rfl) ?_
        refine lv_aload_n hx hb dX5_reads_265 rfl (lv_at hl 0 rfl) ?_
        refine lv_iconst (v := 1) hx hb dX5_reads_266 (by decide) ?_
        refine lv_iconst (v := 2) hx hb dX5_reads_267 (by decide) ?_
        obtain ⟨v8, M9, hv, h⟩ := bd2_e h
        refine g_ki (g_runV (As := [.int 1, .int 2]) (rest := [.ref (ad γ 23)]) hC hP (c5_digit l hv) (by decide) ge_23 rfl u_6_51 yv_X5_digit (Nat.le_of_ble_eq_true rfl) rfl hl.1 rfl (Nat.le_of_ble_eq_true rfl) dX5_reads_268 ⟨by decide, by decide⟩) hS (fun H locs hP hS => ?_)
        obtain ⟨M10, hv, h⟩ := ob h
        refine g_putI hC hP hS (fun Z => (T, P, X, Y, E, B, Z, O)) 11 tyX5 dX5_reads_271 (by decide) ge_23 rfl inX5 tyX5_ok nmX5 (by decide) u_5_165 rfl rfl (Nat.le_of_ble_eq_true rfl) gp_23_11 hv (fun H locs hP hS => ?_)
        exact J274 M10 h _ _ _ hP hS (lv_sub hl [0] rfl)
  have J217 : ∀ (M_217 : OS) (x2_217 : Int32) (h : r5_reads_j217 M_217 x2_217 = some Mz), ∀ (H : Heap) (locs : List Loc) (ls : Array Slot), va_P γ.1 vwCl (gw γ (T, P, X, Y, E, B, M_217, O)) H → va_S (gA γ s.heap.size) s.heap H locs → lv_has ls 3 [(0, .ref (ad γ 23)), (2, .int x2_217)] → W p l e (gR 2 0 0) s m args below meth c H locs 0 0 (MQ below (gQv γ s.heap.size (T, P, X, Y, E, B, Mz, O)) args s 0 0 (gA γ s.heap.size)) (F0 m 217 ls []) := by
    intro M_217 x2_217 h H locs ls hP hS hl
    unfold r5_reads_j217 at h
    refine lv_aload_n hx hb dX5_reads_217 rfl (lv_at hl 0 rfl) ?_
    refine g_get hC hP 7 dX5_reads_218 (by decide) ge_23 rfl inX5 (by decide) rfl u_5_161 ?_
    refine lv_if_ge (tgt := 238) hx hb dX5_reads_221 (by decide) (fun c11 => ?_) (fun c11 => ?_)
    · rw [if_pos c11] at h
      exact J238 M_217 h _ _ _ hP hS (lv_sub hl [0] rfl)
    · rw [if_neg c11] at h
      refine lv_aload_n hx hb dX5_reads_224 rfl (lv_at hl 0 rfl) ?_
      refine g_get hC hP 10 dX5_reads_225 (by decide) ge_23 rfl inX5 (by decide) rfl u_5_164 ?_
      refine lv_bipush (v := 15) hx hb dX5_reads_228 (by decide) ?_
      refine lv_icmp_le (tgt := 238) hx hb dX5_reads_230 (by decide) (fun c12 => ?_) (fun c12 => ?_)
      · rw [if_pos c12] at h
        exact J238 M_217 h _ _ _ hP hS (lv_sub hl [0] rfl)
      · rw [if_neg c12] at h
        refine lv_aload_n hx hb dX5_reads_233 rfl (lv_at hl 0 rfl) ?_
        refine lv_iload_n hx hb dX5_reads_234 rfl (lv_at hl 1 rfl) ?_
        obtain ⟨M13, hv, h⟩ := ob h
        refine g_putI hC hP hS (fun Z => (T, P, X, Y, E, B, Z, O)) 7 tyX5 dX5_reads_235 (by decide) ge_23 rfl inX5 tyX5_ok nmX5 (by decide) u_5_161 rfl rfl (Nat.le_of_ble_eq_true rfl) gp_23_7 hv (fun H locs hP hS => ?_)
        exact J238 M13 h _ _ _ hP hS (lv_sub hl [0] rfl)
  have J54 : ∀ (M_54 : OS) (h : r5_reads_j54 M_54 = some Mz), ∀ (H : Heap) (locs : List Loc) (ls : Array Slot), va_P γ.1 vwCl (gw γ (T, P, X, Y, E, B, M_54, O)) H → va_S (gA γ s.heap.size) s.heap H locs → lv_has ls 3 [(0, .ref (ad γ 23))] → W p l e (gR 2 0 0) s m args below meth c H locs 0 0 (MQ below (gQv γ s.heap.size (T, P, X, Y, E, B, Mz, O)) args s 0 0 (gA γ s.heap.size)) (F0 m 54 ls []) := by
    intro M_54 h H locs ls hP hS hl
    unfold r5_reads_j54 at h
    refine lv_aload_n hx hb dX5_reads_54 rfl (lv_at hl 0 rfl) ?_
    refine lv_dup hx hb dX5_reads_55 rfl ?_
    refine g_get hC hP 6 dX5_reads_56 (by decide) ge_23 rfl inX5 (by decide) rfl u_5_160 ?_
    refine lv_iconst (v := 1) hx hb dX5_reads_59 (by decide) ?_
    refine lv_iadd hx hb dX5_reads_60 ?_
    obtain ⟨M14, hv, h⟩ := ob h
    refine g_putI hC hP hS (fun Z => (T, P, X, Y, E, B, Z, O)) 6 tyX5 dX5_reads_61 (by decide) ge_23 rfl inX5 tyX5_ok nmX5 (by decide) u_5_160 rfl rfl (Nat.le_of_ble_eq_true rfl) gp_23_6 hv (fun H locs hP hS => ?_)
    refine lv_aload_n hx hb dX5_reads_64 rfl (lv_at hl 0 rfl) ?_
    refine lv_iconst (v := 0) hx hb dX5_reads_65 (by decide) ?_
    refine lv_iconst (v := 5) hx hb dX5_reads_66 (by decide) ?_
    obtain ⟨v15, M16, hv, h⟩ := bd2_e h
    refine g_ki (g_runV (As := [.int 0, .int 5]) (rest := []) hC hP (c5_digit l hv) (by decide) ge_23 rfl u_6_51 yv_X5_digit (Nat.le_of_ble_eq_true rfl) rfl hl.1 rfl (Nat.le_of_ble_eq_true rfl) dX5_reads_67 ⟨by decide, by decide⟩) hS (fun H locs hP hS => ?_)
    refine lv_istore_n (lv' := [(1, .int v15), (0, .ref (ad γ 23))]) hx hb dX5_reads_70 rfl hl (by decide) rfl (fun ls hl => ?_)
    refine lv_aload_n hx hb dX5_reads_71 rfl (lv_at hl 1 rfl) ?_
    refine lv_iconst (v := 1) hx hb dX5_reads_72 (by decide) ?_
    refine lv_iload_n hx hb dX5_reads_73 rfl (lv_at hl 0 rfl) ?_
    refine lv_ishl hx hb dX5_reads_74 ?_
    obtain ⟨M17, hv, h⟩ := ob h
    refine g_putI hC hP hS (fun Z => (T, P, X, Y, E, B, Z, O)) 9 tyX5 dX5_reads_75 (by decide) ge_23 rfl inX5 tyX5_ok nmX5 (by decide) u_5_163 rfl rfl (Nat.le_of_ble_eq_true rfl) gp_23_9 hv (fun H locs hP hS => ?_)
    have L78 := it2_W r5_reads_b78 (fun (M_78 : OS) (x1_78 : Int32) => ∀ (H : Heap) (locs : List Loc) (ls : Array Slot), va_P γ.1 vwCl (gw γ (T, P, X, Y, E, B, M_78, O)) H → va_S (gA γ s.heap.size) s.heap H locs → lv_has ls 3 [(0, .ref (ad γ 23)), (1, .int x1_78)] → W p l e (gR 2 0 0) s m args below meth c H locs 0 0 (MQ below (gQv γ s.heap.size (T, P, X, Y, E, B, Mz, O)) args s 0 0 (gA γ s.heap.size)) (F0 m 78 ls [])) (fun (r_k : OS) => (∀ (M_x78 : OS), r_k = M_x78 → ∀ (H : Heap) (locs : List Loc) (ls : Array Slot), va_P γ.1 vwCl (gw γ (T, P, X, Y, E, B, M_x78, O)) H → va_S (gA γ s.heap.size) s.heap H locs → lv_has ls 3 [(0, .ref (ad γ 23))] → W p l e (gR 2 0 0) s m args below meth c H locs 0 0 (MQ below (gQv γ s.heap.size (T, P, X, Y, E, B, Mz, O)) args s 0 0 (gA γ s.heap.size)) (F0 m 128 ls []))) (by
      intro M_78 x1_78 o_78 h kS kR H locs ls hP hS hl
      unfold r5_reads_b78 at h
      refine lv_aload_n hx hb dX5_reads_78 rfl (lv_at hl 0 rfl) ?_
      refine g_get hC hP 7 dX5_reads_79 (by decide) ge_23 rfl inX5 (by decide) rfl u_5_161 ?_
      refine lv_if_ge (tgt := 128) hx hb dX5_reads_82 (by decide) (fun c18 => ?_) (fun c18 => ?_)
      · rw [if_pos c18] at h
        cases h
        exact kR _ rfl _ rfl _ _ _ hP hS (lv_sub hl [0] rfl)
      · rw [if_neg c18] at h
        refine lv_aload_n hx hb dX5_reads_85 rfl (lv_at hl 0 rfl) ?_
        obtain ⟨v19, hv, h⟩ := bd1_e h
        refine g_ki (g_runV (As := []) (rest := []) hC hP (c5_here l hv) (by decide) ge_23 rfl u_6_55 yv_X5_here (Nat.le_of_ble_eq_true rfl) rfl hl.1 rfl (Nat.le_of_ble_eq_true rfl) dX5_reads_86 ⟨by decide, by decide⟩) hS (fun H locs hP hS => ?_)
        refine lv_bipush (v := 44) hx hb dX5_reads_89 (by decide) ?_
        refine lv_icmp_ne (tgt := 128) hx hb dX5_reads_91 (by decide) (fun c20 => ?_) (fun c20 => ?_)
        · rw [if_neg c20] at h
          cases h
          exact kR _ rfl _ rfl _ _ _ hP hS (lv_sub hl [0] rfl)
        · rw [if_pos c20] at h
          refine lv_aload_n hx hb dX5_reads_94 rfl (lv_at hl 0 rfl) ?_
          refine lv_dup hx hb dX5_reads_95 rfl ?_
          refine g_get hC hP 6 dX5_reads_96 (by decide) ge_23 rfl inX5 (by decide) rfl u_5_160 ?_
          refine lv_iconst (v := 1) hx hb dX5_reads_99 (by decide) ?_
          refine lv_iadd hx hb dX5_reads_100 ?_
          obtain ⟨M21, hv, h⟩ := ob h
          refine g_putI hC hP hS (fun Z => (T, P, X, Y, E, B, Z, O)) 6 tyX5 dX5_reads_101 (by decide) ge_23 rfl inX5 tyX5_ok nmX5 (by decide) u_5_160 rfl rfl (Nat.le_of_ble_eq_true rfl) gp_23_6 hv (fun H locs hP hS => ?_)
          refine lv_aload_n hx hb dX5_reads_104 rfl (lv_at hl 0 rfl) ?_
          refine lv_iload_n hx hb dX5_reads_105 rfl (lv_at hl 1 rfl) ?_
          refine lv_iconst (v := 1) hx hb dX5_reads_106 (by decide) ?_
          refine lv_iadd hx hb dX5_reads_107 ?_
          refine lv_iconst (v := 5) hx hb dX5_reads_108 (by decide) ?_
          obtain ⟨v22, M23, hv, h⟩ := bd2_e h
          refine g_ki (g_runV (As := [.int (x1_78 + 1), .int 5]) (rest := []) hC hP (c5_digit l hv) (by decide) ge_23 rfl u_6_51 yv_X5_digit (Nat.le_of_ble_eq_true rfl) rfl hl.1 rfl (Nat.le_of_ble_eq_true rfl) dX5_reads_109 ⟨by decide, by decide⟩) hS (fun H locs hP hS => ?_)
          refine lv_istore_n (lv' := [(1, .int v22), (0, .ref (ad γ 23))]) hx hb dX5_reads_112 rfl hl (by decide) rfl (fun ls hl => ?_)
          refine lv_aload_n hx hb dX5_reads_113 rfl (lv_at hl 1 rfl) ?_
          refine lv_dup hx hb dX5_reads_114 rfl ?_
          refine g_get hC hP 9 dX5_reads_115 (by decide) ge_23 rfl inX5 (by decide) rfl u_5_163 ?_
          refine lv_iconst (v := 1) hx hb dX5_reads_118 (by decide) ?_
          refine lv_iload_n hx hb dX5_reads_119 rfl (lv_at hl 0 rfl) ?_
          refine lv_ishl hx hb dX5_reads_120 ?_
          refine lv_ior hx hb dX5_reads_121 ?_
          obtain ⟨M24, hv, h⟩ := ob h
          refine g_putI hC hP hS (fun Z => (T, P, X, Y, E, B, Z, O)) 9 tyX5 dX5_reads_122 (by decide) ge_23 rfl inX5 tyX5_ok nmX5 (by decide) u_5_163 rfl rfl (Nat.le_of_ble_eq_true rfl) gp_23_9 hv (fun H locs hP hS => ?_)
          refine lv_goto (tgt := 78) hx hb dX5_reads_125 (by decide) ?_
          cases h
          exact kS _ _ rfl _ _ _ hP hS (lv_sub hl [1, 0] rfl))
    obtain ⟨M_x78, hv, h⟩ := bd1_e h
    refine L78 _ _ _ _ hv (fun q0 e9 H locs ls hP hS hl => ?_) _ _ _ hP hS (lv_sub hl [1, 0] rfl)
    obtain rfl := e9
    refine lv_aload_n hx hb dX5_reads_128 rfl (lv_at hl 0 rfl) ?_
    refine g_get hC hP 7 dX5_reads_129 (by decide) ge_23 rfl inX5 (by decide) rfl u_5_161 ?_
    refine lv_if_ge (tgt := 238) hx hb dX5_reads_132 (by decide) (fun c25 => ?_) (fun c25 => ?_)
    · rw [if_pos c25] at h
      exact J238 M_x78 h _ _ _ hP hS (lv_sub hl [0] rfl)
    · rw [if_neg c25] at h
      refine lv_aload_n hx hb dX5_reads_135 rfl (lv_at hl 0 rfl) ?_
      obtain ⟨v26, hv, h⟩ := bd1_e h
      refine g_ki (g_runV (As := []) (rest := []) hC hP (c5_here l hv) (by decide) ge_23 rfl u_6_55 yv_X5_here (Nat.le_of_ble_eq_true rfl) rfl hl.1 rfl (Nat.le_of_ble_eq_true rfl) dX5_reads_136 ⟨by decide, by decide⟩) hS (fun H locs hP hS => ?_)
      refine lv_bipush (v := 47) hx hb dX5_reads_139 (by decide) ?_
      refine lv_icmp_ne (tgt := 238) hx hb dX5_reads_141 (by decide) (fun c27 => ?_) (fun c27 => ?_)
      · rw [if_neg c27] at h
        exact J238 M_x78 h _ _ _ hP hS (lv_sub hl [0] rfl)
      · rw [if_pos c27] at h
        refine lv_aload_n hx hb dX5_reads_144 rfl (lv_at hl 0 rfl) ?_
        refine lv_dup hx hb dX5_reads_145 rfl ?_
        refine g_get hC hP 6 dX5_reads_146 (by decide) ge_23 rfl inX5 (by decide) rfl u_5_160 ?_
        refine lv_iconst (v := 1) hx hb dX5_reads_149 (by decide) ?_
        refine lv_iadd hx hb dX5_reads_150 ?_
        obtain ⟨M28, hv, h⟩ := ob h
        refine g_putI hC hP hS (fun Z => (T, P, X, Y, E, B, Z, O)) 6 tyX5 dX5_reads_151 (by decide) ge_23 rfl inX5 tyX5_ok nmX5 (by decide) u_5_160 rfl rfl (Nat.le_of_ble_eq_true rfl) gp_23_6 hv (fun H locs hP hS => ?_)
        refine lv_aload_n hx hb dX5_reads_154 rfl (lv_at hl 0 rfl) ?_
        refine g_get hC hP 6 dX5_reads_155 (by decide) ge_23 rfl inX5 (by decide) rfl u_5_160 ?_
        refine lv_istore_n (lv' := [(2, .int (M28 6 0)), (0, .ref (ad γ 23))]) hx hb dX5_reads_158 rfl hl (by decide) rfl (fun ls hl => ?_)
        refine lv_aload_n hx hb dX5_reads_159 rfl (lv_at hl 1 rfl) ?_
        refine lv_aload_n hx hb dX5_reads_160 rfl (lv_at hl 1 rfl) ?_
        refine lv_iconst (v := 0) hx hb dX5_reads_161 (by decide) ?_
        refine lv_bipush (v := 9) hx hb dX5_reads_162 (by decide) ?_
        obtain ⟨v29, M30, hv, h⟩ := bd2_e h
        refine g_ki (g_runV (As := [.int 0, .int 9]) (rest := [.ref (ad γ 23)]) hC hP (c5_digit l hv) (by decide) ge_23 rfl u_6_51 yv_X5_digit (Nat.le_of_ble_eq_true rfl) rfl hl.1 rfl (Nat.le_of_ble_eq_true rfl) dX5_reads_164 ⟨by decide, by decide⟩) hS (fun H locs hP hS => ?_)
        obtain ⟨M31, hv, h⟩ := ob h
        refine g_putI hC hP hS (fun Z => (T, P, X, Y, E, B, Z, O)) 10 tyX5 dX5_reads_167 (by decide) ge_23 rfl inX5 tyX5_ok nmX5 (by decide) u_5_164 rfl rfl (Nat.le_of_ble_eq_true rfl) gp_23_10 hv (fun H locs hP hS => ?_)
        refine lv_aload_n hx hb dX5_reads_170 rfl (lv_at hl 1 rfl) ?_
        refine g_get hC hP 7 dX5_reads_171 (by decide) ge_23 rfl inX5 (by decide) rfl u_5_161 ?_
        refine lv_if_ge (tgt := 217) hx hb dX5_reads_174 (by decide) (fun c32 => ?_) (fun c32 => ?_)
        · rw [if_pos c32] at h
          exact J217 M31 (M28 6 0) h _ _ _ hP hS (lv_sub hl [1, 0] rfl)
        · rw [if_neg c32] at h
          refine lv_aload_n hx hb dX5_reads_177 rfl (lv_at hl 1 rfl) ?_
          refine g_get hC hP 10 dX5_reads_178 (by decide) ge_23 rfl inX5 (by decide) rfl u_5_164 ?_
          refine lv_if_eq (tgt := 217) hx hb dX5_reads_181 (by decide) (fun c33 => ?_) (fun c33 => ?_)
          · rw [if_pos c33] at h
            exact J217 M31 (M28 6 0) h _ _ _ hP hS (lv_sub hl [1, 0] rfl)
          · rw [if_neg c33] at h
            refine lv_aload_n hx hb dX5_reads_184 rfl (lv_at hl 1 rfl) ?_
            obtain ⟨v34, hv, h⟩ := bd1_e h
            refine g_ki (g_runV (As := []) (rest := []) hC hP (c5_here l hv) (by decide) ge_23 rfl u_6_55 yv_X5_here (Nat.le_of_ble_eq_true rfl) rfl hl.1 rfl (Nat.le_of_ble_eq_true rfl) dX5_reads_185 ⟨by decide, by decide⟩) hS (fun H locs hP hS => ?_)
            refine lv_bipush (v := 48) hx hb dX5_reads_188 (by decide) ?_
            refine lv_bipush (v := 57) hx hb dX5_reads_190 (by decide) ?_
            obtain ⟨v35, hv, h⟩ := bd1_e h
            refine g_ki (g_runS (As := [.int v34, .int 48, .int 57]) (rest := []) hC hP (c5_in l hv) u_5_210 yv_X5_in (Nat.le_of_ble_eq_true rfl) rfl hl.1 rfl (Nat.le_of_ble_eq_true rfl) dX5_reads_192 ⟨by decide, by decide⟩) hS (fun H locs hP hS => ?_)
            refine lv_if_eq (tgt := 217) hx hb dX5_reads_195 (by decide) (fun c36 => ?_) (fun c36 => ?_)
            · rw [if_pos c36] at h
              exact J217 M31 (M28 6 0) h _ _ _ hP hS (lv_sub hl [1, 0] rfl)
            · rw [if_neg c36] at h
              refine lv_aload_n hx hb dX5_reads_198 rfl (lv_at hl 1 rfl) ?_
              refine lv_bipush (v := 10) hx hb dX5_reads_199 (by decide) ?_
              refine lv_aload_n hx hb dX5_reads_201 rfl (lv_at hl 1 rfl) ?_
              refine g_get hC hP 10 dX5_reads_202 (by decide) ge_23 rfl inX5 (by decide) rfl u_5_164 ?_
              refine lv_imul hx hb dX5_reads_205 ?_
              refine lv_aload_n hx hb dX5_reads_206 rfl (lv_at hl 1 rfl) ?_
              refine lv_iconst (v := 0) hx hb dX5_reads_207 (by decide) ?_
              refine lv_bipush (v := 9) hx hb dX5_reads_208 (by decide) ?_
              obtain ⟨v37, M38, hv, h⟩ := bd2_e h
              refine g_ki (g_runV (As := [.int 0, .int 9]) (rest := [.int (10 * (M31 10 0)), .ref (ad γ 23)]) hC hP (c5_digit l hv) (by decide) ge_23 rfl u_6_51 yv_X5_digit (Nat.le_of_ble_eq_true rfl) rfl hl.1 rfl (Nat.le_of_ble_eq_true rfl) dX5_reads_210 ⟨by decide, by decide⟩) hS (fun H locs hP hS => ?_)
              refine lv_iadd hx hb dX5_reads_213 ?_
              obtain ⟨M39, hv, h⟩ := ob h
              refine g_putI hC hP hS (fun Z => (T, P, X, Y, E, B, Z, O)) 10 tyX5 dX5_reads_214 (by decide) ge_23 rfl inX5 tyX5_ok nmX5 (by decide) u_5_164 rfl rfl (Nat.le_of_ble_eq_true rfl) gp_23_10 hv (fun H locs hP hS => ?_)
              exact J217 M39 (M28 6 0) h _ _ _ hP hS (lv_sub hl [1, 0] rfl)
  refine lv_aload_n hx hb dX5_reads_0 rfl (lv_at hl 0 rfl) ?_
  refine lv_iconst (v := 0) hx hb dX5_reads_1 (by decide) ?_
  obtain ⟨M40, hv, h⟩ := ob h
  refine g_putI hC hP hS (fun Z => (T, P, X, Y, E, B, Z, O)) 6 tyX5 dX5_reads_2 (by decide) ge_23 rfl inX5 tyX5_ok nmX5 (by decide) u_5_160 rfl rfl (Nat.le_of_ble_eq_true rfl) gp_23_6 hv (fun H locs hP hS => ?_)
  refine lv_aload_n hx hb dX5_reads_5 rfl (lv_at hl 0 rfl) ?_
  refine lv_iconst (v := -1) hx hb dX5_reads_6 (by decide) ?_
  obtain ⟨M41, hv, h⟩ := ob h
  refine g_putI hC hP hS (fun Z => (T, P, X, Y, E, B, Z, O)) 7 tyX5 dX5_reads_7 (by decide) ge_23 rfl inX5 tyX5_ok nmX5 (by decide) u_5_161 rfl rfl (Nat.le_of_ble_eq_true rfl) gp_23_7 hv (fun H locs hP hS => ?_)
  refine lv_aload_n hx hb dX5_reads_10 rfl (lv_at hl 0 rfl) ?_
  refine lv_iconst (v := 0) hx hb dX5_reads_11 (by decide) ?_
  obtain ⟨M42, hv, h⟩ := ob h
  refine g_putI hC hP hS (fun Z => (T, P, X, Y, E, B, Z, O)) 10 tyX5 dX5_reads_12 (by decide) ge_23 rfl inX5 tyX5_ok nmX5 (by decide) u_5_164 rfl rfl (Nat.le_of_ble_eq_true rfl) gp_23_10 hv (fun H locs hP hS => ?_)
  refine lv_aload_n hx hb dX5_reads_15 rfl (lv_at hl 0 rfl) ?_
  refine lv_iconst (v := 1) hx hb dX5_reads_16 (by decide) ?_
  obtain ⟨M43, hv, h⟩ := ob h
  refine g_putI hC hP hS (fun Z => (T, P, X, Y, E, B, Z, O)) 11 tyX5 dX5_reads_17 (by decide) ge_23 rfl inX5 tyX5_ok nmX5 (by decide) u_5_165 rfl rfl (Nat.le_of_ble_eq_true rfl) gp_23_11 hv (fun H locs hP hS => ?_)
  refine lv_aload_n hx hb dX5_reads_20 rfl (lv_at hl 0 rfl) ?_
  refine lv_aload_n hx hb dX5_reads_21 rfl (lv_at hl 0 rfl) ?_
  refine lv_iconst (v := 0) hx hb dX5_reads_22 (by decide) ?_
  refine lv_iconst (v := 5) hx hb dX5_reads_23 (by decide) ?_
  obtain ⟨v44, M45, hv, h⟩ := bd2_e h
  refine g_ki (g_runV (As := [.int 0, .int 5]) (rest := [.ref (ad γ 23)]) hC hP (c5_digit l hv) (by decide) ge_23 rfl u_6_51 yv_X5_digit (Nat.le_of_ble_eq_true rfl) rfl hl.1 rfl (Nat.le_of_ble_eq_true rfl) dX5_reads_24 ⟨by decide, by decide⟩) hS (fun H locs hP hS => ?_)
  obtain ⟨M46, hv, h⟩ := ob h
  refine g_putI hC hP hS (fun Z => (T, P, X, Y, E, B, Z, O)) 8 tyX5 dX5_reads_27 (by decide) ge_23 rfl inX5 tyX5_ok nmX5 (by decide) u_5_162 rfl rfl (Nat.le_of_ble_eq_true rfl) gp_23_8 hv (fun H locs hP hS => ?_)
  refine lv_aload_n hx hb dX5_reads_30 rfl (lv_at hl 0 rfl) ?_
  refine g_get hC hP 7 dX5_reads_31 (by decide) ge_23 rfl inX5 (by decide) rfl u_5_161 ?_
  refine lv_if_ge (tgt := 54) hx hb dX5_reads_34 (by decide) (fun c47 => ?_) (fun c47 => ?_)
  · rw [if_pos c47] at h
    exact J54 M46 h _ _ _ hP hS (lv_sub hl [0] rfl)
  · rw [if_neg c47] at h
    refine lv_aload_n hx hb dX5_reads_37 rfl (lv_at hl 0 rfl) ?_
    obtain ⟨v48, hv, h⟩ := bd1_e h
    refine g_ki (g_runV (As := []) (rest := []) hC hP (c5_here l hv) (by decide) ge_23 rfl u_6_55 yv_X5_here (Nat.le_of_ble_eq_true rfl) rfl hl.1 rfl (Nat.le_of_ble_eq_true rfl) dX5_reads_38 ⟨by decide, by decide⟩) hS (fun H locs hP hS => ?_)
    refine lv_bipush (v := 58) hx hb dX5_reads_41 (by decide) ?_
    refine lv_icmp_eq (tgt := 54) hx hb dX5_reads_43 (by decide) (fun c49 => ?_) (fun c49 => ?_)
    · rw [if_pos c49] at h
      exact J54 M46 h _ _ _ hP hS (lv_sub hl [0] rfl)
    · rw [if_neg c49] at h
      refine lv_aload_n hx hb dX5_reads_46 rfl (lv_at hl 0 rfl) ?_
      refine lv_aload_n hx hb dX5_reads_47 rfl (lv_at hl 0 rfl) ?_
      refine g_get hC hP 6 dX5_reads_48 (by decide) ge_23 rfl inX5 (by decide) rfl u_5_160 ?_
      obtain ⟨M50, hv, h⟩ := ob h
      refine g_putI hC hP hS (fun Z => (T, P, X, Y, E, B, Z, O)) 7 tyX5 dX5_reads_51 (by decide) ge_23 rfl inX5 tyX5_ok nmX5 (by decide) u_5_161 rfl rfl (Nat.le_of_ble_eq_true rfl) gp_23_7 hv (fun H locs hP hS => ?_)
      exact J54 M50 h _ _ _ hP hS (lv_sub hl [0] rfl)
def r5_opens (M : OS) (x1 : Int32) (x2 : Int32) (x3 : Int32) (x4 : Int32) : Option (Int32 × OS) :=
  (rd 1008 (M 1) 27).bind fun v1 =>
  (rd 1008 (M 1) 27).bind fun v2 =>
  (wr 1008 M 1 27 (v2 + 1)).bind fun M3 =>
  (wr 1008 M3 1 (28 + v1) x1).bind fun M4 =>
  (wr 1008 M4 1 (42 + v1) x2).bind fun M5 =>
  (wr 1008 M5 1 (56 + v1) x3).bind fun M6 =>
  (wr 1008 M6 1 (70 + v1) x4).bind fun M7 =>
  (wr 1008 M7 1 (84 + v1) (-1)).bind fun M8 =>
  (wr 1008 M8 1 (98 + v1) 0).bind fun M9 =>
  (wr 1008 M9 1 (112 + v1) (-1)).bind fun M10 =>
  some (v1, M10)
theorem yv_X5_opens : gYV yX5_opens cX5_opens 6 (some .int) 4 := ⟨u_6_61, u_sp_39, u_1_7, u_6_62, ⟨by decide +kernel, by decide +kernel, by decide +kernel⟩, by decide⟩
set_option maxHeartbeats 4000000 in
set_option maxRecDepth 100000 in
theorem c5_opens (l : Launch) {γ : GA} {sz : Nat} {T P X Y B M : OS} {E : Nat → OS} {O : Nat → Int64} {x1 : Int32} {x2 : Int32} {x3 : Int32} {x4 : Int32} {r0 : Int32} {Mz : OS} (h : r5_opens M x1 x2 x3 x4 = some (r0, Mz)) : Met l yX5_opens (gU yX5_opens cX5_opens 6 (some .int)) (gR 0 0 0) (gPc γ [.ref (ad γ 23), .int x1, .int x2, .int x3, .int x4] sz (T, P, X, Y, E, B, M, O)) (gQi γ r0 sz (T, P, X, Y, E, B, Mz, O)) 0 0 (gA γ sz) := by
  refine g_met (fun sz => gQi γ r0 sz (T, P, X, Y, E, B, Mz, O)) (by decide) (Nat.le_of_ble_eq_true rfl) ?_
  intro p e s m args below meth c ls hC hP hS hl
  have hx := hC.x
  have hb := hC.b
  have hl : lv_has ls 6 [(0, .ref (ad γ 23)), (1, .int x1), (2, .int x2), (3, .int x3), (4, .int x4)] := hl
  unfold r5_opens at h
  refine lv_aload_n hx hb dX5_opens_0 rfl (lv_at hl 0 rfl) ?_
  refine g_get hC hP 1 dX5_opens_1 (by decide) ge_23 rfl inX5 (by decide) rfl u_5_155 ?_
  refine lv_bipush (v := 27) hx hb dX5_opens_4 (by decide) ?_
  obtain ⟨v1, hv, h⟩ := ob h
  refine g_ld hC hP dX5_opens_6 (by decide) ge_24 hv ?_
  refine lv_istore (lv' := [(5, .int v1), (0, .ref (ad γ 23)), (1, .int x1), (2, .int x2), (3, .int x3), (4, .int x4)]) hx hb dX5_opens_7 hl (by decide) rfl (fun ls hl => ?_)
  refine lv_aload_n hx hb dX5_opens_9 rfl (lv_at hl 1 rfl) ?_
  refine g_get hC hP 1 dX5_opens_10 (by decide) ge_23 rfl inX5 (by decide) rfl u_5_155 ?_
  refine lv_bipush (v := 27) hx hb dX5_opens_13 (by decide) ?_
  refine lv_dup2_11 hx hb dX5_opens_15 rfl rfl ?_
  obtain ⟨v2, hv, h⟩ := ob h
  refine g_ld hC hP dX5_opens_16 (by decide) ge_24 hv ?_
  refine lv_iconst (v := 1) hx hb dX5_opens_17 (by decide) ?_
  refine lv_iadd hx hb dX5_opens_18 ?_
  obtain ⟨M3, hv, h⟩ := ob h
  refine g_st hC hP hS (fun Z => (T, P, X, Y, E, B, Z, O)) dX5_opens_19 (by decide) ge_24 gs_24 hv (fun H locs hP hS => ?_)
  refine lv_aload_n hx hb dX5_opens_20 rfl (lv_at hl 1 rfl) ?_
  refine g_get hC hP 1 dX5_opens_21 (by decide) ge_23 rfl inX5 (by decide) rfl u_5_155 ?_
  refine lv_bipush (v := 28) hx hb dX5_opens_24 (by decide) ?_
  refine lv_iload hx hb dX5_opens_26 (lv_at hl 0 rfl) ?_
  refine lv_iadd hx hb dX5_opens_28 ?_
  refine lv_iload_n hx hb dX5_opens_29 rfl (lv_at hl 2 rfl) ?_
  obtain ⟨M4, hv, h⟩ := ob h
  refine g_st hC hP hS (fun Z => (T, P, X, Y, E, B, Z, O)) dX5_opens_30 (by decide) ge_24 gs_24 hv (fun H locs hP hS => ?_)
  refine lv_aload_n hx hb dX5_opens_31 rfl (lv_at hl 1 rfl) ?_
  refine g_get hC hP 1 dX5_opens_32 (by decide) ge_23 rfl inX5 (by decide) rfl u_5_155 ?_
  refine lv_bipush (v := 42) hx hb dX5_opens_35 (by decide) ?_
  refine lv_iload hx hb dX5_opens_37 (lv_at hl 0 rfl) ?_
  refine lv_iadd hx hb dX5_opens_39 ?_
  refine lv_iload_n hx hb dX5_opens_40 rfl (lv_at hl 3 rfl) ?_
  obtain ⟨M5, hv, h⟩ := ob h
  refine g_st hC hP hS (fun Z => (T, P, X, Y, E, B, Z, O)) dX5_opens_41 (by decide) ge_24 gs_24 hv (fun H locs hP hS => ?_)
  refine lv_aload_n hx hb dX5_opens_42 rfl (lv_at hl 1 rfl) ?_
  refine g_get hC hP 1 dX5_opens_43 (by decide) ge_23 rfl inX5 (by decide) rfl u_5_155 ?_
  refine lv_bipush (v := 56) hx hb dX5_opens_46 (by decide) ?_
  refine lv_iload hx hb dX5_opens_48 (lv_at hl 0 rfl) ?_
  refine lv_iadd hx hb dX5_opens_50 ?_
  refine lv_iload_n hx hb dX5_opens_51 rfl (lv_at hl 4 rfl) ?_
  obtain ⟨M6, hv, h⟩ := ob h
  refine g_st hC hP hS (fun Z => (T, P, X, Y, E, B, Z, O)) dX5_opens_52 (by decide) ge_24 gs_24 hv (fun H locs hP hS => ?_)
  refine lv_aload_n hx hb dX5_opens_53 rfl (lv_at hl 1 rfl) ?_
  refine g_get hC hP 1 dX5_opens_54 (by decide) ge_23 rfl inX5 (by decide) rfl u_5_155 ?_
  refine lv_bipush (v := 70) hx hb dX5_opens_57 (by decide) ?_
  refine lv_iload hx hb dX5_opens_59 (lv_at hl 0 rfl) ?_
  refine lv_iadd hx hb dX5_opens_61 ?_
  refine lv_iload hx hb dX5_opens_62 (lv_at hl 5 rfl) ?_
  obtain ⟨M7, hv, h⟩ := ob h
  refine g_st hC hP hS (fun Z => (T, P, X, Y, E, B, Z, O)) dX5_opens_64 (by decide) ge_24 gs_24 hv (fun H locs hP hS => ?_)
  refine lv_aload_n hx hb dX5_opens_65 rfl (lv_at hl 1 rfl) ?_
  refine g_get hC hP 1 dX5_opens_66 (by decide) ge_23 rfl inX5 (by decide) rfl u_5_155 ?_
  refine lv_bipush (v := 84) hx hb dX5_opens_69 (by decide) ?_
  refine lv_iload hx hb dX5_opens_71 (lv_at hl 0 rfl) ?_
  refine lv_iadd hx hb dX5_opens_73 ?_
  refine lv_iconst (v := -1) hx hb dX5_opens_74 (by decide) ?_
  obtain ⟨M8, hv, h⟩ := ob h
  refine g_st hC hP hS (fun Z => (T, P, X, Y, E, B, Z, O)) dX5_opens_75 (by decide) ge_24 gs_24 hv (fun H locs hP hS => ?_)
  refine lv_aload_n hx hb dX5_opens_76 rfl (lv_at hl 1 rfl) ?_
  refine g_get hC hP 1 dX5_opens_77 (by decide) ge_23 rfl inX5 (by decide) rfl u_5_155 ?_
  refine lv_bipush (v := 98) hx hb dX5_opens_80 (by decide) ?_
  refine lv_iload hx hb dX5_opens_82 (lv_at hl 0 rfl) ?_
  refine lv_iadd hx hb dX5_opens_84 ?_
  refine lv_iconst (v := 0) hx hb dX5_opens_85 (by decide) ?_
  obtain ⟨M9, hv, h⟩ := ob h
  refine g_st hC hP hS (fun Z => (T, P, X, Y, E, B, Z, O)) dX5_opens_86 (by decide) ge_24 gs_24 hv (fun H locs hP hS => ?_)
  refine lv_aload_n hx hb dX5_opens_87 rfl (lv_at hl 1 rfl) ?_
  refine g_get hC hP 1 dX5_opens_88 (by decide) ge_23 rfl inX5 (by decide) rfl u_5_155 ?_
  refine lv_bipush (v := 112) hx hb dX5_opens_91 (by decide) ?_
  refine lv_iload hx hb dX5_opens_93 (lv_at hl 0 rfl) ?_
  refine lv_iadd hx hb dX5_opens_95 ?_
  refine lv_iconst (v := -1) hx hb dX5_opens_96 (by decide) ?_
  obtain ⟨M10, hv, h⟩ := ob h
  refine g_st hC hP hS (fun Z => (T, P, X, Y, E, B, Z, O)) dX5_opens_97 (by decide) ge_24 gs_24 hv (fun H locs hP hS => ?_)
  refine lv_iload hx hb dX5_opens_98 (lv_at hl 0 rfl) ?_
  cases h
  exact g_iret hC hP hS dX5_opens_100 rfl
def r5_addEvent_j35 (M_35 : OS) (s0_35 : Int32)  : Option (Int32 × OS) :=
  (sw M_35 0 s0_35).bind fun M1 =>
  (if (M1 0 0) = 0 then bd1 (r5_keeps M1) (fun M3 =>
  bd2 (r5_opens M3 (M3 8 0) (M3 9 0) (M3 10 0) (M3 11 0)) (fun v4 M5 =>
  some (v4, M5)))
  else some (0, M1))
def r5_addEvent (M : OS) : Option (Int32 × OS) :=
  bd1 (r5_reads M) (fun M6 =>
  (sw M6 5 0).bind fun M7 =>
  (if (M7 7 0) < 0 then bd1 (r5_many M7) (fun v9 =>
  (if v9 = 14 then r5_addEvent_j35 M7 2
  else r5_addEvent_j35 M7 0))
  else r5_addEvent_j35 M7 1))
theorem yv_X5_addEvent : gYV yX5_addEvent cX5_addEvent 1 (some .int) 0 := ⟨u_6_44, u_6_45, u_1_7, u_6_46, ⟨by decide +kernel, by decide +kernel, by decide +kernel⟩, by decide⟩
set_option maxHeartbeats 4000000 in
set_option maxRecDepth 100000 in
theorem c5_addEvent (l : Launch) {γ : GA} {sz : Nat} {T P X Y B M : OS} {E : Nat → OS} {O : Nat → Int64} {r0 : Int32} {Mz : OS} (h : r5_addEvent M = some (r0, Mz)) : Met l yX5_addEvent (gU yX5_addEvent cX5_addEvent 1 (some .int)) (gR 3 0 0) (gPc γ [.ref (ad γ 23)] sz (T, P, X, Y, E, B, M, O)) (gQi γ r0 sz (T, P, X, Y, E, B, Mz, O)) 0 0 (gA γ sz) := by
  refine g_met (fun sz => gQi γ r0 sz (T, P, X, Y, E, B, Mz, O)) (by decide) (Nat.le_of_ble_eq_true rfl) ?_
  intro p e s m args below meth c ls hC hP hS hl
  have hx := hC.x
  have hb := hC.b
  have hl : lv_has ls 1 [(0, .ref (ad γ 23))] := hl
  unfold r5_addEvent at h
  have J35 : ∀ (M_35 : OS) (s0_35 : Int32) (h : r5_addEvent_j35 M_35 s0_35 = some (r0, Mz)), ∀ (H : Heap) (locs : List Loc) (ls : Array Slot), va_P γ.1 vwCl (gw γ (T, P, X, Y, E, B, M_35, O)) H → va_S (gA γ s.heap.size) s.heap H locs → lv_has ls 1 [(0, .ref (ad γ 23))] → W p l e (gR 3 0 0) s m args below meth c H locs 0 0 (MQ below (gQi γ r0 s.heap.size (T, P, X, Y, E, B, Mz, O)) args s 0 0 (gA γ s.heap.size)) (F0 m 35 ls [.int s0_35, .ref (ad γ 23)]) := by
    intro M_35 s0_35 h H locs ls hP hS hl
    unfold r5_addEvent_j35 at h
    obtain ⟨M1, hv, h⟩ := ob h
    refine g_putI hC hP hS (fun Z => (T, P, X, Y, E, B, Z, O)) 0 tyX5 dX5_addEvent_35 (by decide) ge_23 rfl inX5 tyX5_ok nmX5 (by decide) u_5_154 rfl rfl (Nat.le_of_ble_eq_true rfl) gp_23_0 hv (fun H locs hP hS => ?_)
    refine lv_aload_n hx hb dX5_addEvent_38 rfl (lv_at hl 0 rfl) ?_
    refine g_get hC hP 0 dX5_addEvent_39 (by decide) ge_23 rfl inX5 (by decide) rfl u_5_154 ?_
    refine lv_if_eq (tgt := 47) hx hb dX5_addEvent_42 (by decide) (fun c2 => ?_) (fun c2 => ?_)
    · rw [if_pos c2] at h
      refine lv_aload_n hx hb dX5_addEvent_47 rfl (lv_at hl 0 rfl) ?_
      obtain ⟨M3, hv, h⟩ := bd1_e h
      refine g_kv (g_runV (As := []) (rest := []) hC hP (c5_keeps l hv) (by decide) ge_23 rfl u_5_213 yv_X5_keeps (Nat.le_of_ble_eq_true rfl) rfl hl.1 rfl (Nat.le_of_ble_eq_true rfl) dX5_addEvent_48 ⟨by decide, by decide⟩) hS (fun H locs hP hS => ?_)
      refine lv_aload_n hx hb dX5_addEvent_51 rfl (lv_at hl 0 rfl) ?_
      refine lv_aload_n hx hb dX5_addEvent_52 rfl (lv_at hl 0 rfl) ?_
      refine g_get hC hP 8 dX5_addEvent_53 (by decide) ge_23 rfl inX5 (by decide) rfl u_5_162 ?_
      refine lv_aload_n hx hb dX5_addEvent_56 rfl (lv_at hl 0 rfl) ?_
      refine g_get hC hP 9 dX5_addEvent_57 (by decide) ge_23 rfl inX5 (by decide) rfl u_5_163 ?_
      refine lv_aload_n hx hb dX5_addEvent_60 rfl (lv_at hl 0 rfl) ?_
      refine g_get hC hP 10 dX5_addEvent_61 (by decide) ge_23 rfl inX5 (by decide) rfl u_5_164 ?_
      refine lv_aload_n hx hb dX5_addEvent_64 rfl (lv_at hl 0 rfl) ?_
      refine g_get hC hP 11 dX5_addEvent_65 (by decide) ge_23 rfl inX5 (by decide) rfl u_5_165 ?_
      obtain ⟨v4, M5, hv, h⟩ := bd2_e h
      refine g_ki (g_runV (As := [.int (M3 8 0), .int (M3 9 0), .int (M3 10 0), .int (M3 11 0)]) (rest := []) hC hP (c5_opens l hv) (by decide) ge_23 rfl u_6_59 yv_X5_opens (Nat.le_of_ble_eq_true rfl) rfl hl.1 rfl (Nat.le_of_ble_eq_true rfl) dX5_addEvent_68 ⟨by decide, by decide⟩) hS (fun H locs hP hS => ?_)
      cases h
      exact g_iret hC hP hS dX5_addEvent_71 rfl
    · rw [if_neg c2] at h
      refine lv_iconst (v := 0) hx hb dX5_addEvent_45 (by decide) ?_
      cases h
      exact g_iret hC hP hS dX5_addEvent_46 rfl
  refine lv_aload_n hx hb dX5_addEvent_0 rfl (lv_at hl 0 rfl) ?_
  obtain ⟨M6, hv, h⟩ := bd1_e h
  refine g_kv (g_runV (As := []) (rest := []) hC hP (c5_reads l hv) (by decide) ge_23 rfl u_6_47 yv_X5_reads (Nat.le_of_ble_eq_true rfl) rfl hl.1 rfl (Nat.le_of_ble_eq_true rfl) dX5_addEvent_1 ⟨by decide, by decide⟩) hS (fun H locs hP hS => ?_)
  refine lv_aload_n hx hb dX5_addEvent_4 rfl (lv_at hl 0 rfl) ?_
  refine lv_iconst (v := 0) hx hb dX5_addEvent_5 (by decide) ?_
  obtain ⟨M7, hv, h⟩ := ob h
  refine g_putI hC hP hS (fun Z => (T, P, X, Y, E, B, Z, O)) 5 tyX5 dX5_addEvent_6 (by decide) ge_23 rfl inX5 tyX5_ok nmX5 (by decide) u_5_159 rfl rfl (Nat.le_of_ble_eq_true rfl) gp_23_5 hv (fun H locs hP hS => ?_)
  refine lv_aload_n hx hb dX5_addEvent_9 rfl (lv_at hl 0 rfl) ?_
  refine lv_aload_n hx hb dX5_addEvent_10 rfl (lv_at hl 0 rfl) ?_
  refine g_get hC hP 7 dX5_addEvent_11 (by decide) ge_23 rfl inX5 (by decide) rfl u_5_161 ?_
  refine lv_if_lt (tgt := 21) hx hb dX5_addEvent_14 (by decide) (fun c8 => ?_) (fun c8 => ?_)
  · rw [if_pos c8] at h
    refine lv_aload_n hx hb dX5_addEvent_21 rfl (lv_at hl 0 rfl) ?_
    obtain ⟨v9, hv, h⟩ := bd1_e h
    refine g_ki (g_runV (As := []) (rest := [.ref (ad γ 23)]) hC hP (c5_many l hv) (by decide) ge_23 rfl u_5_225 yv_X5_many (Nat.le_of_ble_eq_true rfl) rfl hl.1 rfl (Nat.le_of_ble_eq_true rfl) dX5_addEvent_22 ⟨by decide, by decide⟩) hS (fun H locs hP hS => ?_)
    refine lv_bipush (v := 14) hx hb dX5_addEvent_25 (by decide) ?_
    refine lv_icmp_ne (tgt := 34) hx hb dX5_addEvent_27 (by decide) (fun c10 => ?_) (fun c10 => ?_)
    · rw [if_neg c10] at h
      refine lv_iconst (v := 0) hx hb dX5_addEvent_34 (by decide) ?_
      exact J35 M7 0 h _ _ _ hP hS (lv_sub hl [0] rfl)
    · rw [if_pos c10] at h
      refine lv_iconst (v := 2) hx hb dX5_addEvent_30 (by decide) ?_
      refine lv_goto (tgt := 35) hx hb dX5_addEvent_31 (by decide) ?_
      exact J35 M7 2 h _ _ _ hP hS (lv_sub hl [0] rfl)
  · rw [if_neg c8] at h
    refine lv_iconst (v := 1) hx hb dX5_addEvent_17 (by decide) ?_
    refine lv_goto (tgt := 35) hx hb dX5_addEvent_18 (by decide) ?_
    exact J35 M7 1 h _ _ _ hP hS (lv_sub hl [0] rfl)
def r5_errorPosition (M : OS) : Option (Int32 × OS) :=
  (sw M 0 0).bind fun M1 =>
  some ((M1 7 0), M1)
theorem yv_X5_errorPosition : gYV yX5_errorPosition cX5_errorPosition 1 (some .int) 0 := ⟨u_6_64, u_6_65, u_1_7, u_6_66, ⟨by decide +kernel, by decide +kernel, by decide +kernel⟩, by decide⟩
set_option maxHeartbeats 4000000 in
set_option maxRecDepth 100000 in
theorem c5_errorPosition (l : Launch) {γ : GA} {sz : Nat} {T P X Y B M : OS} {E : Nat → OS} {O : Nat → Int64} {r0 : Int32} {Mz : OS} (h : r5_errorPosition M = some (r0, Mz)) : Met l yX5_errorPosition (gU yX5_errorPosition cX5_errorPosition 1 (some .int)) (gR 0 0 0) (gPc γ [.ref (ad γ 23)] sz (T, P, X, Y, E, B, M, O)) (gQi γ r0 sz (T, P, X, Y, E, B, Mz, O)) 0 0 (gA γ sz) := by
  refine g_met (fun sz => gQi γ r0 sz (T, P, X, Y, E, B, Mz, O)) (by decide) (Nat.le_of_ble_eq_true rfl) ?_
  intro p e s m args below meth c ls hC hP hS hl
  have hx := hC.x
  have hb := hC.b
  have hl : lv_has ls 1 [(0, .ref (ad γ 23))] := hl
  unfold r5_errorPosition at h
  refine lv_aload_n hx hb dX5_errorPosition_0 rfl (lv_at hl 0 rfl) ?_
  refine lv_iconst (v := 0) hx hb dX5_errorPosition_1 (by decide) ?_
  obtain ⟨M1, hv, h⟩ := ob h
  refine g_putI hC hP hS (fun Z => (T, P, X, Y, E, B, Z, O)) 0 tyX5 dX5_errorPosition_2 (by decide) ge_23 rfl inX5 tyX5_ok nmX5 (by decide) u_5_154 rfl rfl (Nat.le_of_ble_eq_true rfl) gp_23_0 hv (fun H locs hP hS => ?_)
  refine lv_aload_n hx hb dX5_errorPosition_5 rfl (lv_at hl 0 rfl) ?_
  refine g_get hC hP 7 dX5_errorPosition_6 (by decide) ge_23 rfl inX5 (by decide) rfl u_5_161 ?_
  cases h
  exact g_iret hC hP hS dX5_errorPosition_9 rfl
def r5_removeEvent_b45 (x2_32 : Int32) (M_45 : OS) (x3_45 : Int32) : Option ((OS × Int32) ⊕ (OS)) :=
  (if 112 < x3_45 then some (.inr M_45)
  else (rd 1008 (M_45 1) ((x3_45 + x2_32) + 1)).bind fun v7 =>
  (wr 1008 M_45 1 (x3_45 + x2_32) v7).bind fun M8 =>
  some (.inl (M8, (x3_45 + 14))))
def r5_removeEvent_b32 (M_32 : OS) (x2_32 : Int32) : Option ((OS × Int32) ⊕ (OS)) :=
  bd1 (r5_many M_32) (fun v4 =>
  (if (v4 - 1) ≤ x2_32 then some (.inr M_32)
  else bd1 (it2 (r5_removeEvent_b45 x2_32) 200 M_32 28) (fun M_x45 => some (.inl (M_x45, (x2_32 + 1))))))
def r5_removeEvent_j14 (M_14 : OS) (x1 : Int32) (s0_14 : Int32)  : Option (Int32 × OS) :=
  (sw M_14 0 s0_14).bind fun M1 =>
  (if (M1 0 0) = 0 then bd1 (r5_keeps M1) (fun M3 =>
  bd1 (it2 r5_removeEvent_b32 200 M3 x1) (fun M_x32 => (rd 1008 (M_x32 1) 27).bind fun v9 =>
  (wr 1008 M_x32 1 27 (v9 - 1)).bind fun M10 =>
  bd1 (r5_many M10) (fun v11 =>
  some (v11, M10))))
  else some (0, M1))
def r5_removeEvent (M : OS) (x1 : Int32) : Option (Int32 × OS) :=
  bd1 (r5_isEvent M x1) (fun v12 =>
  (if v12 = 0 then r5_removeEvent_j14 M x1 1
  else r5_removeEvent_j14 M x1 0))
theorem yv_X5_removeEvent : gYV yX5_removeEvent cX5_removeEvent 4 (some .int) 1 := ⟨u_6_68, u_6_69, u_1_7, u_6_70, ⟨by decide +kernel, by decide +kernel, by decide +kernel⟩, by decide⟩
set_option maxHeartbeats 4000000 in
set_option maxRecDepth 100000 in
theorem c5_removeEvent (l : Launch) {γ : GA} {sz : Nat} {T P X Y B M : OS} {E : Nat → OS} {O : Nat → Int64} {x1 : Int32} {r0 : Int32} {Mz : OS} (h : r5_removeEvent M x1 = some (r0, Mz)) : Met l yX5_removeEvent (gU yX5_removeEvent cX5_removeEvent 4 (some .int)) (gR 2 0 0) (gPc γ [.ref (ad γ 23), .int x1] sz (T, P, X, Y, E, B, M, O)) (gQi γ r0 sz (T, P, X, Y, E, B, Mz, O)) 0 0 (gA γ sz) := by
  refine g_met (fun sz => gQi γ r0 sz (T, P, X, Y, E, B, Mz, O)) (by decide) (Nat.le_of_ble_eq_true rfl) ?_
  intro p e s m args below meth c ls hC hP hS hl
  have hx := hC.x
  have hb := hC.b
  have hl : lv_has ls 4 [(0, .ref (ad γ 23)), (1, .int x1)] := hl
  unfold r5_removeEvent at h
  have J14 : ∀ (M_14 : OS) (s0_14 : Int32) (h : r5_removeEvent_j14 M_14 x1 s0_14 = some (r0, Mz)), ∀ (H : Heap) (locs : List Loc) (ls : Array Slot), va_P γ.1 vwCl (gw γ (T, P, X, Y, E, B, M_14, O)) H → va_S (gA γ s.heap.size) s.heap H locs → lv_has ls 4 [(0, .ref (ad γ 23)), (1, .int x1)] → W p l e (gR 2 0 0) s m args below meth c H locs 0 0 (MQ below (gQi γ r0 s.heap.size (T, P, X, Y, E, B, Mz, O)) args s 0 0 (gA γ s.heap.size)) (F0 m 14 ls [.int s0_14, .ref (ad γ 23)]) := by
    intro M_14 s0_14 h H locs ls hP hS hl
    unfold r5_removeEvent_j14 at h
    obtain ⟨M1, hv, h⟩ := ob h
    refine g_putI hC hP hS (fun Z => (T, P, X, Y, E, B, Z, O)) 0 tyX5 dX5_removeEvent_14 (by decide) ge_23 rfl inX5 tyX5_ok nmX5 (by decide) u_5_154 rfl rfl (Nat.le_of_ble_eq_true rfl) gp_23_0 hv (fun H locs hP hS => ?_)
    refine lv_aload_n hx hb dX5_removeEvent_17 rfl (lv_at hl 0 rfl) ?_
    refine g_get hC hP 0 dX5_removeEvent_18 (by decide) ge_23 rfl inX5 (by decide) rfl u_5_154 ?_
    refine lv_if_eq (tgt := 26) hx hb dX5_removeEvent_21 (by decide) (fun c2 => ?_) (fun c2 => ?_)
    · rw [if_pos c2] at h
      refine lv_aload_n hx hb dX5_removeEvent_26 rfl (lv_at hl 0 rfl) ?_
      obtain ⟨M3, hv, h⟩ := bd1_e h
      refine g_kv (g_runV (As := []) (rest := []) hC hP (c5_keeps l hv) (by decide) ge_23 rfl u_5_213 yv_X5_keeps (Nat.le_of_ble_eq_true rfl) rfl hl.1 rfl (Nat.le_of_ble_eq_true rfl) dX5_removeEvent_27 ⟨by decide, by decide⟩) hS (fun H locs hP hS => ?_)
      refine lv_iload_n hx hb dX5_removeEvent_30 rfl (lv_at hl 1 rfl) ?_
      refine lv_istore_n (lv' := [(2, .int x1), (0, .ref (ad γ 23)), (1, .int x1)]) hx hb dX5_removeEvent_31 rfl hl (by decide) rfl (fun ls hl => ?_)
      have L32 := it2_W r5_removeEvent_b32 (fun (M_32 : OS) (x2_32 : Int32) => ∀ (H : Heap) (locs : List Loc) (ls : Array Slot), va_P γ.1 vwCl (gw γ (T, P, X, Y, E, B, M_32, O)) H → va_S (gA γ s.heap.size) s.heap H locs → lv_has ls 4 [(0, .ref (ad γ 23)), (2, .int x2_32)] → W p l e (gR 2 0 0) s m args below meth c H locs 0 0 (MQ below (gQi γ r0 s.heap.size (T, P, X, Y, E, B, Mz, O)) args s 0 0 (gA γ s.heap.size)) (F0 m 32 ls [])) (fun (r_k : OS) => (∀ (M_x32 : OS), r_k = M_x32 → ∀ (H : Heap) (locs : List Loc) (ls : Array Slot), va_P γ.1 vwCl (gw γ (T, P, X, Y, E, B, M_x32, O)) H → va_S (gA γ s.heap.size) s.heap H locs → lv_has ls 4 [(0, .ref (ad γ 23))] → W p l e (gR 2 0 0) s m args below meth c H locs 0 0 (MQ below (gQi γ r0 s.heap.size (T, P, X, Y, E, B, Mz, O)) args s 0 0 (gA γ s.heap.size)) (F0 m 81 ls []))) (by
        intro M_32 x2_32 o_32 h kS kR H locs ls hP hS hl
        unfold r5_removeEvent_b32 at h
        refine lv_iload_n hx hb dX5_removeEvent_32 rfl (lv_at hl 1 rfl) ?_
        refine lv_aload_n hx hb dX5_removeEvent_33 rfl (lv_at hl 0 rfl) ?_
        obtain ⟨v4, hv, h⟩ := bd1_e h
        refine g_ki (g_runV (As := []) (rest := [.int x2_32]) hC hP (c5_many l hv) (by decide) ge_23 rfl u_5_225 yv_X5_many (Nat.le_of_ble_eq_true rfl) rfl hl.1 rfl (Nat.le_of_ble_eq_true rfl) dX5_removeEvent_34 ⟨by decide, by decide⟩) hS (fun H locs hP hS => ?_)
        refine lv_iconst (v := 1) hx hb dX5_removeEvent_37 (by decide) ?_
        refine lv_isub hx hb dX5_removeEvent_38 ?_
        refine lv_icmp_ge (tgt := 81) hx hb dX5_removeEvent_39 (by decide) (fun c5 => ?_) (fun c5 => ?_)
        · rw [if_pos c5] at h
          cases h
          exact kR _ rfl _ rfl _ _ _ hP hS (lv_sub hl [0] rfl)
        · rw [if_neg c5] at h
          refine lv_bipush (v := 28) hx hb dX5_removeEvent_42 (by decide) ?_
          refine lv_istore_n (lv' := [(3, .int 28), (0, .ref (ad γ 23)), (2, .int x2_32)]) hx hb dX5_removeEvent_44 rfl hl (by decide) rfl (fun ls hl => ?_)
          have L45 := it2_W (r5_removeEvent_b45 x2_32) (fun (M_45 : OS) (x3_45 : Int32) => ∀ (H : Heap) (locs : List Loc) (ls : Array Slot), va_P γ.1 vwCl (gw γ (T, P, X, Y, E, B, M_45, O)) H → va_S (gA γ s.heap.size) s.heap H locs → lv_has ls 4 [(0, .ref (ad γ 23)), (2, .int x2_32), (3, .int x3_45)] → W p l e (gR 2 0 0) s m args below meth c H locs 0 0 (MQ below (gQi γ r0 s.heap.size (T, P, X, Y, E, B, Mz, O)) args s 0 0 (gA γ s.heap.size)) (F0 m 45 ls [])) (fun (r_k : OS) => (∀ (M_x45 : OS), r_k = M_x45 → ∀ (H : Heap) (locs : List Loc) (ls : Array Slot), va_P γ.1 vwCl (gw γ (T, P, X, Y, E, B, M_x45, O)) H → va_S (gA γ s.heap.size) s.heap H locs → lv_has ls 4 [(0, .ref (ad γ 23)), (2, .int x2_32)] → W p l e (gR 2 0 0) s m args below meth c H locs 0 0 (MQ below (gQi γ r0 s.heap.size (T, P, X, Y, E, B, Mz, O)) args s 0 0 (gA γ s.heap.size)) (F0 m 75 ls []))) (by
            intro M_45 x3_45 o_45 h kS kR H locs ls hP hS hl
            unfold r5_removeEvent_b45 at h
            refine lv_iload_n hx hb dX5_removeEvent_45 rfl (lv_at hl 2 rfl) ?_
            refine lv_bipush (v := 112) hx hb dX5_removeEvent_46 (by decide) ?_
            refine lv_icmp_gt (tgt := 75) hx hb dX5_removeEvent_48 (by decide) (fun c6 => ?_) (fun c6 => ?_)
            · rw [if_pos c6] at h
              cases h
              exact kR _ rfl _ rfl _ _ _ hP hS (lv_sub hl [0, 1] rfl)
            · rw [if_neg c6] at h
              refine lv_aload_n hx hb dX5_removeEvent_51 rfl (lv_at hl 0 rfl) ?_
              refine g_get hC hP 1 dX5_removeEvent_52 (by decide) ge_23 rfl inX5 (by decide) rfl u_5_155 ?_
              refine lv_iload_n hx hb dX5_removeEvent_55 rfl (lv_at hl 2 rfl) ?_
              refine lv_iload_n hx hb dX5_removeEvent_56 rfl (lv_at hl 1 rfl) ?_
              refine lv_iadd hx hb dX5_removeEvent_57 ?_
              refine lv_aload_n hx hb dX5_removeEvent_58 rfl (lv_at hl 0 rfl) ?_
              refine g_get hC hP 1 dX5_removeEvent_59 (by decide) ge_23 rfl inX5 (by decide) rfl u_5_155 ?_
              refine lv_iload_n hx hb dX5_removeEvent_62 rfl (lv_at hl 2 rfl) ?_
              refine lv_iload_n hx hb dX5_removeEvent_63 rfl (lv_at hl 1 rfl) ?_
              refine lv_iadd hx hb dX5_removeEvent_64 ?_
              refine lv_iconst (v := 1) hx hb dX5_removeEvent_65 (by decide) ?_
              refine lv_iadd hx hb dX5_removeEvent_66 ?_
              obtain ⟨v7, hv, h⟩ := ob h
              refine g_ld hC hP dX5_removeEvent_67 (by decide) ge_24 hv ?_
              obtain ⟨M8, hv, h⟩ := ob h
              refine g_st hC hP hS (fun Z => (T, P, X, Y, E, B, Z, O)) dX5_removeEvent_68 (by decide) ge_24 gs_24 hv (fun H locs hP hS => ?_)
              refine lv_iinc (v := (x3_45 + 14)) (lv' := [(3, .int (x3_45 + 14)), (0, .ref (ad γ 23)), (2, .int x2_32)]) hx hb dX5_removeEvent_69 hl (k := 2) rfl rfl (by decide) rfl (fun ls hl => ?_)
              refine lv_goto (tgt := 45) hx hb dX5_removeEvent_72 (by decide) ?_
              cases h
              exact kS _ _ rfl _ _ _ hP hS (lv_sub hl [1, 2, 0] rfl))
          obtain ⟨M_x45, hv, h⟩ := bd1_e h
          refine L45 _ _ _ _ hv (fun q0 e9 H locs ls hP hS hl => ?_) _ _ _ hP hS (lv_sub hl [1, 2, 0] rfl)
          obtain rfl := e9
          refine lv_iinc (v := (x2_32 + 1)) (lv' := [(2, .int (x2_32 + 1)), (0, .ref (ad γ 23))]) hx hb dX5_removeEvent_75 hl (k := 1) rfl rfl (by decide) rfl (fun ls hl => ?_)
          refine lv_goto (tgt := 32) hx hb dX5_removeEvent_78 (by decide) ?_
          cases h
          exact kS _ _ rfl _ _ _ hP hS (lv_sub hl [1, 0] rfl))
      obtain ⟨M_x32, hv, h⟩ := bd1_e h
      refine L32 _ _ _ _ hv (fun q0 e9 H locs ls hP hS hl => ?_) _ _ _ hP hS (lv_sub hl [1, 0] rfl)
      obtain rfl := e9
      refine lv_aload_n hx hb dX5_removeEvent_81 rfl (lv_at hl 0 rfl) ?_
      refine g_get hC hP 1 dX5_removeEvent_82 (by decide) ge_23 rfl inX5 (by decide) rfl u_5_155 ?_
      refine lv_bipush (v := 27) hx hb dX5_removeEvent_85 (by decide) ?_
      refine lv_dup2_11 hx hb dX5_removeEvent_87 rfl rfl ?_
      obtain ⟨v9, hv, h⟩ := ob h
      refine g_ld hC hP dX5_removeEvent_88 (by decide) ge_24 hv ?_
      refine lv_iconst (v := 1) hx hb dX5_removeEvent_89 (by decide) ?_
      refine lv_isub hx hb dX5_removeEvent_90 ?_
      obtain ⟨M10, hv, h⟩ := ob h
      refine g_st hC hP hS (fun Z => (T, P, X, Y, E, B, Z, O)) dX5_removeEvent_91 (by decide) ge_24 gs_24 hv (fun H locs hP hS => ?_)
      refine lv_aload_n hx hb dX5_removeEvent_92 rfl (lv_at hl 0 rfl) ?_
      obtain ⟨v11, hv, h⟩ := bd1_e h
      refine g_ki (g_runV (As := []) (rest := []) hC hP (c5_many l hv) (by decide) ge_23 rfl u_5_225 yv_X5_many (Nat.le_of_ble_eq_true rfl) rfl hl.1 rfl (Nat.le_of_ble_eq_true rfl) dX5_removeEvent_93 ⟨by decide, by decide⟩) hS (fun H locs hP hS => ?_)
      cases h
      exact g_iret hC hP hS dX5_removeEvent_96 rfl
    · rw [if_neg c2] at h
      refine lv_iconst (v := 0) hx hb dX5_removeEvent_24 (by decide) ?_
      cases h
      exact g_iret hC hP hS dX5_removeEvent_25 rfl
  refine lv_aload_n hx hb dX5_removeEvent_0 rfl (lv_at hl 0 rfl) ?_
  refine lv_aload_n hx hb dX5_removeEvent_1 rfl (lv_at hl 0 rfl) ?_
  refine lv_iload_n hx hb dX5_removeEvent_2 rfl (lv_at hl 1 rfl) ?_
  obtain ⟨v12, hv, h⟩ := bd1_e h
  refine g_ki (g_runV (As := [.int x1]) (rest := [.ref (ad γ 23)]) hC hP (c5_isEvent l hv) (by decide) ge_23 rfl u_6_71 yv_X5_isEvent (Nat.le_of_ble_eq_true rfl) rfl hl.1 rfl (Nat.le_of_ble_eq_true rfl) dX5_removeEvent_3 ⟨by decide, by decide⟩) hS (fun H locs hP hS => ?_)
  refine lv_if_eq (tgt := 13) hx hb dX5_removeEvent_6 (by decide) (fun c13 => ?_) (fun c13 => ?_)
  · rw [if_pos c13] at h
    refine lv_iconst (v := 1) hx hb dX5_removeEvent_13 (by decide) ?_
    exact J14 M 1 h _ _ _ hP hS (lv_sub hl [0, 1] rfl)
  · rw [if_neg c13] at h
    refine lv_iconst (v := 0) hx hb dX5_removeEvent_9 (by decide) ?_
    refine lv_goto (tgt := 14) hx hb dX5_removeEvent_10 (by decide) ?_
    exact J14 M 0 h _ _ _ hP hS (lv_sub hl [0, 1] rfl)
def r5_split_j60 (M_60 : OS) (x1 : Int32) (x2 : Int32) (s0_60 : Int32)  : Option (Int32 × OS) :=
  (sw M_60 0 s0_60).bind fun M1 =>
  (if (M1 0 0) = 0 then bd1 (r5_keeps M1) (fun M3 =>
  (rd 1008 (M3 1) (42 + x1)).bind fun v4 =>
  (wr 1008 M3 1 (42 + x1) (v4 &&& (x2 ^^^ (-1)))).bind fun M5 =>
  bd1 (r5_of M5 28 x1) (fun v6 =>
  bd1 (r5_of M5 56 x1) (fun v7 =>
  bd1 (r5_of M5 70 x1) (fun v8 =>
  bd2 (r5_opens M5 v6 x2 v7 v8) (fun v9 M10 =>
  some (v9, M10))))))
  else some (0, M1))
def r5_split (M : OS) (x1 : Int32) (x2 : Int32) : Option (Int32 × OS) :=
  bd1 (r5_isEvent M x1) (fun v11 =>
  (if v11 = 0 then r5_split_j60 M x1 x2 1
  else (if x2 = 0 then r5_split_j60 M x1 x2 2
  else bd1 (r5_of M 42 x1) (fun v14 =>
  (if (x2 &&& (v14 ^^^ (-1))) = 0 then bd1 (r5_of M 42 x1) (fun v16 =>
  (if x2 = v16 then r5_split_j60 M x1 x2 2
  else bd1 (r5_many M) (fun v18 =>
  (if v18 = 14 then r5_split_j60 M x1 x2 3
  else r5_split_j60 M x1 x2 0))))
  else r5_split_j60 M x1 x2 2)))))
theorem yv_X5_split : gYV yX5_split cX5_split 3 (some .int) 2 := ⟨u_6_76, u_6_77, u_1_7, u_6_78, ⟨by decide +kernel, by decide +kernel, by decide +kernel⟩, by decide⟩
set_option maxHeartbeats 4000000 in
set_option maxRecDepth 100000 in
theorem c5_split (l : Launch) {γ : GA} {sz : Nat} {T P X Y B M : OS} {E : Nat → OS} {O : Nat → Int64} {x1 : Int32} {x2 : Int32} {r0 : Int32} {Mz : OS} (h : r5_split M x1 x2 = some (r0, Mz)) : Met l yX5_split (gU yX5_split cX5_split 3 (some .int)) (gR 2 0 0) (gPc γ [.ref (ad γ 23), .int x1, .int x2] sz (T, P, X, Y, E, B, M, O)) (gQi γ r0 sz (T, P, X, Y, E, B, Mz, O)) 0 0 (gA γ sz) := by
  refine g_met (fun sz => gQi γ r0 sz (T, P, X, Y, E, B, Mz, O)) (by decide) (Nat.le_of_ble_eq_true rfl) ?_
  intro p e s m args below meth c ls hC hP hS hl
  have hx := hC.x
  have hb := hC.b
  have hl : lv_has ls 3 [(0, .ref (ad γ 23)), (1, .int x1), (2, .int x2)] := hl
  unfold r5_split at h
  have J60 : ∀ (M_60 : OS) (s0_60 : Int32) (h : r5_split_j60 M_60 x1 x2 s0_60 = some (r0, Mz)), ∀ (H : Heap) (locs : List Loc) (ls : Array Slot), va_P γ.1 vwCl (gw γ (T, P, X, Y, E, B, M_60, O)) H → va_S (gA γ s.heap.size) s.heap H locs → lv_has ls 3 [(0, .ref (ad γ 23)), (1, .int x1), (2, .int x2)] → W p l e (gR 2 0 0) s m args below meth c H locs 0 0 (MQ below (gQi γ r0 s.heap.size (T, P, X, Y, E, B, Mz, O)) args s 0 0 (gA γ s.heap.size)) (F0 m 60 ls [.int s0_60, .ref (ad γ 23)]) := by
    intro M_60 s0_60 h H locs ls hP hS hl
    unfold r5_split_j60 at h
    obtain ⟨M1, hv, h⟩ := ob h
    refine g_putI hC hP hS (fun Z => (T, P, X, Y, E, B, Z, O)) 0 tyX5 dX5_split_60 (by decide) ge_23 rfl inX5 tyX5_ok nmX5 (by decide) u_5_154 rfl rfl (Nat.le_of_ble_eq_true rfl) gp_23_0 hv (fun H locs hP hS => ?_)
    refine lv_aload_n hx hb dX5_split_63 rfl (lv_at hl 0 rfl) ?_
    refine g_get hC hP 0 dX5_split_64 (by decide) ge_23 rfl inX5 (by decide) rfl u_5_154 ?_
    refine lv_if_eq (tgt := 72) hx hb dX5_split_67 (by decide) (fun c2 => ?_) (fun c2 => ?_)
    · rw [if_pos c2] at h
      refine lv_aload_n hx hb dX5_split_72 rfl (lv_at hl 0 rfl) ?_
      obtain ⟨M3, hv, h⟩ := bd1_e h
      refine g_kv (g_runV (As := []) (rest := []) hC hP (c5_keeps l hv) (by decide) ge_23 rfl u_5_213 yv_X5_keeps (Nat.le_of_ble_eq_true rfl) rfl hl.1 rfl (Nat.le_of_ble_eq_true rfl) dX5_split_73 ⟨by decide, by decide⟩) hS (fun H locs hP hS => ?_)
      refine lv_aload_n hx hb dX5_split_76 rfl (lv_at hl 0 rfl) ?_
      refine g_get hC hP 1 dX5_split_77 (by decide) ge_23 rfl inX5 (by decide) rfl u_5_155 ?_
      refine lv_bipush (v := 42) hx hb dX5_split_80 (by decide) ?_
      refine lv_iload_n hx hb dX5_split_82 rfl (lv_at hl 1 rfl) ?_
      refine lv_iadd hx hb dX5_split_83 ?_
      refine lv_dup2_11 hx hb dX5_split_84 rfl rfl ?_
      obtain ⟨v4, hv, h⟩ := ob h
      refine g_ld hC hP dX5_split_85 (by decide) ge_24 hv ?_
      refine lv_iload_n hx hb dX5_split_86 rfl (lv_at hl 2 rfl) ?_
      refine lv_iconst (v := -1) hx hb dX5_split_87 (by decide) ?_
      refine lv_ixor hx hb dX5_split_88 ?_
      refine lv_iand hx hb dX5_split_89 ?_
      obtain ⟨M5, hv, h⟩ := ob h
      refine g_st hC hP hS (fun Z => (T, P, X, Y, E, B, Z, O)) dX5_split_90 (by decide) ge_24 gs_24 hv (fun H locs hP hS => ?_)
      refine lv_aload_n hx hb dX5_split_91 rfl (lv_at hl 0 rfl) ?_
      refine lv_aload_n hx hb dX5_split_92 rfl (lv_at hl 0 rfl) ?_
      refine lv_bipush (v := 28) hx hb dX5_split_93 (by decide) ?_
      refine lv_iload_n hx hb dX5_split_95 rfl (lv_at hl 1 rfl) ?_
      obtain ⟨v6, hv, h⟩ := bd1_e h
      refine g_ki (g_runV (As := [.int 28, .int x1]) (rest := [.ref (ad γ 23)]) hC hP (c5_of l hv) (by decide) ge_23 rfl u_5_229 yv_X5_of (Nat.le_of_ble_eq_true rfl) rfl hl.1 rfl (Nat.le_of_ble_eq_true rfl) dX5_split_96 ⟨by decide, by decide⟩) hS (fun H locs hP hS => ?_)
      refine lv_iload_n hx hb dX5_split_99 rfl (lv_at hl 2 rfl) ?_
      refine lv_aload_n hx hb dX5_split_100 rfl (lv_at hl 0 rfl) ?_
      refine lv_bipush (v := 56) hx hb dX5_split_101 (by decide) ?_
      refine lv_iload_n hx hb dX5_split_103 rfl (lv_at hl 1 rfl) ?_
      obtain ⟨v7, hv, h⟩ := bd1_e h
      refine g_ki (g_runV (As := [.int 56, .int x1]) (rest := [.int x2, .int v6, .ref (ad γ 23)]) hC hP (c5_of l hv) (by decide) ge_23 rfl u_5_229 yv_X5_of (Nat.le_of_ble_eq_true rfl) rfl hl.1 rfl (Nat.le_of_ble_eq_true rfl) dX5_split_104 ⟨by decide, by decide⟩) hS (fun H locs hP hS => ?_)
      refine lv_aload_n hx hb dX5_split_107 rfl (lv_at hl 0 rfl) ?_
      refine lv_bipush (v := 70) hx hb dX5_split_108 (by decide) ?_
      refine lv_iload_n hx hb dX5_split_110 rfl (lv_at hl 1 rfl) ?_
      obtain ⟨v8, hv, h⟩ := bd1_e h
      refine g_ki (g_runV (As := [.int 70, .int x1]) (rest := [.int v7, .int x2, .int v6, .ref (ad γ 23)]) hC hP (c5_of l hv) (by decide) ge_23 rfl u_5_229 yv_X5_of (Nat.le_of_ble_eq_true rfl) rfl hl.1 rfl (Nat.le_of_ble_eq_true rfl) dX5_split_111 ⟨by decide, by decide⟩) hS (fun H locs hP hS => ?_)
      obtain ⟨v9, M10, hv, h⟩ := bd2_e h
      refine g_ki (g_runV (As := [.int v6, .int x2, .int v7, .int v8]) (rest := []) hC hP (c5_opens l hv) (by decide) ge_23 rfl u_6_59 yv_X5_opens (Nat.le_of_ble_eq_true rfl) rfl hl.1 rfl (Nat.le_of_ble_eq_true rfl) dX5_split_114 ⟨by decide, by decide⟩) hS (fun H locs hP hS => ?_)
      cases h
      exact g_iret hC hP hS dX5_split_117 rfl
    · rw [if_neg c2] at h
      refine lv_iconst (v := 0) hx hb dX5_split_70 (by decide) ?_
      cases h
      exact g_iret hC hP hS dX5_split_71 rfl
  refine lv_aload_n hx hb dX5_split_0 rfl (lv_at hl 0 rfl) ?_
  refine lv_aload_n hx hb dX5_split_1 rfl (lv_at hl 0 rfl) ?_
  refine lv_iload_n hx hb dX5_split_2 rfl (lv_at hl 1 rfl) ?_
  obtain ⟨v11, hv, h⟩ := bd1_e h
  refine g_ki (g_runV (As := [.int x1]) (rest := [.ref (ad γ 23)]) hC hP (c5_isEvent l hv) (by decide) ge_23 rfl u_6_71 yv_X5_isEvent (Nat.le_of_ble_eq_true rfl) rfl hl.1 rfl (Nat.le_of_ble_eq_true rfl) dX5_split_3 ⟨by decide, by decide⟩) hS (fun H locs hP hS => ?_)
  refine lv_if_ne (tgt := 13) hx hb dX5_split_6 (by decide) (fun c12 => ?_) (fun c12 => ?_)
  · rw [if_neg c12] at h
    refine lv_iload_n hx hb dX5_split_13 rfl (lv_at hl 2 rfl) ?_
    refine lv_if_eq (tgt := 42) hx hb dX5_split_14 (by decide) (fun c13 => ?_) (fun c13 => ?_)
    · rw [if_pos c13] at h
      refine lv_iconst (v := 2) hx hb dX5_split_42 (by decide) ?_
      refine lv_goto (tgt := 60) hx hb dX5_split_43 (by decide) ?_
      exact J60 M 2 h _ _ _ hP hS (lv_sub hl [0, 1, 2] rfl)
    · rw [if_neg c13] at h
      refine lv_iload_n hx hb dX5_split_17 rfl (lv_at hl 2 rfl) ?_
      refine lv_aload_n hx hb dX5_split_18 rfl (lv_at hl 0 rfl) ?_
      refine lv_bipush (v := 42) hx hb dX5_split_19 (by decide) ?_
      refine lv_iload_n hx hb dX5_split_21 rfl (lv_at hl 1 rfl) ?_
      obtain ⟨v14, hv, h⟩ := bd1_e h
      refine g_ki (g_runV (As := [.int 42, .int x1]) (rest := [.int x2, .ref (ad γ 23)]) hC hP (c5_of l hv) (by decide) ge_23 rfl u_5_229 yv_X5_of (Nat.le_of_ble_eq_true rfl) rfl hl.1 rfl (Nat.le_of_ble_eq_true rfl) dX5_split_22 ⟨by decide, by decide⟩) hS (fun H locs hP hS => ?_)
      refine lv_iconst (v := -1) hx hb dX5_split_25 (by decide) ?_
      refine lv_ixor hx hb dX5_split_26 ?_
      refine lv_iand hx hb dX5_split_27 ?_
      refine lv_if_ne (tgt := 42) hx hb dX5_split_28 (by decide) (fun c15 => ?_) (fun c15 => ?_)
      · rw [if_neg c15] at h
        refine lv_iconst (v := 2) hx hb dX5_split_42 (by decide) ?_
        refine lv_goto (tgt := 60) hx hb dX5_split_43 (by decide) ?_
        exact J60 M 2 h _ _ _ hP hS (lv_sub hl [0, 1, 2] rfl)
      · rw [if_pos c15] at h
        refine lv_iload_n hx hb dX5_split_31 rfl (lv_at hl 2 rfl) ?_
        refine lv_aload_n hx hb dX5_split_32 rfl (lv_at hl 0 rfl) ?_
        refine lv_bipush (v := 42) hx hb dX5_split_33 (by decide) ?_
        refine lv_iload_n hx hb dX5_split_35 rfl (lv_at hl 1 rfl) ?_
        obtain ⟨v16, hv, h⟩ := bd1_e h
        refine g_ki (g_runV (As := [.int 42, .int x1]) (rest := [.int x2, .ref (ad γ 23)]) hC hP (c5_of l hv) (by decide) ge_23 rfl u_5_229 yv_X5_of (Nat.le_of_ble_eq_true rfl) rfl hl.1 rfl (Nat.le_of_ble_eq_true rfl) dX5_split_36 ⟨by decide, by decide⟩) hS (fun H locs hP hS => ?_)
        refine lv_icmp_ne (tgt := 46) hx hb dX5_split_39 (by decide) (fun c17 => ?_) (fun c17 => ?_)
        · rw [if_neg c17] at h
          refine lv_aload_n hx hb dX5_split_46 rfl (lv_at hl 0 rfl) ?_
          obtain ⟨v18, hv, h⟩ := bd1_e h
          refine g_ki (g_runV (As := []) (rest := [.ref (ad γ 23)]) hC hP (c5_many l hv) (by decide) ge_23 rfl u_5_225 yv_X5_many (Nat.le_of_ble_eq_true rfl) rfl hl.1 rfl (Nat.le_of_ble_eq_true rfl) dX5_split_47 ⟨by decide, by decide⟩) hS (fun H locs hP hS => ?_)
          refine lv_bipush (v := 14) hx hb dX5_split_50 (by decide) ?_
          refine lv_icmp_ne (tgt := 59) hx hb dX5_split_52 (by decide) (fun c19 => ?_) (fun c19 => ?_)
          · rw [if_neg c19] at h
            refine lv_iconst (v := 0) hx hb dX5_split_59 (by decide) ?_
            exact J60 M 0 h _ _ _ hP hS (lv_sub hl [0, 1, 2] rfl)
          · rw [if_pos c19] at h
            refine lv_iconst (v := 3) hx hb dX5_split_55 (by decide) ?_
            refine lv_goto (tgt := 60) hx hb dX5_split_56 (by decide) ?_
            exact J60 M 3 h _ _ _ hP hS (lv_sub hl [0, 1, 2] rfl)
        · rw [if_pos c17] at h
          refine lv_iconst (v := 2) hx hb dX5_split_42 (by decide) ?_
          refine lv_goto (tgt := 60) hx hb dX5_split_43 (by decide) ?_
          exact J60 M 2 h _ _ _ hP hS (lv_sub hl [0, 1, 2] rfl)
  · rw [if_pos c12] at h
    refine lv_iconst (v := 1) hx hb dX5_split_9 (by decide) ?_
    refine lv_goto (tgt := 60) hx hb dX5_split_10 (by decide) ?_
    exact J60 M 1 h _ _ _ hP hS (lv_sub hl [0, 1, 2] rfl)
def r5_event_j28 (M_28 : OS) (x1 : Int32) (x2 : Int32) (s0_28 : Int32)  : Option (Int32 × OS) :=
  (sw M_28 0 s0_28).bind fun M1 =>
  (if (M1 0 0) = 0 then (if x2 = 0 then bd1 (r5_of M1 28 x1) (fun v9 =>
  some (v9, M1))
  else (if x2 = 1 then bd1 (r5_of M1 42 x1) (fun v10 =>
  some (v10, M1))
  else (if x2 = 2 then bd1 (r5_of M1 56 x1) (fun v11 =>
  some (v11, M1))
  else (if x2 = 3 then bd1 (r5_of M1 70 x1) (fun v12 =>
  some (v12, M1))
  else (if x2 = 4 then bd1 (r5_of M1 42 x1) (fun v13 =>
  bd1 (r5_sizeOf M1 v13) (fun v14 =>
  some (v14, M1)))
  else (if x2 = 5 then bd1 (r5_of M1 84 x1) (fun v15 =>
  some (v15, M1))
  else bd1 (r5_of M1 98 x1) (fun v16 =>
  some (v16, M1))))))))
  else some (0, M1))
def r5_event (M : OS) (x1 : Int32) (x2 : Int32) : Option (Int32 × OS) :=
  bd1 (r5_isEvent M x1) (fun v17 =>
  (if v17 = 0 then r5_event_j28 M x1 x2 1
  else bd1 (r5_in x2 0 6) (fun v19 =>
  (if v19 = 0 then r5_event_j28 M x1 x2 2
  else r5_event_j28 M x1 x2 0))))
theorem yv_X5_event : gYV yX5_event cX5_event 3 (some .int) 2 := ⟨u_6_80, u_6_81, u_1_7, u_6_82, ⟨by decide +kernel, by decide +kernel, by decide +kernel⟩, by decide⟩
set_option maxHeartbeats 4000000 in
set_option maxRecDepth 100000 in
theorem c5_event (l : Launch) {γ : GA} {sz : Nat} {T P X Y B M : OS} {E : Nat → OS} {O : Nat → Int64} {x1 : Int32} {x2 : Int32} {r0 : Int32} {Mz : OS} (h : r5_event M x1 x2 = some (r0, Mz)) : Met l yX5_event (gU yX5_event cX5_event 3 (some .int)) (gR 2 0 0) (gPc γ [.ref (ad γ 23), .int x1, .int x2] sz (T, P, X, Y, E, B, M, O)) (gQi γ r0 sz (T, P, X, Y, E, B, Mz, O)) 0 0 (gA γ sz) := by
  refine g_met (fun sz => gQi γ r0 sz (T, P, X, Y, E, B, Mz, O)) (by decide) (Nat.le_of_ble_eq_true rfl) ?_
  intro p e s m args below meth c ls hC hP hS hl
  have hx := hC.x
  have hb := hC.b
  have hl : lv_has ls 3 [(0, .ref (ad γ 23)), (1, .int x1), (2, .int x2)] := hl
  unfold r5_event at h
  have J28 : ∀ (M_28 : OS) (s0_28 : Int32) (h : r5_event_j28 M_28 x1 x2 s0_28 = some (r0, Mz)), ∀ (H : Heap) (locs : List Loc) (ls : Array Slot), va_P γ.1 vwCl (gw γ (T, P, X, Y, E, B, M_28, O)) H → va_S (gA γ s.heap.size) s.heap H locs → lv_has ls 3 [(0, .ref (ad γ 23)), (1, .int x1), (2, .int x2)] → W p l e (gR 2 0 0) s m args below meth c H locs 0 0 (MQ below (gQi γ r0 s.heap.size (T, P, X, Y, E, B, Mz, O)) args s 0 0 (gA γ s.heap.size)) (F0 m 28 ls [.int s0_28, .ref (ad γ 23)]) := by
    intro M_28 s0_28 h H locs ls hP hS hl
    unfold r5_event_j28 at h
    obtain ⟨M1, hv, h⟩ := ob h
    refine g_putI hC hP hS (fun Z => (T, P, X, Y, E, B, Z, O)) 0 tyX5 dX5_event_28 (by decide) ge_23 rfl inX5 tyX5_ok nmX5 (by decide) u_5_154 rfl rfl (Nat.le_of_ble_eq_true rfl) gp_23_0 hv (fun H locs hP hS => ?_)
    refine lv_aload_n hx hb dX5_event_31 rfl (lv_at hl 0 rfl) ?_
    refine g_get hC hP 0 dX5_event_32 (by decide) ge_23 rfl inX5 (by decide) rfl u_5_154 ?_
    refine lv_if_eq (tgt := 40) hx hb dX5_event_35 (by decide) (fun c2 => ?_) (fun c2 => ?_)
    · rw [if_pos c2] at h
      refine lv_iload_n hx hb dX5_event_40 rfl (lv_at hl 2 rfl) ?_
      by_cases c3 : x2 = 0
      · rw [if_pos c3] at h
        refine lv_tableIn (off := 39) (tgt := 80) hx hb dX5_event_41 (by rw [c3]; decide) (by rw [c3]; decide) (by rw [c3]; rfl) (by decide) ?_
        refine lv_aload_n hx hb dX5_event_80 rfl (lv_at hl 0 rfl) ?_
        refine lv_bipush (v := 28) hx hb dX5_event_81 (by decide) ?_
        refine lv_iload_n hx hb dX5_event_83 rfl (lv_at hl 1 rfl) ?_
        obtain ⟨v9, hv, h⟩ := bd1_e h
        refine g_ki (g_runV (As := [.int 28, .int x1]) (rest := []) hC hP (c5_of l hv) (by decide) ge_23 rfl u_5_229 yv_X5_of (Nat.le_of_ble_eq_true rfl) rfl hl.1 rfl (Nat.le_of_ble_eq_true rfl) dX5_event_84 ⟨by decide, by decide⟩) hS (fun H locs hP hS => ?_)
        cases h
        exact g_iret hC hP hS dX5_event_87 rfl
      rw [if_neg c3] at h
      by_cases c4 : x2 = 1
      · rw [if_pos c4] at h
        refine lv_tableIn (off := 47) (tgt := 88) hx hb dX5_event_41 (by rw [c4]; decide) (by rw [c4]; decide) (by rw [c4]; rfl) (by decide) ?_
        refine lv_aload_n hx hb dX5_event_88 rfl (lv_at hl 0 rfl) ?_
        refine lv_bipush (v := 42) hx hb dX5_event_89 (by decide) ?_
        refine lv_iload_n hx hb dX5_event_91 rfl (lv_at hl 1 rfl) ?_
        obtain ⟨v10, hv, h⟩ := bd1_e h
        refine g_ki (g_runV (As := [.int 42, .int x1]) (rest := []) hC hP (c5_of l hv) (by decide) ge_23 rfl u_5_229 yv_X5_of (Nat.le_of_ble_eq_true rfl) rfl hl.1 rfl (Nat.le_of_ble_eq_true rfl) dX5_event_92 ⟨by decide, by decide⟩) hS (fun H locs hP hS => ?_)
        cases h
        exact g_iret hC hP hS dX5_event_95 rfl
      rw [if_neg c4] at h
      by_cases c5 : x2 = 2
      · rw [if_pos c5] at h
        refine lv_tableIn (off := 55) (tgt := 96) hx hb dX5_event_41 (by rw [c5]; decide) (by rw [c5]; decide) (by rw [c5]; rfl) (by decide) ?_
        refine lv_aload_n hx hb dX5_event_96 rfl (lv_at hl 0 rfl) ?_
        refine lv_bipush (v := 56) hx hb dX5_event_97 (by decide) ?_
        refine lv_iload_n hx hb dX5_event_99 rfl (lv_at hl 1 rfl) ?_
        obtain ⟨v11, hv, h⟩ := bd1_e h
        refine g_ki (g_runV (As := [.int 56, .int x1]) (rest := []) hC hP (c5_of l hv) (by decide) ge_23 rfl u_5_229 yv_X5_of (Nat.le_of_ble_eq_true rfl) rfl hl.1 rfl (Nat.le_of_ble_eq_true rfl) dX5_event_100 ⟨by decide, by decide⟩) hS (fun H locs hP hS => ?_)
        cases h
        exact g_iret hC hP hS dX5_event_103 rfl
      rw [if_neg c5] at h
      by_cases c6 : x2 = 3
      · rw [if_pos c6] at h
        refine lv_tableIn (off := 63) (tgt := 104) hx hb dX5_event_41 (by rw [c6]; decide) (by rw [c6]; decide) (by rw [c6]; rfl) (by decide) ?_
        refine lv_aload_n hx hb dX5_event_104 rfl (lv_at hl 0 rfl) ?_
        refine lv_bipush (v := 70) hx hb dX5_event_105 (by decide) ?_
        refine lv_iload_n hx hb dX5_event_107 rfl (lv_at hl 1 rfl) ?_
        obtain ⟨v12, hv, h⟩ := bd1_e h
        refine g_ki (g_runV (As := [.int 70, .int x1]) (rest := []) hC hP (c5_of l hv) (by decide) ge_23 rfl u_5_229 yv_X5_of (Nat.le_of_ble_eq_true rfl) rfl hl.1 rfl (Nat.le_of_ble_eq_true rfl) dX5_event_108 ⟨by decide, by decide⟩) hS (fun H locs hP hS => ?_)
        cases h
        exact g_iret hC hP hS dX5_event_111 rfl
      rw [if_neg c6] at h
      by_cases c7 : x2 = 4
      · rw [if_pos c7] at h
        refine lv_tableIn (off := 71) (tgt := 112) hx hb dX5_event_41 (by rw [c7]; decide) (by rw [c7]; decide) (by rw [c7]; rfl) (by decide) ?_
        refine lv_aload_n hx hb dX5_event_112 rfl (lv_at hl 0 rfl) ?_
        refine lv_aload_n hx hb dX5_event_113 rfl (lv_at hl 0 rfl) ?_
        refine lv_bipush (v := 42) hx hb dX5_event_114 (by decide) ?_
        refine lv_iload_n hx hb dX5_event_116 rfl (lv_at hl 1 rfl) ?_
        obtain ⟨v13, hv, h⟩ := bd1_e h
        refine g_ki (g_runV (As := [.int 42, .int x1]) (rest := [.ref (ad γ 23)]) hC hP (c5_of l hv) (by decide) ge_23 rfl u_5_229 yv_X5_of (Nat.le_of_ble_eq_true rfl) rfl hl.1 rfl (Nat.le_of_ble_eq_true rfl) dX5_event_117 ⟨by decide, by decide⟩) hS (fun H locs hP hS => ?_)
        obtain ⟨v14, hv, h⟩ := bd1_e h
        refine g_ki (g_runV (As := [.int v13]) (rest := []) hC hP (c5_sizeOf l hv) (by decide) ge_23 rfl u_6_7 yv_X5_sizeOf (Nat.le_of_ble_eq_true rfl) rfl hl.1 rfl (Nat.le_of_ble_eq_true rfl) dX5_event_120 ⟨by decide, by decide⟩) hS (fun H locs hP hS => ?_)
        cases h
        exact g_iret hC hP hS dX5_event_123 rfl
      rw [if_neg c7] at h
      by_cases c8 : x2 = 5
      · rw [if_pos c8] at h
        refine lv_tableIn (off := 83) (tgt := 124) hx hb dX5_event_41 (by rw [c8]; decide) (by rw [c8]; decide) (by rw [c8]; rfl) (by decide) ?_
        refine lv_aload_n hx hb dX5_event_124 rfl (lv_at hl 0 rfl) ?_
        refine lv_bipush (v := 84) hx hb dX5_event_125 (by decide) ?_
        refine lv_iload_n hx hb dX5_event_127 rfl (lv_at hl 1 rfl) ?_
        obtain ⟨v15, hv, h⟩ := bd1_e h
        refine g_ki (g_runV (As := [.int 84, .int x1]) (rest := []) hC hP (c5_of l hv) (by decide) ge_23 rfl u_5_229 yv_X5_of (Nat.le_of_ble_eq_true rfl) rfl hl.1 rfl (Nat.le_of_ble_eq_true rfl) dX5_event_128 ⟨by decide, by decide⟩) hS (fun H locs hP hS => ?_)
        cases h
        exact g_iret hC hP hS dX5_event_131 rfl
      rw [if_neg c8] at h
      refine lv_tableOut (tgt := 132) hx hb dX5_event_41 (tsw_0_5 c3 c4 c5 c6 c7 c8) (by decide) ?_
      refine lv_aload_n hx hb dX5_event_132 rfl (lv_at hl 0 rfl) ?_
      refine lv_bipush (v := 98) hx hb dX5_event_133 (by decide) ?_
      refine lv_iload_n hx hb dX5_event_135 rfl (lv_at hl 1 rfl) ?_
      obtain ⟨v16, hv, h⟩ := bd1_e h
      refine g_ki (g_runV (As := [.int 98, .int x1]) (rest := []) hC hP (c5_of l hv) (by decide) ge_23 rfl u_5_229 yv_X5_of (Nat.le_of_ble_eq_true rfl) rfl hl.1 rfl (Nat.le_of_ble_eq_true rfl) dX5_event_136 ⟨by decide, by decide⟩) hS (fun H locs hP hS => ?_)
      cases h
      exact g_iret hC hP hS dX5_event_139 rfl
    · rw [if_neg c2] at h
      refine lv_iconst (v := 0) hx hb dX5_event_38 (by decide) ?_
      cases h
      exact g_iret hC hP hS dX5_event_39 rfl
  refine lv_aload_n hx hb dX5_event_0 rfl (lv_at hl 0 rfl) ?_
  refine lv_aload_n hx hb dX5_event_1 rfl (lv_at hl 0 rfl) ?_
  refine lv_iload_n hx hb dX5_event_2 rfl (lv_at hl 1 rfl) ?_
  obtain ⟨v17, hv, h⟩ := bd1_e h
  refine g_ki (g_runV (As := [.int x1]) (rest := [.ref (ad γ 23)]) hC hP (c5_isEvent l hv) (by decide) ge_23 rfl u_6_71 yv_X5_isEvent (Nat.le_of_ble_eq_true rfl) rfl hl.1 rfl (Nat.le_of_ble_eq_true rfl) dX5_event_3 ⟨by decide, by decide⟩) hS (fun H locs hP hS => ?_)
  refine lv_if_ne (tgt := 13) hx hb dX5_event_6 (by decide) (fun c18 => ?_) (fun c18 => ?_)
  · rw [if_neg c18] at h
    refine lv_iload_n hx hb dX5_event_13 rfl (lv_at hl 2 rfl) ?_
    refine lv_iconst (v := 0) hx hb dX5_event_14 (by decide) ?_
    refine lv_bipush (v := 6) hx hb dX5_event_15 (by decide) ?_
    obtain ⟨v19, hv, h⟩ := bd1_e h
    refine g_ki (g_runS (As := [.int x2, .int 0, .int 6]) (rest := [.ref (ad γ 23)]) hC hP (c5_in l hv) u_5_210 yv_X5_in (Nat.le_of_ble_eq_true rfl) rfl hl.1 rfl (Nat.le_of_ble_eq_true rfl) dX5_event_17 ⟨by decide, by decide⟩) hS (fun H locs hP hS => ?_)
    refine lv_if_eq (tgt := 27) hx hb dX5_event_20 (by decide) (fun c20 => ?_) (fun c20 => ?_)
    · rw [if_pos c20] at h
      refine lv_iconst (v := 2) hx hb dX5_event_27 (by decide) ?_
      exact J28 M 2 h _ _ _ hP hS (lv_sub hl [0, 1, 2] rfl)
    · rw [if_neg c20] at h
      refine lv_iconst (v := 0) hx hb dX5_event_23 (by decide) ?_
      refine lv_goto (tgt := 28) hx hb dX5_event_24 (by decide) ?_
      exact J28 M 0 h _ _ _ hP hS (lv_sub hl [0, 1, 2] rfl)
  · rw [if_pos c18] at h
    refine lv_iconst (v := 1) hx hb dX5_event_9 (by decide) ?_
    refine lv_goto (tgt := 28) hx hb dX5_event_10 (by decide) ?_
    exact J28 M 1 h _ _ _ hP hS (lv_sub hl [0, 1, 2] rfl)
def r5_writes (M : OS) (x1 : Int32) : Option OS :=
  (wr 24 M 12 (M 13 0) x1).bind fun M1 =>
  (sw M1 13 ((M1 13 0) + 1)).bind fun M2 =>
  some M2
theorem yv_X5_writes : gYV yX5_writes cX5_writes 2 none 1 := ⟨u_6_89, u_sp_41, u_1_7, u_6_90, ⟨by decide +kernel, by decide +kernel, by decide +kernel⟩, by decide⟩
set_option maxHeartbeats 4000000 in
set_option maxRecDepth 100000 in
theorem c5_writes (l : Launch) {γ : GA} {sz : Nat} {T P X Y B M : OS} {E : Nat → OS} {O : Nat → Int64} {x1 : Int32} {Mz : OS} (h : r5_writes M x1 = some Mz) : Met l yX5_writes (gU yX5_writes cX5_writes 2 none) (gR 0 0 0) (gPc γ [.ref (ad γ 23), .int x1] sz (T, P, X, Y, E, B, M, O)) (gQv γ sz (T, P, X, Y, E, B, Mz, O)) 0 0 (gA γ sz) := by
  refine g_met (fun sz => gQv γ sz (T, P, X, Y, E, B, Mz, O)) (by decide) (Nat.le_of_ble_eq_true rfl) ?_
  intro p e s m args below meth c ls hC hP hS hl
  have hx := hC.x
  have hb := hC.b
  have hl : lv_has ls 2 [(0, .ref (ad γ 23)), (1, .int x1)] := hl
  unfold r5_writes at h
  refine lv_aload_n hx hb dX5_writes_0 rfl (lv_at hl 0 rfl) ?_
  refine g_get hC hP 12 dX5_writes_1 (by decide) ge_23 rfl inX5 (by decide) rfl u_5_166 ?_
  refine lv_aload_n hx hb dX5_writes_4 rfl (lv_at hl 0 rfl) ?_
  refine g_get hC hP 13 dX5_writes_5 (by decide) ge_23 rfl inX5 (by decide) rfl u_5_167 ?_
  refine lv_iload_n hx hb dX5_writes_8 rfl (lv_at hl 1 rfl) ?_
  obtain ⟨M1, hv, h⟩ := ob h
  refine g_st hC hP hS (fun Z => (T, P, X, Y, E, B, Z, O)) dX5_writes_9 (by decide) ge_26 gs_26 hv (fun H locs hP hS => ?_)
  refine lv_aload_n hx hb dX5_writes_10 rfl (lv_at hl 0 rfl) ?_
  refine lv_dup hx hb dX5_writes_11 rfl ?_
  refine g_get hC hP 13 dX5_writes_12 (by decide) ge_23 rfl inX5 (by decide) rfl u_5_167 ?_
  refine lv_iconst (v := 1) hx hb dX5_writes_15 (by decide) ?_
  refine lv_iadd hx hb dX5_writes_16 ?_
  obtain ⟨M2, hv, h⟩ := ob h
  refine g_putI hC hP hS (fun Z => (T, P, X, Y, E, B, Z, O)) 13 tyX5 dX5_writes_17 (by decide) ge_23 rfl inX5 tyX5_ok nmX5 (by decide) u_5_167 rfl rfl (Nat.le_of_ble_eq_true rfl) gp_23_13 hv (fun H locs hP hS => ?_)
  cases h
  exact g_vret hC hP hS dX5_writes_20
def r5_describe_j187 (M_187 : OS) (x2 : Int32) (s0_187 : Int32)  : Option (Int32 × OS) :=
  (sw M_187 0 s0_187).bind fun M1 =>
  (if (M1 0 0) = 0 then (if 0 ≤ x2 then (rd 24 (M1 12) x2).bind fun v4 =>
  some (v4, M1)
  else some ((M1 13 0), M1))
  else some (0, M1))
def r5_describe_j167 (M_167 : OS) (x2 : Int32)  : Option (Int32 × OS) :=
  bd1 (r5_in x2 (-1) ((M_167 13 0) - 1)) (fun v5 =>
  (if v5 = 0 then r5_describe_j187 M_167 x2 1
  else r5_describe_j187 M_167 x2 0))
def r5_describe_j144 (M_144 : OS) (x1 : Int32) (x2 : Int32)  : Option (Int32 × OS) :=
  bd1 (r5_of M_144 70 x1) (fun v7 =>
  (if v7 = 2 then bd1 (r5_writes M_144 42) (fun M9 =>
  bd1 (r5_writes M9 50) (fun M10 =>
  r5_describe_j167 M10 x2))
  else r5_describe_j167 M_144 x2))
def r5_describe_j133 (M_133 : OS) (x1 : Int32) (x2 : Int32) (x3_133 : Int32)  : Option (Int32 × OS) :=
  bd1 (r5_writes M_133 (48 + (im x3_133 10))) (fun M11 =>
  r5_describe_j144 M11 x1 x2)
def r5_describe_j86 (M_86 : OS) (x1 : Int32) (x2 : Int32) (x3_86 : Int32) (s0_86 : Int32)  : Option ((OS × Int32) ⊕ (OS)) :=
  bd1 (r5_writes M_86 s0_86) (fun M17 =>
  bd1 (r5_writes M17 (48 + x3_86)) (fun M18 =>
  some (.inl (M18, (x3_86 + 1)))))
def r5_describe_b47 (x1 : Int32) (x2 : Int32) (M_47 : OS) (x3_47 : Int32) : Option ((OS × Int32) ⊕ (OS)) :=
  (if 6 ≤ x3_47 then some (.inr M_47)
  else bd1 (r5_of M_47 42 x1) (fun v20 =>
  (if ((v20 >>> (x3_47 &&& 31)) &&& 1) = 0 then some (.inl (M_47, (x3_47 + 1)))
  else (if (M_47 13 0) = 1 then r5_describe_j86 M_47 x1 x2 x3_47 58
  else r5_describe_j86 M_47 x1 x2 x3_47 44))))
def r5_describe_j14 (M_14 : OS) (x1 : Int32) (x2 : Int32) (s0_14 : Int32)  : Option (Int32 × OS) :=
  (sw M_14 0 s0_14).bind fun M12 =>
  (if (M12 0 0) = 0 then (sw M12 13 0).bind fun M14 =>
  bd1 (r5_of M14 28 x1) (fun v15 =>
  bd1 (r5_writes M14 (48 + v15)) (fun M16 =>
  bd1 (it2 (r5_describe_b47 x1 x2) 200 M16 0) (fun M_x47 => bd1 (r5_of M_x47 56 x1) (fun v23 =>
  (if v23 ≤ 0 then r5_describe_j144 M_x47 x1 x2
  else bd1 (r5_writes M_x47 47) (fun M25 =>
  (if v23 ≤ 9 then r5_describe_j133 M25 x1 x2 v23
  else bd1 (r5_writes M25 49) (fun M27 =>
  r5_describe_j133 M27 x1 x2 v23))))))))
  else some (0, M12))
def r5_describe (M : OS) (x1 : Int32) (x2 : Int32) : Option (Int32 × OS) :=
  bd1 (r5_isEvent M x1) (fun v28 =>
  (if v28 = 0 then r5_describe_j14 M x1 x2 1
  else r5_describe_j14 M x1 x2 0))
theorem yv_X5_describe : gYV yX5_describe cX5_describe 4 (some .int) 2 := ⟨u_6_84, u_6_85, u_1_7, u_6_86, ⟨by decide +kernel, by decide +kernel, by decide +kernel⟩, by decide⟩
set_option maxHeartbeats 4000000 in
set_option maxRecDepth 100000 in
theorem c5_describe (l : Launch) {γ : GA} {sz : Nat} {T P X Y B M : OS} {E : Nat → OS} {O : Nat → Int64} {x1 : Int32} {x2 : Int32} {r0 : Int32} {Mz : OS} (h : r5_describe M x1 x2 = some (r0, Mz)) : Met l yX5_describe (gU yX5_describe cX5_describe 4 (some .int)) (gR 2 0 0) (gPc γ [.ref (ad γ 23), .int x1, .int x2] sz (T, P, X, Y, E, B, M, O)) (gQi γ r0 sz (T, P, X, Y, E, B, Mz, O)) 0 0 (gA γ sz) := by
  refine g_met (fun sz => gQi γ r0 sz (T, P, X, Y, E, B, Mz, O)) (by decide) (Nat.le_of_ble_eq_true rfl) ?_
  intro p e s m args below meth c ls hC hP hS hl
  have hx := hC.x
  have hb := hC.b
  have hl : lv_has ls 4 [(0, .ref (ad γ 23)), (1, .int x1), (2, .int x2)] := hl
  unfold r5_describe at h
  have J187 : ∀ (M_187 : OS) (s0_187 : Int32) (h : r5_describe_j187 M_187 x2 s0_187 = some (r0, Mz)), ∀ (H : Heap) (locs : List Loc) (ls : Array Slot), va_P γ.1 vwCl (gw γ (T, P, X, Y, E, B, M_187, O)) H → va_S (gA γ s.heap.size) s.heap H locs → lv_has ls 4 [(0, .ref (ad γ 23)), (2, .int x2)] → W p l e (gR 2 0 0) s m args below meth c H locs 0 0 (MQ below (gQi γ r0 s.heap.size (T, P, X, Y, E, B, Mz, O)) args s 0 0 (gA γ s.heap.size)) (F0 m 187 ls [.int s0_187, .ref (ad γ 23)]) := by
    intro M_187 s0_187 h H locs ls hP hS hl
    unfold r5_describe_j187 at h
    obtain ⟨M1, hv, h⟩ := ob h
    refine g_putI hC hP hS (fun Z => (T, P, X, Y, E, B, Z, O)) 0 tyX5 dX5_describe_187 (by decide) ge_23 rfl inX5 tyX5_ok nmX5 (by decide) u_5_154 rfl rfl (Nat.le_of_ble_eq_true rfl) gp_23_0 hv (fun H locs hP hS => ?_)
    refine lv_aload_n hx hb dX5_describe_190 rfl (lv_at hl 0 rfl) ?_
    refine g_get hC hP 0 dX5_describe_191 (by decide) ge_23 rfl inX5 (by decide) rfl u_5_154 ?_
    refine lv_if_eq (tgt := 201) hx hb dX5_describe_194 (by decide) (fun c2 => ?_) (fun c2 => ?_)
    · rw [if_pos c2] at h
      refine lv_iload_n hx hb dX5_describe_201 rfl (lv_at hl 1 rfl) ?_
      refine lv_if_ge (tgt := 212) hx hb dX5_describe_202 (by decide) (fun c3 => ?_) (fun c3 => ?_)
      · rw [if_pos c3] at h
        refine lv_aload_n hx hb dX5_describe_212 rfl (lv_at hl 0 rfl) ?_
        refine g_get hC hP 12 dX5_describe_213 (by decide) ge_23 rfl inX5 (by decide) rfl u_5_166 ?_
        refine lv_iload_n hx hb dX5_describe_216 rfl (lv_at hl 1 rfl) ?_
        obtain ⟨v4, hv, h⟩ := ob h
        refine g_ld hC hP dX5_describe_217 (by decide) ge_26 hv ?_
        cases h
        exact g_iret hC hP hS dX5_describe_218 rfl
      · rw [if_neg c3] at h
        refine lv_aload_n hx hb dX5_describe_205 rfl (lv_at hl 0 rfl) ?_
        refine g_get hC hP 13 dX5_describe_206 (by decide) ge_23 rfl inX5 (by decide) rfl u_5_167 ?_
        refine lv_goto (tgt := 218) hx hb dX5_describe_209 (by decide) ?_
        cases h
        exact g_iret hC hP hS dX5_describe_218 rfl
    · rw [if_neg c2] at h
      refine lv_iconst (v := 0) hx hb dX5_describe_197 (by decide) ?_
      refine lv_goto (tgt := 218) hx hb dX5_describe_198 (by decide) ?_
      cases h
      exact g_iret hC hP hS dX5_describe_218 rfl
  have J167 : ∀ (M_167 : OS) (h : r5_describe_j167 M_167 x2 = some (r0, Mz)), ∀ (H : Heap) (locs : List Loc) (ls : Array Slot), va_P γ.1 vwCl (gw γ (T, P, X, Y, E, B, M_167, O)) H → va_S (gA γ s.heap.size) s.heap H locs → lv_has ls 4 [(0, .ref (ad γ 23)), (2, .int x2)] → W p l e (gR 2 0 0) s m args below meth c H locs 0 0 (MQ below (gQi γ r0 s.heap.size (T, P, X, Y, E, B, Mz, O)) args s 0 0 (gA γ s.heap.size)) (F0 m 167 ls []) := by
    intro M_167 h H locs ls hP hS hl
    unfold r5_describe_j167 at h
    refine lv_aload_n hx hb dX5_describe_167 rfl (lv_at hl 0 rfl) ?_
    refine lv_iload_n hx hb dX5_describe_168 rfl (lv_at hl 1 rfl) ?_
    refine lv_iconst (v := -1) hx hb dX5_describe_169 (by decide) ?_
    refine lv_aload_n hx hb dX5_describe_170 rfl (lv_at hl 0 rfl) ?_
    refine g_get hC hP 13 dX5_describe_171 (by decide) ge_23 rfl inX5 (by decide) rfl u_5_167 ?_
    refine lv_iconst (v := 1) hx hb dX5_describe_174 (by decide) ?_
    refine lv_isub hx hb dX5_describe_175 ?_
    obtain ⟨v5, hv, h⟩ := bd1_e h
    refine g_ki (g_runS (As := [.int x2, .int (-1), .int ((M_167 13 0) - 1)]) (rest := [.ref (ad γ 23)]) hC hP (c5_in l hv) u_5_210 yv_X5_in (Nat.le_of_ble_eq_true rfl) rfl hl.1 rfl (Nat.le_of_ble_eq_true rfl) dX5_describe_176 ⟨by decide, by decide⟩) hS (fun H locs hP hS => ?_)
    refine lv_if_eq (tgt := 186) hx hb dX5_describe_179 (by decide) (fun c6 => ?_) (fun c6 => ?_)
    · rw [if_pos c6] at h
      refine lv_iconst (v := 1) hx hb dX5_describe_186 (by decide) ?_
      exact J187 M_167 1 h _ _ _ hP hS (lv_sub hl [0, 1] rfl)
    · rw [if_neg c6] at h
      refine lv_iconst (v := 0) hx hb dX5_describe_182 (by decide) ?_
      refine lv_goto (tgt := 187) hx hb dX5_describe_183 (by decide) ?_
      exact J187 M_167 0 h _ _ _ hP hS (lv_sub hl [0, 1] rfl)
  have J144 : ∀ (M_144 : OS) (h : r5_describe_j144 M_144 x1 x2 = some (r0, Mz)), ∀ (H : Heap) (locs : List Loc) (ls : Array Slot), va_P γ.1 vwCl (gw γ (T, P, X, Y, E, B, M_144, O)) H → va_S (gA γ s.heap.size) s.heap H locs → lv_has ls 4 [(0, .ref (ad γ 23)), (1, .int x1), (2, .int x2)] → W p l e (gR 2 0 0) s m args below meth c H locs 0 0 (MQ below (gQi γ r0 s.heap.size (T, P, X, Y, E, B, Mz, O)) args s 0 0 (gA γ s.heap.size)) (F0 m 144 ls []) := by
    intro M_144 h H locs ls hP hS hl
    unfold r5_describe_j144 at h
    refine lv_aload_n hx hb dX5_describe_144 rfl (lv_at hl 0 rfl) ?_
    refine lv_bipush (v := 70) hx hb dX5_describe_145 (by decide) ?_
    refine lv_iload_n hx hb dX5_describe_147 rfl (lv_at hl 1 rfl) ?_
    obtain ⟨v7, hv, h⟩ := bd1_e h
    refine g_ki (g_runV (As := [.int 70, .int x1]) (rest := []) hC hP (c5_of l hv) (by decide) ge_23 rfl u_5_229 yv_X5_of (Nat.le_of_ble_eq_true rfl) rfl hl.1 rfl (Nat.le_of_ble_eq_true rfl) dX5_describe_148 ⟨by decide, by decide⟩) hS (fun H locs hP hS => ?_)
    refine lv_iconst (v := 2) hx hb dX5_describe_151 (by decide) ?_
    refine lv_icmp_ne (tgt := 167) hx hb dX5_describe_152 (by decide) (fun c8 => ?_) (fun c8 => ?_)
    · rw [if_neg c8] at h
      exact J167 M_144 h _ _ _ hP hS (lv_sub hl [0, 2] rfl)
    · rw [if_pos c8] at h
      refine lv_aload_n hx hb dX5_describe_155 rfl (lv_at hl 0 rfl) ?_
      refine lv_bipush (v := 42) hx hb dX5_describe_156 (by decide) ?_
      obtain ⟨M9, hv, h⟩ := bd1_e h
      refine g_kv (g_runV (As := [.int 42]) (rest := []) hC hP (c5_writes l hv) (by decide) ge_23 rfl u_6_87 yv_X5_writes (Nat.le_of_ble_eq_true rfl) rfl hl.1 rfl (Nat.le_of_ble_eq_true rfl) dX5_describe_158 ⟨by decide, by decide⟩) hS (fun H locs hP hS => ?_)
      refine lv_aload_n hx hb dX5_describe_161 rfl (lv_at hl 0 rfl) ?_
      refine lv_bipush (v := 50) hx hb dX5_describe_162 (by decide) ?_
      obtain ⟨M10, hv, h⟩ := bd1_e h
      refine g_kv (g_runV (As := [.int 50]) (rest := []) hC hP (c5_writes l hv) (by decide) ge_23 rfl u_6_87 yv_X5_writes (Nat.le_of_ble_eq_true rfl) rfl hl.1 rfl (Nat.le_of_ble_eq_true rfl) dX5_describe_164 ⟨by decide, by decide⟩) hS (fun H locs hP hS => ?_)
      exact J167 M10 h _ _ _ hP hS (lv_sub hl [0, 2] rfl)
  have J133 : ∀ (M_133 : OS) (x3_133 : Int32) (h : r5_describe_j133 M_133 x1 x2 x3_133 = some (r0, Mz)), ∀ (H : Heap) (locs : List Loc) (ls : Array Slot), va_P γ.1 vwCl (gw γ (T, P, X, Y, E, B, M_133, O)) H → va_S (gA γ s.heap.size) s.heap H locs → lv_has ls 4 [(0, .ref (ad γ 23)), (1, .int x1), (2, .int x2), (3, .int x3_133)] → W p l e (gR 2 0 0) s m args below meth c H locs 0 0 (MQ below (gQi γ r0 s.heap.size (T, P, X, Y, E, B, Mz, O)) args s 0 0 (gA γ s.heap.size)) (F0 m 133 ls []) := by
    intro M_133 x3_133 h H locs ls hP hS hl
    unfold r5_describe_j133 at h
    refine lv_aload_n hx hb dX5_describe_133 rfl (lv_at hl 0 rfl) ?_
    refine lv_bipush (v := 48) hx hb dX5_describe_134 (by decide) ?_
    refine lv_iload_n hx hb dX5_describe_136 rfl (lv_at hl 3 rfl) ?_
    refine lv_bipush (v := 10) hx hb dX5_describe_137 (by decide) ?_
    refine lv_irem hx hb dX5_describe_139 (by decide) ?_
    refine lv_iadd hx hb dX5_describe_140 ?_
    obtain ⟨M11, hv, h⟩ := bd1_e h
    refine g_kv (g_runV (As := [.int (48 + (im x3_133 10))]) (rest := []) hC hP (c5_writes l hv) (by decide) ge_23 rfl u_6_87 yv_X5_writes (Nat.le_of_ble_eq_true rfl) rfl hl.1 rfl (Nat.le_of_ble_eq_true rfl) dX5_describe_141 ⟨by decide, by decide⟩) hS (fun H locs hP hS => ?_)
    exact J144 M11 h _ _ _ hP hS (lv_sub hl [0, 1, 2] rfl)
  have J14 : ∀ (M_14 : OS) (s0_14 : Int32) (h : r5_describe_j14 M_14 x1 x2 s0_14 = some (r0, Mz)), ∀ (H : Heap) (locs : List Loc) (ls : Array Slot), va_P γ.1 vwCl (gw γ (T, P, X, Y, E, B, M_14, O)) H → va_S (gA γ s.heap.size) s.heap H locs → lv_has ls 4 [(0, .ref (ad γ 23)), (1, .int x1), (2, .int x2)] → W p l e (gR 2 0 0) s m args below meth c H locs 0 0 (MQ below (gQi γ r0 s.heap.size (T, P, X, Y, E, B, Mz, O)) args s 0 0 (gA γ s.heap.size)) (F0 m 14 ls [.int s0_14, .ref (ad γ 23)]) := by
    intro M_14 s0_14 h H locs ls hP hS hl
    unfold r5_describe_j14 at h
    obtain ⟨M12, hv, h⟩ := ob h
    refine g_putI hC hP hS (fun Z => (T, P, X, Y, E, B, Z, O)) 0 tyX5 dX5_describe_14 (by decide) ge_23 rfl inX5 tyX5_ok nmX5 (by decide) u_5_154 rfl rfl (Nat.le_of_ble_eq_true rfl) gp_23_0 hv (fun H locs hP hS => ?_)
    refine lv_aload_n hx hb dX5_describe_17 rfl (lv_at hl 0 rfl) ?_
    refine g_get hC hP 0 dX5_describe_18 (by decide) ge_23 rfl inX5 (by decide) rfl u_5_154 ?_
    refine lv_if_eq (tgt := 26) hx hb dX5_describe_21 (by decide) (fun c13 => ?_) (fun c13 => ?_)
    · rw [if_pos c13] at h
      refine lv_aload_n hx hb dX5_describe_26 rfl (lv_at hl 0 rfl) ?_
      refine lv_iconst (v := 0) hx hb dX5_describe_27 (by decide) ?_
      obtain ⟨M14, hv, h⟩ := ob h
      refine g_putI hC hP hS (fun Z => (T, P, X, Y, E, B, Z, O)) 13 tyX5 dX5_describe_28 (by decide) ge_23 rfl inX5 tyX5_ok nmX5 (by decide) u_5_167 rfl rfl (Nat.le_of_ble_eq_true rfl) gp_23_13 hv (fun H locs hP hS => ?_)
      refine lv_aload_n hx hb dX5_describe_31 rfl (lv_at hl 0 rfl) ?_
      refine lv_bipush (v := 48) hx hb dX5_describe_32 (by decide) ?_
      refine lv_aload_n hx hb dX5_describe_34 rfl (lv_at hl 0 rfl) ?_
      refine lv_bipush (v := 28) hx hb dX5_describe_35 (by decide) ?_
      refine lv_iload_n hx hb dX5_describe_37 rfl (lv_at hl 1 rfl) ?_
      obtain ⟨v15, hv, h⟩ := bd1_e h
      refine g_ki (g_runV (As := [.int 28, .int x1]) (rest := [.int 48, .ref (ad γ 23)]) hC hP (c5_of l hv) (by decide) ge_23 rfl u_5_229 yv_X5_of (Nat.le_of_ble_eq_true rfl) rfl hl.1 rfl (Nat.le_of_ble_eq_true rfl) dX5_describe_38 ⟨by decide, by decide⟩) hS (fun H locs hP hS => ?_)
      refine lv_iadd hx hb dX5_describe_41 ?_
      obtain ⟨M16, hv, h⟩ := bd1_e h
      refine g_kv (g_runV (As := [.int (48 + v15)]) (rest := []) hC hP (c5_writes l hv) (by decide) ge_23 rfl u_6_87 yv_X5_writes (Nat.le_of_ble_eq_true rfl) rfl hl.1 rfl (Nat.le_of_ble_eq_true rfl) dX5_describe_42 ⟨by decide, by decide⟩) hS (fun H locs hP hS => ?_)
      refine lv_iconst (v := 0) hx hb dX5_describe_45 (by decide) ?_
      refine lv_istore_n (lv' := [(3, .int 0), (0, .ref (ad γ 23)), (1, .int x1), (2, .int x2)]) hx hb dX5_describe_46 rfl hl (by decide) rfl (fun ls hl => ?_)
      have L47 := it2_W (r5_describe_b47 x1 x2) (fun (M_47 : OS) (x3_47 : Int32) => ∀ (H : Heap) (locs : List Loc) (ls : Array Slot), va_P γ.1 vwCl (gw γ (T, P, X, Y, E, B, M_47, O)) H → va_S (gA γ s.heap.size) s.heap H locs → lv_has ls 4 [(0, .ref (ad γ 23)), (1, .int x1), (2, .int x2), (3, .int x3_47)] → W p l e (gR 2 0 0) s m args below meth c H locs 0 0 (MQ below (gQi γ r0 s.heap.size (T, P, X, Y, E, B, Mz, O)) args s 0 0 (gA γ s.heap.size)) (F0 m 47 ls [])) (fun (r_k : OS) => (∀ (M_x47 : OS), r_k = M_x47 → ∀ (H : Heap) (locs : List Loc) (ls : Array Slot), va_P γ.1 vwCl (gw γ (T, P, X, Y, E, B, M_x47, O)) H → va_S (gA γ s.heap.size) s.heap H locs → lv_has ls 4 [(0, .ref (ad γ 23)), (1, .int x1), (2, .int x2)] → W p l e (gR 2 0 0) s m args below meth c H locs 0 0 (MQ below (gQi γ r0 s.heap.size (T, P, X, Y, E, B, Mz, O)) args s 0 0 (gA γ s.heap.size)) (F0 m 103 ls []))) (by
        intro M_47 x3_47 o_47 h kS kR H locs ls hP hS hl
        unfold r5_describe_b47 at h
        have J86 : ∀ (M_86 : OS) (x3_86 : Int32) (s0_86 : Int32) (h : r5_describe_j86 M_86 x1 x2 x3_86 s0_86 = some o_47), ∀ (H : Heap) (locs : List Loc) (ls : Array Slot), va_P γ.1 vwCl (gw γ (T, P, X, Y, E, B, M_86, O)) H → va_S (gA γ s.heap.size) s.heap H locs → lv_has ls 4 [(0, .ref (ad γ 23)), (1, .int x1), (2, .int x2), (3, .int x3_86)] → W p l e (gR 2 0 0) s m args below meth c H locs 0 0 (MQ below (gQi γ r0 s.heap.size (T, P, X, Y, E, B, Mz, O)) args s 0 0 (gA γ s.heap.size)) (F0 m 86 ls [.int s0_86, .ref (ad γ 23)]) := by
          intro M_86 x3_86 s0_86 h H locs ls hP hS hl
          unfold r5_describe_j86 at h
          obtain ⟨M17, hv, h⟩ := bd1_e h
          refine g_kv (g_runV (As := [.int s0_86]) (rest := []) hC hP (c5_writes l hv) (by decide) ge_23 rfl u_6_87 yv_X5_writes (Nat.le_of_ble_eq_true rfl) rfl hl.1 rfl (Nat.le_of_ble_eq_true rfl) dX5_describe_86 ⟨by decide, by decide⟩) hS (fun H locs hP hS => ?_)
          refine lv_aload_n hx hb dX5_describe_89 rfl (lv_at hl 0 rfl) ?_
          refine lv_bipush (v := 48) hx hb dX5_describe_90 (by decide) ?_
          refine lv_iload_n hx hb dX5_describe_92 rfl (lv_at hl 3 rfl) ?_
          refine lv_iadd hx hb dX5_describe_93 ?_
          obtain ⟨M18, hv, h⟩ := bd1_e h
          refine g_kv (g_runV (As := [.int (48 + x3_86)]) (rest := []) hC hP (c5_writes l hv) (by decide) ge_23 rfl u_6_87 yv_X5_writes (Nat.le_of_ble_eq_true rfl) rfl hl.1 rfl (Nat.le_of_ble_eq_true rfl) dX5_describe_94 ⟨by decide, by decide⟩) hS (fun H locs hP hS => ?_)
          refine lv_iinc (v := (x3_86 + 1)) (lv' := [(3, .int (x3_86 + 1)), (0, .ref (ad γ 23)), (1, .int x1), (2, .int x2)]) hx hb dX5_describe_97 hl (k := 3) rfl rfl (by decide) rfl (fun ls hl => ?_)
          refine lv_goto (tgt := 47) hx hb dX5_describe_100 (by decide) ?_
          cases h
          exact kS _ _ rfl _ _ _ hP hS (lv_sub hl [1, 2, 3, 0] rfl)
        refine lv_iload_n hx hb dX5_describe_47 rfl (lv_at hl 3 rfl) ?_
        refine lv_bipush (v := 6) hx hb dX5_describe_48 (by decide) ?_
        refine lv_icmp_ge (tgt := 103) hx hb dX5_describe_50 (by decide) (fun c19 => ?_) (fun c19 => ?_)
        · rw [if_pos c19] at h
          cases h
          exact kR _ rfl _ rfl _ _ _ hP hS (lv_sub hl [0, 1, 2] rfl)
        · rw [if_neg c19] at h
          refine lv_aload_n hx hb dX5_describe_53 rfl (lv_at hl 0 rfl) ?_
          refine lv_bipush (v := 42) hx hb dX5_describe_54 (by decide) ?_
          refine lv_iload_n hx hb dX5_describe_56 rfl (lv_at hl 1 rfl) ?_
          obtain ⟨v20, hv, h⟩ := bd1_e h
          refine g_ki (g_runV (As := [.int 42, .int x1]) (rest := []) hC hP (c5_of l hv) (by decide) ge_23 rfl u_5_229 yv_X5_of (Nat.le_of_ble_eq_true rfl) rfl hl.1 rfl (Nat.le_of_ble_eq_true rfl) dX5_describe_57 ⟨by decide, by decide⟩) hS (fun H locs hP hS => ?_)
          refine lv_iload_n hx hb dX5_describe_60 rfl (lv_at hl 3 rfl) ?_
          refine lv_ishr hx hb dX5_describe_61 ?_
          refine lv_iconst (v := 1) hx hb dX5_describe_62 (by decide) ?_
          refine lv_iand hx hb dX5_describe_63 ?_
          refine lv_if_ne (tgt := 70) hx hb dX5_describe_64 (by decide) (fun c21 => ?_) (fun c21 => ?_)
          · rw [if_neg c21] at h
            refine lv_aload_n hx hb dX5_describe_70 rfl (lv_at hl 0 rfl) ?_
            refine lv_aload_n hx hb dX5_describe_71 rfl (lv_at hl 0 rfl) ?_
            refine g_get hC hP 13 dX5_describe_72 (by decide) ge_23 rfl inX5 (by decide) rfl u_5_167 ?_
            refine lv_iconst (v := 1) hx hb dX5_describe_75 (by decide) ?_
            refine lv_icmp_ne (tgt := 84) hx hb dX5_describe_76 (by decide) (fun c22 => ?_) (fun c22 => ?_)
            · rw [if_neg c22] at h
              refine lv_bipush (v := 44) hx hb dX5_describe_84 (by decide) ?_
              exact J86 M_47 x3_47 44 h _ _ _ hP hS (lv_sub hl [0, 1, 2, 3] rfl)
            · rw [if_pos c22] at h
              refine lv_bipush (v := 58) hx hb dX5_describe_79 (by decide) ?_
              refine lv_goto (tgt := 86) hx hb dX5_describe_81 (by decide) ?_
              exact J86 M_47 x3_47 58 h _ _ _ hP hS (lv_sub hl [0, 1, 2, 3] rfl)
          · rw [if_pos c21] at h
            refine lv_goto (tgt := 97) hx hb dX5_describe_67 (by decide) ?_
            refine lv_iinc (v := (x3_47 + 1)) (lv' := [(3, .int (x3_47 + 1)), (0, .ref (ad γ 23)), (1, .int x1), (2, .int x2)]) hx hb dX5_describe_97 hl (k := 3) rfl rfl (by decide) rfl (fun ls hl => ?_)
            refine lv_goto (tgt := 47) hx hb dX5_describe_100 (by decide) ?_
            cases h
            exact kS _ _ rfl _ _ _ hP hS (lv_sub hl [1, 2, 3, 0] rfl))
      obtain ⟨M_x47, hv, h⟩ := bd1_e h
      refine L47 _ _ _ _ hv (fun q0 e9 H locs ls hP hS hl => ?_) _ _ _ hP hS (lv_sub hl [1, 2, 3, 0] rfl)
      obtain rfl := e9
      refine lv_aload_n hx hb dX5_describe_103 rfl (lv_at hl 0 rfl) ?_
      refine lv_bipush (v := 56) hx hb dX5_describe_104 (by decide) ?_
      refine lv_iload_n hx hb dX5_describe_106 rfl (lv_at hl 1 rfl) ?_
      obtain ⟨v23, hv, h⟩ := bd1_e h
      refine g_ki (g_runV (As := [.int 56, .int x1]) (rest := []) hC hP (c5_of l hv) (by decide) ge_23 rfl u_5_229 yv_X5_of (Nat.le_of_ble_eq_true rfl) rfl hl.1 rfl (Nat.le_of_ble_eq_true rfl) dX5_describe_107 ⟨by decide, by decide⟩) hS (fun H locs hP hS => ?_)
      refine lv_istore_n (lv' := [(3, .int v23), (0, .ref (ad γ 23)), (1, .int x1), (2, .int x2)]) hx hb dX5_describe_110 rfl hl (by decide) rfl (fun ls hl => ?_)
      refine lv_iload_n hx hb dX5_describe_111 rfl (lv_at hl 0 rfl) ?_
      refine lv_if_le (tgt := 144) hx hb dX5_describe_112 (by decide) (fun c24 => ?_) (fun c24 => ?_)
      · rw [if_pos c24] at h
        exact J144 M_x47 h _ _ _ hP hS (lv_sub hl [1, 2, 3] rfl)
      · rw [if_neg c24] at h
        refine lv_aload_n hx hb dX5_describe_115 rfl (lv_at hl 1 rfl) ?_
        refine lv_bipush (v := 47) hx hb dX5_describe_116 (by decide) ?_
        obtain ⟨M25, hv, h⟩ := bd1_e h
        refine g_kv (g_runV (As := [.int 47]) (rest := []) hC hP (c5_writes l hv) (by decide) ge_23 rfl u_6_87 yv_X5_writes (Nat.le_of_ble_eq_true rfl) rfl hl.1 rfl (Nat.le_of_ble_eq_true rfl) dX5_describe_118 ⟨by decide, by decide⟩) hS (fun H locs hP hS => ?_)
        refine lv_iload_n hx hb dX5_describe_121 rfl (lv_at hl 0 rfl) ?_
        refine lv_bipush (v := 9) hx hb dX5_describe_122 (by decide) ?_
        refine lv_icmp_le (tgt := 133) hx hb dX5_describe_124 (by decide) (fun c26 => ?_) (fun c26 => ?_)
        · rw [if_pos c26] at h
          exact J133 M25 v23 h _ _ _ hP hS (lv_sub hl [1, 2, 3, 0] rfl)
        · rw [if_neg c26] at h
          refine lv_aload_n hx hb dX5_describe_127 rfl (lv_at hl 1 rfl) ?_
          refine lv_bipush (v := 49) hx hb dX5_describe_128 (by decide) ?_
          obtain ⟨M27, hv, h⟩ := bd1_e h
          refine g_kv (g_runV (As := [.int 49]) (rest := []) hC hP (c5_writes l hv) (by decide) ge_23 rfl u_6_87 yv_X5_writes (Nat.le_of_ble_eq_true rfl) rfl hl.1 rfl (Nat.le_of_ble_eq_true rfl) dX5_describe_130 ⟨by decide, by decide⟩) hS (fun H locs hP hS => ?_)
          exact J133 M27 v23 h _ _ _ hP hS (lv_sub hl [1, 2, 3, 0] rfl)
    · rw [if_neg c13] at h
      refine lv_iconst (v := 0) hx hb dX5_describe_24 (by decide) ?_
      cases h
      exact g_iret hC hP hS dX5_describe_25 rfl
  refine lv_aload_n hx hb dX5_describe_0 rfl (lv_at hl 0 rfl) ?_
  refine lv_aload_n hx hb dX5_describe_1 rfl (lv_at hl 0 rfl) ?_
  refine lv_iload_n hx hb dX5_describe_2 rfl (lv_at hl 1 rfl) ?_
  obtain ⟨v28, hv, h⟩ := bd1_e h
  refine g_ki (g_runV (As := [.int x1]) (rest := [.ref (ad γ 23)]) hC hP (c5_isEvent l hv) (by decide) ge_23 rfl u_6_71 yv_X5_isEvent (Nat.le_of_ble_eq_true rfl) rfl hl.1 rfl (Nat.le_of_ble_eq_true rfl) dX5_describe_3 ⟨by decide, by decide⟩) hS (fun H locs hP hS => ?_)
  refine lv_if_eq (tgt := 13) hx hb dX5_describe_6 (by decide) (fun c29 => ?_) (fun c29 => ?_)
  · rw [if_pos c29] at h
    refine lv_iconst (v := 1) hx hb dX5_describe_13 (by decide) ?_
    exact J14 M 1 h _ _ _ hP hS (lv_sub hl [0, 1, 2] rfl)
  · rw [if_neg c29] at h
    refine lv_iconst (v := 0) hx hb dX5_describe_9 (by decide) ?_
    refine lv_goto (tgt := 14) hx hb dX5_describe_10 (by decide) ?_
    exact J14 M 0 h _ _ _ hP hS (lv_sub hl [0, 1, 2] rfl)
def r5_isPlace (x0 : Int32) : Option Int32 :=
  bd1 (r5_in x0 0 59) (fun v1 =>
  (zz v1).bind fun v2 =>
  some v2)
theorem yv_X5_isPlace : gYS yX5_isPlace cX5_isPlace 1 (some .boolean) 1 := ⟨u_6_96, u_1_7, u_6_97, ⟨by decide +kernel, by decide +kernel, by decide +kernel⟩, by decide⟩
set_option maxHeartbeats 4000000 in
set_option maxRecDepth 100000 in
theorem c5_isPlace (l : Launch) {γ : GA} {sz : Nat} {T P X Y B M : OS} {E : Nat → OS} {O : Nat → Int64} {x0 : Int32} {r0 : Int32} (h : r5_isPlace x0 = some r0) : Met l yX5_isPlace (gU yX5_isPlace cX5_isPlace 1 (some .boolean)) (gR 1 0 0) (gPc γ [.int x0] sz (T, P, X, Y, E, B, M, O)) (gQi γ r0 sz (T, P, X, Y, E, B, M, O)) 0 0 (gA γ sz) := by
  refine g_met (fun sz => gQi γ r0 sz (T, P, X, Y, E, B, M, O)) (by decide) (Nat.le_of_ble_eq_true rfl) ?_
  intro p e s m args below meth c ls hC hP hS hl
  have hx := hC.x
  have hb := hC.b
  have hl : lv_has ls 1 [(0, .int x0)] := hl
  unfold r5_isPlace at h
  refine lv_iload_n hx hb dX5_isPlace_0 rfl (lv_at hl 0 rfl) ?_
  refine lv_iconst (v := 0) hx hb dX5_isPlace_1 (by decide) ?_
  refine lv_bipush (v := 59) hx hb dX5_isPlace_2 (by decide) ?_
  obtain ⟨v1, hv, h⟩ := bd1_e h
  refine g_ki (g_runS (As := [.int x0, .int 0, .int 59]) (rest := []) hC hP (c5_in l hv) u_5_210 yv_X5_in (Nat.le_of_ble_eq_true rfl) rfl hl.1 rfl (Nat.le_of_ble_eq_true rfl) dX5_isPlace_4 ⟨by decide, by decide⟩) hS (fun H locs hP hS => ?_)
  obtain ⟨v2, hz, h⟩ := ob h
  cases h
  exact g_zret hC hP hS dX5_isPlace_7 hz rfl
def r5_place_j49 (M_49 : OS) (x1 : Int32) (x2 : Int32) (s0_49 : Int32)  : Option (Int32 × OS) :=
  (sw M_49 0 s0_49).bind fun M1 =>
  (if (M1 0 0) = 0 then bd1 (r5_keeps M1) (fun M3 =>
  bd1 (r5_of M3 84 x1) (fun v4 =>
  bd1 (r5_lays M3 x1 x2) (fun M5 =>
  some (v4, M5))))
  else some (0, M1))
def r5_place (M : OS) (x1 : Int32) (x2 : Int32) : Option (Int32 × OS) :=
  bd1 (r5_isEvent M x1) (fun v6 =>
  (if v6 = 0 then r5_place_j49 M x1 x2 1
  else bd1 (r5_isPlace x2) (fun v8 =>
  (if v8 = 0 then r5_place_j49 M x1 x2 1
  else bd1 (r5_of M 98 x1) (fun v10 =>
  (if v10 = 1 then r5_place_j49 M x1 x2 2
  else bd1 (r5_obstacleOf M x1 x2) (fun v12 =>
  (if v12 = 0 then r5_place_j49 M x1 x2 0
  else r5_place_j49 M x1 x2 3))))))))
theorem yv_X5_place : gYV yX5_place cX5_place 4 (some .int) 2 := ⟨u_6_92, u_6_93, u_1_7, u_6_94, ⟨by decide +kernel, by decide +kernel, by decide +kernel⟩, by decide⟩
set_option maxHeartbeats 4000000 in
set_option maxRecDepth 100000 in
theorem c5_place (l : Launch) {γ : GA} {sz : Nat} {T P X Y B M : OS} {E : Nat → OS} {O : Nat → Int64} {x1 : Int32} {x2 : Int32} {r0 : Int32} {Mz : OS} (h : r5_place M x1 x2 = some (r0, Mz)) : Met l yX5_place (gU yX5_place cX5_place 4 (some .int)) (gR 5 0 0) (gPc γ [.ref (ad γ 23), .int x1, .int x2] sz (T, P, X, Y, E, B, M, O)) (gQi γ r0 sz (T, P, X, Y, E, B, Mz, O)) 0 0 (gA γ sz) := by
  refine g_met (fun sz => gQi γ r0 sz (T, P, X, Y, E, B, Mz, O)) (by decide) (Nat.le_of_ble_eq_true rfl) ?_
  intro p e s m args below meth c ls hC hP hS hl
  have hx := hC.x
  have hb := hC.b
  have hl : lv_has ls 4 [(0, .ref (ad γ 23)), (1, .int x1), (2, .int x2)] := hl
  unfold r5_place at h
  have J49 : ∀ (M_49 : OS) (s0_49 : Int32) (h : r5_place_j49 M_49 x1 x2 s0_49 = some (r0, Mz)), ∀ (H : Heap) (locs : List Loc) (ls : Array Slot), va_P γ.1 vwCl (gw γ (T, P, X, Y, E, B, M_49, O)) H → va_S (gA γ s.heap.size) s.heap H locs → lv_has ls 4 [(0, .ref (ad γ 23)), (1, .int x1), (2, .int x2)] → W p l e (gR 5 0 0) s m args below meth c H locs 0 0 (MQ below (gQi γ r0 s.heap.size (T, P, X, Y, E, B, Mz, O)) args s 0 0 (gA γ s.heap.size)) (F0 m 49 ls [.int s0_49, .ref (ad γ 23)]) := by
    intro M_49 s0_49 h H locs ls hP hS hl
    unfold r5_place_j49 at h
    obtain ⟨M1, hv, h⟩ := ob h
    refine g_putI hC hP hS (fun Z => (T, P, X, Y, E, B, Z, O)) 0 tyX5 dX5_place_49 (by decide) ge_23 rfl inX5 tyX5_ok nmX5 (by decide) u_5_154 rfl rfl (Nat.le_of_ble_eq_true rfl) gp_23_0 hv (fun H locs hP hS => ?_)
    refine lv_aload_n hx hb dX5_place_52 rfl (lv_at hl 0 rfl) ?_
    refine g_get hC hP 0 dX5_place_53 (by decide) ge_23 rfl inX5 (by decide) rfl u_5_154 ?_
    refine lv_if_eq (tgt := 61) hx hb dX5_place_56 (by decide) (fun c2 => ?_) (fun c2 => ?_)
    · rw [if_pos c2] at h
      refine lv_aload_n hx hb dX5_place_61 rfl (lv_at hl 0 rfl) ?_
      obtain ⟨M3, hv, h⟩ := bd1_e h
      refine g_kv (g_runV (As := []) (rest := []) hC hP (c5_keeps l hv) (by decide) ge_23 rfl u_5_213 yv_X5_keeps (Nat.le_of_ble_eq_true rfl) rfl hl.1 rfl (Nat.le_of_ble_eq_true rfl) dX5_place_62 ⟨by decide, by decide⟩) hS (fun H locs hP hS => ?_)
      refine lv_aload_n hx hb dX5_place_65 rfl (lv_at hl 0 rfl) ?_
      refine lv_bipush (v := 84) hx hb dX5_place_66 (by decide) ?_
      refine lv_iload_n hx hb dX5_place_68 rfl (lv_at hl 1 rfl) ?_
      obtain ⟨v4, hv, h⟩ := bd1_e h
      refine g_ki (g_runV (As := [.int 84, .int x1]) (rest := []) hC hP (c5_of l hv) (by decide) ge_23 rfl u_5_229 yv_X5_of (Nat.le_of_ble_eq_true rfl) rfl hl.1 rfl (Nat.le_of_ble_eq_true rfl) dX5_place_69 ⟨by decide, by decide⟩) hS (fun H locs hP hS => ?_)
      refine lv_istore_n (lv' := [(3, .int v4), (0, .ref (ad γ 23)), (1, .int x1), (2, .int x2)]) hx hb dX5_place_72 rfl hl (by decide) rfl (fun ls hl => ?_)
      refine lv_aload_n hx hb dX5_place_73 rfl (lv_at hl 1 rfl) ?_
      refine lv_iload_n hx hb dX5_place_74 rfl (lv_at hl 2 rfl) ?_
      refine lv_iload_n hx hb dX5_place_75 rfl (lv_at hl 3 rfl) ?_
      obtain ⟨M5, hv, h⟩ := bd1_e h
      refine g_kv (g_runV (As := [.int x1, .int x2]) (rest := []) hC hP (c5_lays l hv) (by decide) ge_23 rfl u_6_98 yv_X5_lays (Nat.le_of_ble_eq_true rfl) rfl hl.1 rfl (Nat.le_of_ble_eq_true rfl) dX5_place_76 ⟨by decide, by decide⟩) hS (fun H locs hP hS => ?_)
      refine lv_iload_n hx hb dX5_place_79 rfl (lv_at hl 0 rfl) ?_
      cases h
      exact g_iret hC hP hS dX5_place_80 rfl
    · rw [if_neg c2] at h
      refine lv_iconst (v := 0) hx hb dX5_place_59 (by decide) ?_
      cases h
      exact g_iret hC hP hS dX5_place_60 rfl
  refine lv_aload_n hx hb dX5_place_0 rfl (lv_at hl 0 rfl) ?_
  refine lv_aload_n hx hb dX5_place_1 rfl (lv_at hl 0 rfl) ?_
  refine lv_iload_n hx hb dX5_place_2 rfl (lv_at hl 1 rfl) ?_
  obtain ⟨v6, hv, h⟩ := bd1_e h
  refine g_ki (g_runV (As := [.int x1]) (rest := [.ref (ad γ 23)]) hC hP (c5_isEvent l hv) (by decide) ge_23 rfl u_6_71 yv_X5_isEvent (Nat.le_of_ble_eq_true rfl) rfl hl.1 rfl (Nat.le_of_ble_eq_true rfl) dX5_place_3 ⟨by decide, by decide⟩) hS (fun H locs hP hS => ?_)
  refine lv_if_eq (tgt := 16) hx hb dX5_place_6 (by decide) (fun c7 => ?_) (fun c7 => ?_)
  · rw [if_pos c7] at h
    refine lv_iconst (v := 1) hx hb dX5_place_16 (by decide) ?_
    refine lv_goto (tgt := 49) hx hb dX5_place_17 (by decide) ?_
    exact J49 M 1 h _ _ _ hP hS (lv_sub hl [0, 1, 2] rfl)
  · rw [if_neg c7] at h
    refine lv_iload_n hx hb dX5_place_9 rfl (lv_at hl 2 rfl) ?_
    obtain ⟨v8, hv, h⟩ := bd1_e h
    refine g_ki (g_runS (As := [.int x2]) (rest := [.ref (ad γ 23)]) hC hP (c5_isPlace l hv) u_6_95 yv_X5_isPlace (Nat.le_of_ble_eq_true rfl) rfl hl.1 rfl (Nat.le_of_ble_eq_true rfl) dX5_place_10 ⟨by decide, by decide⟩) hS (fun H locs hP hS => ?_)
    refine lv_if_ne (tgt := 20) hx hb dX5_place_13 (by decide) (fun c9 => ?_) (fun c9 => ?_)
    · rw [if_neg c9] at h
      refine lv_aload_n hx hb dX5_place_20 rfl (lv_at hl 0 rfl) ?_
      refine lv_bipush (v := 98) hx hb dX5_place_21 (by decide) ?_
      refine lv_iload_n hx hb dX5_place_23 rfl (lv_at hl 1 rfl) ?_
      obtain ⟨v10, hv, h⟩ := bd1_e h
      refine g_ki (g_runV (As := [.int 98, .int x1]) (rest := [.ref (ad γ 23)]) hC hP (c5_of l hv) (by decide) ge_23 rfl u_5_229 yv_X5_of (Nat.le_of_ble_eq_true rfl) rfl hl.1 rfl (Nat.le_of_ble_eq_true rfl) dX5_place_24 ⟨by decide, by decide⟩) hS (fun H locs hP hS => ?_)
      refine lv_iconst (v := 1) hx hb dX5_place_27 (by decide) ?_
      refine lv_icmp_ne (tgt := 35) hx hb dX5_place_28 (by decide) (fun c11 => ?_) (fun c11 => ?_)
      · rw [if_neg c11] at h
        refine lv_aload_n hx hb dX5_place_35 rfl (lv_at hl 0 rfl) ?_
        refine lv_iload_n hx hb dX5_place_36 rfl (lv_at hl 1 rfl) ?_
        refine lv_iload_n hx hb dX5_place_37 rfl (lv_at hl 2 rfl) ?_
        obtain ⟨v12, hv, h⟩ := bd1_e h
        refine g_ki (g_runV (As := [.int x1, .int x2]) (rest := [.ref (ad γ 23)]) hC hP (c5_obstacleOf l hv) (by decide) ge_23 rfl u_5_237 yv_X5_obstacleOf (Nat.le_of_ble_eq_true rfl) rfl hl.1 rfl (Nat.le_of_ble_eq_true rfl) dX5_place_38 ⟨by decide, by decide⟩) hS (fun H locs hP hS => ?_)
        refine lv_if_eq (tgt := 48) hx hb dX5_place_41 (by decide) (fun c13 => ?_) (fun c13 => ?_)
        · rw [if_pos c13] at h
          refine lv_iconst (v := 0) hx hb dX5_place_48 (by decide) ?_
          exact J49 M 0 h _ _ _ hP hS (lv_sub hl [0, 1, 2] rfl)
        · rw [if_neg c13] at h
          refine lv_iconst (v := 3) hx hb dX5_place_44 (by decide) ?_
          refine lv_goto (tgt := 49) hx hb dX5_place_45 (by decide) ?_
          exact J49 M 3 h _ _ _ hP hS (lv_sub hl [0, 1, 2] rfl)
      · rw [if_pos c11] at h
        refine lv_iconst (v := 2) hx hb dX5_place_31 (by decide) ?_
        refine lv_goto (tgt := 49) hx hb dX5_place_32 (by decide) ?_
        exact J49 M 2 h _ _ _ hP hS (lv_sub hl [0, 1, 2] rfl)
    · rw [if_pos c9] at h
      refine lv_iconst (v := 1) hx hb dX5_place_16 (by decide) ?_
      refine lv_goto (tgt := 49) hx hb dX5_place_17 (by decide) ?_
      exact J49 M 1 h _ _ _ hP hS (lv_sub hl [0, 1, 2] rfl)
def r5_unplace_j28 (M_28 : OS) (x1 : Int32) (s0_28 : Int32)  : Option (Int32 × OS) :=
  (sw M_28 0 s0_28).bind fun M1 =>
  (if (M1 0 0) = 0 then bd1 (r5_keeps M1) (fun M3 =>
  bd1 (r5_of M3 84 x1) (fun v4 =>
  bd1 (r5_lifts M3 x1) (fun M5 =>
  some (v4, M5))))
  else some (0, M1))
def r5_unplace (M : OS) (x1 : Int32) : Option (Int32 × OS) :=
  bd1 (r5_isEvent M x1) (fun v6 =>
  (if v6 = 0 then r5_unplace_j28 M x1 1
  else bd1 (r5_of M 84 x1) (fun v8 =>
  (if 0 ≤ v8 then r5_unplace_j28 M x1 0
  else r5_unplace_j28 M x1 2))))
theorem yv_X5_unplace : gYV yX5_unplace cX5_unplace 3 (some .int) 1 := ⟨u_6_103, u_6_104, u_1_7, u_6_105, ⟨by decide +kernel, by decide +kernel, by decide +kernel⟩, by decide⟩
set_option maxHeartbeats 4000000 in
set_option maxRecDepth 100000 in
theorem c5_unplace (l : Launch) {γ : GA} {sz : Nat} {T P X Y B M : OS} {E : Nat → OS} {O : Nat → Int64} {x1 : Int32} {r0 : Int32} {Mz : OS} (h : r5_unplace M x1 = some (r0, Mz)) : Met l yX5_unplace (gU yX5_unplace cX5_unplace 3 (some .int)) (gR 2 0 0) (gPc γ [.ref (ad γ 23), .int x1] sz (T, P, X, Y, E, B, M, O)) (gQi γ r0 sz (T, P, X, Y, E, B, Mz, O)) 0 0 (gA γ sz) := by
  refine g_met (fun sz => gQi γ r0 sz (T, P, X, Y, E, B, Mz, O)) (by decide) (Nat.le_of_ble_eq_true rfl) ?_
  intro p e s m args below meth c ls hC hP hS hl
  have hx := hC.x
  have hb := hC.b
  have hl : lv_has ls 3 [(0, .ref (ad γ 23)), (1, .int x1)] := hl
  unfold r5_unplace at h
  have J28 : ∀ (M_28 : OS) (s0_28 : Int32) (h : r5_unplace_j28 M_28 x1 s0_28 = some (r0, Mz)), ∀ (H : Heap) (locs : List Loc) (ls : Array Slot), va_P γ.1 vwCl (gw γ (T, P, X, Y, E, B, M_28, O)) H → va_S (gA γ s.heap.size) s.heap H locs → lv_has ls 3 [(0, .ref (ad γ 23)), (1, .int x1)] → W p l e (gR 2 0 0) s m args below meth c H locs 0 0 (MQ below (gQi γ r0 s.heap.size (T, P, X, Y, E, B, Mz, O)) args s 0 0 (gA γ s.heap.size)) (F0 m 28 ls [.int s0_28, .ref (ad γ 23)]) := by
    intro M_28 s0_28 h H locs ls hP hS hl
    unfold r5_unplace_j28 at h
    obtain ⟨M1, hv, h⟩ := ob h
    refine g_putI hC hP hS (fun Z => (T, P, X, Y, E, B, Z, O)) 0 tyX5 dX5_unplace_28 (by decide) ge_23 rfl inX5 tyX5_ok nmX5 (by decide) u_5_154 rfl rfl (Nat.le_of_ble_eq_true rfl) gp_23_0 hv (fun H locs hP hS => ?_)
    refine lv_aload_n hx hb dX5_unplace_31 rfl (lv_at hl 0 rfl) ?_
    refine g_get hC hP 0 dX5_unplace_32 (by decide) ge_23 rfl inX5 (by decide) rfl u_5_154 ?_
    refine lv_if_eq (tgt := 40) hx hb dX5_unplace_35 (by decide) (fun c2 => ?_) (fun c2 => ?_)
    · rw [if_pos c2] at h
      refine lv_aload_n hx hb dX5_unplace_40 rfl (lv_at hl 0 rfl) ?_
      obtain ⟨M3, hv, h⟩ := bd1_e h
      refine g_kv (g_runV (As := []) (rest := []) hC hP (c5_keeps l hv) (by decide) ge_23 rfl u_5_213 yv_X5_keeps (Nat.le_of_ble_eq_true rfl) rfl hl.1 rfl (Nat.le_of_ble_eq_true rfl) dX5_unplace_41 ⟨by decide, by decide⟩) hS (fun H locs hP hS => ?_)
      refine lv_aload_n hx hb dX5_unplace_44 rfl (lv_at hl 0 rfl) ?_
      refine lv_bipush (v := 84) hx hb dX5_unplace_45 (by decide) ?_
      refine lv_iload_n hx hb dX5_unplace_47 rfl (lv_at hl 1 rfl) ?_
      obtain ⟨v4, hv, h⟩ := bd1_e h
      refine g_ki (g_runV (As := [.int 84, .int x1]) (rest := []) hC hP (c5_of l hv) (by decide) ge_23 rfl u_5_229 yv_X5_of (Nat.le_of_ble_eq_true rfl) rfl hl.1 rfl (Nat.le_of_ble_eq_true rfl) dX5_unplace_48 ⟨by decide, by decide⟩) hS (fun H locs hP hS => ?_)
      refine lv_istore_n (lv' := [(2, .int v4), (0, .ref (ad γ 23)), (1, .int x1)]) hx hb dX5_unplace_51 rfl hl (by decide) rfl (fun ls hl => ?_)
      refine lv_aload_n hx hb dX5_unplace_52 rfl (lv_at hl 1 rfl) ?_
      refine lv_iload_n hx hb dX5_unplace_53 rfl (lv_at hl 2 rfl) ?_
      obtain ⟨M5, hv, h⟩ := bd1_e h
      refine g_kv (g_runV (As := [.int x1]) (rest := []) hC hP (c5_lifts l hv) (by decide) ge_23 rfl u_6_19 yv_X5_lifts (Nat.le_of_ble_eq_true rfl) rfl hl.1 rfl (Nat.le_of_ble_eq_true rfl) dX5_unplace_54 ⟨by decide, by decide⟩) hS (fun H locs hP hS => ?_)
      refine lv_iload_n hx hb dX5_unplace_57 rfl (lv_at hl 0 rfl) ?_
      cases h
      exact g_iret hC hP hS dX5_unplace_58 rfl
    · rw [if_neg c2] at h
      refine lv_iconst (v := 0) hx hb dX5_unplace_38 (by decide) ?_
      cases h
      exact g_iret hC hP hS dX5_unplace_39 rfl
  refine lv_aload_n hx hb dX5_unplace_0 rfl (lv_at hl 0 rfl) ?_
  refine lv_aload_n hx hb dX5_unplace_1 rfl (lv_at hl 0 rfl) ?_
  refine lv_iload_n hx hb dX5_unplace_2 rfl (lv_at hl 1 rfl) ?_
  obtain ⟨v6, hv, h⟩ := bd1_e h
  refine g_ki (g_runV (As := [.int x1]) (rest := [.ref (ad γ 23)]) hC hP (c5_isEvent l hv) (by decide) ge_23 rfl u_6_71 yv_X5_isEvent (Nat.le_of_ble_eq_true rfl) rfl hl.1 rfl (Nat.le_of_ble_eq_true rfl) dX5_unplace_3 ⟨by decide, by decide⟩) hS (fun H locs hP hS => ?_)
  refine lv_if_ne (tgt := 13) hx hb dX5_unplace_6 (by decide) (fun c7 => ?_) (fun c7 => ?_)
  · rw [if_neg c7] at h
    refine lv_aload_n hx hb dX5_unplace_13 rfl (lv_at hl 0 rfl) ?_
    refine lv_bipush (v := 84) hx hb dX5_unplace_14 (by decide) ?_
    refine lv_iload_n hx hb dX5_unplace_16 rfl (lv_at hl 1 rfl) ?_
    obtain ⟨v8, hv, h⟩ := bd1_e h
    refine g_ki (g_runV (As := [.int 84, .int x1]) (rest := [.ref (ad γ 23)]) hC hP (c5_of l hv) (by decide) ge_23 rfl u_5_229 yv_X5_of (Nat.le_of_ble_eq_true rfl) rfl hl.1 rfl (Nat.le_of_ble_eq_true rfl) dX5_unplace_17 ⟨by decide, by decide⟩) hS (fun H locs hP hS => ?_)
    refine lv_if_ge (tgt := 27) hx hb dX5_unplace_20 (by decide) (fun c9 => ?_) (fun c9 => ?_)
    · rw [if_pos c9] at h
      refine lv_iconst (v := 0) hx hb dX5_unplace_27 (by decide) ?_
      exact J28 M 0 h _ _ _ hP hS (lv_sub hl [0, 1] rfl)
    · rw [if_neg c9] at h
      refine lv_iconst (v := 2) hx hb dX5_unplace_23 (by decide) ?_
      refine lv_goto (tgt := 28) hx hb dX5_unplace_24 (by decide) ?_
      exact J28 M 2 h _ _ _ hP hS (lv_sub hl [0, 1] rfl)
  · rw [if_pos c7] at h
    refine lv_iconst (v := 1) hx hb dX5_unplace_9 (by decide) ?_
    refine lv_goto (tgt := 28) hx hb dX5_unplace_10 (by decide) ?_
    exact J28 M 1 h _ _ _ hP hS (lv_sub hl [0, 1] rfl)
def r5_fix_j78 (M_78 : OS) (x3_78 : Int32) (s0_78 : Int32) (s1_78 : Int32)  : Option (Int32 × OS) :=
  (wr 1008 M_78 1 s1_78 s0_78).bind fun M1 =>
  (zz x3_78).bind fun v2 =>
  some (v2, M1)
def r5_fix_j60 (M_60 : OS) (x1 : Int32) (x2 : Int32) (s0_60 : Int32)  : Option (Int32 × OS) :=
  (if x2 = 0 then r5_fix_j78 M_60 s0_60 0 (98 + x1)
  else r5_fix_j78 M_60 s0_60 1 (98 + x1))
def r5_fix_j28 (M_28 : OS) (x1 : Int32) (x2 : Int32) (s0_28 : Int32)  : Option (Int32 × OS) :=
  (sw M_28 0 s0_28).bind fun M4 =>
  (if (M4 0 0) = 0 then bd1 (r5_keeps M4) (fun M6 =>
  bd1 (r5_of M6 98 x1) (fun v7 =>
  (if v7 = 1 then r5_fix_j60 M6 x1 x2 1
  else r5_fix_j60 M6 x1 x2 0)))
  else some (0, M4))
def r5_fix (M : OS) (x1 : Int32) (x2 : Int32) : Option (Int32 × OS) :=
  bd1 (r5_isEvent M x1) (fun v9 =>
  (if v9 = 0 then r5_fix_j28 M x1 x2 1
  else bd1 (r5_of M 84 x1) (fun v11 =>
  (if 0 ≤ v11 then r5_fix_j28 M x1 x2 0
  else r5_fix_j28 M x1 x2 2))))
theorem yv_X5_fix : gYV yX5_fix cX5_fix 4 (some .boolean) 2 := ⟨u_6_107, u_6_108, u_1_7, u_6_109, ⟨by decide +kernel, by decide +kernel, by decide +kernel⟩, by decide⟩
set_option maxHeartbeats 4000000 in
set_option maxRecDepth 100000 in
theorem c5_fix (l : Launch) {γ : GA} {sz : Nat} {T P X Y B M : OS} {E : Nat → OS} {O : Nat → Int64} {x1 : Int32} {x2 : Int32} {r0 : Int32} {Mz : OS} (h : r5_fix M x1 x2 = some (r0, Mz)) : Met l yX5_fix (gU yX5_fix cX5_fix 4 (some .boolean)) (gR 2 0 0) (gPc γ [.ref (ad γ 23), .int x1, .int x2] sz (T, P, X, Y, E, B, M, O)) (gQi γ r0 sz (T, P, X, Y, E, B, Mz, O)) 0 0 (gA γ sz) := by
  refine g_met (fun sz => gQi γ r0 sz (T, P, X, Y, E, B, Mz, O)) (by decide) (Nat.le_of_ble_eq_true rfl) ?_
  intro p e s m args below meth c ls hC hP hS hl
  have hx := hC.x
  have hb := hC.b
  have hl : lv_has ls 4 [(0, .ref (ad γ 23)), (1, .int x1), (2, .int x2)] := hl
  unfold r5_fix at h
  have J78 : ∀ (M_78 : OS) (x3_78 : Int32) (s0_78 : Int32) (s1_78 : Int32) (h : r5_fix_j78 M_78 x3_78 s0_78 s1_78 = some (r0, Mz)), ∀ (H : Heap) (locs : List Loc) (ls : Array Slot), va_P γ.1 vwCl (gw γ (T, P, X, Y, E, B, M_78, O)) H → va_S (gA γ s.heap.size) s.heap H locs → lv_has ls 4 [(3, .int x3_78)] → W p l e (gR 2 0 0) s m args below meth c H locs 0 0 (MQ below (gQi γ r0 s.heap.size (T, P, X, Y, E, B, Mz, O)) args s 0 0 (gA γ s.heap.size)) (F0 m 78 ls [.int s0_78, .int s1_78, .ref (ad γ 24)]) := by
    intro M_78 x3_78 s0_78 s1_78 h H locs ls hP hS hl
    unfold r5_fix_j78 at h
    obtain ⟨M1, hv, h⟩ := ob h
    refine g_st hC hP hS (fun Z => (T, P, X, Y, E, B, Z, O)) dX5_fix_78 (by decide) ge_24 gs_24 hv (fun H locs hP hS => ?_)
    refine lv_iload_n hx hb dX5_fix_79 rfl (lv_at hl 0 rfl) ?_
    obtain ⟨v2, hz, h⟩ := ob h
    cases h
    exact g_zret hC hP hS dX5_fix_80 hz rfl
  have J60 : ∀ (M_60 : OS) (s0_60 : Int32) (h : r5_fix_j60 M_60 x1 x2 s0_60 = some (r0, Mz)), ∀ (H : Heap) (locs : List Loc) (ls : Array Slot), va_P γ.1 vwCl (gw γ (T, P, X, Y, E, B, M_60, O)) H → va_S (gA γ s.heap.size) s.heap H locs → lv_has ls 4 [(0, .ref (ad γ 23)), (1, .int x1), (2, .int x2)] → W p l e (gR 2 0 0) s m args below meth c H locs 0 0 (MQ below (gQi γ r0 s.heap.size (T, P, X, Y, E, B, Mz, O)) args s 0 0 (gA γ s.heap.size)) (F0 m 60 ls [.int s0_60]) := by
    intro M_60 s0_60 h H locs ls hP hS hl
    unfold r5_fix_j60 at h
    refine lv_istore_n (lv' := [(3, .int s0_60), (0, .ref (ad γ 23)), (1, .int x1), (2, .int x2)]) hx hb dX5_fix_60 rfl hl (by decide) rfl (fun ls hl => ?_)
    refine lv_aload_n hx hb dX5_fix_61 rfl (lv_at hl 1 rfl) ?_
    refine g_get hC hP 1 dX5_fix_62 (by decide) ge_23 rfl inX5 (by decide) rfl u_5_155 ?_
    refine lv_bipush (v := 98) hx hb dX5_fix_65 (by decide) ?_
    refine lv_iload_n hx hb dX5_fix_67 rfl (lv_at hl 2 rfl) ?_
    refine lv_iadd hx hb dX5_fix_68 ?_
    refine lv_iload_n hx hb dX5_fix_69 rfl (lv_at hl 3 rfl) ?_
    refine lv_if_eq (tgt := 77) hx hb dX5_fix_70 (by decide) (fun c3 => ?_) (fun c3 => ?_)
    · rw [if_pos c3] at h
      refine lv_iconst (v := 0) hx hb dX5_fix_77 (by decide) ?_
      exact J78 M_60 s0_60 0 (98 + x1) h _ _ _ hP hS (lv_sub hl [0] rfl)
    · rw [if_neg c3] at h
      refine lv_iconst (v := 1) hx hb dX5_fix_73 (by decide) ?_
      refine lv_goto (tgt := 78) hx hb dX5_fix_74 (by decide) ?_
      exact J78 M_60 s0_60 1 (98 + x1) h _ _ _ hP hS (lv_sub hl [0] rfl)
  have J28 : ∀ (M_28 : OS) (s0_28 : Int32) (h : r5_fix_j28 M_28 x1 x2 s0_28 = some (r0, Mz)), ∀ (H : Heap) (locs : List Loc) (ls : Array Slot), va_P γ.1 vwCl (gw γ (T, P, X, Y, E, B, M_28, O)) H → va_S (gA γ s.heap.size) s.heap H locs → lv_has ls 4 [(0, .ref (ad γ 23)), (1, .int x1), (2, .int x2)] → W p l e (gR 2 0 0) s m args below meth c H locs 0 0 (MQ below (gQi γ r0 s.heap.size (T, P, X, Y, E, B, Mz, O)) args s 0 0 (gA γ s.heap.size)) (F0 m 28 ls [.int s0_28, .ref (ad γ 23)]) := by
    intro M_28 s0_28 h H locs ls hP hS hl
    unfold r5_fix_j28 at h
    obtain ⟨M4, hv, h⟩ := ob h
    refine g_putI hC hP hS (fun Z => (T, P, X, Y, E, B, Z, O)) 0 tyX5 dX5_fix_28 (by decide) ge_23 rfl inX5 tyX5_ok nmX5 (by decide) u_5_154 rfl rfl (Nat.le_of_ble_eq_true rfl) gp_23_0 hv (fun H locs hP hS => ?_)
    refine lv_aload_n hx hb dX5_fix_31 rfl (lv_at hl 0 rfl) ?_
    refine g_get hC hP 0 dX5_fix_32 (by decide) ge_23 rfl inX5 (by decide) rfl u_5_154 ?_
    refine lv_if_eq (tgt := 40) hx hb dX5_fix_35 (by decide) (fun c5 => ?_) (fun c5 => ?_)
    · rw [if_pos c5] at h
      refine lv_aload_n hx hb dX5_fix_40 rfl (lv_at hl 0 rfl) ?_
      obtain ⟨M6, hv, h⟩ := bd1_e h
      refine g_kv (g_runV (As := []) (rest := []) hC hP (c5_keeps l hv) (by decide) ge_23 rfl u_5_213 yv_X5_keeps (Nat.le_of_ble_eq_true rfl) rfl hl.1 rfl (Nat.le_of_ble_eq_true rfl) dX5_fix_41 ⟨by decide, by decide⟩) hS (fun H locs hP hS => ?_)
      refine lv_aload_n hx hb dX5_fix_44 rfl (lv_at hl 0 rfl) ?_
      refine lv_bipush (v := 98) hx hb dX5_fix_45 (by decide) ?_
      refine lv_iload_n hx hb dX5_fix_47 rfl (lv_at hl 1 rfl) ?_
      obtain ⟨v7, hv, h⟩ := bd1_e h
      refine g_ki (g_runV (As := [.int 98, .int x1]) (rest := []) hC hP (c5_of l hv) (by decide) ge_23 rfl u_5_229 yv_X5_of (Nat.le_of_ble_eq_true rfl) rfl hl.1 rfl (Nat.le_of_ble_eq_true rfl) dX5_fix_48 ⟨by decide, by decide⟩) hS (fun H locs hP hS => ?_)
      refine lv_iconst (v := 1) hx hb dX5_fix_51 (by decide) ?_
      refine lv_icmp_ne (tgt := 59) hx hb dX5_fix_52 (by decide) (fun c8 => ?_) (fun c8 => ?_)
      · rw [if_neg c8] at h
        refine lv_iconst (v := 0) hx hb dX5_fix_59 (by decide) ?_
        exact J60 M6 0 h _ _ _ hP hS (lv_sub hl [0, 1, 2] rfl)
      · rw [if_pos c8] at h
        refine lv_iconst (v := 1) hx hb dX5_fix_55 (by decide) ?_
        refine lv_goto (tgt := 60) hx hb dX5_fix_56 (by decide) ?_
        exact J60 M6 1 h _ _ _ hP hS (lv_sub hl [0, 1, 2] rfl)
    · rw [if_neg c5] at h
      refine lv_iconst (v := 0) hx hb dX5_fix_38 (by decide) ?_
      have hz : zz 0 = some 0 := rfl
      cases h
      exact g_zret hC hP hS dX5_fix_39 hz rfl
  refine lv_aload_n hx hb dX5_fix_0 rfl (lv_at hl 0 rfl) ?_
  refine lv_aload_n hx hb dX5_fix_1 rfl (lv_at hl 0 rfl) ?_
  refine lv_iload_n hx hb dX5_fix_2 rfl (lv_at hl 1 rfl) ?_
  obtain ⟨v9, hv, h⟩ := bd1_e h
  refine g_ki (g_runV (As := [.int x1]) (rest := [.ref (ad γ 23)]) hC hP (c5_isEvent l hv) (by decide) ge_23 rfl u_6_71 yv_X5_isEvent (Nat.le_of_ble_eq_true rfl) rfl hl.1 rfl (Nat.le_of_ble_eq_true rfl) dX5_fix_3 ⟨by decide, by decide⟩) hS (fun H locs hP hS => ?_)
  refine lv_if_ne (tgt := 13) hx hb dX5_fix_6 (by decide) (fun c10 => ?_) (fun c10 => ?_)
  · rw [if_neg c10] at h
    refine lv_aload_n hx hb dX5_fix_13 rfl (lv_at hl 0 rfl) ?_
    refine lv_bipush (v := 84) hx hb dX5_fix_14 (by decide) ?_
    refine lv_iload_n hx hb dX5_fix_16 rfl (lv_at hl 1 rfl) ?_
    obtain ⟨v11, hv, h⟩ := bd1_e h
    refine g_ki (g_runV (As := [.int 84, .int x1]) (rest := [.ref (ad γ 23)]) hC hP (c5_of l hv) (by decide) ge_23 rfl u_5_229 yv_X5_of (Nat.le_of_ble_eq_true rfl) rfl hl.1 rfl (Nat.le_of_ble_eq_true rfl) dX5_fix_17 ⟨by decide, by decide⟩) hS (fun H locs hP hS => ?_)
    refine lv_if_ge (tgt := 27) hx hb dX5_fix_20 (by decide) (fun c12 => ?_) (fun c12 => ?_)
    · rw [if_pos c12] at h
      refine lv_iconst (v := 0) hx hb dX5_fix_27 (by decide) ?_
      exact J28 M 0 h _ _ _ hP hS (lv_sub hl [0, 1, 2] rfl)
    · rw [if_neg c12] at h
      refine lv_iconst (v := 2) hx hb dX5_fix_23 (by decide) ?_
      refine lv_goto (tgt := 28) hx hb dX5_fix_24 (by decide) ?_
      exact J28 M 2 h _ _ _ hP hS (lv_sub hl [0, 1, 2] rfl)
  · rw [if_pos c10] at h
    refine lv_iconst (v := 1) hx hb dX5_fix_9 (by decide) ?_
    refine lv_goto (tgt := 28) hx hb dX5_fix_10 (by decide) ?_
    exact J28 M 1 h _ _ _ hP hS (lv_sub hl [0, 1, 2] rfl)
def r5_obstacle_j21 (M_21 : OS) (x1 : Int32) (x2 : Int32) (s0_21 : Int32)  : Option (Int32 × OS) :=
  (sw M_21 0 s0_21).bind fun M1 =>
  (if (M1 0 0) = 0 then bd1 (r5_obstacleOf M1 x1 x2) (fun v3 =>
  some (v3, M1))
  else some (0, M1))
def r5_obstacle (M : OS) (x1 : Int32) (x2 : Int32) : Option (Int32 × OS) :=
  bd1 (r5_isEvent M x1) (fun v4 =>
  (if v4 = 0 then r5_obstacle_j21 M x1 x2 1
  else bd1 (r5_isPlace x2) (fun v6 =>
  (if v6 = 0 then r5_obstacle_j21 M x1 x2 1
  else r5_obstacle_j21 M x1 x2 0))))
theorem yv_X5_obstacle : gYV yX5_obstacle cX5_obstacle 3 (some .int) 2 := ⟨u_6_111, u_6_112, u_1_7, u_6_113, ⟨by decide +kernel, by decide +kernel, by decide +kernel⟩, by decide⟩
set_option maxHeartbeats 4000000 in
set_option maxRecDepth 100000 in
theorem c5_obstacle (l : Launch) {γ : GA} {sz : Nat} {T P X Y B M : OS} {E : Nat → OS} {O : Nat → Int64} {x1 : Int32} {x2 : Int32} {r0 : Int32} {Mz : OS} (h : r5_obstacle M x1 x2 = some (r0, Mz)) : Met l yX5_obstacle (gU yX5_obstacle cX5_obstacle 3 (some .int)) (gR 5 0 0) (gPc γ [.ref (ad γ 23), .int x1, .int x2] sz (T, P, X, Y, E, B, M, O)) (gQi γ r0 sz (T, P, X, Y, E, B, Mz, O)) 0 0 (gA γ sz) := by
  refine g_met (fun sz => gQi γ r0 sz (T, P, X, Y, E, B, Mz, O)) (by decide) (Nat.le_of_ble_eq_true rfl) ?_
  intro p e s m args below meth c ls hC hP hS hl
  have hx := hC.x
  have hb := hC.b
  have hl : lv_has ls 3 [(0, .ref (ad γ 23)), (1, .int x1), (2, .int x2)] := hl
  unfold r5_obstacle at h
  have J21 : ∀ (M_21 : OS) (s0_21 : Int32) (h : r5_obstacle_j21 M_21 x1 x2 s0_21 = some (r0, Mz)), ∀ (H : Heap) (locs : List Loc) (ls : Array Slot), va_P γ.1 vwCl (gw γ (T, P, X, Y, E, B, M_21, O)) H → va_S (gA γ s.heap.size) s.heap H locs → lv_has ls 3 [(0, .ref (ad γ 23)), (1, .int x1), (2, .int x2)] → W p l e (gR 5 0 0) s m args below meth c H locs 0 0 (MQ below (gQi γ r0 s.heap.size (T, P, X, Y, E, B, Mz, O)) args s 0 0 (gA γ s.heap.size)) (F0 m 21 ls [.int s0_21, .ref (ad γ 23)]) := by
    intro M_21 s0_21 h H locs ls hP hS hl
    unfold r5_obstacle_j21 at h
    obtain ⟨M1, hv, h⟩ := ob h
    refine g_putI hC hP hS (fun Z => (T, P, X, Y, E, B, Z, O)) 0 tyX5 dX5_obstacle_21 (by decide) ge_23 rfl inX5 tyX5_ok nmX5 (by decide) u_5_154 rfl rfl (Nat.le_of_ble_eq_true rfl) gp_23_0 hv (fun H locs hP hS => ?_)
    refine lv_aload_n hx hb dX5_obstacle_24 rfl (lv_at hl 0 rfl) ?_
    refine g_get hC hP 0 dX5_obstacle_25 (by decide) ge_23 rfl inX5 (by decide) rfl u_5_154 ?_
    refine lv_if_ne (tgt := 40) hx hb dX5_obstacle_28 (by decide) (fun c2 => ?_) (fun c2 => ?_)
    · rw [if_neg c2] at h
      refine lv_iconst (v := 0) hx hb dX5_obstacle_40 (by decide) ?_
      cases h
      exact g_iret hC hP hS dX5_obstacle_41 rfl
    · rw [if_pos c2] at h
      refine lv_aload_n hx hb dX5_obstacle_31 rfl (lv_at hl 0 rfl) ?_
      refine lv_iload_n hx hb dX5_obstacle_32 rfl (lv_at hl 1 rfl) ?_
      refine lv_iload_n hx hb dX5_obstacle_33 rfl (lv_at hl 2 rfl) ?_
      obtain ⟨v3, hv, h⟩ := bd1_e h
      refine g_ki (g_runV (As := [.int x1, .int x2]) (rest := []) hC hP (c5_obstacleOf l hv) (by decide) ge_23 rfl u_5_237 yv_X5_obstacleOf (Nat.le_of_ble_eq_true rfl) rfl hl.1 rfl (Nat.le_of_ble_eq_true rfl) dX5_obstacle_34 ⟨by decide, by decide⟩) hS (fun H locs hP hS => ?_)
      refine lv_goto (tgt := 41) hx hb dX5_obstacle_37 (by decide) ?_
      cases h
      exact g_iret hC hP hS dX5_obstacle_41 rfl
  refine lv_aload_n hx hb dX5_obstacle_0 rfl (lv_at hl 0 rfl) ?_
  refine lv_aload_n hx hb dX5_obstacle_1 rfl (lv_at hl 0 rfl) ?_
  refine lv_iload_n hx hb dX5_obstacle_2 rfl (lv_at hl 1 rfl) ?_
  obtain ⟨v4, hv, h⟩ := bd1_e h
  refine g_ki (g_runV (As := [.int x1]) (rest := [.ref (ad γ 23)]) hC hP (c5_isEvent l hv) (by decide) ge_23 rfl u_6_71 yv_X5_isEvent (Nat.le_of_ble_eq_true rfl) rfl hl.1 rfl (Nat.le_of_ble_eq_true rfl) dX5_obstacle_3 ⟨by decide, by decide⟩) hS (fun H locs hP hS => ?_)
  refine lv_if_eq (tgt := 20) hx hb dX5_obstacle_6 (by decide) (fun c5 => ?_) (fun c5 => ?_)
  · rw [if_pos c5] at h
    refine lv_iconst (v := 1) hx hb dX5_obstacle_20 (by decide) ?_
    exact J21 M 1 h _ _ _ hP hS (lv_sub hl [0, 1, 2] rfl)
  · rw [if_neg c5] at h
    refine lv_iload_n hx hb dX5_obstacle_9 rfl (lv_at hl 2 rfl) ?_
    obtain ⟨v6, hv, h⟩ := bd1_e h
    refine g_ki (g_runS (As := [.int x2]) (rest := [.ref (ad γ 23)]) hC hP (c5_isPlace l hv) u_6_95 yv_X5_isPlace (Nat.le_of_ble_eq_true rfl) rfl hl.1 rfl (Nat.le_of_ble_eq_true rfl) dX5_obstacle_10 ⟨by decide, by decide⟩) hS (fun H locs hP hS => ?_)
    refine lv_if_eq (tgt := 20) hx hb dX5_obstacle_13 (by decide) (fun c7 => ?_) (fun c7 => ?_)
    · rw [if_pos c7] at h
      refine lv_iconst (v := 1) hx hb dX5_obstacle_20 (by decide) ?_
      exact J21 M 1 h _ _ _ hP hS (lv_sub hl [0, 1, 2] rfl)
    · rw [if_neg c7] at h
      refine lv_iconst (v := 0) hx hb dX5_obstacle_16 (by decide) ?_
      refine lv_goto (tgt := 21) hx hb dX5_obstacle_17 (by decide) ?_
      exact J21 M 0 h _ _ _ hP hS (lv_sub hl [0, 1, 2] rfl)
def r5_placesOf_b6 (M : OS) (x1 : Int32) (x2 : Int32) (x3 : Int32) (x4_6 : Int32) (x5_6 : Int32) : Option ((Int32 × Int32) ⊕ (Int32)) :=
  (if 60 ≤ x5_6 then some (.inr x4_6)
  else bd1 (r5_obstacleOf M x1 x5_6) (fun v2 =>
  bd1 (r5_in v2 x2 x3) (fun v3 =>
  (if v3 = 0 then some (.inl ((x4_6 + 0), (x5_6 + 1)))
  else some (.inl ((x4_6 + 1), (x5_6 + 1)))))))
def r5_placesOf (M : OS) (x1 : Int32) (x2 : Int32) (x3 : Int32) : Option Int32 :=
  bd1 (it2 (r5_placesOf_b6 M x1 x2 x3) 200 0 0) (fun x4_x6 => some x4_x6)
theorem yv_X5_placesOf : gYV yX5_placesOf cX5_placesOf 6 (some .int) 3 := ⟨u_6_120, u_sp_43, u_1_7, u_6_121, ⟨by decide +kernel, by decide +kernel, by decide +kernel⟩, by decide⟩
set_option maxHeartbeats 4000000 in
set_option maxRecDepth 100000 in
theorem c5_placesOf (l : Launch) {γ : GA} {sz : Nat} {T P X Y B M : OS} {E : Nat → OS} {O : Nat → Int64} {x1 : Int32} {x2 : Int32} {x3 : Int32} {r0 : Int32} (h : r5_placesOf M x1 x2 x3 = some r0) : Met l yX5_placesOf (gU yX5_placesOf cX5_placesOf 6 (some .int)) (gR 5 0 0) (gPc γ [.ref (ad γ 23), .int x1, .int x2, .int x3] sz (T, P, X, Y, E, B, M, O)) (gQi γ r0 sz (T, P, X, Y, E, B, M, O)) 0 0 (gA γ sz) := by
  refine g_met (fun sz => gQi γ r0 sz (T, P, X, Y, E, B, M, O)) (by decide) (Nat.le_of_ble_eq_true rfl) ?_
  intro p e s m args below meth c ls hC hP hS hl
  have hx := hC.x
  have hb := hC.b
  have hl : lv_has ls 6 [(0, .ref (ad γ 23)), (1, .int x1), (2, .int x2), (3, .int x3)] := hl
  unfold r5_placesOf at h
  refine lv_iconst (v := 0) hx hb dX5_placesOf_0 (by decide) ?_
  refine lv_istore (lv' := [(4, .int 0), (0, .ref (ad γ 23)), (1, .int x1), (2, .int x2), (3, .int x3)]) hx hb dX5_placesOf_1 hl (by decide) rfl (fun ls hl => ?_)
  refine lv_iconst (v := 0) hx hb dX5_placesOf_3 (by decide) ?_
  refine lv_istore (lv' := [(5, .int 0), (4, .int 0), (0, .ref (ad γ 23)), (1, .int x1), (2, .int x2), (3, .int x3)]) hx hb dX5_placesOf_4 hl (by decide) rfl (fun ls hl => ?_)
  have L6 := it2_W (r5_placesOf_b6 M x1 x2 x3) (fun (x4_6 : Int32) (x5_6 : Int32) => ∀ (H : Heap) (locs : List Loc) (ls : Array Slot), va_P γ.1 vwCl (gw γ (T, P, X, Y, E, B, M, O)) H → va_S (gA γ s.heap.size) s.heap H locs → lv_has ls 6 [(0, .ref (ad γ 23)), (1, .int x1), (2, .int x2), (3, .int x3), (4, .int x4_6), (5, .int x5_6)] → W p l e (gR 5 0 0) s m args below meth c H locs 0 0 (MQ below (gQi γ r0 s.heap.size (T, P, X, Y, E, B, M, O)) args s 0 0 (gA γ s.heap.size)) (F0 m 6 ls [])) (fun (r_k : Int32) => (∀ (x4_x6 : Int32), r_k = x4_x6 → ∀ (H : Heap) (locs : List Loc) (ls : Array Slot), va_P γ.1 vwCl (gw γ (T, P, X, Y, E, B, M, O)) H → va_S (gA γ s.heap.size) s.heap H locs → lv_has ls 6 [(4, .int x4_x6)] → W p l e (gR 5 0 0) s m args below meth c H locs 0 0 (MQ below (gQi γ r0 s.heap.size (T, P, X, Y, E, B, M, O)) args s 0 0 (gA γ s.heap.size)) (F0 m 44 ls []))) (by
    intro x4_6 x5_6 o_6 h kS kR H locs ls hP hS hl
    unfold r5_placesOf_b6 at h
    refine lv_iload hx hb dX5_placesOf_6 (lv_at hl 5 rfl) ?_
    refine lv_bipush (v := 60) hx hb dX5_placesOf_8 (by decide) ?_
    refine lv_icmp_ge (tgt := 44) hx hb dX5_placesOf_10 (by decide) (fun c1 => ?_) (fun c1 => ?_)
    · rw [if_pos c1] at h
      cases h
      exact kR _ rfl _ rfl _ _ _ hP hS (lv_sub hl [4] rfl)
    · rw [if_neg c1] at h
      refine lv_iload hx hb dX5_placesOf_13 (lv_at hl 4 rfl) ?_
      refine lv_aload_n hx hb dX5_placesOf_15 rfl (lv_at hl 0 rfl) ?_
      refine lv_iload_n hx hb dX5_placesOf_16 rfl (lv_at hl 1 rfl) ?_
      refine lv_iload hx hb dX5_placesOf_17 (lv_at hl 5 rfl) ?_
      obtain ⟨v2, hv, h⟩ := bd1_e h
      refine g_ki (g_runV (As := [.int x1, .int x5_6]) (rest := [.int x4_6]) hC hP (c5_obstacleOf l hv) (by decide) ge_23 rfl u_5_237 yv_X5_obstacleOf (Nat.le_of_ble_eq_true rfl) rfl hl.1 rfl (Nat.le_of_ble_eq_true rfl) dX5_placesOf_19 ⟨by decide, by decide⟩) hS (fun H locs hP hS => ?_)
      refine lv_iload_n hx hb dX5_placesOf_22 rfl (lv_at hl 2 rfl) ?_
      refine lv_iload_n hx hb dX5_placesOf_23 rfl (lv_at hl 3 rfl) ?_
      obtain ⟨v3, hv, h⟩ := bd1_e h
      refine g_ki (g_runS (As := [.int v2, .int x2, .int x3]) (rest := [.int x4_6]) hC hP (c5_in l hv) u_5_210 yv_X5_in (Nat.le_of_ble_eq_true rfl) rfl hl.1 rfl (Nat.le_of_ble_eq_true rfl) dX5_placesOf_24 ⟨by decide, by decide⟩) hS (fun H locs hP hS => ?_)
      refine lv_if_eq (tgt := 34) hx hb dX5_placesOf_27 (by decide) (fun c4 => ?_) (fun c4 => ?_)
      · rw [if_pos c4] at h
        refine lv_iconst (v := 0) hx hb dX5_placesOf_34 (by decide) ?_
        refine lv_iadd hx hb dX5_placesOf_35 ?_
        refine lv_istore (lv' := [(4, .int (x4_6 + 0)), (0, .ref (ad γ 23)), (1, .int x1), (2, .int x2), (3, .int x3), (5, .int x5_6)]) hx hb dX5_placesOf_36 hl (by decide) rfl (fun ls hl => ?_)
        refine lv_iinc (v := (x5_6 + 1)) (lv' := [(5, .int (x5_6 + 1)), (4, .int (x4_6 + 0)), (0, .ref (ad γ 23)), (1, .int x1), (2, .int x2), (3, .int x3)]) hx hb dX5_placesOf_38 hl (k := 5) rfl rfl (by decide) rfl (fun ls hl => ?_)
        refine lv_goto (tgt := 6) hx hb dX5_placesOf_41 (by decide) ?_
        cases h
        exact kS _ _ rfl _ _ _ hP hS (lv_sub hl [2, 3, 4, 5, 1, 0] rfl)
      · rw [if_neg c4] at h
        refine lv_iconst (v := 1) hx hb dX5_placesOf_30 (by decide) ?_
        refine lv_goto (tgt := 35) hx hb dX5_placesOf_31 (by decide) ?_
        refine lv_iadd hx hb dX5_placesOf_35 ?_
        refine lv_istore (lv' := [(4, .int (x4_6 + 1)), (0, .ref (ad γ 23)), (1, .int x1), (2, .int x2), (3, .int x3), (5, .int x5_6)]) hx hb dX5_placesOf_36 hl (by decide) rfl (fun ls hl => ?_)
        refine lv_iinc (v := (x5_6 + 1)) (lv' := [(5, .int (x5_6 + 1)), (4, .int (x4_6 + 1)), (0, .ref (ad γ 23)), (1, .int x1), (2, .int x2), (3, .int x3)]) hx hb dX5_placesOf_38 hl (k := 5) rfl rfl (by decide) rfl (fun ls hl => ?_)
        refine lv_goto (tgt := 6) hx hb dX5_placesOf_41 (by decide) ?_
        cases h
        exact kS _ _ rfl _ _ _ hP hS (lv_sub hl [2, 3, 4, 5, 1, 0] rfl))
  obtain ⟨x4_x6, hv, h⟩ := bd1_e h
  refine L6 _ _ _ _ hv (fun q0 e9 H locs ls hP hS hl => ?_) _ _ _ hP hS (lv_sub hl [2, 3, 4, 5, 1, 0] rfl)
  obtain rfl := e9
  refine lv_iload hx hb dX5_placesOf_44 (lv_at hl 0 rfl) ?_
  cases h
  exact g_iret hC hP hS dX5_placesOf_46 rfl
def r5_places_j28 (M_28 : OS) (x1 : Int32) (x2 : Int32) (s0_28 : Int32)  : Option (Int32 × OS) :=
  (sw M_28 0 s0_28).bind fun M1 =>
  (if (M1 0 0) = 0 then bd1 (r5_placesOf M1 x1 x2 x2) (fun v3 =>
  some (v3, M1))
  else some (0, M1))
def r5_places (M : OS) (x1 : Int32) (x2 : Int32) : Option (Int32 × OS) :=
  bd1 (r5_isEvent M x1) (fun v4 =>
  (if v4 = 0 then r5_places_j28 M x1 x2 1
  else bd1 (r5_in x2 0 7) (fun v6 =>
  (if v6 = 0 then r5_places_j28 M x1 x2 2
  else r5_places_j28 M x1 x2 0))))
theorem yv_X5_places : gYV yX5_places cX5_places 3 (some .int) 2 := ⟨u_6_115, u_6_116, u_1_7, u_6_117, ⟨by decide +kernel, by decide +kernel, by decide +kernel⟩, by decide⟩
set_option maxHeartbeats 4000000 in
set_option maxRecDepth 100000 in
theorem c5_places (l : Launch) {γ : GA} {sz : Nat} {T P X Y B M : OS} {E : Nat → OS} {O : Nat → Int64} {x1 : Int32} {x2 : Int32} {r0 : Int32} {Mz : OS} (h : r5_places M x1 x2 = some (r0, Mz)) : Met l yX5_places (gU yX5_places cX5_places 3 (some .int)) (gR 6 0 0) (gPc γ [.ref (ad γ 23), .int x1, .int x2] sz (T, P, X, Y, E, B, M, O)) (gQi γ r0 sz (T, P, X, Y, E, B, Mz, O)) 0 0 (gA γ sz) := by
  refine g_met (fun sz => gQi γ r0 sz (T, P, X, Y, E, B, Mz, O)) (by decide) (Nat.le_of_ble_eq_true rfl) ?_
  intro p e s m args below meth c ls hC hP hS hl
  have hx := hC.x
  have hb := hC.b
  have hl : lv_has ls 3 [(0, .ref (ad γ 23)), (1, .int x1), (2, .int x2)] := hl
  unfold r5_places at h
  have J28 : ∀ (M_28 : OS) (s0_28 : Int32) (h : r5_places_j28 M_28 x1 x2 s0_28 = some (r0, Mz)), ∀ (H : Heap) (locs : List Loc) (ls : Array Slot), va_P γ.1 vwCl (gw γ (T, P, X, Y, E, B, M_28, O)) H → va_S (gA γ s.heap.size) s.heap H locs → lv_has ls 3 [(0, .ref (ad γ 23)), (1, .int x1), (2, .int x2)] → W p l e (gR 6 0 0) s m args below meth c H locs 0 0 (MQ below (gQi γ r0 s.heap.size (T, P, X, Y, E, B, Mz, O)) args s 0 0 (gA γ s.heap.size)) (F0 m 28 ls [.int s0_28, .ref (ad γ 23)]) := by
    intro M_28 s0_28 h H locs ls hP hS hl
    unfold r5_places_j28 at h
    obtain ⟨M1, hv, h⟩ := ob h
    refine g_putI hC hP hS (fun Z => (T, P, X, Y, E, B, Z, O)) 0 tyX5 dX5_places_28 (by decide) ge_23 rfl inX5 tyX5_ok nmX5 (by decide) u_5_154 rfl rfl (Nat.le_of_ble_eq_true rfl) gp_23_0 hv (fun H locs hP hS => ?_)
    refine lv_aload_n hx hb dX5_places_31 rfl (lv_at hl 0 rfl) ?_
    refine g_get hC hP 0 dX5_places_32 (by decide) ge_23 rfl inX5 (by decide) rfl u_5_154 ?_
    refine lv_if_ne (tgt := 48) hx hb dX5_places_35 (by decide) (fun c2 => ?_) (fun c2 => ?_)
    · rw [if_neg c2] at h
      refine lv_iconst (v := 0) hx hb dX5_places_48 (by decide) ?_
      cases h
      exact g_iret hC hP hS dX5_places_49 rfl
    · rw [if_pos c2] at h
      refine lv_aload_n hx hb dX5_places_38 rfl (lv_at hl 0 rfl) ?_
      refine lv_iload_n hx hb dX5_places_39 rfl (lv_at hl 1 rfl) ?_
      refine lv_iload_n hx hb dX5_places_40 rfl (lv_at hl 2 rfl) ?_
      refine lv_iload_n hx hb dX5_places_41 rfl (lv_at hl 2 rfl) ?_
      obtain ⟨v3, hv, h⟩ := bd1_e h
      refine g_ki (g_runV (As := [.int x1, .int x2, .int x2]) (rest := []) hC hP (c5_placesOf l hv) (by decide) ge_23 rfl u_6_118 yv_X5_placesOf (Nat.le_of_ble_eq_true rfl) rfl hl.1 rfl (Nat.le_of_ble_eq_true rfl) dX5_places_42 ⟨by decide, by decide⟩) hS (fun H locs hP hS => ?_)
      refine lv_goto (tgt := 49) hx hb dX5_places_45 (by decide) ?_
      cases h
      exact g_iret hC hP hS dX5_places_49 rfl
  refine lv_aload_n hx hb dX5_places_0 rfl (lv_at hl 0 rfl) ?_
  refine lv_aload_n hx hb dX5_places_1 rfl (lv_at hl 0 rfl) ?_
  refine lv_iload_n hx hb dX5_places_2 rfl (lv_at hl 1 rfl) ?_
  obtain ⟨v4, hv, h⟩ := bd1_e h
  refine g_ki (g_runV (As := [.int x1]) (rest := [.ref (ad γ 23)]) hC hP (c5_isEvent l hv) (by decide) ge_23 rfl u_6_71 yv_X5_isEvent (Nat.le_of_ble_eq_true rfl) rfl hl.1 rfl (Nat.le_of_ble_eq_true rfl) dX5_places_3 ⟨by decide, by decide⟩) hS (fun H locs hP hS => ?_)
  refine lv_if_ne (tgt := 13) hx hb dX5_places_6 (by decide) (fun c5 => ?_) (fun c5 => ?_)
  · rw [if_neg c5] at h
    refine lv_iload_n hx hb dX5_places_13 rfl (lv_at hl 2 rfl) ?_
    refine lv_iconst (v := 0) hx hb dX5_places_14 (by decide) ?_
    refine lv_bipush (v := 7) hx hb dX5_places_15 (by decide) ?_
    obtain ⟨v6, hv, h⟩ := bd1_e h
    refine g_ki (g_runS (As := [.int x2, .int 0, .int 7]) (rest := [.ref (ad γ 23)]) hC hP (c5_in l hv) u_5_210 yv_X5_in (Nat.le_of_ble_eq_true rfl) rfl hl.1 rfl (Nat.le_of_ble_eq_true rfl) dX5_places_17 ⟨by decide, by decide⟩) hS (fun H locs hP hS => ?_)
    refine lv_if_eq (tgt := 27) hx hb dX5_places_20 (by decide) (fun c7 => ?_) (fun c7 => ?_)
    · rw [if_pos c7] at h
      refine lv_iconst (v := 2) hx hb dX5_places_27 (by decide) ?_
      exact J28 M 2 h _ _ _ hP hS (lv_sub hl [0, 1, 2] rfl)
    · rw [if_neg c7] at h
      refine lv_iconst (v := 0) hx hb dX5_places_23 (by decide) ?_
      refine lv_goto (tgt := 28) hx hb dX5_places_24 (by decide) ?_
      exact J28 M 0 h _ _ _ hP hS (lv_sub hl [0, 1, 2] rfl)
  · rw [if_pos c5] at h
    refine lv_iconst (v := 1) hx hb dX5_places_9 (by decide) ?_
    refine lv_goto (tgt := 28) hx hb dX5_places_10 (by decide) ?_
    exact J28 M 1 h _ _ _ hP hS (lv_sub hl [0, 1, 2] rfl)
def r5_free_b39 (M1 : OS) (x1 : Int32) (x2 : Int32) (x3_39 : Int32) (x4_39 : Int32) : Option ((Int32 × Int32) ⊕ ((Unit) ⊕ (Int32 × OS))) :=
  (if 60 ≤ x4_39 then some (.inr (.inl ()))
  else bd1 (r5_obstacleOf M1 x1 x4_39) (fun v4 =>
  (if v4 = 0 then (if x3_39 = x2 then some (.inr (.inr (x4_39, M1)))
  else some (.inl ((x3_39 + 1), (x4_39 + 1))))
  else some (.inl (x3_39, (x4_39 + 1))))))
def r5_free_j22 (M_22 : OS) (x1 : Int32) (x2 : Int32) (s0_22 : Int32)  : Option (Int32 × OS) :=
  (sw M_22 0 s0_22).bind fun M1 =>
  (if (M1 0 0) = 0 then bs0 (it2 (r5_free_b39 M1 x1 x2) 200 0 0) (fun _ => (sw M1 0 2).bind fun M7 =>
  some (0, M7)) (fun t8 => some t8)
  else some (0, M1))
def r5_free (M : OS) (x1 : Int32) (x2 : Int32) : Option (Int32 × OS) :=
  bd1 (r5_isEvent M x1) (fun v9 =>
  (if v9 = 0 then r5_free_j22 M x1 x2 1
  else (if 0 ≤ x2 then r5_free_j22 M x1 x2 0
  else r5_free_j22 M x1 x2 2)))
theorem yv_X5_free : gYV yX5_free cX5_free 5 (some .int) 2 := ⟨u_6_123, u_6_124, u_1_7, u_6_125, ⟨by decide +kernel, by decide +kernel, by decide +kernel⟩, by decide⟩
set_option maxHeartbeats 4000000 in
set_option maxRecDepth 100000 in
theorem c5_free (l : Launch) {γ : GA} {sz : Nat} {T P X Y B M : OS} {E : Nat → OS} {O : Nat → Int64} {x1 : Int32} {x2 : Int32} {r0 : Int32} {Mz : OS} (h : r5_free M x1 x2 = some (r0, Mz)) : Met l yX5_free (gU yX5_free cX5_free 5 (some .int)) (gR 5 0 0) (gPc γ [.ref (ad γ 23), .int x1, .int x2] sz (T, P, X, Y, E, B, M, O)) (gQi γ r0 sz (T, P, X, Y, E, B, Mz, O)) 0 0 (gA γ sz) := by
  refine g_met (fun sz => gQi γ r0 sz (T, P, X, Y, E, B, Mz, O)) (by decide) (Nat.le_of_ble_eq_true rfl) ?_
  intro p e s m args below meth c ls hC hP hS hl
  have hx := hC.x
  have hb := hC.b
  have hl : lv_has ls 5 [(0, .ref (ad γ 23)), (1, .int x1), (2, .int x2)] := hl
  unfold r5_free at h
  have J22 : ∀ (M_22 : OS) (s0_22 : Int32) (h : r5_free_j22 M_22 x1 x2 s0_22 = some (r0, Mz)), ∀ (H : Heap) (locs : List Loc) (ls : Array Slot), va_P γ.1 vwCl (gw γ (T, P, X, Y, E, B, M_22, O)) H → va_S (gA γ s.heap.size) s.heap H locs → lv_has ls 5 [(0, .ref (ad γ 23)), (1, .int x1), (2, .int x2)] → W p l e (gR 5 0 0) s m args below meth c H locs 0 0 (MQ below (gQi γ r0 s.heap.size (T, P, X, Y, E, B, Mz, O)) args s 0 0 (gA γ s.heap.size)) (F0 m 22 ls [.int s0_22, .ref (ad γ 23)]) := by
    intro M_22 s0_22 h H locs ls hP hS hl
    unfold r5_free_j22 at h
    obtain ⟨M1, hv, h⟩ := ob h
    refine g_putI hC hP hS (fun Z => (T, P, X, Y, E, B, Z, O)) 0 tyX5 dX5_free_22 (by decide) ge_23 rfl inX5 tyX5_ok nmX5 (by decide) u_5_154 rfl rfl (Nat.le_of_ble_eq_true rfl) gp_23_0 hv (fun H locs hP hS => ?_)
    refine lv_aload_n hx hb dX5_free_25 rfl (lv_at hl 0 rfl) ?_
    refine g_get hC hP 0 dX5_free_26 (by decide) ge_23 rfl inX5 (by decide) rfl u_5_154 ?_
    refine lv_if_eq (tgt := 34) hx hb dX5_free_29 (by decide) (fun c2 => ?_) (fun c2 => ?_)
    · rw [if_pos c2] at h
      refine lv_iconst (v := 0) hx hb dX5_free_34 (by decide) ?_
      refine lv_istore_n (lv' := [(3, .int 0), (0, .ref (ad γ 23)), (1, .int x1), (2, .int x2)]) hx hb dX5_free_35 rfl hl (by decide) rfl (fun ls hl => ?_)
      refine lv_iconst (v := 0) hx hb dX5_free_36 (by decide) ?_
      refine lv_istore (lv' := [(4, .int 0), (3, .int 0), (0, .ref (ad γ 23)), (1, .int x1), (2, .int x2)]) hx hb dX5_free_37 hl (by decide) rfl (fun ls hl => ?_)
      have L39 := it2_W (r5_free_b39 M1 x1 x2) (fun (x3_39 : Int32) (x4_39 : Int32) => ∀ (H : Heap) (locs : List Loc) (ls : Array Slot), va_P γ.1 vwCl (gw γ (T, P, X, Y, E, B, M1, O)) H → va_S (gA γ s.heap.size) s.heap H locs → lv_has ls 5 [(0, .ref (ad γ 23)), (1, .int x1), (2, .int x2), (3, .int x3_39), (4, .int x4_39)] → W p l e (gR 5 0 0) s m args below meth c H locs 0 0 (MQ below (gQi γ r0 s.heap.size (T, P, X, Y, E, B, Mz, O)) args s 0 0 (gA γ s.heap.size)) (F0 m 39 ls [])) (fun (r_k : (Unit) ⊕ (Int32 × OS)) => (r_k = .inl () → ∀ (H : Heap) (locs : List Loc) (ls : Array Slot), va_P γ.1 vwCl (gw γ (T, P, X, Y, E, B, M1, O)) H → va_S (gA γ s.heap.size) s.heap H locs → lv_has ls 5 [(0, .ref (ad γ 23))] → W p l e (gR 5 0 0) s m args below meth c H locs 0 0 (MQ below (gQi γ r0 s.heap.size (T, P, X, Y, E, B, Mz, O)) args s 0 0 (gA γ s.heap.size)) (F0 m 76 ls [])) ∧ (∀ t_k, r_k = .inr t_k → t_k = (r0, Mz))) (by
        intro x3_39 x4_39 o_39 h kS kR H locs ls hP hS hl
        unfold r5_free_b39 at h
        refine lv_iload hx hb dX5_free_39 (lv_at hl 4 rfl) ?_
        refine lv_bipush (v := 60) hx hb dX5_free_41 (by decide) ?_
        refine lv_icmp_ge (tgt := 76) hx hb dX5_free_43 (by decide) (fun c3 => ?_) (fun c3 => ?_)
        · rw [if_pos c3] at h
          cases h
          exact (kR _ rfl).1  rfl _ _ _ hP hS (lv_sub hl [0] rfl)
        · rw [if_neg c3] at h
          refine lv_aload_n hx hb dX5_free_46 rfl (lv_at hl 0 rfl) ?_
          refine lv_iload_n hx hb dX5_free_47 rfl (lv_at hl 1 rfl) ?_
          refine lv_iload hx hb dX5_free_48 (lv_at hl 4 rfl) ?_
          obtain ⟨v4, hv, h⟩ := bd1_e h
          refine g_ki (g_runV (As := [.int x1, .int x4_39]) (rest := []) hC hP (c5_obstacleOf l hv) (by decide) ge_23 rfl u_5_237 yv_X5_obstacleOf (Nat.le_of_ble_eq_true rfl) rfl hl.1 rfl (Nat.le_of_ble_eq_true rfl) dX5_free_50 ⟨by decide, by decide⟩) hS (fun H locs hP hS => ?_)
          refine lv_if_eq (tgt := 59) hx hb dX5_free_53 (by decide) (fun c5 => ?_) (fun c5 => ?_)
          · rw [if_pos c5] at h
            refine lv_iload_n hx hb dX5_free_59 rfl (lv_at hl 3 rfl) ?_
            refine lv_iload_n hx hb dX5_free_60 rfl (lv_at hl 2 rfl) ?_
            refine lv_icmp_ne (tgt := 67) hx hb dX5_free_61 (by decide) (fun c6 => ?_) (fun c6 => ?_)
            · rw [if_neg c6] at h
              refine lv_iinc (v := (x3_39 + 1)) (lv' := [(3, .int (x3_39 + 1)), (0, .ref (ad γ 23)), (1, .int x1), (2, .int x2), (4, .int x4_39)]) hx hb dX5_free_67 hl (k := 3) rfl rfl (by decide) rfl (fun ls hl => ?_)
              refine lv_iinc (v := (x4_39 + 1)) (lv' := [(4, .int (x4_39 + 1)), (3, .int (x3_39 + 1)), (0, .ref (ad γ 23)), (1, .int x1), (2, .int x2)]) hx hb dX5_free_70 hl (k := 4) rfl rfl (by decide) rfl (fun ls hl => ?_)
              refine lv_goto (tgt := 39) hx hb dX5_free_73 (by decide) ?_
              cases h
              exact kS _ _ rfl _ _ _ hP hS (lv_sub hl [2, 3, 4, 1, 0] rfl)
            · rw [if_pos c6] at h
              refine lv_iload hx hb dX5_free_64 (lv_at hl 4 rfl) ?_
              cases h
              cases (kR _ rfl).2 _ rfl
              exact g_iret hC hP hS dX5_free_66 rfl
          · rw [if_neg c5] at h
            refine lv_goto (tgt := 70) hx hb dX5_free_56 (by decide) ?_
            refine lv_iinc (v := (x4_39 + 1)) (lv' := [(4, .int (x4_39 + 1)), (0, .ref (ad γ 23)), (1, .int x1), (2, .int x2), (3, .int x3_39)]) hx hb dX5_free_70 hl (k := 4) rfl rfl (by decide) rfl (fun ls hl => ?_)
            refine lv_goto (tgt := 39) hx hb dX5_free_73 (by decide) ?_
            cases h
            exact kS _ _ rfl _ _ _ hP hS (lv_sub hl [1, 2, 3, 4, 0] rfl))
      rcases bs0_e h with ⟨hv, h⟩ | ⟨t8, hv, h⟩
      · refine L39 _ _ _ _ hv ⟨fun e9 H locs ls hP hS hl => ?_, fun t9 e9 => nomatch e9⟩ _ _ _ hP hS (lv_sub hl [2, 3, 4, 1, 0] rfl)
        skip
        refine lv_aload_n hx hb dX5_free_76 rfl (lv_at hl 0 rfl) ?_
        refine lv_iconst (v := 2) hx hb dX5_free_77 (by decide) ?_
        obtain ⟨M7, hv, h⟩ := ob h
        refine g_putI hC hP hS (fun Z => (T, P, X, Y, E, B, Z, O)) 0 tyX5 dX5_free_78 (by decide) ge_23 rfl inX5 tyX5_ok nmX5 (by decide) u_5_154 rfl rfl (Nat.le_of_ble_eq_true rfl) gp_23_0 hv (fun H locs hP hS => ?_)
        refine lv_iconst (v := 0) hx hb dX5_free_81 (by decide) ?_
        cases h
        exact g_iret hC hP hS dX5_free_82 rfl
      · refine L39 _ _ _ _ hv ⟨fun e9 => (nomatch e9), fun t9 e9 => ?_⟩ _ _ _ hP hS (lv_sub hl [2, 3, 4, 1, 0] rfl)
        cases e9
        exact Option.some.inj h
    · rw [if_neg c2] at h
      refine lv_iconst (v := 0) hx hb dX5_free_32 (by decide) ?_
      cases h
      exact g_iret hC hP hS dX5_free_33 rfl
  refine lv_aload_n hx hb dX5_free_0 rfl (lv_at hl 0 rfl) ?_
  refine lv_aload_n hx hb dX5_free_1 rfl (lv_at hl 0 rfl) ?_
  refine lv_iload_n hx hb dX5_free_2 rfl (lv_at hl 1 rfl) ?_
  obtain ⟨v9, hv, h⟩ := bd1_e h
  refine g_ki (g_runV (As := [.int x1]) (rest := [.ref (ad γ 23)]) hC hP (c5_isEvent l hv) (by decide) ge_23 rfl u_6_71 yv_X5_isEvent (Nat.le_of_ble_eq_true rfl) rfl hl.1 rfl (Nat.le_of_ble_eq_true rfl) dX5_free_3 ⟨by decide, by decide⟩) hS (fun H locs hP hS => ?_)
  refine lv_if_ne (tgt := 13) hx hb dX5_free_6 (by decide) (fun c10 => ?_) (fun c10 => ?_)
  · rw [if_neg c10] at h
    refine lv_iload_n hx hb dX5_free_13 rfl (lv_at hl 2 rfl) ?_
    refine lv_if_ge (tgt := 21) hx hb dX5_free_14 (by decide) (fun c11 => ?_) (fun c11 => ?_)
    · rw [if_pos c11] at h
      refine lv_iconst (v := 0) hx hb dX5_free_21 (by decide) ?_
      exact J22 M 0 h _ _ _ hP hS (lv_sub hl [0, 1, 2] rfl)
    · rw [if_neg c11] at h
      refine lv_iconst (v := 2) hx hb dX5_free_17 (by decide) ?_
      refine lv_goto (tgt := 22) hx hb dX5_free_18 (by decide) ?_
      exact J22 M 2 h _ _ _ hP hS (lv_sub hl [0, 1, 2] rfl)
  · rw [if_pos c10] at h
    refine lv_iconst (v := 1) hx hb dX5_free_9 (by decide) ?_
    refine lv_goto (tgt := 22) hx hb dX5_free_10 (by decide) ?_
    exact J22 M 1 h _ _ _ hP hS (lv_sub hl [0, 1, 2] rfl)
def r5_hindering_j21 (M_21 : OS) (x1 : Int32) (x2 : Int32) (s0_21 : Int32)  : Option (Int32 × OS) :=
  (sw M_21 0 s0_21).bind fun M1 =>
  (if (M1 0 0) = 0 then bd1 (r5_hinderingOf M1 x1 x2) (fun v3 =>
  some (v3, M1))
  else some (0, M1))
def r5_hindering (M : OS) (x1 : Int32) (x2 : Int32) : Option (Int32 × OS) :=
  bd1 (r5_isEvent M x1) (fun v4 =>
  (if v4 = 0 then r5_hindering_j21 M x1 x2 1
  else bd1 (r5_isPlace x2) (fun v6 =>
  (if v6 = 0 then r5_hindering_j21 M x1 x2 1
  else r5_hindering_j21 M x1 x2 0))))
theorem yv_X5_hindering : gYV yX5_hindering cX5_hindering 3 (some .int) 2 := ⟨u_6_127, u_6_128, u_1_7, u_6_129, ⟨by decide +kernel, by decide +kernel, by decide +kernel⟩, by decide⟩
set_option maxHeartbeats 4000000 in
set_option maxRecDepth 100000 in
theorem c5_hindering (l : Launch) {γ : GA} {sz : Nat} {T P X Y B M : OS} {E : Nat → OS} {O : Nat → Int64} {x1 : Int32} {x2 : Int32} {r0 : Int32} {Mz : OS} (h : r5_hindering M x1 x2 = some (r0, Mz)) : Met l yX5_hindering (gU yX5_hindering cX5_hindering 3 (some .int)) (gR 5 0 0) (gPc γ [.ref (ad γ 23), .int x1, .int x2] sz (T, P, X, Y, E, B, M, O)) (gQi γ r0 sz (T, P, X, Y, E, B, Mz, O)) 0 0 (gA γ sz) := by
  refine g_met (fun sz => gQi γ r0 sz (T, P, X, Y, E, B, Mz, O)) (by decide) (Nat.le_of_ble_eq_true rfl) ?_
  intro p e s m args below meth c ls hC hP hS hl
  have hx := hC.x
  have hb := hC.b
  have hl : lv_has ls 3 [(0, .ref (ad γ 23)), (1, .int x1), (2, .int x2)] := hl
  unfold r5_hindering at h
  have J21 : ∀ (M_21 : OS) (s0_21 : Int32) (h : r5_hindering_j21 M_21 x1 x2 s0_21 = some (r0, Mz)), ∀ (H : Heap) (locs : List Loc) (ls : Array Slot), va_P γ.1 vwCl (gw γ (T, P, X, Y, E, B, M_21, O)) H → va_S (gA γ s.heap.size) s.heap H locs → lv_has ls 3 [(0, .ref (ad γ 23)), (1, .int x1), (2, .int x2)] → W p l e (gR 5 0 0) s m args below meth c H locs 0 0 (MQ below (gQi γ r0 s.heap.size (T, P, X, Y, E, B, Mz, O)) args s 0 0 (gA γ s.heap.size)) (F0 m 21 ls [.int s0_21, .ref (ad γ 23)]) := by
    intro M_21 s0_21 h H locs ls hP hS hl
    unfold r5_hindering_j21 at h
    obtain ⟨M1, hv, h⟩ := ob h
    refine g_putI hC hP hS (fun Z => (T, P, X, Y, E, B, Z, O)) 0 tyX5 dX5_hindering_21 (by decide) ge_23 rfl inX5 tyX5_ok nmX5 (by decide) u_5_154 rfl rfl (Nat.le_of_ble_eq_true rfl) gp_23_0 hv (fun H locs hP hS => ?_)
    refine lv_aload_n hx hb dX5_hindering_24 rfl (lv_at hl 0 rfl) ?_
    refine g_get hC hP 0 dX5_hindering_25 (by decide) ge_23 rfl inX5 (by decide) rfl u_5_154 ?_
    refine lv_if_ne (tgt := 40) hx hb dX5_hindering_28 (by decide) (fun c2 => ?_) (fun c2 => ?_)
    · rw [if_neg c2] at h
      refine lv_iconst (v := 0) hx hb dX5_hindering_40 (by decide) ?_
      cases h
      exact g_iret hC hP hS dX5_hindering_41 rfl
    · rw [if_pos c2] at h
      refine lv_aload_n hx hb dX5_hindering_31 rfl (lv_at hl 0 rfl) ?_
      refine lv_iload_n hx hb dX5_hindering_32 rfl (lv_at hl 1 rfl) ?_
      refine lv_iload_n hx hb dX5_hindering_33 rfl (lv_at hl 2 rfl) ?_
      obtain ⟨v3, hv, h⟩ := bd1_e h
      refine g_ki (g_runV (As := [.int x1, .int x2]) (rest := []) hC hP (c5_hinderingOf l hv) (by decide) ge_23 rfl u_6_130 yv_X5_hinderingOf (Nat.le_of_ble_eq_true rfl) rfl hl.1 rfl (Nat.le_of_ble_eq_true rfl) dX5_hindering_34 ⟨by decide, by decide⟩) hS (fun H locs hP hS => ?_)
      refine lv_goto (tgt := 41) hx hb dX5_hindering_37 (by decide) ?_
      cases h
      exact g_iret hC hP hS dX5_hindering_41 rfl
  refine lv_aload_n hx hb dX5_hindering_0 rfl (lv_at hl 0 rfl) ?_
  refine lv_aload_n hx hb dX5_hindering_1 rfl (lv_at hl 0 rfl) ?_
  refine lv_iload_n hx hb dX5_hindering_2 rfl (lv_at hl 1 rfl) ?_
  obtain ⟨v4, hv, h⟩ := bd1_e h
  refine g_ki (g_runV (As := [.int x1]) (rest := [.ref (ad γ 23)]) hC hP (c5_isEvent l hv) (by decide) ge_23 rfl u_6_71 yv_X5_isEvent (Nat.le_of_ble_eq_true rfl) rfl hl.1 rfl (Nat.le_of_ble_eq_true rfl) dX5_hindering_3 ⟨by decide, by decide⟩) hS (fun H locs hP hS => ?_)
  refine lv_if_eq (tgt := 20) hx hb dX5_hindering_6 (by decide) (fun c5 => ?_) (fun c5 => ?_)
  · rw [if_pos c5] at h
    refine lv_iconst (v := 1) hx hb dX5_hindering_20 (by decide) ?_
    exact J21 M 1 h _ _ _ hP hS (lv_sub hl [0, 1, 2] rfl)
  · rw [if_neg c5] at h
    refine lv_iload_n hx hb dX5_hindering_9 rfl (lv_at hl 2 rfl) ?_
    obtain ⟨v6, hv, h⟩ := bd1_e h
    refine g_ki (g_runS (As := [.int x2]) (rest := [.ref (ad γ 23)]) hC hP (c5_isPlace l hv) u_6_95 yv_X5_isPlace (Nat.le_of_ble_eq_true rfl) rfl hl.1 rfl (Nat.le_of_ble_eq_true rfl) dX5_hindering_10 ⟨by decide, by decide⟩) hS (fun H locs hP hS => ?_)
    refine lv_if_eq (tgt := 20) hx hb dX5_hindering_13 (by decide) (fun c7 => ?_) (fun c7 => ?_)
    · rw [if_pos c7] at h
      refine lv_iconst (v := 1) hx hb dX5_hindering_20 (by decide) ?_
      exact J21 M 1 h _ _ _ hP hS (lv_sub hl [0, 1, 2] rfl)
    · rw [if_neg c7] at h
      refine lv_iconst (v := 0) hx hb dX5_hindering_16 (by decide) ?_
      refine lv_goto (tgt := 21) hx hb dX5_hindering_17 (by decide) ?_
      exact J21 M 0 h _ _ _ hP hS (lv_sub hl [0, 1, 2] rfl)
def r5_at_b39 (M1 : OS) (x1 : Int32) (x2 : Int32) (x3_39 : Int32) : Option ((Int32) ⊕ ((Unit) ⊕ (Int32 × OS))) :=
  bd1 (r5_many M1) (fun v3 =>
  (if v3 ≤ x3_39 then some (.inr (.inl ()))
  else bd1 (r5_slotsOf M1 x3_39) (fun v5 =>
  (if ((v5 >>> (x1 &&& 31)) &&& 1) = 1 then bd1 (r5_of M1 84 x3_39) (fun v7 =>
  (if (im v7 6) = x2 then some (.inr (.inr (x3_39, M1)))
  else some (.inl (x3_39 + 1))))
  else some (.inl (x3_39 + 1))))))
def r5_at_j25 (M_25 : OS) (x1 : Int32) (x2 : Int32) (s0_25 : Int32)  : Option (Int32 × OS) :=
  (sw M_25 0 s0_25).bind fun M1 =>
  (if (M1 0 0) = 0 then bs0 (it1 (r5_at_b39 M1 x1 x2) 200 0) (fun _ => (sw M1 0 2).bind fun M9 =>
  some (0, M9)) (fun t10 => some t10)
  else some (0, M1))
def r5_at (M : OS) (x1 : Int32) (x2 : Int32) : Option (Int32 × OS) :=
  bd1 (r5_in x1 0 9) (fun v11 =>
  (if v11 = 0 then r5_at_j25 M x1 x2 1
  else bd1 (r5_in x2 0 5) (fun v13 =>
  (if v13 = 0 then r5_at_j25 M x1 x2 1
  else r5_at_j25 M x1 x2 0))))
theorem yv_X5_at : gYV yX5_at cX5_at 4 (some .int) 2 := ⟨u_6_135, u_6_136, u_1_7, u_6_137, ⟨by decide +kernel, by decide +kernel, by decide +kernel⟩, by decide⟩
set_option maxHeartbeats 4000000 in
set_option maxRecDepth 100000 in
theorem c5_at (l : Launch) {γ : GA} {sz : Nat} {T P X Y B M : OS} {E : Nat → OS} {O : Nat → Int64} {x1 : Int32} {x2 : Int32} {r0 : Int32} {Mz : OS} (h : r5_at M x1 x2 = some (r0, Mz)) : Met l yX5_at (gU yX5_at cX5_at 4 (some .int)) (gR 3 0 0) (gPc γ [.ref (ad γ 23), .int x1, .int x2] sz (T, P, X, Y, E, B, M, O)) (gQi γ r0 sz (T, P, X, Y, E, B, Mz, O)) 0 0 (gA γ sz) := by
  refine g_met (fun sz => gQi γ r0 sz (T, P, X, Y, E, B, Mz, O)) (by decide) (Nat.le_of_ble_eq_true rfl) ?_
  intro p e s m args below meth c ls hC hP hS hl
  have hx := hC.x
  have hb := hC.b
  have hl : lv_has ls 4 [(0, .ref (ad γ 23)), (1, .int x1), (2, .int x2)] := hl
  unfold r5_at at h
  have J25 : ∀ (M_25 : OS) (s0_25 : Int32) (h : r5_at_j25 M_25 x1 x2 s0_25 = some (r0, Mz)), ∀ (H : Heap) (locs : List Loc) (ls : Array Slot), va_P γ.1 vwCl (gw γ (T, P, X, Y, E, B, M_25, O)) H → va_S (gA γ s.heap.size) s.heap H locs → lv_has ls 4 [(0, .ref (ad γ 23)), (1, .int x1), (2, .int x2)] → W p l e (gR 3 0 0) s m args below meth c H locs 0 0 (MQ below (gQi γ r0 s.heap.size (T, P, X, Y, E, B, Mz, O)) args s 0 0 (gA γ s.heap.size)) (F0 m 25 ls [.int s0_25, .ref (ad γ 23)]) := by
    intro M_25 s0_25 h H locs ls hP hS hl
    unfold r5_at_j25 at h
    obtain ⟨M1, hv, h⟩ := ob h
    refine g_putI hC hP hS (fun Z => (T, P, X, Y, E, B, Z, O)) 0 tyX5 dX5_at_25 (by decide) ge_23 rfl inX5 tyX5_ok nmX5 (by decide) u_5_154 rfl rfl (Nat.le_of_ble_eq_true rfl) gp_23_0 hv (fun H locs hP hS => ?_)
    refine lv_aload_n hx hb dX5_at_28 rfl (lv_at hl 0 rfl) ?_
    refine g_get hC hP 0 dX5_at_29 (by decide) ge_23 rfl inX5 (by decide) rfl u_5_154 ?_
    refine lv_if_eq (tgt := 37) hx hb dX5_at_32 (by decide) (fun c2 => ?_) (fun c2 => ?_)
    · rw [if_pos c2] at h
      refine lv_iconst (v := 0) hx hb dX5_at_37 (by decide) ?_
      refine lv_istore_n (lv' := [(3, .int 0), (0, .ref (ad γ 23)), (1, .int x1), (2, .int x2)]) hx hb dX5_at_38 rfl hl (by decide) rfl (fun ls hl => ?_)
      have L39 := it1_W (r5_at_b39 M1 x1 x2) (fun (x3_39 : Int32) => ∀ (H : Heap) (locs : List Loc) (ls : Array Slot), va_P γ.1 vwCl (gw γ (T, P, X, Y, E, B, M1, O)) H → va_S (gA γ s.heap.size) s.heap H locs → lv_has ls 4 [(0, .ref (ad γ 23)), (1, .int x1), (2, .int x2), (3, .int x3_39)] → W p l e (gR 3 0 0) s m args below meth c H locs 0 0 (MQ below (gQi γ r0 s.heap.size (T, P, X, Y, E, B, Mz, O)) args s 0 0 (gA γ s.heap.size)) (F0 m 39 ls [])) (fun (r_k : (Unit) ⊕ (Int32 × OS)) => (r_k = .inl () → ∀ (H : Heap) (locs : List Loc) (ls : Array Slot), va_P γ.1 vwCl (gw γ (T, P, X, Y, E, B, M1, O)) H → va_S (gA γ s.heap.size) s.heap H locs → lv_has ls 4 [(0, .ref (ad γ 23))] → W p l e (gR 3 0 0) s m args below meth c H locs 0 0 (MQ below (gQi γ r0 s.heap.size (T, P, X, Y, E, B, Mz, O)) args s 0 0 (gA γ s.heap.size)) (F0 m 82 ls [])) ∧ (∀ t_k, r_k = .inr t_k → t_k = (r0, Mz))) (by
        intro x3_39 o_39 h kS kR H locs ls hP hS hl
        unfold r5_at_b39 at h
        refine lv_iload_n hx hb dX5_at_39 rfl (lv_at hl 3 rfl) ?_
        refine lv_aload_n hx hb dX5_at_40 rfl (lv_at hl 0 rfl) ?_
        obtain ⟨v3, hv, h⟩ := bd1_e h
        refine g_ki (g_runV (As := []) (rest := [.int x3_39]) hC hP (c5_many l hv) (by decide) ge_23 rfl u_5_225 yv_X5_many (Nat.le_of_ble_eq_true rfl) rfl hl.1 rfl (Nat.le_of_ble_eq_true rfl) dX5_at_41 ⟨by decide, by decide⟩) hS (fun H locs hP hS => ?_)
        refine lv_icmp_ge (tgt := 82) hx hb dX5_at_44 (by decide) (fun c4 => ?_) (fun c4 => ?_)
        · rw [if_pos c4] at h
          cases h
          exact (kR _ rfl).1  rfl _ _ _ hP hS (lv_sub hl [0] rfl)
        · rw [if_neg c4] at h
          refine lv_aload_n hx hb dX5_at_47 rfl (lv_at hl 0 rfl) ?_
          refine lv_iload_n hx hb dX5_at_48 rfl (lv_at hl 3 rfl) ?_
          obtain ⟨v5, hv, h⟩ := bd1_e h
          refine g_ki (g_runV (As := [.int x3_39]) (rest := []) hC hP (c5_slotsOf l hv) (by decide) ge_23 rfl u_6_15 yv_X5_slotsOf (Nat.le_of_ble_eq_true rfl) rfl hl.1 rfl (Nat.le_of_ble_eq_true rfl) dX5_at_49 ⟨by decide, by decide⟩) hS (fun H locs hP hS => ?_)
          refine lv_iload_n hx hb dX5_at_52 rfl (lv_at hl 1 rfl) ?_
          refine lv_ishr hx hb dX5_at_53 ?_
          refine lv_iconst (v := 1) hx hb dX5_at_54 (by decide) ?_
          refine lv_iand hx hb dX5_at_55 ?_
          refine lv_iconst (v := 1) hx hb dX5_at_56 (by decide) ?_
          refine lv_icmp_ne (tgt := 76) hx hb dX5_at_57 (by decide) (fun c6 => ?_) (fun c6 => ?_)
          · rw [if_neg c6] at h
            refine lv_iinc (v := (x3_39 + 1)) (lv' := [(3, .int (x3_39 + 1)), (0, .ref (ad γ 23)), (1, .int x1), (2, .int x2)]) hx hb dX5_at_76 hl (k := 3) rfl rfl (by decide) rfl (fun ls hl => ?_)
            refine lv_goto (tgt := 39) hx hb dX5_at_79 (by decide) ?_
            cases h
            exact kS _ rfl _ _ _ hP hS (lv_sub hl [1, 2, 3, 0] rfl)
          · rw [if_pos c6] at h
            refine lv_aload_n hx hb dX5_at_60 rfl (lv_at hl 0 rfl) ?_
            refine lv_bipush (v := 84) hx hb dX5_at_61 (by decide) ?_
            refine lv_iload_n hx hb dX5_at_63 rfl (lv_at hl 3 rfl) ?_
            obtain ⟨v7, hv, h⟩ := bd1_e h
            refine g_ki (g_runV (As := [.int 84, .int x3_39]) (rest := []) hC hP (c5_of l hv) (by decide) ge_23 rfl u_5_229 yv_X5_of (Nat.le_of_ble_eq_true rfl) rfl hl.1 rfl (Nat.le_of_ble_eq_true rfl) dX5_at_64 ⟨by decide, by decide⟩) hS (fun H locs hP hS => ?_)
            refine lv_bipush (v := 6) hx hb dX5_at_67 (by decide) ?_
            refine lv_irem hx hb dX5_at_69 (by decide) ?_
            refine lv_iload_n hx hb dX5_at_70 rfl (lv_at hl 2 rfl) ?_
            refine lv_icmp_ne (tgt := 76) hx hb dX5_at_71 (by decide) (fun c8 => ?_) (fun c8 => ?_)
            · rw [if_neg c8] at h
              refine lv_iinc (v := (x3_39 + 1)) (lv' := [(3, .int (x3_39 + 1)), (0, .ref (ad γ 23)), (1, .int x1), (2, .int x2)]) hx hb dX5_at_76 hl (k := 3) rfl rfl (by decide) rfl (fun ls hl => ?_)
              refine lv_goto (tgt := 39) hx hb dX5_at_79 (by decide) ?_
              cases h
              exact kS _ rfl _ _ _ hP hS (lv_sub hl [1, 2, 3, 0] rfl)
            · rw [if_pos c8] at h
              refine lv_iload_n hx hb dX5_at_74 rfl (lv_at hl 3 rfl) ?_
              cases h
              cases (kR _ rfl).2 _ rfl
              exact g_iret hC hP hS dX5_at_75 rfl)
      rcases bs0_e h with ⟨hv, h⟩ | ⟨t10, hv, h⟩
      · refine L39 _ _ _ hv ⟨fun e9 H locs ls hP hS hl => ?_, fun t9 e9 => nomatch e9⟩ _ _ _ hP hS (lv_sub hl [1, 2, 3, 0] rfl)
        skip
        refine lv_aload_n hx hb dX5_at_82 rfl (lv_at hl 0 rfl) ?_
        refine lv_iconst (v := 2) hx hb dX5_at_83 (by decide) ?_
        obtain ⟨M9, hv, h⟩ := ob h
        refine g_putI hC hP hS (fun Z => (T, P, X, Y, E, B, Z, O)) 0 tyX5 dX5_at_84 (by decide) ge_23 rfl inX5 tyX5_ok nmX5 (by decide) u_5_154 rfl rfl (Nat.le_of_ble_eq_true rfl) gp_23_0 hv (fun H locs hP hS => ?_)
        refine lv_iconst (v := 0) hx hb dX5_at_87 (by decide) ?_
        cases h
        exact g_iret hC hP hS dX5_at_88 rfl
      · refine L39 _ _ _ hv ⟨fun e9 => (nomatch e9), fun t9 e9 => ?_⟩ _ _ _ hP hS (lv_sub hl [1, 2, 3, 0] rfl)
        cases e9
        exact Option.some.inj h
    · rw [if_neg c2] at h
      refine lv_iconst (v := 0) hx hb dX5_at_35 (by decide) ?_
      cases h
      exact g_iret hC hP hS dX5_at_36 rfl
  refine lv_aload_n hx hb dX5_at_0 rfl (lv_at hl 0 rfl) ?_
  refine lv_iload_n hx hb dX5_at_1 rfl (lv_at hl 1 rfl) ?_
  refine lv_iconst (v := 0) hx hb dX5_at_2 (by decide) ?_
  refine lv_bipush (v := 9) hx hb dX5_at_3 (by decide) ?_
  obtain ⟨v11, hv, h⟩ := bd1_e h
  refine g_ki (g_runS (As := [.int x1, .int 0, .int 9]) (rest := [.ref (ad γ 23)]) hC hP (c5_in l hv) u_5_210 yv_X5_in (Nat.le_of_ble_eq_true rfl) rfl hl.1 rfl (Nat.le_of_ble_eq_true rfl) dX5_at_5 ⟨by decide, by decide⟩) hS (fun H locs hP hS => ?_)
  refine lv_if_eq (tgt := 24) hx hb dX5_at_8 (by decide) (fun c12 => ?_) (fun c12 => ?_)
  · rw [if_pos c12] at h
    refine lv_iconst (v := 1) hx hb dX5_at_24 (by decide) ?_
    exact J25 M 1 h _ _ _ hP hS (lv_sub hl [0, 1, 2] rfl)
  · rw [if_neg c12] at h
    refine lv_iload_n hx hb dX5_at_11 rfl (lv_at hl 2 rfl) ?_
    refine lv_iconst (v := 0) hx hb dX5_at_12 (by decide) ?_
    refine lv_iconst (v := 5) hx hb dX5_at_13 (by decide) ?_
    obtain ⟨v13, hv, h⟩ := bd1_e h
    refine g_ki (g_runS (As := [.int x2, .int 0, .int 5]) (rest := [.ref (ad γ 23)]) hC hP (c5_in l hv) u_5_210 yv_X5_in (Nat.le_of_ble_eq_true rfl) rfl hl.1 rfl (Nat.le_of_ble_eq_true rfl) dX5_at_14 ⟨by decide, by decide⟩) hS (fun H locs hP hS => ?_)
    refine lv_if_eq (tgt := 24) hx hb dX5_at_17 (by decide) (fun c14 => ?_) (fun c14 => ?_)
    · rw [if_pos c14] at h
      refine lv_iconst (v := 1) hx hb dX5_at_24 (by decide) ?_
      exact J25 M 1 h _ _ _ hP hS (lv_sub hl [0, 1, 2] rfl)
    · rw [if_neg c14] at h
      refine lv_iconst (v := 0) hx hb dX5_at_20 (by decide) ?_
      refine lv_goto (tgt := 25) hx hb dX5_at_21 (by decide) ?_
      exact J25 M 0 h _ _ _ hP hS (lv_sub hl [0, 1, 2] rfl)
def r5_taken_j138 (M1 : OS) (x1 : Int32) (x2 : Int32) (x3_138 : Int32) (x4_138 : Int32) (s0_138 : Int32)  : Option ((Int32 × Int32) ⊕ (Int32)) :=
  (if s0_138 = 0 then some (.inl ((x3_138 ||| 0), (x4_138 + 1)))
  else bd1 (r5_slotsOf M1 x4_138) (fun v4 =>
  some (.inl ((x3_138 ||| v4), (x4_138 + 1)))))
def r5_taken_b45 (M1 : OS) (x1 : Int32) (x2 : Int32) (x3_45 : Int32) (x4_45 : Int32) : Option ((Int32 × Int32) ⊕ (Int32)) :=
  bd1 (r5_many M1) (fun v5 =>
  (if v5 ≤ x4_45 then some (.inr x3_45)
  else (if x1 = 0 then bd1 (r5_of M1 28 x4_45) (fun v15 =>
  (if v15 = x2 then r5_taken_j138 M1 x1 x2 x3_45 x4_45 1
  else r5_taken_j138 M1 x1 x2 x3_45 x4_45 0))
  else (if x1 = 1 then bd1 (r5_of M1 42 x4_45) (fun v13 =>
  (if ((v13 >>> (x2 &&& 31)) &&& 1) = 1 then r5_taken_j138 M1 x1 x2 x3_45 x4_45 1
  else r5_taken_j138 M1 x1 x2 x3_45 x4_45 0))
  else bd1 (r5_of M1 84 x4_45) (fun v9 =>
  (if v9 < 0 then r5_taken_j138 M1 x1 x2 x3_45 x4_45 0
  else bd1 (r5_of M1 84 x4_45) (fun v11 =>
  (if (im v11 6) = x2 then r5_taken_j138 M1 x1 x2 x3_45 x4_45 1
  else r5_taken_j138 M1 x1 x2 x3_45 x4_45 0))))))))
def r5_taken_j28 (M_28 : OS) (x1 : Int32) (x2 : Int32) (s0_28 : Int32)  : Option (Int32 × OS) :=
  (sw M_28 0 s0_28).bind fun M1 =>
  (if (M1 0 0) = 0 then bd1 (it2 (r5_taken_b45 M1 x1 x2) 200 0 0) (fun x3_x45 => some (x3_x45, M1))
  else some (0, M1))
def r5_taken (M : OS) (x1 : Int32) (x2 : Int32) : Option (Int32 × OS) :=
  bd1 (r5_in x1 0 2) (fun v17 =>
  (if v17 = 0 then r5_taken_j28 M x1 x2 1
  else bd1 (r5_in x2 0 5) (fun v19 =>
  (if v19 = 0 then r5_taken_j28 M x1 x2 2
  else r5_taken_j28 M x1 x2 0))))
theorem yv_X5_taken : gYV yX5_taken cX5_taken 6 (some .int) 2 := ⟨u_6_139, u_6_140, u_1_7, u_6_141, ⟨by decide +kernel, by decide +kernel, by decide +kernel⟩, by decide⟩
set_option maxHeartbeats 4000000 in
set_option maxRecDepth 100000 in
theorem c5_taken (l : Launch) {γ : GA} {sz : Nat} {T P X Y B M : OS} {E : Nat → OS} {O : Nat → Int64} {x1 : Int32} {x2 : Int32} {r0 : Int32} {Mz : OS} (h : r5_taken M x1 x2 = some (r0, Mz)) : Met l yX5_taken (gU yX5_taken cX5_taken 6 (some .int)) (gR 3 0 0) (gPc γ [.ref (ad γ 23), .int x1, .int x2] sz (T, P, X, Y, E, B, M, O)) (gQi γ r0 sz (T, P, X, Y, E, B, Mz, O)) 0 0 (gA γ sz) := by
  refine g_met (fun sz => gQi γ r0 sz (T, P, X, Y, E, B, Mz, O)) (by decide) (Nat.le_of_ble_eq_true rfl) ?_
  intro p e s m args below meth c ls hC hP hS hl
  have hx := hC.x
  have hb := hC.b
  have hl : lv_has ls 6 [(0, .ref (ad γ 23)), (1, .int x1), (2, .int x2)] := hl
  unfold r5_taken at h
  have J28 : ∀ (M_28 : OS) (s0_28 : Int32) (h : r5_taken_j28 M_28 x1 x2 s0_28 = some (r0, Mz)), ∀ (H : Heap) (locs : List Loc) (ls : Array Slot), va_P γ.1 vwCl (gw γ (T, P, X, Y, E, B, M_28, O)) H → va_S (gA γ s.heap.size) s.heap H locs → lv_has ls 6 [(0, .ref (ad γ 23)), (1, .int x1), (2, .int x2)] → W p l e (gR 3 0 0) s m args below meth c H locs 0 0 (MQ below (gQi γ r0 s.heap.size (T, P, X, Y, E, B, Mz, O)) args s 0 0 (gA γ s.heap.size)) (F0 m 28 ls [.int s0_28, .ref (ad γ 23)]) := by
    intro M_28 s0_28 h H locs ls hP hS hl
    unfold r5_taken_j28 at h
    obtain ⟨M1, hv, h⟩ := ob h
    refine g_putI hC hP hS (fun Z => (T, P, X, Y, E, B, Z, O)) 0 tyX5 dX5_taken_28 (by decide) ge_23 rfl inX5 tyX5_ok nmX5 (by decide) u_5_154 rfl rfl (Nat.le_of_ble_eq_true rfl) gp_23_0 hv (fun H locs hP hS => ?_)
    refine lv_aload_n hx hb dX5_taken_31 rfl (lv_at hl 0 rfl) ?_
    refine g_get hC hP 0 dX5_taken_32 (by decide) ge_23 rfl inX5 (by decide) rfl u_5_154 ?_
    refine lv_if_eq (tgt := 40) hx hb dX5_taken_35 (by decide) (fun c2 => ?_) (fun c2 => ?_)
    · rw [if_pos c2] at h
      refine lv_iconst (v := 0) hx hb dX5_taken_40 (by decide) ?_
      refine lv_istore_n (lv' := [(3, .int 0), (0, .ref (ad γ 23)), (1, .int x1), (2, .int x2)]) hx hb dX5_taken_41 rfl hl (by decide) rfl (fun ls hl => ?_)
      refine lv_iconst (v := 0) hx hb dX5_taken_42 (by decide) ?_
      refine lv_istore (lv' := [(4, .int 0), (3, .int 0), (0, .ref (ad γ 23)), (1, .int x1), (2, .int x2)]) hx hb dX5_taken_43 hl (by decide) rfl (fun ls hl => ?_)
      have L45 := it2_W (r5_taken_b45 M1 x1 x2) (fun (x3_45 : Int32) (x4_45 : Int32) => ∀ (H : Heap) (locs : List Loc) (ls : Array Slot), va_P γ.1 vwCl (gw γ (T, P, X, Y, E, B, M1, O)) H → va_S (gA γ s.heap.size) s.heap H locs → lv_has ls 6 [(0, .ref (ad γ 23)), (1, .int x1), (2, .int x2), (3, .int x3_45), (4, .int x4_45)] → W p l e (gR 3 0 0) s m args below meth c H locs 0 0 (MQ below (gQi γ r0 s.heap.size (T, P, X, Y, E, B, Mz, O)) args s 0 0 (gA γ s.heap.size)) (F0 m 45 ls [])) (fun (r_k : Int32) => (∀ (x3_x45 : Int32), r_k = x3_x45 → ∀ (H : Heap) (locs : List Loc) (ls : Array Slot), va_P γ.1 vwCl (gw γ (T, P, X, Y, E, B, M1, O)) H → va_S (gA γ s.heap.size) s.heap H locs → lv_has ls 6 [(3, .int x3_x45)] → W p l e (gR 3 0 0) s m args below meth c H locs 0 0 (MQ below (gQi γ r0 s.heap.size (T, P, X, Y, E, B, Mz, O)) args s 0 0 (gA γ s.heap.size)) (F0 m 164 ls []))) (by
        intro x3_45 x4_45 o_45 h kS kR H locs ls hP hS hl
        unfold r5_taken_b45 at h
        have J138 : ∀ (x3_138 : Int32) (x4_138 : Int32) (s0_138 : Int32) (h : r5_taken_j138 M1 x1 x2 x3_138 x4_138 s0_138 = some o_45), ∀ (H : Heap) (locs : List Loc) (ls : Array Slot), va_P γ.1 vwCl (gw γ (T, P, X, Y, E, B, M1, O)) H → va_S (gA γ s.heap.size) s.heap H locs → lv_has ls 6 [(0, .ref (ad γ 23)), (1, .int x1), (2, .int x2), (3, .int x3_138), (4, .int x4_138)] → W p l e (gR 3 0 0) s m args below meth c H locs 0 0 (MQ below (gQi γ r0 s.heap.size (T, P, X, Y, E, B, Mz, O)) args s 0 0 (gA γ s.heap.size)) (F0 m 138 ls [.int s0_138]) := by
          intro x3_138 x4_138 s0_138 h H locs ls hP hS hl
          unfold r5_taken_j138 at h
          refine lv_istore (lv' := [(5, .int s0_138), (0, .ref (ad γ 23)), (1, .int x1), (2, .int x2), (3, .int x3_138), (4, .int x4_138)]) hx hb dX5_taken_138 hl (by decide) rfl (fun ls hl => ?_)
          refine lv_iload_n hx hb dX5_taken_140 rfl (lv_at hl 4 rfl) ?_
          refine lv_iload hx hb dX5_taken_141 (lv_at hl 0 rfl) ?_
          refine lv_if_eq (tgt := 155) hx hb dX5_taken_143 (by decide) (fun c3 => ?_) (fun c3 => ?_)
          · rw [if_pos c3] at h
            refine lv_iconst (v := 0) hx hb dX5_taken_155 (by decide) ?_
            refine lv_ior hx hb dX5_taken_156 ?_
            refine lv_istore_n (lv' := [(3, .int (x3_138 ||| 0)), (5, .int s0_138), (0, .ref (ad γ 23)), (1, .int x1), (2, .int x2), (4, .int x4_138)]) hx hb dX5_taken_157 rfl hl (by decide) rfl (fun ls hl => ?_)
            refine lv_iinc (v := (x4_138 + 1)) (lv' := [(4, .int (x4_138 + 1)), (3, .int (x3_138 ||| 0)), (5, .int s0_138), (0, .ref (ad γ 23)), (1, .int x1), (2, .int x2)]) hx hb dX5_taken_158 hl (k := 5) rfl rfl (by decide) rfl (fun ls hl => ?_)
            refine lv_goto (tgt := 45) hx hb dX5_taken_161 (by decide) ?_
            cases h
            exact kS _ _ rfl _ _ _ hP hS (lv_sub hl [3, 4, 5, 1, 0] rfl)
          · rw [if_neg c3] at h
            refine lv_aload_n hx hb dX5_taken_146 rfl (lv_at hl 1 rfl) ?_
            refine lv_iload hx hb dX5_taken_147 (lv_at hl 5 rfl) ?_
            obtain ⟨v4, hv, h⟩ := bd1_e h
            refine g_ki (g_runV (As := [.int x4_138]) (rest := [.int x3_138]) hC hP (c5_slotsOf l hv) (by decide) ge_23 rfl u_6_15 yv_X5_slotsOf (Nat.le_of_ble_eq_true rfl) rfl hl.1 rfl (Nat.le_of_ble_eq_true rfl) dX5_taken_149 ⟨by decide, by decide⟩) hS (fun H locs hP hS => ?_)
            refine lv_goto (tgt := 156) hx hb dX5_taken_152 (by decide) ?_
            refine lv_ior hx hb dX5_taken_156 ?_
            refine lv_istore_n (lv' := [(3, .int (x3_138 ||| v4)), (5, .int s0_138), (0, .ref (ad γ 23)), (1, .int x1), (2, .int x2), (4, .int x4_138)]) hx hb dX5_taken_157 rfl hl (by decide) rfl (fun ls hl => ?_)
            refine lv_iinc (v := (x4_138 + 1)) (lv' := [(4, .int (x4_138 + 1)), (3, .int (x3_138 ||| v4)), (5, .int s0_138), (0, .ref (ad γ 23)), (1, .int x1), (2, .int x2)]) hx hb dX5_taken_158 hl (k := 5) rfl rfl (by decide) rfl (fun ls hl => ?_)
            refine lv_goto (tgt := 45) hx hb dX5_taken_161 (by decide) ?_
            cases h
            exact kS _ _ rfl _ _ _ hP hS (lv_sub hl [3, 4, 5, 1, 0] rfl)
        refine lv_iload hx hb dX5_taken_45 (lv_at hl 4 rfl) ?_
        refine lv_aload_n hx hb dX5_taken_47 rfl (lv_at hl 0 rfl) ?_
        obtain ⟨v5, hv, h⟩ := bd1_e h
        refine g_ki (g_runV (As := []) (rest := [.int x4_45]) hC hP (c5_many l hv) (by decide) ge_23 rfl u_5_225 yv_X5_many (Nat.le_of_ble_eq_true rfl) rfl hl.1 rfl (Nat.le_of_ble_eq_true rfl) dX5_taken_48 ⟨by decide, by decide⟩) hS (fun H locs hP hS => ?_)
        refine lv_icmp_ge (tgt := 164) hx hb dX5_taken_51 (by decide) (fun c6 => ?_) (fun c6 => ?_)
        · rw [if_pos c6] at h
          cases h
          exact kR _ rfl _ rfl _ _ _ hP hS (lv_sub hl [3] rfl)
        · rw [if_neg c6] at h
          refine lv_iload_n hx hb dX5_taken_54 rfl (lv_at hl 1 rfl) ?_
          refine lv_if_ne (tgt := 78) hx hb dX5_taken_55 (by decide) (fun c7 => ?_) (fun c7 => ?_)
          · rw [if_neg c7] at h
            refine lv_iload_n hx hb dX5_taken_78 rfl (lv_at hl 1 rfl) ?_
            refine lv_iconst (v := 1) hx hb dX5_taken_79 (by decide) ?_
            refine lv_icmp_ne (tgt := 107) hx hb dX5_taken_80 (by decide) (fun c8 => ?_) (fun c8 => ?_)
            · rw [if_neg c8] at h
              refine lv_aload_n hx hb dX5_taken_107 rfl (lv_at hl 0 rfl) ?_
              refine lv_bipush (v := 84) hx hb dX5_taken_108 (by decide) ?_
              refine lv_iload hx hb dX5_taken_110 (lv_at hl 4 rfl) ?_
              obtain ⟨v9, hv, h⟩ := bd1_e h
              refine g_ki (g_runV (As := [.int 84, .int x4_45]) (rest := []) hC hP (c5_of l hv) (by decide) ge_23 rfl u_5_229 yv_X5_of (Nat.le_of_ble_eq_true rfl) rfl hl.1 rfl (Nat.le_of_ble_eq_true rfl) dX5_taken_112 ⟨by decide, by decide⟩) hS (fun H locs hP hS => ?_)
              refine lv_if_lt (tgt := 137) hx hb dX5_taken_115 (by decide) (fun c10 => ?_) (fun c10 => ?_)
              · rw [if_pos c10] at h
                refine lv_iconst (v := 0) hx hb dX5_taken_137 (by decide) ?_
                exact J138 x3_45 x4_45 0 h _ _ _ hP hS (lv_sub hl [0, 1, 2, 3, 4] rfl)
              · rw [if_neg c10] at h
                refine lv_aload_n hx hb dX5_taken_118 rfl (lv_at hl 0 rfl) ?_
                refine lv_bipush (v := 84) hx hb dX5_taken_119 (by decide) ?_
                refine lv_iload hx hb dX5_taken_121 (lv_at hl 4 rfl) ?_
                obtain ⟨v11, hv, h⟩ := bd1_e h
                refine g_ki (g_runV (As := [.int 84, .int x4_45]) (rest := []) hC hP (c5_of l hv) (by decide) ge_23 rfl u_5_229 yv_X5_of (Nat.le_of_ble_eq_true rfl) rfl hl.1 rfl (Nat.le_of_ble_eq_true rfl) dX5_taken_123 ⟨by decide, by decide⟩) hS (fun H locs hP hS => ?_)
                refine lv_bipush (v := 6) hx hb dX5_taken_126 (by decide) ?_
                refine lv_irem hx hb dX5_taken_128 (by decide) ?_
                refine lv_iload_n hx hb dX5_taken_129 rfl (lv_at hl 2 rfl) ?_
                refine lv_icmp_ne (tgt := 137) hx hb dX5_taken_130 (by decide) (fun c12 => ?_) (fun c12 => ?_)
                · rw [if_neg c12] at h
                  refine lv_iconst (v := 0) hx hb dX5_taken_137 (by decide) ?_
                  exact J138 x3_45 x4_45 0 h _ _ _ hP hS (lv_sub hl [0, 1, 2, 3, 4] rfl)
                · rw [if_pos c12] at h
                  refine lv_iconst (v := 1) hx hb dX5_taken_133 (by decide) ?_
                  refine lv_goto (tgt := 138) hx hb dX5_taken_134 (by decide) ?_
                  exact J138 x3_45 x4_45 1 h _ _ _ hP hS (lv_sub hl [0, 1, 2, 3, 4] rfl)
            · rw [if_pos c8] at h
              refine lv_aload_n hx hb dX5_taken_83 rfl (lv_at hl 0 rfl) ?_
              refine lv_bipush (v := 42) hx hb dX5_taken_84 (by decide) ?_
              refine lv_iload hx hb dX5_taken_86 (lv_at hl 4 rfl) ?_
              obtain ⟨v13, hv, h⟩ := bd1_e h
              refine g_ki (g_runV (As := [.int 42, .int x4_45]) (rest := []) hC hP (c5_of l hv) (by decide) ge_23 rfl u_5_229 yv_X5_of (Nat.le_of_ble_eq_true rfl) rfl hl.1 rfl (Nat.le_of_ble_eq_true rfl) dX5_taken_88 ⟨by decide, by decide⟩) hS (fun H locs hP hS => ?_)
              refine lv_iload_n hx hb dX5_taken_91 rfl (lv_at hl 2 rfl) ?_
              refine lv_ishr hx hb dX5_taken_92 ?_
              refine lv_iconst (v := 1) hx hb dX5_taken_93 (by decide) ?_
              refine lv_iand hx hb dX5_taken_94 ?_
              refine lv_iconst (v := 1) hx hb dX5_taken_95 (by decide) ?_
              refine lv_icmp_ne (tgt := 103) hx hb dX5_taken_96 (by decide) (fun c14 => ?_) (fun c14 => ?_)
              · rw [if_neg c14] at h
                refine lv_iconst (v := 0) hx hb dX5_taken_103 (by decide) ?_
                refine lv_goto (tgt := 138) hx hb dX5_taken_104 (by decide) ?_
                exact J138 x3_45 x4_45 0 h _ _ _ hP hS (lv_sub hl [0, 1, 2, 3, 4] rfl)
              · rw [if_pos c14] at h
                refine lv_iconst (v := 1) hx hb dX5_taken_99 (by decide) ?_
                refine lv_goto (tgt := 138) hx hb dX5_taken_100 (by decide) ?_
                exact J138 x3_45 x4_45 1 h _ _ _ hP hS (lv_sub hl [0, 1, 2, 3, 4] rfl)
          · rw [if_pos c7] at h
            refine lv_aload_n hx hb dX5_taken_58 rfl (lv_at hl 0 rfl) ?_
            refine lv_bipush (v := 28) hx hb dX5_taken_59 (by decide) ?_
            refine lv_iload hx hb dX5_taken_61 (lv_at hl 4 rfl) ?_
            obtain ⟨v15, hv, h⟩ := bd1_e h
            refine g_ki (g_runV (As := [.int 28, .int x4_45]) (rest := []) hC hP (c5_of l hv) (by decide) ge_23 rfl u_5_229 yv_X5_of (Nat.le_of_ble_eq_true rfl) rfl hl.1 rfl (Nat.le_of_ble_eq_true rfl) dX5_taken_63 ⟨by decide, by decide⟩) hS (fun H locs hP hS => ?_)
            refine lv_iload_n hx hb dX5_taken_66 rfl (lv_at hl 2 rfl) ?_
            refine lv_icmp_ne (tgt := 74) hx hb dX5_taken_67 (by decide) (fun c16 => ?_) (fun c16 => ?_)
            · rw [if_neg c16] at h
              refine lv_iconst (v := 0) hx hb dX5_taken_74 (by decide) ?_
              refine lv_goto (tgt := 138) hx hb dX5_taken_75 (by decide) ?_
              exact J138 x3_45 x4_45 0 h _ _ _ hP hS (lv_sub hl [0, 1, 2, 3, 4] rfl)
            · rw [if_pos c16] at h
              refine lv_iconst (v := 1) hx hb dX5_taken_70 (by decide) ?_
              refine lv_goto (tgt := 138) hx hb dX5_taken_71 (by decide) ?_
              exact J138 x3_45 x4_45 1 h _ _ _ hP hS (lv_sub hl [0, 1, 2, 3, 4] rfl))
      obtain ⟨x3_x45, hv, h⟩ := bd1_e h
      refine L45 _ _ _ _ hv (fun q0 e9 H locs ls hP hS hl => ?_) _ _ _ hP hS (lv_sub hl [2, 3, 4, 1, 0] rfl)
      obtain rfl := e9
      refine lv_iload_n hx hb dX5_taken_164 rfl (lv_at hl 0 rfl) ?_
      cases h
      exact g_iret hC hP hS dX5_taken_165 rfl
    · rw [if_neg c2] at h
      refine lv_iconst (v := 0) hx hb dX5_taken_38 (by decide) ?_
      cases h
      exact g_iret hC hP hS dX5_taken_39 rfl
  refine lv_aload_n hx hb dX5_taken_0 rfl (lv_at hl 0 rfl) ?_
  refine lv_iload_n hx hb dX5_taken_1 rfl (lv_at hl 1 rfl) ?_
  refine lv_iconst (v := 0) hx hb dX5_taken_2 (by decide) ?_
  refine lv_iconst (v := 2) hx hb dX5_taken_3 (by decide) ?_
  obtain ⟨v17, hv, h⟩ := bd1_e h
  refine g_ki (g_runS (As := [.int x1, .int 0, .int 2]) (rest := [.ref (ad γ 23)]) hC hP (c5_in l hv) u_5_210 yv_X5_in (Nat.le_of_ble_eq_true rfl) rfl hl.1 rfl (Nat.le_of_ble_eq_true rfl) dX5_taken_4 ⟨by decide, by decide⟩) hS (fun H locs hP hS => ?_)
  refine lv_if_ne (tgt := 14) hx hb dX5_taken_7 (by decide) (fun c18 => ?_) (fun c18 => ?_)
  · rw [if_neg c18] at h
    refine lv_iload_n hx hb dX5_taken_14 rfl (lv_at hl 2 rfl) ?_
    refine lv_iconst (v := 0) hx hb dX5_taken_15 (by decide) ?_
    refine lv_iconst (v := 5) hx hb dX5_taken_16 (by decide) ?_
    obtain ⟨v19, hv, h⟩ := bd1_e h
    refine g_ki (g_runS (As := [.int x2, .int 0, .int 5]) (rest := [.ref (ad γ 23)]) hC hP (c5_in l hv) u_5_210 yv_X5_in (Nat.le_of_ble_eq_true rfl) rfl hl.1 rfl (Nat.le_of_ble_eq_true rfl) dX5_taken_17 ⟨by decide, by decide⟩) hS (fun H locs hP hS => ?_)
    refine lv_if_ne (tgt := 27) hx hb dX5_taken_20 (by decide) (fun c20 => ?_) (fun c20 => ?_)
    · rw [if_neg c20] at h
      refine lv_iconst (v := 0) hx hb dX5_taken_27 (by decide) ?_
      exact J28 M 0 h _ _ _ hP hS (lv_sub hl [0, 1, 2] rfl)
    · rw [if_pos c20] at h
      refine lv_iconst (v := 2) hx hb dX5_taken_23 (by decide) ?_
      refine lv_goto (tgt := 28) hx hb dX5_taken_24 (by decide) ?_
      exact J28 M 2 h _ _ _ hP hS (lv_sub hl [0, 1, 2] rfl)
  · rw [if_pos c18] at h
    refine lv_iconst (v := 1) hx hb dX5_taken_10 (by decide) ?_
    refine lv_goto (tgt := 28) hx hb dX5_taken_11 (by decide) ?_
    exact J28 M 1 h _ _ _ hP hS (lv_sub hl [0, 1, 2] rfl)
def r5_bits_b4 (x0 : Int32) (x1_4 : Int32) (x2_4 : Int32) : Option ((Int32 × Int32) ⊕ (Int32)) :=
  (if 16 ≤ x2_4 then some (.inr x1_4)
  else (some (x1_4 + ((x0 >>> (x2_4 &&& 31)) &&& 1))).bind fun v2 =>
  some (.inl (v2, (x2_4 + 1))))
def r5_bits (x0 : Int32) : Option Int32 :=
  bd1 (it2 (r5_bits_b4 x0) 200 0 0) (fun x1_x4 => some x1_x4)
theorem yv_X5_bits : gYS yX5_bits cX5_bits 3 (some .int) 1 := ⟨u_6_151, u_1_7, u_6_152, ⟨by decide +kernel, by decide +kernel, by decide +kernel⟩, by decide⟩
set_option maxHeartbeats 4000000 in
set_option maxRecDepth 100000 in
theorem c5_bits (l : Launch) {γ : GA} {sz : Nat} {T P X Y B M : OS} {E : Nat → OS} {O : Nat → Int64} {x0 : Int32} {r0 : Int32} (h : r5_bits x0 = some r0) : Met l yX5_bits (gU yX5_bits cX5_bits 3 (some .int)) (gR 0 0 0) (gPc γ [.int x0] sz (T, P, X, Y, E, B, M, O)) (gQi γ r0 sz (T, P, X, Y, E, B, M, O)) 0 0 (gA γ sz) := by
  refine g_met (fun sz => gQi γ r0 sz (T, P, X, Y, E, B, M, O)) (by decide) (Nat.le_of_ble_eq_true rfl) ?_
  intro p e s m args below meth c ls hC hP hS hl
  have hx := hC.x
  have hb := hC.b
  have hl : lv_has ls 3 [(0, .int x0)] := hl
  unfold r5_bits at h
  refine lv_iconst (v := 0) hx hb dX5_bits_0 (by decide) ?_
  refine lv_istore_n (lv' := [(1, .int 0), (0, .int x0)]) hx hb dX5_bits_1 rfl hl (by decide) rfl (fun ls hl => ?_)
  refine lv_iconst (v := 0) hx hb dX5_bits_2 (by decide) ?_
  refine lv_istore_n (lv' := [(2, .int 0), (1, .int 0), (0, .int x0)]) hx hb dX5_bits_3 rfl hl (by decide) rfl (fun ls hl => ?_)
  have L4 := it2_W (r5_bits_b4 x0) (fun (x1_4 : Int32) (x2_4 : Int32) => ∀ (H : Heap) (locs : List Loc) (ls : Array Slot), va_P γ.1 vwCl (gw γ (T, P, X, Y, E, B, M, O)) H → va_S (gA γ s.heap.size) s.heap H locs → lv_has ls 3 [(0, .int x0), (1, .int x1_4), (2, .int x2_4)] → W p l e (gR 0 0 0) s m args below meth c H locs 0 0 (MQ below (gQi γ r0 s.heap.size (T, P, X, Y, E, B, M, O)) args s 0 0 (gA γ s.heap.size)) (F0 m 4 ls [])) (fun (r_k : Int32) => (∀ (x1_x4 : Int32), r_k = x1_x4 → ∀ (H : Heap) (locs : List Loc) (ls : Array Slot), va_P γ.1 vwCl (gw γ (T, P, X, Y, E, B, M, O)) H → va_S (gA γ s.heap.size) s.heap H locs → lv_has ls 3 [(1, .int x1_x4)] → W p l e (gR 0 0 0) s m args below meth c H locs 0 0 (MQ below (gQi γ r0 s.heap.size (T, P, X, Y, E, B, M, O)) args s 0 0 (gA γ s.heap.size)) (F0 m 24 ls []))) (by
    intro x1_4 x2_4 o_4 h kS kR H locs ls hP hS hl
    unfold r5_bits_b4 at h
    refine lv_iload_n hx hb dX5_bits_4 rfl (lv_at hl 2 rfl) ?_
    refine lv_bipush (v := 16) hx hb dX5_bits_5 (by decide) ?_
    refine lv_icmp_ge (tgt := 24) hx hb dX5_bits_7 (by decide) (fun c1 => ?_) (fun c1 => ?_)
    · rw [if_pos c1] at h
      cases h
      exact kR _ rfl _ rfl _ _ _ hP hS (lv_sub hl [1] rfl)
    · rw [if_neg c1] at h
      refine lv_iload_n hx hb dX5_bits_10 rfl (lv_at hl 1 rfl) ?_
      refine lv_iload_n hx hb dX5_bits_11 rfl (lv_at hl 0 rfl) ?_
      refine lv_iload_n hx hb dX5_bits_12 rfl (lv_at hl 2 rfl) ?_
      refine lv_ishr hx hb dX5_bits_13 ?_
      refine lv_iconst (v := 1) hx hb dX5_bits_14 (by decide) ?_
      refine lv_iand hx hb dX5_bits_15 ?_
      refine lv_iadd hx hb dX5_bits_16 ?_
      obtain ⟨v2, hv, h⟩ := ob h
      refine lv_topi (fun y9 ey9 => ?_)
      obtain rfl : v2 = y9 := (Option.some.inj hv).symm.trans ey9.symm
      clear hv ey9
      refine lv_istore_n (lv' := [(1, .int v2), (0, .int x0), (2, .int x2_4)]) hx hb dX5_bits_17 rfl hl (by decide) rfl (fun ls hl => ?_)
      refine lv_iinc (v := (x2_4 + 1)) (lv' := [(2, .int (x2_4 + 1)), (1, .int v2), (0, .int x0)]) hx hb dX5_bits_18 hl (k := 2) rfl rfl (by decide) rfl (fun ls hl => ?_)
      refine lv_goto (tgt := 4) hx hb dX5_bits_21 (by decide) ?_
      cases h
      exact kS _ _ rfl _ _ _ hP hS (lv_sub hl [2, 1, 0] rfl))
  obtain ⟨x1_x4, hv, h⟩ := bd1_e h
  refine L4 _ _ _ _ hv (fun q0 e9 H locs ls hP hS hl => ?_) _ _ _ hP hS (lv_sub hl [2, 1, 0] rfl)
  obtain rfl := e9
  refine lv_iload_n hx hb dX5_bits_24 rfl (lv_at hl 0 rfl) ?_
  cases h
  exact g_iret hC hP hS dX5_bits_25 rfl
def r5_lowest_b2 (x0 : Int32) (x1_2 : Int32) : Option ((Int32) ⊕ (Int32)) :=
  (if ((x0 >>> (x1_2 &&& 31)) &&& 1) = 0 then some (.inl (x1_2 + 1))
  else some (.inr x1_2))
def r5_lowest (x0 : Int32) : Option Int32 :=
  bd1 (it1 (r5_lowest_b2 x0) 200 0) (fun x1_x2 => some x1_x2)
theorem yv_X5_lowest : gYS yX5_lowest cX5_lowest 2 (some .int) 1 := ⟨u_6_166, u_1_7, u_6_167, ⟨by decide +kernel, by decide +kernel, by decide +kernel⟩, by decide⟩
set_option maxHeartbeats 4000000 in
set_option maxRecDepth 100000 in
theorem c5_lowest (l : Launch) {γ : GA} {sz : Nat} {T P X Y B M : OS} {E : Nat → OS} {O : Nat → Int64} {x0 : Int32} {r0 : Int32} (h : r5_lowest x0 = some r0) : Met l yX5_lowest (gU yX5_lowest cX5_lowest 2 (some .int)) (gR 0 0 0) (gPc γ [.int x0] sz (T, P, X, Y, E, B, M, O)) (gQi γ r0 sz (T, P, X, Y, E, B, M, O)) 0 0 (gA γ sz) := by
  refine g_met (fun sz => gQi γ r0 sz (T, P, X, Y, E, B, M, O)) (by decide) (Nat.le_of_ble_eq_true rfl) ?_
  intro p e s m args below meth c ls hC hP hS hl
  have hx := hC.x
  have hb := hC.b
  have hl : lv_has ls 2 [(0, .int x0)] := hl
  unfold r5_lowest at h
  refine lv_iconst (v := 0) hx hb dX5_lowest_0 (by decide) ?_
  refine lv_istore_n (lv' := [(1, .int 0), (0, .int x0)]) hx hb dX5_lowest_1 rfl hl (by decide) rfl (fun ls hl => ?_)
  have L2 := it1_W (r5_lowest_b2 x0) (fun (x1_2 : Int32) => ∀ (H : Heap) (locs : List Loc) (ls : Array Slot), va_P γ.1 vwCl (gw γ (T, P, X, Y, E, B, M, O)) H → va_S (gA γ s.heap.size) s.heap H locs → lv_has ls 2 [(0, .int x0), (1, .int x1_2)] → W p l e (gR 0 0 0) s m args below meth c H locs 0 0 (MQ below (gQi γ r0 s.heap.size (T, P, X, Y, E, B, M, O)) args s 0 0 (gA γ s.heap.size)) (F0 m 2 ls [])) (fun (r_k : Int32) => (∀ (x1_x2 : Int32), r_k = x1_x2 → ∀ (H : Heap) (locs : List Loc) (ls : Array Slot), va_P γ.1 vwCl (gw γ (T, P, X, Y, E, B, M, O)) H → va_S (gA γ s.heap.size) s.heap H locs → lv_has ls 2 [(1, .int x1_x2)] → W p l e (gR 0 0 0) s m args below meth c H locs 0 0 (MQ below (gQi γ r0 s.heap.size (T, P, X, Y, E, B, M, O)) args s 0 0 (gA γ s.heap.size)) (F0 m 16 ls []))) (by
    intro x1_2 o_2 h kS kR H locs ls hP hS hl
    unfold r5_lowest_b2 at h
    refine lv_iload_n hx hb dX5_lowest_2 rfl (lv_at hl 0 rfl) ?_
    refine lv_iload_n hx hb dX5_lowest_3 rfl (lv_at hl 1 rfl) ?_
    refine lv_ishr hx hb dX5_lowest_4 ?_
    refine lv_iconst (v := 1) hx hb dX5_lowest_5 (by decide) ?_
    refine lv_iand hx hb dX5_lowest_6 ?_
    refine lv_if_ne (tgt := 16) hx hb dX5_lowest_7 (by decide) (fun c1 => ?_) (fun c1 => ?_)
    · rw [if_neg c1] at h
      cases h
      exact kR _ rfl _ rfl _ _ _ hP hS (lv_sub hl [1] rfl)
    · rw [if_pos c1] at h
      refine lv_iinc (v := (x1_2 + 1)) (lv' := [(1, .int (x1_2 + 1)), (0, .int x0)]) hx hb dX5_lowest_10 hl (k := 1) rfl rfl (by decide) rfl (fun ls hl => ?_)
      refine lv_goto (tgt := 2) hx hb dX5_lowest_13 (by decide) ?_
      cases h
      exact kS _ rfl _ _ _ hP hS (lv_sub hl [1, 0] rfl))
  obtain ⟨x1_x2, hv, h⟩ := bd1_e h
  refine L2 _ _ _ hv (fun q0 e9 H locs ls hP hS hl => ?_) _ _ _ hP hS (lv_sub hl [1, 0] rfl)
  obtain rfl := e9
  refine lv_iload_n hx hb dX5_lowest_16 rfl (lv_at hl 0 rfl) ?_
  cases h
  exact g_iret hC hP hS dX5_lowest_17 rfl
def r5_hasFixed_b2 (M : OS) (x1 : Int32) (x2_2 : Int32) : Option ((Int32) ⊕ ((Unit) ⊕ (Int32))) :=
  bd1 (r5_many M) (fun v1 =>
  (if v1 ≤ x2_2 then some (.inr (.inl ()))
  else (if ((x1 >>> (x2_2 &&& 31)) &&& 1) = 1 then bd1 (r5_of M 98 x2_2) (fun v4 =>
  (if v4 = 1 then some (.inr (.inr 1))
  else some (.inl (x2_2 + 1))))
  else some (.inl (x2_2 + 1)))))
def r5_hasFixed (M : OS) (x1 : Int32) : Option Int32 :=
  bs0 (it1 (r5_hasFixed_b2 M x1) 200 0) (fun _ => some 0) (fun t6 => some t6)
theorem yv_X5_hasFixed : gYV yX5_hasFixed cX5_hasFixed 3 (some .boolean) 1 := ⟨u_6_155, u_sp_46, u_1_7, u_6_156, ⟨by decide +kernel, by decide +kernel, by decide +kernel⟩, by decide⟩
set_option maxHeartbeats 4000000 in
set_option maxRecDepth 100000 in
theorem c5_hasFixed (l : Launch) {γ : GA} {sz : Nat} {T P X Y B M : OS} {E : Nat → OS} {O : Nat → Int64} {x1 : Int32} {r0 : Int32} (h : r5_hasFixed M x1 = some r0) : Met l yX5_hasFixed (gU yX5_hasFixed cX5_hasFixed 3 (some .boolean)) (gR 1 0 0) (gPc γ [.ref (ad γ 23), .int x1] sz (T, P, X, Y, E, B, M, O)) (gQi γ r0 sz (T, P, X, Y, E, B, M, O)) 0 0 (gA γ sz) := by
  refine g_met (fun sz => gQi γ r0 sz (T, P, X, Y, E, B, M, O)) (by decide) (Nat.le_of_ble_eq_true rfl) ?_
  intro p e s m args below meth c ls hC hP hS hl
  have hx := hC.x
  have hb := hC.b
  have hl : lv_has ls 3 [(0, .ref (ad γ 23)), (1, .int x1)] := hl
  unfold r5_hasFixed at h
  refine lv_iconst (v := 0) hx hb dX5_hasFixed_0 (by decide) ?_
  refine lv_istore_n (lv' := [(2, .int 0), (0, .ref (ad γ 23)), (1, .int x1)]) hx hb dX5_hasFixed_1 rfl hl (by decide) rfl (fun ls hl => ?_)
  have L2 := it1_W (r5_hasFixed_b2 M x1) (fun (x2_2 : Int32) => ∀ (H : Heap) (locs : List Loc) (ls : Array Slot), va_P γ.1 vwCl (gw γ (T, P, X, Y, E, B, M, O)) H → va_S (gA γ s.heap.size) s.heap H locs → lv_has ls 3 [(0, .ref (ad γ 23)), (1, .int x1), (2, .int x2_2)] → W p l e (gR 1 0 0) s m args below meth c H locs 0 0 (MQ below (gQi γ r0 s.heap.size (T, P, X, Y, E, B, M, O)) args s 0 0 (gA γ s.heap.size)) (F0 m 2 ls [])) (fun (r_k : (Unit) ⊕ (Int32)) => (r_k = .inl () → ∀ (H : Heap) (locs : List Loc) (ls : Array Slot), va_P γ.1 vwCl (gw γ (T, P, X, Y, E, B, M, O)) H → va_S (gA γ s.heap.size) s.heap H locs → lv_has ls 3 [] → W p l e (gR 1 0 0) s m args below meth c H locs 0 0 (MQ below (gQi γ r0 s.heap.size (T, P, X, Y, E, B, M, O)) args s 0 0 (gA γ s.heap.size)) (F0 m 38 ls [])) ∧ (∀ t_k, r_k = .inr t_k → t_k = r0)) (by
    intro x2_2 o_2 h kS kR H locs ls hP hS hl
    unfold r5_hasFixed_b2 at h
    refine lv_iload_n hx hb dX5_hasFixed_2 rfl (lv_at hl 2 rfl) ?_
    refine lv_aload_n hx hb dX5_hasFixed_3 rfl (lv_at hl 0 rfl) ?_
    obtain ⟨v1, hv, h⟩ := bd1_e h
    refine g_ki (g_runV (As := []) (rest := [.int x2_2]) hC hP (c5_many l hv) (by decide) ge_23 rfl u_5_225 yv_X5_many (Nat.le_of_ble_eq_true rfl) rfl hl.1 rfl (Nat.le_of_ble_eq_true rfl) dX5_hasFixed_4 ⟨by decide, by decide⟩) hS (fun H locs hP hS => ?_)
    refine lv_icmp_ge (tgt := 38) hx hb dX5_hasFixed_7 (by decide) (fun c2 => ?_) (fun c2 => ?_)
    · rw [if_pos c2] at h
      cases h
      exact (kR _ rfl).1  rfl _ _ _ hP hS (lv_sub hl [] rfl)
    · rw [if_neg c2] at h
      refine lv_iload_n hx hb dX5_hasFixed_10 rfl (lv_at hl 1 rfl) ?_
      refine lv_iload_n hx hb dX5_hasFixed_11 rfl (lv_at hl 2 rfl) ?_
      refine lv_ishr hx hb dX5_hasFixed_12 ?_
      refine lv_iconst (v := 1) hx hb dX5_hasFixed_13 (by decide) ?_
      refine lv_iand hx hb dX5_hasFixed_14 ?_
      refine lv_iconst (v := 1) hx hb dX5_hasFixed_15 (by decide) ?_
      refine lv_icmp_ne (tgt := 32) hx hb dX5_hasFixed_16 (by decide) (fun c3 => ?_) (fun c3 => ?_)
      · rw [if_neg c3] at h
        refine lv_iinc (v := (x2_2 + 1)) (lv' := [(2, .int (x2_2 + 1)), (0, .ref (ad γ 23)), (1, .int x1)]) hx hb dX5_hasFixed_32 hl (k := 2) rfl rfl (by decide) rfl (fun ls hl => ?_)
        refine lv_goto (tgt := 2) hx hb dX5_hasFixed_35 (by decide) ?_
        cases h
        exact kS _ rfl _ _ _ hP hS (lv_sub hl [1, 2, 0] rfl)
      · rw [if_pos c3] at h
        refine lv_aload_n hx hb dX5_hasFixed_19 rfl (lv_at hl 0 rfl) ?_
        refine lv_bipush (v := 98) hx hb dX5_hasFixed_20 (by decide) ?_
        refine lv_iload_n hx hb dX5_hasFixed_22 rfl (lv_at hl 2 rfl) ?_
        obtain ⟨v4, hv, h⟩ := bd1_e h
        refine g_ki (g_runV (As := [.int 98, .int x2_2]) (rest := []) hC hP (c5_of l hv) (by decide) ge_23 rfl u_5_229 yv_X5_of (Nat.le_of_ble_eq_true rfl) rfl hl.1 rfl (Nat.le_of_ble_eq_true rfl) dX5_hasFixed_23 ⟨by decide, by decide⟩) hS (fun H locs hP hS => ?_)
        refine lv_iconst (v := 1) hx hb dX5_hasFixed_26 (by decide) ?_
        refine lv_icmp_ne (tgt := 32) hx hb dX5_hasFixed_27 (by decide) (fun c5 => ?_) (fun c5 => ?_)
        · rw [if_neg c5] at h
          refine lv_iinc (v := (x2_2 + 1)) (lv' := [(2, .int (x2_2 + 1)), (0, .ref (ad γ 23)), (1, .int x1)]) hx hb dX5_hasFixed_32 hl (k := 2) rfl rfl (by decide) rfl (fun ls hl => ?_)
          refine lv_goto (tgt := 2) hx hb dX5_hasFixed_35 (by decide) ?_
          cases h
          exact kS _ rfl _ _ _ hP hS (lv_sub hl [1, 2, 0] rfl)
        · rw [if_pos c5] at h
          refine lv_iconst (v := 1) hx hb dX5_hasFixed_30 (by decide) ?_
          have hz : zz 1 = some 1 := rfl
          cases h
          cases (kR _ rfl).2 _ rfl
          exact g_zret hC hP hS dX5_hasFixed_31 hz rfl)
  rcases bs0_e h with ⟨hv, h⟩ | ⟨t6, hv, h⟩
  · refine L2 _ _ _ hv ⟨fun e9 H locs ls hP hS hl => ?_, fun t9 e9 => nomatch e9⟩ _ _ _ hP hS (lv_sub hl [1, 2, 0] rfl)
    skip
    refine lv_iconst (v := 0) hx hb dX5_hasFixed_38 (by decide) ?_
    have hz : zz 0 = some 0 := rfl
    cases h
    exact g_zret hC hP hS dX5_hasFixed_39 hz rfl
  · refine L2 _ _ _ hv ⟨fun e9 => (nomatch e9), fun t9 e9 => ?_⟩ _ _ _ hP hS (lv_sub hl [1, 2, 0] rfl)
    cases e9
    exact Option.some.inj h
def r5_spreads_b13 (rec : OS → Int32 → Option (Int32 × OS)) (x1 : Int32) (v2 : Int32) (M_13 : OS) (x3_13 : Int32) : Option ((OS × Int32) ⊕ ((OS) ⊕ (Int32 × OS))) :=
  (if 60 ≤ x3_13 then some (.inr (.inl M_13))
  else (rd 14 (M_13 14) v2).bind fun v4 =>
  (if x3_13 = v4 then some (.inl (M_13, (x3_13 + 1)))
  else bd1 (r5_obstacleOf M_13 v2 x3_13) (fun v6 =>
  (if v6 = 0 then bd1 (r5_lays M_13 v2 x3_13) (fun M8 =>
  bd2 (rec M8 (x1 &&& ((1 <<< (v2 &&& 31)) ^^^ (-1)))) (fun v9 M10 =>
  (if v9 = 0 then bd1 (r5_lays M10 v2 (-1)) (fun M12 =>
  some (.inl (M12, (x3_13 + 1))))
  else some (.inr (.inr (1, M10))))))
  else some (.inl (M_13, (x3_13 + 1)))))))
def r5_spreads_F (rec : OS → Int32 → Option (Int32 × OS)) (M : OS) (x1 : Int32) : Option (Int32 × OS) :=
  (if x1 = 0 then some (1, M)
  else bd1 (r5_lowest x1) (fun v2 =>
  bs1 (it2 (r5_spreads_b13 rec x1 v2) 200 M 0) (fun M_x13 => some (0, M_x13)) (fun t13 => some t13)))
def r5_spreads : Nat → OS → Int32 → Option (Int32 × OS)
  | 0 => fun _ _ => none
  | d + 1 => fun M x1 => r5_spreads_F (r5_spreads d) M x1
theorem yv_X5_spreads : gYV yX5_spreads cX5_spreads 4 (some .boolean) 1 := ⟨u_6_163, u_sp_48, u_1_7, u_6_164, ⟨by decide +kernel, by decide +kernel, by decide +kernel⟩, by decide⟩
set_option maxHeartbeats 4000000 in
set_option maxRecDepth 100000 in
theorem c5_spreads (l : Launch) : ∀ (d : Nat) {γ : GA} {sz : Nat} {T P X Y B M : OS} {E : Nat → OS} {O : Nat → Int64} {x1 : Int32} {r0 : Int32} {Mz : OS} (h : r5_spreads d M x1 = some (r0, Mz)), Met l yX5_spreads (gU yX5_spreads cX5_spreads 4 (some .boolean)) (gR (5 + d) 0 0) (gPc γ [.ref (ad γ 23), .int x1] sz (T, P, X, Y, E, B, M, O)) (gQi γ r0 sz (T, P, X, Y, E, B, Mz, O)) 0 0 (gA γ sz) := by
  intro d
  induction d with
  | zero => intros; rename_i h; cases h
  | succ d ih =>
    intro  γ   sz   T P X Y B M   E   O   x1   r0   Mz  h
    refine g_met (fun sz => gQi γ r0 sz (T, P, X, Y, E, B, Mz, O)) (by decide) (Nat.le_of_ble_eq_true rfl) ?_
    intro p e s m args below meth c ls hC hP hS hl
    have hx := hC.x
    have hb := hC.b
    have hl : lv_has ls 4 [(0, .ref (ad γ 23)), (1, .int x1)] := hl
    have h : r5_spreads_F (r5_spreads d) M x1 = some (r0, Mz) := h
    unfold r5_spreads_F at h
    generalize er9 : r5_spreads d = rec at h ih
    refine lv_iload_n hx hb dX5_spreads_0 rfl (lv_at hl 1 rfl) ?_
    refine lv_if_ne (tgt := 6) hx hb dX5_spreads_1 (by decide) (fun c1 => ?_) (fun c1 => ?_)
    · rw [if_neg c1] at h
      refine lv_iload_n hx hb dX5_spreads_6 rfl (lv_at hl 1 rfl) ?_
      obtain ⟨v2, hv, h⟩ := bd1_e h
      refine g_ki (g_runS (As := [.int x1]) (rest := []) hC hP (c5_lowest l hv) u_6_165 yv_X5_lowest (by omega) rfl hl.1 rfl (Nat.le_of_ble_eq_true rfl) dX5_spreads_7 ⟨by decide, by decide⟩) hS (fun H locs hP hS => ?_)
      refine lv_istore_n (lv' := [(2, .int v2), (0, .ref (ad γ 23)), (1, .int x1)]) hx hb dX5_spreads_10 rfl hl (by decide) rfl (fun ls hl => ?_)
      refine lv_iconst (v := 0) hx hb dX5_spreads_11 (by decide) ?_
      refine lv_istore_n (lv' := [(3, .int 0), (2, .int v2), (0, .ref (ad γ 23)), (1, .int x1)]) hx hb dX5_spreads_12 rfl hl (by decide) rfl (fun ls hl => ?_)
      have L13 := it2_W (r5_spreads_b13 rec x1 v2) (fun (M_13 : OS) (x3_13 : Int32) => ∀ (H : Heap) (locs : List Loc) (ls : Array Slot), va_P γ.1 vwCl (gw γ (T, P, X, Y, E, B, M_13, O)) H → va_S (gA γ s.heap.size) s.heap H locs → lv_has ls 4 [(0, .ref (ad γ 23)), (1, .int x1), (2, .int v2), (3, .int x3_13)] → W p l e (gR (5 + (d + 1)) 0 0) s m args below meth c H locs 0 0 (MQ below (gQi γ r0 s.heap.size (T, P, X, Y, E, B, Mz, O)) args s 0 0 (gA γ s.heap.size)) (F0 m 13 ls [])) (fun (r_k : (OS) ⊕ (Int32 × OS)) => (∀ (M_x13 : OS), r_k = .inl M_x13 → ∀ (H : Heap) (locs : List Loc) (ls : Array Slot), va_P γ.1 vwCl (gw γ (T, P, X, Y, E, B, M_x13, O)) H → va_S (gA γ s.heap.size) s.heap H locs → lv_has ls 4 [] → W p l e (gR (5 + (d + 1)) 0 0) s m args below meth c H locs 0 0 (MQ below (gQi γ r0 s.heap.size (T, P, X, Y, E, B, Mz, O)) args s 0 0 (gA γ s.heap.size)) (F0 m 75 ls [])) ∧ (∀ t_k, r_k = .inr t_k → t_k = (r0, Mz))) (by
        intro M_13 x3_13 o_13 h kS kR H locs ls hP hS hl
        unfold r5_spreads_b13 at h
        refine lv_iload_n hx hb dX5_spreads_13 rfl (lv_at hl 3 rfl) ?_
        refine lv_bipush (v := 60) hx hb dX5_spreads_14 (by decide) ?_
        refine lv_icmp_ge (tgt := 75) hx hb dX5_spreads_16 (by decide) (fun c3 => ?_) (fun c3 => ?_)
        · rw [if_pos c3] at h
          cases h
          exact (kR _ rfl).1 _ rfl _ _ _ hP hS (lv_sub hl [] rfl)
        · rw [if_neg c3] at h
          refine lv_iload_n hx hb dX5_spreads_19 rfl (lv_at hl 3 rfl) ?_
          refine lv_aload_n hx hb dX5_spreads_20 rfl (lv_at hl 0 rfl) ?_
          refine g_get hC hP 14 dX5_spreads_21 (by decide) ge_23 rfl inX5 (by decide) rfl u_5_168 ?_
          refine lv_iload_n hx hb dX5_spreads_24 rfl (lv_at hl 2 rfl) ?_
          obtain ⟨v4, hv, h⟩ := ob h
          refine g_ld hC hP dX5_spreads_25 (by decide) ge_27 hv ?_
          refine lv_icmp_eq (tgt := 69) hx hb dX5_spreads_26 (by decide) (fun c5 => ?_) (fun c5 => ?_)
          · rw [if_pos c5] at h
            refine lv_iinc (v := (x3_13 + 1)) (lv' := [(3, .int (x3_13 + 1)), (0, .ref (ad γ 23)), (1, .int x1), (2, .int v2)]) hx hb dX5_spreads_69 hl (k := 3) rfl rfl (by decide) rfl (fun ls hl => ?_)
            refine lv_goto (tgt := 13) hx hb dX5_spreads_72 (by decide) ?_
            cases h
            exact kS _ _ rfl _ _ _ hP hS (lv_sub hl [1, 2, 3, 0] rfl)
          · rw [if_neg c5] at h
            refine lv_aload_n hx hb dX5_spreads_29 rfl (lv_at hl 0 rfl) ?_
            refine lv_iload_n hx hb dX5_spreads_30 rfl (lv_at hl 2 rfl) ?_
            refine lv_iload_n hx hb dX5_spreads_31 rfl (lv_at hl 3 rfl) ?_
            obtain ⟨v6, hv, h⟩ := bd1_e h
            refine g_ki (g_runV (As := [.int v2, .int x3_13]) (rest := []) hC hP (c5_obstacleOf l hv) (by decide) ge_23 rfl u_5_237 yv_X5_obstacleOf (by omega) rfl hl.1 rfl (Nat.le_of_ble_eq_true rfl) dX5_spreads_32 ⟨by decide, by decide⟩) hS (fun H locs hP hS => ?_)
            refine lv_if_eq (tgt := 41) hx hb dX5_spreads_35 (by decide) (fun c7 => ?_) (fun c7 => ?_)
            · rw [if_pos c7] at h
              refine lv_aload_n hx hb dX5_spreads_41 rfl (lv_at hl 0 rfl) ?_
              refine lv_iload_n hx hb dX5_spreads_42 rfl (lv_at hl 2 rfl) ?_
              refine lv_iload_n hx hb dX5_spreads_43 rfl (lv_at hl 3 rfl) ?_
              obtain ⟨M8, hv, h⟩ := bd1_e h
              refine g_kv (g_runV (As := [.int v2, .int x3_13]) (rest := []) hC hP (c5_lays l hv) (by decide) ge_23 rfl u_6_98 yv_X5_lays (by omega) rfl hl.1 rfl (Nat.le_of_ble_eq_true rfl) dX5_spreads_44 ⟨by decide, by decide⟩) hS (fun H locs hP hS => ?_)
              refine lv_aload_n hx hb dX5_spreads_47 rfl (lv_at hl 0 rfl) ?_
              refine lv_iload_n hx hb dX5_spreads_48 rfl (lv_at hl 1 rfl) ?_
              refine lv_iconst (v := 1) hx hb dX5_spreads_49 (by decide) ?_
              refine lv_iload_n hx hb dX5_spreads_50 rfl (lv_at hl 2 rfl) ?_
              refine lv_ishl hx hb dX5_spreads_51 ?_
              refine lv_iconst (v := -1) hx hb dX5_spreads_52 (by decide) ?_
              refine lv_ixor hx hb dX5_spreads_53 ?_
              refine lv_iand hx hb dX5_spreads_54 ?_
              obtain ⟨v9, M10, hv, h⟩ := bd2_e h
              refine g_ki (g_runV (As := [.int (x1 &&& ((1 <<< (v2 &&& 31)) ^^^ (-1)))]) (rest := []) hC hP (ih hv) (by decide) ge_23 rfl u_6_161 yv_X5_spreads (Nat.le_refl _) rfl hl.1 rfl (Nat.le_of_ble_eq_true rfl) dX5_spreads_55 ⟨by decide, by decide⟩) hS (fun H locs hP hS => ?_)
              refine lv_if_eq (tgt := 63) hx hb dX5_spreads_58 (by decide) (fun c11 => ?_) (fun c11 => ?_)
              · rw [if_pos c11] at h
                refine lv_aload_n hx hb dX5_spreads_63 rfl (lv_at hl 0 rfl) ?_
                refine lv_iload_n hx hb dX5_spreads_64 rfl (lv_at hl 2 rfl) ?_
                refine lv_iconst (v := -1) hx hb dX5_spreads_65 (by decide) ?_
                obtain ⟨M12, hv, h⟩ := bd1_e h
                refine g_kv (g_runV (As := [.int v2, .int (-1)]) (rest := []) hC hP (c5_lays l hv) (by decide) ge_23 rfl u_6_98 yv_X5_lays (by omega) rfl hl.1 rfl (Nat.le_of_ble_eq_true rfl) dX5_spreads_66 ⟨by decide, by decide⟩) hS (fun H locs hP hS => ?_)
                refine lv_iinc (v := (x3_13 + 1)) (lv' := [(3, .int (x3_13 + 1)), (0, .ref (ad γ 23)), (1, .int x1), (2, .int v2)]) hx hb dX5_spreads_69 hl (k := 3) rfl rfl (by decide) rfl (fun ls hl => ?_)
                refine lv_goto (tgt := 13) hx hb dX5_spreads_72 (by decide) ?_
                cases h
                exact kS _ _ rfl _ _ _ hP hS (lv_sub hl [1, 2, 3, 0] rfl)
              · rw [if_neg c11] at h
                refine lv_iconst (v := 1) hx hb dX5_spreads_61 (by decide) ?_
                have hz : zz 1 = some 1 := rfl
                cases h
                cases (kR _ rfl).2 _ rfl
                exact g_zret hC hP hS dX5_spreads_62 hz rfl
            · rw [if_neg c7] at h
              refine lv_goto (tgt := 69) hx hb dX5_spreads_38 (by decide) ?_
              refine lv_iinc (v := (x3_13 + 1)) (lv' := [(3, .int (x3_13 + 1)), (0, .ref (ad γ 23)), (1, .int x1), (2, .int v2)]) hx hb dX5_spreads_69 hl (k := 3) rfl rfl (by decide) rfl (fun ls hl => ?_)
              refine lv_goto (tgt := 13) hx hb dX5_spreads_72 (by decide) ?_
              cases h
              exact kS _ _ rfl _ _ _ hP hS (lv_sub hl [1, 2, 3, 0] rfl))
      rcases bs1_e h with ⟨M_x13, hv, h⟩ | ⟨t13, hv, h⟩
      · refine L13 _ _ _ _ hv ⟨fun q0 e9 H locs ls hP hS hl => ?_, fun t9 e9 => nomatch e9⟩ _ _ _ hP hS (lv_sub hl [2, 3, 1, 0] rfl)
        obtain rfl := (Sum.inl.inj e9)
        refine lv_iconst (v := 0) hx hb dX5_spreads_75 (by decide) ?_
        have hz : zz 0 = some 0 := rfl
        cases h
        exact g_zret hC hP hS dX5_spreads_76 hz rfl
      · refine L13 _ _ _ _ hv ⟨fun q0 e9 => (nomatch e9), fun t9 e9 => ?_⟩ _ _ _ hP hS (lv_sub hl [2, 3, 1, 0] rfl)
        cases e9
        exact Option.some.inj h
    · rw [if_pos c1] at h
      refine lv_iconst (v := 1) hx hb dX5_spreads_4 (by decide) ?_
      have hz : zz 1 = some 1 := rfl
      cases h
      exact g_zret hC hP hS dX5_spreads_5 hz rfl
theorem c5_spreads_20 (l : Launch) {γ : GA} {sz : Nat} {T P X Y B M : OS} {E : Nat → OS} {O : Nat → Int64} {x1 : Int32} {r0 : Int32} {Mz : OS} (h : r5_spreads 20 M x1 = some (r0, Mz)) : Met l yX5_spreads (gU yX5_spreads cX5_spreads 4 (some .boolean)) (gR 25 0 0) (gPc γ [.ref (ad γ 23), .int x1] sz (T, P, X, Y, E, B, M, O)) (gQi γ r0 sz (T, P, X, Y, E, B, Mz, O)) 0 0 (gA γ sz) := c5_spreads l 20 h
def r5_insertsAt_b3 (x1 : Int32) (x2 : Int32) (x3 : Int32) (M_3 : OS) (x4_3 : Int32) : Option ((OS × Int32) ⊕ (OS)) :=
  bd1 (r5_many M_3) (fun v1 =>
  (if v1 ≤ x4_3 then some (.inr M_3)
  else (if ((x3 >>> (x4_3 &&& 31)) &&& 1) = 0 then some (.inl (M_3, (x4_3 + 1)))
  else bd1 (r5_of M_3 84 x4_3) (fun v4 =>
  (wr 14 M_3 14 x4_3 v4).bind fun M5 =>
  bd1 (r5_lays M5 x4_3 (-1)) (fun M6 =>
  some (.inl (M6, (x4_3 + 1))))))))
def r5_insertsAt_b77 (x3 : Int32) (M_77 : OS) (x4_77 : Int32) : Option ((OS × Int32) ⊕ (OS)) :=
  bd1 (r5_many M_77) (fun v12 =>
  (if v12 ≤ x4_77 then some (.inr M_77)
  else (if ((x3 >>> (x4_77 &&& 31)) &&& 1) = 1 then (rd 14 (M_77 14) x4_77).bind fun v15 =>
  bd1 (r5_lays M_77 x4_77 v15) (fun M16 =>
  some (.inl (M16, (x4_77 + 1))))
  else some (.inl (M_77, (x4_77 + 1))))))
def r5_insertsAt (M : OS) (x1 : Int32) (x2 : Int32) (x3 : Int32) : Option (Int32 × OS) :=
  bd1 (it2 (r5_insertsAt_b3 x1 x2 x3) 200 M 0) (fun M_x3 => bd1 (r5_lays M_x3 x1 x2) (fun M7 =>
  bd2 (r5_spreads 20 M7 x3) (fun v8 M9 =>
  (if v8 = 0 then bd1 (r5_lays M9 x1 (-1)) (fun M11 =>
  bd1 (it2 (r5_insertsAt_b77 x3) 200 M11 0) (fun M_x77 => some (0, M_x77)))
  else some (1, M9)))))
theorem yv_X5_insertsAt : gYV yX5_insertsAt cX5_insertsAt 5 (some .boolean) 3 := ⟨u_6_159, u_sp_47, u_1_7, u_6_160, ⟨by decide +kernel, by decide +kernel, by decide +kernel⟩, by decide⟩
set_option maxHeartbeats 4000000 in
set_option maxRecDepth 100000 in
theorem c5_insertsAt (l : Launch) {γ : GA} {sz : Nat} {T P X Y B M : OS} {E : Nat → OS} {O : Nat → Int64} {x1 : Int32} {x2 : Int32} {x3 : Int32} {r0 : Int32} {Mz : OS} (h : r5_insertsAt M x1 x2 x3 = some (r0, Mz)) : Met l yX5_insertsAt (gU yX5_insertsAt cX5_insertsAt 5 (some .boolean)) (gR 26 0 0) (gPc γ [.ref (ad γ 23), .int x1, .int x2, .int x3] sz (T, P, X, Y, E, B, M, O)) (gQi γ r0 sz (T, P, X, Y, E, B, Mz, O)) 0 0 (gA γ sz) := by
  refine g_met (fun sz => gQi γ r0 sz (T, P, X, Y, E, B, Mz, O)) (by decide) (Nat.le_of_ble_eq_true rfl) ?_
  intro p e s m args below meth c ls hC hP hS hl
  have hx := hC.x
  have hb := hC.b
  have hl : lv_has ls 5 [(0, .ref (ad γ 23)), (1, .int x1), (2, .int x2), (3, .int x3)] := hl
  unfold r5_insertsAt at h
  refine lv_iconst (v := 0) hx hb dX5_insertsAt_0 (by decide) ?_
  refine lv_istore (lv' := [(4, .int 0), (0, .ref (ad γ 23)), (1, .int x1), (2, .int x2), (3, .int x3)]) hx hb dX5_insertsAt_1 hl (by decide) rfl (fun ls hl => ?_)
  have L3 := it2_W (r5_insertsAt_b3 x1 x2 x3) (fun (M_3 : OS) (x4_3 : Int32) => ∀ (H : Heap) (locs : List Loc) (ls : Array Slot), va_P γ.1 vwCl (gw γ (T, P, X, Y, E, B, M_3, O)) H → va_S (gA γ s.heap.size) s.heap H locs → lv_has ls 5 [(0, .ref (ad γ 23)), (1, .int x1), (2, .int x2), (3, .int x3), (4, .int x4_3)] → W p l e (gR 26 0 0) s m args below meth c H locs 0 0 (MQ below (gQi γ r0 s.heap.size (T, P, X, Y, E, B, Mz, O)) args s 0 0 (gA γ s.heap.size)) (F0 m 3 ls [])) (fun (r_k : OS) => (∀ (M_x3 : OS), r_k = M_x3 → ∀ (H : Heap) (locs : List Loc) (ls : Array Slot), va_P γ.1 vwCl (gw γ (T, P, X, Y, E, B, M_x3, O)) H → va_S (gA γ s.heap.size) s.heap H locs → lv_has ls 5 [(0, .ref (ad γ 23)), (1, .int x1), (2, .int x2), (3, .int x3)] → W p l e (gR 26 0 0) s m args below meth c H locs 0 0 (MQ below (gQi γ r0 s.heap.size (T, P, X, Y, E, B, Mz, O)) args s 0 0 (gA γ s.heap.size)) (F0 m 52 ls []))) (by
    intro M_3 x4_3 o_3 h kS kR H locs ls hP hS hl
    unfold r5_insertsAt_b3 at h
    refine lv_iload hx hb dX5_insertsAt_3 (lv_at hl 4 rfl) ?_
    refine lv_aload_n hx hb dX5_insertsAt_5 rfl (lv_at hl 0 rfl) ?_
    obtain ⟨v1, hv, h⟩ := bd1_e h
    refine g_ki (g_runV (As := []) (rest := [.int x4_3]) hC hP (c5_many l hv) (by decide) ge_23 rfl u_5_225 yv_X5_many (Nat.le_of_ble_eq_true rfl) rfl hl.1 rfl (Nat.le_of_ble_eq_true rfl) dX5_insertsAt_6 ⟨by decide, by decide⟩) hS (fun H locs hP hS => ?_)
    refine lv_icmp_ge (tgt := 52) hx hb dX5_insertsAt_9 (by decide) (fun c2 => ?_) (fun c2 => ?_)
    · rw [if_pos c2] at h
      cases h
      exact kR _ rfl _ rfl _ _ _ hP hS (lv_sub hl [0, 1, 2, 3] rfl)
    · rw [if_neg c2] at h
      refine lv_iload_n hx hb dX5_insertsAt_12 rfl (lv_at hl 3 rfl) ?_
      refine lv_iload hx hb dX5_insertsAt_13 (lv_at hl 4 rfl) ?_
      refine lv_ishr hx hb dX5_insertsAt_15 ?_
      refine lv_iconst (v := 1) hx hb dX5_insertsAt_16 (by decide) ?_
      refine lv_iand hx hb dX5_insertsAt_17 ?_
      refine lv_if_ne (tgt := 24) hx hb dX5_insertsAt_18 (by decide) (fun c3 => ?_) (fun c3 => ?_)
      · rw [if_neg c3] at h
        refine lv_aload_n hx hb dX5_insertsAt_24 rfl (lv_at hl 0 rfl) ?_
        refine g_get hC hP 14 dX5_insertsAt_25 (by decide) ge_23 rfl inX5 (by decide) rfl u_5_168 ?_
        refine lv_iload hx hb dX5_insertsAt_28 (lv_at hl 4 rfl) ?_
        refine lv_aload_n hx hb dX5_insertsAt_30 rfl (lv_at hl 0 rfl) ?_
        refine lv_bipush (v := 84) hx hb dX5_insertsAt_31 (by decide) ?_
        refine lv_iload hx hb dX5_insertsAt_33 (lv_at hl 4 rfl) ?_
        obtain ⟨v4, hv, h⟩ := bd1_e h
        refine g_ki (g_runV (As := [.int 84, .int x4_3]) (rest := [.int x4_3, .ref (ad γ 27)]) hC hP (c5_of l hv) (by decide) ge_23 rfl u_5_229 yv_X5_of (Nat.le_of_ble_eq_true rfl) rfl hl.1 rfl (Nat.le_of_ble_eq_true rfl) dX5_insertsAt_35 ⟨by decide, by decide⟩) hS (fun H locs hP hS => ?_)
        obtain ⟨M5, hv, h⟩ := ob h
        refine g_st hC hP hS (fun Z => (T, P, X, Y, E, B, Z, O)) dX5_insertsAt_38 (by decide) ge_27 gs_27 hv (fun H locs hP hS => ?_)
        refine lv_aload_n hx hb dX5_insertsAt_39 rfl (lv_at hl 0 rfl) ?_
        refine lv_iload hx hb dX5_insertsAt_40 (lv_at hl 4 rfl) ?_
        refine lv_iconst (v := -1) hx hb dX5_insertsAt_42 (by decide) ?_
        obtain ⟨M6, hv, h⟩ := bd1_e h
        refine g_kv (g_runV (As := [.int x4_3, .int (-1)]) (rest := []) hC hP (c5_lays l hv) (by decide) ge_23 rfl u_6_98 yv_X5_lays (Nat.le_of_ble_eq_true rfl) rfl hl.1 rfl (Nat.le_of_ble_eq_true rfl) dX5_insertsAt_43 ⟨by decide, by decide⟩) hS (fun H locs hP hS => ?_)
        refine lv_iinc (v := (x4_3 + 1)) (lv' := [(4, .int (x4_3 + 1)), (0, .ref (ad γ 23)), (1, .int x1), (2, .int x2), (3, .int x3)]) hx hb dX5_insertsAt_46 hl (k := 4) rfl rfl (by decide) rfl (fun ls hl => ?_)
        refine lv_goto (tgt := 3) hx hb dX5_insertsAt_49 (by decide) ?_
        cases h
        exact kS _ _ rfl _ _ _ hP hS (lv_sub hl [1, 2, 3, 4, 0] rfl)
      · rw [if_pos c3] at h
        refine lv_goto (tgt := 46) hx hb dX5_insertsAt_21 (by decide) ?_
        refine lv_iinc (v := (x4_3 + 1)) (lv' := [(4, .int (x4_3 + 1)), (0, .ref (ad γ 23)), (1, .int x1), (2, .int x2), (3, .int x3)]) hx hb dX5_insertsAt_46 hl (k := 4) rfl rfl (by decide) rfl (fun ls hl => ?_)
        refine lv_goto (tgt := 3) hx hb dX5_insertsAt_49 (by decide) ?_
        cases h
        exact kS _ _ rfl _ _ _ hP hS (lv_sub hl [1, 2, 3, 4, 0] rfl))
  obtain ⟨M_x3, hv, h⟩ := bd1_e h
  refine L3 _ _ _ _ hv (fun q0 e9 H locs ls hP hS hl => ?_) _ _ _ hP hS (lv_sub hl [1, 2, 3, 4, 0] rfl)
  obtain rfl := e9
  refine lv_aload_n hx hb dX5_insertsAt_52 rfl (lv_at hl 0 rfl) ?_
  refine lv_iload_n hx hb dX5_insertsAt_53 rfl (lv_at hl 1 rfl) ?_
  refine lv_iload_n hx hb dX5_insertsAt_54 rfl (lv_at hl 2 rfl) ?_
  obtain ⟨M7, hv, h⟩ := bd1_e h
  refine g_kv (g_runV (As := [.int x1, .int x2]) (rest := []) hC hP (c5_lays l hv) (by decide) ge_23 rfl u_6_98 yv_X5_lays (Nat.le_of_ble_eq_true rfl) rfl hl.1 rfl (Nat.le_of_ble_eq_true rfl) dX5_insertsAt_55 ⟨by decide, by decide⟩) hS (fun H locs hP hS => ?_)
  refine lv_aload_n hx hb dX5_insertsAt_58 rfl (lv_at hl 0 rfl) ?_
  refine lv_iload_n hx hb dX5_insertsAt_59 rfl (lv_at hl 3 rfl) ?_
  obtain ⟨v8, M9, hv, h⟩ := bd2_e h
  refine g_ki (g_runV (As := [.int x3]) (rest := []) hC hP (c5_spreads_20 l hv) (by decide) ge_23 rfl u_6_161 yv_X5_spreads (Nat.le_of_ble_eq_true rfl) rfl hl.1 rfl (Nat.le_of_ble_eq_true rfl) dX5_insertsAt_60 ⟨by decide, by decide⟩) hS (fun H locs hP hS => ?_)
  refine lv_if_eq (tgt := 68) hx hb dX5_insertsAt_63 (by decide) (fun c10 => ?_) (fun c10 => ?_)
  · rw [if_pos c10] at h
    refine lv_aload_n hx hb dX5_insertsAt_68 rfl (lv_at hl 0 rfl) ?_
    refine lv_iload_n hx hb dX5_insertsAt_69 rfl (lv_at hl 1 rfl) ?_
    refine lv_iconst (v := -1) hx hb dX5_insertsAt_70 (by decide) ?_
    obtain ⟨M11, hv, h⟩ := bd1_e h
    refine g_kv (g_runV (As := [.int x1, .int (-1)]) (rest := []) hC hP (c5_lays l hv) (by decide) ge_23 rfl u_6_98 yv_X5_lays (Nat.le_of_ble_eq_true rfl) rfl hl.1 rfl (Nat.le_of_ble_eq_true rfl) dX5_insertsAt_71 ⟨by decide, by decide⟩) hS (fun H locs hP hS => ?_)
    refine lv_iconst (v := 0) hx hb dX5_insertsAt_74 (by decide) ?_
    refine lv_istore (lv' := [(4, .int 0), (0, .ref (ad γ 23)), (1, .int x1), (2, .int x2), (3, .int x3)]) hx hb dX5_insertsAt_75 hl (by decide) rfl (fun ls hl => ?_)
    have L77 := it2_W (r5_insertsAt_b77 x3) (fun (M_77 : OS) (x4_77 : Int32) => ∀ (H : Heap) (locs : List Loc) (ls : Array Slot), va_P γ.1 vwCl (gw γ (T, P, X, Y, E, B, M_77, O)) H → va_S (gA γ s.heap.size) s.heap H locs → lv_has ls 5 [(0, .ref (ad γ 23)), (3, .int x3), (4, .int x4_77)] → W p l e (gR 26 0 0) s m args below meth c H locs 0 0 (MQ below (gQi γ r0 s.heap.size (T, P, X, Y, E, B, Mz, O)) args s 0 0 (gA γ s.heap.size)) (F0 m 77 ls [])) (fun (r_k : OS) => (∀ (M_x77 : OS), r_k = M_x77 → ∀ (H : Heap) (locs : List Loc) (ls : Array Slot), va_P γ.1 vwCl (gw γ (T, P, X, Y, E, B, M_x77, O)) H → va_S (gA γ s.heap.size) s.heap H locs → lv_has ls 5 [] → W p l e (gR 26 0 0) s m args below meth c H locs 0 0 (MQ below (gQi γ r0 s.heap.size (T, P, X, Y, E, B, Mz, O)) args s 0 0 (gA γ s.heap.size)) (F0 m 115 ls []))) (by
      intro M_77 x4_77 o_77 h kS kR H locs ls hP hS hl
      unfold r5_insertsAt_b77 at h
      refine lv_iload hx hb dX5_insertsAt_77 (lv_at hl 2 rfl) ?_
      refine lv_aload_n hx hb dX5_insertsAt_79 rfl (lv_at hl 0 rfl) ?_
      obtain ⟨v12, hv, h⟩ := bd1_e h
      refine g_ki (g_runV (As := []) (rest := [.int x4_77]) hC hP (c5_many l hv) (by decide) ge_23 rfl u_5_225 yv_X5_many (Nat.le_of_ble_eq_true rfl) rfl hl.1 rfl (Nat.le_of_ble_eq_true rfl) dX5_insertsAt_80 ⟨by decide, by decide⟩) hS (fun H locs hP hS => ?_)
      refine lv_icmp_ge (tgt := 115) hx hb dX5_insertsAt_83 (by decide) (fun c13 => ?_) (fun c13 => ?_)
      · rw [if_pos c13] at h
        cases h
        exact kR _ rfl _ rfl _ _ _ hP hS (lv_sub hl [] rfl)
      · rw [if_neg c13] at h
        refine lv_iload_n hx hb dX5_insertsAt_86 rfl (lv_at hl 1 rfl) ?_
        refine lv_iload hx hb dX5_insertsAt_87 (lv_at hl 2 rfl) ?_
        refine lv_ishr hx hb dX5_insertsAt_89 ?_
        refine lv_iconst (v := 1) hx hb dX5_insertsAt_90 (by decide) ?_
        refine lv_iand hx hb dX5_insertsAt_91 ?_
        refine lv_iconst (v := 1) hx hb dX5_insertsAt_92 (by decide) ?_
        refine lv_icmp_ne (tgt := 109) hx hb dX5_insertsAt_93 (by decide) (fun c14 => ?_) (fun c14 => ?_)
        · rw [if_neg c14] at h
          refine lv_iinc (v := (x4_77 + 1)) (lv' := [(4, .int (x4_77 + 1)), (0, .ref (ad γ 23)), (3, .int x3)]) hx hb dX5_insertsAt_109 hl (k := 2) rfl rfl (by decide) rfl (fun ls hl => ?_)
          refine lv_goto (tgt := 77) hx hb dX5_insertsAt_112 (by decide) ?_
          cases h
          exact kS _ _ rfl _ _ _ hP hS (lv_sub hl [1, 2, 0] rfl)
        · rw [if_pos c14] at h
          refine lv_aload_n hx hb dX5_insertsAt_96 rfl (lv_at hl 0 rfl) ?_
          refine lv_iload hx hb dX5_insertsAt_97 (lv_at hl 2 rfl) ?_
          refine lv_aload_n hx hb dX5_insertsAt_99 rfl (lv_at hl 0 rfl) ?_
          refine g_get hC hP 14 dX5_insertsAt_100 (by decide) ge_23 rfl inX5 (by decide) rfl u_5_168 ?_
          refine lv_iload hx hb dX5_insertsAt_103 (lv_at hl 2 rfl) ?_
          obtain ⟨v15, hv, h⟩ := ob h
          refine g_ld hC hP dX5_insertsAt_105 (by decide) ge_27 hv ?_
          obtain ⟨M16, hv, h⟩ := bd1_e h
          refine g_kv (g_runV (As := [.int x4_77, .int v15]) (rest := []) hC hP (c5_lays l hv) (by decide) ge_23 rfl u_6_98 yv_X5_lays (Nat.le_of_ble_eq_true rfl) rfl hl.1 rfl (Nat.le_of_ble_eq_true rfl) dX5_insertsAt_106 ⟨by decide, by decide⟩) hS (fun H locs hP hS => ?_)
          refine lv_iinc (v := (x4_77 + 1)) (lv' := [(4, .int (x4_77 + 1)), (0, .ref (ad γ 23)), (3, .int x3)]) hx hb dX5_insertsAt_109 hl (k := 2) rfl rfl (by decide) rfl (fun ls hl => ?_)
          refine lv_goto (tgt := 77) hx hb dX5_insertsAt_112 (by decide) ?_
          cases h
          exact kS _ _ rfl _ _ _ hP hS (lv_sub hl [1, 2, 0] rfl))
    obtain ⟨M_x77, hv, h⟩ := bd1_e h
    refine L77 _ _ _ _ hv (fun q0 e9 H locs ls hP hS hl => ?_) _ _ _ hP hS (lv_sub hl [1, 4, 0] rfl)
    obtain rfl := e9
    refine lv_iconst (v := 0) hx hb dX5_insertsAt_115 (by decide) ?_
    have hz : zz 0 = some 0 := rfl
    cases h
    exact g_zret hC hP hS dX5_insertsAt_116 hz rfl
  · rw [if_neg c10] at h
    refine lv_iconst (v := 1) hx hb dX5_insertsAt_66 (by decide) ?_
    have hz : zz 1 = some 1 := rfl
    cases h
    exact g_zret hC hP hS dX5_insertsAt_67 hz rfl
def r5_inserts_b9 (x1 : Int32) (x2_2 : Int32) (M_9 : OS) (x3_9 : Int32) : Option ((OS × Int32) ⊕ ((OS) ⊕ (Int32 × OS))) :=
  (if 60 ≤ x3_9 then some (.inr (.inl M_9))
  else bd1 (r5_isSuitable M_9 x1 x3_9) (fun v3 =>
  (if v3 = 0 then some (.inl (M_9, (x3_9 + 1)))
  else bd1 (r5_hinderingOf M_9 x1 x3_9) (fun v5 =>
  bd1 (r5_bits v5) (fun v6 =>
  (if v6 = x2_2 then bd1 (r5_hasFixed M_9 v5) (fun v8 =>
  (if v8 = 0 then bd2 (r5_insertsAt M_9 x1 x3_9 v5) (fun v10 M11 =>
  (if v10 = 0 then some (.inl (M11, (x3_9 + 1)))
  else some (.inr (.inr (x2_2, M11)))))
  else some (.inl (M_9, (x3_9 + 1)))))
  else some (.inl (M_9, (x3_9 + 1)))))))))
def r5_inserts_b2 (x1 : Int32) (M_2 : OS) (x2_2 : Int32) : Option ((OS × Int32) ⊕ ((OS) ⊕ (Int32 × OS))) :=
  (if 3 ≤ x2_2 then some (.inr (.inl M_2))
  else bs1 (it2 (r5_inserts_b9 x1 x2_2) 200 M_2 0) (fun M_x9 => some (.inl (M_x9, (x2_2 + 1)))) (fun t13 => some (.inr (.inr t13))))
def r5_inserts (M : OS) (x1 : Int32) : Option (Int32 × OS) :=
  bs1 (it2 (r5_inserts_b2 x1) 200 M 0) (fun M_x2 => some ((-1), M_x2)) (fun t14 => some t14)
theorem yv_X5_inserts : gYV yX5_inserts cX5_inserts 5 (some .int) 1 := ⟨u_6_148, u_sp_45, u_1_7, u_6_149, ⟨by decide +kernel, by decide +kernel, by decide +kernel⟩, by decide⟩
set_option maxHeartbeats 4000000 in
set_option maxRecDepth 100000 in
theorem c5_inserts (l : Launch) {γ : GA} {sz : Nat} {T P X Y B M : OS} {E : Nat → OS} {O : Nat → Int64} {x1 : Int32} {r0 : Int32} {Mz : OS} (h : r5_inserts M x1 = some (r0, Mz)) : Met l yX5_inserts (gU yX5_inserts cX5_inserts 5 (some .int)) (gR 27 0 0) (gPc γ [.ref (ad γ 23), .int x1] sz (T, P, X, Y, E, B, M, O)) (gQi γ r0 sz (T, P, X, Y, E, B, Mz, O)) 0 0 (gA γ sz) := by
  refine g_met (fun sz => gQi γ r0 sz (T, P, X, Y, E, B, Mz, O)) (by decide) (Nat.le_of_ble_eq_true rfl) ?_
  intro p e s m args below meth c ls hC hP hS hl
  have hx := hC.x
  have hb := hC.b
  have hl : lv_has ls 5 [(0, .ref (ad γ 23)), (1, .int x1)] := hl
  unfold r5_inserts at h
  refine lv_iconst (v := 0) hx hb dX5_inserts_0 (by decide) ?_
  refine lv_istore_n (lv' := [(2, .int 0), (0, .ref (ad γ 23)), (1, .int x1)]) hx hb dX5_inserts_1 rfl hl (by decide) rfl (fun ls hl => ?_)
  have L2 := it2_W (r5_inserts_b2 x1) (fun (M_2 : OS) (x2_2 : Int32) => ∀ (H : Heap) (locs : List Loc) (ls : Array Slot), va_P γ.1 vwCl (gw γ (T, P, X, Y, E, B, M_2, O)) H → va_S (gA γ s.heap.size) s.heap H locs → lv_has ls 5 [(0, .ref (ad γ 23)), (1, .int x1), (2, .int x2_2)] → W p l e (gR 27 0 0) s m args below meth c H locs 0 0 (MQ below (gQi γ r0 s.heap.size (T, P, X, Y, E, B, Mz, O)) args s 0 0 (gA γ s.heap.size)) (F0 m 2 ls [])) (fun (r_k : (OS) ⊕ (Int32 × OS)) => (∀ (M_x2 : OS), r_k = .inl M_x2 → ∀ (H : Heap) (locs : List Loc) (ls : Array Slot), va_P γ.1 vwCl (gw γ (T, P, X, Y, E, B, M_x2, O)) H → va_S (gA γ s.heap.size) s.heap H locs → lv_has ls 5 [] → W p l e (gR 27 0 0) s m args below meth c H locs 0 0 (MQ below (gQi γ r0 s.heap.size (T, P, X, Y, E, B, Mz, O)) args s 0 0 (gA γ s.heap.size)) (F0 m 78 ls [])) ∧ (∀ t_k, r_k = .inr t_k → t_k = (r0, Mz))) (by
    intro M_2 x2_2 o_2 h kS kR H locs ls hP hS hl
    unfold r5_inserts_b2 at h
    refine lv_iload_n hx hb dX5_inserts_2 rfl (lv_at hl 2 rfl) ?_
    refine lv_iconst (v := 3) hx hb dX5_inserts_3 (by decide) ?_
    refine lv_icmp_ge (tgt := 78) hx hb dX5_inserts_4 (by decide) (fun c1 => ?_) (fun c1 => ?_)
    · rw [if_pos c1] at h
      cases h
      exact (kR _ rfl).1 _ rfl _ _ _ hP hS (lv_sub hl [] rfl)
    · rw [if_neg c1] at h
      refine lv_iconst (v := 0) hx hb dX5_inserts_7 (by decide) ?_
      refine lv_istore_n (lv' := [(3, .int 0), (0, .ref (ad γ 23)), (1, .int x1), (2, .int x2_2)]) hx hb dX5_inserts_8 rfl hl (by decide) rfl (fun ls hl => ?_)
      have L9 := it2_W (r5_inserts_b9 x1 x2_2) (fun (M_9 : OS) (x3_9 : Int32) => ∀ (H : Heap) (locs : List Loc) (ls : Array Slot), va_P γ.1 vwCl (gw γ (T, P, X, Y, E, B, M_9, O)) H → va_S (gA γ s.heap.size) s.heap H locs → lv_has ls 5 [(0, .ref (ad γ 23)), (1, .int x1), (2, .int x2_2), (3, .int x3_9)] → W p l e (gR 27 0 0) s m args below meth c H locs 0 0 (MQ below (gQi γ r0 s.heap.size (T, P, X, Y, E, B, Mz, O)) args s 0 0 (gA γ s.heap.size)) (F0 m 9 ls [])) (fun (r_k : (OS) ⊕ (Int32 × OS)) => (∀ (M_x9 : OS), r_k = .inl M_x9 → ∀ (H : Heap) (locs : List Loc) (ls : Array Slot), va_P γ.1 vwCl (gw γ (T, P, X, Y, E, B, M_x9, O)) H → va_S (gA γ s.heap.size) s.heap H locs → lv_has ls 5 [(0, .ref (ad γ 23)), (1, .int x1), (2, .int x2_2)] → W p l e (gR 27 0 0) s m args below meth c H locs 0 0 (MQ below (gQi γ r0 s.heap.size (T, P, X, Y, E, B, Mz, O)) args s 0 0 (gA γ s.heap.size)) (F0 m 72 ls [])) ∧ (∀ t_k, r_k = .inr t_k → t_k = (r0, Mz))) (by
        intro M_9 x3_9 o_9 h kS kR H locs ls hP hS hl
        unfold r5_inserts_b9 at h
        refine lv_iload_n hx hb dX5_inserts_9 rfl (lv_at hl 3 rfl) ?_
        refine lv_bipush (v := 60) hx hb dX5_inserts_10 (by decide) ?_
        refine lv_icmp_ge (tgt := 72) hx hb dX5_inserts_12 (by decide) (fun c2 => ?_) (fun c2 => ?_)
        · rw [if_pos c2] at h
          cases h
          exact (kR _ rfl).1 _ rfl _ _ _ hP hS (lv_sub hl [0, 1, 2] rfl)
        · rw [if_neg c2] at h
          refine lv_aload_n hx hb dX5_inserts_15 rfl (lv_at hl 0 rfl) ?_
          refine lv_iload_n hx hb dX5_inserts_16 rfl (lv_at hl 1 rfl) ?_
          refine lv_iload_n hx hb dX5_inserts_17 rfl (lv_at hl 3 rfl) ?_
          obtain ⟨v3, hv, h⟩ := bd1_e h
          refine g_ki (g_runV (As := [.int x1, .int x3_9]) (rest := []) hC hP (c5_isSuitable l hv) (by decide) ge_23 rfl u_5_233 yv_X5_isSuitable (Nat.le_of_ble_eq_true rfl) rfl hl.1 rfl (Nat.le_of_ble_eq_true rfl) dX5_inserts_18 ⟨by decide, by decide⟩) hS (fun H locs hP hS => ?_)
          refine lv_if_ne (tgt := 27) hx hb dX5_inserts_21 (by decide) (fun c4 => ?_) (fun c4 => ?_)
          · rw [if_neg c4] at h
            refine lv_aload_n hx hb dX5_inserts_27 rfl (lv_at hl 0 rfl) ?_
            refine lv_iload_n hx hb dX5_inserts_28 rfl (lv_at hl 1 rfl) ?_
            refine lv_iload_n hx hb dX5_inserts_29 rfl (lv_at hl 3 rfl) ?_
            obtain ⟨v5, hv, h⟩ := bd1_e h
            refine g_ki (g_runV (As := [.int x1, .int x3_9]) (rest := []) hC hP (c5_hinderingOf l hv) (by decide) ge_23 rfl u_6_130 yv_X5_hinderingOf (Nat.le_of_ble_eq_true rfl) rfl hl.1 rfl (Nat.le_of_ble_eq_true rfl) dX5_inserts_30 ⟨by decide, by decide⟩) hS (fun H locs hP hS => ?_)
            refine lv_istore (lv' := [(4, .int v5), (0, .ref (ad γ 23)), (1, .int x1), (2, .int x2_2), (3, .int x3_9)]) hx hb dX5_inserts_33 hl (by decide) rfl (fun ls hl => ?_)
            refine lv_iload hx hb dX5_inserts_35 (lv_at hl 0 rfl) ?_
            obtain ⟨v6, hv, h⟩ := bd1_e h
            refine g_ki (g_runS (As := [.int v5]) (rest := []) hC hP (c5_bits l hv) u_6_150 yv_X5_bits (Nat.le_of_ble_eq_true rfl) rfl hl.1 rfl (Nat.le_of_ble_eq_true rfl) dX5_inserts_37 ⟨by decide, by decide⟩) hS (fun H locs hP hS => ?_)
            refine lv_iload_n hx hb dX5_inserts_40 rfl (lv_at hl 3 rfl) ?_
            refine lv_icmp_ne (tgt := 66) hx hb dX5_inserts_41 (by decide) (fun c7 => ?_) (fun c7 => ?_)
            · rw [if_neg c7] at h
              refine lv_iinc (v := (x3_9 + 1)) (lv' := [(3, .int (x3_9 + 1)), (4, .int v5), (0, .ref (ad γ 23)), (1, .int x1), (2, .int x2_2)]) hx hb dX5_inserts_66 hl (k := 4) rfl rfl (by decide) rfl (fun ls hl => ?_)
              refine lv_goto (tgt := 9) hx hb dX5_inserts_69 (by decide) ?_
              cases h
              exact kS _ _ rfl _ _ _ hP hS (lv_sub hl [2, 3, 4, 0] rfl)
            · rw [if_pos c7] at h
              refine lv_aload_n hx hb dX5_inserts_44 rfl (lv_at hl 1 rfl) ?_
              refine lv_iload hx hb dX5_inserts_45 (lv_at hl 0 rfl) ?_
              obtain ⟨v8, hv, h⟩ := bd1_e h
              refine g_ki (g_runV (As := [.int v5]) (rest := []) hC hP (c5_hasFixed l hv) (by decide) ge_23 rfl u_6_153 yv_X5_hasFixed (Nat.le_of_ble_eq_true rfl) rfl hl.1 rfl (Nat.le_of_ble_eq_true rfl) dX5_inserts_47 ⟨by decide, by decide⟩) hS (fun H locs hP hS => ?_)
              refine lv_if_ne (tgt := 66) hx hb dX5_inserts_50 (by decide) (fun c9 => ?_) (fun c9 => ?_)
              · rw [if_neg c9] at h
                refine lv_iinc (v := (x3_9 + 1)) (lv' := [(3, .int (x3_9 + 1)), (4, .int v5), (0, .ref (ad γ 23)), (1, .int x1), (2, .int x2_2)]) hx hb dX5_inserts_66 hl (k := 4) rfl rfl (by decide) rfl (fun ls hl => ?_)
                refine lv_goto (tgt := 9) hx hb dX5_inserts_69 (by decide) ?_
                cases h
                exact kS _ _ rfl _ _ _ hP hS (lv_sub hl [2, 3, 4, 0] rfl)
              · rw [if_pos c9] at h
                refine lv_aload_n hx hb dX5_inserts_53 rfl (lv_at hl 1 rfl) ?_
                refine lv_iload_n hx hb dX5_inserts_54 rfl (lv_at hl 2 rfl) ?_
                refine lv_iload_n hx hb dX5_inserts_55 rfl (lv_at hl 4 rfl) ?_
                refine lv_iload hx hb dX5_inserts_56 (lv_at hl 0 rfl) ?_
                obtain ⟨v10, M11, hv, h⟩ := bd2_e h
                refine g_ki (g_runV (As := [.int x1, .int x3_9, .int v5]) (rest := []) hC hP (c5_insertsAt l hv) (by decide) ge_23 rfl u_6_157 yv_X5_insertsAt (Nat.le_of_ble_eq_true rfl) rfl hl.1 rfl (Nat.le_of_ble_eq_true rfl) dX5_inserts_58 ⟨by decide, by decide⟩) hS (fun H locs hP hS => ?_)
                refine lv_if_eq (tgt := 66) hx hb dX5_inserts_61 (by decide) (fun c12 => ?_) (fun c12 => ?_)
                · rw [if_pos c12] at h
                  refine lv_iinc (v := (x3_9 + 1)) (lv' := [(3, .int (x3_9 + 1)), (4, .int v5), (0, .ref (ad γ 23)), (1, .int x1), (2, .int x2_2)]) hx hb dX5_inserts_66 hl (k := 4) rfl rfl (by decide) rfl (fun ls hl => ?_)
                  refine lv_goto (tgt := 9) hx hb dX5_inserts_69 (by decide) ?_
                  cases h
                  exact kS _ _ rfl _ _ _ hP hS (lv_sub hl [2, 3, 4, 0] rfl)
                · rw [if_neg c12] at h
                  refine lv_iload_n hx hb dX5_inserts_64 rfl (lv_at hl 3 rfl) ?_
                  cases h
                  cases (kR _ rfl).2 _ rfl
                  exact g_iret hC hP hS dX5_inserts_65 rfl
          · rw [if_pos c4] at h
            refine lv_goto (tgt := 66) hx hb dX5_inserts_24 (by decide) ?_
            refine lv_iinc (v := (x3_9 + 1)) (lv' := [(3, .int (x3_9 + 1)), (0, .ref (ad γ 23)), (1, .int x1), (2, .int x2_2)]) hx hb dX5_inserts_66 hl (k := 3) rfl rfl (by decide) rfl (fun ls hl => ?_)
            refine lv_goto (tgt := 9) hx hb dX5_inserts_69 (by decide) ?_
            cases h
            exact kS _ _ rfl _ _ _ hP hS (lv_sub hl [1, 2, 3, 0] rfl))
      rcases bs1_e h with ⟨M_x9, hv, h⟩ | ⟨t13, hv, h⟩
      · refine L9 _ _ _ _ hv ⟨fun q0 e9 H locs ls hP hS hl => ?_, fun t9 e9 => nomatch e9⟩ _ _ _ hP hS (lv_sub hl [1, 2, 3, 0] rfl)
        obtain rfl := (Sum.inl.inj e9)
        refine lv_iinc (v := (x2_2 + 1)) (lv' := [(2, .int (x2_2 + 1)), (0, .ref (ad γ 23)), (1, .int x1)]) hx hb dX5_inserts_72 hl (k := 2) rfl rfl (by decide) rfl (fun ls hl => ?_)
        refine lv_goto (tgt := 2) hx hb dX5_inserts_75 (by decide) ?_
        cases h
        exact kS _ _ rfl _ _ _ hP hS (lv_sub hl [1, 2, 0] rfl)
      · refine L9 _ _ _ _ hv ⟨fun q0 e9 => (nomatch e9), fun t9 e9 => ?_⟩ _ _ _ hP hS (lv_sub hl [1, 2, 3, 0] rfl)
        cases e9
        cases h
        exact (kR _ rfl).2 _ rfl)
  rcases bs1_e h with ⟨M_x2, hv, h⟩ | ⟨t14, hv, h⟩
  · refine L2 _ _ _ _ hv ⟨fun q0 e9 H locs ls hP hS hl => ?_, fun t9 e9 => nomatch e9⟩ _ _ _ hP hS (lv_sub hl [1, 2, 0] rfl)
    obtain rfl := (Sum.inl.inj e9)
    refine lv_iconst (v := -1) hx hb dX5_inserts_78 (by decide) ?_
    cases h
    exact g_iret hC hP hS dX5_inserts_79 rfl
  · refine L2 _ _ _ _ hv ⟨fun q0 e9 => (nomatch e9), fun t9 e9 => ?_⟩ _ _ _ hP hS (lv_sub hl [1, 2, 0] rfl)
    cases e9
    exact Option.some.inj h
def r5_insert_b42 (x1 : Int32) (M_42 : OS) (x2_42 : Int32) : Option ((OS × Int32) ⊕ (OS)) :=
  bd1 (r5_many M_42) (fun v3 =>
  (if v3 ≤ x2_42 then some (.inr M_42)
  else bd1 (r5_of M_42 84 x2_42) (fun v5 =>
  (wr 14 M_42 15 x2_42 v5).bind fun M6 =>
  some (.inl (M6, (x2_42 + 1))))))
def r5_insert_b77 (v7 : Int32) (M_77 : OS) (x3_77 : Int32) : Option ((OS × Int32) ⊕ (OS)) :=
  bd1 (r5_many M_77) (fun v9 =>
  (if v9 ≤ x3_77 then some (.inr M_77)
  else bd1 (r5_of M_77 84 x3_77) (fun v11 =>
  (rd 14 (M_77 15) x3_77).bind fun v12 =>
  bd1 (r5_lays M_77 x3_77 v12) (fun M13 =>
  (wr 14 M13 15 x3_77 v11).bind fun M14 =>
  some (.inl (M14, (x3_77 + 1)))))))
def r5_insert_b136 (v7 : Int32) (M_136 : OS) (x3_136 : Int32) : Option ((OS × Int32) ⊕ (OS)) :=
  bd1 (r5_many M_136) (fun v17 =>
  (if v17 ≤ x3_136 then some (.inr M_136)
  else (rd 14 (M_136 15) x3_136).bind fun v19 =>
  bd1 (r5_lays M_136 x3_136 v19) (fun M20 =>
  some (.inl (M20, (x3_136 + 1))))))
def r5_insert_j28 (M_28 : OS) (x1 : Int32) (s0_28 : Int32)  : Option (Int32 × OS) :=
  (sw M_28 0 s0_28).bind fun M1 =>
  (if (M1 0 0) = 0 then bd1 (it2 (r5_insert_b42 x1) 200 M1 0) (fun M_x42 => bd2 (r5_inserts M_x42 x1) (fun v7 M8 =>
  bd1 (it2 (r5_insert_b77 v7) 200 M8 0) (fun M_x77 => (if 0 ≤ v7 then bd1 (r5_keeps M_x77) (fun M16 =>
  bd1 (it2 (r5_insert_b136 v7) 200 M16 0) (fun M_x136 => some (v7, M_x136)))
  else (sw M_x77 0 3).bind fun M21 =>
  some (0, M21)))))
  else some (0, M1))
def r5_insert (M : OS) (x1 : Int32) : Option (Int32 × OS) :=
  bd1 (r5_isEvent M x1) (fun v22 =>
  (if v22 = 0 then r5_insert_j28 M x1 1
  else bd1 (r5_of M 84 x1) (fun v24 =>
  (if v24 < 0 then r5_insert_j28 M x1 0
  else r5_insert_j28 M x1 2))))
theorem yv_X5_insert : gYV yX5_insert cX5_insert 5 (some .int) 1 := ⟨u_6_143, u_6_144, u_1_7, u_6_145, ⟨by decide +kernel, by decide +kernel, by decide +kernel⟩, by decide⟩
set_option maxHeartbeats 4000000 in
set_option maxRecDepth 100000 in
theorem c5_insert (l : Launch) {γ : GA} {sz : Nat} {T P X Y B M : OS} {E : Nat → OS} {O : Nat → Int64} {x1 : Int32} {r0 : Int32} {Mz : OS} (h : r5_insert M x1 = some (r0, Mz)) : Met l yX5_insert (gU yX5_insert cX5_insert 5 (some .int)) (gR 28 0 0) (gPc γ [.ref (ad γ 23), .int x1] sz (T, P, X, Y, E, B, M, O)) (gQi γ r0 sz (T, P, X, Y, E, B, Mz, O)) 0 0 (gA γ sz) := by
  refine g_met (fun sz => gQi γ r0 sz (T, P, X, Y, E, B, Mz, O)) (by decide) (Nat.le_of_ble_eq_true rfl) ?_
  intro p e s m args below meth c ls hC hP hS hl
  have hx := hC.x
  have hb := hC.b
  have hl : lv_has ls 5 [(0, .ref (ad γ 23)), (1, .int x1)] := hl
  unfold r5_insert at h
  have J28 : ∀ (M_28 : OS) (s0_28 : Int32) (h : r5_insert_j28 M_28 x1 s0_28 = some (r0, Mz)), ∀ (H : Heap) (locs : List Loc) (ls : Array Slot), va_P γ.1 vwCl (gw γ (T, P, X, Y, E, B, M_28, O)) H → va_S (gA γ s.heap.size) s.heap H locs → lv_has ls 5 [(0, .ref (ad γ 23)), (1, .int x1)] → W p l e (gR 28 0 0) s m args below meth c H locs 0 0 (MQ below (gQi γ r0 s.heap.size (T, P, X, Y, E, B, Mz, O)) args s 0 0 (gA γ s.heap.size)) (F0 m 28 ls [.int s0_28, .ref (ad γ 23)]) := by
    intro M_28 s0_28 h H locs ls hP hS hl
    unfold r5_insert_j28 at h
    obtain ⟨M1, hv, h⟩ := ob h
    refine g_putI hC hP hS (fun Z => (T, P, X, Y, E, B, Z, O)) 0 tyX5 dX5_insert_28 (by decide) ge_23 rfl inX5 tyX5_ok nmX5 (by decide) u_5_154 rfl rfl (Nat.le_of_ble_eq_true rfl) gp_23_0 hv (fun H locs hP hS => ?_)
    refine lv_aload_n hx hb dX5_insert_31 rfl (lv_at hl 0 rfl) ?_
    refine g_get hC hP 0 dX5_insert_32 (by decide) ge_23 rfl inX5 (by decide) rfl u_5_154 ?_
    refine lv_if_eq (tgt := 40) hx hb dX5_insert_35 (by decide) (fun c2 => ?_) (fun c2 => ?_)
    · rw [if_pos c2] at h
      refine lv_iconst (v := 0) hx hb dX5_insert_40 (by decide) ?_
      refine lv_istore_n (lv' := [(2, .int 0), (0, .ref (ad γ 23)), (1, .int x1)]) hx hb dX5_insert_41 rfl hl (by decide) rfl (fun ls hl => ?_)
      have L42 := it2_W (r5_insert_b42 x1) (fun (M_42 : OS) (x2_42 : Int32) => ∀ (H : Heap) (locs : List Loc) (ls : Array Slot), va_P γ.1 vwCl (gw γ (T, P, X, Y, E, B, M_42, O)) H → va_S (gA γ s.heap.size) s.heap H locs → lv_has ls 5 [(0, .ref (ad γ 23)), (1, .int x1), (2, .int x2_42)] → W p l e (gR 28 0 0) s m args below meth c H locs 0 0 (MQ below (gQi γ r0 s.heap.size (T, P, X, Y, E, B, Mz, O)) args s 0 0 (gA γ s.heap.size)) (F0 m 42 ls [])) (fun (r_k : OS) => (∀ (M_x42 : OS), r_k = M_x42 → ∀ (H : Heap) (locs : List Loc) (ls : Array Slot), va_P γ.1 vwCl (gw γ (T, P, X, Y, E, B, M_x42, O)) H → va_S (gA γ s.heap.size) s.heap H locs → lv_has ls 5 [(0, .ref (ad γ 23)), (1, .int x1)] → W p l e (gR 28 0 0) s m args below meth c H locs 0 0 (MQ below (gQi γ r0 s.heap.size (T, P, X, Y, E, B, Mz, O)) args s 0 0 (gA γ s.heap.size)) (F0 m 69 ls []))) (by
        intro M_42 x2_42 o_42 h kS kR H locs ls hP hS hl
        unfold r5_insert_b42 at h
        refine lv_iload_n hx hb dX5_insert_42 rfl (lv_at hl 2 rfl) ?_
        refine lv_aload_n hx hb dX5_insert_43 rfl (lv_at hl 0 rfl) ?_
        obtain ⟨v3, hv, h⟩ := bd1_e h
        refine g_ki (g_runV (As := []) (rest := [.int x2_42]) hC hP (c5_many l hv) (by decide) ge_23 rfl u_5_225 yv_X5_many (Nat.le_of_ble_eq_true rfl) rfl hl.1 rfl (Nat.le_of_ble_eq_true rfl) dX5_insert_44 ⟨by decide, by decide⟩) hS (fun H locs hP hS => ?_)
        refine lv_icmp_ge (tgt := 69) hx hb dX5_insert_47 (by decide) (fun c4 => ?_) (fun c4 => ?_)
        · rw [if_pos c4] at h
          cases h
          exact kR _ rfl _ rfl _ _ _ hP hS (lv_sub hl [0, 1] rfl)
        · rw [if_neg c4] at h
          refine lv_aload_n hx hb dX5_insert_50 rfl (lv_at hl 0 rfl) ?_
          refine g_get hC hP 15 dX5_insert_51 (by decide) ge_23 rfl inX5 (by decide) rfl u_5_169 ?_
          refine lv_iload_n hx hb dX5_insert_54 rfl (lv_at hl 2 rfl) ?_
          refine lv_aload_n hx hb dX5_insert_55 rfl (lv_at hl 0 rfl) ?_
          refine lv_bipush (v := 84) hx hb dX5_insert_56 (by decide) ?_
          refine lv_iload_n hx hb dX5_insert_58 rfl (lv_at hl 2 rfl) ?_
          obtain ⟨v5, hv, h⟩ := bd1_e h
          refine g_ki (g_runV (As := [.int 84, .int x2_42]) (rest := [.int x2_42, .ref (ad γ 28)]) hC hP (c5_of l hv) (by decide) ge_23 rfl u_5_229 yv_X5_of (Nat.le_of_ble_eq_true rfl) rfl hl.1 rfl (Nat.le_of_ble_eq_true rfl) dX5_insert_59 ⟨by decide, by decide⟩) hS (fun H locs hP hS => ?_)
          obtain ⟨M6, hv, h⟩ := ob h
          refine g_st hC hP hS (fun Z => (T, P, X, Y, E, B, Z, O)) dX5_insert_62 (by decide) ge_28 gs_28 hv (fun H locs hP hS => ?_)
          refine lv_iinc (v := (x2_42 + 1)) (lv' := [(2, .int (x2_42 + 1)), (0, .ref (ad γ 23)), (1, .int x1)]) hx hb dX5_insert_63 hl (k := 2) rfl rfl (by decide) rfl (fun ls hl => ?_)
          refine lv_goto (tgt := 42) hx hb dX5_insert_66 (by decide) ?_
          cases h
          exact kS _ _ rfl _ _ _ hP hS (lv_sub hl [1, 2, 0] rfl))
      obtain ⟨M_x42, hv, h⟩ := bd1_e h
      refine L42 _ _ _ _ hv (fun q0 e9 H locs ls hP hS hl => ?_) _ _ _ hP hS (lv_sub hl [1, 2, 0] rfl)
      obtain rfl := e9
      refine lv_aload_n hx hb dX5_insert_69 rfl (lv_at hl 0 rfl) ?_
      refine lv_iload_n hx hb dX5_insert_70 rfl (lv_at hl 1 rfl) ?_
      obtain ⟨v7, M8, hv, h⟩ := bd2_e h
      refine g_ki (g_runV (As := [.int x1]) (rest := []) hC hP (c5_inserts l hv) (by decide) ge_23 rfl u_6_146 yv_X5_inserts (Nat.le_of_ble_eq_true rfl) rfl hl.1 rfl (Nat.le_of_ble_eq_true rfl) dX5_insert_71 ⟨by decide, by decide⟩) hS (fun H locs hP hS => ?_)
      refine lv_istore_n (lv' := [(2, .int v7), (0, .ref (ad γ 23)), (1, .int x1)]) hx hb dX5_insert_74 rfl hl (by decide) rfl (fun ls hl => ?_)
      refine lv_iconst (v := 0) hx hb dX5_insert_75 (by decide) ?_
      refine lv_istore_n (lv' := [(3, .int 0), (2, .int v7), (0, .ref (ad γ 23)), (1, .int x1)]) hx hb dX5_insert_76 rfl hl (by decide) rfl (fun ls hl => ?_)
      have L77 := it2_W (r5_insert_b77 v7) (fun (M_77 : OS) (x3_77 : Int32) => ∀ (H : Heap) (locs : List Loc) (ls : Array Slot), va_P γ.1 vwCl (gw γ (T, P, X, Y, E, B, M_77, O)) H → va_S (gA γ s.heap.size) s.heap H locs → lv_has ls 5 [(0, .ref (ad γ 23)), (2, .int v7), (3, .int x3_77)] → W p l e (gR 28 0 0) s m args below meth c H locs 0 0 (MQ below (gQi γ r0 s.heap.size (T, P, X, Y, E, B, Mz, O)) args s 0 0 (gA γ s.heap.size)) (F0 m 77 ls [])) (fun (r_k : OS) => (∀ (M_x77 : OS), r_k = M_x77 → ∀ (H : Heap) (locs : List Loc) (ls : Array Slot), va_P γ.1 vwCl (gw γ (T, P, X, Y, E, B, M_x77, O)) H → va_S (gA γ s.heap.size) s.heap H locs → lv_has ls 5 [(0, .ref (ad γ 23)), (2, .int v7)] → W p l e (gR 28 0 0) s m args below meth c H locs 0 0 (MQ below (gQi γ r0 s.heap.size (T, P, X, Y, E, B, Mz, O)) args s 0 0 (gA γ s.heap.size)) (F0 m 119 ls []))) (by
        intro M_77 x3_77 o_77 h kS kR H locs ls hP hS hl
        unfold r5_insert_b77 at h
        refine lv_iload_n hx hb dX5_insert_77 rfl (lv_at hl 2 rfl) ?_
        refine lv_aload_n hx hb dX5_insert_78 rfl (lv_at hl 0 rfl) ?_
        obtain ⟨v9, hv, h⟩ := bd1_e h
        refine g_ki (g_runV (As := []) (rest := [.int x3_77]) hC hP (c5_many l hv) (by decide) ge_23 rfl u_5_225 yv_X5_many (Nat.le_of_ble_eq_true rfl) rfl hl.1 rfl (Nat.le_of_ble_eq_true rfl) dX5_insert_79 ⟨by decide, by decide⟩) hS (fun H locs hP hS => ?_)
        refine lv_icmp_ge (tgt := 119) hx hb dX5_insert_82 (by decide) (fun c10 => ?_) (fun c10 => ?_)
        · rw [if_pos c10] at h
          cases h
          exact kR _ rfl _ rfl _ _ _ hP hS (lv_sub hl [0, 1] rfl)
        · rw [if_neg c10] at h
          refine lv_aload_n hx hb dX5_insert_85 rfl (lv_at hl 0 rfl) ?_
          refine lv_bipush (v := 84) hx hb dX5_insert_86 (by decide) ?_
          refine lv_iload_n hx hb dX5_insert_88 rfl (lv_at hl 2 rfl) ?_
          obtain ⟨v11, hv, h⟩ := bd1_e h
          refine g_ki (g_runV (As := [.int 84, .int x3_77]) (rest := []) hC hP (c5_of l hv) (by decide) ge_23 rfl u_5_229 yv_X5_of (Nat.le_of_ble_eq_true rfl) rfl hl.1 rfl (Nat.le_of_ble_eq_true rfl) dX5_insert_89 ⟨by decide, by decide⟩) hS (fun H locs hP hS => ?_)
          refine lv_istore (lv' := [(4, .int v11), (0, .ref (ad γ 23)), (2, .int v7), (3, .int x3_77)]) hx hb dX5_insert_92 hl (by decide) rfl (fun ls hl => ?_)
          refine lv_aload_n hx hb dX5_insert_94 rfl (lv_at hl 1 rfl) ?_
          refine lv_iload_n hx hb dX5_insert_95 rfl (lv_at hl 3 rfl) ?_
          refine lv_aload_n hx hb dX5_insert_96 rfl (lv_at hl 1 rfl) ?_
          refine g_get hC hP 15 dX5_insert_97 (by decide) ge_23 rfl inX5 (by decide) rfl u_5_169 ?_
          refine lv_iload_n hx hb dX5_insert_100 rfl (lv_at hl 3 rfl) ?_
          obtain ⟨v12, hv, h⟩ := ob h
          refine g_ld hC hP dX5_insert_101 (by decide) ge_28 hv ?_
          obtain ⟨M13, hv, h⟩ := bd1_e h
          refine g_kv (g_runV (As := [.int x3_77, .int v12]) (rest := []) hC hP (c5_lays l hv) (by decide) ge_23 rfl u_6_98 yv_X5_lays (Nat.le_of_ble_eq_true rfl) rfl hl.1 rfl (Nat.le_of_ble_eq_true rfl) dX5_insert_102 ⟨by decide, by decide⟩) hS (fun H locs hP hS => ?_)
          refine lv_aload_n hx hb dX5_insert_105 rfl (lv_at hl 1 rfl) ?_
          refine g_get hC hP 15 dX5_insert_106 (by decide) ge_23 rfl inX5 (by decide) rfl u_5_169 ?_
          refine lv_iload_n hx hb dX5_insert_109 rfl (lv_at hl 3 rfl) ?_
          refine lv_iload hx hb dX5_insert_110 (lv_at hl 0 rfl) ?_
          obtain ⟨M14, hv, h⟩ := ob h
          refine g_st hC hP hS (fun Z => (T, P, X, Y, E, B, Z, O)) dX5_insert_112 (by decide) ge_28 gs_28 hv (fun H locs hP hS => ?_)
          refine lv_iinc (v := (x3_77 + 1)) (lv' := [(3, .int (x3_77 + 1)), (4, .int v11), (0, .ref (ad γ 23)), (2, .int v7)]) hx hb dX5_insert_113 hl (k := 3) rfl rfl (by decide) rfl (fun ls hl => ?_)
          refine lv_goto (tgt := 77) hx hb dX5_insert_116 (by decide) ?_
          cases h
          exact kS _ _ rfl _ _ _ hP hS (lv_sub hl [2, 3, 0] rfl))
      obtain ⟨M_x77, hv, h⟩ := bd1_e h
      refine L77 _ _ _ _ hv (fun q0 e9 H locs ls hP hS hl => ?_) _ _ _ hP hS (lv_sub hl [2, 1, 0] rfl)
      obtain rfl := e9
      refine lv_iload_n hx hb dX5_insert_119 rfl (lv_at hl 1 rfl) ?_
      refine lv_if_ge (tgt := 130) hx hb dX5_insert_120 (by decide) (fun c15 => ?_) (fun c15 => ?_)
      · rw [if_pos c15] at h
        refine lv_aload_n hx hb dX5_insert_130 rfl (lv_at hl 0 rfl) ?_
        obtain ⟨M16, hv, h⟩ := bd1_e h
        refine g_kv (g_runV (As := []) (rest := []) hC hP (c5_keeps l hv) (by decide) ge_23 rfl u_5_213 yv_X5_keeps (Nat.le_of_ble_eq_true rfl) rfl hl.1 rfl (Nat.le_of_ble_eq_true rfl) dX5_insert_131 ⟨by decide, by decide⟩) hS (fun H locs hP hS => ?_)
        refine lv_iconst (v := 0) hx hb dX5_insert_134 (by decide) ?_
        refine lv_istore_n (lv' := [(3, .int 0), (0, .ref (ad γ 23)), (2, .int v7)]) hx hb dX5_insert_135 rfl hl (by decide) rfl (fun ls hl => ?_)
        have L136 := it2_W (r5_insert_b136 v7) (fun (M_136 : OS) (x3_136 : Int32) => ∀ (H : Heap) (locs : List Loc) (ls : Array Slot), va_P γ.1 vwCl (gw γ (T, P, X, Y, E, B, M_136, O)) H → va_S (gA γ s.heap.size) s.heap H locs → lv_has ls 5 [(0, .ref (ad γ 23)), (2, .int v7), (3, .int x3_136)] → W p l e (gR 28 0 0) s m args below meth c H locs 0 0 (MQ below (gQi γ r0 s.heap.size (T, P, X, Y, E, B, Mz, O)) args s 0 0 (gA γ s.heap.size)) (F0 m 136 ls [])) (fun (r_k : OS) => (∀ (M_x136 : OS), r_k = M_x136 → ∀ (H : Heap) (locs : List Loc) (ls : Array Slot), va_P γ.1 vwCl (gw γ (T, P, X, Y, E, B, M_x136, O)) H → va_S (gA γ s.heap.size) s.heap H locs → lv_has ls 5 [(2, .int v7)] → W p l e (gR 28 0 0) s m args below meth c H locs 0 0 (MQ below (gQi γ r0 s.heap.size (T, P, X, Y, E, B, Mz, O)) args s 0 0 (gA γ s.heap.size)) (F0 m 161 ls []))) (by
          intro M_136 x3_136 o_136 h kS kR H locs ls hP hS hl
          unfold r5_insert_b136 at h
          refine lv_iload_n hx hb dX5_insert_136 rfl (lv_at hl 2 rfl) ?_
          refine lv_aload_n hx hb dX5_insert_137 rfl (lv_at hl 0 rfl) ?_
          obtain ⟨v17, hv, h⟩ := bd1_e h
          refine g_ki (g_runV (As := []) (rest := [.int x3_136]) hC hP (c5_many l hv) (by decide) ge_23 rfl u_5_225 yv_X5_many (Nat.le_of_ble_eq_true rfl) rfl hl.1 rfl (Nat.le_of_ble_eq_true rfl) dX5_insert_138 ⟨by decide, by decide⟩) hS (fun H locs hP hS => ?_)
          refine lv_icmp_ge (tgt := 161) hx hb dX5_insert_141 (by decide) (fun c18 => ?_) (fun c18 => ?_)
          · rw [if_pos c18] at h
            cases h
            exact kR _ rfl _ rfl _ _ _ hP hS (lv_sub hl [1] rfl)
          · rw [if_neg c18] at h
            refine lv_aload_n hx hb dX5_insert_144 rfl (lv_at hl 0 rfl) ?_
            refine lv_iload_n hx hb dX5_insert_145 rfl (lv_at hl 2 rfl) ?_
            refine lv_aload_n hx hb dX5_insert_146 rfl (lv_at hl 0 rfl) ?_
            refine g_get hC hP 15 dX5_insert_147 (by decide) ge_23 rfl inX5 (by decide) rfl u_5_169 ?_
            refine lv_iload_n hx hb dX5_insert_150 rfl (lv_at hl 2 rfl) ?_
            obtain ⟨v19, hv, h⟩ := ob h
            refine g_ld hC hP dX5_insert_151 (by decide) ge_28 hv ?_
            obtain ⟨M20, hv, h⟩ := bd1_e h
            refine g_kv (g_runV (As := [.int x3_136, .int v19]) (rest := []) hC hP (c5_lays l hv) (by decide) ge_23 rfl u_6_98 yv_X5_lays (Nat.le_of_ble_eq_true rfl) rfl hl.1 rfl (Nat.le_of_ble_eq_true rfl) dX5_insert_152 ⟨by decide, by decide⟩) hS (fun H locs hP hS => ?_)
            refine lv_iinc (v := (x3_136 + 1)) (lv' := [(3, .int (x3_136 + 1)), (0, .ref (ad γ 23)), (2, .int v7)]) hx hb dX5_insert_155 hl (k := 2) rfl rfl (by decide) rfl (fun ls hl => ?_)
            refine lv_goto (tgt := 136) hx hb dX5_insert_158 (by decide) ?_
            cases h
            exact kS _ _ rfl _ _ _ hP hS (lv_sub hl [1, 2, 0] rfl))
        obtain ⟨M_x136, hv, h⟩ := bd1_e h
        refine L136 _ _ _ _ hv (fun q0 e9 H locs ls hP hS hl => ?_) _ _ _ hP hS (lv_sub hl [1, 2, 0] rfl)
        obtain rfl := e9
        refine lv_iload_n hx hb dX5_insert_161 rfl (lv_at hl 0 rfl) ?_
        cases h
        exact g_iret hC hP hS dX5_insert_162 rfl
      · rw [if_neg c15] at h
        refine lv_aload_n hx hb dX5_insert_123 rfl (lv_at hl 0 rfl) ?_
        refine lv_iconst (v := 3) hx hb dX5_insert_124 (by decide) ?_
        obtain ⟨M21, hv, h⟩ := ob h
        refine g_putI hC hP hS (fun Z => (T, P, X, Y, E, B, Z, O)) 0 tyX5 dX5_insert_125 (by decide) ge_23 rfl inX5 tyX5_ok nmX5 (by decide) u_5_154 rfl rfl (Nat.le_of_ble_eq_true rfl) gp_23_0 hv (fun H locs hP hS => ?_)
        refine lv_iconst (v := 0) hx hb dX5_insert_128 (by decide) ?_
        cases h
        exact g_iret hC hP hS dX5_insert_129 rfl
    · rw [if_neg c2] at h
      refine lv_iconst (v := 0) hx hb dX5_insert_38 (by decide) ?_
      cases h
      exact g_iret hC hP hS dX5_insert_39 rfl
  refine lv_aload_n hx hb dX5_insert_0 rfl (lv_at hl 0 rfl) ?_
  refine lv_aload_n hx hb dX5_insert_1 rfl (lv_at hl 0 rfl) ?_
  refine lv_iload_n hx hb dX5_insert_2 rfl (lv_at hl 1 rfl) ?_
  obtain ⟨v22, hv, h⟩ := bd1_e h
  refine g_ki (g_runV (As := [.int x1]) (rest := [.ref (ad γ 23)]) hC hP (c5_isEvent l hv) (by decide) ge_23 rfl u_6_71 yv_X5_isEvent (Nat.le_of_ble_eq_true rfl) rfl hl.1 rfl (Nat.le_of_ble_eq_true rfl) dX5_insert_3 ⟨by decide, by decide⟩) hS (fun H locs hP hS => ?_)
  refine lv_if_ne (tgt := 13) hx hb dX5_insert_6 (by decide) (fun c23 => ?_) (fun c23 => ?_)
  · rw [if_neg c23] at h
    refine lv_aload_n hx hb dX5_insert_13 rfl (lv_at hl 0 rfl) ?_
    refine lv_bipush (v := 84) hx hb dX5_insert_14 (by decide) ?_
    refine lv_iload_n hx hb dX5_insert_16 rfl (lv_at hl 1 rfl) ?_
    obtain ⟨v24, hv, h⟩ := bd1_e h
    refine g_ki (g_runV (As := [.int 84, .int x1]) (rest := [.ref (ad γ 23)]) hC hP (c5_of l hv) (by decide) ge_23 rfl u_5_229 yv_X5_of (Nat.le_of_ble_eq_true rfl) rfl hl.1 rfl (Nat.le_of_ble_eq_true rfl) dX5_insert_17 ⟨by decide, by decide⟩) hS (fun H locs hP hS => ?_)
    refine lv_if_lt (tgt := 27) hx hb dX5_insert_20 (by decide) (fun c25 => ?_) (fun c25 => ?_)
    · rw [if_pos c25] at h
      refine lv_iconst (v := 0) hx hb dX5_insert_27 (by decide) ?_
      exact J28 M 0 h _ _ _ hP hS (lv_sub hl [0, 1] rfl)
    · rw [if_neg c25] at h
      refine lv_iconst (v := 2) hx hb dX5_insert_23 (by decide) ?_
      refine lv_goto (tgt := 28) hx hb dX5_insert_24 (by decide) ?_
      exact J28 M 2 h _ _ _ hP hS (lv_sub hl [0, 1] rfl)
  · rw [if_pos c23] at h
    refine lv_iconst (v := 1) hx hb dX5_insert_9 (by decide) ?_
    refine lv_goto (tgt := 28) hx hb dX5_insert_10 (by decide) ?_
    exact J28 M 1 h _ _ _ hP hS (lv_sub hl [0, 1] rfl)
def r5_isAhead (M : OS) (x1 : Int32) (x2 : Int32) (x3 : Int32) (x4 : Int32) : Option Int32 :=
  (if x3 = x4 then bd1 (r5_of M 42 x1) (fun v2 =>
  bd1 (r5_bits v2) (fun v3 =>
  bd1 (r5_of M 42 x2) (fun v4 =>
  bd1 (r5_bits v4) (fun v5 =>
  (if v3 = v5 then (if x2 ≤ x1 then some 0
  else some 1)
  else (if v3 ≤ v5 then some 0
  else some 1))))))
  else (if x4 ≤ x3 then some 0
  else some 1))
theorem yv_X5_isAhead : gYV yX5_isAhead cX5_isAhead 7 (some .boolean) 4 := ⟨u_6_178, u_sp_50, u_1_7, u_6_179, ⟨by decide +kernel, by decide +kernel, by decide +kernel⟩, by decide⟩
set_option maxHeartbeats 4000000 in
set_option maxRecDepth 100000 in
theorem c5_isAhead (l : Launch) {γ : GA} {sz : Nat} {T P X Y B M : OS} {E : Nat → OS} {O : Nat → Int64} {x1 : Int32} {x2 : Int32} {x3 : Int32} {x4 : Int32} {r0 : Int32} (h : r5_isAhead M x1 x2 x3 x4 = some r0) : Met l yX5_isAhead (gU yX5_isAhead cX5_isAhead 7 (some .boolean)) (gR 1 0 0) (gPc γ [.ref (ad γ 23), .int x1, .int x2, .int x3, .int x4] sz (T, P, X, Y, E, B, M, O)) (gQi γ r0 sz (T, P, X, Y, E, B, M, O)) 0 0 (gA γ sz) := by
  refine g_met (fun sz => gQi γ r0 sz (T, P, X, Y, E, B, M, O)) (by decide) (Nat.le_of_ble_eq_true rfl) ?_
  intro p e s m args below meth c ls hC hP hS hl
  have hx := hC.x
  have hb := hC.b
  have hl : lv_has ls 7 [(0, .ref (ad γ 23)), (1, .int x1), (2, .int x2), (3, .int x3), (4, .int x4)] := hl
  unfold r5_isAhead at h
  refine lv_iload_n hx hb dX5_isAhead_0 rfl (lv_at hl 3 rfl) ?_
  refine lv_iload hx hb dX5_isAhead_1 (lv_at hl 4 rfl) ?_
  refine lv_icmp_eq (tgt := 18) hx hb dX5_isAhead_3 (by decide) (fun c1 => ?_) (fun c1 => ?_)
  · rw [if_pos c1] at h
    refine lv_aload_n hx hb dX5_isAhead_18 rfl (lv_at hl 0 rfl) ?_
    refine lv_bipush (v := 42) hx hb dX5_isAhead_19 (by decide) ?_
    refine lv_iload_n hx hb dX5_isAhead_21 rfl (lv_at hl 1 rfl) ?_
    obtain ⟨v2, hv, h⟩ := bd1_e h
    refine g_ki (g_runV (As := [.int 42, .int x1]) (rest := []) hC hP (c5_of l hv) (by decide) ge_23 rfl u_5_229 yv_X5_of (Nat.le_of_ble_eq_true rfl) rfl hl.1 rfl (Nat.le_of_ble_eq_true rfl) dX5_isAhead_22 ⟨by decide, by decide⟩) hS (fun H locs hP hS => ?_)
    obtain ⟨v3, hv, h⟩ := bd1_e h
    refine g_ki (g_runS (As := [.int v2]) (rest := []) hC hP (c5_bits l hv) u_6_150 yv_X5_bits (Nat.le_of_ble_eq_true rfl) rfl hl.1 rfl (Nat.le_of_ble_eq_true rfl) dX5_isAhead_25 ⟨by decide, by decide⟩) hS (fun H locs hP hS => ?_)
    refine lv_istore (lv' := [(5, .int v3), (0, .ref (ad γ 23)), (1, .int x1), (2, .int x2), (3, .int x3), (4, .int x4)]) hx hb dX5_isAhead_28 hl (by decide) rfl (fun ls hl => ?_)
    refine lv_aload_n hx hb dX5_isAhead_30 rfl (lv_at hl 1 rfl) ?_
    refine lv_bipush (v := 42) hx hb dX5_isAhead_31 (by decide) ?_
    refine lv_iload_n hx hb dX5_isAhead_33 rfl (lv_at hl 3 rfl) ?_
    obtain ⟨v4, hv, h⟩ := bd1_e h
    refine g_ki (g_runV (As := [.int 42, .int x2]) (rest := []) hC hP (c5_of l hv) (by decide) ge_23 rfl u_5_229 yv_X5_of (Nat.le_of_ble_eq_true rfl) rfl hl.1 rfl (Nat.le_of_ble_eq_true rfl) dX5_isAhead_34 ⟨by decide, by decide⟩) hS (fun H locs hP hS => ?_)
    obtain ⟨v5, hv, h⟩ := bd1_e h
    refine g_ki (g_runS (As := [.int v4]) (rest := []) hC hP (c5_bits l hv) u_6_150 yv_X5_bits (Nat.le_of_ble_eq_true rfl) rfl hl.1 rfl (Nat.le_of_ble_eq_true rfl) dX5_isAhead_37 ⟨by decide, by decide⟩) hS (fun H locs hP hS => ?_)
    refine lv_istore (lv' := [(6, .int v5), (5, .int v3), (0, .ref (ad γ 23)), (1, .int x1), (2, .int x2), (3, .int x3), (4, .int x4)]) hx hb dX5_isAhead_40 hl (by decide) rfl (fun ls hl => ?_)
    refine lv_iload hx hb dX5_isAhead_42 (lv_at hl 1 rfl) ?_
    refine lv_iload hx hb dX5_isAhead_44 (lv_at hl 0 rfl) ?_
    refine lv_icmp_eq (tgt := 64) hx hb dX5_isAhead_46 (by decide) (fun c6 => ?_) (fun c6 => ?_)
    · rw [if_pos c6] at h
      refine lv_iload_n hx hb dX5_isAhead_64 rfl (lv_at hl 3 rfl) ?_
      refine lv_iload_n hx hb dX5_isAhead_65 rfl (lv_at hl 4 rfl) ?_
      refine lv_icmp_ge (tgt := 73) hx hb dX5_isAhead_66 (by decide) (fun c7 => ?_) (fun c7 => ?_)
      · rw [if_pos c7] at h
        refine lv_iconst (v := 0) hx hb dX5_isAhead_73 (by decide) ?_
        have hz : zz 0 = some 0 := rfl
        cases h
        exact g_zret hC hP hS dX5_isAhead_74 hz rfl
      · rw [if_neg c7] at h
        refine lv_iconst (v := 1) hx hb dX5_isAhead_69 (by decide) ?_
        refine lv_goto (tgt := 74) hx hb dX5_isAhead_70 (by decide) ?_
        have hz : zz 1 = some 1 := rfl
        cases h
        exact g_zret hC hP hS dX5_isAhead_74 hz rfl
    · rw [if_neg c6] at h
      refine lv_iload hx hb dX5_isAhead_49 (lv_at hl 1 rfl) ?_
      refine lv_iload hx hb dX5_isAhead_51 (lv_at hl 0 rfl) ?_
      refine lv_icmp_le (tgt := 60) hx hb dX5_isAhead_53 (by decide) (fun c8 => ?_) (fun c8 => ?_)
      · rw [if_pos c8] at h
        refine lv_iconst (v := 0) hx hb dX5_isAhead_60 (by decide) ?_
        refine lv_goto (tgt := 74) hx hb dX5_isAhead_61 (by decide) ?_
        have hz : zz 0 = some 0 := rfl
        cases h
        exact g_zret hC hP hS dX5_isAhead_74 hz rfl
      · rw [if_neg c8] at h
        refine lv_iconst (v := 1) hx hb dX5_isAhead_56 (by decide) ?_
        refine lv_goto (tgt := 74) hx hb dX5_isAhead_57 (by decide) ?_
        have hz : zz 1 = some 1 := rfl
        cases h
        exact g_zret hC hP hS dX5_isAhead_74 hz rfl
  · rw [if_neg c1] at h
    refine lv_iload_n hx hb dX5_isAhead_6 rfl (lv_at hl 3 rfl) ?_
    refine lv_iload hx hb dX5_isAhead_7 (lv_at hl 4 rfl) ?_
    refine lv_icmp_ge (tgt := 16) hx hb dX5_isAhead_9 (by decide) (fun c9 => ?_) (fun c9 => ?_)
    · rw [if_pos c9] at h
      refine lv_iconst (v := 0) hx hb dX5_isAhead_16 (by decide) ?_
      have hz : zz 0 = some 0 := rfl
      cases h
      exact g_zret hC hP hS dX5_isAhead_17 hz rfl
    · rw [if_neg c9] at h
      refine lv_iconst (v := 1) hx hb dX5_isAhead_12 (by decide) ?_
      refine lv_goto (tgt := 17) hx hb dX5_isAhead_13 (by decide) ?_
      have hz : zz 1 = some 1 := rfl
      cases h
      exact g_zret hC hP hS dX5_isAhead_17 hz rfl
def r5_suitables_b4 (M : OS) (x1 : Int32) (x2_4 : Int32) (x3_4 : Int32) : Option ((Int32 × Int32) ⊕ (Int32)) :=
  (if 60 ≤ x3_4 then some (.inr x2_4)
  else bd1 (r5_isSuitable M x1 x3_4) (fun v2 =>
  (if v2 = 0 then some (.inl ((x2_4 + 0), (x3_4 + 1)))
  else some (.inl ((x2_4 + 1), (x3_4 + 1))))))
def r5_suitables (M : OS) (x1 : Int32) : Option Int32 :=
  bd1 (it2 (r5_suitables_b4 M x1) 200 0 0) (fun x2_x4 => some x2_x4)
theorem yv_X5_suitables : gYV yX5_suitables cX5_suitables 4 (some .int) 1 := ⟨u_6_174, u_sp_49, u_1_7, u_6_175, ⟨by decide +kernel, by decide +kernel, by decide +kernel⟩, by decide⟩
set_option maxHeartbeats 4000000 in
set_option maxRecDepth 100000 in
theorem c5_suitables (l : Launch) {γ : GA} {sz : Nat} {T P X Y B M : OS} {E : Nat → OS} {O : Nat → Int64} {x1 : Int32} {r0 : Int32} (h : r5_suitables M x1 = some r0) : Met l yX5_suitables (gU yX5_suitables cX5_suitables 4 (some .int)) (gR 6 0 0) (gPc γ [.ref (ad γ 23), .int x1] sz (T, P, X, Y, E, B, M, O)) (gQi γ r0 sz (T, P, X, Y, E, B, M, O)) 0 0 (gA γ sz) := by
  refine g_met (fun sz => gQi γ r0 sz (T, P, X, Y, E, B, M, O)) (by decide) (Nat.le_of_ble_eq_true rfl) ?_
  intro p e s m args below meth c ls hC hP hS hl
  have hx := hC.x
  have hb := hC.b
  have hl : lv_has ls 4 [(0, .ref (ad γ 23)), (1, .int x1)] := hl
  unfold r5_suitables at h
  refine lv_iconst (v := 0) hx hb dX5_suitables_0 (by decide) ?_
  refine lv_istore_n (lv' := [(2, .int 0), (0, .ref (ad γ 23)), (1, .int x1)]) hx hb dX5_suitables_1 rfl hl (by decide) rfl (fun ls hl => ?_)
  refine lv_iconst (v := 0) hx hb dX5_suitables_2 (by decide) ?_
  refine lv_istore_n (lv' := [(3, .int 0), (2, .int 0), (0, .ref (ad γ 23)), (1, .int x1)]) hx hb dX5_suitables_3 rfl hl (by decide) rfl (fun ls hl => ?_)
  have L4 := it2_W (r5_suitables_b4 M x1) (fun (x2_4 : Int32) (x3_4 : Int32) => ∀ (H : Heap) (locs : List Loc) (ls : Array Slot), va_P γ.1 vwCl (gw γ (T, P, X, Y, E, B, M, O)) H → va_S (gA γ s.heap.size) s.heap H locs → lv_has ls 4 [(0, .ref (ad γ 23)), (1, .int x1), (2, .int x2_4), (3, .int x3_4)] → W p l e (gR 6 0 0) s m args below meth c H locs 0 0 (MQ below (gQi γ r0 s.heap.size (T, P, X, Y, E, B, M, O)) args s 0 0 (gA γ s.heap.size)) (F0 m 4 ls [])) (fun (r_k : Int32) => (∀ (x2_x4 : Int32), r_k = x2_x4 → ∀ (H : Heap) (locs : List Loc) (ls : Array Slot), va_P γ.1 vwCl (gw γ (T, P, X, Y, E, B, M, O)) H → va_S (gA γ s.heap.size) s.heap H locs → lv_has ls 4 [(2, .int x2_x4)] → W p l e (gR 6 0 0) s m args below meth c H locs 0 0 (MQ below (gQi γ r0 s.heap.size (T, P, X, Y, E, B, M, O)) args s 0 0 (gA γ s.heap.size)) (F0 m 33 ls []))) (by
    intro x2_4 x3_4 o_4 h kS kR H locs ls hP hS hl
    unfold r5_suitables_b4 at h
    refine lv_iload_n hx hb dX5_suitables_4 rfl (lv_at hl 3 rfl) ?_
    refine lv_bipush (v := 60) hx hb dX5_suitables_5 (by decide) ?_
    refine lv_icmp_ge (tgt := 33) hx hb dX5_suitables_7 (by decide) (fun c1 => ?_) (fun c1 => ?_)
    · rw [if_pos c1] at h
      cases h
      exact kR _ rfl _ rfl _ _ _ hP hS (lv_sub hl [2] rfl)
    · rw [if_neg c1] at h
      refine lv_iload_n hx hb dX5_suitables_10 rfl (lv_at hl 2 rfl) ?_
      refine lv_aload_n hx hb dX5_suitables_11 rfl (lv_at hl 0 rfl) ?_
      refine lv_iload_n hx hb dX5_suitables_12 rfl (lv_at hl 1 rfl) ?_
      refine lv_iload_n hx hb dX5_suitables_13 rfl (lv_at hl 3 rfl) ?_
      obtain ⟨v2, hv, h⟩ := bd1_e h
      refine g_ki (g_runV (As := [.int x1, .int x3_4]) (rest := [.int x2_4]) hC hP (c5_isSuitable l hv) (by decide) ge_23 rfl u_5_233 yv_X5_isSuitable (Nat.le_of_ble_eq_true rfl) rfl hl.1 rfl (Nat.le_of_ble_eq_true rfl) dX5_suitables_14 ⟨by decide, by decide⟩) hS (fun H locs hP hS => ?_)
      refine lv_if_eq (tgt := 24) hx hb dX5_suitables_17 (by decide) (fun c3 => ?_) (fun c3 => ?_)
      · rw [if_pos c3] at h
        refine lv_iconst (v := 0) hx hb dX5_suitables_24 (by decide) ?_
        refine lv_iadd hx hb dX5_suitables_25 ?_
        refine lv_istore_n (lv' := [(2, .int (x2_4 + 0)), (0, .ref (ad γ 23)), (1, .int x1), (3, .int x3_4)]) hx hb dX5_suitables_26 rfl hl (by decide) rfl (fun ls hl => ?_)
        refine lv_iinc (v := (x3_4 + 1)) (lv' := [(3, .int (x3_4 + 1)), (2, .int (x2_4 + 0)), (0, .ref (ad γ 23)), (1, .int x1)]) hx hb dX5_suitables_27 hl (k := 3) rfl rfl (by decide) rfl (fun ls hl => ?_)
        refine lv_goto (tgt := 4) hx hb dX5_suitables_30 (by decide) ?_
        cases h
        exact kS _ _ rfl _ _ _ hP hS (lv_sub hl [2, 3, 1, 0] rfl)
      · rw [if_neg c3] at h
        refine lv_iconst (v := 1) hx hb dX5_suitables_20 (by decide) ?_
        refine lv_goto (tgt := 25) hx hb dX5_suitables_21 (by decide) ?_
        refine lv_iadd hx hb dX5_suitables_25 ?_
        refine lv_istore_n (lv' := [(2, .int (x2_4 + 1)), (0, .ref (ad γ 23)), (1, .int x1), (3, .int x3_4)]) hx hb dX5_suitables_26 rfl hl (by decide) rfl (fun ls hl => ?_)
        refine lv_iinc (v := (x3_4 + 1)) (lv' := [(3, .int (x3_4 + 1)), (2, .int (x2_4 + 1)), (0, .ref (ad γ 23)), (1, .int x1)]) hx hb dX5_suitables_27 hl (k := 3) rfl rfl (by decide) rfl (fun ls hl => ?_)
        refine lv_goto (tgt := 4) hx hb dX5_suitables_30 (by decide) ?_
        cases h
        exact kS _ _ rfl _ _ _ hP hS (lv_sub hl [2, 3, 1, 0] rfl))
  obtain ⟨x2_x4, hv, h⟩ := bd1_e h
  refine L4 _ _ _ _ hv (fun q0 e9 H locs ls hP hS hl => ?_) _ _ _ hP hS (lv_sub hl [2, 3, 1, 0] rfl)
  obtain rfl := e9
  refine lv_iload_n hx hb dX5_suitables_33 rfl (lv_at hl 0 rfl) ?_
  cases h
  exact g_iret hC hP hS dX5_suitables_34 rfl
def r5_build_b43 (x1_13 : Int32) (x2_13 : Int32) (v7 : Int32) (M_43 : OS) (x4_43 : Int32) : Option ((OS × Int32) ⊕ (OS × Int32)) :=
  (if x4_43 ≤ 0 then some (.inr (M_43, x4_43))
  else (rd 14 (M_43 16) (x4_43 - 1)).bind fun v9 =>
  (rd 14 (M_43 16) (x4_43 - 1)).bind fun v10 =>
  bd1 (r5_suitables M_43 v10) (fun v11 =>
  bd1 (r5_isAhead M_43 x2_13 v9 v7 v11) (fun v12 =>
  (if v12 = 0 then some (.inr (M_43, x4_43))
  else (rd 14 (M_43 16) (x4_43 - 1)).bind fun v14 =>
  (wr 14 M_43 16 x4_43 v14).bind fun M15 =>
  some (.inl (M15, (x4_43 + (-1))))))))
def r5_build_b13 (M_13 : OS) (x1_13 : Int32) (x2_13 : Int32) : Option ((OS × Int32 × Int32) ⊕ (OS × Int32)) :=
  bd1 (r5_many M_13) (fun v3 =>
  (if v3 ≤ x2_13 then some (.inr (M_13, x1_13))
  else bd1 (r5_of M_13 84 x2_13) (fun v5 =>
  (if v5 < 0 then bd1 (r5_suitables M_13 x2_13) (fun v7 =>
  bd2 (it2 (r5_build_b43 x1_13 x2_13 v7) 200 M_13 x1_13) (fun M_x43 x4_x43 => (wr 14 M_x43 16 x4_x43 x2_13).bind fun M16 =>
  some (.inl (M16, (x1_13 + 1), (x2_13 + 1)))))
  else some (.inl (M_13, x1_13, (x2_13 + 1)))))))
def r5_build_b122 (x1_x13 : Int32) (M_122 : OS) (x2_122 : Int32) (x3_122 : Int32) : Option ((OS × Int32 × Int32) ⊕ (OS × Int32)) :=
  (if x1_x13 ≤ x3_122 then some (.inr (M_122, x2_122))
  else (rd 14 (M_122 16) x3_122).bind fun v18 =>
  bd2 (r5_inserts M_122 v18) (fun v19 M20 =>
  (if 0 ≤ v19 then some (.inl (M20, (x2_122 + 0), (x3_122 + 1)))
  else some (.inl (M20, (x2_122 + 1), (x3_122 + 1))))))
def r5_build (M : OS) : Option (Int32 × OS) :=
  (sw M 0 0).bind fun M1 =>
  bd1 (r5_keeps M1) (fun M2 =>
  bd2 (it3 r5_build_b13 200 M2 0 0) (fun M_x13 x1_x13 => bd2 (it3 (r5_build_b122 x1_x13) 200 M_x13 0 0) (fun M_x122 x2_x122 => some (x2_x122, M_x122))))
theorem yv_X5_build : gYV yX5_build cX5_build 5 (some .int) 0 := ⟨u_6_169, u_6_170, u_1_7, u_6_171, ⟨by decide +kernel, by decide +kernel, by decide +kernel⟩, by decide⟩
set_option maxHeartbeats 4000000 in
set_option maxRecDepth 100000 in
theorem c5_build (l : Launch) {γ : GA} {sz : Nat} {T P X Y B M : OS} {E : Nat → OS} {O : Nat → Int64} {r0 : Int32} {Mz : OS} (h : r5_build M = some (r0, Mz)) : Met l yX5_build (gU yX5_build cX5_build 5 (some .int)) (gR 28 0 0) (gPc γ [.ref (ad γ 23)] sz (T, P, X, Y, E, B, M, O)) (gQi γ r0 sz (T, P, X, Y, E, B, Mz, O)) 0 0 (gA γ sz) := by
  refine g_met (fun sz => gQi γ r0 sz (T, P, X, Y, E, B, Mz, O)) (by decide) (Nat.le_of_ble_eq_true rfl) ?_
  intro p e s m args below meth c ls hC hP hS hl
  have hx := hC.x
  have hb := hC.b
  have hl : lv_has ls 5 [(0, .ref (ad γ 23))] := hl
  unfold r5_build at h
  refine lv_aload_n hx hb dX5_build_0 rfl (lv_at hl 0 rfl) ?_
  refine lv_iconst (v := 0) hx hb dX5_build_1 (by decide) ?_
  obtain ⟨M1, hv, h⟩ := ob h
  refine g_putI hC hP hS (fun Z => (T, P, X, Y, E, B, Z, O)) 0 tyX5 dX5_build_2 (by decide) ge_23 rfl inX5 tyX5_ok nmX5 (by decide) u_5_154 rfl rfl (Nat.le_of_ble_eq_true rfl) gp_23_0 hv (fun H locs hP hS => ?_)
  refine lv_aload_n hx hb dX5_build_5 rfl (lv_at hl 0 rfl) ?_
  obtain ⟨M2, hv, h⟩ := bd1_e h
  refine g_kv (g_runV (As := []) (rest := []) hC hP (c5_keeps l hv) (by decide) ge_23 rfl u_5_213 yv_X5_keeps (Nat.le_of_ble_eq_true rfl) rfl hl.1 rfl (Nat.le_of_ble_eq_true rfl) dX5_build_6 ⟨by decide, by decide⟩) hS (fun H locs hP hS => ?_)
  refine lv_iconst (v := 0) hx hb dX5_build_9 (by decide) ?_
  refine lv_istore_n (lv' := [(1, .int 0), (0, .ref (ad γ 23))]) hx hb dX5_build_10 rfl hl (by decide) rfl (fun ls hl => ?_)
  refine lv_iconst (v := 0) hx hb dX5_build_11 (by decide) ?_
  refine lv_istore_n (lv' := [(2, .int 0), (1, .int 0), (0, .ref (ad γ 23))]) hx hb dX5_build_12 rfl hl (by decide) rfl (fun ls hl => ?_)
  have L13 := it3_W r5_build_b13 (fun (M_13 : OS) (x1_13 : Int32) (x2_13 : Int32) => ∀ (H : Heap) (locs : List Loc) (ls : Array Slot), va_P γ.1 vwCl (gw γ (T, P, X, Y, E, B, M_13, O)) H → va_S (gA γ s.heap.size) s.heap H locs → lv_has ls 5 [(0, .ref (ad γ 23)), (1, .int x1_13), (2, .int x2_13)] → W p l e (gR 28 0 0) s m args below meth c H locs 0 0 (MQ below (gQi γ r0 s.heap.size (T, P, X, Y, E, B, Mz, O)) args s 0 0 (gA γ s.heap.size)) (F0 m 13 ls [])) (fun (r_k : OS × Int32) => (∀ (M_x13 : OS) (x1_x13 : Int32), r_k = (M_x13, x1_x13) → ∀ (H : Heap) (locs : List Loc) (ls : Array Slot), va_P γ.1 vwCl (gw γ (T, P, X, Y, E, B, M_x13, O)) H → va_S (gA γ s.heap.size) s.heap H locs → lv_has ls 5 [(0, .ref (ad γ 23)), (1, .int x1_x13)] → W p l e (gR 28 0 0) s m args below meth c H locs 0 0 (MQ below (gQi γ r0 s.heap.size (T, P, X, Y, E, B, Mz, O)) args s 0 0 (gA γ s.heap.size)) (F0 m 118 ls []))) (by
    intro M_13 x1_13 x2_13 o_13 h kS kR H locs ls hP hS hl
    unfold r5_build_b13 at h
    refine lv_iload_n hx hb dX5_build_13 rfl (lv_at hl 2 rfl) ?_
    refine lv_aload_n hx hb dX5_build_14 rfl (lv_at hl 0 rfl) ?_
    obtain ⟨v3, hv, h⟩ := bd1_e h
    refine g_ki (g_runV (As := []) (rest := [.int x2_13]) hC hP (c5_many l hv) (by decide) ge_23 rfl u_5_225 yv_X5_many (Nat.le_of_ble_eq_true rfl) rfl hl.1 rfl (Nat.le_of_ble_eq_true rfl) dX5_build_15 ⟨by decide, by decide⟩) hS (fun H locs hP hS => ?_)
    refine lv_icmp_ge (tgt := 118) hx hb dX5_build_18 (by decide) (fun c4 => ?_) (fun c4 => ?_)
    · rw [if_pos c4] at h
      cases h
      exact kR _ rfl _ _ rfl _ _ _ hP hS (lv_sub hl [0, 1] rfl)
    · rw [if_neg c4] at h
      refine lv_aload_n hx hb dX5_build_21 rfl (lv_at hl 0 rfl) ?_
      refine lv_bipush (v := 84) hx hb dX5_build_22 (by decide) ?_
      refine lv_iload_n hx hb dX5_build_24 rfl (lv_at hl 2 rfl) ?_
      obtain ⟨v5, hv, h⟩ := bd1_e h
      refine g_ki (g_runV (As := [.int 84, .int x2_13]) (rest := []) hC hP (c5_of l hv) (by decide) ge_23 rfl u_5_229 yv_X5_of (Nat.le_of_ble_eq_true rfl) rfl hl.1 rfl (Nat.le_of_ble_eq_true rfl) dX5_build_25 ⟨by decide, by decide⟩) hS (fun H locs hP hS => ?_)
      refine lv_if_lt (tgt := 34) hx hb dX5_build_28 (by decide) (fun c6 => ?_) (fun c6 => ?_)
      · rw [if_pos c6] at h
        refine lv_aload_n hx hb dX5_build_34 rfl (lv_at hl 0 rfl) ?_
        refine lv_iload_n hx hb dX5_build_35 rfl (lv_at hl 2 rfl) ?_
        obtain ⟨v7, hv, h⟩ := bd1_e h
        refine g_ki (g_runV (As := [.int x2_13]) (rest := []) hC hP (c5_suitables l hv) (by decide) ge_23 rfl u_6_172 yv_X5_suitables (Nat.le_of_ble_eq_true rfl) rfl hl.1 rfl (Nat.le_of_ble_eq_true rfl) dX5_build_36 ⟨by decide, by decide⟩) hS (fun H locs hP hS => ?_)
        refine lv_istore_n (lv' := [(3, .int v7), (0, .ref (ad γ 23)), (1, .int x1_13), (2, .int x2_13)]) hx hb dX5_build_39 rfl hl (by decide) rfl (fun ls hl => ?_)
        refine lv_iload_n hx hb dX5_build_40 rfl (lv_at hl 2 rfl) ?_
        refine lv_istore (lv' := [(4, .int x1_13), (3, .int v7), (0, .ref (ad γ 23)), (1, .int x1_13), (2, .int x2_13)]) hx hb dX5_build_41 hl (by decide) rfl (fun ls hl => ?_)
        have L43 := it2_W (r5_build_b43 x1_13 x2_13 v7) (fun (M_43 : OS) (x4_43 : Int32) => ∀ (H : Heap) (locs : List Loc) (ls : Array Slot), va_P γ.1 vwCl (gw γ (T, P, X, Y, E, B, M_43, O)) H → va_S (gA γ s.heap.size) s.heap H locs → lv_has ls 5 [(0, .ref (ad γ 23)), (1, .int x1_13), (2, .int x2_13), (3, .int v7), (4, .int x4_43)] → W p l e (gR 28 0 0) s m args below meth c H locs 0 0 (MQ below (gQi γ r0 s.heap.size (T, P, X, Y, E, B, Mz, O)) args s 0 0 (gA γ s.heap.size)) (F0 m 43 ls [])) (fun (r_k : OS × Int32) => (∀ (M_x43 : OS) (x4_x43 : Int32), r_k = (M_x43, x4_x43) → ∀ (H : Heap) (locs : List Loc) (ls : Array Slot), va_P γ.1 vwCl (gw γ (T, P, X, Y, E, B, M_x43, O)) H → va_S (gA γ s.heap.size) s.heap H locs → lv_has ls 5 [(0, .ref (ad γ 23)), (1, .int x1_13), (2, .int x2_13), (4, .int x4_x43)] → W p l e (gR 28 0 0) s m args below meth c H locs 0 0 (MQ below (gQi γ r0 s.heap.size (T, P, X, Y, E, B, Mz, O)) args s 0 0 (gA γ s.heap.size)) (F0 m 101 ls []))) (by
          intro M_43 x4_43 o_43 h kS kR H locs ls hP hS hl
          unfold r5_build_b43 at h
          refine lv_iload hx hb dX5_build_43 (lv_at hl 4 rfl) ?_
          refine lv_if_le (tgt := 101) hx hb dX5_build_45 (by decide) (fun c8 => ?_) (fun c8 => ?_)
          · rw [if_pos c8] at h
            cases h
            exact kR _ rfl _ _ rfl _ _ _ hP hS (lv_sub hl [0, 1, 2, 4] rfl)
          · rw [if_neg c8] at h
            refine lv_aload_n hx hb dX5_build_48 rfl (lv_at hl 0 rfl) ?_
            refine lv_iload_n hx hb dX5_build_49 rfl (lv_at hl 2 rfl) ?_
            refine lv_aload_n hx hb dX5_build_50 rfl (lv_at hl 0 rfl) ?_
            refine g_get hC hP 16 dX5_build_51 (by decide) ge_23 rfl inX5 (by decide) rfl u_5_170 ?_
            refine lv_iload hx hb dX5_build_54 (lv_at hl 4 rfl) ?_
            refine lv_iconst (v := 1) hx hb dX5_build_56 (by decide) ?_
            refine lv_isub hx hb dX5_build_57 ?_
            obtain ⟨v9, hv, h⟩ := ob h
            refine g_ld hC hP dX5_build_58 (by decide) ge_29 hv ?_
            refine lv_iload_n hx hb dX5_build_59 rfl (lv_at hl 3 rfl) ?_
            refine lv_aload_n hx hb dX5_build_60 rfl (lv_at hl 0 rfl) ?_
            refine lv_aload_n hx hb dX5_build_61 rfl (lv_at hl 0 rfl) ?_
            refine g_get hC hP 16 dX5_build_62 (by decide) ge_23 rfl inX5 (by decide) rfl u_5_170 ?_
            refine lv_iload hx hb dX5_build_65 (lv_at hl 4 rfl) ?_
            refine lv_iconst (v := 1) hx hb dX5_build_67 (by decide) ?_
            refine lv_isub hx hb dX5_build_68 ?_
            obtain ⟨v10, hv, h⟩ := ob h
            refine g_ld hC hP dX5_build_69 (by decide) ge_29 hv ?_
            obtain ⟨v11, hv, h⟩ := bd1_e h
            refine g_ki (g_runV (As := [.int v10]) (rest := [.int v7, .int v9, .int x2_13, .ref (ad γ 23)]) hC hP (c5_suitables l hv) (by decide) ge_23 rfl u_6_172 yv_X5_suitables (Nat.le_of_ble_eq_true rfl) rfl hl.1 rfl (Nat.le_of_ble_eq_true rfl) dX5_build_70 ⟨by decide, by decide⟩) hS (fun H locs hP hS => ?_)
            obtain ⟨v12, hv, h⟩ := bd1_e h
            refine g_ki (g_runV (As := [.int x2_13, .int v9, .int v7, .int v11]) (rest := []) hC hP (c5_isAhead l hv) (by decide) ge_23 rfl u_6_176 yv_X5_isAhead (Nat.le_of_ble_eq_true rfl) rfl hl.1 rfl (Nat.le_of_ble_eq_true rfl) dX5_build_73 ⟨by decide, by decide⟩) hS (fun H locs hP hS => ?_)
            refine lv_if_eq (tgt := 101) hx hb dX5_build_76 (by decide) (fun c13 => ?_) (fun c13 => ?_)
            · rw [if_pos c13] at h
              cases h
              exact kR _ rfl _ _ rfl _ _ _ hP hS (lv_sub hl [0, 1, 2, 4] rfl)
            · rw [if_neg c13] at h
              refine lv_aload_n hx hb dX5_build_79 rfl (lv_at hl 0 rfl) ?_
              refine g_get hC hP 16 dX5_build_80 (by decide) ge_23 rfl inX5 (by decide) rfl u_5_170 ?_
              refine lv_iload hx hb dX5_build_83 (lv_at hl 4 rfl) ?_
              refine lv_aload_n hx hb dX5_build_85 rfl (lv_at hl 0 rfl) ?_
              refine g_get hC hP 16 dX5_build_86 (by decide) ge_23 rfl inX5 (by decide) rfl u_5_170 ?_
              refine lv_iload hx hb dX5_build_89 (lv_at hl 4 rfl) ?_
              refine lv_iconst (v := 1) hx hb dX5_build_91 (by decide) ?_
              refine lv_isub hx hb dX5_build_92 ?_
              obtain ⟨v14, hv, h⟩ := ob h
              refine g_ld hC hP dX5_build_93 (by decide) ge_29 hv ?_
              obtain ⟨M15, hv, h⟩ := ob h
              refine g_st hC hP hS (fun Z => (T, P, X, Y, E, B, Z, O)) dX5_build_94 (by decide) ge_29 gs_29 hv (fun H locs hP hS => ?_)
              refine lv_iinc (v := (x4_43 + (-1))) (lv' := [(4, .int (x4_43 + (-1))), (0, .ref (ad γ 23)), (1, .int x1_13), (2, .int x2_13), (3, .int v7)]) hx hb dX5_build_95 hl (k := 4) rfl rfl (by decide) rfl (fun ls hl => ?_)
              refine lv_goto (tgt := 43) hx hb dX5_build_98 (by decide) ?_
              cases h
              exact kS _ _ rfl _ _ _ hP hS (lv_sub hl [1, 2, 3, 4, 0] rfl))
        obtain ⟨M_x43, x4_x43, hv, h⟩ := bd2_e h
        refine L43 _ _ _ _ hv (fun q0 q1 e9 H locs ls hP hS hl => ?_) _ _ _ hP hS (lv_sub hl [2, 3, 4, 1, 0] rfl)
        obtain ⟨rfl, rfl⟩ := inj2 e9
        refine lv_aload_n hx hb dX5_build_101 rfl (lv_at hl 0 rfl) ?_
        refine g_get hC hP 16 dX5_build_102 (by decide) ge_23 rfl inX5 (by decide) rfl u_5_170 ?_
        refine lv_iload hx hb dX5_build_105 (lv_at hl 3 rfl) ?_
        refine lv_iload_n hx hb dX5_build_107 rfl (lv_at hl 2 rfl) ?_
        obtain ⟨M16, hv, h⟩ := ob h
        refine g_st hC hP hS (fun Z => (T, P, X, Y, E, B, Z, O)) dX5_build_108 (by decide) ge_29 gs_29 hv (fun H locs hP hS => ?_)
        refine lv_iinc (v := (x1_13 + 1)) (lv' := [(1, .int (x1_13 + 1)), (0, .ref (ad γ 23)), (2, .int x2_13), (4, .int x4_x43)]) hx hb dX5_build_109 hl (k := 1) rfl rfl (by decide) rfl (fun ls hl => ?_)
        refine lv_iinc (v := (x2_13 + 1)) (lv' := [(2, .int (x2_13 + 1)), (1, .int (x1_13 + 1)), (0, .ref (ad γ 23)), (4, .int x4_x43)]) hx hb dX5_build_112 hl (k := 2) rfl rfl (by decide) rfl (fun ls hl => ?_)
        refine lv_goto (tgt := 13) hx hb dX5_build_115 (by decide) ?_
        cases h
        exact kS _ _ _ rfl _ _ _ hP hS (lv_sub hl [2, 1, 0] rfl)
      · rw [if_neg c6] at h
        refine lv_goto (tgt := 112) hx hb dX5_build_31 (by decide) ?_
        refine lv_iinc (v := (x2_13 + 1)) (lv' := [(2, .int (x2_13 + 1)), (0, .ref (ad γ 23)), (1, .int x1_13)]) hx hb dX5_build_112 hl (k := 2) rfl rfl (by decide) rfl (fun ls hl => ?_)
        refine lv_goto (tgt := 13) hx hb dX5_build_115 (by decide) ?_
        cases h
        exact kS _ _ _ rfl _ _ _ hP hS (lv_sub hl [1, 2, 0] rfl))
  obtain ⟨M_x13, x1_x13, hv, h⟩ := bd2_e h
  refine L13 _ _ _ _ _ hv (fun q0 q1 e9 H locs ls hP hS hl => ?_) _ _ _ hP hS (lv_sub hl [2, 1, 0] rfl)
  obtain ⟨rfl, rfl⟩ := inj2 e9
  refine lv_iconst (v := 0) hx hb dX5_build_118 (by decide) ?_
  refine lv_istore_n (lv' := [(2, .int 0), (0, .ref (ad γ 23)), (1, .int x1_x13)]) hx hb dX5_build_119 rfl hl (by decide) rfl (fun ls hl => ?_)
  refine lv_iconst (v := 0) hx hb dX5_build_120 (by decide) ?_
  refine lv_istore_n (lv' := [(3, .int 0), (2, .int 0), (0, .ref (ad γ 23)), (1, .int x1_x13)]) hx hb dX5_build_121 rfl hl (by decide) rfl (fun ls hl => ?_)
  have L122 := it3_W (r5_build_b122 x1_x13) (fun (M_122 : OS) (x2_122 : Int32) (x3_122 : Int32) => ∀ (H : Heap) (locs : List Loc) (ls : Array Slot), va_P γ.1 vwCl (gw γ (T, P, X, Y, E, B, M_122, O)) H → va_S (gA γ s.heap.size) s.heap H locs → lv_has ls 5 [(0, .ref (ad γ 23)), (1, .int x1_x13), (2, .int x2_122), (3, .int x3_122)] → W p l e (gR 28 0 0) s m args below meth c H locs 0 0 (MQ below (gQi γ r0 s.heap.size (T, P, X, Y, E, B, Mz, O)) args s 0 0 (gA γ s.heap.size)) (F0 m 122 ls [])) (fun (r_k : OS × Int32) => (∀ (M_x122 : OS) (x2_x122 : Int32), r_k = (M_x122, x2_x122) → ∀ (H : Heap) (locs : List Loc) (ls : Array Slot), va_P γ.1 vwCl (gw γ (T, P, X, Y, E, B, M_x122, O)) H → va_S (gA γ s.heap.size) s.heap H locs → lv_has ls 5 [(2, .int x2_x122)] → W p l e (gR 28 0 0) s m args below meth c H locs 0 0 (MQ below (gQi γ r0 s.heap.size (T, P, X, Y, E, B, Mz, O)) args s 0 0 (gA γ s.heap.size)) (F0 m 154 ls []))) (by
    intro M_122 x2_122 x3_122 o_122 h kS kR H locs ls hP hS hl
    unfold r5_build_b122 at h
    refine lv_iload_n hx hb dX5_build_122 rfl (lv_at hl 3 rfl) ?_
    refine lv_iload_n hx hb dX5_build_123 rfl (lv_at hl 1 rfl) ?_
    refine lv_icmp_ge (tgt := 154) hx hb dX5_build_124 (by decide) (fun c17 => ?_) (fun c17 => ?_)
    · rw [if_pos c17] at h
      cases h
      exact kR _ rfl _ _ rfl _ _ _ hP hS (lv_sub hl [2] rfl)
    · rw [if_neg c17] at h
      refine lv_iload_n hx hb dX5_build_127 rfl (lv_at hl 2 rfl) ?_
      refine lv_aload_n hx hb dX5_build_128 rfl (lv_at hl 0 rfl) ?_
      refine lv_aload_n hx hb dX5_build_129 rfl (lv_at hl 0 rfl) ?_
      refine g_get hC hP 16 dX5_build_130 (by decide) ge_23 rfl inX5 (by decide) rfl u_5_170 ?_
      refine lv_iload_n hx hb dX5_build_133 rfl (lv_at hl 3 rfl) ?_
      obtain ⟨v18, hv, h⟩ := ob h
      refine g_ld hC hP dX5_build_134 (by decide) ge_29 hv ?_
      obtain ⟨v19, M20, hv, h⟩ := bd2_e h
      refine g_ki (g_runV (As := [.int v18]) (rest := [.int x2_122]) hC hP (c5_inserts l hv) (by decide) ge_23 rfl u_6_146 yv_X5_inserts (Nat.le_of_ble_eq_true rfl) rfl hl.1 rfl (Nat.le_of_ble_eq_true rfl) dX5_build_135 ⟨by decide, by decide⟩) hS (fun H locs hP hS => ?_)
      refine lv_if_ge (tgt := 145) hx hb dX5_build_138 (by decide) (fun c21 => ?_) (fun c21 => ?_)
      · rw [if_pos c21] at h
        refine lv_iconst (v := 0) hx hb dX5_build_145 (by decide) ?_
        refine lv_iadd hx hb dX5_build_146 ?_
        refine lv_istore_n (lv' := [(2, .int (x2_122 + 0)), (0, .ref (ad γ 23)), (1, .int x1_x13), (3, .int x3_122)]) hx hb dX5_build_147 rfl hl (by decide) rfl (fun ls hl => ?_)
        refine lv_iinc (v := (x3_122 + 1)) (lv' := [(3, .int (x3_122 + 1)), (2, .int (x2_122 + 0)), (0, .ref (ad γ 23)), (1, .int x1_x13)]) hx hb dX5_build_148 hl (k := 3) rfl rfl (by decide) rfl (fun ls hl => ?_)
        refine lv_goto (tgt := 122) hx hb dX5_build_151 (by decide) ?_
        cases h
        exact kS _ _ _ rfl _ _ _ hP hS (lv_sub hl [2, 3, 1, 0] rfl)
      · rw [if_neg c21] at h
        refine lv_iconst (v := 1) hx hb dX5_build_141 (by decide) ?_
        refine lv_goto (tgt := 146) hx hb dX5_build_142 (by decide) ?_
        refine lv_iadd hx hb dX5_build_146 ?_
        refine lv_istore_n (lv' := [(2, .int (x2_122 + 1)), (0, .ref (ad γ 23)), (1, .int x1_x13), (3, .int x3_122)]) hx hb dX5_build_147 rfl hl (by decide) rfl (fun ls hl => ?_)
        refine lv_iinc (v := (x3_122 + 1)) (lv' := [(3, .int (x3_122 + 1)), (2, .int (x2_122 + 1)), (0, .ref (ad γ 23)), (1, .int x1_x13)]) hx hb dX5_build_148 hl (k := 3) rfl rfl (by decide) rfl (fun ls hl => ?_)
        refine lv_goto (tgt := 122) hx hb dX5_build_151 (by decide) ?_
        cases h
        exact kS _ _ _ rfl _ _ _ hP hS (lv_sub hl [2, 3, 1, 0] rfl))
  obtain ⟨M_x122, x2_x122, hv, h⟩ := bd2_e h
  refine L122 _ _ _ _ _ hv (fun q0 q1 e9 H locs ls hP hS hl => ?_) _ _ _ hP hS (lv_sub hl [2, 3, 1, 0] rfl)
  obtain ⟨rfl, rfl⟩ := inj2 e9
  refine lv_iload_n hx hb dX5_build_154 rfl (lv_at hl 0 rfl) ?_
  cases h
  exact g_iret hC hP hS dX5_build_155 rfl
def r5_chainThrown (M : OS) (x1 : Int32) (x2 : Int32) : Option Int32 :=
  bd1 (r5_isEvent M x1) (fun v1 =>
  (if v1 = 0 then some 1
  else bd1 (r5_in x2 0 9) (fun v3 =>
  (if v3 = 0 then some 1
  else bd1 (r5_of M 84 x1) (fun v5 =>
  (if v5 < 0 then some 2
  else bd1 (r5_of M 70 x1) (fun v7 =>
  (if v7 = 2 then some 2
  else bd1 (r5_of M 84 x1) (fun v9 =>
  (if (v9 / 6) = x2 then some 2
  else some 0))))))))))
theorem yv_X5_chainThrown : gYV yX5_chainThrown cX5_chainThrown 3 (some .int) 2 := ⟨u_6_186, u_sp_51, u_1_7, u_6_187, ⟨by decide +kernel, by decide +kernel, by decide +kernel⟩, by decide⟩
set_option maxHeartbeats 4000000 in
set_option maxRecDepth 100000 in
theorem c5_chainThrown (l : Launch) {γ : GA} {sz : Nat} {T P X Y B M : OS} {E : Nat → OS} {O : Nat → Int64} {x1 : Int32} {x2 : Int32} {r0 : Int32} (h : r5_chainThrown M x1 x2 = some r0) : Met l yX5_chainThrown (gU yX5_chainThrown cX5_chainThrown 3 (some .int)) (gR 2 0 0) (gPc γ [.ref (ad γ 23), .int x1, .int x2] sz (T, P, X, Y, E, B, M, O)) (gQi γ r0 sz (T, P, X, Y, E, B, M, O)) 0 0 (gA γ sz) := by
  refine g_met (fun sz => gQi γ r0 sz (T, P, X, Y, E, B, M, O)) (by decide) (Nat.le_of_ble_eq_true rfl) ?_
  intro p e s m args below meth c ls hC hP hS hl
  have hx := hC.x
  have hb := hC.b
  have hl : lv_has ls 3 [(0, .ref (ad γ 23)), (1, .int x1), (2, .int x2)] := hl
  unfold r5_chainThrown at h
  refine lv_aload_n hx hb dX5_chainThrown_0 rfl (lv_at hl 0 rfl) ?_
  refine lv_iload_n hx hb dX5_chainThrown_1 rfl (lv_at hl 1 rfl) ?_
  obtain ⟨v1, hv, h⟩ := bd1_e h
  refine g_ki (g_runV (As := [.int x1]) (rest := []) hC hP (c5_isEvent l hv) (by decide) ge_23 rfl u_6_71 yv_X5_isEvent (Nat.le_of_ble_eq_true rfl) rfl hl.1 rfl (Nat.le_of_ble_eq_true rfl) dX5_chainThrown_2 ⟨by decide, by decide⟩) hS (fun H locs hP hS => ?_)
  refine lv_if_eq (tgt := 18) hx hb dX5_chainThrown_5 (by decide) (fun c2 => ?_) (fun c2 => ?_)
  · rw [if_pos c2] at h
    refine lv_iconst (v := 1) hx hb dX5_chainThrown_18 (by decide) ?_
    cases h
    exact g_iret hC hP hS dX5_chainThrown_19 rfl
  · rw [if_neg c2] at h
    refine lv_iload_n hx hb dX5_chainThrown_8 rfl (lv_at hl 2 rfl) ?_
    refine lv_iconst (v := 0) hx hb dX5_chainThrown_9 (by decide) ?_
    refine lv_bipush (v := 9) hx hb dX5_chainThrown_10 (by decide) ?_
    obtain ⟨v3, hv, h⟩ := bd1_e h
    refine g_ki (g_runS (As := [.int x2, .int 0, .int 9]) (rest := []) hC hP (c5_in l hv) u_5_210 yv_X5_in (Nat.le_of_ble_eq_true rfl) rfl hl.1 rfl (Nat.le_of_ble_eq_true rfl) dX5_chainThrown_12 ⟨by decide, by decide⟩) hS (fun H locs hP hS => ?_)
    refine lv_if_ne (tgt := 20) hx hb dX5_chainThrown_15 (by decide) (fun c4 => ?_) (fun c4 => ?_)
    · rw [if_neg c4] at h
      refine lv_aload_n hx hb dX5_chainThrown_20 rfl (lv_at hl 0 rfl) ?_
      refine lv_bipush (v := 84) hx hb dX5_chainThrown_21 (by decide) ?_
      refine lv_iload_n hx hb dX5_chainThrown_23 rfl (lv_at hl 1 rfl) ?_
      obtain ⟨v5, hv, h⟩ := bd1_e h
      refine g_ki (g_runV (As := [.int 84, .int x1]) (rest := []) hC hP (c5_of l hv) (by decide) ge_23 rfl u_5_229 yv_X5_of (Nat.le_of_ble_eq_true rfl) rfl hl.1 rfl (Nat.le_of_ble_eq_true rfl) dX5_chainThrown_24 ⟨by decide, by decide⟩) hS (fun H locs hP hS => ?_)
      refine lv_if_lt (tgt := 55) hx hb dX5_chainThrown_27 (by decide) (fun c6 => ?_) (fun c6 => ?_)
      · rw [if_pos c6] at h
        refine lv_iconst (v := 2) hx hb dX5_chainThrown_55 (by decide) ?_
        refine lv_goto (tgt := 60) hx hb dX5_chainThrown_56 (by decide) ?_
        cases h
        exact g_iret hC hP hS dX5_chainThrown_60 rfl
      · rw [if_neg c6] at h
        refine lv_aload_n hx hb dX5_chainThrown_30 rfl (lv_at hl 0 rfl) ?_
        refine lv_bipush (v := 70) hx hb dX5_chainThrown_31 (by decide) ?_
        refine lv_iload_n hx hb dX5_chainThrown_33 rfl (lv_at hl 1 rfl) ?_
        obtain ⟨v7, hv, h⟩ := bd1_e h
        refine g_ki (g_runV (As := [.int 70, .int x1]) (rest := []) hC hP (c5_of l hv) (by decide) ge_23 rfl u_5_229 yv_X5_of (Nat.le_of_ble_eq_true rfl) rfl hl.1 rfl (Nat.le_of_ble_eq_true rfl) dX5_chainThrown_34 ⟨by decide, by decide⟩) hS (fun H locs hP hS => ?_)
        refine lv_iconst (v := 2) hx hb dX5_chainThrown_37 (by decide) ?_
        refine lv_icmp_eq (tgt := 55) hx hb dX5_chainThrown_38 (by decide) (fun c8 => ?_) (fun c8 => ?_)
        · rw [if_pos c8] at h
          refine lv_iconst (v := 2) hx hb dX5_chainThrown_55 (by decide) ?_
          refine lv_goto (tgt := 60) hx hb dX5_chainThrown_56 (by decide) ?_
          cases h
          exact g_iret hC hP hS dX5_chainThrown_60 rfl
        · rw [if_neg c8] at h
          refine lv_aload_n hx hb dX5_chainThrown_41 rfl (lv_at hl 0 rfl) ?_
          refine lv_bipush (v := 84) hx hb dX5_chainThrown_42 (by decide) ?_
          refine lv_iload_n hx hb dX5_chainThrown_44 rfl (lv_at hl 1 rfl) ?_
          obtain ⟨v9, hv, h⟩ := bd1_e h
          refine g_ki (g_runV (As := [.int 84, .int x1]) (rest := []) hC hP (c5_of l hv) (by decide) ge_23 rfl u_5_229 yv_X5_of (Nat.le_of_ble_eq_true rfl) rfl hl.1 rfl (Nat.le_of_ble_eq_true rfl) dX5_chainThrown_45 ⟨by decide, by decide⟩) hS (fun H locs hP hS => ?_)
          refine lv_bipush (v := 6) hx hb dX5_chainThrown_48 (by decide) ?_
          refine lv_idiv hx hb dX5_chainThrown_50 (by decide) ?_
          refine lv_iload_n hx hb dX5_chainThrown_51 rfl (lv_at hl 2 rfl) ?_
          refine lv_icmp_ne (tgt := 59) hx hb dX5_chainThrown_52 (by decide) (fun c10 => ?_) (fun c10 => ?_)
          · rw [if_neg c10] at h
            refine lv_iconst (v := 0) hx hb dX5_chainThrown_59 (by decide) ?_
            cases h
            exact g_iret hC hP hS dX5_chainThrown_60 rfl
          · rw [if_pos c10] at h
            refine lv_iconst (v := 2) hx hb dX5_chainThrown_55 (by decide) ?_
            refine lv_goto (tgt := 60) hx hb dX5_chainThrown_56 (by decide) ?_
            cases h
            exact g_iret hC hP hS dX5_chainThrown_60 rfl
    · rw [if_pos c4] at h
      refine lv_iconst (v := 1) hx hb dX5_chainThrown_18 (by decide) ?_
      cases h
      exact g_iret hC hP hS dX5_chainThrown_19 rfl
def r5_chainOf_b47 (M : OS) (v2 : Int32) (x5_25 : Int32) (x6_35 : Int32) (x4_47 : Int32) (x7_47 : Int32) : Option ((Int32 × Int32) ⊕ (Int32)) :=
  bd1 (r5_many M) (fun v7 =>
  (if v7 ≤ x7_47 then some (.inr x4_47)
  else (if ((x4_47 >>> (x6_35 &&& 31)) &&& 1) = 1 then bd1 (r5_slotsOf M x7_47) (fun v10 =>
  (if (v10 &&& v2) = 0 then some (.inl ((x4_47 ||| 0), (x7_47 + 1)))
  else bd1 (r5_isBound M x6_35 x7_47) (fun v12 =>
  (if v12 = 0 then some (.inl ((x4_47 ||| 0), (x7_47 + 1)))
  else (some (x4_47 ||| (1 <<< (x7_47 &&& 31)))).bind fun v14 =>
  some (.inl (v14, (x7_47 + 1)))))))
  else some (.inl ((x4_47 ||| 0), (x7_47 + 1))))))
def r5_chainOf_b35 (M : OS) (v2 : Int32) (x5_25 : Int32) (x4_35 : Int32) (x6_35 : Int32) : Option ((Int32 × Int32) ⊕ (Int32)) :=
  bd1 (r5_many M) (fun v5 =>
  (if v5 ≤ x6_35 then some (.inr x4_35)
  else bd1 (it2 (r5_chainOf_b47 M v2 x5_25 x6_35) 200 x4_35 0) (fun x4_x47 => some (.inl (x4_x47, (x6_35 + 1))))))
def r5_chainOf_b25 (M : OS) (v2 : Int32) (x4_25 : Int32) (x5_25 : Int32) : Option ((Int32 × Int32) ⊕ (Int32)) :=
  (if 14 ≤ x5_25 then some (.inr x4_25)
  else bd1 (it2 (r5_chainOf_b35 M v2 x5_25) 200 x4_25 0) (fun x4_x35 => some (.inl (x4_x35, (x5_25 + 1)))))
def r5_chainOf (M : OS) (x1 : Int32) (x2 : Int32) : Option Int32 :=
  bd1 (r5_of M 84 x1) (fun v1 =>
  (some ((1 <<< (x2 &&& 31)) ||| (1 <<< ((v1 / 6) &&& 31)))).bind fun v2 =>
  (some (1 <<< (x1 &&& 31))).bind fun v3 =>
  bd1 (it2 (r5_chainOf_b25 M v2) 200 v3 0) (fun x4_x25 => some x4_x25))
theorem yv_X5_chainOf : gYV yX5_chainOf cX5_chainOf 8 (some .int) 2 := ⟨u_6_190, u_sp_52, u_1_7, u_6_191, ⟨by decide +kernel, by decide +kernel, by decide +kernel⟩, by decide⟩
set_option maxHeartbeats 4000000 in
set_option maxRecDepth 100000 in
theorem c5_chainOf (l : Launch) {γ : GA} {sz : Nat} {T P X Y B M : OS} {E : Nat → OS} {O : Nat → Int64} {x1 : Int32} {x2 : Int32} {r0 : Int32} (h : r5_chainOf M x1 x2 = some r0) : Met l yX5_chainOf (gU yX5_chainOf cX5_chainOf 8 (some .int)) (gR 3 0 0) (gPc γ [.ref (ad γ 23), .int x1, .int x2] sz (T, P, X, Y, E, B, M, O)) (gQi γ r0 sz (T, P, X, Y, E, B, M, O)) 0 0 (gA γ sz) := by
  refine g_met (fun sz => gQi γ r0 sz (T, P, X, Y, E, B, M, O)) (by decide) (Nat.le_of_ble_eq_true rfl) ?_
  intro p e s m args below meth c ls hC hP hS hl
  have hx := hC.x
  have hb := hC.b
  have hl : lv_has ls 8 [(0, .ref (ad γ 23)), (1, .int x1), (2, .int x2)] := hl
  unfold r5_chainOf at h
  refine lv_iconst (v := 1) hx hb dX5_chainOf_0 (by decide) ?_
  refine lv_iload_n hx hb dX5_chainOf_1 rfl (lv_at hl 2 rfl) ?_
  refine lv_ishl hx hb dX5_chainOf_2 ?_
  refine lv_iconst (v := 1) hx hb dX5_chainOf_3 (by decide) ?_
  refine lv_aload_n hx hb dX5_chainOf_4 rfl (lv_at hl 0 rfl) ?_
  refine lv_bipush (v := 84) hx hb dX5_chainOf_5 (by decide) ?_
  refine lv_iload_n hx hb dX5_chainOf_7 rfl (lv_at hl 1 rfl) ?_
  obtain ⟨v1, hv, h⟩ := bd1_e h
  refine g_ki (g_runV (As := [.int 84, .int x1]) (rest := [.int 1, .int (1 <<< (x2 &&& 31))]) hC hP (c5_of l hv) (by decide) ge_23 rfl u_5_229 yv_X5_of (Nat.le_of_ble_eq_true rfl) rfl hl.1 rfl (Nat.le_of_ble_eq_true rfl) dX5_chainOf_8 ⟨by decide, by decide⟩) hS (fun H locs hP hS => ?_)
  refine lv_bipush (v := 6) hx hb dX5_chainOf_11 (by decide) ?_
  refine lv_idiv hx hb dX5_chainOf_13 (by decide) ?_
  refine lv_ishl hx hb dX5_chainOf_14 ?_
  refine lv_ior hx hb dX5_chainOf_15 ?_
  obtain ⟨v2, hv, h⟩ := ob h
  refine lv_topi (fun y9 ey9 => ?_)
  obtain rfl : v2 = y9 := (Option.some.inj hv).symm.trans ey9.symm
  clear hv ey9
  refine lv_istore_n (lv' := [(3, .int v2), (0, .ref (ad γ 23)), (1, .int x1), (2, .int x2)]) hx hb dX5_chainOf_16 rfl hl (by decide) rfl (fun ls hl => ?_)
  refine lv_iconst (v := 1) hx hb dX5_chainOf_17 (by decide) ?_
  refine lv_iload_n hx hb dX5_chainOf_18 rfl (lv_at hl 2 rfl) ?_
  refine lv_ishl hx hb dX5_chainOf_19 ?_
  obtain ⟨v3, hv, h⟩ := ob h
  refine lv_topi (fun y9 ey9 => ?_)
  obtain rfl : v3 = y9 := (Option.some.inj hv).symm.trans ey9.symm
  clear hv ey9
  refine lv_istore (lv' := [(4, .int v3), (3, .int v2), (0, .ref (ad γ 23)), (1, .int x1), (2, .int x2)]) hx hb dX5_chainOf_20 hl (by decide) rfl (fun ls hl => ?_)
  refine lv_iconst (v := 0) hx hb dX5_chainOf_22 (by decide) ?_
  refine lv_istore (lv' := [(5, .int 0), (4, .int v3), (3, .int v2), (0, .ref (ad γ 23)), (1, .int x1), (2, .int x2)]) hx hb dX5_chainOf_23 hl (by decide) rfl (fun ls hl => ?_)
  have L25 := it2_W (r5_chainOf_b25 M v2) (fun (x4_25 : Int32) (x5_25 : Int32) => ∀ (H : Heap) (locs : List Loc) (ls : Array Slot), va_P γ.1 vwCl (gw γ (T, P, X, Y, E, B, M, O)) H → va_S (gA γ s.heap.size) s.heap H locs → lv_has ls 8 [(0, .ref (ad γ 23)), (3, .int v2), (4, .int x4_25), (5, .int x5_25)] → W p l e (gR 3 0 0) s m args below meth c H locs 0 0 (MQ below (gQi γ r0 s.heap.size (T, P, X, Y, E, B, M, O)) args s 0 0 (gA γ s.heap.size)) (F0 m 25 ls [])) (fun (r_k : Int32) => (∀ (x4_x25 : Int32), r_k = x4_x25 → ∀ (H : Heap) (locs : List Loc) (ls : Array Slot), va_P γ.1 vwCl (gw γ (T, P, X, Y, E, B, M, O)) H → va_S (gA γ s.heap.size) s.heap H locs → lv_has ls 8 [(4, .int x4_x25)] → W p l e (gR 3 0 0) s m args below meth c H locs 0 0 (MQ below (gQi γ r0 s.heap.size (T, P, X, Y, E, B, M, O)) args s 0 0 (gA γ s.heap.size)) (F0 m 120 ls []))) (by
    intro x4_25 x5_25 o_25 h kS kR H locs ls hP hS hl
    unfold r5_chainOf_b25 at h
    refine lv_iload hx hb dX5_chainOf_25 (lv_at hl 3 rfl) ?_
    refine lv_bipush (v := 14) hx hb dX5_chainOf_27 (by decide) ?_
    refine lv_icmp_ge (tgt := 120) hx hb dX5_chainOf_29 (by decide) (fun c4 => ?_) (fun c4 => ?_)
    · rw [if_pos c4] at h
      cases h
      exact kR _ rfl _ rfl _ _ _ hP hS (lv_sub hl [2] rfl)
    · rw [if_neg c4] at h
      refine lv_iconst (v := 0) hx hb dX5_chainOf_32 (by decide) ?_
      refine lv_istore (lv' := [(6, .int 0), (0, .ref (ad γ 23)), (3, .int v2), (4, .int x4_25), (5, .int x5_25)]) hx hb dX5_chainOf_33 hl (by decide) rfl (fun ls hl => ?_)
      have L35 := it2_W (r5_chainOf_b35 M v2 x5_25) (fun (x4_35 : Int32) (x6_35 : Int32) => ∀ (H : Heap) (locs : List Loc) (ls : Array Slot), va_P γ.1 vwCl (gw γ (T, P, X, Y, E, B, M, O)) H → va_S (gA γ s.heap.size) s.heap H locs → lv_has ls 8 [(0, .ref (ad γ 23)), (3, .int v2), (4, .int x4_35), (5, .int x5_25), (6, .int x6_35)] → W p l e (gR 3 0 0) s m args below meth c H locs 0 0 (MQ below (gQi γ r0 s.heap.size (T, P, X, Y, E, B, M, O)) args s 0 0 (gA γ s.heap.size)) (F0 m 35 ls [])) (fun (r_k : Int32) => (∀ (x4_x35 : Int32), r_k = x4_x35 → ∀ (H : Heap) (locs : List Loc) (ls : Array Slot), va_P γ.1 vwCl (gw γ (T, P, X, Y, E, B, M, O)) H → va_S (gA γ s.heap.size) s.heap H locs → lv_has ls 8 [(0, .ref (ad γ 23)), (3, .int v2), (4, .int x4_x35), (5, .int x5_25)] → W p l e (gR 3 0 0) s m args below meth c H locs 0 0 (MQ below (gQi γ r0 s.heap.size (T, P, X, Y, E, B, M, O)) args s 0 0 (gA γ s.heap.size)) (F0 m 114 ls []))) (by
        intro x4_35 x6_35 o_35 h kS kR H locs ls hP hS hl
        unfold r5_chainOf_b35 at h
        refine lv_iload hx hb dX5_chainOf_35 (lv_at hl 4 rfl) ?_
        refine lv_aload_n hx hb dX5_chainOf_37 rfl (lv_at hl 0 rfl) ?_
        obtain ⟨v5, hv, h⟩ := bd1_e h
        refine g_ki (g_runV (As := []) (rest := [.int x6_35]) hC hP (c5_many l hv) (by decide) ge_23 rfl u_5_225 yv_X5_many (Nat.le_of_ble_eq_true rfl) rfl hl.1 rfl (Nat.le_of_ble_eq_true rfl) dX5_chainOf_38 ⟨by decide, by decide⟩) hS (fun H locs hP hS => ?_)
        refine lv_icmp_ge (tgt := 114) hx hb dX5_chainOf_41 (by decide) (fun c6 => ?_) (fun c6 => ?_)
        · rw [if_pos c6] at h
          cases h
          exact kR _ rfl _ rfl _ _ _ hP hS (lv_sub hl [0, 1, 2, 3] rfl)
        · rw [if_neg c6] at h
          refine lv_iconst (v := 0) hx hb dX5_chainOf_44 (by decide) ?_
          refine lv_istore (lv' := [(7, .int 0), (0, .ref (ad γ 23)), (3, .int v2), (4, .int x4_35), (5, .int x5_25), (6, .int x6_35)]) hx hb dX5_chainOf_45 hl (by decide) rfl (fun ls hl => ?_)
          have L47 := it2_W (r5_chainOf_b47 M v2 x5_25 x6_35) (fun (x4_47 : Int32) (x7_47 : Int32) => ∀ (H : Heap) (locs : List Loc) (ls : Array Slot), va_P γ.1 vwCl (gw γ (T, P, X, Y, E, B, M, O)) H → va_S (gA γ s.heap.size) s.heap H locs → lv_has ls 8 [(0, .ref (ad γ 23)), (3, .int v2), (4, .int x4_47), (5, .int x5_25), (6, .int x6_35), (7, .int x7_47)] → W p l e (gR 3 0 0) s m args below meth c H locs 0 0 (MQ below (gQi γ r0 s.heap.size (T, P, X, Y, E, B, M, O)) args s 0 0 (gA γ s.heap.size)) (F0 m 47 ls [])) (fun (r_k : Int32) => (∀ (x4_x47 : Int32), r_k = x4_x47 → ∀ (H : Heap) (locs : List Loc) (ls : Array Slot), va_P γ.1 vwCl (gw γ (T, P, X, Y, E, B, M, O)) H → va_S (gA γ s.heap.size) s.heap H locs → lv_has ls 8 [(0, .ref (ad γ 23)), (3, .int v2), (4, .int x4_x47), (5, .int x5_25), (6, .int x6_35)] → W p l e (gR 3 0 0) s m args below meth c H locs 0 0 (MQ below (gQi γ r0 s.heap.size (T, P, X, Y, E, B, M, O)) args s 0 0 (gA γ s.heap.size)) (F0 m 108 ls []))) (by
            intro x4_47 x7_47 o_47 h kS kR H locs ls hP hS hl
            unfold r5_chainOf_b47 at h
            refine lv_iload hx hb dX5_chainOf_47 (lv_at hl 5 rfl) ?_
            refine lv_aload_n hx hb dX5_chainOf_49 rfl (lv_at hl 0 rfl) ?_
            obtain ⟨v7, hv, h⟩ := bd1_e h
            refine g_ki (g_runV (As := []) (rest := [.int x7_47]) hC hP (c5_many l hv) (by decide) ge_23 rfl u_5_225 yv_X5_many (Nat.le_of_ble_eq_true rfl) rfl hl.1 rfl (Nat.le_of_ble_eq_true rfl) dX5_chainOf_50 ⟨by decide, by decide⟩) hS (fun H locs hP hS => ?_)
            refine lv_icmp_ge (tgt := 108) hx hb dX5_chainOf_53 (by decide) (fun c8 => ?_) (fun c8 => ?_)
            · rw [if_pos c8] at h
              cases h
              exact kR _ rfl _ rfl _ _ _ hP hS (lv_sub hl [0, 1, 2, 3, 4] rfl)
            · rw [if_neg c8] at h
              refine lv_iload hx hb dX5_chainOf_56 (lv_at hl 2 rfl) ?_
              refine lv_iload hx hb dX5_chainOf_58 (lv_at hl 2 rfl) ?_
              refine lv_iload hx hb dX5_chainOf_60 (lv_at hl 4 rfl) ?_
              refine lv_ishr hx hb dX5_chainOf_62 ?_
              refine lv_iconst (v := 1) hx hb dX5_chainOf_63 (by decide) ?_
              refine lv_iand hx hb dX5_chainOf_64 ?_
              refine lv_iconst (v := 1) hx hb dX5_chainOf_65 (by decide) ?_
              refine lv_icmp_ne (tgt := 98) hx hb dX5_chainOf_66 (by decide) (fun c9 => ?_) (fun c9 => ?_)
              · rw [if_neg c9] at h
                refine lv_iconst (v := 0) hx hb dX5_chainOf_98 (by decide) ?_
                refine lv_ior hx hb dX5_chainOf_99 ?_
                refine lv_istore (lv' := [(4, .int (x4_47 ||| 0)), (0, .ref (ad γ 23)), (3, .int v2), (5, .int x5_25), (6, .int x6_35), (7, .int x7_47)]) hx hb dX5_chainOf_100 hl (by decide) rfl (fun ls hl => ?_)
                refine lv_iinc (v := (x7_47 + 1)) (lv' := [(7, .int (x7_47 + 1)), (4, .int (x4_47 ||| 0)), (0, .ref (ad γ 23)), (3, .int v2), (5, .int x5_25), (6, .int x6_35)]) hx hb dX5_chainOf_102 hl (k := 5) rfl rfl (by decide) rfl (fun ls hl => ?_)
                refine lv_goto (tgt := 47) hx hb dX5_chainOf_105 (by decide) ?_
                cases h
                exact kS _ _ rfl _ _ _ hP hS (lv_sub hl [2, 3, 1, 4, 5, 0] rfl)
              · rw [if_pos c9] at h
                refine lv_aload_n hx hb dX5_chainOf_69 rfl (lv_at hl 0 rfl) ?_
                refine lv_iload hx hb dX5_chainOf_70 (lv_at hl 5 rfl) ?_
                obtain ⟨v10, hv, h⟩ := bd1_e h
                refine g_ki (g_runV (As := [.int x7_47]) (rest := [.int x4_47]) hC hP (c5_slotsOf l hv) (by decide) ge_23 rfl u_6_15 yv_X5_slotsOf (Nat.le_of_ble_eq_true rfl) rfl hl.1 rfl (Nat.le_of_ble_eq_true rfl) dX5_chainOf_72 ⟨by decide, by decide⟩) hS (fun H locs hP hS => ?_)
                refine lv_iload_n hx hb dX5_chainOf_75 rfl (lv_at hl 1 rfl) ?_
                refine lv_iand hx hb dX5_chainOf_76 ?_
                refine lv_if_eq (tgt := 98) hx hb dX5_chainOf_77 (by decide) (fun c11 => ?_) (fun c11 => ?_)
                · rw [if_pos c11] at h
                  refine lv_iconst (v := 0) hx hb dX5_chainOf_98 (by decide) ?_
                  refine lv_ior hx hb dX5_chainOf_99 ?_
                  refine lv_istore (lv' := [(4, .int (x4_47 ||| 0)), (0, .ref (ad γ 23)), (3, .int v2), (5, .int x5_25), (6, .int x6_35), (7, .int x7_47)]) hx hb dX5_chainOf_100 hl (by decide) rfl (fun ls hl => ?_)
                  refine lv_iinc (v := (x7_47 + 1)) (lv' := [(7, .int (x7_47 + 1)), (4, .int (x4_47 ||| 0)), (0, .ref (ad γ 23)), (3, .int v2), (5, .int x5_25), (6, .int x6_35)]) hx hb dX5_chainOf_102 hl (k := 5) rfl rfl (by decide) rfl (fun ls hl => ?_)
                  refine lv_goto (tgt := 47) hx hb dX5_chainOf_105 (by decide) ?_
                  cases h
                  exact kS _ _ rfl _ _ _ hP hS (lv_sub hl [2, 3, 1, 4, 5, 0] rfl)
                · rw [if_neg c11] at h
                  refine lv_aload_n hx hb dX5_chainOf_80 rfl (lv_at hl 0 rfl) ?_
                  refine lv_iload hx hb dX5_chainOf_81 (lv_at hl 4 rfl) ?_
                  refine lv_iload hx hb dX5_chainOf_83 (lv_at hl 5 rfl) ?_
                  obtain ⟨v12, hv, h⟩ := bd1_e h
                  refine g_ki (g_runV (As := [.int x6_35, .int x7_47]) (rest := [.int x4_47]) hC hP (c5_isBound l hv) (by decide) ge_23 rfl u_6_192 yv_X5_isBound (Nat.le_of_ble_eq_true rfl) rfl hl.1 rfl (Nat.le_of_ble_eq_true rfl) dX5_chainOf_85 ⟨by decide, by decide⟩) hS (fun H locs hP hS => ?_)
                  refine lv_if_eq (tgt := 98) hx hb dX5_chainOf_88 (by decide) (fun c13 => ?_) (fun c13 => ?_)
                  · rw [if_pos c13] at h
                    refine lv_iconst (v := 0) hx hb dX5_chainOf_98 (by decide) ?_
                    refine lv_ior hx hb dX5_chainOf_99 ?_
                    refine lv_istore (lv' := [(4, .int (x4_47 ||| 0)), (0, .ref (ad γ 23)), (3, .int v2), (5, .int x5_25), (6, .int x6_35), (7, .int x7_47)]) hx hb dX5_chainOf_100 hl (by decide) rfl (fun ls hl => ?_)
                    refine lv_iinc (v := (x7_47 + 1)) (lv' := [(7, .int (x7_47 + 1)), (4, .int (x4_47 ||| 0)), (0, .ref (ad γ 23)), (3, .int v2), (5, .int x5_25), (6, .int x6_35)]) hx hb dX5_chainOf_102 hl (k := 5) rfl rfl (by decide) rfl (fun ls hl => ?_)
                    refine lv_goto (tgt := 47) hx hb dX5_chainOf_105 (by decide) ?_
                    cases h
                    exact kS _ _ rfl _ _ _ hP hS (lv_sub hl [2, 3, 1, 4, 5, 0] rfl)
                  · rw [if_neg c13] at h
                    refine lv_iconst (v := 1) hx hb dX5_chainOf_91 (by decide) ?_
                    refine lv_iload hx hb dX5_chainOf_92 (lv_at hl 5 rfl) ?_
                    refine lv_ishl hx hb dX5_chainOf_94 ?_
                    refine lv_goto (tgt := 99) hx hb dX5_chainOf_95 (by decide) ?_
                    refine lv_ior hx hb dX5_chainOf_99 ?_
                    obtain ⟨v14, hv, h⟩ := ob h
                    refine lv_topi (fun y9 ey9 => ?_)
                    obtain rfl : v14 = y9 := (Option.some.inj hv).symm.trans ey9.symm
                    clear hv ey9
                    refine lv_istore (lv' := [(4, .int v14), (0, .ref (ad γ 23)), (3, .int v2), (5, .int x5_25), (6, .int x6_35), (7, .int x7_47)]) hx hb dX5_chainOf_100 hl (by decide) rfl (fun ls hl => ?_)
                    refine lv_iinc (v := (x7_47 + 1)) (lv' := [(7, .int (x7_47 + 1)), (4, .int v14), (0, .ref (ad γ 23)), (3, .int v2), (5, .int x5_25), (6, .int x6_35)]) hx hb dX5_chainOf_102 hl (k := 5) rfl rfl (by decide) rfl (fun ls hl => ?_)
                    refine lv_goto (tgt := 47) hx hb dX5_chainOf_105 (by decide) ?_
                    cases h
                    exact kS _ _ rfl _ _ _ hP hS (lv_sub hl [2, 3, 1, 4, 5, 0] rfl))
          obtain ⟨x4_x47, hv, h⟩ := bd1_e h
          refine L47 _ _ _ _ hv (fun q0 e9 H locs ls hP hS hl => ?_) _ _ _ hP hS (lv_sub hl [1, 2, 3, 4, 5, 0] rfl)
          obtain rfl := e9
          refine lv_iinc (v := (x6_35 + 1)) (lv' := [(6, .int (x6_35 + 1)), (0, .ref (ad γ 23)), (3, .int v2), (4, .int x4_x47), (5, .int x5_25)]) hx hb dX5_chainOf_108 hl (k := 4) rfl rfl (by decide) rfl (fun ls hl => ?_)
          refine lv_goto (tgt := 35) hx hb dX5_chainOf_111 (by decide) ?_
          cases h
          exact kS _ _ rfl _ _ _ hP hS (lv_sub hl [1, 2, 3, 4, 0] rfl))
      obtain ⟨x4_x35, hv, h⟩ := bd1_e h
      refine L35 _ _ _ _ hv (fun q0 e9 H locs ls hP hS hl => ?_) _ _ _ hP hS (lv_sub hl [1, 2, 3, 4, 0] rfl)
      obtain rfl := e9
      refine lv_iinc (v := (x5_25 + 1)) (lv' := [(5, .int (x5_25 + 1)), (0, .ref (ad γ 23)), (3, .int v2), (4, .int x4_x35)]) hx hb dX5_chainOf_114 hl (k := 3) rfl rfl (by decide) rfl (fun ls hl => ?_)
      refine lv_goto (tgt := 25) hx hb dX5_chainOf_117 (by decide) ?_
      cases h
      exact kS _ _ rfl _ _ _ hP hS (lv_sub hl [1, 2, 3, 0] rfl))
  obtain ⟨x4_x25, hv, h⟩ := bd1_e h
  refine L25 _ _ _ _ hv (fun q0 e9 H locs ls hP hS hl => ?_) _ _ _ hP hS (lv_sub hl [3, 2, 1, 0] rfl)
  obtain rfl := e9
  refine lv_iload hx hb dX5_chainOf_120 (lv_at hl 0 rfl) ?_
  cases h
  exact g_iret hC hP hS dX5_chainOf_122 rfl
def r5_chain (M : OS) (x1 : Int32) (x2 : Int32) : Option (Int32 × OS) :=
  bd1 (r5_chainThrown M x1 x2) (fun v1 =>
  (sw M 0 v1).bind fun M2 =>
  (if (M2 0 0) = 0 then bd1 (r5_chainOf M2 x1 x2) (fun v4 =>
  some (v4, M2))
  else some (0, M2)))
theorem yv_X5_chain : gYV yX5_chain cX5_chain 3 (some .int) 2 := ⟨u_6_181, u_6_182, u_1_7, u_6_183, ⟨by decide +kernel, by decide +kernel, by decide +kernel⟩, by decide⟩
set_option maxHeartbeats 4000000 in
set_option maxRecDepth 100000 in
theorem c5_chain (l : Launch) {γ : GA} {sz : Nat} {T P X Y B M : OS} {E : Nat → OS} {O : Nat → Int64} {x1 : Int32} {x2 : Int32} {r0 : Int32} {Mz : OS} (h : r5_chain M x1 x2 = some (r0, Mz)) : Met l yX5_chain (gU yX5_chain cX5_chain 3 (some .int)) (gR 4 0 0) (gPc γ [.ref (ad γ 23), .int x1, .int x2] sz (T, P, X, Y, E, B, M, O)) (gQi γ r0 sz (T, P, X, Y, E, B, Mz, O)) 0 0 (gA γ sz) := by
  refine g_met (fun sz => gQi γ r0 sz (T, P, X, Y, E, B, Mz, O)) (by decide) (Nat.le_of_ble_eq_true rfl) ?_
  intro p e s m args below meth c ls hC hP hS hl
  have hx := hC.x
  have hb := hC.b
  have hl : lv_has ls 3 [(0, .ref (ad γ 23)), (1, .int x1), (2, .int x2)] := hl
  unfold r5_chain at h
  refine lv_aload_n hx hb dX5_chain_0 rfl (lv_at hl 0 rfl) ?_
  refine lv_aload_n hx hb dX5_chain_1 rfl (lv_at hl 0 rfl) ?_
  refine lv_iload_n hx hb dX5_chain_2 rfl (lv_at hl 1 rfl) ?_
  refine lv_iload_n hx hb dX5_chain_3 rfl (lv_at hl 2 rfl) ?_
  obtain ⟨v1, hv, h⟩ := bd1_e h
  refine g_ki (g_runV (As := [.int x1, .int x2]) (rest := [.ref (ad γ 23)]) hC hP (c5_chainThrown l hv) (by decide) ge_23 rfl u_6_184 yv_X5_chainThrown (Nat.le_of_ble_eq_true rfl) rfl hl.1 rfl (Nat.le_of_ble_eq_true rfl) dX5_chain_4 ⟨by decide, by decide⟩) hS (fun H locs hP hS => ?_)
  obtain ⟨M2, hv, h⟩ := ob h
  refine g_putI hC hP hS (fun Z => (T, P, X, Y, E, B, Z, O)) 0 tyX5 dX5_chain_7 (by decide) ge_23 rfl inX5 tyX5_ok nmX5 (by decide) u_5_154 rfl rfl (Nat.le_of_ble_eq_true rfl) gp_23_0 hv (fun H locs hP hS => ?_)
  refine lv_aload_n hx hb dX5_chain_10 rfl (lv_at hl 0 rfl) ?_
  refine g_get hC hP 0 dX5_chain_11 (by decide) ge_23 rfl inX5 (by decide) rfl u_5_154 ?_
  refine lv_if_ne (tgt := 26) hx hb dX5_chain_14 (by decide) (fun c3 => ?_) (fun c3 => ?_)
  · rw [if_neg c3] at h
    refine lv_iconst (v := 0) hx hb dX5_chain_26 (by decide) ?_
    cases h
    exact g_iret hC hP hS dX5_chain_27 rfl
  · rw [if_pos c3] at h
    refine lv_aload_n hx hb dX5_chain_17 rfl (lv_at hl 0 rfl) ?_
    refine lv_iload_n hx hb dX5_chain_18 rfl (lv_at hl 1 rfl) ?_
    refine lv_iload_n hx hb dX5_chain_19 rfl (lv_at hl 2 rfl) ?_
    obtain ⟨v4, hv, h⟩ := bd1_e h
    refine g_ki (g_runV (As := [.int x1, .int x2]) (rest := []) hC hP (c5_chainOf l hv) (by decide) ge_23 rfl u_6_188 yv_X5_chainOf (Nat.le_of_ble_eq_true rfl) rfl hl.1 rfl (Nat.le_of_ble_eq_true rfl) dX5_chain_20 ⟨by decide, by decide⟩) hS (fun H locs hP hS => ?_)
    refine lv_goto (tgt := 27) hx hb dX5_chain_23 (by decide) ?_
    cases h
    exact g_iret hC hP hS dX5_chain_27 rfl
def r5_canMove_j44 (M : OS) (x1 : Int32) (x2 : Int32) (x3 : Int32) (x4_44 : Int32) (s0_44 : Int32)  : Option ((Int32) ⊕ ((Unit) ⊕ (Int32))) :=
  bd1 (r5_of M 70 x4_44) (fun v1 =>
  (if v1 = 2 then some (.inr (.inr 0))
  else bd1 (r5_of M 98 x4_44) (fun v3 =>
  (if v3 = 1 then some (.inr (.inr 0))
  else bd1 (r5_of M 28 x4_44) (fun v5 =>
  bd1 (r5_of M 18 v5) (fun v6 =>
  (if ((v6 >>> (s0_44 &&& 31)) &&& 1) = 0 then some (.inr (.inr 0))
  else some (.inl (x4_44 + 1)))))))))
def r5_canMove_b3 (M : OS) (x1 : Int32) (x2 : Int32) (x3 : Int32) (x4_3 : Int32) : Option ((Int32) ⊕ ((Unit) ⊕ (Int32))) :=
  bd1 (r5_many M) (fun v8 =>
  (if v8 ≤ x4_3 then some (.inr (.inl ()))
  else (if ((x1 >>> (x4_3 &&& 31)) &&& 1) = 0 then some (.inl (x4_3 + 1))
  else bd1 (r5_of M 84 x4_3) (fun v11 =>
  (if (v11 / 6) = x2 then r5_canMove_j44 M x1 x2 x3 x4_3 x3
  else r5_canMove_j44 M x1 x2 x3 x4_3 x2)))))
def r5_canMove (M : OS) (x1 : Int32) (x2 : Int32) (x3 : Int32) : Option Int32 :=
  bs0 (it1 (r5_canMove_b3 M x1 x2 x3) 200 0) (fun _ => some 1) (fun t13 => some t13)
theorem yv_X5_canMove : gYV yX5_canMove cX5_canMove 6 (some .boolean) 3 := ⟨u_6_202, u_sp_54, u_1_7, u_6_203, ⟨by decide +kernel, by decide +kernel, by decide +kernel⟩, by decide⟩
set_option maxHeartbeats 4000000 in
set_option maxRecDepth 100000 in
theorem c5_canMove (l : Launch) {γ : GA} {sz : Nat} {T P X Y B M : OS} {E : Nat → OS} {O : Nat → Int64} {x1 : Int32} {x2 : Int32} {x3 : Int32} {r0 : Int32} (h : r5_canMove M x1 x2 x3 = some r0) : Met l yX5_canMove (gU yX5_canMove cX5_canMove 6 (some .boolean)) (gR 1 0 0) (gPc γ [.ref (ad γ 23), .int x1, .int x2, .int x3] sz (T, P, X, Y, E, B, M, O)) (gQi γ r0 sz (T, P, X, Y, E, B, M, O)) 0 0 (gA γ sz) := by
  refine g_met (fun sz => gQi γ r0 sz (T, P, X, Y, E, B, M, O)) (by decide) (Nat.le_of_ble_eq_true rfl) ?_
  intro p e s m args below meth c ls hC hP hS hl
  have hx := hC.x
  have hb := hC.b
  have hl : lv_has ls 6 [(0, .ref (ad γ 23)), (1, .int x1), (2, .int x2), (3, .int x3)] := hl
  unfold r5_canMove at h
  refine lv_iconst (v := 0) hx hb dX5_canMove_0 (by decide) ?_
  refine lv_istore (lv' := [(4, .int 0), (0, .ref (ad γ 23)), (1, .int x1), (2, .int x2), (3, .int x3)]) hx hb dX5_canMove_1 hl (by decide) rfl (fun ls hl => ?_)
  have L3 := it1_W (r5_canMove_b3 M x1 x2 x3) (fun (x4_3 : Int32) => ∀ (H : Heap) (locs : List Loc) (ls : Array Slot), va_P γ.1 vwCl (gw γ (T, P, X, Y, E, B, M, O)) H → va_S (gA γ s.heap.size) s.heap H locs → lv_has ls 6 [(0, .ref (ad γ 23)), (1, .int x1), (2, .int x2), (3, .int x3), (4, .int x4_3)] → W p l e (gR 1 0 0) s m args below meth c H locs 0 0 (MQ below (gQi γ r0 s.heap.size (T, P, X, Y, E, B, M, O)) args s 0 0 (gA γ s.heap.size)) (F0 m 3 ls [])) (fun (r_k : (Unit) ⊕ (Int32)) => (r_k = .inl () → ∀ (H : Heap) (locs : List Loc) (ls : Array Slot), va_P γ.1 vwCl (gw γ (T, P, X, Y, E, B, M, O)) H → va_S (gA γ s.heap.size) s.heap H locs → lv_has ls 6 [] → W p l e (gR 1 0 0) s m args below meth c H locs 0 0 (MQ below (gQi γ r0 s.heap.size (T, P, X, Y, E, B, M, O)) args s 0 0 (gA γ s.heap.size)) (F0 m 100 ls [])) ∧ (∀ t_k, r_k = .inr t_k → t_k = r0)) (by
    intro x4_3 o_3 h kS kR H locs ls hP hS hl
    unfold r5_canMove_b3 at h
    have J44 : ∀ (x4_44 : Int32) (s0_44 : Int32) (h : r5_canMove_j44 M x1 x2 x3 x4_44 s0_44 = some o_3), ∀ (H : Heap) (locs : List Loc) (ls : Array Slot), va_P γ.1 vwCl (gw γ (T, P, X, Y, E, B, M, O)) H → va_S (gA γ s.heap.size) s.heap H locs → lv_has ls 6 [(0, .ref (ad γ 23)), (1, .int x1), (2, .int x2), (3, .int x3), (4, .int x4_44)] → W p l e (gR 1 0 0) s m args below meth c H locs 0 0 (MQ below (gQi γ r0 s.heap.size (T, P, X, Y, E, B, M, O)) args s 0 0 (gA γ s.heap.size)) (F0 m 44 ls [.int s0_44]) := by
      intro x4_44 s0_44 h H locs ls hP hS hl
      unfold r5_canMove_j44 at h
      refine lv_istore (lv' := [(5, .int s0_44), (0, .ref (ad γ 23)), (1, .int x1), (2, .int x2), (3, .int x3), (4, .int x4_44)]) hx hb dX5_canMove_44 hl (by decide) rfl (fun ls hl => ?_)
      refine lv_aload_n hx hb dX5_canMove_46 rfl (lv_at hl 1 rfl) ?_
      refine lv_bipush (v := 70) hx hb dX5_canMove_47 (by decide) ?_
      refine lv_iload hx hb dX5_canMove_49 (lv_at hl 5 rfl) ?_
      obtain ⟨v1, hv, h⟩ := bd1_e h
      refine g_ki (g_runV (As := [.int 70, .int x4_44]) (rest := []) hC hP (c5_of l hv) (by decide) ge_23 rfl u_5_229 yv_X5_of (Nat.le_of_ble_eq_true rfl) rfl hl.1 rfl (Nat.le_of_ble_eq_true rfl) dX5_canMove_51 ⟨by decide, by decide⟩) hS (fun H locs hP hS => ?_)
      refine lv_iconst (v := 2) hx hb dX5_canMove_54 (by decide) ?_
      refine lv_icmp_eq (tgt := 92) hx hb dX5_canMove_55 (by decide) (fun c2 => ?_) (fun c2 => ?_)
      · rw [if_pos c2] at h
        refine lv_iconst (v := 0) hx hb dX5_canMove_92 (by decide) ?_
        have hz : zz 0 = some 0 := rfl
        cases h
        cases (kR _ rfl).2 _ rfl
        exact g_zret hC hP hS dX5_canMove_93 hz rfl
      · rw [if_neg c2] at h
        refine lv_aload_n hx hb dX5_canMove_58 rfl (lv_at hl 1 rfl) ?_
        refine lv_bipush (v := 98) hx hb dX5_canMove_59 (by decide) ?_
        refine lv_iload hx hb dX5_canMove_61 (lv_at hl 5 rfl) ?_
        obtain ⟨v3, hv, h⟩ := bd1_e h
        refine g_ki (g_runV (As := [.int 98, .int x4_44]) (rest := []) hC hP (c5_of l hv) (by decide) ge_23 rfl u_5_229 yv_X5_of (Nat.le_of_ble_eq_true rfl) rfl hl.1 rfl (Nat.le_of_ble_eq_true rfl) dX5_canMove_63 ⟨by decide, by decide⟩) hS (fun H locs hP hS => ?_)
        refine lv_iconst (v := 1) hx hb dX5_canMove_66 (by decide) ?_
        refine lv_icmp_eq (tgt := 92) hx hb dX5_canMove_67 (by decide) (fun c4 => ?_) (fun c4 => ?_)
        · rw [if_pos c4] at h
          refine lv_iconst (v := 0) hx hb dX5_canMove_92 (by decide) ?_
          have hz : zz 0 = some 0 := rfl
          cases h
          cases (kR _ rfl).2 _ rfl
          exact g_zret hC hP hS dX5_canMove_93 hz rfl
        · rw [if_neg c4] at h
          refine lv_aload_n hx hb dX5_canMove_70 rfl (lv_at hl 1 rfl) ?_
          refine lv_bipush (v := 18) hx hb dX5_canMove_71 (by decide) ?_
          refine lv_aload_n hx hb dX5_canMove_73 rfl (lv_at hl 1 rfl) ?_
          refine lv_bipush (v := 28) hx hb dX5_canMove_74 (by decide) ?_
          refine lv_iload hx hb dX5_canMove_76 (lv_at hl 5 rfl) ?_
          obtain ⟨v5, hv, h⟩ := bd1_e h
          refine g_ki (g_runV (As := [.int 28, .int x4_44]) (rest := [.int 18, .ref (ad γ 23)]) hC hP (c5_of l hv) (by decide) ge_23 rfl u_5_229 yv_X5_of (Nat.le_of_ble_eq_true rfl) rfl hl.1 rfl (Nat.le_of_ble_eq_true rfl) dX5_canMove_78 ⟨by decide, by decide⟩) hS (fun H locs hP hS => ?_)
          obtain ⟨v6, hv, h⟩ := bd1_e h
          refine g_ki (g_runV (As := [.int 18, .int v5]) (rest := []) hC hP (c5_of l hv) (by decide) ge_23 rfl u_5_229 yv_X5_of (Nat.le_of_ble_eq_true rfl) rfl hl.1 rfl (Nat.le_of_ble_eq_true rfl) dX5_canMove_81 ⟨by decide, by decide⟩) hS (fun H locs hP hS => ?_)
          refine lv_iload hx hb dX5_canMove_84 (lv_at hl 0 rfl) ?_
          refine lv_ishr hx hb dX5_canMove_86 ?_
          refine lv_iconst (v := 1) hx hb dX5_canMove_87 (by decide) ?_
          refine lv_iand hx hb dX5_canMove_88 ?_
          refine lv_if_ne (tgt := 94) hx hb dX5_canMove_89 (by decide) (fun c7 => ?_) (fun c7 => ?_)
          · rw [if_neg c7] at h
            refine lv_iinc (v := (x4_44 + 1)) (lv' := [(4, .int (x4_44 + 1)), (5, .int s0_44), (0, .ref (ad γ 23)), (1, .int x1), (2, .int x2), (3, .int x3)]) hx hb dX5_canMove_94 hl (k := 5) rfl rfl (by decide) rfl (fun ls hl => ?_)
            refine lv_goto (tgt := 3) hx hb dX5_canMove_97 (by decide) ?_
            cases h
            exact kS _ rfl _ _ _ hP hS (lv_sub hl [2, 3, 4, 5, 0] rfl)
          · rw [if_pos c7] at h
            refine lv_iconst (v := 0) hx hb dX5_canMove_92 (by decide) ?_
            have hz : zz 0 = some 0 := rfl
            cases h
            cases (kR _ rfl).2 _ rfl
            exact g_zret hC hP hS dX5_canMove_93 hz rfl
    refine lv_iload hx hb dX5_canMove_3 (lv_at hl 4 rfl) ?_
    refine lv_aload_n hx hb dX5_canMove_5 rfl (lv_at hl 0 rfl) ?_
    obtain ⟨v8, hv, h⟩ := bd1_e h
    refine g_ki (g_runV (As := []) (rest := [.int x4_3]) hC hP (c5_many l hv) (by decide) ge_23 rfl u_5_225 yv_X5_many (Nat.le_of_ble_eq_true rfl) rfl hl.1 rfl (Nat.le_of_ble_eq_true rfl) dX5_canMove_6 ⟨by decide, by decide⟩) hS (fun H locs hP hS => ?_)
    refine lv_icmp_ge (tgt := 100) hx hb dX5_canMove_9 (by decide) (fun c9 => ?_) (fun c9 => ?_)
    · rw [if_pos c9] at h
      cases h
      exact (kR _ rfl).1  rfl _ _ _ hP hS (lv_sub hl [] rfl)
    · rw [if_neg c9] at h
      refine lv_iload_n hx hb dX5_canMove_12 rfl (lv_at hl 1 rfl) ?_
      refine lv_iload hx hb dX5_canMove_13 (lv_at hl 4 rfl) ?_
      refine lv_ishr hx hb dX5_canMove_15 ?_
      refine lv_iconst (v := 1) hx hb dX5_canMove_16 (by decide) ?_
      refine lv_iand hx hb dX5_canMove_17 ?_
      refine lv_if_ne (tgt := 24) hx hb dX5_canMove_18 (by decide) (fun c10 => ?_) (fun c10 => ?_)
      · rw [if_neg c10] at h
        refine lv_aload_n hx hb dX5_canMove_24 rfl (lv_at hl 0 rfl) ?_
        refine lv_bipush (v := 84) hx hb dX5_canMove_25 (by decide) ?_
        refine lv_iload hx hb dX5_canMove_27 (lv_at hl 4 rfl) ?_
        obtain ⟨v11, hv, h⟩ := bd1_e h
        refine g_ki (g_runV (As := [.int 84, .int x4_3]) (rest := []) hC hP (c5_of l hv) (by decide) ge_23 rfl u_5_229 yv_X5_of (Nat.le_of_ble_eq_true rfl) rfl hl.1 rfl (Nat.le_of_ble_eq_true rfl) dX5_canMove_29 ⟨by decide, by decide⟩) hS (fun H locs hP hS => ?_)
        refine lv_bipush (v := 6) hx hb dX5_canMove_32 (by decide) ?_
        refine lv_idiv hx hb dX5_canMove_34 (by decide) ?_
        refine lv_iload_n hx hb dX5_canMove_35 rfl (lv_at hl 2 rfl) ?_
        refine lv_icmp_ne (tgt := 43) hx hb dX5_canMove_36 (by decide) (fun c12 => ?_) (fun c12 => ?_)
        · rw [if_neg c12] at h
          refine lv_iload_n hx hb dX5_canMove_43 rfl (lv_at hl 2 rfl) ?_
          exact J44 x4_3 x2 h _ _ _ hP hS (lv_sub hl [0, 1, 2, 3, 4] rfl)
        · rw [if_pos c12] at h
          refine lv_iload_n hx hb dX5_canMove_39 rfl (lv_at hl 3 rfl) ?_
          refine lv_goto (tgt := 44) hx hb dX5_canMove_40 (by decide) ?_
          exact J44 x4_3 x3 h _ _ _ hP hS (lv_sub hl [0, 1, 2, 3, 4] rfl)
      · rw [if_pos c10] at h
        refine lv_goto (tgt := 94) hx hb dX5_canMove_21 (by decide) ?_
        refine lv_iinc (v := (x4_3 + 1)) (lv' := [(4, .int (x4_3 + 1)), (0, .ref (ad γ 23)), (1, .int x1), (2, .int x2), (3, .int x3)]) hx hb dX5_canMove_94 hl (k := 4) rfl rfl (by decide) rfl (fun ls hl => ?_)
        refine lv_goto (tgt := 3) hx hb dX5_canMove_97 (by decide) ?_
        cases h
        exact kS _ rfl _ _ _ hP hS (lv_sub hl [1, 2, 3, 4, 0] rfl))
  rcases bs0_e h with ⟨hv, h⟩ | ⟨t13, hv, h⟩
  · refine L3 _ _ _ hv ⟨fun e9 H locs ls hP hS hl => ?_, fun t9 e9 => nomatch e9⟩ _ _ _ hP hS (lv_sub hl [1, 2, 3, 4, 0] rfl)
    skip
    refine lv_iconst (v := 1) hx hb dX5_canMove_100 (by decide) ?_
    have hz : zz 1 = some 1 := rfl
    cases h
    exact g_zret hC hP hS dX5_canMove_101 hz rfl
  · refine L3 _ _ _ hv ⟨fun e9 => (nomatch e9), fun t9 e9 => ?_⟩ _ _ _ hP hS (lv_sub hl [1, 2, 3, 4, 0] rfl)
    cases e9
    exact Option.some.inj h
def r5_roomsIn_b4 (M : OS) (x1 : Int32) (x2_4 : Int32) (x3_4 : Int32) : Option ((Int32 × Int32) ⊕ (Int32)) :=
  bd1 (r5_many M) (fun v1 =>
  (if v1 ≤ x3_4 then some (.inr x2_4)
  else bd1 (r5_slotsOf M x3_4) (fun v3 =>
  (if ((v3 >>> (x1 &&& 31)) &&& 1) = 1 then bd1 (r5_of M 84 x3_4) (fun v5 =>
  (some (x2_4 ||| (1 <<< ((im v5 6) &&& 31)))).bind fun v6 =>
  some (.inl (v6, (x3_4 + 1))))
  else some (.inl ((x2_4 ||| 0), (x3_4 + 1)))))))
def r5_roomsIn (M : OS) (x1 : Int32) : Option Int32 :=
  bd1 (it2 (r5_roomsIn_b4 M x1) 200 0 0) (fun x2_x4 => some x2_x4)
theorem yv_X5_roomsIn : gYV yX5_roomsIn cX5_roomsIn 4 (some .int) 1 := ⟨u_6_214, u_sp_57, u_1_7, u_6_215, ⟨by decide +kernel, by decide +kernel, by decide +kernel⟩, by decide⟩
set_option maxHeartbeats 4000000 in
set_option maxRecDepth 100000 in
theorem c5_roomsIn (l : Launch) {γ : GA} {sz : Nat} {T P X Y B M : OS} {E : Nat → OS} {O : Nat → Int64} {x1 : Int32} {r0 : Int32} (h : r5_roomsIn M x1 = some r0) : Met l yX5_roomsIn (gU yX5_roomsIn cX5_roomsIn 4 (some .int)) (gR 3 0 0) (gPc γ [.ref (ad γ 23), .int x1] sz (T, P, X, Y, E, B, M, O)) (gQi γ r0 sz (T, P, X, Y, E, B, M, O)) 0 0 (gA γ sz) := by
  refine g_met (fun sz => gQi γ r0 sz (T, P, X, Y, E, B, M, O)) (by decide) (Nat.le_of_ble_eq_true rfl) ?_
  intro p e s m args below meth c ls hC hP hS hl
  have hx := hC.x
  have hb := hC.b
  have hl : lv_has ls 4 [(0, .ref (ad γ 23)), (1, .int x1)] := hl
  unfold r5_roomsIn at h
  refine lv_iconst (v := 0) hx hb dX5_roomsIn_0 (by decide) ?_
  refine lv_istore_n (lv' := [(2, .int 0), (0, .ref (ad γ 23)), (1, .int x1)]) hx hb dX5_roomsIn_1 rfl hl (by decide) rfl (fun ls hl => ?_)
  refine lv_iconst (v := 0) hx hb dX5_roomsIn_2 (by decide) ?_
  refine lv_istore_n (lv' := [(3, .int 0), (2, .int 0), (0, .ref (ad γ 23)), (1, .int x1)]) hx hb dX5_roomsIn_3 rfl hl (by decide) rfl (fun ls hl => ?_)
  have L4 := it2_W (r5_roomsIn_b4 M x1) (fun (x2_4 : Int32) (x3_4 : Int32) => ∀ (H : Heap) (locs : List Loc) (ls : Array Slot), va_P γ.1 vwCl (gw γ (T, P, X, Y, E, B, M, O)) H → va_S (gA γ s.heap.size) s.heap H locs → lv_has ls 4 [(0, .ref (ad γ 23)), (1, .int x1), (2, .int x2_4), (3, .int x3_4)] → W p l e (gR 3 0 0) s m args below meth c H locs 0 0 (MQ below (gQi γ r0 s.heap.size (T, P, X, Y, E, B, M, O)) args s 0 0 (gA γ s.heap.size)) (F0 m 4 ls [])) (fun (r_k : Int32) => (∀ (x2_x4 : Int32), r_k = x2_x4 → ∀ (H : Heap) (locs : List Loc) (ls : Array Slot), va_P γ.1 vwCl (gw γ (T, P, X, Y, E, B, M, O)) H → va_S (gA γ s.heap.size) s.heap H locs → lv_has ls 4 [(2, .int x2_x4)] → W p l e (gR 3 0 0) s m args below meth c H locs 0 0 (MQ below (gQi γ r0 s.heap.size (T, P, X, Y, E, B, M, O)) args s 0 0 (gA γ s.heap.size)) (F0 m 50 ls []))) (by
    intro x2_4 x3_4 o_4 h kS kR H locs ls hP hS hl
    unfold r5_roomsIn_b4 at h
    refine lv_iload_n hx hb dX5_roomsIn_4 rfl (lv_at hl 3 rfl) ?_
    refine lv_aload_n hx hb dX5_roomsIn_5 rfl (lv_at hl 0 rfl) ?_
    obtain ⟨v1, hv, h⟩ := bd1_e h
    refine g_ki (g_runV (As := []) (rest := [.int x3_4]) hC hP (c5_many l hv) (by decide) ge_23 rfl u_5_225 yv_X5_many (Nat.le_of_ble_eq_true rfl) rfl hl.1 rfl (Nat.le_of_ble_eq_true rfl) dX5_roomsIn_6 ⟨by decide, by decide⟩) hS (fun H locs hP hS => ?_)
    refine lv_icmp_ge (tgt := 50) hx hb dX5_roomsIn_9 (by decide) (fun c2 => ?_) (fun c2 => ?_)
    · rw [if_pos c2] at h
      cases h
      exact kR _ rfl _ rfl _ _ _ hP hS (lv_sub hl [2] rfl)
    · rw [if_neg c2] at h
      refine lv_iload_n hx hb dX5_roomsIn_12 rfl (lv_at hl 2 rfl) ?_
      refine lv_aload_n hx hb dX5_roomsIn_13 rfl (lv_at hl 0 rfl) ?_
      refine lv_iload_n hx hb dX5_roomsIn_14 rfl (lv_at hl 3 rfl) ?_
      obtain ⟨v3, hv, h⟩ := bd1_e h
      refine g_ki (g_runV (As := [.int x3_4]) (rest := [.int x2_4]) hC hP (c5_slotsOf l hv) (by decide) ge_23 rfl u_6_15 yv_X5_slotsOf (Nat.le_of_ble_eq_true rfl) rfl hl.1 rfl (Nat.le_of_ble_eq_true rfl) dX5_roomsIn_15 ⟨by decide, by decide⟩) hS (fun H locs hP hS => ?_)
      refine lv_iload_n hx hb dX5_roomsIn_18 rfl (lv_at hl 1 rfl) ?_
      refine lv_ishr hx hb dX5_roomsIn_19 ?_
      refine lv_iconst (v := 1) hx hb dX5_roomsIn_20 (by decide) ?_
      refine lv_iand hx hb dX5_roomsIn_21 ?_
      refine lv_iconst (v := 1) hx hb dX5_roomsIn_22 (by decide) ?_
      refine lv_icmp_ne (tgt := 41) hx hb dX5_roomsIn_23 (by decide) (fun c4 => ?_) (fun c4 => ?_)
      · rw [if_neg c4] at h
        refine lv_iconst (v := 0) hx hb dX5_roomsIn_41 (by decide) ?_
        refine lv_ior hx hb dX5_roomsIn_42 ?_
        refine lv_istore_n (lv' := [(2, .int (x2_4 ||| 0)), (0, .ref (ad γ 23)), (1, .int x1), (3, .int x3_4)]) hx hb dX5_roomsIn_43 rfl hl (by decide) rfl (fun ls hl => ?_)
        refine lv_iinc (v := (x3_4 + 1)) (lv' := [(3, .int (x3_4 + 1)), (2, .int (x2_4 ||| 0)), (0, .ref (ad γ 23)), (1, .int x1)]) hx hb dX5_roomsIn_44 hl (k := 3) rfl rfl (by decide) rfl (fun ls hl => ?_)
        refine lv_goto (tgt := 4) hx hb dX5_roomsIn_47 (by decide) ?_
        cases h
        exact kS _ _ rfl _ _ _ hP hS (lv_sub hl [2, 3, 1, 0] rfl)
      · rw [if_pos c4] at h
        refine lv_iconst (v := 1) hx hb dX5_roomsIn_26 (by decide) ?_
        refine lv_aload_n hx hb dX5_roomsIn_27 rfl (lv_at hl 0 rfl) ?_
        refine lv_bipush (v := 84) hx hb dX5_roomsIn_28 (by decide) ?_
        refine lv_iload_n hx hb dX5_roomsIn_30 rfl (lv_at hl 3 rfl) ?_
        obtain ⟨v5, hv, h⟩ := bd1_e h
        refine g_ki (g_runV (As := [.int 84, .int x3_4]) (rest := [.int 1, .int x2_4]) hC hP (c5_of l hv) (by decide) ge_23 rfl u_5_229 yv_X5_of (Nat.le_of_ble_eq_true rfl) rfl hl.1 rfl (Nat.le_of_ble_eq_true rfl) dX5_roomsIn_31 ⟨by decide, by decide⟩) hS (fun H locs hP hS => ?_)
        refine lv_bipush (v := 6) hx hb dX5_roomsIn_34 (by decide) ?_
        refine lv_irem hx hb dX5_roomsIn_36 (by decide) ?_
        refine lv_ishl hx hb dX5_roomsIn_37 ?_
        refine lv_goto (tgt := 42) hx hb dX5_roomsIn_38 (by decide) ?_
        refine lv_ior hx hb dX5_roomsIn_42 ?_
        obtain ⟨v6, hv, h⟩ := ob h
        refine lv_topi (fun y9 ey9 => ?_)
        obtain rfl : v6 = y9 := (Option.some.inj hv).symm.trans ey9.symm
        clear hv ey9
        refine lv_istore_n (lv' := [(2, .int v6), (0, .ref (ad γ 23)), (1, .int x1), (3, .int x3_4)]) hx hb dX5_roomsIn_43 rfl hl (by decide) rfl (fun ls hl => ?_)
        refine lv_iinc (v := (x3_4 + 1)) (lv' := [(3, .int (x3_4 + 1)), (2, .int v6), (0, .ref (ad γ 23)), (1, .int x1)]) hx hb dX5_roomsIn_44 hl (k := 3) rfl rfl (by decide) rfl (fun ls hl => ?_)
        refine lv_goto (tgt := 4) hx hb dX5_roomsIn_47 (by decide) ?_
        cases h
        exact kS _ _ rfl _ _ _ hP hS (lv_sub hl [2, 3, 1, 0] rfl))
  obtain ⟨x2_x4, hv, h⟩ := bd1_e h
  refine L4 _ _ _ _ hv (fun q0 e9 H locs ls hP hS hl => ?_) _ _ _ hP hS (lv_sub hl [2, 3, 1, 0] rfl)
  obtain rfl := e9
  refine lv_iload_n hx hb dX5_roomsIn_50 rfl (lv_at hl 0 rfl) ?_
  cases h
  exact g_iret hC hP hS dX5_roomsIn_51 rfl
def r5_settles_b14 (rec : OS → Int32 → Int32 → Option (Int32 × OS)) (x1 : Int32) (x2 : Int32) (v2 : Int32) (M_14 : OS) (x4_14 : Int32) : Option ((OS × Int32) ⊕ ((OS) ⊕ (Int32 × OS))) :=
  (if 6 ≤ x4_14 then some (.inr (.inl M_14))
  else bd1 (r5_roomsIn M_14 x2) (fun v4 =>
  (if ((v4 >>> (x4_14 &&& 31)) &&& 1) = 1 then some (.inl (M_14, (x4_14 + 1)))
  else bd1 (r5_of M_14 0 x4_14) (fun v6 =>
  bd1 (r5_of M_14 42 v2) (fun v7 =>
  bd1 (r5_sizeOf M_14 v7) (fun v8 =>
  (if v6 < v8 then some (.inl (M_14, (x4_14 + 1)))
  else bd1 (r5_of M_14 56 v2) (fun v10 =>
  bd1 (r5_of M_14 6 x4_14) (fun v11 =>
  (if (v10 &&& (v11 ^^^ (-1))) = 0 then bd1 (r5_lays M_14 v2 ((6 * x2) + x4_14)) (fun M13 =>
  bd2 (rec M13 (x1 &&& ((1 <<< (v2 &&& 31)) ^^^ (-1))) x2) (fun v14 M15 =>
  (if v14 = 0 then bd1 (r5_lays M15 v2 (-1)) (fun M17 =>
  some (.inl (M17, (x4_14 + 1))))
  else some (.inr (.inr (1, M15))))))
  else some (.inl (M_14, (x4_14 + 1)))))))))))))
def r5_settles_F (rec : OS → Int32 → Int32 → Option (Int32 × OS)) (M : OS) (x1 : Int32) (x2 : Int32) : Option (Int32 × OS) :=
  (if x1 = 0 then some (1, M)
  else bd1 (r5_lowest x1) (fun v2 =>
  bs1 (it2 (r5_settles_b14 rec x1 x2 v2) 200 M 0) (fun M_x14 => some (0, M_x14)) (fun t18 => some t18)))
def r5_settles : Nat → OS → Int32 → Int32 → Option (Int32 × OS)
  | 0 => fun _ _ _ => none
  | d + 1 => fun M x1 x2 => r5_settles_F (r5_settles d) M x1 x2
theorem yv_X5_settles : gYV yX5_settles cX5_settles 5 (some .boolean) 2 := ⟨u_6_210, u_sp_56, u_1_7, u_6_211, ⟨by decide +kernel, by decide +kernel, by decide +kernel⟩, by decide⟩
set_option maxHeartbeats 4000000 in
set_option maxRecDepth 100000 in
theorem c5_settles (l : Launch) : ∀ (d : Nat) {γ : GA} {sz : Nat} {T P X Y B M : OS} {E : Nat → OS} {O : Nat → Int64} {x1 : Int32} {x2 : Int32} {r0 : Int32} {Mz : OS} (h : r5_settles d M x1 x2 = some (r0, Mz)), Met l yX5_settles (gU yX5_settles cX5_settles 5 (some .boolean)) (gR (4 + d) 0 0) (gPc γ [.ref (ad γ 23), .int x1, .int x2] sz (T, P, X, Y, E, B, M, O)) (gQi γ r0 sz (T, P, X, Y, E, B, Mz, O)) 0 0 (gA γ sz) := by
  intro d
  induction d with
  | zero => intros; rename_i h; cases h
  | succ d ih =>
    intro  γ   sz   T P X Y B M   E   O   x1   x2   r0   Mz  h
    refine g_met (fun sz => gQi γ r0 sz (T, P, X, Y, E, B, Mz, O)) (by decide) (Nat.le_of_ble_eq_true rfl) ?_
    intro p e s m args below meth c ls hC hP hS hl
    have hx := hC.x
    have hb := hC.b
    have hl : lv_has ls 5 [(0, .ref (ad γ 23)), (1, .int x1), (2, .int x2)] := hl
    have h : r5_settles_F (r5_settles d) M x1 x2 = some (r0, Mz) := h
    unfold r5_settles_F at h
    generalize er9 : r5_settles d = rec at h ih
    refine lv_iload_n hx hb dX5_settles_0 rfl (lv_at hl 1 rfl) ?_
    refine lv_if_ne (tgt := 6) hx hb dX5_settles_1 (by decide) (fun c1 => ?_) (fun c1 => ?_)
    · rw [if_neg c1] at h
      refine lv_iload_n hx hb dX5_settles_6 rfl (lv_at hl 1 rfl) ?_
      obtain ⟨v2, hv, h⟩ := bd1_e h
      refine g_ki (g_runS (As := [.int x1]) (rest := []) hC hP (c5_lowest l hv) u_6_165 yv_X5_lowest (by omega) rfl hl.1 rfl (Nat.le_of_ble_eq_true rfl) dX5_settles_7 ⟨by decide, by decide⟩) hS (fun H locs hP hS => ?_)
      refine lv_istore_n (lv' := [(3, .int v2), (0, .ref (ad γ 23)), (1, .int x1), (2, .int x2)]) hx hb dX5_settles_10 rfl hl (by decide) rfl (fun ls hl => ?_)
      refine lv_iconst (v := 0) hx hb dX5_settles_11 (by decide) ?_
      refine lv_istore (lv' := [(4, .int 0), (3, .int v2), (0, .ref (ad γ 23)), (1, .int x1), (2, .int x2)]) hx hb dX5_settles_12 hl (by decide) rfl (fun ls hl => ?_)
      have L14 := it2_W (r5_settles_b14 rec x1 x2 v2) (fun (M_14 : OS) (x4_14 : Int32) => ∀ (H : Heap) (locs : List Loc) (ls : Array Slot), va_P γ.1 vwCl (gw γ (T, P, X, Y, E, B, M_14, O)) H → va_S (gA γ s.heap.size) s.heap H locs → lv_has ls 5 [(0, .ref (ad γ 23)), (1, .int x1), (2, .int x2), (3, .int v2), (4, .int x4_14)] → W p l e (gR (4 + (d + 1)) 0 0) s m args below meth c H locs 0 0 (MQ below (gQi γ r0 s.heap.size (T, P, X, Y, E, B, Mz, O)) args s 0 0 (gA γ s.heap.size)) (F0 m 14 ls [])) (fun (r_k : (OS) ⊕ (Int32 × OS)) => (∀ (M_x14 : OS), r_k = .inl M_x14 → ∀ (H : Heap) (locs : List Loc) (ls : Array Slot), va_P γ.1 vwCl (gw γ (T, P, X, Y, E, B, M_x14, O)) H → va_S (gA γ s.heap.size) s.heap H locs → lv_has ls 5 [] → W p l e (gR (4 + (d + 1)) 0 0) s m args below meth c H locs 0 0 (MQ below (gQi γ r0 s.heap.size (T, P, X, Y, E, B, Mz, O)) args s 0 0 (gA γ s.heap.size)) (F0 m 121 ls [])) ∧ (∀ t_k, r_k = .inr t_k → t_k = (r0, Mz))) (by
        intro M_14 x4_14 o_14 h kS kR H locs ls hP hS hl
        unfold r5_settles_b14 at h
        refine lv_iload hx hb dX5_settles_14 (lv_at hl 4 rfl) ?_
        refine lv_bipush (v := 6) hx hb dX5_settles_16 (by decide) ?_
        refine lv_icmp_ge (tgt := 121) hx hb dX5_settles_18 (by decide) (fun c3 => ?_) (fun c3 => ?_)
        · rw [if_pos c3] at h
          cases h
          exact (kR _ rfl).1 _ rfl _ _ _ hP hS (lv_sub hl [] rfl)
        · rw [if_neg c3] at h
          refine lv_aload_n hx hb dX5_settles_21 rfl (lv_at hl 0 rfl) ?_
          refine lv_iload_n hx hb dX5_settles_22 rfl (lv_at hl 2 rfl) ?_
          obtain ⟨v4, hv, h⟩ := bd1_e h
          refine g_ki (g_runV (As := [.int x2]) (rest := []) hC hP (c5_roomsIn l hv) (by decide) ge_23 rfl u_6_212 yv_X5_roomsIn (by omega) rfl hl.1 rfl (Nat.le_of_ble_eq_true rfl) dX5_settles_23 ⟨by decide, by decide⟩) hS (fun H locs hP hS => ?_)
          refine lv_iload hx hb dX5_settles_26 (lv_at hl 4 rfl) ?_
          refine lv_ishr hx hb dX5_settles_28 ?_
          refine lv_iconst (v := 1) hx hb dX5_settles_29 (by decide) ?_
          refine lv_iand hx hb dX5_settles_30 ?_
          refine lv_iconst (v := 1) hx hb dX5_settles_31 (by decide) ?_
          refine lv_icmp_eq (tgt := 115) hx hb dX5_settles_32 (by decide) (fun c5 => ?_) (fun c5 => ?_)
          · rw [if_pos c5] at h
            refine lv_iinc (v := (x4_14 + 1)) (lv' := [(4, .int (x4_14 + 1)), (0, .ref (ad γ 23)), (1, .int x1), (2, .int x2), (3, .int v2)]) hx hb dX5_settles_115 hl (k := 4) rfl rfl (by decide) rfl (fun ls hl => ?_)
            refine lv_goto (tgt := 14) hx hb dX5_settles_118 (by decide) ?_
            cases h
            exact kS _ _ rfl _ _ _ hP hS (lv_sub hl [1, 2, 3, 4, 0] rfl)
          · rw [if_neg c5] at h
            refine lv_aload_n hx hb dX5_settles_35 rfl (lv_at hl 0 rfl) ?_
            refine lv_iconst (v := 0) hx hb dX5_settles_36 (by decide) ?_
            refine lv_iload hx hb dX5_settles_37 (lv_at hl 4 rfl) ?_
            obtain ⟨v6, hv, h⟩ := bd1_e h
            refine g_ki (g_runV (As := [.int 0, .int x4_14]) (rest := []) hC hP (c5_of l hv) (by decide) ge_23 rfl u_5_229 yv_X5_of (by omega) rfl hl.1 rfl (Nat.le_of_ble_eq_true rfl) dX5_settles_39 ⟨by decide, by decide⟩) hS (fun H locs hP hS => ?_)
            refine lv_aload_n hx hb dX5_settles_42 rfl (lv_at hl 0 rfl) ?_
            refine lv_aload_n hx hb dX5_settles_43 rfl (lv_at hl 0 rfl) ?_
            refine lv_bipush (v := 42) hx hb dX5_settles_44 (by decide) ?_
            refine lv_iload_n hx hb dX5_settles_46 rfl (lv_at hl 3 rfl) ?_
            obtain ⟨v7, hv, h⟩ := bd1_e h
            refine g_ki (g_runV (As := [.int 42, .int v2]) (rest := [.ref (ad γ 23), .int v6]) hC hP (c5_of l hv) (by decide) ge_23 rfl u_5_229 yv_X5_of (by omega) rfl hl.1 rfl (Nat.le_of_ble_eq_true rfl) dX5_settles_47 ⟨by decide, by decide⟩) hS (fun H locs hP hS => ?_)
            obtain ⟨v8, hv, h⟩ := bd1_e h
            refine g_ki (g_runV (As := [.int v7]) (rest := [.int v6]) hC hP (c5_sizeOf l hv) (by decide) ge_23 rfl u_6_7 yv_X5_sizeOf (by omega) rfl hl.1 rfl (Nat.le_of_ble_eq_true rfl) dX5_settles_50 ⟨by decide, by decide⟩) hS (fun H locs hP hS => ?_)
            refine lv_icmp_lt (tgt := 115) hx hb dX5_settles_53 (by decide) (fun c9 => ?_) (fun c9 => ?_)
            · rw [if_pos c9] at h
              refine lv_iinc (v := (x4_14 + 1)) (lv' := [(4, .int (x4_14 + 1)), (0, .ref (ad γ 23)), (1, .int x1), (2, .int x2), (3, .int v2)]) hx hb dX5_settles_115 hl (k := 4) rfl rfl (by decide) rfl (fun ls hl => ?_)
              refine lv_goto (tgt := 14) hx hb dX5_settles_118 (by decide) ?_
              cases h
              exact kS _ _ rfl _ _ _ hP hS (lv_sub hl [1, 2, 3, 4, 0] rfl)
            · rw [if_neg c9] at h
              refine lv_aload_n hx hb dX5_settles_56 rfl (lv_at hl 0 rfl) ?_
              refine lv_bipush (v := 56) hx hb dX5_settles_57 (by decide) ?_
              refine lv_iload_n hx hb dX5_settles_59 rfl (lv_at hl 3 rfl) ?_
              obtain ⟨v10, hv, h⟩ := bd1_e h
              refine g_ki (g_runV (As := [.int 56, .int v2]) (rest := []) hC hP (c5_of l hv) (by decide) ge_23 rfl u_5_229 yv_X5_of (by omega) rfl hl.1 rfl (Nat.le_of_ble_eq_true rfl) dX5_settles_60 ⟨by decide, by decide⟩) hS (fun H locs hP hS => ?_)
              refine lv_aload_n hx hb dX5_settles_63 rfl (lv_at hl 0 rfl) ?_
              refine lv_bipush (v := 6) hx hb dX5_settles_64 (by decide) ?_
              refine lv_iload hx hb dX5_settles_66 (lv_at hl 4 rfl) ?_
              obtain ⟨v11, hv, h⟩ := bd1_e h
              refine g_ki (g_runV (As := [.int 6, .int x4_14]) (rest := [.int v10]) hC hP (c5_of l hv) (by decide) ge_23 rfl u_5_229 yv_X5_of (by omega) rfl hl.1 rfl (Nat.le_of_ble_eq_true rfl) dX5_settles_68 ⟨by decide, by decide⟩) hS (fun H locs hP hS => ?_)
              refine lv_iconst (v := -1) hx hb dX5_settles_71 (by decide) ?_
              refine lv_ixor hx hb dX5_settles_72 ?_
              refine lv_iand hx hb dX5_settles_73 ?_
              refine lv_if_eq (tgt := 80) hx hb dX5_settles_74 (by decide) (fun c12 => ?_) (fun c12 => ?_)
              · rw [if_pos c12] at h
                refine lv_aload_n hx hb dX5_settles_80 rfl (lv_at hl 0 rfl) ?_
                refine lv_iload_n hx hb dX5_settles_81 rfl (lv_at hl 3 rfl) ?_
                refine lv_bipush (v := 6) hx hb dX5_settles_82 (by decide) ?_
                refine lv_iload_n hx hb dX5_settles_84 rfl (lv_at hl 2 rfl) ?_
                refine lv_imul hx hb dX5_settles_85 ?_
                refine lv_iload hx hb dX5_settles_86 (lv_at hl 4 rfl) ?_
                refine lv_iadd hx hb dX5_settles_88 ?_
                obtain ⟨M13, hv, h⟩ := bd1_e h
                refine g_kv (g_runV (As := [.int v2, .int ((6 * x2) + x4_14)]) (rest := []) hC hP (c5_lays l hv) (by decide) ge_23 rfl u_6_98 yv_X5_lays (by omega) rfl hl.1 rfl (Nat.le_of_ble_eq_true rfl) dX5_settles_89 ⟨by decide, by decide⟩) hS (fun H locs hP hS => ?_)
                refine lv_aload_n hx hb dX5_settles_92 rfl (lv_at hl 0 rfl) ?_
                refine lv_iload_n hx hb dX5_settles_93 rfl (lv_at hl 1 rfl) ?_
                refine lv_iconst (v := 1) hx hb dX5_settles_94 (by decide) ?_
                refine lv_iload_n hx hb dX5_settles_95 rfl (lv_at hl 3 rfl) ?_
                refine lv_ishl hx hb dX5_settles_96 ?_
                refine lv_iconst (v := -1) hx hb dX5_settles_97 (by decide) ?_
                refine lv_ixor hx hb dX5_settles_98 ?_
                refine lv_iand hx hb dX5_settles_99 ?_
                refine lv_iload_n hx hb dX5_settles_100 rfl (lv_at hl 2 rfl) ?_
                obtain ⟨v14, M15, hv, h⟩ := bd2_e h
                refine g_ki (g_runV (As := [.int (x1 &&& ((1 <<< (v2 &&& 31)) ^^^ (-1))), .int x2]) (rest := []) hC hP (ih hv) (by decide) ge_23 rfl u_6_208 yv_X5_settles (Nat.le_refl _) rfl hl.1 rfl (Nat.le_of_ble_eq_true rfl) dX5_settles_101 ⟨by decide, by decide⟩) hS (fun H locs hP hS => ?_)
                refine lv_if_eq (tgt := 109) hx hb dX5_settles_104 (by decide) (fun c16 => ?_) (fun c16 => ?_)
                · rw [if_pos c16] at h
                  refine lv_aload_n hx hb dX5_settles_109 rfl (lv_at hl 0 rfl) ?_
                  refine lv_iload_n hx hb dX5_settles_110 rfl (lv_at hl 3 rfl) ?_
                  refine lv_iconst (v := -1) hx hb dX5_settles_111 (by decide) ?_
                  obtain ⟨M17, hv, h⟩ := bd1_e h
                  refine g_kv (g_runV (As := [.int v2, .int (-1)]) (rest := []) hC hP (c5_lays l hv) (by decide) ge_23 rfl u_6_98 yv_X5_lays (by omega) rfl hl.1 rfl (Nat.le_of_ble_eq_true rfl) dX5_settles_112 ⟨by decide, by decide⟩) hS (fun H locs hP hS => ?_)
                  refine lv_iinc (v := (x4_14 + 1)) (lv' := [(4, .int (x4_14 + 1)), (0, .ref (ad γ 23)), (1, .int x1), (2, .int x2), (3, .int v2)]) hx hb dX5_settles_115 hl (k := 4) rfl rfl (by decide) rfl (fun ls hl => ?_)
                  refine lv_goto (tgt := 14) hx hb dX5_settles_118 (by decide) ?_
                  cases h
                  exact kS _ _ rfl _ _ _ hP hS (lv_sub hl [1, 2, 3, 4, 0] rfl)
                · rw [if_neg c16] at h
                  refine lv_iconst (v := 1) hx hb dX5_settles_107 (by decide) ?_
                  have hz : zz 1 = some 1 := rfl
                  cases h
                  cases (kR _ rfl).2 _ rfl
                  exact g_zret hC hP hS dX5_settles_108 hz rfl
              · rw [if_neg c12] at h
                refine lv_goto (tgt := 115) hx hb dX5_settles_77 (by decide) ?_
                refine lv_iinc (v := (x4_14 + 1)) (lv' := [(4, .int (x4_14 + 1)), (0, .ref (ad γ 23)), (1, .int x1), (2, .int x2), (3, .int v2)]) hx hb dX5_settles_115 hl (k := 4) rfl rfl (by decide) rfl (fun ls hl => ?_)
                refine lv_goto (tgt := 14) hx hb dX5_settles_118 (by decide) ?_
                cases h
                exact kS _ _ rfl _ _ _ hP hS (lv_sub hl [1, 2, 3, 4, 0] rfl))
      rcases bs1_e h with ⟨M_x14, hv, h⟩ | ⟨t18, hv, h⟩
      · refine L14 _ _ _ _ hv ⟨fun q0 e9 H locs ls hP hS hl => ?_, fun t9 e9 => nomatch e9⟩ _ _ _ hP hS (lv_sub hl [2, 3, 4, 1, 0] rfl)
        obtain rfl := (Sum.inl.inj e9)
        refine lv_iconst (v := 0) hx hb dX5_settles_121 (by decide) ?_
        have hz : zz 0 = some 0 := rfl
        cases h
        exact g_zret hC hP hS dX5_settles_122 hz rfl
      · refine L14 _ _ _ _ hv ⟨fun q0 e9 => (nomatch e9), fun t9 e9 => ?_⟩ _ _ _ hP hS (lv_sub hl [2, 3, 4, 1, 0] rfl)
        cases e9
        exact Option.some.inj h
    · rw [if_pos c1] at h
      refine lv_iconst (v := 1) hx hb dX5_settles_4 (by decide) ?_
      have hz : zz 1 = some 1 := rfl
      cases h
      exact g_zret hC hP hS dX5_settles_5 hz rfl
theorem c5_settles_20 (l : Launch) {γ : GA} {sz : Nat} {T P X Y B M : OS} {E : Nat → OS} {O : Nat → Int64} {x1 : Int32} {x2 : Int32} {r0 : Int32} {Mz : OS} (h : r5_settles 20 M x1 x2 = some (r0, Mz)) : Met l yX5_settles (gU yX5_settles cX5_settles 5 (some .boolean)) (gR 24 0 0) (gPc γ [.ref (ad γ 23), .int x1, .int x2] sz (T, P, X, Y, E, B, M, O)) (gQi γ r0 sz (T, P, X, Y, E, B, Mz, O)) 0 0 (gA γ sz) := c5_settles l 20 h
def r5_settlesBoth_b3 (x1 : Int32) (x2 : Int32) (x3 : Int32) (x4 : Int32) (M_3 : OS) (x5_3 : Int32) : Option ((OS × Int32) ⊕ (OS)) :=
  bd1 (r5_many M_3) (fun v1 =>
  (if v1 ≤ x5_3 then some (.inr M_3)
  else (if ((x1 >>> (x5_3 &&& 31)) &&& 1) = 1 then bd1 (r5_lays M_3 x5_3 (-1)) (fun M4 =>
  some (.inl (M4, (x5_3 + 1))))
  else some (.inl (M_3, (x5_3 + 1))))))
def r5_settlesBoth (M : OS) (x1 : Int32) (x2 : Int32) (x3 : Int32) (x4 : Int32) : Option (Int32 × OS) :=
  bd1 (it2 (r5_settlesBoth_b3 x1 x2 x3 x4) 200 M 0) (fun M_x3 => bd2 (r5_settles 20 M_x3 x2 x3) (fun v5 M6 =>
  (if v5 = 0 then some (0, M6)
  else bd2 (r5_settles 20 M6 (x1 &&& (x2 ^^^ (-1))) x4) (fun v8 M9 =>
  (if v8 = 0 then some (0, M9)
  else some (1, M9))))))
theorem yv_X5_settlesBoth : gYV yX5_settlesBoth cX5_settlesBoth 6 (some .boolean) 4 := ⟨u_6_206, u_sp_55, u_1_7, u_6_207, ⟨by decide +kernel, by decide +kernel, by decide +kernel⟩, by decide⟩
set_option maxHeartbeats 4000000 in
set_option maxRecDepth 100000 in
theorem c5_settlesBoth (l : Launch) {γ : GA} {sz : Nat} {T P X Y B M : OS} {E : Nat → OS} {O : Nat → Int64} {x1 : Int32} {x2 : Int32} {x3 : Int32} {x4 : Int32} {r0 : Int32} {Mz : OS} (h : r5_settlesBoth M x1 x2 x3 x4 = some (r0, Mz)) : Met l yX5_settlesBoth (gU yX5_settlesBoth cX5_settlesBoth 6 (some .boolean)) (gR 25 0 0) (gPc γ [.ref (ad γ 23), .int x1, .int x2, .int x3, .int x4] sz (T, P, X, Y, E, B, M, O)) (gQi γ r0 sz (T, P, X, Y, E, B, Mz, O)) 0 0 (gA γ sz) := by
  refine g_met (fun sz => gQi γ r0 sz (T, P, X, Y, E, B, Mz, O)) (by decide) (Nat.le_of_ble_eq_true rfl) ?_
  intro p e s m args below meth c ls hC hP hS hl
  have hx := hC.x
  have hb := hC.b
  have hl : lv_has ls 6 [(0, .ref (ad γ 23)), (1, .int x1), (2, .int x2), (3, .int x3), (4, .int x4)] := hl
  unfold r5_settlesBoth at h
  refine lv_iconst (v := 0) hx hb dX5_settlesBoth_0 (by decide) ?_
  refine lv_istore (lv' := [(5, .int 0), (0, .ref (ad γ 23)), (1, .int x1), (2, .int x2), (3, .int x3), (4, .int x4)]) hx hb dX5_settlesBoth_1 hl (by decide) rfl (fun ls hl => ?_)
  have L3 := it2_W (r5_settlesBoth_b3 x1 x2 x3 x4) (fun (M_3 : OS) (x5_3 : Int32) => ∀ (H : Heap) (locs : List Loc) (ls : Array Slot), va_P γ.1 vwCl (gw γ (T, P, X, Y, E, B, M_3, O)) H → va_S (gA γ s.heap.size) s.heap H locs → lv_has ls 6 [(0, .ref (ad γ 23)), (1, .int x1), (2, .int x2), (3, .int x3), (4, .int x4), (5, .int x5_3)] → W p l e (gR 25 0 0) s m args below meth c H locs 0 0 (MQ below (gQi γ r0 s.heap.size (T, P, X, Y, E, B, Mz, O)) args s 0 0 (gA γ s.heap.size)) (F0 m 3 ls [])) (fun (r_k : OS) => (∀ (M_x3 : OS), r_k = M_x3 → ∀ (H : Heap) (locs : List Loc) (ls : Array Slot), va_P γ.1 vwCl (gw γ (T, P, X, Y, E, B, M_x3, O)) H → va_S (gA γ s.heap.size) s.heap H locs → lv_has ls 6 [(0, .ref (ad γ 23)), (1, .int x1), (2, .int x2), (3, .int x3), (4, .int x4)] → W p l e (gR 25 0 0) s m args below meth c H locs 0 0 (MQ below (gQi γ r0 s.heap.size (T, P, X, Y, E, B, Mz, O)) args s 0 0 (gA γ s.heap.size)) (F0 m 35 ls []))) (by
    intro M_3 x5_3 o_3 h kS kR H locs ls hP hS hl
    unfold r5_settlesBoth_b3 at h
    refine lv_iload hx hb dX5_settlesBoth_3 (lv_at hl 5 rfl) ?_
    refine lv_aload_n hx hb dX5_settlesBoth_5 rfl (lv_at hl 0 rfl) ?_
    obtain ⟨v1, hv, h⟩ := bd1_e h
    refine g_ki (g_runV (As := []) (rest := [.int x5_3]) hC hP (c5_many l hv) (by decide) ge_23 rfl u_5_225 yv_X5_many (Nat.le_of_ble_eq_true rfl) rfl hl.1 rfl (Nat.le_of_ble_eq_true rfl) dX5_settlesBoth_6 ⟨by decide, by decide⟩) hS (fun H locs hP hS => ?_)
    refine lv_icmp_ge (tgt := 35) hx hb dX5_settlesBoth_9 (by decide) (fun c2 => ?_) (fun c2 => ?_)
    · rw [if_pos c2] at h
      cases h
      exact kR _ rfl _ rfl _ _ _ hP hS (lv_sub hl [0, 1, 2, 3, 4] rfl)
    · rw [if_neg c2] at h
      refine lv_iload_n hx hb dX5_settlesBoth_12 rfl (lv_at hl 1 rfl) ?_
      refine lv_iload hx hb dX5_settlesBoth_13 (lv_at hl 5 rfl) ?_
      refine lv_ishr hx hb dX5_settlesBoth_15 ?_
      refine lv_iconst (v := 1) hx hb dX5_settlesBoth_16 (by decide) ?_
      refine lv_iand hx hb dX5_settlesBoth_17 ?_
      refine lv_iconst (v := 1) hx hb dX5_settlesBoth_18 (by decide) ?_
      refine lv_icmp_ne (tgt := 29) hx hb dX5_settlesBoth_19 (by decide) (fun c3 => ?_) (fun c3 => ?_)
      · rw [if_neg c3] at h
        refine lv_iinc (v := (x5_3 + 1)) (lv' := [(5, .int (x5_3 + 1)), (0, .ref (ad γ 23)), (1, .int x1), (2, .int x2), (3, .int x3), (4, .int x4)]) hx hb dX5_settlesBoth_29 hl (k := 5) rfl rfl (by decide) rfl (fun ls hl => ?_)
        refine lv_goto (tgt := 3) hx hb dX5_settlesBoth_32 (by decide) ?_
        cases h
        exact kS _ _ rfl _ _ _ hP hS (lv_sub hl [1, 2, 3, 4, 5, 0] rfl)
      · rw [if_pos c3] at h
        refine lv_aload_n hx hb dX5_settlesBoth_22 rfl (lv_at hl 0 rfl) ?_
        refine lv_iload hx hb dX5_settlesBoth_23 (lv_at hl 5 rfl) ?_
        refine lv_iconst (v := -1) hx hb dX5_settlesBoth_25 (by decide) ?_
        obtain ⟨M4, hv, h⟩ := bd1_e h
        refine g_kv (g_runV (As := [.int x5_3, .int (-1)]) (rest := []) hC hP (c5_lays l hv) (by decide) ge_23 rfl u_6_98 yv_X5_lays (Nat.le_of_ble_eq_true rfl) rfl hl.1 rfl (Nat.le_of_ble_eq_true rfl) dX5_settlesBoth_26 ⟨by decide, by decide⟩) hS (fun H locs hP hS => ?_)
        refine lv_iinc (v := (x5_3 + 1)) (lv' := [(5, .int (x5_3 + 1)), (0, .ref (ad γ 23)), (1, .int x1), (2, .int x2), (3, .int x3), (4, .int x4)]) hx hb dX5_settlesBoth_29 hl (k := 5) rfl rfl (by decide) rfl (fun ls hl => ?_)
        refine lv_goto (tgt := 3) hx hb dX5_settlesBoth_32 (by decide) ?_
        cases h
        exact kS _ _ rfl _ _ _ hP hS (lv_sub hl [1, 2, 3, 4, 5, 0] rfl))
  obtain ⟨M_x3, hv, h⟩ := bd1_e h
  refine L3 _ _ _ _ hv (fun q0 e9 H locs ls hP hS hl => ?_) _ _ _ hP hS (lv_sub hl [1, 2, 3, 4, 5, 0] rfl)
  obtain rfl := e9
  refine lv_aload_n hx hb dX5_settlesBoth_35 rfl (lv_at hl 0 rfl) ?_
  refine lv_iload_n hx hb dX5_settlesBoth_36 rfl (lv_at hl 2 rfl) ?_
  refine lv_iload_n hx hb dX5_settlesBoth_37 rfl (lv_at hl 3 rfl) ?_
  obtain ⟨v5, M6, hv, h⟩ := bd2_e h
  refine g_ki (g_runV (As := [.int x2, .int x3]) (rest := []) hC hP (c5_settles_20 l hv) (by decide) ge_23 rfl u_6_208 yv_X5_settles (Nat.le_of_ble_eq_true rfl) rfl hl.1 rfl (Nat.le_of_ble_eq_true rfl) dX5_settlesBoth_38 ⟨by decide, by decide⟩) hS (fun H locs hP hS => ?_)
  refine lv_if_eq (tgt := 62) hx hb dX5_settlesBoth_41 (by decide) (fun c7 => ?_) (fun c7 => ?_)
  · rw [if_pos c7] at h
    refine lv_iconst (v := 0) hx hb dX5_settlesBoth_62 (by decide) ?_
    have hz : zz 0 = some 0 := rfl
    cases h
    exact g_zret hC hP hS dX5_settlesBoth_63 hz rfl
  · rw [if_neg c7] at h
    refine lv_aload_n hx hb dX5_settlesBoth_44 rfl (lv_at hl 0 rfl) ?_
    refine lv_iload_n hx hb dX5_settlesBoth_45 rfl (lv_at hl 1 rfl) ?_
    refine lv_iload_n hx hb dX5_settlesBoth_46 rfl (lv_at hl 2 rfl) ?_
    refine lv_iconst (v := -1) hx hb dX5_settlesBoth_47 (by decide) ?_
    refine lv_ixor hx hb dX5_settlesBoth_48 ?_
    refine lv_iand hx hb dX5_settlesBoth_49 ?_
    refine lv_iload hx hb dX5_settlesBoth_50 (lv_at hl 4 rfl) ?_
    obtain ⟨v8, M9, hv, h⟩ := bd2_e h
    refine g_ki (g_runV (As := [.int (x1 &&& (x2 ^^^ (-1))), .int x4]) (rest := []) hC hP (c5_settles_20 l hv) (by decide) ge_23 rfl u_6_208 yv_X5_settles (Nat.le_of_ble_eq_true rfl) rfl hl.1 rfl (Nat.le_of_ble_eq_true rfl) dX5_settlesBoth_52 ⟨by decide, by decide⟩) hS (fun H locs hP hS => ?_)
    refine lv_if_eq (tgt := 62) hx hb dX5_settlesBoth_55 (by decide) (fun c10 => ?_) (fun c10 => ?_)
    · rw [if_pos c10] at h
      refine lv_iconst (v := 0) hx hb dX5_settlesBoth_62 (by decide) ?_
      have hz : zz 0 = some 0 := rfl
      cases h
      exact g_zret hC hP hS dX5_settlesBoth_63 hz rfl
    · rw [if_neg c10] at h
      refine lv_iconst (v := 1) hx hb dX5_settlesBoth_58 (by decide) ?_
      refine lv_goto (tgt := 63) hx hb dX5_settlesBoth_59 (by decide) ?_
      have hz : zz 1 = some 1 := rfl
      cases h
      exact g_zret hC hP hS dX5_settlesBoth_63 hz rfl
def r5_exchange_b62 (x2 : Int32) (v5 : Int32) (v6 : Int32) (M_62 : OS) (x5_62 : Int32) (x6_62 : Int32) : Option ((OS × Int32 × Int32) ⊕ (OS × Int32)) :=
  bd1 (r5_many M_62) (fun v9 =>
  (if v9 ≤ x6_62 then some (.inr (M_62, x5_62))
  else bd1 (r5_of M_62 84 x6_62) (fun v11 =>
  (wr 14 M_62 14 x6_62 v11).bind fun M12 =>
  (if ((v6 >>> (x6_62 &&& 31)) &&& 1) = 0 then some (.inl (M12, x5_62, (x6_62 + 1)))
  else bd1 (r5_of M12 84 x6_62) (fun v14 =>
  (if (v14 / 6) = x2 then (some (x5_62 ||| (1 <<< (x6_62 &&& 31)))).bind fun v16 =>
  some (.inl (M12, v16, (x6_62 + 1)))
  else some (.inl (M12, (x5_62 ||| 0), (x6_62 + 1)))))))))
def r5_exchange_b148 (v6 : Int32) (v17 : Int32) (M_148 : OS) (x7_148 : Int32) : Option ((OS × Int32) ⊕ (OS)) :=
  bd1 (r5_many M_148) (fun v19 =>
  (if v19 ≤ x7_148 then some (.inr M_148)
  else bd1 (r5_of M_148 84 x7_148) (fun v21 =>
  (wr 14 M_148 15 x7_148 v21).bind fun M22 =>
  some (.inl (M22, (x7_148 + 1))))))
def r5_exchange_b181 (v6 : Int32) (v17 : Int32) (M_181 : OS) (x7_181 : Int32) : Option ((OS × Int32) ⊕ (OS)) :=
  bd1 (r5_many M_181) (fun v23 =>
  (if v23 ≤ x7_181 then some (.inr M_181)
  else (rd 14 (M_181 14) x7_181).bind fun v25 =>
  bd1 (r5_lays M_181 x7_181 v25) (fun M26 =>
  some (.inl (M26, (x7_181 + 1))))))
def r5_exchange_b228 (v6 : Int32) (M_228 : OS) (x7_228 : Int32) : Option ((OS × Int32) ⊕ (OS)) :=
  bd1 (r5_many M_228) (fun v29 =>
  (if v29 ≤ x7_228 then some (.inr M_228)
  else (rd 14 (M_228 15) x7_228).bind fun v31 =>
  bd1 (r5_lays M_228 x7_228 v31) (fun M32 =>
  some (.inl (M32, (x7_228 + 1))))))
def r5_exchange (M : OS) (x1 : Int32) (x2 : Int32) : Option (Int32 × OS) :=
  bd1 (r5_chainThrown M x1 x2) (fun v1 =>
  (sw M 0 v1).bind fun M2 =>
  (if (M2 0 0) = 0 then bd1 (r5_of M2 84 x1) (fun v4 =>
  (some (v4 / 6)).bind fun v5 =>
  bd1 (r5_chainOf M2 x1 x2) (fun v6 =>
  bd1 (r5_canMove M2 v6 v5 x2) (fun v7 =>
  (if v7 = 0 then (sw M2 0 3).bind fun M35 =>
  some (0, M35)
  else bd2 (it3 (r5_exchange_b62 x2 v5 v6) 200 M2 0 0) (fun M_x62 x5_x62 => bd2 (r5_settlesBoth M_x62 v6 x5_x62 v5 x2) (fun v17 M18 =>
  bd1 (it2 (r5_exchange_b148 v6 v17) 200 M18 0) (fun M_x148 => bd1 (it2 (r5_exchange_b181 v6 v17) 200 M_x148 0) (fun M_x181 => (if v17 = 0 then (sw M_x181 0 3).bind fun M34 =>
  some (0, M34)
  else bd1 (r5_keeps M_x181) (fun M28 =>
  bd1 (it2 (r5_exchange_b228 v6) 200 M28 0) (fun M_x228 => bd1 (r5_bits v6) (fun v33 =>
  some (v33, M_x228)))))))))))))
  else some (0, M2)))
theorem yv_X5_exchange : gYV yX5_exchange cX5_exchange 8 (some .int) 2 := ⟨u_6_197, u_6_198, u_1_7, u_6_199, ⟨by decide +kernel, by decide +kernel, by decide +kernel⟩, by decide⟩
set_option maxHeartbeats 4000000 in
set_option maxRecDepth 100000 in
theorem c5_exchange (l : Launch) {γ : GA} {sz : Nat} {T P X Y B M : OS} {E : Nat → OS} {O : Nat → Int64} {x1 : Int32} {x2 : Int32} {r0 : Int32} {Mz : OS} (h : r5_exchange M x1 x2 = some (r0, Mz)) : Met l yX5_exchange (gU yX5_exchange cX5_exchange 8 (some .int)) (gR 26 0 0) (gPc γ [.ref (ad γ 23), .int x1, .int x2] sz (T, P, X, Y, E, B, M, O)) (gQi γ r0 sz (T, P, X, Y, E, B, Mz, O)) 0 0 (gA γ sz) := by
  refine g_met (fun sz => gQi γ r0 sz (T, P, X, Y, E, B, Mz, O)) (by decide) (Nat.le_of_ble_eq_true rfl) ?_
  intro p e s m args below meth c ls hC hP hS hl
  have hx := hC.x
  have hb := hC.b
  have hl : lv_has ls 8 [(0, .ref (ad γ 23)), (1, .int x1), (2, .int x2)] := hl
  unfold r5_exchange at h
  refine lv_aload_n hx hb dX5_exchange_0 rfl (lv_at hl 0 rfl) ?_
  refine lv_aload_n hx hb dX5_exchange_1 rfl (lv_at hl 0 rfl) ?_
  refine lv_iload_n hx hb dX5_exchange_2 rfl (lv_at hl 1 rfl) ?_
  refine lv_iload_n hx hb dX5_exchange_3 rfl (lv_at hl 2 rfl) ?_
  obtain ⟨v1, hv, h⟩ := bd1_e h
  refine g_ki (g_runV (As := [.int x1, .int x2]) (rest := [.ref (ad γ 23)]) hC hP (c5_chainThrown l hv) (by decide) ge_23 rfl u_6_184 yv_X5_chainThrown (Nat.le_of_ble_eq_true rfl) rfl hl.1 rfl (Nat.le_of_ble_eq_true rfl) dX5_exchange_4 ⟨by decide, by decide⟩) hS (fun H locs hP hS => ?_)
  obtain ⟨M2, hv, h⟩ := ob h
  refine g_putI hC hP hS (fun Z => (T, P, X, Y, E, B, Z, O)) 0 tyX5 dX5_exchange_7 (by decide) ge_23 rfl inX5 tyX5_ok nmX5 (by decide) u_5_154 rfl rfl (Nat.le_of_ble_eq_true rfl) gp_23_0 hv (fun H locs hP hS => ?_)
  refine lv_aload_n hx hb dX5_exchange_10 rfl (lv_at hl 0 rfl) ?_
  refine g_get hC hP 0 dX5_exchange_11 (by decide) ge_23 rfl inX5 (by decide) rfl u_5_154 ?_
  refine lv_if_eq (tgt := 19) hx hb dX5_exchange_14 (by decide) (fun c3 => ?_) (fun c3 => ?_)
  · rw [if_pos c3] at h
    refine lv_aload_n hx hb dX5_exchange_19 rfl (lv_at hl 0 rfl) ?_
    refine lv_bipush (v := 84) hx hb dX5_exchange_20 (by decide) ?_
    refine lv_iload_n hx hb dX5_exchange_22 rfl (lv_at hl 1 rfl) ?_
    obtain ⟨v4, hv, h⟩ := bd1_e h
    refine g_ki (g_runV (As := [.int 84, .int x1]) (rest := []) hC hP (c5_of l hv) (by decide) ge_23 rfl u_5_229 yv_X5_of (Nat.le_of_ble_eq_true rfl) rfl hl.1 rfl (Nat.le_of_ble_eq_true rfl) dX5_exchange_23 ⟨by decide, by decide⟩) hS (fun H locs hP hS => ?_)
    refine lv_bipush (v := 6) hx hb dX5_exchange_26 (by decide) ?_
    refine lv_idiv hx hb dX5_exchange_28 (by decide) ?_
    obtain ⟨v5, hv, h⟩ := ob h
    refine lv_topi (fun y9 ey9 => ?_)
    obtain rfl : v5 = y9 := (Option.some.inj hv).symm.trans ey9.symm
    clear hv ey9
    refine lv_istore_n (lv' := [(3, .int v5), (0, .ref (ad γ 23)), (1, .int x1), (2, .int x2)]) hx hb dX5_exchange_29 rfl hl (by decide) rfl (fun ls hl => ?_)
    refine lv_aload_n hx hb dX5_exchange_30 rfl (lv_at hl 1 rfl) ?_
    refine lv_iload_n hx hb dX5_exchange_31 rfl (lv_at hl 2 rfl) ?_
    refine lv_iload_n hx hb dX5_exchange_32 rfl (lv_at hl 3 rfl) ?_
    obtain ⟨v6, hv, h⟩ := bd1_e h
    refine g_ki (g_runV (As := [.int x1, .int x2]) (rest := []) hC hP (c5_chainOf l hv) (by decide) ge_23 rfl u_6_188 yv_X5_chainOf (Nat.le_of_ble_eq_true rfl) rfl hl.1 rfl (Nat.le_of_ble_eq_true rfl) dX5_exchange_33 ⟨by decide, by decide⟩) hS (fun H locs hP hS => ?_)
    refine lv_istore (lv' := [(4, .int v6), (3, .int v5), (0, .ref (ad γ 23)), (1, .int x1), (2, .int x2)]) hx hb dX5_exchange_36 hl (by decide) rfl (fun ls hl => ?_)
    refine lv_aload_n hx hb dX5_exchange_38 rfl (lv_at hl 2 rfl) ?_
    refine lv_iload hx hb dX5_exchange_39 (lv_at hl 0 rfl) ?_
    refine lv_iload_n hx hb dX5_exchange_41 rfl (lv_at hl 1 rfl) ?_
    refine lv_iload_n hx hb dX5_exchange_42 rfl (lv_at hl 4 rfl) ?_
    obtain ⟨v7, hv, h⟩ := bd1_e h
    refine g_ki (g_runV (As := [.int v6, .int v5, .int x2]) (rest := []) hC hP (c5_canMove l hv) (by decide) ge_23 rfl u_6_200 yv_X5_canMove (Nat.le_of_ble_eq_true rfl) rfl hl.1 rfl (Nat.le_of_ble_eq_true rfl) dX5_exchange_43 ⟨by decide, by decide⟩) hS (fun H locs hP hS => ?_)
    refine lv_if_ne (tgt := 56) hx hb dX5_exchange_46 (by decide) (fun c8 => ?_) (fun c8 => ?_)
    · rw [if_neg c8] at h
      refine lv_iconst (v := 0) hx hb dX5_exchange_56 (by decide) ?_
      refine lv_istore (lv' := [(5, .int 0), (4, .int v6), (3, .int v5), (0, .ref (ad γ 23)), (1, .int x1), (2, .int x2)]) hx hb dX5_exchange_57 hl (by decide) rfl (fun ls hl => ?_)
      refine lv_iconst (v := 0) hx hb dX5_exchange_59 (by decide) ?_
      refine lv_istore (lv' := [(6, .int 0), (5, .int 0), (4, .int v6), (3, .int v5), (0, .ref (ad γ 23)), (1, .int x1), (2, .int x2)]) hx hb dX5_exchange_60 hl (by decide) rfl (fun ls hl => ?_)
      have L62 := it3_W (r5_exchange_b62 x2 v5 v6) (fun (M_62 : OS) (x5_62 : Int32) (x6_62 : Int32) => ∀ (H : Heap) (locs : List Loc) (ls : Array Slot), va_P γ.1 vwCl (gw γ (T, P, X, Y, E, B, M_62, O)) H → va_S (gA γ s.heap.size) s.heap H locs → lv_has ls 8 [(0, .ref (ad γ 23)), (2, .int x2), (3, .int v5), (4, .int v6), (5, .int x5_62), (6, .int x6_62)] → W p l e (gR 26 0 0) s m args below meth c H locs 0 0 (MQ below (gQi γ r0 s.heap.size (T, P, X, Y, E, B, Mz, O)) args s 0 0 (gA γ s.heap.size)) (F0 m 62 ls [])) (fun (r_k : OS × Int32) => (∀ (M_x62 : OS) (x5_x62 : Int32), r_k = (M_x62, x5_x62) → ∀ (H : Heap) (locs : List Loc) (ls : Array Slot), va_P γ.1 vwCl (gw γ (T, P, X, Y, E, B, M_x62, O)) H → va_S (gA γ s.heap.size) s.heap H locs → lv_has ls 8 [(0, .ref (ad γ 23)), (2, .int x2), (3, .int v5), (4, .int v6), (5, .int x5_x62)] → W p l e (gR 26 0 0) s m args below meth c H locs 0 0 (MQ below (gQi γ r0 s.heap.size (T, P, X, Y, E, B, Mz, O)) args s 0 0 (gA γ s.heap.size)) (F0 m 133 ls []))) (by
        intro M_62 x5_62 x6_62 o_62 h kS kR H locs ls hP hS hl
        unfold r5_exchange_b62 at h
        refine lv_iload hx hb dX5_exchange_62 (lv_at hl 5 rfl) ?_
        refine lv_aload_n hx hb dX5_exchange_64 rfl (lv_at hl 0 rfl) ?_
        obtain ⟨v9, hv, h⟩ := bd1_e h
        refine g_ki (g_runV (As := []) (rest := [.int x6_62]) hC hP (c5_many l hv) (by decide) ge_23 rfl u_5_225 yv_X5_many (Nat.le_of_ble_eq_true rfl) rfl hl.1 rfl (Nat.le_of_ble_eq_true rfl) dX5_exchange_65 ⟨by decide, by decide⟩) hS (fun H locs hP hS => ?_)
        refine lv_icmp_ge (tgt := 133) hx hb dX5_exchange_68 (by decide) (fun c10 => ?_) (fun c10 => ?_)
        · rw [if_pos c10] at h
          cases h
          exact kR _ rfl _ _ rfl _ _ _ hP hS (lv_sub hl [0, 1, 2, 3, 4] rfl)
        · rw [if_neg c10] at h
          refine lv_aload_n hx hb dX5_exchange_71 rfl (lv_at hl 0 rfl) ?_
          refine g_get hC hP 14 dX5_exchange_72 (by decide) ge_23 rfl inX5 (by decide) rfl u_5_168 ?_
          refine lv_iload hx hb dX5_exchange_75 (lv_at hl 5 rfl) ?_
          refine lv_aload_n hx hb dX5_exchange_77 rfl (lv_at hl 0 rfl) ?_
          refine lv_bipush (v := 84) hx hb dX5_exchange_78 (by decide) ?_
          refine lv_iload hx hb dX5_exchange_80 (lv_at hl 5 rfl) ?_
          obtain ⟨v11, hv, h⟩ := bd1_e h
          refine g_ki (g_runV (As := [.int 84, .int x6_62]) (rest := [.int x6_62, .ref (ad γ 27)]) hC hP (c5_of l hv) (by decide) ge_23 rfl u_5_229 yv_X5_of (Nat.le_of_ble_eq_true rfl) rfl hl.1 rfl (Nat.le_of_ble_eq_true rfl) dX5_exchange_82 ⟨by decide, by decide⟩) hS (fun H locs hP hS => ?_)
          obtain ⟨M12, hv, h⟩ := ob h
          refine g_st hC hP hS (fun Z => (T, P, X, Y, E, B, Z, O)) dX5_exchange_85 (by decide) ge_27 gs_27 hv (fun H locs hP hS => ?_)
          refine lv_iload hx hb dX5_exchange_86 (lv_at hl 3 rfl) ?_
          refine lv_iload hx hb dX5_exchange_88 (lv_at hl 5 rfl) ?_
          refine lv_ishr hx hb dX5_exchange_90 ?_
          refine lv_iconst (v := 1) hx hb dX5_exchange_91 (by decide) ?_
          refine lv_iand hx hb dX5_exchange_92 ?_
          refine lv_if_ne (tgt := 99) hx hb dX5_exchange_93 (by decide) (fun c13 => ?_) (fun c13 => ?_)
          · rw [if_neg c13] at h
            refine lv_iload hx hb dX5_exchange_99 (lv_at hl 4 rfl) ?_
            refine lv_aload_n hx hb dX5_exchange_101 rfl (lv_at hl 0 rfl) ?_
            refine lv_bipush (v := 84) hx hb dX5_exchange_102 (by decide) ?_
            refine lv_iload hx hb dX5_exchange_104 (lv_at hl 5 rfl) ?_
            obtain ⟨v14, hv, h⟩ := bd1_e h
            refine g_ki (g_runV (As := [.int 84, .int x6_62]) (rest := [.int x5_62]) hC hP (c5_of l hv) (by decide) ge_23 rfl u_5_229 yv_X5_of (Nat.le_of_ble_eq_true rfl) rfl hl.1 rfl (Nat.le_of_ble_eq_true rfl) dX5_exchange_106 ⟨by decide, by decide⟩) hS (fun H locs hP hS => ?_)
            refine lv_bipush (v := 6) hx hb dX5_exchange_109 (by decide) ?_
            refine lv_idiv hx hb dX5_exchange_111 (by decide) ?_
            refine lv_iload_n hx hb dX5_exchange_112 rfl (lv_at hl 1 rfl) ?_
            refine lv_icmp_ne (tgt := 123) hx hb dX5_exchange_113 (by decide) (fun c15 => ?_) (fun c15 => ?_)
            · rw [if_neg c15] at h
              refine lv_iconst (v := 0) hx hb dX5_exchange_123 (by decide) ?_
              refine lv_ior hx hb dX5_exchange_124 ?_
              refine lv_istore (lv' := [(5, .int (x5_62 ||| 0)), (0, .ref (ad γ 23)), (2, .int x2), (3, .int v5), (4, .int v6), (6, .int x6_62)]) hx hb dX5_exchange_125 hl (by decide) rfl (fun ls hl => ?_)
              refine lv_iinc (v := (x6_62 + 1)) (lv' := [(6, .int (x6_62 + 1)), (5, .int (x5_62 ||| 0)), (0, .ref (ad γ 23)), (2, .int x2), (3, .int v5), (4, .int v6)]) hx hb dX5_exchange_127 hl (k := 5) rfl rfl (by decide) rfl (fun ls hl => ?_)
              refine lv_goto (tgt := 62) hx hb dX5_exchange_130 (by decide) ?_
              cases h
              exact kS _ _ _ rfl _ _ _ hP hS (lv_sub hl [2, 3, 4, 5, 1, 0] rfl)
            · rw [if_pos c15] at h
              refine lv_iconst (v := 1) hx hb dX5_exchange_116 (by decide) ?_
              refine lv_iload hx hb dX5_exchange_117 (lv_at hl 5 rfl) ?_
              refine lv_ishl hx hb dX5_exchange_119 ?_
              refine lv_goto (tgt := 124) hx hb dX5_exchange_120 (by decide) ?_
              refine lv_ior hx hb dX5_exchange_124 ?_
              obtain ⟨v16, hv, h⟩ := ob h
              refine lv_topi (fun y9 ey9 => ?_)
              obtain rfl : v16 = y9 := (Option.some.inj hv).symm.trans ey9.symm
              clear hv ey9
              refine lv_istore (lv' := [(5, .int v16), (0, .ref (ad γ 23)), (2, .int x2), (3, .int v5), (4, .int v6), (6, .int x6_62)]) hx hb dX5_exchange_125 hl (by decide) rfl (fun ls hl => ?_)
              refine lv_iinc (v := (x6_62 + 1)) (lv' := [(6, .int (x6_62 + 1)), (5, .int v16), (0, .ref (ad γ 23)), (2, .int x2), (3, .int v5), (4, .int v6)]) hx hb dX5_exchange_127 hl (k := 5) rfl rfl (by decide) rfl (fun ls hl => ?_)
              refine lv_goto (tgt := 62) hx hb dX5_exchange_130 (by decide) ?_
              cases h
              exact kS _ _ _ rfl _ _ _ hP hS (lv_sub hl [2, 3, 4, 5, 1, 0] rfl)
          · rw [if_pos c13] at h
            refine lv_goto (tgt := 127) hx hb dX5_exchange_96 (by decide) ?_
            refine lv_iinc (v := (x6_62 + 1)) (lv' := [(6, .int (x6_62 + 1)), (0, .ref (ad γ 23)), (2, .int x2), (3, .int v5), (4, .int v6), (5, .int x5_62)]) hx hb dX5_exchange_127 hl (k := 5) rfl rfl (by decide) rfl (fun ls hl => ?_)
            refine lv_goto (tgt := 62) hx hb dX5_exchange_130 (by decide) ?_
            cases h
            exact kS _ _ _ rfl _ _ _ hP hS (lv_sub hl [1, 2, 3, 4, 5, 0] rfl))
      obtain ⟨M_x62, x5_x62, hv, h⟩ := bd2_e h
      refine L62 _ _ _ _ _ hv (fun q0 q1 e9 H locs ls hP hS hl => ?_) _ _ _ hP hS (lv_sub hl [4, 6, 3, 2, 1, 0] rfl)
      obtain ⟨rfl, rfl⟩ := inj2 e9
      refine lv_aload_n hx hb dX5_exchange_133 rfl (lv_at hl 0 rfl) ?_
      refine lv_iload hx hb dX5_exchange_134 (lv_at hl 3 rfl) ?_
      refine lv_iload hx hb dX5_exchange_136 (lv_at hl 4 rfl) ?_
      refine lv_iload_n hx hb dX5_exchange_138 rfl (lv_at hl 2 rfl) ?_
      refine lv_iload_n hx hb dX5_exchange_139 rfl (lv_at hl 1 rfl) ?_
      obtain ⟨v17, M18, hv, h⟩ := bd2_e h
      refine g_ki (g_runV (As := [.int v6, .int x5_x62, .int v5, .int x2]) (rest := []) hC hP (c5_settlesBoth l hv) (by decide) ge_23 rfl u_6_204 yv_X5_settlesBoth (Nat.le_of_ble_eq_true rfl) rfl hl.1 rfl (Nat.le_of_ble_eq_true rfl) dX5_exchange_140 ⟨by decide, by decide⟩) hS (fun H locs hP hS => ?_)
      refine lv_istore (lv' := [(6, .int v17), (0, .ref (ad γ 23)), (2, .int x2), (3, .int v5), (4, .int v6), (5, .int x5_x62)]) hx hb dX5_exchange_143 hl (by decide) rfl (fun ls hl => ?_)
      refine lv_iconst (v := 0) hx hb dX5_exchange_145 (by decide) ?_
      refine lv_istore (lv' := [(7, .int 0), (6, .int v17), (0, .ref (ad γ 23)), (2, .int x2), (3, .int v5), (4, .int v6), (5, .int x5_x62)]) hx hb dX5_exchange_146 hl (by decide) rfl (fun ls hl => ?_)
      have L148 := it2_W (r5_exchange_b148 v6 v17) (fun (M_148 : OS) (x7_148 : Int32) => ∀ (H : Heap) (locs : List Loc) (ls : Array Slot), va_P γ.1 vwCl (gw γ (T, P, X, Y, E, B, M_148, O)) H → va_S (gA γ s.heap.size) s.heap H locs → lv_has ls 8 [(0, .ref (ad γ 23)), (4, .int v6), (6, .int v17), (7, .int x7_148)] → W p l e (gR 26 0 0) s m args below meth c H locs 0 0 (MQ below (gQi γ r0 s.heap.size (T, P, X, Y, E, B, Mz, O)) args s 0 0 (gA γ s.heap.size)) (F0 m 148 ls [])) (fun (r_k : OS) => (∀ (M_x148 : OS), r_k = M_x148 → ∀ (H : Heap) (locs : List Loc) (ls : Array Slot), va_P γ.1 vwCl (gw γ (T, P, X, Y, E, B, M_x148, O)) H → va_S (gA γ s.heap.size) s.heap H locs → lv_has ls 8 [(0, .ref (ad γ 23)), (4, .int v6), (6, .int v17)] → W p l e (gR 26 0 0) s m args below meth c H locs 0 0 (MQ below (gQi γ r0 s.heap.size (T, P, X, Y, E, B, Mz, O)) args s 0 0 (gA γ s.heap.size)) (F0 m 178 ls []))) (by
        intro M_148 x7_148 o_148 h kS kR H locs ls hP hS hl
        unfold r5_exchange_b148 at h
        refine lv_iload hx hb dX5_exchange_148 (lv_at hl 3 rfl) ?_
        refine lv_aload_n hx hb dX5_exchange_150 rfl (lv_at hl 0 rfl) ?_
        obtain ⟨v19, hv, h⟩ := bd1_e h
        refine g_ki (g_runV (As := []) (rest := [.int x7_148]) hC hP (c5_many l hv) (by decide) ge_23 rfl u_5_225 yv_X5_many (Nat.le_of_ble_eq_true rfl) rfl hl.1 rfl (Nat.le_of_ble_eq_true rfl) dX5_exchange_151 ⟨by decide, by decide⟩) hS (fun H locs hP hS => ?_)
        refine lv_icmp_ge (tgt := 178) hx hb dX5_exchange_154 (by decide) (fun c20 => ?_) (fun c20 => ?_)
        · rw [if_pos c20] at h
          cases h
          exact kR _ rfl _ rfl _ _ _ hP hS (lv_sub hl [0, 1, 2] rfl)
        · rw [if_neg c20] at h
          refine lv_aload_n hx hb dX5_exchange_157 rfl (lv_at hl 0 rfl) ?_
          refine g_get hC hP 15 dX5_exchange_158 (by decide) ge_23 rfl inX5 (by decide) rfl u_5_169 ?_
          refine lv_iload hx hb dX5_exchange_161 (lv_at hl 3 rfl) ?_
          refine lv_aload_n hx hb dX5_exchange_163 rfl (lv_at hl 0 rfl) ?_
          refine lv_bipush (v := 84) hx hb dX5_exchange_164 (by decide) ?_
          refine lv_iload hx hb dX5_exchange_166 (lv_at hl 3 rfl) ?_
          obtain ⟨v21, hv, h⟩ := bd1_e h
          refine g_ki (g_runV (As := [.int 84, .int x7_148]) (rest := [.int x7_148, .ref (ad γ 28)]) hC hP (c5_of l hv) (by decide) ge_23 rfl u_5_229 yv_X5_of (Nat.le_of_ble_eq_true rfl) rfl hl.1 rfl (Nat.le_of_ble_eq_true rfl) dX5_exchange_168 ⟨by decide, by decide⟩) hS (fun H locs hP hS => ?_)
          obtain ⟨M22, hv, h⟩ := ob h
          refine g_st hC hP hS (fun Z => (T, P, X, Y, E, B, Z, O)) dX5_exchange_171 (by decide) ge_28 gs_28 hv (fun H locs hP hS => ?_)
          refine lv_iinc (v := (x7_148 + 1)) (lv' := [(7, .int (x7_148 + 1)), (0, .ref (ad γ 23)), (4, .int v6), (6, .int v17)]) hx hb dX5_exchange_172 hl (k := 3) rfl rfl (by decide) rfl (fun ls hl => ?_)
          refine lv_goto (tgt := 148) hx hb dX5_exchange_175 (by decide) ?_
          cases h
          exact kS _ _ rfl _ _ _ hP hS (lv_sub hl [1, 2, 3, 0] rfl))
      obtain ⟨M_x148, hv, h⟩ := bd1_e h
      refine L148 _ _ _ _ hv (fun q0 e9 H locs ls hP hS hl => ?_) _ _ _ hP hS (lv_sub hl [2, 5, 1, 0] rfl)
      obtain rfl := e9
      refine lv_iconst (v := 0) hx hb dX5_exchange_178 (by decide) ?_
      refine lv_istore (lv' := [(7, .int 0), (0, .ref (ad γ 23)), (4, .int v6), (6, .int v17)]) hx hb dX5_exchange_179 hl (by decide) rfl (fun ls hl => ?_)
      have L181 := it2_W (r5_exchange_b181 v6 v17) (fun (M_181 : OS) (x7_181 : Int32) => ∀ (H : Heap) (locs : List Loc) (ls : Array Slot), va_P γ.1 vwCl (gw γ (T, P, X, Y, E, B, M_181, O)) H → va_S (gA γ s.heap.size) s.heap H locs → lv_has ls 8 [(0, .ref (ad γ 23)), (4, .int v6), (6, .int v17), (7, .int x7_181)] → W p l e (gR 26 0 0) s m args below meth c H locs 0 0 (MQ below (gQi γ r0 s.heap.size (T, P, X, Y, E, B, Mz, O)) args s 0 0 (gA γ s.heap.size)) (F0 m 181 ls [])) (fun (r_k : OS) => (∀ (M_x181 : OS), r_k = M_x181 → ∀ (H : Heap) (locs : List Loc) (ls : Array Slot), va_P γ.1 vwCl (gw γ (T, P, X, Y, E, B, M_x181, O)) H → va_S (gA γ s.heap.size) s.heap H locs → lv_has ls 8 [(0, .ref (ad γ 23)), (4, .int v6), (6, .int v17)] → W p l e (gR 26 0 0) s m args below meth c H locs 0 0 (MQ below (gQi γ r0 s.heap.size (T, P, X, Y, E, B, Mz, O)) args s 0 0 (gA γ s.heap.size)) (F0 m 209 ls []))) (by
        intro M_181 x7_181 o_181 h kS kR H locs ls hP hS hl
        unfold r5_exchange_b181 at h
        refine lv_iload hx hb dX5_exchange_181 (lv_at hl 3 rfl) ?_
        refine lv_aload_n hx hb dX5_exchange_183 rfl (lv_at hl 0 rfl) ?_
        obtain ⟨v23, hv, h⟩ := bd1_e h
        refine g_ki (g_runV (As := []) (rest := [.int x7_181]) hC hP (c5_many l hv) (by decide) ge_23 rfl u_5_225 yv_X5_many (Nat.le_of_ble_eq_true rfl) rfl hl.1 rfl (Nat.le_of_ble_eq_true rfl) dX5_exchange_184 ⟨by decide, by decide⟩) hS (fun H locs hP hS => ?_)
        refine lv_icmp_ge (tgt := 209) hx hb dX5_exchange_187 (by decide) (fun c24 => ?_) (fun c24 => ?_)
        · rw [if_pos c24] at h
          cases h
          exact kR _ rfl _ rfl _ _ _ hP hS (lv_sub hl [0, 1, 2] rfl)
        · rw [if_neg c24] at h
          refine lv_aload_n hx hb dX5_exchange_190 rfl (lv_at hl 0 rfl) ?_
          refine lv_iload hx hb dX5_exchange_191 (lv_at hl 3 rfl) ?_
          refine lv_aload_n hx hb dX5_exchange_193 rfl (lv_at hl 0 rfl) ?_
          refine g_get hC hP 14 dX5_exchange_194 (by decide) ge_23 rfl inX5 (by decide) rfl u_5_168 ?_
          refine lv_iload hx hb dX5_exchange_197 (lv_at hl 3 rfl) ?_
          obtain ⟨v25, hv, h⟩ := ob h
          refine g_ld hC hP dX5_exchange_199 (by decide) ge_27 hv ?_
          obtain ⟨M26, hv, h⟩ := bd1_e h
          refine g_kv (g_runV (As := [.int x7_181, .int v25]) (rest := []) hC hP (c5_lays l hv) (by decide) ge_23 rfl u_6_98 yv_X5_lays (Nat.le_of_ble_eq_true rfl) rfl hl.1 rfl (Nat.le_of_ble_eq_true rfl) dX5_exchange_200 ⟨by decide, by decide⟩) hS (fun H locs hP hS => ?_)
          refine lv_iinc (v := (x7_181 + 1)) (lv' := [(7, .int (x7_181 + 1)), (0, .ref (ad γ 23)), (4, .int v6), (6, .int v17)]) hx hb dX5_exchange_203 hl (k := 3) rfl rfl (by decide) rfl (fun ls hl => ?_)
          refine lv_goto (tgt := 181) hx hb dX5_exchange_206 (by decide) ?_
          cases h
          exact kS _ _ rfl _ _ _ hP hS (lv_sub hl [1, 2, 3, 0] rfl))
      obtain ⟨M_x181, hv, h⟩ := bd1_e h
      refine L181 _ _ _ _ hv (fun q0 e9 H locs ls hP hS hl => ?_) _ _ _ hP hS (lv_sub hl [1, 2, 3, 0] rfl)
      obtain rfl := e9
      refine lv_iload hx hb dX5_exchange_209 (lv_at hl 2 rfl) ?_
      refine lv_if_ne (tgt := 221) hx hb dX5_exchange_211 (by decide) (fun c27 => ?_) (fun c27 => ?_)
      · rw [if_neg c27] at h
        refine lv_aload_n hx hb dX5_exchange_221 rfl (lv_at hl 0 rfl) ?_
        obtain ⟨M28, hv, h⟩ := bd1_e h
        refine g_kv (g_runV (As := []) (rest := []) hC hP (c5_keeps l hv) (by decide) ge_23 rfl u_5_213 yv_X5_keeps (Nat.le_of_ble_eq_true rfl) rfl hl.1 rfl (Nat.le_of_ble_eq_true rfl) dX5_exchange_222 ⟨by decide, by decide⟩) hS (fun H locs hP hS => ?_)
        refine lv_iconst (v := 0) hx hb dX5_exchange_225 (by decide) ?_
        refine lv_istore (lv' := [(7, .int 0), (0, .ref (ad γ 23)), (4, .int v6), (6, .int v17)]) hx hb dX5_exchange_226 hl (by decide) rfl (fun ls hl => ?_)
        have L228 := it2_W (r5_exchange_b228 v6) (fun (M_228 : OS) (x7_228 : Int32) => ∀ (H : Heap) (locs : List Loc) (ls : Array Slot), va_P γ.1 vwCl (gw γ (T, P, X, Y, E, B, M_228, O)) H → va_S (gA γ s.heap.size) s.heap H locs → lv_has ls 8 [(0, .ref (ad γ 23)), (4, .int v6), (7, .int x7_228)] → W p l e (gR 26 0 0) s m args below meth c H locs 0 0 (MQ below (gQi γ r0 s.heap.size (T, P, X, Y, E, B, Mz, O)) args s 0 0 (gA γ s.heap.size)) (F0 m 228 ls [])) (fun (r_k : OS) => (∀ (M_x228 : OS), r_k = M_x228 → ∀ (H : Heap) (locs : List Loc) (ls : Array Slot), va_P γ.1 vwCl (gw γ (T, P, X, Y, E, B, M_x228, O)) H → va_S (gA γ s.heap.size) s.heap H locs → lv_has ls 8 [(4, .int v6)] → W p l e (gR 26 0 0) s m args below meth c H locs 0 0 (MQ below (gQi γ r0 s.heap.size (T, P, X, Y, E, B, Mz, O)) args s 0 0 (gA γ s.heap.size)) (F0 m 256 ls []))) (by
          intro M_228 x7_228 o_228 h kS kR H locs ls hP hS hl
          unfold r5_exchange_b228 at h
          refine lv_iload hx hb dX5_exchange_228 (lv_at hl 2 rfl) ?_
          refine lv_aload_n hx hb dX5_exchange_230 rfl (lv_at hl 0 rfl) ?_
          obtain ⟨v29, hv, h⟩ := bd1_e h
          refine g_ki (g_runV (As := []) (rest := [.int x7_228]) hC hP (c5_many l hv) (by decide) ge_23 rfl u_5_225 yv_X5_many (Nat.le_of_ble_eq_true rfl) rfl hl.1 rfl (Nat.le_of_ble_eq_true rfl) dX5_exchange_231 ⟨by decide, by decide⟩) hS (fun H locs hP hS => ?_)
          refine lv_icmp_ge (tgt := 256) hx hb dX5_exchange_234 (by decide) (fun c30 => ?_) (fun c30 => ?_)
          · rw [if_pos c30] at h
            cases h
            exact kR _ rfl _ rfl _ _ _ hP hS (lv_sub hl [1] rfl)
          · rw [if_neg c30] at h
            refine lv_aload_n hx hb dX5_exchange_237 rfl (lv_at hl 0 rfl) ?_
            refine lv_iload hx hb dX5_exchange_238 (lv_at hl 2 rfl) ?_
            refine lv_aload_n hx hb dX5_exchange_240 rfl (lv_at hl 0 rfl) ?_
            refine g_get hC hP 15 dX5_exchange_241 (by decide) ge_23 rfl inX5 (by decide) rfl u_5_169 ?_
            refine lv_iload hx hb dX5_exchange_244 (lv_at hl 2 rfl) ?_
            obtain ⟨v31, hv, h⟩ := ob h
            refine g_ld hC hP dX5_exchange_246 (by decide) ge_28 hv ?_
            obtain ⟨M32, hv, h⟩ := bd1_e h
            refine g_kv (g_runV (As := [.int x7_228, .int v31]) (rest := []) hC hP (c5_lays l hv) (by decide) ge_23 rfl u_6_98 yv_X5_lays (Nat.le_of_ble_eq_true rfl) rfl hl.1 rfl (Nat.le_of_ble_eq_true rfl) dX5_exchange_247 ⟨by decide, by decide⟩) hS (fun H locs hP hS => ?_)
            refine lv_iinc (v := (x7_228 + 1)) (lv' := [(7, .int (x7_228 + 1)), (0, .ref (ad γ 23)), (4, .int v6)]) hx hb dX5_exchange_250 hl (k := 2) rfl rfl (by decide) rfl (fun ls hl => ?_)
            refine lv_goto (tgt := 228) hx hb dX5_exchange_253 (by decide) ?_
            cases h
            exact kS _ _ rfl _ _ _ hP hS (lv_sub hl [1, 2, 0] rfl))
        obtain ⟨M_x228, hv, h⟩ := bd1_e h
        refine L228 _ _ _ _ hv (fun q0 e9 H locs ls hP hS hl => ?_) _ _ _ hP hS (lv_sub hl [1, 2, 0] rfl)
        obtain rfl := e9
        refine lv_iload hx hb dX5_exchange_256 (lv_at hl 0 rfl) ?_
        obtain ⟨v33, hv, h⟩ := bd1_e h
        refine g_ki (g_runS (As := [.int v6]) (rest := []) hC hP (c5_bits l hv) u_6_150 yv_X5_bits (Nat.le_of_ble_eq_true rfl) rfl hl.1 rfl (Nat.le_of_ble_eq_true rfl) dX5_exchange_258 ⟨by decide, by decide⟩) hS (fun H locs hP hS => ?_)
        cases h
        exact g_iret hC hP hS dX5_exchange_261 rfl
      · rw [if_pos c27] at h
        refine lv_aload_n hx hb dX5_exchange_214 rfl (lv_at hl 0 rfl) ?_
        refine lv_iconst (v := 3) hx hb dX5_exchange_215 (by decide) ?_
        obtain ⟨M34, hv, h⟩ := ob h
        refine g_putI hC hP hS (fun Z => (T, P, X, Y, E, B, Z, O)) 0 tyX5 dX5_exchange_216 (by decide) ge_23 rfl inX5 tyX5_ok nmX5 (by decide) u_5_154 rfl rfl (Nat.le_of_ble_eq_true rfl) gp_23_0 hv (fun H locs hP hS => ?_)
        refine lv_iconst (v := 0) hx hb dX5_exchange_219 (by decide) ?_
        cases h
        exact g_iret hC hP hS dX5_exchange_220 rfl
    · rw [if_pos c8] at h
      refine lv_aload_n hx hb dX5_exchange_49 rfl (lv_at hl 2 rfl) ?_
      refine lv_iconst (v := 3) hx hb dX5_exchange_50 (by decide) ?_
      obtain ⟨M35, hv, h⟩ := ob h
      refine g_putI hC hP hS (fun Z => (T, P, X, Y, E, B, Z, O)) 0 tyX5 dX5_exchange_51 (by decide) ge_23 rfl inX5 tyX5_ok nmX5 (by decide) u_5_154 rfl rfl (Nat.le_of_ble_eq_true rfl) gp_23_0 hv (fun H locs hP hS => ?_)
      refine lv_iconst (v := 0) hx hb dX5_exchange_54 (by decide) ?_
      cases h
      exact g_iret hC hP hS dX5_exchange_55 rfl
  · rw [if_neg c3] at h
    refine lv_iconst (v := 0) hx hb dX5_exchange_17 (by decide) ?_
    cases h
    exact g_iret hC hP hS dX5_exchange_18 rfl
def r5_gaps_b15 (M : OS) (x1_4 : Int32) (x2_4 : Int32) (x3_15 : Int32) (x4_15 : Int32) : Option ((Int32 × Int32) ⊕ (Int32)) :=
  bd1 (r5_many M) (fun v2 =>
  (if v2 ≤ x4_15 then some (.inr x3_15)
  else bd1 (r5_of M 42 x4_15) (fun v4 =>
  (if ((v4 >>> (x2_4 &&& 31)) &&& 1) = 1 then bd1 (r5_slotsOf M x4_15) (fun v7 =>
  (some (x3_15 ||| v7)).bind fun v8 =>
  some (.inl (v8, (x4_15 + 1))))
  else (some (x3_15 ||| 0)).bind fun v6 =>
  some (.inl (v6, (x4_15 + 1)))))))
def r5_gaps_b62 (M : OS) (x2_4 : Int32) (x3_x15 : Int32) (x1_62 : Int32) (x4_62 : Int32) : Option ((Int32 × Int32) ⊕ (Int32)) :=
  (if 10 ≤ x4_62 then some (.inr x1_62)
  else (some (31 <<< (((x4_62 / 5) * 5) &&& 31))).bind fun v10 =>
  (some ((x3_x15 &&& v10) &&& ((1 <<< (x4_62 &&& 31)) - 1))).bind fun v11 =>
  (some ((x3_x15 &&& v10) &&& (((1 <<< ((x4_62 + 1) &&& 31)) - 1) ^^^ (-1)))).bind fun v12 =>
  (if ((x3_x15 >>> (x4_62 &&& 31)) &&& 1) = 0 then (if v11 = 0 then some (.inl ((x1_62 + 0), (x4_62 + 1)))
  else (if v12 = 0 then some (.inl ((x1_62 + 0), (x4_62 + 1)))
  else some (.inl ((x1_62 + 1), (x4_62 + 1)))))
  else some (.inl ((x1_62 + 0), (x4_62 + 1)))))
def r5_gaps_b4 (M : OS) (x1_4 : Int32) (x2_4 : Int32) : Option ((Int32 × Int32) ⊕ (Int32)) :=
  (if 6 ≤ x2_4 then some (.inr x1_4)
  else bd1 (it2 (r5_gaps_b15 M x1_4 x2_4) 200 0 0) (fun x3_x15 => bd1 (it2 (r5_gaps_b62 M x2_4 x3_x15) 200 x1_4 0) (fun x1_x62 => some (.inl (x1_x62, (x2_4 + 1))))))
def r5_gaps (M : OS) : Option Int32 :=
  bd1 (it2 (r5_gaps_b4 M) 200 0 0) (fun x1_x4 => some x1_x4)
theorem yv_X5_gaps : gYV yX5_gaps cX5_gaps 8 (some .int) 0 := ⟨u_6_222, u_sp_58, u_1_7, u_6_223, ⟨by decide +kernel, by decide +kernel, by decide +kernel⟩, by decide⟩
set_option maxHeartbeats 4000000 in
set_option maxRecDepth 100000 in
theorem c5_gaps (l : Launch) {γ : GA} {sz : Nat} {T P X Y B M : OS} {E : Nat → OS} {O : Nat → Int64} {r0 : Int32} (h : r5_gaps M = some r0) : Met l yX5_gaps (gU yX5_gaps cX5_gaps 8 (some .int)) (gR 3 0 0) (gPc γ [.ref (ad γ 23)] sz (T, P, X, Y, E, B, M, O)) (gQi γ r0 sz (T, P, X, Y, E, B, M, O)) 0 0 (gA γ sz) := by
  refine g_met (fun sz => gQi γ r0 sz (T, P, X, Y, E, B, M, O)) (by decide) (Nat.le_of_ble_eq_true rfl) ?_
  intro p e s m args below meth c ls hC hP hS hl
  have hx := hC.x
  have hb := hC.b
  have hl : lv_has ls 8 [(0, .ref (ad γ 23))] := hl
  unfold r5_gaps at h
  refine lv_iconst (v := 0) hx hb dX5_gaps_0 (by decide) ?_
  refine lv_istore_n (lv' := [(1, .int 0), (0, .ref (ad γ 23))]) hx hb dX5_gaps_1 rfl hl (by decide) rfl (fun ls hl => ?_)
  refine lv_iconst (v := 0) hx hb dX5_gaps_2 (by decide) ?_
  refine lv_istore_n (lv' := [(2, .int 0), (1, .int 0), (0, .ref (ad γ 23))]) hx hb dX5_gaps_3 rfl hl (by decide) rfl (fun ls hl => ?_)
  have L4 := it2_W (r5_gaps_b4 M) (fun (x1_4 : Int32) (x2_4 : Int32) => ∀ (H : Heap) (locs : List Loc) (ls : Array Slot), va_P γ.1 vwCl (gw γ (T, P, X, Y, E, B, M, O)) H → va_S (gA γ s.heap.size) s.heap H locs → lv_has ls 8 [(0, .ref (ad γ 23)), (1, .int x1_4), (2, .int x2_4)] → W p l e (gR 3 0 0) s m args below meth c H locs 0 0 (MQ below (gQi γ r0 s.heap.size (T, P, X, Y, E, B, M, O)) args s 0 0 (gA γ s.heap.size)) (F0 m 4 ls [])) (fun (r_k : Int32) => (∀ (x1_x4 : Int32), r_k = x1_x4 → ∀ (H : Heap) (locs : List Loc) (ls : Array Slot), va_P γ.1 vwCl (gw γ (T, P, X, Y, E, B, M, O)) H → va_S (gA γ s.heap.size) s.heap H locs → lv_has ls 8 [(1, .int x1_x4)] → W p l e (gR 3 0 0) s m args below meth c H locs 0 0 (MQ below (gQi γ r0 s.heap.size (T, P, X, Y, E, B, M, O)) args s 0 0 (gA γ s.heap.size)) (F0 m 149 ls []))) (by
    intro x1_4 x2_4 o_4 h kS kR H locs ls hP hS hl
    unfold r5_gaps_b4 at h
    refine lv_iload_n hx hb dX5_gaps_4 rfl (lv_at hl 2 rfl) ?_
    refine lv_bipush (v := 6) hx hb dX5_gaps_5 (by decide) ?_
    refine lv_icmp_ge (tgt := 149) hx hb dX5_gaps_7 (by decide) (fun c1 => ?_) (fun c1 => ?_)
    · rw [if_pos c1] at h
      cases h
      exact kR _ rfl _ rfl _ _ _ hP hS (lv_sub hl [1] rfl)
    · rw [if_neg c1] at h
      refine lv_iconst (v := 0) hx hb dX5_gaps_10 (by decide) ?_
      refine lv_istore_n (lv' := [(3, .int 0), (0, .ref (ad γ 23)), (1, .int x1_4), (2, .int x2_4)]) hx hb dX5_gaps_11 rfl hl (by decide) rfl (fun ls hl => ?_)
      refine lv_iconst (v := 0) hx hb dX5_gaps_12 (by decide) ?_
      refine lv_istore (lv' := [(4, .int 0), (3, .int 0), (0, .ref (ad γ 23)), (1, .int x1_4), (2, .int x2_4)]) hx hb dX5_gaps_13 hl (by decide) rfl (fun ls hl => ?_)
      have L15 := it2_W (r5_gaps_b15 M x1_4 x2_4) (fun (x3_15 : Int32) (x4_15 : Int32) => ∀ (H : Heap) (locs : List Loc) (ls : Array Slot), va_P γ.1 vwCl (gw γ (T, P, X, Y, E, B, M, O)) H → va_S (gA γ s.heap.size) s.heap H locs → lv_has ls 8 [(0, .ref (ad γ 23)), (1, .int x1_4), (2, .int x2_4), (3, .int x3_15), (4, .int x4_15)] → W p l e (gR 3 0 0) s m args below meth c H locs 0 0 (MQ below (gQi γ r0 s.heap.size (T, P, X, Y, E, B, M, O)) args s 0 0 (gA γ s.heap.size)) (F0 m 15 ls [])) (fun (r_k : Int32) => (∀ (x3_x15 : Int32), r_k = x3_x15 → ∀ (H : Heap) (locs : List Loc) (ls : Array Slot), va_P γ.1 vwCl (gw γ (T, P, X, Y, E, B, M, O)) H → va_S (gA γ s.heap.size) s.heap H locs → lv_has ls 8 [(0, .ref (ad γ 23)), (1, .int x1_4), (2, .int x2_4), (3, .int x3_x15)] → W p l e (gR 3 0 0) s m args below meth c H locs 0 0 (MQ below (gQi γ r0 s.heap.size (T, P, X, Y, E, B, M, O)) args s 0 0 (gA γ s.heap.size)) (F0 m 59 ls []))) (by
        intro x3_15 x4_15 o_15 h kS kR H locs ls hP hS hl
        unfold r5_gaps_b15 at h
        refine lv_iload hx hb dX5_gaps_15 (lv_at hl 4 rfl) ?_
        refine lv_aload_n hx hb dX5_gaps_17 rfl (lv_at hl 0 rfl) ?_
        obtain ⟨v2, hv, h⟩ := bd1_e h
        refine g_ki (g_runV (As := []) (rest := [.int x4_15]) hC hP (c5_many l hv) (by decide) ge_23 rfl u_5_225 yv_X5_many (Nat.le_of_ble_eq_true rfl) rfl hl.1 rfl (Nat.le_of_ble_eq_true rfl) dX5_gaps_18 ⟨by decide, by decide⟩) hS (fun H locs hP hS => ?_)
        refine lv_icmp_ge (tgt := 59) hx hb dX5_gaps_21 (by decide) (fun c3 => ?_) (fun c3 => ?_)
        · rw [if_pos c3] at h
          cases h
          exact kR _ rfl _ rfl _ _ _ hP hS (lv_sub hl [0, 1, 2, 3] rfl)
        · rw [if_neg c3] at h
          refine lv_iload_n hx hb dX5_gaps_24 rfl (lv_at hl 3 rfl) ?_
          refine lv_aload_n hx hb dX5_gaps_25 rfl (lv_at hl 0 rfl) ?_
          refine lv_bipush (v := 42) hx hb dX5_gaps_26 (by decide) ?_
          refine lv_iload hx hb dX5_gaps_28 (lv_at hl 4 rfl) ?_
          obtain ⟨v4, hv, h⟩ := bd1_e h
          refine g_ki (g_runV (As := [.int 42, .int x4_15]) (rest := [.int x3_15]) hC hP (c5_of l hv) (by decide) ge_23 rfl u_5_229 yv_X5_of (Nat.le_of_ble_eq_true rfl) rfl hl.1 rfl (Nat.le_of_ble_eq_true rfl) dX5_gaps_30 ⟨by decide, by decide⟩) hS (fun H locs hP hS => ?_)
          refine lv_iload_n hx hb dX5_gaps_33 rfl (lv_at hl 2 rfl) ?_
          refine lv_ishr hx hb dX5_gaps_34 ?_
          refine lv_iconst (v := 1) hx hb dX5_gaps_35 (by decide) ?_
          refine lv_iand hx hb dX5_gaps_36 ?_
          refine lv_iconst (v := 1) hx hb dX5_gaps_37 (by decide) ?_
          refine lv_icmp_ne (tgt := 50) hx hb dX5_gaps_38 (by decide) (fun c5 => ?_) (fun c5 => ?_)
          · rw [if_neg c5] at h
            refine lv_iconst (v := 0) hx hb dX5_gaps_50 (by decide) ?_
            refine lv_ior hx hb dX5_gaps_51 ?_
            obtain ⟨v6, hv, h⟩ := ob h
            refine lv_topi (fun y9 ey9 => ?_)
            obtain rfl : v6 = y9 := (Option.some.inj hv).symm.trans ey9.symm
            clear hv ey9
            refine lv_istore_n (lv' := [(3, .int v6), (0, .ref (ad γ 23)), (1, .int x1_4), (2, .int x2_4), (4, .int x4_15)]) hx hb dX5_gaps_52 rfl hl (by decide) rfl (fun ls hl => ?_)
            refine lv_iinc (v := (x4_15 + 1)) (lv' := [(4, .int (x4_15 + 1)), (3, .int v6), (0, .ref (ad γ 23)), (1, .int x1_4), (2, .int x2_4)]) hx hb dX5_gaps_53 hl (k := 4) rfl rfl (by decide) rfl (fun ls hl => ?_)
            refine lv_goto (tgt := 15) hx hb dX5_gaps_56 (by decide) ?_
            cases h
            exact kS _ _ rfl _ _ _ hP hS (lv_sub hl [2, 3, 4, 1, 0] rfl)
          · rw [if_pos c5] at h
            refine lv_aload_n hx hb dX5_gaps_41 rfl (lv_at hl 0 rfl) ?_
            refine lv_iload hx hb dX5_gaps_42 (lv_at hl 4 rfl) ?_
            obtain ⟨v7, hv, h⟩ := bd1_e h
            refine g_ki (g_runV (As := [.int x4_15]) (rest := [.int x3_15]) hC hP (c5_slotsOf l hv) (by decide) ge_23 rfl u_6_15 yv_X5_slotsOf (Nat.le_of_ble_eq_true rfl) rfl hl.1 rfl (Nat.le_of_ble_eq_true rfl) dX5_gaps_44 ⟨by decide, by decide⟩) hS (fun H locs hP hS => ?_)
            refine lv_goto (tgt := 51) hx hb dX5_gaps_47 (by decide) ?_
            refine lv_ior hx hb dX5_gaps_51 ?_
            obtain ⟨v8, hv, h⟩ := ob h
            refine lv_topi (fun y9 ey9 => ?_)
            obtain rfl : v8 = y9 := (Option.some.inj hv).symm.trans ey9.symm
            clear hv ey9
            refine lv_istore_n (lv' := [(3, .int v8), (0, .ref (ad γ 23)), (1, .int x1_4), (2, .int x2_4), (4, .int x4_15)]) hx hb dX5_gaps_52 rfl hl (by decide) rfl (fun ls hl => ?_)
            refine lv_iinc (v := (x4_15 + 1)) (lv' := [(4, .int (x4_15 + 1)), (3, .int v8), (0, .ref (ad γ 23)), (1, .int x1_4), (2, .int x2_4)]) hx hb dX5_gaps_53 hl (k := 4) rfl rfl (by decide) rfl (fun ls hl => ?_)
            refine lv_goto (tgt := 15) hx hb dX5_gaps_56 (by decide) ?_
            cases h
            exact kS _ _ rfl _ _ _ hP hS (lv_sub hl [2, 3, 4, 1, 0] rfl))
      obtain ⟨x3_x15, hv, h⟩ := bd1_e h
      refine L15 _ _ _ _ hv (fun q0 e9 H locs ls hP hS hl => ?_) _ _ _ hP hS (lv_sub hl [2, 3, 4, 1, 0] rfl)
      obtain rfl := e9
      refine lv_iconst (v := 0) hx hb dX5_gaps_59 (by decide) ?_
      refine lv_istore (lv' := [(4, .int 0), (0, .ref (ad γ 23)), (1, .int x1_4), (2, .int x2_4), (3, .int x3_x15)]) hx hb dX5_gaps_60 hl (by decide) rfl (fun ls hl => ?_)
      have L62 := it2_W (r5_gaps_b62 M x2_4 x3_x15) (fun (x1_62 : Int32) (x4_62 : Int32) => ∀ (H : Heap) (locs : List Loc) (ls : Array Slot), va_P γ.1 vwCl (gw γ (T, P, X, Y, E, B, M, O)) H → va_S (gA γ s.heap.size) s.heap H locs → lv_has ls 8 [(0, .ref (ad γ 23)), (1, .int x1_62), (2, .int x2_4), (3, .int x3_x15), (4, .int x4_62)] → W p l e (gR 3 0 0) s m args below meth c H locs 0 0 (MQ below (gQi γ r0 s.heap.size (T, P, X, Y, E, B, M, O)) args s 0 0 (gA γ s.heap.size)) (F0 m 62 ls [])) (fun (r_k : Int32) => (∀ (x1_x62 : Int32), r_k = x1_x62 → ∀ (H : Heap) (locs : List Loc) (ls : Array Slot), va_P γ.1 vwCl (gw γ (T, P, X, Y, E, B, M, O)) H → va_S (gA γ s.heap.size) s.heap H locs → lv_has ls 8 [(0, .ref (ad γ 23)), (1, .int x1_x62), (2, .int x2_4)] → W p l e (gR 3 0 0) s m args below meth c H locs 0 0 (MQ below (gQi γ r0 s.heap.size (T, P, X, Y, E, B, M, O)) args s 0 0 (gA γ s.heap.size)) (F0 m 143 ls []))) (by
        intro x1_62 x4_62 o_62 h kS kR H locs ls hP hS hl
        unfold r5_gaps_b62 at h
        refine lv_iload hx hb dX5_gaps_62 (lv_at hl 4 rfl) ?_
        refine lv_bipush (v := 10) hx hb dX5_gaps_64 (by decide) ?_
        refine lv_icmp_ge (tgt := 143) hx hb dX5_gaps_66 (by decide) (fun c9 => ?_) (fun c9 => ?_)
        · rw [if_pos c9] at h
          cases h
          exact kR _ rfl _ rfl _ _ _ hP hS (lv_sub hl [0, 1, 2] rfl)
        · rw [if_neg c9] at h
          refine lv_bipush (v := 31) hx hb dX5_gaps_69 (by decide) ?_
          refine lv_iload hx hb dX5_gaps_71 (lv_at hl 4 rfl) ?_
          refine lv_iconst (v := 5) hx hb dX5_gaps_73 (by decide) ?_
          refine lv_idiv hx hb dX5_gaps_74 (by decide) ?_
          refine lv_iconst (v := 5) hx hb dX5_gaps_75 (by decide) ?_
          refine lv_imul hx hb dX5_gaps_76 ?_
          refine lv_ishl hx hb dX5_gaps_77 ?_
          obtain ⟨v10, hv, h⟩ := ob h
          refine lv_topi (fun y9 ey9 => ?_)
          obtain rfl : v10 = y9 := (Option.some.inj hv).symm.trans ey9.symm
          clear hv ey9
          refine lv_istore (lv' := [(5, .int v10), (0, .ref (ad γ 23)), (1, .int x1_62), (2, .int x2_4), (3, .int x3_x15), (4, .int x4_62)]) hx hb dX5_gaps_78 hl (by decide) rfl (fun ls hl => ?_)
          refine lv_iload_n hx hb dX5_gaps_80 rfl (lv_at hl 4 rfl) ?_
          refine lv_iload hx hb dX5_gaps_81 (lv_at hl 0 rfl) ?_
          refine lv_iand hx hb dX5_gaps_83 ?_
          refine lv_iconst (v := 1) hx hb dX5_gaps_84 (by decide) ?_
          refine lv_iload hx hb dX5_gaps_85 (lv_at hl 5 rfl) ?_
          refine lv_ishl hx hb dX5_gaps_87 ?_
          refine lv_iconst (v := 1) hx hb dX5_gaps_88 (by decide) ?_
          refine lv_isub hx hb dX5_gaps_89 ?_
          refine lv_iand hx hb dX5_gaps_90 ?_
          obtain ⟨v11, hv, h⟩ := ob h
          refine lv_topi (fun y9 ey9 => ?_)
          obtain rfl : v11 = y9 := (Option.some.inj hv).symm.trans ey9.symm
          clear hv ey9
          refine lv_istore (lv' := [(6, .int v11), (5, .int v10), (0, .ref (ad γ 23)), (1, .int x1_62), (2, .int x2_4), (3, .int x3_x15), (4, .int x4_62)]) hx hb dX5_gaps_91 hl (by decide) rfl (fun ls hl => ?_)
          refine lv_iload_n hx hb dX5_gaps_93 rfl (lv_at hl 5 rfl) ?_
          refine lv_iload hx hb dX5_gaps_94 (lv_at hl 1 rfl) ?_
          refine lv_iand hx hb dX5_gaps_96 ?_
          refine lv_iconst (v := 1) hx hb dX5_gaps_97 (by decide) ?_
          refine lv_iload hx hb dX5_gaps_98 (lv_at hl 6 rfl) ?_
          refine lv_iconst (v := 1) hx hb dX5_gaps_100 (by decide) ?_
          refine lv_iadd hx hb dX5_gaps_101 ?_
          refine lv_ishl hx hb dX5_gaps_102 ?_
          refine lv_iconst (v := 1) hx hb dX5_gaps_103 (by decide) ?_
          refine lv_isub hx hb dX5_gaps_104 ?_
          refine lv_iconst (v := -1) hx hb dX5_gaps_105 (by decide) ?_
          refine lv_ixor hx hb dX5_gaps_106 ?_
          refine lv_iand hx hb dX5_gaps_107 ?_
          obtain ⟨v12, hv, h⟩ := ob h
          refine lv_topi (fun y9 ey9 => ?_)
          obtain rfl : v12 = y9 := (Option.some.inj hv).symm.trans ey9.symm
          clear hv ey9
          refine lv_istore (lv' := [(7, .int v12), (6, .int v11), (5, .int v10), (0, .ref (ad γ 23)), (1, .int x1_62), (2, .int x2_4), (3, .int x3_x15), (4, .int x4_62)]) hx hb dX5_gaps_108 hl (by decide) rfl (fun ls hl => ?_)
          refine lv_iload_n hx hb dX5_gaps_110 rfl (lv_at hl 4 rfl) ?_
          refine lv_iload_n hx hb dX5_gaps_111 rfl (lv_at hl 6 rfl) ?_
          refine lv_iload hx hb dX5_gaps_112 (lv_at hl 7 rfl) ?_
          refine lv_ishr hx hb dX5_gaps_114 ?_
          refine lv_iconst (v := 1) hx hb dX5_gaps_115 (by decide) ?_
          refine lv_iand hx hb dX5_gaps_116 ?_
          refine lv_if_ne (tgt := 134) hx hb dX5_gaps_117 (by decide) (fun c13 => ?_) (fun c13 => ?_)
          · rw [if_neg c13] at h
            refine lv_iconst (v := 0) hx hb dX5_gaps_134 (by decide) ?_
            refine lv_iadd hx hb dX5_gaps_135 ?_
            refine lv_istore_n (lv' := [(1, .int (x1_62 + 0)), (7, .int v12), (6, .int v11), (5, .int v10), (0, .ref (ad γ 23)), (2, .int x2_4), (3, .int x3_x15), (4, .int x4_62)]) hx hb dX5_gaps_136 rfl hl (by decide) rfl (fun ls hl => ?_)
            refine lv_iinc (v := (x4_62 + 1)) (lv' := [(4, .int (x4_62 + 1)), (1, .int (x1_62 + 0)), (7, .int v12), (6, .int v11), (5, .int v10), (0, .ref (ad γ 23)), (2, .int x2_4), (3, .int x3_x15)]) hx hb dX5_gaps_137 hl (k := 7) rfl rfl (by decide) rfl (fun ls hl => ?_)
            refine lv_goto (tgt := 62) hx hb dX5_gaps_140 (by decide) ?_
            cases h
            exact kS _ _ rfl _ _ _ hP hS (lv_sub hl [5, 1, 6, 7, 0] rfl)
          · rw [if_pos c13] at h
            refine lv_iload hx hb dX5_gaps_120 (lv_at hl 1 rfl) ?_
            refine lv_if_eq (tgt := 134) hx hb dX5_gaps_122 (by decide) (fun c14 => ?_) (fun c14 => ?_)
            · rw [if_pos c14] at h
              refine lv_iconst (v := 0) hx hb dX5_gaps_134 (by decide) ?_
              refine lv_iadd hx hb dX5_gaps_135 ?_
              refine lv_istore_n (lv' := [(1, .int (x1_62 + 0)), (7, .int v12), (6, .int v11), (5, .int v10), (0, .ref (ad γ 23)), (2, .int x2_4), (3, .int x3_x15), (4, .int x4_62)]) hx hb dX5_gaps_136 rfl hl (by decide) rfl (fun ls hl => ?_)
              refine lv_iinc (v := (x4_62 + 1)) (lv' := [(4, .int (x4_62 + 1)), (1, .int (x1_62 + 0)), (7, .int v12), (6, .int v11), (5, .int v10), (0, .ref (ad γ 23)), (2, .int x2_4), (3, .int x3_x15)]) hx hb dX5_gaps_137 hl (k := 7) rfl rfl (by decide) rfl (fun ls hl => ?_)
              refine lv_goto (tgt := 62) hx hb dX5_gaps_140 (by decide) ?_
              cases h
              exact kS _ _ rfl _ _ _ hP hS (lv_sub hl [5, 1, 6, 7, 0] rfl)
            · rw [if_neg c14] at h
              refine lv_iload hx hb dX5_gaps_125 (lv_at hl 0 rfl) ?_
              refine lv_if_eq (tgt := 134) hx hb dX5_gaps_127 (by decide) (fun c15 => ?_) (fun c15 => ?_)
              · rw [if_pos c15] at h
                refine lv_iconst (v := 0) hx hb dX5_gaps_134 (by decide) ?_
                refine lv_iadd hx hb dX5_gaps_135 ?_
                refine lv_istore_n (lv' := [(1, .int (x1_62 + 0)), (7, .int v12), (6, .int v11), (5, .int v10), (0, .ref (ad γ 23)), (2, .int x2_4), (3, .int x3_x15), (4, .int x4_62)]) hx hb dX5_gaps_136 rfl hl (by decide) rfl (fun ls hl => ?_)
                refine lv_iinc (v := (x4_62 + 1)) (lv' := [(4, .int (x4_62 + 1)), (1, .int (x1_62 + 0)), (7, .int v12), (6, .int v11), (5, .int v10), (0, .ref (ad γ 23)), (2, .int x2_4), (3, .int x3_x15)]) hx hb dX5_gaps_137 hl (k := 7) rfl rfl (by decide) rfl (fun ls hl => ?_)
                refine lv_goto (tgt := 62) hx hb dX5_gaps_140 (by decide) ?_
                cases h
                exact kS _ _ rfl _ _ _ hP hS (lv_sub hl [5, 1, 6, 7, 0] rfl)
              · rw [if_neg c15] at h
                refine lv_iconst (v := 1) hx hb dX5_gaps_130 (by decide) ?_
                refine lv_goto (tgt := 135) hx hb dX5_gaps_131 (by decide) ?_
                refine lv_iadd hx hb dX5_gaps_135 ?_
                refine lv_istore_n (lv' := [(1, .int (x1_62 + 1)), (7, .int v12), (6, .int v11), (5, .int v10), (0, .ref (ad γ 23)), (2, .int x2_4), (3, .int x3_x15), (4, .int x4_62)]) hx hb dX5_gaps_136 rfl hl (by decide) rfl (fun ls hl => ?_)
                refine lv_iinc (v := (x4_62 + 1)) (lv' := [(4, .int (x4_62 + 1)), (1, .int (x1_62 + 1)), (7, .int v12), (6, .int v11), (5, .int v10), (0, .ref (ad γ 23)), (2, .int x2_4), (3, .int x3_x15)]) hx hb dX5_gaps_137 hl (k := 7) rfl rfl (by decide) rfl (fun ls hl => ?_)
                refine lv_goto (tgt := 62) hx hb dX5_gaps_140 (by decide) ?_
                cases h
                exact kS _ _ rfl _ _ _ hP hS (lv_sub hl [5, 1, 6, 7, 0] rfl))
      obtain ⟨x1_x62, hv, h⟩ := bd1_e h
      refine L62 _ _ _ _ hv (fun q0 e9 H locs ls hP hS hl => ?_) _ _ _ hP hS (lv_sub hl [1, 2, 3, 4, 0] rfl)
      obtain rfl := e9
      refine lv_iinc (v := (x2_4 + 1)) (lv' := [(2, .int (x2_4 + 1)), (0, .ref (ad γ 23)), (1, .int x1_x62)]) hx hb dX5_gaps_143 hl (k := 2) rfl rfl (by decide) rfl (fun ls hl => ?_)
      refine lv_goto (tgt := 4) hx hb dX5_gaps_146 (by decide) ?_
      cases h
      exact kS _ _ rfl _ _ _ hP hS (lv_sub hl [1, 2, 0] rfl))
  obtain ⟨x1_x4, hv, h⟩ := bd1_e h
  refine L4 _ _ _ _ hv (fun q0 e9 H locs ls hP hS hl => ?_) _ _ _ hP hS (lv_sub hl [2, 1, 0] rfl)
  obtain rfl := e9
  refine lv_iload_n hx hb dX5_gaps_149 rfl (lv_at hl 0 rfl) ?_
  cases h
  exact g_iret hC hP hS dX5_gaps_150 rfl
def r5_lates_b4 (M : OS) (x1_4 : Int32) (x2_4 : Int32) : Option ((Int32 × Int32) ⊕ (Int32)) :=
  bd1 (r5_many M) (fun v1 =>
  (if v1 ≤ x2_4 then some (.inr x1_4)
  else bd1 (r5_slotsOf M x2_4) (fun v3 =>
  (if (v3 &&& 528) = 0 then some (.inl ((x1_4 + 0), (x2_4 + 1)))
  else some (.inl ((x1_4 + 1), (x2_4 + 1)))))))
def r5_lates (M : OS) : Option Int32 :=
  bd1 (it2 (r5_lates_b4 M) 200 0 0) (fun x1_x4 => some x1_x4)
theorem yv_X5_lates : gYV yX5_lates cX5_lates 3 (some .int) 0 := ⟨u_6_226, u_sp_59, u_1_7, u_6_227, ⟨by decide +kernel, by decide +kernel, by decide +kernel⟩, by decide⟩
set_option maxHeartbeats 4000000 in
set_option maxRecDepth 100000 in
theorem c5_lates (l : Launch) {γ : GA} {sz : Nat} {T P X Y B M : OS} {E : Nat → OS} {O : Nat → Int64} {r0 : Int32} (h : r5_lates M = some r0) : Met l yX5_lates (gU yX5_lates cX5_lates 3 (some .int)) (gR 3 0 0) (gPc γ [.ref (ad γ 23)] sz (T, P, X, Y, E, B, M, O)) (gQi γ r0 sz (T, P, X, Y, E, B, M, O)) 0 0 (gA γ sz) := by
  refine g_met (fun sz => gQi γ r0 sz (T, P, X, Y, E, B, M, O)) (by decide) (Nat.le_of_ble_eq_true rfl) ?_
  intro p e s m args below meth c ls hC hP hS hl
  have hx := hC.x
  have hb := hC.b
  have hl : lv_has ls 3 [(0, .ref (ad γ 23))] := hl
  unfold r5_lates at h
  refine lv_iconst (v := 0) hx hb dX5_lates_0 (by decide) ?_
  refine lv_istore_n (lv' := [(1, .int 0), (0, .ref (ad γ 23))]) hx hb dX5_lates_1 rfl hl (by decide) rfl (fun ls hl => ?_)
  refine lv_iconst (v := 0) hx hb dX5_lates_2 (by decide) ?_
  refine lv_istore_n (lv' := [(2, .int 0), (1, .int 0), (0, .ref (ad γ 23))]) hx hb dX5_lates_3 rfl hl (by decide) rfl (fun ls hl => ?_)
  have L4 := it2_W (r5_lates_b4 M) (fun (x1_4 : Int32) (x2_4 : Int32) => ∀ (H : Heap) (locs : List Loc) (ls : Array Slot), va_P γ.1 vwCl (gw γ (T, P, X, Y, E, B, M, O)) H → va_S (gA γ s.heap.size) s.heap H locs → lv_has ls 3 [(0, .ref (ad γ 23)), (1, .int x1_4), (2, .int x2_4)] → W p l e (gR 3 0 0) s m args below meth c H locs 0 0 (MQ below (gQi γ r0 s.heap.size (T, P, X, Y, E, B, M, O)) args s 0 0 (gA γ s.heap.size)) (F0 m 4 ls [])) (fun (r_k : Int32) => (∀ (x1_x4 : Int32), r_k = x1_x4 → ∀ (H : Heap) (locs : List Loc) (ls : Array Slot), va_P γ.1 vwCl (gw γ (T, P, X, Y, E, B, M, O)) H → va_S (gA γ s.heap.size) s.heap H locs → lv_has ls 3 [(1, .int x1_x4)] → W p l e (gR 3 0 0) s m args below meth c H locs 0 0 (MQ below (gQi γ r0 s.heap.size (T, P, X, Y, E, B, M, O)) args s 0 0 (gA γ s.heap.size)) (F0 m 38 ls []))) (by
    intro x1_4 x2_4 o_4 h kS kR H locs ls hP hS hl
    unfold r5_lates_b4 at h
    refine lv_iload_n hx hb dX5_lates_4 rfl (lv_at hl 2 rfl) ?_
    refine lv_aload_n hx hb dX5_lates_5 rfl (lv_at hl 0 rfl) ?_
    obtain ⟨v1, hv, h⟩ := bd1_e h
    refine g_ki (g_runV (As := []) (rest := [.int x2_4]) hC hP (c5_many l hv) (by decide) ge_23 rfl u_5_225 yv_X5_many (Nat.le_of_ble_eq_true rfl) rfl hl.1 rfl (Nat.le_of_ble_eq_true rfl) dX5_lates_6 ⟨by decide, by decide⟩) hS (fun H locs hP hS => ?_)
    refine lv_icmp_ge (tgt := 38) hx hb dX5_lates_9 (by decide) (fun c2 => ?_) (fun c2 => ?_)
    · rw [if_pos c2] at h
      cases h
      exact kR _ rfl _ rfl _ _ _ hP hS (lv_sub hl [1] rfl)
    · rw [if_neg c2] at h
      refine lv_iload_n hx hb dX5_lates_12 rfl (lv_at hl 1 rfl) ?_
      refine lv_aload_n hx hb dX5_lates_13 rfl (lv_at hl 0 rfl) ?_
      refine lv_iload_n hx hb dX5_lates_14 rfl (lv_at hl 2 rfl) ?_
      obtain ⟨v3, hv, h⟩ := bd1_e h
      refine g_ki (g_runV (As := [.int x2_4]) (rest := [.int x1_4]) hC hP (c5_slotsOf l hv) (by decide) ge_23 rfl u_6_15 yv_X5_slotsOf (Nat.le_of_ble_eq_true rfl) rfl hl.1 rfl (Nat.le_of_ble_eq_true rfl) dX5_lates_15 ⟨by decide, by decide⟩) hS (fun H locs hP hS => ?_)
      refine lv_sipush (v := 528) hx hb dX5_lates_18 (by decide) ?_
      refine lv_iand hx hb dX5_lates_21 ?_
      refine lv_if_eq (tgt := 29) hx hb dX5_lates_22 (by decide) (fun c4 => ?_) (fun c4 => ?_)
      · rw [if_pos c4] at h
        refine lv_iconst (v := 0) hx hb dX5_lates_29 (by decide) ?_
        refine lv_iadd hx hb dX5_lates_30 ?_
        refine lv_istore_n (lv' := [(1, .int (x1_4 + 0)), (0, .ref (ad γ 23)), (2, .int x2_4)]) hx hb dX5_lates_31 rfl hl (by decide) rfl (fun ls hl => ?_)
        refine lv_iinc (v := (x2_4 + 1)) (lv' := [(2, .int (x2_4 + 1)), (1, .int (x1_4 + 0)), (0, .ref (ad γ 23))]) hx hb dX5_lates_32 hl (k := 2) rfl rfl (by decide) rfl (fun ls hl => ?_)
        refine lv_goto (tgt := 4) hx hb dX5_lates_35 (by decide) ?_
        cases h
        exact kS _ _ rfl _ _ _ hP hS (lv_sub hl [2, 1, 0] rfl)
      · rw [if_neg c4] at h
        refine lv_iconst (v := 1) hx hb dX5_lates_25 (by decide) ?_
        refine lv_goto (tgt := 30) hx hb dX5_lates_26 (by decide) ?_
        refine lv_iadd hx hb dX5_lates_30 ?_
        refine lv_istore_n (lv' := [(1, .int (x1_4 + 1)), (0, .ref (ad γ 23)), (2, .int x2_4)]) hx hb dX5_lates_31 rfl hl (by decide) rfl (fun ls hl => ?_)
        refine lv_iinc (v := (x2_4 + 1)) (lv' := [(2, .int (x2_4 + 1)), (1, .int (x1_4 + 1)), (0, .ref (ad γ 23))]) hx hb dX5_lates_32 hl (k := 2) rfl rfl (by decide) rfl (fun ls hl => ?_)
        refine lv_goto (tgt := 4) hx hb dX5_lates_35 (by decide) ?_
        cases h
        exact kS _ _ rfl _ _ _ hP hS (lv_sub hl [2, 1, 0] rfl))
  obtain ⟨x1_x4, hv, h⟩ := bd1_e h
  refine L4 _ _ _ _ hv (fun q0 e9 H locs ls hP hS hl => ?_) _ _ _ hP hS (lv_sub hl [2, 1, 0] rfl)
  obtain rfl := e9
  refine lv_iload_n hx hb dX5_lates_38 rfl (lv_at hl 0 rfl) ?_
  cases h
  exact g_iret hC hP hS dX5_lates_39 rfl
def r5_slack_b4 (M : OS) (x1_4 : Int32) (x2_4 : Int32) : Option ((Int32 × Int32) ⊕ (Int32)) :=
  bd1 (r5_many M) (fun v1 =>
  (if v1 ≤ x2_4 then some (.inr x1_4)
  else bd1 (r5_of M 84 x2_4) (fun v3 =>
  (if 0 ≤ v3 then bd1 (r5_of M 84 x2_4) (fun v5 =>
  bd1 (r5_of M 0 (im v5 6)) (fun v6 =>
  bd1 (r5_of M 42 x2_4) (fun v7 =>
  bd1 (r5_sizeOf M v7) (fun v8 =>
  (some (x1_4 + ((v6 - v8) / 10))).bind fun v9 =>
  some (.inl (v9, (x2_4 + 1)))))))
  else some (.inl ((x1_4 + 0), (x2_4 + 1)))))))
def r5_slack (M : OS) : Option Int32 :=
  bd1 (it2 (r5_slack_b4 M) 200 0 0) (fun x1_x4 => some x1_x4)
theorem yv_X5_slack : gYV yX5_slack cX5_slack 3 (some .int) 0 := ⟨u_6_230, u_sp_60, u_1_7, u_6_231, ⟨by decide +kernel, by decide +kernel, by decide +kernel⟩, by decide⟩
set_option maxHeartbeats 4000000 in
set_option maxRecDepth 100000 in
theorem c5_slack (l : Launch) {γ : GA} {sz : Nat} {T P X Y B M : OS} {E : Nat → OS} {O : Nat → Int64} {r0 : Int32} (h : r5_slack M = some r0) : Met l yX5_slack (gU yX5_slack cX5_slack 3 (some .int)) (gR 2 0 0) (gPc γ [.ref (ad γ 23)] sz (T, P, X, Y, E, B, M, O)) (gQi γ r0 sz (T, P, X, Y, E, B, M, O)) 0 0 (gA γ sz) := by
  refine g_met (fun sz => gQi γ r0 sz (T, P, X, Y, E, B, M, O)) (by decide) (Nat.le_of_ble_eq_true rfl) ?_
  intro p e s m args below meth c ls hC hP hS hl
  have hx := hC.x
  have hb := hC.b
  have hl : lv_has ls 3 [(0, .ref (ad γ 23))] := hl
  unfold r5_slack at h
  refine lv_iconst (v := 0) hx hb dX5_slack_0 (by decide) ?_
  refine lv_istore_n (lv' := [(1, .int 0), (0, .ref (ad γ 23))]) hx hb dX5_slack_1 rfl hl (by decide) rfl (fun ls hl => ?_)
  refine lv_iconst (v := 0) hx hb dX5_slack_2 (by decide) ?_
  refine lv_istore_n (lv' := [(2, .int 0), (1, .int 0), (0, .ref (ad γ 23))]) hx hb dX5_slack_3 rfl hl (by decide) rfl (fun ls hl => ?_)
  have L4 := it2_W (r5_slack_b4 M) (fun (x1_4 : Int32) (x2_4 : Int32) => ∀ (H : Heap) (locs : List Loc) (ls : Array Slot), va_P γ.1 vwCl (gw γ (T, P, X, Y, E, B, M, O)) H → va_S (gA γ s.heap.size) s.heap H locs → lv_has ls 3 [(0, .ref (ad γ 23)), (1, .int x1_4), (2, .int x2_4)] → W p l e (gR 2 0 0) s m args below meth c H locs 0 0 (MQ below (gQi γ r0 s.heap.size (T, P, X, Y, E, B, M, O)) args s 0 0 (gA γ s.heap.size)) (F0 m 4 ls [])) (fun (r_k : Int32) => (∀ (x1_x4 : Int32), r_k = x1_x4 → ∀ (H : Heap) (locs : List Loc) (ls : Array Slot), va_P γ.1 vwCl (gw γ (T, P, X, Y, E, B, M, O)) H → va_S (gA γ s.heap.size) s.heap H locs → lv_has ls 3 [(1, .int x1_x4)] → W p l e (gR 2 0 0) s m args below meth c H locs 0 0 (MQ below (gQi γ r0 s.heap.size (T, P, X, Y, E, B, M, O)) args s 0 0 (gA γ s.heap.size)) (F0 m 65 ls []))) (by
    intro x1_4 x2_4 o_4 h kS kR H locs ls hP hS hl
    unfold r5_slack_b4 at h
    refine lv_iload_n hx hb dX5_slack_4 rfl (lv_at hl 2 rfl) ?_
    refine lv_aload_n hx hb dX5_slack_5 rfl (lv_at hl 0 rfl) ?_
    obtain ⟨v1, hv, h⟩ := bd1_e h
    refine g_ki (g_runV (As := []) (rest := [.int x2_4]) hC hP (c5_many l hv) (by decide) ge_23 rfl u_5_225 yv_X5_many (Nat.le_of_ble_eq_true rfl) rfl hl.1 rfl (Nat.le_of_ble_eq_true rfl) dX5_slack_6 ⟨by decide, by decide⟩) hS (fun H locs hP hS => ?_)
    refine lv_icmp_ge (tgt := 65) hx hb dX5_slack_9 (by decide) (fun c2 => ?_) (fun c2 => ?_)
    · rw [if_pos c2] at h
      cases h
      exact kR _ rfl _ rfl _ _ _ hP hS (lv_sub hl [1] rfl)
    · rw [if_neg c2] at h
      refine lv_iload_n hx hb dX5_slack_12 rfl (lv_at hl 1 rfl) ?_
      refine lv_aload_n hx hb dX5_slack_13 rfl (lv_at hl 0 rfl) ?_
      refine lv_bipush (v := 84) hx hb dX5_slack_14 (by decide) ?_
      refine lv_iload_n hx hb dX5_slack_16 rfl (lv_at hl 2 rfl) ?_
      obtain ⟨v3, hv, h⟩ := bd1_e h
      refine g_ki (g_runV (As := [.int 84, .int x2_4]) (rest := [.int x1_4]) hC hP (c5_of l hv) (by decide) ge_23 rfl u_5_229 yv_X5_of (Nat.le_of_ble_eq_true rfl) rfl hl.1 rfl (Nat.le_of_ble_eq_true rfl) dX5_slack_17 ⟨by decide, by decide⟩) hS (fun H locs hP hS => ?_)
      refine lv_if_ge (tgt := 27) hx hb dX5_slack_20 (by decide) (fun c4 => ?_) (fun c4 => ?_)
      · rw [if_pos c4] at h
        refine lv_aload_n hx hb dX5_slack_27 rfl (lv_at hl 0 rfl) ?_
        refine lv_iconst (v := 0) hx hb dX5_slack_28 (by decide) ?_
        refine lv_aload_n hx hb dX5_slack_29 rfl (lv_at hl 0 rfl) ?_
        refine lv_bipush (v := 84) hx hb dX5_slack_30 (by decide) ?_
        refine lv_iload_n hx hb dX5_slack_32 rfl (lv_at hl 2 rfl) ?_
        obtain ⟨v5, hv, h⟩ := bd1_e h
        refine g_ki (g_runV (As := [.int 84, .int x2_4]) (rest := [.int 0, .ref (ad γ 23), .int x1_4]) hC hP (c5_of l hv) (by decide) ge_23 rfl u_5_229 yv_X5_of (Nat.le_of_ble_eq_true rfl) rfl hl.1 rfl (Nat.le_of_ble_eq_true rfl) dX5_slack_33 ⟨by decide, by decide⟩) hS (fun H locs hP hS => ?_)
        refine lv_bipush (v := 6) hx hb dX5_slack_36 (by decide) ?_
        refine lv_irem hx hb dX5_slack_38 (by decide) ?_
        obtain ⟨v6, hv, h⟩ := bd1_e h
        refine g_ki (g_runV (As := [.int 0, .int (im v5 6)]) (rest := [.int x1_4]) hC hP (c5_of l hv) (by decide) ge_23 rfl u_5_229 yv_X5_of (Nat.le_of_ble_eq_true rfl) rfl hl.1 rfl (Nat.le_of_ble_eq_true rfl) dX5_slack_39 ⟨by decide, by decide⟩) hS (fun H locs hP hS => ?_)
        refine lv_aload_n hx hb dX5_slack_42 rfl (lv_at hl 0 rfl) ?_
        refine lv_aload_n hx hb dX5_slack_43 rfl (lv_at hl 0 rfl) ?_
        refine lv_bipush (v := 42) hx hb dX5_slack_44 (by decide) ?_
        refine lv_iload_n hx hb dX5_slack_46 rfl (lv_at hl 2 rfl) ?_
        obtain ⟨v7, hv, h⟩ := bd1_e h
        refine g_ki (g_runV (As := [.int 42, .int x2_4]) (rest := [.ref (ad γ 23), .int v6, .int x1_4]) hC hP (c5_of l hv) (by decide) ge_23 rfl u_5_229 yv_X5_of (Nat.le_of_ble_eq_true rfl) rfl hl.1 rfl (Nat.le_of_ble_eq_true rfl) dX5_slack_47 ⟨by decide, by decide⟩) hS (fun H locs hP hS => ?_)
        obtain ⟨v8, hv, h⟩ := bd1_e h
        refine g_ki (g_runV (As := [.int v7]) (rest := [.int v6, .int x1_4]) hC hP (c5_sizeOf l hv) (by decide) ge_23 rfl u_6_7 yv_X5_sizeOf (Nat.le_of_ble_eq_true rfl) rfl hl.1 rfl (Nat.le_of_ble_eq_true rfl) dX5_slack_50 ⟨by decide, by decide⟩) hS (fun H locs hP hS => ?_)
        refine lv_isub hx hb dX5_slack_53 ?_
        refine lv_bipush (v := 10) hx hb dX5_slack_54 (by decide) ?_
        refine lv_idiv hx hb dX5_slack_56 (by decide) ?_
        refine lv_iadd hx hb dX5_slack_57 ?_
        obtain ⟨v9, hv, h⟩ := ob h
        refine lv_topi (fun y9 ey9 => ?_)
        obtain rfl : v9 = y9 := (Option.some.inj hv).symm.trans ey9.symm
        clear hv ey9
        refine lv_istore_n (lv' := [(1, .int v9), (0, .ref (ad γ 23)), (2, .int x2_4)]) hx hb dX5_slack_58 rfl hl (by decide) rfl (fun ls hl => ?_)
        refine lv_iinc (v := (x2_4 + 1)) (lv' := [(2, .int (x2_4 + 1)), (1, .int v9), (0, .ref (ad γ 23))]) hx hb dX5_slack_59 hl (k := 2) rfl rfl (by decide) rfl (fun ls hl => ?_)
        refine lv_goto (tgt := 4) hx hb dX5_slack_62 (by decide) ?_
        cases h
        exact kS _ _ rfl _ _ _ hP hS (lv_sub hl [2, 1, 0] rfl)
      · rw [if_neg c4] at h
        refine lv_iconst (v := 0) hx hb dX5_slack_23 (by decide) ?_
        refine lv_goto (tgt := 57) hx hb dX5_slack_24 (by decide) ?_
        refine lv_iadd hx hb dX5_slack_57 ?_
        refine lv_istore_n (lv' := [(1, .int (x1_4 + 0)), (0, .ref (ad γ 23)), (2, .int x2_4)]) hx hb dX5_slack_58 rfl hl (by decide) rfl (fun ls hl => ?_)
        refine lv_iinc (v := (x2_4 + 1)) (lv' := [(2, .int (x2_4 + 1)), (1, .int (x1_4 + 0)), (0, .ref (ad γ 23))]) hx hb dX5_slack_59 hl (k := 2) rfl rfl (by decide) rfl (fun ls hl => ?_)
        refine lv_goto (tgt := 4) hx hb dX5_slack_62 (by decide) ?_
        cases h
        exact kS _ _ rfl _ _ _ hP hS (lv_sub hl [2, 1, 0] rfl))
  obtain ⟨x1_x4, hv, h⟩ := bd1_e h
  refine L4 _ _ _ _ hv (fun q0 e9 H locs ls hP hS hl => ?_) _ _ _ hP hS (lv_sub hl [2, 1, 0] rfl)
  obtain rfl := e9
  refine lv_iload_n hx hb dX5_slack_65 rfl (lv_at hl 0 rfl) ?_
  cases h
  exact g_iret hC hP hS dX5_slack_66 rfl
def r5_unplaced_b4 (M : OS) (x1_4 : Int32) (x2_4 : Int32) : Option ((Int32 × Int32) ⊕ (Int32)) :=
  bd1 (r5_many M) (fun v1 =>
  (if v1 ≤ x2_4 then some (.inr x1_4)
  else bd1 (r5_of M 84 x2_4) (fun v3 =>
  (if 0 ≤ v3 then some (.inl ((x1_4 + 0), (x2_4 + 1)))
  else some (.inl ((x1_4 + 1), (x2_4 + 1)))))))
def r5_unplaced (M : OS) : Option Int32 :=
  bd1 (it2 (r5_unplaced_b4 M) 200 0 0) (fun x1_x4 => some x1_x4)
theorem yv_X5_unplaced : gYV yX5_unplaced cX5_unplaced 3 (some .int) 0 := ⟨u_6_234, u_sp_61, u_1_7, u_6_235, ⟨by decide +kernel, by decide +kernel, by decide +kernel⟩, by decide⟩
set_option maxHeartbeats 4000000 in
set_option maxRecDepth 100000 in
theorem c5_unplaced (l : Launch) {γ : GA} {sz : Nat} {T P X Y B M : OS} {E : Nat → OS} {O : Nat → Int64} {r0 : Int32} (h : r5_unplaced M = some r0) : Met l yX5_unplaced (gU yX5_unplaced cX5_unplaced 3 (some .int)) (gR 1 0 0) (gPc γ [.ref (ad γ 23)] sz (T, P, X, Y, E, B, M, O)) (gQi γ r0 sz (T, P, X, Y, E, B, M, O)) 0 0 (gA γ sz) := by
  refine g_met (fun sz => gQi γ r0 sz (T, P, X, Y, E, B, M, O)) (by decide) (Nat.le_of_ble_eq_true rfl) ?_
  intro p e s m args below meth c ls hC hP hS hl
  have hx := hC.x
  have hb := hC.b
  have hl : lv_has ls 3 [(0, .ref (ad γ 23))] := hl
  unfold r5_unplaced at h
  refine lv_iconst (v := 0) hx hb dX5_unplaced_0 (by decide) ?_
  refine lv_istore_n (lv' := [(1, .int 0), (0, .ref (ad γ 23))]) hx hb dX5_unplaced_1 rfl hl (by decide) rfl (fun ls hl => ?_)
  refine lv_iconst (v := 0) hx hb dX5_unplaced_2 (by decide) ?_
  refine lv_istore_n (lv' := [(2, .int 0), (1, .int 0), (0, .ref (ad γ 23))]) hx hb dX5_unplaced_3 rfl hl (by decide) rfl (fun ls hl => ?_)
  have L4 := it2_W (r5_unplaced_b4 M) (fun (x1_4 : Int32) (x2_4 : Int32) => ∀ (H : Heap) (locs : List Loc) (ls : Array Slot), va_P γ.1 vwCl (gw γ (T, P, X, Y, E, B, M, O)) H → va_S (gA γ s.heap.size) s.heap H locs → lv_has ls 3 [(0, .ref (ad γ 23)), (1, .int x1_4), (2, .int x2_4)] → W p l e (gR 1 0 0) s m args below meth c H locs 0 0 (MQ below (gQi γ r0 s.heap.size (T, P, X, Y, E, B, M, O)) args s 0 0 (gA γ s.heap.size)) (F0 m 4 ls [])) (fun (r_k : Int32) => (∀ (x1_x4 : Int32), r_k = x1_x4 → ∀ (H : Heap) (locs : List Loc) (ls : Array Slot), va_P γ.1 vwCl (gw γ (T, P, X, Y, E, B, M, O)) H → va_S (gA γ s.heap.size) s.heap H locs → lv_has ls 3 [(1, .int x1_x4)] → W p l e (gR 1 0 0) s m args below meth c H locs 0 0 (MQ below (gQi γ r0 s.heap.size (T, P, X, Y, E, B, M, O)) args s 0 0 (gA γ s.heap.size)) (F0 m 36 ls []))) (by
    intro x1_4 x2_4 o_4 h kS kR H locs ls hP hS hl
    unfold r5_unplaced_b4 at h
    refine lv_iload_n hx hb dX5_unplaced_4 rfl (lv_at hl 2 rfl) ?_
    refine lv_aload_n hx hb dX5_unplaced_5 rfl (lv_at hl 0 rfl) ?_
    obtain ⟨v1, hv, h⟩ := bd1_e h
    refine g_ki (g_runV (As := []) (rest := [.int x2_4]) hC hP (c5_many l hv) (by decide) ge_23 rfl u_5_225 yv_X5_many (Nat.le_of_ble_eq_true rfl) rfl hl.1 rfl (Nat.le_of_ble_eq_true rfl) dX5_unplaced_6 ⟨by decide, by decide⟩) hS (fun H locs hP hS => ?_)
    refine lv_icmp_ge (tgt := 36) hx hb dX5_unplaced_9 (by decide) (fun c2 => ?_) (fun c2 => ?_)
    · rw [if_pos c2] at h
      cases h
      exact kR _ rfl _ rfl _ _ _ hP hS (lv_sub hl [1] rfl)
    · rw [if_neg c2] at h
      refine lv_iload_n hx hb dX5_unplaced_12 rfl (lv_at hl 1 rfl) ?_
      refine lv_aload_n hx hb dX5_unplaced_13 rfl (lv_at hl 0 rfl) ?_
      refine lv_bipush (v := 84) hx hb dX5_unplaced_14 (by decide) ?_
      refine lv_iload_n hx hb dX5_unplaced_16 rfl (lv_at hl 2 rfl) ?_
      obtain ⟨v3, hv, h⟩ := bd1_e h
      refine g_ki (g_runV (As := [.int 84, .int x2_4]) (rest := [.int x1_4]) hC hP (c5_of l hv) (by decide) ge_23 rfl u_5_229 yv_X5_of (Nat.le_of_ble_eq_true rfl) rfl hl.1 rfl (Nat.le_of_ble_eq_true rfl) dX5_unplaced_17 ⟨by decide, by decide⟩) hS (fun H locs hP hS => ?_)
      refine lv_if_ge (tgt := 27) hx hb dX5_unplaced_20 (by decide) (fun c4 => ?_) (fun c4 => ?_)
      · rw [if_pos c4] at h
        refine lv_iconst (v := 0) hx hb dX5_unplaced_27 (by decide) ?_
        refine lv_iadd hx hb dX5_unplaced_28 ?_
        refine lv_istore_n (lv' := [(1, .int (x1_4 + 0)), (0, .ref (ad γ 23)), (2, .int x2_4)]) hx hb dX5_unplaced_29 rfl hl (by decide) rfl (fun ls hl => ?_)
        refine lv_iinc (v := (x2_4 + 1)) (lv' := [(2, .int (x2_4 + 1)), (1, .int (x1_4 + 0)), (0, .ref (ad γ 23))]) hx hb dX5_unplaced_30 hl (k := 2) rfl rfl (by decide) rfl (fun ls hl => ?_)
        refine lv_goto (tgt := 4) hx hb dX5_unplaced_33 (by decide) ?_
        cases h
        exact kS _ _ rfl _ _ _ hP hS (lv_sub hl [2, 1, 0] rfl)
      · rw [if_neg c4] at h
        refine lv_iconst (v := 1) hx hb dX5_unplaced_23 (by decide) ?_
        refine lv_goto (tgt := 28) hx hb dX5_unplaced_24 (by decide) ?_
        refine lv_iadd hx hb dX5_unplaced_28 ?_
        refine lv_istore_n (lv' := [(1, .int (x1_4 + 1)), (0, .ref (ad γ 23)), (2, .int x2_4)]) hx hb dX5_unplaced_29 rfl hl (by decide) rfl (fun ls hl => ?_)
        refine lv_iinc (v := (x2_4 + 1)) (lv' := [(2, .int (x2_4 + 1)), (1, .int (x1_4 + 1)), (0, .ref (ad γ 23))]) hx hb dX5_unplaced_30 hl (k := 2) rfl rfl (by decide) rfl (fun ls hl => ?_)
        refine lv_goto (tgt := 4) hx hb dX5_unplaced_33 (by decide) ?_
        cases h
        exact kS _ _ rfl _ _ _ hP hS (lv_sub hl [2, 1, 0] rfl))
  obtain ⟨x1_x4, hv, h⟩ := bd1_e h
  refine L4 _ _ _ _ hv (fun q0 e9 H locs ls hP hS hl => ?_) _ _ _ hP hS (lv_sub hl [2, 1, 0] rfl)
  obtain rfl := e9
  refine lv_iload_n hx hb dX5_unplaced_36 rfl (lv_at hl 0 rfl) ?_
  cases h
  exact g_iret hC hP hS dX5_unplaced_37 rfl
def r5_costs (M : OS) : Option Int32 :=
  bd1 (r5_of M 24 0) (fun v1 =>
  bd1 (r5_gaps M) (fun v2 =>
  bd1 (r5_of M 24 1) (fun v3 =>
  bd1 (r5_lates M) (fun v4 =>
  bd1 (r5_of M 24 2) (fun v5 =>
  bd1 (r5_slack M) (fun v6 =>
  bd1 (r5_unplaced M) (fun v7 =>
  some ((((v1 * v2) + (v3 * v4)) + (v5 * v6)) + (100 * v7)))))))))
theorem yv_X5_costs : gYV yX5_costs cX5_costs 1 (some .int) 0 := ⟨u_6_238, u_sp_62, u_1_7, u_6_239, ⟨by decide +kernel, by decide +kernel, by decide +kernel⟩, by decide⟩
set_option maxHeartbeats 4000000 in
set_option maxRecDepth 100000 in
theorem c5_costs (l : Launch) {γ : GA} {sz : Nat} {T P X Y B M : OS} {E : Nat → OS} {O : Nat → Int64} {r0 : Int32} (h : r5_costs M = some r0) : Met l yX5_costs (gU yX5_costs cX5_costs 1 (some .int)) (gR 4 0 0) (gPc γ [.ref (ad γ 23)] sz (T, P, X, Y, E, B, M, O)) (gQi γ r0 sz (T, P, X, Y, E, B, M, O)) 0 0 (gA γ sz) := by
  refine g_met (fun sz => gQi γ r0 sz (T, P, X, Y, E, B, M, O)) (by decide) (Nat.le_of_ble_eq_true rfl) ?_
  intro p e s m args below meth c ls hC hP hS hl
  have hx := hC.x
  have hb := hC.b
  have hl : lv_has ls 1 [(0, .ref (ad γ 23))] := hl
  unfold r5_costs at h
  refine lv_aload_n hx hb dX5_costs_0 rfl (lv_at hl 0 rfl) ?_
  refine lv_bipush (v := 24) hx hb dX5_costs_1 (by decide) ?_
  refine lv_iconst (v := 0) hx hb dX5_costs_3 (by decide) ?_
  obtain ⟨v1, hv, h⟩ := bd1_e h
  refine g_ki (g_runV (As := [.int 24, .int 0]) (rest := []) hC hP (c5_of l hv) (by decide) ge_23 rfl u_5_229 yv_X5_of (Nat.le_of_ble_eq_true rfl) rfl hl.1 rfl (Nat.le_of_ble_eq_true rfl) dX5_costs_4 ⟨by decide, by decide⟩) hS (fun H locs hP hS => ?_)
  refine lv_aload_n hx hb dX5_costs_7 rfl (lv_at hl 0 rfl) ?_
  obtain ⟨v2, hv, h⟩ := bd1_e h
  refine g_ki (g_runV (As := []) (rest := [.int v1]) hC hP (c5_gaps l hv) (by decide) ge_23 rfl u_6_220 yv_X5_gaps (Nat.le_of_ble_eq_true rfl) rfl hl.1 rfl (Nat.le_of_ble_eq_true rfl) dX5_costs_8 ⟨by decide, by decide⟩) hS (fun H locs hP hS => ?_)
  refine lv_imul hx hb dX5_costs_11 ?_
  refine lv_aload_n hx hb dX5_costs_12 rfl (lv_at hl 0 rfl) ?_
  refine lv_bipush (v := 24) hx hb dX5_costs_13 (by decide) ?_
  refine lv_iconst (v := 1) hx hb dX5_costs_15 (by decide) ?_
  obtain ⟨v3, hv, h⟩ := bd1_e h
  refine g_ki (g_runV (As := [.int 24, .int 1]) (rest := [.int (v1 * v2)]) hC hP (c5_of l hv) (by decide) ge_23 rfl u_5_229 yv_X5_of (Nat.le_of_ble_eq_true rfl) rfl hl.1 rfl (Nat.le_of_ble_eq_true rfl) dX5_costs_16 ⟨by decide, by decide⟩) hS (fun H locs hP hS => ?_)
  refine lv_aload_n hx hb dX5_costs_19 rfl (lv_at hl 0 rfl) ?_
  obtain ⟨v4, hv, h⟩ := bd1_e h
  refine g_ki (g_runV (As := []) (rest := [.int v3, .int (v1 * v2)]) hC hP (c5_lates l hv) (by decide) ge_23 rfl u_6_224 yv_X5_lates (Nat.le_of_ble_eq_true rfl) rfl hl.1 rfl (Nat.le_of_ble_eq_true rfl) dX5_costs_20 ⟨by decide, by decide⟩) hS (fun H locs hP hS => ?_)
  refine lv_imul hx hb dX5_costs_23 ?_
  refine lv_iadd hx hb dX5_costs_24 ?_
  refine lv_aload_n hx hb dX5_costs_25 rfl (lv_at hl 0 rfl) ?_
  refine lv_bipush (v := 24) hx hb dX5_costs_26 (by decide) ?_
  refine lv_iconst (v := 2) hx hb dX5_costs_28 (by decide) ?_
  obtain ⟨v5, hv, h⟩ := bd1_e h
  refine g_ki (g_runV (As := [.int 24, .int 2]) (rest := [.int ((v1 * v2) + (v3 * v4))]) hC hP (c5_of l hv) (by decide) ge_23 rfl u_5_229 yv_X5_of (Nat.le_of_ble_eq_true rfl) rfl hl.1 rfl (Nat.le_of_ble_eq_true rfl) dX5_costs_29 ⟨by decide, by decide⟩) hS (fun H locs hP hS => ?_)
  refine lv_aload_n hx hb dX5_costs_32 rfl (lv_at hl 0 rfl) ?_
  obtain ⟨v6, hv, h⟩ := bd1_e h
  refine g_ki (g_runV (As := []) (rest := [.int v5, .int ((v1 * v2) + (v3 * v4))]) hC hP (c5_slack l hv) (by decide) ge_23 rfl u_6_228 yv_X5_slack (Nat.le_of_ble_eq_true rfl) rfl hl.1 rfl (Nat.le_of_ble_eq_true rfl) dX5_costs_33 ⟨by decide, by decide⟩) hS (fun H locs hP hS => ?_)
  refine lv_imul hx hb dX5_costs_36 ?_
  refine lv_iadd hx hb dX5_costs_37 ?_
  refine lv_bipush (v := 100) hx hb dX5_costs_38 (by decide) ?_
  refine lv_aload_n hx hb dX5_costs_40 rfl (lv_at hl 0 rfl) ?_
  obtain ⟨v7, hv, h⟩ := bd1_e h
  refine g_ki (g_runV (As := []) (rest := [.int 100, .int (((v1 * v2) + (v3 * v4)) + (v5 * v6))]) hC hP (c5_unplaced l hv) (by decide) ge_23 rfl u_6_232 yv_X5_unplaced (Nat.le_of_ble_eq_true rfl) rfl hl.1 rfl (Nat.le_of_ble_eq_true rfl) dX5_costs_41 ⟨by decide, by decide⟩) hS (fun H locs hP hS => ?_)
  refine lv_imul hx hb dX5_costs_44 ?_
  refine lv_iadd hx hb dX5_costs_45 ?_
  cases h
  exact g_iret hC hP hS dX5_costs_46 rfl
def r5_cost_j15 (M_15 : OS) (x1 : Int32) (s0_15 : Int32)  : Option (Int32 × OS) :=
  (sw M_15 0 s0_15).bind fun M1 =>
  (if (M1 0 0) = 0 then (if x1 = 0 then bd1 (r5_gaps M1) (fun v11 =>
  some (v11, M1))
  else (if x1 = 1 then bd1 (r5_lates M1) (fun v10 =>
  some (v10, M1))
  else (if x1 = 2 then bd1 (r5_slack M1) (fun v9 =>
  some (v9, M1))
  else (if x1 = 3 then bd1 (r5_unplaced M1) (fun v8 =>
  some (v8, M1))
  else bd1 (r5_costs M1) (fun v7 =>
  some (v7, M1))))))
  else some (0, M1))
def r5_cost (M : OS) (x1 : Int32) : Option (Int32 × OS) :=
  bd1 (r5_in x1 0 4) (fun v12 =>
  (if v12 = 0 then r5_cost_j15 M x1 1
  else r5_cost_j15 M x1 0))
theorem yv_X5_cost : gYV yX5_cost cX5_cost 2 (some .int) 1 := ⟨u_6_217, u_6_218, u_1_7, u_6_219, ⟨by decide +kernel, by decide +kernel, by decide +kernel⟩, by decide⟩
set_option maxHeartbeats 4000000 in
set_option maxRecDepth 100000 in
theorem c5_cost (l : Launch) {γ : GA} {sz : Nat} {T P X Y B M : OS} {E : Nat → OS} {O : Nat → Int64} {x1 : Int32} {r0 : Int32} {Mz : OS} (h : r5_cost M x1 = some (r0, Mz)) : Met l yX5_cost (gU yX5_cost cX5_cost 2 (some .int)) (gR 5 0 0) (gPc γ [.ref (ad γ 23), .int x1] sz (T, P, X, Y, E, B, M, O)) (gQi γ r0 sz (T, P, X, Y, E, B, Mz, O)) 0 0 (gA γ sz) := by
  refine g_met (fun sz => gQi γ r0 sz (T, P, X, Y, E, B, Mz, O)) (by decide) (Nat.le_of_ble_eq_true rfl) ?_
  intro p e s m args below meth c ls hC hP hS hl
  have hx := hC.x
  have hb := hC.b
  have hl : lv_has ls 2 [(0, .ref (ad γ 23)), (1, .int x1)] := hl
  unfold r5_cost at h
  have J15 : ∀ (M_15 : OS) (s0_15 : Int32) (h : r5_cost_j15 M_15 x1 s0_15 = some (r0, Mz)), ∀ (H : Heap) (locs : List Loc) (ls : Array Slot), va_P γ.1 vwCl (gw γ (T, P, X, Y, E, B, M_15, O)) H → va_S (gA γ s.heap.size) s.heap H locs → lv_has ls 2 [(0, .ref (ad γ 23)), (1, .int x1)] → W p l e (gR 5 0 0) s m args below meth c H locs 0 0 (MQ below (gQi γ r0 s.heap.size (T, P, X, Y, E, B, Mz, O)) args s 0 0 (gA γ s.heap.size)) (F0 m 15 ls [.int s0_15, .ref (ad γ 23)]) := by
    intro M_15 s0_15 h H locs ls hP hS hl
    unfold r5_cost_j15 at h
    obtain ⟨M1, hv, h⟩ := ob h
    refine g_putI hC hP hS (fun Z => (T, P, X, Y, E, B, Z, O)) 0 tyX5 dX5_cost_15 (by decide) ge_23 rfl inX5 tyX5_ok nmX5 (by decide) u_5_154 rfl rfl (Nat.le_of_ble_eq_true rfl) gp_23_0 hv (fun H locs hP hS => ?_)
    refine lv_aload_n hx hb dX5_cost_18 rfl (lv_at hl 0 rfl) ?_
    refine g_get hC hP 0 dX5_cost_19 (by decide) ge_23 rfl inX5 (by decide) rfl u_5_154 ?_
    refine lv_if_eq (tgt := 27) hx hb dX5_cost_22 (by decide) (fun c2 => ?_) (fun c2 => ?_)
    · rw [if_pos c2] at h
      refine lv_iload_n hx hb dX5_cost_27 rfl (lv_at hl 1 rfl) ?_
      refine lv_if_ne (tgt := 38) hx hb dX5_cost_28 (by decide) (fun c3 => ?_) (fun c3 => ?_)
      · rw [if_neg c3] at h
        refine lv_iload_n hx hb dX5_cost_38 rfl (lv_at hl 1 rfl) ?_
        refine lv_iconst (v := 1) hx hb dX5_cost_39 (by decide) ?_
        refine lv_icmp_ne (tgt := 50) hx hb dX5_cost_40 (by decide) (fun c4 => ?_) (fun c4 => ?_)
        · rw [if_neg c4] at h
          refine lv_iload_n hx hb dX5_cost_50 rfl (lv_at hl 1 rfl) ?_
          refine lv_iconst (v := 2) hx hb dX5_cost_51 (by decide) ?_
          refine lv_icmp_ne (tgt := 62) hx hb dX5_cost_52 (by decide) (fun c5 => ?_) (fun c5 => ?_)
          · rw [if_neg c5] at h
            refine lv_iload_n hx hb dX5_cost_62 rfl (lv_at hl 1 rfl) ?_
            refine lv_iconst (v := 3) hx hb dX5_cost_63 (by decide) ?_
            refine lv_icmp_ne (tgt := 74) hx hb dX5_cost_64 (by decide) (fun c6 => ?_) (fun c6 => ?_)
            · rw [if_neg c6] at h
              refine lv_aload_n hx hb dX5_cost_74 rfl (lv_at hl 0 rfl) ?_
              obtain ⟨v7, hv, h⟩ := bd1_e h
              refine g_ki (g_runV (As := []) (rest := []) hC hP (c5_costs l hv) (by decide) ge_23 rfl u_6_236 yv_X5_costs (Nat.le_of_ble_eq_true rfl) rfl hl.1 rfl (Nat.le_of_ble_eq_true rfl) dX5_cost_75 ⟨by decide, by decide⟩) hS (fun H locs hP hS => ?_)
              cases h
              exact g_iret hC hP hS dX5_cost_78 rfl
            · rw [if_pos c6] at h
              refine lv_aload_n hx hb dX5_cost_67 rfl (lv_at hl 0 rfl) ?_
              obtain ⟨v8, hv, h⟩ := bd1_e h
              refine g_ki (g_runV (As := []) (rest := []) hC hP (c5_unplaced l hv) (by decide) ge_23 rfl u_6_232 yv_X5_unplaced (Nat.le_of_ble_eq_true rfl) rfl hl.1 rfl (Nat.le_of_ble_eq_true rfl) dX5_cost_68 ⟨by decide, by decide⟩) hS (fun H locs hP hS => ?_)
              refine lv_goto (tgt := 78) hx hb dX5_cost_71 (by decide) ?_
              cases h
              exact g_iret hC hP hS dX5_cost_78 rfl
          · rw [if_pos c5] at h
            refine lv_aload_n hx hb dX5_cost_55 rfl (lv_at hl 0 rfl) ?_
            obtain ⟨v9, hv, h⟩ := bd1_e h
            refine g_ki (g_runV (As := []) (rest := []) hC hP (c5_slack l hv) (by decide) ge_23 rfl u_6_228 yv_X5_slack (Nat.le_of_ble_eq_true rfl) rfl hl.1 rfl (Nat.le_of_ble_eq_true rfl) dX5_cost_56 ⟨by decide, by decide⟩) hS (fun H locs hP hS => ?_)
            refine lv_goto (tgt := 78) hx hb dX5_cost_59 (by decide) ?_
            cases h
            exact g_iret hC hP hS dX5_cost_78 rfl
        · rw [if_pos c4] at h
          refine lv_aload_n hx hb dX5_cost_43 rfl (lv_at hl 0 rfl) ?_
          obtain ⟨v10, hv, h⟩ := bd1_e h
          refine g_ki (g_runV (As := []) (rest := []) hC hP (c5_lates l hv) (by decide) ge_23 rfl u_6_224 yv_X5_lates (Nat.le_of_ble_eq_true rfl) rfl hl.1 rfl (Nat.le_of_ble_eq_true rfl) dX5_cost_44 ⟨by decide, by decide⟩) hS (fun H locs hP hS => ?_)
          refine lv_goto (tgt := 78) hx hb dX5_cost_47 (by decide) ?_
          cases h
          exact g_iret hC hP hS dX5_cost_78 rfl
      · rw [if_pos c3] at h
        refine lv_aload_n hx hb dX5_cost_31 rfl (lv_at hl 0 rfl) ?_
        obtain ⟨v11, hv, h⟩ := bd1_e h
        refine g_ki (g_runV (As := []) (rest := []) hC hP (c5_gaps l hv) (by decide) ge_23 rfl u_6_220 yv_X5_gaps (Nat.le_of_ble_eq_true rfl) rfl hl.1 rfl (Nat.le_of_ble_eq_true rfl) dX5_cost_32 ⟨by decide, by decide⟩) hS (fun H locs hP hS => ?_)
        refine lv_goto (tgt := 78) hx hb dX5_cost_35 (by decide) ?_
        cases h
        exact g_iret hC hP hS dX5_cost_78 rfl
    · rw [if_neg c2] at h
      refine lv_iconst (v := 0) hx hb dX5_cost_25 (by decide) ?_
      cases h
      exact g_iret hC hP hS dX5_cost_26 rfl
  refine lv_aload_n hx hb dX5_cost_0 rfl (lv_at hl 0 rfl) ?_
  refine lv_iload_n hx hb dX5_cost_1 rfl (lv_at hl 1 rfl) ?_
  refine lv_iconst (v := 0) hx hb dX5_cost_2 (by decide) ?_
  refine lv_iconst (v := 4) hx hb dX5_cost_3 (by decide) ?_
  obtain ⟨v12, hv, h⟩ := bd1_e h
  refine g_ki (g_runS (As := [.int x1, .int 0, .int 4]) (rest := [.ref (ad γ 23)]) hC hP (c5_in l hv) u_5_210 yv_X5_in (Nat.le_of_ble_eq_true rfl) rfl hl.1 rfl (Nat.le_of_ble_eq_true rfl) dX5_cost_4 ⟨by decide, by decide⟩) hS (fun H locs hP hS => ?_)
  refine lv_if_eq (tgt := 14) hx hb dX5_cost_7 (by decide) (fun c13 => ?_) (fun c13 => ?_)
  · rw [if_pos c13] at h
    refine lv_iconst (v := 1) hx hb dX5_cost_14 (by decide) ?_
    exact J15 M 1 h _ _ _ hP hS (lv_sub hl [0, 1] rfl)
  · rw [if_neg c13] at h
    refine lv_iconst (v := 0) hx hb dX5_cost_10 (by decide) ?_
    refine lv_goto (tgt := 15) hx hb dX5_cost_11 (by decide) ?_
    exact J15 M 0 h _ _ _ hP hS (lv_sub hl [0, 1] rfl)
def r5_costsAt (M : OS) (x1 : Int32) (x2 : Int32) : Option (Int32 × OS) :=
  bd1 (r5_of M 84 x1) (fun v1 =>
  bd1 (r5_lays M x1 x2) (fun M2 =>
  bd1 (r5_costs M2) (fun v3 =>
  bd1 (r5_lays M2 x1 v1) (fun M4 =>
  some (v3, M4)))))
theorem yv_X5_costsAt : gYV yX5_costsAt cX5_costsAt 5 (some .int) 2 := ⟨u_7_6, u_sp_63, u_1_7, u_7_7, ⟨by decide +kernel, by decide +kernel, by decide +kernel⟩, by decide⟩
set_option maxHeartbeats 4000000 in
set_option maxRecDepth 100000 in
theorem c5_costsAt (l : Launch) {γ : GA} {sz : Nat} {T P X Y B M : OS} {E : Nat → OS} {O : Nat → Int64} {x1 : Int32} {x2 : Int32} {r0 : Int32} {Mz : OS} (h : r5_costsAt M x1 x2 = some (r0, Mz)) : Met l yX5_costsAt (gU yX5_costsAt cX5_costsAt 5 (some .int)) (gR 5 0 0) (gPc γ [.ref (ad γ 23), .int x1, .int x2] sz (T, P, X, Y, E, B, M, O)) (gQi γ r0 sz (T, P, X, Y, E, B, Mz, O)) 0 0 (gA γ sz) := by
  refine g_met (fun sz => gQi γ r0 sz (T, P, X, Y, E, B, Mz, O)) (by decide) (Nat.le_of_ble_eq_true rfl) ?_
  intro p e s m args below meth c ls hC hP hS hl
  have hx := hC.x
  have hb := hC.b
  have hl : lv_has ls 5 [(0, .ref (ad γ 23)), (1, .int x1), (2, .int x2)] := hl
  unfold r5_costsAt at h
  refine lv_aload_n hx hb dX5_costsAt_0 rfl (lv_at hl 0 rfl) ?_
  refine lv_bipush (v := 84) hx hb dX5_costsAt_1 (by decide) ?_
  refine lv_iload_n hx hb dX5_costsAt_3 rfl (lv_at hl 1 rfl) ?_
  obtain ⟨v1, hv, h⟩ := bd1_e h
  refine g_ki (g_runV (As := [.int 84, .int x1]) (rest := []) hC hP (c5_of l hv) (by decide) ge_23 rfl u_5_229 yv_X5_of (Nat.le_of_ble_eq_true rfl) rfl hl.1 rfl (Nat.le_of_ble_eq_true rfl) dX5_costsAt_4 ⟨by decide, by decide⟩) hS (fun H locs hP hS => ?_)
  refine lv_istore_n (lv' := [(3, .int v1), (0, .ref (ad γ 23)), (1, .int x1), (2, .int x2)]) hx hb dX5_costsAt_7 rfl hl (by decide) rfl (fun ls hl => ?_)
  refine lv_aload_n hx hb dX5_costsAt_8 rfl (lv_at hl 1 rfl) ?_
  refine lv_iload_n hx hb dX5_costsAt_9 rfl (lv_at hl 2 rfl) ?_
  refine lv_iload_n hx hb dX5_costsAt_10 rfl (lv_at hl 3 rfl) ?_
  obtain ⟨M2, hv, h⟩ := bd1_e h
  refine g_kv (g_runV (As := [.int x1, .int x2]) (rest := []) hC hP (c5_lays l hv) (by decide) ge_23 rfl u_6_98 yv_X5_lays (Nat.le_of_ble_eq_true rfl) rfl hl.1 rfl (Nat.le_of_ble_eq_true rfl) dX5_costsAt_11 ⟨by decide, by decide⟩) hS (fun H locs hP hS => ?_)
  refine lv_aload_n hx hb dX5_costsAt_14 rfl (lv_at hl 1 rfl) ?_
  obtain ⟨v3, hv, h⟩ := bd1_e h
  refine g_ki (g_runV (As := []) (rest := []) hC hP (c5_costs l hv) (by decide) ge_23 rfl u_6_236 yv_X5_costs (Nat.le_of_ble_eq_true rfl) rfl hl.1 rfl (Nat.le_of_ble_eq_true rfl) dX5_costsAt_15 ⟨by decide, by decide⟩) hS (fun H locs hP hS => ?_)
  refine lv_istore (lv' := [(4, .int v3), (3, .int v1), (0, .ref (ad γ 23)), (1, .int x1), (2, .int x2)]) hx hb dX5_costsAt_18 hl (by decide) rfl (fun ls hl => ?_)
  refine lv_aload_n hx hb dX5_costsAt_20 rfl (lv_at hl 2 rfl) ?_
  refine lv_iload_n hx hb dX5_costsAt_21 rfl (lv_at hl 3 rfl) ?_
  refine lv_iload_n hx hb dX5_costsAt_22 rfl (lv_at hl 1 rfl) ?_
  obtain ⟨M4, hv, h⟩ := bd1_e h
  refine g_kv (g_runV (As := [.int x1, .int v1]) (rest := []) hC hP (c5_lays l hv) (by decide) ge_23 rfl u_6_98 yv_X5_lays (Nat.le_of_ble_eq_true rfl) rfl hl.1 rfl (Nat.le_of_ble_eq_true rfl) dX5_costsAt_23 ⟨by decide, by decide⟩) hS (fun H locs hP hS => ?_)
  refine lv_iload hx hb dX5_costsAt_26 (lv_at hl 0 rfl) ?_
  cases h
  exact g_iret hC hP hS dX5_costsAt_28 rfl
def r5_costAt_j34 (M_34 : OS) (x1 : Int32) (x2 : Int32) (s0_34 : Int32)  : Option (Int32 × OS) :=
  (sw M_34 0 s0_34).bind fun M1 =>
  (if (M1 0 0) = 0 then bd2 (r5_costsAt M1 x1 x2) (fun v3 M4 =>
  some (v3, M4))
  else some (0, M1))
def r5_costAt (M : OS) (x1 : Int32) (x2 : Int32) : Option (Int32 × OS) :=
  bd1 (r5_isEvent M x1) (fun v5 =>
  (if v5 = 0 then r5_costAt_j34 M x1 x2 1
  else bd1 (r5_isPlace x2) (fun v7 =>
  (if v7 = 0 then r5_costAt_j34 M x1 x2 1
  else bd1 (r5_obstacleOf M x1 x2) (fun v9 =>
  (if v9 = 0 then r5_costAt_j34 M x1 x2 0
  else r5_costAt_j34 M x1 x2 2))))))
theorem yv_X5_costAt : gYV yX5_costAt cX5_costAt 3 (some .int) 2 := ⟨u_7_1, u_7_2, u_1_7, u_7_3, ⟨by decide +kernel, by decide +kernel, by decide +kernel⟩, by decide⟩
set_option maxHeartbeats 4000000 in
set_option maxRecDepth 100000 in
theorem c5_costAt (l : Launch) {γ : GA} {sz : Nat} {T P X Y B M : OS} {E : Nat → OS} {O : Nat → Int64} {x1 : Int32} {x2 : Int32} {r0 : Int32} {Mz : OS} (h : r5_costAt M x1 x2 = some (r0, Mz)) : Met l yX5_costAt (gU yX5_costAt cX5_costAt 3 (some .int)) (gR 6 0 0) (gPc γ [.ref (ad γ 23), .int x1, .int x2] sz (T, P, X, Y, E, B, M, O)) (gQi γ r0 sz (T, P, X, Y, E, B, Mz, O)) 0 0 (gA γ sz) := by
  refine g_met (fun sz => gQi γ r0 sz (T, P, X, Y, E, B, Mz, O)) (by decide) (Nat.le_of_ble_eq_true rfl) ?_
  intro p e s m args below meth c ls hC hP hS hl
  have hx := hC.x
  have hb := hC.b
  have hl : lv_has ls 3 [(0, .ref (ad γ 23)), (1, .int x1), (2, .int x2)] := hl
  unfold r5_costAt at h
  have J34 : ∀ (M_34 : OS) (s0_34 : Int32) (h : r5_costAt_j34 M_34 x1 x2 s0_34 = some (r0, Mz)), ∀ (H : Heap) (locs : List Loc) (ls : Array Slot), va_P γ.1 vwCl (gw γ (T, P, X, Y, E, B, M_34, O)) H → va_S (gA γ s.heap.size) s.heap H locs → lv_has ls 3 [(0, .ref (ad γ 23)), (1, .int x1), (2, .int x2)] → W p l e (gR 6 0 0) s m args below meth c H locs 0 0 (MQ below (gQi γ r0 s.heap.size (T, P, X, Y, E, B, Mz, O)) args s 0 0 (gA γ s.heap.size)) (F0 m 34 ls [.int s0_34, .ref (ad γ 23)]) := by
    intro M_34 s0_34 h H locs ls hP hS hl
    unfold r5_costAt_j34 at h
    obtain ⟨M1, hv, h⟩ := ob h
    refine g_putI hC hP hS (fun Z => (T, P, X, Y, E, B, Z, O)) 0 tyX5 dX5_costAt_34 (by decide) ge_23 rfl inX5 tyX5_ok nmX5 (by decide) u_5_154 rfl rfl (Nat.le_of_ble_eq_true rfl) gp_23_0 hv (fun H locs hP hS => ?_)
    refine lv_aload_n hx hb dX5_costAt_37 rfl (lv_at hl 0 rfl) ?_
    refine g_get hC hP 0 dX5_costAt_38 (by decide) ge_23 rfl inX5 (by decide) rfl u_5_154 ?_
    refine lv_if_ne (tgt := 53) hx hb dX5_costAt_41 (by decide) (fun c2 => ?_) (fun c2 => ?_)
    · rw [if_neg c2] at h
      refine lv_iconst (v := 0) hx hb dX5_costAt_53 (by decide) ?_
      cases h
      exact g_iret hC hP hS dX5_costAt_54 rfl
    · rw [if_pos c2] at h
      refine lv_aload_n hx hb dX5_costAt_44 rfl (lv_at hl 0 rfl) ?_
      refine lv_iload_n hx hb dX5_costAt_45 rfl (lv_at hl 1 rfl) ?_
      refine lv_iload_n hx hb dX5_costAt_46 rfl (lv_at hl 2 rfl) ?_
      obtain ⟨v3, M4, hv, h⟩ := bd2_e h
      refine g_ki (g_runV (As := [.int x1, .int x2]) (rest := []) hC hP (c5_costsAt l hv) (by decide) ge_23 rfl u_7_4 yv_X5_costsAt (Nat.le_of_ble_eq_true rfl) rfl hl.1 rfl (Nat.le_of_ble_eq_true rfl) dX5_costAt_47 ⟨by decide, by decide⟩) hS (fun H locs hP hS => ?_)
      refine lv_goto (tgt := 54) hx hb dX5_costAt_50 (by decide) ?_
      cases h
      exact g_iret hC hP hS dX5_costAt_54 rfl
  refine lv_aload_n hx hb dX5_costAt_0 rfl (lv_at hl 0 rfl) ?_
  refine lv_aload_n hx hb dX5_costAt_1 rfl (lv_at hl 0 rfl) ?_
  refine lv_iload_n hx hb dX5_costAt_2 rfl (lv_at hl 1 rfl) ?_
  obtain ⟨v5, hv, h⟩ := bd1_e h
  refine g_ki (g_runV (As := [.int x1]) (rest := [.ref (ad γ 23)]) hC hP (c5_isEvent l hv) (by decide) ge_23 rfl u_6_71 yv_X5_isEvent (Nat.le_of_ble_eq_true rfl) rfl hl.1 rfl (Nat.le_of_ble_eq_true rfl) dX5_costAt_3 ⟨by decide, by decide⟩) hS (fun H locs hP hS => ?_)
  refine lv_if_eq (tgt := 16) hx hb dX5_costAt_6 (by decide) (fun c6 => ?_) (fun c6 => ?_)
  · rw [if_pos c6] at h
    refine lv_iconst (v := 1) hx hb dX5_costAt_16 (by decide) ?_
    refine lv_goto (tgt := 34) hx hb dX5_costAt_17 (by decide) ?_
    exact J34 M 1 h _ _ _ hP hS (lv_sub hl [0, 1, 2] rfl)
  · rw [if_neg c6] at h
    refine lv_iload_n hx hb dX5_costAt_9 rfl (lv_at hl 2 rfl) ?_
    obtain ⟨v7, hv, h⟩ := bd1_e h
    refine g_ki (g_runS (As := [.int x2]) (rest := [.ref (ad γ 23)]) hC hP (c5_isPlace l hv) u_6_95 yv_X5_isPlace (Nat.le_of_ble_eq_true rfl) rfl hl.1 rfl (Nat.le_of_ble_eq_true rfl) dX5_costAt_10 ⟨by decide, by decide⟩) hS (fun H locs hP hS => ?_)
    refine lv_if_ne (tgt := 20) hx hb dX5_costAt_13 (by decide) (fun c8 => ?_) (fun c8 => ?_)
    · rw [if_neg c8] at h
      refine lv_aload_n hx hb dX5_costAt_20 rfl (lv_at hl 0 rfl) ?_
      refine lv_iload_n hx hb dX5_costAt_21 rfl (lv_at hl 1 rfl) ?_
      refine lv_iload_n hx hb dX5_costAt_22 rfl (lv_at hl 2 rfl) ?_
      obtain ⟨v9, hv, h⟩ := bd1_e h
      refine g_ki (g_runV (As := [.int x1, .int x2]) (rest := [.ref (ad γ 23)]) hC hP (c5_obstacleOf l hv) (by decide) ge_23 rfl u_5_237 yv_X5_obstacleOf (Nat.le_of_ble_eq_true rfl) rfl hl.1 rfl (Nat.le_of_ble_eq_true rfl) dX5_costAt_23 ⟨by decide, by decide⟩) hS (fun H locs hP hS => ?_)
      refine lv_if_eq (tgt := 33) hx hb dX5_costAt_26 (by decide) (fun c10 => ?_) (fun c10 => ?_)
      · rw [if_pos c10] at h
        refine lv_iconst (v := 0) hx hb dX5_costAt_33 (by decide) ?_
        exact J34 M 0 h _ _ _ hP hS (lv_sub hl [0, 1, 2] rfl)
      · rw [if_neg c10] at h
        refine lv_iconst (v := 2) hx hb dX5_costAt_29 (by decide) ?_
        refine lv_goto (tgt := 34) hx hb dX5_costAt_30 (by decide) ?_
        exact J34 M 2 h _ _ _ hP hS (lv_sub hl [0, 1, 2] rfl)
    · rw [if_pos c8] at h
      refine lv_iconst (v := 1) hx hb dX5_costAt_16 (by decide) ?_
      refine lv_goto (tgt := 34) hx hb dX5_costAt_17 (by decide) ?_
      exact J34 M 1 h _ _ _ hP hS (lv_sub hl [0, 1, 2] rfl)
def r5_improves_j121 (M_121 : OS) (x2_121 : Int32)  : Option (Int32 × OS) :=
  (if x2_121 < 0 then some (0, M_121)
  else some (1, M_121))
def r5_improves_b50 (x4_12 : Int32) (M_50 : OS) (x1_50 : Int32) (x2_50 : Int32) (x3_50 : Int32) (x5_50 : Int32) : Option ((OS × Int32 × Int32 × Int32 × Int32) ⊕ (OS × Int32 × Int32 × Int32)) :=
  (if 60 ≤ x5_50 then some (.inr (M_50, x1_50, x2_50, x3_50))
  else bd1 (r5_obstacleOf M_50 x4_12 x5_50) (fun v10 =>
  (if v10 = 0 then bd2 (r5_costsAt M_50 x4_12 x5_50) (fun v12 M13 =>
  (if v12 < x1_50 then some (.inl (M13, v12, x4_12, x5_50, (x5_50 + 1)))
  else some (.inl (M13, x1_50, x2_50, x3_50, (x5_50 + 1)))))
  else some (.inl (M_50, x1_50, x2_50, x3_50, (x5_50 + 1))))))
def r5_improves_b12 (M_12 : OS) (x1_12 : Int32) (x2_12 : Int32) (x3_12 : Int32) (x4_12 : Int32) : Option ((OS × Int32 × Int32 × Int32 × Int32) ⊕ (OS × Int32 × Int32)) :=
  bd1 (r5_many M_12) (fun v3 =>
  (if v3 ≤ x4_12 then some (.inr (M_12, x2_12, x3_12))
  else bd1 (r5_of M_12 84 x4_12) (fun v5 =>
  (if v5 < 0 then some (.inl (M_12, x1_12, x2_12, x3_12, (x4_12 + 1)))
  else bd1 (r5_of M_12 98 x4_12) (fun v7 =>
  (if v7 = 1 then some (.inl (M_12, x1_12, x2_12, x3_12, (x4_12 + 1)))
  else bd4 (it5 (r5_improves_b50 x4_12) 200 M_12 x1_12 x2_12 x3_12 0) (fun M_x50 x1_x50 x2_x50 x3_x50 => some (.inl (M_x50, x1_x50, x2_x50, x3_x50, (x4_12 + 1))))))))))
def r5_improves (M : OS) : Option (Int32 × OS) :=
  bd1 (r5_costs M) (fun v2 =>
  bd3 (it5 r5_improves_b12 200 M v2 (-1) (-1) 0) (fun M_x12 x2_x12 x3_x12 => (if x2_x12 < 0 then r5_improves_j121 M_x12 x2_x12
  else bd1 (r5_lays M_x12 x2_x12 x3_x12) (fun M16 =>
  r5_improves_j121 M16 x2_x12))))
theorem yv_X5_improves : gYV yX5_improves cX5_improves 7 (some .boolean) 0 := ⟨u_7_14, u_sp_64, u_1_7, u_7_15, ⟨by decide +kernel, by decide +kernel, by decide +kernel⟩, by decide⟩
set_option maxHeartbeats 4000000 in
set_option maxRecDepth 100000 in
theorem c5_improves (l : Launch) {γ : GA} {sz : Nat} {T P X Y B M : OS} {E : Nat → OS} {O : Nat → Int64} {r0 : Int32} {Mz : OS} (h : r5_improves M = some (r0, Mz)) : Met l yX5_improves (gU yX5_improves cX5_improves 7 (some .boolean)) (gR 6 0 0) (gPc γ [.ref (ad γ 23)] sz (T, P, X, Y, E, B, M, O)) (gQi γ r0 sz (T, P, X, Y, E, B, Mz, O)) 0 0 (gA γ sz) := by
  refine g_met (fun sz => gQi γ r0 sz (T, P, X, Y, E, B, Mz, O)) (by decide) (Nat.le_of_ble_eq_true rfl) ?_
  intro p e s m args below meth c ls hC hP hS hl
  have hx := hC.x
  have hb := hC.b
  have hl : lv_has ls 7 [(0, .ref (ad γ 23))] := hl
  unfold r5_improves at h
  have J121 : ∀ (M_121 : OS) (x2_121 : Int32) (h : r5_improves_j121 M_121 x2_121 = some (r0, Mz)), ∀ (H : Heap) (locs : List Loc) (ls : Array Slot), va_P γ.1 vwCl (gw γ (T, P, X, Y, E, B, M_121, O)) H → va_S (gA γ s.heap.size) s.heap H locs → lv_has ls 7 [(2, .int x2_121)] → W p l e (gR 6 0 0) s m args below meth c H locs 0 0 (MQ below (gQi γ r0 s.heap.size (T, P, X, Y, E, B, Mz, O)) args s 0 0 (gA γ s.heap.size)) (F0 m 121 ls []) := by
    intro M_121 x2_121 h H locs ls hP hS hl
    unfold r5_improves_j121 at h
    refine lv_iload_n hx hb dX5_improves_121 rfl (lv_at hl 0 rfl) ?_
    refine lv_if_lt (tgt := 129) hx hb dX5_improves_122 (by decide) (fun c1 => ?_) (fun c1 => ?_)
    · rw [if_pos c1] at h
      refine lv_iconst (v := 0) hx hb dX5_improves_129 (by decide) ?_
      have hz : zz 0 = some 0 := rfl
      cases h
      exact g_zret hC hP hS dX5_improves_130 hz rfl
    · rw [if_neg c1] at h
      refine lv_iconst (v := 1) hx hb dX5_improves_125 (by decide) ?_
      refine lv_goto (tgt := 130) hx hb dX5_improves_126 (by decide) ?_
      have hz : zz 1 = some 1 := rfl
      cases h
      exact g_zret hC hP hS dX5_improves_130 hz rfl
  refine lv_aload_n hx hb dX5_improves_0 rfl (lv_at hl 0 rfl) ?_
  obtain ⟨v2, hv, h⟩ := bd1_e h
  refine g_ki (g_runV (As := []) (rest := []) hC hP (c5_costs l hv) (by decide) ge_23 rfl u_6_236 yv_X5_costs (Nat.le_of_ble_eq_true rfl) rfl hl.1 rfl (Nat.le_of_ble_eq_true rfl) dX5_improves_1 ⟨by decide, by decide⟩) hS (fun H locs hP hS => ?_)
  refine lv_istore_n (lv' := [(1, .int v2), (0, .ref (ad γ 23))]) hx hb dX5_improves_4 rfl hl (by decide) rfl (fun ls hl => ?_)
  refine lv_iconst (v := -1) hx hb dX5_improves_5 (by decide) ?_
  refine lv_istore_n (lv' := [(2, .int (-1)), (1, .int v2), (0, .ref (ad γ 23))]) hx hb dX5_improves_6 rfl hl (by decide) rfl (fun ls hl => ?_)
  refine lv_iconst (v := -1) hx hb dX5_improves_7 (by decide) ?_
  refine lv_istore_n (lv' := [(3, .int (-1)), (2, .int (-1)), (1, .int v2), (0, .ref (ad γ 23))]) hx hb dX5_improves_8 rfl hl (by decide) rfl (fun ls hl => ?_)
  refine lv_iconst (v := 0) hx hb dX5_improves_9 (by decide) ?_
  refine lv_istore (lv' := [(4, .int 0), (3, .int (-1)), (2, .int (-1)), (1, .int v2), (0, .ref (ad γ 23))]) hx hb dX5_improves_10 hl (by decide) rfl (fun ls hl => ?_)
  have L12 := it5_W r5_improves_b12 (fun (M_12 : OS) (x1_12 : Int32) (x2_12 : Int32) (x3_12 : Int32) (x4_12 : Int32) => ∀ (H : Heap) (locs : List Loc) (ls : Array Slot), va_P γ.1 vwCl (gw γ (T, P, X, Y, E, B, M_12, O)) H → va_S (gA γ s.heap.size) s.heap H locs → lv_has ls 7 [(0, .ref (ad γ 23)), (1, .int x1_12), (2, .int x2_12), (3, .int x3_12), (4, .int x4_12)] → W p l e (gR 6 0 0) s m args below meth c H locs 0 0 (MQ below (gQi γ r0 s.heap.size (T, P, X, Y, E, B, Mz, O)) args s 0 0 (gA γ s.heap.size)) (F0 m 12 ls [])) (fun (r_k : OS × Int32 × Int32) => (∀ (M_x12 : OS) (x2_x12 : Int32) (x3_x12 : Int32), r_k = (M_x12, x2_x12, x3_x12) → ∀ (H : Heap) (locs : List Loc) (ls : Array Slot), va_P γ.1 vwCl (gw γ (T, P, X, Y, E, B, M_x12, O)) H → va_S (gA γ s.heap.size) s.heap H locs → lv_has ls 7 [(0, .ref (ad γ 23)), (2, .int x2_x12), (3, .int x3_x12)] → W p l e (gR 6 0 0) s m args below meth c H locs 0 0 (MQ below (gQi γ r0 s.heap.size (T, P, X, Y, E, B, Mz, O)) args s 0 0 (gA γ s.heap.size)) (F0 m 111 ls []))) (by
    intro M_12 x1_12 x2_12 x3_12 x4_12 o_12 h kS kR H locs ls hP hS hl
    unfold r5_improves_b12 at h
    refine lv_iload hx hb dX5_improves_12 (lv_at hl 4 rfl) ?_
    refine lv_aload_n hx hb dX5_improves_14 rfl (lv_at hl 0 rfl) ?_
    obtain ⟨v3, hv, h⟩ := bd1_e h
    refine g_ki (g_runV (As := []) (rest := [.int x4_12]) hC hP (c5_many l hv) (by decide) ge_23 rfl u_5_225 yv_X5_many (Nat.le_of_ble_eq_true rfl) rfl hl.1 rfl (Nat.le_of_ble_eq_true rfl) dX5_improves_15 ⟨by decide, by decide⟩) hS (fun H locs hP hS => ?_)
    refine lv_icmp_ge (tgt := 111) hx hb dX5_improves_18 (by decide) (fun c4 => ?_) (fun c4 => ?_)
    · rw [if_pos c4] at h
      cases h
      exact kR _ rfl _ _ _ rfl _ _ _ hP hS (lv_sub hl [0, 2, 3] rfl)
    · rw [if_neg c4] at h
      refine lv_aload_n hx hb dX5_improves_21 rfl (lv_at hl 0 rfl) ?_
      refine lv_bipush (v := 84) hx hb dX5_improves_22 (by decide) ?_
      refine lv_iload hx hb dX5_improves_24 (lv_at hl 4 rfl) ?_
      obtain ⟨v5, hv, h⟩ := bd1_e h
      refine g_ki (g_runV (As := [.int 84, .int x4_12]) (rest := []) hC hP (c5_of l hv) (by decide) ge_23 rfl u_5_229 yv_X5_of (Nat.le_of_ble_eq_true rfl) rfl hl.1 rfl (Nat.le_of_ble_eq_true rfl) dX5_improves_26 ⟨by decide, by decide⟩) hS (fun H locs hP hS => ?_)
      refine lv_if_lt (tgt := 105) hx hb dX5_improves_29 (by decide) (fun c6 => ?_) (fun c6 => ?_)
      · rw [if_pos c6] at h
        refine lv_iinc (v := (x4_12 + 1)) (lv' := [(4, .int (x4_12 + 1)), (0, .ref (ad γ 23)), (1, .int x1_12), (2, .int x2_12), (3, .int x3_12)]) hx hb dX5_improves_105 hl (k := 4) rfl rfl (by decide) rfl (fun ls hl => ?_)
        refine lv_goto (tgt := 12) hx hb dX5_improves_108 (by decide) ?_
        cases h
        exact kS _ _ _ _ _ rfl _ _ _ hP hS (lv_sub hl [1, 2, 3, 4, 0] rfl)
      · rw [if_neg c6] at h
        refine lv_aload_n hx hb dX5_improves_32 rfl (lv_at hl 0 rfl) ?_
        refine lv_bipush (v := 98) hx hb dX5_improves_33 (by decide) ?_
        refine lv_iload hx hb dX5_improves_35 (lv_at hl 4 rfl) ?_
        obtain ⟨v7, hv, h⟩ := bd1_e h
        refine g_ki (g_runV (As := [.int 98, .int x4_12]) (rest := []) hC hP (c5_of l hv) (by decide) ge_23 rfl u_5_229 yv_X5_of (Nat.le_of_ble_eq_true rfl) rfl hl.1 rfl (Nat.le_of_ble_eq_true rfl) dX5_improves_37 ⟨by decide, by decide⟩) hS (fun H locs hP hS => ?_)
        refine lv_iconst (v := 1) hx hb dX5_improves_40 (by decide) ?_
        refine lv_icmp_ne (tgt := 47) hx hb dX5_improves_41 (by decide) (fun c8 => ?_) (fun c8 => ?_)
        · rw [if_neg c8] at h
          refine lv_iconst (v := 0) hx hb dX5_improves_47 (by decide) ?_
          refine lv_istore (lv' := [(5, .int 0), (0, .ref (ad γ 23)), (1, .int x1_12), (2, .int x2_12), (3, .int x3_12), (4, .int x4_12)]) hx hb dX5_improves_48 hl (by decide) rfl (fun ls hl => ?_)
          have L50 := it5_W (r5_improves_b50 x4_12) (fun (M_50 : OS) (x1_50 : Int32) (x2_50 : Int32) (x3_50 : Int32) (x5_50 : Int32) => ∀ (H : Heap) (locs : List Loc) (ls : Array Slot), va_P γ.1 vwCl (gw γ (T, P, X, Y, E, B, M_50, O)) H → va_S (gA γ s.heap.size) s.heap H locs → lv_has ls 7 [(0, .ref (ad γ 23)), (1, .int x1_50), (2, .int x2_50), (3, .int x3_50), (4, .int x4_12), (5, .int x5_50)] → W p l e (gR 6 0 0) s m args below meth c H locs 0 0 (MQ below (gQi γ r0 s.heap.size (T, P, X, Y, E, B, Mz, O)) args s 0 0 (gA γ s.heap.size)) (F0 m 50 ls [])) (fun (r_k : OS × Int32 × Int32 × Int32) => (∀ (M_x50 : OS) (x1_x50 : Int32) (x2_x50 : Int32) (x3_x50 : Int32), r_k = (M_x50, x1_x50, x2_x50, x3_x50) → ∀ (H : Heap) (locs : List Loc) (ls : Array Slot), va_P γ.1 vwCl (gw γ (T, P, X, Y, E, B, M_x50, O)) H → va_S (gA γ s.heap.size) s.heap H locs → lv_has ls 7 [(0, .ref (ad γ 23)), (1, .int x1_x50), (2, .int x2_x50), (3, .int x3_x50), (4, .int x4_12)] → W p l e (gR 6 0 0) s m args below meth c H locs 0 0 (MQ below (gQi γ r0 s.heap.size (T, P, X, Y, E, B, Mz, O)) args s 0 0 (gA γ s.heap.size)) (F0 m 105 ls []))) (by
            intro M_50 x1_50 x2_50 x3_50 x5_50 o_50 h kS kR H locs ls hP hS hl
            unfold r5_improves_b50 at h
            refine lv_iload hx hb dX5_improves_50 (lv_at hl 5 rfl) ?_
            refine lv_bipush (v := 60) hx hb dX5_improves_52 (by decide) ?_
            refine lv_icmp_ge (tgt := 105) hx hb dX5_improves_54 (by decide) (fun c9 => ?_) (fun c9 => ?_)
            · rw [if_pos c9] at h
              cases h
              exact kR _ rfl _ _ _ _ rfl _ _ _ hP hS (lv_sub hl [0, 1, 2, 3, 4] rfl)
            · rw [if_neg c9] at h
              refine lv_aload_n hx hb dX5_improves_57 rfl (lv_at hl 0 rfl) ?_
              refine lv_iload hx hb dX5_improves_58 (lv_at hl 4 rfl) ?_
              refine lv_iload hx hb dX5_improves_60 (lv_at hl 5 rfl) ?_
              obtain ⟨v10, hv, h⟩ := bd1_e h
              refine g_ki (g_runV (As := [.int x4_12, .int x5_50]) (rest := []) hC hP (c5_obstacleOf l hv) (by decide) ge_23 rfl u_5_237 yv_X5_obstacleOf (Nat.le_of_ble_eq_true rfl) rfl hl.1 rfl (Nat.le_of_ble_eq_true rfl) dX5_improves_62 ⟨by decide, by decide⟩) hS (fun H locs hP hS => ?_)
              refine lv_if_eq (tgt := 71) hx hb dX5_improves_65 (by decide) (fun c11 => ?_) (fun c11 => ?_)
              · rw [if_pos c11] at h
                refine lv_aload_n hx hb dX5_improves_71 rfl (lv_at hl 0 rfl) ?_
                refine lv_iload hx hb dX5_improves_72 (lv_at hl 4 rfl) ?_
                refine lv_iload hx hb dX5_improves_74 (lv_at hl 5 rfl) ?_
                obtain ⟨v12, M13, hv, h⟩ := bd2_e h
                refine g_ki (g_runV (As := [.int x4_12, .int x5_50]) (rest := []) hC hP (c5_costsAt l hv) (by decide) ge_23 rfl u_7_4 yv_X5_costsAt (Nat.le_of_ble_eq_true rfl) rfl hl.1 rfl (Nat.le_of_ble_eq_true rfl) dX5_improves_76 ⟨by decide, by decide⟩) hS (fun H locs hP hS => ?_)
                refine lv_istore (lv' := [(6, .int v12), (0, .ref (ad γ 23)), (1, .int x1_50), (2, .int x2_50), (3, .int x3_50), (4, .int x4_12), (5, .int x5_50)]) hx hb dX5_improves_79 hl (by decide) rfl (fun ls hl => ?_)
                refine lv_iload hx hb dX5_improves_81 (lv_at hl 0 rfl) ?_
                refine lv_iload_n hx hb dX5_improves_83 rfl (lv_at hl 2 rfl) ?_
                refine lv_icmp_lt (tgt := 90) hx hb dX5_improves_84 (by decide) (fun c14 => ?_) (fun c14 => ?_)
                · rw [if_pos c14] at h
                  refine lv_iload hx hb dX5_improves_90 (lv_at hl 0 rfl) ?_
                  refine lv_istore_n (lv' := [(1, .int v12), (6, .int v12), (0, .ref (ad γ 23)), (2, .int x2_50), (3, .int x3_50), (4, .int x4_12), (5, .int x5_50)]) hx hb dX5_improves_92 rfl hl (by decide) rfl (fun ls hl => ?_)
                  refine lv_iload hx hb dX5_improves_93 (lv_at hl 5 rfl) ?_
                  refine lv_istore_n (lv' := [(2, .int x4_12), (1, .int v12), (6, .int v12), (0, .ref (ad γ 23)), (3, .int x3_50), (4, .int x4_12), (5, .int x5_50)]) hx hb dX5_improves_95 rfl hl (by decide) rfl (fun ls hl => ?_)
                  refine lv_iload hx hb dX5_improves_96 (lv_at hl 6 rfl) ?_
                  refine lv_istore_n (lv' := [(3, .int x5_50), (2, .int x4_12), (1, .int v12), (6, .int v12), (0, .ref (ad γ 23)), (4, .int x4_12), (5, .int x5_50)]) hx hb dX5_improves_98 rfl hl (by decide) rfl (fun ls hl => ?_)
                  refine lv_iinc (v := (x5_50 + 1)) (lv' := [(5, .int (x5_50 + 1)), (3, .int x5_50), (2, .int x4_12), (1, .int v12), (6, .int v12), (0, .ref (ad γ 23)), (4, .int x4_12)]) hx hb dX5_improves_99 hl (k := 6) rfl rfl (by decide) rfl (fun ls hl => ?_)
                  refine lv_goto (tgt := 50) hx hb dX5_improves_102 (by decide) ?_
                  cases h
                  exact kS _ _ _ _ _ rfl _ _ _ hP hS (lv_sub hl [5, 3, 2, 1, 6, 0] rfl)
                · rw [if_neg c14] at h
                  refine lv_goto (tgt := 99) hx hb dX5_improves_87 (by decide) ?_
                  refine lv_iinc (v := (x5_50 + 1)) (lv' := [(5, .int (x5_50 + 1)), (6, .int v12), (0, .ref (ad γ 23)), (1, .int x1_50), (2, .int x2_50), (3, .int x3_50), (4, .int x4_12)]) hx hb dX5_improves_99 hl (k := 6) rfl rfl (by decide) rfl (fun ls hl => ?_)
                  refine lv_goto (tgt := 50) hx hb dX5_improves_102 (by decide) ?_
                  cases h
                  exact kS _ _ _ _ _ rfl _ _ _ hP hS (lv_sub hl [2, 3, 4, 5, 6, 0] rfl)
              · rw [if_neg c11] at h
                refine lv_goto (tgt := 99) hx hb dX5_improves_68 (by decide) ?_
                refine lv_iinc (v := (x5_50 + 1)) (lv' := [(5, .int (x5_50 + 1)), (0, .ref (ad γ 23)), (1, .int x1_50), (2, .int x2_50), (3, .int x3_50), (4, .int x4_12)]) hx hb dX5_improves_99 hl (k := 5) rfl rfl (by decide) rfl (fun ls hl => ?_)
                refine lv_goto (tgt := 50) hx hb dX5_improves_102 (by decide) ?_
                cases h
                exact kS _ _ _ _ _ rfl _ _ _ hP hS (lv_sub hl [1, 2, 3, 4, 5, 0] rfl))
          obtain ⟨M_x50, x1_x50, x2_x50, x3_x50, hv, h⟩ := bd4_e h
          refine L50 _ _ _ _ _ _ _ hv (fun q0 q1 q2 q3 e9 H locs ls hP hS hl => ?_) _ _ _ hP hS (lv_sub hl [1, 2, 3, 4, 5, 0] rfl)
          obtain ⟨rfl, rfl, rfl, rfl⟩ := inj4 e9
          refine lv_iinc (v := (x4_12 + 1)) (lv' := [(4, .int (x4_12 + 1)), (0, .ref (ad γ 23)), (1, .int x1_x50), (2, .int x2_x50), (3, .int x3_x50)]) hx hb dX5_improves_105 hl (k := 4) rfl rfl (by decide) rfl (fun ls hl => ?_)
          refine lv_goto (tgt := 12) hx hb dX5_improves_108 (by decide) ?_
          cases h
          exact kS _ _ _ _ _ rfl _ _ _ hP hS (lv_sub hl [1, 2, 3, 4, 0] rfl)
        · rw [if_pos c8] at h
          refine lv_goto (tgt := 105) hx hb dX5_improves_44 (by decide) ?_
          refine lv_iinc (v := (x4_12 + 1)) (lv' := [(4, .int (x4_12 + 1)), (0, .ref (ad γ 23)), (1, .int x1_12), (2, .int x2_12), (3, .int x3_12)]) hx hb dX5_improves_105 hl (k := 4) rfl rfl (by decide) rfl (fun ls hl => ?_)
          refine lv_goto (tgt := 12) hx hb dX5_improves_108 (by decide) ?_
          cases h
          exact kS _ _ _ _ _ rfl _ _ _ hP hS (lv_sub hl [1, 2, 3, 4, 0] rfl))
  obtain ⟨M_x12, x2_x12, x3_x12, hv, h⟩ := bd3_e h
  refine L12 _ _ _ _ _ _ _ hv (fun q0 q1 q2 e9 H locs ls hP hS hl => ?_) _ _ _ hP hS (lv_sub hl [4, 3, 2, 1, 0] rfl)
  obtain ⟨rfl, rfl, rfl⟩ := inj3 e9
  refine lv_iload_n hx hb dX5_improves_111 rfl (lv_at hl 1 rfl) ?_
  refine lv_if_lt (tgt := 121) hx hb dX5_improves_112 (by decide) (fun c15 => ?_) (fun c15 => ?_)
  · rw [if_pos c15] at h
    exact J121 M_x12 x2_x12 h _ _ _ hP hS (lv_sub hl [1] rfl)
  · rw [if_neg c15] at h
    refine lv_aload_n hx hb dX5_improves_115 rfl (lv_at hl 0 rfl) ?_
    refine lv_iload_n hx hb dX5_improves_116 rfl (lv_at hl 1 rfl) ?_
    refine lv_iload_n hx hb dX5_improves_117 rfl (lv_at hl 2 rfl) ?_
    obtain ⟨M16, hv, h⟩ := bd1_e h
    refine g_kv (g_runV (As := [.int x2_x12, .int x3_x12]) (rest := []) hC hP (c5_lays l hv) (by decide) ge_23 rfl u_6_98 yv_X5_lays (Nat.le_of_ble_eq_true rfl) rfl hl.1 rfl (Nat.le_of_ble_eq_true rfl) dX5_improves_118 ⟨by decide, by decide⟩) hS (fun H locs hP hS => ?_)
    exact J121 M16 x2_x12 h _ _ _ hP hS (lv_sub hl [1] rfl)
def r5_improve_b33 (x1 : Int32) (M_33 : OS) (x2_33 : Int32) : Option ((OS × Int32) ⊕ (OS × Int32)) :=
  (if x1 ≤ x2_33 then some (.inr (M_33, x2_33))
  else bd2 (r5_improves M_33) (fun v5 M6 =>
  (if v5 = 0 then some (.inr (M6, x2_33))
  else some (.inl (M6, (x2_33 + 1))))))
def r5_improve_j15 (M_15 : OS) (x1 : Int32) (s0_15 : Int32)  : Option (Int32 × OS) :=
  (sw M_15 0 s0_15).bind fun M1 =>
  (if (M1 0 0) = 0 then bd1 (r5_keeps M1) (fun M3 =>
  bd2 (it2 (r5_improve_b33 x1) 200 M3 0) (fun M_x33 x2_x33 => some (x2_x33, M_x33)))
  else some (0, M1))
def r5_improve (M : OS) (x1 : Int32) : Option (Int32 × OS) :=
  bd1 (r5_in x1 1 5) (fun v8 =>
  (if v8 = 0 then r5_improve_j15 M x1 1
  else r5_improve_j15 M x1 0))
theorem yv_X5_improve : gYV yX5_improve cX5_improve 3 (some .int) 1 := ⟨u_7_9, u_7_10, u_1_7, u_7_11, ⟨by decide +kernel, by decide +kernel, by decide +kernel⟩, by decide⟩
set_option maxHeartbeats 4000000 in
set_option maxRecDepth 100000 in
theorem c5_improve (l : Launch) {γ : GA} {sz : Nat} {T P X Y B M : OS} {E : Nat → OS} {O : Nat → Int64} {x1 : Int32} {r0 : Int32} {Mz : OS} (h : r5_improve M x1 = some (r0, Mz)) : Met l yX5_improve (gU yX5_improve cX5_improve 3 (some .int)) (gR 7 0 0) (gPc γ [.ref (ad γ 23), .int x1] sz (T, P, X, Y, E, B, M, O)) (gQi γ r0 sz (T, P, X, Y, E, B, Mz, O)) 0 0 (gA γ sz) := by
  refine g_met (fun sz => gQi γ r0 sz (T, P, X, Y, E, B, Mz, O)) (by decide) (Nat.le_of_ble_eq_true rfl) ?_
  intro p e s m args below meth c ls hC hP hS hl
  have hx := hC.x
  have hb := hC.b
  have hl : lv_has ls 3 [(0, .ref (ad γ 23)), (1, .int x1)] := hl
  unfold r5_improve at h
  have J15 : ∀ (M_15 : OS) (s0_15 : Int32) (h : r5_improve_j15 M_15 x1 s0_15 = some (r0, Mz)), ∀ (H : Heap) (locs : List Loc) (ls : Array Slot), va_P γ.1 vwCl (gw γ (T, P, X, Y, E, B, M_15, O)) H → va_S (gA γ s.heap.size) s.heap H locs → lv_has ls 3 [(0, .ref (ad γ 23)), (1, .int x1)] → W p l e (gR 7 0 0) s m args below meth c H locs 0 0 (MQ below (gQi γ r0 s.heap.size (T, P, X, Y, E, B, Mz, O)) args s 0 0 (gA γ s.heap.size)) (F0 m 15 ls [.int s0_15, .ref (ad γ 23)]) := by
    intro M_15 s0_15 h H locs ls hP hS hl
    unfold r5_improve_j15 at h
    obtain ⟨M1, hv, h⟩ := ob h
    refine g_putI hC hP hS (fun Z => (T, P, X, Y, E, B, Z, O)) 0 tyX5 dX5_improve_15 (by decide) ge_23 rfl inX5 tyX5_ok nmX5 (by decide) u_5_154 rfl rfl (Nat.le_of_ble_eq_true rfl) gp_23_0 hv (fun H locs hP hS => ?_)
    refine lv_aload_n hx hb dX5_improve_18 rfl (lv_at hl 0 rfl) ?_
    refine g_get hC hP 0 dX5_improve_19 (by decide) ge_23 rfl inX5 (by decide) rfl u_5_154 ?_
    refine lv_if_eq (tgt := 27) hx hb dX5_improve_22 (by decide) (fun c2 => ?_) (fun c2 => ?_)
    · rw [if_pos c2] at h
      refine lv_aload_n hx hb dX5_improve_27 rfl (lv_at hl 0 rfl) ?_
      obtain ⟨M3, hv, h⟩ := bd1_e h
      refine g_kv (g_runV (As := []) (rest := []) hC hP (c5_keeps l hv) (by decide) ge_23 rfl u_5_213 yv_X5_keeps (Nat.le_of_ble_eq_true rfl) rfl hl.1 rfl (Nat.le_of_ble_eq_true rfl) dX5_improve_28 ⟨by decide, by decide⟩) hS (fun H locs hP hS => ?_)
      refine lv_iconst (v := 0) hx hb dX5_improve_31 (by decide) ?_
      refine lv_istore_n (lv' := [(2, .int 0), (0, .ref (ad γ 23)), (1, .int x1)]) hx hb dX5_improve_32 rfl hl (by decide) rfl (fun ls hl => ?_)
      have L33 := it2_W (r5_improve_b33 x1) (fun (M_33 : OS) (x2_33 : Int32) => ∀ (H : Heap) (locs : List Loc) (ls : Array Slot), va_P γ.1 vwCl (gw γ (T, P, X, Y, E, B, M_33, O)) H → va_S (gA γ s.heap.size) s.heap H locs → lv_has ls 3 [(0, .ref (ad γ 23)), (1, .int x1), (2, .int x2_33)] → W p l e (gR 7 0 0) s m args below meth c H locs 0 0 (MQ below (gQi γ r0 s.heap.size (T, P, X, Y, E, B, Mz, O)) args s 0 0 (gA γ s.heap.size)) (F0 m 33 ls [])) (fun (r_k : OS × Int32) => (∀ (M_x33 : OS) (x2_x33 : Int32), r_k = (M_x33, x2_x33) → ∀ (H : Heap) (locs : List Loc) (ls : Array Slot), va_P γ.1 vwCl (gw γ (T, P, X, Y, E, B, M_x33, O)) H → va_S (gA γ s.heap.size) s.heap H locs → lv_has ls 3 [(2, .int x2_x33)] → W p l e (gR 7 0 0) s m args below meth c H locs 0 0 (MQ below (gQi γ r0 s.heap.size (T, P, X, Y, E, B, Mz, O)) args s 0 0 (gA γ s.heap.size)) (F0 m 51 ls []))) (by
        intro M_33 x2_33 o_33 h kS kR H locs ls hP hS hl
        unfold r5_improve_b33 at h
        refine lv_iload_n hx hb dX5_improve_33 rfl (lv_at hl 2 rfl) ?_
        refine lv_iload_n hx hb dX5_improve_34 rfl (lv_at hl 1 rfl) ?_
        refine lv_icmp_ge (tgt := 51) hx hb dX5_improve_35 (by decide) (fun c4 => ?_) (fun c4 => ?_)
        · rw [if_pos c4] at h
          cases h
          exact kR _ rfl _ _ rfl _ _ _ hP hS (lv_sub hl [2] rfl)
        · rw [if_neg c4] at h
          refine lv_aload_n hx hb dX5_improve_38 rfl (lv_at hl 0 rfl) ?_
          obtain ⟨v5, M6, hv, h⟩ := bd2_e h
          refine g_ki (g_runV (As := []) (rest := []) hC hP (c5_improves l hv) (by decide) ge_23 rfl u_7_12 yv_X5_improves (Nat.le_of_ble_eq_true rfl) rfl hl.1 rfl (Nat.le_of_ble_eq_true rfl) dX5_improve_39 ⟨by decide, by decide⟩) hS (fun H locs hP hS => ?_)
          refine lv_if_eq (tgt := 51) hx hb dX5_improve_42 (by decide) (fun c7 => ?_) (fun c7 => ?_)
          · rw [if_pos c7] at h
            cases h
            exact kR _ rfl _ _ rfl _ _ _ hP hS (lv_sub hl [2] rfl)
          · rw [if_neg c7] at h
            refine lv_iinc (v := (x2_33 + 1)) (lv' := [(2, .int (x2_33 + 1)), (0, .ref (ad γ 23)), (1, .int x1)]) hx hb dX5_improve_45 hl (k := 2) rfl rfl (by decide) rfl (fun ls hl => ?_)
            refine lv_goto (tgt := 33) hx hb dX5_improve_48 (by decide) ?_
            cases h
            exact kS _ _ rfl _ _ _ hP hS (lv_sub hl [1, 2, 0] rfl))
      obtain ⟨M_x33, x2_x33, hv, h⟩ := bd2_e h
      refine L33 _ _ _ _ hv (fun q0 q1 e9 H locs ls hP hS hl => ?_) _ _ _ hP hS (lv_sub hl [1, 2, 0] rfl)
      obtain ⟨rfl, rfl⟩ := inj2 e9
      refine lv_iload_n hx hb dX5_improve_51 rfl (lv_at hl 0 rfl) ?_
      cases h
      exact g_iret hC hP hS dX5_improve_52 rfl
    · rw [if_neg c2] at h
      refine lv_iconst (v := 0) hx hb dX5_improve_25 (by decide) ?_
      cases h
      exact g_iret hC hP hS dX5_improve_26 rfl
  refine lv_aload_n hx hb dX5_improve_0 rfl (lv_at hl 0 rfl) ?_
  refine lv_iload_n hx hb dX5_improve_1 rfl (lv_at hl 1 rfl) ?_
  refine lv_iconst (v := 1) hx hb dX5_improve_2 (by decide) ?_
  refine lv_iconst (v := 5) hx hb dX5_improve_3 (by decide) ?_
  obtain ⟨v8, hv, h⟩ := bd1_e h
  refine g_ki (g_runS (As := [.int x1, .int 1, .int 5]) (rest := [.ref (ad γ 23)]) hC hP (c5_in l hv) u_5_210 yv_X5_in (Nat.le_of_ble_eq_true rfl) rfl hl.1 rfl (Nat.le_of_ble_eq_true rfl) dX5_improve_4 ⟨by decide, by decide⟩) hS (fun H locs hP hS => ?_)
  refine lv_if_eq (tgt := 14) hx hb dX5_improve_7 (by decide) (fun c9 => ?_) (fun c9 => ?_)
  · rw [if_pos c9] at h
    refine lv_iconst (v := 1) hx hb dX5_improve_14 (by decide) ?_
    exact J15 M 1 h _ _ _ hP hS (lv_sub hl [0, 1] rfl)
  · rw [if_neg c9] at h
    refine lv_iconst (v := 0) hx hb dX5_improve_10 (by decide) ?_
    refine lv_goto (tgt := 15) hx hb dX5_improve_11 (by decide) ?_
    exact J15 M 0 h _ _ _ hP hS (lv_sub hl [0, 1] rfl)
def r5_mark_b11 (M_11 : OS) (x1_11 : Int32) : Option ((OS × Int32) ⊕ (OS)) :=
  bd1 (r5_many M_11) (fun v3 =>
  (if v3 ≤ x1_11 then some (.inr M_11)
  else bd1 (r5_of M_11 84 x1_11) (fun v5 =>
  (wr 1008 M_11 1 (112 + x1_11) v5).bind fun M6 =>
  some (.inl (M6, (x1_11 + 1))))))
def r5_mark (M : OS) : Option (Int32 × OS) :=
  (sw M 0 0).bind fun M1 =>
  bd1 (r5_keeps M1) (fun M2 =>
  bd1 (it2 r5_mark_b11 200 M2 0) (fun M_x11 => bd1 (r5_many M_x11) (fun v7 =>
  bd1 (r5_unplaced M_x11) (fun v8 =>
  some ((v7 - v8), M_x11)))))
theorem yv_X5_mark : gYV yX5_mark cX5_mark 2 (some .int) 0 := ⟨u_7_17, u_7_18, u_1_7, u_7_19, ⟨by decide +kernel, by decide +kernel, by decide +kernel⟩, by decide⟩
set_option maxHeartbeats 4000000 in
set_option maxRecDepth 100000 in
theorem c5_mark (l : Launch) {γ : GA} {sz : Nat} {T P X Y B M : OS} {E : Nat → OS} {O : Nat → Int64} {r0 : Int32} {Mz : OS} (h : r5_mark M = some (r0, Mz)) : Met l yX5_mark (gU yX5_mark cX5_mark 2 (some .int)) (gR 2 0 0) (gPc γ [.ref (ad γ 23)] sz (T, P, X, Y, E, B, M, O)) (gQi γ r0 sz (T, P, X, Y, E, B, Mz, O)) 0 0 (gA γ sz) := by
  refine g_met (fun sz => gQi γ r0 sz (T, P, X, Y, E, B, Mz, O)) (by decide) (Nat.le_of_ble_eq_true rfl) ?_
  intro p e s m args below meth c ls hC hP hS hl
  have hx := hC.x
  have hb := hC.b
  have hl : lv_has ls 2 [(0, .ref (ad γ 23))] := hl
  unfold r5_mark at h
  refine lv_aload_n hx hb dX5_mark_0 rfl (lv_at hl 0 rfl) ?_
  refine lv_iconst (v := 0) hx hb dX5_mark_1 (by decide) ?_
  obtain ⟨M1, hv, h⟩ := ob h
  refine g_putI hC hP hS (fun Z => (T, P, X, Y, E, B, Z, O)) 0 tyX5 dX5_mark_2 (by decide) ge_23 rfl inX5 tyX5_ok nmX5 (by decide) u_5_154 rfl rfl (Nat.le_of_ble_eq_true rfl) gp_23_0 hv (fun H locs hP hS => ?_)
  refine lv_aload_n hx hb dX5_mark_5 rfl (lv_at hl 0 rfl) ?_
  obtain ⟨M2, hv, h⟩ := bd1_e h
  refine g_kv (g_runV (As := []) (rest := []) hC hP (c5_keeps l hv) (by decide) ge_23 rfl u_5_213 yv_X5_keeps (Nat.le_of_ble_eq_true rfl) rfl hl.1 rfl (Nat.le_of_ble_eq_true rfl) dX5_mark_6 ⟨by decide, by decide⟩) hS (fun H locs hP hS => ?_)
  refine lv_iconst (v := 0) hx hb dX5_mark_9 (by decide) ?_
  refine lv_istore_n (lv' := [(1, .int 0), (0, .ref (ad γ 23))]) hx hb dX5_mark_10 rfl hl (by decide) rfl (fun ls hl => ?_)
  have L11 := it2_W r5_mark_b11 (fun (M_11 : OS) (x1_11 : Int32) => ∀ (H : Heap) (locs : List Loc) (ls : Array Slot), va_P γ.1 vwCl (gw γ (T, P, X, Y, E, B, M_11, O)) H → va_S (gA γ s.heap.size) s.heap H locs → lv_has ls 2 [(0, .ref (ad γ 23)), (1, .int x1_11)] → W p l e (gR 2 0 0) s m args below meth c H locs 0 0 (MQ below (gQi γ r0 s.heap.size (T, P, X, Y, E, B, Mz, O)) args s 0 0 (gA γ s.heap.size)) (F0 m 11 ls [])) (fun (r_k : OS) => (∀ (M_x11 : OS), r_k = M_x11 → ∀ (H : Heap) (locs : List Loc) (ls : Array Slot), va_P γ.1 vwCl (gw γ (T, P, X, Y, E, B, M_x11, O)) H → va_S (gA γ s.heap.size) s.heap H locs → lv_has ls 2 [(0, .ref (ad γ 23))] → W p l e (gR 2 0 0) s m args below meth c H locs 0 0 (MQ below (gQi γ r0 s.heap.size (T, P, X, Y, E, B, Mz, O)) args s 0 0 (gA γ s.heap.size)) (F0 m 41 ls []))) (by
    intro M_11 x1_11 o_11 h kS kR H locs ls hP hS hl
    unfold r5_mark_b11 at h
    refine lv_iload_n hx hb dX5_mark_11 rfl (lv_at hl 1 rfl) ?_
    refine lv_aload_n hx hb dX5_mark_12 rfl (lv_at hl 0 rfl) ?_
    obtain ⟨v3, hv, h⟩ := bd1_e h
    refine g_ki (g_runV (As := []) (rest := [.int x1_11]) hC hP (c5_many l hv) (by decide) ge_23 rfl u_5_225 yv_X5_many (Nat.le_of_ble_eq_true rfl) rfl hl.1 rfl (Nat.le_of_ble_eq_true rfl) dX5_mark_13 ⟨by decide, by decide⟩) hS (fun H locs hP hS => ?_)
    refine lv_icmp_ge (tgt := 41) hx hb dX5_mark_16 (by decide) (fun c4 => ?_) (fun c4 => ?_)
    · rw [if_pos c4] at h
      cases h
      exact kR _ rfl _ rfl _ _ _ hP hS (lv_sub hl [0] rfl)
    · rw [if_neg c4] at h
      refine lv_aload_n hx hb dX5_mark_19 rfl (lv_at hl 0 rfl) ?_
      refine g_get hC hP 1 dX5_mark_20 (by decide) ge_23 rfl inX5 (by decide) rfl u_5_155 ?_
      refine lv_bipush (v := 112) hx hb dX5_mark_23 (by decide) ?_
      refine lv_iload_n hx hb dX5_mark_25 rfl (lv_at hl 1 rfl) ?_
      refine lv_iadd hx hb dX5_mark_26 ?_
      refine lv_aload_n hx hb dX5_mark_27 rfl (lv_at hl 0 rfl) ?_
      refine lv_bipush (v := 84) hx hb dX5_mark_28 (by decide) ?_
      refine lv_iload_n hx hb dX5_mark_30 rfl (lv_at hl 1 rfl) ?_
      obtain ⟨v5, hv, h⟩ := bd1_e h
      refine g_ki (g_runV (As := [.int 84, .int x1_11]) (rest := [.int (112 + x1_11), .ref (ad γ 24)]) hC hP (c5_of l hv) (by decide) ge_23 rfl u_5_229 yv_X5_of (Nat.le_of_ble_eq_true rfl) rfl hl.1 rfl (Nat.le_of_ble_eq_true rfl) dX5_mark_31 ⟨by decide, by decide⟩) hS (fun H locs hP hS => ?_)
      obtain ⟨M6, hv, h⟩ := ob h
      refine g_st hC hP hS (fun Z => (T, P, X, Y, E, B, Z, O)) dX5_mark_34 (by decide) ge_24 gs_24 hv (fun H locs hP hS => ?_)
      refine lv_iinc (v := (x1_11 + 1)) (lv' := [(1, .int (x1_11 + 1)), (0, .ref (ad γ 23))]) hx hb dX5_mark_35 hl (k := 1) rfl rfl (by decide) rfl (fun ls hl => ?_)
      refine lv_goto (tgt := 11) hx hb dX5_mark_38 (by decide) ?_
      cases h
      exact kS _ _ rfl _ _ _ hP hS (lv_sub hl [1, 0] rfl))
  obtain ⟨M_x11, hv, h⟩ := bd1_e h
  refine L11 _ _ _ _ hv (fun q0 e9 H locs ls hP hS hl => ?_) _ _ _ hP hS (lv_sub hl [1, 0] rfl)
  obtain rfl := e9
  refine lv_aload_n hx hb dX5_mark_41 rfl (lv_at hl 0 rfl) ?_
  obtain ⟨v7, hv, h⟩ := bd1_e h
  refine g_ki (g_runV (As := []) (rest := []) hC hP (c5_many l hv) (by decide) ge_23 rfl u_5_225 yv_X5_many (Nat.le_of_ble_eq_true rfl) rfl hl.1 rfl (Nat.le_of_ble_eq_true rfl) dX5_mark_42 ⟨by decide, by decide⟩) hS (fun H locs hP hS => ?_)
  refine lv_aload_n hx hb dX5_mark_45 rfl (lv_at hl 0 rfl) ?_
  obtain ⟨v8, hv, h⟩ := bd1_e h
  refine g_ki (g_runV (As := []) (rest := [.int v7]) hC hP (c5_unplaced l hv) (by decide) ge_23 rfl u_6_232 yv_X5_unplaced (Nat.le_of_ble_eq_true rfl) rfl hl.1 rfl (Nat.le_of_ble_eq_true rfl) dX5_mark_46 ⟨by decide, by decide⟩) hS (fun H locs hP hS => ?_)
  refine lv_isub hx hb dX5_mark_49 ?_
  cases h
  exact g_iret hC hP hS dX5_mark_50 rfl
def r5_changed_b9 (M1 : OS) (x1_9 : Int32) (x2_9 : Int32) : Option ((Int32 × Int32) ⊕ (Int32)) :=
  bd1 (r5_many M1) (fun v2 =>
  (if v2 ≤ x2_9 then some (.inr x1_9)
  else bd1 (r5_of M1 84 x2_9) (fun v4 =>
  bd1 (r5_of M1 112 x2_9) (fun v5 =>
  (if v4 = v5 then some (.inl ((x1_9 ||| 0), (x2_9 + 1)))
  else (some (x1_9 ||| (1 <<< (x2_9 &&& 31)))).bind fun v7 =>
  some (.inl (v7, (x2_9 + 1))))))))
def r5_changed (M : OS) : Option (Int32 × OS) :=
  (sw M 0 0).bind fun M1 =>
  bd1 (it2 (r5_changed_b9 M1) 200 0 0) (fun x1_x9 => some (x1_x9, M1))
theorem yv_X5_changed : gYV yX5_changed cX5_changed 3 (some .int) 0 := ⟨u_7_21, u_7_22, u_1_7, u_7_23, ⟨by decide +kernel, by decide +kernel, by decide +kernel⟩, by decide⟩
set_option maxHeartbeats 4000000 in
set_option maxRecDepth 100000 in
theorem c5_changed (l : Launch) {γ : GA} {sz : Nat} {T P X Y B M : OS} {E : Nat → OS} {O : Nat → Int64} {r0 : Int32} {Mz : OS} (h : r5_changed M = some (r0, Mz)) : Met l yX5_changed (gU yX5_changed cX5_changed 3 (some .int)) (gR 1 0 0) (gPc γ [.ref (ad γ 23)] sz (T, P, X, Y, E, B, M, O)) (gQi γ r0 sz (T, P, X, Y, E, B, Mz, O)) 0 0 (gA γ sz) := by
  refine g_met (fun sz => gQi γ r0 sz (T, P, X, Y, E, B, Mz, O)) (by decide) (Nat.le_of_ble_eq_true rfl) ?_
  intro p e s m args below meth c ls hC hP hS hl
  have hx := hC.x
  have hb := hC.b
  have hl : lv_has ls 3 [(0, .ref (ad γ 23))] := hl
  unfold r5_changed at h
  refine lv_aload_n hx hb dX5_changed_0 rfl (lv_at hl 0 rfl) ?_
  refine lv_iconst (v := 0) hx hb dX5_changed_1 (by decide) ?_
  obtain ⟨M1, hv, h⟩ := ob h
  refine g_putI hC hP hS (fun Z => (T, P, X, Y, E, B, Z, O)) 0 tyX5 dX5_changed_2 (by decide) ge_23 rfl inX5 tyX5_ok nmX5 (by decide) u_5_154 rfl rfl (Nat.le_of_ble_eq_true rfl) gp_23_0 hv (fun H locs hP hS => ?_)
  refine lv_iconst (v := 0) hx hb dX5_changed_5 (by decide) ?_
  refine lv_istore_n (lv' := [(1, .int 0), (0, .ref (ad γ 23))]) hx hb dX5_changed_6 rfl hl (by decide) rfl (fun ls hl => ?_)
  refine lv_iconst (v := 0) hx hb dX5_changed_7 (by decide) ?_
  refine lv_istore_n (lv' := [(2, .int 0), (1, .int 0), (0, .ref (ad γ 23))]) hx hb dX5_changed_8 rfl hl (by decide) rfl (fun ls hl => ?_)
  have L9 := it2_W (r5_changed_b9 M1) (fun (x1_9 : Int32) (x2_9 : Int32) => ∀ (H : Heap) (locs : List Loc) (ls : Array Slot), va_P γ.1 vwCl (gw γ (T, P, X, Y, E, B, M1, O)) H → va_S (gA γ s.heap.size) s.heap H locs → lv_has ls 3 [(0, .ref (ad γ 23)), (1, .int x1_9), (2, .int x2_9)] → W p l e (gR 1 0 0) s m args below meth c H locs 0 0 (MQ below (gQi γ r0 s.heap.size (T, P, X, Y, E, B, Mz, O)) args s 0 0 (gA γ s.heap.size)) (F0 m 9 ls [])) (fun (r_k : Int32) => (∀ (x1_x9 : Int32), r_k = x1_x9 → ∀ (H : Heap) (locs : List Loc) (ls : Array Slot), va_P γ.1 vwCl (gw γ (T, P, X, Y, E, B, M1, O)) H → va_S (gA γ s.heap.size) s.heap H locs → lv_has ls 3 [(1, .int x1_x9)] → W p l e (gR 1 0 0) s m args below meth c H locs 0 0 (MQ below (gQi γ r0 s.heap.size (T, P, X, Y, E, B, Mz, O)) args s 0 0 (gA γ s.heap.size)) (F0 m 50 ls []))) (by
    intro x1_9 x2_9 o_9 h kS kR H locs ls hP hS hl
    unfold r5_changed_b9 at h
    refine lv_iload_n hx hb dX5_changed_9 rfl (lv_at hl 2 rfl) ?_
    refine lv_aload_n hx hb dX5_changed_10 rfl (lv_at hl 0 rfl) ?_
    obtain ⟨v2, hv, h⟩ := bd1_e h
    refine g_ki (g_runV (As := []) (rest := [.int x2_9]) hC hP (c5_many l hv) (by decide) ge_23 rfl u_5_225 yv_X5_many (Nat.le_of_ble_eq_true rfl) rfl hl.1 rfl (Nat.le_of_ble_eq_true rfl) dX5_changed_11 ⟨by decide, by decide⟩) hS (fun H locs hP hS => ?_)
    refine lv_icmp_ge (tgt := 50) hx hb dX5_changed_14 (by decide) (fun c3 => ?_) (fun c3 => ?_)
    · rw [if_pos c3] at h
      cases h
      exact kR _ rfl _ rfl _ _ _ hP hS (lv_sub hl [1] rfl)
    · rw [if_neg c3] at h
      refine lv_iload_n hx hb dX5_changed_17 rfl (lv_at hl 1 rfl) ?_
      refine lv_aload_n hx hb dX5_changed_18 rfl (lv_at hl 0 rfl) ?_
      refine lv_bipush (v := 84) hx hb dX5_changed_19 (by decide) ?_
      refine lv_iload_n hx hb dX5_changed_21 rfl (lv_at hl 2 rfl) ?_
      obtain ⟨v4, hv, h⟩ := bd1_e h
      refine g_ki (g_runV (As := [.int 84, .int x2_9]) (rest := [.int x1_9]) hC hP (c5_of l hv) (by decide) ge_23 rfl u_5_229 yv_X5_of (Nat.le_of_ble_eq_true rfl) rfl hl.1 rfl (Nat.le_of_ble_eq_true rfl) dX5_changed_22 ⟨by decide, by decide⟩) hS (fun H locs hP hS => ?_)
      refine lv_aload_n hx hb dX5_changed_25 rfl (lv_at hl 0 rfl) ?_
      refine lv_bipush (v := 112) hx hb dX5_changed_26 (by decide) ?_
      refine lv_iload_n hx hb dX5_changed_28 rfl (lv_at hl 2 rfl) ?_
      obtain ⟨v5, hv, h⟩ := bd1_e h
      refine g_ki (g_runV (As := [.int 112, .int x2_9]) (rest := [.int v4, .int x1_9]) hC hP (c5_of l hv) (by decide) ge_23 rfl u_5_229 yv_X5_of (Nat.le_of_ble_eq_true rfl) rfl hl.1 rfl (Nat.le_of_ble_eq_true rfl) dX5_changed_29 ⟨by decide, by decide⟩) hS (fun H locs hP hS => ?_)
      refine lv_icmp_eq (tgt := 41) hx hb dX5_changed_32 (by decide) (fun c6 => ?_) (fun c6 => ?_)
      · rw [if_pos c6] at h
        refine lv_iconst (v := 0) hx hb dX5_changed_41 (by decide) ?_
        refine lv_ior hx hb dX5_changed_42 ?_
        refine lv_istore_n (lv' := [(1, .int (x1_9 ||| 0)), (0, .ref (ad γ 23)), (2, .int x2_9)]) hx hb dX5_changed_43 rfl hl (by decide) rfl (fun ls hl => ?_)
        refine lv_iinc (v := (x2_9 + 1)) (lv' := [(2, .int (x2_9 + 1)), (1, .int (x1_9 ||| 0)), (0, .ref (ad γ 23))]) hx hb dX5_changed_44 hl (k := 2) rfl rfl (by decide) rfl (fun ls hl => ?_)
        refine lv_goto (tgt := 9) hx hb dX5_changed_47 (by decide) ?_
        cases h
        exact kS _ _ rfl _ _ _ hP hS (lv_sub hl [2, 1, 0] rfl)
      · rw [if_neg c6] at h
        refine lv_iconst (v := 1) hx hb dX5_changed_35 (by decide) ?_
        refine lv_iload_n hx hb dX5_changed_36 rfl (lv_at hl 2 rfl) ?_
        refine lv_ishl hx hb dX5_changed_37 ?_
        refine lv_goto (tgt := 42) hx hb dX5_changed_38 (by decide) ?_
        refine lv_ior hx hb dX5_changed_42 ?_
        obtain ⟨v7, hv, h⟩ := ob h
        refine lv_topi (fun y9 ey9 => ?_)
        obtain rfl : v7 = y9 := (Option.some.inj hv).symm.trans ey9.symm
        clear hv ey9
        refine lv_istore_n (lv' := [(1, .int v7), (0, .ref (ad γ 23)), (2, .int x2_9)]) hx hb dX5_changed_43 rfl hl (by decide) rfl (fun ls hl => ?_)
        refine lv_iinc (v := (x2_9 + 1)) (lv' := [(2, .int (x2_9 + 1)), (1, .int v7), (0, .ref (ad γ 23))]) hx hb dX5_changed_44 hl (k := 2) rfl rfl (by decide) rfl (fun ls hl => ?_)
        refine lv_goto (tgt := 9) hx hb dX5_changed_47 (by decide) ?_
        cases h
        exact kS _ _ rfl _ _ _ hP hS (lv_sub hl [2, 1, 0] rfl))
  obtain ⟨x1_x9, hv, h⟩ := bd1_e h
  refine L9 _ _ _ _ hv (fun q0 e9 H locs ls hP hS hl => ?_) _ _ _ hP hS (lv_sub hl [2, 1, 0] rfl)
  obtain rfl := e9
  refine lv_iload_n hx hb dX5_changed_50 rfl (lv_at hl 0 rfl) ?_
  cases h
  exact g_iret hC hP hS dX5_changed_51 rfl
def r5_marked_j14 (M_14 : OS) (x1 : Int32) (s0_14 : Int32)  : Option (Int32 × OS) :=
  (sw M_14 0 s0_14).bind fun M1 =>
  (if (M1 0 0) = 0 then bd1 (r5_of M1 112 x1) (fun v3 =>
  some (v3, M1))
  else some (0, M1))
def r5_marked (M : OS) (x1 : Int32) : Option (Int32 × OS) :=
  bd1 (r5_isEvent M x1) (fun v4 =>
  (if v4 = 0 then r5_marked_j14 M x1 1
  else r5_marked_j14 M x1 0))
theorem yv_X5_marked : gYV yX5_marked cX5_marked 2 (some .int) 1 := ⟨u_7_25, u_7_26, u_1_7, u_7_27, ⟨by decide +kernel, by decide +kernel, by decide +kernel⟩, by decide⟩
set_option maxHeartbeats 4000000 in
set_option maxRecDepth 100000 in
theorem c5_marked (l : Launch) {γ : GA} {sz : Nat} {T P X Y B M : OS} {E : Nat → OS} {O : Nat → Int64} {x1 : Int32} {r0 : Int32} {Mz : OS} (h : r5_marked M x1 = some (r0, Mz)) : Met l yX5_marked (gU yX5_marked cX5_marked 2 (some .int)) (gR 2 0 0) (gPc γ [.ref (ad γ 23), .int x1] sz (T, P, X, Y, E, B, M, O)) (gQi γ r0 sz (T, P, X, Y, E, B, Mz, O)) 0 0 (gA γ sz) := by
  refine g_met (fun sz => gQi γ r0 sz (T, P, X, Y, E, B, Mz, O)) (by decide) (Nat.le_of_ble_eq_true rfl) ?_
  intro p e s m args below meth c ls hC hP hS hl
  have hx := hC.x
  have hb := hC.b
  have hl : lv_has ls 2 [(0, .ref (ad γ 23)), (1, .int x1)] := hl
  unfold r5_marked at h
  have J14 : ∀ (M_14 : OS) (s0_14 : Int32) (h : r5_marked_j14 M_14 x1 s0_14 = some (r0, Mz)), ∀ (H : Heap) (locs : List Loc) (ls : Array Slot), va_P γ.1 vwCl (gw γ (T, P, X, Y, E, B, M_14, O)) H → va_S (gA γ s.heap.size) s.heap H locs → lv_has ls 2 [(0, .ref (ad γ 23)), (1, .int x1)] → W p l e (gR 2 0 0) s m args below meth c H locs 0 0 (MQ below (gQi γ r0 s.heap.size (T, P, X, Y, E, B, Mz, O)) args s 0 0 (gA γ s.heap.size)) (F0 m 14 ls [.int s0_14, .ref (ad γ 23)]) := by
    intro M_14 s0_14 h H locs ls hP hS hl
    unfold r5_marked_j14 at h
    obtain ⟨M1, hv, h⟩ := ob h
    refine g_putI hC hP hS (fun Z => (T, P, X, Y, E, B, Z, O)) 0 tyX5 dX5_marked_14 (by decide) ge_23 rfl inX5 tyX5_ok nmX5 (by decide) u_5_154 rfl rfl (Nat.le_of_ble_eq_true rfl) gp_23_0 hv (fun H locs hP hS => ?_)
    refine lv_aload_n hx hb dX5_marked_17 rfl (lv_at hl 0 rfl) ?_
    refine g_get hC hP 0 dX5_marked_18 (by decide) ge_23 rfl inX5 (by decide) rfl u_5_154 ?_
    refine lv_if_ne (tgt := 34) hx hb dX5_marked_21 (by decide) (fun c2 => ?_) (fun c2 => ?_)
    · rw [if_neg c2] at h
      refine lv_iconst (v := 0) hx hb dX5_marked_34 (by decide) ?_
      cases h
      exact g_iret hC hP hS dX5_marked_35 rfl
    · rw [if_pos c2] at h
      refine lv_aload_n hx hb dX5_marked_24 rfl (lv_at hl 0 rfl) ?_
      refine lv_bipush (v := 112) hx hb dX5_marked_25 (by decide) ?_
      refine lv_iload_n hx hb dX5_marked_27 rfl (lv_at hl 1 rfl) ?_
      obtain ⟨v3, hv, h⟩ := bd1_e h
      refine g_ki (g_runV (As := [.int 112, .int x1]) (rest := []) hC hP (c5_of l hv) (by decide) ge_23 rfl u_5_229 yv_X5_of (Nat.le_of_ble_eq_true rfl) rfl hl.1 rfl (Nat.le_of_ble_eq_true rfl) dX5_marked_28 ⟨by decide, by decide⟩) hS (fun H locs hP hS => ?_)
      refine lv_goto (tgt := 35) hx hb dX5_marked_31 (by decide) ?_
      cases h
      exact g_iret hC hP hS dX5_marked_35 rfl
  refine lv_aload_n hx hb dX5_marked_0 rfl (lv_at hl 0 rfl) ?_
  refine lv_aload_n hx hb dX5_marked_1 rfl (lv_at hl 0 rfl) ?_
  refine lv_iload_n hx hb dX5_marked_2 rfl (lv_at hl 1 rfl) ?_
  obtain ⟨v4, hv, h⟩ := bd1_e h
  refine g_ki (g_runV (As := [.int x1]) (rest := [.ref (ad γ 23)]) hC hP (c5_isEvent l hv) (by decide) ge_23 rfl u_6_71 yv_X5_isEvent (Nat.le_of_ble_eq_true rfl) rfl hl.1 rfl (Nat.le_of_ble_eq_true rfl) dX5_marked_3 ⟨by decide, by decide⟩) hS (fun H locs hP hS => ?_)
  refine lv_if_eq (tgt := 13) hx hb dX5_marked_6 (by decide) (fun c5 => ?_) (fun c5 => ?_)
  · rw [if_pos c5] at h
    refine lv_iconst (v := 1) hx hb dX5_marked_13 (by decide) ?_
    exact J14 M 1 h _ _ _ hP hS (lv_sub hl [0, 1] rfl)
  · rw [if_neg c5] at h
    refine lv_iconst (v := 0) hx hb dX5_marked_9 (by decide) ?_
    refine lv_goto (tgt := 14) hx hb dX5_marked_10 (by decide) ?_
    exact J14 M 0 h _ _ _ hP hS (lv_sub hl [0, 1] rfl)
def r5_count_b31 (M1 : OS) (x1 : Int32) (x2_31 : Int32) (x3_31 : Int32) : Option ((Int32 × Int32) ⊕ (Int32)) :=
  bd1 (r5_many M1) (fun v3 =>
  (if v3 ≤ x3_31 then some (.inr x2_31)
  else bd1 (r5_of M1 98 x3_31) (fun v5 =>
  some (.inl ((x2_31 + v5), (x3_31 + 1))))))
def r5_count_j15 (M_15 : OS) (x1 : Int32) (s0_15 : Int32)  : Option (Int32 × OS) :=
  (sw M_15 0 s0_15).bind fun M1 =>
  (if (M1 0 0) = 0 then bd1 (it2 (r5_count_b31 M1 x1) 200 0 0) (fun x2_x31 => (if x1 = 0 then bd1 (r5_many M1) (fun v12 =>
  some (v12, M1))
  else (if x1 = 1 then bd1 (r5_many M1) (fun v10 =>
  bd1 (r5_unplaced M1) (fun v11 =>
  some ((v10 - v11), M1)))
  else (if x1 = 2 then some (x2_x31, M1)
  else (if x1 = 3 then some ((M1 5 0), M1)
  else some ((M1 2 0), M1))))))
  else some (0, M1))
def r5_count (M : OS) (x1 : Int32) : Option (Int32 × OS) :=
  bd1 (r5_in x1 0 4) (fun v13 =>
  (if v13 = 0 then r5_count_j15 M x1 1
  else r5_count_j15 M x1 0))
theorem yv_X5_count : gYV yX5_count cX5_count 4 (some .int) 1 := ⟨u_7_29, u_7_30, u_1_7, u_7_31, ⟨by decide +kernel, by decide +kernel, by decide +kernel⟩, by decide⟩
set_option maxHeartbeats 4000000 in
set_option maxRecDepth 100000 in
theorem c5_count (l : Launch) {γ : GA} {sz : Nat} {T P X Y B M : OS} {E : Nat → OS} {O : Nat → Int64} {x1 : Int32} {r0 : Int32} {Mz : OS} (h : r5_count M x1 = some (r0, Mz)) : Met l yX5_count (gU yX5_count cX5_count 4 (some .int)) (gR 2 0 0) (gPc γ [.ref (ad γ 23), .int x1] sz (T, P, X, Y, E, B, M, O)) (gQi γ r0 sz (T, P, X, Y, E, B, Mz, O)) 0 0 (gA γ sz) := by
  refine g_met (fun sz => gQi γ r0 sz (T, P, X, Y, E, B, Mz, O)) (by decide) (Nat.le_of_ble_eq_true rfl) ?_
  intro p e s m args below meth c ls hC hP hS hl
  have hx := hC.x
  have hb := hC.b
  have hl : lv_has ls 4 [(0, .ref (ad γ 23)), (1, .int x1)] := hl
  unfold r5_count at h
  have J15 : ∀ (M_15 : OS) (s0_15 : Int32) (h : r5_count_j15 M_15 x1 s0_15 = some (r0, Mz)), ∀ (H : Heap) (locs : List Loc) (ls : Array Slot), va_P γ.1 vwCl (gw γ (T, P, X, Y, E, B, M_15, O)) H → va_S (gA γ s.heap.size) s.heap H locs → lv_has ls 4 [(0, .ref (ad γ 23)), (1, .int x1)] → W p l e (gR 2 0 0) s m args below meth c H locs 0 0 (MQ below (gQi γ r0 s.heap.size (T, P, X, Y, E, B, Mz, O)) args s 0 0 (gA γ s.heap.size)) (F0 m 15 ls [.int s0_15, .ref (ad γ 23)]) := by
    intro M_15 s0_15 h H locs ls hP hS hl
    unfold r5_count_j15 at h
    obtain ⟨M1, hv, h⟩ := ob h
    refine g_putI hC hP hS (fun Z => (T, P, X, Y, E, B, Z, O)) 0 tyX5 dX5_count_15 (by decide) ge_23 rfl inX5 tyX5_ok nmX5 (by decide) u_5_154 rfl rfl (Nat.le_of_ble_eq_true rfl) gp_23_0 hv (fun H locs hP hS => ?_)
    refine lv_aload_n hx hb dX5_count_18 rfl (lv_at hl 0 rfl) ?_
    refine g_get hC hP 0 dX5_count_19 (by decide) ge_23 rfl inX5 (by decide) rfl u_5_154 ?_
    refine lv_if_eq (tgt := 27) hx hb dX5_count_22 (by decide) (fun c2 => ?_) (fun c2 => ?_)
    · rw [if_pos c2] at h
      refine lv_iconst (v := 0) hx hb dX5_count_27 (by decide) ?_
      refine lv_istore_n (lv' := [(2, .int 0), (0, .ref (ad γ 23)), (1, .int x1)]) hx hb dX5_count_28 rfl hl (by decide) rfl (fun ls hl => ?_)
      refine lv_iconst (v := 0) hx hb dX5_count_29 (by decide) ?_
      refine lv_istore_n (lv' := [(3, .int 0), (2, .int 0), (0, .ref (ad γ 23)), (1, .int x1)]) hx hb dX5_count_30 rfl hl (by decide) rfl (fun ls hl => ?_)
      have L31 := it2_W (r5_count_b31 M1 x1) (fun (x2_31 : Int32) (x3_31 : Int32) => ∀ (H : Heap) (locs : List Loc) (ls : Array Slot), va_P γ.1 vwCl (gw γ (T, P, X, Y, E, B, M1, O)) H → va_S (gA γ s.heap.size) s.heap H locs → lv_has ls 4 [(0, .ref (ad γ 23)), (1, .int x1), (2, .int x2_31), (3, .int x3_31)] → W p l e (gR 2 0 0) s m args below meth c H locs 0 0 (MQ below (gQi γ r0 s.heap.size (T, P, X, Y, E, B, Mz, O)) args s 0 0 (gA γ s.heap.size)) (F0 m 31 ls [])) (fun (r_k : Int32) => (∀ (x2_x31 : Int32), r_k = x2_x31 → ∀ (H : Heap) (locs : List Loc) (ls : Array Slot), va_P γ.1 vwCl (gw γ (T, P, X, Y, E, B, M1, O)) H → va_S (gA γ s.heap.size) s.heap H locs → lv_has ls 4 [(0, .ref (ad γ 23)), (1, .int x1), (2, .int x2_x31)] → W p l e (gR 2 0 0) s m args below meth c H locs 0 0 (MQ below (gQi γ r0 s.heap.size (T, P, X, Y, E, B, Mz, O)) args s 0 0 (gA γ s.heap.size)) (F0 m 55 ls []))) (by
        intro x2_31 x3_31 o_31 h kS kR H locs ls hP hS hl
        unfold r5_count_b31 at h
        refine lv_iload_n hx hb dX5_count_31 rfl (lv_at hl 3 rfl) ?_
        refine lv_aload_n hx hb dX5_count_32 rfl (lv_at hl 0 rfl) ?_
        obtain ⟨v3, hv, h⟩ := bd1_e h
        refine g_ki (g_runV (As := []) (rest := [.int x3_31]) hC hP (c5_many l hv) (by decide) ge_23 rfl u_5_225 yv_X5_many (Nat.le_of_ble_eq_true rfl) rfl hl.1 rfl (Nat.le_of_ble_eq_true rfl) dX5_count_33 ⟨by decide, by decide⟩) hS (fun H locs hP hS => ?_)
        refine lv_icmp_ge (tgt := 55) hx hb dX5_count_36 (by decide) (fun c4 => ?_) (fun c4 => ?_)
        · rw [if_pos c4] at h
          cases h
          exact kR _ rfl _ rfl _ _ _ hP hS (lv_sub hl [0, 1, 2] rfl)
        · rw [if_neg c4] at h
          refine lv_iload_n hx hb dX5_count_39 rfl (lv_at hl 2 rfl) ?_
          refine lv_aload_n hx hb dX5_count_40 rfl (lv_at hl 0 rfl) ?_
          refine lv_bipush (v := 98) hx hb dX5_count_41 (by decide) ?_
          refine lv_iload_n hx hb dX5_count_43 rfl (lv_at hl 3 rfl) ?_
          obtain ⟨v5, hv, h⟩ := bd1_e h
          refine g_ki (g_runV (As := [.int 98, .int x3_31]) (rest := [.int x2_31]) hC hP (c5_of l hv) (by decide) ge_23 rfl u_5_229 yv_X5_of (Nat.le_of_ble_eq_true rfl) rfl hl.1 rfl (Nat.le_of_ble_eq_true rfl) dX5_count_44 ⟨by decide, by decide⟩) hS (fun H locs hP hS => ?_)
          refine lv_iadd hx hb dX5_count_47 ?_
          refine lv_istore_n (lv' := [(2, .int (x2_31 + v5)), (0, .ref (ad γ 23)), (1, .int x1), (3, .int x3_31)]) hx hb dX5_count_48 rfl hl (by decide) rfl (fun ls hl => ?_)
          refine lv_iinc (v := (x3_31 + 1)) (lv' := [(3, .int (x3_31 + 1)), (2, .int (x2_31 + v5)), (0, .ref (ad γ 23)), (1, .int x1)]) hx hb dX5_count_49 hl (k := 3) rfl rfl (by decide) rfl (fun ls hl => ?_)
          refine lv_goto (tgt := 31) hx hb dX5_count_52 (by decide) ?_
          cases h
          exact kS _ _ rfl _ _ _ hP hS (lv_sub hl [2, 3, 1, 0] rfl))
      obtain ⟨x2_x31, hv, h⟩ := bd1_e h
      refine L31 _ _ _ _ hv (fun q0 e9 H locs ls hP hS hl => ?_) _ _ _ hP hS (lv_sub hl [2, 3, 1, 0] rfl)
      obtain rfl := e9
      refine lv_iload_n hx hb dX5_count_55 rfl (lv_at hl 1 rfl) ?_
      refine lv_if_ne (tgt := 66) hx hb dX5_count_56 (by decide) (fun c6 => ?_) (fun c6 => ?_)
      · rw [if_neg c6] at h
        refine lv_iload_n hx hb dX5_count_66 rfl (lv_at hl 1 rfl) ?_
        refine lv_iconst (v := 1) hx hb dX5_count_67 (by decide) ?_
        refine lv_icmp_ne (tgt := 83) hx hb dX5_count_68 (by decide) (fun c7 => ?_) (fun c7 => ?_)
        · rw [if_neg c7] at h
          refine lv_iload_n hx hb dX5_count_83 rfl (lv_at hl 1 rfl) ?_
          refine lv_iconst (v := 2) hx hb dX5_count_84 (by decide) ?_
          refine lv_icmp_ne (tgt := 92) hx hb dX5_count_85 (by decide) (fun c8 => ?_) (fun c8 => ?_)
          · rw [if_neg c8] at h
            refine lv_iload_n hx hb dX5_count_92 rfl (lv_at hl 1 rfl) ?_
            refine lv_iconst (v := 3) hx hb dX5_count_93 (by decide) ?_
            refine lv_icmp_ne (tgt := 104) hx hb dX5_count_94 (by decide) (fun c9 => ?_) (fun c9 => ?_)
            · rw [if_neg c9] at h
              refine lv_aload_n hx hb dX5_count_104 rfl (lv_at hl 0 rfl) ?_
              refine g_get hC hP 2 dX5_count_105 (by decide) ge_23 rfl inX5 (by decide) rfl u_5_156 ?_
              cases h
              exact g_iret hC hP hS dX5_count_108 rfl
            · rw [if_pos c9] at h
              refine lv_aload_n hx hb dX5_count_97 rfl (lv_at hl 0 rfl) ?_
              refine g_get hC hP 5 dX5_count_98 (by decide) ge_23 rfl inX5 (by decide) rfl u_5_159 ?_
              refine lv_goto (tgt := 108) hx hb dX5_count_101 (by decide) ?_
              cases h
              exact g_iret hC hP hS dX5_count_108 rfl
          · rw [if_pos c8] at h
            refine lv_iload_n hx hb dX5_count_88 rfl (lv_at hl 2 rfl) ?_
            refine lv_goto (tgt := 108) hx hb dX5_count_89 (by decide) ?_
            cases h
            exact g_iret hC hP hS dX5_count_108 rfl
        · rw [if_pos c7] at h
          refine lv_aload_n hx hb dX5_count_71 rfl (lv_at hl 0 rfl) ?_
          obtain ⟨v10, hv, h⟩ := bd1_e h
          refine g_ki (g_runV (As := []) (rest := []) hC hP (c5_many l hv) (by decide) ge_23 rfl u_5_225 yv_X5_many (Nat.le_of_ble_eq_true rfl) rfl hl.1 rfl (Nat.le_of_ble_eq_true rfl) dX5_count_72 ⟨by decide, by decide⟩) hS (fun H locs hP hS => ?_)
          refine lv_aload_n hx hb dX5_count_75 rfl (lv_at hl 0 rfl) ?_
          obtain ⟨v11, hv, h⟩ := bd1_e h
          refine g_ki (g_runV (As := []) (rest := [.int v10]) hC hP (c5_unplaced l hv) (by decide) ge_23 rfl u_6_232 yv_X5_unplaced (Nat.le_of_ble_eq_true rfl) rfl hl.1 rfl (Nat.le_of_ble_eq_true rfl) dX5_count_76 ⟨by decide, by decide⟩) hS (fun H locs hP hS => ?_)
          refine lv_isub hx hb dX5_count_79 ?_
          refine lv_goto (tgt := 108) hx hb dX5_count_80 (by decide) ?_
          cases h
          exact g_iret hC hP hS dX5_count_108 rfl
      · rw [if_pos c6] at h
        refine lv_aload_n hx hb dX5_count_59 rfl (lv_at hl 0 rfl) ?_
        obtain ⟨v12, hv, h⟩ := bd1_e h
        refine g_ki (g_runV (As := []) (rest := []) hC hP (c5_many l hv) (by decide) ge_23 rfl u_5_225 yv_X5_many (Nat.le_of_ble_eq_true rfl) rfl hl.1 rfl (Nat.le_of_ble_eq_true rfl) dX5_count_60 ⟨by decide, by decide⟩) hS (fun H locs hP hS => ?_)
        refine lv_goto (tgt := 108) hx hb dX5_count_63 (by decide) ?_
        cases h
        exact g_iret hC hP hS dX5_count_108 rfl
    · rw [if_neg c2] at h
      refine lv_iconst (v := 0) hx hb dX5_count_25 (by decide) ?_
      cases h
      exact g_iret hC hP hS dX5_count_26 rfl
  refine lv_aload_n hx hb dX5_count_0 rfl (lv_at hl 0 rfl) ?_
  refine lv_iload_n hx hb dX5_count_1 rfl (lv_at hl 1 rfl) ?_
  refine lv_iconst (v := 0) hx hb dX5_count_2 (by decide) ?_
  refine lv_iconst (v := 4) hx hb dX5_count_3 (by decide) ?_
  obtain ⟨v13, hv, h⟩ := bd1_e h
  refine g_ki (g_runS (As := [.int x1, .int 0, .int 4]) (rest := [.ref (ad γ 23)]) hC hP (c5_in l hv) u_5_210 yv_X5_in (Nat.le_of_ble_eq_true rfl) rfl hl.1 rfl (Nat.le_of_ble_eq_true rfl) dX5_count_4 ⟨by decide, by decide⟩) hS (fun H locs hP hS => ?_)
  refine lv_if_eq (tgt := 14) hx hb dX5_count_7 (by decide) (fun c14 => ?_) (fun c14 => ?_)
  · rw [if_pos c14] at h
    refine lv_iconst (v := 1) hx hb dX5_count_14 (by decide) ?_
    exact J15 M 1 h _ _ _ hP hS (lv_sub hl [0, 1] rfl)
  · rw [if_neg c14] at h
    refine lv_iconst (v := 0) hx hb dX5_count_10 (by decide) ?_
    refine lv_goto (tgt := 15) hx hb dX5_count_11 (by decide) ?_
    exact J15 M 0 h _ _ _ hP hS (lv_sub hl [0, 1] rfl)
def r5_undo_j13 (M_13 : OS) (s0_13 : Int32)  : Option (Int32 × OS) :=
  (sw M_13 0 s0_13).bind fun M1 =>
  (if (M1 0 0) = 0 then bd1 (r5_copies M1 (M1 2 0) 0) (fun M3 =>
  (sw M3 2 ((M3 2 0) - 1)).bind fun M4 =>
  some ((M4 2 0), M4))
  else some (0, M1))
def r5_undo (M : OS) : Option (Int32 × OS) :=
  (if (M 2 0) = 0 then r5_undo_j13 M 1
  else r5_undo_j13 M 0)
theorem yv_X5_undo : gYV yX5_undo cX5_undo 1 (some .int) 0 := ⟨u_7_33, u_7_34, u_1_7, u_7_35, ⟨by decide +kernel, by decide +kernel, by decide +kernel⟩, by decide⟩
set_option maxHeartbeats 4000000 in
set_option maxRecDepth 100000 in
theorem c5_undo (l : Launch) {γ : GA} {sz : Nat} {T P X Y B M : OS} {E : Nat → OS} {O : Nat → Int64} {r0 : Int32} {Mz : OS} (h : r5_undo M = some (r0, Mz)) : Met l yX5_undo (gU yX5_undo cX5_undo 1 (some .int)) (gR 1 0 0) (gPc γ [.ref (ad γ 23)] sz (T, P, X, Y, E, B, M, O)) (gQi γ r0 sz (T, P, X, Y, E, B, Mz, O)) 0 0 (gA γ sz) := by
  refine g_met (fun sz => gQi γ r0 sz (T, P, X, Y, E, B, Mz, O)) (by decide) (Nat.le_of_ble_eq_true rfl) ?_
  intro p e s m args below meth c ls hC hP hS hl
  have hx := hC.x
  have hb := hC.b
  have hl : lv_has ls 1 [(0, .ref (ad γ 23))] := hl
  unfold r5_undo at h
  have J13 : ∀ (M_13 : OS) (s0_13 : Int32) (h : r5_undo_j13 M_13 s0_13 = some (r0, Mz)), ∀ (H : Heap) (locs : List Loc) (ls : Array Slot), va_P γ.1 vwCl (gw γ (T, P, X, Y, E, B, M_13, O)) H → va_S (gA γ s.heap.size) s.heap H locs → lv_has ls 1 [(0, .ref (ad γ 23))] → W p l e (gR 1 0 0) s m args below meth c H locs 0 0 (MQ below (gQi γ r0 s.heap.size (T, P, X, Y, E, B, Mz, O)) args s 0 0 (gA γ s.heap.size)) (F0 m 13 ls [.int s0_13, .ref (ad γ 23)]) := by
    intro M_13 s0_13 h H locs ls hP hS hl
    unfold r5_undo_j13 at h
    obtain ⟨M1, hv, h⟩ := ob h
    refine g_putI hC hP hS (fun Z => (T, P, X, Y, E, B, Z, O)) 0 tyX5 dX5_undo_13 (by decide) ge_23 rfl inX5 tyX5_ok nmX5 (by decide) u_5_154 rfl rfl (Nat.le_of_ble_eq_true rfl) gp_23_0 hv (fun H locs hP hS => ?_)
    refine lv_aload_n hx hb dX5_undo_16 rfl (lv_at hl 0 rfl) ?_
    refine g_get hC hP 0 dX5_undo_17 (by decide) ge_23 rfl inX5 (by decide) rfl u_5_154 ?_
    refine lv_if_eq (tgt := 25) hx hb dX5_undo_20 (by decide) (fun c2 => ?_) (fun c2 => ?_)
    · rw [if_pos c2] at h
      refine lv_aload_n hx hb dX5_undo_25 rfl (lv_at hl 0 rfl) ?_
      refine lv_aload_n hx hb dX5_undo_26 rfl (lv_at hl 0 rfl) ?_
      refine g_get hC hP 2 dX5_undo_27 (by decide) ge_23 rfl inX5 (by decide) rfl u_5_156 ?_
      refine lv_iconst (v := 0) hx hb dX5_undo_30 (by decide) ?_
      obtain ⟨M3, hv, h⟩ := bd1_e h
      refine g_kv (g_runV (As := [.int (M1 2 0), .int 0]) (rest := []) hC hP (c5_copies l hv) (by decide) ge_23 rfl u_5_217 yv_X5_copies (Nat.le_of_ble_eq_true rfl) rfl hl.1 rfl (Nat.le_of_ble_eq_true rfl) dX5_undo_31 ⟨by decide, by decide⟩) hS (fun H locs hP hS => ?_)
      refine lv_aload_n hx hb dX5_undo_34 rfl (lv_at hl 0 rfl) ?_
      refine lv_dup hx hb dX5_undo_35 rfl ?_
      refine g_get hC hP 2 dX5_undo_36 (by decide) ge_23 rfl inX5 (by decide) rfl u_5_156 ?_
      refine lv_iconst (v := 1) hx hb dX5_undo_39 (by decide) ?_
      refine lv_isub hx hb dX5_undo_40 ?_
      obtain ⟨M4, hv, h⟩ := ob h
      refine g_putI hC hP hS (fun Z => (T, P, X, Y, E, B, Z, O)) 2 tyX5 dX5_undo_41 (by decide) ge_23 rfl inX5 tyX5_ok nmX5 (by decide) u_5_156 rfl rfl (Nat.le_of_ble_eq_true rfl) gp_23_2 hv (fun H locs hP hS => ?_)
      refine lv_aload_n hx hb dX5_undo_44 rfl (lv_at hl 0 rfl) ?_
      refine g_get hC hP 2 dX5_undo_45 (by decide) ge_23 rfl inX5 (by decide) rfl u_5_156 ?_
      cases h
      exact g_iret hC hP hS dX5_undo_48 rfl
    · rw [if_neg c2] at h
      refine lv_iconst (v := 0) hx hb dX5_undo_23 (by decide) ?_
      cases h
      exact g_iret hC hP hS dX5_undo_24 rfl
  refine lv_aload_n hx hb dX5_undo_0 rfl (lv_at hl 0 rfl) ?_
  refine lv_aload_n hx hb dX5_undo_1 rfl (lv_at hl 0 rfl) ?_
  refine g_get hC hP 2 dX5_undo_2 (by decide) ge_23 rfl inX5 (by decide) rfl u_5_156 ?_
  refine lv_if_ne (tgt := 12) hx hb dX5_undo_5 (by decide) (fun c5 => ?_) (fun c5 => ?_)
  · rw [if_neg c5] at h
    refine lv_iconst (v := 0) hx hb dX5_undo_12 (by decide) ?_
    exact J13 M 0 h _ _ _ hP hS (lv_sub hl [0] rfl)
  · rw [if_pos c5] at h
    refine lv_iconst (v := 1) hx hb dX5_undo_8 (by decide) ?_
    refine lv_goto (tgt := 13) hx hb dX5_undo_9 (by decide) ?_
    exact J13 M 1 h _ _ _ hP hS (lv_sub hl [0] rfl)
def r5_save (M : OS) : Option (Int32 × OS) :=
  (sw M 0 0).bind fun M1 =>
  (zz 1).bind fun v3 =>
  (sw M1 3 v3).bind fun M2 =>
  bd1 (r5_copies M2 0 7) (fun M4 =>
  bd1 (r5_many M4) (fun v5 =>
  some (v5, M4)))
theorem yv_X5_save : gYV yX5_save cX5_save 1 (some .int) 0 := ⟨u_7_37, u_7_38, u_1_7, u_7_39, ⟨by decide +kernel, by decide +kernel, by decide +kernel⟩, by decide⟩
set_option maxHeartbeats 4000000 in
set_option maxRecDepth 100000 in
theorem c5_save (l : Launch) {γ : GA} {sz : Nat} {T P X Y B M : OS} {E : Nat → OS} {O : Nat → Int64} {r0 : Int32} {Mz : OS} (h : r5_save M = some (r0, Mz)) : Met l yX5_save (gU yX5_save cX5_save 1 (some .int)) (gR 1 0 0) (gPc γ [.ref (ad γ 23)] sz (T, P, X, Y, E, B, M, O)) (gQi γ r0 sz (T, P, X, Y, E, B, Mz, O)) 0 0 (gA γ sz) := by
  refine g_met (fun sz => gQi γ r0 sz (T, P, X, Y, E, B, Mz, O)) (by decide) (Nat.le_of_ble_eq_true rfl) ?_
  intro p e s m args below meth c ls hC hP hS hl
  have hx := hC.x
  have hb := hC.b
  have hl : lv_has ls 1 [(0, .ref (ad γ 23))] := hl
  unfold r5_save at h
  refine lv_aload_n hx hb dX5_save_0 rfl (lv_at hl 0 rfl) ?_
  refine lv_iconst (v := 0) hx hb dX5_save_1 (by decide) ?_
  obtain ⟨M1, hv, h⟩ := ob h
  refine g_putI hC hP hS (fun Z => (T, P, X, Y, E, B, Z, O)) 0 tyX5 dX5_save_2 (by decide) ge_23 rfl inX5 tyX5_ok nmX5 (by decide) u_5_154 rfl rfl (Nat.le_of_ble_eq_true rfl) gp_23_0 hv (fun H locs hP hS => ?_)
  refine lv_aload_n hx hb dX5_save_5 rfl (lv_at hl 0 rfl) ?_
  refine lv_iconst (v := 1) hx hb dX5_save_6 (by decide) ?_
  obtain ⟨v3, hz, h⟩ := ob h
  obtain ⟨M2, hv, h⟩ := ob h
  refine g_putZ hC hP hS (fun Z => (T, P, X, Y, E, B, Z, O)) 3 tyX5 dX5_save_7 (by decide) ge_23 rfl inX5 tyX5_ok nmX5 (by decide) u_5_157 rfl rfl (Nat.le_of_ble_eq_true rfl) gp_23_3 hz hv (fun H locs hP hS => ?_)
  refine lv_aload_n hx hb dX5_save_10 rfl (lv_at hl 0 rfl) ?_
  refine lv_iconst (v := 0) hx hb dX5_save_11 (by decide) ?_
  refine lv_bipush (v := 7) hx hb dX5_save_12 (by decide) ?_
  obtain ⟨M4, hv, h⟩ := bd1_e h
  refine g_kv (g_runV (As := [.int 0, .int 7]) (rest := []) hC hP (c5_copies l hv) (by decide) ge_23 rfl u_5_217 yv_X5_copies (Nat.le_of_ble_eq_true rfl) rfl hl.1 rfl (Nat.le_of_ble_eq_true rfl) dX5_save_14 ⟨by decide, by decide⟩) hS (fun H locs hP hS => ?_)
  refine lv_aload_n hx hb dX5_save_17 rfl (lv_at hl 0 rfl) ?_
  obtain ⟨v5, hv, h⟩ := bd1_e h
  refine g_ki (g_runV (As := []) (rest := []) hC hP (c5_many l hv) (by decide) ge_23 rfl u_5_225 yv_X5_many (Nat.le_of_ble_eq_true rfl) rfl hl.1 rfl (Nat.le_of_ble_eq_true rfl) dX5_save_18 ⟨by decide, by decide⟩) hS (fun H locs hP hS => ?_)
  cases h
  exact g_iret hC hP hS dX5_save_21 rfl
def r5_restore_j13 (M_13 : OS) (s0_13 : Int32)  : Option (Int32 × OS) :=
  (sw M_13 0 s0_13).bind fun M1 =>
  (if (M1 0 0) = 0 then bd1 (r5_keeps M1) (fun M3 =>
  bd1 (r5_copies M3 7 0) (fun M4 =>
  bd1 (r5_many M4) (fun v5 =>
  some (v5, M4))))
  else some (0, M1))
def r5_restore (M : OS) : Option (Int32 × OS) :=
  (if (M 3 0) = 0 then r5_restore_j13 M 1
  else r5_restore_j13 M 0)
theorem yv_X5_restore : gYV yX5_restore cX5_restore 1 (some .int) 0 := ⟨u_7_41, u_7_42, u_1_7, u_7_43, ⟨by decide +kernel, by decide +kernel, by decide +kernel⟩, by decide⟩
set_option maxHeartbeats 4000000 in
set_option maxRecDepth 100000 in
theorem c5_restore (l : Launch) {γ : GA} {sz : Nat} {T P X Y B M : OS} {E : Nat → OS} {O : Nat → Int64} {r0 : Int32} {Mz : OS} (h : r5_restore M = some (r0, Mz)) : Met l yX5_restore (gU yX5_restore cX5_restore 1 (some .int)) (gR 2 0 0) (gPc γ [.ref (ad γ 23)] sz (T, P, X, Y, E, B, M, O)) (gQi γ r0 sz (T, P, X, Y, E, B, Mz, O)) 0 0 (gA γ sz) := by
  refine g_met (fun sz => gQi γ r0 sz (T, P, X, Y, E, B, Mz, O)) (by decide) (Nat.le_of_ble_eq_true rfl) ?_
  intro p e s m args below meth c ls hC hP hS hl
  have hx := hC.x
  have hb := hC.b
  have hl : lv_has ls 1 [(0, .ref (ad γ 23))] := hl
  unfold r5_restore at h
  have J13 : ∀ (M_13 : OS) (s0_13 : Int32) (h : r5_restore_j13 M_13 s0_13 = some (r0, Mz)), ∀ (H : Heap) (locs : List Loc) (ls : Array Slot), va_P γ.1 vwCl (gw γ (T, P, X, Y, E, B, M_13, O)) H → va_S (gA γ s.heap.size) s.heap H locs → lv_has ls 1 [(0, .ref (ad γ 23))] → W p l e (gR 2 0 0) s m args below meth c H locs 0 0 (MQ below (gQi γ r0 s.heap.size (T, P, X, Y, E, B, Mz, O)) args s 0 0 (gA γ s.heap.size)) (F0 m 13 ls [.int s0_13, .ref (ad γ 23)]) := by
    intro M_13 s0_13 h H locs ls hP hS hl
    unfold r5_restore_j13 at h
    obtain ⟨M1, hv, h⟩ := ob h
    refine g_putI hC hP hS (fun Z => (T, P, X, Y, E, B, Z, O)) 0 tyX5 dX5_restore_13 (by decide) ge_23 rfl inX5 tyX5_ok nmX5 (by decide) u_5_154 rfl rfl (Nat.le_of_ble_eq_true rfl) gp_23_0 hv (fun H locs hP hS => ?_)
    refine lv_aload_n hx hb dX5_restore_16 rfl (lv_at hl 0 rfl) ?_
    refine g_get hC hP 0 dX5_restore_17 (by decide) ge_23 rfl inX5 (by decide) rfl u_5_154 ?_
    refine lv_if_eq (tgt := 25) hx hb dX5_restore_20 (by decide) (fun c2 => ?_) (fun c2 => ?_)
    · rw [if_pos c2] at h
      refine lv_aload_n hx hb dX5_restore_25 rfl (lv_at hl 0 rfl) ?_
      obtain ⟨M3, hv, h⟩ := bd1_e h
      refine g_kv (g_runV (As := []) (rest := []) hC hP (c5_keeps l hv) (by decide) ge_23 rfl u_5_213 yv_X5_keeps (Nat.le_of_ble_eq_true rfl) rfl hl.1 rfl (Nat.le_of_ble_eq_true rfl) dX5_restore_26 ⟨by decide, by decide⟩) hS (fun H locs hP hS => ?_)
      refine lv_aload_n hx hb dX5_restore_29 rfl (lv_at hl 0 rfl) ?_
      refine lv_bipush (v := 7) hx hb dX5_restore_30 (by decide) ?_
      refine lv_iconst (v := 0) hx hb dX5_restore_32 (by decide) ?_
      obtain ⟨M4, hv, h⟩ := bd1_e h
      refine g_kv (g_runV (As := [.int 7, .int 0]) (rest := []) hC hP (c5_copies l hv) (by decide) ge_23 rfl u_5_217 yv_X5_copies (Nat.le_of_ble_eq_true rfl) rfl hl.1 rfl (Nat.le_of_ble_eq_true rfl) dX5_restore_33 ⟨by decide, by decide⟩) hS (fun H locs hP hS => ?_)
      refine lv_aload_n hx hb dX5_restore_36 rfl (lv_at hl 0 rfl) ?_
      obtain ⟨v5, hv, h⟩ := bd1_e h
      refine g_ki (g_runV (As := []) (rest := []) hC hP (c5_many l hv) (by decide) ge_23 rfl u_5_225 yv_X5_many (Nat.le_of_ble_eq_true rfl) rfl hl.1 rfl (Nat.le_of_ble_eq_true rfl) dX5_restore_37 ⟨by decide, by decide⟩) hS (fun H locs hP hS => ?_)
      cases h
      exact g_iret hC hP hS dX5_restore_40 rfl
    · rw [if_neg c2] at h
      refine lv_iconst (v := 0) hx hb dX5_restore_23 (by decide) ?_
      cases h
      exact g_iret hC hP hS dX5_restore_24 rfl
  refine lv_aload_n hx hb dX5_restore_0 rfl (lv_at hl 0 rfl) ?_
  refine lv_aload_n hx hb dX5_restore_1 rfl (lv_at hl 0 rfl) ?_
  refine g_get hC hP 3 dX5_restore_2 (by decide) ge_23 rfl inX5 (by decide) rfl u_5_157 ?_
  refine lv_if_eq (tgt := 12) hx hb dX5_restore_5 (by decide) (fun c6 => ?_) (fun c6 => ?_)
  · rw [if_pos c6] at h
    refine lv_iconst (v := 1) hx hb dX5_restore_12 (by decide) ?_
    exact J13 M 1 h _ _ _ hP hS (lv_sub hl [0] rfl)
  · rw [if_neg c6] at h
    refine lv_iconst (v := 0) hx hb dX5_restore_8 (by decide) ?_
    refine lv_goto (tgt := 13) hx hb dX5_restore_9 (by decide) ?_
    exact J13 M 0 h _ _ _ hP hS (lv_sub hl [0] rfl)
