def rL_addEvent (T : OS) (X : OS) (Y : OS) (E : Nat → OS) (O : Nat → Int64) : Option (Int32 × OS × OS × OS × (Nat → OS) × (Nat → Int64)) :=
  bd5 (r4_addEvent T X Y E) (fun o T1 X1 Y1 E1 => bx o (fun k => if k = 1 then some (1, T1, X1, Y1, E1, O) else if k = 2 then some (2, T1, X1, Y1, E1, O) else none) (fun v => some (0, T1, X1, Y1, E1, (vp_updL O 0 v.toInt64))))
theorem yw_L_addEvent : gYW yL_addEvent cL_addEvent 3 (some .int) [(0, 8, 11, 15), (0, 8, 14, 34)] 2 := ⟨u_3_59, u_1_0, u_3_60, ⟨by decide +kernel, by decide +kernel, by decide +kernel⟩, by decide⟩
set_option maxHeartbeats 4000000 in
set_option maxRecDepth 100000 in
theorem tL_addEvent (l : Launch) (hst : l.stackTraces = false) {γ : GA} {sz : Nat} {T P X Y B M : OS} {E : Nat → OS} {O : Nat → Int64} {r0 : Int32} {Tz : OS} {Xz : OS} {Yz : OS} {Ez : Nat → OS} {Oz : Nat → Int64} (h : rL_addEvent T X Y E O = some (r0, Tz, Xz, Yz, Ez, Oz)) : vx_Met l yL_addEvent (gUW yL_addEvent cL_addEvent 3 (some .int) [(0, 8, 11, 15), (0, 8, 14, 34)]) (gR 8 2 12) (gPx γ [.ref (ad γ 0), .ref (ad γ 30)] sz (T, P, X, Y, E, B, M, O)) (gQxi γ (.inr r0) sz (Tz, P, Xz, Yz, Ez, B, M, Oz)) (gXC γ (.inr r0 : Nat ⊕ Int32) sz (Tz, P, Xz, Yz, Ez, B, M, Oz)) 2 12 (gA γ sz) := by
  refine g_metw (fun sz => gQxi γ (.inr r0) sz (Tz, P, Xz, Yz, Ez, B, M, Oz)) (fun sz => gXC γ (.inr r0 : Nat ⊕ Int32) sz (Tz, P, Xz, Yz, Ez, B, M, Oz)) (by decide) (Nat.le_of_ble_eq_true rfl) ?_
  intro p e s m args below meth c ls hC hZ ht hP hS hl
  have hx := hC.x
  have hb := hC.b
  have hl : lv_has ls 3 [(0, .ref (ad γ 0)), (1, .ref (ad γ 30))] := hl
  unfold rL_addEvent at h
  obtain ⟨o, T1, X1, Y1, E1, hv, h⟩ := bd5_e h
  refine lv_aload_n hx hb dL_addEvent_0 rfl (lv_at hl 1 rfl) ?_
  refine lv_iconst (v := 0) hx hb dL_addEvent_1 (by decide) ?_
  refine lv_aload_n hx hb dL_addEvent_2 rfl (lv_at hl 0 rfl) ?_
  rcases o with k | v
  · have h := bx_l h
    by_cases k0 : k = 1
    · rw [if_pos k0] at h
      subst k0
      cases h
      refine g_wki (g_wrunV (As := []) (rest := [.int 0, .ref (ad γ 30)]) hC hZ hP hS (c4_addEvent l hst hv) (by decide) ge_0 rfl u_3_61 yv_X4_addEvent (Nat.le_of_ble_eq_true rfl) rfl hl.1 rfl (Nat.le_of_ble_eq_true rfl) dL_addEvent_3 ⟨by decide, by decide⟩) hS (fun H locs ce q hP hS hce hcv hcl => ?_)
      refine vx_catch (E := exn 1) (name := exn 1) hC.o ([] : List ExceptionTableEntry) (⟨0, 8, 11, 15⟩ : ExceptionTableEntry) [(⟨0, 8, 14, 34⟩ : ExceptionTableEntry)] ht (fun z hz => nomatch hz) (by decide) (by decide) (hC.w u_2_128) (va_Nw.use rfl (hC.2.1.2.2.2.1 1 (by decide))) hce hcv hcl ?_
      refine lv_astore_n (lv' := [(2, .ref q), (0, .ref (ad γ 0)), (1, .ref (ad γ 30))]) hx hb dL_addEvent_11 rfl hl (by decide) rfl (fun ls hl => ?_)
      refine lv_iconst (v := 1) hx hb dL_addEvent_12 (by decide) ?_
      refine W.widen (k := 2) (n := 12) (by decide) (by decide) ?_
      exact g_xiret hC hP hS dL_addEvent_13 rfl
    rw [if_neg k0] at h
    by_cases k1 : k = 2
    · rw [if_pos k1] at h
      subst k1
      cases h
      refine g_wki (g_wrunV (As := []) (rest := [.int 0, .ref (ad γ 30)]) hC hZ hP hS (c4_addEvent l hst hv) (by decide) ge_0 rfl u_3_61 yv_X4_addEvent (Nat.le_of_ble_eq_true rfl) rfl hl.1 rfl (Nat.le_of_ble_eq_true rfl) dL_addEvent_3 ⟨by decide, by decide⟩) hS (fun H locs ce q hP hS hce hcv hcl => ?_)
      refine vx_catch (E := exn 2) (name := exn 2) hC.o ([(⟨0, 8, 11, 15⟩ : ExceptionTableEntry)] : List ExceptionTableEntry) (⟨0, 8, 14, 34⟩ : ExceptionTableEntry) [] ht (List.forall_mem_cons.mpr ⟨Or.inr ⟨by decide, exn 1, hC.w u_2_128, hC.2.1.2.2.2.2.1 2 (by decide) 1 (by decide) (by decide)⟩, fun z hz => nomatch hz⟩) (by decide) (by decide) (hC.w u_3_25) (va_Nw.use rfl (hC.2.1.2.2.2.1 2 (by decide))) hce hcv hcl ?_
      refine lv_astore_n (lv' := [(2, .ref q), (0, .ref (ad γ 0)), (1, .ref (ad γ 30))]) hx hb dL_addEvent_14 rfl hl (by decide) rfl (fun ls hl => ?_)
      refine lv_iconst (v := 2) hx hb dL_addEvent_15 (by decide) ?_
      refine W.widen (k := 2) (n := 12) (by decide) (by decide) ?_
      exact g_xiret hC hP hS dL_addEvent_16 rfl
    rw [if_neg k1] at h
    cases h
  have h := bx_r h
  cases h
  refine g_xki (g_wrunV (As := []) (rest := [.int 0, .ref (ad γ 30)]) hC hZ hP hS (c4_addEvent l hst hv) (by decide) ge_0 rfl u_3_61 yv_X4_addEvent (Nat.le_of_ble_eq_true rfl) rfl hl.1 rfl (Nat.le_of_ble_eq_true rfl) dL_addEvent_3 ⟨by decide, by decide⟩) hS (fun H locs hP hS => ?_)
  refine lv_i2l (v := v.toInt64) hx hb dL_addEvent_6 rfl ?_
  refine g_lst hC hP hS dL_addEvent_7 (fun H locs hP hS => ?_)
  refine lv_goto (tgt := 17) hx hb dL_addEvent_8 (by decide) ?_
  refine lv_iconst (v := 0) hx hb dL_addEvent_17 (by decide) ?_
  refine W.widen (k := 2) (n := 12) (by decide) (by decide) ?_
  exact g_xiret hC hP hS dL_addEvent_18 rfl
def rL_append (X : OS) (O : Nat → Int64) (x1 : Int32) : Option (Int32 × OS × (Nat → Int64)) :=
  bd2 (r4_append X x1) (fun o X1 => bx o (fun k => if k = 1 then some (1, X1, O) else if k = 2 then some (2, X1, O) else none) (fun v => some (0, X1, (vp_updL O 0 v.toInt64))))
theorem yw_L_append : gYW yL_append cL_append 4 (some .int) [(0, 9, 12, 15), (0, 9, 15, 34)] 3 := ⟨u_3_23, u_1_0, u_3_24, ⟨by decide +kernel, by decide +kernel, by decide +kernel⟩, by decide⟩
set_option maxHeartbeats 4000000 in
set_option maxRecDepth 100000 in
theorem tL_append (l : Launch) (hst : l.stackTraces = false) {γ : GA} {sz : Nat} {T P X Y B M : OS} {E : Nat → OS} {O : Nat → Int64} {x1 : Int32} {r0 : Int32} {Xz : OS} {Oz : Nat → Int64} (h : rL_append X O x1 = some (r0, Xz, Oz)) : vx_Met l yL_append (gUW yL_append cL_append 4 (some .int) [(0, 9, 12, 15), (0, 9, 15, 34)]) (gR 7 2 12) (gPx γ [.ref (ad γ 0), .int x1, .ref (ad γ 30)] sz (T, P, X, Y, E, B, M, O)) (gQxi γ (.inr r0) sz (T, P, Xz, Y, E, B, M, Oz)) (gXC γ (.inr r0 : Nat ⊕ Int32) sz (T, P, Xz, Y, E, B, M, Oz)) 2 12 (gA γ sz) := by
  refine g_metw (fun sz => gQxi γ (.inr r0) sz (T, P, Xz, Y, E, B, M, Oz)) (fun sz => gXC γ (.inr r0 : Nat ⊕ Int32) sz (T, P, Xz, Y, E, B, M, Oz)) (by decide) (Nat.le_of_ble_eq_true rfl) ?_
  intro p e s m args below meth c ls hC hZ ht hP hS hl
  have hx := hC.x
  have hb := hC.b
  have hl : lv_has ls 4 [(0, .ref (ad γ 0)), (1, .int x1), (2, .ref (ad γ 30))] := hl
  unfold rL_append at h
  obtain ⟨o, X1, hv, h⟩ := bd2_e h
  refine lv_aload_n hx hb dL_append_0 rfl (lv_at hl 2 rfl) ?_
  refine lv_iconst (v := 0) hx hb dL_append_1 (by decide) ?_
  refine lv_aload_n hx hb dL_append_2 rfl (lv_at hl 0 rfl) ?_
  refine lv_iload_n hx hb dL_append_3 rfl (lv_at hl 1 rfl) ?_
  rcases o with k | v
  · have h := bx_l h
    by_cases k0 : k = 1
    · rw [if_pos k0] at h
      subst k0
      cases h
      refine g_wki (g_wrunV (As := [.int x1]) (rest := [.int 0, .ref (ad γ 30)]) hC hZ hP hS (c4_append l hst hv) (by decide) ge_0 rfl u_3_26 yv_X4_append (Nat.le_of_ble_eq_true rfl) rfl hl.1 rfl (Nat.le_of_ble_eq_true rfl) dL_append_4 ⟨by decide, by decide⟩) hS (fun H locs ce q hP hS hce hcv hcl => ?_)
      refine vx_catch (E := exn 1) (name := exn 1) hC.o ([] : List ExceptionTableEntry) (⟨0, 9, 12, 15⟩ : ExceptionTableEntry) [(⟨0, 9, 15, 34⟩ : ExceptionTableEntry)] ht (fun z hz => nomatch hz) (by decide) (by decide) (hC.w u_2_128) (va_Nw.use rfl (hC.2.1.2.2.2.1 1 (by decide))) hce hcv hcl ?_
      refine lv_astore_n (lv' := [(3, .ref q), (0, .ref (ad γ 0)), (1, .int x1), (2, .ref (ad γ 30))]) hx hb dL_append_12 rfl hl (by decide) rfl (fun ls hl => ?_)
      refine lv_iconst (v := 1) hx hb dL_append_13 (by decide) ?_
      refine W.widen (k := 2) (n := 12) (by decide) (by decide) ?_
      exact g_xiret hC hP hS dL_append_14 rfl
    rw [if_neg k0] at h
    by_cases k1 : k = 2
    · rw [if_pos k1] at h
      subst k1
      cases h
      refine g_wki (g_wrunV (As := [.int x1]) (rest := [.int 0, .ref (ad γ 30)]) hC hZ hP hS (c4_append l hst hv) (by decide) ge_0 rfl u_3_26 yv_X4_append (Nat.le_of_ble_eq_true rfl) rfl hl.1 rfl (Nat.le_of_ble_eq_true rfl) dL_append_4 ⟨by decide, by decide⟩) hS (fun H locs ce q hP hS hce hcv hcl => ?_)
      refine vx_catch (E := exn 2) (name := exn 2) hC.o ([(⟨0, 9, 12, 15⟩ : ExceptionTableEntry)] : List ExceptionTableEntry) (⟨0, 9, 15, 34⟩ : ExceptionTableEntry) [] ht (List.forall_mem_cons.mpr ⟨Or.inr ⟨by decide, exn 1, hC.w u_2_128, hC.2.1.2.2.2.2.1 2 (by decide) 1 (by decide) (by decide)⟩, fun z hz => nomatch hz⟩) (by decide) (by decide) (hC.w u_3_25) (va_Nw.use rfl (hC.2.1.2.2.2.1 2 (by decide))) hce hcv hcl ?_
      refine lv_astore_n (lv' := [(3, .ref q), (0, .ref (ad γ 0)), (1, .int x1), (2, .ref (ad γ 30))]) hx hb dL_append_15 rfl hl (by decide) rfl (fun ls hl => ?_)
      refine lv_iconst (v := 2) hx hb dL_append_16 (by decide) ?_
      refine W.widen (k := 2) (n := 12) (by decide) (by decide) ?_
      exact g_xiret hC hP hS dL_append_17 rfl
    rw [if_neg k1] at h
    cases h
  have h := bx_r h
  cases h
  refine g_xki (g_wrunV (As := [.int x1]) (rest := [.int 0, .ref (ad γ 30)]) hC hZ hP hS (c4_append l hst hv) (by decide) ge_0 rfl u_3_26 yv_X4_append (Nat.le_of_ble_eq_true rfl) rfl hl.1 rfl (Nat.le_of_ble_eq_true rfl) dL_append_4 ⟨by decide, by decide⟩) hS (fun H locs hP hS => ?_)
  refine lv_i2l (v := v.toInt64) hx hb dL_append_7 rfl ?_
  refine g_lst hC hP hS dL_append_8 (fun H locs hP hS => ?_)
  refine lv_goto (tgt := 18) hx hb dL_append_9 (by decide) ?_
  refine lv_iconst (v := 0) hx hb dL_append_18 (by decide) ?_
  refine W.widen (k := 2) (n := 12) (by decide) (by decide) ?_
  exact g_xiret hC hP hS dL_append_19 rfl
def rL_at (T : OS) (O : Nat → Int64) (x1 : Int32) (x2 : Int32) : Option (Int32 × (Nat → Int64)) :=
  bd1 (r4_at T x1 x2) (fun o => bx o (fun k => if k = 0 then some (1, O) else if k = 4 then some (2, O) else none) (fun v => some (0, (vp_updL O 0 v.toInt64))))
theorem yw_L_at : gYW yL_at cL_at 5 (some .int) [(0, 10, 13, 13), (0, 10, 17, 73)] 4 := ⟨u_4_187, u_1_0, u_4_188, ⟨by decide +kernel, by decide +kernel, by decide +kernel⟩, by decide⟩
set_option maxHeartbeats 4000000 in
set_option maxRecDepth 100000 in
theorem tL_at (l : Launch) (hst : l.stackTraces = false) {γ : GA} {sz : Nat} {T P X Y B M : OS} {E : Nat → OS} {O : Nat → Int64} {x1 : Int32} {x2 : Int32} {r0 : Int32} {Oz : Nat → Int64} (h : rL_at T O x1 x2 = some (r0, Oz)) : vx_Met l yL_at (gUW yL_at cL_at 5 (some .int) [(0, 10, 13, 13), (0, 10, 17, 73)]) (gR 8 3 18) (gPx γ [.ref (ad γ 0), .int x1, .int x2, .ref (ad γ 30)] sz (T, P, X, Y, E, B, M, O)) (gQxi γ (.inr r0) sz (T, P, X, Y, E, B, M, Oz)) (gXC γ (.inr r0 : Nat ⊕ Int32) sz (T, P, X, Y, E, B, M, Oz)) 3 18 (gA γ sz) := by
  refine g_metw (fun sz => gQxi γ (.inr r0) sz (T, P, X, Y, E, B, M, Oz)) (fun sz => gXC γ (.inr r0 : Nat ⊕ Int32) sz (T, P, X, Y, E, B, M, Oz)) (by decide) (Nat.le_of_ble_eq_true rfl) ?_
  intro p e s m args below meth c ls hC hZ ht hP hS hl
  have hx := hC.x
  have hb := hC.b
  have hl : lv_has ls 5 [(0, .ref (ad γ 0)), (1, .int x1), (2, .int x2), (3, .ref (ad γ 30))] := hl
  unfold rL_at at h
  obtain ⟨o, hv, h⟩ := bd1_e h
  refine lv_aload_n hx hb dL_at_0 rfl (lv_at hl 3 rfl) ?_
  refine lv_iconst (v := 0) hx hb dL_at_1 (by decide) ?_
  refine lv_aload_n hx hb dL_at_2 rfl (lv_at hl 0 rfl) ?_
  refine lv_iload_n hx hb dL_at_3 rfl (lv_at hl 1 rfl) ?_
  refine lv_iload_n hx hb dL_at_4 rfl (lv_at hl 2 rfl) ?_
  rcases o with k | v
  · have h := bx_l h
    by_cases k0 : k = 0
    · rw [if_pos k0] at h
      subst k0
      cases h
      refine g_wki (g_wrunV (As := [.int x1, .int x2]) (rest := [.int 0, .ref (ad γ 30)]) hC hZ hP hS (c4_at l hst hv) (by decide) ge_0 rfl u_4_189 yv_X4_at (Nat.le_of_ble_eq_true rfl) rfl hl.1 rfl (Nat.le_of_ble_eq_true rfl) dL_at_5 ⟨by decide, by decide⟩) hS (fun H locs ce q hP hS hce hcv hcl => ?_)
      refine vx_catch (E := exn 0) (name := exn 0) hC.o ([] : List ExceptionTableEntry) (⟨0, 10, 13, 13⟩ : ExceptionTableEntry) [(⟨0, 10, 17, 73⟩ : ExceptionTableEntry)] ht (fun z hz => nomatch hz) (by decide) (by decide) (hC.w u_2_127) (va_Nw.use rfl (hC.2.1.2.2.2.1 0 (by decide))) hce hcv hcl ?_
      refine lv_astore (lv' := [(4, .ref q), (0, .ref (ad γ 0)), (1, .int x1), (2, .int x2), (3, .ref (ad γ 30))]) hx hb dL_at_13 hl (by decide) rfl (fun ls hl => ?_)
      refine lv_iconst (v := 1) hx hb dL_at_15 (by decide) ?_
      refine W.widen (k := 3) (n := 18) (by decide) (by decide) ?_
      exact g_xiret hC hP hS dL_at_16 rfl
    rw [if_neg k0] at h
    by_cases k1 : k = 4
    · rw [if_pos k1] at h
      subst k1
      cases h
      refine g_wki (g_wrunV (As := [.int x1, .int x2]) (rest := [.int 0, .ref (ad γ 30)]) hC hZ hP hS (c4_at l hst hv) (by decide) ge_0 rfl u_4_189 yv_X4_at (Nat.le_of_ble_eq_true rfl) rfl hl.1 rfl (Nat.le_of_ble_eq_true rfl) dL_at_5 ⟨by decide, by decide⟩) hS (fun H locs ce q hP hS hce hcv hcl => ?_)
      refine vx_catch (E := exn 4) (name := exn 4) hC.o ([(⟨0, 10, 13, 13⟩ : ExceptionTableEntry)] : List ExceptionTableEntry) (⟨0, 10, 17, 73⟩ : ExceptionTableEntry) [] ht (List.forall_mem_cons.mpr ⟨Or.inr ⟨by decide, exn 0, hC.w u_2_127, hC.2.1.2.2.2.2.1 4 (by decide) 0 (by decide) (by decide)⟩, fun z hz => nomatch hz⟩) (by decide) (by decide) (hC.w u_4_157) (va_Nw.use rfl (hC.2.1.2.2.2.1 4 (by decide))) hce hcv hcl ?_
      refine lv_astore (lv' := [(4, .ref q), (0, .ref (ad γ 0)), (1, .int x1), (2, .int x2), (3, .ref (ad γ 30))]) hx hb dL_at_17 hl (by decide) rfl (fun ls hl => ?_)
      refine lv_iconst (v := 2) hx hb dL_at_19 (by decide) ?_
      refine W.widen (k := 3) (n := 18) (by decide) (by decide) ?_
      exact g_xiret hC hP hS dL_at_20 rfl
    rw [if_neg k1] at h
    cases h
  have h := bx_r h
  cases h
  refine g_xki (g_wrunV (As := [.int x1, .int x2]) (rest := [.int 0, .ref (ad γ 30)]) hC hZ hP hS (c4_at l hst hv) (by decide) ge_0 rfl u_4_189 yv_X4_at (Nat.le_of_ble_eq_true rfl) rfl hl.1 rfl (Nat.le_of_ble_eq_true rfl) dL_at_5 ⟨by decide, by decide⟩) hS (fun H locs hP hS => ?_)
  refine lv_i2l (v := v.toInt64) hx hb dL_at_8 rfl ?_
  refine g_lst hC hP hS dL_at_9 (fun H locs hP hS => ?_)
  refine lv_goto (tgt := 21) hx hb dL_at_10 (by decide) ?_
  refine lv_iconst (v := 0) hx hb dL_at_21 (by decide) ?_
  refine W.widen (k := 3) (n := 18) (by decide) (by decide) ?_
  exact g_xiret hC hP hS dL_at_22 rfl
def rL_chain (T : OS) (O : Nat → Int64) (x1 : Int32) (x2 : Int32) : Option (Int32 × (Nat → Int64)) :=
  bd1 (r4_chain T x1 x2) (fun o => bx o (fun k => if k = 0 then some (1, O) else if k = 2 then some (2, O) else none) (fun v => some (0, (vp_updL O 0 v.toInt64))))
theorem yw_L_chain : gYW yL_chain cL_chain 5 (some .int) [(0, 10, 13, 13), (0, 10, 17, 34)] 4 := ⟨u_5_42, u_1_0, u_5_43, ⟨by decide +kernel, by decide +kernel, by decide +kernel⟩, by decide⟩
set_option maxHeartbeats 4000000 in
set_option maxRecDepth 100000 in
theorem tL_chain (l : Launch) (hst : l.stackTraces = false) {γ : GA} {sz : Nat} {T P X Y B M : OS} {E : Nat → OS} {O : Nat → Int64} {x1 : Int32} {x2 : Int32} {r0 : Int32} {Oz : Nat → Int64} (h : rL_chain T O x1 x2 = some (r0, Oz)) : vx_Met l yL_chain (gUW yL_chain cL_chain 5 (some .int) [(0, 10, 13, 13), (0, 10, 17, 34)]) (gR 8 4 24) (gPx γ [.ref (ad γ 0), .int x1, .int x2, .ref (ad γ 30)] sz (T, P, X, Y, E, B, M, O)) (gQxi γ (.inr r0) sz (T, P, X, Y, E, B, M, Oz)) (gXC γ (.inr r0 : Nat ⊕ Int32) sz (T, P, X, Y, E, B, M, Oz)) 4 24 (gA γ sz) := by
  refine g_metw (fun sz => gQxi γ (.inr r0) sz (T, P, X, Y, E, B, M, Oz)) (fun sz => gXC γ (.inr r0 : Nat ⊕ Int32) sz (T, P, X, Y, E, B, M, Oz)) (by decide) (Nat.le_of_ble_eq_true rfl) ?_
  intro p e s m args below meth c ls hC hZ ht hP hS hl
  have hx := hC.x
  have hb := hC.b
  have hl : lv_has ls 5 [(0, .ref (ad γ 0)), (1, .int x1), (2, .int x2), (3, .ref (ad γ 30))] := hl
  unfold rL_chain at h
  obtain ⟨o, hv, h⟩ := bd1_e h
  refine lv_aload_n hx hb dL_chain_0 rfl (lv_at hl 3 rfl) ?_
  refine lv_iconst (v := 0) hx hb dL_chain_1 (by decide) ?_
  refine lv_aload_n hx hb dL_chain_2 rfl (lv_at hl 0 rfl) ?_
  refine lv_iload_n hx hb dL_chain_3 rfl (lv_at hl 1 rfl) ?_
  refine lv_iload_n hx hb dL_chain_4 rfl (lv_at hl 2 rfl) ?_
  rcases o with k | v
  · have h := bx_l h
    by_cases k0 : k = 0
    · rw [if_pos k0] at h
      subst k0
      cases h
      refine g_wki (g_wrunV (As := [.int x1, .int x2]) (rest := [.int 0, .ref (ad γ 30)]) hC hZ hP hS (c4_chain l hst hv) (by decide) ge_0 rfl u_5_44 yv_X4_chain (Nat.le_of_ble_eq_true rfl) rfl hl.1 rfl (Nat.le_of_ble_eq_true rfl) dL_chain_5 ⟨by decide, by decide⟩) hS (fun H locs ce q hP hS hce hcv hcl => ?_)
      refine vx_catch (E := exn 0) (name := exn 0) hC.o ([] : List ExceptionTableEntry) (⟨0, 10, 13, 13⟩ : ExceptionTableEntry) [(⟨0, 10, 17, 34⟩ : ExceptionTableEntry)] ht (fun z hz => nomatch hz) (by decide) (by decide) (hC.w u_2_127) (va_Nw.use rfl (hC.2.1.2.2.2.1 0 (by decide))) hce hcv hcl ?_
      refine lv_astore (lv' := [(4, .ref q), (0, .ref (ad γ 0)), (1, .int x1), (2, .int x2), (3, .ref (ad γ 30))]) hx hb dL_chain_13 hl (by decide) rfl (fun ls hl => ?_)
      refine lv_iconst (v := 1) hx hb dL_chain_15 (by decide) ?_
      refine W.widen (k := 4) (n := 24) (by decide) (by decide) ?_
      exact g_xiret hC hP hS dL_chain_16 rfl
    rw [if_neg k0] at h
    by_cases k1 : k = 2
    · rw [if_pos k1] at h
      subst k1
      cases h
      refine g_wki (g_wrunV (As := [.int x1, .int x2]) (rest := [.int 0, .ref (ad γ 30)]) hC hZ hP hS (c4_chain l hst hv) (by decide) ge_0 rfl u_5_44 yv_X4_chain (Nat.le_of_ble_eq_true rfl) rfl hl.1 rfl (Nat.le_of_ble_eq_true rfl) dL_chain_5 ⟨by decide, by decide⟩) hS (fun H locs ce q hP hS hce hcv hcl => ?_)
      refine vx_catch (E := exn 2) (name := exn 2) hC.o ([(⟨0, 10, 13, 13⟩ : ExceptionTableEntry)] : List ExceptionTableEntry) (⟨0, 10, 17, 34⟩ : ExceptionTableEntry) [] ht (List.forall_mem_cons.mpr ⟨Or.inr ⟨by decide, exn 0, hC.w u_2_127, hC.2.1.2.2.2.2.1 2 (by decide) 0 (by decide) (by decide)⟩, fun z hz => nomatch hz⟩) (by decide) (by decide) (hC.w u_3_25) (va_Nw.use rfl (hC.2.1.2.2.2.1 2 (by decide))) hce hcv hcl ?_
      refine lv_astore (lv' := [(4, .ref q), (0, .ref (ad γ 0)), (1, .int x1), (2, .int x2), (3, .ref (ad γ 30))]) hx hb dL_chain_17 hl (by decide) rfl (fun ls hl => ?_)
      refine lv_iconst (v := 2) hx hb dL_chain_19 (by decide) ?_
      refine W.widen (k := 4) (n := 24) (by decide) (by decide) ?_
      exact g_xiret hC hP hS dL_chain_20 rfl
    rw [if_neg k1] at h
    cases h
  have h := bx_r h
  cases h
  refine g_xki (g_wrunV (As := [.int x1, .int x2]) (rest := [.int 0, .ref (ad γ 30)]) hC hZ hP hS (c4_chain l hst hv) (by decide) ge_0 rfl u_5_44 yv_X4_chain (Nat.le_of_ble_eq_true rfl) rfl hl.1 rfl (Nat.le_of_ble_eq_true rfl) dL_chain_5 ⟨by decide, by decide⟩) hS (fun H locs hP hS => ?_)
  refine lv_i2l (v := v.toInt64) hx hb dL_chain_8 rfl ?_
  refine g_lst hC hP hS dL_chain_9 (fun H locs hP hS => ?_)
  refine lv_goto (tgt := 21) hx hb dL_chain_10 (by decide) ?_
  refine lv_iconst (v := 0) hx hb dL_chain_21 (by decide) ?_
  refine W.widen (k := 4) (n := 24) (by decide) (by decide) ?_
  exact g_xiret hC hP hS dL_chain_22 rfl
def rL_cost (T : OS) (O : Nat → Int64) (x1 : Int32) : Option (Int32 × (Nat → Int64)) :=
  bd1 (r4_cost T x1) (fun o => bx o (fun k => if k = 1 then some (1, O) else none) (fun v => some (0, (vp_updL O 0 v.toInt64))))
theorem yw_L_cost : gYW yL_cost cL_cost 4 (some .int) [(0, 9, 12, 15)] 3 := ⟨u_5_87, u_1_0, u_5_88, ⟨by decide +kernel, by decide +kernel, by decide +kernel⟩, by decide⟩
set_option maxHeartbeats 4000000 in
set_option maxRecDepth 100000 in
theorem tL_cost (l : Launch) (hst : l.stackTraces = false) {γ : GA} {sz : Nat} {T P X Y B M : OS} {E : Nat → OS} {O : Nat → Int64} {x1 : Int32} {r0 : Int32} {Oz : Nat → Int64} (h : rL_cost T O x1 = some (r0, Oz)) : vx_Met l yL_cost (gUW yL_cost cL_cost 4 (some .int) [(0, 9, 12, 15)]) (gR 7 1 6) (gPx γ [.ref (ad γ 0), .int x1, .ref (ad γ 30)] sz (T, P, X, Y, E, B, M, O)) (gQxi γ (.inr r0) sz (T, P, X, Y, E, B, M, Oz)) (gXC γ (.inr r0 : Nat ⊕ Int32) sz (T, P, X, Y, E, B, M, Oz)) 1 6 (gA γ sz) := by
  refine g_metw (fun sz => gQxi γ (.inr r0) sz (T, P, X, Y, E, B, M, Oz)) (fun sz => gXC γ (.inr r0 : Nat ⊕ Int32) sz (T, P, X, Y, E, B, M, Oz)) (by decide) (Nat.le_of_ble_eq_true rfl) ?_
  intro p e s m args below meth c ls hC hZ ht hP hS hl
  have hx := hC.x
  have hb := hC.b
  have hl : lv_has ls 4 [(0, .ref (ad γ 0)), (1, .int x1), (2, .ref (ad γ 30))] := hl
  unfold rL_cost at h
  obtain ⟨o, hv, h⟩ := bd1_e h
  refine lv_aload_n hx hb dL_cost_0 rfl (lv_at hl 2 rfl) ?_
  refine lv_iconst (v := 0) hx hb dL_cost_1 (by decide) ?_
  refine lv_aload_n hx hb dL_cost_2 rfl (lv_at hl 0 rfl) ?_
  refine lv_iload_n hx hb dL_cost_3 rfl (lv_at hl 1 rfl) ?_
  rcases o with k | v
  · have h := bx_l h
    by_cases k0 : k = 1
    · rw [if_pos k0] at h
      subst k0
      cases h
      refine g_wki (g_wrunV (As := [.int x1]) (rest := [.int 0, .ref (ad γ 30)]) hC hZ hP hS (c4_cost l hst hv) (by decide) ge_0 rfl u_5_89 yv_X4_cost (Nat.le_of_ble_eq_true rfl) rfl hl.1 rfl (Nat.le_of_ble_eq_true rfl) dL_cost_4 ⟨by decide, by decide⟩) hS (fun H locs ce q hP hS hce hcv hcl => ?_)
      refine vx_catch (E := exn 1) (name := exn 1) hC.o ([] : List ExceptionTableEntry) (⟨0, 9, 12, 15⟩ : ExceptionTableEntry) [] ht (fun z hz => nomatch hz) (by decide) (by decide) (hC.w u_2_128) (va_Nw.use rfl (hC.2.1.2.2.2.1 1 (by decide))) hce hcv hcl ?_
      refine lv_astore_n (lv' := [(3, .ref q), (0, .ref (ad γ 0)), (1, .int x1), (2, .ref (ad γ 30))]) hx hb dL_cost_12 rfl hl (by decide) rfl (fun ls hl => ?_)
      refine lv_iconst (v := 1) hx hb dL_cost_13 (by decide) ?_
      refine W.widen (k := 1) (n := 6) (by decide) (by decide) ?_
      exact g_xiret hC hP hS dL_cost_14 rfl
    rw [if_neg k0] at h
    cases h
  have h := bx_r h
  cases h
  refine g_xki (g_wrunV (As := [.int x1]) (rest := [.int 0, .ref (ad γ 30)]) hC hZ hP hS (c4_cost l hst hv) (by decide) ge_0 rfl u_5_89 yv_X4_cost (Nat.le_of_ble_eq_true rfl) rfl hl.1 rfl (Nat.le_of_ble_eq_true rfl) dL_cost_4 ⟨by decide, by decide⟩) hS (fun H locs hP hS => ?_)
  refine lv_i2l (v := v.toInt64) hx hb dL_cost_7 rfl ?_
  refine g_lst hC hP hS dL_cost_8 (fun H locs hP hS => ?_)
  refine lv_goto (tgt := 15) hx hb dL_cost_9 (by decide) ?_
  refine lv_iconst (v := 0) hx hb dL_cost_15 (by decide) ?_
  refine W.widen (k := 1) (n := 6) (by decide) (by decide) ?_
  exact g_xiret hC hP hS dL_cost_16 rfl
def rL_costAt (T : OS) (O : Nat → Int64) (x1 : Int32) (x2 : Int32) : Option (Int32 × OS × (Nat → Int64)) :=
  bd2 (r4_costAt T x1 x2) (fun o T1 => bx o (fun k => if k = 0 then some (1, T1, O) else if k = 2 then some (2, T1, O) else none) (fun v => some (0, T1, (vp_updL O 0 v.toInt64))))
theorem yw_L_costAt : gYW yL_costAt cL_costAt 5 (some .int) [(0, 10, 13, 13), (0, 10, 17, 34)] 4 := ⟨u_5_98, u_1_0, u_5_99, ⟨by decide +kernel, by decide +kernel, by decide +kernel⟩, by decide⟩
set_option maxHeartbeats 4000000 in
set_option maxRecDepth 100000 in
theorem tL_costAt (l : Launch) (hst : l.stackTraces = false) {γ : GA} {sz : Nat} {T P X Y B M : OS} {E : Nat → OS} {O : Nat → Int64} {x1 : Int32} {x2 : Int32} {r0 : Int32} {Tz : OS} {Oz : Nat → Int64} (h : rL_costAt T O x1 x2 = some (r0, Tz, Oz)) : vx_Met l yL_costAt (gUW yL_costAt cL_costAt 5 (some .int) [(0, 10, 13, 13), (0, 10, 17, 34)]) (gR 8 3 18) (gPx γ [.ref (ad γ 0), .int x1, .int x2, .ref (ad γ 30)] sz (T, P, X, Y, E, B, M, O)) (gQxi γ (.inr r0) sz (Tz, P, X, Y, E, B, M, Oz)) (gXC γ (.inr r0 : Nat ⊕ Int32) sz (Tz, P, X, Y, E, B, M, Oz)) 3 18 (gA γ sz) := by
  refine g_metw (fun sz => gQxi γ (.inr r0) sz (Tz, P, X, Y, E, B, M, Oz)) (fun sz => gXC γ (.inr r0 : Nat ⊕ Int32) sz (Tz, P, X, Y, E, B, M, Oz)) (by decide) (Nat.le_of_ble_eq_true rfl) ?_
  intro p e s m args below meth c ls hC hZ ht hP hS hl
  have hx := hC.x
  have hb := hC.b
  have hl : lv_has ls 5 [(0, .ref (ad γ 0)), (1, .int x1), (2, .int x2), (3, .ref (ad γ 30))] := hl
  unfold rL_costAt at h
  obtain ⟨o, T1, hv, h⟩ := bd2_e h
  refine lv_aload_n hx hb dL_costAt_0 rfl (lv_at hl 3 rfl) ?_
  refine lv_iconst (v := 0) hx hb dL_costAt_1 (by decide) ?_
  refine lv_aload_n hx hb dL_costAt_2 rfl (lv_at hl 0 rfl) ?_
  refine lv_iload_n hx hb dL_costAt_3 rfl (lv_at hl 1 rfl) ?_
  refine lv_iload_n hx hb dL_costAt_4 rfl (lv_at hl 2 rfl) ?_
  rcases o with k | v
  · have h := bx_l h
    by_cases k0 : k = 0
    · rw [if_pos k0] at h
      subst k0
      cases h
      refine g_wki (g_wrunV (As := [.int x1, .int x2]) (rest := [.int 0, .ref (ad γ 30)]) hC hZ hP hS (c4_costAt l hst hv) (by decide) ge_0 rfl u_5_100 yv_X4_costAt (Nat.le_of_ble_eq_true rfl) rfl hl.1 rfl (Nat.le_of_ble_eq_true rfl) dL_costAt_5 ⟨by decide, by decide⟩) hS (fun H locs ce q hP hS hce hcv hcl => ?_)
      refine vx_catch (E := exn 0) (name := exn 0) hC.o ([] : List ExceptionTableEntry) (⟨0, 10, 13, 13⟩ : ExceptionTableEntry) [(⟨0, 10, 17, 34⟩ : ExceptionTableEntry)] ht (fun z hz => nomatch hz) (by decide) (by decide) (hC.w u_2_127) (va_Nw.use rfl (hC.2.1.2.2.2.1 0 (by decide))) hce hcv hcl ?_
      refine lv_astore (lv' := [(4, .ref q), (0, .ref (ad γ 0)), (1, .int x1), (2, .int x2), (3, .ref (ad γ 30))]) hx hb dL_costAt_13 hl (by decide) rfl (fun ls hl => ?_)
      refine lv_iconst (v := 1) hx hb dL_costAt_15 (by decide) ?_
      refine W.widen (k := 3) (n := 18) (by decide) (by decide) ?_
      exact g_xiret hC hP hS dL_costAt_16 rfl
    rw [if_neg k0] at h
    by_cases k1 : k = 2
    · rw [if_pos k1] at h
      subst k1
      cases h
      refine g_wki (g_wrunV (As := [.int x1, .int x2]) (rest := [.int 0, .ref (ad γ 30)]) hC hZ hP hS (c4_costAt l hst hv) (by decide) ge_0 rfl u_5_100 yv_X4_costAt (Nat.le_of_ble_eq_true rfl) rfl hl.1 rfl (Nat.le_of_ble_eq_true rfl) dL_costAt_5 ⟨by decide, by decide⟩) hS (fun H locs ce q hP hS hce hcv hcl => ?_)
      refine vx_catch (E := exn 2) (name := exn 2) hC.o ([(⟨0, 10, 13, 13⟩ : ExceptionTableEntry)] : List ExceptionTableEntry) (⟨0, 10, 17, 34⟩ : ExceptionTableEntry) [] ht (List.forall_mem_cons.mpr ⟨Or.inr ⟨by decide, exn 0, hC.w u_2_127, hC.2.1.2.2.2.2.1 2 (by decide) 0 (by decide) (by decide)⟩, fun z hz => nomatch hz⟩) (by decide) (by decide) (hC.w u_3_25) (va_Nw.use rfl (hC.2.1.2.2.2.1 2 (by decide))) hce hcv hcl ?_
      refine lv_astore (lv' := [(4, .ref q), (0, .ref (ad γ 0)), (1, .int x1), (2, .int x2), (3, .ref (ad γ 30))]) hx hb dL_costAt_17 hl (by decide) rfl (fun ls hl => ?_)
      refine lv_iconst (v := 2) hx hb dL_costAt_19 (by decide) ?_
      refine W.widen (k := 3) (n := 18) (by decide) (by decide) ?_
      exact g_xiret hC hP hS dL_costAt_20 rfl
    rw [if_neg k1] at h
    cases h
  have h := bx_r h
  cases h
  refine g_xki (g_wrunV (As := [.int x1, .int x2]) (rest := [.int 0, .ref (ad γ 30)]) hC hZ hP hS (c4_costAt l hst hv) (by decide) ge_0 rfl u_5_100 yv_X4_costAt (Nat.le_of_ble_eq_true rfl) rfl hl.1 rfl (Nat.le_of_ble_eq_true rfl) dL_costAt_5 ⟨by decide, by decide⟩) hS (fun H locs hP hS => ?_)
  refine lv_i2l (v := v.toInt64) hx hb dL_costAt_8 rfl ?_
  refine g_lst hC hP hS dL_costAt_9 (fun H locs hP hS => ?_)
  refine lv_goto (tgt := 21) hx hb dL_costAt_10 (by decide) ?_
  refine lv_iconst (v := 0) hx hb dL_costAt_21 (by decide) ?_
  refine W.widen (k := 3) (n := 18) (by decide) (by decide) ?_
  exact g_xiret hC hP hS dL_costAt_22 rfl
def rL_count (T : OS) (X : OS) (Y : OS) (O : Nat → Int64) (x1 : Int32) : Option (Int32 × (Nat → Int64)) :=
  bd1 (r4_count T X Y x1) (fun o => bx o (fun k => if k = 1 then some (1, O) else none) (fun v => some (0, (vp_updL O 0 v.toInt64))))
theorem yw_L_count : gYW yL_count cL_count 4 (some .int) [(0, 9, 12, 15)] 3 := ⟨u_5_113, u_1_0, u_5_114, ⟨by decide +kernel, by decide +kernel, by decide +kernel⟩, by decide⟩
set_option maxHeartbeats 4000000 in
set_option maxRecDepth 100000 in
theorem tL_count (l : Launch) (hst : l.stackTraces = false) {γ : GA} {sz : Nat} {T P X Y B M : OS} {E : Nat → OS} {O : Nat → Int64} {x1 : Int32} {r0 : Int32} {Oz : Nat → Int64} (h : rL_count T X Y O x1 = some (r0, Oz)) : vx_Met l yL_count (gUW yL_count cL_count 4 (some .int) [(0, 9, 12, 15)]) (gR 7 1 6) (gPx γ [.ref (ad γ 0), .int x1, .ref (ad γ 30)] sz (T, P, X, Y, E, B, M, O)) (gQxi γ (.inr r0) sz (T, P, X, Y, E, B, M, Oz)) (gXC γ (.inr r0 : Nat ⊕ Int32) sz (T, P, X, Y, E, B, M, Oz)) 1 6 (gA γ sz) := by
  refine g_metw (fun sz => gQxi γ (.inr r0) sz (T, P, X, Y, E, B, M, Oz)) (fun sz => gXC γ (.inr r0 : Nat ⊕ Int32) sz (T, P, X, Y, E, B, M, Oz)) (by decide) (Nat.le_of_ble_eq_true rfl) ?_
  intro p e s m args below meth c ls hC hZ ht hP hS hl
  have hx := hC.x
  have hb := hC.b
  have hl : lv_has ls 4 [(0, .ref (ad γ 0)), (1, .int x1), (2, .ref (ad γ 30))] := hl
  unfold rL_count at h
  obtain ⟨o, hv, h⟩ := bd1_e h
  refine lv_aload_n hx hb dL_count_0 rfl (lv_at hl 2 rfl) ?_
  refine lv_iconst (v := 0) hx hb dL_count_1 (by decide) ?_
  refine lv_aload_n hx hb dL_count_2 rfl (lv_at hl 0 rfl) ?_
  refine lv_iload_n hx hb dL_count_3 rfl (lv_at hl 1 rfl) ?_
  rcases o with k | v
  · have h := bx_l h
    by_cases k0 : k = 1
    · rw [if_pos k0] at h
      subst k0
      cases h
      refine g_wki (g_wrunV (As := [.int x1]) (rest := [.int 0, .ref (ad γ 30)]) hC hZ hP hS (c4_count l hst hv) (by decide) ge_0 rfl u_5_115 yv_X4_count (Nat.le_of_ble_eq_true rfl) rfl hl.1 rfl (Nat.le_of_ble_eq_true rfl) dL_count_4 ⟨by decide, by decide⟩) hS (fun H locs ce q hP hS hce hcv hcl => ?_)
      refine vx_catch (E := exn 1) (name := exn 1) hC.o ([] : List ExceptionTableEntry) (⟨0, 9, 12, 15⟩ : ExceptionTableEntry) [] ht (fun z hz => nomatch hz) (by decide) (by decide) (hC.w u_2_128) (va_Nw.use rfl (hC.2.1.2.2.2.1 1 (by decide))) hce hcv hcl ?_
      refine lv_astore_n (lv' := [(3, .ref q), (0, .ref (ad γ 0)), (1, .int x1), (2, .ref (ad γ 30))]) hx hb dL_count_12 rfl hl (by decide) rfl (fun ls hl => ?_)
      refine lv_iconst (v := 1) hx hb dL_count_13 (by decide) ?_
      refine W.widen (k := 1) (n := 6) (by decide) (by decide) ?_
      exact g_xiret hC hP hS dL_count_14 rfl
    rw [if_neg k0] at h
    cases h
  have h := bx_r h
  cases h
  refine g_xki (g_wrunV (As := [.int x1]) (rest := [.int 0, .ref (ad γ 30)]) hC hZ hP hS (c4_count l hst hv) (by decide) ge_0 rfl u_5_115 yv_X4_count (Nat.le_of_ble_eq_true rfl) rfl hl.1 rfl (Nat.le_of_ble_eq_true rfl) dL_count_4 ⟨by decide, by decide⟩) hS (fun H locs hP hS => ?_)
  refine lv_i2l (v := v.toInt64) hx hb dL_count_7 rfl ?_
  refine g_lst hC hP hS dL_count_8 (fun H locs hP hS => ?_)
  refine lv_goto (tgt := 15) hx hb dL_count_9 (by decide) ?_
  refine lv_iconst (v := 0) hx hb dL_count_15 (by decide) ?_
  refine W.widen (k := 1) (n := 6) (by decide) (by decide) ?_
  exact g_xiret hC hP hS dL_count_16 rfl
def rL_describe (T : OS) (O : Nat → Int64) (x1 : Int32) (x2 : Int32) : Option (Int32 × (Nat → Int64)) :=
  bd1 (r4_describe T x1 x2) (fun o => bx o (fun k => if k = 0 then some (1, O) else none) (fun v => some (0, (vp_updL O 0 v.toInt64))))
theorem yw_L_describe : gYW yL_describe cL_describe 5 (some .int) [(0, 10, 13, 13)] 4 := ⟨u_3_144, u_1_0, u_3_145, ⟨by decide +kernel, by decide +kernel, by decide +kernel⟩, by decide⟩
set_option maxHeartbeats 4000000 in
set_option maxRecDepth 100000 in
theorem tL_describe (l : Launch) (hst : l.stackTraces = false) {γ : GA} {sz : Nat} {T P X Y B M : OS} {E : Nat → OS} {O : Nat → Int64} {x1 : Int32} {x2 : Int32} {r0 : Int32} {Oz : Nat → Int64} (h : rL_describe T O x1 x2 = some (r0, Oz)) : vx_Met l yL_describe (gUW yL_describe cL_describe 5 (some .int) [(0, 10, 13, 13)]) (gR 15 12 72) (gPx γ [.ref (ad γ 0), .int x1, .int x2, .ref (ad γ 30)] sz (T, P, X, Y, E, B, M, O)) (gQxi γ (.inr r0) sz (T, P, X, Y, E, B, M, Oz)) (gXC γ (.inr r0 : Nat ⊕ Int32) sz (T, P, X, Y, E, B, M, Oz)) 12 72 (gA γ sz) := by
  refine g_metw (fun sz => gQxi γ (.inr r0) sz (T, P, X, Y, E, B, M, Oz)) (fun sz => gXC γ (.inr r0 : Nat ⊕ Int32) sz (T, P, X, Y, E, B, M, Oz)) (by decide) (Nat.le_of_ble_eq_true rfl) ?_
  intro p e s m args below meth c ls hC hZ ht hP hS hl
  have hx := hC.x
  have hb := hC.b
  have hl : lv_has ls 5 [(0, .ref (ad γ 0)), (1, .int x1), (2, .int x2), (3, .ref (ad γ 30))] := hl
  unfold rL_describe at h
  obtain ⟨o, hv, h⟩ := bd1_e h
  refine lv_aload_n hx hb dL_describe_0 rfl (lv_at hl 3 rfl) ?_
  refine lv_iconst (v := 0) hx hb dL_describe_1 (by decide) ?_
  refine lv_aload_n hx hb dL_describe_2 rfl (lv_at hl 0 rfl) ?_
  refine lv_iload_n hx hb dL_describe_3 rfl (lv_at hl 1 rfl) ?_
  refine lv_iload_n hx hb dL_describe_4 rfl (lv_at hl 2 rfl) ?_
  rcases o with k | v
  · have h := bx_l h
    by_cases k0 : k = 0
    · rw [if_pos k0] at h
      subst k0
      cases h
      refine g_wki (g_wrunV (As := [.int x1, .int x2]) (rest := [.int 0, .ref (ad γ 30)]) hC hZ hP hS (c4_describe l hst hv) (by decide) ge_0 rfl u_3_146 yv_X4_describe (Nat.le_of_ble_eq_true rfl) rfl hl.1 rfl (Nat.le_of_ble_eq_true rfl) dL_describe_5 ⟨by decide, by decide⟩) hS (fun H locs ce q hP hS hce hcv hcl => ?_)
      refine vx_catch (E := exn 0) (name := exn 0) hC.o ([] : List ExceptionTableEntry) (⟨0, 10, 13, 13⟩ : ExceptionTableEntry) [] ht (fun z hz => nomatch hz) (by decide) (by decide) (hC.w u_2_127) (va_Nw.use rfl (hC.2.1.2.2.2.1 0 (by decide))) hce hcv hcl ?_
      refine lv_astore (lv' := [(4, .ref q), (0, .ref (ad γ 0)), (1, .int x1), (2, .int x2), (3, .ref (ad γ 30))]) hx hb dL_describe_13 hl (by decide) rfl (fun ls hl => ?_)
      refine lv_iconst (v := 1) hx hb dL_describe_15 (by decide) ?_
      refine W.widen (k := 12) (n := 72) (by decide) (by decide) ?_
      exact g_xiret hC hP hS dL_describe_16 rfl
    rw [if_neg k0] at h
    cases h
  have h := bx_r h
  cases h
  refine g_xki (g_wrunV (As := [.int x1, .int x2]) (rest := [.int 0, .ref (ad γ 30)]) hC hZ hP hS (c4_describe l hst hv) (by decide) ge_0 rfl u_3_146 yv_X4_describe (Nat.le_of_ble_eq_true rfl) rfl hl.1 rfl (Nat.le_of_ble_eq_true rfl) dL_describe_5 ⟨by decide, by decide⟩) hS (fun H locs hP hS => ?_)
  refine lv_i2l (v := v.toInt64) hx hb dL_describe_8 rfl ?_
  refine g_lst hC hP hS dL_describe_9 (fun H locs hP hS => ?_)
  refine lv_goto (tgt := 17) hx hb dL_describe_10 (by decide) ?_
  refine lv_iconst (v := 0) hx hb dL_describe_17 (by decide) ?_
  refine W.widen (k := 12) (n := 72) (by decide) (by decide) ?_
  exact g_xiret hC hP hS dL_describe_18 rfl
def rL_event (T : OS) (O : Nat → Int64) (x1 : Int32) (x2 : Int32) : Option (Int32 × (Nat → Int64)) :=
  bd1 (r4_event T x1 x2) (fun o => bx o (fun k => if k = 0 then some (1, O) else if k = 1 then some (2, O) else none) (fun v => some (0, (vp_updL O 0 v.toInt64))))
theorem yw_L_event : gYW yL_event cL_event 5 (some .int) [(0, 10, 13, 13), (0, 10, 17, 15)] 4 := ⟨u_3_136, u_1_0, u_3_137, ⟨by decide +kernel, by decide +kernel, by decide +kernel⟩, by decide⟩
set_option maxHeartbeats 4000000 in
set_option maxRecDepth 100000 in
theorem tL_event (l : Launch) (hst : l.stackTraces = false) {γ : GA} {sz : Nat} {T P X Y B M : OS} {E : Nat → OS} {O : Nat → Int64} {x1 : Int32} {x2 : Int32} {r0 : Int32} {Oz : Nat → Int64} (h : rL_event T O x1 x2 = some (r0, Oz)) : vx_Met l yL_event (gUW yL_event cL_event 5 (some .int) [(0, 10, 13, 13), (0, 10, 17, 15)]) (gR 8 2 12) (gPx γ [.ref (ad γ 0), .int x1, .int x2, .ref (ad γ 30)] sz (T, P, X, Y, E, B, M, O)) (gQxi γ (.inr r0) sz (T, P, X, Y, E, B, M, Oz)) (gXC γ (.inr r0 : Nat ⊕ Int32) sz (T, P, X, Y, E, B, M, Oz)) 2 12 (gA γ sz) := by
  refine g_metw (fun sz => gQxi γ (.inr r0) sz (T, P, X, Y, E, B, M, Oz)) (fun sz => gXC γ (.inr r0 : Nat ⊕ Int32) sz (T, P, X, Y, E, B, M, Oz)) (by decide) (Nat.le_of_ble_eq_true rfl) ?_
  intro p e s m args below meth c ls hC hZ ht hP hS hl
  have hx := hC.x
  have hb := hC.b
  have hl : lv_has ls 5 [(0, .ref (ad γ 0)), (1, .int x1), (2, .int x2), (3, .ref (ad γ 30))] := hl
  unfold rL_event at h
  obtain ⟨o, hv, h⟩ := bd1_e h
  refine lv_aload_n hx hb dL_event_0 rfl (lv_at hl 3 rfl) ?_
  refine lv_iconst (v := 0) hx hb dL_event_1 (by decide) ?_
  refine lv_aload_n hx hb dL_event_2 rfl (lv_at hl 0 rfl) ?_
  refine lv_iload_n hx hb dL_event_3 rfl (lv_at hl 1 rfl) ?_
  refine lv_iload_n hx hb dL_event_4 rfl (lv_at hl 2 rfl) ?_
  rcases o with k | v
  · have h := bx_l h
    by_cases k0 : k = 0
    · rw [if_pos k0] at h
      subst k0
      cases h
      refine g_wki (g_wrunV (As := [.int x1, .int x2]) (rest := [.int 0, .ref (ad γ 30)]) hC hZ hP hS (c4_event l hst hv) (by decide) ge_0 rfl u_3_138 yv_X4_event (Nat.le_of_ble_eq_true rfl) rfl hl.1 rfl (Nat.le_of_ble_eq_true rfl) dL_event_5 ⟨by decide, by decide⟩) hS (fun H locs ce q hP hS hce hcv hcl => ?_)
      refine vx_catch (E := exn 0) (name := exn 0) hC.o ([] : List ExceptionTableEntry) (⟨0, 10, 13, 13⟩ : ExceptionTableEntry) [(⟨0, 10, 17, 15⟩ : ExceptionTableEntry)] ht (fun z hz => nomatch hz) (by decide) (by decide) (hC.w u_2_127) (va_Nw.use rfl (hC.2.1.2.2.2.1 0 (by decide))) hce hcv hcl ?_
      refine lv_astore (lv' := [(4, .ref q), (0, .ref (ad γ 0)), (1, .int x1), (2, .int x2), (3, .ref (ad γ 30))]) hx hb dL_event_13 hl (by decide) rfl (fun ls hl => ?_)
      refine lv_iconst (v := 1) hx hb dL_event_15 (by decide) ?_
      refine W.widen (k := 2) (n := 12) (by decide) (by decide) ?_
      exact g_xiret hC hP hS dL_event_16 rfl
    rw [if_neg k0] at h
    by_cases k1 : k = 1
    · rw [if_pos k1] at h
      subst k1
      cases h
      refine g_wki (g_wrunV (As := [.int x1, .int x2]) (rest := [.int 0, .ref (ad γ 30)]) hC hZ hP hS (c4_event l hst hv) (by decide) ge_0 rfl u_3_138 yv_X4_event (Nat.le_of_ble_eq_true rfl) rfl hl.1 rfl (Nat.le_of_ble_eq_true rfl) dL_event_5 ⟨by decide, by decide⟩) hS (fun H locs ce q hP hS hce hcv hcl => ?_)
      refine vx_catch (E := exn 1) (name := exn 1) hC.o ([(⟨0, 10, 13, 13⟩ : ExceptionTableEntry)] : List ExceptionTableEntry) (⟨0, 10, 17, 15⟩ : ExceptionTableEntry) [] ht (List.forall_mem_cons.mpr ⟨Or.inr ⟨by decide, exn 0, hC.w u_2_127, hC.2.1.2.2.2.2.1 1 (by decide) 0 (by decide) (by decide)⟩, fun z hz => nomatch hz⟩) (by decide) (by decide) (hC.w u_2_128) (va_Nw.use rfl (hC.2.1.2.2.2.1 1 (by decide))) hce hcv hcl ?_
      refine lv_astore (lv' := [(4, .ref q), (0, .ref (ad γ 0)), (1, .int x1), (2, .int x2), (3, .ref (ad γ 30))]) hx hb dL_event_17 hl (by decide) rfl (fun ls hl => ?_)
      refine lv_iconst (v := 2) hx hb dL_event_19 (by decide) ?_
      refine W.widen (k := 2) (n := 12) (by decide) (by decide) ?_
      exact g_xiret hC hP hS dL_event_20 rfl
    rw [if_neg k1] at h
    cases h
  have h := bx_r h
  cases h
  refine g_xki (g_wrunV (As := [.int x1, .int x2]) (rest := [.int 0, .ref (ad γ 30)]) hC hZ hP hS (c4_event l hst hv) (by decide) ge_0 rfl u_3_138 yv_X4_event (Nat.le_of_ble_eq_true rfl) rfl hl.1 rfl (Nat.le_of_ble_eq_true rfl) dL_event_5 ⟨by decide, by decide⟩) hS (fun H locs hP hS => ?_)
  refine lv_i2l (v := v.toInt64) hx hb dL_event_8 rfl ?_
  refine g_lst hC hP hS dL_event_9 (fun H locs hP hS => ?_)
  refine lv_goto (tgt := 21) hx hb dL_event_10 (by decide) ?_
  refine lv_iconst (v := 0) hx hb dL_event_21 (by decide) ?_
  refine W.widen (k := 2) (n := 12) (by decide) (by decide) ?_
  exact g_xiret hC hP hS dL_event_22 rfl
def rL_exchange (T : OS) (P : OS) (Y : OS) (E : Nat → OS) (O : Nat → Int64) (x1 : Int32) (x2 : Int32) : Option (Int32 × OS × OS × OS × (Nat → OS) × (Nat → Int64)) :=
  bd5 (r4_exchange T P Y E x1 x2) (fun o T1 P1 Y1 E1 => bx o (fun k => if k = 0 then some (1, T1, P1, Y1, E1, O) else if k = 2 then some (2, T1, P1, Y1, E1, O) else if k = 3 then some (3, T1, P1, Y1, E1, O) else none) (fun v => some (0, T1, P1, Y1, E1, (vp_updL O 0 v.toInt64))))
theorem yw_L_exchange : gYW yL_exchange cL_exchange 5 (some .int) [(0, 10, 13, 13), (0, 10, 17, 34), (0, 10, 21, 55)] 4 := ⟨u_4_229, u_1_0, u_4_230, ⟨by decide +kernel, by decide +kernel, by decide +kernel⟩, by decide⟩
set_option maxHeartbeats 4000000 in
set_option maxRecDepth 100000 in
theorem tL_exchange (l : Launch) (hst : l.stackTraces = false) {γ : GA} {sz : Nat} {T P X Y B M : OS} {E : Nat → OS} {O : Nat → Int64} {x1 : Int32} {x2 : Int32} {r0 : Int32} {Tz : OS} {Pz : OS} {Yz : OS} {Ez : Nat → OS} {Oz : Nat → Int64} (h : rL_exchange T P Y E O x1 x2 = some (r0, Tz, Pz, Yz, Ez, Oz)) : vx_Met l yL_exchange (gUW yL_exchange cL_exchange 5 (some .int) [(0, 10, 13, 13), (0, 10, 17, 34), (0, 10, 21, 55)]) (gR 24 5 30) (gPx γ [.ref (ad γ 0), .int x1, .int x2, .ref (ad γ 30)] sz (T, P, X, Y, E, B, M, O)) (gQxi γ (.inr r0) sz (Tz, Pz, X, Yz, Ez, B, M, Oz)) (gXC γ (.inr r0 : Nat ⊕ Int32) sz (Tz, Pz, X, Yz, Ez, B, M, Oz)) 5 30 (gA γ sz) := by
  refine g_metw (fun sz => gQxi γ (.inr r0) sz (Tz, Pz, X, Yz, Ez, B, M, Oz)) (fun sz => gXC γ (.inr r0 : Nat ⊕ Int32) sz (Tz, Pz, X, Yz, Ez, B, M, Oz)) (by decide) (Nat.le_of_ble_eq_true rfl) ?_
  intro p e s m args below meth c ls hC hZ ht hP hS hl
  have hx := hC.x
  have hb := hC.b
  have hl : lv_has ls 5 [(0, .ref (ad γ 0)), (1, .int x1), (2, .int x2), (3, .ref (ad γ 30))] := hl
  unfold rL_exchange at h
  obtain ⟨o, T1, P1, Y1, E1, hv, h⟩ := bd5_e h
  refine lv_aload_n hx hb dL_exchange_0 rfl (lv_at hl 3 rfl) ?_
  refine lv_iconst (v := 0) hx hb dL_exchange_1 (by decide) ?_
  refine lv_aload_n hx hb dL_exchange_2 rfl (lv_at hl 0 rfl) ?_
  refine lv_iload_n hx hb dL_exchange_3 rfl (lv_at hl 1 rfl) ?_
  refine lv_iload_n hx hb dL_exchange_4 rfl (lv_at hl 2 rfl) ?_
  rcases o with k | v
  · have h := bx_l h
    by_cases k0 : k = 0
    · rw [if_pos k0] at h
      subst k0
      cases h
      refine g_wki (g_wrunV (As := [.int x1, .int x2]) (rest := [.int 0, .ref (ad γ 30)]) hC hZ hP hS (c4_exchange l hst hv) (by decide) ge_0 rfl u_4_231 yv_X4_exchange (Nat.le_of_ble_eq_true rfl) rfl hl.1 rfl (Nat.le_of_ble_eq_true rfl) dL_exchange_5 ⟨by decide, by decide⟩) hS (fun H locs ce q hP hS hce hcv hcl => ?_)
      refine vx_catch (E := exn 0) (name := exn 0) hC.o ([] : List ExceptionTableEntry) (⟨0, 10, 13, 13⟩ : ExceptionTableEntry) [(⟨0, 10, 17, 34⟩ : ExceptionTableEntry), (⟨0, 10, 21, 55⟩ : ExceptionTableEntry)] ht (fun z hz => nomatch hz) (by decide) (by decide) (hC.w u_2_127) (va_Nw.use rfl (hC.2.1.2.2.2.1 0 (by decide))) hce hcv hcl ?_
      refine lv_astore (lv' := [(4, .ref q), (0, .ref (ad γ 0)), (1, .int x1), (2, .int x2), (3, .ref (ad γ 30))]) hx hb dL_exchange_13 hl (by decide) rfl (fun ls hl => ?_)
      refine lv_iconst (v := 1) hx hb dL_exchange_15 (by decide) ?_
      refine W.widen (k := 5) (n := 30) (by decide) (by decide) ?_
      exact g_xiret hC hP hS dL_exchange_16 rfl
    rw [if_neg k0] at h
    by_cases k1 : k = 2
    · rw [if_pos k1] at h
      subst k1
      cases h
      refine g_wki (g_wrunV (As := [.int x1, .int x2]) (rest := [.int 0, .ref (ad γ 30)]) hC hZ hP hS (c4_exchange l hst hv) (by decide) ge_0 rfl u_4_231 yv_X4_exchange (Nat.le_of_ble_eq_true rfl) rfl hl.1 rfl (Nat.le_of_ble_eq_true rfl) dL_exchange_5 ⟨by decide, by decide⟩) hS (fun H locs ce q hP hS hce hcv hcl => ?_)
      refine vx_catch (E := exn 2) (name := exn 2) hC.o ([(⟨0, 10, 13, 13⟩ : ExceptionTableEntry)] : List ExceptionTableEntry) (⟨0, 10, 17, 34⟩ : ExceptionTableEntry) [(⟨0, 10, 21, 55⟩ : ExceptionTableEntry)] ht (List.forall_mem_cons.mpr ⟨Or.inr ⟨by decide, exn 0, hC.w u_2_127, hC.2.1.2.2.2.2.1 2 (by decide) 0 (by decide) (by decide)⟩, fun z hz => nomatch hz⟩) (by decide) (by decide) (hC.w u_3_25) (va_Nw.use rfl (hC.2.1.2.2.2.1 2 (by decide))) hce hcv hcl ?_
      refine lv_astore (lv' := [(4, .ref q), (0, .ref (ad γ 0)), (1, .int x1), (2, .int x2), (3, .ref (ad γ 30))]) hx hb dL_exchange_17 hl (by decide) rfl (fun ls hl => ?_)
      refine lv_iconst (v := 2) hx hb dL_exchange_19 (by decide) ?_
      refine W.widen (k := 5) (n := 30) (by decide) (by decide) ?_
      exact g_xiret hC hP hS dL_exchange_20 rfl
    rw [if_neg k1] at h
    by_cases k2 : k = 3
    · rw [if_pos k2] at h
      subst k2
      cases h
      refine g_wki (g_wrunV (As := [.int x1, .int x2]) (rest := [.int 0, .ref (ad γ 30)]) hC hZ hP hS (c4_exchange l hst hv) (by decide) ge_0 rfl u_4_231 yv_X4_exchange (Nat.le_of_ble_eq_true rfl) rfl hl.1 rfl (Nat.le_of_ble_eq_true rfl) dL_exchange_5 ⟨by decide, by decide⟩) hS (fun H locs ce q hP hS hce hcv hcl => ?_)
      refine vx_catch (E := exn 3) (name := exn 3) hC.o ([(⟨0, 10, 13, 13⟩ : ExceptionTableEntry), (⟨0, 10, 17, 34⟩ : ExceptionTableEntry)] : List ExceptionTableEntry) (⟨0, 10, 21, 55⟩ : ExceptionTableEntry) [] ht (List.forall_mem_cons.mpr ⟨Or.inr ⟨by decide, exn 0, hC.w u_2_127, hC.2.1.2.2.2.2.1 3 (by decide) 0 (by decide) (by decide)⟩, List.forall_mem_cons.mpr ⟨Or.inr ⟨by decide, exn 2, hC.w u_3_25, hC.2.1.2.2.2.2.1 3 (by decide) 2 (by decide) (by decide)⟩, fun z hz => nomatch hz⟩⟩) (by decide) (by decide) (hC.w u_4_92) (va_Nw.use rfl (hC.2.1.2.2.2.1 3 (by decide))) hce hcv hcl ?_
      refine lv_astore (lv' := [(4, .ref q), (0, .ref (ad γ 0)), (1, .int x1), (2, .int x2), (3, .ref (ad γ 30))]) hx hb dL_exchange_21 hl (by decide) rfl (fun ls hl => ?_)
      refine lv_iconst (v := 3) hx hb dL_exchange_23 (by decide) ?_
      refine W.widen (k := 5) (n := 30) (by decide) (by decide) ?_
      exact g_xiret hC hP hS dL_exchange_24 rfl
    rw [if_neg k2] at h
    cases h
  have h := bx_r h
  cases h
  refine g_xki (g_wrunV (As := [.int x1, .int x2]) (rest := [.int 0, .ref (ad γ 30)]) hC hZ hP hS (c4_exchange l hst hv) (by decide) ge_0 rfl u_4_231 yv_X4_exchange (Nat.le_of_ble_eq_true rfl) rfl hl.1 rfl (Nat.le_of_ble_eq_true rfl) dL_exchange_5 ⟨by decide, by decide⟩) hS (fun H locs hP hS => ?_)
  refine lv_i2l (v := v.toInt64) hx hb dL_exchange_8 rfl ?_
  refine g_lst hC hP hS dL_exchange_9 (fun H locs hP hS => ?_)
  refine lv_goto (tgt := 25) hx hb dL_exchange_10 (by decide) ?_
  refine lv_iconst (v := 0) hx hb dL_exchange_25 (by decide) ?_
  refine W.widen (k := 5) (n := 30) (by decide) (by decide) ?_
  exact g_xiret hC hP hS dL_exchange_26 rfl
def rL_fix (T : OS) (Y : OS) (E : Nat → OS) (O : Nat → Int64) (x1 : Int32) (x2 : Int32) : Option (Int32 × OS × OS × (Nat → OS) × (Nat → Int64)) :=
  bd4 (r4_fix T Y E x1 x2) (fun o T1 Y1 E1 => bx o (fun k => if k = 0 then some (1, T1, Y1, E1, O) else if k = 2 then some (2, T1, Y1, E1, O) else none) (fun v => some (0, T1, Y1, E1, (vp_updL O 0 (if v = 0 then 0 else 1)))))
theorem yw_L_fix : gYW yL_fix cL_fix 5 (some .int) [(0, 17, 20, 13), (0, 17, 24, 34)] 4 := ⟨u_4_134, u_1_0, u_4_135, ⟨by decide +kernel, by decide +kernel, by decide +kernel⟩, by decide⟩
set_option maxHeartbeats 4000000 in
set_option maxRecDepth 100000 in
theorem tL_fix (l : Launch) (hst : l.stackTraces = false) {γ : GA} {sz : Nat} {T P X Y B M : OS} {E : Nat → OS} {O : Nat → Int64} {x1 : Int32} {x2 : Int32} {r0 : Int32} {Tz : OS} {Yz : OS} {Ez : Nat → OS} {Oz : Nat → Int64} (h : rL_fix T Y E O x1 x2 = some (r0, Tz, Yz, Ez, Oz)) : vx_Met l yL_fix (gUW yL_fix cL_fix 5 (some .int) [(0, 17, 20, 13), (0, 17, 24, 34)]) (gR 8 2 12) (gPx γ [.ref (ad γ 0), .int x1, .int x2, .ref (ad γ 30)] sz (T, P, X, Y, E, B, M, O)) (gQxi γ (.inr r0) sz (Tz, P, X, Yz, Ez, B, M, Oz)) (gXC γ (.inr r0 : Nat ⊕ Int32) sz (Tz, P, X, Yz, Ez, B, M, Oz)) 2 12 (gA γ sz) := by
  refine g_metw (fun sz => gQxi γ (.inr r0) sz (Tz, P, X, Yz, Ez, B, M, Oz)) (fun sz => gXC γ (.inr r0 : Nat ⊕ Int32) sz (Tz, P, X, Yz, Ez, B, M, Oz)) (by decide) (Nat.le_of_ble_eq_true rfl) ?_
  intro p e s m args below meth c ls hC hZ ht hP hS hl
  have hx := hC.x
  have hb := hC.b
  have hl : lv_has ls 5 [(0, .ref (ad γ 0)), (1, .int x1), (2, .int x2), (3, .ref (ad γ 30))] := hl
  unfold rL_fix at h
  obtain ⟨o, T1, Y1, E1, hv, h⟩ := bd4_e h
  refine lv_aload_n hx hb dL_fix_0 rfl (lv_at hl 3 rfl) ?_
  refine lv_iconst (v := 0) hx hb dL_fix_1 (by decide) ?_
  refine lv_aload_n hx hb dL_fix_2 rfl (lv_at hl 0 rfl) ?_
  refine lv_iload_n hx hb dL_fix_3 rfl (lv_at hl 1 rfl) ?_
  refine lv_iload_n hx hb dL_fix_4 rfl (lv_at hl 2 rfl) ?_
  rcases o with k | v
  · have h := bx_l h
    by_cases k0 : k = 0
    · rw [if_pos k0] at h
      subst k0
      cases h
      refine g_wki (g_wrunV (As := [.int x1, .int x2]) (rest := [.int 0, .ref (ad γ 30)]) hC hZ hP hS (c4_fix l hst hv) (by decide) ge_0 rfl u_4_136 yv_X4_fix (Nat.le_of_ble_eq_true rfl) rfl hl.1 rfl (Nat.le_of_ble_eq_true rfl) dL_fix_5 ⟨by decide, by decide⟩) hS (fun H locs ce q hP hS hce hcv hcl => ?_)
      refine vx_catch (E := exn 0) (name := exn 0) hC.o ([] : List ExceptionTableEntry) (⟨0, 17, 20, 13⟩ : ExceptionTableEntry) [(⟨0, 17, 24, 34⟩ : ExceptionTableEntry)] ht (fun z hz => nomatch hz) (by decide) (by decide) (hC.w u_2_127) (va_Nw.use rfl (hC.2.1.2.2.2.1 0 (by decide))) hce hcv hcl ?_
      refine lv_astore (lv' := [(4, .ref q), (0, .ref (ad γ 0)), (1, .int x1), (2, .int x2), (3, .ref (ad γ 30))]) hx hb dL_fix_20 hl (by decide) rfl (fun ls hl => ?_)
      refine lv_iconst (v := 1) hx hb dL_fix_22 (by decide) ?_
      refine W.widen (k := 2) (n := 12) (by decide) (by decide) ?_
      exact g_xiret hC hP hS dL_fix_23 rfl
    rw [if_neg k0] at h
    by_cases k1 : k = 2
    · rw [if_pos k1] at h
      subst k1
      cases h
      refine g_wki (g_wrunV (As := [.int x1, .int x2]) (rest := [.int 0, .ref (ad γ 30)]) hC hZ hP hS (c4_fix l hst hv) (by decide) ge_0 rfl u_4_136 yv_X4_fix (Nat.le_of_ble_eq_true rfl) rfl hl.1 rfl (Nat.le_of_ble_eq_true rfl) dL_fix_5 ⟨by decide, by decide⟩) hS (fun H locs ce q hP hS hce hcv hcl => ?_)
      refine vx_catch (E := exn 2) (name := exn 2) hC.o ([(⟨0, 17, 20, 13⟩ : ExceptionTableEntry)] : List ExceptionTableEntry) (⟨0, 17, 24, 34⟩ : ExceptionTableEntry) [] ht (List.forall_mem_cons.mpr ⟨Or.inr ⟨by decide, exn 0, hC.w u_2_127, hC.2.1.2.2.2.2.1 2 (by decide) 0 (by decide) (by decide)⟩, fun z hz => nomatch hz⟩) (by decide) (by decide) (hC.w u_3_25) (va_Nw.use rfl (hC.2.1.2.2.2.1 2 (by decide))) hce hcv hcl ?_
      refine lv_astore (lv' := [(4, .ref q), (0, .ref (ad γ 0)), (1, .int x1), (2, .int x2), (3, .ref (ad γ 30))]) hx hb dL_fix_24 hl (by decide) rfl (fun ls hl => ?_)
      refine lv_iconst (v := 2) hx hb dL_fix_26 (by decide) ?_
      refine W.widen (k := 2) (n := 12) (by decide) (by decide) ?_
      exact g_xiret hC hP hS dL_fix_27 rfl
    rw [if_neg k1] at h
    cases h
  have h := bx_r h
  cases h
  refine g_xki (g_wrunV (As := [.int x1, .int x2]) (rest := [.int 0, .ref (ad γ 30)]) hC hZ hP hS (c4_fix l hst hv) (by decide) ge_0 rfl u_4_136 yv_X4_fix (Nat.le_of_ble_eq_true rfl) rfl hl.1 rfl (Nat.le_of_ble_eq_true rfl) dL_fix_5 ⟨by decide, by decide⟩) hS (fun H locs hP hS => ?_)
  refine lv_if_eq (tgt := 15) hx hb dL_fix_8 (by decide) (fun c1 => ?_) (fun c1 => ?_)
  · rw [if_pos c1]
    refine lv_lconst (v := 0) hx hb dL_fix_15 rfl ?_
    refine g_lst hC hP hS dL_fix_16 (fun H locs hP hS => ?_)
    refine lv_goto (tgt := 28) hx hb dL_fix_17 (by decide) ?_
    refine lv_iconst (v := 0) hx hb dL_fix_28 (by decide) ?_
    refine W.widen (k := 2) (n := 12) (by decide) (by decide) ?_
    exact g_xiret hC hP hS dL_fix_29 rfl
  · rw [if_neg c1]
    refine lv_lconst (v := 1) hx hb dL_fix_11 rfl ?_
    refine lv_goto (tgt := 16) hx hb dL_fix_12 (by decide) ?_
    refine g_lst hC hP hS dL_fix_16 (fun H locs hP hS => ?_)
    refine lv_goto (tgt := 28) hx hb dL_fix_17 (by decide) ?_
    refine lv_iconst (v := 0) hx hb dL_fix_28 (by decide) ?_
    refine W.widen (k := 2) (n := 12) (by decide) (by decide) ?_
    exact g_xiret hC hP hS dL_fix_29 rfl
def rL_free (T : OS) (O : Nat → Int64) (x1 : Int32) (x2 : Int32) : Option (Int32 × (Nat → Int64)) :=
  bd1 (r4_free T x1 x2) (fun o => bx o (fun k => if k = 0 then some (1, O) else if k = 4 then some (2, O) else none) (fun v => some (0, (vp_updL O 0 v.toInt64))))
theorem yw_L_free : gYW yL_free cL_free 5 (some .int) [(0, 10, 13, 13), (0, 10, 17, 73)] 4 := ⟨u_4_155, u_1_0, u_4_156, ⟨by decide +kernel, by decide +kernel, by decide +kernel⟩, by decide⟩
set_option maxHeartbeats 4000000 in
set_option maxRecDepth 100000 in
theorem tL_free (l : Launch) (hst : l.stackTraces = false) {γ : GA} {sz : Nat} {T P X Y B M : OS} {E : Nat → OS} {O : Nat → Int64} {x1 : Int32} {x2 : Int32} {r0 : Int32} {Oz : Nat → Int64} (h : rL_free T O x1 x2 = some (r0, Oz)) : vx_Met l yL_free (gUW yL_free cL_free 5 (some .int) [(0, 10, 13, 13), (0, 10, 17, 73)]) (gR 8 2 12) (gPx γ [.ref (ad γ 0), .int x1, .int x2, .ref (ad γ 30)] sz (T, P, X, Y, E, B, M, O)) (gQxi γ (.inr r0) sz (T, P, X, Y, E, B, M, Oz)) (gXC γ (.inr r0 : Nat ⊕ Int32) sz (T, P, X, Y, E, B, M, Oz)) 2 12 (gA γ sz) := by
  refine g_metw (fun sz => gQxi γ (.inr r0) sz (T, P, X, Y, E, B, M, Oz)) (fun sz => gXC γ (.inr r0 : Nat ⊕ Int32) sz (T, P, X, Y, E, B, M, Oz)) (by decide) (Nat.le_of_ble_eq_true rfl) ?_
  intro p e s m args below meth c ls hC hZ ht hP hS hl
  have hx := hC.x
  have hb := hC.b
  have hl : lv_has ls 5 [(0, .ref (ad γ 0)), (1, .int x1), (2, .int x2), (3, .ref (ad γ 30))] := hl
  unfold rL_free at h
  obtain ⟨o, hv, h⟩ := bd1_e h
  refine lv_aload_n hx hb dL_free_0 rfl (lv_at hl 3 rfl) ?_
  refine lv_iconst (v := 0) hx hb dL_free_1 (by decide) ?_
  refine lv_aload_n hx hb dL_free_2 rfl (lv_at hl 0 rfl) ?_
  refine lv_iload_n hx hb dL_free_3 rfl (lv_at hl 1 rfl) ?_
  refine lv_iload_n hx hb dL_free_4 rfl (lv_at hl 2 rfl) ?_
  rcases o with k | v
  · have h := bx_l h
    by_cases k0 : k = 0
    · rw [if_pos k0] at h
      subst k0
      cases h
      refine g_wki (g_wrunV (As := [.int x1, .int x2]) (rest := [.int 0, .ref (ad γ 30)]) hC hZ hP hS (c4_free l hst hv) (by decide) ge_0 rfl u_4_158 yv_X4_free (Nat.le_of_ble_eq_true rfl) rfl hl.1 rfl (Nat.le_of_ble_eq_true rfl) dL_free_5 ⟨by decide, by decide⟩) hS (fun H locs ce q hP hS hce hcv hcl => ?_)
      refine vx_catch (E := exn 0) (name := exn 0) hC.o ([] : List ExceptionTableEntry) (⟨0, 10, 13, 13⟩ : ExceptionTableEntry) [(⟨0, 10, 17, 73⟩ : ExceptionTableEntry)] ht (fun z hz => nomatch hz) (by decide) (by decide) (hC.w u_2_127) (va_Nw.use rfl (hC.2.1.2.2.2.1 0 (by decide))) hce hcv hcl ?_
      refine lv_astore (lv' := [(4, .ref q), (0, .ref (ad γ 0)), (1, .int x1), (2, .int x2), (3, .ref (ad γ 30))]) hx hb dL_free_13 hl (by decide) rfl (fun ls hl => ?_)
      refine lv_iconst (v := 1) hx hb dL_free_15 (by decide) ?_
      refine W.widen (k := 2) (n := 12) (by decide) (by decide) ?_
      exact g_xiret hC hP hS dL_free_16 rfl
    rw [if_neg k0] at h
    by_cases k1 : k = 4
    · rw [if_pos k1] at h
      subst k1
      cases h
      refine g_wki (g_wrunV (As := [.int x1, .int x2]) (rest := [.int 0, .ref (ad γ 30)]) hC hZ hP hS (c4_free l hst hv) (by decide) ge_0 rfl u_4_158 yv_X4_free (Nat.le_of_ble_eq_true rfl) rfl hl.1 rfl (Nat.le_of_ble_eq_true rfl) dL_free_5 ⟨by decide, by decide⟩) hS (fun H locs ce q hP hS hce hcv hcl => ?_)
      refine vx_catch (E := exn 4) (name := exn 4) hC.o ([(⟨0, 10, 13, 13⟩ : ExceptionTableEntry)] : List ExceptionTableEntry) (⟨0, 10, 17, 73⟩ : ExceptionTableEntry) [] ht (List.forall_mem_cons.mpr ⟨Or.inr ⟨by decide, exn 0, hC.w u_2_127, hC.2.1.2.2.2.2.1 4 (by decide) 0 (by decide) (by decide)⟩, fun z hz => nomatch hz⟩) (by decide) (by decide) (hC.w u_4_157) (va_Nw.use rfl (hC.2.1.2.2.2.1 4 (by decide))) hce hcv hcl ?_
      refine lv_astore (lv' := [(4, .ref q), (0, .ref (ad γ 0)), (1, .int x1), (2, .int x2), (3, .ref (ad γ 30))]) hx hb dL_free_17 hl (by decide) rfl (fun ls hl => ?_)
      refine lv_iconst (v := 2) hx hb dL_free_19 (by decide) ?_
      refine W.widen (k := 2) (n := 12) (by decide) (by decide) ?_
      exact g_xiret hC hP hS dL_free_20 rfl
    rw [if_neg k1] at h
    cases h
  have h := bx_r h
  cases h
  refine g_xki (g_wrunV (As := [.int x1, .int x2]) (rest := [.int 0, .ref (ad γ 30)]) hC hZ hP hS (c4_free l hst hv) (by decide) ge_0 rfl u_4_158 yv_X4_free (Nat.le_of_ble_eq_true rfl) rfl hl.1 rfl (Nat.le_of_ble_eq_true rfl) dL_free_5 ⟨by decide, by decide⟩) hS (fun H locs hP hS => ?_)
  refine lv_i2l (v := v.toInt64) hx hb dL_free_8 rfl ?_
  refine g_lst hC hP hS dL_free_9 (fun H locs hP hS => ?_)
  refine lv_goto (tgt := 21) hx hb dL_free_10 (by decide) ?_
  refine lv_iconst (v := 0) hx hb dL_free_21 (by decide) ?_
  refine W.widen (k := 2) (n := 12) (by decide) (by decide) ?_
  exact g_xiret hC hP hS dL_free_22 rfl
def rL_hindering (T : OS) (O : Nat → Int64) (x1 : Int32) (x2 : Int32) : Option (Int32 × (Nat → Int64)) :=
  bd1 (r4_hindering T x1 x2) (fun o => bx o (fun k => if k = 0 then some (1, O) else none) (fun v => some (0, (vp_updL O 0 v.toInt64))))
theorem yw_L_hindering : gYW yL_hindering cL_hindering 5 (some .int) [(0, 10, 13, 13)] 4 := ⟨u_4_179, u_1_0, u_4_180, ⟨by decide +kernel, by decide +kernel, by decide +kernel⟩, by decide⟩
set_option maxHeartbeats 4000000 in
set_option maxRecDepth 100000 in
theorem tL_hindering (l : Launch) (hst : l.stackTraces = false) {γ : GA} {sz : Nat} {T P X Y B M : OS} {E : Nat → OS} {O : Nat → Int64} {x1 : Int32} {x2 : Int32} {r0 : Int32} {Oz : Nat → Int64} (h : rL_hindering T O x1 x2 = some (r0, Oz)) : vx_Met l yL_hindering (gUW yL_hindering cL_hindering 5 (some .int) [(0, 10, 13, 13)]) (gR 8 2 12) (gPx γ [.ref (ad γ 0), .int x1, .int x2, .ref (ad γ 30)] sz (T, P, X, Y, E, B, M, O)) (gQxi γ (.inr r0) sz (T, P, X, Y, E, B, M, Oz)) (gXC γ (.inr r0 : Nat ⊕ Int32) sz (T, P, X, Y, E, B, M, Oz)) 2 12 (gA γ sz) := by
  refine g_metw (fun sz => gQxi γ (.inr r0) sz (T, P, X, Y, E, B, M, Oz)) (fun sz => gXC γ (.inr r0 : Nat ⊕ Int32) sz (T, P, X, Y, E, B, M, Oz)) (by decide) (Nat.le_of_ble_eq_true rfl) ?_
  intro p e s m args below meth c ls hC hZ ht hP hS hl
  have hx := hC.x
  have hb := hC.b
  have hl : lv_has ls 5 [(0, .ref (ad γ 0)), (1, .int x1), (2, .int x2), (3, .ref (ad γ 30))] := hl
  unfold rL_hindering at h
  obtain ⟨o, hv, h⟩ := bd1_e h
  refine lv_aload_n hx hb dL_hindering_0 rfl (lv_at hl 3 rfl) ?_
  refine lv_iconst (v := 0) hx hb dL_hindering_1 (by decide) ?_
  refine lv_aload_n hx hb dL_hindering_2 rfl (lv_at hl 0 rfl) ?_
  refine lv_iload_n hx hb dL_hindering_3 rfl (lv_at hl 1 rfl) ?_
  refine lv_iload_n hx hb dL_hindering_4 rfl (lv_at hl 2 rfl) ?_
  rcases o with k | v
  · have h := bx_l h
    by_cases k0 : k = 0
    · rw [if_pos k0] at h
      subst k0
      cases h
      refine g_wki (g_wrunV (As := [.int x1, .int x2]) (rest := [.int 0, .ref (ad γ 30)]) hC hZ hP hS (c4_hindering l hst hv) (by decide) ge_0 rfl u_4_181 yv_X4_hindering (Nat.le_of_ble_eq_true rfl) rfl hl.1 rfl (Nat.le_of_ble_eq_true rfl) dL_hindering_5 ⟨by decide, by decide⟩) hS (fun H locs ce q hP hS hce hcv hcl => ?_)
      refine vx_catch (E := exn 0) (name := exn 0) hC.o ([] : List ExceptionTableEntry) (⟨0, 10, 13, 13⟩ : ExceptionTableEntry) [] ht (fun z hz => nomatch hz) (by decide) (by decide) (hC.w u_2_127) (va_Nw.use rfl (hC.2.1.2.2.2.1 0 (by decide))) hce hcv hcl ?_
      refine lv_astore (lv' := [(4, .ref q), (0, .ref (ad γ 0)), (1, .int x1), (2, .int x2), (3, .ref (ad γ 30))]) hx hb dL_hindering_13 hl (by decide) rfl (fun ls hl => ?_)
      refine lv_iconst (v := 1) hx hb dL_hindering_15 (by decide) ?_
      refine W.widen (k := 2) (n := 12) (by decide) (by decide) ?_
      exact g_xiret hC hP hS dL_hindering_16 rfl
    rw [if_neg k0] at h
    cases h
  have h := bx_r h
  cases h
  refine g_xki (g_wrunV (As := [.int x1, .int x2]) (rest := [.int 0, .ref (ad γ 30)]) hC hZ hP hS (c4_hindering l hst hv) (by decide) ge_0 rfl u_4_181 yv_X4_hindering (Nat.le_of_ble_eq_true rfl) rfl hl.1 rfl (Nat.le_of_ble_eq_true rfl) dL_hindering_5 ⟨by decide, by decide⟩) hS (fun H locs hP hS => ?_)
  refine lv_i2l (v := v.toInt64) hx hb dL_hindering_8 rfl ?_
  refine g_lst hC hP hS dL_hindering_9 (fun H locs hP hS => ?_)
  refine lv_goto (tgt := 17) hx hb dL_hindering_10 (by decide) ?_
  refine lv_iconst (v := 0) hx hb dL_hindering_17 (by decide) ?_
  refine W.widen (k := 2) (n := 12) (by decide) (by decide) ?_
  exact g_xiret hC hP hS dL_hindering_18 rfl
def rL_improve (T : OS) (Y : OS) (E : Nat → OS) (O : Nat → Int64) (x1 : Int32) : Option (Int32 × OS × OS × (Nat → OS) × (Nat → Int64)) :=
  bd4 (r4_improve T Y E x1) (fun o T1 Y1 E1 => bx o (fun k => if k = 1 then some (1, T1, Y1, E1, O) else none) (fun v => some (0, T1, Y1, E1, (vp_updL O 0 v.toInt64))))
theorem yw_L_improve : gYW yL_improve cL_improve 4 (some .int) [(0, 9, 12, 15)] 3 := ⟨u_5_46, u_1_0, u_5_47, ⟨by decide +kernel, by decide +kernel, by decide +kernel⟩, by decide⟩
set_option maxHeartbeats 4000000 in
set_option maxRecDepth 100000 in
theorem tL_improve (l : Launch) (hst : l.stackTraces = false) {γ : GA} {sz : Nat} {T P X Y B M : OS} {E : Nat → OS} {O : Nat → Int64} {x1 : Int32} {r0 : Int32} {Tz : OS} {Yz : OS} {Ez : Nat → OS} {Oz : Nat → Int64} (h : rL_improve T Y E O x1 = some (r0, Tz, Yz, Ez, Oz)) : vx_Met l yL_improve (gUW yL_improve cL_improve 4 (some .int) [(0, 9, 12, 15)]) (gR 8 1 6) (gPx γ [.ref (ad γ 0), .int x1, .ref (ad γ 30)] sz (T, P, X, Y, E, B, M, O)) (gQxi γ (.inr r0) sz (Tz, P, X, Yz, Ez, B, M, Oz)) (gXC γ (.inr r0 : Nat ⊕ Int32) sz (Tz, P, X, Yz, Ez, B, M, Oz)) 1 6 (gA γ sz) := by
  refine g_metw (fun sz => gQxi γ (.inr r0) sz (Tz, P, X, Yz, Ez, B, M, Oz)) (fun sz => gXC γ (.inr r0 : Nat ⊕ Int32) sz (Tz, P, X, Yz, Ez, B, M, Oz)) (by decide) (Nat.le_of_ble_eq_true rfl) ?_
  intro p e s m args below meth c ls hC hZ ht hP hS hl
  have hx := hC.x
  have hb := hC.b
  have hl : lv_has ls 4 [(0, .ref (ad γ 0)), (1, .int x1), (2, .ref (ad γ 30))] := hl
  unfold rL_improve at h
  obtain ⟨o, T1, Y1, E1, hv, h⟩ := bd4_e h
  refine lv_aload_n hx hb dL_improve_0 rfl (lv_at hl 2 rfl) ?_
  refine lv_iconst (v := 0) hx hb dL_improve_1 (by decide) ?_
  refine lv_aload_n hx hb dL_improve_2 rfl (lv_at hl 0 rfl) ?_
  refine lv_iload_n hx hb dL_improve_3 rfl (lv_at hl 1 rfl) ?_
  rcases o with k | v
  · have h := bx_l h
    by_cases k0 : k = 1
    · rw [if_pos k0] at h
      subst k0
      cases h
      refine g_wki (g_wrunV (As := [.int x1]) (rest := [.int 0, .ref (ad γ 30)]) hC hZ hP hS (c4_improve l hst hv) (by decide) ge_0 rfl u_5_48 yv_X4_improve (Nat.le_of_ble_eq_true rfl) rfl hl.1 rfl (Nat.le_of_ble_eq_true rfl) dL_improve_4 ⟨by decide, by decide⟩) hS (fun H locs ce q hP hS hce hcv hcl => ?_)
      refine vx_catch (E := exn 1) (name := exn 1) hC.o ([] : List ExceptionTableEntry) (⟨0, 9, 12, 15⟩ : ExceptionTableEntry) [] ht (fun z hz => nomatch hz) (by decide) (by decide) (hC.w u_2_128) (va_Nw.use rfl (hC.2.1.2.2.2.1 1 (by decide))) hce hcv hcl ?_
      refine lv_astore_n (lv' := [(3, .ref q), (0, .ref (ad γ 0)), (1, .int x1), (2, .ref (ad γ 30))]) hx hb dL_improve_12 rfl hl (by decide) rfl (fun ls hl => ?_)
      refine lv_iconst (v := 1) hx hb dL_improve_13 (by decide) ?_
      refine W.widen (k := 1) (n := 6) (by decide) (by decide) ?_
      exact g_xiret hC hP hS dL_improve_14 rfl
    rw [if_neg k0] at h
    cases h
  have h := bx_r h
  cases h
  refine g_xki (g_wrunV (As := [.int x1]) (rest := [.int 0, .ref (ad γ 30)]) hC hZ hP hS (c4_improve l hst hv) (by decide) ge_0 rfl u_5_48 yv_X4_improve (Nat.le_of_ble_eq_true rfl) rfl hl.1 rfl (Nat.le_of_ble_eq_true rfl) dL_improve_4 ⟨by decide, by decide⟩) hS (fun H locs hP hS => ?_)
  refine lv_i2l (v := v.toInt64) hx hb dL_improve_7 rfl ?_
  refine g_lst hC hP hS dL_improve_8 (fun H locs hP hS => ?_)
  refine lv_goto (tgt := 15) hx hb dL_improve_9 (by decide) ?_
  refine lv_iconst (v := 0) hx hb dL_improve_15 (by decide) ?_
  refine W.widen (k := 1) (n := 6) (by decide) (by decide) ?_
  exact g_xiret hC hP hS dL_improve_16 rfl
def rL_insert (T : OS) (P : OS) (Y : OS) (E : Nat → OS) (O : Nat → Int64) (x1 : Int32) : Option (Int32 × OS × OS × OS × (Nat → OS) × (Nat → Int64)) :=
  bd5 (r4_insert T P Y E x1) (fun o T1 P1 Y1 E1 => bx o (fun k => if k = 0 then some (1, T1, P1, Y1, E1, O) else if k = 2 then some (2, T1, P1, Y1, E1, O) else if k = 3 then some (3, T1, P1, Y1, E1, O) else none) (fun v => some (0, T1, P1, Y1, E1, (vp_updL O 0 v.toInt64))))
theorem yw_L_insert : gYW yL_insert cL_insert 4 (some .int) [(0, 9, 12, 13), (0, 9, 15, 34), (0, 9, 18, 55)] 3 := ⟨u_4_218, u_1_0, u_4_219, ⟨by decide +kernel, by decide +kernel, by decide +kernel⟩, by decide⟩
set_option maxHeartbeats 4000000 in
set_option maxRecDepth 100000 in
theorem tL_insert (l : Launch) (hst : l.stackTraces = false) {γ : GA} {sz : Nat} {T P X Y B M : OS} {E : Nat → OS} {O : Nat → Int64} {x1 : Int32} {r0 : Int32} {Tz : OS} {Pz : OS} {Yz : OS} {Ez : Nat → OS} {Oz : Nat → Int64} (h : rL_insert T P Y E O x1 = some (r0, Tz, Pz, Yz, Ez, Oz)) : vx_Met l yL_insert (gUW yL_insert cL_insert 4 (some .int) [(0, 9, 12, 13), (0, 9, 15, 34), (0, 9, 18, 55)]) (gR 27 3 18) (gPx γ [.ref (ad γ 0), .int x1, .ref (ad γ 30)] sz (T, P, X, Y, E, B, M, O)) (gQxi γ (.inr r0) sz (Tz, Pz, X, Yz, Ez, B, M, Oz)) (gXC γ (.inr r0 : Nat ⊕ Int32) sz (Tz, Pz, X, Yz, Ez, B, M, Oz)) 3 18 (gA γ sz) := by
  refine g_metw (fun sz => gQxi γ (.inr r0) sz (Tz, Pz, X, Yz, Ez, B, M, Oz)) (fun sz => gXC γ (.inr r0 : Nat ⊕ Int32) sz (Tz, Pz, X, Yz, Ez, B, M, Oz)) (by decide) (Nat.le_of_ble_eq_true rfl) ?_
  intro p e s m args below meth c ls hC hZ ht hP hS hl
  have hx := hC.x
  have hb := hC.b
  have hl : lv_has ls 4 [(0, .ref (ad γ 0)), (1, .int x1), (2, .ref (ad γ 30))] := hl
  unfold rL_insert at h
  obtain ⟨o, T1, P1, Y1, E1, hv, h⟩ := bd5_e h
  refine lv_aload_n hx hb dL_insert_0 rfl (lv_at hl 2 rfl) ?_
  refine lv_iconst (v := 0) hx hb dL_insert_1 (by decide) ?_
  refine lv_aload_n hx hb dL_insert_2 rfl (lv_at hl 0 rfl) ?_
  refine lv_iload_n hx hb dL_insert_3 rfl (lv_at hl 1 rfl) ?_
  rcases o with k | v
  · have h := bx_l h
    by_cases k0 : k = 0
    · rw [if_pos k0] at h
      subst k0
      cases h
      refine g_wki (g_wrunV (As := [.int x1]) (rest := [.int 0, .ref (ad γ 30)]) hC hZ hP hS (c4_insert l hst hv) (by decide) ge_0 rfl u_4_220 yv_X4_insert (Nat.le_of_ble_eq_true rfl) rfl hl.1 rfl (Nat.le_of_ble_eq_true rfl) dL_insert_4 ⟨by decide, by decide⟩) hS (fun H locs ce q hP hS hce hcv hcl => ?_)
      refine vx_catch (E := exn 0) (name := exn 0) hC.o ([] : List ExceptionTableEntry) (⟨0, 9, 12, 13⟩ : ExceptionTableEntry) [(⟨0, 9, 15, 34⟩ : ExceptionTableEntry), (⟨0, 9, 18, 55⟩ : ExceptionTableEntry)] ht (fun z hz => nomatch hz) (by decide) (by decide) (hC.w u_2_127) (va_Nw.use rfl (hC.2.1.2.2.2.1 0 (by decide))) hce hcv hcl ?_
      refine lv_astore_n (lv' := [(3, .ref q), (0, .ref (ad γ 0)), (1, .int x1), (2, .ref (ad γ 30))]) hx hb dL_insert_12 rfl hl (by decide) rfl (fun ls hl => ?_)
      refine lv_iconst (v := 1) hx hb dL_insert_13 (by decide) ?_
      refine W.widen (k := 3) (n := 18) (by decide) (by decide) ?_
      exact g_xiret hC hP hS dL_insert_14 rfl
    rw [if_neg k0] at h
    by_cases k1 : k = 2
    · rw [if_pos k1] at h
      subst k1
      cases h
      refine g_wki (g_wrunV (As := [.int x1]) (rest := [.int 0, .ref (ad γ 30)]) hC hZ hP hS (c4_insert l hst hv) (by decide) ge_0 rfl u_4_220 yv_X4_insert (Nat.le_of_ble_eq_true rfl) rfl hl.1 rfl (Nat.le_of_ble_eq_true rfl) dL_insert_4 ⟨by decide, by decide⟩) hS (fun H locs ce q hP hS hce hcv hcl => ?_)
      refine vx_catch (E := exn 2) (name := exn 2) hC.o ([(⟨0, 9, 12, 13⟩ : ExceptionTableEntry)] : List ExceptionTableEntry) (⟨0, 9, 15, 34⟩ : ExceptionTableEntry) [(⟨0, 9, 18, 55⟩ : ExceptionTableEntry)] ht (List.forall_mem_cons.mpr ⟨Or.inr ⟨by decide, exn 0, hC.w u_2_127, hC.2.1.2.2.2.2.1 2 (by decide) 0 (by decide) (by decide)⟩, fun z hz => nomatch hz⟩) (by decide) (by decide) (hC.w u_3_25) (va_Nw.use rfl (hC.2.1.2.2.2.1 2 (by decide))) hce hcv hcl ?_
      refine lv_astore_n (lv' := [(3, .ref q), (0, .ref (ad γ 0)), (1, .int x1), (2, .ref (ad γ 30))]) hx hb dL_insert_15 rfl hl (by decide) rfl (fun ls hl => ?_)
      refine lv_iconst (v := 2) hx hb dL_insert_16 (by decide) ?_
      refine W.widen (k := 3) (n := 18) (by decide) (by decide) ?_
      exact g_xiret hC hP hS dL_insert_17 rfl
    rw [if_neg k1] at h
    by_cases k2 : k = 3
    · rw [if_pos k2] at h
      subst k2
      cases h
      refine g_wki (g_wrunV (As := [.int x1]) (rest := [.int 0, .ref (ad γ 30)]) hC hZ hP hS (c4_insert l hst hv) (by decide) ge_0 rfl u_4_220 yv_X4_insert (Nat.le_of_ble_eq_true rfl) rfl hl.1 rfl (Nat.le_of_ble_eq_true rfl) dL_insert_4 ⟨by decide, by decide⟩) hS (fun H locs ce q hP hS hce hcv hcl => ?_)
      refine vx_catch (E := exn 3) (name := exn 3) hC.o ([(⟨0, 9, 12, 13⟩ : ExceptionTableEntry), (⟨0, 9, 15, 34⟩ : ExceptionTableEntry)] : List ExceptionTableEntry) (⟨0, 9, 18, 55⟩ : ExceptionTableEntry) [] ht (List.forall_mem_cons.mpr ⟨Or.inr ⟨by decide, exn 0, hC.w u_2_127, hC.2.1.2.2.2.2.1 3 (by decide) 0 (by decide) (by decide)⟩, List.forall_mem_cons.mpr ⟨Or.inr ⟨by decide, exn 2, hC.w u_3_25, hC.2.1.2.2.2.2.1 3 (by decide) 2 (by decide) (by decide)⟩, fun z hz => nomatch hz⟩⟩) (by decide) (by decide) (hC.w u_4_92) (va_Nw.use rfl (hC.2.1.2.2.2.1 3 (by decide))) hce hcv hcl ?_
      refine lv_astore_n (lv' := [(3, .ref q), (0, .ref (ad γ 0)), (1, .int x1), (2, .ref (ad γ 30))]) hx hb dL_insert_18 rfl hl (by decide) rfl (fun ls hl => ?_)
      refine lv_iconst (v := 3) hx hb dL_insert_19 (by decide) ?_
      refine W.widen (k := 3) (n := 18) (by decide) (by decide) ?_
      exact g_xiret hC hP hS dL_insert_20 rfl
    rw [if_neg k2] at h
    cases h
  have h := bx_r h
  cases h
  refine g_xki (g_wrunV (As := [.int x1]) (rest := [.int 0, .ref (ad γ 30)]) hC hZ hP hS (c4_insert l hst hv) (by decide) ge_0 rfl u_4_220 yv_X4_insert (Nat.le_of_ble_eq_true rfl) rfl hl.1 rfl (Nat.le_of_ble_eq_true rfl) dL_insert_4 ⟨by decide, by decide⟩) hS (fun H locs hP hS => ?_)
  refine lv_i2l (v := v.toInt64) hx hb dL_insert_7 rfl ?_
  refine g_lst hC hP hS dL_insert_8 (fun H locs hP hS => ?_)
  refine lv_goto (tgt := 21) hx hb dL_insert_9 (by decide) ?_
  refine lv_iconst (v := 0) hx hb dL_insert_21 (by decide) ?_
  refine W.widen (k := 3) (n := 18) (by decide) (by decide) ?_
  exact g_xiret hC hP hS dL_insert_22 rfl
def rL_marked (T : OS) (O : Nat → Int64) (x1 : Int32) : Option (Int32 × (Nat → Int64)) :=
  bd1 (r4_marked T x1) (fun o => bx o (fun k => if k = 0 then some (1, O) else none) (fun v => some (0, (vp_updL O 0 v.toInt64))))
theorem yw_L_marked : gYW yL_marked cL_marked 4 (some .int) [(0, 9, 12, 13)] 3 := ⟨u_5_106, u_1_0, u_5_107, ⟨by decide +kernel, by decide +kernel, by decide +kernel⟩, by decide⟩
set_option maxHeartbeats 4000000 in
set_option maxRecDepth 100000 in
theorem tL_marked (l : Launch) (hst : l.stackTraces = false) {γ : GA} {sz : Nat} {T P X Y B M : OS} {E : Nat → OS} {O : Nat → Int64} {x1 : Int32} {r0 : Int32} {Oz : Nat → Int64} (h : rL_marked T O x1 = some (r0, Oz)) : vx_Met l yL_marked (gUW yL_marked cL_marked 4 (some .int) [(0, 9, 12, 13)]) (gR 8 1 6) (gPx γ [.ref (ad γ 0), .int x1, .ref (ad γ 30)] sz (T, P, X, Y, E, B, M, O)) (gQxi γ (.inr r0) sz (T, P, X, Y, E, B, M, Oz)) (gXC γ (.inr r0 : Nat ⊕ Int32) sz (T, P, X, Y, E, B, M, Oz)) 1 6 (gA γ sz) := by
  refine g_metw (fun sz => gQxi γ (.inr r0) sz (T, P, X, Y, E, B, M, Oz)) (fun sz => gXC γ (.inr r0 : Nat ⊕ Int32) sz (T, P, X, Y, E, B, M, Oz)) (by decide) (Nat.le_of_ble_eq_true rfl) ?_
  intro p e s m args below meth c ls hC hZ ht hP hS hl
  have hx := hC.x
  have hb := hC.b
  have hl : lv_has ls 4 [(0, .ref (ad γ 0)), (1, .int x1), (2, .ref (ad γ 30))] := hl
  unfold rL_marked at h
  obtain ⟨o, hv, h⟩ := bd1_e h
  refine lv_aload_n hx hb dL_marked_0 rfl (lv_at hl 2 rfl) ?_
  refine lv_iconst (v := 0) hx hb dL_marked_1 (by decide) ?_
  refine lv_aload_n hx hb dL_marked_2 rfl (lv_at hl 0 rfl) ?_
  refine lv_iload_n hx hb dL_marked_3 rfl (lv_at hl 1 rfl) ?_
  rcases o with k | v
  · have h := bx_l h
    by_cases k0 : k = 0
    · rw [if_pos k0] at h
      subst k0
      cases h
      refine g_wki (g_wrunV (As := [.int x1]) (rest := [.int 0, .ref (ad γ 30)]) hC hZ hP hS (c4_marked l hst hv) (by decide) ge_0 rfl u_5_108 yv_X4_marked (Nat.le_of_ble_eq_true rfl) rfl hl.1 rfl (Nat.le_of_ble_eq_true rfl) dL_marked_4 ⟨by decide, by decide⟩) hS (fun H locs ce q hP hS hce hcv hcl => ?_)
      refine vx_catch (E := exn 0) (name := exn 0) hC.o ([] : List ExceptionTableEntry) (⟨0, 9, 12, 13⟩ : ExceptionTableEntry) [] ht (fun z hz => nomatch hz) (by decide) (by decide) (hC.w u_2_127) (va_Nw.use rfl (hC.2.1.2.2.2.1 0 (by decide))) hce hcv hcl ?_
      refine lv_astore_n (lv' := [(3, .ref q), (0, .ref (ad γ 0)), (1, .int x1), (2, .ref (ad γ 30))]) hx hb dL_marked_12 rfl hl (by decide) rfl (fun ls hl => ?_)
      refine lv_iconst (v := 1) hx hb dL_marked_13 (by decide) ?_
      refine W.widen (k := 1) (n := 6) (by decide) (by decide) ?_
      exact g_xiret hC hP hS dL_marked_14 rfl
    rw [if_neg k0] at h
    cases h
  have h := bx_r h
  cases h
  refine g_xki (g_wrunV (As := [.int x1]) (rest := [.int 0, .ref (ad γ 30)]) hC hZ hP hS (c4_marked l hst hv) (by decide) ge_0 rfl u_5_108 yv_X4_marked (Nat.le_of_ble_eq_true rfl) rfl hl.1 rfl (Nat.le_of_ble_eq_true rfl) dL_marked_4 ⟨by decide, by decide⟩) hS (fun H locs hP hS => ?_)
  refine lv_i2l (v := v.toInt64) hx hb dL_marked_7 rfl ?_
  refine g_lst hC hP hS dL_marked_8 (fun H locs hP hS => ?_)
  refine lv_goto (tgt := 15) hx hb dL_marked_9 (by decide) ?_
  refine lv_iconst (v := 0) hx hb dL_marked_15 (by decide) ?_
  refine W.widen (k := 1) (n := 6) (by decide) (by decide) ?_
  exact g_xiret hC hP hS dL_marked_16 rfl
def rL_obstacle (T : OS) (O : Nat → Int64) (x1 : Int32) (x2 : Int32) : Option (Int32 × (Nat → Int64)) :=
  bd1 (r4_obstacle T x1 x2) (fun o => bx o (fun k => if k = 0 then some (1, O) else none) (fun v => some (0, (vp_updL O 0 v.toInt64))))
theorem yw_L_obstacle : gYW yL_obstacle cL_obstacle 5 (some .int) [(0, 10, 13, 13)] 4 := ⟨u_4_141, u_1_0, u_4_142, ⟨by decide +kernel, by decide +kernel, by decide +kernel⟩, by decide⟩
set_option maxHeartbeats 4000000 in
set_option maxRecDepth 100000 in
theorem tL_obstacle (l : Launch) (hst : l.stackTraces = false) {γ : GA} {sz : Nat} {T P X Y B M : OS} {E : Nat → OS} {O : Nat → Int64} {x1 : Int32} {x2 : Int32} {r0 : Int32} {Oz : Nat → Int64} (h : rL_obstacle T O x1 x2 = some (r0, Oz)) : vx_Met l yL_obstacle (gUW yL_obstacle cL_obstacle 5 (some .int) [(0, 10, 13, 13)]) (gR 8 2 12) (gPx γ [.ref (ad γ 0), .int x1, .int x2, .ref (ad γ 30)] sz (T, P, X, Y, E, B, M, O)) (gQxi γ (.inr r0) sz (T, P, X, Y, E, B, M, Oz)) (gXC γ (.inr r0 : Nat ⊕ Int32) sz (T, P, X, Y, E, B, M, Oz)) 2 12 (gA γ sz) := by
  refine g_metw (fun sz => gQxi γ (.inr r0) sz (T, P, X, Y, E, B, M, Oz)) (fun sz => gXC γ (.inr r0 : Nat ⊕ Int32) sz (T, P, X, Y, E, B, M, Oz)) (by decide) (Nat.le_of_ble_eq_true rfl) ?_
  intro p e s m args below meth c ls hC hZ ht hP hS hl
  have hx := hC.x
  have hb := hC.b
  have hl : lv_has ls 5 [(0, .ref (ad γ 0)), (1, .int x1), (2, .int x2), (3, .ref (ad γ 30))] := hl
  unfold rL_obstacle at h
  obtain ⟨o, hv, h⟩ := bd1_e h
  refine lv_aload_n hx hb dL_obstacle_0 rfl (lv_at hl 3 rfl) ?_
  refine lv_iconst (v := 0) hx hb dL_obstacle_1 (by decide) ?_
  refine lv_aload_n hx hb dL_obstacle_2 rfl (lv_at hl 0 rfl) ?_
  refine lv_iload_n hx hb dL_obstacle_3 rfl (lv_at hl 1 rfl) ?_
  refine lv_iload_n hx hb dL_obstacle_4 rfl (lv_at hl 2 rfl) ?_
  rcases o with k | v
  · have h := bx_l h
    by_cases k0 : k = 0
    · rw [if_pos k0] at h
      subst k0
      cases h
      refine g_wki (g_wrunV (As := [.int x1, .int x2]) (rest := [.int 0, .ref (ad γ 30)]) hC hZ hP hS (c4_obstacle l hst hv) (by decide) ge_0 rfl u_4_143 yv_X4_obstacle (Nat.le_of_ble_eq_true rfl) rfl hl.1 rfl (Nat.le_of_ble_eq_true rfl) dL_obstacle_5 ⟨by decide, by decide⟩) hS (fun H locs ce q hP hS hce hcv hcl => ?_)
      refine vx_catch (E := exn 0) (name := exn 0) hC.o ([] : List ExceptionTableEntry) (⟨0, 10, 13, 13⟩ : ExceptionTableEntry) [] ht (fun z hz => nomatch hz) (by decide) (by decide) (hC.w u_2_127) (va_Nw.use rfl (hC.2.1.2.2.2.1 0 (by decide))) hce hcv hcl ?_
      refine lv_astore (lv' := [(4, .ref q), (0, .ref (ad γ 0)), (1, .int x1), (2, .int x2), (3, .ref (ad γ 30))]) hx hb dL_obstacle_13 hl (by decide) rfl (fun ls hl => ?_)
      refine lv_iconst (v := 1) hx hb dL_obstacle_15 (by decide) ?_
      refine W.widen (k := 2) (n := 12) (by decide) (by decide) ?_
      exact g_xiret hC hP hS dL_obstacle_16 rfl
    rw [if_neg k0] at h
    cases h
  have h := bx_r h
  cases h
  refine g_xki (g_wrunV (As := [.int x1, .int x2]) (rest := [.int 0, .ref (ad γ 30)]) hC hZ hP hS (c4_obstacle l hst hv) (by decide) ge_0 rfl u_4_143 yv_X4_obstacle (Nat.le_of_ble_eq_true rfl) rfl hl.1 rfl (Nat.le_of_ble_eq_true rfl) dL_obstacle_5 ⟨by decide, by decide⟩) hS (fun H locs hP hS => ?_)
  refine lv_i2l (v := v.toInt64) hx hb dL_obstacle_8 rfl ?_
  refine g_lst hC hP hS dL_obstacle_9 (fun H locs hP hS => ?_)
  refine lv_goto (tgt := 17) hx hb dL_obstacle_10 (by decide) ?_
  refine lv_iconst (v := 0) hx hb dL_obstacle_17 (by decide) ?_
  refine W.widen (k := 2) (n := 12) (by decide) (by decide) ?_
  exact g_xiret hC hP hS dL_obstacle_18 rfl
def rL_place (T : OS) (Y : OS) (E : Nat → OS) (O : Nat → Int64) (x1 : Int32) (x2 : Int32) : Option (Int32 × OS × OS × (Nat → OS) × (Nat → Int64)) :=
  bd4 (r4_place T Y E x1 x2) (fun o T1 Y1 E1 => bx o (fun k => if k = 0 then some (1, T1, Y1, E1, O) else if k = 3 then some (2, T1, Y1, E1, O) else if k = 2 then some (3, T1, Y1, E1, O) else none) (fun v => some (0, T1, Y1, E1, (vp_updL O 0 v.toInt64))))
theorem yw_L_place : gYW yL_place cL_place 5 (some .int) [(0, 10, 13, 13), (0, 10, 17, 55), (0, 10, 21, 34)] 4 := ⟨u_4_90, u_1_0, u_4_91, ⟨by decide +kernel, by decide +kernel, by decide +kernel⟩, by decide⟩
set_option maxHeartbeats 4000000 in
set_option maxRecDepth 100000 in
theorem tL_place (l : Launch) (hst : l.stackTraces = false) {γ : GA} {sz : Nat} {T P X Y B M : OS} {E : Nat → OS} {O : Nat → Int64} {x1 : Int32} {x2 : Int32} {r0 : Int32} {Tz : OS} {Yz : OS} {Ez : Nat → OS} {Oz : Nat → Int64} (h : rL_place T Y E O x1 x2 = some (r0, Tz, Yz, Ez, Oz)) : vx_Met l yL_place (gUW yL_place cL_place 5 (some .int) [(0, 10, 13, 13), (0, 10, 17, 55), (0, 10, 21, 34)]) (gR 8 4 24) (gPx γ [.ref (ad γ 0), .int x1, .int x2, .ref (ad γ 30)] sz (T, P, X, Y, E, B, M, O)) (gQxi γ (.inr r0) sz (Tz, P, X, Yz, Ez, B, M, Oz)) (gXC γ (.inr r0 : Nat ⊕ Int32) sz (Tz, P, X, Yz, Ez, B, M, Oz)) 4 24 (gA γ sz) := by
  refine g_metw (fun sz => gQxi γ (.inr r0) sz (Tz, P, X, Yz, Ez, B, M, Oz)) (fun sz => gXC γ (.inr r0 : Nat ⊕ Int32) sz (Tz, P, X, Yz, Ez, B, M, Oz)) (by decide) (Nat.le_of_ble_eq_true rfl) ?_
  intro p e s m args below meth c ls hC hZ ht hP hS hl
  have hx := hC.x
  have hb := hC.b
  have hl : lv_has ls 5 [(0, .ref (ad γ 0)), (1, .int x1), (2, .int x2), (3, .ref (ad γ 30))] := hl
  unfold rL_place at h
  obtain ⟨o, T1, Y1, E1, hv, h⟩ := bd4_e h
  refine lv_aload_n hx hb dL_place_0 rfl (lv_at hl 3 rfl) ?_
  refine lv_iconst (v := 0) hx hb dL_place_1 (by decide) ?_
  refine lv_aload_n hx hb dL_place_2 rfl (lv_at hl 0 rfl) ?_
  refine lv_iload_n hx hb dL_place_3 rfl (lv_at hl 1 rfl) ?_
  refine lv_iload_n hx hb dL_place_4 rfl (lv_at hl 2 rfl) ?_
  rcases o with k | v
  · have h := bx_l h
    by_cases k0 : k = 0
    · rw [if_pos k0] at h
      subst k0
      cases h
      refine g_wki (g_wrunV (As := [.int x1, .int x2]) (rest := [.int 0, .ref (ad γ 30)]) hC hZ hP hS (c4_place l hst hv) (by decide) ge_0 rfl u_4_93 yv_X4_place (Nat.le_of_ble_eq_true rfl) rfl hl.1 rfl (Nat.le_of_ble_eq_true rfl) dL_place_5 ⟨by decide, by decide⟩) hS (fun H locs ce q hP hS hce hcv hcl => ?_)
      refine vx_catch (E := exn 0) (name := exn 0) hC.o ([] : List ExceptionTableEntry) (⟨0, 10, 13, 13⟩ : ExceptionTableEntry) [(⟨0, 10, 17, 55⟩ : ExceptionTableEntry), (⟨0, 10, 21, 34⟩ : ExceptionTableEntry)] ht (fun z hz => nomatch hz) (by decide) (by decide) (hC.w u_2_127) (va_Nw.use rfl (hC.2.1.2.2.2.1 0 (by decide))) hce hcv hcl ?_
      refine lv_astore (lv' := [(4, .ref q), (0, .ref (ad γ 0)), (1, .int x1), (2, .int x2), (3, .ref (ad γ 30))]) hx hb dL_place_13 hl (by decide) rfl (fun ls hl => ?_)
      refine lv_iconst (v := 1) hx hb dL_place_15 (by decide) ?_
      refine W.widen (k := 4) (n := 24) (by decide) (by decide) ?_
      exact g_xiret hC hP hS dL_place_16 rfl
    rw [if_neg k0] at h
    by_cases k1 : k = 3
    · rw [if_pos k1] at h
      subst k1
      cases h
      refine g_wki (g_wrunV (As := [.int x1, .int x2]) (rest := [.int 0, .ref (ad γ 30)]) hC hZ hP hS (c4_place l hst hv) (by decide) ge_0 rfl u_4_93 yv_X4_place (Nat.le_of_ble_eq_true rfl) rfl hl.1 rfl (Nat.le_of_ble_eq_true rfl) dL_place_5 ⟨by decide, by decide⟩) hS (fun H locs ce q hP hS hce hcv hcl => ?_)
      refine vx_catch (E := exn 3) (name := exn 3) hC.o ([(⟨0, 10, 13, 13⟩ : ExceptionTableEntry)] : List ExceptionTableEntry) (⟨0, 10, 17, 55⟩ : ExceptionTableEntry) [(⟨0, 10, 21, 34⟩ : ExceptionTableEntry)] ht (List.forall_mem_cons.mpr ⟨Or.inr ⟨by decide, exn 0, hC.w u_2_127, hC.2.1.2.2.2.2.1 3 (by decide) 0 (by decide) (by decide)⟩, fun z hz => nomatch hz⟩) (by decide) (by decide) (hC.w u_4_92) (va_Nw.use rfl (hC.2.1.2.2.2.1 3 (by decide))) hce hcv hcl ?_
      refine lv_astore (lv' := [(4, .ref q), (0, .ref (ad γ 0)), (1, .int x1), (2, .int x2), (3, .ref (ad γ 30))]) hx hb dL_place_17 hl (by decide) rfl (fun ls hl => ?_)
      refine lv_iconst (v := 2) hx hb dL_place_19 (by decide) ?_
      refine W.widen (k := 4) (n := 24) (by decide) (by decide) ?_
      exact g_xiret hC hP hS dL_place_20 rfl
    rw [if_neg k1] at h
    by_cases k2 : k = 2
    · rw [if_pos k2] at h
      subst k2
      cases h
      refine g_wki (g_wrunV (As := [.int x1, .int x2]) (rest := [.int 0, .ref (ad γ 30)]) hC hZ hP hS (c4_place l hst hv) (by decide) ge_0 rfl u_4_93 yv_X4_place (Nat.le_of_ble_eq_true rfl) rfl hl.1 rfl (Nat.le_of_ble_eq_true rfl) dL_place_5 ⟨by decide, by decide⟩) hS (fun H locs ce q hP hS hce hcv hcl => ?_)
      refine vx_catch (E := exn 2) (name := exn 2) hC.o ([(⟨0, 10, 13, 13⟩ : ExceptionTableEntry), (⟨0, 10, 17, 55⟩ : ExceptionTableEntry)] : List ExceptionTableEntry) (⟨0, 10, 21, 34⟩ : ExceptionTableEntry) [] ht (List.forall_mem_cons.mpr ⟨Or.inr ⟨by decide, exn 0, hC.w u_2_127, hC.2.1.2.2.2.2.1 2 (by decide) 0 (by decide) (by decide)⟩, List.forall_mem_cons.mpr ⟨Or.inr ⟨by decide, exn 3, hC.w u_4_92, hC.2.1.2.2.2.2.1 2 (by decide) 3 (by decide) (by decide)⟩, fun z hz => nomatch hz⟩⟩) (by decide) (by decide) (hC.w u_3_25) (va_Nw.use rfl (hC.2.1.2.2.2.1 2 (by decide))) hce hcv hcl ?_
      refine lv_astore (lv' := [(4, .ref q), (0, .ref (ad γ 0)), (1, .int x1), (2, .int x2), (3, .ref (ad γ 30))]) hx hb dL_place_21 hl (by decide) rfl (fun ls hl => ?_)
      refine lv_iconst (v := 3) hx hb dL_place_23 (by decide) ?_
      refine W.widen (k := 4) (n := 24) (by decide) (by decide) ?_
      exact g_xiret hC hP hS dL_place_24 rfl
    rw [if_neg k2] at h
    cases h
  have h := bx_r h
  cases h
  refine g_xki (g_wrunV (As := [.int x1, .int x2]) (rest := [.int 0, .ref (ad γ 30)]) hC hZ hP hS (c4_place l hst hv) (by decide) ge_0 rfl u_4_93 yv_X4_place (Nat.le_of_ble_eq_true rfl) rfl hl.1 rfl (Nat.le_of_ble_eq_true rfl) dL_place_5 ⟨by decide, by decide⟩) hS (fun H locs hP hS => ?_)
  refine lv_i2l (v := v.toInt64) hx hb dL_place_8 rfl ?_
  refine g_lst hC hP hS dL_place_9 (fun H locs hP hS => ?_)
  refine lv_goto (tgt := 25) hx hb dL_place_10 (by decide) ?_
  refine lv_iconst (v := 0) hx hb dL_place_25 (by decide) ?_
  refine W.widen (k := 4) (n := 24) (by decide) (by decide) ?_
  exact g_xiret hC hP hS dL_place_26 rfl
def rL_places (T : OS) (O : Nat → Int64) (x1 : Int32) (x2 : Int32) : Option (Int32 × (Nat → Int64)) :=
  bd1 (r4_places T x1 x2) (fun o => bx o (fun k => if k = 0 then some (1, O) else if k = 1 then some (2, O) else none) (fun v => some (0, (vp_updL O 0 v.toInt64))))
theorem yw_L_places : gYW yL_places cL_places 5 (some .int) [(0, 10, 13, 13), (0, 10, 17, 15)] 4 := ⟨u_4_148, u_1_0, u_4_149, ⟨by decide +kernel, by decide +kernel, by decide +kernel⟩, by decide⟩
set_option maxHeartbeats 4000000 in
set_option maxRecDepth 100000 in
theorem tL_places (l : Launch) (hst : l.stackTraces = false) {γ : GA} {sz : Nat} {T P X Y B M : OS} {E : Nat → OS} {O : Nat → Int64} {x1 : Int32} {x2 : Int32} {r0 : Int32} {Oz : Nat → Int64} (h : rL_places T O x1 x2 = some (r0, Oz)) : vx_Met l yL_places (gUW yL_places cL_places 5 (some .int) [(0, 10, 13, 13), (0, 10, 17, 15)]) (gR 8 2 12) (gPx γ [.ref (ad γ 0), .int x1, .int x2, .ref (ad γ 30)] sz (T, P, X, Y, E, B, M, O)) (gQxi γ (.inr r0) sz (T, P, X, Y, E, B, M, Oz)) (gXC γ (.inr r0 : Nat ⊕ Int32) sz (T, P, X, Y, E, B, M, Oz)) 2 12 (gA γ sz) := by
  refine g_metw (fun sz => gQxi γ (.inr r0) sz (T, P, X, Y, E, B, M, Oz)) (fun sz => gXC γ (.inr r0 : Nat ⊕ Int32) sz (T, P, X, Y, E, B, M, Oz)) (by decide) (Nat.le_of_ble_eq_true rfl) ?_
  intro p e s m args below meth c ls hC hZ ht hP hS hl
  have hx := hC.x
  have hb := hC.b
  have hl : lv_has ls 5 [(0, .ref (ad γ 0)), (1, .int x1), (2, .int x2), (3, .ref (ad γ 30))] := hl
  unfold rL_places at h
  obtain ⟨o, hv, h⟩ := bd1_e h
  refine lv_aload_n hx hb dL_places_0 rfl (lv_at hl 3 rfl) ?_
  refine lv_iconst (v := 0) hx hb dL_places_1 (by decide) ?_
  refine lv_aload_n hx hb dL_places_2 rfl (lv_at hl 0 rfl) ?_
  refine lv_iload_n hx hb dL_places_3 rfl (lv_at hl 1 rfl) ?_
  refine lv_iload_n hx hb dL_places_4 rfl (lv_at hl 2 rfl) ?_
  rcases o with k | v
  · have h := bx_l h
    by_cases k0 : k = 0
    · rw [if_pos k0] at h
      subst k0
      cases h
      refine g_wki (g_wrunV (As := [.int x1, .int x2]) (rest := [.int 0, .ref (ad γ 30)]) hC hZ hP hS (c4_places l hst hv) (by decide) ge_0 rfl u_4_150 yv_X4_places (Nat.le_of_ble_eq_true rfl) rfl hl.1 rfl (Nat.le_of_ble_eq_true rfl) dL_places_5 ⟨by decide, by decide⟩) hS (fun H locs ce q hP hS hce hcv hcl => ?_)
      refine vx_catch (E := exn 0) (name := exn 0) hC.o ([] : List ExceptionTableEntry) (⟨0, 10, 13, 13⟩ : ExceptionTableEntry) [(⟨0, 10, 17, 15⟩ : ExceptionTableEntry)] ht (fun z hz => nomatch hz) (by decide) (by decide) (hC.w u_2_127) (va_Nw.use rfl (hC.2.1.2.2.2.1 0 (by decide))) hce hcv hcl ?_
      refine lv_astore (lv' := [(4, .ref q), (0, .ref (ad γ 0)), (1, .int x1), (2, .int x2), (3, .ref (ad γ 30))]) hx hb dL_places_13 hl (by decide) rfl (fun ls hl => ?_)
      refine lv_iconst (v := 1) hx hb dL_places_15 (by decide) ?_
      refine W.widen (k := 2) (n := 12) (by decide) (by decide) ?_
      exact g_xiret hC hP hS dL_places_16 rfl
    rw [if_neg k0] at h
    by_cases k1 : k = 1
    · rw [if_pos k1] at h
      subst k1
      cases h
      refine g_wki (g_wrunV (As := [.int x1, .int x2]) (rest := [.int 0, .ref (ad γ 30)]) hC hZ hP hS (c4_places l hst hv) (by decide) ge_0 rfl u_4_150 yv_X4_places (Nat.le_of_ble_eq_true rfl) rfl hl.1 rfl (Nat.le_of_ble_eq_true rfl) dL_places_5 ⟨by decide, by decide⟩) hS (fun H locs ce q hP hS hce hcv hcl => ?_)
      refine vx_catch (E := exn 1) (name := exn 1) hC.o ([(⟨0, 10, 13, 13⟩ : ExceptionTableEntry)] : List ExceptionTableEntry) (⟨0, 10, 17, 15⟩ : ExceptionTableEntry) [] ht (List.forall_mem_cons.mpr ⟨Or.inr ⟨by decide, exn 0, hC.w u_2_127, hC.2.1.2.2.2.2.1 1 (by decide) 0 (by decide) (by decide)⟩, fun z hz => nomatch hz⟩) (by decide) (by decide) (hC.w u_2_128) (va_Nw.use rfl (hC.2.1.2.2.2.1 1 (by decide))) hce hcv hcl ?_
      refine lv_astore (lv' := [(4, .ref q), (0, .ref (ad γ 0)), (1, .int x1), (2, .int x2), (3, .ref (ad γ 30))]) hx hb dL_places_17 hl (by decide) rfl (fun ls hl => ?_)
      refine lv_iconst (v := 2) hx hb dL_places_19 (by decide) ?_
      refine W.widen (k := 2) (n := 12) (by decide) (by decide) ?_
      exact g_xiret hC hP hS dL_places_20 rfl
    rw [if_neg k1] at h
    cases h
  have h := bx_r h
  cases h
  refine g_xki (g_wrunV (As := [.int x1, .int x2]) (rest := [.int 0, .ref (ad γ 30)]) hC hZ hP hS (c4_places l hst hv) (by decide) ge_0 rfl u_4_150 yv_X4_places (Nat.le_of_ble_eq_true rfl) rfl hl.1 rfl (Nat.le_of_ble_eq_true rfl) dL_places_5 ⟨by decide, by decide⟩) hS (fun H locs hP hS => ?_)
  refine lv_i2l (v := v.toInt64) hx hb dL_places_8 rfl ?_
  refine g_lst hC hP hS dL_places_9 (fun H locs hP hS => ?_)
  refine lv_goto (tgt := 21) hx hb dL_places_10 (by decide) ?_
  refine lv_iconst (v := 0) hx hb dL_places_21 (by decide) ?_
  refine W.widen (k := 2) (n := 12) (by decide) (by decide) ?_
  exact g_xiret hC hP hS dL_places_22 rfl
def rL_removeEvent (T : OS) (Y : OS) (E : Nat → OS) (O : Nat → Int64) (x1 : Int32) : Option (Int32 × OS × OS × (Nat → OS) × (Nat → Int64)) :=
  bd4 (r4_removeEvent T Y E x1) (fun o T1 Y1 E1 => bx o (fun k => if k = 0 then some (1, T1, Y1, E1, O) else none) (fun v => some (0, T1, Y1, E1, (vp_updL O 0 v.toInt64))))
theorem yw_L_removeEvent : gYW yL_removeEvent cL_removeEvent 4 (some .int) [(0, 9, 12, 13)] 3 := ⟨u_3_108, u_1_0, u_3_109, ⟨by decide +kernel, by decide +kernel, by decide +kernel⟩, by decide⟩
set_option maxHeartbeats 4000000 in
set_option maxRecDepth 100000 in
theorem tL_removeEvent (l : Launch) (hst : l.stackTraces = false) {γ : GA} {sz : Nat} {T P X Y B M : OS} {E : Nat → OS} {O : Nat → Int64} {x1 : Int32} {r0 : Int32} {Tz : OS} {Yz : OS} {Ez : Nat → OS} {Oz : Nat → Int64} (h : rL_removeEvent T Y E O x1 = some (r0, Tz, Yz, Ez, Oz)) : vx_Met l yL_removeEvent (gUW yL_removeEvent cL_removeEvent 4 (some .int) [(0, 9, 12, 13)]) (gR 8 1 6) (gPx γ [.ref (ad γ 0), .int x1, .ref (ad γ 30)] sz (T, P, X, Y, E, B, M, O)) (gQxi γ (.inr r0) sz (Tz, P, X, Yz, Ez, B, M, Oz)) (gXC γ (.inr r0 : Nat ⊕ Int32) sz (Tz, P, X, Yz, Ez, B, M, Oz)) 1 6 (gA γ sz) := by
  refine g_metw (fun sz => gQxi γ (.inr r0) sz (Tz, P, X, Yz, Ez, B, M, Oz)) (fun sz => gXC γ (.inr r0 : Nat ⊕ Int32) sz (Tz, P, X, Yz, Ez, B, M, Oz)) (by decide) (Nat.le_of_ble_eq_true rfl) ?_
  intro p e s m args below meth c ls hC hZ ht hP hS hl
  have hx := hC.x
  have hb := hC.b
  have hl : lv_has ls 4 [(0, .ref (ad γ 0)), (1, .int x1), (2, .ref (ad γ 30))] := hl
  unfold rL_removeEvent at h
  obtain ⟨o, T1, Y1, E1, hv, h⟩ := bd4_e h
  refine lv_aload_n hx hb dL_removeEvent_0 rfl (lv_at hl 2 rfl) ?_
  refine lv_iconst (v := 0) hx hb dL_removeEvent_1 (by decide) ?_
  refine lv_aload_n hx hb dL_removeEvent_2 rfl (lv_at hl 0 rfl) ?_
  refine lv_iload_n hx hb dL_removeEvent_3 rfl (lv_at hl 1 rfl) ?_
  rcases o with k | v
  · have h := bx_l h
    by_cases k0 : k = 0
    · rw [if_pos k0] at h
      subst k0
      cases h
      refine g_wki (g_wrunV (As := [.int x1]) (rest := [.int 0, .ref (ad γ 30)]) hC hZ hP hS (c4_removeEvent l hst hv) (by decide) ge_0 rfl u_3_110 yv_X4_removeEvent (Nat.le_of_ble_eq_true rfl) rfl hl.1 rfl (Nat.le_of_ble_eq_true rfl) dL_removeEvent_4 ⟨by decide, by decide⟩) hS (fun H locs ce q hP hS hce hcv hcl => ?_)
      refine vx_catch (E := exn 0) (name := exn 0) hC.o ([] : List ExceptionTableEntry) (⟨0, 9, 12, 13⟩ : ExceptionTableEntry) [] ht (fun z hz => nomatch hz) (by decide) (by decide) (hC.w u_2_127) (va_Nw.use rfl (hC.2.1.2.2.2.1 0 (by decide))) hce hcv hcl ?_
      refine lv_astore_n (lv' := [(3, .ref q), (0, .ref (ad γ 0)), (1, .int x1), (2, .ref (ad γ 30))]) hx hb dL_removeEvent_12 rfl hl (by decide) rfl (fun ls hl => ?_)
      refine lv_iconst (v := 1) hx hb dL_removeEvent_13 (by decide) ?_
      refine W.widen (k := 1) (n := 6) (by decide) (by decide) ?_
      exact g_xiret hC hP hS dL_removeEvent_14 rfl
    rw [if_neg k0] at h
    cases h
  have h := bx_r h
  cases h
  refine g_xki (g_wrunV (As := [.int x1]) (rest := [.int 0, .ref (ad γ 30)]) hC hZ hP hS (c4_removeEvent l hst hv) (by decide) ge_0 rfl u_3_110 yv_X4_removeEvent (Nat.le_of_ble_eq_true rfl) rfl hl.1 rfl (Nat.le_of_ble_eq_true rfl) dL_removeEvent_4 ⟨by decide, by decide⟩) hS (fun H locs hP hS => ?_)
  refine lv_i2l (v := v.toInt64) hx hb dL_removeEvent_7 rfl ?_
  refine g_lst hC hP hS dL_removeEvent_8 (fun H locs hP hS => ?_)
  refine lv_goto (tgt := 15) hx hb dL_removeEvent_9 (by decide) ?_
  refine lv_iconst (v := 0) hx hb dL_removeEvent_15 (by decide) ?_
  refine W.widen (k := 1) (n := 6) (by decide) (by decide) ?_
  exact g_xiret hC hP hS dL_removeEvent_16 rfl
def rL_restore (T : OS) (Y : OS) (E : Nat → OS) (B : OS) (O : Nat → Int64) : Option (Int32 × OS × OS × (Nat → OS) × (Nat → Int64)) :=
  bd4 (r4_restore T Y E B) (fun o T1 Y1 E1 => bx o (fun k => if k = 2 then some (1, T1, Y1, E1, O) else none) (fun v => some (0, T1, Y1, E1, (vp_updL O 0 v.toInt64))))
theorem yw_L_restore : gYW yL_restore cL_restore 3 (some .int) [(0, 8, 11, 34)] 2 := ⟨u_5_137, u_1_0, u_5_138, ⟨by decide +kernel, by decide +kernel, by decide +kernel⟩, by decide⟩
set_option maxHeartbeats 4000000 in
set_option maxRecDepth 100000 in
theorem tL_restore (l : Launch) (hst : l.stackTraces = false) {γ : GA} {sz : Nat} {T P X Y B M : OS} {E : Nat → OS} {O : Nat → Int64} {r0 : Int32} {Tz : OS} {Yz : OS} {Ez : Nat → OS} {Oz : Nat → Int64} (h : rL_restore T Y E B O = some (r0, Tz, Yz, Ez, Oz)) : vx_Met l yL_restore (gUW yL_restore cL_restore 3 (some .int) [(0, 8, 11, 34)]) (gR 7 1 6) (gPx γ [.ref (ad γ 0), .ref (ad γ 30)] sz (T, P, X, Y, E, B, M, O)) (gQxi γ (.inr r0) sz (Tz, P, X, Yz, Ez, B, M, Oz)) (gXC γ (.inr r0 : Nat ⊕ Int32) sz (Tz, P, X, Yz, Ez, B, M, Oz)) 1 6 (gA γ sz) := by
  refine g_metw (fun sz => gQxi γ (.inr r0) sz (Tz, P, X, Yz, Ez, B, M, Oz)) (fun sz => gXC γ (.inr r0 : Nat ⊕ Int32) sz (Tz, P, X, Yz, Ez, B, M, Oz)) (by decide) (Nat.le_of_ble_eq_true rfl) ?_
  intro p e s m args below meth c ls hC hZ ht hP hS hl
  have hx := hC.x
  have hb := hC.b
  have hl : lv_has ls 3 [(0, .ref (ad γ 0)), (1, .ref (ad γ 30))] := hl
  unfold rL_restore at h
  obtain ⟨o, T1, Y1, E1, hv, h⟩ := bd4_e h
  refine lv_aload_n hx hb dL_restore_0 rfl (lv_at hl 1 rfl) ?_
  refine lv_iconst (v := 0) hx hb dL_restore_1 (by decide) ?_
  refine lv_aload_n hx hb dL_restore_2 rfl (lv_at hl 0 rfl) ?_
  rcases o with k | v
  · have h := bx_l h
    by_cases k0 : k = 2
    · rw [if_pos k0] at h
      subst k0
      cases h
      refine g_wki (g_wrunV (As := []) (rest := [.int 0, .ref (ad γ 30)]) hC hZ hP hS (c4_restore l hst hv) (by decide) ge_0 rfl u_5_139 yv_X4_restore (Nat.le_of_ble_eq_true rfl) rfl hl.1 rfl (Nat.le_of_ble_eq_true rfl) dL_restore_3 ⟨by decide, by decide⟩) hS (fun H locs ce q hP hS hce hcv hcl => ?_)
      refine vx_catch (E := exn 2) (name := exn 2) hC.o ([] : List ExceptionTableEntry) (⟨0, 8, 11, 34⟩ : ExceptionTableEntry) [] ht (fun z hz => nomatch hz) (by decide) (by decide) (hC.w u_3_25) (va_Nw.use rfl (hC.2.1.2.2.2.1 2 (by decide))) hce hcv hcl ?_
      refine lv_astore_n (lv' := [(2, .ref q), (0, .ref (ad γ 0)), (1, .ref (ad γ 30))]) hx hb dL_restore_11 rfl hl (by decide) rfl (fun ls hl => ?_)
      refine lv_iconst (v := 1) hx hb dL_restore_12 (by decide) ?_
      refine W.widen (k := 1) (n := 6) (by decide) (by decide) ?_
      exact g_xiret hC hP hS dL_restore_13 rfl
    rw [if_neg k0] at h
    cases h
  have h := bx_r h
  cases h
  refine g_xki (g_wrunV (As := []) (rest := [.int 0, .ref (ad γ 30)]) hC hZ hP hS (c4_restore l hst hv) (by decide) ge_0 rfl u_5_139 yv_X4_restore (Nat.le_of_ble_eq_true rfl) rfl hl.1 rfl (Nat.le_of_ble_eq_true rfl) dL_restore_3 ⟨by decide, by decide⟩) hS (fun H locs hP hS => ?_)
  refine lv_i2l (v := v.toInt64) hx hb dL_restore_6 rfl ?_
  refine g_lst hC hP hS dL_restore_7 (fun H locs hP hS => ?_)
  refine lv_goto (tgt := 14) hx hb dL_restore_8 (by decide) ?_
  refine lv_iconst (v := 0) hx hb dL_restore_14 (by decide) ?_
  refine W.widen (k := 1) (n := 6) (by decide) (by decide) ?_
  exact g_xiret hC hP hS dL_restore_15 rfl
def rL_setGroup (T : OS) (Y : OS) (E : Nat → OS) (O : Nat → Int64) (x1 : Int32) (x2 : Int32) : Option (Int32 × OS × OS × (Nat → OS) × (Nat → Int64)) :=
  bd4 (r4_setGroup T Y E x1 x2) (fun o T1 Y1 E1 => bx o (fun k => if k = 0 then some (1, T1, Y1, E1, O) else if k = 1 then some (2, T1, Y1, E1, O) else none) (fun v => some (0, T1, Y1, E1, (vp_updL O 0 v.toInt64))))
theorem yw_L_setGroup : gYW yL_setGroup cL_setGroup 5 (some .int) [(0, 10, 13, 13), (0, 10, 17, 15)] 4 := ⟨u_2_235, u_1_0, u_2_236, ⟨by decide +kernel, by decide +kernel, by decide +kernel⟩, by decide⟩
set_option maxHeartbeats 4000000 in
set_option maxRecDepth 100000 in
theorem tL_setGroup (l : Launch) (hst : l.stackTraces = false) {γ : GA} {sz : Nat} {T P X Y B M : OS} {E : Nat → OS} {O : Nat → Int64} {x1 : Int32} {x2 : Int32} {r0 : Int32} {Tz : OS} {Yz : OS} {Ez : Nat → OS} {Oz : Nat → Int64} (h : rL_setGroup T Y E O x1 x2 = some (r0, Tz, Yz, Ez, Oz)) : vx_Met l yL_setGroup (gUW yL_setGroup cL_setGroup 5 (some .int) [(0, 10, 13, 13), (0, 10, 17, 15)]) (gR 8 2 12) (gPx γ [.ref (ad γ 0), .int x1, .int x2, .ref (ad γ 30)] sz (T, P, X, Y, E, B, M, O)) (gQxi γ (.inr r0) sz (Tz, P, X, Yz, Ez, B, M, Oz)) (gXC γ (.inr r0 : Nat ⊕ Int32) sz (Tz, P, X, Yz, Ez, B, M, Oz)) 2 12 (gA γ sz) := by
  refine g_metw (fun sz => gQxi γ (.inr r0) sz (Tz, P, X, Yz, Ez, B, M, Oz)) (fun sz => gXC γ (.inr r0 : Nat ⊕ Int32) sz (Tz, P, X, Yz, Ez, B, M, Oz)) (by decide) (Nat.le_of_ble_eq_true rfl) ?_
  intro p e s m args below meth c ls hC hZ ht hP hS hl
  have hx := hC.x
  have hb := hC.b
  have hl : lv_has ls 5 [(0, .ref (ad γ 0)), (1, .int x1), (2, .int x2), (3, .ref (ad γ 30))] := hl
  unfold rL_setGroup at h
  obtain ⟨o, T1, Y1, E1, hv, h⟩ := bd4_e h
  refine lv_aload_n hx hb dL_setGroup_0 rfl (lv_at hl 3 rfl) ?_
  refine lv_iconst (v := 0) hx hb dL_setGroup_1 (by decide) ?_
  refine lv_aload_n hx hb dL_setGroup_2 rfl (lv_at hl 0 rfl) ?_
  refine lv_iload_n hx hb dL_setGroup_3 rfl (lv_at hl 1 rfl) ?_
  refine lv_iload_n hx hb dL_setGroup_4 rfl (lv_at hl 2 rfl) ?_
  rcases o with k | v
  · have h := bx_l h
    by_cases k0 : k = 0
    · rw [if_pos k0] at h
      subst k0
      cases h
      refine g_wki (g_wrunV (As := [.int x1, .int x2]) (rest := [.int 0, .ref (ad γ 30)]) hC hZ hP hS (c4_setGroup l hst hv) (by decide) ge_0 rfl u_2_237 yv_X4_setGroup (Nat.le_of_ble_eq_true rfl) rfl hl.1 rfl (Nat.le_of_ble_eq_true rfl) dL_setGroup_5 ⟨by decide, by decide⟩) hS (fun H locs ce q hP hS hce hcv hcl => ?_)
      refine vx_catch (E := exn 0) (name := exn 0) hC.o ([] : List ExceptionTableEntry) (⟨0, 10, 13, 13⟩ : ExceptionTableEntry) [(⟨0, 10, 17, 15⟩ : ExceptionTableEntry)] ht (fun z hz => nomatch hz) (by decide) (by decide) (hC.w u_2_127) (va_Nw.use rfl (hC.2.1.2.2.2.1 0 (by decide))) hce hcv hcl ?_
      refine lv_astore (lv' := [(4, .ref q), (0, .ref (ad γ 0)), (1, .int x1), (2, .int x2), (3, .ref (ad γ 30))]) hx hb dL_setGroup_13 hl (by decide) rfl (fun ls hl => ?_)
      refine lv_iconst (v := 1) hx hb dL_setGroup_15 (by decide) ?_
      refine W.widen (k := 2) (n := 12) (by decide) (by decide) ?_
      exact g_xiret hC hP hS dL_setGroup_16 rfl
    rw [if_neg k0] at h
    by_cases k1 : k = 1
    · rw [if_pos k1] at h
      subst k1
      cases h
      refine g_wki (g_wrunV (As := [.int x1, .int x2]) (rest := [.int 0, .ref (ad γ 30)]) hC hZ hP hS (c4_setGroup l hst hv) (by decide) ge_0 rfl u_2_237 yv_X4_setGroup (Nat.le_of_ble_eq_true rfl) rfl hl.1 rfl (Nat.le_of_ble_eq_true rfl) dL_setGroup_5 ⟨by decide, by decide⟩) hS (fun H locs ce q hP hS hce hcv hcl => ?_)
      refine vx_catch (E := exn 1) (name := exn 1) hC.o ([(⟨0, 10, 13, 13⟩ : ExceptionTableEntry)] : List ExceptionTableEntry) (⟨0, 10, 17, 15⟩ : ExceptionTableEntry) [] ht (List.forall_mem_cons.mpr ⟨Or.inr ⟨by decide, exn 0, hC.w u_2_127, hC.2.1.2.2.2.2.1 1 (by decide) 0 (by decide) (by decide)⟩, fun z hz => nomatch hz⟩) (by decide) (by decide) (hC.w u_2_128) (va_Nw.use rfl (hC.2.1.2.2.2.1 1 (by decide))) hce hcv hcl ?_
      refine lv_astore (lv' := [(4, .ref q), (0, .ref (ad γ 0)), (1, .int x1), (2, .int x2), (3, .ref (ad γ 30))]) hx hb dL_setGroup_17 hl (by decide) rfl (fun ls hl => ?_)
      refine lv_iconst (v := 2) hx hb dL_setGroup_19 (by decide) ?_
      refine W.widen (k := 2) (n := 12) (by decide) (by decide) ?_
      exact g_xiret hC hP hS dL_setGroup_20 rfl
    rw [if_neg k1] at h
    cases h
  have h := bx_r h
  cases h
  refine g_xki (g_wrunV (As := [.int x1, .int x2]) (rest := [.int 0, .ref (ad γ 30)]) hC hZ hP hS (c4_setGroup l hst hv) (by decide) ge_0 rfl u_2_237 yv_X4_setGroup (Nat.le_of_ble_eq_true rfl) rfl hl.1 rfl (Nat.le_of_ble_eq_true rfl) dL_setGroup_5 ⟨by decide, by decide⟩) hS (fun H locs hP hS => ?_)
  refine lv_i2l (v := v.toInt64) hx hb dL_setGroup_8 rfl ?_
  refine g_lst hC hP hS dL_setGroup_9 (fun H locs hP hS => ?_)
  refine lv_goto (tgt := 21) hx hb dL_setGroup_10 (by decide) ?_
  refine lv_iconst (v := 0) hx hb dL_setGroup_21 (by decide) ?_
  refine W.widen (k := 2) (n := 12) (by decide) (by decide) ?_
  exact g_xiret hC hP hS dL_setGroup_22 rfl
def rL_setRoom (T : OS) (Y : OS) (E : Nat → OS) (O : Nat → Int64) (x1 : Int32) (x2 : Int32) (x3 : Int32) : Option (Int32 × OS × OS × (Nat → OS) × (Nat → Int64)) :=
  bd4 (r4_setRoom T Y E x1 x2 x3) (fun o T1 Y1 E1 => bx o (fun k => if k = 0 then some (1, T1, Y1, E1, O) else if k = 1 then some (2, T1, Y1, E1, O) else none) (fun v => some (0, T1, Y1, E1, (vp_updL O 0 v.toInt64))))
theorem yw_L_setRoom : gYW yL_setRoom cL_setRoom 6 (some .int) [(0, 12, 15, 13), (0, 12, 19, 15)] 5 := ⟨u_2_125, u_1_0, u_2_126, ⟨by decide +kernel, by decide +kernel, by decide +kernel⟩, by decide⟩
set_option maxHeartbeats 4000000 in
set_option maxRecDepth 100000 in
theorem tL_setRoom (l : Launch) (hst : l.stackTraces = false) {γ : GA} {sz : Nat} {T P X Y B M : OS} {E : Nat → OS} {O : Nat → Int64} {x1 : Int32} {x2 : Int32} {x3 : Int32} {r0 : Int32} {Tz : OS} {Yz : OS} {Ez : Nat → OS} {Oz : Nat → Int64} (h : rL_setRoom T Y E O x1 x2 x3 = some (r0, Tz, Yz, Ez, Oz)) : vx_Met l yL_setRoom (gUW yL_setRoom cL_setRoom 6 (some .int) [(0, 12, 15, 13), (0, 12, 19, 15)]) (gR 8 3 18) (gPx γ [.ref (ad γ 0), .int x1, .int x2, .int x3, .ref (ad γ 30)] sz (T, P, X, Y, E, B, M, O)) (gQxi γ (.inr r0) sz (Tz, P, X, Yz, Ez, B, M, Oz)) (gXC γ (.inr r0 : Nat ⊕ Int32) sz (Tz, P, X, Yz, Ez, B, M, Oz)) 3 18 (gA γ sz) := by
  refine g_metw (fun sz => gQxi γ (.inr r0) sz (Tz, P, X, Yz, Ez, B, M, Oz)) (fun sz => gXC γ (.inr r0 : Nat ⊕ Int32) sz (Tz, P, X, Yz, Ez, B, M, Oz)) (by decide) (Nat.le_of_ble_eq_true rfl) ?_
  intro p e s m args below meth c ls hC hZ ht hP hS hl
  have hx := hC.x
  have hb := hC.b
  have hl : lv_has ls 6 [(0, .ref (ad γ 0)), (1, .int x1), (2, .int x2), (3, .int x3), (4, .ref (ad γ 30))] := hl
  unfold rL_setRoom at h
  obtain ⟨o, T1, Y1, E1, hv, h⟩ := bd4_e h
  refine lv_aload hx hb dL_setRoom_0 (lv_at hl 4 rfl) ?_
  refine lv_iconst (v := 0) hx hb dL_setRoom_2 (by decide) ?_
  refine lv_aload_n hx hb dL_setRoom_3 rfl (lv_at hl 0 rfl) ?_
  refine lv_iload_n hx hb dL_setRoom_4 rfl (lv_at hl 1 rfl) ?_
  refine lv_iload_n hx hb dL_setRoom_5 rfl (lv_at hl 2 rfl) ?_
  refine lv_iload_n hx hb dL_setRoom_6 rfl (lv_at hl 3 rfl) ?_
  rcases o with k | v
  · have h := bx_l h
    by_cases k0 : k = 0
    · rw [if_pos k0] at h
      subst k0
      cases h
      refine g_wki (g_wrunV (As := [.int x1, .int x2, .int x3]) (rest := [.int 0, .ref (ad γ 30)]) hC hZ hP hS (c4_setRoom l hst hv) (by decide) ge_0 rfl u_2_129 yv_X4_setRoom (Nat.le_of_ble_eq_true rfl) rfl hl.1 rfl (Nat.le_of_ble_eq_true rfl) dL_setRoom_7 ⟨by decide, by decide⟩) hS (fun H locs ce q hP hS hce hcv hcl => ?_)
      refine vx_catch (E := exn 0) (name := exn 0) hC.o ([] : List ExceptionTableEntry) (⟨0, 12, 15, 13⟩ : ExceptionTableEntry) [(⟨0, 12, 19, 15⟩ : ExceptionTableEntry)] ht (fun z hz => nomatch hz) (by decide) (by decide) (hC.w u_2_127) (va_Nw.use rfl (hC.2.1.2.2.2.1 0 (by decide))) hce hcv hcl ?_
      refine lv_astore (lv' := [(5, .ref q), (0, .ref (ad γ 0)), (1, .int x1), (2, .int x2), (3, .int x3), (4, .ref (ad γ 30))]) hx hb dL_setRoom_15 hl (by decide) rfl (fun ls hl => ?_)
      refine lv_iconst (v := 1) hx hb dL_setRoom_17 (by decide) ?_
      refine W.widen (k := 3) (n := 18) (by decide) (by decide) ?_
      exact g_xiret hC hP hS dL_setRoom_18 rfl
    rw [if_neg k0] at h
    by_cases k1 : k = 1
    · rw [if_pos k1] at h
      subst k1
      cases h
      refine g_wki (g_wrunV (As := [.int x1, .int x2, .int x3]) (rest := [.int 0, .ref (ad γ 30)]) hC hZ hP hS (c4_setRoom l hst hv) (by decide) ge_0 rfl u_2_129 yv_X4_setRoom (Nat.le_of_ble_eq_true rfl) rfl hl.1 rfl (Nat.le_of_ble_eq_true rfl) dL_setRoom_7 ⟨by decide, by decide⟩) hS (fun H locs ce q hP hS hce hcv hcl => ?_)
      refine vx_catch (E := exn 1) (name := exn 1) hC.o ([(⟨0, 12, 15, 13⟩ : ExceptionTableEntry)] : List ExceptionTableEntry) (⟨0, 12, 19, 15⟩ : ExceptionTableEntry) [] ht (List.forall_mem_cons.mpr ⟨Or.inr ⟨by decide, exn 0, hC.w u_2_127, hC.2.1.2.2.2.2.1 1 (by decide) 0 (by decide) (by decide)⟩, fun z hz => nomatch hz⟩) (by decide) (by decide) (hC.w u_2_128) (va_Nw.use rfl (hC.2.1.2.2.2.1 1 (by decide))) hce hcv hcl ?_
      refine lv_astore (lv' := [(5, .ref q), (0, .ref (ad γ 0)), (1, .int x1), (2, .int x2), (3, .int x3), (4, .ref (ad γ 30))]) hx hb dL_setRoom_19 hl (by decide) rfl (fun ls hl => ?_)
      refine lv_iconst (v := 2) hx hb dL_setRoom_21 (by decide) ?_
      refine W.widen (k := 3) (n := 18) (by decide) (by decide) ?_
      exact g_xiret hC hP hS dL_setRoom_22 rfl
    rw [if_neg k1] at h
    cases h
  have h := bx_r h
  cases h
  refine g_xki (g_wrunV (As := [.int x1, .int x2, .int x3]) (rest := [.int 0, .ref (ad γ 30)]) hC hZ hP hS (c4_setRoom l hst hv) (by decide) ge_0 rfl u_2_129 yv_X4_setRoom (Nat.le_of_ble_eq_true rfl) rfl hl.1 rfl (Nat.le_of_ble_eq_true rfl) dL_setRoom_7 ⟨by decide, by decide⟩) hS (fun H locs hP hS => ?_)
  refine lv_i2l (v := v.toInt64) hx hb dL_setRoom_10 rfl ?_
  refine g_lst hC hP hS dL_setRoom_11 (fun H locs hP hS => ?_)
  refine lv_goto (tgt := 23) hx hb dL_setRoom_12 (by decide) ?_
  refine lv_iconst (v := 0) hx hb dL_setRoom_23 (by decide) ?_
  refine W.widen (k := 3) (n := 18) (by decide) (by decide) ?_
  exact g_xiret hC hP hS dL_setRoom_24 rfl
def rL_setTeacher (T : OS) (Y : OS) (E : Nat → OS) (O : Nat → Int64) (x1 : Int32) (x2 : Int32) : Option (Int32 × OS × OS × (Nat → OS) × (Nat → Int64)) :=
  bd4 (r4_setTeacher T Y E x1 x2) (fun o T1 Y1 E1 => bx o (fun k => if k = 0 then some (1, T1, Y1, E1, O) else if k = 1 then some (2, T1, Y1, E1, O) else none) (fun v => some (0, T1, Y1, E1, (vp_updL O 0 v.toInt64))))
theorem yw_L_setTeacher : gYW yL_setTeacher cL_setTeacher 5 (some .int) [(0, 10, 13, 13), (0, 10, 17, 15)] 4 := ⟨u_3_2, u_1_0, u_3_3, ⟨by decide +kernel, by decide +kernel, by decide +kernel⟩, by decide⟩
set_option maxHeartbeats 4000000 in
set_option maxRecDepth 100000 in
theorem tL_setTeacher (l : Launch) (hst : l.stackTraces = false) {γ : GA} {sz : Nat} {T P X Y B M : OS} {E : Nat → OS} {O : Nat → Int64} {x1 : Int32} {x2 : Int32} {r0 : Int32} {Tz : OS} {Yz : OS} {Ez : Nat → OS} {Oz : Nat → Int64} (h : rL_setTeacher T Y E O x1 x2 = some (r0, Tz, Yz, Ez, Oz)) : vx_Met l yL_setTeacher (gUW yL_setTeacher cL_setTeacher 5 (some .int) [(0, 10, 13, 13), (0, 10, 17, 15)]) (gR 8 2 12) (gPx γ [.ref (ad γ 0), .int x1, .int x2, .ref (ad γ 30)] sz (T, P, X, Y, E, B, M, O)) (gQxi γ (.inr r0) sz (Tz, P, X, Yz, Ez, B, M, Oz)) (gXC γ (.inr r0 : Nat ⊕ Int32) sz (Tz, P, X, Yz, Ez, B, M, Oz)) 2 12 (gA γ sz) := by
  refine g_metw (fun sz => gQxi γ (.inr r0) sz (Tz, P, X, Yz, Ez, B, M, Oz)) (fun sz => gXC γ (.inr r0 : Nat ⊕ Int32) sz (Tz, P, X, Yz, Ez, B, M, Oz)) (by decide) (Nat.le_of_ble_eq_true rfl) ?_
  intro p e s m args below meth c ls hC hZ ht hP hS hl
  have hx := hC.x
  have hb := hC.b
  have hl : lv_has ls 5 [(0, .ref (ad γ 0)), (1, .int x1), (2, .int x2), (3, .ref (ad γ 30))] := hl
  unfold rL_setTeacher at h
  obtain ⟨o, T1, Y1, E1, hv, h⟩ := bd4_e h
  refine lv_aload_n hx hb dL_setTeacher_0 rfl (lv_at hl 3 rfl) ?_
  refine lv_iconst (v := 0) hx hb dL_setTeacher_1 (by decide) ?_
  refine lv_aload_n hx hb dL_setTeacher_2 rfl (lv_at hl 0 rfl) ?_
  refine lv_iload_n hx hb dL_setTeacher_3 rfl (lv_at hl 1 rfl) ?_
  refine lv_iload_n hx hb dL_setTeacher_4 rfl (lv_at hl 2 rfl) ?_
  rcases o with k | v
  · have h := bx_l h
    by_cases k0 : k = 0
    · rw [if_pos k0] at h
      subst k0
      cases h
      refine g_wki (g_wrunV (As := [.int x1, .int x2]) (rest := [.int 0, .ref (ad γ 30)]) hC hZ hP hS (c4_setTeacher l hst hv) (by decide) ge_0 rfl u_3_4 yv_X4_setTeacher (Nat.le_of_ble_eq_true rfl) rfl hl.1 rfl (Nat.le_of_ble_eq_true rfl) dL_setTeacher_5 ⟨by decide, by decide⟩) hS (fun H locs ce q hP hS hce hcv hcl => ?_)
      refine vx_catch (E := exn 0) (name := exn 0) hC.o ([] : List ExceptionTableEntry) (⟨0, 10, 13, 13⟩ : ExceptionTableEntry) [(⟨0, 10, 17, 15⟩ : ExceptionTableEntry)] ht (fun z hz => nomatch hz) (by decide) (by decide) (hC.w u_2_127) (va_Nw.use rfl (hC.2.1.2.2.2.1 0 (by decide))) hce hcv hcl ?_
      refine lv_astore (lv' := [(4, .ref q), (0, .ref (ad γ 0)), (1, .int x1), (2, .int x2), (3, .ref (ad γ 30))]) hx hb dL_setTeacher_13 hl (by decide) rfl (fun ls hl => ?_)
      refine lv_iconst (v := 1) hx hb dL_setTeacher_15 (by decide) ?_
      refine W.widen (k := 2) (n := 12) (by decide) (by decide) ?_
      exact g_xiret hC hP hS dL_setTeacher_16 rfl
    rw [if_neg k0] at h
    by_cases k1 : k = 1
    · rw [if_pos k1] at h
      subst k1
      cases h
      refine g_wki (g_wrunV (As := [.int x1, .int x2]) (rest := [.int 0, .ref (ad γ 30)]) hC hZ hP hS (c4_setTeacher l hst hv) (by decide) ge_0 rfl u_3_4 yv_X4_setTeacher (Nat.le_of_ble_eq_true rfl) rfl hl.1 rfl (Nat.le_of_ble_eq_true rfl) dL_setTeacher_5 ⟨by decide, by decide⟩) hS (fun H locs ce q hP hS hce hcv hcl => ?_)
      refine vx_catch (E := exn 1) (name := exn 1) hC.o ([(⟨0, 10, 13, 13⟩ : ExceptionTableEntry)] : List ExceptionTableEntry) (⟨0, 10, 17, 15⟩ : ExceptionTableEntry) [] ht (List.forall_mem_cons.mpr ⟨Or.inr ⟨by decide, exn 0, hC.w u_2_127, hC.2.1.2.2.2.2.1 1 (by decide) 0 (by decide) (by decide)⟩, fun z hz => nomatch hz⟩) (by decide) (by decide) (hC.w u_2_128) (va_Nw.use rfl (hC.2.1.2.2.2.1 1 (by decide))) hce hcv hcl ?_
      refine lv_astore (lv' := [(4, .ref q), (0, .ref (ad γ 0)), (1, .int x1), (2, .int x2), (3, .ref (ad γ 30))]) hx hb dL_setTeacher_17 hl (by decide) rfl (fun ls hl => ?_)
      refine lv_iconst (v := 2) hx hb dL_setTeacher_19 (by decide) ?_
      refine W.widen (k := 2) (n := 12) (by decide) (by decide) ?_
      exact g_xiret hC hP hS dL_setTeacher_20 rfl
    rw [if_neg k1] at h
    cases h
  have h := bx_r h
  cases h
  refine g_xki (g_wrunV (As := [.int x1, .int x2]) (rest := [.int 0, .ref (ad γ 30)]) hC hZ hP hS (c4_setTeacher l hst hv) (by decide) ge_0 rfl u_3_4 yv_X4_setTeacher (Nat.le_of_ble_eq_true rfl) rfl hl.1 rfl (Nat.le_of_ble_eq_true rfl) dL_setTeacher_5 ⟨by decide, by decide⟩) hS (fun H locs hP hS => ?_)
  refine lv_i2l (v := v.toInt64) hx hb dL_setTeacher_8 rfl ?_
  refine g_lst hC hP hS dL_setTeacher_9 (fun H locs hP hS => ?_)
  refine lv_goto (tgt := 21) hx hb dL_setTeacher_10 (by decide) ?_
  refine lv_iconst (v := 0) hx hb dL_setTeacher_21 (by decide) ?_
  refine W.widen (k := 2) (n := 12) (by decide) (by decide) ?_
  exact g_xiret hC hP hS dL_setTeacher_22 rfl
def rL_setWeight (T : OS) (Y : OS) (E : Nat → OS) (O : Nat → Int64) (x1 : Int32) (x2 : Int32) : Option (Int32 × OS × OS × (Nat → OS) × (Nat → Int64)) :=
  bd4 (r4_setWeight T Y E x1 x2) (fun o T1 Y1 E1 => bx o (fun k => if k = 0 then some (1, T1, Y1, E1, O) else if k = 1 then some (2, T1, Y1, E1, O) else none) (fun v => some (0, T1, Y1, E1, (vp_updL O 0 v.toInt64))))
theorem yw_L_setWeight : gYW yL_setWeight cL_setWeight 5 (some .int) [(0, 10, 13, 13), (0, 10, 17, 15)] 4 := ⟨u_3_9, u_1_0, u_3_10, ⟨by decide +kernel, by decide +kernel, by decide +kernel⟩, by decide⟩
set_option maxHeartbeats 4000000 in
set_option maxRecDepth 100000 in
theorem tL_setWeight (l : Launch) (hst : l.stackTraces = false) {γ : GA} {sz : Nat} {T P X Y B M : OS} {E : Nat → OS} {O : Nat → Int64} {x1 : Int32} {x2 : Int32} {r0 : Int32} {Tz : OS} {Yz : OS} {Ez : Nat → OS} {Oz : Nat → Int64} (h : rL_setWeight T Y E O x1 x2 = some (r0, Tz, Yz, Ez, Oz)) : vx_Met l yL_setWeight (gUW yL_setWeight cL_setWeight 5 (some .int) [(0, 10, 13, 13), (0, 10, 17, 15)]) (gR 8 2 12) (gPx γ [.ref (ad γ 0), .int x1, .int x2, .ref (ad γ 30)] sz (T, P, X, Y, E, B, M, O)) (gQxi γ (.inr r0) sz (Tz, P, X, Yz, Ez, B, M, Oz)) (gXC γ (.inr r0 : Nat ⊕ Int32) sz (Tz, P, X, Yz, Ez, B, M, Oz)) 2 12 (gA γ sz) := by
  refine g_metw (fun sz => gQxi γ (.inr r0) sz (Tz, P, X, Yz, Ez, B, M, Oz)) (fun sz => gXC γ (.inr r0 : Nat ⊕ Int32) sz (Tz, P, X, Yz, Ez, B, M, Oz)) (by decide) (Nat.le_of_ble_eq_true rfl) ?_
  intro p e s m args below meth c ls hC hZ ht hP hS hl
  have hx := hC.x
  have hb := hC.b
  have hl : lv_has ls 5 [(0, .ref (ad γ 0)), (1, .int x1), (2, .int x2), (3, .ref (ad γ 30))] := hl
  unfold rL_setWeight at h
  obtain ⟨o, T1, Y1, E1, hv, h⟩ := bd4_e h
  refine lv_aload_n hx hb dL_setWeight_0 rfl (lv_at hl 3 rfl) ?_
  refine lv_iconst (v := 0) hx hb dL_setWeight_1 (by decide) ?_
  refine lv_aload_n hx hb dL_setWeight_2 rfl (lv_at hl 0 rfl) ?_
  refine lv_iload_n hx hb dL_setWeight_3 rfl (lv_at hl 1 rfl) ?_
  refine lv_iload_n hx hb dL_setWeight_4 rfl (lv_at hl 2 rfl) ?_
  rcases o with k | v
  · have h := bx_l h
    by_cases k0 : k = 0
    · rw [if_pos k0] at h
      subst k0
      cases h
      refine g_wki (g_wrunV (As := [.int x1, .int x2]) (rest := [.int 0, .ref (ad γ 30)]) hC hZ hP hS (c4_setWeight l hst hv) (by decide) ge_0 rfl u_3_11 yv_X4_setWeight (Nat.le_of_ble_eq_true rfl) rfl hl.1 rfl (Nat.le_of_ble_eq_true rfl) dL_setWeight_5 ⟨by decide, by decide⟩) hS (fun H locs ce q hP hS hce hcv hcl => ?_)
      refine vx_catch (E := exn 0) (name := exn 0) hC.o ([] : List ExceptionTableEntry) (⟨0, 10, 13, 13⟩ : ExceptionTableEntry) [(⟨0, 10, 17, 15⟩ : ExceptionTableEntry)] ht (fun z hz => nomatch hz) (by decide) (by decide) (hC.w u_2_127) (va_Nw.use rfl (hC.2.1.2.2.2.1 0 (by decide))) hce hcv hcl ?_
      refine lv_astore (lv' := [(4, .ref q), (0, .ref (ad γ 0)), (1, .int x1), (2, .int x2), (3, .ref (ad γ 30))]) hx hb dL_setWeight_13 hl (by decide) rfl (fun ls hl => ?_)
      refine lv_iconst (v := 1) hx hb dL_setWeight_15 (by decide) ?_
      refine W.widen (k := 2) (n := 12) (by decide) (by decide) ?_
      exact g_xiret hC hP hS dL_setWeight_16 rfl
    rw [if_neg k0] at h
    by_cases k1 : k = 1
    · rw [if_pos k1] at h
      subst k1
      cases h
      refine g_wki (g_wrunV (As := [.int x1, .int x2]) (rest := [.int 0, .ref (ad γ 30)]) hC hZ hP hS (c4_setWeight l hst hv) (by decide) ge_0 rfl u_3_11 yv_X4_setWeight (Nat.le_of_ble_eq_true rfl) rfl hl.1 rfl (Nat.le_of_ble_eq_true rfl) dL_setWeight_5 ⟨by decide, by decide⟩) hS (fun H locs ce q hP hS hce hcv hcl => ?_)
      refine vx_catch (E := exn 1) (name := exn 1) hC.o ([(⟨0, 10, 13, 13⟩ : ExceptionTableEntry)] : List ExceptionTableEntry) (⟨0, 10, 17, 15⟩ : ExceptionTableEntry) [] ht (List.forall_mem_cons.mpr ⟨Or.inr ⟨by decide, exn 0, hC.w u_2_127, hC.2.1.2.2.2.2.1 1 (by decide) 0 (by decide) (by decide)⟩, fun z hz => nomatch hz⟩) (by decide) (by decide) (hC.w u_2_128) (va_Nw.use rfl (hC.2.1.2.2.2.1 1 (by decide))) hce hcv hcl ?_
      refine lv_astore (lv' := [(4, .ref q), (0, .ref (ad γ 0)), (1, .int x1), (2, .int x2), (3, .ref (ad γ 30))]) hx hb dL_setWeight_17 hl (by decide) rfl (fun ls hl => ?_)
      refine lv_iconst (v := 2) hx hb dL_setWeight_19 (by decide) ?_
      refine W.widen (k := 2) (n := 12) (by decide) (by decide) ?_
      exact g_xiret hC hP hS dL_setWeight_20 rfl
    rw [if_neg k1] at h
    cases h
  have h := bx_r h
  cases h
  refine g_xki (g_wrunV (As := [.int x1, .int x2]) (rest := [.int 0, .ref (ad γ 30)]) hC hZ hP hS (c4_setWeight l hst hv) (by decide) ge_0 rfl u_3_11 yv_X4_setWeight (Nat.le_of_ble_eq_true rfl) rfl hl.1 rfl (Nat.le_of_ble_eq_true rfl) dL_setWeight_5 ⟨by decide, by decide⟩) hS (fun H locs hP hS => ?_)
  refine lv_i2l (v := v.toInt64) hx hb dL_setWeight_8 rfl ?_
  refine g_lst hC hP hS dL_setWeight_9 (fun H locs hP hS => ?_)
  refine lv_goto (tgt := 21) hx hb dL_setWeight_10 (by decide) ?_
  refine lv_iconst (v := 0) hx hb dL_setWeight_21 (by decide) ?_
  refine W.widen (k := 2) (n := 12) (by decide) (by decide) ?_
  exact g_xiret hC hP hS dL_setWeight_22 rfl
def rL_setting (T : OS) (O : Nat → Int64) (x1 : Int32) (x2 : Int32) : Option (Int32 × (Nat → Int64)) :=
  bd1 (r4_setting T x1 x2) (fun o => bx o (fun k => if k = 1 then some (1, O) else if k = 0 then some (2, O) else none) (fun v => some (0, (vp_updL O 0 v.toInt64))))
theorem yw_L_setting : gYW yL_setting cL_setting 5 (some .int) [(0, 10, 13, 15), (0, 10, 17, 13)] 4 := ⟨u_3_16, u_1_0, u_3_17, ⟨by decide +kernel, by decide +kernel, by decide +kernel⟩, by decide⟩
set_option maxHeartbeats 4000000 in
set_option maxRecDepth 100000 in
theorem tL_setting (l : Launch) (hst : l.stackTraces = false) {γ : GA} {sz : Nat} {T P X Y B M : OS} {E : Nat → OS} {O : Nat → Int64} {x1 : Int32} {x2 : Int32} {r0 : Int32} {Oz : Nat → Int64} (h : rL_setting T O x1 x2 = some (r0, Oz)) : vx_Met l yL_setting (gUW yL_setting cL_setting 5 (some .int) [(0, 10, 13, 15), (0, 10, 17, 13)]) (gR 8 5 30) (gPx γ [.ref (ad γ 0), .int x1, .int x2, .ref (ad γ 30)] sz (T, P, X, Y, E, B, M, O)) (gQxi γ (.inr r0) sz (T, P, X, Y, E, B, M, Oz)) (gXC γ (.inr r0 : Nat ⊕ Int32) sz (T, P, X, Y, E, B, M, Oz)) 5 30 (gA γ sz) := by
  refine g_metw (fun sz => gQxi γ (.inr r0) sz (T, P, X, Y, E, B, M, Oz)) (fun sz => gXC γ (.inr r0 : Nat ⊕ Int32) sz (T, P, X, Y, E, B, M, Oz)) (by decide) (Nat.le_of_ble_eq_true rfl) ?_
  intro p e s m args below meth c ls hC hZ ht hP hS hl
  have hx := hC.x
  have hb := hC.b
  have hl : lv_has ls 5 [(0, .ref (ad γ 0)), (1, .int x1), (2, .int x2), (3, .ref (ad γ 30))] := hl
  unfold rL_setting at h
  obtain ⟨o, hv, h⟩ := bd1_e h
  refine lv_aload_n hx hb dL_setting_0 rfl (lv_at hl 3 rfl) ?_
  refine lv_iconst (v := 0) hx hb dL_setting_1 (by decide) ?_
  refine lv_aload_n hx hb dL_setting_2 rfl (lv_at hl 0 rfl) ?_
  refine lv_iload_n hx hb dL_setting_3 rfl (lv_at hl 1 rfl) ?_
  refine lv_iload_n hx hb dL_setting_4 rfl (lv_at hl 2 rfl) ?_
  rcases o with k | v
  · have h := bx_l h
    by_cases k0 : k = 1
    · rw [if_pos k0] at h
      subst k0
      cases h
      refine g_wki (g_wrunV (As := [.int x1, .int x2]) (rest := [.int 0, .ref (ad γ 30)]) hC hZ hP hS (c4_setting l hst hv) (by decide) ge_0 rfl u_3_18 yv_X4_setting (Nat.le_of_ble_eq_true rfl) rfl hl.1 rfl (Nat.le_of_ble_eq_true rfl) dL_setting_5 ⟨by decide, by decide⟩) hS (fun H locs ce q hP hS hce hcv hcl => ?_)
      refine vx_catch (E := exn 1) (name := exn 1) hC.o ([] : List ExceptionTableEntry) (⟨0, 10, 13, 15⟩ : ExceptionTableEntry) [(⟨0, 10, 17, 13⟩ : ExceptionTableEntry)] ht (fun z hz => nomatch hz) (by decide) (by decide) (hC.w u_2_128) (va_Nw.use rfl (hC.2.1.2.2.2.1 1 (by decide))) hce hcv hcl ?_
      refine lv_astore (lv' := [(4, .ref q), (0, .ref (ad γ 0)), (1, .int x1), (2, .int x2), (3, .ref (ad γ 30))]) hx hb dL_setting_13 hl (by decide) rfl (fun ls hl => ?_)
      refine lv_iconst (v := 1) hx hb dL_setting_15 (by decide) ?_
      refine W.widen (k := 5) (n := 30) (by decide) (by decide) ?_
      exact g_xiret hC hP hS dL_setting_16 rfl
    rw [if_neg k0] at h
    by_cases k1 : k = 0
    · rw [if_pos k1] at h
      subst k1
      cases h
      refine g_wki (g_wrunV (As := [.int x1, .int x2]) (rest := [.int 0, .ref (ad γ 30)]) hC hZ hP hS (c4_setting l hst hv) (by decide) ge_0 rfl u_3_18 yv_X4_setting (Nat.le_of_ble_eq_true rfl) rfl hl.1 rfl (Nat.le_of_ble_eq_true rfl) dL_setting_5 ⟨by decide, by decide⟩) hS (fun H locs ce q hP hS hce hcv hcl => ?_)
      refine vx_catch (E := exn 0) (name := exn 0) hC.o ([(⟨0, 10, 13, 15⟩ : ExceptionTableEntry)] : List ExceptionTableEntry) (⟨0, 10, 17, 13⟩ : ExceptionTableEntry) [] ht (List.forall_mem_cons.mpr ⟨Or.inr ⟨by decide, exn 1, hC.w u_2_128, hC.2.1.2.2.2.2.1 0 (by decide) 1 (by decide) (by decide)⟩, fun z hz => nomatch hz⟩) (by decide) (by decide) (hC.w u_2_127) (va_Nw.use rfl (hC.2.1.2.2.2.1 0 (by decide))) hce hcv hcl ?_
      refine lv_astore (lv' := [(4, .ref q), (0, .ref (ad γ 0)), (1, .int x1), (2, .int x2), (3, .ref (ad γ 30))]) hx hb dL_setting_17 hl (by decide) rfl (fun ls hl => ?_)
      refine lv_iconst (v := 2) hx hb dL_setting_19 (by decide) ?_
      refine W.widen (k := 5) (n := 30) (by decide) (by decide) ?_
      exact g_xiret hC hP hS dL_setting_20 rfl
    rw [if_neg k1] at h
    cases h
  have h := bx_r h
  cases h
  refine g_xki (g_wrunV (As := [.int x1, .int x2]) (rest := [.int 0, .ref (ad γ 30)]) hC hZ hP hS (c4_setting l hst hv) (by decide) ge_0 rfl u_3_18 yv_X4_setting (Nat.le_of_ble_eq_true rfl) rfl hl.1 rfl (Nat.le_of_ble_eq_true rfl) dL_setting_5 ⟨by decide, by decide⟩) hS (fun H locs hP hS => ?_)
  refine lv_i2l (v := v.toInt64) hx hb dL_setting_8 rfl ?_
  refine g_lst hC hP hS dL_setting_9 (fun H locs hP hS => ?_)
  refine lv_goto (tgt := 21) hx hb dL_setting_10 (by decide) ?_
  refine lv_iconst (v := 0) hx hb dL_setting_21 (by decide) ?_
  refine W.widen (k := 5) (n := 30) (by decide) (by decide) ?_
  exact g_xiret hC hP hS dL_setting_22 rfl
def rL_split (T : OS) (Y : OS) (E : Nat → OS) (O : Nat → Int64) (x1 : Int32) (x2 : Int32) : Option (Int32 × OS × OS × (Nat → OS) × (Nat → Int64)) :=
  bd4 (r4_split T Y E x1 x2) (fun o T1 Y1 E1 => bx o (fun k => if k = 0 then some (1, T1, Y1, E1, O) else if k = 1 then some (2, T1, Y1, E1, O) else if k = 2 then some (3, T1, Y1, E1, O) else none) (fun v => some (0, T1, Y1, E1, (vp_updL O 0 v.toInt64))))
theorem yw_L_split : gYW yL_split cL_split 5 (some .int) [(0, 10, 13, 13), (0, 10, 17, 15), (0, 10, 21, 34)] 4 := ⟨u_3_128, u_1_0, u_3_129, ⟨by decide +kernel, by decide +kernel, by decide +kernel⟩, by decide⟩
set_option maxHeartbeats 4000000 in
set_option maxRecDepth 100000 in
theorem tL_split (l : Launch) (hst : l.stackTraces = false) {γ : GA} {sz : Nat} {T P X Y B M : OS} {E : Nat → OS} {O : Nat → Int64} {x1 : Int32} {x2 : Int32} {r0 : Int32} {Tz : OS} {Yz : OS} {Ez : Nat → OS} {Oz : Nat → Int64} (h : rL_split T Y E O x1 x2 = some (r0, Tz, Yz, Ez, Oz)) : vx_Met l yL_split (gUW yL_split cL_split 5 (some .int) [(0, 10, 13, 13), (0, 10, 17, 15), (0, 10, 21, 34)]) (gR 8 3 18) (gPx γ [.ref (ad γ 0), .int x1, .int x2, .ref (ad γ 30)] sz (T, P, X, Y, E, B, M, O)) (gQxi γ (.inr r0) sz (Tz, P, X, Yz, Ez, B, M, Oz)) (gXC γ (.inr r0 : Nat ⊕ Int32) sz (Tz, P, X, Yz, Ez, B, M, Oz)) 3 18 (gA γ sz) := by
  refine g_metw (fun sz => gQxi γ (.inr r0) sz (Tz, P, X, Yz, Ez, B, M, Oz)) (fun sz => gXC γ (.inr r0 : Nat ⊕ Int32) sz (Tz, P, X, Yz, Ez, B, M, Oz)) (by decide) (Nat.le_of_ble_eq_true rfl) ?_
  intro p e s m args below meth c ls hC hZ ht hP hS hl
  have hx := hC.x
  have hb := hC.b
  have hl : lv_has ls 5 [(0, .ref (ad γ 0)), (1, .int x1), (2, .int x2), (3, .ref (ad γ 30))] := hl
  unfold rL_split at h
  obtain ⟨o, T1, Y1, E1, hv, h⟩ := bd4_e h
  refine lv_aload_n hx hb dL_split_0 rfl (lv_at hl 3 rfl) ?_
  refine lv_iconst (v := 0) hx hb dL_split_1 (by decide) ?_
  refine lv_aload_n hx hb dL_split_2 rfl (lv_at hl 0 rfl) ?_
  refine lv_iload_n hx hb dL_split_3 rfl (lv_at hl 1 rfl) ?_
  refine lv_iload_n hx hb dL_split_4 rfl (lv_at hl 2 rfl) ?_
  rcases o with k | v
  · have h := bx_l h
    by_cases k0 : k = 0
    · rw [if_pos k0] at h
      subst k0
      cases h
      refine g_wki (g_wrunV (As := [.int x1, .int x2]) (rest := [.int 0, .ref (ad γ 30)]) hC hZ hP hS (c4_split l hst hv) (by decide) ge_0 rfl u_3_130 yv_X4_split (Nat.le_of_ble_eq_true rfl) rfl hl.1 rfl (Nat.le_of_ble_eq_true rfl) dL_split_5 ⟨by decide, by decide⟩) hS (fun H locs ce q hP hS hce hcv hcl => ?_)
      refine vx_catch (E := exn 0) (name := exn 0) hC.o ([] : List ExceptionTableEntry) (⟨0, 10, 13, 13⟩ : ExceptionTableEntry) [(⟨0, 10, 17, 15⟩ : ExceptionTableEntry), (⟨0, 10, 21, 34⟩ : ExceptionTableEntry)] ht (fun z hz => nomatch hz) (by decide) (by decide) (hC.w u_2_127) (va_Nw.use rfl (hC.2.1.2.2.2.1 0 (by decide))) hce hcv hcl ?_
      refine lv_astore (lv' := [(4, .ref q), (0, .ref (ad γ 0)), (1, .int x1), (2, .int x2), (3, .ref (ad γ 30))]) hx hb dL_split_13 hl (by decide) rfl (fun ls hl => ?_)
      refine lv_iconst (v := 1) hx hb dL_split_15 (by decide) ?_
      refine W.widen (k := 3) (n := 18) (by decide) (by decide) ?_
      exact g_xiret hC hP hS dL_split_16 rfl
    rw [if_neg k0] at h
    by_cases k1 : k = 1
    · rw [if_pos k1] at h
      subst k1
      cases h
      refine g_wki (g_wrunV (As := [.int x1, .int x2]) (rest := [.int 0, .ref (ad γ 30)]) hC hZ hP hS (c4_split l hst hv) (by decide) ge_0 rfl u_3_130 yv_X4_split (Nat.le_of_ble_eq_true rfl) rfl hl.1 rfl (Nat.le_of_ble_eq_true rfl) dL_split_5 ⟨by decide, by decide⟩) hS (fun H locs ce q hP hS hce hcv hcl => ?_)
      refine vx_catch (E := exn 1) (name := exn 1) hC.o ([(⟨0, 10, 13, 13⟩ : ExceptionTableEntry)] : List ExceptionTableEntry) (⟨0, 10, 17, 15⟩ : ExceptionTableEntry) [(⟨0, 10, 21, 34⟩ : ExceptionTableEntry)] ht (List.forall_mem_cons.mpr ⟨Or.inr ⟨by decide, exn 0, hC.w u_2_127, hC.2.1.2.2.2.2.1 1 (by decide) 0 (by decide) (by decide)⟩, fun z hz => nomatch hz⟩) (by decide) (by decide) (hC.w u_2_128) (va_Nw.use rfl (hC.2.1.2.2.2.1 1 (by decide))) hce hcv hcl ?_
      refine lv_astore (lv' := [(4, .ref q), (0, .ref (ad γ 0)), (1, .int x1), (2, .int x2), (3, .ref (ad γ 30))]) hx hb dL_split_17 hl (by decide) rfl (fun ls hl => ?_)
      refine lv_iconst (v := 2) hx hb dL_split_19 (by decide) ?_
      refine W.widen (k := 3) (n := 18) (by decide) (by decide) ?_
      exact g_xiret hC hP hS dL_split_20 rfl
    rw [if_neg k1] at h
    by_cases k2 : k = 2
    · rw [if_pos k2] at h
      subst k2
      cases h
      refine g_wki (g_wrunV (As := [.int x1, .int x2]) (rest := [.int 0, .ref (ad γ 30)]) hC hZ hP hS (c4_split l hst hv) (by decide) ge_0 rfl u_3_130 yv_X4_split (Nat.le_of_ble_eq_true rfl) rfl hl.1 rfl (Nat.le_of_ble_eq_true rfl) dL_split_5 ⟨by decide, by decide⟩) hS (fun H locs ce q hP hS hce hcv hcl => ?_)
      refine vx_catch (E := exn 2) (name := exn 2) hC.o ([(⟨0, 10, 13, 13⟩ : ExceptionTableEntry), (⟨0, 10, 17, 15⟩ : ExceptionTableEntry)] : List ExceptionTableEntry) (⟨0, 10, 21, 34⟩ : ExceptionTableEntry) [] ht (List.forall_mem_cons.mpr ⟨Or.inr ⟨by decide, exn 0, hC.w u_2_127, hC.2.1.2.2.2.2.1 2 (by decide) 0 (by decide) (by decide)⟩, List.forall_mem_cons.mpr ⟨Or.inr ⟨by decide, exn 1, hC.w u_2_128, hC.2.1.2.2.2.2.1 2 (by decide) 1 (by decide) (by decide)⟩, fun z hz => nomatch hz⟩⟩) (by decide) (by decide) (hC.w u_3_25) (va_Nw.use rfl (hC.2.1.2.2.2.1 2 (by decide))) hce hcv hcl ?_
      refine lv_astore (lv' := [(4, .ref q), (0, .ref (ad γ 0)), (1, .int x1), (2, .int x2), (3, .ref (ad γ 30))]) hx hb dL_split_21 hl (by decide) rfl (fun ls hl => ?_)
      refine lv_iconst (v := 3) hx hb dL_split_23 (by decide) ?_
      refine W.widen (k := 3) (n := 18) (by decide) (by decide) ?_
      exact g_xiret hC hP hS dL_split_24 rfl
    rw [if_neg k2] at h
    cases h
  have h := bx_r h
  cases h
  refine g_xki (g_wrunV (As := [.int x1, .int x2]) (rest := [.int 0, .ref (ad γ 30)]) hC hZ hP hS (c4_split l hst hv) (by decide) ge_0 rfl u_3_130 yv_X4_split (Nat.le_of_ble_eq_true rfl) rfl hl.1 rfl (Nat.le_of_ble_eq_true rfl) dL_split_5 ⟨by decide, by decide⟩) hS (fun H locs hP hS => ?_)
  refine lv_i2l (v := v.toInt64) hx hb dL_split_8 rfl ?_
  refine g_lst hC hP hS dL_split_9 (fun H locs hP hS => ?_)
  refine lv_goto (tgt := 25) hx hb dL_split_10 (by decide) ?_
  refine lv_iconst (v := 0) hx hb dL_split_25 (by decide) ?_
  refine W.widen (k := 3) (n := 18) (by decide) (by decide) ?_
  exact g_xiret hC hP hS dL_split_26 rfl
def rL_taken (T : OS) (O : Nat → Int64) (x1 : Int32) (x2 : Int32) : Option (Int32 × (Nat → Int64)) :=
  bd1 (r4_taken T x1 x2) (fun o => bx o (fun k => if k = 1 then some (1, O) else if k = 0 then some (2, O) else none) (fun v => some (0, (vp_updL O 0 v.toInt64))))
theorem yw_L_taken : gYW yL_taken cL_taken 5 (some .int) [(0, 10, 13, 15), (0, 10, 17, 13)] 4 := ⟨u_4_199, u_1_0, u_4_200, ⟨by decide +kernel, by decide +kernel, by decide +kernel⟩, by decide⟩
set_option maxHeartbeats 4000000 in
set_option maxRecDepth 100000 in
theorem tL_taken (l : Launch) (hst : l.stackTraces = false) {γ : GA} {sz : Nat} {T P X Y B M : OS} {E : Nat → OS} {O : Nat → Int64} {x1 : Int32} {x2 : Int32} {r0 : Int32} {Oz : Nat → Int64} (h : rL_taken T O x1 x2 = some (r0, Oz)) : vx_Met l yL_taken (gUW yL_taken cL_taken 5 (some .int) [(0, 10, 13, 15), (0, 10, 17, 13)]) (gR 8 4 24) (gPx γ [.ref (ad γ 0), .int x1, .int x2, .ref (ad γ 30)] sz (T, P, X, Y, E, B, M, O)) (gQxi γ (.inr r0) sz (T, P, X, Y, E, B, M, Oz)) (gXC γ (.inr r0 : Nat ⊕ Int32) sz (T, P, X, Y, E, B, M, Oz)) 4 24 (gA γ sz) := by
  refine g_metw (fun sz => gQxi γ (.inr r0) sz (T, P, X, Y, E, B, M, Oz)) (fun sz => gXC γ (.inr r0 : Nat ⊕ Int32) sz (T, P, X, Y, E, B, M, Oz)) (by decide) (Nat.le_of_ble_eq_true rfl) ?_
  intro p e s m args below meth c ls hC hZ ht hP hS hl
  have hx := hC.x
  have hb := hC.b
  have hl : lv_has ls 5 [(0, .ref (ad γ 0)), (1, .int x1), (2, .int x2), (3, .ref (ad γ 30))] := hl
  unfold rL_taken at h
  obtain ⟨o, hv, h⟩ := bd1_e h
  refine lv_aload_n hx hb dL_taken_0 rfl (lv_at hl 3 rfl) ?_
  refine lv_iconst (v := 0) hx hb dL_taken_1 (by decide) ?_
  refine lv_aload_n hx hb dL_taken_2 rfl (lv_at hl 0 rfl) ?_
  refine lv_iload_n hx hb dL_taken_3 rfl (lv_at hl 1 rfl) ?_
  refine lv_iload_n hx hb dL_taken_4 rfl (lv_at hl 2 rfl) ?_
  rcases o with k | v
  · have h := bx_l h
    by_cases k0 : k = 1
    · rw [if_pos k0] at h
      subst k0
      cases h
      refine g_wki (g_wrunV (As := [.int x1, .int x2]) (rest := [.int 0, .ref (ad γ 30)]) hC hZ hP hS (c4_taken l hst hv) (by decide) ge_0 rfl u_4_201 yv_X4_taken (Nat.le_of_ble_eq_true rfl) rfl hl.1 rfl (Nat.le_of_ble_eq_true rfl) dL_taken_5 ⟨by decide, by decide⟩) hS (fun H locs ce q hP hS hce hcv hcl => ?_)
      refine vx_catch (E := exn 1) (name := exn 1) hC.o ([] : List ExceptionTableEntry) (⟨0, 10, 13, 15⟩ : ExceptionTableEntry) [(⟨0, 10, 17, 13⟩ : ExceptionTableEntry)] ht (fun z hz => nomatch hz) (by decide) (by decide) (hC.w u_2_128) (va_Nw.use rfl (hC.2.1.2.2.2.1 1 (by decide))) hce hcv hcl ?_
      refine lv_astore (lv' := [(4, .ref q), (0, .ref (ad γ 0)), (1, .int x1), (2, .int x2), (3, .ref (ad γ 30))]) hx hb dL_taken_13 hl (by decide) rfl (fun ls hl => ?_)
      refine lv_iconst (v := 1) hx hb dL_taken_15 (by decide) ?_
      refine W.widen (k := 4) (n := 24) (by decide) (by decide) ?_
      exact g_xiret hC hP hS dL_taken_16 rfl
    rw [if_neg k0] at h
    by_cases k1 : k = 0
    · rw [if_pos k1] at h
      subst k1
      cases h
      refine g_wki (g_wrunV (As := [.int x1, .int x2]) (rest := [.int 0, .ref (ad γ 30)]) hC hZ hP hS (c4_taken l hst hv) (by decide) ge_0 rfl u_4_201 yv_X4_taken (Nat.le_of_ble_eq_true rfl) rfl hl.1 rfl (Nat.le_of_ble_eq_true rfl) dL_taken_5 ⟨by decide, by decide⟩) hS (fun H locs ce q hP hS hce hcv hcl => ?_)
      refine vx_catch (E := exn 0) (name := exn 0) hC.o ([(⟨0, 10, 13, 15⟩ : ExceptionTableEntry)] : List ExceptionTableEntry) (⟨0, 10, 17, 13⟩ : ExceptionTableEntry) [] ht (List.forall_mem_cons.mpr ⟨Or.inr ⟨by decide, exn 1, hC.w u_2_128, hC.2.1.2.2.2.2.1 0 (by decide) 1 (by decide) (by decide)⟩, fun z hz => nomatch hz⟩) (by decide) (by decide) (hC.w u_2_127) (va_Nw.use rfl (hC.2.1.2.2.2.1 0 (by decide))) hce hcv hcl ?_
      refine lv_astore (lv' := [(4, .ref q), (0, .ref (ad γ 0)), (1, .int x1), (2, .int x2), (3, .ref (ad γ 30))]) hx hb dL_taken_17 hl (by decide) rfl (fun ls hl => ?_)
      refine lv_iconst (v := 2) hx hb dL_taken_19 (by decide) ?_
      refine W.widen (k := 4) (n := 24) (by decide) (by decide) ?_
      exact g_xiret hC hP hS dL_taken_20 rfl
    rw [if_neg k1] at h
    cases h
  have h := bx_r h
  cases h
  refine g_xki (g_wrunV (As := [.int x1, .int x2]) (rest := [.int 0, .ref (ad γ 30)]) hC hZ hP hS (c4_taken l hst hv) (by decide) ge_0 rfl u_4_201 yv_X4_taken (Nat.le_of_ble_eq_true rfl) rfl hl.1 rfl (Nat.le_of_ble_eq_true rfl) dL_taken_5 ⟨by decide, by decide⟩) hS (fun H locs hP hS => ?_)
  refine lv_i2l (v := v.toInt64) hx hb dL_taken_8 rfl ?_
  refine g_lst hC hP hS dL_taken_9 (fun H locs hP hS => ?_)
  refine lv_goto (tgt := 21) hx hb dL_taken_10 (by decide) ?_
  refine lv_iconst (v := 0) hx hb dL_taken_21 (by decide) ?_
  refine W.widen (k := 4) (n := 24) (by decide) (by decide) ?_
  exact g_xiret hC hP hS dL_taken_22 rfl
def rL_undo (T : OS) (Y : OS) (E : Nat → OS) (O : Nat → Int64) : Option (Int32 × OS × OS × (Nat → Int64)) :=
  bd3 (r4_undo T Y E) (fun o T1 Y1 => bx o (fun k => if k = 2 then some (1, T1, Y1, O) else none) (fun v => some (0, T1, Y1, (vp_updL O 0 v.toInt64))))
theorem yw_L_undo : gYW yL_undo cL_undo 3 (some .int) [(0, 8, 11, 34)] 2 := ⟨u_5_124, u_1_0, u_5_125, ⟨by decide +kernel, by decide +kernel, by decide +kernel⟩, by decide⟩
set_option maxHeartbeats 4000000 in
set_option maxRecDepth 100000 in
theorem tL_undo (l : Launch) (hst : l.stackTraces = false) {γ : GA} {sz : Nat} {T P X Y B M : OS} {E : Nat → OS} {O : Nat → Int64} {r0 : Int32} {Tz : OS} {Yz : OS} {Oz : Nat → Int64} (h : rL_undo T Y E O = some (r0, Tz, Yz, Oz)) : vx_Met l yL_undo (gUW yL_undo cL_undo 3 (some .int) [(0, 8, 11, 34)]) (gR 7 1 6) (gPx γ [.ref (ad γ 0), .ref (ad γ 30)] sz (T, P, X, Y, E, B, M, O)) (gQxi γ (.inr r0) sz (Tz, P, X, Yz, E, B, M, Oz)) (gXC γ (.inr r0 : Nat ⊕ Int32) sz (Tz, P, X, Yz, E, B, M, Oz)) 1 6 (gA γ sz) := by
  refine g_metw (fun sz => gQxi γ (.inr r0) sz (Tz, P, X, Yz, E, B, M, Oz)) (fun sz => gXC γ (.inr r0 : Nat ⊕ Int32) sz (Tz, P, X, Yz, E, B, M, Oz)) (by decide) (Nat.le_of_ble_eq_true rfl) ?_
  intro p e s m args below meth c ls hC hZ ht hP hS hl
  have hx := hC.x
  have hb := hC.b
  have hl : lv_has ls 3 [(0, .ref (ad γ 0)), (1, .ref (ad γ 30))] := hl
  unfold rL_undo at h
  obtain ⟨o, T1, Y1, hv, h⟩ := bd3_e h
  refine lv_aload_n hx hb dL_undo_0 rfl (lv_at hl 1 rfl) ?_
  refine lv_iconst (v := 0) hx hb dL_undo_1 (by decide) ?_
  refine lv_aload_n hx hb dL_undo_2 rfl (lv_at hl 0 rfl) ?_
  rcases o with k | v
  · have h := bx_l h
    by_cases k0 : k = 2
    · rw [if_pos k0] at h
      subst k0
      cases h
      refine g_wki (g_wrunV (As := []) (rest := [.int 0, .ref (ad γ 30)]) hC hZ hP hS (c4_undo l hst hv) (by decide) ge_0 rfl u_5_126 yv_X4_undo (Nat.le_of_ble_eq_true rfl) rfl hl.1 rfl (Nat.le_of_ble_eq_true rfl) dL_undo_3 ⟨by decide, by decide⟩) hS (fun H locs ce q hP hS hce hcv hcl => ?_)
      refine vx_catch (E := exn 2) (name := exn 2) hC.o ([] : List ExceptionTableEntry) (⟨0, 8, 11, 34⟩ : ExceptionTableEntry) [] ht (fun z hz => nomatch hz) (by decide) (by decide) (hC.w u_3_25) (va_Nw.use rfl (hC.2.1.2.2.2.1 2 (by decide))) hce hcv hcl ?_
      refine lv_astore_n (lv' := [(2, .ref q), (0, .ref (ad γ 0)), (1, .ref (ad γ 30))]) hx hb dL_undo_11 rfl hl (by decide) rfl (fun ls hl => ?_)
      refine lv_iconst (v := 1) hx hb dL_undo_12 (by decide) ?_
      refine W.widen (k := 1) (n := 6) (by decide) (by decide) ?_
      exact g_xiret hC hP hS dL_undo_13 rfl
    rw [if_neg k0] at h
    cases h
  have h := bx_r h
  cases h
  refine g_xki (g_wrunV (As := []) (rest := [.int 0, .ref (ad γ 30)]) hC hZ hP hS (c4_undo l hst hv) (by decide) ge_0 rfl u_5_126 yv_X4_undo (Nat.le_of_ble_eq_true rfl) rfl hl.1 rfl (Nat.le_of_ble_eq_true rfl) dL_undo_3 ⟨by decide, by decide⟩) hS (fun H locs hP hS => ?_)
  refine lv_i2l (v := v.toInt64) hx hb dL_undo_6 rfl ?_
  refine g_lst hC hP hS dL_undo_7 (fun H locs hP hS => ?_)
  refine lv_goto (tgt := 14) hx hb dL_undo_8 (by decide) ?_
  refine lv_iconst (v := 0) hx hb dL_undo_14 (by decide) ?_
  refine W.widen (k := 1) (n := 6) (by decide) (by decide) ?_
  exact g_xiret hC hP hS dL_undo_15 rfl
def rL_unplace (T : OS) (Y : OS) (E : Nat → OS) (O : Nat → Int64) (x1 : Int32) : Option (Int32 × OS × OS × (Nat → OS) × (Nat → Int64)) :=
  bd4 (r4_unplace T Y E x1) (fun o T1 Y1 E1 => bx o (fun k => if k = 0 then some (1, T1, Y1, E1, O) else if k = 2 then some (2, T1, Y1, E1, O) else none) (fun v => some (0, T1, Y1, E1, (vp_updL O 0 v.toInt64))))
theorem yw_L_unplace : gYW yL_unplace cL_unplace 4 (some .int) [(0, 9, 12, 13), (0, 9, 15, 34)] 3 := ⟨u_4_121, u_1_0, u_4_122, ⟨by decide +kernel, by decide +kernel, by decide +kernel⟩, by decide⟩
set_option maxHeartbeats 4000000 in
set_option maxRecDepth 100000 in
theorem tL_unplace (l : Launch) (hst : l.stackTraces = false) {γ : GA} {sz : Nat} {T P X Y B M : OS} {E : Nat → OS} {O : Nat → Int64} {x1 : Int32} {r0 : Int32} {Tz : OS} {Yz : OS} {Ez : Nat → OS} {Oz : Nat → Int64} (h : rL_unplace T Y E O x1 = some (r0, Tz, Yz, Ez, Oz)) : vx_Met l yL_unplace (gUW yL_unplace cL_unplace 4 (some .int) [(0, 9, 12, 13), (0, 9, 15, 34)]) (gR 8 2 12) (gPx γ [.ref (ad γ 0), .int x1, .ref (ad γ 30)] sz (T, P, X, Y, E, B, M, O)) (gQxi γ (.inr r0) sz (Tz, P, X, Yz, Ez, B, M, Oz)) (gXC γ (.inr r0 : Nat ⊕ Int32) sz (Tz, P, X, Yz, Ez, B, M, Oz)) 2 12 (gA γ sz) := by
  refine g_metw (fun sz => gQxi γ (.inr r0) sz (Tz, P, X, Yz, Ez, B, M, Oz)) (fun sz => gXC γ (.inr r0 : Nat ⊕ Int32) sz (Tz, P, X, Yz, Ez, B, M, Oz)) (by decide) (Nat.le_of_ble_eq_true rfl) ?_
  intro p e s m args below meth c ls hC hZ ht hP hS hl
  have hx := hC.x
  have hb := hC.b
  have hl : lv_has ls 4 [(0, .ref (ad γ 0)), (1, .int x1), (2, .ref (ad γ 30))] := hl
  unfold rL_unplace at h
  obtain ⟨o, T1, Y1, E1, hv, h⟩ := bd4_e h
  refine lv_aload_n hx hb dL_unplace_0 rfl (lv_at hl 2 rfl) ?_
  refine lv_iconst (v := 0) hx hb dL_unplace_1 (by decide) ?_
  refine lv_aload_n hx hb dL_unplace_2 rfl (lv_at hl 0 rfl) ?_
  refine lv_iload_n hx hb dL_unplace_3 rfl (lv_at hl 1 rfl) ?_
  rcases o with k | v
  · have h := bx_l h
    by_cases k0 : k = 0
    · rw [if_pos k0] at h
      subst k0
      cases h
      refine g_wki (g_wrunV (As := [.int x1]) (rest := [.int 0, .ref (ad γ 30)]) hC hZ hP hS (c4_unplace l hst hv) (by decide) ge_0 rfl u_4_123 yv_X4_unplace (Nat.le_of_ble_eq_true rfl) rfl hl.1 rfl (Nat.le_of_ble_eq_true rfl) dL_unplace_4 ⟨by decide, by decide⟩) hS (fun H locs ce q hP hS hce hcv hcl => ?_)
      refine vx_catch (E := exn 0) (name := exn 0) hC.o ([] : List ExceptionTableEntry) (⟨0, 9, 12, 13⟩ : ExceptionTableEntry) [(⟨0, 9, 15, 34⟩ : ExceptionTableEntry)] ht (fun z hz => nomatch hz) (by decide) (by decide) (hC.w u_2_127) (va_Nw.use rfl (hC.2.1.2.2.2.1 0 (by decide))) hce hcv hcl ?_
      refine lv_astore_n (lv' := [(3, .ref q), (0, .ref (ad γ 0)), (1, .int x1), (2, .ref (ad γ 30))]) hx hb dL_unplace_12 rfl hl (by decide) rfl (fun ls hl => ?_)
      refine lv_iconst (v := 1) hx hb dL_unplace_13 (by decide) ?_
      refine W.widen (k := 2) (n := 12) (by decide) (by decide) ?_
      exact g_xiret hC hP hS dL_unplace_14 rfl
    rw [if_neg k0] at h
    by_cases k1 : k = 2
    · rw [if_pos k1] at h
      subst k1
      cases h
      refine g_wki (g_wrunV (As := [.int x1]) (rest := [.int 0, .ref (ad γ 30)]) hC hZ hP hS (c4_unplace l hst hv) (by decide) ge_0 rfl u_4_123 yv_X4_unplace (Nat.le_of_ble_eq_true rfl) rfl hl.1 rfl (Nat.le_of_ble_eq_true rfl) dL_unplace_4 ⟨by decide, by decide⟩) hS (fun H locs ce q hP hS hce hcv hcl => ?_)
      refine vx_catch (E := exn 2) (name := exn 2) hC.o ([(⟨0, 9, 12, 13⟩ : ExceptionTableEntry)] : List ExceptionTableEntry) (⟨0, 9, 15, 34⟩ : ExceptionTableEntry) [] ht (List.forall_mem_cons.mpr ⟨Or.inr ⟨by decide, exn 0, hC.w u_2_127, hC.2.1.2.2.2.2.1 2 (by decide) 0 (by decide) (by decide)⟩, fun z hz => nomatch hz⟩) (by decide) (by decide) (hC.w u_3_25) (va_Nw.use rfl (hC.2.1.2.2.2.1 2 (by decide))) hce hcv hcl ?_
      refine lv_astore_n (lv' := [(3, .ref q), (0, .ref (ad γ 0)), (1, .int x1), (2, .ref (ad γ 30))]) hx hb dL_unplace_15 rfl hl (by decide) rfl (fun ls hl => ?_)
      refine lv_iconst (v := 2) hx hb dL_unplace_16 (by decide) ?_
      refine W.widen (k := 2) (n := 12) (by decide) (by decide) ?_
      exact g_xiret hC hP hS dL_unplace_17 rfl
    rw [if_neg k1] at h
    cases h
  have h := bx_r h
  cases h
  refine g_xki (g_wrunV (As := [.int x1]) (rest := [.int 0, .ref (ad γ 30)]) hC hZ hP hS (c4_unplace l hst hv) (by decide) ge_0 rfl u_4_123 yv_X4_unplace (Nat.le_of_ble_eq_true rfl) rfl hl.1 rfl (Nat.le_of_ble_eq_true rfl) dL_unplace_4 ⟨by decide, by decide⟩) hS (fun H locs hP hS => ?_)
  refine lv_i2l (v := v.toInt64) hx hb dL_unplace_7 rfl ?_
  refine g_lst hC hP hS dL_unplace_8 (fun H locs hP hS => ?_)
  refine lv_goto (tgt := 18) hx hb dL_unplace_9 (by decide) ?_
  refine lv_iconst (v := 0) hx hb dL_unplace_18 (by decide) ?_
  refine W.widen (k := 2) (n := 12) (by decide) (by decide) ?_
  exact g_xiret hC hP hS dL_unplace_19 rfl
