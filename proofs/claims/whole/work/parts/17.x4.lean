theorem ge_129 {γ : GA} {T P X Y B M : OS} {E : Nat → OS} {O : Nat → Int64} : gcell γ (T, P, X, Y, E, B, M, O) 129 = .inr (4, [.ref (ad γ 130), .ref (ad γ 131), .ref (ad γ 132), .ref (ad γ 133), .ref (ad γ 134), .ref (ad γ 135), .ref (ad γ 136), .ref (ad γ 137), .ref (ad γ 138), .ref (ad γ 139), .ref (ad γ 140), .ref (ad γ 141), .ref (ad γ 142), .int (E 7 13 0)]) := gee_o (q := 7) (by decide)
def r3_save (T : OS) (E : Nat → OS) : Option (Nat → OS) := (r3_copyFrom T (E 7)).bind fun Q => some (upE E 7 Q)
def r3_load (T : OS) (E : Nat → OS) : Option OS := r3_copyFrom (E 7) T
theorem c3_save (l : Launch) {γ : GA} {sz : Nat} {T P X Y B M : OS} {E Ez : Nat → OS} {O : Nat → Int64} (h : r3_save T E = some Ez) : Met l yX3_copyFrom (gU yX3_copyFrom cX3_copyFrom 2 none) (gR 1 0 0) (gPc γ [.ref (ad γ 129), .ref (ad γ 1)] sz (T, P, X, Y, E, B, M, O)) (gQv γ sz (T, P, X, Y, Ez, B, M, O)) 0 0 (gA γ sz) := by
  obtain ⟨Q, hv, h⟩ := ob h
  cases h
  exact c3_copyIn l (q := 7) (by decide) hv
theorem c3_load (l : Launch) {γ : GA} {sz : Nat} {T P X Y B M Tz : OS} {E : Nat → OS} {O : Nat → Int64} (h : r3_load T E = some Tz) : Met l yX3_copyFrom (gU yX3_copyFrom cX3_copyFrom 2 none) (gR 1 0 0) (gPc γ [.ref (ad γ 1), .ref (ad γ 129)] sz (T, P, X, Y, E, B, M, O)) (gQv γ sz (Tz, P, X, Y, E, B, M, O)) 0 0 (gA γ sz) := c3_copyOut l (q := 7) (by decide) h
theorem lsw_01 {x : Int32} (h0 : ¬ x = 0) (h1 : ¬ x = 1) : Op.lookupswitch.offset #[((0 : Int), (25 : Int)), (1, 40)].toList 55 x.toInt = 55 := by
  have q0 : x.toInt ≠ 0 := fun z => h0 (Int32.toInt_inj.mp (z.trans rfl))
  have q1 : x.toInt ≠ 1 := fun z => h1 (Int32.toInt_inj.mp (z.trans rfl))
  simp [Op.lookupswitch.offset, q0.symm, q1.symm, q0, q1]
def r4_requireIndex_j9  : Option ((Nat ⊕ Unit)) :=
  some (.inl 0)
def r4_requireIndex (x0 : Int32) (x1 : Int32) : Option ((Nat ⊕ Unit)) :=
  (if x0 < 0 then r4_requireIndex_j9
  else (if x0 < x1 then some (.inr ())
  else r4_requireIndex_j9))
theorem yv_X4_requireIndex : gYS yX4_requireIndex cX4_requireIndex 2 none 2 := ⟨u_2_134, u_1_1, u_2_135, ⟨by decide +kernel, by decide +kernel, by decide +kernel⟩, by decide⟩
set_option maxHeartbeats 4000000 in
set_option maxRecDepth 100000 in
theorem c4_requireIndex (l : Launch) (hst : l.stackTraces = false) {γ : GA} {sz : Nat} {T P X Y B M : OS} {E : Nat → OS} {O : Nat → Int64} {x0 : Int32} {x1 : Int32} {o0 : Nat ⊕ Unit} (h : r4_requireIndex x0 x1 = some o0) : vx_Met l yX4_requireIndex (gU yX4_requireIndex cX4_requireIndex 2 none) (gR 6 1 6) (gPx γ [.int x0, .int x1] sz (T, P, X, Y, E, B, M, O)) (gQxv γ o0 sz (T, P, X, Y, E, B, M, O)) (gXC γ o0 sz (T, P, X, Y, E, B, M, O)) 1 6 (gA γ sz) := by
  refine g_metx hst (fun sz => gQxv γ o0 sz (T, P, X, Y, E, B, M, O)) (fun sz => gXC γ o0 sz (T, P, X, Y, E, B, M, O)) (by decide) (Nat.le_of_ble_eq_true rfl) ?_
  intro p e s m args below meth c ls hC hX hP hS hl
  have hx := hC.x
  have hb := hC.b
  have hl : lv_has ls 2 [(0, .int x0), (1, .int x1)] := hl
  unfold r4_requireIndex at h
  have J9 : ∀ (h : r4_requireIndex_j9 = some o0), ∀ (H : Heap) (locs : List Loc) (ls : Array Slot), va_P γ.1 vwCl (gw γ (T, P, X, Y, E, B, M, O)) H → va_S (gA γ s.heap.size) s.heap H locs → lv_has ls 2 [] → W p l e (gR 6 1 6) s m args below meth c H locs 0 0 (vx_MQ below (gQxv γ o0 s.heap.size (T, P, X, Y, E, B, M, O)) (gXC γ o0 s.heap.size (T, P, X, Y, E, B, M, O)) args s 1 6 (gA γ s.heap.size)) (F0 m 9 ls []) := by
    intro h H locs ls hP hS hl
    unfold r4_requireIndex_j9 at h
    cases h
    exact g_thr hC hX hP hS gx_0 (List.mem_of_getElem? (i := 0) rfl) hl.1 dX4_requireIndex_9 dX4_requireIndex_12 dX4_requireIndex_13 dX4_requireIndex_15 dX4_requireIndex_18 (Nat.le_of_ble_eq_true rfl) (Nat.le_of_ble_eq_true rfl) (by decide) (by decide) (by decide) (by decide) rfl
  refine lv_iload_n hx hb dX4_requireIndex_0 rfl (lv_at hl 0 rfl) ?_
  refine lv_if_lt (tgt := 9) hx hb dX4_requireIndex_1 (by decide) (fun c1 => ?_) (fun c1 => ?_)
  · rw [if_pos c1] at h
    exact J9 h _ _ _ hP hS (lv_sub hl [] rfl)
  · rw [if_neg c1] at h
    refine lv_iload_n hx hb dX4_requireIndex_4 rfl (lv_at hl 0 rfl) ?_
    refine lv_iload_n hx hb dX4_requireIndex_5 rfl (lv_at hl 1 rfl) ?_
    refine lv_icmp_lt (tgt := 19) hx hb dX4_requireIndex_6 (by decide) (fun c2 => ?_) (fun c2 => ?_)
    · rw [if_pos c2] at h
      cases h
      refine W.widen (k := 1) (n := 6) (by decide) (by decide) ?_
      exact g_xvret hC hP hS dX4_requireIndex_19 rfl
    · rw [if_neg c2] at h
      exact J9 h _ _ _ hP hS (lv_sub hl [] rfl)
def r4_requireRange_j10  : Option ((Nat ⊕ Unit)) :=
  some (.inl 1)
def r4_requireRange (x0 : Int32) (x1 : Int32) (x2 : Int32) : Option ((Nat ⊕ Unit)) :=
  (if x0 < x1 then r4_requireRange_j10
  else (if x0 ≤ x2 then some (.inr ())
  else r4_requireRange_j10))
theorem yv_X4_requireRange : gYS yX4_requireRange cX4_requireRange 3 none 3 := ⟨u_2_207, u_1_1, u_2_208, ⟨by decide +kernel, by decide +kernel, by decide +kernel⟩, by decide⟩
set_option maxHeartbeats 4000000 in
set_option maxRecDepth 100000 in
theorem c4_requireRange (l : Launch) (hst : l.stackTraces = false) {γ : GA} {sz : Nat} {T P X Y B M : OS} {E : Nat → OS} {O : Nat → Int64} {x0 : Int32} {x1 : Int32} {x2 : Int32} {o0 : Nat ⊕ Unit} (h : r4_requireRange x0 x1 x2 = some o0) : vx_Met l yX4_requireRange (gU yX4_requireRange cX4_requireRange 3 none) (gR 6 1 6) (gPx γ [.int x0, .int x1, .int x2] sz (T, P, X, Y, E, B, M, O)) (gQxv γ o0 sz (T, P, X, Y, E, B, M, O)) (gXC γ o0 sz (T, P, X, Y, E, B, M, O)) 1 6 (gA γ sz) := by
  refine g_metx hst (fun sz => gQxv γ o0 sz (T, P, X, Y, E, B, M, O)) (fun sz => gXC γ o0 sz (T, P, X, Y, E, B, M, O)) (by decide) (Nat.le_of_ble_eq_true rfl) ?_
  intro p e s m args below meth c ls hC hX hP hS hl
  have hx := hC.x
  have hb := hC.b
  have hl : lv_has ls 3 [(0, .int x0), (1, .int x1), (2, .int x2)] := hl
  unfold r4_requireRange at h
  have J10 : ∀ (h : r4_requireRange_j10 = some o0), ∀ (H : Heap) (locs : List Loc) (ls : Array Slot), va_P γ.1 vwCl (gw γ (T, P, X, Y, E, B, M, O)) H → va_S (gA γ s.heap.size) s.heap H locs → lv_has ls 3 [] → W p l e (gR 6 1 6) s m args below meth c H locs 0 0 (vx_MQ below (gQxv γ o0 s.heap.size (T, P, X, Y, E, B, M, O)) (gXC γ o0 s.heap.size (T, P, X, Y, E, B, M, O)) args s 1 6 (gA γ s.heap.size)) (F0 m 10 ls []) := by
    intro h H locs ls hP hS hl
    unfold r4_requireRange_j10 at h
    cases h
    exact g_thr hC hX hP hS gx_1 (List.mem_of_getElem? (i := 1) rfl) hl.1 dX4_requireRange_10 dX4_requireRange_13 dX4_requireRange_14 dX4_requireRange_16 dX4_requireRange_19 (Nat.le_of_ble_eq_true rfl) (Nat.le_of_ble_eq_true rfl) (by decide) (by decide) (by decide) (by decide) rfl
  refine lv_iload_n hx hb dX4_requireRange_0 rfl (lv_at hl 0 rfl) ?_
  refine lv_iload_n hx hb dX4_requireRange_1 rfl (lv_at hl 1 rfl) ?_
  refine lv_icmp_lt (tgt := 10) hx hb dX4_requireRange_2 (by decide) (fun c1 => ?_) (fun c1 => ?_)
  · rw [if_pos c1] at h
    exact J10 h _ _ _ hP hS (lv_sub hl [] rfl)
  · rw [if_neg c1] at h
    refine lv_iload_n hx hb dX4_requireRange_5 rfl (lv_at hl 0 rfl) ?_
    refine lv_iload_n hx hb dX4_requireRange_6 rfl (lv_at hl 2 rfl) ?_
    refine lv_icmp_le (tgt := 20) hx hb dX4_requireRange_7 (by decide) (fun c2 => ?_) (fun c2 => ?_)
    · rw [if_pos c2] at h
      cases h
      refine W.widen (k := 1) (n := 6) (by decide) (by decide) ?_
      exact g_xvret hC hP hS dX4_requireRange_20 rfl
    · rw [if_neg c2] at h
      exact J10 h _ _ _ hP hS (lv_sub hl [] rfl)
def r4_setRoom (T : OS) (Y : OS) (E : Nat → OS) (x1 : Int32) (x2 : Int32) (x3 : Int32) : Option ((Nat ⊕ Int32) × OS × OS × (Nat → OS)) :=
  bd1 (r4_requireIndex x1 6) (fun o1 => bx o1 (fun k2 => some ((.inl k2), T, Y, E)) (fun _ =>
  bd1 (r4_requireRange x2 0 99) (fun o4 => bx o4 (fun k5 => some ((.inl k5), T, Y, E)) (fun _ =>
  bd1 (r4_requireRange x3 0 15) (fun o7 => bx o7 (fun k8 => some ((.inl k8), T, Y, E)) (fun _ =>
  bd2 (r1_keep T Y E) (fun Y10 E11 =>
  (wr 6 T 0 x1 x2).bind fun T12 =>
  (wr 6 T12 1 x1 x3).bind fun T13 =>
  bd2 (r3_unplaceUnsuitable T13) (fun v14 T15 =>
  some ((.inr v14), T15, Y10, E11)))))))))
theorem yv_X4_setRoom : gYV yX4_setRoom cX4_setRoom 4 (some .int) 3 := ⟨u_2_130, u_2_131, u_1_1, u_2_132, ⟨by decide +kernel, by decide +kernel, by decide +kernel⟩, by decide⟩
set_option maxHeartbeats 4000000 in
set_option maxRecDepth 100000 in
theorem c4_setRoom (l : Launch) (hst : l.stackTraces = false) {γ : GA} {sz : Nat} {T P X Y B M : OS} {E : Nat → OS} {O : Nat → Int64} {x1 : Int32} {x2 : Int32} {x3 : Int32} {o0 : Nat ⊕ Int32} {Tz : OS} {Yz : OS} {Ez : Nat → OS} (h : r4_setRoom T Y E x1 x2 x3 = some (o0, Tz, Yz, Ez)) : vx_Met l yX4_setRoom (gU yX4_setRoom cX4_setRoom 4 (some .int)) (gR 7 3 18) (gPx γ [.ref (ad γ 0), .int x1, .int x2, .int x3] sz (T, P, X, Y, E, B, M, O)) (gQxi γ o0 sz (Tz, P, X, Yz, Ez, B, M, O)) (gXC γ o0 sz (Tz, P, X, Yz, Ez, B, M, O)) 3 18 (gA γ sz) := by
  refine g_metx hst (fun sz => gQxi γ o0 sz (Tz, P, X, Yz, Ez, B, M, O)) (fun sz => gXC γ o0 sz (Tz, P, X, Yz, Ez, B, M, O)) (by decide) (Nat.le_of_ble_eq_true rfl) ?_
  intro p e s m args below meth c ls hC hX hP hS hl
  have hx := hC.x
  have hb := hC.b
  have hl : lv_has ls 4 [(0, .ref (ad γ 0)), (1, .int x1), (2, .int x2), (3, .int x3)] := hl
  unfold r4_setRoom at h
  refine lv_iload_n hx hb dX4_setRoom_0 rfl (lv_at hl 1 rfl) ?_
  refine lv_bipush (v := 6) hx hb dX4_setRoom_1 (by decide) ?_
  obtain ⟨o1, hw3, h⟩ := bd1_e h
  rcases o1 with k2 | ⟨⟩
  · have h := bx_l h
    cases h
    exact g_xkev hC hX (g_xrunS (As := [.int x1, .int 6]) (rest := []) hC hX hP hS (c4_requireIndex l hst hw3) u_2_133 yv_X4_requireIndex (Nat.le_of_ble_eq_true rfl) rfl hl.1 rfl (Nat.le_of_ble_eq_true rfl) dX4_setRoom_3 ⟨by decide, by decide⟩) hS rfl (by decide) (by decide)
  have h := bx_r h
  refine g_xkv (g_xrunS (As := [.int x1, .int 6]) (rest := []) hC hX hP hS (c4_requireIndex l hst hw3) u_2_133 yv_X4_requireIndex (Nat.le_of_ble_eq_true rfl) rfl hl.1 rfl (Nat.le_of_ble_eq_true rfl) dX4_setRoom_3 ⟨by decide, by decide⟩) hS (fun H locs hP hS => ?_)
  refine lv_iload_n hx hb dX4_setRoom_6 rfl (lv_at hl 2 rfl) ?_
  refine lv_iconst (v := 0) hx hb dX4_setRoom_7 (by decide) ?_
  refine lv_bipush (v := 99) hx hb dX4_setRoom_8 (by decide) ?_
  obtain ⟨o4, hw6, h⟩ := bd1_e h
  rcases o4 with k5 | ⟨⟩
  · have h := bx_l h
    cases h
    exact g_xkev hC hX (g_xrunS (As := [.int x2, .int 0, .int 99]) (rest := []) hC hX hP hS (c4_requireRange l hst hw6) u_2_206 yv_X4_requireRange (Nat.le_of_ble_eq_true rfl) rfl hl.1 rfl (Nat.le_of_ble_eq_true rfl) dX4_setRoom_10 ⟨by decide, by decide⟩) hS rfl (by decide) (by decide)
  have h := bx_r h
  refine g_xkv (g_xrunS (As := [.int x2, .int 0, .int 99]) (rest := []) hC hX hP hS (c4_requireRange l hst hw6) u_2_206 yv_X4_requireRange (Nat.le_of_ble_eq_true rfl) rfl hl.1 rfl (Nat.le_of_ble_eq_true rfl) dX4_setRoom_10 ⟨by decide, by decide⟩) hS (fun H locs hP hS => ?_)
  refine lv_iload_n hx hb dX4_setRoom_13 rfl (lv_at hl 3 rfl) ?_
  refine lv_iconst (v := 0) hx hb dX4_setRoom_14 (by decide) ?_
  refine lv_bipush (v := 15) hx hb dX4_setRoom_15 (by decide) ?_
  obtain ⟨o7, hw9, h⟩ := bd1_e h
  rcases o7 with k8 | ⟨⟩
  · have h := bx_l h
    cases h
    exact g_xkev hC hX (g_xrunS (As := [.int x3, .int 0, .int 15]) (rest := []) hC hX hP hS (c4_requireRange l hst hw9) u_2_206 yv_X4_requireRange (Nat.le_of_ble_eq_true rfl) rfl hl.1 rfl (Nat.le_of_ble_eq_true rfl) dX4_setRoom_17 ⟨by decide, by decide⟩) hS rfl (by decide) (by decide)
  have h := bx_r h
  refine g_xkv (g_xrunS (As := [.int x3, .int 0, .int 15]) (rest := []) hC hX hP hS (c4_requireRange l hst hw9) u_2_206 yv_X4_requireRange (Nat.le_of_ble_eq_true rfl) rfl hl.1 rfl (Nat.le_of_ble_eq_true rfl) dX4_setRoom_17 ⟨by decide, by decide⟩) hS (fun H locs hP hS => ?_)
  refine lv_aload_n hx hb dX4_setRoom_20 rfl (lv_at hl 0 rfl) ?_
  refine g_get hC hP 3 dX4_setRoom_21 (by decide) ge_0 rfl inX4 (by decide) rfl u_1_191 ?_
  refine lv_aload_n hx hb dX4_setRoom_24 rfl (lv_at hl 0 rfl) ?_
  refine g_get hC hP 0 dX4_setRoom_25 (by decide) ge_0 rfl inX4 (by decide) rfl u_1_188 ?_
  obtain ⟨Y10, E11, hv, h⟩ := bd2_e h
  refine g_kv (g_runV (As := [.ref (ad γ 1)]) (rest := []) hC hP (c1_keep l hv) (by decide) ge_19 rfl u_1_215 yv_X1_keep (Nat.le_of_ble_eq_true rfl) rfl hl.1 rfl (Nat.le_of_ble_eq_true rfl) dX4_setRoom_28 ⟨by decide, by decide⟩) hS (fun H locs hP hS => ?_)
  refine lv_aload_n hx hb dX4_setRoom_31 rfl (lv_at hl 0 rfl) ?_
  refine g_get hC hP 0 dX4_setRoom_32 (by decide) ge_0 rfl inX4 (by decide) rfl u_1_188 ?_
  refine g_get hC hP 0 dX4_setRoom_35 (by decide) ge_1 rfl inX3 (by decide) rfl u_1_45 ?_
  refine lv_iload_n hx hb dX4_setRoom_38 rfl (lv_at hl 1 rfl) ?_
  refine lv_iload_n hx hb dX4_setRoom_39 rfl (lv_at hl 2 rfl) ?_
  obtain ⟨T12, hv, h⟩ := ob h
  refine g_st hC hP hS (fun Z => (Z, P, X, Y10, E11, B, M, O)) dX4_setRoom_40 (by decide) ge_2 gs_2 hv (fun H locs hP hS => ?_)
  refine lv_aload_n hx hb dX4_setRoom_41 rfl (lv_at hl 0 rfl) ?_
  refine g_get hC hP 0 dX4_setRoom_42 (by decide) ge_0 rfl inX4 (by decide) rfl u_1_188 ?_
  refine g_get hC hP 1 dX4_setRoom_45 (by decide) ge_1 rfl inX3 (by decide) rfl u_1_48 ?_
  refine lv_iload_n hx hb dX4_setRoom_48 rfl (lv_at hl 1 rfl) ?_
  refine lv_iload_n hx hb dX4_setRoom_49 rfl (lv_at hl 3 rfl) ?_
  obtain ⟨T13, hv, h⟩ := ob h
  refine g_st hC hP hS (fun Z => (Z, P, X, Y10, E11, B, M, O)) dX4_setRoom_50 (by decide) ge_3 gs_3 hv (fun H locs hP hS => ?_)
  refine lv_aload_n hx hb dX4_setRoom_51 rfl (lv_at hl 0 rfl) ?_
  refine g_get hC hP 0 dX4_setRoom_52 (by decide) ge_0 rfl inX4 (by decide) rfl u_1_188 ?_
  obtain ⟨v14, T15, hv, h⟩ := bd2_e h
  refine g_ki (g_runV (As := []) (rest := []) hC hP (c3_unplaceUnsuitable l hv) (by decide) ge_1 rfl u_2_225 yv_X3_unplaceUnsuitable (Nat.le_of_ble_eq_true rfl) rfl hl.1 rfl (Nat.le_of_ble_eq_true rfl) dX4_setRoom_55 ⟨by decide, by decide⟩) hS (fun H locs hP hS => ?_)
  cases h
  refine W.widen (k := 3) (n := 18) (by decide) (by decide) ?_
  exact g_xiret hC hP hS dX4_setRoom_58 rfl
def r4_setGroup (T : OS) (Y : OS) (E : Nat → OS) (x1 : Int32) (x2 : Int32) : Option ((Nat ⊕ Int32) × OS × OS × (Nat → OS)) :=
  bd1 (r4_requireIndex x1 6) (fun o1 => bx o1 (fun k2 => some ((.inl k2), T, Y, E)) (fun _ =>
  bd1 (r4_requireRange x2 0 40) (fun o4 => bx o4 (fun k5 => some ((.inl k5), T, Y, E)) (fun _ =>
  bd2 (r1_keep T Y E) (fun Y7 E8 =>
  (wr 6 T 2 x1 x2).bind fun T9 =>
  bd2 (r3_unplaceUnsuitable T9) (fun v10 T11 =>
  some ((.inr v10), T11, Y7, E8)))))))
theorem yv_X4_setGroup : gYV yX4_setGroup cX4_setGroup 3 (some .int) 2 := ⟨u_2_238, u_2_239, u_1_1, u_3_0, ⟨by decide +kernel, by decide +kernel, by decide +kernel⟩, by decide⟩
set_option maxHeartbeats 4000000 in
set_option maxRecDepth 100000 in
theorem c4_setGroup (l : Launch) (hst : l.stackTraces = false) {γ : GA} {sz : Nat} {T P X Y B M : OS} {E : Nat → OS} {O : Nat → Int64} {x1 : Int32} {x2 : Int32} {o0 : Nat ⊕ Int32} {Tz : OS} {Yz : OS} {Ez : Nat → OS} (h : r4_setGroup T Y E x1 x2 = some (o0, Tz, Yz, Ez)) : vx_Met l yX4_setGroup (gU yX4_setGroup cX4_setGroup 3 (some .int)) (gR 7 2 12) (gPx γ [.ref (ad γ 0), .int x1, .int x2] sz (T, P, X, Y, E, B, M, O)) (gQxi γ o0 sz (Tz, P, X, Yz, Ez, B, M, O)) (gXC γ o0 sz (Tz, P, X, Yz, Ez, B, M, O)) 2 12 (gA γ sz) := by
  refine g_metx hst (fun sz => gQxi γ o0 sz (Tz, P, X, Yz, Ez, B, M, O)) (fun sz => gXC γ o0 sz (Tz, P, X, Yz, Ez, B, M, O)) (by decide) (Nat.le_of_ble_eq_true rfl) ?_
  intro p e s m args below meth c ls hC hX hP hS hl
  have hx := hC.x
  have hb := hC.b
  have hl : lv_has ls 3 [(0, .ref (ad γ 0)), (1, .int x1), (2, .int x2)] := hl
  unfold r4_setGroup at h
  refine lv_iload_n hx hb dX4_setGroup_0 rfl (lv_at hl 1 rfl) ?_
  refine lv_bipush (v := 6) hx hb dX4_setGroup_1 (by decide) ?_
  obtain ⟨o1, hw3, h⟩ := bd1_e h
  rcases o1 with k2 | ⟨⟩
  · have h := bx_l h
    cases h
    exact g_xkev hC hX (g_xrunS (As := [.int x1, .int 6]) (rest := []) hC hX hP hS (c4_requireIndex l hst hw3) u_2_133 yv_X4_requireIndex (Nat.le_of_ble_eq_true rfl) rfl hl.1 rfl (Nat.le_of_ble_eq_true rfl) dX4_setGroup_3 ⟨by decide, by decide⟩) hS rfl (by decide) (by decide)
  have h := bx_r h
  refine g_xkv (g_xrunS (As := [.int x1, .int 6]) (rest := []) hC hX hP hS (c4_requireIndex l hst hw3) u_2_133 yv_X4_requireIndex (Nat.le_of_ble_eq_true rfl) rfl hl.1 rfl (Nat.le_of_ble_eq_true rfl) dX4_setGroup_3 ⟨by decide, by decide⟩) hS (fun H locs hP hS => ?_)
  refine lv_iload_n hx hb dX4_setGroup_6 rfl (lv_at hl 2 rfl) ?_
  refine lv_iconst (v := 0) hx hb dX4_setGroup_7 (by decide) ?_
  refine lv_bipush (v := 40) hx hb dX4_setGroup_8 (by decide) ?_
  obtain ⟨o4, hw6, h⟩ := bd1_e h
  rcases o4 with k5 | ⟨⟩
  · have h := bx_l h
    cases h
    exact g_xkev hC hX (g_xrunS (As := [.int x2, .int 0, .int 40]) (rest := []) hC hX hP hS (c4_requireRange l hst hw6) u_2_206 yv_X4_requireRange (Nat.le_of_ble_eq_true rfl) rfl hl.1 rfl (Nat.le_of_ble_eq_true rfl) dX4_setGroup_10 ⟨by decide, by decide⟩) hS rfl (by decide) (by decide)
  have h := bx_r h
  refine g_xkv (g_xrunS (As := [.int x2, .int 0, .int 40]) (rest := []) hC hX hP hS (c4_requireRange l hst hw6) u_2_206 yv_X4_requireRange (Nat.le_of_ble_eq_true rfl) rfl hl.1 rfl (Nat.le_of_ble_eq_true rfl) dX4_setGroup_10 ⟨by decide, by decide⟩) hS (fun H locs hP hS => ?_)
  refine lv_aload_n hx hb dX4_setGroup_13 rfl (lv_at hl 0 rfl) ?_
  refine g_get hC hP 3 dX4_setGroup_14 (by decide) ge_0 rfl inX4 (by decide) rfl u_1_191 ?_
  refine lv_aload_n hx hb dX4_setGroup_17 rfl (lv_at hl 0 rfl) ?_
  refine g_get hC hP 0 dX4_setGroup_18 (by decide) ge_0 rfl inX4 (by decide) rfl u_1_188 ?_
  obtain ⟨Y7, E8, hv, h⟩ := bd2_e h
  refine g_kv (g_runV (As := [.ref (ad γ 1)]) (rest := []) hC hP (c1_keep l hv) (by decide) ge_19 rfl u_1_215 yv_X1_keep (Nat.le_of_ble_eq_true rfl) rfl hl.1 rfl (Nat.le_of_ble_eq_true rfl) dX4_setGroup_21 ⟨by decide, by decide⟩) hS (fun H locs hP hS => ?_)
  refine lv_aload_n hx hb dX4_setGroup_24 rfl (lv_at hl 0 rfl) ?_
  refine g_get hC hP 0 dX4_setGroup_25 (by decide) ge_0 rfl inX4 (by decide) rfl u_1_188 ?_
  refine g_get hC hP 2 dX4_setGroup_28 (by decide) ge_1 rfl inX3 (by decide) rfl u_1_50 ?_
  refine lv_iload_n hx hb dX4_setGroup_31 rfl (lv_at hl 1 rfl) ?_
  refine lv_iload_n hx hb dX4_setGroup_32 rfl (lv_at hl 2 rfl) ?_
  obtain ⟨T9, hv, h⟩ := ob h
  refine g_st hC hP hS (fun Z => (Z, P, X, Y7, E8, B, M, O)) dX4_setGroup_33 (by decide) ge_4 gs_4 hv (fun H locs hP hS => ?_)
  refine lv_aload_n hx hb dX4_setGroup_34 rfl (lv_at hl 0 rfl) ?_
  refine g_get hC hP 0 dX4_setGroup_35 (by decide) ge_0 rfl inX4 (by decide) rfl u_1_188 ?_
  obtain ⟨v10, T11, hv, h⟩ := bd2_e h
  refine g_ki (g_runV (As := []) (rest := []) hC hP (c3_unplaceUnsuitable l hv) (by decide) ge_1 rfl u_2_225 yv_X3_unplaceUnsuitable (Nat.le_of_ble_eq_true rfl) rfl hl.1 rfl (Nat.le_of_ble_eq_true rfl) dX4_setGroup_38 ⟨by decide, by decide⟩) hS (fun H locs hP hS => ?_)
  cases h
  refine W.widen (k := 2) (n := 12) (by decide) (by decide) ?_
  exact g_xiret hC hP hS dX4_setGroup_41 rfl
def r4_setTeacher (T : OS) (Y : OS) (E : Nat → OS) (x1 : Int32) (x2 : Int32) : Option ((Nat ⊕ Int32) × OS × OS × (Nat → OS)) :=
  bd1 (r4_requireIndex x1 6) (fun o1 => bx o1 (fun k2 => some ((.inl k2), T, Y, E)) (fun _ =>
  bd1 (r4_requireRange x2 0 1023) (fun o4 => bx o4 (fun k5 => some ((.inl k5), T, Y, E)) (fun _ =>
  bd2 (r1_keep T Y E) (fun Y7 E8 =>
  (wr 6 T 3 x1 x2).bind fun T9 =>
  bd2 (r3_unplaceUnsuitable T9) (fun v10 T11 =>
  some ((.inr v10), T11, Y7, E8)))))))
theorem yv_X4_setTeacher : gYV yX4_setTeacher cX4_setTeacher 3 (some .int) 2 := ⟨u_3_5, u_3_6, u_1_1, u_3_7, ⟨by decide +kernel, by decide +kernel, by decide +kernel⟩, by decide⟩
set_option maxHeartbeats 4000000 in
set_option maxRecDepth 100000 in
theorem c4_setTeacher (l : Launch) (hst : l.stackTraces = false) {γ : GA} {sz : Nat} {T P X Y B M : OS} {E : Nat → OS} {O : Nat → Int64} {x1 : Int32} {x2 : Int32} {o0 : Nat ⊕ Int32} {Tz : OS} {Yz : OS} {Ez : Nat → OS} (h : r4_setTeacher T Y E x1 x2 = some (o0, Tz, Yz, Ez)) : vx_Met l yX4_setTeacher (gU yX4_setTeacher cX4_setTeacher 3 (some .int)) (gR 7 2 12) (gPx γ [.ref (ad γ 0), .int x1, .int x2] sz (T, P, X, Y, E, B, M, O)) (gQxi γ o0 sz (Tz, P, X, Yz, Ez, B, M, O)) (gXC γ o0 sz (Tz, P, X, Yz, Ez, B, M, O)) 2 12 (gA γ sz) := by
  refine g_metx hst (fun sz => gQxi γ o0 sz (Tz, P, X, Yz, Ez, B, M, O)) (fun sz => gXC γ o0 sz (Tz, P, X, Yz, Ez, B, M, O)) (by decide) (Nat.le_of_ble_eq_true rfl) ?_
  intro p e s m args below meth c ls hC hX hP hS hl
  have hx := hC.x
  have hb := hC.b
  have hl : lv_has ls 3 [(0, .ref (ad γ 0)), (1, .int x1), (2, .int x2)] := hl
  unfold r4_setTeacher at h
  refine lv_iload_n hx hb dX4_setTeacher_0 rfl (lv_at hl 1 rfl) ?_
  refine lv_bipush (v := 6) hx hb dX4_setTeacher_1 (by decide) ?_
  obtain ⟨o1, hw3, h⟩ := bd1_e h
  rcases o1 with k2 | ⟨⟩
  · have h := bx_l h
    cases h
    exact g_xkev hC hX (g_xrunS (As := [.int x1, .int 6]) (rest := []) hC hX hP hS (c4_requireIndex l hst hw3) u_2_133 yv_X4_requireIndex (Nat.le_of_ble_eq_true rfl) rfl hl.1 rfl (Nat.le_of_ble_eq_true rfl) dX4_setTeacher_3 ⟨by decide, by decide⟩) hS rfl (by decide) (by decide)
  have h := bx_r h
  refine g_xkv (g_xrunS (As := [.int x1, .int 6]) (rest := []) hC hX hP hS (c4_requireIndex l hst hw3) u_2_133 yv_X4_requireIndex (Nat.le_of_ble_eq_true rfl) rfl hl.1 rfl (Nat.le_of_ble_eq_true rfl) dX4_setTeacher_3 ⟨by decide, by decide⟩) hS (fun H locs hP hS => ?_)
  refine lv_iload_n hx hb dX4_setTeacher_6 rfl (lv_at hl 2 rfl) ?_
  refine lv_iconst (v := 0) hx hb dX4_setTeacher_7 (by decide) ?_
  refine lv_sipush (v := 1023) hx hb dX4_setTeacher_8 (by decide) ?_
  obtain ⟨o4, hw6, h⟩ := bd1_e h
  rcases o4 with k5 | ⟨⟩
  · have h := bx_l h
    cases h
    exact g_xkev hC hX (g_xrunS (As := [.int x2, .int 0, .int 1023]) (rest := []) hC hX hP hS (c4_requireRange l hst hw6) u_2_206 yv_X4_requireRange (Nat.le_of_ble_eq_true rfl) rfl hl.1 rfl (Nat.le_of_ble_eq_true rfl) dX4_setTeacher_11 ⟨by decide, by decide⟩) hS rfl (by decide) (by decide)
  have h := bx_r h
  refine g_xkv (g_xrunS (As := [.int x2, .int 0, .int 1023]) (rest := []) hC hX hP hS (c4_requireRange l hst hw6) u_2_206 yv_X4_requireRange (Nat.le_of_ble_eq_true rfl) rfl hl.1 rfl (Nat.le_of_ble_eq_true rfl) dX4_setTeacher_11 ⟨by decide, by decide⟩) hS (fun H locs hP hS => ?_)
  refine lv_aload_n hx hb dX4_setTeacher_14 rfl (lv_at hl 0 rfl) ?_
  refine g_get hC hP 3 dX4_setTeacher_15 (by decide) ge_0 rfl inX4 (by decide) rfl u_1_191 ?_
  refine lv_aload_n hx hb dX4_setTeacher_18 rfl (lv_at hl 0 rfl) ?_
  refine g_get hC hP 0 dX4_setTeacher_19 (by decide) ge_0 rfl inX4 (by decide) rfl u_1_188 ?_
  obtain ⟨Y7, E8, hv, h⟩ := bd2_e h
  refine g_kv (g_runV (As := [.ref (ad γ 1)]) (rest := []) hC hP (c1_keep l hv) (by decide) ge_19 rfl u_1_215 yv_X1_keep (Nat.le_of_ble_eq_true rfl) rfl hl.1 rfl (Nat.le_of_ble_eq_true rfl) dX4_setTeacher_22 ⟨by decide, by decide⟩) hS (fun H locs hP hS => ?_)
  refine lv_aload_n hx hb dX4_setTeacher_25 rfl (lv_at hl 0 rfl) ?_
  refine g_get hC hP 0 dX4_setTeacher_26 (by decide) ge_0 rfl inX4 (by decide) rfl u_1_188 ?_
  refine g_get hC hP 3 dX4_setTeacher_29 (by decide) ge_1 rfl inX3 (by decide) rfl u_1_52 ?_
  refine lv_iload_n hx hb dX4_setTeacher_32 rfl (lv_at hl 1 rfl) ?_
  refine lv_iload_n hx hb dX4_setTeacher_33 rfl (lv_at hl 2 rfl) ?_
  obtain ⟨T9, hv, h⟩ := ob h
  refine g_st hC hP hS (fun Z => (Z, P, X, Y7, E8, B, M, O)) dX4_setTeacher_34 (by decide) ge_5 gs_5 hv (fun H locs hP hS => ?_)
  refine lv_aload_n hx hb dX4_setTeacher_35 rfl (lv_at hl 0 rfl) ?_
  refine g_get hC hP 0 dX4_setTeacher_36 (by decide) ge_0 rfl inX4 (by decide) rfl u_1_188 ?_
  obtain ⟨v10, T11, hv, h⟩ := bd2_e h
  refine g_ki (g_runV (As := []) (rest := []) hC hP (c3_unplaceUnsuitable l hv) (by decide) ge_1 rfl u_2_225 yv_X3_unplaceUnsuitable (Nat.le_of_ble_eq_true rfl) rfl hl.1 rfl (Nat.le_of_ble_eq_true rfl) dX4_setTeacher_39 ⟨by decide, by decide⟩) hS (fun H locs hP hS => ?_)
  cases h
  refine W.widen (k := 2) (n := 12) (by decide) (by decide) ?_
  exact g_xiret hC hP hS dX4_setTeacher_42 rfl
def r4_setWeight (T : OS) (Y : OS) (E : Nat → OS) (x1 : Int32) (x2 : Int32) : Option ((Nat ⊕ Int32) × OS × OS × (Nat → OS)) :=
  bd1 (r4_requireIndex x1 3) (fun o1 => bx o1 (fun k2 => some ((.inl k2), T, Y, E)) (fun _ =>
  bd1 (r4_requireRange x2 0 9) (fun o4 => bx o4 (fun k5 => some ((.inl k5), T, Y, E)) (fun _ =>
  bd2 (r1_keep T Y E) (fun Y7 E8 =>
  (rd 3 (T 4) x1).bind fun v9 =>
  (wr 3 T 4 x1 x2).bind fun T10 =>
  some ((.inr v9), T10, Y7, E8))))))
theorem yv_X4_setWeight : gYV yX4_setWeight cX4_setWeight 4 (some .int) 2 := ⟨u_3_12, u_3_13, u_1_1, u_3_14, ⟨by decide +kernel, by decide +kernel, by decide +kernel⟩, by decide⟩
set_option maxHeartbeats 4000000 in
set_option maxRecDepth 100000 in
theorem c4_setWeight (l : Launch) (hst : l.stackTraces = false) {γ : GA} {sz : Nat} {T P X Y B M : OS} {E : Nat → OS} {O : Nat → Int64} {x1 : Int32} {x2 : Int32} {o0 : Nat ⊕ Int32} {Tz : OS} {Yz : OS} {Ez : Nat → OS} (h : r4_setWeight T Y E x1 x2 = some (o0, Tz, Yz, Ez)) : vx_Met l yX4_setWeight (gU yX4_setWeight cX4_setWeight 4 (some .int)) (gR 7 2 12) (gPx γ [.ref (ad γ 0), .int x1, .int x2] sz (T, P, X, Y, E, B, M, O)) (gQxi γ o0 sz (Tz, P, X, Yz, Ez, B, M, O)) (gXC γ o0 sz (Tz, P, X, Yz, Ez, B, M, O)) 2 12 (gA γ sz) := by
  refine g_metx hst (fun sz => gQxi γ o0 sz (Tz, P, X, Yz, Ez, B, M, O)) (fun sz => gXC γ o0 sz (Tz, P, X, Yz, Ez, B, M, O)) (by decide) (Nat.le_of_ble_eq_true rfl) ?_
  intro p e s m args below meth c ls hC hX hP hS hl
  have hx := hC.x
  have hb := hC.b
  have hl : lv_has ls 4 [(0, .ref (ad γ 0)), (1, .int x1), (2, .int x2)] := hl
  unfold r4_setWeight at h
  refine lv_iload_n hx hb dX4_setWeight_0 rfl (lv_at hl 1 rfl) ?_
  refine lv_iconst (v := 3) hx hb dX4_setWeight_1 (by decide) ?_
  obtain ⟨o1, hw3, h⟩ := bd1_e h
  rcases o1 with k2 | ⟨⟩
  · have h := bx_l h
    cases h
    exact g_xkev hC hX (g_xrunS (As := [.int x1, .int 3]) (rest := []) hC hX hP hS (c4_requireIndex l hst hw3) u_2_133 yv_X4_requireIndex (Nat.le_of_ble_eq_true rfl) rfl hl.1 rfl (Nat.le_of_ble_eq_true rfl) dX4_setWeight_2 ⟨by decide, by decide⟩) hS rfl (by decide) (by decide)
  have h := bx_r h
  refine g_xkv (g_xrunS (As := [.int x1, .int 3]) (rest := []) hC hX hP hS (c4_requireIndex l hst hw3) u_2_133 yv_X4_requireIndex (Nat.le_of_ble_eq_true rfl) rfl hl.1 rfl (Nat.le_of_ble_eq_true rfl) dX4_setWeight_2 ⟨by decide, by decide⟩) hS (fun H locs hP hS => ?_)
  refine lv_iload_n hx hb dX4_setWeight_5 rfl (lv_at hl 2 rfl) ?_
  refine lv_iconst (v := 0) hx hb dX4_setWeight_6 (by decide) ?_
  refine lv_bipush (v := 9) hx hb dX4_setWeight_7 (by decide) ?_
  obtain ⟨o4, hw6, h⟩ := bd1_e h
  rcases o4 with k5 | ⟨⟩
  · have h := bx_l h
    cases h
    exact g_xkev hC hX (g_xrunS (As := [.int x2, .int 0, .int 9]) (rest := []) hC hX hP hS (c4_requireRange l hst hw6) u_2_206 yv_X4_requireRange (Nat.le_of_ble_eq_true rfl) rfl hl.1 rfl (Nat.le_of_ble_eq_true rfl) dX4_setWeight_9 ⟨by decide, by decide⟩) hS rfl (by decide) (by decide)
  have h := bx_r h
  refine g_xkv (g_xrunS (As := [.int x2, .int 0, .int 9]) (rest := []) hC hX hP hS (c4_requireRange l hst hw6) u_2_206 yv_X4_requireRange (Nat.le_of_ble_eq_true rfl) rfl hl.1 rfl (Nat.le_of_ble_eq_true rfl) dX4_setWeight_9 ⟨by decide, by decide⟩) hS (fun H locs hP hS => ?_)
  refine lv_aload_n hx hb dX4_setWeight_12 rfl (lv_at hl 0 rfl) ?_
  refine g_get hC hP 3 dX4_setWeight_13 (by decide) ge_0 rfl inX4 (by decide) rfl u_1_191 ?_
  refine lv_aload_n hx hb dX4_setWeight_16 rfl (lv_at hl 0 rfl) ?_
  refine g_get hC hP 0 dX4_setWeight_17 (by decide) ge_0 rfl inX4 (by decide) rfl u_1_188 ?_
  obtain ⟨Y7, E8, hv, h⟩ := bd2_e h
  refine g_kv (g_runV (As := [.ref (ad γ 1)]) (rest := []) hC hP (c1_keep l hv) (by decide) ge_19 rfl u_1_215 yv_X1_keep (Nat.le_of_ble_eq_true rfl) rfl hl.1 rfl (Nat.le_of_ble_eq_true rfl) dX4_setWeight_20 ⟨by decide, by decide⟩) hS (fun H locs hP hS => ?_)
  refine lv_aload_n hx hb dX4_setWeight_23 rfl (lv_at hl 0 rfl) ?_
  refine g_get hC hP 0 dX4_setWeight_24 (by decide) ge_0 rfl inX4 (by decide) rfl u_1_188 ?_
  refine g_get hC hP 4 dX4_setWeight_27 (by decide) ge_1 rfl inX3 (by decide) rfl u_1_54 ?_
  refine lv_iload_n hx hb dX4_setWeight_30 rfl (lv_at hl 1 rfl) ?_
  obtain ⟨v9, hv, h⟩ := ob h
  refine g_ld hC hP dX4_setWeight_31 (by decide) ge_6 hv ?_
  refine lv_istore_n (lv' := [(3, .int v9), (0, .ref (ad γ 0)), (1, .int x1), (2, .int x2)]) hx hb dX4_setWeight_32 rfl hl (by decide) rfl (fun ls hl => ?_)
  refine lv_aload_n hx hb dX4_setWeight_33 rfl (lv_at hl 1 rfl) ?_
  refine g_get hC hP 0 dX4_setWeight_34 (by decide) ge_0 rfl inX4 (by decide) rfl u_1_188 ?_
  refine g_get hC hP 4 dX4_setWeight_37 (by decide) ge_1 rfl inX3 (by decide) rfl u_1_54 ?_
  refine lv_iload_n hx hb dX4_setWeight_40 rfl (lv_at hl 2 rfl) ?_
  refine lv_iload_n hx hb dX4_setWeight_41 rfl (lv_at hl 3 rfl) ?_
  obtain ⟨T10, hv, h⟩ := ob h
  refine g_st hC hP hS (fun Z => (Z, P, X, Y7, E8, B, M, O)) dX4_setWeight_42 (by decide) ge_6 gs_6 hv (fun H locs hP hS => ?_)
  refine lv_iload_n hx hb dX4_setWeight_43 rfl (lv_at hl 0 rfl) ?_
  cases h
  refine W.widen (k := 2) (n := 12) (by decide) (by decide) ?_
  exact g_xiret hC hP hS dX4_setWeight_44 rfl
def r4_setting (T : OS) (x1 : Int32) (x2 : Int32) : Option ((Nat ⊕ Int32)) :=
  bd1 (r4_requireRange x1 0 3) (fun o1 => bx o1 (fun k2 => some (.inl k2)) (fun _ =>
  (if x1 = 0 then bd1 (r4_requireIndex x2 6) (fun o7 => bx o7 (fun k8 => some (.inl k8)) (fun _ =>
  (rd 6 (T 0) x2).bind fun v10 =>
  some (.inr v10)))
  else (if x1 = 1 then bd1 (r4_requireIndex x2 6) (fun o11 => bx o11 (fun k12 => some (.inl k12)) (fun _ =>
  (rd 6 (T 1) x2).bind fun v14 =>
  some (.inr v14)))
  else (if x1 = 2 then bd1 (r4_requireIndex x2 6) (fun o15 => bx o15 (fun k16 => some (.inl k16)) (fun _ =>
  (rd 6 (T 2) x2).bind fun v18 =>
  some (.inr v18)))
  else bd1 (r4_requireIndex x2 6) (fun o19 => bx o19 (fun k20 => some (.inl k20)) (fun _ =>
  (rd 6 (T 3) x2).bind fun v22 =>
  some (.inr v22))))))))
theorem yv_X4_setting : gYV yX4_setting cX4_setting 3 (some .int) 2 := ⟨u_3_19, u_3_20, u_1_1, u_3_21, ⟨by decide +kernel, by decide +kernel, by decide +kernel⟩, by decide⟩
set_option maxHeartbeats 4000000 in
set_option maxRecDepth 100000 in
theorem c4_setting (l : Launch) (hst : l.stackTraces = false) {γ : GA} {sz : Nat} {T P X Y B M : OS} {E : Nat → OS} {O : Nat → Int64} {x1 : Int32} {x2 : Int32} {o0 : Nat ⊕ Int32} (h : r4_setting T x1 x2 = some o0) : vx_Met l yX4_setting (gU yX4_setting cX4_setting 3 (some .int)) (gR 7 5 30) (gPx γ [.ref (ad γ 0), .int x1, .int x2] sz (T, P, X, Y, E, B, M, O)) (gQxi γ o0 sz (T, P, X, Y, E, B, M, O)) (gXC γ o0 sz (T, P, X, Y, E, B, M, O)) 5 30 (gA γ sz) := by
  refine g_metx hst (fun sz => gQxi γ o0 sz (T, P, X, Y, E, B, M, O)) (fun sz => gXC γ o0 sz (T, P, X, Y, E, B, M, O)) (by decide) (Nat.le_of_ble_eq_true rfl) ?_
  intro p e s m args below meth c ls hC hX hP hS hl
  have hx := hC.x
  have hb := hC.b
  have hl : lv_has ls 3 [(0, .ref (ad γ 0)), (1, .int x1), (2, .int x2)] := hl
  unfold r4_setting at h
  refine lv_iload_n hx hb dX4_setting_0 rfl (lv_at hl 1 rfl) ?_
  refine lv_iconst (v := 0) hx hb dX4_setting_1 (by decide) ?_
  refine lv_iconst (v := 3) hx hb dX4_setting_2 (by decide) ?_
  obtain ⟨o1, hw3, h⟩ := bd1_e h
  rcases o1 with k2 | ⟨⟩
  · have h := bx_l h
    cases h
    exact g_xkev hC hX (g_xrunS (As := [.int x1, .int 0, .int 3]) (rest := []) hC hX hP hS (c4_requireRange l hst hw3) u_2_206 yv_X4_requireRange (Nat.le_of_ble_eq_true rfl) rfl hl.1 rfl (Nat.le_of_ble_eq_true rfl) dX4_setting_3 ⟨by decide, by decide⟩) hS rfl (by decide) (by decide)
  have h := bx_r h
  refine g_xkv (g_xrunS (As := [.int x1, .int 0, .int 3]) (rest := []) hC hX hP hS (c4_requireRange l hst hw3) u_2_206 yv_X4_requireRange (Nat.le_of_ble_eq_true rfl) rfl hl.1 rfl (Nat.le_of_ble_eq_true rfl) dX4_setting_3 ⟨by decide, by decide⟩) hS (fun H locs hP hS => ?_)
  refine lv_iload_n hx hb dX4_setting_6 rfl (lv_at hl 1 rfl) ?_
  by_cases c4 : x1 = 0
  · rw [if_pos c4] at h
    refine lv_tableIn (off := 25) (tgt := 32) hx hb dX4_setting_7 (by rw [c4]; decide) (by rw [c4]; decide) (by rw [c4]; rfl) (by decide) ?_
    refine lv_iload_n hx hb dX4_setting_32 rfl (lv_at hl 2 rfl) ?_
    refine lv_bipush (v := 6) hx hb dX4_setting_33 (by decide) ?_
    obtain ⟨o7, hw9, h⟩ := bd1_e h
    rcases o7 with k8 | ⟨⟩
    · have h := bx_l h
      cases h
      exact g_xkev hC hX (g_xrunS (As := [.int x2, .int 6]) (rest := []) hC hX hP hS (c4_requireIndex l hst hw9) u_2_133 yv_X4_requireIndex (Nat.le_of_ble_eq_true rfl) rfl hl.1 rfl (Nat.le_of_ble_eq_true rfl) dX4_setting_35 ⟨by decide, by decide⟩) hS rfl (by decide) (by decide)
    have h := bx_r h
    refine g_xkv (g_xrunS (As := [.int x2, .int 6]) (rest := []) hC hX hP hS (c4_requireIndex l hst hw9) u_2_133 yv_X4_requireIndex (Nat.le_of_ble_eq_true rfl) rfl hl.1 rfl (Nat.le_of_ble_eq_true rfl) dX4_setting_35 ⟨by decide, by decide⟩) hS (fun H locs hP hS => ?_)
    refine lv_aload_n hx hb dX4_setting_38 rfl (lv_at hl 0 rfl) ?_
    refine g_get hC hP 0 dX4_setting_39 (by decide) ge_0 rfl inX4 (by decide) rfl u_1_188 ?_
    refine g_get hC hP 0 dX4_setting_42 (by decide) ge_1 rfl inX3 (by decide) rfl u_1_45 ?_
    refine lv_iload_n hx hb dX4_setting_45 rfl (lv_at hl 2 rfl) ?_
    obtain ⟨v10, hv, h⟩ := ob h
    refine g_ld hC hP dX4_setting_46 (by decide) ge_2 hv ?_
    cases h
    refine W.widen (k := 5) (n := 30) (by decide) (by decide) ?_
    exact g_xiret hC hP hS dX4_setting_47 rfl
  rw [if_neg c4] at h
  by_cases c5 : x1 = 1
  · rw [if_pos c5] at h
    refine lv_tableIn (off := 41) (tgt := 48) hx hb dX4_setting_7 (by rw [c5]; decide) (by rw [c5]; decide) (by rw [c5]; rfl) (by decide) ?_
    refine lv_iload_n hx hb dX4_setting_48 rfl (lv_at hl 2 rfl) ?_
    refine lv_bipush (v := 6) hx hb dX4_setting_49 (by decide) ?_
    obtain ⟨o11, hw13, h⟩ := bd1_e h
    rcases o11 with k12 | ⟨⟩
    · have h := bx_l h
      cases h
      exact g_xkev hC hX (g_xrunS (As := [.int x2, .int 6]) (rest := []) hC hX hP hS (c4_requireIndex l hst hw13) u_2_133 yv_X4_requireIndex (Nat.le_of_ble_eq_true rfl) rfl hl.1 rfl (Nat.le_of_ble_eq_true rfl) dX4_setting_51 ⟨by decide, by decide⟩) hS rfl (by decide) (by decide)
    have h := bx_r h
    refine g_xkv (g_xrunS (As := [.int x2, .int 6]) (rest := []) hC hX hP hS (c4_requireIndex l hst hw13) u_2_133 yv_X4_requireIndex (Nat.le_of_ble_eq_true rfl) rfl hl.1 rfl (Nat.le_of_ble_eq_true rfl) dX4_setting_51 ⟨by decide, by decide⟩) hS (fun H locs hP hS => ?_)
    refine lv_aload_n hx hb dX4_setting_54 rfl (lv_at hl 0 rfl) ?_
    refine g_get hC hP 0 dX4_setting_55 (by decide) ge_0 rfl inX4 (by decide) rfl u_1_188 ?_
    refine g_get hC hP 1 dX4_setting_58 (by decide) ge_1 rfl inX3 (by decide) rfl u_1_48 ?_
    refine lv_iload_n hx hb dX4_setting_61 rfl (lv_at hl 2 rfl) ?_
    obtain ⟨v14, hv, h⟩ := ob h
    refine g_ld hC hP dX4_setting_62 (by decide) ge_3 hv ?_
    cases h
    refine W.widen (k := 5) (n := 30) (by decide) (by decide) ?_
    exact g_xiret hC hP hS dX4_setting_63 rfl
  rw [if_neg c5] at h
  by_cases c6 : x1 = 2
  · rw [if_pos c6] at h
    refine lv_tableIn (off := 57) (tgt := 64) hx hb dX4_setting_7 (by rw [c6]; decide) (by rw [c6]; decide) (by rw [c6]; rfl) (by decide) ?_
    refine lv_iload_n hx hb dX4_setting_64 rfl (lv_at hl 2 rfl) ?_
    refine lv_bipush (v := 6) hx hb dX4_setting_65 (by decide) ?_
    obtain ⟨o15, hw17, h⟩ := bd1_e h
    rcases o15 with k16 | ⟨⟩
    · have h := bx_l h
      cases h
      exact g_xkev hC hX (g_xrunS (As := [.int x2, .int 6]) (rest := []) hC hX hP hS (c4_requireIndex l hst hw17) u_2_133 yv_X4_requireIndex (Nat.le_of_ble_eq_true rfl) rfl hl.1 rfl (Nat.le_of_ble_eq_true rfl) dX4_setting_67 ⟨by decide, by decide⟩) hS rfl (by decide) (by decide)
    have h := bx_r h
    refine g_xkv (g_xrunS (As := [.int x2, .int 6]) (rest := []) hC hX hP hS (c4_requireIndex l hst hw17) u_2_133 yv_X4_requireIndex (Nat.le_of_ble_eq_true rfl) rfl hl.1 rfl (Nat.le_of_ble_eq_true rfl) dX4_setting_67 ⟨by decide, by decide⟩) hS (fun H locs hP hS => ?_)
    refine lv_aload_n hx hb dX4_setting_70 rfl (lv_at hl 0 rfl) ?_
    refine g_get hC hP 0 dX4_setting_71 (by decide) ge_0 rfl inX4 (by decide) rfl u_1_188 ?_
    refine g_get hC hP 2 dX4_setting_74 (by decide) ge_1 rfl inX3 (by decide) rfl u_1_50 ?_
    refine lv_iload_n hx hb dX4_setting_77 rfl (lv_at hl 2 rfl) ?_
    obtain ⟨v18, hv, h⟩ := ob h
    refine g_ld hC hP dX4_setting_78 (by decide) ge_4 hv ?_
    cases h
    refine W.widen (k := 5) (n := 30) (by decide) (by decide) ?_
    exact g_xiret hC hP hS dX4_setting_79 rfl
  rw [if_neg c6] at h
  refine lv_tableOut (tgt := 80) hx hb dX4_setting_7 (tsw_0_2 c4 c5 c6) (by decide) ?_
  refine lv_iload_n hx hb dX4_setting_80 rfl (lv_at hl 2 rfl) ?_
  refine lv_bipush (v := 6) hx hb dX4_setting_81 (by decide) ?_
  obtain ⟨o19, hw21, h⟩ := bd1_e h
  rcases o19 with k20 | ⟨⟩
  · have h := bx_l h
    cases h
    exact g_xkev hC hX (g_xrunS (As := [.int x2, .int 6]) (rest := []) hC hX hP hS (c4_requireIndex l hst hw21) u_2_133 yv_X4_requireIndex (Nat.le_of_ble_eq_true rfl) rfl hl.1 rfl (Nat.le_of_ble_eq_true rfl) dX4_setting_83 ⟨by decide, by decide⟩) hS rfl (by decide) (by decide)
  have h := bx_r h
  refine g_xkv (g_xrunS (As := [.int x2, .int 6]) (rest := []) hC hX hP hS (c4_requireIndex l hst hw21) u_2_133 yv_X4_requireIndex (Nat.le_of_ble_eq_true rfl) rfl hl.1 rfl (Nat.le_of_ble_eq_true rfl) dX4_setting_83 ⟨by decide, by decide⟩) hS (fun H locs hP hS => ?_)
  refine lv_aload_n hx hb dX4_setting_86 rfl (lv_at hl 0 rfl) ?_
  refine g_get hC hP 0 dX4_setting_87 (by decide) ge_0 rfl inX4 (by decide) rfl u_1_188 ?_
  refine g_get hC hP 3 dX4_setting_90 (by decide) ge_1 rfl inX3 (by decide) rfl u_1_52 ?_
  refine lv_iload_n hx hb dX4_setting_93 rfl (lv_at hl 2 rfl) ?_
  obtain ⟨v22, hv, h⟩ := ob h
  refine g_ld hC hP dX4_setting_94 (by decide) ge_5 hv ?_
  cases h
  refine W.widen (k := 5) (n := 30) (by decide) (by decide) ?_
  exact g_xiret hC hP hS dX4_setting_95 rfl
def r4_append (X : OS) (x1 : Int32) : Option ((Nat ⊕ Int32) × OS) :=
  bd1 (r0_isText x1) (fun v1 =>
  (if v1 = 0 then some ((.inl 1), X)
  else bd1 (r0_hasRoomFor X x1) (fun v3 =>
  (if v3 = 0 then some ((.inl 2), X)
  else bd2 (r0_add X x1) (fun v5 X6 =>
  some ((.inr v5), X6))))))
theorem yv_X4_append : gYV yX4_append cX4_append 2 (some .int) 1 := ⟨u_3_27, u_3_28, u_1_1, u_3_29, ⟨by decide +kernel, by decide +kernel, by decide +kernel⟩, by decide⟩
set_option maxHeartbeats 4000000 in
set_option maxRecDepth 100000 in
theorem c4_append (l : Launch) (hst : l.stackTraces = false) {γ : GA} {sz : Nat} {T P X Y B M : OS} {E : Nat → OS} {O : Nat → Int64} {x1 : Int32} {o0 : Nat ⊕ Int32} {Xz : OS} (h : r4_append X x1 = some (o0, Xz)) : vx_Met l yX4_append (gU yX4_append cX4_append 2 (some .int)) (gR 6 2 12) (gPx γ [.ref (ad γ 0), .int x1] sz (T, P, X, Y, E, B, M, O)) (gQxi γ o0 sz (T, P, Xz, Y, E, B, M, O)) (gXC γ o0 sz (T, P, Xz, Y, E, B, M, O)) 2 12 (gA γ sz) := by
  refine g_metx hst (fun sz => gQxi γ o0 sz (T, P, Xz, Y, E, B, M, O)) (fun sz => gXC γ o0 sz (T, P, Xz, Y, E, B, M, O)) (by decide) (Nat.le_of_ble_eq_true rfl) ?_
  intro p e s m args below meth c ls hC hX hP hS hl
  have hx := hC.x
  have hb := hC.b
  have hl : lv_has ls 2 [(0, .ref (ad γ 0)), (1, .int x1)] := hl
  unfold r4_append at h
  refine lv_iload_n hx hb dX4_append_0 rfl (lv_at hl 1 rfl) ?_
  obtain ⟨v1, hv, h⟩ := bd1_e h
  refine g_ki (g_runS (As := [.int x1]) (rest := []) hC hP (c0_isText l hv) u_3_30 yv_X0_isText (Nat.le_of_ble_eq_true rfl) rfl hl.1 rfl (Nat.le_of_ble_eq_true rfl) dX4_append_1 ⟨by decide, by decide⟩) hS (fun H locs hP hS => ?_)
  refine lv_if_ne (tgt := 17) hx hb dX4_append_4 (by decide) (fun c2 => ?_) (fun c2 => ?_)
  · rw [if_neg c2] at h
    refine lv_aload_n hx hb dX4_append_17 rfl (lv_at hl 0 rfl) ?_
    refine g_get hC hP 4 dX4_append_18 (by decide) ge_0 rfl inX4 (by decide) rfl u_1_192 ?_
    refine lv_iload_n hx hb dX4_append_21 rfl (lv_at hl 1 rfl) ?_
    obtain ⟨v3, hv, h⟩ := bd1_e h
    refine g_ki (g_runV (As := [.int x1]) (rest := []) hC hP (c0_hasRoomFor l hv) (by decide) ge_21 rfl u_3_34 yv_X0_hasRoomFor (Nat.le_of_ble_eq_true rfl) rfl hl.1 rfl (Nat.le_of_ble_eq_true rfl) dX4_append_22 ⟨by decide, by decide⟩) hS (fun H locs hP hS => ?_)
    refine lv_if_ne (tgt := 38) hx hb dX4_append_25 (by decide) (fun c4 => ?_) (fun c4 => ?_)
    · rw [if_neg c4] at h
      refine lv_aload_n hx hb dX4_append_38 rfl (lv_at hl 0 rfl) ?_
      refine g_get hC hP 4 dX4_append_39 (by decide) ge_0 rfl inX4 (by decide) rfl u_1_192 ?_
      refine lv_iload_n hx hb dX4_append_42 rfl (lv_at hl 1 rfl) ?_
      obtain ⟨v5, X6, hv, h⟩ := bd2_e h
      refine g_ki (g_runV (As := [.int x1]) (rest := []) hC hP (c0_add l hv) (by decide) ge_21 rfl u_3_54 yv_X0_add (Nat.le_of_ble_eq_true rfl) rfl hl.1 rfl (Nat.le_of_ble_eq_true rfl) dX4_append_43 ⟨by decide, by decide⟩) hS (fun H locs hP hS => ?_)
      cases h
      refine W.widen (k := 2) (n := 12) (by decide) (by decide) ?_
      exact g_xiret hC hP hS dX4_append_46 rfl
    · rw [if_pos c4] at h
      cases h
      exact g_thr hC hX hP hS gx_2 (List.mem_of_getElem? (i := 3) rfl) hl.1 dX4_append_28 dX4_append_31 dX4_append_32 dX4_append_34 dX4_append_37 (Nat.le_of_ble_eq_true rfl) (Nat.le_of_ble_eq_true rfl) (by decide) (by decide) (by decide) (by decide) rfl
  · rw [if_pos c2] at h
    cases h
    exact g_thr hC hX hP hS gx_1 (List.mem_of_getElem? (i := 2) rfl) hl.1 dX4_append_7 dX4_append_10 dX4_append_11 dX4_append_13 dX4_append_16 (Nat.le_of_ble_eq_true rfl) (Nat.le_of_ble_eq_true rfl) (by decide) (by decide) (by decide) (by decide) rfl
def r4_requireRoomForEvent (T : OS) : Option ((Nat ⊕ Unit)) :=
  (if (T 13 0) < 14 then some (.inr ())
  else some (.inl 2))
theorem yv_X4_requireRoomForEvent : gYV yX4_requireRoomForEvent cX4_requireRoomForEvent 1 none 0 := ⟨u_3_100, u_sp_16, u_1_1, u_3_101, ⟨by decide +kernel, by decide +kernel, by decide +kernel⟩, by decide⟩
set_option maxHeartbeats 4000000 in
set_option maxRecDepth 100000 in
theorem c4_requireRoomForEvent (l : Launch) (hst : l.stackTraces = false) {γ : GA} {sz : Nat} {T P X Y B M : OS} {E : Nat → OS} {O : Nat → Int64} {o0 : Nat ⊕ Unit} (h : r4_requireRoomForEvent T = some o0) : vx_Met l yX4_requireRoomForEvent (gU yX4_requireRoomForEvent cX4_requireRoomForEvent 1 none) (gR 6 1 6) (gPx γ [.ref (ad γ 0)] sz (T, P, X, Y, E, B, M, O)) (gQxv γ o0 sz (T, P, X, Y, E, B, M, O)) (gXC γ o0 sz (T, P, X, Y, E, B, M, O)) 1 6 (gA γ sz) := by
  refine g_metx hst (fun sz => gQxv γ o0 sz (T, P, X, Y, E, B, M, O)) (fun sz => gXC γ o0 sz (T, P, X, Y, E, B, M, O)) (by decide) (Nat.le_of_ble_eq_true rfl) ?_
  intro p e s m args below meth c ls hC hX hP hS hl
  have hx := hC.x
  have hb := hC.b
  have hl : lv_has ls 1 [(0, .ref (ad γ 0))] := hl
  unfold r4_requireRoomForEvent at h
  refine lv_aload_n hx hb dX4_requireRoomForEvent_0 rfl (lv_at hl 0 rfl) ?_
  refine g_get hC hP 0 dX4_requireRoomForEvent_1 (by decide) ge_0 rfl inX4 (by decide) rfl u_1_188 ?_
  refine g_get hC hP 13 dX4_requireRoomForEvent_4 (by decide) ge_1 rfl inX3 (by decide) rfl u_1_77 ?_
  refine lv_bipush (v := 14) hx hb dX4_requireRoomForEvent_7 (by decide) ?_
  refine lv_icmp_lt (tgt := 23) hx hb dX4_requireRoomForEvent_9 (by decide) (fun c1 => ?_) (fun c1 => ?_)
  · rw [if_pos c1] at h
    cases h
    refine W.widen (k := 1) (n := 6) (by decide) (by decide) ?_
    exact g_xvret hC hP hS dX4_requireRoomForEvent_23 rfl
  · rw [if_neg c1] at h
    cases h
    exact g_thrW hC hX hP hS gx_2 (List.mem_of_getElem? (i := 5) rfl) hl.1 dX4_requireRoomForEvent_12 dX4_requireRoomForEvent_15 dX4_requireRoomForEvent_16 dX4_requireRoomForEvent_19 dX4_requireRoomForEvent_22 (Nat.le_of_ble_eq_true rfl) (Nat.le_of_ble_eq_true rfl) (by decide) (by decide) (by decide) (by decide) rfl
def r4_addEvent (T : OS) (X : OS) (Y : OS) (E : Nat → OS) : Option ((Nat ⊕ Int32) × OS × OS × OS × (Nat → OS)) :=
  bd2 (r0_readEvent X) (fun v1 X2 =>
  (if v1 = 0 then some ((.inl 1), T, X2, Y, E)
  else bd1 (r4_requireRoomForEvent T) (fun o4 => bx o4 (fun k5 => some ((.inl k5), T, X2, Y, E)) (fun _ =>
  bd2 (r1_keep T Y E) (fun Y7 E8 =>
  bd2 (r3_newEvent T (X2 4 0) (X2 5 0) (X2 6 0) (X2 7 0)) (fun v9 T10 =>
  some ((.inr v9), T10, X2, Y7, E8)))))))
theorem yv_X4_addEvent : gYV yX4_addEvent cX4_addEvent 1 (some .int) 0 := ⟨u_3_62, u_3_63, u_1_1, u_3_64, ⟨by decide +kernel, by decide +kernel, by decide +kernel⟩, by decide⟩
set_option maxHeartbeats 4000000 in
set_option maxRecDepth 100000 in
theorem c4_addEvent (l : Launch) (hst : l.stackTraces = false) {γ : GA} {sz : Nat} {T P X Y B M : OS} {E : Nat → OS} {O : Nat → Int64} {o0 : Nat ⊕ Int32} {Tz : OS} {Xz : OS} {Yz : OS} {Ez : Nat → OS} (h : r4_addEvent T X Y E = some (o0, Tz, Xz, Yz, Ez)) : vx_Met l yX4_addEvent (gU yX4_addEvent cX4_addEvent 1 (some .int)) (gR 7 2 12) (gPx γ [.ref (ad γ 0)] sz (T, P, X, Y, E, B, M, O)) (gQxi γ o0 sz (Tz, P, Xz, Yz, Ez, B, M, O)) (gXC γ o0 sz (Tz, P, Xz, Yz, Ez, B, M, O)) 2 12 (gA γ sz) := by
  refine g_metx hst (fun sz => gQxi γ o0 sz (Tz, P, Xz, Yz, Ez, B, M, O)) (fun sz => gXC γ o0 sz (Tz, P, Xz, Yz, Ez, B, M, O)) (by decide) (Nat.le_of_ble_eq_true rfl) ?_
  intro p e s m args below meth c ls hC hX hP hS hl
  have hx := hC.x
  have hb := hC.b
  have hl : lv_has ls 1 [(0, .ref (ad γ 0))] := hl
  unfold r4_addEvent at h
  refine lv_aload_n hx hb dX4_addEvent_0 rfl (lv_at hl 0 rfl) ?_
  refine g_get hC hP 4 dX4_addEvent_1 (by decide) ge_0 rfl inX4 (by decide) rfl u_1_192 ?_
  obtain ⟨v1, X2, hv, h⟩ := bd2_e h
  refine g_ki (g_runV (As := []) (rest := []) hC hP (c0_readEvent l hv) (by decide) ge_21 rfl u_3_65 yv_X0_readEvent (Nat.le_of_ble_eq_true rfl) rfl hl.1 rfl (Nat.le_of_ble_eq_true rfl) dX4_addEvent_4 ⟨by decide, by decide⟩) hS (fun H locs hP hS => ?_)
  refine lv_if_ne (tgt := 20) hx hb dX4_addEvent_7 (by decide) (fun c3 => ?_) (fun c3 => ?_)
  · rw [if_neg c3] at h
    refine lv_aload_n hx hb dX4_addEvent_20 rfl (lv_at hl 0 rfl) ?_
    obtain ⟨o4, hw6, h⟩ := bd1_e h
    rcases o4 with k5 | ⟨⟩
    · have h := bx_l h
      cases h
      exact g_xkev hC hX (g_xrunV (As := []) (rest := []) hC hX hP hS (c4_requireRoomForEvent l hst hw6) (by decide) ge_0 rfl u_3_98 yv_X4_requireRoomForEvent (Nat.le_of_ble_eq_true rfl) rfl hl.1 rfl (Nat.le_of_ble_eq_true rfl) dX4_addEvent_21 ⟨by decide, by decide⟩) hS rfl (by decide) (by decide)
    have h := bx_r h
    refine g_xkv (g_xrunV (As := []) (rest := []) hC hX hP hS (c4_requireRoomForEvent l hst hw6) (by decide) ge_0 rfl u_3_98 yv_X4_requireRoomForEvent (Nat.le_of_ble_eq_true rfl) rfl hl.1 rfl (Nat.le_of_ble_eq_true rfl) dX4_addEvent_21 ⟨by decide, by decide⟩) hS (fun H locs hP hS => ?_)
    refine lv_aload_n hx hb dX4_addEvent_24 rfl (lv_at hl 0 rfl) ?_
    refine g_get hC hP 3 dX4_addEvent_25 (by decide) ge_0 rfl inX4 (by decide) rfl u_1_191 ?_
    refine lv_aload_n hx hb dX4_addEvent_28 rfl (lv_at hl 0 rfl) ?_
    refine g_get hC hP 0 dX4_addEvent_29 (by decide) ge_0 rfl inX4 (by decide) rfl u_1_188 ?_
    obtain ⟨Y7, E8, hv, h⟩ := bd2_e h
    refine g_kv (g_runV (As := [.ref (ad γ 1)]) (rest := []) hC hP (c1_keep l hv) (by decide) ge_19 rfl u_1_215 yv_X1_keep (Nat.le_of_ble_eq_true rfl) rfl hl.1 rfl (Nat.le_of_ble_eq_true rfl) dX4_addEvent_32 ⟨by decide, by decide⟩) hS (fun H locs hP hS => ?_)
    refine lv_aload_n hx hb dX4_addEvent_35 rfl (lv_at hl 0 rfl) ?_
    refine g_get hC hP 0 dX4_addEvent_36 (by decide) ge_0 rfl inX4 (by decide) rfl u_1_188 ?_
    refine lv_aload_n hx hb dX4_addEvent_39 rfl (lv_at hl 0 rfl) ?_
    refine g_get hC hP 4 dX4_addEvent_40 (by decide) ge_0 rfl inX4 (by decide) rfl u_1_192 ?_
    refine g_get hC hP 4 dX4_addEvent_43 (by decide) ge_21 rfl inX0 (by decide) rfl u_1_164 ?_
    refine lv_aload_n hx hb dX4_addEvent_46 rfl (lv_at hl 0 rfl) ?_
    refine g_get hC hP 4 dX4_addEvent_47 (by decide) ge_0 rfl inX4 (by decide) rfl u_1_192 ?_
    refine g_get hC hP 5 dX4_addEvent_50 (by decide) ge_21 rfl inX0 (by decide) rfl u_1_166 ?_
    refine lv_aload_n hx hb dX4_addEvent_53 rfl (lv_at hl 0 rfl) ?_
    refine g_get hC hP 4 dX4_addEvent_54 (by decide) ge_0 rfl inX4 (by decide) rfl u_1_192 ?_
    refine g_get hC hP 6 dX4_addEvent_57 (by decide) ge_21 rfl inX0 (by decide) rfl u_1_168 ?_
    refine lv_aload_n hx hb dX4_addEvent_60 rfl (lv_at hl 0 rfl) ?_
    refine g_get hC hP 4 dX4_addEvent_61 (by decide) ge_0 rfl inX4 (by decide) rfl u_1_192 ?_
    refine g_get hC hP 7 dX4_addEvent_64 (by decide) ge_21 rfl inX0 (by decide) rfl u_1_169 ?_
    obtain ⟨v9, T10, hv, h⟩ := bd2_e h
    refine g_ki (g_runV (As := [.int (X2 4 0), .int (X2 5 0), .int (X2 6 0), .int (X2 7 0)]) (rest := []) hC hP (c3_newEvent l hv) (by decide) ge_1 rfl u_3_103 yv_X3_newEvent (Nat.le_of_ble_eq_true rfl) rfl hl.1 rfl (Nat.le_of_ble_eq_true rfl) dX4_addEvent_67 ⟨by decide, by decide⟩) hS (fun H locs hP hS => ?_)
    cases h
    refine W.widen (k := 2) (n := 12) (by decide) (by decide) ?_
    exact g_xiret hC hP hS dX4_addEvent_70 rfl
  · rw [if_pos c3] at h
    cases h
    exact g_thr hC hX hP hS gx_1 (List.mem_of_getElem? (i := 4) rfl) hl.1 dX4_addEvent_10 dX4_addEvent_13 dX4_addEvent_14 dX4_addEvent_16 dX4_addEvent_19 (Nat.le_of_ble_eq_true rfl) (Nat.le_of_ble_eq_true rfl) (by decide) (by decide) (by decide) (by decide) rfl
def r4_errorPosition (X : OS) : Option Int32 :=
  some (X 3 0)
theorem yv_X4_errorPosition : gYV yX4_errorPosition cX4_errorPosition 1 (some .int) 0 := ⟨u_1_208, u_1_209, u_1_1, u_1_210, ⟨by decide +kernel, by decide +kernel, by decide +kernel⟩, by decide⟩
set_option maxHeartbeats 4000000 in
set_option maxRecDepth 100000 in
theorem c4_errorPosition (l : Launch) {γ : GA} {sz : Nat} {T P X Y B M : OS} {E : Nat → OS} {O : Nat → Int64} {r0 : Int32} (h : r4_errorPosition X = some r0) : Met l yX4_errorPosition (gU yX4_errorPosition cX4_errorPosition 1 (some .int)) (gR 0 0 0) (gPc γ [.ref (ad γ 0)] sz (T, P, X, Y, E, B, M, O)) (gQi γ r0 sz (T, P, X, Y, E, B, M, O)) 0 0 (gA γ sz) := by
  refine g_met (fun sz => gQi γ r0 sz (T, P, X, Y, E, B, M, O)) (by decide) (Nat.le_of_ble_eq_true rfl) ?_
  intro p e s m args below meth c ls hC hP hS hl
  have hx := hC.x
  have hb := hC.b
  have hl : lv_has ls 1 [(0, .ref (ad γ 0))] := hl
  unfold r4_errorPosition at h
  refine lv_aload_n hx hb dX4_errorPosition_0 rfl (lv_at hl 0 rfl) ?_
  refine g_get hC hP 4 dX4_errorPosition_1 (by decide) ge_0 rfl inX4 (by decide) rfl u_1_192 ?_
  refine g_get hC hP 3 dX4_errorPosition_4 (by decide) ge_21 rfl inX0 (by decide) rfl u_1_162 ?_
  cases h
  exact g_iret hC hP hS dX4_errorPosition_7 rfl
def r4_requireEvent (T : OS) (x1 : Int32) : Option ((Nat ⊕ Unit)) :=
  bd1 (r3_hasEvent T x1) (fun v1 =>
  (if v1 = 0 then some (.inl 0)
  else some (.inr ())))
theorem yv_X4_requireEvent : gYV yX4_requireEvent cX4_requireEvent 2 none 1 := ⟨u_3_116, u_sp_17, u_1_1, u_3_117, ⟨by decide +kernel, by decide +kernel, by decide +kernel⟩, by decide⟩
set_option maxHeartbeats 4000000 in
set_option maxRecDepth 100000 in
theorem c4_requireEvent (l : Launch) (hst : l.stackTraces = false) {γ : GA} {sz : Nat} {T P X Y B M : OS} {E : Nat → OS} {O : Nat → Int64} {x1 : Int32} {o0 : Nat ⊕ Unit} (h : r4_requireEvent T x1 = some o0) : vx_Met l yX4_requireEvent (gU yX4_requireEvent cX4_requireEvent 2 none) (gR 6 1 6) (gPx γ [.ref (ad γ 0), .int x1] sz (T, P, X, Y, E, B, M, O)) (gQxv γ o0 sz (T, P, X, Y, E, B, M, O)) (gXC γ o0 sz (T, P, X, Y, E, B, M, O)) 1 6 (gA γ sz) := by
  refine g_metx hst (fun sz => gQxv γ o0 sz (T, P, X, Y, E, B, M, O)) (fun sz => gXC γ o0 sz (T, P, X, Y, E, B, M, O)) (by decide) (Nat.le_of_ble_eq_true rfl) ?_
  intro p e s m args below meth c ls hC hX hP hS hl
  have hx := hC.x
  have hb := hC.b
  have hl : lv_has ls 2 [(0, .ref (ad γ 0)), (1, .int x1)] := hl
  unfold r4_requireEvent at h
  refine lv_aload_n hx hb dX4_requireEvent_0 rfl (lv_at hl 0 rfl) ?_
  refine g_get hC hP 0 dX4_requireEvent_1 (by decide) ge_0 rfl inX4 (by decide) rfl u_1_188 ?_
  refine lv_iload_n hx hb dX4_requireEvent_4 rfl (lv_at hl 1 rfl) ?_
  obtain ⟨v1, hv, h⟩ := bd1_e h
  refine g_ki (g_runV (As := [.int x1]) (rest := []) hC hP (c3_hasEvent l hv) (by decide) ge_1 rfl u_3_118 yv_X3_hasEvent (Nat.le_of_ble_eq_true rfl) rfl hl.1 rfl (Nat.le_of_ble_eq_true rfl) dX4_requireEvent_5 ⟨by decide, by decide⟩) hS (fun H locs hP hS => ?_)
  refine lv_if_ne (tgt := 22) hx hb dX4_requireEvent_8 (by decide) (fun c2 => ?_) (fun c2 => ?_)
  · rw [if_neg c2] at h
    cases h
    refine W.widen (k := 1) (n := 6) (by decide) (by decide) ?_
    exact g_xvret hC hP hS dX4_requireEvent_22 rfl
  · rw [if_pos c2] at h
    cases h
    exact g_thrW hC hX hP hS gx_0 (List.mem_of_getElem? (i := 6) rfl) hl.1 dX4_requireEvent_11 dX4_requireEvent_14 dX4_requireEvent_15 dX4_requireEvent_18 dX4_requireEvent_21 (Nat.le_of_ble_eq_true rfl) (Nat.le_of_ble_eq_true rfl) (by decide) (by decide) (by decide) (by decide) rfl
def r4_removeEvent (T : OS) (Y : OS) (E : Nat → OS) (x1 : Int32) : Option ((Nat ⊕ Int32) × OS × OS × (Nat → OS)) :=
  bd1 (r4_requireEvent T x1) (fun o1 => bx o1 (fun k2 => some ((.inl k2), T, Y, E)) (fun _ =>
  bd2 (r1_keep T Y E) (fun Y4 E5 =>
  bd1 (r3_dropEvent T x1) (fun T6 =>
  some ((.inr (T6 13 0)), T6, Y4, E5)))))
theorem yv_X4_removeEvent : gYV yX4_removeEvent cX4_removeEvent 2 (some .int) 1 := ⟨u_3_111, u_3_112, u_1_1, u_3_113, ⟨by decide +kernel, by decide +kernel, by decide +kernel⟩, by decide⟩
set_option maxHeartbeats 4000000 in
set_option maxRecDepth 100000 in
theorem c4_removeEvent (l : Launch) (hst : l.stackTraces = false) {γ : GA} {sz : Nat} {T P X Y B M : OS} {E : Nat → OS} {O : Nat → Int64} {x1 : Int32} {o0 : Nat ⊕ Int32} {Tz : OS} {Yz : OS} {Ez : Nat → OS} (h : r4_removeEvent T Y E x1 = some (o0, Tz, Yz, Ez)) : vx_Met l yX4_removeEvent (gU yX4_removeEvent cX4_removeEvent 2 (some .int)) (gR 7 1 6) (gPx γ [.ref (ad γ 0), .int x1] sz (T, P, X, Y, E, B, M, O)) (gQxi γ o0 sz (Tz, P, X, Yz, Ez, B, M, O)) (gXC γ o0 sz (Tz, P, X, Yz, Ez, B, M, O)) 1 6 (gA γ sz) := by
  refine g_metx hst (fun sz => gQxi γ o0 sz (Tz, P, X, Yz, Ez, B, M, O)) (fun sz => gXC γ o0 sz (Tz, P, X, Yz, Ez, B, M, O)) (by decide) (Nat.le_of_ble_eq_true rfl) ?_
  intro p e s m args below meth c ls hC hX hP hS hl
  have hx := hC.x
  have hb := hC.b
  have hl : lv_has ls 2 [(0, .ref (ad γ 0)), (1, .int x1)] := hl
  unfold r4_removeEvent at h
  refine lv_aload_n hx hb dX4_removeEvent_0 rfl (lv_at hl 0 rfl) ?_
  refine lv_iload_n hx hb dX4_removeEvent_1 rfl (lv_at hl 1 rfl) ?_
  obtain ⟨o1, hw3, h⟩ := bd1_e h
  rcases o1 with k2 | ⟨⟩
  · have h := bx_l h
    cases h
    exact g_xkev hC hX (g_xrunV (As := [.int x1]) (rest := []) hC hX hP hS (c4_requireEvent l hst hw3) (by decide) ge_0 rfl u_3_114 yv_X4_requireEvent (Nat.le_of_ble_eq_true rfl) rfl hl.1 rfl (Nat.le_of_ble_eq_true rfl) dX4_removeEvent_2 ⟨by decide, by decide⟩) hS rfl (by decide) (by decide)
  have h := bx_r h
  refine g_xkv (g_xrunV (As := [.int x1]) (rest := []) hC hX hP hS (c4_requireEvent l hst hw3) (by decide) ge_0 rfl u_3_114 yv_X4_requireEvent (Nat.le_of_ble_eq_true rfl) rfl hl.1 rfl (Nat.le_of_ble_eq_true rfl) dX4_removeEvent_2 ⟨by decide, by decide⟩) hS (fun H locs hP hS => ?_)
  refine lv_aload_n hx hb dX4_removeEvent_5 rfl (lv_at hl 0 rfl) ?_
  refine g_get hC hP 3 dX4_removeEvent_6 (by decide) ge_0 rfl inX4 (by decide) rfl u_1_191 ?_
  refine lv_aload_n hx hb dX4_removeEvent_9 rfl (lv_at hl 0 rfl) ?_
  refine g_get hC hP 0 dX4_removeEvent_10 (by decide) ge_0 rfl inX4 (by decide) rfl u_1_188 ?_
  obtain ⟨Y4, E5, hv, h⟩ := bd2_e h
  refine g_kv (g_runV (As := [.ref (ad γ 1)]) (rest := []) hC hP (c1_keep l hv) (by decide) ge_19 rfl u_1_215 yv_X1_keep (Nat.le_of_ble_eq_true rfl) rfl hl.1 rfl (Nat.le_of_ble_eq_true rfl) dX4_removeEvent_13 ⟨by decide, by decide⟩) hS (fun H locs hP hS => ?_)
  refine lv_aload_n hx hb dX4_removeEvent_16 rfl (lv_at hl 0 rfl) ?_
  refine g_get hC hP 0 dX4_removeEvent_17 (by decide) ge_0 rfl inX4 (by decide) rfl u_1_188 ?_
  refine lv_iload_n hx hb dX4_removeEvent_20 rfl (lv_at hl 1 rfl) ?_
  obtain ⟨T6, hv, h⟩ := bd1_e h
  refine g_kv (g_runV (As := [.int x1]) (rest := []) hC hP (c3_dropEvent l hv) (by decide) ge_1 rfl u_3_120 yv_X3_dropEvent (Nat.le_of_ble_eq_true rfl) rfl hl.1 rfl (Nat.le_of_ble_eq_true rfl) dX4_removeEvent_21 ⟨by decide, by decide⟩) hS (fun H locs hP hS => ?_)
  refine lv_aload_n hx hb dX4_removeEvent_24 rfl (lv_at hl 0 rfl) ?_
  refine g_get hC hP 0 dX4_removeEvent_25 (by decide) ge_0 rfl inX4 (by decide) rfl u_1_188 ?_
  refine g_get hC hP 13 dX4_removeEvent_28 (by decide) ge_1 rfl inX3 (by decide) rfl u_1_77 ?_
  cases h
  refine W.widen (k := 1) (n := 6) (by decide) (by decide) ?_
  exact g_xiret hC hP hS dX4_removeEvent_31 rfl
def r4_split_j32 (T_32 : OS) (Y_32 : OS) (E_32 : Nat → OS)  : Option ((Nat ⊕ Int32) × OS × OS × (Nat → OS)) :=
  some ((.inl 1), T_32, Y_32, E_32)
def r4_split (T : OS) (Y : OS) (E : Nat → OS) (x1 : Int32) (x2 : Int32) : Option ((Nat ⊕ Int32) × OS × OS × (Nat → OS)) :=
  bd1 (r4_requireEvent T x1) (fun o1 => bx o1 (fun k2 => some ((.inl k2), T, Y, E)) (fun _ =>
  (rd 14 (T 6) x1).bind fun v4 =>
  (if x2 = 0 then r4_split_j32 T Y E
  else (if x2 = v4 then r4_split_j32 T Y E
  else (if (x2 &&& (v4 ^^^ (-1))) = 0 then bd1 (r4_requireRoomForEvent T) (fun o8 => bx o8 (fun k9 => some ((.inl k9), T, Y, E)) (fun _ =>
  bd2 (r1_keep T Y E) (fun Y11 E12 =>
  (wr 14 T 6 x1 (v4 &&& (x2 ^^^ (-1)))).bind fun T13 =>
  (rd 14 (T13 5) x1).bind fun v14 =>
  (rd 14 (T13 7) x1).bind fun v15 =>
  (rd 14 (T13 8) x1).bind fun v16 =>
  bd2 (r3_newEvent T13 v14 x2 v15 v16) (fun v17 T18 =>
  some ((.inr v17), T18, Y11, E12)))))
  else r4_split_j32 T Y E)))))
theorem yv_X4_split : gYV yX4_split cX4_split 4 (some .int) 2 := ⟨u_3_131, u_3_132, u_1_1, u_3_133, ⟨by decide +kernel, by decide +kernel, by decide +kernel⟩, by decide⟩
set_option maxHeartbeats 4000000 in
set_option maxRecDepth 100000 in
theorem c4_split (l : Launch) (hst : l.stackTraces = false) {γ : GA} {sz : Nat} {T P X Y B M : OS} {E : Nat → OS} {O : Nat → Int64} {x1 : Int32} {x2 : Int32} {o0 : Nat ⊕ Int32} {Tz : OS} {Yz : OS} {Ez : Nat → OS} (h : r4_split T Y E x1 x2 = some (o0, Tz, Yz, Ez)) : vx_Met l yX4_split (gU yX4_split cX4_split 4 (some .int)) (gR 7 3 18) (gPx γ [.ref (ad γ 0), .int x1, .int x2] sz (T, P, X, Y, E, B, M, O)) (gQxi γ o0 sz (Tz, P, X, Yz, Ez, B, M, O)) (gXC γ o0 sz (Tz, P, X, Yz, Ez, B, M, O)) 3 18 (gA γ sz) := by
  refine g_metx hst (fun sz => gQxi γ o0 sz (Tz, P, X, Yz, Ez, B, M, O)) (fun sz => gXC γ o0 sz (Tz, P, X, Yz, Ez, B, M, O)) (by decide) (Nat.le_of_ble_eq_true rfl) ?_
  intro p e s m args below meth c ls hC hX hP hS hl
  have hx := hC.x
  have hb := hC.b
  have hl : lv_has ls 4 [(0, .ref (ad γ 0)), (1, .int x1), (2, .int x2)] := hl
  unfold r4_split at h
  have J32 : ∀ (T_32 : OS) (Y_32 : OS) (E_32 : Nat → OS) (h : r4_split_j32 T_32 Y_32 E_32 = some (o0, Tz, Yz, Ez)), ∀ (H : Heap) (locs : List Loc) (ls : Array Slot), va_P γ.1 vwCl (gw γ (T_32, P, X, Y_32, E_32, B, M, O)) H → va_S (gA γ s.heap.size) s.heap H locs → lv_has ls 4 [] → W p l e (gR 7 3 18) s m args below meth c H locs 1 6 (vx_MQ below (gQxi γ o0 s.heap.size (Tz, P, X, Yz, Ez, B, M, O)) (gXC γ o0 s.heap.size (Tz, P, X, Yz, Ez, B, M, O)) args s 3 18 (gA γ s.heap.size)) (F0 m 32 ls []) := by
    intro T_32 Y_32 E_32 h H locs ls hP hS hl
    unfold r4_split_j32 at h
    cases h
    exact g_thr hC hX hP hS gx_1 (List.mem_of_getElem? (i := 7) rfl) hl.1 dX4_split_32 dX4_split_35 dX4_split_36 dX4_split_38 dX4_split_41 (Nat.le_of_ble_eq_true rfl) (Nat.le_of_ble_eq_true rfl) (by decide) (by decide) (by decide) (by decide) rfl
  refine lv_aload_n hx hb dX4_split_0 rfl (lv_at hl 0 rfl) ?_
  refine lv_iload_n hx hb dX4_split_1 rfl (lv_at hl 1 rfl) ?_
  obtain ⟨o1, hw3, h⟩ := bd1_e h
  rcases o1 with k2 | ⟨⟩
  · have h := bx_l h
    cases h
    exact g_xkev hC hX (g_xrunV (As := [.int x1]) (rest := []) hC hX hP hS (c4_requireEvent l hst hw3) (by decide) ge_0 rfl u_3_114 yv_X4_requireEvent (Nat.le_of_ble_eq_true rfl) rfl hl.1 rfl (Nat.le_of_ble_eq_true rfl) dX4_split_2 ⟨by decide, by decide⟩) hS rfl (by decide) (by decide)
  have h := bx_r h
  refine g_xkv (g_xrunV (As := [.int x1]) (rest := []) hC hX hP hS (c4_requireEvent l hst hw3) (by decide) ge_0 rfl u_3_114 yv_X4_requireEvent (Nat.le_of_ble_eq_true rfl) rfl hl.1 rfl (Nat.le_of_ble_eq_true rfl) dX4_split_2 ⟨by decide, by decide⟩) hS (fun H locs hP hS => ?_)
  refine lv_aload_n hx hb dX4_split_5 rfl (lv_at hl 0 rfl) ?_
  refine g_get hC hP 0 dX4_split_6 (by decide) ge_0 rfl inX4 (by decide) rfl u_1_188 ?_
  refine g_get hC hP 6 dX4_split_9 (by decide) ge_1 rfl inX3 (by decide) rfl u_1_60 ?_
  refine lv_iload_n hx hb dX4_split_12 rfl (lv_at hl 1 rfl) ?_
  obtain ⟨v4, hv, h⟩ := ob h
  refine g_ld hC hP dX4_split_13 (by decide) ge_8 hv ?_
  refine lv_istore_n (lv' := [(3, .int v4), (0, .ref (ad γ 0)), (1, .int x1), (2, .int x2)]) hx hb dX4_split_14 rfl hl (by decide) rfl (fun ls hl => ?_)
  refine lv_iload_n hx hb dX4_split_15 rfl (lv_at hl 3 rfl) ?_
  refine lv_if_eq (tgt := 32) hx hb dX4_split_16 (by decide) (fun c5 => ?_) (fun c5 => ?_)
  · rw [if_pos c5] at h
    refine W.widen (k := 1) (n := 6) (by decide) (by decide) ?_
    exact J32 T Y E h _ _ _ hP hS (lv_sub hl [] rfl)
  · rw [if_neg c5] at h
    refine lv_iload_n hx hb dX4_split_19 rfl (lv_at hl 3 rfl) ?_
    refine lv_iload_n hx hb dX4_split_20 rfl (lv_at hl 0 rfl) ?_
    refine lv_icmp_eq (tgt := 32) hx hb dX4_split_21 (by decide) (fun c6 => ?_) (fun c6 => ?_)
    · rw [if_pos c6] at h
      refine W.widen (k := 1) (n := 6) (by decide) (by decide) ?_
      exact J32 T Y E h _ _ _ hP hS (lv_sub hl [] rfl)
    · rw [if_neg c6] at h
      refine lv_iload_n hx hb dX4_split_24 rfl (lv_at hl 3 rfl) ?_
      refine lv_iload_n hx hb dX4_split_25 rfl (lv_at hl 0 rfl) ?_
      refine lv_iconst (v := -1) hx hb dX4_split_26 (by decide) ?_
      refine lv_ixor hx hb dX4_split_27 ?_
      refine lv_iand hx hb dX4_split_28 ?_
      refine lv_if_eq (tgt := 42) hx hb dX4_split_29 (by decide) (fun c7 => ?_) (fun c7 => ?_)
      · rw [if_pos c7] at h
        refine lv_aload_n hx hb dX4_split_42 rfl (lv_at hl 1 rfl) ?_
        obtain ⟨o8, hw10, h⟩ := bd1_e h
        rcases o8 with k9 | ⟨⟩
        · have h := bx_l h
          cases h
          exact g_xkev hC hX (g_xrunV (As := []) (rest := []) hC hX hP hS (c4_requireRoomForEvent l hst hw10) (by decide) ge_0 rfl u_3_98 yv_X4_requireRoomForEvent (Nat.le_of_ble_eq_true rfl) rfl hl.1 rfl (Nat.le_of_ble_eq_true rfl) dX4_split_43 ⟨by decide, by decide⟩) hS rfl (by decide) (by decide)
        have h := bx_r h
        refine g_xkv (g_xrunV (As := []) (rest := []) hC hX hP hS (c4_requireRoomForEvent l hst hw10) (by decide) ge_0 rfl u_3_98 yv_X4_requireRoomForEvent (Nat.le_of_ble_eq_true rfl) rfl hl.1 rfl (Nat.le_of_ble_eq_true rfl) dX4_split_43 ⟨by decide, by decide⟩) hS (fun H locs hP hS => ?_)
        refine lv_aload_n hx hb dX4_split_46 rfl (lv_at hl 1 rfl) ?_
        refine g_get hC hP 3 dX4_split_47 (by decide) ge_0 rfl inX4 (by decide) rfl u_1_191 ?_
        refine lv_aload_n hx hb dX4_split_50 rfl (lv_at hl 1 rfl) ?_
        refine g_get hC hP 0 dX4_split_51 (by decide) ge_0 rfl inX4 (by decide) rfl u_1_188 ?_
        obtain ⟨Y11, E12, hv, h⟩ := bd2_e h
        refine g_kv (g_runV (As := [.ref (ad γ 1)]) (rest := []) hC hP (c1_keep l hv) (by decide) ge_19 rfl u_1_215 yv_X1_keep (Nat.le_of_ble_eq_true rfl) rfl hl.1 rfl (Nat.le_of_ble_eq_true rfl) dX4_split_54 ⟨by decide, by decide⟩) hS (fun H locs hP hS => ?_)
        refine lv_aload_n hx hb dX4_split_57 rfl (lv_at hl 1 rfl) ?_
        refine g_get hC hP 0 dX4_split_58 (by decide) ge_0 rfl inX4 (by decide) rfl u_1_188 ?_
        refine g_get hC hP 6 dX4_split_61 (by decide) ge_1 rfl inX3 (by decide) rfl u_1_60 ?_
        refine lv_iload_n hx hb dX4_split_64 rfl (lv_at hl 2 rfl) ?_
        refine lv_iload_n hx hb dX4_split_65 rfl (lv_at hl 0 rfl) ?_
        refine lv_iload_n hx hb dX4_split_66 rfl (lv_at hl 3 rfl) ?_
        refine lv_iconst (v := -1) hx hb dX4_split_67 (by decide) ?_
        refine lv_ixor hx hb dX4_split_68 ?_
        refine lv_iand hx hb dX4_split_69 ?_
        obtain ⟨T13, hv, h⟩ := ob h
        refine g_st hC hP hS (fun Z => (Z, P, X, Y11, E12, B, M, O)) dX4_split_70 (by decide) ge_8 gs_8 hv (fun H locs hP hS => ?_)
        refine lv_aload_n hx hb dX4_split_71 rfl (lv_at hl 1 rfl) ?_
        refine g_get hC hP 0 dX4_split_72 (by decide) ge_0 rfl inX4 (by decide) rfl u_1_188 ?_
        refine lv_aload_n hx hb dX4_split_75 rfl (lv_at hl 1 rfl) ?_
        refine g_get hC hP 0 dX4_split_76 (by decide) ge_0 rfl inX4 (by decide) rfl u_1_188 ?_
        refine g_get hC hP 5 dX4_split_79 (by decide) ge_1 rfl inX3 (by decide) rfl u_1_56 ?_
        refine lv_iload_n hx hb dX4_split_82 rfl (lv_at hl 2 rfl) ?_
        obtain ⟨v14, hv, h⟩ := ob h
        refine g_ld hC hP dX4_split_83 (by decide) ge_7 hv ?_
        refine lv_iload_n hx hb dX4_split_84 rfl (lv_at hl 3 rfl) ?_
        refine lv_aload_n hx hb dX4_split_85 rfl (lv_at hl 1 rfl) ?_
        refine g_get hC hP 0 dX4_split_86 (by decide) ge_0 rfl inX4 (by decide) rfl u_1_188 ?_
        refine g_get hC hP 7 dX4_split_89 (by decide) ge_1 rfl inX3 (by decide) rfl u_1_62 ?_
        refine lv_iload_n hx hb dX4_split_92 rfl (lv_at hl 2 rfl) ?_
        obtain ⟨v15, hv, h⟩ := ob h
        refine g_ld hC hP dX4_split_93 (by decide) ge_9 hv ?_
        refine lv_aload_n hx hb dX4_split_94 rfl (lv_at hl 1 rfl) ?_
        refine g_get hC hP 0 dX4_split_95 (by decide) ge_0 rfl inX4 (by decide) rfl u_1_188 ?_
        refine g_get hC hP 8 dX4_split_98 (by decide) ge_1 rfl inX3 (by decide) rfl u_1_64 ?_
        refine lv_iload_n hx hb dX4_split_101 rfl (lv_at hl 2 rfl) ?_
        obtain ⟨v16, hv, h⟩ := ob h
        refine g_ld hC hP dX4_split_102 (by decide) ge_10 hv ?_
        obtain ⟨v17, T18, hv, h⟩ := bd2_e h
        refine g_ki (g_runV (As := [.int v14, .int x2, .int v15, .int v16]) (rest := []) hC hP (c3_newEvent l hv) (by decide) ge_1 rfl u_3_103 yv_X3_newEvent (Nat.le_of_ble_eq_true rfl) rfl hl.1 rfl (Nat.le_of_ble_eq_true rfl) dX4_split_103 ⟨by decide, by decide⟩) hS (fun H locs hP hS => ?_)
        cases h
        refine W.widen (k := 3) (n := 18) (by decide) (by decide) ?_
        exact g_xiret hC hP hS dX4_split_106 rfl
      · rw [if_neg c7] at h
        refine W.widen (k := 1) (n := 6) (by decide) (by decide) ?_
        exact J32 T Y E h _ _ _ hP hS (lv_sub hl [] rfl)
def r4_event (T : OS) (x1 : Int32) (x2 : Int32) : Option ((Nat ⊕ Int32)) :=
  bd1 (r4_requireEvent T x1) (fun o1 => bx o1 (fun k2 => some (.inl k2)) (fun _ =>
  (if x2 = 0 then (rd 14 (T 5) x1).bind fun v11 =>
  some (.inr v11)
  else (if x2 = 1 then (rd 14 (T 6) x1).bind fun v12 =>
  some (.inr v12)
  else (if x2 = 2 then (rd 14 (T 7) x1).bind fun v13 =>
  some (.inr v13)
  else (if x2 = 3 then (rd 14 (T 8) x1).bind fun v14 =>
  some (.inr v14)
  else (if x2 = 4 then bd1 (r3_sizeOf T x1) (fun v15 =>
  some (.inr v15))
  else (if x2 = 5 then (rd 14 (T 9) x1).bind fun v16 =>
  some (.inr v16)
  else (if x2 = 6 then (rd 14 (T 12) x1).bind fun v17 =>
  (if v17 = 0 then some (.inr 0)
  else some (.inr 1))
  else some (.inl 1))))))))))
theorem yv_X4_event : gYV yX4_event cX4_event 3 (some .int) 2 := ⟨u_3_139, u_3_140, u_1_1, u_3_141, ⟨by decide +kernel, by decide +kernel, by decide +kernel⟩, by decide⟩
set_option maxHeartbeats 4000000 in
set_option maxRecDepth 100000 in
theorem c4_event (l : Launch) (hst : l.stackTraces = false) {γ : GA} {sz : Nat} {T P X Y B M : OS} {E : Nat → OS} {O : Nat → Int64} {x1 : Int32} {x2 : Int32} {o0 : Nat ⊕ Int32} (h : r4_event T x1 x2 = some o0) : vx_Met l yX4_event (gU yX4_event cX4_event 3 (some .int)) (gR 7 2 12) (gPx γ [.ref (ad γ 0), .int x1, .int x2] sz (T, P, X, Y, E, B, M, O)) (gQxi γ o0 sz (T, P, X, Y, E, B, M, O)) (gXC γ o0 sz (T, P, X, Y, E, B, M, O)) 2 12 (gA γ sz) := by
  refine g_metx hst (fun sz => gQxi γ o0 sz (T, P, X, Y, E, B, M, O)) (fun sz => gXC γ o0 sz (T, P, X, Y, E, B, M, O)) (by decide) (Nat.le_of_ble_eq_true rfl) ?_
  intro p e s m args below meth c ls hC hX hP hS hl
  have hx := hC.x
  have hb := hC.b
  have hl : lv_has ls 3 [(0, .ref (ad γ 0)), (1, .int x1), (2, .int x2)] := hl
  unfold r4_event at h
  refine lv_aload_n hx hb dX4_event_0 rfl (lv_at hl 0 rfl) ?_
  refine lv_iload_n hx hb dX4_event_1 rfl (lv_at hl 1 rfl) ?_
  obtain ⟨o1, hw3, h⟩ := bd1_e h
  rcases o1 with k2 | ⟨⟩
  · have h := bx_l h
    cases h
    exact g_xkev hC hX (g_xrunV (As := [.int x1]) (rest := []) hC hX hP hS (c4_requireEvent l hst hw3) (by decide) ge_0 rfl u_3_114 yv_X4_requireEvent (Nat.le_of_ble_eq_true rfl) rfl hl.1 rfl (Nat.le_of_ble_eq_true rfl) dX4_event_2 ⟨by decide, by decide⟩) hS rfl (by decide) (by decide)
  have h := bx_r h
  refine g_xkv (g_xrunV (As := [.int x1]) (rest := []) hC hX hP hS (c4_requireEvent l hst hw3) (by decide) ge_0 rfl u_3_114 yv_X4_requireEvent (Nat.le_of_ble_eq_true rfl) rfl hl.1 rfl (Nat.le_of_ble_eq_true rfl) dX4_event_2 ⟨by decide, by decide⟩) hS (fun H locs hP hS => ?_)
  refine lv_iload_n hx hb dX4_event_5 rfl (lv_at hl 2 rfl) ?_
  by_cases c4 : x2 = 0
  · rw [if_pos c4] at h
    refine lv_tableIn (off := 42) (tgt := 48) hx hb dX4_event_6 (by rw [c4]; decide) (by rw [c4]; decide) (by rw [c4]; rfl) (by decide) ?_
    refine lv_aload_n hx hb dX4_event_48 rfl (lv_at hl 0 rfl) ?_
    refine g_get hC hP 0 dX4_event_49 (by decide) ge_0 rfl inX4 (by decide) rfl u_1_188 ?_
    refine g_get hC hP 5 dX4_event_52 (by decide) ge_1 rfl inX3 (by decide) rfl u_1_56 ?_
    refine lv_iload_n hx hb dX4_event_55 rfl (lv_at hl 1 rfl) ?_
    obtain ⟨v11, hv, h⟩ := ob h
    refine g_ld hC hP dX4_event_56 (by decide) ge_7 hv ?_
    cases h
    refine W.widen (k := 2) (n := 12) (by decide) (by decide) ?_
    exact g_xiret hC hP hS dX4_event_57 rfl
  rw [if_neg c4] at h
  by_cases c5 : x2 = 1
  · rw [if_pos c5] at h
    refine lv_tableIn (off := 52) (tgt := 58) hx hb dX4_event_6 (by rw [c5]; decide) (by rw [c5]; decide) (by rw [c5]; rfl) (by decide) ?_
    refine lv_aload_n hx hb dX4_event_58 rfl (lv_at hl 0 rfl) ?_
    refine g_get hC hP 0 dX4_event_59 (by decide) ge_0 rfl inX4 (by decide) rfl u_1_188 ?_
    refine g_get hC hP 6 dX4_event_62 (by decide) ge_1 rfl inX3 (by decide) rfl u_1_60 ?_
    refine lv_iload_n hx hb dX4_event_65 rfl (lv_at hl 1 rfl) ?_
    obtain ⟨v12, hv, h⟩ := ob h
    refine g_ld hC hP dX4_event_66 (by decide) ge_8 hv ?_
    cases h
    refine W.widen (k := 2) (n := 12) (by decide) (by decide) ?_
    exact g_xiret hC hP hS dX4_event_67 rfl
  rw [if_neg c5] at h
  by_cases c6 : x2 = 2
  · rw [if_pos c6] at h
    refine lv_tableIn (off := 62) (tgt := 68) hx hb dX4_event_6 (by rw [c6]; decide) (by rw [c6]; decide) (by rw [c6]; rfl) (by decide) ?_
    refine lv_aload_n hx hb dX4_event_68 rfl (lv_at hl 0 rfl) ?_
    refine g_get hC hP 0 dX4_event_69 (by decide) ge_0 rfl inX4 (by decide) rfl u_1_188 ?_
    refine g_get hC hP 7 dX4_event_72 (by decide) ge_1 rfl inX3 (by decide) rfl u_1_62 ?_
    refine lv_iload_n hx hb dX4_event_75 rfl (lv_at hl 1 rfl) ?_
    obtain ⟨v13, hv, h⟩ := ob h
    refine g_ld hC hP dX4_event_76 (by decide) ge_9 hv ?_
    cases h
    refine W.widen (k := 2) (n := 12) (by decide) (by decide) ?_
    exact g_xiret hC hP hS dX4_event_77 rfl
  rw [if_neg c6] at h
  by_cases c7 : x2 = 3
  · rw [if_pos c7] at h
    refine lv_tableIn (off := 72) (tgt := 78) hx hb dX4_event_6 (by rw [c7]; decide) (by rw [c7]; decide) (by rw [c7]; rfl) (by decide) ?_
    refine lv_aload_n hx hb dX4_event_78 rfl (lv_at hl 0 rfl) ?_
    refine g_get hC hP 0 dX4_event_79 (by decide) ge_0 rfl inX4 (by decide) rfl u_1_188 ?_
    refine g_get hC hP 8 dX4_event_82 (by decide) ge_1 rfl inX3 (by decide) rfl u_1_64 ?_
    refine lv_iload_n hx hb dX4_event_85 rfl (lv_at hl 1 rfl) ?_
    obtain ⟨v14, hv, h⟩ := ob h
    refine g_ld hC hP dX4_event_86 (by decide) ge_10 hv ?_
    cases h
    refine W.widen (k := 2) (n := 12) (by decide) (by decide) ?_
    exact g_xiret hC hP hS dX4_event_87 rfl
  rw [if_neg c7] at h
  by_cases c8 : x2 = 4
  · rw [if_pos c8] at h
    refine lv_tableIn (off := 82) (tgt := 88) hx hb dX4_event_6 (by rw [c8]; decide) (by rw [c8]; decide) (by rw [c8]; rfl) (by decide) ?_
    refine lv_aload_n hx hb dX4_event_88 rfl (lv_at hl 0 rfl) ?_
    refine g_get hC hP 0 dX4_event_89 (by decide) ge_0 rfl inX4 (by decide) rfl u_1_188 ?_
    refine lv_iload_n hx hb dX4_event_92 rfl (lv_at hl 1 rfl) ?_
    obtain ⟨v15, hv, h⟩ := bd1_e h
    refine g_ki (g_runV (As := [.int x1]) (rest := []) hC hP (c3_sizeOf l hv) (by decide) ge_1 rfl u_3_142 yv_X3_sizeOf (Nat.le_of_ble_eq_true rfl) rfl hl.1 rfl (Nat.le_of_ble_eq_true rfl) dX4_event_93 ⟨by decide, by decide⟩) hS (fun H locs hP hS => ?_)
    cases h
    refine W.widen (k := 2) (n := 12) (by decide) (by decide) ?_
    exact g_xiret hC hP hS dX4_event_96 rfl
  rw [if_neg c8] at h
  by_cases c9 : x2 = 5
  · rw [if_pos c9] at h
    refine lv_tableIn (off := 91) (tgt := 97) hx hb dX4_event_6 (by rw [c9]; decide) (by rw [c9]; decide) (by rw [c9]; rfl) (by decide) ?_
    refine lv_aload_n hx hb dX4_event_97 rfl (lv_at hl 0 rfl) ?_
    refine g_get hC hP 0 dX4_event_98 (by decide) ge_0 rfl inX4 (by decide) rfl u_1_188 ?_
    refine g_get hC hP 9 dX4_event_101 (by decide) ge_1 rfl inX3 (by decide) rfl u_1_68 ?_
    refine lv_iload_n hx hb dX4_event_104 rfl (lv_at hl 1 rfl) ?_
    obtain ⟨v16, hv, h⟩ := ob h
    refine g_ld hC hP dX4_event_105 (by decide) ge_11 hv ?_
    cases h
    refine W.widen (k := 2) (n := 12) (by decide) (by decide) ?_
    exact g_xiret hC hP hS dX4_event_106 rfl
  rw [if_neg c9] at h
  by_cases c10 : x2 = 6
  · rw [if_pos c10] at h
    refine lv_tableIn (off := 101) (tgt := 107) hx hb dX4_event_6 (by rw [c10]; decide) (by rw [c10]; decide) (by rw [c10]; rfl) (by decide) ?_
    refine lv_aload_n hx hb dX4_event_107 rfl (lv_at hl 0 rfl) ?_
    refine g_get hC hP 0 dX4_event_108 (by decide) ge_0 rfl inX4 (by decide) rfl u_1_188 ?_
    refine g_get hC hP 12 dX4_event_111 (by decide) ge_1 rfl inX3 (by decide) rfl u_1_75 ?_
    refine lv_iload_n hx hb dX4_event_114 rfl (lv_at hl 1 rfl) ?_
    obtain ⟨v17, hv, h⟩ := ob h
    refine g_zld hC hP dX4_event_115 (by decide) ge_14 hv ?_
    refine lv_if_eq (tgt := 123) hx hb dX4_event_116 (by decide) (fun c18 => ?_) (fun c18 => ?_)
    · rw [if_pos c18] at h
      refine lv_iconst (v := 0) hx hb dX4_event_123 (by decide) ?_
      cases h
      refine W.widen (k := 2) (n := 12) (by decide) (by decide) ?_
      exact g_xiret hC hP hS dX4_event_124 rfl
    · rw [if_neg c18] at h
      refine lv_iconst (v := 1) hx hb dX4_event_119 (by decide) ?_
      refine lv_goto (tgt := 124) hx hb dX4_event_120 (by decide) ?_
      cases h
      refine W.widen (k := 2) (n := 12) (by decide) (by decide) ?_
      exact g_xiret hC hP hS dX4_event_124 rfl
  rw [if_neg c10] at h
  refine lv_tableOut (tgt := 125) hx hb dX4_event_6 (tsw_0_6 c4 c5 c6 c7 c8 c9 c10) (by decide) ?_
  cases h
  exact g_thr hC hX hP hS gx_1 (List.mem_of_getElem? (i := 1) rfl) hl.1 dX4_event_125 dX4_event_128 dX4_event_129 dX4_event_131 dX4_event_134 (Nat.le_of_ble_eq_true rfl) (Nat.le_of_ble_eq_true rfl) (by decide) (by decide) (by decide) (by decide) rfl
def r4_requireFree (T : OS) (x1 : Int32) (x2 : Int32) : Option ((Nat ⊕ Unit)) :=
  bd1 (r3_obstacleAt T x1 x2) (fun v1 =>
  (if v1 = 0 then some (.inr ())
  else some (.inl 2)))
theorem yv_X4_requireFree : gYV yX4_requireFree cX4_requireFree 3 none 2 := ⟨u_4_115, u_sp_18, u_1_1, u_4_116, ⟨by decide +kernel, by decide +kernel, by decide +kernel⟩, by decide⟩
set_option maxHeartbeats 4000000 in
set_option maxRecDepth 100000 in
theorem c4_requireFree (l : Launch) (hst : l.stackTraces = false) {γ : GA} {sz : Nat} {T P X Y B M : OS} {E : Nat → OS} {O : Nat → Int64} {x1 : Int32} {x2 : Int32} {o0 : Nat ⊕ Unit} (h : r4_requireFree T x1 x2 = some o0) : vx_Met l yX4_requireFree (gU yX4_requireFree cX4_requireFree 3 none) (gR 6 1 6) (gPx γ [.ref (ad γ 0), .int x1, .int x2] sz (T, P, X, Y, E, B, M, O)) (gQxv γ o0 sz (T, P, X, Y, E, B, M, O)) (gXC γ o0 sz (T, P, X, Y, E, B, M, O)) 1 6 (gA γ sz) := by
  refine g_metx hst (fun sz => gQxv γ o0 sz (T, P, X, Y, E, B, M, O)) (fun sz => gXC γ o0 sz (T, P, X, Y, E, B, M, O)) (by decide) (Nat.le_of_ble_eq_true rfl) ?_
  intro p e s m args below meth c ls hC hX hP hS hl
  have hx := hC.x
  have hb := hC.b
  have hl : lv_has ls 3 [(0, .ref (ad γ 0)), (1, .int x1), (2, .int x2)] := hl
  unfold r4_requireFree at h
  refine lv_aload_n hx hb dX4_requireFree_0 rfl (lv_at hl 0 rfl) ?_
  refine g_get hC hP 0 dX4_requireFree_1 (by decide) ge_0 rfl inX4 (by decide) rfl u_1_188 ?_
  refine lv_iload_n hx hb dX4_requireFree_4 rfl (lv_at hl 1 rfl) ?_
  refine lv_iload_n hx hb dX4_requireFree_5 rfl (lv_at hl 2 rfl) ?_
  obtain ⟨v1, hv, h⟩ := bd1_e h
  refine g_ki (g_runV (As := [.int x1, .int x2]) (rest := []) hC hP (c3_obstacleAt l hv) (by decide) ge_1 rfl u_4_117 yv_X3_obstacleAt (Nat.le_of_ble_eq_true rfl) rfl hl.1 rfl (Nat.le_of_ble_eq_true rfl) dX4_requireFree_6 ⟨by decide, by decide⟩) hS (fun H locs hP hS => ?_)
  refine lv_if_eq (tgt := 23) hx hb dX4_requireFree_9 (by decide) (fun c2 => ?_) (fun c2 => ?_)
  · rw [if_pos c2] at h
    cases h
    refine W.widen (k := 1) (n := 6) (by decide) (by decide) ?_
    exact g_xvret hC hP hS dX4_requireFree_23 rfl
  · rw [if_neg c2] at h
    cases h
    exact g_thrW hC hX hP hS gx_2 (List.mem_of_getElem? (i := 9) rfl) hl.1 dX4_requireFree_12 dX4_requireFree_15 dX4_requireFree_16 dX4_requireFree_19 dX4_requireFree_22 (Nat.le_of_ble_eq_true rfl) (Nat.le_of_ble_eq_true rfl) (by decide) (by decide) (by decide) (by decide) rfl
def r4_place (T : OS) (Y : OS) (E : Nat → OS) (x1 : Int32) (x2 : Int32) : Option ((Nat ⊕ Int32) × OS × OS × (Nat → OS)) :=
  bd1 (r4_requireEvent T x1) (fun o1 => bx o1 (fun k2 => some ((.inl k2), T, Y, E)) (fun _ =>
  bd1 (r4_requireIndex x2 60) (fun o4 => bx o4 (fun k5 => some ((.inl k5), T, Y, E)) (fun _ =>
  (rd 14 (T 12) x1).bind fun v7 =>
  (if v7 = 0 then bd1 (r4_requireFree T x1 x2) (fun o9 => bx o9 (fun k10 => some ((.inl k10), T, Y, E)) (fun _ =>
  bd2 (r1_keep T Y E) (fun Y12 E13 =>
  (rd 14 (T 9) x1).bind fun v14 =>
  bd1 (r3_moveTo T x1 x2) (fun T15 =>
  some ((.inr v14), T15, Y12, E13)))))
  else some ((.inl 3), T, Y, E))))))
theorem yv_X4_place : gYV yX4_place cX4_place 4 (some .int) 2 := ⟨u_4_94, u_4_95, u_1_1, u_4_96, ⟨by decide +kernel, by decide +kernel, by decide +kernel⟩, by decide⟩
set_option maxHeartbeats 4000000 in
set_option maxRecDepth 100000 in
theorem c4_place (l : Launch) (hst : l.stackTraces = false) {γ : GA} {sz : Nat} {T P X Y B M : OS} {E : Nat → OS} {O : Nat → Int64} {x1 : Int32} {x2 : Int32} {o0 : Nat ⊕ Int32} {Tz : OS} {Yz : OS} {Ez : Nat → OS} (h : r4_place T Y E x1 x2 = some (o0, Tz, Yz, Ez)) : vx_Met l yX4_place (gU yX4_place cX4_place 4 (some .int)) (gR 7 4 24) (gPx γ [.ref (ad γ 0), .int x1, .int x2] sz (T, P, X, Y, E, B, M, O)) (gQxi γ o0 sz (Tz, P, X, Yz, Ez, B, M, O)) (gXC γ o0 sz (Tz, P, X, Yz, Ez, B, M, O)) 4 24 (gA γ sz) := by
  refine g_metx hst (fun sz => gQxi γ o0 sz (Tz, P, X, Yz, Ez, B, M, O)) (fun sz => gXC γ o0 sz (Tz, P, X, Yz, Ez, B, M, O)) (by decide) (Nat.le_of_ble_eq_true rfl) ?_
  intro p e s m args below meth c ls hC hX hP hS hl
  have hx := hC.x
  have hb := hC.b
  have hl : lv_has ls 4 [(0, .ref (ad γ 0)), (1, .int x1), (2, .int x2)] := hl
  unfold r4_place at h
  refine lv_aload_n hx hb dX4_place_0 rfl (lv_at hl 0 rfl) ?_
  refine lv_iload_n hx hb dX4_place_1 rfl (lv_at hl 1 rfl) ?_
  obtain ⟨o1, hw3, h⟩ := bd1_e h
  rcases o1 with k2 | ⟨⟩
  · have h := bx_l h
    cases h
    exact g_xkev hC hX (g_xrunV (As := [.int x1]) (rest := []) hC hX hP hS (c4_requireEvent l hst hw3) (by decide) ge_0 rfl u_3_114 yv_X4_requireEvent (Nat.le_of_ble_eq_true rfl) rfl hl.1 rfl (Nat.le_of_ble_eq_true rfl) dX4_place_2 ⟨by decide, by decide⟩) hS rfl (by decide) (by decide)
  have h := bx_r h
  refine g_xkv (g_xrunV (As := [.int x1]) (rest := []) hC hX hP hS (c4_requireEvent l hst hw3) (by decide) ge_0 rfl u_3_114 yv_X4_requireEvent (Nat.le_of_ble_eq_true rfl) rfl hl.1 rfl (Nat.le_of_ble_eq_true rfl) dX4_place_2 ⟨by decide, by decide⟩) hS (fun H locs hP hS => ?_)
  refine lv_iload_n hx hb dX4_place_5 rfl (lv_at hl 2 rfl) ?_
  refine lv_bipush (v := 60) hx hb dX4_place_6 (by decide) ?_
  obtain ⟨o4, hw6, h⟩ := bd1_e h
  rcases o4 with k5 | ⟨⟩
  · have h := bx_l h
    cases h
    exact g_xkev hC hX (g_xrunS (As := [.int x2, .int 60]) (rest := []) hC hX hP hS (c4_requireIndex l hst hw6) u_2_133 yv_X4_requireIndex (Nat.le_of_ble_eq_true rfl) rfl hl.1 rfl (Nat.le_of_ble_eq_true rfl) dX4_place_8 ⟨by decide, by decide⟩) hS rfl (by decide) (by decide)
  have h := bx_r h
  refine g_xkv (g_xrunS (As := [.int x2, .int 60]) (rest := []) hC hX hP hS (c4_requireIndex l hst hw6) u_2_133 yv_X4_requireIndex (Nat.le_of_ble_eq_true rfl) rfl hl.1 rfl (Nat.le_of_ble_eq_true rfl) dX4_place_8 ⟨by decide, by decide⟩) hS (fun H locs hP hS => ?_)
  refine lv_aload_n hx hb dX4_place_11 rfl (lv_at hl 0 rfl) ?_
  refine g_get hC hP 0 dX4_place_12 (by decide) ge_0 rfl inX4 (by decide) rfl u_1_188 ?_
  refine g_get hC hP 12 dX4_place_15 (by decide) ge_1 rfl inX3 (by decide) rfl u_1_75 ?_
  refine lv_iload_n hx hb dX4_place_18 rfl (lv_at hl 1 rfl) ?_
  obtain ⟨v7, hv, h⟩ := ob h
  refine g_zld hC hP dX4_place_19 (by decide) ge_14 hv ?_
  refine lv_if_eq (tgt := 33) hx hb dX4_place_20 (by decide) (fun c8 => ?_) (fun c8 => ?_)
  · rw [if_pos c8] at h
    refine lv_aload_n hx hb dX4_place_33 rfl (lv_at hl 0 rfl) ?_
    refine lv_iload_n hx hb dX4_place_34 rfl (lv_at hl 1 rfl) ?_
    refine lv_iload_n hx hb dX4_place_35 rfl (lv_at hl 2 rfl) ?_
    obtain ⟨o9, hw11, h⟩ := bd1_e h
    rcases o9 with k10 | ⟨⟩
    · have h := bx_l h
      cases h
      exact g_xkev hC hX (g_xrunV (As := [.int x1, .int x2]) (rest := []) hC hX hP hS (c4_requireFree l hst hw11) (by decide) ge_0 rfl u_4_113 yv_X4_requireFree (Nat.le_of_ble_eq_true rfl) rfl hl.1 rfl (Nat.le_of_ble_eq_true rfl) dX4_place_36 ⟨by decide, by decide⟩) hS rfl (by decide) (by decide)
    have h := bx_r h
    refine g_xkv (g_xrunV (As := [.int x1, .int x2]) (rest := []) hC hX hP hS (c4_requireFree l hst hw11) (by decide) ge_0 rfl u_4_113 yv_X4_requireFree (Nat.le_of_ble_eq_true rfl) rfl hl.1 rfl (Nat.le_of_ble_eq_true rfl) dX4_place_36 ⟨by decide, by decide⟩) hS (fun H locs hP hS => ?_)
    refine lv_aload_n hx hb dX4_place_39 rfl (lv_at hl 0 rfl) ?_
    refine g_get hC hP 3 dX4_place_40 (by decide) ge_0 rfl inX4 (by decide) rfl u_1_191 ?_
    refine lv_aload_n hx hb dX4_place_43 rfl (lv_at hl 0 rfl) ?_
    refine g_get hC hP 0 dX4_place_44 (by decide) ge_0 rfl inX4 (by decide) rfl u_1_188 ?_
    obtain ⟨Y12, E13, hv, h⟩ := bd2_e h
    refine g_kv (g_runV (As := [.ref (ad γ 1)]) (rest := []) hC hP (c1_keep l hv) (by decide) ge_19 rfl u_1_215 yv_X1_keep (Nat.le_of_ble_eq_true rfl) rfl hl.1 rfl (Nat.le_of_ble_eq_true rfl) dX4_place_47 ⟨by decide, by decide⟩) hS (fun H locs hP hS => ?_)
    refine lv_aload_n hx hb dX4_place_50 rfl (lv_at hl 0 rfl) ?_
    refine g_get hC hP 0 dX4_place_51 (by decide) ge_0 rfl inX4 (by decide) rfl u_1_188 ?_
    refine g_get hC hP 9 dX4_place_54 (by decide) ge_1 rfl inX3 (by decide) rfl u_1_68 ?_
    refine lv_iload_n hx hb dX4_place_57 rfl (lv_at hl 1 rfl) ?_
    obtain ⟨v14, hv, h⟩ := ob h
    refine g_ld hC hP dX4_place_58 (by decide) ge_11 hv ?_
    refine lv_istore_n (lv' := [(3, .int v14), (0, .ref (ad γ 0)), (1, .int x1), (2, .int x2)]) hx hb dX4_place_59 rfl hl (by decide) rfl (fun ls hl => ?_)
    refine lv_aload_n hx hb dX4_place_60 rfl (lv_at hl 1 rfl) ?_
    refine g_get hC hP 0 dX4_place_61 (by decide) ge_0 rfl inX4 (by decide) rfl u_1_188 ?_
    refine lv_iload_n hx hb dX4_place_64 rfl (lv_at hl 2 rfl) ?_
    refine lv_iload_n hx hb dX4_place_65 rfl (lv_at hl 3 rfl) ?_
    obtain ⟨T15, hv, h⟩ := bd1_e h
    refine g_kv (g_runV (As := [.int x1, .int x2]) (rest := []) hC hP (c3_moveTo l hv) (by decide) ge_1 rfl u_4_119 yv_X3_moveTo (Nat.le_of_ble_eq_true rfl) rfl hl.1 rfl (Nat.le_of_ble_eq_true rfl) dX4_place_66 ⟨by decide, by decide⟩) hS (fun H locs hP hS => ?_)
    refine lv_iload_n hx hb dX4_place_69 rfl (lv_at hl 0 rfl) ?_
    cases h
    refine W.widen (k := 4) (n := 24) (by decide) (by decide) ?_
    exact g_xiret hC hP hS dX4_place_70 rfl
  · rw [if_neg c8] at h
    cases h
    exact g_thr hC hX hP hS gx_3 (List.mem_of_getElem? (i := 8) rfl) hl.1 dX4_place_23 dX4_place_26 dX4_place_27 dX4_place_29 dX4_place_32 (Nat.le_of_ble_eq_true rfl) (Nat.le_of_ble_eq_true rfl) (by decide) (by decide) (by decide) (by decide) rfl
def r4_requirePlaced (T : OS) (x1 : Int32) : Option ((Nat ⊕ Unit)) :=
  (rd 14 (T 9) x1).bind fun v1 =>
  (if v1 = (-1) then some (.inl 2)
  else some (.inr ()))
theorem yv_X4_requirePlaced : gYV yX4_requirePlaced cX4_requirePlaced 2 none 1 := ⟨u_4_129, u_sp_19, u_1_1, u_4_130, ⟨by decide +kernel, by decide +kernel, by decide +kernel⟩, by decide⟩
set_option maxHeartbeats 4000000 in
set_option maxRecDepth 100000 in
theorem c4_requirePlaced (l : Launch) (hst : l.stackTraces = false) {γ : GA} {sz : Nat} {T P X Y B M : OS} {E : Nat → OS} {O : Nat → Int64} {x1 : Int32} {o0 : Nat ⊕ Unit} (h : r4_requirePlaced T x1 = some o0) : vx_Met l yX4_requirePlaced (gU yX4_requirePlaced cX4_requirePlaced 2 none) (gR 6 1 6) (gPx γ [.ref (ad γ 0), .int x1] sz (T, P, X, Y, E, B, M, O)) (gQxv γ o0 sz (T, P, X, Y, E, B, M, O)) (gXC γ o0 sz (T, P, X, Y, E, B, M, O)) 1 6 (gA γ sz) := by
  refine g_metx hst (fun sz => gQxv γ o0 sz (T, P, X, Y, E, B, M, O)) (fun sz => gXC γ o0 sz (T, P, X, Y, E, B, M, O)) (by decide) (Nat.le_of_ble_eq_true rfl) ?_
  intro p e s m args below meth c ls hC hX hP hS hl
  have hx := hC.x
  have hb := hC.b
  have hl : lv_has ls 2 [(0, .ref (ad γ 0)), (1, .int x1)] := hl
  unfold r4_requirePlaced at h
  refine lv_aload_n hx hb dX4_requirePlaced_0 rfl (lv_at hl 0 rfl) ?_
  refine g_get hC hP 0 dX4_requirePlaced_1 (by decide) ge_0 rfl inX4 (by decide) rfl u_1_188 ?_
  refine g_get hC hP 9 dX4_requirePlaced_4 (by decide) ge_1 rfl inX3 (by decide) rfl u_1_68 ?_
  refine lv_iload_n hx hb dX4_requirePlaced_7 rfl (lv_at hl 1 rfl) ?_
  obtain ⟨v1, hv, h⟩ := ob h
  refine g_ld hC hP dX4_requirePlaced_8 (by decide) ge_11 hv ?_
  refine lv_iconst (v := -1) hx hb dX4_requirePlaced_9 (by decide) ?_
  refine lv_icmp_ne (tgt := 24) hx hb dX4_requirePlaced_10 (by decide) (fun c2 => ?_) (fun c2 => ?_)
  · rw [if_neg c2] at h
    cases h
    refine W.widen (k := 1) (n := 6) (by decide) (by decide) ?_
    exact g_xvret hC hP hS dX4_requirePlaced_24 rfl
  · rw [if_pos c2] at h
    cases h
    exact g_thrW hC hX hP hS gx_2 (List.mem_of_getElem? (i := 10) rfl) hl.1 dX4_requirePlaced_13 dX4_requirePlaced_16 dX4_requirePlaced_17 dX4_requirePlaced_20 dX4_requirePlaced_23 (Nat.le_of_ble_eq_true rfl) (Nat.le_of_ble_eq_true rfl) (by decide) (by decide) (by decide) (by decide) rfl
def r4_unplace (T : OS) (Y : OS) (E : Nat → OS) (x1 : Int32) : Option ((Nat ⊕ Int32) × OS × OS × (Nat → OS)) :=
  bd1 (r4_requireEvent T x1) (fun o1 => bx o1 (fun k2 => some ((.inl k2), T, Y, E)) (fun _ =>
  bd1 (r4_requirePlaced T x1) (fun o4 => bx o4 (fun k5 => some ((.inl k5), T, Y, E)) (fun _ =>
  bd2 (r1_keep T Y E) (fun Y7 E8 =>
  (rd 14 (T 9) x1).bind fun v9 =>
  bd1 (r3_release T x1) (fun T10 =>
  some ((.inr v9), T10, Y7, E8)))))))
theorem yv_X4_unplace : gYV yX4_unplace cX4_unplace 3 (some .int) 1 := ⟨u_4_124, u_4_125, u_1_1, u_4_126, ⟨by decide +kernel, by decide +kernel, by decide +kernel⟩, by decide⟩
set_option maxHeartbeats 4000000 in
set_option maxRecDepth 100000 in
theorem c4_unplace (l : Launch) (hst : l.stackTraces = false) {γ : GA} {sz : Nat} {T P X Y B M : OS} {E : Nat → OS} {O : Nat → Int64} {x1 : Int32} {o0 : Nat ⊕ Int32} {Tz : OS} {Yz : OS} {Ez : Nat → OS} (h : r4_unplace T Y E x1 = some (o0, Tz, Yz, Ez)) : vx_Met l yX4_unplace (gU yX4_unplace cX4_unplace 3 (some .int)) (gR 7 2 12) (gPx γ [.ref (ad γ 0), .int x1] sz (T, P, X, Y, E, B, M, O)) (gQxi γ o0 sz (Tz, P, X, Yz, Ez, B, M, O)) (gXC γ o0 sz (Tz, P, X, Yz, Ez, B, M, O)) 2 12 (gA γ sz) := by
  refine g_metx hst (fun sz => gQxi γ o0 sz (Tz, P, X, Yz, Ez, B, M, O)) (fun sz => gXC γ o0 sz (Tz, P, X, Yz, Ez, B, M, O)) (by decide) (Nat.le_of_ble_eq_true rfl) ?_
  intro p e s m args below meth c ls hC hX hP hS hl
  have hx := hC.x
  have hb := hC.b
  have hl : lv_has ls 3 [(0, .ref (ad γ 0)), (1, .int x1)] := hl
  unfold r4_unplace at h
  refine lv_aload_n hx hb dX4_unplace_0 rfl (lv_at hl 0 rfl) ?_
  refine lv_iload_n hx hb dX4_unplace_1 rfl (lv_at hl 1 rfl) ?_
  obtain ⟨o1, hw3, h⟩ := bd1_e h
  rcases o1 with k2 | ⟨⟩
  · have h := bx_l h
    cases h
    exact g_xkev hC hX (g_xrunV (As := [.int x1]) (rest := []) hC hX hP hS (c4_requireEvent l hst hw3) (by decide) ge_0 rfl u_3_114 yv_X4_requireEvent (Nat.le_of_ble_eq_true rfl) rfl hl.1 rfl (Nat.le_of_ble_eq_true rfl) dX4_unplace_2 ⟨by decide, by decide⟩) hS rfl (by decide) (by decide)
  have h := bx_r h
  refine g_xkv (g_xrunV (As := [.int x1]) (rest := []) hC hX hP hS (c4_requireEvent l hst hw3) (by decide) ge_0 rfl u_3_114 yv_X4_requireEvent (Nat.le_of_ble_eq_true rfl) rfl hl.1 rfl (Nat.le_of_ble_eq_true rfl) dX4_unplace_2 ⟨by decide, by decide⟩) hS (fun H locs hP hS => ?_)
  refine lv_aload_n hx hb dX4_unplace_5 rfl (lv_at hl 0 rfl) ?_
  refine lv_iload_n hx hb dX4_unplace_6 rfl (lv_at hl 1 rfl) ?_
  obtain ⟨o4, hw6, h⟩ := bd1_e h
  rcases o4 with k5 | ⟨⟩
  · have h := bx_l h
    cases h
    exact g_xkev hC hX (g_xrunV (As := [.int x1]) (rest := []) hC hX hP hS (c4_requirePlaced l hst hw6) (by decide) ge_0 rfl u_4_127 yv_X4_requirePlaced (Nat.le_of_ble_eq_true rfl) rfl hl.1 rfl (Nat.le_of_ble_eq_true rfl) dX4_unplace_7 ⟨by decide, by decide⟩) hS rfl (by decide) (by decide)
  have h := bx_r h
  refine g_xkv (g_xrunV (As := [.int x1]) (rest := []) hC hX hP hS (c4_requirePlaced l hst hw6) (by decide) ge_0 rfl u_4_127 yv_X4_requirePlaced (Nat.le_of_ble_eq_true rfl) rfl hl.1 rfl (Nat.le_of_ble_eq_true rfl) dX4_unplace_7 ⟨by decide, by decide⟩) hS (fun H locs hP hS => ?_)
  refine lv_aload_n hx hb dX4_unplace_10 rfl (lv_at hl 0 rfl) ?_
  refine g_get hC hP 3 dX4_unplace_11 (by decide) ge_0 rfl inX4 (by decide) rfl u_1_191 ?_
  refine lv_aload_n hx hb dX4_unplace_14 rfl (lv_at hl 0 rfl) ?_
  refine g_get hC hP 0 dX4_unplace_15 (by decide) ge_0 rfl inX4 (by decide) rfl u_1_188 ?_
  obtain ⟨Y7, E8, hv, h⟩ := bd2_e h
  refine g_kv (g_runV (As := [.ref (ad γ 1)]) (rest := []) hC hP (c1_keep l hv) (by decide) ge_19 rfl u_1_215 yv_X1_keep (Nat.le_of_ble_eq_true rfl) rfl hl.1 rfl (Nat.le_of_ble_eq_true rfl) dX4_unplace_18 ⟨by decide, by decide⟩) hS (fun H locs hP hS => ?_)
  refine lv_aload_n hx hb dX4_unplace_21 rfl (lv_at hl 0 rfl) ?_
  refine g_get hC hP 0 dX4_unplace_22 (by decide) ge_0 rfl inX4 (by decide) rfl u_1_188 ?_
  refine g_get hC hP 9 dX4_unplace_25 (by decide) ge_1 rfl inX3 (by decide) rfl u_1_68 ?_
  refine lv_iload_n hx hb dX4_unplace_28 rfl (lv_at hl 1 rfl) ?_
  obtain ⟨v9, hv, h⟩ := ob h
  refine g_ld hC hP dX4_unplace_29 (by decide) ge_11 hv ?_
  refine lv_istore_n (lv' := [(2, .int v9), (0, .ref (ad γ 0)), (1, .int x1)]) hx hb dX4_unplace_30 rfl hl (by decide) rfl (fun ls hl => ?_)
  refine lv_aload_n hx hb dX4_unplace_31 rfl (lv_at hl 1 rfl) ?_
  refine g_get hC hP 0 dX4_unplace_32 (by decide) ge_0 rfl inX4 (by decide) rfl u_1_188 ?_
  refine lv_iload_n hx hb dX4_unplace_35 rfl (lv_at hl 2 rfl) ?_
  obtain ⟨T10, hv, h⟩ := bd1_e h
  refine g_kv (g_runV (As := [.int x1]) (rest := []) hC hP (c3_release l hv) (by decide) ge_1 rfl u_4_132 yv_X3_release (Nat.le_of_ble_eq_true rfl) rfl hl.1 rfl (Nat.le_of_ble_eq_true rfl) dX4_unplace_36 ⟨by decide, by decide⟩) hS (fun H locs hP hS => ?_)
  refine lv_iload_n hx hb dX4_unplace_39 rfl (lv_at hl 0 rfl) ?_
  cases h
  refine W.widen (k := 2) (n := 12) (by decide) (by decide) ?_
  exact g_xiret hC hP hS dX4_unplace_40 rfl
def r4_fix (T : OS) (Y : OS) (E : Nat → OS) (x1 : Int32) (x2 : Int32) : Option ((Nat ⊕ Int32) × OS × OS × (Nat → OS)) :=
  bd1 (r4_requireEvent T x1) (fun o1 => bx o1 (fun k2 => some ((.inl k2), T, Y, E)) (fun _ =>
  bd1 (r4_requirePlaced T x1) (fun o4 => bx o4 (fun k5 => some ((.inl k5), T, Y, E)) (fun _ =>
  bd2 (r1_keep T Y E) (fun Y7 E8 =>
  (rd 14 (T 12) x1).bind fun v9 =>
  (zz x2).bind fun v11 =>
  (wr 14 T 12 x1 v11).bind fun T10 =>
  (zz v9).bind fun v12 =>
  some ((.inr v12), T10, Y7, E8))))))
theorem yv_X4_fix : gYV yX4_fix cX4_fix 4 (some .boolean) 2 := ⟨u_4_137, u_4_138, u_1_1, u_4_139, ⟨by decide +kernel, by decide +kernel, by decide +kernel⟩, by decide⟩
set_option maxHeartbeats 4000000 in
set_option maxRecDepth 100000 in
theorem c4_fix (l : Launch) (hst : l.stackTraces = false) {γ : GA} {sz : Nat} {T P X Y B M : OS} {E : Nat → OS} {O : Nat → Int64} {x1 : Int32} {x2 : Int32} {o0 : Nat ⊕ Int32} {Tz : OS} {Yz : OS} {Ez : Nat → OS} (h : r4_fix T Y E x1 x2 = some (o0, Tz, Yz, Ez)) : vx_Met l yX4_fix (gU yX4_fix cX4_fix 4 (some .boolean)) (gR 7 2 12) (gPx γ [.ref (ad γ 0), .int x1, .int x2] sz (T, P, X, Y, E, B, M, O)) (gQxi γ o0 sz (Tz, P, X, Yz, Ez, B, M, O)) (gXC γ o0 sz (Tz, P, X, Yz, Ez, B, M, O)) 2 12 (gA γ sz) := by
  refine g_metx hst (fun sz => gQxi γ o0 sz (Tz, P, X, Yz, Ez, B, M, O)) (fun sz => gXC γ o0 sz (Tz, P, X, Yz, Ez, B, M, O)) (by decide) (Nat.le_of_ble_eq_true rfl) ?_
  intro p e s m args below meth c ls hC hX hP hS hl
  have hx := hC.x
  have hb := hC.b
  have hl : lv_has ls 4 [(0, .ref (ad γ 0)), (1, .int x1), (2, .int x2)] := hl
  unfold r4_fix at h
  refine lv_aload_n hx hb dX4_fix_0 rfl (lv_at hl 0 rfl) ?_
  refine lv_iload_n hx hb dX4_fix_1 rfl (lv_at hl 1 rfl) ?_
  obtain ⟨o1, hw3, h⟩ := bd1_e h
  rcases o1 with k2 | ⟨⟩
  · have h := bx_l h
    cases h
    exact g_xkev hC hX (g_xrunV (As := [.int x1]) (rest := []) hC hX hP hS (c4_requireEvent l hst hw3) (by decide) ge_0 rfl u_3_114 yv_X4_requireEvent (Nat.le_of_ble_eq_true rfl) rfl hl.1 rfl (Nat.le_of_ble_eq_true rfl) dX4_fix_2 ⟨by decide, by decide⟩) hS rfl (by decide) (by decide)
  have h := bx_r h
  refine g_xkv (g_xrunV (As := [.int x1]) (rest := []) hC hX hP hS (c4_requireEvent l hst hw3) (by decide) ge_0 rfl u_3_114 yv_X4_requireEvent (Nat.le_of_ble_eq_true rfl) rfl hl.1 rfl (Nat.le_of_ble_eq_true rfl) dX4_fix_2 ⟨by decide, by decide⟩) hS (fun H locs hP hS => ?_)
  refine lv_aload_n hx hb dX4_fix_5 rfl (lv_at hl 0 rfl) ?_
  refine lv_iload_n hx hb dX4_fix_6 rfl (lv_at hl 1 rfl) ?_
  obtain ⟨o4, hw6, h⟩ := bd1_e h
  rcases o4 with k5 | ⟨⟩
  · have h := bx_l h
    cases h
    exact g_xkev hC hX (g_xrunV (As := [.int x1]) (rest := []) hC hX hP hS (c4_requirePlaced l hst hw6) (by decide) ge_0 rfl u_4_127 yv_X4_requirePlaced (Nat.le_of_ble_eq_true rfl) rfl hl.1 rfl (Nat.le_of_ble_eq_true rfl) dX4_fix_7 ⟨by decide, by decide⟩) hS rfl (by decide) (by decide)
  have h := bx_r h
  refine g_xkv (g_xrunV (As := [.int x1]) (rest := []) hC hX hP hS (c4_requirePlaced l hst hw6) (by decide) ge_0 rfl u_4_127 yv_X4_requirePlaced (Nat.le_of_ble_eq_true rfl) rfl hl.1 rfl (Nat.le_of_ble_eq_true rfl) dX4_fix_7 ⟨by decide, by decide⟩) hS (fun H locs hP hS => ?_)
  refine lv_aload_n hx hb dX4_fix_10 rfl (lv_at hl 0 rfl) ?_
  refine g_get hC hP 3 dX4_fix_11 (by decide) ge_0 rfl inX4 (by decide) rfl u_1_191 ?_
  refine lv_aload_n hx hb dX4_fix_14 rfl (lv_at hl 0 rfl) ?_
  refine g_get hC hP 0 dX4_fix_15 (by decide) ge_0 rfl inX4 (by decide) rfl u_1_188 ?_
  obtain ⟨Y7, E8, hv, h⟩ := bd2_e h
  refine g_kv (g_runV (As := [.ref (ad γ 1)]) (rest := []) hC hP (c1_keep l hv) (by decide) ge_19 rfl u_1_215 yv_X1_keep (Nat.le_of_ble_eq_true rfl) rfl hl.1 rfl (Nat.le_of_ble_eq_true rfl) dX4_fix_18 ⟨by decide, by decide⟩) hS (fun H locs hP hS => ?_)
  refine lv_aload_n hx hb dX4_fix_21 rfl (lv_at hl 0 rfl) ?_
  refine g_get hC hP 0 dX4_fix_22 (by decide) ge_0 rfl inX4 (by decide) rfl u_1_188 ?_
  refine g_get hC hP 12 dX4_fix_25 (by decide) ge_1 rfl inX3 (by decide) rfl u_1_75 ?_
  refine lv_iload_n hx hb dX4_fix_28 rfl (lv_at hl 1 rfl) ?_
  obtain ⟨v9, hv, h⟩ := ob h
  refine g_zld hC hP dX4_fix_29 (by decide) ge_14 hv ?_
  refine lv_istore_n (lv' := [(3, .int v9), (0, .ref (ad γ 0)), (1, .int x1), (2, .int x2)]) hx hb dX4_fix_30 rfl hl (by decide) rfl (fun ls hl => ?_)
  refine lv_aload_n hx hb dX4_fix_31 rfl (lv_at hl 1 rfl) ?_
  refine g_get hC hP 0 dX4_fix_32 (by decide) ge_0 rfl inX4 (by decide) rfl u_1_188 ?_
  refine g_get hC hP 12 dX4_fix_35 (by decide) ge_1 rfl inX3 (by decide) rfl u_1_75 ?_
  refine lv_iload_n hx hb dX4_fix_38 rfl (lv_at hl 2 rfl) ?_
  refine lv_iload_n hx hb dX4_fix_39 rfl (lv_at hl 3 rfl) ?_
  obtain ⟨v11, hz, h⟩ := ob h
  obtain ⟨T10, hv, h⟩ := ob h
  refine g_zst hC hP hS (fun Z => (Z, P, X, Y7, E8, B, M, O)) dX4_fix_40 (by decide) ge_14 gs_14 hz hv (fun H locs hP hS => ?_)
  refine lv_iload_n hx hb dX4_fix_41 rfl (lv_at hl 0 rfl) ?_
  obtain ⟨v12, hz, h⟩ := ob h
  cases h
  refine W.widen (k := 2) (n := 12) (by decide) (by decide) ?_
  exact g_xzret hC hP hS dX4_fix_42 hz rfl
def r4_obstacle (T : OS) (x1 : Int32) (x2 : Int32) : Option ((Nat ⊕ Int32)) :=
  bd1 (r4_requireEvent T x1) (fun o1 => bx o1 (fun k2 => some (.inl k2)) (fun _ =>
  bd1 (r4_requireIndex x2 60) (fun o4 => bx o4 (fun k5 => some (.inl k5)) (fun _ =>
  bd1 (r3_obstacleAt T x1 x2) (fun v7 =>
  some (.inr v7))))))
theorem yv_X4_obstacle : gYV yX4_obstacle cX4_obstacle 3 (some .int) 2 := ⟨u_4_144, u_4_145, u_1_1, u_4_146, ⟨by decide +kernel, by decide +kernel, by decide +kernel⟩, by decide⟩
set_option maxHeartbeats 4000000 in
set_option maxRecDepth 100000 in
theorem c4_obstacle (l : Launch) (hst : l.stackTraces = false) {γ : GA} {sz : Nat} {T P X Y B M : OS} {E : Nat → OS} {O : Nat → Int64} {x1 : Int32} {x2 : Int32} {o0 : Nat ⊕ Int32} (h : r4_obstacle T x1 x2 = some o0) : vx_Met l yX4_obstacle (gU yX4_obstacle cX4_obstacle 3 (some .int)) (gR 7 2 12) (gPx γ [.ref (ad γ 0), .int x1, .int x2] sz (T, P, X, Y, E, B, M, O)) (gQxi γ o0 sz (T, P, X, Y, E, B, M, O)) (gXC γ o0 sz (T, P, X, Y, E, B, M, O)) 2 12 (gA γ sz) := by
  refine g_metx hst (fun sz => gQxi γ o0 sz (T, P, X, Y, E, B, M, O)) (fun sz => gXC γ o0 sz (T, P, X, Y, E, B, M, O)) (by decide) (Nat.le_of_ble_eq_true rfl) ?_
  intro p e s m args below meth c ls hC hX hP hS hl
  have hx := hC.x
  have hb := hC.b
  have hl : lv_has ls 3 [(0, .ref (ad γ 0)), (1, .int x1), (2, .int x2)] := hl
  unfold r4_obstacle at h
  refine lv_aload_n hx hb dX4_obstacle_0 rfl (lv_at hl 0 rfl) ?_
  refine lv_iload_n hx hb dX4_obstacle_1 rfl (lv_at hl 1 rfl) ?_
  obtain ⟨o1, hw3, h⟩ := bd1_e h
  rcases o1 with k2 | ⟨⟩
  · have h := bx_l h
    cases h
    exact g_xkev hC hX (g_xrunV (As := [.int x1]) (rest := []) hC hX hP hS (c4_requireEvent l hst hw3) (by decide) ge_0 rfl u_3_114 yv_X4_requireEvent (Nat.le_of_ble_eq_true rfl) rfl hl.1 rfl (Nat.le_of_ble_eq_true rfl) dX4_obstacle_2 ⟨by decide, by decide⟩) hS rfl (by decide) (by decide)
  have h := bx_r h
  refine g_xkv (g_xrunV (As := [.int x1]) (rest := []) hC hX hP hS (c4_requireEvent l hst hw3) (by decide) ge_0 rfl u_3_114 yv_X4_requireEvent (Nat.le_of_ble_eq_true rfl) rfl hl.1 rfl (Nat.le_of_ble_eq_true rfl) dX4_obstacle_2 ⟨by decide, by decide⟩) hS (fun H locs hP hS => ?_)
  refine lv_iload_n hx hb dX4_obstacle_5 rfl (lv_at hl 2 rfl) ?_
  refine lv_bipush (v := 60) hx hb dX4_obstacle_6 (by decide) ?_
  obtain ⟨o4, hw6, h⟩ := bd1_e h
  rcases o4 with k5 | ⟨⟩
  · have h := bx_l h
    cases h
    exact g_xkev hC hX (g_xrunS (As := [.int x2, .int 60]) (rest := []) hC hX hP hS (c4_requireIndex l hst hw6) u_2_133 yv_X4_requireIndex (Nat.le_of_ble_eq_true rfl) rfl hl.1 rfl (Nat.le_of_ble_eq_true rfl) dX4_obstacle_8 ⟨by decide, by decide⟩) hS rfl (by decide) (by decide)
  have h := bx_r h
  refine g_xkv (g_xrunS (As := [.int x2, .int 60]) (rest := []) hC hX hP hS (c4_requireIndex l hst hw6) u_2_133 yv_X4_requireIndex (Nat.le_of_ble_eq_true rfl) rfl hl.1 rfl (Nat.le_of_ble_eq_true rfl) dX4_obstacle_8 ⟨by decide, by decide⟩) hS (fun H locs hP hS => ?_)
  refine lv_aload_n hx hb dX4_obstacle_11 rfl (lv_at hl 0 rfl) ?_
  refine g_get hC hP 0 dX4_obstacle_12 (by decide) ge_0 rfl inX4 (by decide) rfl u_1_188 ?_
  refine lv_iload_n hx hb dX4_obstacle_15 rfl (lv_at hl 1 rfl) ?_
  refine lv_iload_n hx hb dX4_obstacle_16 rfl (lv_at hl 2 rfl) ?_
  obtain ⟨v7, hv, h⟩ := bd1_e h
  refine g_ki (g_runV (As := [.int x1, .int x2]) (rest := []) hC hP (c3_obstacleAt l hv) (by decide) ge_1 rfl u_4_117 yv_X3_obstacleAt (Nat.le_of_ble_eq_true rfl) rfl hl.1 rfl (Nat.le_of_ble_eq_true rfl) dX4_obstacle_17 ⟨by decide, by decide⟩) hS (fun H locs hP hS => ?_)
  cases h
  refine W.widen (k := 2) (n := 12) (by decide) (by decide) ?_
  exact g_xiret hC hP hS dX4_obstacle_20 rfl
def r4_places_b17 (T : OS) (x1 : Int32) (x2 : Int32) (x3_17 : Int32) (x4_17 : Int32) : Option ((Int32 × Int32) ⊕ (Int32)) :=
  (if 60 ≤ x4_17 then some (.inr x3_17)
  else bd1 (r3_obstacleAt T x1 x4_17) (fun v8 =>
  (if v8 = x2 then some (.inl ((x3_17 + 1), (x4_17 + 1)))
  else some (.inl (x3_17, (x4_17 + 1))))))
def r4_places (T : OS) (x1 : Int32) (x2 : Int32) : Option ((Nat ⊕ Int32)) :=
  bd1 (r4_requireEvent T x1) (fun o1 => bx o1 (fun k2 => some (.inl k2)) (fun _ =>
  bd1 (r4_requireRange x2 0 7) (fun o4 => bx o4 (fun k5 => some (.inl k5)) (fun _ =>
  bd1 (it2 (r4_places_b17 T x1 x2) 200 0 0) (fun x3_x17 => some (.inr x3_x17))))))
theorem yv_X4_places : gYV yX4_places cX4_places 5 (some .int) 2 := ⟨u_4_151, u_4_152, u_1_1, u_4_153, ⟨by decide +kernel, by decide +kernel, by decide +kernel⟩, by decide⟩
set_option maxHeartbeats 4000000 in
set_option maxRecDepth 100000 in
theorem c4_places (l : Launch) (hst : l.stackTraces = false) {γ : GA} {sz : Nat} {T P X Y B M : OS} {E : Nat → OS} {O : Nat → Int64} {x1 : Int32} {x2 : Int32} {o0 : Nat ⊕ Int32} (h : r4_places T x1 x2 = some o0) : vx_Met l yX4_places (gU yX4_places cX4_places 5 (some .int)) (gR 7 2 12) (gPx γ [.ref (ad γ 0), .int x1, .int x2] sz (T, P, X, Y, E, B, M, O)) (gQxi γ o0 sz (T, P, X, Y, E, B, M, O)) (gXC γ o0 sz (T, P, X, Y, E, B, M, O)) 2 12 (gA γ sz) := by
  refine g_metx hst (fun sz => gQxi γ o0 sz (T, P, X, Y, E, B, M, O)) (fun sz => gXC γ o0 sz (T, P, X, Y, E, B, M, O)) (by decide) (Nat.le_of_ble_eq_true rfl) ?_
  intro p e s m args below meth c ls hC hX hP hS hl
  have hx := hC.x
  have hb := hC.b
  have hl : lv_has ls 5 [(0, .ref (ad γ 0)), (1, .int x1), (2, .int x2)] := hl
  unfold r4_places at h
  refine lv_aload_n hx hb dX4_places_0 rfl (lv_at hl 0 rfl) ?_
  refine lv_iload_n hx hb dX4_places_1 rfl (lv_at hl 1 rfl) ?_
  obtain ⟨o1, hw3, h⟩ := bd1_e h
  rcases o1 with k2 | ⟨⟩
  · have h := bx_l h
    cases h
    exact g_xkev hC hX (g_xrunV (As := [.int x1]) (rest := []) hC hX hP hS (c4_requireEvent l hst hw3) (by decide) ge_0 rfl u_3_114 yv_X4_requireEvent (Nat.le_of_ble_eq_true rfl) rfl hl.1 rfl (Nat.le_of_ble_eq_true rfl) dX4_places_2 ⟨by decide, by decide⟩) hS rfl (by decide) (by decide)
  have h := bx_r h
  refine g_xkv (g_xrunV (As := [.int x1]) (rest := []) hC hX hP hS (c4_requireEvent l hst hw3) (by decide) ge_0 rfl u_3_114 yv_X4_requireEvent (Nat.le_of_ble_eq_true rfl) rfl hl.1 rfl (Nat.le_of_ble_eq_true rfl) dX4_places_2 ⟨by decide, by decide⟩) hS (fun H locs hP hS => ?_)
  refine lv_iload_n hx hb dX4_places_5 rfl (lv_at hl 2 rfl) ?_
  refine lv_iconst (v := 0) hx hb dX4_places_6 (by decide) ?_
  refine lv_bipush (v := 7) hx hb dX4_places_7 (by decide) ?_
  obtain ⟨o4, hw6, h⟩ := bd1_e h
  rcases o4 with k5 | ⟨⟩
  · have h := bx_l h
    cases h
    exact g_xkev hC hX (g_xrunS (As := [.int x2, .int 0, .int 7]) (rest := []) hC hX hP hS (c4_requireRange l hst hw6) u_2_206 yv_X4_requireRange (Nat.le_of_ble_eq_true rfl) rfl hl.1 rfl (Nat.le_of_ble_eq_true rfl) dX4_places_9 ⟨by decide, by decide⟩) hS rfl (by decide) (by decide)
  have h := bx_r h
  refine g_xkv (g_xrunS (As := [.int x2, .int 0, .int 7]) (rest := []) hC hX hP hS (c4_requireRange l hst hw6) u_2_206 yv_X4_requireRange (Nat.le_of_ble_eq_true rfl) rfl hl.1 rfl (Nat.le_of_ble_eq_true rfl) dX4_places_9 ⟨by decide, by decide⟩) hS (fun H locs hP hS => ?_)
  refine lv_iconst (v := 0) hx hb dX4_places_12 (by decide) ?_
  refine lv_istore_n (lv' := [(3, .int 0), (0, .ref (ad γ 0)), (1, .int x1), (2, .int x2)]) hx hb dX4_places_13 rfl hl (by decide) rfl (fun ls hl => ?_)
  refine lv_iconst (v := 0) hx hb dX4_places_14 (by decide) ?_
  refine lv_istore (lv' := [(4, .int 0), (3, .int 0), (0, .ref (ad γ 0)), (1, .int x1), (2, .int x2)]) hx hb dX4_places_15 hl (by decide) rfl (fun ls hl => ?_)
  have L17 := it2_W (r4_places_b17 T x1 x2) (fun (x3_17 : Int32) (x4_17 : Int32) => ∀ (H : Heap) (locs : List Loc) (ls : Array Slot), va_P γ.1 vwCl (gw γ (T, P, X, Y, E, B, M, O)) H → va_S (gA γ s.heap.size) s.heap H locs → lv_has ls 5 [(0, .ref (ad γ 0)), (1, .int x1), (2, .int x2), (3, .int x3_17), (4, .int x4_17)] → W p l e (gR 7 2 12) s m args below meth c H locs 2 12 (vx_MQ below (gQxi γ o0 s.heap.size (T, P, X, Y, E, B, M, O)) (gXC γ o0 s.heap.size (T, P, X, Y, E, B, M, O)) args s 2 12 (gA γ s.heap.size)) (F0 m 17 ls [])) (fun (r_k : Int32) => (∀ (x3_x17 : Int32), r_k = x3_x17 → ∀ (H : Heap) (locs : List Loc) (ls : Array Slot), va_P γ.1 vwCl (gw γ (T, P, X, Y, E, B, M, O)) H → va_S (gA γ s.heap.size) s.heap H locs → lv_has ls 5 [(3, .int x3_x17)] → W p l e (gR 7 2 12) s m args below meth c H locs 2 12 (vx_MQ below (gQxi γ o0 s.heap.size (T, P, X, Y, E, B, M, O)) (gXC γ o0 s.heap.size (T, P, X, Y, E, B, M, O)) args s 2 12 (gA γ s.heap.size)) (F0 m 47 ls []))) (by
    intro x3_17 x4_17 o_17 h kS kR H locs ls hP hS hl
    unfold r4_places_b17 at h
    refine lv_iload hx hb dX4_places_17 (lv_at hl 4 rfl) ?_
    refine lv_bipush (v := 60) hx hb dX4_places_19 (by decide) ?_
    refine lv_icmp_ge (tgt := 47) hx hb dX4_places_21 (by decide) (fun c7 => ?_) (fun c7 => ?_)
    · rw [if_pos c7] at h
      cases h
      exact kR _ rfl _ rfl _ _ _ hP hS (lv_sub hl [3] rfl)
    · rw [if_neg c7] at h
      refine lv_aload_n hx hb dX4_places_24 rfl (lv_at hl 0 rfl) ?_
      refine g_get hC hP 0 dX4_places_25 (by decide) ge_0 rfl inX4 (by decide) rfl u_1_188 ?_
      refine lv_iload_n hx hb dX4_places_28 rfl (lv_at hl 1 rfl) ?_
      refine lv_iload hx hb dX4_places_29 (lv_at hl 4 rfl) ?_
      obtain ⟨v8, hv, h⟩ := bd1_e h
      refine g_ki (g_runV (As := [.int x1, .int x4_17]) (rest := []) hC hP (c3_obstacleAt l hv) (by decide) ge_1 rfl u_4_117 yv_X3_obstacleAt (Nat.le_of_ble_eq_true rfl) rfl hl.1 rfl (Nat.le_of_ble_eq_true rfl) dX4_places_31 ⟨by decide, by decide⟩) hS (fun H locs hP hS => ?_)
      refine lv_iload_n hx hb dX4_places_34 rfl (lv_at hl 2 rfl) ?_
      refine lv_icmp_ne (tgt := 41) hx hb dX4_places_35 (by decide) (fun c9 => ?_) (fun c9 => ?_)
      · rw [if_neg c9] at h
        refine lv_iinc (v := (x4_17 + 1)) (lv' := [(4, .int (x4_17 + 1)), (0, .ref (ad γ 0)), (1, .int x1), (2, .int x2), (3, .int x3_17)]) hx hb dX4_places_41 hl (k := 4) rfl rfl (by decide) rfl (fun ls hl => ?_)
        refine lv_goto (tgt := 17) hx hb dX4_places_44 (by decide) ?_
        cases h
        exact kS _ _ rfl _ _ _ hP hS (lv_sub hl [1, 2, 3, 4, 0] rfl)
      · rw [if_pos c9] at h
        refine lv_iinc (v := (x3_17 + 1)) (lv' := [(3, .int (x3_17 + 1)), (0, .ref (ad γ 0)), (1, .int x1), (2, .int x2), (4, .int x4_17)]) hx hb dX4_places_38 hl (k := 3) rfl rfl (by decide) rfl (fun ls hl => ?_)
        refine lv_iinc (v := (x4_17 + 1)) (lv' := [(4, .int (x4_17 + 1)), (3, .int (x3_17 + 1)), (0, .ref (ad γ 0)), (1, .int x1), (2, .int x2)]) hx hb dX4_places_41 hl (k := 4) rfl rfl (by decide) rfl (fun ls hl => ?_)
        refine lv_goto (tgt := 17) hx hb dX4_places_44 (by decide) ?_
        cases h
        exact kS _ _ rfl _ _ _ hP hS (lv_sub hl [2, 3, 4, 1, 0] rfl))
  refine W.widen (k := 2) (n := 12) (by decide) (by decide) ?_
  obtain ⟨x3_x17, hv, h⟩ := bd1_e h
  refine L17 _ _ _ _ hv (fun q0 e9 H locs ls hP hS hl => ?_) _ _ _ hP hS (lv_sub hl [2, 3, 4, 1, 0] rfl)
  obtain rfl := e9
  refine lv_iload_n hx hb dX4_places_47 rfl (lv_at hl 0 rfl) ?_
  cases h
  refine W.widen (k := 2) (n := 12) (by decide) (by decide) ?_
  exact g_xiret hC hP hS dX4_places_48 rfl
def r4_free_j22 (T : OS) (s0_22 : Int32)  : Option ((Nat ⊕ Int32)) :=
  (if s0_22 = (-1) then some (.inl 4)
  else some (.inr s0_22))
def r4_free (T : OS) (x1 : Int32) (x2 : Int32) : Option ((Nat ⊕ Int32)) :=
  bd1 (r4_requireEvent T x1) (fun o2 => bx o2 (fun k3 => some (.inl k3)) (fun _ =>
  (if 0 ≤ x2 then bd1 (r3_freePlace T x1 x2) (fun v6 =>
  r4_free_j22 T v6)
  else r4_free_j22 T (-1))))
theorem yv_X4_free : gYV yX4_free cX4_free 4 (some .int) 2 := ⟨u_4_159, u_4_160, u_1_1, u_4_161, ⟨by decide +kernel, by decide +kernel, by decide +kernel⟩, by decide⟩
set_option maxHeartbeats 4000000 in
set_option maxRecDepth 100000 in
theorem c4_free (l : Launch) (hst : l.stackTraces = false) {γ : GA} {sz : Nat} {T P X Y B M : OS} {E : Nat → OS} {O : Nat → Int64} {x1 : Int32} {x2 : Int32} {o0 : Nat ⊕ Int32} (h : r4_free T x1 x2 = some o0) : vx_Met l yX4_free (gU yX4_free cX4_free 4 (some .int)) (gR 7 2 12) (gPx γ [.ref (ad γ 0), .int x1, .int x2] sz (T, P, X, Y, E, B, M, O)) (gQxi γ o0 sz (T, P, X, Y, E, B, M, O)) (gXC γ o0 sz (T, P, X, Y, E, B, M, O)) 2 12 (gA γ sz) := by
  refine g_metx hst (fun sz => gQxi γ o0 sz (T, P, X, Y, E, B, M, O)) (fun sz => gXC γ o0 sz (T, P, X, Y, E, B, M, O)) (by decide) (Nat.le_of_ble_eq_true rfl) ?_
  intro p e s m args below meth c ls hC hX hP hS hl
  have hx := hC.x
  have hb := hC.b
  have hl : lv_has ls 4 [(0, .ref (ad γ 0)), (1, .int x1), (2, .int x2)] := hl
  unfold r4_free at h
  have J22 : ∀ (s0_22 : Int32) (h : r4_free_j22 T s0_22 = some o0), ∀ (H : Heap) (locs : List Loc) (ls : Array Slot), va_P γ.1 vwCl (gw γ (T, P, X, Y, E, B, M, O)) H → va_S (gA γ s.heap.size) s.heap H locs → lv_has ls 4 [] → W p l e (gR 7 2 12) s m args below meth c H locs 1 6 (vx_MQ below (gQxi γ o0 s.heap.size (T, P, X, Y, E, B, M, O)) (gXC γ o0 s.heap.size (T, P, X, Y, E, B, M, O)) args s 2 12 (gA γ s.heap.size)) (F0 m 22 ls [.int s0_22]) := by
    intro s0_22 h H locs ls hP hS hl
    unfold r4_free_j22 at h
    refine lv_istore_n (lv' := [(3, .int s0_22)]) hx hb dX4_free_22 rfl hl (by decide) rfl (fun ls hl => ?_)
    refine lv_iload_n hx hb dX4_free_23 rfl (lv_at hl 0 rfl) ?_
    refine lv_iconst (v := -1) hx hb dX4_free_24 (by decide) ?_
    refine lv_icmp_ne (tgt := 38) hx hb dX4_free_25 (by decide) (fun c1 => ?_) (fun c1 => ?_)
    · rw [if_neg c1] at h
      refine lv_iload_n hx hb dX4_free_38 rfl (lv_at hl 0 rfl) ?_
      cases h
      refine W.widen (k := 2) (n := 12) (by decide) (by decide) ?_
      exact g_xiret hC hP hS dX4_free_39 rfl
    · rw [if_pos c1] at h
      cases h
      exact g_thrN hC hX hP hS (List.mem_of_getElem? (i := 0) rfl) hl.1 dX4_free_28 dX4_free_31 dX4_free_32 dX4_free_34 dX4_free_37 (Nat.le_of_ble_eq_true rfl) (Nat.le_of_ble_eq_true rfl) (by decide) (by decide) (by decide) (by decide) rfl
  refine lv_aload_n hx hb dX4_free_0 rfl (lv_at hl 0 rfl) ?_
  refine lv_iload_n hx hb dX4_free_1 rfl (lv_at hl 1 rfl) ?_
  obtain ⟨o2, hw4, h⟩ := bd1_e h
  rcases o2 with k3 | ⟨⟩
  · have h := bx_l h
    cases h
    exact g_xkev hC hX (g_xrunV (As := [.int x1]) (rest := []) hC hX hP hS (c4_requireEvent l hst hw4) (by decide) ge_0 rfl u_3_114 yv_X4_requireEvent (Nat.le_of_ble_eq_true rfl) rfl hl.1 rfl (Nat.le_of_ble_eq_true rfl) dX4_free_2 ⟨by decide, by decide⟩) hS rfl (by decide) (by decide)
  have h := bx_r h
  refine g_xkv (g_xrunV (As := [.int x1]) (rest := []) hC hX hP hS (c4_requireEvent l hst hw4) (by decide) ge_0 rfl u_3_114 yv_X4_requireEvent (Nat.le_of_ble_eq_true rfl) rfl hl.1 rfl (Nat.le_of_ble_eq_true rfl) dX4_free_2 ⟨by decide, by decide⟩) hS (fun H locs hP hS => ?_)
  refine lv_iload_n hx hb dX4_free_5 rfl (lv_at hl 2 rfl) ?_
  refine lv_if_ge (tgt := 13) hx hb dX4_free_6 (by decide) (fun c5 => ?_) (fun c5 => ?_)
  · rw [if_pos c5] at h
    refine lv_aload_n hx hb dX4_free_13 rfl (lv_at hl 0 rfl) ?_
    refine g_get hC hP 0 dX4_free_14 (by decide) ge_0 rfl inX4 (by decide) rfl u_1_188 ?_
    refine lv_iload_n hx hb dX4_free_17 rfl (lv_at hl 1 rfl) ?_
    refine lv_iload_n hx hb dX4_free_18 rfl (lv_at hl 2 rfl) ?_
    obtain ⟨v6, hv, h⟩ := bd1_e h
    refine g_ki (g_runV (As := [.int x1, .int x2]) (rest := []) hC hP (c3_freePlace l hv) (by decide) ge_1 rfl u_4_162 yv_X3_freePlace (Nat.le_of_ble_eq_true rfl) rfl hl.1 rfl (Nat.le_of_ble_eq_true rfl) dX4_free_19 ⟨by decide, by decide⟩) hS (fun H locs hP hS => ?_)
    refine W.widen (k := 1) (n := 6) (by decide) (by decide) ?_
    exact J22 v6 h _ _ _ hP hS (lv_sub hl [] rfl)
  · rw [if_neg c5] at h
    refine lv_iconst (v := -1) hx hb dX4_free_9 (by decide) ?_
    refine lv_goto (tgt := 22) hx hb dX4_free_10 (by decide) ?_
    refine W.widen (k := 1) (n := 6) (by decide) (by decide) ?_
    exact J22 (-1) h _ _ _ hP hS (lv_sub hl [] rfl)
def r4_hindering (T : OS) (x1 : Int32) (x2 : Int32) : Option ((Nat ⊕ Int32)) :=
  bd1 (r4_requireEvent T x1) (fun o1 => bx o1 (fun k2 => some (.inl k2)) (fun _ =>
  bd1 (r4_requireIndex x2 60) (fun o4 => bx o4 (fun k5 => some (.inl k5)) (fun _ =>
  bd1 (r3_hinderingAt T x1 x2) (fun v7 =>
  some (.inr v7))))))
theorem yv_X4_hindering : gYV yX4_hindering cX4_hindering 3 (some .int) 2 := ⟨u_4_182, u_4_183, u_1_1, u_4_184, ⟨by decide +kernel, by decide +kernel, by decide +kernel⟩, by decide⟩
set_option maxHeartbeats 4000000 in
set_option maxRecDepth 100000 in
theorem c4_hindering (l : Launch) (hst : l.stackTraces = false) {γ : GA} {sz : Nat} {T P X Y B M : OS} {E : Nat → OS} {O : Nat → Int64} {x1 : Int32} {x2 : Int32} {o0 : Nat ⊕ Int32} (h : r4_hindering T x1 x2 = some o0) : vx_Met l yX4_hindering (gU yX4_hindering cX4_hindering 3 (some .int)) (gR 7 2 12) (gPx γ [.ref (ad γ 0), .int x1, .int x2] sz (T, P, X, Y, E, B, M, O)) (gQxi γ o0 sz (T, P, X, Y, E, B, M, O)) (gXC γ o0 sz (T, P, X, Y, E, B, M, O)) 2 12 (gA γ sz) := by
  refine g_metx hst (fun sz => gQxi γ o0 sz (T, P, X, Y, E, B, M, O)) (fun sz => gXC γ o0 sz (T, P, X, Y, E, B, M, O)) (by decide) (Nat.le_of_ble_eq_true rfl) ?_
  intro p e s m args below meth c ls hC hX hP hS hl
  have hx := hC.x
  have hb := hC.b
  have hl : lv_has ls 3 [(0, .ref (ad γ 0)), (1, .int x1), (2, .int x2)] := hl
  unfold r4_hindering at h
  refine lv_aload_n hx hb dX4_hindering_0 rfl (lv_at hl 0 rfl) ?_
  refine lv_iload_n hx hb dX4_hindering_1 rfl (lv_at hl 1 rfl) ?_
  obtain ⟨o1, hw3, h⟩ := bd1_e h
  rcases o1 with k2 | ⟨⟩
  · have h := bx_l h
    cases h
    exact g_xkev hC hX (g_xrunV (As := [.int x1]) (rest := []) hC hX hP hS (c4_requireEvent l hst hw3) (by decide) ge_0 rfl u_3_114 yv_X4_requireEvent (Nat.le_of_ble_eq_true rfl) rfl hl.1 rfl (Nat.le_of_ble_eq_true rfl) dX4_hindering_2 ⟨by decide, by decide⟩) hS rfl (by decide) (by decide)
  have h := bx_r h
  refine g_xkv (g_xrunV (As := [.int x1]) (rest := []) hC hX hP hS (c4_requireEvent l hst hw3) (by decide) ge_0 rfl u_3_114 yv_X4_requireEvent (Nat.le_of_ble_eq_true rfl) rfl hl.1 rfl (Nat.le_of_ble_eq_true rfl) dX4_hindering_2 ⟨by decide, by decide⟩) hS (fun H locs hP hS => ?_)
  refine lv_iload_n hx hb dX4_hindering_5 rfl (lv_at hl 2 rfl) ?_
  refine lv_bipush (v := 60) hx hb dX4_hindering_6 (by decide) ?_
  obtain ⟨o4, hw6, h⟩ := bd1_e h
  rcases o4 with k5 | ⟨⟩
  · have h := bx_l h
    cases h
    exact g_xkev hC hX (g_xrunS (As := [.int x2, .int 60]) (rest := []) hC hX hP hS (c4_requireIndex l hst hw6) u_2_133 yv_X4_requireIndex (Nat.le_of_ble_eq_true rfl) rfl hl.1 rfl (Nat.le_of_ble_eq_true rfl) dX4_hindering_8 ⟨by decide, by decide⟩) hS rfl (by decide) (by decide)
  have h := bx_r h
  refine g_xkv (g_xrunS (As := [.int x2, .int 60]) (rest := []) hC hX hP hS (c4_requireIndex l hst hw6) u_2_133 yv_X4_requireIndex (Nat.le_of_ble_eq_true rfl) rfl hl.1 rfl (Nat.le_of_ble_eq_true rfl) dX4_hindering_8 ⟨by decide, by decide⟩) hS (fun H locs hP hS => ?_)
  refine lv_aload_n hx hb dX4_hindering_11 rfl (lv_at hl 0 rfl) ?_
  refine g_get hC hP 0 dX4_hindering_12 (by decide) ge_0 rfl inX4 (by decide) rfl u_1_188 ?_
  refine lv_iload_n hx hb dX4_hindering_15 rfl (lv_at hl 1 rfl) ?_
  refine lv_iload_n hx hb dX4_hindering_16 rfl (lv_at hl 2 rfl) ?_
  obtain ⟨v7, hv, h⟩ := bd1_e h
  refine g_ki (g_runV (As := [.int x1, .int x2]) (rest := []) hC hP (c3_hinderingAt l hv) (by decide) ge_1 rfl u_4_185 yv_X3_hinderingAt (Nat.le_of_ble_eq_true rfl) rfl hl.1 rfl (Nat.le_of_ble_eq_true rfl) dX4_hindering_17 ⟨by decide, by decide⟩) hS (fun H locs hP hS => ?_)
  cases h
  refine W.widen (k := 2) (n := 12) (by decide) (by decide) ?_
  exact g_xiret hC hP hS dX4_hindering_20 rfl
def r4_at (T : OS) (x1 : Int32) (x2 : Int32) : Option ((Nat ⊕ Int32)) :=
  bd1 (r4_requireIndex x1 10) (fun o1 => bx o1 (fun k2 => some (.inl k2)) (fun _ =>
  bd1 (r4_requireIndex x2 6) (fun o4 => bx o4 (fun k5 => some (.inl k5)) (fun _ =>
  bd1 (r3_eventIn T x1 x2) (fun v7 =>
  (if v7 = (-1) then some (.inl 4)
  else some (.inr v7)))))))
theorem yv_X4_at : gYV yX4_at cX4_at 4 (some .int) 2 := ⟨u_4_190, u_4_191, u_1_1, u_4_192, ⟨by decide +kernel, by decide +kernel, by decide +kernel⟩, by decide⟩
set_option maxHeartbeats 4000000 in
set_option maxRecDepth 100000 in
theorem c4_at (l : Launch) (hst : l.stackTraces = false) {γ : GA} {sz : Nat} {T P X Y B M : OS} {E : Nat → OS} {O : Nat → Int64} {x1 : Int32} {x2 : Int32} {o0 : Nat ⊕ Int32} (h : r4_at T x1 x2 = some o0) : vx_Met l yX4_at (gU yX4_at cX4_at 4 (some .int)) (gR 7 3 18) (gPx γ [.ref (ad γ 0), .int x1, .int x2] sz (T, P, X, Y, E, B, M, O)) (gQxi γ o0 sz (T, P, X, Y, E, B, M, O)) (gXC γ o0 sz (T, P, X, Y, E, B, M, O)) 3 18 (gA γ sz) := by
  refine g_metx hst (fun sz => gQxi γ o0 sz (T, P, X, Y, E, B, M, O)) (fun sz => gXC γ o0 sz (T, P, X, Y, E, B, M, O)) (by decide) (Nat.le_of_ble_eq_true rfl) ?_
  intro p e s m args below meth c ls hC hX hP hS hl
  have hx := hC.x
  have hb := hC.b
  have hl : lv_has ls 4 [(0, .ref (ad γ 0)), (1, .int x1), (2, .int x2)] := hl
  unfold r4_at at h
  refine lv_iload_n hx hb dX4_at_0 rfl (lv_at hl 1 rfl) ?_
  refine lv_bipush (v := 10) hx hb dX4_at_1 (by decide) ?_
  obtain ⟨o1, hw3, h⟩ := bd1_e h
  rcases o1 with k2 | ⟨⟩
  · have h := bx_l h
    cases h
    exact g_xkev hC hX (g_xrunS (As := [.int x1, .int 10]) (rest := []) hC hX hP hS (c4_requireIndex l hst hw3) u_2_133 yv_X4_requireIndex (Nat.le_of_ble_eq_true rfl) rfl hl.1 rfl (Nat.le_of_ble_eq_true rfl) dX4_at_3 ⟨by decide, by decide⟩) hS rfl (by decide) (by decide)
  have h := bx_r h
  refine g_xkv (g_xrunS (As := [.int x1, .int 10]) (rest := []) hC hX hP hS (c4_requireIndex l hst hw3) u_2_133 yv_X4_requireIndex (Nat.le_of_ble_eq_true rfl) rfl hl.1 rfl (Nat.le_of_ble_eq_true rfl) dX4_at_3 ⟨by decide, by decide⟩) hS (fun H locs hP hS => ?_)
  refine lv_iload_n hx hb dX4_at_6 rfl (lv_at hl 2 rfl) ?_
  refine lv_bipush (v := 6) hx hb dX4_at_7 (by decide) ?_
  obtain ⟨o4, hw6, h⟩ := bd1_e h
  rcases o4 with k5 | ⟨⟩
  · have h := bx_l h
    cases h
    exact g_xkev hC hX (g_xrunS (As := [.int x2, .int 6]) (rest := []) hC hX hP hS (c4_requireIndex l hst hw6) u_2_133 yv_X4_requireIndex (Nat.le_of_ble_eq_true rfl) rfl hl.1 rfl (Nat.le_of_ble_eq_true rfl) dX4_at_9 ⟨by decide, by decide⟩) hS rfl (by decide) (by decide)
  have h := bx_r h
  refine g_xkv (g_xrunS (As := [.int x2, .int 6]) (rest := []) hC hX hP hS (c4_requireIndex l hst hw6) u_2_133 yv_X4_requireIndex (Nat.le_of_ble_eq_true rfl) rfl hl.1 rfl (Nat.le_of_ble_eq_true rfl) dX4_at_9 ⟨by decide, by decide⟩) hS (fun H locs hP hS => ?_)
  refine lv_aload_n hx hb dX4_at_12 rfl (lv_at hl 0 rfl) ?_
  refine g_get hC hP 0 dX4_at_13 (by decide) ge_0 rfl inX4 (by decide) rfl u_1_188 ?_
  refine lv_iload_n hx hb dX4_at_16 rfl (lv_at hl 1 rfl) ?_
  refine lv_iload_n hx hb dX4_at_17 rfl (lv_at hl 2 rfl) ?_
  obtain ⟨v7, hv, h⟩ := bd1_e h
  refine g_ki (g_runV (As := [.int x1, .int x2]) (rest := []) hC hP (c3_eventIn l hv) (by decide) ge_1 rfl u_4_193 yv_X3_eventIn (Nat.le_of_ble_eq_true rfl) rfl hl.1 rfl (Nat.le_of_ble_eq_true rfl) dX4_at_18 ⟨by decide, by decide⟩) hS (fun H locs hP hS => ?_)
  refine lv_istore_n (lv' := [(3, .int v7), (0, .ref (ad γ 0)), (1, .int x1), (2, .int x2)]) hx hb dX4_at_21 rfl hl (by decide) rfl (fun ls hl => ?_)
  refine lv_iload_n hx hb dX4_at_22 rfl (lv_at hl 0 rfl) ?_
  refine lv_iconst (v := -1) hx hb dX4_at_23 (by decide) ?_
  refine lv_icmp_ne (tgt := 37) hx hb dX4_at_24 (by decide) (fun c8 => ?_) (fun c8 => ?_)
  · rw [if_neg c8] at h
    refine lv_iload_n hx hb dX4_at_37 rfl (lv_at hl 0 rfl) ?_
    cases h
    refine W.widen (k := 3) (n := 18) (by decide) (by decide) ?_
    exact g_xiret hC hP hS dX4_at_38 rfl
  · rw [if_pos c8] at h
    cases h
    exact g_thrN hC hX hP hS (List.mem_of_getElem? (i := 11) rfl) hl.1 dX4_at_27 dX4_at_30 dX4_at_31 dX4_at_33 dX4_at_36 (Nat.le_of_ble_eq_true rfl) (Nat.le_of_ble_eq_true rfl) (by decide) (by decide) (by decide) (by decide) rfl
def r4_taken (T : OS) (x1 : Int32) (x2 : Int32) : Option ((Nat ⊕ Int32)) :=
  bd1 (r4_requireRange x1 0 2) (fun o1 => bx o1 (fun k2 => some (.inl k2)) (fun _ =>
  (if x1 = 0 then bd1 (r4_requireIndex x2 6) (fun o6 => bx o6 (fun k7 => some (.inl k7)) (fun _ =>
  bd1 (r3_slotsOfTeacher T x2) (fun v9 =>
  some (.inr v9))))
  else (if x1 = 1 then bd1 (r4_requireIndex x2 6) (fun o10 => bx o10 (fun k11 => some (.inl k11)) (fun _ =>
  bd1 (r3_slotsOfGroup T x2) (fun v13 =>
  some (.inr v13))))
  else bd1 (r4_requireIndex x2 6) (fun o14 => bx o14 (fun k15 => some (.inl k15)) (fun _ =>
  bd1 (r3_slotsOfRoom T x2) (fun v17 =>
  some (.inr v17))))))))
theorem yv_X4_taken : gYV yX4_taken cX4_taken 3 (some .int) 2 := ⟨u_4_202, u_4_203, u_1_1, u_4_204, ⟨by decide +kernel, by decide +kernel, by decide +kernel⟩, by decide⟩
set_option maxHeartbeats 4000000 in
set_option maxRecDepth 100000 in
theorem c4_taken (l : Launch) (hst : l.stackTraces = false) {γ : GA} {sz : Nat} {T P X Y B M : OS} {E : Nat → OS} {O : Nat → Int64} {x1 : Int32} {x2 : Int32} {o0 : Nat ⊕ Int32} (h : r4_taken T x1 x2 = some o0) : vx_Met l yX4_taken (gU yX4_taken cX4_taken 3 (some .int)) (gR 7 4 24) (gPx γ [.ref (ad γ 0), .int x1, .int x2] sz (T, P, X, Y, E, B, M, O)) (gQxi γ o0 sz (T, P, X, Y, E, B, M, O)) (gXC γ o0 sz (T, P, X, Y, E, B, M, O)) 4 24 (gA γ sz) := by
  refine g_metx hst (fun sz => gQxi γ o0 sz (T, P, X, Y, E, B, M, O)) (fun sz => gXC γ o0 sz (T, P, X, Y, E, B, M, O)) (by decide) (Nat.le_of_ble_eq_true rfl) ?_
  intro p e s m args below meth c ls hC hX hP hS hl
  have hx := hC.x
  have hb := hC.b
  have hl : lv_has ls 3 [(0, .ref (ad γ 0)), (1, .int x1), (2, .int x2)] := hl
  unfold r4_taken at h
  refine lv_iload_n hx hb dX4_taken_0 rfl (lv_at hl 1 rfl) ?_
  refine lv_iconst (v := 0) hx hb dX4_taken_1 (by decide) ?_
  refine lv_iconst (v := 2) hx hb dX4_taken_2 (by decide) ?_
  obtain ⟨o1, hw3, h⟩ := bd1_e h
  rcases o1 with k2 | ⟨⟩
  · have h := bx_l h
    cases h
    exact g_xkev hC hX (g_xrunS (As := [.int x1, .int 0, .int 2]) (rest := []) hC hX hP hS (c4_requireRange l hst hw3) u_2_206 yv_X4_requireRange (Nat.le_of_ble_eq_true rfl) rfl hl.1 rfl (Nat.le_of_ble_eq_true rfl) dX4_taken_3 ⟨by decide, by decide⟩) hS rfl (by decide) (by decide)
  have h := bx_r h
  refine g_xkv (g_xrunS (As := [.int x1, .int 0, .int 2]) (rest := []) hC hX hP hS (c4_requireRange l hst hw3) u_2_206 yv_X4_requireRange (Nat.le_of_ble_eq_true rfl) rfl hl.1 rfl (Nat.le_of_ble_eq_true rfl) dX4_taken_3 ⟨by decide, by decide⟩) hS (fun H locs hP hS => ?_)
  refine lv_iload_n hx hb dX4_taken_6 rfl (lv_at hl 1 rfl) ?_
  by_cases c4 : x1 = 0
  · rw [if_pos c4] at h
    refine lv_lookup (off := 25) (tgt := 32) hx hb dX4_taken_7 (by decide) (by rw [c4]; rfl) (by decide) ?_
    refine lv_iload_n hx hb dX4_taken_32 rfl (lv_at hl 2 rfl) ?_
    refine lv_bipush (v := 6) hx hb dX4_taken_33 (by decide) ?_
    obtain ⟨o6, hw8, h⟩ := bd1_e h
    rcases o6 with k7 | ⟨⟩
    · have h := bx_l h
      cases h
      exact g_xkev hC hX (g_xrunS (As := [.int x2, .int 6]) (rest := []) hC hX hP hS (c4_requireIndex l hst hw8) u_2_133 yv_X4_requireIndex (Nat.le_of_ble_eq_true rfl) rfl hl.1 rfl (Nat.le_of_ble_eq_true rfl) dX4_taken_35 ⟨by decide, by decide⟩) hS rfl (by decide) (by decide)
    have h := bx_r h
    refine g_xkv (g_xrunS (As := [.int x2, .int 6]) (rest := []) hC hX hP hS (c4_requireIndex l hst hw8) u_2_133 yv_X4_requireIndex (Nat.le_of_ble_eq_true rfl) rfl hl.1 rfl (Nat.le_of_ble_eq_true rfl) dX4_taken_35 ⟨by decide, by decide⟩) hS (fun H locs hP hS => ?_)
    refine lv_aload_n hx hb dX4_taken_38 rfl (lv_at hl 0 rfl) ?_
    refine g_get hC hP 0 dX4_taken_39 (by decide) ge_0 rfl inX4 (by decide) rfl u_1_188 ?_
    refine lv_iload_n hx hb dX4_taken_42 rfl (lv_at hl 2 rfl) ?_
    obtain ⟨v9, hv, h⟩ := bd1_e h
    refine g_ki (g_runV (As := [.int x2]) (rest := []) hC hP (c3_slotsOfTeacher l hv) (by decide) ge_1 rfl u_4_205 yv_X3_slotsOfTeacher (Nat.le_of_ble_eq_true rfl) rfl hl.1 rfl (Nat.le_of_ble_eq_true rfl) dX4_taken_43 ⟨by decide, by decide⟩) hS (fun H locs hP hS => ?_)
    cases h
    refine W.widen (k := 4) (n := 24) (by decide) (by decide) ?_
    exact g_xiret hC hP hS dX4_taken_46 rfl
  rw [if_neg c4] at h
  by_cases c5 : x1 = 1
  · rw [if_pos c5] at h
    refine lv_lookup (off := 40) (tgt := 47) hx hb dX4_taken_7 (by decide) (by rw [c5]; rfl) (by decide) ?_
    refine lv_iload_n hx hb dX4_taken_47 rfl (lv_at hl 2 rfl) ?_
    refine lv_bipush (v := 6) hx hb dX4_taken_48 (by decide) ?_
    obtain ⟨o10, hw12, h⟩ := bd1_e h
    rcases o10 with k11 | ⟨⟩
    · have h := bx_l h
      cases h
      exact g_xkev hC hX (g_xrunS (As := [.int x2, .int 6]) (rest := []) hC hX hP hS (c4_requireIndex l hst hw12) u_2_133 yv_X4_requireIndex (Nat.le_of_ble_eq_true rfl) rfl hl.1 rfl (Nat.le_of_ble_eq_true rfl) dX4_taken_50 ⟨by decide, by decide⟩) hS rfl (by decide) (by decide)
    have h := bx_r h
    refine g_xkv (g_xrunS (As := [.int x2, .int 6]) (rest := []) hC hX hP hS (c4_requireIndex l hst hw12) u_2_133 yv_X4_requireIndex (Nat.le_of_ble_eq_true rfl) rfl hl.1 rfl (Nat.le_of_ble_eq_true rfl) dX4_taken_50 ⟨by decide, by decide⟩) hS (fun H locs hP hS => ?_)
    refine lv_aload_n hx hb dX4_taken_53 rfl (lv_at hl 0 rfl) ?_
    refine g_get hC hP 0 dX4_taken_54 (by decide) ge_0 rfl inX4 (by decide) rfl u_1_188 ?_
    refine lv_iload_n hx hb dX4_taken_57 rfl (lv_at hl 2 rfl) ?_
    obtain ⟨v13, hv, h⟩ := bd1_e h
    refine g_ki (g_runV (As := [.int x2]) (rest := []) hC hP (c3_slotsOfGroup l hv) (by decide) ge_1 rfl u_4_209 yv_X3_slotsOfGroup (Nat.le_of_ble_eq_true rfl) rfl hl.1 rfl (Nat.le_of_ble_eq_true rfl) dX4_taken_58 ⟨by decide, by decide⟩) hS (fun H locs hP hS => ?_)
    cases h
    refine W.widen (k := 4) (n := 24) (by decide) (by decide) ?_
    exact g_xiret hC hP hS dX4_taken_61 rfl
  rw [if_neg c5] at h
  refine lv_lookup (off := 55) (tgt := 62) hx hb dX4_taken_7 (by decide) (lsw_01 c4 c5) (by decide) ?_
  refine lv_iload_n hx hb dX4_taken_62 rfl (lv_at hl 2 rfl) ?_
  refine lv_bipush (v := 6) hx hb dX4_taken_63 (by decide) ?_
  obtain ⟨o14, hw16, h⟩ := bd1_e h
  rcases o14 with k15 | ⟨⟩
  · have h := bx_l h
    cases h
    exact g_xkev hC hX (g_xrunS (As := [.int x2, .int 6]) (rest := []) hC hX hP hS (c4_requireIndex l hst hw16) u_2_133 yv_X4_requireIndex (Nat.le_of_ble_eq_true rfl) rfl hl.1 rfl (Nat.le_of_ble_eq_true rfl) dX4_taken_65 ⟨by decide, by decide⟩) hS rfl (by decide) (by decide)
  have h := bx_r h
  refine g_xkv (g_xrunS (As := [.int x2, .int 6]) (rest := []) hC hX hP hS (c4_requireIndex l hst hw16) u_2_133 yv_X4_requireIndex (Nat.le_of_ble_eq_true rfl) rfl hl.1 rfl (Nat.le_of_ble_eq_true rfl) dX4_taken_65 ⟨by decide, by decide⟩) hS (fun H locs hP hS => ?_)
  refine lv_aload_n hx hb dX4_taken_68 rfl (lv_at hl 0 rfl) ?_
  refine g_get hC hP 0 dX4_taken_69 (by decide) ge_0 rfl inX4 (by decide) rfl u_1_188 ?_
  refine lv_iload_n hx hb dX4_taken_72 rfl (lv_at hl 2 rfl) ?_
  obtain ⟨v17, hv, h⟩ := bd1_e h
  refine g_ki (g_runV (As := [.int x2]) (rest := []) hC hP (c3_slotsOfRoom l hv) (by decide) ge_1 rfl u_4_213 yv_X3_slotsOfRoom (Nat.le_of_ble_eq_true rfl) rfl hl.1 rfl (Nat.le_of_ble_eq_true rfl) dX4_taken_73 ⟨by decide, by decide⟩) hS (fun H locs hP hS => ?_)
  cases h
  refine W.widen (k := 4) (n := 24) (by decide) (by decide) ?_
  exact g_xiret hC hP hS dX4_taken_76 rfl
def r4_insert (T : OS) (P : OS) (Y : OS) (E : Nat → OS) (x1 : Int32) : Option ((Nat ⊕ Int32) × OS × OS × OS × (Nat → OS)) :=
  bd1 (r4_requireEvent T x1) (fun o1 => bx o1 (fun k2 => some ((.inl k2), T, P, Y, E)) (fun _ =>
  (rd 14 (T 9) x1).bind fun v4 =>
  (if v4 = (-1) then bd1 (r1_note T Y E) (fun E6 =>
  bd3 (r2_tryInsert T P x1) (fun v7 T8 P9 =>
  (if v7 = (-1) then some ((.inl 3), T8, P9, Y, E6)
  else bd1 (r1_keepNoted Y) (fun Y11 =>
  some ((.inr v7), T8, P9, Y11, E6)))))
  else some ((.inl 2), T, P, Y, E))))
theorem yv_X4_insert : gYV yX4_insert cX4_insert 3 (some .int) 1 := ⟨u_4_221, u_4_222, u_1_1, u_4_223, ⟨by decide +kernel, by decide +kernel, by decide +kernel⟩, by decide⟩
set_option maxHeartbeats 4000000 in
set_option maxRecDepth 100000 in
theorem c4_insert (l : Launch) (hst : l.stackTraces = false) {γ : GA} {sz : Nat} {T P X Y B M : OS} {E : Nat → OS} {O : Nat → Int64} {x1 : Int32} {o0 : Nat ⊕ Int32} {Tz : OS} {Pz : OS} {Yz : OS} {Ez : Nat → OS} (h : r4_insert T P Y E x1 = some (o0, Tz, Pz, Yz, Ez)) : vx_Met l yX4_insert (gU yX4_insert cX4_insert 3 (some .int)) (gR 26 3 18) (gPx γ [.ref (ad γ 0), .int x1] sz (T, P, X, Y, E, B, M, O)) (gQxi γ o0 sz (Tz, Pz, X, Yz, Ez, B, M, O)) (gXC γ o0 sz (Tz, Pz, X, Yz, Ez, B, M, O)) 3 18 (gA γ sz) := by
  refine g_metx hst (fun sz => gQxi γ o0 sz (Tz, Pz, X, Yz, Ez, B, M, O)) (fun sz => gXC γ o0 sz (Tz, Pz, X, Yz, Ez, B, M, O)) (by decide) (Nat.le_of_ble_eq_true rfl) ?_
  intro p e s m args below meth c ls hC hX hP hS hl
  have hx := hC.x
  have hb := hC.b
  have hl : lv_has ls 3 [(0, .ref (ad γ 0)), (1, .int x1)] := hl
  unfold r4_insert at h
  refine lv_aload_n hx hb dX4_insert_0 rfl (lv_at hl 0 rfl) ?_
  refine lv_iload_n hx hb dX4_insert_1 rfl (lv_at hl 1 rfl) ?_
  obtain ⟨o1, hw3, h⟩ := bd1_e h
  rcases o1 with k2 | ⟨⟩
  · have h := bx_l h
    cases h
    exact g_xkev hC hX (g_xrunV (As := [.int x1]) (rest := []) hC hX hP hS (c4_requireEvent l hst hw3) (by decide) ge_0 rfl u_3_114 yv_X4_requireEvent (Nat.le_of_ble_eq_true rfl) rfl hl.1 rfl (Nat.le_of_ble_eq_true rfl) dX4_insert_2 ⟨by decide, by decide⟩) hS rfl (by decide) (by decide)
  have h := bx_r h
  refine g_xkv (g_xrunV (As := [.int x1]) (rest := []) hC hX hP hS (c4_requireEvent l hst hw3) (by decide) ge_0 rfl u_3_114 yv_X4_requireEvent (Nat.le_of_ble_eq_true rfl) rfl hl.1 rfl (Nat.le_of_ble_eq_true rfl) dX4_insert_2 ⟨by decide, by decide⟩) hS (fun H locs hP hS => ?_)
  refine lv_aload_n hx hb dX4_insert_5 rfl (lv_at hl 0 rfl) ?_
  refine g_get hC hP 0 dX4_insert_6 (by decide) ge_0 rfl inX4 (by decide) rfl u_1_188 ?_
  refine g_get hC hP 9 dX4_insert_9 (by decide) ge_1 rfl inX3 (by decide) rfl u_1_68 ?_
  refine lv_iload_n hx hb dX4_insert_12 rfl (lv_at hl 1 rfl) ?_
  obtain ⟨v4, hv, h⟩ := ob h
  refine g_ld hC hP dX4_insert_13 (by decide) ge_11 hv ?_
  refine lv_iconst (v := -1) hx hb dX4_insert_14 (by decide) ?_
  refine lv_icmp_eq (tgt := 28) hx hb dX4_insert_15 (by decide) (fun c5 => ?_) (fun c5 => ?_)
  · rw [if_pos c5] at h
    refine lv_aload_n hx hb dX4_insert_28 rfl (lv_at hl 0 rfl) ?_
    refine g_get hC hP 3 dX4_insert_29 (by decide) ge_0 rfl inX4 (by decide) rfl u_1_191 ?_
    refine lv_aload_n hx hb dX4_insert_32 rfl (lv_at hl 0 rfl) ?_
    refine g_get hC hP 0 dX4_insert_33 (by decide) ge_0 rfl inX4 (by decide) rfl u_1_188 ?_
    obtain ⟨E6, hv, h⟩ := bd1_e h
    refine g_kv (g_runV (As := [.ref (ad γ 1)]) (rest := []) hC hP (c1_note l hv) (by decide) ge_19 rfl u_4_225 yv_X1_note (Nat.le_of_ble_eq_true rfl) rfl hl.1 rfl (Nat.le_of_ble_eq_true rfl) dX4_insert_36 ⟨by decide, by decide⟩) hS (fun H locs hP hS => ?_)
    refine lv_aload_n hx hb dX4_insert_39 rfl (lv_at hl 0 rfl) ?_
    refine g_get hC hP 2 dX4_insert_40 (by decide) ge_0 rfl inX4 (by decide) rfl u_1_190 ?_
    refine lv_iload_n hx hb dX4_insert_43 rfl (lv_at hl 1 rfl) ?_
    obtain ⟨v7, T8, P9, hv, h⟩ := bd3_e h
    refine g_ki (g_runV (As := [.int x1]) (rest := []) hC hP (c2_tryInsert l hv) (by decide) ge_15 rfl u_2_51 yv_X2_tryInsert (Nat.le_of_ble_eq_true rfl) rfl hl.1 rfl (Nat.le_of_ble_eq_true rfl) dX4_insert_44 ⟨by decide, by decide⟩) hS (fun H locs hP hS => ?_)
    refine lv_istore_n (lv' := [(2, .int v7), (0, .ref (ad γ 0)), (1, .int x1)]) hx hb dX4_insert_47 rfl hl (by decide) rfl (fun ls hl => ?_)
    refine lv_iload_n hx hb dX4_insert_48 rfl (lv_at hl 0 rfl) ?_
    refine lv_iconst (v := -1) hx hb dX4_insert_49 (by decide) ?_
    refine lv_icmp_ne (tgt := 63) hx hb dX4_insert_50 (by decide) (fun c10 => ?_) (fun c10 => ?_)
    · rw [if_neg c10] at h
      refine lv_aload_n hx hb dX4_insert_63 rfl (lv_at hl 1 rfl) ?_
      refine g_get hC hP 3 dX4_insert_64 (by decide) ge_0 rfl inX4 (by decide) rfl u_1_191 ?_
      obtain ⟨Y11, hv, h⟩ := bd1_e h
      refine g_kv (g_runV (As := []) (rest := []) hC hP (c1_keepNoted l hv) (by decide) ge_19 rfl u_4_227 yv_X1_keepNoted (Nat.le_of_ble_eq_true rfl) rfl hl.1 rfl (Nat.le_of_ble_eq_true rfl) dX4_insert_67 ⟨by decide, by decide⟩) hS (fun H locs hP hS => ?_)
      refine lv_iload_n hx hb dX4_insert_70 rfl (lv_at hl 0 rfl) ?_
      cases h
      refine W.widen (k := 3) (n := 18) (by decide) (by decide) ?_
      exact g_xiret hC hP hS dX4_insert_71 rfl
    · rw [if_pos c10] at h
      cases h
      exact g_thr hC hX hP hS gx_3 (List.mem_of_getElem? (i := 13) rfl) hl.1 dX4_insert_53 dX4_insert_56 dX4_insert_57 dX4_insert_59 dX4_insert_62 (Nat.le_of_ble_eq_true rfl) (Nat.le_of_ble_eq_true rfl) (by decide) (by decide) (by decide) (by decide) rfl
  · rw [if_neg c5] at h
    cases h
    exact g_thr hC hX hP hS gx_2 (List.mem_of_getElem? (i := 12) rfl) hl.1 dX4_insert_18 dX4_insert_21 dX4_insert_22 dX4_insert_24 dX4_insert_27 (Nat.le_of_ble_eq_true rfl) (Nat.le_of_ble_eq_true rfl) (by decide) (by decide) (by decide) (by decide) rfl
def r4_build_b20 (Y1 : OS) (E2 : Nat → OS) (T_20 : OS) (P_20 : OS) (x1_20 : Int32) : Option ((OS × OS × Int32) ⊕ (OS × OS)) :=
  (if 14 ≤ x1_20 then some (.inr (T_20, P_20))
  else bd2 (r2_nextByRank P_20) (fun v5 P6 =>
  (if v5 = (-1) then some (.inl (T_20, P6, (x1_20 + 1)))
  else bd3 (r2_tryInsert T_20 P6 v5) (fun v8 T9 P10 =>
  some (.inl (T9, P10, (x1_20 + 1)))))))
def r4_build (T : OS) (P : OS) (Y : OS) (E : Nat → OS) : Option (Int32 × OS × OS × OS × (Nat → OS)) :=
  bd2 (r1_keep T Y E) (fun Y1 E2 =>
  bd1 (r2_rankWaiting T P) (fun P3 =>
  bd2 (it3 (r4_build_b20 Y1 E2) 200 T P3 0) (fun T_x20 P_x20 => bd1 (r3_unplaced T_x20) (fun v11 =>
  some (v11, T_x20, P_x20, Y1, E2)))))
theorem yv_X4_build : gYV yX4_build cX4_build 3 (some .int) 0 := ⟨u_1_212, u_1_213, u_1_1, u_1_214, ⟨by decide +kernel, by decide +kernel, by decide +kernel⟩, by decide⟩
set_option maxHeartbeats 4000000 in
set_option maxRecDepth 100000 in
theorem c4_build (l : Launch) {γ : GA} {sz : Nat} {T P X Y B M : OS} {E : Nat → OS} {O : Nat → Int64} {r0 : Int32} {Tz : OS} {Pz : OS} {Yz : OS} {Ez : Nat → OS} (h : r4_build T P Y E = some (r0, Tz, Pz, Yz, Ez)) : Met l yX4_build (gU yX4_build cX4_build 3 (some .int)) (gR 26 0 0) (gPc γ [.ref (ad γ 0)] sz (T, P, X, Y, E, B, M, O)) (gQi γ r0 sz (Tz, Pz, X, Yz, Ez, B, M, O)) 0 0 (gA γ sz) := by
  refine g_met (fun sz => gQi γ r0 sz (Tz, Pz, X, Yz, Ez, B, M, O)) (by decide) (Nat.le_of_ble_eq_true rfl) ?_
  intro p e s m args below meth c ls hC hP hS hl
  have hx := hC.x
  have hb := hC.b
  have hl : lv_has ls 3 [(0, .ref (ad γ 0))] := hl
  unfold r4_build at h
  refine lv_aload_n hx hb dX4_build_0 rfl (lv_at hl 0 rfl) ?_
  refine g_get hC hP 3 dX4_build_1 (by decide) ge_0 rfl inX4 (by decide) rfl u_1_191 ?_
  refine lv_aload_n hx hb dX4_build_4 rfl (lv_at hl 0 rfl) ?_
  refine g_get hC hP 0 dX4_build_5 (by decide) ge_0 rfl inX4 (by decide) rfl u_1_188 ?_
  obtain ⟨Y1, E2, hv, h⟩ := bd2_e h
  refine g_kv (g_runV (As := [.ref (ad γ 1)]) (rest := []) hC hP (c1_keep l hv) (by decide) ge_19 rfl u_1_215 yv_X1_keep (Nat.le_of_ble_eq_true rfl) rfl hl.1 rfl (Nat.le_of_ble_eq_true rfl) dX4_build_8 ⟨by decide, by decide⟩) hS (fun H locs hP hS => ?_)
  refine lv_aload_n hx hb dX4_build_11 rfl (lv_at hl 0 rfl) ?_
  refine g_get hC hP 2 dX4_build_12 (by decide) ge_0 rfl inX4 (by decide) rfl u_1_190 ?_
  obtain ⟨P3, hv, h⟩ := bd1_e h
  refine g_kv (g_runV (As := []) (rest := []) hC hP (c2_rankWaiting l hv) (by decide) ge_15 rfl u_2_1 yv_X2_rankWaiting (Nat.le_of_ble_eq_true rfl) rfl hl.1 rfl (Nat.le_of_ble_eq_true rfl) dX4_build_15 ⟨by decide, by decide⟩) hS (fun H locs hP hS => ?_)
  refine lv_iconst (v := 0) hx hb dX4_build_18 (by decide) ?_
  refine lv_istore_n (lv' := [(1, .int 0), (0, .ref (ad γ 0))]) hx hb dX4_build_19 rfl hl (by decide) rfl (fun ls hl => ?_)
  have L20 := it3_W (r4_build_b20 Y1 E2) (fun (T_20 : OS) (P_20 : OS) (x1_20 : Int32) => ∀ (H : Heap) (locs : List Loc) (ls : Array Slot), va_P γ.1 vwCl (gw γ (T_20, P_20, X, Y1, E2, B, M, O)) H → va_S (gA γ s.heap.size) s.heap H locs → lv_has ls 3 [(0, .ref (ad γ 0)), (1, .int x1_20)] → W p l e (gR 26 0 0) s m args below meth c H locs 0 0 (MQ below (gQi γ r0 s.heap.size (Tz, Pz, X, Yz, Ez, B, M, O)) args s 0 0 (gA γ s.heap.size)) (F0 m 20 ls [])) (fun (r_k : OS × OS) => (∀ (T_x20 : OS) (P_x20 : OS), r_k = (T_x20, P_x20) → ∀ (H : Heap) (locs : List Loc) (ls : Array Slot), va_P γ.1 vwCl (gw γ (T_x20, P_x20, X, Y1, E2, B, M, O)) H → va_S (gA γ s.heap.size) s.heap H locs → lv_has ls 3 [(0, .ref (ad γ 0))] → W p l e (gR 26 0 0) s m args below meth c H locs 0 0 (MQ below (gQi γ r0 s.heap.size (Tz, Pz, X, Yz, Ez, B, M, O)) args s 0 0 (gA γ s.heap.size)) (F0 m 54 ls []))) (by
    intro T_20 P_20 x1_20 o_20 h kS kR H locs ls hP hS hl
    unfold r4_build_b20 at h
    refine lv_iload_n hx hb dX4_build_20 rfl (lv_at hl 1 rfl) ?_
    refine lv_bipush (v := 14) hx hb dX4_build_21 (by decide) ?_
    refine lv_icmp_ge (tgt := 54) hx hb dX4_build_23 (by decide) (fun c4 => ?_) (fun c4 => ?_)
    · rw [if_pos c4] at h
      cases h
      exact kR _ rfl _ _ rfl _ _ _ hP hS (lv_sub hl [0] rfl)
    · rw [if_neg c4] at h
      refine lv_aload_n hx hb dX4_build_26 rfl (lv_at hl 0 rfl) ?_
      refine g_get hC hP 2 dX4_build_27 (by decide) ge_0 rfl inX4 (by decide) rfl u_1_190 ?_
      obtain ⟨v5, P6, hv, h⟩ := bd2_e h
      refine g_ki (g_runV (As := []) (rest := []) hC hP (c2_nextByRank l hv) (by decide) ge_15 rfl u_2_44 yv_X2_nextByRank (Nat.le_of_ble_eq_true rfl) rfl hl.1 rfl (Nat.le_of_ble_eq_true rfl) dX4_build_30 ⟨by decide, by decide⟩) hS (fun H locs hP hS => ?_)
      refine lv_istore_n (lv' := [(2, .int v5), (0, .ref (ad γ 0)), (1, .int x1_20)]) hx hb dX4_build_33 rfl hl (by decide) rfl (fun ls hl => ?_)
      refine lv_iload_n hx hb dX4_build_34 rfl (lv_at hl 0 rfl) ?_
      refine lv_iconst (v := -1) hx hb dX4_build_35 (by decide) ?_
      refine lv_icmp_eq (tgt := 48) hx hb dX4_build_36 (by decide) (fun c7 => ?_) (fun c7 => ?_)
      · rw [if_pos c7] at h
        refine lv_iinc (v := (x1_20 + 1)) (lv' := [(1, .int (x1_20 + 1)), (2, .int v5), (0, .ref (ad γ 0))]) hx hb dX4_build_48 hl (k := 2) rfl rfl (by decide) rfl (fun ls hl => ?_)
        refine lv_goto (tgt := 20) hx hb dX4_build_51 (by decide) ?_
        cases h
        exact kS _ _ _ rfl _ _ _ hP hS (lv_sub hl [2, 0] rfl)
      · rw [if_neg c7] at h
        refine lv_aload_n hx hb dX4_build_39 rfl (lv_at hl 1 rfl) ?_
        refine g_get hC hP 2 dX4_build_40 (by decide) ge_0 rfl inX4 (by decide) rfl u_1_190 ?_
        refine lv_iload_n hx hb dX4_build_43 rfl (lv_at hl 0 rfl) ?_
        obtain ⟨v8, T9, P10, hv, h⟩ := bd3_e h
        refine g_ki (g_runV (As := [.int v5]) (rest := []) hC hP (c2_tryInsert l hv) (by decide) ge_15 rfl u_2_51 yv_X2_tryInsert (Nat.le_of_ble_eq_true rfl) rfl hl.1 rfl (Nat.le_of_ble_eq_true rfl) dX4_build_44 ⟨by decide, by decide⟩) hS (fun H locs hP hS => ?_)
        refine lv_pop hx hb dX4_build_47 rfl ?_
        refine lv_iinc (v := (x1_20 + 1)) (lv' := [(1, .int (x1_20 + 1)), (2, .int v5), (0, .ref (ad γ 0))]) hx hb dX4_build_48 hl (k := 2) rfl rfl (by decide) rfl (fun ls hl => ?_)
        refine lv_goto (tgt := 20) hx hb dX4_build_51 (by decide) ?_
        cases h
        exact kS _ _ _ rfl _ _ _ hP hS (lv_sub hl [2, 0] rfl))
  obtain ⟨T_x20, P_x20, hv, h⟩ := bd2_e h
  refine L20 _ _ _ _ _ hv (fun q0 q1 e9 H locs ls hP hS hl => ?_) _ _ _ hP hS (lv_sub hl [1, 0] rfl)
  obtain ⟨rfl, rfl⟩ := inj2 e9
  refine lv_aload_n hx hb dX4_build_54 rfl (lv_at hl 0 rfl) ?_
  refine g_get hC hP 0 dX4_build_55 (by decide) ge_0 rfl inX4 (by decide) rfl u_1_188 ?_
  obtain ⟨v11, hv, h⟩ := bd1_e h
  refine g_ki (g_runV (As := []) (rest := []) hC hP (c3_unplaced l hv) (by decide) ge_1 rfl u_2_101 yv_X3_unplaced (Nat.le_of_ble_eq_true rfl) rfl hl.1 rfl (Nat.le_of_ble_eq_true rfl) dX4_build_58 ⟨by decide, by decide⟩) hS (fun H locs hP hS => ?_)
  cases h
  exact g_iret hC hP hS dX4_build_61 rfl
def r4_chain_j41 (T : OS)  : Option ((Nat ⊕ Int32)) :=
  some (.inl 2)
def r4_chain (T : OS) (x1 : Int32) (x2 : Int32) : Option ((Nat ⊕ Int32)) :=
  bd1 (r4_requireEvent T x1) (fun o1 => bx o1 (fun k2 => some (.inl k2)) (fun _ =>
  bd1 (r4_requireIndex x2 10) (fun o4 => bx o4 (fun k5 => some (.inl k5)) (fun _ =>
  bd1 (r4_requirePlaced T x1) (fun o7 => bx o7 (fun k8 => some (.inl k8)) (fun _ =>
  (rd 14 (T 8) x1).bind fun v10 =>
  (if v10 = 2 then r4_chain_j41 T
  else bd1 (r3_slotOf T x1) (fun v12 =>
  (if v12 = x2 then r4_chain_j41 T
  else bd1 (r2_chainOf T x1 x2) (fun v14 =>
  some (.inr v14)))))))))))
theorem yv_X4_chain : gYV yX4_chain cX4_chain 3 (some .int) 2 := ⟨u_4_236, u_4_237, u_1_1, u_4_238, ⟨by decide +kernel, by decide +kernel, by decide +kernel⟩, by decide⟩
set_option maxHeartbeats 4000000 in
set_option maxRecDepth 100000 in
theorem c4_chain (l : Launch) (hst : l.stackTraces = false) {γ : GA} {sz : Nat} {T P X Y B M : OS} {E : Nat → OS} {O : Nat → Int64} {x1 : Int32} {x2 : Int32} {o0 : Nat ⊕ Int32} (h : r4_chain T x1 x2 = some o0) : vx_Met l yX4_chain (gU yX4_chain cX4_chain 3 (some .int)) (gR 7 4 24) (gPx γ [.ref (ad γ 0), .int x1, .int x2] sz (T, P, X, Y, E, B, M, O)) (gQxi γ o0 sz (T, P, X, Y, E, B, M, O)) (gXC γ o0 sz (T, P, X, Y, E, B, M, O)) 4 24 (gA γ sz) := by
  refine g_metx hst (fun sz => gQxi γ o0 sz (T, P, X, Y, E, B, M, O)) (fun sz => gXC γ o0 sz (T, P, X, Y, E, B, M, O)) (by decide) (Nat.le_of_ble_eq_true rfl) ?_
  intro p e s m args below meth c ls hC hX hP hS hl
  have hx := hC.x
  have hb := hC.b
  have hl : lv_has ls 3 [(0, .ref (ad γ 0)), (1, .int x1), (2, .int x2)] := hl
  unfold r4_chain at h
  have J41 : ∀ (h : r4_chain_j41 T = some o0), ∀ (H : Heap) (locs : List Loc) (ls : Array Slot), va_P γ.1 vwCl (gw γ (T, P, X, Y, E, B, M, O)) H → va_S (gA γ s.heap.size) s.heap H locs → lv_has ls 3 [] → W p l e (gR 7 4 24) s m args below meth c H locs 3 18 (vx_MQ below (gQxi γ o0 s.heap.size (T, P, X, Y, E, B, M, O)) (gXC γ o0 s.heap.size (T, P, X, Y, E, B, M, O)) args s 4 24 (gA γ s.heap.size)) (F0 m 41 ls []) := by
    intro h H locs ls hP hS hl
    unfold r4_chain_j41 at h
    cases h
    exact g_thrW hC hX hP hS gx_2 (List.mem_of_getElem? (i := 14) rfl) hl.1 dX4_chain_41 dX4_chain_44 dX4_chain_45 dX4_chain_48 dX4_chain_51 (Nat.le_of_ble_eq_true rfl) (Nat.le_of_ble_eq_true rfl) (by decide) (by decide) (by decide) (by decide) rfl
  refine lv_aload_n hx hb dX4_chain_0 rfl (lv_at hl 0 rfl) ?_
  refine lv_iload_n hx hb dX4_chain_1 rfl (lv_at hl 1 rfl) ?_
  obtain ⟨o1, hw3, h⟩ := bd1_e h
  rcases o1 with k2 | ⟨⟩
  · have h := bx_l h
    cases h
    exact g_xkev hC hX (g_xrunV (As := [.int x1]) (rest := []) hC hX hP hS (c4_requireEvent l hst hw3) (by decide) ge_0 rfl u_3_114 yv_X4_requireEvent (Nat.le_of_ble_eq_true rfl) rfl hl.1 rfl (Nat.le_of_ble_eq_true rfl) dX4_chain_2 ⟨by decide, by decide⟩) hS rfl (by decide) (by decide)
  have h := bx_r h
  refine g_xkv (g_xrunV (As := [.int x1]) (rest := []) hC hX hP hS (c4_requireEvent l hst hw3) (by decide) ge_0 rfl u_3_114 yv_X4_requireEvent (Nat.le_of_ble_eq_true rfl) rfl hl.1 rfl (Nat.le_of_ble_eq_true rfl) dX4_chain_2 ⟨by decide, by decide⟩) hS (fun H locs hP hS => ?_)
  refine lv_iload_n hx hb dX4_chain_5 rfl (lv_at hl 2 rfl) ?_
  refine lv_bipush (v := 10) hx hb dX4_chain_6 (by decide) ?_
  obtain ⟨o4, hw6, h⟩ := bd1_e h
  rcases o4 with k5 | ⟨⟩
  · have h := bx_l h
    cases h
    exact g_xkev hC hX (g_xrunS (As := [.int x2, .int 10]) (rest := []) hC hX hP hS (c4_requireIndex l hst hw6) u_2_133 yv_X4_requireIndex (Nat.le_of_ble_eq_true rfl) rfl hl.1 rfl (Nat.le_of_ble_eq_true rfl) dX4_chain_8 ⟨by decide, by decide⟩) hS rfl (by decide) (by decide)
  have h := bx_r h
  refine g_xkv (g_xrunS (As := [.int x2, .int 10]) (rest := []) hC hX hP hS (c4_requireIndex l hst hw6) u_2_133 yv_X4_requireIndex (Nat.le_of_ble_eq_true rfl) rfl hl.1 rfl (Nat.le_of_ble_eq_true rfl) dX4_chain_8 ⟨by decide, by decide⟩) hS (fun H locs hP hS => ?_)
  refine lv_aload_n hx hb dX4_chain_11 rfl (lv_at hl 0 rfl) ?_
  refine lv_iload_n hx hb dX4_chain_12 rfl (lv_at hl 1 rfl) ?_
  obtain ⟨o7, hw9, h⟩ := bd1_e h
  rcases o7 with k8 | ⟨⟩
  · have h := bx_l h
    cases h
    exact g_xkev hC hX (g_xrunV (As := [.int x1]) (rest := []) hC hX hP hS (c4_requirePlaced l hst hw9) (by decide) ge_0 rfl u_4_127 yv_X4_requirePlaced (Nat.le_of_ble_eq_true rfl) rfl hl.1 rfl (Nat.le_of_ble_eq_true rfl) dX4_chain_13 ⟨by decide, by decide⟩) hS rfl (by decide) (by decide)
  have h := bx_r h
  refine g_xkv (g_xrunV (As := [.int x1]) (rest := []) hC hX hP hS (c4_requirePlaced l hst hw9) (by decide) ge_0 rfl u_4_127 yv_X4_requirePlaced (Nat.le_of_ble_eq_true rfl) rfl hl.1 rfl (Nat.le_of_ble_eq_true rfl) dX4_chain_13 ⟨by decide, by decide⟩) hS (fun H locs hP hS => ?_)
  refine lv_aload_n hx hb dX4_chain_16 rfl (lv_at hl 0 rfl) ?_
  refine g_get hC hP 0 dX4_chain_17 (by decide) ge_0 rfl inX4 (by decide) rfl u_1_188 ?_
  refine g_get hC hP 8 dX4_chain_20 (by decide) ge_1 rfl inX3 (by decide) rfl u_1_64 ?_
  refine lv_iload_n hx hb dX4_chain_23 rfl (lv_at hl 1 rfl) ?_
  obtain ⟨v10, hv, h⟩ := ob h
  refine g_ld hC hP dX4_chain_24 (by decide) ge_10 hv ?_
  refine lv_iconst (v := 2) hx hb dX4_chain_25 (by decide) ?_
  refine lv_icmp_eq (tgt := 41) hx hb dX4_chain_26 (by decide) (fun c11 => ?_) (fun c11 => ?_)
  · rw [if_pos c11] at h
    refine W.widen (k := 3) (n := 18) (by decide) (by decide) ?_
    exact J41 h _ _ _ hP hS (lv_sub hl [] rfl)
  · rw [if_neg c11] at h
    refine lv_aload_n hx hb dX4_chain_29 rfl (lv_at hl 0 rfl) ?_
    refine g_get hC hP 0 dX4_chain_30 (by decide) ge_0 rfl inX4 (by decide) rfl u_1_188 ?_
    refine lv_iload_n hx hb dX4_chain_33 rfl (lv_at hl 1 rfl) ?_
    obtain ⟨v12, hv, h⟩ := bd1_e h
    refine g_ki (g_runV (As := [.int x1]) (rest := []) hC hP (c3_slotOf l hv) (by decide) ge_1 rfl u_4_239 yv_X3_slotOf (Nat.le_of_ble_eq_true rfl) rfl hl.1 rfl (Nat.le_of_ble_eq_true rfl) dX4_chain_34 ⟨by decide, by decide⟩) hS (fun H locs hP hS => ?_)
    refine lv_iload_n hx hb dX4_chain_37 rfl (lv_at hl 2 rfl) ?_
    refine lv_icmp_ne (tgt := 52) hx hb dX4_chain_38 (by decide) (fun c13 => ?_) (fun c13 => ?_)
    · rw [if_neg c13] at h
      refine lv_aload_n hx hb dX4_chain_52 rfl (lv_at hl 0 rfl) ?_
      refine g_get hC hP 2 dX4_chain_53 (by decide) ge_0 rfl inX4 (by decide) rfl u_1_190 ?_
      refine lv_iload_n hx hb dX4_chain_56 rfl (lv_at hl 1 rfl) ?_
      refine lv_iload_n hx hb dX4_chain_57 rfl (lv_at hl 2 rfl) ?_
      obtain ⟨v14, hv, h⟩ := bd1_e h
      refine g_ki (g_runV (As := [.int x1, .int x2]) (rest := []) hC hP (c2_chainOf l hv) (by decide) ge_15 rfl u_5_4 yv_X2_chainOf (Nat.le_of_ble_eq_true rfl) rfl hl.1 rfl (Nat.le_of_ble_eq_true rfl) dX4_chain_58 ⟨by decide, by decide⟩) hS (fun H locs hP hS => ?_)
      cases h
      refine W.widen (k := 4) (n := 24) (by decide) (by decide) ?_
      exact g_xiret hC hP hS dX4_chain_61 rfl
    · rw [if_pos c13] at h
      refine W.widen (k := 3) (n := 18) (by decide) (by decide) ?_
      exact J41 h _ _ _ hP hS (lv_sub hl [] rfl)
def r4_exchange (T : OS) (P : OS) (Y : OS) (E : Nat → OS) (x1 : Int32) (x2 : Int32) : Option ((Nat ⊕ Int32) × OS × OS × OS × (Nat → OS)) :=
  bd1 (r4_chain T x1 x2) (fun o2 => bx o2 (fun k3 => some ((.inl k3), T, P, Y, E)) (fun v1 =>
  bd1 (r3_slotOf T x1) (fun v5 =>
  bd2 (r2_findRooms T P v1 v5 x2) (fun v6 P7 =>
  (if v6 = 0 then some ((.inl 3), T, P7, Y, E)
  else bd2 (r1_keep T Y E) (fun Y9 E10 =>
  bd1 (r2_swapSlots T P7 v1 v5 x2) (fun T11 =>
  bd1 (r6_bitCount_0f7a4 v1) (fun v12 =>
  some ((.inr v12), T11, P7, Y9, E10)))))))))
theorem yv_X4_exchange : gYV yX4_exchange cX4_exchange 5 (some .int) 2 := ⟨u_4_232, u_4_233, u_1_1, u_4_234, ⟨by decide +kernel, by decide +kernel, by decide +kernel⟩, by decide⟩
set_option maxHeartbeats 4000000 in
set_option maxRecDepth 100000 in
theorem c4_exchange (l : Launch) (hst : l.stackTraces = false) {γ : GA} {sz : Nat} {T P X Y B M : OS} {E : Nat → OS} {O : Nat → Int64} {x1 : Int32} {x2 : Int32} {o0 : Nat ⊕ Int32} {Tz : OS} {Pz : OS} {Yz : OS} {Ez : Nat → OS} (h : r4_exchange T P Y E x1 x2 = some (o0, Tz, Pz, Yz, Ez)) : vx_Met l yX4_exchange (gU yX4_exchange cX4_exchange 5 (some .int)) (gR 23 5 30) (gPx γ [.ref (ad γ 0), .int x1, .int x2] sz (T, P, X, Y, E, B, M, O)) (gQxi γ o0 sz (Tz, Pz, X, Yz, Ez, B, M, O)) (gXC γ o0 sz (Tz, Pz, X, Yz, Ez, B, M, O)) 5 30 (gA γ sz) := by
  refine g_metx hst (fun sz => gQxi γ o0 sz (Tz, Pz, X, Yz, Ez, B, M, O)) (fun sz => gXC γ o0 sz (Tz, Pz, X, Yz, Ez, B, M, O)) (by decide) (Nat.le_of_ble_eq_true rfl) ?_
  intro p e s m args below meth c ls hC hX hP hS hl
  have hx := hC.x
  have hb := hC.b
  have hl : lv_has ls 5 [(0, .ref (ad γ 0)), (1, .int x1), (2, .int x2)] := hl
  unfold r4_exchange at h
  refine lv_aload_n hx hb dX4_exchange_0 rfl (lv_at hl 0 rfl) ?_
  refine lv_iload_n hx hb dX4_exchange_1 rfl (lv_at hl 1 rfl) ?_
  refine lv_iload_n hx hb dX4_exchange_2 rfl (lv_at hl 2 rfl) ?_
  obtain ⟨o2, hw4, h⟩ := bd1_e h
  rcases o2 with k3 | v1
  · have h := bx_l h
    cases h
    exact g_xkei hC hX (g_xrunV (As := [.int x1, .int x2]) (rest := []) hC hX hP hS (c4_chain l hst hw4) (by decide) ge_0 rfl u_4_235 yv_X4_chain (Nat.le_of_ble_eq_true rfl) rfl hl.1 rfl (Nat.le_of_ble_eq_true rfl) dX4_exchange_3 ⟨by decide, by decide⟩) hS rfl (by decide) (by decide)
  have h := bx_r h
  refine g_xki (g_xrunV (As := [.int x1, .int x2]) (rest := []) hC hX hP hS (c4_chain l hst hw4) (by decide) ge_0 rfl u_4_235 yv_X4_chain (Nat.le_of_ble_eq_true rfl) rfl hl.1 rfl (Nat.le_of_ble_eq_true rfl) dX4_exchange_3 ⟨by decide, by decide⟩) hS (fun H locs hP hS => ?_)
  refine lv_istore_n (lv' := [(3, .int v1), (0, .ref (ad γ 0)), (1, .int x1), (2, .int x2)]) hx hb dX4_exchange_6 rfl hl (by decide) rfl (fun ls hl => ?_)
  refine lv_aload_n hx hb dX4_exchange_7 rfl (lv_at hl 1 rfl) ?_
  refine g_get hC hP 0 dX4_exchange_8 (by decide) ge_0 rfl inX4 (by decide) rfl u_1_188 ?_
  refine lv_iload_n hx hb dX4_exchange_11 rfl (lv_at hl 2 rfl) ?_
  obtain ⟨v5, hv, h⟩ := bd1_e h
  refine g_ki (g_runV (As := [.int x1]) (rest := []) hC hP (c3_slotOf l hv) (by decide) ge_1 rfl u_4_239 yv_X3_slotOf (Nat.le_of_ble_eq_true rfl) rfl hl.1 rfl (Nat.le_of_ble_eq_true rfl) dX4_exchange_12 ⟨by decide, by decide⟩) hS (fun H locs hP hS => ?_)
  refine lv_istore (lv' := [(4, .int v5), (3, .int v1), (0, .ref (ad γ 0)), (1, .int x1), (2, .int x2)]) hx hb dX4_exchange_15 hl (by decide) rfl (fun ls hl => ?_)
  refine lv_aload_n hx hb dX4_exchange_17 rfl (lv_at hl 2 rfl) ?_
  refine g_get hC hP 2 dX4_exchange_18 (by decide) ge_0 rfl inX4 (by decide) rfl u_1_190 ?_
  refine lv_iload_n hx hb dX4_exchange_21 rfl (lv_at hl 1 rfl) ?_
  refine lv_iload hx hb dX4_exchange_22 (lv_at hl 0 rfl) ?_
  refine lv_iload_n hx hb dX4_exchange_24 rfl (lv_at hl 4 rfl) ?_
  obtain ⟨v6, P7, hv, h⟩ := bd2_e h
  refine g_ki (g_runV (As := [.int v1, .int v5, .int x2]) (rest := []) hC hP (c2_findRooms l hv) (by decide) ge_15 rfl u_5_12 yv_X2_findRooms (Nat.le_of_ble_eq_true rfl) rfl hl.1 rfl (Nat.le_of_ble_eq_true rfl) dX4_exchange_25 ⟨by decide, by decide⟩) hS (fun H locs hP hS => ?_)
  refine lv_if_ne (tgt := 41) hx hb dX4_exchange_28 (by decide) (fun c8 => ?_) (fun c8 => ?_)
  · rw [if_neg c8] at h
    refine lv_aload_n hx hb dX4_exchange_41 rfl (lv_at hl 2 rfl) ?_
    refine g_get hC hP 3 dX4_exchange_42 (by decide) ge_0 rfl inX4 (by decide) rfl u_1_191 ?_
    refine lv_aload_n hx hb dX4_exchange_45 rfl (lv_at hl 2 rfl) ?_
    refine g_get hC hP 0 dX4_exchange_46 (by decide) ge_0 rfl inX4 (by decide) rfl u_1_188 ?_
    obtain ⟨Y9, E10, hv, h⟩ := bd2_e h
    refine g_kv (g_runV (As := [.ref (ad γ 1)]) (rest := []) hC hP (c1_keep l hv) (by decide) ge_19 rfl u_1_215 yv_X1_keep (Nat.le_of_ble_eq_true rfl) rfl hl.1 rfl (Nat.le_of_ble_eq_true rfl) dX4_exchange_49 ⟨by decide, by decide⟩) hS (fun H locs hP hS => ?_)
    refine lv_aload_n hx hb dX4_exchange_52 rfl (lv_at hl 2 rfl) ?_
    refine g_get hC hP 2 dX4_exchange_53 (by decide) ge_0 rfl inX4 (by decide) rfl u_1_190 ?_
    refine lv_iload_n hx hb dX4_exchange_56 rfl (lv_at hl 1 rfl) ?_
    refine lv_iload hx hb dX4_exchange_57 (lv_at hl 0 rfl) ?_
    refine lv_iload_n hx hb dX4_exchange_59 rfl (lv_at hl 4 rfl) ?_
    obtain ⟨T11, hv, h⟩ := bd1_e h
    refine g_kv (g_runV (As := [.int v1, .int v5, .int x2]) (rest := []) hC hP (c2_swapSlots l hv) (by decide) ge_15 rfl u_5_35 yv_X2_swapSlots (Nat.le_of_ble_eq_true rfl) rfl hl.1 rfl (Nat.le_of_ble_eq_true rfl) dX4_exchange_60 ⟨by decide, by decide⟩) hS (fun H locs hP hS => ?_)
    refine lv_iload_n hx hb dX4_exchange_63 rfl (lv_at hl 1 rfl) ?_
    obtain ⟨v12, hv, h⟩ := bd1_e h
    refine g_ki (g_runS (As := [.int v1]) (rest := []) hC hP (c6_bitCount_0f7a4 l hv) u_5_40 yv_J6_bitCount_0f7a4 (Nat.le_of_ble_eq_true rfl) rfl hl.1 rfl (Nat.le_of_ble_eq_true rfl) dX4_exchange_64 ⟨by decide, by decide⟩) hS (fun H locs hP hS => ?_)
    cases h
    refine W.widen (k := 5) (n := 30) (by decide) (by decide) ?_
    exact g_xiret hC hP hS dX4_exchange_67 rfl
  · rw [if_pos c8] at h
    cases h
    exact g_thr hC hX hP hS gx_3 (List.mem_of_getElem? (i := 15) rfl) hl.1 dX4_exchange_31 dX4_exchange_34 dX4_exchange_35 dX4_exchange_37 dX4_exchange_40 (Nat.le_of_ble_eq_true rfl) (Nat.le_of_ble_eq_true rfl) (by decide) (by decide) (by decide) (by decide) rfl
def r4_improve_b19 (Y4 : OS) (E5 : Nat → OS) (x1 : Int32) (T_19 : OS) (x2_19 : Int32) : Option ((OS × Int32) ⊕ ((OS) ⊕ ((Nat ⊕ Int32) × OS × OS × (Nat → OS)))) :=
  (if x1 ≤ x2_19 then some (.inr (.inl T_19))
  else bd2 (r2_makeStep T_19) (fun v7 T8 =>
  (if v7 = 0 then some (.inr (.inr ((.inr x2_19), T8, Y4, E5)))
  else some (.inl (T8, (x2_19 + 1))))))
def r4_improve (T : OS) (Y : OS) (E : Nat → OS) (x1 : Int32) : Option ((Nat ⊕ Int32) × OS × OS × (Nat → OS)) :=
  bd1 (r4_requireRange x1 1 5) (fun o1 => bx o1 (fun k2 => some ((.inl k2), T, Y, E)) (fun _ =>
  bd2 (r1_keep T Y E) (fun Y4 E5 =>
  bs1 (it2 (r4_improve_b19 Y4 E5 x1) 200 T 0) (fun T_x19 => some ((.inr x1), T_x19, Y4, E5)) (fun t10 => some t10))))
theorem yv_X4_improve : gYV yX4_improve cX4_improve 3 (some .int) 1 := ⟨u_5_49, u_5_50, u_1_1, u_5_51, ⟨by decide +kernel, by decide +kernel, by decide +kernel⟩, by decide⟩
set_option maxHeartbeats 4000000 in
set_option maxRecDepth 100000 in
theorem c4_improve (l : Launch) (hst : l.stackTraces = false) {γ : GA} {sz : Nat} {T P X Y B M : OS} {E : Nat → OS} {O : Nat → Int64} {x1 : Int32} {o0 : Nat ⊕ Int32} {Tz : OS} {Yz : OS} {Ez : Nat → OS} (h : r4_improve T Y E x1 = some (o0, Tz, Yz, Ez)) : vx_Met l yX4_improve (gU yX4_improve cX4_improve 3 (some .int)) (gR 7 1 6) (gPx γ [.ref (ad γ 0), .int x1] sz (T, P, X, Y, E, B, M, O)) (gQxi γ o0 sz (Tz, P, X, Yz, Ez, B, M, O)) (gXC γ o0 sz (Tz, P, X, Yz, Ez, B, M, O)) 1 6 (gA γ sz) := by
  refine g_metx hst (fun sz => gQxi γ o0 sz (Tz, P, X, Yz, Ez, B, M, O)) (fun sz => gXC γ o0 sz (Tz, P, X, Yz, Ez, B, M, O)) (by decide) (Nat.le_of_ble_eq_true rfl) ?_
  intro p e s m args below meth c ls hC hX hP hS hl
  have hx := hC.x
  have hb := hC.b
  have hl : lv_has ls 3 [(0, .ref (ad γ 0)), (1, .int x1)] := hl
  unfold r4_improve at h
  refine lv_iload_n hx hb dX4_improve_0 rfl (lv_at hl 1 rfl) ?_
  refine lv_iconst (v := 1) hx hb dX4_improve_1 (by decide) ?_
  refine lv_iconst (v := 5) hx hb dX4_improve_2 (by decide) ?_
  obtain ⟨o1, hw3, h⟩ := bd1_e h
  rcases o1 with k2 | ⟨⟩
  · have h := bx_l h
    cases h
    exact g_xkev hC hX (g_xrunS (As := [.int x1, .int 1, .int 5]) (rest := []) hC hX hP hS (c4_requireRange l hst hw3) u_2_206 yv_X4_requireRange (Nat.le_of_ble_eq_true rfl) rfl hl.1 rfl (Nat.le_of_ble_eq_true rfl) dX4_improve_3 ⟨by decide, by decide⟩) hS rfl (by decide) (by decide)
  have h := bx_r h
  refine g_xkv (g_xrunS (As := [.int x1, .int 1, .int 5]) (rest := []) hC hX hP hS (c4_requireRange l hst hw3) u_2_206 yv_X4_requireRange (Nat.le_of_ble_eq_true rfl) rfl hl.1 rfl (Nat.le_of_ble_eq_true rfl) dX4_improve_3 ⟨by decide, by decide⟩) hS (fun H locs hP hS => ?_)
  refine lv_aload_n hx hb dX4_improve_6 rfl (lv_at hl 0 rfl) ?_
  refine g_get hC hP 3 dX4_improve_7 (by decide) ge_0 rfl inX4 (by decide) rfl u_1_191 ?_
  refine lv_aload_n hx hb dX4_improve_10 rfl (lv_at hl 0 rfl) ?_
  refine g_get hC hP 0 dX4_improve_11 (by decide) ge_0 rfl inX4 (by decide) rfl u_1_188 ?_
  obtain ⟨Y4, E5, hv, h⟩ := bd2_e h
  refine g_kv (g_runV (As := [.ref (ad γ 1)]) (rest := []) hC hP (c1_keep l hv) (by decide) ge_19 rfl u_1_215 yv_X1_keep (Nat.le_of_ble_eq_true rfl) rfl hl.1 rfl (Nat.le_of_ble_eq_true rfl) dX4_improve_14 ⟨by decide, by decide⟩) hS (fun H locs hP hS => ?_)
  refine lv_iconst (v := 0) hx hb dX4_improve_17 (by decide) ?_
  refine lv_istore_n (lv' := [(2, .int 0), (0, .ref (ad γ 0)), (1, .int x1)]) hx hb dX4_improve_18 rfl hl (by decide) rfl (fun ls hl => ?_)
  have L19 := it2_W (r4_improve_b19 Y4 E5 x1) (fun (T_19 : OS) (x2_19 : Int32) => ∀ (H : Heap) (locs : List Loc) (ls : Array Slot), va_P γ.1 vwCl (gw γ (T_19, P, X, Y4, E5, B, M, O)) H → va_S (gA γ s.heap.size) s.heap H locs → lv_has ls 3 [(0, .ref (ad γ 0)), (1, .int x1), (2, .int x2_19)] → W p l e (gR 7 1 6) s m args below meth c H locs 1 6 (vx_MQ below (gQxi γ o0 s.heap.size (Tz, P, X, Yz, Ez, B, M, O)) (gXC γ o0 s.heap.size (Tz, P, X, Yz, Ez, B, M, O)) args s 1 6 (gA γ s.heap.size)) (F0 m 19 ls [])) (fun (r_k : (OS) ⊕ ((Nat ⊕ Int32) × OS × OS × (Nat → OS))) => (∀ (T_x19 : OS), r_k = .inl T_x19 → ∀ (H : Heap) (locs : List Loc) (ls : Array Slot), va_P γ.1 vwCl (gw γ (T_x19, P, X, Y4, E5, B, M, O)) H → va_S (gA γ s.heap.size) s.heap H locs → lv_has ls 3 [(1, .int x1)] → W p l e (gR 7 1 6) s m args below meth c H locs 1 6 (vx_MQ below (gQxi γ o0 s.heap.size (Tz, P, X, Yz, Ez, B, M, O)) (gXC γ o0 s.heap.size (Tz, P, X, Yz, Ez, B, M, O)) args s 1 6 (gA γ s.heap.size)) (F0 m 42 ls [])) ∧ (∀ t_k, r_k = .inr t_k → t_k = (o0, Tz, Yz, Ez))) (by
    intro T_19 x2_19 o_19 h kS kR H locs ls hP hS hl
    unfold r4_improve_b19 at h
    refine lv_iload_n hx hb dX4_improve_19 rfl (lv_at hl 2 rfl) ?_
    refine lv_iload_n hx hb dX4_improve_20 rfl (lv_at hl 1 rfl) ?_
    refine lv_icmp_ge (tgt := 42) hx hb dX4_improve_21 (by decide) (fun c6 => ?_) (fun c6 => ?_)
    · rw [if_pos c6] at h
      cases h
      exact (kR _ rfl).1 _ rfl _ _ _ hP hS (lv_sub hl [1] rfl)
    · rw [if_neg c6] at h
      refine lv_aload_n hx hb dX4_improve_24 rfl (lv_at hl 0 rfl) ?_
      refine g_get hC hP 2 dX4_improve_25 (by decide) ge_0 rfl inX4 (by decide) rfl u_1_190 ?_
      obtain ⟨v7, T8, hv, h⟩ := bd2_e h
      refine g_ki (g_runV (As := []) (rest := []) hC hP (c2_makeStep l hv) (by decide) ge_15 rfl u_5_52 yv_X2_makeStep (Nat.le_of_ble_eq_true rfl) rfl hl.1 rfl (Nat.le_of_ble_eq_true rfl) dX4_improve_28 ⟨by decide, by decide⟩) hS (fun H locs hP hS => ?_)
      refine lv_if_ne (tgt := 36) hx hb dX4_improve_31 (by decide) (fun c9 => ?_) (fun c9 => ?_)
      · rw [if_neg c9] at h
        refine lv_iinc (v := (x2_19 + 1)) (lv' := [(2, .int (x2_19 + 1)), (0, .ref (ad γ 0)), (1, .int x1)]) hx hb dX4_improve_36 hl (k := 2) rfl rfl (by decide) rfl (fun ls hl => ?_)
        refine lv_goto (tgt := 19) hx hb dX4_improve_39 (by decide) ?_
        cases h
        exact kS _ _ rfl _ _ _ hP hS (lv_sub hl [1, 2, 0] rfl)
      · rw [if_pos c9] at h
        refine lv_iload_n hx hb dX4_improve_34 rfl (lv_at hl 2 rfl) ?_
        cases h
        cases (kR _ rfl).2 _ rfl
        refine W.widen (k := 1) (n := 6) (by decide) (by decide) ?_
        exact g_xiret hC hP hS dX4_improve_35 rfl)
  refine W.widen (k := 1) (n := 6) (by decide) (by decide) ?_
  rcases bs1_e h with ⟨T_x19, hv, h⟩ | ⟨t10, hv, h⟩
  · refine L19 _ _ _ _ hv ⟨fun q0 e9 H locs ls hP hS hl => ?_, fun t9 e9 => nomatch e9⟩ _ _ _ hP hS (lv_sub hl [1, 2, 0] rfl)
    obtain rfl := (Sum.inl.inj e9)
    refine lv_iload_n hx hb dX4_improve_42 rfl (lv_at hl 0 rfl) ?_
    cases h
    refine W.widen (k := 1) (n := 6) (by decide) (by decide) ?_
    exact g_xiret hC hP hS dX4_improve_43 rfl
  · refine L19 _ _ _ _ hv ⟨fun q0 e9 => (nomatch e9), fun t9 e9 => ?_⟩ _ _ _ hP hS (lv_sub hl [1, 2, 0] rfl)
    cases e9
    exact Option.some.inj h
def r4_cost (T : OS) (x1 : Int32) : Option ((Nat ⊕ Int32)) :=
  (if x1 = 0 then bd1 (r3_gaps T) (fun v6 =>
  some (.inr v6))
  else (if x1 = 1 then bd1 (r3_lateOnes T) (fun v7 =>
  some (.inr v7))
  else (if x1 = 2 then bd1 (r3_slack T) (fun v8 =>
  some (.inr v8))
  else (if x1 = 3 then bd1 (r3_unplaced T) (fun v9 =>
  some (.inr v9))
  else (if x1 = 4 then bd1 (r3_totalCost T) (fun v10 =>
  some (.inr v10))
  else some (.inl 1))))))
theorem yv_X4_cost : gYV yX4_cost cX4_cost 2 (some .int) 1 := ⟨u_5_90, u_5_91, u_1_1, u_5_92, ⟨by decide +kernel, by decide +kernel, by decide +kernel⟩, by decide⟩
set_option maxHeartbeats 4000000 in
set_option maxRecDepth 100000 in
theorem c4_cost (l : Launch) (hst : l.stackTraces = false) {γ : GA} {sz : Nat} {T P X Y B M : OS} {E : Nat → OS} {O : Nat → Int64} {x1 : Int32} {o0 : Nat ⊕ Int32} (h : r4_cost T x1 = some o0) : vx_Met l yX4_cost (gU yX4_cost cX4_cost 2 (some .int)) (gR 6 1 6) (gPx γ [.ref (ad γ 0), .int x1] sz (T, P, X, Y, E, B, M, O)) (gQxi γ o0 sz (T, P, X, Y, E, B, M, O)) (gXC γ o0 sz (T, P, X, Y, E, B, M, O)) 1 6 (gA γ sz) := by
  refine g_metx hst (fun sz => gQxi γ o0 sz (T, P, X, Y, E, B, M, O)) (fun sz => gXC γ o0 sz (T, P, X, Y, E, B, M, O)) (by decide) (Nat.le_of_ble_eq_true rfl) ?_
  intro p e s m args below meth c ls hC hX hP hS hl
  have hx := hC.x
  have hb := hC.b
  have hl : lv_has ls 2 [(0, .ref (ad γ 0)), (1, .int x1)] := hl
  unfold r4_cost at h
  refine lv_iload_n hx hb dX4_cost_0 rfl (lv_at hl 1 rfl) ?_
  by_cases c1 : x1 = 0
  · rw [if_pos c1] at h
    refine lv_tableIn (off := 35) (tgt := 36) hx hb dX4_cost_1 (by rw [c1]; decide) (by rw [c1]; decide) (by rw [c1]; rfl) (by decide) ?_
    refine lv_aload_n hx hb dX4_cost_36 rfl (lv_at hl 0 rfl) ?_
    refine g_get hC hP 0 dX4_cost_37 (by decide) ge_0 rfl inX4 (by decide) rfl u_1_188 ?_
    obtain ⟨v6, hv, h⟩ := bd1_e h
    refine g_ki (g_runV (As := []) (rest := []) hC hP (c3_gaps l hv) (by decide) ge_1 rfl u_5_93 yv_X3_gaps (Nat.le_of_ble_eq_true rfl) rfl hl.1 rfl (Nat.le_of_ble_eq_true rfl) dX4_cost_40 ⟨by decide, by decide⟩) hS (fun H locs hP hS => ?_)
    cases h
    refine W.widen (k := 1) (n := 6) (by decide) (by decide) ?_
    exact g_xiret hC hP hS dX4_cost_43 rfl
  rw [if_neg c1] at h
  by_cases c2 : x1 = 1
  · rw [if_pos c2] at h
    refine lv_tableIn (off := 43) (tgt := 44) hx hb dX4_cost_1 (by rw [c2]; decide) (by rw [c2]; decide) (by rw [c2]; rfl) (by decide) ?_
    refine lv_aload_n hx hb dX4_cost_44 rfl (lv_at hl 0 rfl) ?_
    refine g_get hC hP 0 dX4_cost_45 (by decide) ge_0 rfl inX4 (by decide) rfl u_1_188 ?_
    obtain ⟨v7, hv, h⟩ := bd1_e h
    refine g_ki (g_runV (As := []) (rest := []) hC hP (c3_lateOnes l hv) (by decide) ge_1 rfl u_5_94 yv_X3_lateOnes (Nat.le_of_ble_eq_true rfl) rfl hl.1 rfl (Nat.le_of_ble_eq_true rfl) dX4_cost_48 ⟨by decide, by decide⟩) hS (fun H locs hP hS => ?_)
    cases h
    refine W.widen (k := 1) (n := 6) (by decide) (by decide) ?_
    exact g_xiret hC hP hS dX4_cost_51 rfl
  rw [if_neg c2] at h
  by_cases c3 : x1 = 2
  · rw [if_pos c3] at h
    refine lv_tableIn (off := 51) (tgt := 52) hx hb dX4_cost_1 (by rw [c3]; decide) (by rw [c3]; decide) (by rw [c3]; rfl) (by decide) ?_
    refine lv_aload_n hx hb dX4_cost_52 rfl (lv_at hl 0 rfl) ?_
    refine g_get hC hP 0 dX4_cost_53 (by decide) ge_0 rfl inX4 (by decide) rfl u_1_188 ?_
    obtain ⟨v8, hv, h⟩ := bd1_e h
    refine g_ki (g_runV (As := []) (rest := []) hC hP (c3_slack l hv) (by decide) ge_1 rfl u_5_95 yv_X3_slack (Nat.le_of_ble_eq_true rfl) rfl hl.1 rfl (Nat.le_of_ble_eq_true rfl) dX4_cost_56 ⟨by decide, by decide⟩) hS (fun H locs hP hS => ?_)
    cases h
    refine W.widen (k := 1) (n := 6) (by decide) (by decide) ?_
    exact g_xiret hC hP hS dX4_cost_59 rfl
  rw [if_neg c3] at h
  by_cases c4 : x1 = 3
  · rw [if_pos c4] at h
    refine lv_tableIn (off := 59) (tgt := 60) hx hb dX4_cost_1 (by rw [c4]; decide) (by rw [c4]; decide) (by rw [c4]; rfl) (by decide) ?_
    refine lv_aload_n hx hb dX4_cost_60 rfl (lv_at hl 0 rfl) ?_
    refine g_get hC hP 0 dX4_cost_61 (by decide) ge_0 rfl inX4 (by decide) rfl u_1_188 ?_
    obtain ⟨v9, hv, h⟩ := bd1_e h
    refine g_ki (g_runV (As := []) (rest := []) hC hP (c3_unplaced l hv) (by decide) ge_1 rfl u_2_101 yv_X3_unplaced (Nat.le_of_ble_eq_true rfl) rfl hl.1 rfl (Nat.le_of_ble_eq_true rfl) dX4_cost_64 ⟨by decide, by decide⟩) hS (fun H locs hP hS => ?_)
    cases h
    refine W.widen (k := 1) (n := 6) (by decide) (by decide) ?_
    exact g_xiret hC hP hS dX4_cost_67 rfl
  rw [if_neg c4] at h
  by_cases c5 : x1 = 4
  · rw [if_pos c5] at h
    refine lv_tableIn (off := 67) (tgt := 68) hx hb dX4_cost_1 (by rw [c5]; decide) (by rw [c5]; decide) (by rw [c5]; rfl) (by decide) ?_
    refine lv_aload_n hx hb dX4_cost_68 rfl (lv_at hl 0 rfl) ?_
    refine g_get hC hP 0 dX4_cost_69 (by decide) ge_0 rfl inX4 (by decide) rfl u_1_188 ?_
    obtain ⟨v10, hv, h⟩ := bd1_e h
    refine g_ki (g_runV (As := []) (rest := []) hC hP (c3_totalCost l hv) (by decide) ge_1 rfl u_5_96 yv_X3_totalCost (Nat.le_of_ble_eq_true rfl) rfl hl.1 rfl (Nat.le_of_ble_eq_true rfl) dX4_cost_72 ⟨by decide, by decide⟩) hS (fun H locs hP hS => ?_)
    cases h
    refine W.widen (k := 1) (n := 6) (by decide) (by decide) ?_
    exact g_xiret hC hP hS dX4_cost_75 rfl
  rw [if_neg c5] at h
  refine lv_tableOut (tgt := 76) hx hb dX4_cost_1 (tsw_0_4 c1 c2 c3 c4 c5) (by decide) ?_
  cases h
  exact g_thr hC hX hP hS gx_1 (List.mem_of_getElem? (i := 1) rfl) hl.1 dX4_cost_76 dX4_cost_79 dX4_cost_80 dX4_cost_82 dX4_cost_85 (Nat.le_of_ble_eq_true rfl) (Nat.le_of_ble_eq_true rfl) (by decide) (by decide) (by decide) (by decide) rfl
def r4_costAt (T : OS) (x1 : Int32) (x2 : Int32) : Option ((Nat ⊕ Int32) × OS) :=
  bd1 (r4_requireEvent T x1) (fun o1 => bx o1 (fun k2 => some ((.inl k2), T)) (fun _ =>
  bd1 (r4_requireIndex x2 60) (fun o4 => bx o4 (fun k5 => some ((.inl k5), T)) (fun _ =>
  bd1 (r4_requireFree T x1 x2) (fun o7 => bx o7 (fun k8 => some ((.inl k8), T)) (fun _ =>
  bd2 (r3_costIf T x1 x2) (fun v10 T11 =>
  some ((.inr v10), T11))))))))
theorem yv_X4_costAt : gYV yX4_costAt cX4_costAt 3 (some .int) 2 := ⟨u_5_101, u_5_102, u_1_1, u_5_103, ⟨by decide +kernel, by decide +kernel, by decide +kernel⟩, by decide⟩
set_option maxHeartbeats 4000000 in
set_option maxRecDepth 100000 in
theorem c4_costAt (l : Launch) (hst : l.stackTraces = false) {γ : GA} {sz : Nat} {T P X Y B M : OS} {E : Nat → OS} {O : Nat → Int64} {x1 : Int32} {x2 : Int32} {o0 : Nat ⊕ Int32} {Tz : OS} (h : r4_costAt T x1 x2 = some (o0, Tz)) : vx_Met l yX4_costAt (gU yX4_costAt cX4_costAt 3 (some .int)) (gR 7 3 18) (gPx γ [.ref (ad γ 0), .int x1, .int x2] sz (T, P, X, Y, E, B, M, O)) (gQxi γ o0 sz (Tz, P, X, Y, E, B, M, O)) (gXC γ o0 sz (Tz, P, X, Y, E, B, M, O)) 3 18 (gA γ sz) := by
  refine g_metx hst (fun sz => gQxi γ o0 sz (Tz, P, X, Y, E, B, M, O)) (fun sz => gXC γ o0 sz (Tz, P, X, Y, E, B, M, O)) (by decide) (Nat.le_of_ble_eq_true rfl) ?_
  intro p e s m args below meth c ls hC hX hP hS hl
  have hx := hC.x
  have hb := hC.b
  have hl : lv_has ls 3 [(0, .ref (ad γ 0)), (1, .int x1), (2, .int x2)] := hl
  unfold r4_costAt at h
  refine lv_aload_n hx hb dX4_costAt_0 rfl (lv_at hl 0 rfl) ?_
  refine lv_iload_n hx hb dX4_costAt_1 rfl (lv_at hl 1 rfl) ?_
  obtain ⟨o1, hw3, h⟩ := bd1_e h
  rcases o1 with k2 | ⟨⟩
  · have h := bx_l h
    cases h
    exact g_xkev hC hX (g_xrunV (As := [.int x1]) (rest := []) hC hX hP hS (c4_requireEvent l hst hw3) (by decide) ge_0 rfl u_3_114 yv_X4_requireEvent (Nat.le_of_ble_eq_true rfl) rfl hl.1 rfl (Nat.le_of_ble_eq_true rfl) dX4_costAt_2 ⟨by decide, by decide⟩) hS rfl (by decide) (by decide)
  have h := bx_r h
  refine g_xkv (g_xrunV (As := [.int x1]) (rest := []) hC hX hP hS (c4_requireEvent l hst hw3) (by decide) ge_0 rfl u_3_114 yv_X4_requireEvent (Nat.le_of_ble_eq_true rfl) rfl hl.1 rfl (Nat.le_of_ble_eq_true rfl) dX4_costAt_2 ⟨by decide, by decide⟩) hS (fun H locs hP hS => ?_)
  refine lv_iload_n hx hb dX4_costAt_5 rfl (lv_at hl 2 rfl) ?_
  refine lv_bipush (v := 60) hx hb dX4_costAt_6 (by decide) ?_
  obtain ⟨o4, hw6, h⟩ := bd1_e h
  rcases o4 with k5 | ⟨⟩
  · have h := bx_l h
    cases h
    exact g_xkev hC hX (g_xrunS (As := [.int x2, .int 60]) (rest := []) hC hX hP hS (c4_requireIndex l hst hw6) u_2_133 yv_X4_requireIndex (Nat.le_of_ble_eq_true rfl) rfl hl.1 rfl (Nat.le_of_ble_eq_true rfl) dX4_costAt_8 ⟨by decide, by decide⟩) hS rfl (by decide) (by decide)
  have h := bx_r h
  refine g_xkv (g_xrunS (As := [.int x2, .int 60]) (rest := []) hC hX hP hS (c4_requireIndex l hst hw6) u_2_133 yv_X4_requireIndex (Nat.le_of_ble_eq_true rfl) rfl hl.1 rfl (Nat.le_of_ble_eq_true rfl) dX4_costAt_8 ⟨by decide, by decide⟩) hS (fun H locs hP hS => ?_)
  refine lv_aload_n hx hb dX4_costAt_11 rfl (lv_at hl 0 rfl) ?_
  refine lv_iload_n hx hb dX4_costAt_12 rfl (lv_at hl 1 rfl) ?_
  refine lv_iload_n hx hb dX4_costAt_13 rfl (lv_at hl 2 rfl) ?_
  obtain ⟨o7, hw9, h⟩ := bd1_e h
  rcases o7 with k8 | ⟨⟩
  · have h := bx_l h
    cases h
    exact g_xkev hC hX (g_xrunV (As := [.int x1, .int x2]) (rest := []) hC hX hP hS (c4_requireFree l hst hw9) (by decide) ge_0 rfl u_4_113 yv_X4_requireFree (Nat.le_of_ble_eq_true rfl) rfl hl.1 rfl (Nat.le_of_ble_eq_true rfl) dX4_costAt_14 ⟨by decide, by decide⟩) hS rfl (by decide) (by decide)
  have h := bx_r h
  refine g_xkv (g_xrunV (As := [.int x1, .int x2]) (rest := []) hC hX hP hS (c4_requireFree l hst hw9) (by decide) ge_0 rfl u_4_113 yv_X4_requireFree (Nat.le_of_ble_eq_true rfl) rfl hl.1 rfl (Nat.le_of_ble_eq_true rfl) dX4_costAt_14 ⟨by decide, by decide⟩) hS (fun H locs hP hS => ?_)
  refine lv_aload_n hx hb dX4_costAt_17 rfl (lv_at hl 0 rfl) ?_
  refine g_get hC hP 0 dX4_costAt_18 (by decide) ge_0 rfl inX4 (by decide) rfl u_1_188 ?_
  refine lv_iload_n hx hb dX4_costAt_21 rfl (lv_at hl 1 rfl) ?_
  refine lv_iload_n hx hb dX4_costAt_22 rfl (lv_at hl 2 rfl) ?_
  obtain ⟨v10, T11, hv, h⟩ := bd2_e h
  refine g_ki (g_runV (As := [.int x1, .int x2]) (rest := []) hC hP (c3_costIf l hv) (by decide) ge_1 rfl u_5_104 yv_X3_costIf (Nat.le_of_ble_eq_true rfl) rfl hl.1 rfl (Nat.le_of_ble_eq_true rfl) dX4_costAt_23 ⟨by decide, by decide⟩) hS (fun H locs hP hS => ?_)
  cases h
  refine W.widen (k := 3) (n := 18) (by decide) (by decide) ?_
  exact g_xiret hC hP hS dX4_costAt_26 rfl
def r4_mark (T : OS) (Y : OS) (E : Nat → OS) : Option (Int32 × OS × OS × (Nat → OS)) :=
  bd2 (r1_keep T Y E) (fun Y1 E2 =>
  (cpi 14 (T 9) T 11).bind fun T3 =>
  bd1 (r3_placedOnes T3) (fun v4 =>
  some (v4, T3, Y1, E2)))
theorem yv_X4_mark : gYV yX4_mark cX4_mark 1 (some .int) 0 := ⟨u_2_110, u_2_111, u_1_1, u_2_112, ⟨by decide +kernel, by decide +kernel, by decide +kernel⟩, by decide⟩
set_option maxHeartbeats 4000000 in
set_option maxRecDepth 100000 in
theorem c4_mark (l : Launch) {γ : GA} {sz : Nat} {T P X Y B M : OS} {E : Nat → OS} {O : Nat → Int64} {r0 : Int32} {Tz : OS} {Yz : OS} {Ez : Nat → OS} (h : r4_mark T Y E = some (r0, Tz, Yz, Ez)) : Met l yX4_mark (gU yX4_mark cX4_mark 1 (some .int)) (gR 4 0 0) (gPc γ [.ref (ad γ 0)] sz (T, P, X, Y, E, B, M, O)) (gQi γ r0 sz (Tz, P, X, Yz, Ez, B, M, O)) 0 0 (gA γ sz) := by
  refine g_met (fun sz => gQi γ r0 sz (Tz, P, X, Yz, Ez, B, M, O)) (by decide) (Nat.le_of_ble_eq_true rfl) ?_
  intro p e s m args below meth c ls hC hP hS hl
  have hx := hC.x
  have hb := hC.b
  have hl : lv_has ls 1 [(0, .ref (ad γ 0))] := hl
  unfold r4_mark at h
  refine lv_aload_n hx hb dX4_mark_0 rfl (lv_at hl 0 rfl) ?_
  refine g_get hC hP 3 dX4_mark_1 (by decide) ge_0 rfl inX4 (by decide) rfl u_1_191 ?_
  refine lv_aload_n hx hb dX4_mark_4 rfl (lv_at hl 0 rfl) ?_
  refine g_get hC hP 0 dX4_mark_5 (by decide) ge_0 rfl inX4 (by decide) rfl u_1_188 ?_
  obtain ⟨Y1, E2, hv, h⟩ := bd2_e h
  refine g_kv (g_runV (As := [.ref (ad γ 1)]) (rest := []) hC hP (c1_keep l hv) (by decide) ge_19 rfl u_1_215 yv_X1_keep (Nat.le_of_ble_eq_true rfl) rfl hl.1 rfl (Nat.le_of_ble_eq_true rfl) dX4_mark_8 ⟨by decide, by decide⟩) hS (fun H locs hP hS => ?_)
  refine lv_aload_n hx hb dX4_mark_11 rfl (lv_at hl 0 rfl) ?_
  refine g_get hC hP 0 dX4_mark_12 (by decide) ge_0 rfl inX4 (by decide) rfl u_1_188 ?_
  refine g_get hC hP 9 dX4_mark_15 (by decide) ge_1 rfl inX3 (by decide) rfl u_1_68 ?_
  refine lv_iconst (v := 0) hx hb dX4_mark_18 (by decide) ?_
  refine lv_aload_n hx hb dX4_mark_19 rfl (lv_at hl 0 rfl) ?_
  refine g_get hC hP 0 dX4_mark_20 (by decide) ge_0 rfl inX4 (by decide) rfl u_1_188 ?_
  refine g_get hC hP 11 dX4_mark_23 (by decide) ge_1 rfl inX3 (by decide) rfl u_1_72 ?_
  refine lv_iconst (v := 0) hx hb dX4_mark_26 (by decide) ?_
  refine lv_bipush (v := 14) hx hb dX4_mark_27 (by decide) ?_
  obtain ⟨T3, hv, h⟩ := ob h
  refine g_cpi hC hP hS (fun Z => (Z, P, X, Y1, E2, B, M, O)) dX4_mark_29 hl.1 u_2_113 (by decide) (by decide) ge_11 ge_13 gs_13 (by decide) rfl (by decide) (by decide) hv (by decide) (Nat.le_of_ble_eq_true rfl) (fun H locs hP hS => ?_)
  refine lv_aload_n hx hb dX4_mark_32 rfl (lv_at hl 0 rfl) ?_
  refine g_get hC hP 0 dX4_mark_33 (by decide) ge_0 rfl inX4 (by decide) rfl u_1_188 ?_
  obtain ⟨v4, hv, h⟩ := bd1_e h
  refine g_ki (g_runV (As := []) (rest := []) hC hP (c3_placedOnes l hv) (by decide) ge_1 rfl u_2_114 yv_X3_placedOnes (Nat.le_of_ble_eq_true rfl) rfl hl.1 rfl (Nat.le_of_ble_eq_true rfl) dX4_mark_36 ⟨by decide, by decide⟩) hS (fun H locs hP hS => ?_)
  cases h
  exact g_iret hC hP hS dX4_mark_39 rfl
def r4_changed_b4 (T : OS) (x1_4 : Int32) (x2_4 : Int32) : Option ((Int32 × Int32) ⊕ (Int32)) :=
  (if 14 ≤ x2_4 then some (.inr x1_4)
  else (rd 14 (T 9) x2_4).bind fun v2 =>
  (rd 14 (T 11) x2_4).bind fun v3 =>
  (if v2 = v3 then some (.inl (x1_4, (x2_4 + 1)))
  else (some (x1_4 ||| (1 <<< (x2_4 &&& 31)))).bind fun v5 =>
  some (.inl (v5, (x2_4 + 1)))))
def r4_changed (T : OS) : Option Int32 :=
  bd1 (it2 (r4_changed_b4 T) 200 0 0) (fun x1_x4 => some x1_x4)
theorem yv_X4_changed : gYV yX4_changed cX4_changed 3 (some .int) 0 := ⟨u_2_116, u_2_117, u_1_1, u_2_118, ⟨by decide +kernel, by decide +kernel, by decide +kernel⟩, by decide⟩
set_option maxHeartbeats 4000000 in
set_option maxRecDepth 100000 in
theorem c4_changed (l : Launch) {γ : GA} {sz : Nat} {T P X Y B M : OS} {E : Nat → OS} {O : Nat → Int64} {r0 : Int32} (h : r4_changed T = some r0) : Met l yX4_changed (gU yX4_changed cX4_changed 3 (some .int)) (gR 0 0 0) (gPc γ [.ref (ad γ 0)] sz (T, P, X, Y, E, B, M, O)) (gQi γ r0 sz (T, P, X, Y, E, B, M, O)) 0 0 (gA γ sz) := by
  refine g_met (fun sz => gQi γ r0 sz (T, P, X, Y, E, B, M, O)) (by decide) (Nat.le_of_ble_eq_true rfl) ?_
  intro p e s m args below meth c ls hC hP hS hl
  have hx := hC.x
  have hb := hC.b
  have hl : lv_has ls 3 [(0, .ref (ad γ 0))] := hl
  unfold r4_changed at h
  refine lv_iconst (v := 0) hx hb dX4_changed_0 (by decide) ?_
  refine lv_istore_n (lv' := [(1, .int 0), (0, .ref (ad γ 0))]) hx hb dX4_changed_1 rfl hl (by decide) rfl (fun ls hl => ?_)
  refine lv_iconst (v := 0) hx hb dX4_changed_2 (by decide) ?_
  refine lv_istore_n (lv' := [(2, .int 0), (1, .int 0), (0, .ref (ad γ 0))]) hx hb dX4_changed_3 rfl hl (by decide) rfl (fun ls hl => ?_)
  have L4 := it2_W (r4_changed_b4 T) (fun (x1_4 : Int32) (x2_4 : Int32) => ∀ (H : Heap) (locs : List Loc) (ls : Array Slot), va_P γ.1 vwCl (gw γ (T, P, X, Y, E, B, M, O)) H → va_S (gA γ s.heap.size) s.heap H locs → lv_has ls 3 [(0, .ref (ad γ 0)), (1, .int x1_4), (2, .int x2_4)] → W p l e (gR 0 0 0) s m args below meth c H locs 0 0 (MQ below (gQi γ r0 s.heap.size (T, P, X, Y, E, B, M, O)) args s 0 0 (gA γ s.heap.size)) (F0 m 4 ls [])) (fun (r_k : Int32) => (∀ (x1_x4 : Int32), r_k = x1_x4 → ∀ (H : Heap) (locs : List Loc) (ls : Array Slot), va_P γ.1 vwCl (gw γ (T, P, X, Y, E, B, M, O)) H → va_S (gA γ s.heap.size) s.heap H locs → lv_has ls 3 [(1, .int x1_x4)] → W p l e (gR 0 0 0) s m args below meth c H locs 0 0 (MQ below (gQi γ r0 s.heap.size (T, P, X, Y, E, B, M, O)) args s 0 0 (gA γ s.heap.size)) (F0 m 43 ls []))) (by
    intro x1_4 x2_4 o_4 h kS kR H locs ls hP hS hl
    unfold r4_changed_b4 at h
    refine lv_iload_n hx hb dX4_changed_4 rfl (lv_at hl 2 rfl) ?_
    refine lv_bipush (v := 14) hx hb dX4_changed_5 (by decide) ?_
    refine lv_icmp_ge (tgt := 43) hx hb dX4_changed_7 (by decide) (fun c1 => ?_) (fun c1 => ?_)
    · rw [if_pos c1] at h
      cases h
      exact kR _ rfl _ rfl _ _ _ hP hS (lv_sub hl [1] rfl)
    · rw [if_neg c1] at h
      refine lv_aload_n hx hb dX4_changed_10 rfl (lv_at hl 0 rfl) ?_
      refine g_get hC hP 0 dX4_changed_11 (by decide) ge_0 rfl inX4 (by decide) rfl u_1_188 ?_
      refine g_get hC hP 9 dX4_changed_14 (by decide) ge_1 rfl inX3 (by decide) rfl u_1_68 ?_
      refine lv_iload_n hx hb dX4_changed_17 rfl (lv_at hl 2 rfl) ?_
      obtain ⟨v2, hv, h⟩ := ob h
      refine g_ld hC hP dX4_changed_18 (by decide) ge_11 hv ?_
      refine lv_aload_n hx hb dX4_changed_19 rfl (lv_at hl 0 rfl) ?_
      refine g_get hC hP 0 dX4_changed_20 (by decide) ge_0 rfl inX4 (by decide) rfl u_1_188 ?_
      refine g_get hC hP 11 dX4_changed_23 (by decide) ge_1 rfl inX3 (by decide) rfl u_1_72 ?_
      refine lv_iload_n hx hb dX4_changed_26 rfl (lv_at hl 2 rfl) ?_
      obtain ⟨v3, hv, h⟩ := ob h
      refine g_ld hC hP dX4_changed_27 (by decide) ge_13 hv ?_
      refine lv_icmp_eq (tgt := 37) hx hb dX4_changed_28 (by decide) (fun c4 => ?_) (fun c4 => ?_)
      · rw [if_pos c4] at h
        refine lv_iinc (v := (x2_4 + 1)) (lv' := [(2, .int (x2_4 + 1)), (0, .ref (ad γ 0)), (1, .int x1_4)]) hx hb dX4_changed_37 hl (k := 2) rfl rfl (by decide) rfl (fun ls hl => ?_)
        refine lv_goto (tgt := 4) hx hb dX4_changed_40 (by decide) ?_
        cases h
        exact kS _ _ rfl _ _ _ hP hS (lv_sub hl [1, 2, 0] rfl)
      · rw [if_neg c4] at h
        refine lv_iload_n hx hb dX4_changed_31 rfl (lv_at hl 1 rfl) ?_
        refine lv_iconst (v := 1) hx hb dX4_changed_32 (by decide) ?_
        refine lv_iload_n hx hb dX4_changed_33 rfl (lv_at hl 2 rfl) ?_
        refine lv_ishl hx hb dX4_changed_34 ?_
        refine lv_ior hx hb dX4_changed_35 ?_
        obtain ⟨v5, hv, h⟩ := ob h
        refine lv_topi (fun y9 ey9 => ?_)
        obtain rfl : v5 = y9 := (Option.some.inj hv).symm.trans ey9.symm
        clear hv ey9
        refine lv_istore_n (lv' := [(1, .int v5), (0, .ref (ad γ 0)), (2, .int x2_4)]) hx hb dX4_changed_36 rfl hl (by decide) rfl (fun ls hl => ?_)
        refine lv_iinc (v := (x2_4 + 1)) (lv' := [(2, .int (x2_4 + 1)), (1, .int v5), (0, .ref (ad γ 0))]) hx hb dX4_changed_37 hl (k := 2) rfl rfl (by decide) rfl (fun ls hl => ?_)
        refine lv_goto (tgt := 4) hx hb dX4_changed_40 (by decide) ?_
        cases h
        exact kS _ _ rfl _ _ _ hP hS (lv_sub hl [2, 1, 0] rfl))
  obtain ⟨x1_x4, hv, h⟩ := bd1_e h
  refine L4 _ _ _ _ hv (fun q0 e9 H locs ls hP hS hl => ?_) _ _ _ hP hS (lv_sub hl [2, 1, 0] rfl)
  obtain rfl := e9
  refine lv_iload_n hx hb dX4_changed_43 rfl (lv_at hl 0 rfl) ?_
  cases h
  exact g_iret hC hP hS dX4_changed_44 rfl
def r4_marked (T : OS) (x1 : Int32) : Option ((Nat ⊕ Int32)) :=
  bd1 (r4_requireEvent T x1) (fun o1 => bx o1 (fun k2 => some (.inl k2)) (fun _ =>
  (rd 14 (T 11) x1).bind fun v4 =>
  some (.inr v4)))
theorem yv_X4_marked : gYV yX4_marked cX4_marked 2 (some .int) 1 := ⟨u_5_109, u_5_110, u_1_1, u_5_111, ⟨by decide +kernel, by decide +kernel, by decide +kernel⟩, by decide⟩
set_option maxHeartbeats 4000000 in
set_option maxRecDepth 100000 in
theorem c4_marked (l : Launch) (hst : l.stackTraces = false) {γ : GA} {sz : Nat} {T P X Y B M : OS} {E : Nat → OS} {O : Nat → Int64} {x1 : Int32} {o0 : Nat ⊕ Int32} (h : r4_marked T x1 = some o0) : vx_Met l yX4_marked (gU yX4_marked cX4_marked 2 (some .int)) (gR 7 1 6) (gPx γ [.ref (ad γ 0), .int x1] sz (T, P, X, Y, E, B, M, O)) (gQxi γ o0 sz (T, P, X, Y, E, B, M, O)) (gXC γ o0 sz (T, P, X, Y, E, B, M, O)) 1 6 (gA γ sz) := by
  refine g_metx hst (fun sz => gQxi γ o0 sz (T, P, X, Y, E, B, M, O)) (fun sz => gXC γ o0 sz (T, P, X, Y, E, B, M, O)) (by decide) (Nat.le_of_ble_eq_true rfl) ?_
  intro p e s m args below meth c ls hC hX hP hS hl
  have hx := hC.x
  have hb := hC.b
  have hl : lv_has ls 2 [(0, .ref (ad γ 0)), (1, .int x1)] := hl
  unfold r4_marked at h
  refine lv_aload_n hx hb dX4_marked_0 rfl (lv_at hl 0 rfl) ?_
  refine lv_iload_n hx hb dX4_marked_1 rfl (lv_at hl 1 rfl) ?_
  obtain ⟨o1, hw3, h⟩ := bd1_e h
  rcases o1 with k2 | ⟨⟩
  · have h := bx_l h
    cases h
    exact g_xkev hC hX (g_xrunV (As := [.int x1]) (rest := []) hC hX hP hS (c4_requireEvent l hst hw3) (by decide) ge_0 rfl u_3_114 yv_X4_requireEvent (Nat.le_of_ble_eq_true rfl) rfl hl.1 rfl (Nat.le_of_ble_eq_true rfl) dX4_marked_2 ⟨by decide, by decide⟩) hS rfl (by decide) (by decide)
  have h := bx_r h
  refine g_xkv (g_xrunV (As := [.int x1]) (rest := []) hC hX hP hS (c4_requireEvent l hst hw3) (by decide) ge_0 rfl u_3_114 yv_X4_requireEvent (Nat.le_of_ble_eq_true rfl) rfl hl.1 rfl (Nat.le_of_ble_eq_true rfl) dX4_marked_2 ⟨by decide, by decide⟩) hS (fun H locs hP hS => ?_)
  refine lv_aload_n hx hb dX4_marked_5 rfl (lv_at hl 0 rfl) ?_
  refine g_get hC hP 0 dX4_marked_6 (by decide) ge_0 rfl inX4 (by decide) rfl u_1_188 ?_
  refine g_get hC hP 11 dX4_marked_9 (by decide) ge_1 rfl inX3 (by decide) rfl u_1_72 ?_
  refine lv_iload_n hx hb dX4_marked_12 rfl (lv_at hl 1 rfl) ?_
  obtain ⟨v4, hv, h⟩ := ob h
  refine g_ld hC hP dX4_marked_13 (by decide) ge_13 hv ?_
  cases h
  refine W.widen (k := 1) (n := 6) (by decide) (by decide) ?_
  exact g_xiret hC hP hS dX4_marked_14 rfl
def r4_count (T : OS) (X : OS) (Y : OS) (x1 : Int32) : Option ((Nat ⊕ Int32)) :=
  (if x1 = 0 then some (.inr (T 13 0))
  else (if x1 = 1 then bd1 (r3_placedOnes T) (fun v6 =>
  some (.inr v6))
  else (if x1 = 2 then bd1 (r3_fixedOnes T) (fun v7 =>
  some (.inr v7))
  else (if x1 = 3 then some (.inr (X 2 0))
  else (if x1 = 4 then some (.inr (Y 2 0))
  else some (.inl 1))))))
theorem yv_X4_count : gYV yX4_count cX4_count 2 (some .int) 1 := ⟨u_5_116, u_5_117, u_1_1, u_5_118, ⟨by decide +kernel, by decide +kernel, by decide +kernel⟩, by decide⟩
set_option maxHeartbeats 4000000 in
set_option maxRecDepth 100000 in
theorem c4_count (l : Launch) (hst : l.stackTraces = false) {γ : GA} {sz : Nat} {T P X Y B M : OS} {E : Nat → OS} {O : Nat → Int64} {x1 : Int32} {o0 : Nat ⊕ Int32} (h : r4_count T X Y x1 = some o0) : vx_Met l yX4_count (gU yX4_count cX4_count 2 (some .int)) (gR 6 1 6) (gPx γ [.ref (ad γ 0), .int x1] sz (T, P, X, Y, E, B, M, O)) (gQxi γ o0 sz (T, P, X, Y, E, B, M, O)) (gXC γ o0 sz (T, P, X, Y, E, B, M, O)) 1 6 (gA γ sz) := by
  refine g_metx hst (fun sz => gQxi γ o0 sz (T, P, X, Y, E, B, M, O)) (fun sz => gXC γ o0 sz (T, P, X, Y, E, B, M, O)) (by decide) (Nat.le_of_ble_eq_true rfl) ?_
  intro p e s m args below meth c ls hC hX hP hS hl
  have hx := hC.x
  have hb := hC.b
  have hl : lv_has ls 2 [(0, .ref (ad γ 0)), (1, .int x1)] := hl
  unfold r4_count at h
  refine lv_iload_n hx hb dX4_count_0 rfl (lv_at hl 1 rfl) ?_
  by_cases c1 : x1 = 0
  · rw [if_pos c1] at h
    refine lv_tableIn (off := 35) (tgt := 36) hx hb dX4_count_1 (by rw [c1]; decide) (by rw [c1]; decide) (by rw [c1]; rfl) (by decide) ?_
    refine lv_aload_n hx hb dX4_count_36 rfl (lv_at hl 0 rfl) ?_
    refine g_get hC hP 0 dX4_count_37 (by decide) ge_0 rfl inX4 (by decide) rfl u_1_188 ?_
    refine g_get hC hP 13 dX4_count_40 (by decide) ge_1 rfl inX3 (by decide) rfl u_1_77 ?_
    cases h
    refine W.widen (k := 1) (n := 6) (by decide) (by decide) ?_
    exact g_xiret hC hP hS dX4_count_43 rfl
  rw [if_neg c1] at h
  by_cases c2 : x1 = 1
  · rw [if_pos c2] at h
    refine lv_tableIn (off := 43) (tgt := 44) hx hb dX4_count_1 (by rw [c2]; decide) (by rw [c2]; decide) (by rw [c2]; rfl) (by decide) ?_
    refine lv_aload_n hx hb dX4_count_44 rfl (lv_at hl 0 rfl) ?_
    refine g_get hC hP 0 dX4_count_45 (by decide) ge_0 rfl inX4 (by decide) rfl u_1_188 ?_
    obtain ⟨v6, hv, h⟩ := bd1_e h
    refine g_ki (g_runV (As := []) (rest := []) hC hP (c3_placedOnes l hv) (by decide) ge_1 rfl u_2_114 yv_X3_placedOnes (Nat.le_of_ble_eq_true rfl) rfl hl.1 rfl (Nat.le_of_ble_eq_true rfl) dX4_count_48 ⟨by decide, by decide⟩) hS (fun H locs hP hS => ?_)
    cases h
    refine W.widen (k := 1) (n := 6) (by decide) (by decide) ?_
    exact g_xiret hC hP hS dX4_count_51 rfl
  rw [if_neg c2] at h
  by_cases c3 : x1 = 2
  · rw [if_pos c3] at h
    refine lv_tableIn (off := 51) (tgt := 52) hx hb dX4_count_1 (by rw [c3]; decide) (by rw [c3]; decide) (by rw [c3]; rfl) (by decide) ?_
    refine lv_aload_n hx hb dX4_count_52 rfl (lv_at hl 0 rfl) ?_
    refine g_get hC hP 0 dX4_count_53 (by decide) ge_0 rfl inX4 (by decide) rfl u_1_188 ?_
    obtain ⟨v7, hv, h⟩ := bd1_e h
    refine g_ki (g_runV (As := []) (rest := []) hC hP (c3_fixedOnes l hv) (by decide) ge_1 rfl u_5_119 yv_X3_fixedOnes (Nat.le_of_ble_eq_true rfl) rfl hl.1 rfl (Nat.le_of_ble_eq_true rfl) dX4_count_56 ⟨by decide, by decide⟩) hS (fun H locs hP hS => ?_)
    cases h
    refine W.widen (k := 1) (n := 6) (by decide) (by decide) ?_
    exact g_xiret hC hP hS dX4_count_59 rfl
  rw [if_neg c3] at h
  by_cases c4 : x1 = 3
  · rw [if_pos c4] at h
    refine lv_tableIn (off := 59) (tgt := 60) hx hb dX4_count_1 (by rw [c4]; decide) (by rw [c4]; decide) (by rw [c4]; rfl) (by decide) ?_
    refine lv_aload_n hx hb dX4_count_60 rfl (lv_at hl 0 rfl) ?_
    refine g_get hC hP 4 dX4_count_61 (by decide) ge_0 rfl inX4 (by decide) rfl u_1_192 ?_
    refine g_get hC hP 2 dX4_count_64 (by decide) ge_21 rfl inX0 (by decide) rfl u_1_160 ?_
    cases h
    refine W.widen (k := 1) (n := 6) (by decide) (by decide) ?_
    exact g_xiret hC hP hS dX4_count_67 rfl
  rw [if_neg c4] at h
  by_cases c5 : x1 = 4
  · rw [if_pos c5] at h
    refine lv_tableIn (off := 67) (tgt := 68) hx hb dX4_count_1 (by rw [c5]; decide) (by rw [c5]; decide) (by rw [c5]; rfl) (by decide) ?_
    refine lv_aload_n hx hb dX4_count_68 rfl (lv_at hl 0 rfl) ?_
    refine g_get hC hP 3 dX4_count_69 (by decide) ge_0 rfl inX4 (by decide) rfl u_1_191 ?_
    refine g_get hC hP 2 dX4_count_72 (by decide) ge_19 rfl inX1 (by decide) rfl u_1_143 ?_
    cases h
    refine W.widen (k := 1) (n := 6) (by decide) (by decide) ?_
    exact g_xiret hC hP hS dX4_count_75 rfl
  rw [if_neg c5] at h
  refine lv_tableOut (tgt := 76) hx hb dX4_count_1 (tsw_0_4 c1 c2 c3 c4 c5) (by decide) ?_
  cases h
  exact g_thr hC hX hP hS gx_1 (List.mem_of_getElem? (i := 1) rfl) hl.1 dX4_count_76 dX4_count_79 dX4_count_80 dX4_count_82 dX4_count_85 (Nat.le_of_ble_eq_true rfl) (Nat.le_of_ble_eq_true rfl) (by decide) (by decide) (by decide) (by decide) rfl
def r4_undo (T : OS) (Y : OS) (E : Nat → OS) : Option ((Nat ⊕ Int32) × OS × OS) :=
  (if (Y 2 0) = 0 then some ((.inl 2), T, Y)
  else bd2 (r1_takeBack T Y E) (fun T2 Y3 =>
  some ((.inr (Y3 2 0)), T2, Y3)))
theorem yv_X4_undo : gYV yX4_undo cX4_undo 1 (some .int) 0 := ⟨u_5_127, u_5_128, u_1_1, u_5_129, ⟨by decide +kernel, by decide +kernel, by decide +kernel⟩, by decide⟩
set_option maxHeartbeats 4000000 in
set_option maxRecDepth 100000 in
theorem c4_undo (l : Launch) (hst : l.stackTraces = false) {γ : GA} {sz : Nat} {T P X Y B M : OS} {E : Nat → OS} {O : Nat → Int64} {o0 : Nat ⊕ Int32} {Tz : OS} {Yz : OS} (h : r4_undo T Y E = some (o0, Tz, Yz)) : vx_Met l yX4_undo (gU yX4_undo cX4_undo 1 (some .int)) (gR 6 1 6) (gPx γ [.ref (ad γ 0)] sz (T, P, X, Y, E, B, M, O)) (gQxi γ o0 sz (Tz, P, X, Yz, E, B, M, O)) (gXC γ o0 sz (Tz, P, X, Yz, E, B, M, O)) 1 6 (gA γ sz) := by
  refine g_metx hst (fun sz => gQxi γ o0 sz (Tz, P, X, Yz, E, B, M, O)) (fun sz => gXC γ o0 sz (Tz, P, X, Yz, E, B, M, O)) (by decide) (Nat.le_of_ble_eq_true rfl) ?_
  intro p e s m args below meth c ls hC hX hP hS hl
  have hx := hC.x
  have hb := hC.b
  have hl : lv_has ls 1 [(0, .ref (ad γ 0))] := hl
  unfold r4_undo at h
  refine lv_aload_n hx hb dX4_undo_0 rfl (lv_at hl 0 rfl) ?_
  refine g_get hC hP 3 dX4_undo_1 (by decide) ge_0 rfl inX4 (by decide) rfl u_1_191 ?_
  refine g_get hC hP 2 dX4_undo_4 (by decide) ge_19 rfl inX1 (by decide) rfl u_1_143 ?_
  refine lv_if_ne (tgt := 21) hx hb dX4_undo_7 (by decide) (fun c1 => ?_) (fun c1 => ?_)
  · rw [if_neg c1] at h
    refine lv_aload_n hx hb dX4_undo_21 rfl (lv_at hl 0 rfl) ?_
    refine g_get hC hP 3 dX4_undo_22 (by decide) ge_0 rfl inX4 (by decide) rfl u_1_191 ?_
    refine lv_aload_n hx hb dX4_undo_25 rfl (lv_at hl 0 rfl) ?_
    refine g_get hC hP 0 dX4_undo_26 (by decide) ge_0 rfl inX4 (by decide) rfl u_1_188 ?_
    obtain ⟨T2, Y3, hv, h⟩ := bd2_e h
    refine g_kv (g_runV (As := [.ref (ad γ 1)]) (rest := []) hC hP (c1_takeBack l hv) (by decide) ge_19 rfl u_5_131 yv_X1_takeBack (Nat.le_of_ble_eq_true rfl) rfl hl.1 rfl (Nat.le_of_ble_eq_true rfl) dX4_undo_29 ⟨by decide, by decide⟩) hS (fun H locs hP hS => ?_)
    refine lv_aload_n hx hb dX4_undo_32 rfl (lv_at hl 0 rfl) ?_
    refine g_get hC hP 3 dX4_undo_33 (by decide) ge_0 rfl inX4 (by decide) rfl u_1_191 ?_
    refine g_get hC hP 2 dX4_undo_36 (by decide) ge_19 rfl inX1 (by decide) rfl u_1_143 ?_
    cases h
    refine W.widen (k := 1) (n := 6) (by decide) (by decide) ?_
    exact g_xiret hC hP hS dX4_undo_39 rfl
  · rw [if_pos c1] at h
    cases h
    exact g_thrW hC hX hP hS gx_2 (List.mem_of_getElem? (i := 16) rfl) hl.1 dX4_undo_10 dX4_undo_13 dX4_undo_14 dX4_undo_17 dX4_undo_20 (Nat.le_of_ble_eq_true rfl) (Nat.le_of_ble_eq_true rfl) (by decide) (by decide) (by decide) (by decide) rfl
def r4_save (T : OS) (E : Nat → OS) (B : OS) : Option (Int32 × (Nat → OS) × OS) :=
  bd1 (r3_save T E) (fun E1 =>
  (zz 1).bind fun v3 =>
  (sw B 5 v3).bind fun B2 =>
  some ((T 13 0), E1, B2))
theorem yv_X4_save : gYV yX4_save cX4_save 1 (some .int) 0 := ⟨u_2_120, u_2_121, u_1_1, u_2_122, ⟨by decide +kernel, by decide +kernel, by decide +kernel⟩, by decide⟩
set_option maxHeartbeats 4000000 in
set_option maxRecDepth 100000 in
theorem c4_save (l : Launch) {γ : GA} {sz : Nat} {T P X Y B M : OS} {E : Nat → OS} {O : Nat → Int64} {r0 : Int32} {Ez : Nat → OS} {Bz : OS} (h : r4_save T E B = some (r0, Ez, Bz)) : Met l yX4_save (gU yX4_save cX4_save 1 (some .int)) (gR 2 0 0) (gPc γ [.ref (ad γ 0)] sz (T, P, X, Y, E, B, M, O)) (gQi γ r0 sz (T, P, X, Y, Ez, Bz, M, O)) 0 0 (gA γ sz) := by
  refine g_met (fun sz => gQi γ r0 sz (T, P, X, Y, Ez, Bz, M, O)) (by decide) (Nat.le_of_ble_eq_true rfl) ?_
  intro p e s m args below meth c ls hC hP hS hl
  have hx := hC.x
  have hb := hC.b
  have hl : lv_has ls 1 [(0, .ref (ad γ 0))] := hl
  unfold r4_save at h
  refine lv_aload_n hx hb dX4_save_0 rfl (lv_at hl 0 rfl) ?_
  refine g_get hC hP 1 dX4_save_1 (by decide) ge_0 rfl inX4 (by decide) rfl u_1_189 ?_
  refine lv_aload_n hx hb dX4_save_4 rfl (lv_at hl 0 rfl) ?_
  refine g_get hC hP 0 dX4_save_5 (by decide) ge_0 rfl inX4 (by decide) rfl u_1_188 ?_
  obtain ⟨E1, hv, h⟩ := bd1_e h
  refine g_kv (g_runV (As := [.ref (ad γ 1)]) (rest := []) hC hP (c3_save l hv) (by decide) ge_129 rfl u_2_123 yv_X3_copyFrom (Nat.le_of_ble_eq_true rfl) rfl hl.1 rfl (Nat.le_of_ble_eq_true rfl) dX4_save_8 ⟨by decide, by decide⟩) hS (fun H locs hP hS => ?_)
  refine lv_aload_n hx hb dX4_save_11 rfl (lv_at hl 0 rfl) ?_
  refine lv_iconst (v := 1) hx hb dX4_save_12 (by decide) ?_
  obtain ⟨v3, hz, h⟩ := ob h
  obtain ⟨B2, hv, h⟩ := ob h
  refine g_putZ hC hP hS (fun Z => (T, P, X, Y, E1, Z, M, O)) 5 tyX4 dX4_save_13 (by decide) ge_0 rfl inX4 tyX4_ok nmX4 (by decide) u_1_193 rfl rfl (Nat.le_of_ble_eq_true rfl) gp_0_5 hz hv (fun H locs hP hS => ?_)
  refine lv_aload_n hx hb dX4_save_16 rfl (lv_at hl 0 rfl) ?_
  refine g_get hC hP 0 dX4_save_17 (by decide) ge_0 rfl inX4 (by decide) rfl u_1_188 ?_
  refine g_get hC hP 13 dX4_save_20 (by decide) ge_1 rfl inX3 (by decide) rfl u_1_77 ?_
  cases h
  exact g_iret hC hP hS dX4_save_23 rfl
def r4_restore (T : OS) (Y : OS) (E : Nat → OS) (B : OS) : Option ((Nat ⊕ Int32) × OS × OS × (Nat → OS)) :=
  (if (B 5 0) = 0 then some ((.inl 2), T, Y, E)
  else bd2 (r1_keep T Y E) (fun Y2 E3 =>
  bd1 (r3_load T E3) (fun T4 =>
  some ((.inr (T4 13 0)), T4, Y2, E3))))
theorem yv_X4_restore : gYV yX4_restore cX4_restore 1 (some .int) 0 := ⟨u_5_140, u_5_141, u_1_1, u_5_142, ⟨by decide +kernel, by decide +kernel, by decide +kernel⟩, by decide⟩
set_option maxHeartbeats 4000000 in
set_option maxRecDepth 100000 in
theorem c4_restore (l : Launch) (hst : l.stackTraces = false) {γ : GA} {sz : Nat} {T P X Y B M : OS} {E : Nat → OS} {O : Nat → Int64} {o0 : Nat ⊕ Int32} {Tz : OS} {Yz : OS} {Ez : Nat → OS} (h : r4_restore T Y E B = some (o0, Tz, Yz, Ez)) : vx_Met l yX4_restore (gU yX4_restore cX4_restore 1 (some .int)) (gR 6 1 6) (gPx γ [.ref (ad γ 0)] sz (T, P, X, Y, E, B, M, O)) (gQxi γ o0 sz (Tz, P, X, Yz, Ez, B, M, O)) (gXC γ o0 sz (Tz, P, X, Yz, Ez, B, M, O)) 1 6 (gA γ sz) := by
  refine g_metx hst (fun sz => gQxi γ o0 sz (Tz, P, X, Yz, Ez, B, M, O)) (fun sz => gXC γ o0 sz (Tz, P, X, Yz, Ez, B, M, O)) (by decide) (Nat.le_of_ble_eq_true rfl) ?_
  intro p e s m args below meth c ls hC hX hP hS hl
  have hx := hC.x
  have hb := hC.b
  have hl : lv_has ls 1 [(0, .ref (ad γ 0))] := hl
  unfold r4_restore at h
  refine lv_aload_n hx hb dX4_restore_0 rfl (lv_at hl 0 rfl) ?_
  refine g_get hC hP 5 dX4_restore_1 (by decide) ge_0 rfl inX4 (by decide) rfl u_1_193 ?_
  refine lv_if_ne (tgt := 18) hx hb dX4_restore_4 (by decide) (fun c1 => ?_) (fun c1 => ?_)
  · rw [if_neg c1] at h
    refine lv_aload_n hx hb dX4_restore_18 rfl (lv_at hl 0 rfl) ?_
    refine g_get hC hP 3 dX4_restore_19 (by decide) ge_0 rfl inX4 (by decide) rfl u_1_191 ?_
    refine lv_aload_n hx hb dX4_restore_22 rfl (lv_at hl 0 rfl) ?_
    refine g_get hC hP 0 dX4_restore_23 (by decide) ge_0 rfl inX4 (by decide) rfl u_1_188 ?_
    obtain ⟨Y2, E3, hv, h⟩ := bd2_e h
    refine g_kv (g_runV (As := [.ref (ad γ 1)]) (rest := []) hC hP (c1_keep l hv) (by decide) ge_19 rfl u_1_215 yv_X1_keep (Nat.le_of_ble_eq_true rfl) rfl hl.1 rfl (Nat.le_of_ble_eq_true rfl) dX4_restore_26 ⟨by decide, by decide⟩) hS (fun H locs hP hS => ?_)
    refine lv_aload_n hx hb dX4_restore_29 rfl (lv_at hl 0 rfl) ?_
    refine g_get hC hP 0 dX4_restore_30 (by decide) ge_0 rfl inX4 (by decide) rfl u_1_188 ?_
    refine lv_aload_n hx hb dX4_restore_33 rfl (lv_at hl 0 rfl) ?_
    refine g_get hC hP 1 dX4_restore_34 (by decide) ge_0 rfl inX4 (by decide) rfl u_1_189 ?_
    obtain ⟨T4, hv, h⟩ := bd1_e h
    refine g_kv (g_runV (As := [.ref (ad γ 129)]) (rest := []) hC hP (c3_load l hv) (by decide) ge_1 rfl u_2_123 yv_X3_copyFrom (Nat.le_of_ble_eq_true rfl) rfl hl.1 rfl (Nat.le_of_ble_eq_true rfl) dX4_restore_37 ⟨by decide, by decide⟩) hS (fun H locs hP hS => ?_)
    refine lv_aload_n hx hb dX4_restore_40 rfl (lv_at hl 0 rfl) ?_
    refine g_get hC hP 0 dX4_restore_41 (by decide) ge_0 rfl inX4 (by decide) rfl u_1_188 ?_
    refine g_get hC hP 13 dX4_restore_44 (by decide) ge_1 rfl inX3 (by decide) rfl u_1_77 ?_
    cases h
    refine W.widen (k := 1) (n := 6) (by decide) (by decide) ?_
    exact g_xiret hC hP hS dX4_restore_47 rfl
  · rw [if_pos c1] at h
    cases h
    exact g_thrW hC hX hP hS gx_2 (List.mem_of_getElem? (i := 17) rfl) hl.1 dX4_restore_7 dX4_restore_10 dX4_restore_11 dX4_restore_14 dX4_restore_17 (Nat.le_of_ble_eq_true rfl) (Nat.le_of_ble_eq_true rfl) (by decide) (by decide) (by decide) (by decide) rfl
