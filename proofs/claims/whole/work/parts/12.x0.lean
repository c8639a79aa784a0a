def r0_isText_b3 (x0 : Int32) (x1_3 : Int32) : Option ((Int32) ⊕ ((Unit) ⊕ (Int32))) :=
  (if x1_3 < 0 then some (.inr (.inl ()))
  else (some ((x0 >>> (x1_3 &&& 31)) &&& 255)).bind fun v2 =>
  (if v2 = 0 then some (.inl (x1_3 + (-8)))
  else (if v2 < 33 then some (.inr (.inr 0))
  else (if v2 ≤ 126 then some (.inl (x1_3 + (-8)))
  else some (.inr (.inr 0))))))
def r0_isText (x0 : Int32) : Option Int32 :=
  bs0 (it1 (r0_isText_b3 x0) 200 24) (fun _ => some 1) (fun t6 => some t6)
theorem yv_X0_isText : gYS yX0_isText cX0_isText 3 (some .boolean) 1 := ⟨u_3_31, u_1_6, u_3_32, ⟨by decide +kernel, by decide +kernel, by decide +kernel⟩, by decide⟩
set_option maxHeartbeats 4000000 in
set_option maxRecDepth 100000 in
theorem c0_isText (l : Launch) {γ : GA} {sz : Nat} {T P X Y B M : OS} {E : Nat → OS} {O : Nat → Int64} {x0 : Int32} {r0 : Int32} (h : r0_isText x0 = some r0) : Met l yX0_isText (gU yX0_isText cX0_isText 3 (some .boolean)) (gR 0 0 0) (gPc γ [.int x0] sz (T, P, X, Y, E, B, M, O)) (gQi γ r0 sz (T, P, X, Y, E, B, M, O)) 0 0 (gA γ sz) := by
  refine g_met (fun sz => gQi γ r0 sz (T, P, X, Y, E, B, M, O)) (by decide) (Nat.le_of_ble_eq_true rfl) ?_
  intro p e s m args below meth c ls hC hP hS hl
  have hx := hC.x
  have hb := hC.b
  have hl : lv_has ls 3 [(0, .int x0)] := hl
  unfold r0_isText at h
  refine lv_bipush (v := 24) hx hb dX0_isText_0 (by decide) ?_
  refine lv_istore_n (lv' := [(1, .int 24), (0, .int x0)]) hx hb dX0_isText_2 rfl hl (by decide) rfl (fun ls hl => ?_)
  have L3 := it1_W (r0_isText_b3 x0) (fun (x1_3 : Int32) => ∀ (H : Heap) (locs : List Loc) (ls : Array Slot), va_P γ.1 vwCl (gw γ (T, P, X, Y, E, B, M, O)) H → va_S (gA γ s.heap.size) s.heap H locs → lv_has ls 3 [(0, .int x0), (1, .int x1_3)] → W p l e (gR 0 0 0) s m args below meth c H locs 0 0 (MQ below (gQi γ r0 s.heap.size (T, P, X, Y, E, B, M, O)) args s 0 0 (gA γ s.heap.size)) (F0 m 3 ls [])) (fun (r_k : (Unit) ⊕ (Int32)) => (r_k = .inl () → ∀ (H : Heap) (locs : List Loc) (ls : Array Slot), va_P γ.1 vwCl (gw γ (T, P, X, Y, E, B, M, O)) H → va_S (gA γ s.heap.size) s.heap H locs → lv_has ls 3 [] → W p l e (gR 0 0 0) s m args below meth c H locs 0 0 (MQ below (gQi γ r0 s.heap.size (T, P, X, Y, E, B, M, O)) args s 0 0 (gA γ s.heap.size)) (F0 m 39 ls [])) ∧ (∀ t_k, r_k = .inr t_k → t_k = r0)) (by
    intro x1_3 o_3 h kS kR H locs ls hP hS hl
    unfold r0_isText_b3 at h
    refine lv_iload_n hx hb dX0_isText_3 rfl (lv_at hl 1 rfl) ?_
    refine lv_if_lt (tgt := 39) hx hb dX0_isText_4 (by decide) (fun c1 => ?_) (fun c1 => ?_)
    · rw [if_pos c1] at h
      cases h
      exact (kR _ rfl).1  rfl _ _ _ hP hS (lv_sub hl [] rfl)
    · rw [if_neg c1] at h
      refine lv_iload_n hx hb dX0_isText_7 rfl (lv_at hl 0 rfl) ?_
      refine lv_iload_n hx hb dX0_isText_8 rfl (lv_at hl 1 rfl) ?_
      refine lv_ishr hx hb dX0_isText_9 ?_
      refine lv_sipush (v := 255) hx hb dX0_isText_10 (by decide) ?_
      refine lv_iand hx hb dX0_isText_13 ?_
      obtain ⟨v2, hv, h⟩ := ob h
      refine lv_topi (fun y9 ey9 => ?_)
      obtain rfl : v2 = y9 := (Option.some.inj hv).symm.trans ey9.symm
      clear hv ey9
      refine lv_istore_n (lv' := [(2, .int v2), (0, .int x0), (1, .int x1_3)]) hx hb dX0_isText_14 rfl hl (by decide) rfl (fun ls hl => ?_)
      refine lv_iload_n hx hb dX0_isText_15 rfl (lv_at hl 0 rfl) ?_
      refine lv_if_eq (tgt := 33) hx hb dX0_isText_16 (by decide) (fun c3 => ?_) (fun c3 => ?_)
      · rw [if_pos c3] at h
        refine lv_iinc (v := (x1_3 + (-8))) (lv' := [(1, .int (x1_3 + (-8))), (2, .int v2), (0, .int x0)]) hx hb dX0_isText_33 hl (k := 2) rfl rfl (by decide) rfl (fun ls hl => ?_)
        refine lv_goto (tgt := 3) hx hb dX0_isText_36 (by decide) ?_
        cases h
        exact kS _ rfl _ _ _ hP hS (lv_sub hl [2, 0] rfl)
      · rw [if_neg c3] at h
        refine lv_iload_n hx hb dX0_isText_19 rfl (lv_at hl 0 rfl) ?_
        refine lv_bipush (v := 33) hx hb dX0_isText_20 (by decide) ?_
        refine lv_icmp_lt (tgt := 31) hx hb dX0_isText_22 (by decide) (fun c4 => ?_) (fun c4 => ?_)
        · rw [if_pos c4] at h
          refine lv_iconst (v := 0) hx hb dX0_isText_31 (by decide) ?_
          have hz : zz 0 = some 0 := rfl
          cases h
          cases (kR _ rfl).2 _ rfl
          exact g_zret hC hP hS dX0_isText_32 hz rfl
        · rw [if_neg c4] at h
          refine lv_iload_n hx hb dX0_isText_25 rfl (lv_at hl 0 rfl) ?_
          refine lv_bipush (v := 126) hx hb dX0_isText_26 (by decide) ?_
          refine lv_icmp_le (tgt := 33) hx hb dX0_isText_28 (by decide) (fun c5 => ?_) (fun c5 => ?_)
          · rw [if_pos c5] at h
            refine lv_iinc (v := (x1_3 + (-8))) (lv' := [(1, .int (x1_3 + (-8))), (2, .int v2), (0, .int x0)]) hx hb dX0_isText_33 hl (k := 2) rfl rfl (by decide) rfl (fun ls hl => ?_)
            refine lv_goto (tgt := 3) hx hb dX0_isText_36 (by decide) ?_
            cases h
            exact kS _ rfl _ _ _ hP hS (lv_sub hl [2, 0] rfl)
          · rw [if_neg c5] at h
            refine lv_iconst (v := 0) hx hb dX0_isText_31 (by decide) ?_
            have hz : zz 0 = some 0 := rfl
            cases h
            cases (kR _ rfl).2 _ rfl
            exact g_zret hC hP hS dX0_isText_32 hz rfl)
  rcases bs0_e h with ⟨hv, h⟩ | ⟨t6, hv, h⟩
  · refine L3 _ _ _ hv ⟨fun e9 H locs ls hP hS hl => ?_, fun t9 e9 => nomatch e9⟩ _ _ _ hP hS (lv_sub hl [1, 0] rfl)
    skip
    refine lv_iconst (v := 1) hx hb dX0_isText_39 (by decide) ?_
    have hz : zz 1 = some 1 := rfl
    cases h
    exact g_zret hC hP hS dX0_isText_40 hz rfl
  · refine L3 _ _ _ hv ⟨fun e9 => (nomatch e9), fun t9 e9 => ?_⟩ _ _ _ hP hS (lv_sub hl [1, 0] rfl)
    cases e9
    exact Option.some.inj h
def r0_hasRoomFor_b5 (X : OS) (x1 : Int32) (x2_5 : Int32) (x3_5 : Int32) : Option ((Int32 × Int32) ⊕ (Int32)) :=
  (if x3_5 < 0 then some (.inr x2_5)
  else (if ((x1 >>> (x3_5 &&& 31)) &&& 255) = 0 then some (.inl (x2_5, (x3_5 + (-8))))
  else some (.inl ((x2_5 + 1), (x3_5 + (-8))))))
def r0_hasRoomFor (X : OS) (x1 : Int32) : Option Int32 :=
  bd1 (it2 (r0_hasRoomFor_b5 X x1) 200 0 24) (fun x2_x5 => (if 40 < ((X 2 0) + x2_x5) then some 0
  else some 1))
theorem yv_X0_hasRoomFor : gYV yX0_hasRoomFor cX0_hasRoomFor 4 (some .boolean) 1 := ⟨u_3_35, u_3_36, u_1_6, u_3_37, ⟨by decide +kernel, by decide +kernel, by decide +kernel⟩, by decide⟩
set_option maxHeartbeats 4000000 in
set_option maxRecDepth 100000 in
theorem c0_hasRoomFor (l : Launch) {γ : GA} {sz : Nat} {T P X Y B M : OS} {E : Nat → OS} {O : Nat → Int64} {x1 : Int32} {r0 : Int32} (h : r0_hasRoomFor X x1 = some r0) : Met l yX0_hasRoomFor (gU yX0_hasRoomFor cX0_hasRoomFor 4 (some .boolean)) (gR 0 0 0) (gPc γ [.ref (ad γ 21), .int x1] sz (T, P, X, Y, E, B, M, O)) (gQi γ r0 sz (T, P, X, Y, E, B, M, O)) 0 0 (gA γ sz) := by
  refine g_met (fun sz => gQi γ r0 sz (T, P, X, Y, E, B, M, O)) (by decide) (Nat.le_of_ble_eq_true rfl) ?_
  intro p e s m args below meth c ls hC hP hS hl
  have hx := hC.x
  have hb := hC.b
  have hl : lv_has ls 4 [(0, .ref (ad γ 21)), (1, .int x1)] := hl
  unfold r0_hasRoomFor at h
  refine lv_iconst (v := 0) hx hb dX0_hasRoomFor_0 (by decide) ?_
  refine lv_istore_n (lv' := [(2, .int 0), (0, .ref (ad γ 21)), (1, .int x1)]) hx hb dX0_hasRoomFor_1 rfl hl (by decide) rfl (fun ls hl => ?_)
  refine lv_bipush (v := 24) hx hb dX0_hasRoomFor_2 (by decide) ?_
  refine lv_istore_n (lv' := [(3, .int 24), (2, .int 0), (0, .ref (ad γ 21)), (1, .int x1)]) hx hb dX0_hasRoomFor_4 rfl hl (by decide) rfl (fun ls hl => ?_)
  have L5 := it2_W (r0_hasRoomFor_b5 X x1) (fun (x2_5 : Int32) (x3_5 : Int32) => ∀ (H : Heap) (locs : List Loc) (ls : Array Slot), va_P γ.1 vwCl (gw γ (T, P, X, Y, E, B, M, O)) H → va_S (gA γ s.heap.size) s.heap H locs → lv_has ls 4 [(0, .ref (ad γ 21)), (1, .int x1), (2, .int x2_5), (3, .int x3_5)] → W p l e (gR 0 0 0) s m args below meth c H locs 0 0 (MQ below (gQi γ r0 s.heap.size (T, P, X, Y, E, B, M, O)) args s 0 0 (gA γ s.heap.size)) (F0 m 5 ls [])) (fun (r_k : Int32) => (∀ (x2_x5 : Int32), r_k = x2_x5 → ∀ (H : Heap) (locs : List Loc) (ls : Array Slot), va_P γ.1 vwCl (gw γ (T, P, X, Y, E, B, M, O)) H → va_S (gA γ s.heap.size) s.heap H locs → lv_has ls 4 [(0, .ref (ad γ 21)), (2, .int x2_x5)] → W p l e (gR 0 0 0) s m args below meth c H locs 0 0 (MQ below (gQi γ r0 s.heap.size (T, P, X, Y, E, B, M, O)) args s 0 0 (gA γ s.heap.size)) (F0 m 28 ls []))) (by
    intro x2_5 x3_5 o_5 h kS kR H locs ls hP hS hl
    unfold r0_hasRoomFor_b5 at h
    refine lv_iload_n hx hb dX0_hasRoomFor_5 rfl (lv_at hl 3 rfl) ?_
    refine lv_if_lt (tgt := 28) hx hb dX0_hasRoomFor_6 (by decide) (fun c1 => ?_) (fun c1 => ?_)
    · rw [if_pos c1] at h
      cases h
      exact kR _ rfl _ rfl _ _ _ hP hS (lv_sub hl [0, 2] rfl)
    · rw [if_neg c1] at h
      refine lv_iload_n hx hb dX0_hasRoomFor_9 rfl (lv_at hl 1 rfl) ?_
      refine lv_iload_n hx hb dX0_hasRoomFor_10 rfl (lv_at hl 3 rfl) ?_
      refine lv_ishr hx hb dX0_hasRoomFor_11 ?_
      refine lv_sipush (v := 255) hx hb dX0_hasRoomFor_12 (by decide) ?_
      refine lv_iand hx hb dX0_hasRoomFor_15 ?_
      refine lv_if_eq (tgt := 22) hx hb dX0_hasRoomFor_16 (by decide) (fun c2 => ?_) (fun c2 => ?_)
      · rw [if_pos c2] at h
        refine lv_iinc (v := (x3_5 + (-8))) (lv' := [(3, .int (x3_5 + (-8))), (0, .ref (ad γ 21)), (1, .int x1), (2, .int x2_5)]) hx hb dX0_hasRoomFor_22 hl (k := 3) rfl rfl (by decide) rfl (fun ls hl => ?_)
        refine lv_goto (tgt := 5) hx hb dX0_hasRoomFor_25 (by decide) ?_
        cases h
        exact kS _ _ rfl _ _ _ hP hS (lv_sub hl [1, 2, 3, 0] rfl)
      · rw [if_neg c2] at h
        refine lv_iinc (v := (x2_5 + 1)) (lv' := [(2, .int (x2_5 + 1)), (0, .ref (ad γ 21)), (1, .int x1), (3, .int x3_5)]) hx hb dX0_hasRoomFor_19 hl (k := 2) rfl rfl (by decide) rfl (fun ls hl => ?_)
        refine lv_iinc (v := (x3_5 + (-8))) (lv' := [(3, .int (x3_5 + (-8))), (2, .int (x2_5 + 1)), (0, .ref (ad γ 21)), (1, .int x1)]) hx hb dX0_hasRoomFor_22 hl (k := 3) rfl rfl (by decide) rfl (fun ls hl => ?_)
        refine lv_goto (tgt := 5) hx hb dX0_hasRoomFor_25 (by decide) ?_
        cases h
        exact kS _ _ rfl _ _ _ hP hS (lv_sub hl [2, 3, 1, 0] rfl))
  obtain ⟨x2_x5, hv, h⟩ := bd1_e h
  refine L5 _ _ _ _ hv (fun q0 e9 H locs ls hP hS hl => ?_) _ _ _ hP hS (lv_sub hl [2, 3, 1, 0] rfl)
  obtain rfl := e9
  refine lv_aload_n hx hb dX0_hasRoomFor_28 rfl (lv_at hl 0 rfl) ?_
  refine g_get hC hP 2 dX0_hasRoomFor_29 (by decide) ge_21 rfl inX0 (by decide) rfl u_1_159 ?_
  refine lv_iload_n hx hb dX0_hasRoomFor_32 rfl (lv_at hl 1 rfl) ?_
  refine lv_iadd hx hb dX0_hasRoomFor_33 ?_
  refine lv_bipush (v := 40) hx hb dX0_hasRoomFor_34 (by decide) ?_
  refine lv_icmp_gt (tgt := 43) hx hb dX0_hasRoomFor_36 (by decide) (fun c3 => ?_) (fun c3 => ?_)
  · rw [if_pos c3] at h
    refine lv_iconst (v := 0) hx hb dX0_hasRoomFor_43 (by decide) ?_
    have hz : zz 0 = some 0 := rfl
    cases h
    exact g_zret hC hP hS dX0_hasRoomFor_44 hz rfl
  · rw [if_neg c3] at h
    refine lv_iconst (v := 1) hx hb dX0_hasRoomFor_39 (by decide) ?_
    refine lv_goto (tgt := 44) hx hb dX0_hasRoomFor_40 (by decide) ?_
    have hz : zz 1 = some 1 := rfl
    cases h
    exact g_zret hC hP hS dX0_hasRoomFor_44 hz rfl
def r0_add_b3 (x1 : Int32) (X_3 : OS) (x2_3 : Int32) : Option ((OS × Int32) ⊕ (OS)) :=
  (if x2_3 < 0 then some (.inr X_3)
  else (some ((x1 >>> (x2_3 &&& 31)) &&& 255)).bind fun v2 =>
  (if v2 = 0 then some (.inl (X_3, (x2_3 + (-8))))
  else (if (X_3 2 0) < 0 then some (.inl (X_3, (x2_3 + (-8))))
  else (if 40 ≤ (X_3 2 0) then some (.inl (X_3, (x2_3 + (-8))))
  else (wr 40 X_3 0 (X_3 2 0) v2).bind fun X6 =>
  (sw X6 2 ((X6 2 0) + 1)).bind fun X7 =>
  some (.inl (X7, (x2_3 + (-8))))))))
def r0_add (X : OS) (x1 : Int32) : Option (Int32 × OS) :=
  bd1 (it2 (r0_add_b3 x1) 200 X 24) (fun X_x3 => some ((X_x3 2 0), X_x3))
theorem yv_X0_add : gYV yX0_add cX0_add 4 (some .int) 1 := ⟨u_3_55, u_3_56, u_1_6, u_3_57, ⟨by decide +kernel, by decide +kernel, by decide +kernel⟩, by decide⟩
set_option maxHeartbeats 4000000 in
set_option maxRecDepth 100000 in
theorem c0_add (l : Launch) {γ : GA} {sz : Nat} {T P X Y B M : OS} {E : Nat → OS} {O : Nat → Int64} {x1 : Int32} {r0 : Int32} {Xz : OS} (h : r0_add X x1 = some (r0, Xz)) : Met l yX0_add (gU yX0_add cX0_add 4 (some .int)) (gR 0 0 0) (gPc γ [.ref (ad γ 21), .int x1] sz (T, P, X, Y, E, B, M, O)) (gQi γ r0 sz (T, P, Xz, Y, E, B, M, O)) 0 0 (gA γ sz) := by
  refine g_met (fun sz => gQi γ r0 sz (T, P, Xz, Y, E, B, M, O)) (by decide) (Nat.le_of_ble_eq_true rfl) ?_
  intro p e s m args below meth c ls hC hP hS hl
  have hx := hC.x
  have hb := hC.b
  have hl : lv_has ls 4 [(0, .ref (ad γ 21)), (1, .int x1)] := hl
  unfold r0_add at h
  refine lv_bipush (v := 24) hx hb dX0_add_0 (by decide) ?_
  refine lv_istore_n (lv' := [(2, .int 24), (0, .ref (ad γ 21)), (1, .int x1)]) hx hb dX0_add_2 rfl hl (by decide) rfl (fun ls hl => ?_)
  have L3 := it2_W (r0_add_b3 x1) (fun (X_3 : OS) (x2_3 : Int32) => ∀ (H : Heap) (locs : List Loc) (ls : Array Slot), va_P γ.1 vwCl (gw γ (T, P, X_3, Y, E, B, M, O)) H → va_S (gA γ s.heap.size) s.heap H locs → lv_has ls 4 [(0, .ref (ad γ 21)), (1, .int x1), (2, .int x2_3)] → W p l e (gR 0 0 0) s m args below meth c H locs 0 0 (MQ below (gQi γ r0 s.heap.size (T, P, Xz, Y, E, B, M, O)) args s 0 0 (gA γ s.heap.size)) (F0 m 3 ls [])) (fun (r_k : OS) => (∀ (X_x3 : OS), r_k = X_x3 → ∀ (H : Heap) (locs : List Loc) (ls : Array Slot), va_P γ.1 vwCl (gw γ (T, P, X_x3, Y, E, B, M, O)) H → va_S (gA γ s.heap.size) s.heap H locs → lv_has ls 4 [(0, .ref (ad γ 21))] → W p l e (gR 0 0 0) s m args below meth c H locs 0 0 (MQ below (gQi γ r0 s.heap.size (T, P, Xz, Y, E, B, M, O)) args s 0 0 (gA γ s.heap.size)) (F0 m 61 ls []))) (by
    intro X_3 x2_3 o_3 h kS kR H locs ls hP hS hl
    unfold r0_add_b3 at h
    refine lv_iload_n hx hb dX0_add_3 rfl (lv_at hl 2 rfl) ?_
    refine lv_if_lt (tgt := 61) hx hb dX0_add_4 (by decide) (fun c1 => ?_) (fun c1 => ?_)
    · rw [if_pos c1] at h
      cases h
      exact kR _ rfl _ rfl _ _ _ hP hS (lv_sub hl [0] rfl)
    · rw [if_neg c1] at h
      refine lv_iload_n hx hb dX0_add_7 rfl (lv_at hl 1 rfl) ?_
      refine lv_iload_n hx hb dX0_add_8 rfl (lv_at hl 2 rfl) ?_
      refine lv_ishr hx hb dX0_add_9 ?_
      refine lv_sipush (v := 255) hx hb dX0_add_10 (by decide) ?_
      refine lv_iand hx hb dX0_add_13 ?_
      obtain ⟨v2, hv, h⟩ := ob h
      refine lv_topi (fun y9 ey9 => ?_)
      obtain rfl : v2 = y9 := (Option.some.inj hv).symm.trans ey9.symm
      clear hv ey9
      refine lv_istore_n (lv' := [(3, .int v2), (0, .ref (ad γ 21)), (1, .int x1), (2, .int x2_3)]) hx hb dX0_add_14 rfl hl (by decide) rfl (fun ls hl => ?_)
      refine lv_iload_n hx hb dX0_add_15 rfl (lv_at hl 0 rfl) ?_
      refine lv_if_eq (tgt := 55) hx hb dX0_add_16 (by decide) (fun c3 => ?_) (fun c3 => ?_)
      · rw [if_pos c3] at h
        refine lv_iinc (v := (x2_3 + (-8))) (lv' := [(2, .int (x2_3 + (-8))), (3, .int v2), (0, .ref (ad γ 21)), (1, .int x1)]) hx hb dX0_add_55 hl (k := 3) rfl rfl (by decide) rfl (fun ls hl => ?_)
        refine lv_goto (tgt := 3) hx hb dX0_add_58 (by decide) ?_
        cases h
        exact kS _ _ rfl _ _ _ hP hS (lv_sub hl [2, 3, 0] rfl)
      · rw [if_neg c3] at h
        refine lv_aload_n hx hb dX0_add_19 rfl (lv_at hl 1 rfl) ?_
        refine g_get hC hP 2 dX0_add_20 (by decide) ge_21 rfl inX0 (by decide) rfl u_1_159 ?_
        refine lv_if_lt (tgt := 55) hx hb dX0_add_23 (by decide) (fun c4 => ?_) (fun c4 => ?_)
        · rw [if_pos c4] at h
          refine lv_iinc (v := (x2_3 + (-8))) (lv' := [(2, .int (x2_3 + (-8))), (3, .int v2), (0, .ref (ad γ 21)), (1, .int x1)]) hx hb dX0_add_55 hl (k := 3) rfl rfl (by decide) rfl (fun ls hl => ?_)
          refine lv_goto (tgt := 3) hx hb dX0_add_58 (by decide) ?_
          cases h
          exact kS _ _ rfl _ _ _ hP hS (lv_sub hl [2, 3, 0] rfl)
        · rw [if_neg c4] at h
          refine lv_aload_n hx hb dX0_add_26 rfl (lv_at hl 1 rfl) ?_
          refine g_get hC hP 2 dX0_add_27 (by decide) ge_21 rfl inX0 (by decide) rfl u_1_159 ?_
          refine lv_bipush (v := 40) hx hb dX0_add_30 (by decide) ?_
          refine lv_icmp_ge (tgt := 55) hx hb dX0_add_32 (by decide) (fun c5 => ?_) (fun c5 => ?_)
          · rw [if_pos c5] at h
            refine lv_iinc (v := (x2_3 + (-8))) (lv' := [(2, .int (x2_3 + (-8))), (3, .int v2), (0, .ref (ad γ 21)), (1, .int x1)]) hx hb dX0_add_55 hl (k := 3) rfl rfl (by decide) rfl (fun ls hl => ?_)
            refine lv_goto (tgt := 3) hx hb dX0_add_58 (by decide) ?_
            cases h
            exact kS _ _ rfl _ _ _ hP hS (lv_sub hl [2, 3, 0] rfl)
          · rw [if_neg c5] at h
            refine lv_aload_n hx hb dX0_add_35 rfl (lv_at hl 1 rfl) ?_
            refine g_get hC hP 0 dX0_add_36 (by decide) ge_21 rfl inX0 (by decide) rfl u_1_157 ?_
            refine lv_aload_n hx hb dX0_add_39 rfl (lv_at hl 1 rfl) ?_
            refine g_get hC hP 2 dX0_add_40 (by decide) ge_21 rfl inX0 (by decide) rfl u_1_159 ?_
            refine lv_iload_n hx hb dX0_add_43 rfl (lv_at hl 0 rfl) ?_
            obtain ⟨X6, hv, h⟩ := ob h
            refine g_st hC hP hS (fun Z => (T, P, Z, Y, E, B, M, O)) dX0_add_44 (by decide) ge_22 gs_22 hv (fun H locs hP hS => ?_)
            refine lv_aload_n hx hb dX0_add_45 rfl (lv_at hl 1 rfl) ?_
            refine lv_dup hx hb dX0_add_46 rfl ?_
            refine g_get hC hP 2 dX0_add_47 (by decide) ge_21 rfl inX0 (by decide) rfl u_1_159 ?_
            refine lv_iconst (v := 1) hx hb dX0_add_50 (by decide) ?_
            refine lv_iadd hx hb dX0_add_51 ?_
            obtain ⟨X7, hv, h⟩ := ob h
            refine g_putI hC hP hS (fun Z => (T, P, Z, Y, E, B, M, O)) 2 tyX0 dX0_add_52 (by decide) ge_21 rfl inX0 tyX0_ok nmX0 (by decide) u_1_159 rfl rfl (Nat.le_of_ble_eq_true rfl) gp_21_2 hv (fun H locs hP hS => ?_)
            refine lv_iinc (v := (x2_3 + (-8))) (lv' := [(2, .int (x2_3 + (-8))), (3, .int v2), (0, .ref (ad γ 21)), (1, .int x1)]) hx hb dX0_add_55 hl (k := 3) rfl rfl (by decide) rfl (fun ls hl => ?_)
            refine lv_goto (tgt := 3) hx hb dX0_add_58 (by decide) ?_
            cases h
            exact kS _ _ rfl _ _ _ hP hS (lv_sub hl [2, 3, 0] rfl))
  obtain ⟨X_x3, hv, h⟩ := bd1_e h
  refine L3 _ _ _ _ hv (fun q0 e9 H locs ls hP hS hl => ?_) _ _ _ hP hS (lv_sub hl [1, 2, 0] rfl)
  obtain rfl := e9
  refine lv_aload_n hx hb dX0_add_61 rfl (lv_at hl 0 rfl) ?_
  refine g_get hC hP 2 dX0_add_62 (by decide) ge_21 rfl inX0 (by decide) rfl u_1_159 ?_
  cases h
  exact g_iret hC hP hS dX0_add_65 rfl
def r0_sign (X : OS) : Option Int32 :=
  (if (X 1 0) < 0 then some 0
  else (if 40 ≤ (X 1 0) then some 0
  else (if (X 2 0) ≤ (X 1 0) then some 0
  else (rd 40 (X 0) (X 1 0)).bind fun v4 =>
  some v4)))
theorem yv_X0_sign : gYV yX0_sign cX0_sign 1 (some .int) 0 := ⟨u_3_79, u_sp_11, u_1_6, u_3_80, ⟨by decide +kernel, by decide +kernel, by decide +kernel⟩, by decide⟩
set_option maxHeartbeats 4000000 in
set_option maxRecDepth 100000 in
theorem c0_sign (l : Launch) {γ : GA} {sz : Nat} {T P X Y B M : OS} {E : Nat → OS} {O : Nat → Int64} {r0 : Int32} (h : r0_sign X = some r0) : Met l yX0_sign (gU yX0_sign cX0_sign 1 (some .int)) (gR 0 0 0) (gPc γ [.ref (ad γ 21)] sz (T, P, X, Y, E, B, M, O)) (gQi γ r0 sz (T, P, X, Y, E, B, M, O)) 0 0 (gA γ sz) := by
  refine g_met (fun sz => gQi γ r0 sz (T, P, X, Y, E, B, M, O)) (by decide) (Nat.le_of_ble_eq_true rfl) ?_
  intro p e s m args below meth c ls hC hP hS hl
  have hx := hC.x
  have hb := hC.b
  have hl : lv_has ls 1 [(0, .ref (ad γ 21))] := hl
  unfold r0_sign at h
  refine lv_aload_n hx hb dX0_sign_0 rfl (lv_at hl 0 rfl) ?_
  refine g_get hC hP 1 dX0_sign_1 (by decide) ge_21 rfl inX0 (by decide) rfl u_1_158 ?_
  refine lv_if_lt (tgt := 39) hx hb dX0_sign_4 (by decide) (fun c1 => ?_) (fun c1 => ?_)
  · rw [if_pos c1] at h
    refine lv_iconst (v := 0) hx hb dX0_sign_39 (by decide) ?_
    cases h
    exact g_iret hC hP hS dX0_sign_40 rfl
  · rw [if_neg c1] at h
    refine lv_aload_n hx hb dX0_sign_7 rfl (lv_at hl 0 rfl) ?_
    refine g_get hC hP 1 dX0_sign_8 (by decide) ge_21 rfl inX0 (by decide) rfl u_1_158 ?_
    refine lv_bipush (v := 40) hx hb dX0_sign_11 (by decide) ?_
    refine lv_icmp_ge (tgt := 39) hx hb dX0_sign_13 (by decide) (fun c2 => ?_) (fun c2 => ?_)
    · rw [if_pos c2] at h
      refine lv_iconst (v := 0) hx hb dX0_sign_39 (by decide) ?_
      cases h
      exact g_iret hC hP hS dX0_sign_40 rfl
    · rw [if_neg c2] at h
      refine lv_aload_n hx hb dX0_sign_16 rfl (lv_at hl 0 rfl) ?_
      refine g_get hC hP 1 dX0_sign_17 (by decide) ge_21 rfl inX0 (by decide) rfl u_1_158 ?_
      refine lv_aload_n hx hb dX0_sign_20 rfl (lv_at hl 0 rfl) ?_
      refine g_get hC hP 2 dX0_sign_21 (by decide) ge_21 rfl inX0 (by decide) rfl u_1_159 ?_
      refine lv_icmp_ge (tgt := 39) hx hb dX0_sign_24 (by decide) (fun c3 => ?_) (fun c3 => ?_)
      · rw [if_pos c3] at h
        refine lv_iconst (v := 0) hx hb dX0_sign_39 (by decide) ?_
        cases h
        exact g_iret hC hP hS dX0_sign_40 rfl
      · rw [if_neg c3] at h
        refine lv_aload_n hx hb dX0_sign_27 rfl (lv_at hl 0 rfl) ?_
        refine g_get hC hP 0 dX0_sign_28 (by decide) ge_21 rfl inX0 (by decide) rfl u_1_157 ?_
        refine lv_aload_n hx hb dX0_sign_31 rfl (lv_at hl 0 rfl) ?_
        refine g_get hC hP 1 dX0_sign_32 (by decide) ge_21 rfl inX0 (by decide) rfl u_1_158 ?_
        obtain ⟨v4, hv, h⟩ := ob h
        refine g_ld hC hP dX0_sign_35 (by decide) ge_22 hv ?_
        refine lv_goto (tgt := 40) hx hb dX0_sign_36 (by decide) ?_
        cases h
        exact g_iret hC hP hS dX0_sign_40 rfl
def r0_digit (X : OS) : Option Int32 :=
  bd1 (r0_sign X) (fun v1 =>
  (if (v1 - 48) < 0 then some (-1)
  else (if 9 < (v1 - 48) then some (-1)
  else some (v1 - 48))))
theorem yv_X0_digit : gYV yX0_digit cX0_digit 2 (some .int) 0 := ⟨u_3_75, u_sp_10, u_1_6, u_3_76, ⟨by decide +kernel, by decide +kernel, by decide +kernel⟩, by decide⟩
set_option maxHeartbeats 4000000 in
set_option maxRecDepth 100000 in
theorem c0_digit (l : Launch) {γ : GA} {sz : Nat} {T P X Y B M : OS} {E : Nat → OS} {O : Nat → Int64} {r0 : Int32} (h : r0_digit X = some r0) : Met l yX0_digit (gU yX0_digit cX0_digit 2 (some .int)) (gR 1 0 0) (gPc γ [.ref (ad γ 21)] sz (T, P, X, Y, E, B, M, O)) (gQi γ r0 sz (T, P, X, Y, E, B, M, O)) 0 0 (gA γ sz) := by
  refine g_met (fun sz => gQi γ r0 sz (T, P, X, Y, E, B, M, O)) (by decide) (Nat.le_of_ble_eq_true rfl) ?_
  intro p e s m args below meth c ls hC hP hS hl
  have hx := hC.x
  have hb := hC.b
  have hl : lv_has ls 2 [(0, .ref (ad γ 21))] := hl
  unfold r0_digit at h
  refine lv_aload_n hx hb dX0_digit_0 rfl (lv_at hl 0 rfl) ?_
  obtain ⟨v1, hv, h⟩ := bd1_e h
  refine g_ki (g_runV (As := []) (rest := []) hC hP (c0_sign l hv) (by decide) ge_21 rfl u_3_77 yv_X0_sign (Nat.le_of_ble_eq_true rfl) rfl hl.1 rfl (Nat.le_of_ble_eq_true rfl) dX0_digit_1 ⟨by decide, by decide⟩) hS (fun H locs hP hS => ?_)
  refine lv_bipush (v := 48) hx hb dX0_digit_4 (by decide) ?_
  refine lv_isub hx hb dX0_digit_6 ?_
  refine lv_istore_n (lv' := [(1, .int (v1 - 48)), (0, .ref (ad γ 21))]) hx hb dX0_digit_7 rfl hl (by decide) rfl (fun ls hl => ?_)
  refine lv_iload_n hx hb dX0_digit_8 rfl (lv_at hl 0 rfl) ?_
  refine lv_if_lt (tgt := 22) hx hb dX0_digit_9 (by decide) (fun c2 => ?_) (fun c2 => ?_)
  · rw [if_pos c2] at h
    refine lv_iconst (v := -1) hx hb dX0_digit_22 (by decide) ?_
    cases h
    exact g_iret hC hP hS dX0_digit_23 rfl
  · rw [if_neg c2] at h
    refine lv_iload_n hx hb dX0_digit_12 rfl (lv_at hl 0 rfl) ?_
    refine lv_bipush (v := 9) hx hb dX0_digit_13 (by decide) ?_
    refine lv_icmp_gt (tgt := 22) hx hb dX0_digit_15 (by decide) (fun c3 => ?_) (fun c3 => ?_)
    · rw [if_pos c3] at h
      refine lv_iconst (v := -1) hx hb dX0_digit_22 (by decide) ?_
      cases h
      exact g_iret hC hP hS dX0_digit_23 rfl
    · rw [if_neg c3] at h
      refine lv_iload_n hx hb dX0_digit_18 rfl (lv_at hl 0 rfl) ?_
      refine lv_goto (tgt := 23) hx hb dX0_digit_19 (by decide) ?_
      cases h
      exact g_iret hC hP hS dX0_digit_23 rfl
def r0_skip (X : OS) (x1 : Int32) : Option (Int32 × OS) :=
  bd1 (r0_sign X) (fun v1 =>
  (if v1 = x1 then (sw X 1 ((X 1 0) + 1)).bind fun X3 =>
  some (1, X3)
  else some (0, X)))
theorem yv_X0_skip : gYV yX0_skip cX0_skip 2 (some .boolean) 1 := ⟨u_3_83, u_sp_12, u_1_6, u_3_84, ⟨by decide +kernel, by decide +kernel, by decide +kernel⟩, by decide⟩
set_option maxHeartbeats 4000000 in
set_option maxRecDepth 100000 in
theorem c0_skip (l : Launch) {γ : GA} {sz : Nat} {T P X Y B M : OS} {E : Nat → OS} {O : Nat → Int64} {x1 : Int32} {r0 : Int32} {Xz : OS} (h : r0_skip X x1 = some (r0, Xz)) : Met l yX0_skip (gU yX0_skip cX0_skip 2 (some .boolean)) (gR 1 0 0) (gPc γ [.ref (ad γ 21), .int x1] sz (T, P, X, Y, E, B, M, O)) (gQi γ r0 sz (T, P, Xz, Y, E, B, M, O)) 0 0 (gA γ sz) := by
  refine g_met (fun sz => gQi γ r0 sz (T, P, Xz, Y, E, B, M, O)) (by decide) (Nat.le_of_ble_eq_true rfl) ?_
  intro p e s m args below meth c ls hC hP hS hl
  have hx := hC.x
  have hb := hC.b
  have hl : lv_has ls 2 [(0, .ref (ad γ 21)), (1, .int x1)] := hl
  unfold r0_skip at h
  refine lv_aload_n hx hb dX0_skip_0 rfl (lv_at hl 0 rfl) ?_
  obtain ⟨v1, hv, h⟩ := bd1_e h
  refine g_ki (g_runV (As := []) (rest := []) hC hP (c0_sign l hv) (by decide) ge_21 rfl u_3_77 yv_X0_sign (Nat.le_of_ble_eq_true rfl) rfl hl.1 rfl (Nat.le_of_ble_eq_true rfl) dX0_skip_1 ⟨by decide, by decide⟩) hS (fun H locs hP hS => ?_)
  refine lv_iload_n hx hb dX0_skip_4 rfl (lv_at hl 1 rfl) ?_
  refine lv_icmp_eq (tgt := 10) hx hb dX0_skip_5 (by decide) (fun c2 => ?_) (fun c2 => ?_)
  · rw [if_pos c2] at h
    refine lv_aload_n hx hb dX0_skip_10 rfl (lv_at hl 0 rfl) ?_
    refine lv_dup hx hb dX0_skip_11 rfl ?_
    refine g_get hC hP 1 dX0_skip_12 (by decide) ge_21 rfl inX0 (by decide) rfl u_1_158 ?_
    refine lv_iconst (v := 1) hx hb dX0_skip_15 (by decide) ?_
    refine lv_iadd hx hb dX0_skip_16 ?_
    obtain ⟨X3, hv, h⟩ := ob h
    refine g_putI hC hP hS (fun Z => (T, P, Z, Y, E, B, M, O)) 1 tyX0 dX0_skip_17 (by decide) ge_21 rfl inX0 tyX0_ok nmX0 (by decide) u_1_158 rfl rfl (Nat.le_of_ble_eq_true rfl) gp_21_1 hv (fun H locs hP hS => ?_)
    refine lv_iconst (v := 1) hx hb dX0_skip_20 (by decide) ?_
    have hz : zz 1 = some 1 := rfl
    cases h
    exact g_zret hC hP hS dX0_skip_21 hz rfl
  · rw [if_neg c2] at h
    refine lv_iconst (v := 0) hx hb dX0_skip_8 (by decide) ?_
    have hz : zz 0 = some 0 := rfl
    cases h
    exact g_zret hC hP hS dX0_skip_9 hz rfl
def r0_readTeacher (X : OS) : Option (Int32 × OS) :=
  bd1 (r0_digit X) (fun v1 =>
  (sw X 4 v1).bind fun X2 =>
  (if (X2 4 0) < 0 then some (0, X2)
  else (if (X2 4 0) < 6 then (sw X2 1 ((X2 1 0) + 1)).bind fun X5 =>
  bd2 (r0_skip X5 58) (fun v6 X7 =>
  (zz v6).bind fun v8 =>
  some (v8, X7))
  else some (0, X2))))
theorem yv_X0_readTeacher : gYV yX0_readTeacher cX0_readTeacher 1 (some .boolean) 0 := ⟨u_3_71, u_sp_9, u_1_6, u_3_72, ⟨by decide +kernel, by decide +kernel, by decide +kernel⟩, by decide⟩
set_option maxHeartbeats 4000000 in
set_option maxRecDepth 100000 in
theorem c0_readTeacher (l : Launch) {γ : GA} {sz : Nat} {T P X Y B M : OS} {E : Nat → OS} {O : Nat → Int64} {r0 : Int32} {Xz : OS} (h : r0_readTeacher X = some (r0, Xz)) : Met l yX0_readTeacher (gU yX0_readTeacher cX0_readTeacher 1 (some .boolean)) (gR 2 0 0) (gPc γ [.ref (ad γ 21)] sz (T, P, X, Y, E, B, M, O)) (gQi γ r0 sz (T, P, Xz, Y, E, B, M, O)) 0 0 (gA γ sz) := by
  refine g_met (fun sz => gQi γ r0 sz (T, P, Xz, Y, E, B, M, O)) (by decide) (Nat.le_of_ble_eq_true rfl) ?_
  intro p e s m args below meth c ls hC hP hS hl
  have hx := hC.x
  have hb := hC.b
  have hl : lv_has ls 1 [(0, .ref (ad γ 21))] := hl
  unfold r0_readTeacher at h
  refine lv_aload_n hx hb dX0_readTeacher_0 rfl (lv_at hl 0 rfl) ?_
  refine lv_aload_n hx hb dX0_readTeacher_1 rfl (lv_at hl 0 rfl) ?_
  obtain ⟨v1, hv, h⟩ := bd1_e h
  refine g_ki (g_runV (As := []) (rest := [.ref (ad γ 21)]) hC hP (c0_digit l hv) (by decide) ge_21 rfl u_3_73 yv_X0_digit (Nat.le_of_ble_eq_true rfl) rfl hl.1 rfl (Nat.le_of_ble_eq_true rfl) dX0_readTeacher_2 ⟨by decide, by decide⟩) hS (fun H locs hP hS => ?_)
  obtain ⟨X2, hv, h⟩ := ob h
  refine g_putI hC hP hS (fun Z => (T, P, Z, Y, E, B, M, O)) 4 tyX0 dX0_readTeacher_5 (by decide) ge_21 rfl inX0 tyX0_ok nmX0 (by decide) u_1_163 rfl rfl (Nat.le_of_ble_eq_true rfl) gp_21_4 hv (fun H locs hP hS => ?_)
  refine lv_aload_n hx hb dX0_readTeacher_8 rfl (lv_at hl 0 rfl) ?_
  refine g_get hC hP 4 dX0_readTeacher_9 (by decide) ge_21 rfl inX0 (by decide) rfl u_1_163 ?_
  refine lv_if_lt (tgt := 24) hx hb dX0_readTeacher_12 (by decide) (fun c3 => ?_) (fun c3 => ?_)
  · rw [if_pos c3] at h
    refine lv_iconst (v := 0) hx hb dX0_readTeacher_24 (by decide) ?_
    have hz : zz 0 = some 0 := rfl
    cases h
    exact g_zret hC hP hS dX0_readTeacher_25 hz rfl
  · rw [if_neg c3] at h
    refine lv_aload_n hx hb dX0_readTeacher_15 rfl (lv_at hl 0 rfl) ?_
    refine g_get hC hP 4 dX0_readTeacher_16 (by decide) ge_21 rfl inX0 (by decide) rfl u_1_163 ?_
    refine lv_bipush (v := 6) hx hb dX0_readTeacher_19 (by decide) ?_
    refine lv_icmp_lt (tgt := 26) hx hb dX0_readTeacher_21 (by decide) (fun c4 => ?_) (fun c4 => ?_)
    · rw [if_pos c4] at h
      refine lv_aload_n hx hb dX0_readTeacher_26 rfl (lv_at hl 0 rfl) ?_
      refine lv_dup hx hb dX0_readTeacher_27 rfl ?_
      refine g_get hC hP 1 dX0_readTeacher_28 (by decide) ge_21 rfl inX0 (by decide) rfl u_1_158 ?_
      refine lv_iconst (v := 1) hx hb dX0_readTeacher_31 (by decide) ?_
      refine lv_iadd hx hb dX0_readTeacher_32 ?_
      obtain ⟨X5, hv, h⟩ := ob h
      refine g_putI hC hP hS (fun Z => (T, P, Z, Y, E, B, M, O)) 1 tyX0 dX0_readTeacher_33 (by decide) ge_21 rfl inX0 tyX0_ok nmX0 (by decide) u_1_158 rfl rfl (Nat.le_of_ble_eq_true rfl) gp_21_1 hv (fun H locs hP hS => ?_)
      refine lv_aload_n hx hb dX0_readTeacher_36 rfl (lv_at hl 0 rfl) ?_
      refine lv_bipush (v := 58) hx hb dX0_readTeacher_37 (by decide) ?_
      obtain ⟨v6, X7, hv, h⟩ := bd2_e h
      refine g_ki (g_runV (As := [.int 58]) (rest := []) hC hP (c0_skip l hv) (by decide) ge_21 rfl u_3_81 yv_X0_skip (Nat.le_of_ble_eq_true rfl) rfl hl.1 rfl (Nat.le_of_ble_eq_true rfl) dX0_readTeacher_39 ⟨by decide, by decide⟩) hS (fun H locs hP hS => ?_)
      obtain ⟨v8, hz, h⟩ := ob h
      cases h
      exact g_zret hC hP hS dX0_readTeacher_42 hz rfl
    · rw [if_neg c4] at h
      refine lv_iconst (v := 0) hx hb dX0_readTeacher_24 (by decide) ?_
      have hz : zz 0 = some 0 := rfl
      cases h
      exact g_zret hC hP hS dX0_readTeacher_25 hz rfl
def r0_readGroups_b9 (X_9 : OS) (x1_9 : Int32) (x2_9 : Int32) : Option ((OS × Int32 × Int32) ⊕ ((OS) ⊕ (Int32 × OS))) :=
  (if 6 ≤ x2_9 then some (.inr (.inl X_9))
  else bd1 (r0_digit X_9) (fun v3 =>
  (if v3 ≤ x1_9 then some (.inr (.inr (0, X_9)))
  else (if v3 < 6 then (sw X_9 5 ((X_9 5 0) ||| (1 <<< (v3 &&& 31)))).bind fun X6 =>
  (sw X6 1 ((X6 1 0) + 1)).bind fun X7 =>
  bd2 (r0_skip X7 44) (fun v8 X9 =>
  (if v8 = 0 then some (.inr (.inr (1, X9)))
  else some (.inl (X9, v3, (x2_9 + 1)))))
  else some (.inr (.inr (0, X_9)))))))
def r0_readGroups (X : OS) : Option (Int32 × OS) :=
  (sw X 5 0).bind fun X1 =>
  bs1 (it3 r0_readGroups_b9 200 X1 (-1) 0) (fun X_x9 => some (0, X_x9)) (fun t11 => some t11)
theorem yv_X0_readGroups : gYV yX0_readGroups cX0_readGroups 4 (some .boolean) 0 := ⟨u_3_87, u_sp_13, u_1_6, u_3_88, ⟨by decide +kernel, by decide +kernel, by decide +kernel⟩, by decide⟩
set_option maxHeartbeats 4000000 in
set_option maxRecDepth 100000 in
theorem c0_readGroups (l : Launch) {γ : GA} {sz : Nat} {T P X Y B M : OS} {E : Nat → OS} {O : Nat → Int64} {r0 : Int32} {Xz : OS} (h : r0_readGroups X = some (r0, Xz)) : Met l yX0_readGroups (gU yX0_readGroups cX0_readGroups 4 (some .boolean)) (gR 2 0 0) (gPc γ [.ref (ad γ 21)] sz (T, P, X, Y, E, B, M, O)) (gQi γ r0 sz (T, P, Xz, Y, E, B, M, O)) 0 0 (gA γ sz) := by
  refine g_met (fun sz => gQi γ r0 sz (T, P, Xz, Y, E, B, M, O)) (by decide) (Nat.le_of_ble_eq_true rfl) ?_
  intro p e s m args below meth c ls hC hP hS hl
  have hx := hC.x
  have hb := hC.b
  have hl : lv_has ls 4 [(0, .ref (ad γ 21))] := hl
  unfold r0_readGroups at h
  refine lv_aload_n hx hb dX0_readGroups_0 rfl (lv_at hl 0 rfl) ?_
  refine lv_iconst (v := 0) hx hb dX0_readGroups_1 (by decide) ?_
  obtain ⟨X1, hv, h⟩ := ob h
  refine g_putI hC hP hS (fun Z => (T, P, Z, Y, E, B, M, O)) 5 tyX0 dX0_readGroups_2 (by decide) ge_21 rfl inX0 tyX0_ok nmX0 (by decide) u_1_165 rfl rfl (Nat.le_of_ble_eq_true rfl) gp_21_5 hv (fun H locs hP hS => ?_)
  refine lv_iconst (v := -1) hx hb dX0_readGroups_5 (by decide) ?_
  refine lv_istore_n (lv' := [(1, .int (-1)), (0, .ref (ad γ 21))]) hx hb dX0_readGroups_6 rfl hl (by decide) rfl (fun ls hl => ?_)
  refine lv_iconst (v := 0) hx hb dX0_readGroups_7 (by decide) ?_
  refine lv_istore_n (lv' := [(2, .int 0), (1, .int (-1)), (0, .ref (ad γ 21))]) hx hb dX0_readGroups_8 rfl hl (by decide) rfl (fun ls hl => ?_)
  have L9 := it3_W r0_readGroups_b9 (fun (X_9 : OS) (x1_9 : Int32) (x2_9 : Int32) => ∀ (H : Heap) (locs : List Loc) (ls : Array Slot), va_P γ.1 vwCl (gw γ (T, P, X_9, Y, E, B, M, O)) H → va_S (gA γ s.heap.size) s.heap H locs → lv_has ls 4 [(0, .ref (ad γ 21)), (1, .int x1_9), (2, .int x2_9)] → W p l e (gR 2 0 0) s m args below meth c H locs 0 0 (MQ below (gQi γ r0 s.heap.size (T, P, Xz, Y, E, B, M, O)) args s 0 0 (gA γ s.heap.size)) (F0 m 9 ls [])) (fun (r_k : (OS) ⊕ (Int32 × OS)) => (∀ (X_x9 : OS), r_k = .inl X_x9 → ∀ (H : Heap) (locs : List Loc) (ls : Array Slot), va_P γ.1 vwCl (gw γ (T, P, X_x9, Y, E, B, M, O)) H → va_S (gA γ s.heap.size) s.heap H locs → lv_has ls 4 [] → W p l e (gR 2 0 0) s m args below meth c H locs 0 0 (MQ below (gQi γ r0 s.heap.size (T, P, Xz, Y, E, B, M, O)) args s 0 0 (gA γ s.heap.size)) (F0 m 74 ls [])) ∧ (∀ t_k, r_k = .inr t_k → t_k = (r0, Xz))) (by
    intro X_9 x1_9 x2_9 o_9 h kS kR H locs ls hP hS hl
    unfold r0_readGroups_b9 at h
    refine lv_iload_n hx hb dX0_readGroups_9 rfl (lv_at hl 2 rfl) ?_
    refine lv_bipush (v := 6) hx hb dX0_readGroups_10 (by decide) ?_
    refine lv_icmp_ge (tgt := 74) hx hb dX0_readGroups_12 (by decide) (fun c2 => ?_) (fun c2 => ?_)
    · rw [if_pos c2] at h
      cases h
      exact (kR _ rfl).1 _ rfl _ _ _ hP hS (lv_sub hl [] rfl)
    · rw [if_neg c2] at h
      refine lv_aload_n hx hb dX0_readGroups_15 rfl (lv_at hl 0 rfl) ?_
      obtain ⟨v3, hv, h⟩ := bd1_e h
      refine g_ki (g_runV (As := []) (rest := []) hC hP (c0_digit l hv) (by decide) ge_21 rfl u_3_73 yv_X0_digit (Nat.le_of_ble_eq_true rfl) rfl hl.1 rfl (Nat.le_of_ble_eq_true rfl) dX0_readGroups_16 ⟨by decide, by decide⟩) hS (fun H locs hP hS => ?_)
      refine lv_istore_n (lv' := [(3, .int v3), (0, .ref (ad γ 21)), (1, .int x1_9), (2, .int x2_9)]) hx hb dX0_readGroups_19 rfl hl (by decide) rfl (fun ls hl => ?_)
      refine lv_iload_n hx hb dX0_readGroups_20 rfl (lv_at hl 0 rfl) ?_
      refine lv_iload_n hx hb dX0_readGroups_21 rfl (lv_at hl 2 rfl) ?_
      refine lv_icmp_le (tgt := 31) hx hb dX0_readGroups_22 (by decide) (fun c4 => ?_) (fun c4 => ?_)
      · rw [if_pos c4] at h
        refine lv_iconst (v := 0) hx hb dX0_readGroups_31 (by decide) ?_
        have hz : zz 0 = some 0 := rfl
        cases h
        cases (kR _ rfl).2 _ rfl
        exact g_zret hC hP hS dX0_readGroups_32 hz rfl
      · rw [if_neg c4] at h
        refine lv_iload_n hx hb dX0_readGroups_25 rfl (lv_at hl 0 rfl) ?_
        refine lv_bipush (v := 6) hx hb dX0_readGroups_26 (by decide) ?_
        refine lv_icmp_lt (tgt := 33) hx hb dX0_readGroups_28 (by decide) (fun c5 => ?_) (fun c5 => ?_)
        · rw [if_pos c5] at h
          refine lv_aload_n hx hb dX0_readGroups_33 rfl (lv_at hl 1 rfl) ?_
          refine lv_dup hx hb dX0_readGroups_34 rfl ?_
          refine g_get hC hP 5 dX0_readGroups_35 (by decide) ge_21 rfl inX0 (by decide) rfl u_1_165 ?_
          refine lv_iconst (v := 1) hx hb dX0_readGroups_38 (by decide) ?_
          refine lv_iload_n hx hb dX0_readGroups_39 rfl (lv_at hl 0 rfl) ?_
          refine lv_ishl hx hb dX0_readGroups_40 ?_
          refine lv_ior hx hb dX0_readGroups_41 ?_
          obtain ⟨X6, hv, h⟩ := ob h
          refine g_putI hC hP hS (fun Z => (T, P, Z, Y, E, B, M, O)) 5 tyX0 dX0_readGroups_42 (by decide) ge_21 rfl inX0 tyX0_ok nmX0 (by decide) u_1_165 rfl rfl (Nat.le_of_ble_eq_true rfl) gp_21_5 hv (fun H locs hP hS => ?_)
          refine lv_iload_n hx hb dX0_readGroups_45 rfl (lv_at hl 0 rfl) ?_
          refine lv_istore_n (lv' := [(1, .int v3), (3, .int v3), (0, .ref (ad γ 21)), (2, .int x2_9)]) hx hb dX0_readGroups_46 rfl hl (by decide) rfl (fun ls hl => ?_)
          refine lv_aload_n hx hb dX0_readGroups_47 rfl (lv_at hl 2 rfl) ?_
          refine lv_dup hx hb dX0_readGroups_48 rfl ?_
          refine g_get hC hP 1 dX0_readGroups_49 (by decide) ge_21 rfl inX0 (by decide) rfl u_1_158 ?_
          refine lv_iconst (v := 1) hx hb dX0_readGroups_52 (by decide) ?_
          refine lv_iadd hx hb dX0_readGroups_53 ?_
          obtain ⟨X7, hv, h⟩ := ob h
          refine g_putI hC hP hS (fun Z => (T, P, Z, Y, E, B, M, O)) 1 tyX0 dX0_readGroups_54 (by decide) ge_21 rfl inX0 tyX0_ok nmX0 (by decide) u_1_158 rfl rfl (Nat.le_of_ble_eq_true rfl) gp_21_1 hv (fun H locs hP hS => ?_)
          refine lv_aload_n hx hb dX0_readGroups_57 rfl (lv_at hl 2 rfl) ?_
          refine lv_bipush (v := 44) hx hb dX0_readGroups_58 (by decide) ?_
          obtain ⟨v8, X9, hv, h⟩ := bd2_e h
          refine g_ki (g_runV (As := [.int 44]) (rest := []) hC hP (c0_skip l hv) (by decide) ge_21 rfl u_3_81 yv_X0_skip (Nat.le_of_ble_eq_true rfl) rfl hl.1 rfl (Nat.le_of_ble_eq_true rfl) dX0_readGroups_60 ⟨by decide, by decide⟩) hS (fun H locs hP hS => ?_)
          refine lv_if_ne (tgt := 68) hx hb dX0_readGroups_63 (by decide) (fun c10 => ?_) (fun c10 => ?_)
          · rw [if_neg c10] at h
            refine lv_iinc (v := (x2_9 + 1)) (lv' := [(2, .int (x2_9 + 1)), (1, .int v3), (3, .int v3), (0, .ref (ad γ 21))]) hx hb dX0_readGroups_68 hl (k := 3) rfl rfl (by decide) rfl (fun ls hl => ?_)
            refine lv_goto (tgt := 9) hx hb dX0_readGroups_71 (by decide) ?_
            cases h
            exact kS _ _ _ rfl _ _ _ hP hS (lv_sub hl [3, 1, 0] rfl)
          · rw [if_pos c10] at h
            refine lv_iconst (v := 1) hx hb dX0_readGroups_66 (by decide) ?_
            have hz : zz 1 = some 1 := rfl
            cases h
            cases (kR _ rfl).2 _ rfl
            exact g_zret hC hP hS dX0_readGroups_67 hz rfl
        · rw [if_neg c5] at h
          refine lv_iconst (v := 0) hx hb dX0_readGroups_31 (by decide) ?_
          have hz : zz 0 = some 0 := rfl
          cases h
          cases (kR _ rfl).2 _ rfl
          exact g_zret hC hP hS dX0_readGroups_32 hz rfl)
  rcases bs1_e h with ⟨X_x9, hv, h⟩ | ⟨t11, hv, h⟩
  · refine L9 _ _ _ _ _ hv ⟨fun q0 e9 H locs ls hP hS hl => ?_, fun t9 e9 => nomatch e9⟩ _ _ _ hP hS (lv_sub hl [2, 1, 0] rfl)
    obtain rfl := (Sum.inl.inj e9)
    refine lv_iconst (v := 0) hx hb dX0_readGroups_74 (by decide) ?_
    have hz : zz 0 = some 0 := rfl
    cases h
    exact g_zret hC hP hS dX0_readGroups_75 hz rfl
  · refine L9 _ _ _ _ _ hv ⟨fun q0 e9 => (nomatch e9), fun t9 e9 => ?_⟩ _ _ _ hP hS (lv_sub hl [2, 1, 0] rfl)
    cases e9
    exact Option.some.inj h
def r0_readNeeds_j72 (X_72 : OS) (x1_72 : Int32) (x2_72 : Int32)  : Option (Int32 × OS) :=
  (if x2_72 ≤ 15 then (sw X_72 6 x2_72).bind fun X2 =>
  some (1, X2)
  else (sw X_72 1 x1_72).bind fun X3 =>
  some (0, X3))
def r0_readNeeds (X : OS) : Option (Int32 × OS) :=
  (sw X 6 0).bind fun X4 =>
  bd2 (r0_skip X4 47) (fun v5 X6 =>
  (if v5 = 0 then some (1, X6)
  else bd1 (r0_digit X6) (fun v8 =>
  (if 0 ≤ v8 then (sw X6 1 ((X6 1 0) + 1)).bind fun X10 =>
  bd1 (r0_digit X10) (fun v11 =>
  (if v8 ≤ 0 then r0_readNeeds_j72 X10 (X6 1 0) v8
  else (if v11 < 0 then r0_readNeeds_j72 X10 (X6 1 0) v8
  else (sw X10 1 ((X10 1 0) + 1)).bind fun X14 =>
  r0_readNeeds_j72 X14 (X6 1 0) ((10 * v8) + v11))))
  else some (0, X6)))))
theorem yv_X0_readNeeds : gYV yX0_readNeeds cX0_readNeeds 4 (some .boolean) 0 := ⟨u_3_91, u_sp_14, u_1_6, u_3_92, ⟨by decide +kernel, by decide +kernel, by decide +kernel⟩, by decide⟩
set_option maxHeartbeats 4000000 in
set_option maxRecDepth 100000 in
theorem c0_readNeeds (l : Launch) {γ : GA} {sz : Nat} {T P X Y B M : OS} {E : Nat → OS} {O : Nat → Int64} {r0 : Int32} {Xz : OS} (h : r0_readNeeds X = some (r0, Xz)) : Met l yX0_readNeeds (gU yX0_readNeeds cX0_readNeeds 4 (some .boolean)) (gR 2 0 0) (gPc γ [.ref (ad γ 21)] sz (T, P, X, Y, E, B, M, O)) (gQi γ r0 sz (T, P, Xz, Y, E, B, M, O)) 0 0 (gA γ sz) := by
  refine g_met (fun sz => gQi γ r0 sz (T, P, Xz, Y, E, B, M, O)) (by decide) (Nat.le_of_ble_eq_true rfl) ?_
  intro p e s m args below meth c ls hC hP hS hl
  have hx := hC.x
  have hb := hC.b
  have hl : lv_has ls 4 [(0, .ref (ad γ 21))] := hl
  unfold r0_readNeeds at h
  have J72 : ∀ (X_72 : OS) (x1_72 : Int32) (x2_72 : Int32) (h : r0_readNeeds_j72 X_72 x1_72 x2_72 = some (r0, Xz)), ∀ (H : Heap) (locs : List Loc) (ls : Array Slot), va_P γ.1 vwCl (gw γ (T, P, X_72, Y, E, B, M, O)) H → va_S (gA γ s.heap.size) s.heap H locs → lv_has ls 4 [(0, .ref (ad γ 21)), (1, .int x1_72), (2, .int x2_72)] → W p l e (gR 2 0 0) s m args below meth c H locs 0 0 (MQ below (gQi γ r0 s.heap.size (T, P, Xz, Y, E, B, M, O)) args s 0 0 (gA γ s.heap.size)) (F0 m 72 ls []) := by
    intro X_72 x1_72 x2_72 h H locs ls hP hS hl
    unfold r0_readNeeds_j72 at h
    refine lv_iload_n hx hb dX0_readNeeds_72 rfl (lv_at hl 2 rfl) ?_
    refine lv_bipush (v := 15) hx hb dX0_readNeeds_73 (by decide) ?_
    refine lv_icmp_le (tgt := 85) hx hb dX0_readNeeds_75 (by decide) (fun c1 => ?_) (fun c1 => ?_)
    · rw [if_pos c1] at h
      refine lv_aload_n hx hb dX0_readNeeds_85 rfl (lv_at hl 0 rfl) ?_
      refine lv_iload_n hx hb dX0_readNeeds_86 rfl (lv_at hl 2 rfl) ?_
      obtain ⟨X2, hv, h⟩ := ob h
      refine g_putI hC hP hS (fun Z => (T, P, Z, Y, E, B, M, O)) 6 tyX0 dX0_readNeeds_87 (by decide) ge_21 rfl inX0 tyX0_ok nmX0 (by decide) u_1_167 rfl rfl (Nat.le_of_ble_eq_true rfl) gp_21_6 hv (fun H locs hP hS => ?_)
      refine lv_iconst (v := 1) hx hb dX0_readNeeds_90 (by decide) ?_
      have hz : zz 1 = some 1 := rfl
      cases h
      exact g_zret hC hP hS dX0_readNeeds_91 hz rfl
    · rw [if_neg c1] at h
      refine lv_aload_n hx hb dX0_readNeeds_78 rfl (lv_at hl 0 rfl) ?_
      refine lv_iload_n hx hb dX0_readNeeds_79 rfl (lv_at hl 1 rfl) ?_
      obtain ⟨X3, hv, h⟩ := ob h
      refine g_putI hC hP hS (fun Z => (T, P, Z, Y, E, B, M, O)) 1 tyX0 dX0_readNeeds_80 (by decide) ge_21 rfl inX0 tyX0_ok nmX0 (by decide) u_1_158 rfl rfl (Nat.le_of_ble_eq_true rfl) gp_21_1 hv (fun H locs hP hS => ?_)
      refine lv_iconst (v := 0) hx hb dX0_readNeeds_83 (by decide) ?_
      have hz : zz 0 = some 0 := rfl
      cases h
      exact g_zret hC hP hS dX0_readNeeds_84 hz rfl
  refine lv_aload_n hx hb dX0_readNeeds_0 rfl (lv_at hl 0 rfl) ?_
  refine lv_iconst (v := 0) hx hb dX0_readNeeds_1 (by decide) ?_
  obtain ⟨X4, hv, h⟩ := ob h
  refine g_putI hC hP hS (fun Z => (T, P, Z, Y, E, B, M, O)) 6 tyX0 dX0_readNeeds_2 (by decide) ge_21 rfl inX0 tyX0_ok nmX0 (by decide) u_1_167 rfl rfl (Nat.le_of_ble_eq_true rfl) gp_21_6 hv (fun H locs hP hS => ?_)
  refine lv_aload_n hx hb dX0_readNeeds_5 rfl (lv_at hl 0 rfl) ?_
  refine lv_bipush (v := 47) hx hb dX0_readNeeds_6 (by decide) ?_
  obtain ⟨v5, X6, hv, h⟩ := bd2_e h
  refine g_ki (g_runV (As := [.int 47]) (rest := []) hC hP (c0_skip l hv) (by decide) ge_21 rfl u_3_81 yv_X0_skip (Nat.le_of_ble_eq_true rfl) rfl hl.1 rfl (Nat.le_of_ble_eq_true rfl) dX0_readNeeds_8 ⟨by decide, by decide⟩) hS (fun H locs hP hS => ?_)
  refine lv_if_ne (tgt := 16) hx hb dX0_readNeeds_11 (by decide) (fun c7 => ?_) (fun c7 => ?_)
  · rw [if_neg c7] at h
    refine lv_aload_n hx hb dX0_readNeeds_16 rfl (lv_at hl 0 rfl) ?_
    refine g_get hC hP 1 dX0_readNeeds_17 (by decide) ge_21 rfl inX0 (by decide) rfl u_1_158 ?_
    refine lv_istore_n (lv' := [(1, .int (X6 1 0)), (0, .ref (ad γ 21))]) hx hb dX0_readNeeds_20 rfl hl (by decide) rfl (fun ls hl => ?_)
    refine lv_aload_n hx hb dX0_readNeeds_21 rfl (lv_at hl 1 rfl) ?_
    obtain ⟨v8, hv, h⟩ := bd1_e h
    refine g_ki (g_runV (As := []) (rest := []) hC hP (c0_digit l hv) (by decide) ge_21 rfl u_3_73 yv_X0_digit (Nat.le_of_ble_eq_true rfl) rfl hl.1 rfl (Nat.le_of_ble_eq_true rfl) dX0_readNeeds_22 ⟨by decide, by decide⟩) hS (fun H locs hP hS => ?_)
    refine lv_istore_n (lv' := [(2, .int v8), (1, .int (X6 1 0)), (0, .ref (ad γ 21))]) hx hb dX0_readNeeds_25 rfl hl (by decide) rfl (fun ls hl => ?_)
    refine lv_iload_n hx hb dX0_readNeeds_26 rfl (lv_at hl 0 rfl) ?_
    refine lv_if_ge (tgt := 32) hx hb dX0_readNeeds_27 (by decide) (fun c9 => ?_) (fun c9 => ?_)
    · rw [if_pos c9] at h
      refine lv_aload_n hx hb dX0_readNeeds_32 rfl (lv_at hl 2 rfl) ?_
      refine lv_dup hx hb dX0_readNeeds_33 rfl ?_
      refine g_get hC hP 1 dX0_readNeeds_34 (by decide) ge_21 rfl inX0 (by decide) rfl u_1_158 ?_
      refine lv_iconst (v := 1) hx hb dX0_readNeeds_37 (by decide) ?_
      refine lv_iadd hx hb dX0_readNeeds_38 ?_
      obtain ⟨X10, hv, h⟩ := ob h
      refine g_putI hC hP hS (fun Z => (T, P, Z, Y, E, B, M, O)) 1 tyX0 dX0_readNeeds_39 (by decide) ge_21 rfl inX0 tyX0_ok nmX0 (by decide) u_1_158 rfl rfl (Nat.le_of_ble_eq_true rfl) gp_21_1 hv (fun H locs hP hS => ?_)
      refine lv_aload_n hx hb dX0_readNeeds_42 rfl (lv_at hl 2 rfl) ?_
      obtain ⟨v11, hv, h⟩ := bd1_e h
      refine g_ki (g_runV (As := []) (rest := []) hC hP (c0_digit l hv) (by decide) ge_21 rfl u_3_73 yv_X0_digit (Nat.le_of_ble_eq_true rfl) rfl hl.1 rfl (Nat.le_of_ble_eq_true rfl) dX0_readNeeds_43 ⟨by decide, by decide⟩) hS (fun H locs hP hS => ?_)
      refine lv_istore_n (lv' := [(3, .int v11), (2, .int v8), (1, .int (X6 1 0)), (0, .ref (ad γ 21))]) hx hb dX0_readNeeds_46 rfl hl (by decide) rfl (fun ls hl => ?_)
      refine lv_iload_n hx hb dX0_readNeeds_47 rfl (lv_at hl 1 rfl) ?_
      refine lv_if_le (tgt := 72) hx hb dX0_readNeeds_48 (by decide) (fun c12 => ?_) (fun c12 => ?_)
      · rw [if_pos c12] at h
        exact J72 X10 (X6 1 0) v8 h _ _ _ hP hS (lv_sub hl [3, 2, 1] rfl)
      · rw [if_neg c12] at h
        refine lv_iload_n hx hb dX0_readNeeds_51 rfl (lv_at hl 0 rfl) ?_
        refine lv_if_lt (tgt := 72) hx hb dX0_readNeeds_52 (by decide) (fun c13 => ?_) (fun c13 => ?_)
        · rw [if_pos c13] at h
          exact J72 X10 (X6 1 0) v8 h _ _ _ hP hS (lv_sub hl [3, 2, 1] rfl)
        · rw [if_neg c13] at h
          refine lv_bipush (v := 10) hx hb dX0_readNeeds_55 (by decide) ?_
          refine lv_iload_n hx hb dX0_readNeeds_57 rfl (lv_at hl 1 rfl) ?_
          refine lv_imul hx hb dX0_readNeeds_58 ?_
          refine lv_iload_n hx hb dX0_readNeeds_59 rfl (lv_at hl 0 rfl) ?_
          refine lv_iadd hx hb dX0_readNeeds_60 ?_
          refine lv_istore_n (lv' := [(2, .int ((10 * v8) + v11)), (3, .int v11), (1, .int (X6 1 0)), (0, .ref (ad γ 21))]) hx hb dX0_readNeeds_61 rfl hl (by decide) rfl (fun ls hl => ?_)
          refine lv_aload_n hx hb dX0_readNeeds_62 rfl (lv_at hl 3 rfl) ?_
          refine lv_dup hx hb dX0_readNeeds_63 rfl ?_
          refine g_get hC hP 1 dX0_readNeeds_64 (by decide) ge_21 rfl inX0 (by decide) rfl u_1_158 ?_
          refine lv_iconst (v := 1) hx hb dX0_readNeeds_67 (by decide) ?_
          refine lv_iadd hx hb dX0_readNeeds_68 ?_
          obtain ⟨X14, hv, h⟩ := ob h
          refine g_putI hC hP hS (fun Z => (T, P, Z, Y, E, B, M, O)) 1 tyX0 dX0_readNeeds_69 (by decide) ge_21 rfl inX0 tyX0_ok nmX0 (by decide) u_1_158 rfl rfl (Nat.le_of_ble_eq_true rfl) gp_21_1 hv (fun H locs hP hS => ?_)
          exact J72 X14 (X6 1 0) ((10 * v8) + v11) h _ _ _ hP hS (lv_sub hl [3, 2, 0] rfl)
    · rw [if_neg c9] at h
      refine lv_iconst (v := 0) hx hb dX0_readNeeds_30 (by decide) ?_
      have hz : zz 0 = some 0 := rfl
      cases h
      exact g_zret hC hP hS dX0_readNeeds_31 hz rfl
  · rw [if_pos c7] at h
    refine lv_iconst (v := 1) hx hb dX0_readNeeds_14 (by decide) ?_
    have hz : zz 1 = some 1 := rfl
    cases h
    exact g_zret hC hP hS dX0_readNeeds_15 hz rfl
def r0_readLength_j33 (X_33 : OS) (x1_33 : Int32)  : Option (Int32 × OS) :=
  (sw X_33 7 x1_33).bind fun X1 =>
  (sw X1 1 ((X1 1 0) + 1)).bind fun X2 =>
  some (1, X2)
def r0_readLength (X : OS) : Option (Int32 × OS) :=
  (sw X 7 1).bind fun X3 =>
  bd2 (r0_skip X3 42) (fun v4 X5 =>
  (if v4 = 0 then some (1, X5)
  else bd1 (r0_digit X5) (fun v7 =>
  (if v7 = 1 then r0_readLength_j33 X5 v7
  else (if v7 = 2 then r0_readLength_j33 X5 v7
  else some (0, X5))))))
theorem yv_X0_readLength : gYV yX0_readLength cX0_readLength 2 (some .boolean) 0 := ⟨u_3_95, u_sp_15, u_1_6, u_3_96, ⟨by decide +kernel, by decide +kernel, by decide +kernel⟩, by decide⟩
set_option maxHeartbeats 4000000 in
set_option maxRecDepth 100000 in
theorem c0_readLength (l : Launch) {γ : GA} {sz : Nat} {T P X Y B M : OS} {E : Nat → OS} {O : Nat → Int64} {r0 : Int32} {Xz : OS} (h : r0_readLength X = some (r0, Xz)) : Met l yX0_readLength (gU yX0_readLength cX0_readLength 2 (some .boolean)) (gR 2 0 0) (gPc γ [.ref (ad γ 21)] sz (T, P, X, Y, E, B, M, O)) (gQi γ r0 sz (T, P, Xz, Y, E, B, M, O)) 0 0 (gA γ sz) := by
  refine g_met (fun sz => gQi γ r0 sz (T, P, Xz, Y, E, B, M, O)) (by decide) (Nat.le_of_ble_eq_true rfl) ?_
  intro p e s m args below meth c ls hC hP hS hl
  have hx := hC.x
  have hb := hC.b
  have hl : lv_has ls 2 [(0, .ref (ad γ 21))] := hl
  unfold r0_readLength at h
  have J33 : ∀ (X_33 : OS) (x1_33 : Int32) (h : r0_readLength_j33 X_33 x1_33 = some (r0, Xz)), ∀ (H : Heap) (locs : List Loc) (ls : Array Slot), va_P γ.1 vwCl (gw γ (T, P, X_33, Y, E, B, M, O)) H → va_S (gA γ s.heap.size) s.heap H locs → lv_has ls 2 [(0, .ref (ad γ 21)), (1, .int x1_33)] → W p l e (gR 2 0 0) s m args below meth c H locs 0 0 (MQ below (gQi γ r0 s.heap.size (T, P, Xz, Y, E, B, M, O)) args s 0 0 (gA γ s.heap.size)) (F0 m 33 ls []) := by
    intro X_33 x1_33 h H locs ls hP hS hl
    unfold r0_readLength_j33 at h
    refine lv_aload_n hx hb dX0_readLength_33 rfl (lv_at hl 0 rfl) ?_
    refine lv_iload_n hx hb dX0_readLength_34 rfl (lv_at hl 1 rfl) ?_
    obtain ⟨X1, hv, h⟩ := ob h
    refine g_putI hC hP hS (fun Z => (T, P, Z, Y, E, B, M, O)) 7 tyX0 dX0_readLength_35 (by decide) ge_21 rfl inX0 tyX0_ok nmX0 (by decide) u_1_170 rfl rfl (Nat.le_of_ble_eq_true rfl) gp_21_7 hv (fun H locs hP hS => ?_)
    refine lv_aload_n hx hb dX0_readLength_38 rfl (lv_at hl 0 rfl) ?_
    refine lv_dup hx hb dX0_readLength_39 rfl ?_
    refine g_get hC hP 1 dX0_readLength_40 (by decide) ge_21 rfl inX0 (by decide) rfl u_1_158 ?_
    refine lv_iconst (v := 1) hx hb dX0_readLength_43 (by decide) ?_
    refine lv_iadd hx hb dX0_readLength_44 ?_
    obtain ⟨X2, hv, h⟩ := ob h
    refine g_putI hC hP hS (fun Z => (T, P, Z, Y, E, B, M, O)) 1 tyX0 dX0_readLength_45 (by decide) ge_21 rfl inX0 tyX0_ok nmX0 (by decide) u_1_158 rfl rfl (Nat.le_of_ble_eq_true rfl) gp_21_1 hv (fun H locs hP hS => ?_)
    refine lv_iconst (v := 1) hx hb dX0_readLength_48 (by decide) ?_
    have hz : zz 1 = some 1 := rfl
    cases h
    exact g_zret hC hP hS dX0_readLength_49 hz rfl
  refine lv_aload_n hx hb dX0_readLength_0 rfl (lv_at hl 0 rfl) ?_
  refine lv_iconst (v := 1) hx hb dX0_readLength_1 (by decide) ?_
  obtain ⟨X3, hv, h⟩ := ob h
  refine g_putI hC hP hS (fun Z => (T, P, Z, Y, E, B, M, O)) 7 tyX0 dX0_readLength_2 (by decide) ge_21 rfl inX0 tyX0_ok nmX0 (by decide) u_1_170 rfl rfl (Nat.le_of_ble_eq_true rfl) gp_21_7 hv (fun H locs hP hS => ?_)
  refine lv_aload_n hx hb dX0_readLength_5 rfl (lv_at hl 0 rfl) ?_
  refine lv_bipush (v := 42) hx hb dX0_readLength_6 (by decide) ?_
  obtain ⟨v4, X5, hv, h⟩ := bd2_e h
  refine g_ki (g_runV (As := [.int 42]) (rest := []) hC hP (c0_skip l hv) (by decide) ge_21 rfl u_3_81 yv_X0_skip (Nat.le_of_ble_eq_true rfl) rfl hl.1 rfl (Nat.le_of_ble_eq_true rfl) dX0_readLength_8 ⟨by decide, by decide⟩) hS (fun H locs hP hS => ?_)
  refine lv_if_ne (tgt := 16) hx hb dX0_readLength_11 (by decide) (fun c6 => ?_) (fun c6 => ?_)
  · rw [if_neg c6] at h
    refine lv_aload_n hx hb dX0_readLength_16 rfl (lv_at hl 0 rfl) ?_
    obtain ⟨v7, hv, h⟩ := bd1_e h
    refine g_ki (g_runV (As := []) (rest := []) hC hP (c0_digit l hv) (by decide) ge_21 rfl u_3_73 yv_X0_digit (Nat.le_of_ble_eq_true rfl) rfl hl.1 rfl (Nat.le_of_ble_eq_true rfl) dX0_readLength_17 ⟨by decide, by decide⟩) hS (fun H locs hP hS => ?_)
    refine lv_istore_n (lv' := [(1, .int v7), (0, .ref (ad γ 21))]) hx hb dX0_readLength_20 rfl hl (by decide) rfl (fun ls hl => ?_)
    refine lv_iload_n hx hb dX0_readLength_21 rfl (lv_at hl 0 rfl) ?_
    refine lv_iconst (v := 1) hx hb dX0_readLength_22 (by decide) ?_
    refine lv_icmp_eq (tgt := 33) hx hb dX0_readLength_23 (by decide) (fun c8 => ?_) (fun c8 => ?_)
    · rw [if_pos c8] at h
      exact J33 X5 v7 h _ _ _ hP hS (lv_sub hl [1, 0] rfl)
    · rw [if_neg c8] at h
      refine lv_iload_n hx hb dX0_readLength_26 rfl (lv_at hl 0 rfl) ?_
      refine lv_iconst (v := 2) hx hb dX0_readLength_27 (by decide) ?_
      refine lv_icmp_eq (tgt := 33) hx hb dX0_readLength_28 (by decide) (fun c9 => ?_) (fun c9 => ?_)
      · rw [if_pos c9] at h
        exact J33 X5 v7 h _ _ _ hP hS (lv_sub hl [1, 0] rfl)
      · rw [if_neg c9] at h
        refine lv_iconst (v := 0) hx hb dX0_readLength_31 (by decide) ?_
        have hz : zz 0 = some 0 := rfl
        cases h
        exact g_zret hC hP hS dX0_readLength_32 hz rfl
  · rw [if_pos c6] at h
    refine lv_iconst (v := 1) hx hb dX0_readLength_14 (by decide) ?_
    have hz : zz 1 = some 1 := rfl
    cases h
    exact g_zret hC hP hS dX0_readLength_15 hz rfl
def r0_readEvent_j63 (X_63 : OS) (x1_63 : Int32) (s0_63 : Int32)  : Option (Int32 × OS) :=
  (sw X_63 3 s0_63).bind fun X1 =>
  (sw X1 2 0).bind fun X2 =>
  (zz x1_63).bind fun v3 =>
  some (v3, X2)
def r0_readEvent_j49 (X_49 : OS) (s0_49 : Int32)  : Option (Int32 × OS) :=
  (if s0_49 = 0 then r0_readEvent_j63 X_49 s0_49 (X_49 1 0)
  else r0_readEvent_j63 X_49 s0_49 (-1))
def r0_readEvent (X : OS) : Option (Int32 × OS) :=
  (sw X 1 0).bind fun X5 =>
  bd2 (r0_readTeacher X5) (fun v6 X7 =>
  (if v6 = 0 then r0_readEvent_j49 X7 0
  else bd2 (r0_readGroups X7) (fun v9 X10 =>
  (if v9 = 0 then r0_readEvent_j49 X10 0
  else bd2 (r0_readNeeds X10) (fun v12 X13 =>
  (if v12 = 0 then r0_readEvent_j49 X13 0
  else bd2 (r0_readLength X13) (fun v15 X16 =>
  (if v15 = 0 then r0_readEvent_j49 X16 0
  else (if (X16 1 0) = (X16 2 0) then r0_readEvent_j49 X16 1
  else r0_readEvent_j49 X16 0)))))))))
theorem yv_X0_readEvent : gYV yX0_readEvent cX0_readEvent 2 (some .boolean) 0 := ⟨u_3_66, u_3_67, u_1_6, u_3_68, ⟨by decide +kernel, by decide +kernel, by decide +kernel⟩, by decide⟩
set_option maxHeartbeats 4000000 in
set_option maxRecDepth 100000 in
theorem c0_readEvent (l : Launch) {γ : GA} {sz : Nat} {T P X Y B M : OS} {E : Nat → OS} {O : Nat → Int64} {r0 : Int32} {Xz : OS} (h : r0_readEvent X = some (r0, Xz)) : Met l yX0_readEvent (gU yX0_readEvent cX0_readEvent 2 (some .boolean)) (gR 3 0 0) (gPc γ [.ref (ad γ 21)] sz (T, P, X, Y, E, B, M, O)) (gQi γ r0 sz (T, P, Xz, Y, E, B, M, O)) 0 0 (gA γ sz) := by
  refine g_met (fun sz => gQi γ r0 sz (T, P, Xz, Y, E, B, M, O)) (by decide) (Nat.le_of_ble_eq_true rfl) ?_
  intro p e s m args below meth c ls hC hP hS hl
  have hx := hC.x
  have hb := hC.b
  have hl : lv_has ls 2 [(0, .ref (ad γ 21))] := hl
  unfold r0_readEvent at h
  have J63 : ∀ (X_63 : OS) (x1_63 : Int32) (s0_63 : Int32) (h : r0_readEvent_j63 X_63 x1_63 s0_63 = some (r0, Xz)), ∀ (H : Heap) (locs : List Loc) (ls : Array Slot), va_P γ.1 vwCl (gw γ (T, P, X_63, Y, E, B, M, O)) H → va_S (gA γ s.heap.size) s.heap H locs → lv_has ls 2 [(0, .ref (ad γ 21)), (1, .int x1_63)] → W p l e (gR 3 0 0) s m args below meth c H locs 0 0 (MQ below (gQi γ r0 s.heap.size (T, P, Xz, Y, E, B, M, O)) args s 0 0 (gA γ s.heap.size)) (F0 m 63 ls [.int s0_63, .ref (ad γ 21)]) := by
    intro X_63 x1_63 s0_63 h H locs ls hP hS hl
    unfold r0_readEvent_j63 at h
    obtain ⟨X1, hv, h⟩ := ob h
    refine g_putI hC hP hS (fun Z => (T, P, Z, Y, E, B, M, O)) 3 tyX0 dX0_readEvent_63 (by decide) ge_21 rfl inX0 tyX0_ok nmX0 (by decide) u_1_161 rfl rfl (Nat.le_of_ble_eq_true rfl) gp_21_3 hv (fun H locs hP hS => ?_)
    refine lv_aload_n hx hb dX0_readEvent_66 rfl (lv_at hl 0 rfl) ?_
    refine lv_iconst (v := 0) hx hb dX0_readEvent_67 (by decide) ?_
    obtain ⟨X2, hv, h⟩ := ob h
    refine g_putI hC hP hS (fun Z => (T, P, Z, Y, E, B, M, O)) 2 tyX0 dX0_readEvent_68 (by decide) ge_21 rfl inX0 tyX0_ok nmX0 (by decide) u_1_159 rfl rfl (Nat.le_of_ble_eq_true rfl) gp_21_2 hv (fun H locs hP hS => ?_)
    refine lv_iload_n hx hb dX0_readEvent_71 rfl (lv_at hl 1 rfl) ?_
    obtain ⟨v3, hz, h⟩ := ob h
    cases h
    exact g_zret hC hP hS dX0_readEvent_72 hz rfl
  have J49 : ∀ (X_49 : OS) (s0_49 : Int32) (h : r0_readEvent_j49 X_49 s0_49 = some (r0, Xz)), ∀ (H : Heap) (locs : List Loc) (ls : Array Slot), va_P γ.1 vwCl (gw γ (T, P, X_49, Y, E, B, M, O)) H → va_S (gA γ s.heap.size) s.heap H locs → lv_has ls 2 [(0, .ref (ad γ 21))] → W p l e (gR 3 0 0) s m args below meth c H locs 0 0 (MQ below (gQi γ r0 s.heap.size (T, P, Xz, Y, E, B, M, O)) args s 0 0 (gA γ s.heap.size)) (F0 m 49 ls [.int s0_49]) := by
    intro X_49 s0_49 h H locs ls hP hS hl
    unfold r0_readEvent_j49 at h
    refine lv_istore_n (lv' := [(1, .int s0_49), (0, .ref (ad γ 21))]) hx hb dX0_readEvent_49 rfl hl (by decide) rfl (fun ls hl => ?_)
    refine lv_aload_n hx hb dX0_readEvent_50 rfl (lv_at hl 1 rfl) ?_
    refine lv_iload_n hx hb dX0_readEvent_51 rfl (lv_at hl 0 rfl) ?_
    refine lv_if_eq (tgt := 59) hx hb dX0_readEvent_52 (by decide) (fun c4 => ?_) (fun c4 => ?_)
    · rw [if_pos c4] at h
      refine lv_aload_n hx hb dX0_readEvent_59 rfl (lv_at hl 1 rfl) ?_
      refine g_get hC hP 1 dX0_readEvent_60 (by decide) ge_21 rfl inX0 (by decide) rfl u_1_158 ?_
      exact J63 X_49 s0_49 (X_49 1 0) h _ _ _ hP hS (lv_sub hl [1, 0] rfl)
    · rw [if_neg c4] at h
      refine lv_iconst (v := -1) hx hb dX0_readEvent_55 (by decide) ?_
      refine lv_goto (tgt := 63) hx hb dX0_readEvent_56 (by decide) ?_
      exact J63 X_49 s0_49 (-1) h _ _ _ hP hS (lv_sub hl [1, 0] rfl)
  refine lv_aload_n hx hb dX0_readEvent_0 rfl (lv_at hl 0 rfl) ?_
  refine lv_iconst (v := 0) hx hb dX0_readEvent_1 (by decide) ?_
  obtain ⟨X5, hv, h⟩ := ob h
  refine g_putI hC hP hS (fun Z => (T, P, Z, Y, E, B, M, O)) 1 tyX0 dX0_readEvent_2 (by decide) ge_21 rfl inX0 tyX0_ok nmX0 (by decide) u_1_158 rfl rfl (Nat.le_of_ble_eq_true rfl) gp_21_1 hv (fun H locs hP hS => ?_)
  refine lv_aload_n hx hb dX0_readEvent_5 rfl (lv_at hl 0 rfl) ?_
  obtain ⟨v6, X7, hv, h⟩ := bd2_e h
  refine g_ki (g_runV (As := []) (rest := []) hC hP (c0_readTeacher l hv) (by decide) ge_21 rfl u_3_69 yv_X0_readTeacher (Nat.le_of_ble_eq_true rfl) rfl hl.1 rfl (Nat.le_of_ble_eq_true rfl) dX0_readEvent_6 ⟨by decide, by decide⟩) hS (fun H locs hP hS => ?_)
  refine lv_if_eq (tgt := 48) hx hb dX0_readEvent_9 (by decide) (fun c8 => ?_) (fun c8 => ?_)
  · rw [if_pos c8] at h
    refine lv_iconst (v := 0) hx hb dX0_readEvent_48 (by decide) ?_
    exact J49 X7 0 h _ _ _ hP hS (lv_sub hl [0] rfl)
  · rw [if_neg c8] at h
    refine lv_aload_n hx hb dX0_readEvent_12 rfl (lv_at hl 0 rfl) ?_
    obtain ⟨v9, X10, hv, h⟩ := bd2_e h
    refine g_ki (g_runV (As := []) (rest := []) hC hP (c0_readGroups l hv) (by decide) ge_21 rfl u_3_85 yv_X0_readGroups (Nat.le_of_ble_eq_true rfl) rfl hl.1 rfl (Nat.le_of_ble_eq_true rfl) dX0_readEvent_13 ⟨by decide, by decide⟩) hS (fun H locs hP hS => ?_)
    refine lv_if_eq (tgt := 48) hx hb dX0_readEvent_16 (by decide) (fun c11 => ?_) (fun c11 => ?_)
    · rw [if_pos c11] at h
      refine lv_iconst (v := 0) hx hb dX0_readEvent_48 (by decide) ?_
      exact J49 X10 0 h _ _ _ hP hS (lv_sub hl [0] rfl)
    · rw [if_neg c11] at h
      refine lv_aload_n hx hb dX0_readEvent_19 rfl (lv_at hl 0 rfl) ?_
      obtain ⟨v12, X13, hv, h⟩ := bd2_e h
      refine g_ki (g_runV (As := []) (rest := []) hC hP (c0_readNeeds l hv) (by decide) ge_21 rfl u_3_89 yv_X0_readNeeds (Nat.le_of_ble_eq_true rfl) rfl hl.1 rfl (Nat.le_of_ble_eq_true rfl) dX0_readEvent_20 ⟨by decide, by decide⟩) hS (fun H locs hP hS => ?_)
      refine lv_if_eq (tgt := 48) hx hb dX0_readEvent_23 (by decide) (fun c14 => ?_) (fun c14 => ?_)
      · rw [if_pos c14] at h
        refine lv_iconst (v := 0) hx hb dX0_readEvent_48 (by decide) ?_
        exact J49 X13 0 h _ _ _ hP hS (lv_sub hl [0] rfl)
      · rw [if_neg c14] at h
        refine lv_aload_n hx hb dX0_readEvent_26 rfl (lv_at hl 0 rfl) ?_
        obtain ⟨v15, X16, hv, h⟩ := bd2_e h
        refine g_ki (g_runV (As := []) (rest := []) hC hP (c0_readLength l hv) (by decide) ge_21 rfl u_3_93 yv_X0_readLength (Nat.le_of_ble_eq_true rfl) rfl hl.1 rfl (Nat.le_of_ble_eq_true rfl) dX0_readEvent_27 ⟨by decide, by decide⟩) hS (fun H locs hP hS => ?_)
        refine lv_if_eq (tgt := 48) hx hb dX0_readEvent_30 (by decide) (fun c17 => ?_) (fun c17 => ?_)
        · rw [if_pos c17] at h
          refine lv_iconst (v := 0) hx hb dX0_readEvent_48 (by decide) ?_
          exact J49 X16 0 h _ _ _ hP hS (lv_sub hl [0] rfl)
        · rw [if_neg c17] at h
          refine lv_aload_n hx hb dX0_readEvent_33 rfl (lv_at hl 0 rfl) ?_
          refine g_get hC hP 1 dX0_readEvent_34 (by decide) ge_21 rfl inX0 (by decide) rfl u_1_158 ?_
          refine lv_aload_n hx hb dX0_readEvent_37 rfl (lv_at hl 0 rfl) ?_
          refine g_get hC hP 2 dX0_readEvent_38 (by decide) ge_21 rfl inX0 (by decide) rfl u_1_159 ?_
          refine lv_icmp_ne (tgt := 48) hx hb dX0_readEvent_41 (by decide) (fun c18 => ?_) (fun c18 => ?_)
          · rw [if_neg c18] at h
            refine lv_iconst (v := 0) hx hb dX0_readEvent_48 (by decide) ?_
            exact J49 X16 0 h _ _ _ hP hS (lv_sub hl [0] rfl)
          · rw [if_pos c18] at h
            refine lv_iconst (v := 1) hx hb dX0_readEvent_44 (by decide) ?_
            refine lv_goto (tgt := 49) hx hb dX0_readEvent_45 (by decide) ?_
            exact J49 X16 1 h _ _ _ hP hS (lv_sub hl [0] rfl)
