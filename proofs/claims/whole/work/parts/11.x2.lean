def r2_hasFixed_b2 (T : OS) (x1 : Int32) (x2_2 : Int32) : Option ((Int32) ⊕ ((Unit) ⊕ (Int32))) :=
  (if 14 ≤ x2_2 then some (.inr (.inl ()))
  else bd1 (r4_contains x1 x2_2) (fun v2 =>
  (if v2 = 0 then some (.inl (x2_2 + 1))
  else (rd 14 (T 12) x2_2).bind fun v4 =>
  (if v4 = 0 then some (.inl (x2_2 + 1))
  else some (.inr (.inr 1))))))
def r2_hasFixed (T : OS) (x1 : Int32) : Option Int32 :=
  bs0 (it1 (r2_hasFixed_b2 T x1) 200 0) (fun _ => some 0) (fun t6 => some t6)
theorem yv_X2_hasFixed : gYV yX2_hasFixed cX2_hasFixed 3 (some .boolean) 1 := ⟨u_2_70, u_sp_4, u_1_4, u_2_71, ⟨by decide +kernel, by decide +kernel, by decide +kernel⟩, by decide⟩
set_option maxHeartbeats 4000000 in
set_option maxRecDepth 100000 in
theorem c2_hasFixed (l : Launch) {γ : GA} {sz : Nat} {T P X Y B M : OS} {E : Nat → OS} {O : Nat → Int64} {x1 : Int32} {r0 : Int32} (h : r2_hasFixed T x1 = some r0) : Met l yX2_hasFixed (gU yX2_hasFixed cX2_hasFixed 3 (some .boolean)) (gR 1 0 0) (gPc γ [.ref (ad γ 15), .int x1] sz (T, P, X, Y, E, B, M, O)) (gQi γ r0 sz (T, P, X, Y, E, B, M, O)) 0 0 (gA γ sz) := by
  refine g_met (fun sz => gQi γ r0 sz (T, P, X, Y, E, B, M, O)) (by decide) (Nat.le_of_ble_eq_true rfl) ?_
  intro p e s m args below meth c ls hC hP hS hl
  have hx := hC.x
  have hb := hC.b
  have hl : lv_has ls 3 [(0, .ref (ad γ 15)), (1, .int x1)] := hl
  unfold r2_hasFixed at h
  refine lv_iconst (v := 0) hx hb dX2_hasFixed_0 (by decide) ?_
  refine lv_istore_n (lv' := [(2, .int 0), (0, .ref (ad γ 15)), (1, .int x1)]) hx hb dX2_hasFixed_1 rfl hl (by decide) rfl (fun ls hl => ?_)
  have L2 := it1_W (r2_hasFixed_b2 T x1) (fun (x2_2 : Int32) => ∀ (H : Heap) (locs : List Loc) (ls : Array Slot), va_P γ.1 vwCl (gw γ (T, P, X, Y, E, B, M, O)) H → va_S (gA γ s.heap.size) s.heap H locs → lv_has ls 3 [(0, .ref (ad γ 15)), (1, .int x1), (2, .int x2_2)] → W p l e (gR 1 0 0) s m args below meth c H locs 0 0 (MQ below (gQi γ r0 s.heap.size (T, P, X, Y, E, B, M, O)) args s 0 0 (gA γ s.heap.size)) (F0 m 2 ls [])) (fun (r_k : (Unit) ⊕ (Int32)) => (r_k = .inl () → ∀ (H : Heap) (locs : List Loc) (ls : Array Slot), va_P γ.1 vwCl (gw γ (T, P, X, Y, E, B, M, O)) H → va_S (gA γ s.heap.size) s.heap H locs → lv_has ls 3 [] → W p l e (gR 1 0 0) s m args below meth c H locs 0 0 (MQ below (gQi γ r0 s.heap.size (T, P, X, Y, E, B, M, O)) args s 0 0 (gA γ s.heap.size)) (F0 m 36 ls [])) ∧ (∀ t_k, r_k = .inr t_k → t_k = r0)) (by
    intro x2_2 o_2 h kS kR H locs ls hP hS hl
    unfold r2_hasFixed_b2 at h
    refine lv_iload_n hx hb dX2_hasFixed_2 rfl (lv_at hl 2 rfl) ?_
    refine lv_bipush (v := 14) hx hb dX2_hasFixed_3 (by decide) ?_
    refine lv_icmp_ge (tgt := 36) hx hb dX2_hasFixed_5 (by decide) (fun c1 => ?_) (fun c1 => ?_)
    · rw [if_pos c1] at h
      cases h
      exact (kR _ rfl).1  rfl _ _ _ hP hS (lv_sub hl [] rfl)
    · rw [if_neg c1] at h
      refine lv_iload_n hx hb dX2_hasFixed_8 rfl (lv_at hl 1 rfl) ?_
      refine lv_iload_n hx hb dX2_hasFixed_9 rfl (lv_at hl 2 rfl) ?_
      obtain ⟨v2, hv, h⟩ := bd1_e h
      refine g_ki (g_runN (As := [.int x1, .int x2_2]) (rest := []) hC hP (c4_contains l hv) List.mem_cons_self yv_X4_contains (Nat.le_of_ble_eq_true rfl) rfl hl.1 rfl (Nat.le_of_ble_eq_true rfl) dX2_hasFixed_10 ⟨by decide, by decide⟩) hS (fun H locs hP hS => ?_)
      refine lv_if_eq (tgt := 30) hx hb dX2_hasFixed_13 (by decide) (fun c3 => ?_) (fun c3 => ?_)
      · rw [if_pos c3] at h
        refine lv_iinc (v := (x2_2 + 1)) (lv' := [(2, .int (x2_2 + 1)), (0, .ref (ad γ 15)), (1, .int x1)]) hx hb dX2_hasFixed_30 hl (k := 2) rfl rfl (by decide) rfl (fun ls hl => ?_)
        refine lv_goto (tgt := 2) hx hb dX2_hasFixed_33 (by decide) ?_
        cases h
        exact kS _ rfl _ _ _ hP hS (lv_sub hl [1, 2, 0] rfl)
      · rw [if_neg c3] at h
        refine lv_aload_n hx hb dX2_hasFixed_16 rfl (lv_at hl 0 rfl) ?_
        refine g_get hC hP 0 dX2_hasFixed_17 (by decide) ge_15 rfl inX2 (by decide) rfl u_1_115 ?_
        refine g_get hC hP 12 dX2_hasFixed_20 (by decide) ge_1 rfl inX3 (by decide) rfl u_1_74 ?_
        refine lv_iload_n hx hb dX2_hasFixed_23 rfl (lv_at hl 2 rfl) ?_
        obtain ⟨v4, hv, h⟩ := ob h
        refine g_zld hC hP dX2_hasFixed_24 (by decide) ge_14 hv ?_
        refine lv_if_eq (tgt := 30) hx hb dX2_hasFixed_25 (by decide) (fun c5 => ?_) (fun c5 => ?_)
        · rw [if_pos c5] at h
          refine lv_iinc (v := (x2_2 + 1)) (lv' := [(2, .int (x2_2 + 1)), (0, .ref (ad γ 15)), (1, .int x1)]) hx hb dX2_hasFixed_30 hl (k := 2) rfl rfl (by decide) rfl (fun ls hl => ?_)
          refine lv_goto (tgt := 2) hx hb dX2_hasFixed_33 (by decide) ?_
          cases h
          exact kS _ rfl _ _ _ hP hS (lv_sub hl [1, 2, 0] rfl)
        · rw [if_neg c5] at h
          refine lv_iconst (v := 1) hx hb dX2_hasFixed_28 (by decide) ?_
          have hz : zz 1 = some 1 := rfl
          cases h
          cases (kR _ rfl).2 _ rfl
          exact g_zret hC hP hS dX2_hasFixed_29 hz rfl)
  rcases bs0_e h with ⟨hv, h⟩ | ⟨t6, hv, h⟩
  · refine L2 _ _ _ hv ⟨fun e9 H locs ls hP hS hl => ?_, fun t9 e9 => nomatch e9⟩ _ _ _ hP hS (lv_sub hl [1, 2, 0] rfl)
    skip
    refine lv_iconst (v := 0) hx hb dX2_hasFixed_36 (by decide) ?_
    have hz : zz 0 = some 0 := rfl
    cases h
    exact g_zret hC hP hS dX2_hasFixed_37 hz rfl
  · refine L2 _ _ _ hv ⟨fun e9 => (nomatch e9), fun t9 e9 => ?_⟩ _ _ _ hP hS (lv_sub hl [1, 2, 0] rfl)
    cases e9
    exact Option.some.inj h
def r2_lift_b2 (x1 : Int32) (T_2 : OS) (x2_2 : Int32) : Option ((OS × Int32) ⊕ (OS)) :=
  (if 14 ≤ x2_2 then some (.inr T_2)
  else bd1 (r4_contains x1 x2_2) (fun v2 =>
  (if v2 = 0 then some (.inl (T_2, (x2_2 + 1)))
  else bd1 (r3_moveTo T_2 x2_2 (-1)) (fun T4 =>
  some (.inl (T4, (x2_2 + 1)))))))
def r2_lift (T : OS) (x1 : Int32) : Option OS :=
  bd1 (it2 (r2_lift_b2 x1) 200 T 0) (fun T_x2 => some T_x2)
theorem yv_X2_lift : gYV yX2_lift cX2_lift 3 none 1 := ⟨u_2_75, u_sp_5, u_1_4, u_2_76, ⟨by decide +kernel, by decide +kernel, by decide +kernel⟩, by decide⟩
set_option maxHeartbeats 4000000 in
set_option maxRecDepth 100000 in
theorem c2_lift (l : Launch) {γ : GA} {sz : Nat} {T P X Y B M : OS} {E : Nat → OS} {O : Nat → Int64} {x1 : Int32} {Tz : OS} (h : r2_lift T x1 = some Tz) : Met l yX2_lift (gU yX2_lift cX2_lift 3 none) (gR 2 0 0) (gPc γ [.ref (ad γ 15), .int x1] sz (T, P, X, Y, E, B, M, O)) (gQv γ sz (Tz, P, X, Y, E, B, M, O)) 0 0 (gA γ sz) := by
  refine g_met (fun sz => gQv γ sz (Tz, P, X, Y, E, B, M, O)) (by decide) (Nat.le_of_ble_eq_true rfl) ?_
  intro p e s m args below meth c ls hC hP hS hl
  have hx := hC.x
  have hb := hC.b
  have hl : lv_has ls 3 [(0, .ref (ad γ 15)), (1, .int x1)] := hl
  unfold r2_lift at h
  refine lv_iconst (v := 0) hx hb dX2_lift_0 (by decide) ?_
  refine lv_istore_n (lv' := [(2, .int 0), (0, .ref (ad γ 15)), (1, .int x1)]) hx hb dX2_lift_1 rfl hl (by decide) rfl (fun ls hl => ?_)
  have L2 := it2_W (r2_lift_b2 x1) (fun (T_2 : OS) (x2_2 : Int32) => ∀ (H : Heap) (locs : List Loc) (ls : Array Slot), va_P γ.1 vwCl (gw γ (T_2, P, X, Y, E, B, M, O)) H → va_S (gA γ s.heap.size) s.heap H locs → lv_has ls 3 [(0, .ref (ad γ 15)), (1, .int x1), (2, .int x2_2)] → W p l e (gR 2 0 0) s m args below meth c H locs 0 0 (MQ below (gQv γ s.heap.size (Tz, P, X, Y, E, B, M, O)) args s 0 0 (gA γ s.heap.size)) (F0 m 2 ls [])) (fun (r_k : OS) => (∀ (T_x2 : OS), r_k = T_x2 → ∀ (H : Heap) (locs : List Loc) (ls : Array Slot), va_P γ.1 vwCl (gw γ (T_x2, P, X, Y, E, B, M, O)) H → va_S (gA γ s.heap.size) s.heap H locs → lv_has ls 3 [] → W p l e (gR 2 0 0) s m args below meth c H locs 0 0 (MQ below (gQv γ s.heap.size (Tz, P, X, Y, E, B, M, O)) args s 0 0 (gA γ s.heap.size)) (F0 m 31 ls []))) (by
    intro T_2 x2_2 o_2 h kS kR H locs ls hP hS hl
    unfold r2_lift_b2 at h
    refine lv_iload_n hx hb dX2_lift_2 rfl (lv_at hl 2 rfl) ?_
    refine lv_bipush (v := 14) hx hb dX2_lift_3 (by decide) ?_
    refine lv_icmp_ge (tgt := 31) hx hb dX2_lift_5 (by decide) (fun c1 => ?_) (fun c1 => ?_)
    · rw [if_pos c1] at h
      cases h
      exact kR _ rfl _ rfl _ _ _ hP hS (lv_sub hl [] rfl)
    · rw [if_neg c1] at h
      refine lv_iload_n hx hb dX2_lift_8 rfl (lv_at hl 1 rfl) ?_
      refine lv_iload_n hx hb dX2_lift_9 rfl (lv_at hl 2 rfl) ?_
      obtain ⟨v2, hv, h⟩ := bd1_e h
      refine g_ki (g_runN (As := [.int x1, .int x2_2]) (rest := []) hC hP (c4_contains l hv) List.mem_cons_self yv_X4_contains (Nat.le_of_ble_eq_true rfl) rfl hl.1 rfl (Nat.le_of_ble_eq_true rfl) dX2_lift_10 ⟨by decide, by decide⟩) hS (fun H locs hP hS => ?_)
      refine lv_if_eq (tgt := 25) hx hb dX2_lift_13 (by decide) (fun c3 => ?_) (fun c3 => ?_)
      · rw [if_pos c3] at h
        refine lv_iinc (v := (x2_2 + 1)) (lv' := [(2, .int (x2_2 + 1)), (0, .ref (ad γ 15)), (1, .int x1)]) hx hb dX2_lift_25 hl (k := 2) rfl rfl (by decide) rfl (fun ls hl => ?_)
        refine lv_goto (tgt := 2) hx hb dX2_lift_28 (by decide) ?_
        cases h
        exact kS _ _ rfl _ _ _ hP hS (lv_sub hl [1, 2, 0] rfl)
      · rw [if_neg c3] at h
        refine lv_aload_n hx hb dX2_lift_16 rfl (lv_at hl 0 rfl) ?_
        refine g_get hC hP 0 dX2_lift_17 (by decide) ge_15 rfl inX2 (by decide) rfl u_1_115 ?_
        refine lv_iload_n hx hb dX2_lift_20 rfl (lv_at hl 2 rfl) ?_
        refine lv_iconst (v := -1) hx hb dX2_lift_21 (by decide) ?_
        obtain ⟨T4, hv, h⟩ := bd1_e h
        refine g_kv (g_runV (As := [.int x2_2, .int (-1)]) (rest := []) hC hP (c3_moveTo l hv) (by decide) ge_1 rfl u_2_77 yv_X3_moveTo (Nat.le_of_ble_eq_true rfl) rfl hl.1 rfl (Nat.le_of_ble_eq_true rfl) dX2_lift_22 ⟨by decide, by decide⟩) hS (fun H locs hP hS => ?_)
        refine lv_iinc (v := (x2_2 + 1)) (lv' := [(2, .int (x2_2 + 1)), (0, .ref (ad γ 15)), (1, .int x1)]) hx hb dX2_lift_25 hl (k := 2) rfl rfl (by decide) rfl (fun ls hl => ?_)
        refine lv_goto (tgt := 2) hx hb dX2_lift_28 (by decide) ?_
        cases h
        exact kS _ _ rfl _ _ _ hP hS (lv_sub hl [1, 2, 0] rfl))
  obtain ⟨T_x2, hv, h⟩ := bd1_e h
  refine L2 _ _ _ _ hv (fun q0 e9 H locs ls hP hS hl => ?_) _ _ _ hP hS (lv_sub hl [1, 2, 0] rfl)
  obtain rfl := e9
  cases h
  exact g_vret hC hP hS dX2_lift_31
def r2_putBack_b2 (P : OS) (x1 : Int32) (T_2 : OS) (x2_2 : Int32) : Option ((OS × Int32) ⊕ (OS)) :=
  (if 14 ≤ x2_2 then some (.inr T_2)
  else bd1 (r4_contains x1 x2_2) (fun v2 =>
  (if v2 = 0 then some (.inl (T_2, (x2_2 + 1)))
  else (rd 14 (P 1) x2_2).bind fun v4 =>
  bd1 (r3_moveTo T_2 x2_2 v4) (fun T5 =>
  some (.inl (T5, (x2_2 + 1)))))))
def r2_putBack (T : OS) (P : OS) (x1 : Int32) : Option OS :=
  bd1 (it2 (r2_putBack_b2 P x1) 200 T 0) (fun T_x2 => some T_x2)
theorem yv_X2_putBack : gYV yX2_putBack cX2_putBack 3 none 1 := ⟨u_2_99, u_sp_7, u_1_4, u_2_100, ⟨by decide +kernel, by decide +kernel, by decide +kernel⟩, by decide⟩
set_option maxHeartbeats 4000000 in
set_option maxRecDepth 100000 in
theorem c2_putBack (l : Launch) {γ : GA} {sz : Nat} {T P X Y B M : OS} {E : Nat → OS} {O : Nat → Int64} {x1 : Int32} {Tz : OS} (h : r2_putBack T P x1 = some Tz) : Met l yX2_putBack (gU yX2_putBack cX2_putBack 3 none) (gR 2 0 0) (gPc γ [.ref (ad γ 15), .int x1] sz (T, P, X, Y, E, B, M, O)) (gQv γ sz (Tz, P, X, Y, E, B, M, O)) 0 0 (gA γ sz) := by
  refine g_met (fun sz => gQv γ sz (Tz, P, X, Y, E, B, M, O)) (by decide) (Nat.le_of_ble_eq_true rfl) ?_
  intro p e s m args below meth c ls hC hP hS hl
  have hx := hC.x
  have hb := hC.b
  have hl : lv_has ls 3 [(0, .ref (ad γ 15)), (1, .int x1)] := hl
  unfold r2_putBack at h
  refine lv_iconst (v := 0) hx hb dX2_putBack_0 (by decide) ?_
  refine lv_istore_n (lv' := [(2, .int 0), (0, .ref (ad γ 15)), (1, .int x1)]) hx hb dX2_putBack_1 rfl hl (by decide) rfl (fun ls hl => ?_)
  have L2 := it2_W (r2_putBack_b2 P x1) (fun (T_2 : OS) (x2_2 : Int32) => ∀ (H : Heap) (locs : List Loc) (ls : Array Slot), va_P γ.1 vwCl (gw γ (T_2, P, X, Y, E, B, M, O)) H → va_S (gA γ s.heap.size) s.heap H locs → lv_has ls 3 [(0, .ref (ad γ 15)), (1, .int x1), (2, .int x2_2)] → W p l e (gR 2 0 0) s m args below meth c H locs 0 0 (MQ below (gQv γ s.heap.size (Tz, P, X, Y, E, B, M, O)) args s 0 0 (gA γ s.heap.size)) (F0 m 2 ls [])) (fun (r_k : OS) => (∀ (T_x2 : OS), r_k = T_x2 → ∀ (H : Heap) (locs : List Loc) (ls : Array Slot), va_P γ.1 vwCl (gw γ (T_x2, P, X, Y, E, B, M, O)) H → va_S (gA γ s.heap.size) s.heap H locs → lv_has ls 3 [] → W p l e (gR 2 0 0) s m args below meth c H locs 0 0 (MQ below (gQv γ s.heap.size (Tz, P, X, Y, E, B, M, O)) args s 0 0 (gA γ s.heap.size)) (F0 m 36 ls []))) (by
    intro T_2 x2_2 o_2 h kS kR H locs ls hP hS hl
    unfold r2_putBack_b2 at h
    refine lv_iload_n hx hb dX2_putBack_2 rfl (lv_at hl 2 rfl) ?_
    refine lv_bipush (v := 14) hx hb dX2_putBack_3 (by decide) ?_
    refine lv_icmp_ge (tgt := 36) hx hb dX2_putBack_5 (by decide) (fun c1 => ?_) (fun c1 => ?_)
    · rw [if_pos c1] at h
      cases h
      exact kR _ rfl _ rfl _ _ _ hP hS (lv_sub hl [] rfl)
    · rw [if_neg c1] at h
      refine lv_iload_n hx hb dX2_putBack_8 rfl (lv_at hl 1 rfl) ?_
      refine lv_iload_n hx hb dX2_putBack_9 rfl (lv_at hl 2 rfl) ?_
      obtain ⟨v2, hv, h⟩ := bd1_e h
      refine g_ki (g_runN (As := [.int x1, .int x2_2]) (rest := []) hC hP (c4_contains l hv) List.mem_cons_self yv_X4_contains (Nat.le_of_ble_eq_true rfl) rfl hl.1 rfl (Nat.le_of_ble_eq_true rfl) dX2_putBack_10 ⟨by decide, by decide⟩) hS (fun H locs hP hS => ?_)
      refine lv_if_eq (tgt := 30) hx hb dX2_putBack_13 (by decide) (fun c3 => ?_) (fun c3 => ?_)
      · rw [if_pos c3] at h
        refine lv_iinc (v := (x2_2 + 1)) (lv' := [(2, .int (x2_2 + 1)), (0, .ref (ad γ 15)), (1, .int x1)]) hx hb dX2_putBack_30 hl (k := 2) rfl rfl (by decide) rfl (fun ls hl => ?_)
        refine lv_goto (tgt := 2) hx hb dX2_putBack_33 (by decide) ?_
        cases h
        exact kS _ _ rfl _ _ _ hP hS (lv_sub hl [1, 2, 0] rfl)
      · rw [if_neg c3] at h
        refine lv_aload_n hx hb dX2_putBack_16 rfl (lv_at hl 0 rfl) ?_
        refine g_get hC hP 0 dX2_putBack_17 (by decide) ge_15 rfl inX2 (by decide) rfl u_1_115 ?_
        refine lv_iload_n hx hb dX2_putBack_20 rfl (lv_at hl 2 rfl) ?_
        refine lv_aload_n hx hb dX2_putBack_21 rfl (lv_at hl 0 rfl) ?_
        refine g_get hC hP 1 dX2_putBack_22 (by decide) ge_15 rfl inX2 (by decide) rfl u_1_116 ?_
        refine lv_iload_n hx hb dX2_putBack_25 rfl (lv_at hl 2 rfl) ?_
        obtain ⟨v4, hv, h⟩ := ob h
        refine g_ld hC hP dX2_putBack_26 (by decide) ge_16 hv ?_
        obtain ⟨T5, hv, h⟩ := bd1_e h
        refine g_kv (g_runV (As := [.int x2_2, .int v4]) (rest := []) hC hP (c3_moveTo l hv) (by decide) ge_1 rfl u_2_77 yv_X3_moveTo (Nat.le_of_ble_eq_true rfl) rfl hl.1 rfl (Nat.le_of_ble_eq_true rfl) dX2_putBack_27 ⟨by decide, by decide⟩) hS (fun H locs hP hS => ?_)
        refine lv_iinc (v := (x2_2 + 1)) (lv' := [(2, .int (x2_2 + 1)), (0, .ref (ad γ 15)), (1, .int x1)]) hx hb dX2_putBack_30 hl (k := 2) rfl rfl (by decide) rfl (fun ls hl => ?_)
        refine lv_goto (tgt := 2) hx hb dX2_putBack_33 (by decide) ?_
        cases h
        exact kS _ _ rfl _ _ _ hP hS (lv_sub hl [1, 2, 0] rfl))
  obtain ⟨T_x2, hv, h⟩ := bd1_e h
  refine L2 _ _ _ _ hv (fun q0 e9 H locs ls hP hS hl => ?_) _ _ _ hP hS (lv_sub hl [1, 2, 0] rfl)
  obtain rfl := e9
  cases h
  exact g_vret hC hP hS dX2_putBack_36
def r2_canAllMove_b2 (T : OS) (x1 : Int32) (x2_2 : Int32) : Option ((Int32) ⊕ ((Unit) ⊕ (Int32))) :=
  (if 14 ≤ x2_2 then some (.inr (.inl ()))
  else bd1 (r4_contains x1 x2_2) (fun v2 =>
  (if v2 = 0 then some (.inl (x2_2 + 1))
  else bd1 (r3_freePlace T x2_2 0) (fun v4 =>
  (if v4 = (-1) then some (.inr (.inr 0))
  else some (.inl (x2_2 + 1)))))))
def r2_canAllMove (T : OS) (x1 : Int32) : Option Int32 :=
  bs0 (it1 (r2_canAllMove_b2 T x1) 200 0) (fun _ => some 1) (fun t6 => some t6)
theorem yv_X2_canAllMove : gYV yX2_canAllMove cX2_canAllMove 3 (some .boolean) 1 := ⟨u_2_83, u_sp_6, u_1_4, u_2_84, ⟨by decide +kernel, by decide +kernel, by decide +kernel⟩, by decide⟩
set_option maxHeartbeats 4000000 in
set_option maxRecDepth 100000 in
theorem c2_canAllMove (l : Launch) {γ : GA} {sz : Nat} {T P X Y B M : OS} {E : Nat → OS} {O : Nat → Int64} {x1 : Int32} {r0 : Int32} (h : r2_canAllMove T x1 = some r0) : Met l yX2_canAllMove (gU yX2_canAllMove cX2_canAllMove 3 (some .boolean)) (gR 4 0 0) (gPc γ [.ref (ad γ 15), .int x1] sz (T, P, X, Y, E, B, M, O)) (gQi γ r0 sz (T, P, X, Y, E, B, M, O)) 0 0 (gA γ sz) := by
  refine g_met (fun sz => gQi γ r0 sz (T, P, X, Y, E, B, M, O)) (by decide) (Nat.le_of_ble_eq_true rfl) ?_
  intro p e s m args below meth c ls hC hP hS hl
  have hx := hC.x
  have hb := hC.b
  have hl : lv_has ls 3 [(0, .ref (ad γ 15)), (1, .int x1)] := hl
  unfold r2_canAllMove at h
  refine lv_iconst (v := 0) hx hb dX2_canAllMove_0 (by decide) ?_
  refine lv_istore_n (lv' := [(2, .int 0), (0, .ref (ad γ 15)), (1, .int x1)]) hx hb dX2_canAllMove_1 rfl hl (by decide) rfl (fun ls hl => ?_)
  have L2 := it1_W (r2_canAllMove_b2 T x1) (fun (x2_2 : Int32) => ∀ (H : Heap) (locs : List Loc) (ls : Array Slot), va_P γ.1 vwCl (gw γ (T, P, X, Y, E, B, M, O)) H → va_S (gA γ s.heap.size) s.heap H locs → lv_has ls 3 [(0, .ref (ad γ 15)), (1, .int x1), (2, .int x2_2)] → W p l e (gR 4 0 0) s m args below meth c H locs 0 0 (MQ below (gQi γ r0 s.heap.size (T, P, X, Y, E, B, M, O)) args s 0 0 (gA γ s.heap.size)) (F0 m 2 ls [])) (fun (r_k : (Unit) ⊕ (Int32)) => (r_k = .inl () → ∀ (H : Heap) (locs : List Loc) (ls : Array Slot), va_P γ.1 vwCl (gw γ (T, P, X, Y, E, B, M, O)) H → va_S (gA γ s.heap.size) s.heap H locs → lv_has ls 3 [] → W p l e (gR 4 0 0) s m args below meth c H locs 0 0 (MQ below (gQi γ r0 s.heap.size (T, P, X, Y, E, B, M, O)) args s 0 0 (gA γ s.heap.size)) (F0 m 37 ls [])) ∧ (∀ t_k, r_k = .inr t_k → t_k = r0)) (by
    intro x2_2 o_2 h kS kR H locs ls hP hS hl
    unfold r2_canAllMove_b2 at h
    refine lv_iload_n hx hb dX2_canAllMove_2 rfl (lv_at hl 2 rfl) ?_
    refine lv_bipush (v := 14) hx hb dX2_canAllMove_3 (by decide) ?_
    refine lv_icmp_ge (tgt := 37) hx hb dX2_canAllMove_5 (by decide) (fun c1 => ?_) (fun c1 => ?_)
    · rw [if_pos c1] at h
      cases h
      exact (kR _ rfl).1  rfl _ _ _ hP hS (lv_sub hl [] rfl)
    · rw [if_neg c1] at h
      refine lv_iload_n hx hb dX2_canAllMove_8 rfl (lv_at hl 1 rfl) ?_
      refine lv_iload_n hx hb dX2_canAllMove_9 rfl (lv_at hl 2 rfl) ?_
      obtain ⟨v2, hv, h⟩ := bd1_e h
      refine g_ki (g_runN (As := [.int x1, .int x2_2]) (rest := []) hC hP (c4_contains l hv) List.mem_cons_self yv_X4_contains (Nat.le_of_ble_eq_true rfl) rfl hl.1 rfl (Nat.le_of_ble_eq_true rfl) dX2_canAllMove_10 ⟨by decide, by decide⟩) hS (fun H locs hP hS => ?_)
      refine lv_if_eq (tgt := 31) hx hb dX2_canAllMove_13 (by decide) (fun c3 => ?_) (fun c3 => ?_)
      · rw [if_pos c3] at h
        refine lv_iinc (v := (x2_2 + 1)) (lv' := [(2, .int (x2_2 + 1)), (0, .ref (ad γ 15)), (1, .int x1)]) hx hb dX2_canAllMove_31 hl (k := 2) rfl rfl (by decide) rfl (fun ls hl => ?_)
        refine lv_goto (tgt := 2) hx hb dX2_canAllMove_34 (by decide) ?_
        cases h
        exact kS _ rfl _ _ _ hP hS (lv_sub hl [1, 2, 0] rfl)
      · rw [if_neg c3] at h
        refine lv_aload_n hx hb dX2_canAllMove_16 rfl (lv_at hl 0 rfl) ?_
        refine g_get hC hP 0 dX2_canAllMove_17 (by decide) ge_15 rfl inX2 (by decide) rfl u_1_115 ?_
        refine lv_iload_n hx hb dX2_canAllMove_20 rfl (lv_at hl 2 rfl) ?_
        refine lv_iconst (v := 0) hx hb dX2_canAllMove_21 (by decide) ?_
        obtain ⟨v4, hv, h⟩ := bd1_e h
        refine g_ki (g_runV (As := [.int x2_2, .int 0]) (rest := []) hC hP (c3_freePlace l hv) (by decide) ge_1 rfl u_2_85 yv_X3_freePlace (Nat.le_of_ble_eq_true rfl) rfl hl.1 rfl (Nat.le_of_ble_eq_true rfl) dX2_canAllMove_22 ⟨by decide, by decide⟩) hS (fun H locs hP hS => ?_)
        refine lv_iconst (v := -1) hx hb dX2_canAllMove_25 (by decide) ?_
        refine lv_icmp_ne (tgt := 31) hx hb dX2_canAllMove_26 (by decide) (fun c5 => ?_) (fun c5 => ?_)
        · rw [if_neg c5] at h
          refine lv_iinc (v := (x2_2 + 1)) (lv' := [(2, .int (x2_2 + 1)), (0, .ref (ad γ 15)), (1, .int x1)]) hx hb dX2_canAllMove_31 hl (k := 2) rfl rfl (by decide) rfl (fun ls hl => ?_)
          refine lv_goto (tgt := 2) hx hb dX2_canAllMove_34 (by decide) ?_
          cases h
          exact kS _ rfl _ _ _ hP hS (lv_sub hl [1, 2, 0] rfl)
        · rw [if_pos c5] at h
          refine lv_iconst (v := 0) hx hb dX2_canAllMove_29 (by decide) ?_
          have hz : zz 0 = some 0 := rfl
          cases h
          cases (kR _ rfl).2 _ rfl
          exact g_zret hC hP hS dX2_canAllMove_30 hz rfl)
  rcases bs0_e h with ⟨hv, h⟩ | ⟨t6, hv, h⟩
  · refine L2 _ _ _ hv ⟨fun e9 H locs ls hP hS hl => ?_, fun t9 e9 => nomatch e9⟩ _ _ _ hP hS (lv_sub hl [1, 2, 0] rfl)
    skip
    refine lv_iconst (v := 1) hx hb dX2_canAllMove_37 (by decide) ?_
    have hz : zz 1 = some 1 := rfl
    cases h
    exact g_zret hC hP hS dX2_canAllMove_38 hz rfl
  · refine L2 _ _ _ hv ⟨fun e9 => (nomatch e9), fun t9 e9 => ?_⟩ _ _ _ hP hS (lv_sub hl [1, 2, 0] rfl)
    cases e9
    exact Option.some.inj h
def r2_placeAnew_b33 (rec : OS → OS → Int32 → Int32 → Option (Int32 × OS)) (P : OS) (x2 : Int32) (x3 : Int32) (T_33 : OS) (x4_33 : Int32) : Option ((OS × Int32) ⊕ ((OS) ⊕ (Int32 × OS))) :=
  (if 60 ≤ x4_33 then some (.inr (.inl T_33))
  else (rd 14 (P 1) x3).bind fun v6 =>
  (if x4_33 = v6 then some (.inl (T_33, (x4_33 + 1)))
  else bd1 (r3_obstacleAt T_33 x3 x4_33) (fun v8 =>
  (if v8 = 0 then bd1 (r3_moveTo T_33 x3 x4_33) (fun T10 =>
  bd2 (rec T10 P x2 (x3 + 1)) (fun v11 T12 =>
  (if v11 = 0 then bd1 (r3_moveTo T12 x3 (-1)) (fun T14 =>
  some (.inl (T14, (x4_33 + 1))))
  else some (.inr (.inr (1, T12))))))
  else some (.inl (T_33, (x4_33 + 1)))))))
def r2_placeAnew_F (rec : OS → OS → Int32 → Int32 → Option (Int32 × OS)) (T : OS) (P : OS) (x2 : Int32) (x3 : Int32) : Option (Int32 × OS) :=
  (if x3 < 0 then some (1, T)
  else (if x3 < 14 then bd1 (r4_contains x2 x3) (fun v3 =>
  (if v3 = 0 then bd2 (rec T P x2 (x3 + 1)) (fun v16 T17 =>
  (zz v16).bind fun v18 =>
  some (v18, T17))
  else bs1 (it2 (r2_placeAnew_b33 rec P x2 x3) 200 T 0) (fun T_x33 => some (0, T_x33)) (fun t15 => some t15)))
  else some (1, T)))
def r2_placeAnew : Nat → OS → OS → Int32 → Int32 → Option (Int32 × OS)
  | 0 => fun _ _ _ _ => none
  | d + 1 => fun T P x2 x3 => r2_placeAnew_F (r2_placeAnew d) T P x2 x3
theorem yv_X2_placeAnew : gYS yX2_placeAnew cX2_placeAnew 5 (some .boolean) 4 := ⟨u_2_94, u_1_4, u_2_95, ⟨by decide +kernel, by decide +kernel, by decide +kernel⟩, by decide⟩
set_option maxHeartbeats 4000000 in
set_option maxRecDepth 100000 in
theorem c2_placeAnew (l : Launch) : ∀ (d : Nat) {γ : GA} {sz : Nat} {T P X Y B M : OS} {E : Nat → OS} {O : Nat → Int64} {x2 : Int32} {x3 : Int32} {r0 : Int32} {Tz : OS} (h : r2_placeAnew d T P x2 x3 = some (r0, Tz)), Met l yX2_placeAnew (gU yX2_placeAnew cX2_placeAnew 5 (some .boolean)) (gR (3 + d) 0 0) (gPc γ [.ref (ad γ 1), .ref (ad γ 16), .int x2, .int x3] sz (T, P, X, Y, E, B, M, O)) (gQi γ r0 sz (Tz, P, X, Y, E, B, M, O)) 0 0 (gA γ sz) := by
  intro d
  induction d with
  | zero => intros; rename_i h; cases h
  | succ d ih =>
    intro  γ   sz   T P X Y B M   E   O   x2   x3   r0   Tz  h
    refine g_met (fun sz => gQi γ r0 sz (Tz, P, X, Y, E, B, M, O)) (by decide) (Nat.le_of_ble_eq_true rfl) ?_
    intro p e s m args below meth c ls hC hP hS hl
    have hx := hC.x
    have hb := hC.b
    have hl : lv_has ls 5 [(0, .ref (ad γ 1)), (1, .ref (ad γ 16)), (2, .int x2), (3, .int x3)] := hl
    have h : r2_placeAnew_F (r2_placeAnew d) T P x2 x3 = some (r0, Tz) := h
    unfold r2_placeAnew_F at h
    generalize er9 : r2_placeAnew d = rec at h ih
    refine lv_iload_n hx hb dX2_placeAnew_0 rfl (lv_at hl 3 rfl) ?_
    refine lv_if_lt (tgt := 10) hx hb dX2_placeAnew_1 (by decide) (fun c1 => ?_) (fun c1 => ?_)
    · rw [if_pos c1] at h
      refine lv_iconst (v := 1) hx hb dX2_placeAnew_10 (by decide) ?_
      have hz : zz 1 = some 1 := rfl
      cases h
      exact g_zret hC hP hS dX2_placeAnew_11 hz rfl
    · rw [if_neg c1] at h
      refine lv_iload_n hx hb dX2_placeAnew_4 rfl (lv_at hl 3 rfl) ?_
      refine lv_bipush (v := 14) hx hb dX2_placeAnew_5 (by decide) ?_
      refine lv_icmp_lt (tgt := 12) hx hb dX2_placeAnew_7 (by decide) (fun c2 => ?_) (fun c2 => ?_)
      · rw [if_pos c2] at h
        refine lv_iload_n hx hb dX2_placeAnew_12 rfl (lv_at hl 2 rfl) ?_
        refine lv_iload_n hx hb dX2_placeAnew_13 rfl (lv_at hl 3 rfl) ?_
        obtain ⟨v3, hv, h⟩ := bd1_e h
        refine g_ki (g_runN (As := [.int x2, .int x3]) (rest := []) hC hP (c4_contains l hv) List.mem_cons_self yv_X4_contains (by omega) rfl hl.1 rfl (Nat.le_of_ble_eq_true rfl) dX2_placeAnew_14 ⟨by decide, by decide⟩) hS (fun H locs hP hS => ?_)
        refine lv_if_ne (tgt := 30) hx hb dX2_placeAnew_17 (by decide) (fun c4 => ?_) (fun c4 => ?_)
        · rw [if_neg c4] at h
          refine lv_iconst (v := 0) hx hb dX2_placeAnew_30 (by decide) ?_
          refine lv_istore (lv' := [(4, .int 0), (0, .ref (ad γ 1)), (1, .ref (ad γ 16)), (2, .int x2), (3, .int x3)]) hx hb dX2_placeAnew_31 hl (by decide) rfl (fun ls hl => ?_)
          have L33 := it2_W (r2_placeAnew_b33 rec P x2 x3) (fun (T_33 : OS) (x4_33 : Int32) => ∀ (H : Heap) (locs : List Loc) (ls : Array Slot), va_P γ.1 vwCl (gw γ (T_33, P, X, Y, E, B, M, O)) H → va_S (gA γ s.heap.size) s.heap H locs → lv_has ls 5 [(0, .ref (ad γ 1)), (1, .ref (ad γ 16)), (2, .int x2), (3, .int x3), (4, .int x4_33)] → W p l e (gR (3 + (d + 1)) 0 0) s m args below meth c H locs 0 0 (MQ below (gQi γ r0 s.heap.size (Tz, P, X, Y, E, B, M, O)) args s 0 0 (gA γ s.heap.size)) (F0 m 33 ls [])) (fun (r_k : (OS) ⊕ (Int32 × OS)) => (∀ (T_x33 : OS), r_k = .inl T_x33 → ∀ (H : Heap) (locs : List Loc) (ls : Array Slot), va_P γ.1 vwCl (gw γ (T_x33, P, X, Y, E, B, M, O)) H → va_S (gA γ s.heap.size) s.heap H locs → lv_has ls 5 [] → W p l e (gR (3 + (d + 1)) 0 0) s m args below meth c H locs 0 0 (MQ below (gQi γ r0 s.heap.size (Tz, P, X, Y, E, B, M, O)) args s 0 0 (gA γ s.heap.size)) (F0 m 91 ls [])) ∧ (∀ t_k, r_k = .inr t_k → t_k = (r0, Tz))) (by
            intro T_33 x4_33 o_33 h kS kR H locs ls hP hS hl
            unfold r2_placeAnew_b33 at h
            refine lv_iload hx hb dX2_placeAnew_33 (lv_at hl 4 rfl) ?_
            refine lv_bipush (v := 60) hx hb dX2_placeAnew_35 (by decide) ?_
            refine lv_icmp_ge (tgt := 91) hx hb dX2_placeAnew_37 (by decide) (fun c5 => ?_) (fun c5 => ?_)
            · rw [if_pos c5] at h
              cases h
              exact (kR _ rfl).1 _ rfl _ _ _ hP hS (lv_sub hl [] rfl)
            · rw [if_neg c5] at h
              refine lv_iload hx hb dX2_placeAnew_40 (lv_at hl 4 rfl) ?_
              refine lv_aload_n hx hb dX2_placeAnew_42 rfl (lv_at hl 1 rfl) ?_
              refine lv_iload_n hx hb dX2_placeAnew_43 rfl (lv_at hl 3 rfl) ?_
              obtain ⟨v6, hv, h⟩ := ob h
              refine g_ld hC hP dX2_placeAnew_44 (by decide) ge_16 hv ?_
              refine lv_icmp_eq (tgt := 85) hx hb dX2_placeAnew_45 (by decide) (fun c7 => ?_) (fun c7 => ?_)
              · rw [if_pos c7] at h
                refine lv_iinc (v := (x4_33 + 1)) (lv' := [(4, .int (x4_33 + 1)), (0, .ref (ad γ 1)), (1, .ref (ad γ 16)), (2, .int x2), (3, .int x3)]) hx hb dX2_placeAnew_85 hl (k := 4) rfl rfl (by decide) rfl (fun ls hl => ?_)
                refine lv_goto (tgt := 33) hx hb dX2_placeAnew_88 (by decide) ?_
                cases h
                exact kS _ _ rfl _ _ _ hP hS (lv_sub hl [1, 2, 3, 4, 0] rfl)
              · rw [if_neg c7] at h
                refine lv_aload_n hx hb dX2_placeAnew_48 rfl (lv_at hl 0 rfl) ?_
                refine lv_iload_n hx hb dX2_placeAnew_49 rfl (lv_at hl 3 rfl) ?_
                refine lv_iload hx hb dX2_placeAnew_50 (lv_at hl 4 rfl) ?_
                obtain ⟨v8, hv, h⟩ := bd1_e h
                refine g_ki (g_runV (As := [.int x3, .int x4_33]) (rest := []) hC hP (c3_obstacleAt l hv) (by decide) ge_1 rfl u_2_96 yv_X3_obstacleAt (by omega) rfl hl.1 rfl (Nat.le_of_ble_eq_true rfl) dX2_placeAnew_52 ⟨by decide, by decide⟩) hS (fun H locs hP hS => ?_)
                refine lv_if_ne (tgt := 85) hx hb dX2_placeAnew_55 (by decide) (fun c9 => ?_) (fun c9 => ?_)
                · rw [if_neg c9] at h
                  refine lv_iinc (v := (x4_33 + 1)) (lv' := [(4, .int (x4_33 + 1)), (0, .ref (ad γ 1)), (1, .ref (ad γ 16)), (2, .int x2), (3, .int x3)]) hx hb dX2_placeAnew_85 hl (k := 4) rfl rfl (by decide) rfl (fun ls hl => ?_)
                  refine lv_goto (tgt := 33) hx hb dX2_placeAnew_88 (by decide) ?_
                  cases h
                  exact kS _ _ rfl _ _ _ hP hS (lv_sub hl [1, 2, 3, 4, 0] rfl)
                · rw [if_pos c9] at h
                  refine lv_aload_n hx hb dX2_placeAnew_58 rfl (lv_at hl 0 rfl) ?_
                  refine lv_iload_n hx hb dX2_placeAnew_59 rfl (lv_at hl 3 rfl) ?_
                  refine lv_iload hx hb dX2_placeAnew_60 (lv_at hl 4 rfl) ?_
                  obtain ⟨T10, hv, h⟩ := bd1_e h
                  refine g_kv (g_runV (As := [.int x3, .int x4_33]) (rest := []) hC hP (c3_moveTo l hv) (by decide) ge_1 rfl u_2_77 yv_X3_moveTo (by omega) rfl hl.1 rfl (Nat.le_of_ble_eq_true rfl) dX2_placeAnew_62 ⟨by decide, by decide⟩) hS (fun H locs hP hS => ?_)
                  refine lv_aload_n hx hb dX2_placeAnew_65 rfl (lv_at hl 0 rfl) ?_
                  refine lv_aload_n hx hb dX2_placeAnew_66 rfl (lv_at hl 1 rfl) ?_
                  refine lv_iload_n hx hb dX2_placeAnew_67 rfl (lv_at hl 2 rfl) ?_
                  refine lv_iload_n hx hb dX2_placeAnew_68 rfl (lv_at hl 3 rfl) ?_
                  refine lv_iconst (v := 1) hx hb dX2_placeAnew_69 (by decide) ?_
                  refine lv_iadd hx hb dX2_placeAnew_70 ?_
                  obtain ⟨v11, T12, hv, h⟩ := bd2_e h
                  refine g_ki (g_runS (As := [.ref (ad γ 1), .ref (ad γ 16), .int x2, .int (x3 + 1)]) (rest := []) hC hP (ih hv) u_2_93 yv_X2_placeAnew (Nat.le_refl _) rfl hl.1 rfl (Nat.le_of_ble_eq_true rfl) dX2_placeAnew_71 ⟨by decide, by decide⟩) hS (fun H locs hP hS => ?_)
                  refine lv_if_eq (tgt := 79) hx hb dX2_placeAnew_74 (by decide) (fun c13 => ?_) (fun c13 => ?_)
                  · rw [if_pos c13] at h
                    refine lv_aload_n hx hb dX2_placeAnew_79 rfl (lv_at hl 0 rfl) ?_
                    refine lv_iload_n hx hb dX2_placeAnew_80 rfl (lv_at hl 3 rfl) ?_
                    refine lv_iconst (v := -1) hx hb dX2_placeAnew_81 (by decide) ?_
                    obtain ⟨T14, hv, h⟩ := bd1_e h
                    refine g_kv (g_runV (As := [.int x3, .int (-1)]) (rest := []) hC hP (c3_moveTo l hv) (by decide) ge_1 rfl u_2_77 yv_X3_moveTo (by omega) rfl hl.1 rfl (Nat.le_of_ble_eq_true rfl) dX2_placeAnew_82 ⟨by decide, by decide⟩) hS (fun H locs hP hS => ?_)
                    refine lv_iinc (v := (x4_33 + 1)) (lv' := [(4, .int (x4_33 + 1)), (0, .ref (ad γ 1)), (1, .ref (ad γ 16)), (2, .int x2), (3, .int x3)]) hx hb dX2_placeAnew_85 hl (k := 4) rfl rfl (by decide) rfl (fun ls hl => ?_)
                    refine lv_goto (tgt := 33) hx hb dX2_placeAnew_88 (by decide) ?_
                    cases h
                    exact kS _ _ rfl _ _ _ hP hS (lv_sub hl [1, 2, 3, 4, 0] rfl)
                  · rw [if_neg c13] at h
                    refine lv_iconst (v := 1) hx hb dX2_placeAnew_77 (by decide) ?_
                    have hz : zz 1 = some 1 := rfl
                    cases h
                    cases (kR _ rfl).2 _ rfl
                    exact g_zret hC hP hS dX2_placeAnew_78 hz rfl)
          rcases bs1_e h with ⟨T_x33, hv, h⟩ | ⟨t15, hv, h⟩
          · refine L33 _ _ _ _ hv ⟨fun q0 e9 H locs ls hP hS hl => ?_, fun t9 e9 => nomatch e9⟩ _ _ _ hP hS (lv_sub hl [1, 2, 3, 4, 0] rfl)
            obtain rfl := (Sum.inl.inj e9)
            refine lv_iconst (v := 0) hx hb dX2_placeAnew_91 (by decide) ?_
            have hz : zz 0 = some 0 := rfl
            cases h
            exact g_zret hC hP hS dX2_placeAnew_92 hz rfl
          · refine L33 _ _ _ _ hv ⟨fun q0 e9 => (nomatch e9), fun t9 e9 => ?_⟩ _ _ _ hP hS (lv_sub hl [1, 2, 3, 4, 0] rfl)
            cases e9
            exact Option.some.inj h
        · rw [if_pos c4] at h
          refine lv_aload_n hx hb dX2_placeAnew_20 rfl (lv_at hl 0 rfl) ?_
          refine lv_aload_n hx hb dX2_placeAnew_21 rfl (lv_at hl 1 rfl) ?_
          refine lv_iload_n hx hb dX2_placeAnew_22 rfl (lv_at hl 2 rfl) ?_
          refine lv_iload_n hx hb dX2_placeAnew_23 rfl (lv_at hl 3 rfl) ?_
          refine lv_iconst (v := 1) hx hb dX2_placeAnew_24 (by decide) ?_
          refine lv_iadd hx hb dX2_placeAnew_25 ?_
          obtain ⟨v16, T17, hv, h⟩ := bd2_e h
          refine g_ki (g_runS (As := [.ref (ad γ 1), .ref (ad γ 16), .int x2, .int (x3 + 1)]) (rest := []) hC hP (ih hv) u_2_93 yv_X2_placeAnew (Nat.le_refl _) rfl hl.1 rfl (Nat.le_of_ble_eq_true rfl) dX2_placeAnew_26 ⟨by decide, by decide⟩) hS (fun H locs hP hS => ?_)
          obtain ⟨v18, hz, h⟩ := ob h
          cases h
          exact g_zret hC hP hS dX2_placeAnew_29 hz rfl
      · rw [if_neg c2] at h
        refine lv_iconst (v := 1) hx hb dX2_placeAnew_10 (by decide) ?_
        have hz : zz 1 = some 1 := rfl
        cases h
        exact g_zret hC hP hS dX2_placeAnew_11 hz rfl
theorem c2_placeAnew_20 (l : Launch) {γ : GA} {sz : Nat} {T P X Y B M : OS} {E : Nat → OS} {O : Nat → Int64} {x2 : Int32} {x3 : Int32} {r0 : Int32} {Tz : OS} (h : r2_placeAnew 20 T P x2 x3 = some (r0, Tz)) : Met l yX2_placeAnew (gU yX2_placeAnew cX2_placeAnew 5 (some .boolean)) (gR 23 0 0) (gPc γ [.ref (ad γ 1), .ref (ad γ 16), .int x2, .int x3] sz (T, P, X, Y, E, B, M, O)) (gQi γ r0 sz (Tz, P, X, Y, E, B, M, O)) 0 0 (gA γ sz) := c2_placeAnew l 20 h
def r2_insertAt_j106 (T_106 : OS) (P_106 : OS) (x1 : Int32) (x4_106 : Int32)  : Option (Int32 × OS × OS) :=
  bd1 (r3_moveTo T_106 x1 (-1)) (fun T1 =>
  bd1 (r2_putBack T1 P_106 x4_106) (fun T2 =>
  some (0, T2, P_106)))
def r2_insertAt (T : OS) (P : OS) (x1 : Int32) (x2 : Int32) (x3 : Int32) : Option (Int32 × OS × OS) :=
  bd1 (r3_unsuitableAt T x1 x2) (fun v3 =>
  (if v3 = 0 then bd1 (r3_hinderingAt T x1 x2) (fun v5 =>
  bd1 (r6_bitCount_0f7a4 v5) (fun v6 =>
  (if v6 = x3 then bd1 (r2_hasFixed T v5) (fun v8 =>
  (if v8 = 0 then (cpi 14 (T 9) P 1).bind fun P10 =>
  bd1 (r2_lift T v5) (fun T11 =>
  bd1 (r3_moveTo T11 x1 x2) (fun T12 =>
  bd1 (r2_canAllMove T12 v5) (fun v13 =>
  (if v13 = 0 then r2_insertAt_j106 T12 P10 x1 v5
  else bd2 (r2_placeAnew 20 T12 P10 v5 0) (fun v15 T16 =>
  (if v15 = 0 then r2_insertAt_j106 T16 P10 x1 v5
  else some (1, T16, P10)))))))
  else some (0, T, P)))
  else some (0, T, P))))
  else some (0, T, P)))
theorem yv_X2_insertAt : gYV yX2_insertAt cX2_insertAt 5 (some .boolean) 3 := ⟨u_2_57, u_sp_2, u_1_4, u_2_58, ⟨by decide +kernel, by decide +kernel, by decide +kernel⟩, by decide⟩
set_option maxHeartbeats 4000000 in
set_option maxRecDepth 100000 in
theorem c2_insertAt (l : Launch) {γ : GA} {sz : Nat} {T P X Y B M : OS} {E : Nat → OS} {O : Nat → Int64} {x1 : Int32} {x2 : Int32} {x3 : Int32} {r0 : Int32} {Tz : OS} {Pz : OS} (h : r2_insertAt T P x1 x2 x3 = some (r0, Tz, Pz)) : Met l yX2_insertAt (gU yX2_insertAt cX2_insertAt 5 (some .boolean)) (gR 24 0 0) (gPc γ [.ref (ad γ 15), .int x1, .int x2, .int x3] sz (T, P, X, Y, E, B, M, O)) (gQi γ r0 sz (Tz, Pz, X, Y, E, B, M, O)) 0 0 (gA γ sz) := by
  refine g_met (fun sz => gQi γ r0 sz (Tz, Pz, X, Y, E, B, M, O)) (by decide) (Nat.le_of_ble_eq_true rfl) ?_
  intro p e s m args below meth c ls hC hP hS hl
  have hx := hC.x
  have hb := hC.b
  have hl : lv_has ls 5 [(0, .ref (ad γ 15)), (1, .int x1), (2, .int x2), (3, .int x3)] := hl
  unfold r2_insertAt at h
  have J106 : ∀ (T_106 : OS) (P_106 : OS) (x4_106 : Int32) (h : r2_insertAt_j106 T_106 P_106 x1 x4_106 = some (r0, Tz, Pz)), ∀ (H : Heap) (locs : List Loc) (ls : Array Slot), va_P γ.1 vwCl (gw γ (T_106, P_106, X, Y, E, B, M, O)) H → va_S (gA γ s.heap.size) s.heap H locs → lv_has ls 5 [(0, .ref (ad γ 15)), (1, .int x1), (4, .int x4_106)] → W p l e (gR 24 0 0) s m args below meth c H locs 0 0 (MQ below (gQi γ r0 s.heap.size (Tz, Pz, X, Y, E, B, M, O)) args s 0 0 (gA γ s.heap.size)) (F0 m 106 ls []) := by
    intro T_106 P_106 x4_106 h H locs ls hP hS hl
    unfold r2_insertAt_j106 at h
    refine lv_aload_n hx hb dX2_insertAt_106 rfl (lv_at hl 0 rfl) ?_
    refine g_get hC hP 0 dX2_insertAt_107 (by decide) ge_15 rfl inX2 (by decide) rfl u_1_115 ?_
    refine lv_iload_n hx hb dX2_insertAt_110 rfl (lv_at hl 1 rfl) ?_
    refine lv_iconst (v := -1) hx hb dX2_insertAt_111 (by decide) ?_
    obtain ⟨T1, hv, h⟩ := bd1_e h
    refine g_kv (g_runV (As := [.int x1, .int (-1)]) (rest := []) hC hP (c3_moveTo l hv) (by decide) ge_1 rfl u_2_77 yv_X3_moveTo (Nat.le_of_ble_eq_true rfl) rfl hl.1 rfl (Nat.le_of_ble_eq_true rfl) dX2_insertAt_112 ⟨by decide, by decide⟩) hS (fun H locs hP hS => ?_)
    refine lv_aload_n hx hb dX2_insertAt_115 rfl (lv_at hl 0 rfl) ?_
    refine lv_iload hx hb dX2_insertAt_116 (lv_at hl 2 rfl) ?_
    obtain ⟨T2, hv, h⟩ := bd1_e h
    refine g_kv (g_runV (As := [.int x4_106]) (rest := []) hC hP (c2_putBack l hv) (by decide) ge_15 rfl u_2_97 yv_X2_putBack (Nat.le_of_ble_eq_true rfl) rfl hl.1 rfl (Nat.le_of_ble_eq_true rfl) dX2_insertAt_118 ⟨by decide, by decide⟩) hS (fun H locs hP hS => ?_)
    refine lv_iconst (v := 0) hx hb dX2_insertAt_121 (by decide) ?_
    have hz : zz 0 = some 0 := rfl
    cases h
    exact g_zret hC hP hS dX2_insertAt_122 hz rfl
  refine lv_aload_n hx hb dX2_insertAt_0 rfl (lv_at hl 0 rfl) ?_
  refine g_get hC hP 0 dX2_insertAt_1 (by decide) ge_15 rfl inX2 (by decide) rfl u_1_115 ?_
  refine lv_iload_n hx hb dX2_insertAt_4 rfl (lv_at hl 1 rfl) ?_
  refine lv_iload_n hx hb dX2_insertAt_5 rfl (lv_at hl 2 rfl) ?_
  obtain ⟨v3, hv, h⟩ := bd1_e h
  refine g_ki (g_runV (As := [.int x1, .int x2]) (rest := []) hC hP (c3_unsuitableAt l hv) (by decide) ge_1 rfl u_2_59 yv_X3_unsuitableAt (Nat.le_of_ble_eq_true rfl) rfl hl.1 rfl (Nat.le_of_ble_eq_true rfl) dX2_insertAt_6 ⟨by decide, by decide⟩) hS (fun H locs hP hS => ?_)
  refine lv_if_eq (tgt := 14) hx hb dX2_insertAt_9 (by decide) (fun c4 => ?_) (fun c4 => ?_)
  · rw [if_pos c4] at h
    refine lv_aload_n hx hb dX2_insertAt_14 rfl (lv_at hl 0 rfl) ?_
    refine g_get hC hP 0 dX2_insertAt_15 (by decide) ge_15 rfl inX2 (by decide) rfl u_1_115 ?_
    refine lv_iload_n hx hb dX2_insertAt_18 rfl (lv_at hl 1 rfl) ?_
    refine lv_iload_n hx hb dX2_insertAt_19 rfl (lv_at hl 2 rfl) ?_
    obtain ⟨v5, hv, h⟩ := bd1_e h
    refine g_ki (g_runV (As := [.int x1, .int x2]) (rest := []) hC hP (c3_hinderingAt l hv) (by decide) ge_1 rfl u_2_60 yv_X3_hinderingAt (Nat.le_of_ble_eq_true rfl) rfl hl.1 rfl (Nat.le_of_ble_eq_true rfl) dX2_insertAt_20 ⟨by decide, by decide⟩) hS (fun H locs hP hS => ?_)
    refine lv_istore (lv' := [(4, .int v5), (0, .ref (ad γ 15)), (1, .int x1), (2, .int x2), (3, .int x3)]) hx hb dX2_insertAt_23 hl (by decide) rfl (fun ls hl => ?_)
    refine lv_iload hx hb dX2_insertAt_25 (lv_at hl 0 rfl) ?_
    obtain ⟨v6, hv, h⟩ := bd1_e h
    refine g_ki (g_runS (As := [.int v5]) (rest := []) hC hP (c6_bitCount_0f7a4 l hv) u_2_43 yv_J6_bitCount_0f7a4 (Nat.le_of_ble_eq_true rfl) rfl hl.1 rfl (Nat.le_of_ble_eq_true rfl) dX2_insertAt_27 ⟨by decide, by decide⟩) hS (fun H locs hP hS => ?_)
    refine lv_iload_n hx hb dX2_insertAt_30 rfl (lv_at hl 4 rfl) ?_
    refine lv_icmp_ne (tgt := 43) hx hb dX2_insertAt_31 (by decide) (fun c7 => ?_) (fun c7 => ?_)
    · rw [if_neg c7] at h
      refine lv_iconst (v := 0) hx hb dX2_insertAt_43 (by decide) ?_
      have hz : zz 0 = some 0 := rfl
      cases h
      exact g_zret hC hP hS dX2_insertAt_44 hz rfl
    · rw [if_pos c7] at h
      refine lv_aload_n hx hb dX2_insertAt_34 rfl (lv_at hl 1 rfl) ?_
      refine lv_iload hx hb dX2_insertAt_35 (lv_at hl 0 rfl) ?_
      obtain ⟨v8, hv, h⟩ := bd1_e h
      refine g_ki (g_runV (As := [.int v5]) (rest := []) hC hP (c2_hasFixed l hv) (by decide) ge_15 rfl u_2_68 yv_X2_hasFixed (Nat.le_of_ble_eq_true rfl) rfl hl.1 rfl (Nat.le_of_ble_eq_true rfl) dX2_insertAt_37 ⟨by decide, by decide⟩) hS (fun H locs hP hS => ?_)
      refine lv_if_eq (tgt := 45) hx hb dX2_insertAt_40 (by decide) (fun c9 => ?_) (fun c9 => ?_)
      · rw [if_pos c9] at h
        refine lv_aload_n hx hb dX2_insertAt_45 rfl (lv_at hl 1 rfl) ?_
        refine g_get hC hP 0 dX2_insertAt_46 (by decide) ge_15 rfl inX2 (by decide) rfl u_1_115 ?_
        refine g_get hC hP 9 dX2_insertAt_49 (by decide) ge_1 rfl inX3 (by decide) rfl u_1_67 ?_
        refine lv_iconst (v := 0) hx hb dX2_insertAt_52 (by decide) ?_
        refine lv_aload_n hx hb dX2_insertAt_53 rfl (lv_at hl 1 rfl) ?_
        refine g_get hC hP 1 dX2_insertAt_54 (by decide) ge_15 rfl inX2 (by decide) rfl u_1_116 ?_
        refine lv_iconst (v := 0) hx hb dX2_insertAt_57 (by decide) ?_
        refine lv_bipush (v := 14) hx hb dX2_insertAt_58 (by decide) ?_
        obtain ⟨P10, hv, h⟩ := ob h
        refine g_cpi hC hP hS (fun Z => (T, Z, X, Y, E, B, M, O)) dX2_insertAt_60 hl.1 u_2_72 (by decide) (by decide) ge_11 ge_16 gs_16 (by decide) rfl (by decide) (by decide) hv (by decide) (Nat.le_of_ble_eq_true rfl) (fun H locs hP hS => ?_)
        refine lv_aload_n hx hb dX2_insertAt_63 rfl (lv_at hl 1 rfl) ?_
        refine lv_iload hx hb dX2_insertAt_64 (lv_at hl 0 rfl) ?_
        obtain ⟨T11, hv, h⟩ := bd1_e h
        refine g_kv (g_runV (As := [.int v5]) (rest := []) hC hP (c2_lift l hv) (by decide) ge_15 rfl u_2_73 yv_X2_lift (Nat.le_of_ble_eq_true rfl) rfl hl.1 rfl (Nat.le_of_ble_eq_true rfl) dX2_insertAt_66 ⟨by decide, by decide⟩) hS (fun H locs hP hS => ?_)
        refine lv_aload_n hx hb dX2_insertAt_69 rfl (lv_at hl 1 rfl) ?_
        refine g_get hC hP 0 dX2_insertAt_70 (by decide) ge_15 rfl inX2 (by decide) rfl u_1_115 ?_
        refine lv_iload_n hx hb dX2_insertAt_73 rfl (lv_at hl 2 rfl) ?_
        refine lv_iload_n hx hb dX2_insertAt_74 rfl (lv_at hl 3 rfl) ?_
        obtain ⟨T12, hv, h⟩ := bd1_e h
        refine g_kv (g_runV (As := [.int x1, .int x2]) (rest := []) hC hP (c3_moveTo l hv) (by decide) ge_1 rfl u_2_77 yv_X3_moveTo (Nat.le_of_ble_eq_true rfl) rfl hl.1 rfl (Nat.le_of_ble_eq_true rfl) dX2_insertAt_75 ⟨by decide, by decide⟩) hS (fun H locs hP hS => ?_)
        refine lv_aload_n hx hb dX2_insertAt_78 rfl (lv_at hl 1 rfl) ?_
        refine lv_iload hx hb dX2_insertAt_79 (lv_at hl 0 rfl) ?_
        obtain ⟨v13, hv, h⟩ := bd1_e h
        refine g_ki (g_runV (As := [.int v5]) (rest := []) hC hP (c2_canAllMove l hv) (by decide) ge_15 rfl u_2_81 yv_X2_canAllMove (Nat.le_of_ble_eq_true rfl) rfl hl.1 rfl (Nat.le_of_ble_eq_true rfl) dX2_insertAt_81 ⟨by decide, by decide⟩) hS (fun H locs hP hS => ?_)
        refine lv_if_eq (tgt := 106) hx hb dX2_insertAt_84 (by decide) (fun c14 => ?_) (fun c14 => ?_)
        · rw [if_pos c14] at h
          exact J106 T12 P10 v5 h _ _ _ hP hS (lv_sub hl [1, 2, 0] rfl)
        · rw [if_neg c14] at h
          refine lv_aload_n hx hb dX2_insertAt_87 rfl (lv_at hl 1 rfl) ?_
          refine g_get hC hP 0 dX2_insertAt_88 (by decide) ge_15 rfl inX2 (by decide) rfl u_1_115 ?_
          refine lv_aload_n hx hb dX2_insertAt_91 rfl (lv_at hl 1 rfl) ?_
          refine g_get hC hP 1 dX2_insertAt_92 (by decide) ge_15 rfl inX2 (by decide) rfl u_1_116 ?_
          refine lv_iload hx hb dX2_insertAt_95 (lv_at hl 0 rfl) ?_
          refine lv_iconst (v := 0) hx hb dX2_insertAt_97 (by decide) ?_
          obtain ⟨v15, T16, hv, h⟩ := bd2_e h
          refine g_ki (g_runS (As := [.ref (ad γ 1), .ref (ad γ 16), .int v5, .int 0]) (rest := []) hC hP (c2_placeAnew_20 l hv) u_2_93 yv_X2_placeAnew (Nat.le_of_ble_eq_true rfl) rfl hl.1 rfl (Nat.le_of_ble_eq_true rfl) dX2_insertAt_98 ⟨by decide, by decide⟩) hS (fun H locs hP hS => ?_)
          refine lv_if_eq (tgt := 106) hx hb dX2_insertAt_101 (by decide) (fun c17 => ?_) (fun c17 => ?_)
          · rw [if_pos c17] at h
            exact J106 T16 P10 v5 h _ _ _ hP hS (lv_sub hl [1, 2, 0] rfl)
          · rw [if_neg c17] at h
            refine lv_iconst (v := 1) hx hb dX2_insertAt_104 (by decide) ?_
            have hz : zz 1 = some 1 := rfl
            cases h
            exact g_zret hC hP hS dX2_insertAt_105 hz rfl
      · rw [if_neg c9] at h
        refine lv_iconst (v := 0) hx hb dX2_insertAt_43 (by decide) ?_
        have hz : zz 0 = some 0 := rfl
        cases h
        exact g_zret hC hP hS dX2_insertAt_44 hz rfl
  · rw [if_neg c4] at h
    refine lv_iconst (v := 0) hx hb dX2_insertAt_12 (by decide) ?_
    have hz : zz 0 = some 0 := rfl
    cases h
    exact g_zret hC hP hS dX2_insertAt_13 hz rfl
def r2_tryInsert_b9 (x1 : Int32) (x2_2 : Int32) (T_9 : OS) (P_9 : OS) (x3_9 : Int32) : Option ((OS × OS × Int32) ⊕ ((OS × OS) ⊕ (Int32 × OS × OS))) :=
  (if 60 ≤ x3_9 then some (.inr (.inl (T_9, P_9)))
  else bd3 (r2_insertAt T_9 P_9 x1 x3_9 x2_2) (fun v3 T4 P5 =>
  (if v3 = 0 then some (.inl (T4, P5, (x3_9 + 1)))
  else some (.inr (.inr (x2_2, T4, P5))))))
def r2_tryInsert_b2 (x1 : Int32) (T_2 : OS) (P_2 : OS) (x2_2 : Int32) : Option ((OS × OS × Int32) ⊕ ((OS × OS) ⊕ (Int32 × OS × OS))) :=
  (if 2 < x2_2 then some (.inr (.inl (T_2, P_2)))
  else bs2 (it3 (r2_tryInsert_b9 x1 x2_2) 200 T_2 P_2 0) (fun T_x9 P_x9 => some (.inl (T_x9, P_x9, (x2_2 + 1)))) (fun t7 => some (.inr (.inr t7))))
def r2_tryInsert (T : OS) (P : OS) (x1 : Int32) : Option (Int32 × OS × OS) :=
  bs2 (it3 (r2_tryInsert_b2 x1) 200 T P 0) (fun T_x2 P_x2 => some ((-1), T_x2, P_x2)) (fun t8 => some t8)
theorem yv_X2_tryInsert : gYV yX2_tryInsert cX2_tryInsert 4 (some .int) 1 := ⟨u_2_52, u_2_53, u_1_4, u_2_54, ⟨by decide +kernel, by decide +kernel, by decide +kernel⟩, by decide⟩
set_option maxHeartbeats 4000000 in
set_option maxRecDepth 100000 in
theorem c2_tryInsert (l : Launch) {γ : GA} {sz : Nat} {T P X Y B M : OS} {E : Nat → OS} {O : Nat → Int64} {x1 : Int32} {r0 : Int32} {Tz : OS} {Pz : OS} (h : r2_tryInsert T P x1 = some (r0, Tz, Pz)) : Met l yX2_tryInsert (gU yX2_tryInsert cX2_tryInsert 4 (some .int)) (gR 25 0 0) (gPc γ [.ref (ad γ 15), .int x1] sz (T, P, X, Y, E, B, M, O)) (gQi γ r0 sz (Tz, Pz, X, Y, E, B, M, O)) 0 0 (gA γ sz) := by
  refine g_met (fun sz => gQi γ r0 sz (Tz, Pz, X, Y, E, B, M, O)) (by decide) (Nat.le_of_ble_eq_true rfl) ?_
  intro p e s m args below meth c ls hC hP hS hl
  have hx := hC.x
  have hb := hC.b
  have hl : lv_has ls 4 [(0, .ref (ad γ 15)), (1, .int x1)] := hl
  unfold r2_tryInsert at h
  refine lv_iconst (v := 0) hx hb dX2_tryInsert_0 (by decide) ?_
  refine lv_istore_n (lv' := [(2, .int 0), (0, .ref (ad γ 15)), (1, .int x1)]) hx hb dX2_tryInsert_1 rfl hl (by decide) rfl (fun ls hl => ?_)
  have L2 := it3_W (r2_tryInsert_b2 x1) (fun (T_2 : OS) (P_2 : OS) (x2_2 : Int32) => ∀ (H : Heap) (locs : List Loc) (ls : Array Slot), va_P γ.1 vwCl (gw γ (T_2, P_2, X, Y, E, B, M, O)) H → va_S (gA γ s.heap.size) s.heap H locs → lv_has ls 4 [(0, .ref (ad γ 15)), (1, .int x1), (2, .int x2_2)] → W p l e (gR 25 0 0) s m args below meth c H locs 0 0 (MQ below (gQi γ r0 s.heap.size (Tz, Pz, X, Y, E, B, M, O)) args s 0 0 (gA γ s.heap.size)) (F0 m 2 ls [])) (fun (r_k : (OS × OS) ⊕ (Int32 × OS × OS)) => (∀ (T_x2 : OS) (P_x2 : OS), r_k = .inl (T_x2, P_x2) → ∀ (H : Heap) (locs : List Loc) (ls : Array Slot), va_P γ.1 vwCl (gw γ (T_x2, P_x2, X, Y, E, B, M, O)) H → va_S (gA γ s.heap.size) s.heap H locs → lv_has ls 4 [] → W p l e (gR 25 0 0) s m args below meth c H locs 0 0 (MQ below (gQi γ r0 s.heap.size (Tz, Pz, X, Y, E, B, M, O)) args s 0 0 (gA γ s.heap.size)) (F0 m 39 ls [])) ∧ (∀ t_k, r_k = .inr t_k → t_k = (r0, Tz, Pz))) (by
    intro T_2 P_2 x2_2 o_2 h kS kR H locs ls hP hS hl
    unfold r2_tryInsert_b2 at h
    refine lv_iload_n hx hb dX2_tryInsert_2 rfl (lv_at hl 2 rfl) ?_
    refine lv_iconst (v := 2) hx hb dX2_tryInsert_3 (by decide) ?_
    refine lv_icmp_gt (tgt := 39) hx hb dX2_tryInsert_4 (by decide) (fun c1 => ?_) (fun c1 => ?_)
    · rw [if_pos c1] at h
      cases h
      exact (kR _ rfl).1 _ _ rfl _ _ _ hP hS (lv_sub hl [] rfl)
    · rw [if_neg c1] at h
      refine lv_iconst (v := 0) hx hb dX2_tryInsert_7 (by decide) ?_
      refine lv_istore_n (lv' := [(3, .int 0), (0, .ref (ad γ 15)), (1, .int x1), (2, .int x2_2)]) hx hb dX2_tryInsert_8 rfl hl (by decide) rfl (fun ls hl => ?_)
      have L9 := it3_W (r2_tryInsert_b9 x1 x2_2) (fun (T_9 : OS) (P_9 : OS) (x3_9 : Int32) => ∀ (H : Heap) (locs : List Loc) (ls : Array Slot), va_P γ.1 vwCl (gw γ (T_9, P_9, X, Y, E, B, M, O)) H → va_S (gA γ s.heap.size) s.heap H locs → lv_has ls 4 [(0, .ref (ad γ 15)), (1, .int x1), (2, .int x2_2), (3, .int x3_9)] → W p l e (gR 25 0 0) s m args below meth c H locs 0 0 (MQ below (gQi γ r0 s.heap.size (Tz, Pz, X, Y, E, B, M, O)) args s 0 0 (gA γ s.heap.size)) (F0 m 9 ls [])) (fun (r_k : (OS × OS) ⊕ (Int32 × OS × OS)) => (∀ (T_x9 : OS) (P_x9 : OS), r_k = .inl (T_x9, P_x9) → ∀ (H : Heap) (locs : List Loc) (ls : Array Slot), va_P γ.1 vwCl (gw γ (T_x9, P_x9, X, Y, E, B, M, O)) H → va_S (gA γ s.heap.size) s.heap H locs → lv_has ls 4 [(0, .ref (ad γ 15)), (1, .int x1), (2, .int x2_2)] → W p l e (gR 25 0 0) s m args below meth c H locs 0 0 (MQ below (gQi γ r0 s.heap.size (Tz, Pz, X, Y, E, B, M, O)) args s 0 0 (gA γ s.heap.size)) (F0 m 33 ls [])) ∧ (∀ t_k, r_k = .inr t_k → t_k = (r0, Tz, Pz))) (by
        intro T_9 P_9 x3_9 o_9 h kS kR H locs ls hP hS hl
        unfold r2_tryInsert_b9 at h
        refine lv_iload_n hx hb dX2_tryInsert_9 rfl (lv_at hl 3 rfl) ?_
        refine lv_bipush (v := 60) hx hb dX2_tryInsert_10 (by decide) ?_
        refine lv_icmp_ge (tgt := 33) hx hb dX2_tryInsert_12 (by decide) (fun c2 => ?_) (fun c2 => ?_)
        · rw [if_pos c2] at h
          cases h
          exact (kR _ rfl).1 _ _ rfl _ _ _ hP hS (lv_sub hl [0, 1, 2] rfl)
        · rw [if_neg c2] at h
          refine lv_aload_n hx hb dX2_tryInsert_15 rfl (lv_at hl 0 rfl) ?_
          refine lv_iload_n hx hb dX2_tryInsert_16 rfl (lv_at hl 1 rfl) ?_
          refine lv_iload_n hx hb dX2_tryInsert_17 rfl (lv_at hl 3 rfl) ?_
          refine lv_iload_n hx hb dX2_tryInsert_18 rfl (lv_at hl 2 rfl) ?_
          obtain ⟨v3, T4, P5, hv, h⟩ := bd3_e h
          refine g_ki (g_runV (As := [.int x1, .int x3_9, .int x2_2]) (rest := []) hC hP (c2_insertAt l hv) (by decide) ge_15 rfl u_2_55 yv_X2_insertAt (Nat.le_of_ble_eq_true rfl) rfl hl.1 rfl (Nat.le_of_ble_eq_true rfl) dX2_tryInsert_19 ⟨by decide, by decide⟩) hS (fun H locs hP hS => ?_)
          refine lv_if_eq (tgt := 27) hx hb dX2_tryInsert_22 (by decide) (fun c6 => ?_) (fun c6 => ?_)
          · rw [if_pos c6] at h
            refine lv_iinc (v := (x3_9 + 1)) (lv' := [(3, .int (x3_9 + 1)), (0, .ref (ad γ 15)), (1, .int x1), (2, .int x2_2)]) hx hb dX2_tryInsert_27 hl (k := 3) rfl rfl (by decide) rfl (fun ls hl => ?_)
            refine lv_goto (tgt := 9) hx hb dX2_tryInsert_30 (by decide) ?_
            cases h
            exact kS _ _ _ rfl _ _ _ hP hS (lv_sub hl [1, 2, 3, 0] rfl)
          · rw [if_neg c6] at h
            refine lv_iload_n hx hb dX2_tryInsert_25 rfl (lv_at hl 2 rfl) ?_
            cases h
            cases (kR _ rfl).2 _ rfl
            exact g_iret hC hP hS dX2_tryInsert_26 rfl)
      rcases bs2_e h with ⟨T_x9, P_x9, hv, h⟩ | ⟨t7, hv, h⟩
      · refine L9 _ _ _ _ _ hv ⟨fun q0 q1 e9 H locs ls hP hS hl => ?_, fun t9 e9 => nomatch e9⟩ _ _ _ hP hS (lv_sub hl [1, 2, 3, 0] rfl)
        obtain ⟨rfl, rfl⟩ := inj2 (Sum.inl.inj e9)
        refine lv_iinc (v := (x2_2 + 1)) (lv' := [(2, .int (x2_2 + 1)), (0, .ref (ad γ 15)), (1, .int x1)]) hx hb dX2_tryInsert_33 hl (k := 2) rfl rfl (by decide) rfl (fun ls hl => ?_)
        refine lv_goto (tgt := 2) hx hb dX2_tryInsert_36 (by decide) ?_
        cases h
        exact kS _ _ _ rfl _ _ _ hP hS (lv_sub hl [1, 2, 0] rfl)
      · refine L9 _ _ _ _ _ hv ⟨fun q0 q1 e9 => (nomatch e9), fun t9 e9 => ?_⟩ _ _ _ hP hS (lv_sub hl [1, 2, 3, 0] rfl)
        cases e9
        cases h
        exact (kR _ rfl).2 _ rfl)
  rcases bs2_e h with ⟨T_x2, P_x2, hv, h⟩ | ⟨t8, hv, h⟩
  · refine L2 _ _ _ _ _ hv ⟨fun q0 q1 e9 H locs ls hP hS hl => ?_, fun t9 e9 => nomatch e9⟩ _ _ _ hP hS (lv_sub hl [1, 2, 0] rfl)
    obtain ⟨rfl, rfl⟩ := inj2 (Sum.inl.inj e9)
    refine lv_iconst (v := -1) hx hb dX2_tryInsert_39 (by decide) ?_
    cases h
    exact g_iret hC hP hS dX2_tryInsert_40 rfl
  · refine L2 _ _ _ _ _ hv ⟨fun q0 q1 e9 => (nomatch e9), fun t9 e9 => ?_⟩ _ _ _ hP hS (lv_sub hl [1, 2, 0] rfl)
    cases e9
    exact Option.some.inj h
def r2_rankOf (T : OS) (x1 : Int32) : Option Int32 :=
  bd1 (r3_suitablePlaces T x1) (fun v1 =>
  (rd 14 (T 6) x1).bind fun v2 =>
  bd1 (r6_bitCount_0f7a4 v2) (fun v3 =>
  some ((v1 * 7) - v3)))
theorem yv_X2_rankOf : gYV yX2_rankOf cX2_rankOf 2 (some .int) 1 := ⟨u_2_11, u_sp_1, u_1_4, u_2_12, ⟨by decide +kernel, by decide +kernel, by decide +kernel⟩, by decide⟩
set_option maxHeartbeats 4000000 in
set_option maxRecDepth 100000 in
theorem c2_rankOf (l : Launch) {γ : GA} {sz : Nat} {T P X Y B M : OS} {E : Nat → OS} {O : Nat → Int64} {x1 : Int32} {r0 : Int32} (h : r2_rankOf T x1 = some r0) : Met l yX2_rankOf (gU yX2_rankOf cX2_rankOf 2 (some .int)) (gR 3 0 0) (gPc γ [.ref (ad γ 15), .int x1] sz (T, P, X, Y, E, B, M, O)) (gQi γ r0 sz (T, P, X, Y, E, B, M, O)) 0 0 (gA γ sz) := by
  refine g_met (fun sz => gQi γ r0 sz (T, P, X, Y, E, B, M, O)) (by decide) (Nat.le_of_ble_eq_true rfl) ?_
  intro p e s m args below meth c ls hC hP hS hl
  have hx := hC.x
  have hb := hC.b
  have hl : lv_has ls 2 [(0, .ref (ad γ 15)), (1, .int x1)] := hl
  unfold r2_rankOf at h
  refine lv_aload_n hx hb dX2_rankOf_0 rfl (lv_at hl 0 rfl) ?_
  refine g_get hC hP 0 dX2_rankOf_1 (by decide) ge_15 rfl inX2 (by decide) rfl u_1_115 ?_
  refine lv_iload_n hx hb dX2_rankOf_4 rfl (lv_at hl 1 rfl) ?_
  obtain ⟨v1, hv, h⟩ := bd1_e h
  refine g_ki (g_runV (As := [.int x1]) (rest := []) hC hP (c3_suitablePlaces l hv) (by decide) ge_1 rfl u_2_13 yv_X3_suitablePlaces (Nat.le_of_ble_eq_true rfl) rfl hl.1 rfl (Nat.le_of_ble_eq_true rfl) dX2_rankOf_5 ⟨by decide, by decide⟩) hS (fun H locs hP hS => ?_)
  refine lv_bipush (v := 7) hx hb dX2_rankOf_8 (by decide) ?_
  refine lv_imul hx hb dX2_rankOf_10 ?_
  refine lv_aload_n hx hb dX2_rankOf_11 rfl (lv_at hl 0 rfl) ?_
  refine g_get hC hP 0 dX2_rankOf_12 (by decide) ge_15 rfl inX2 (by decide) rfl u_1_115 ?_
  refine g_get hC hP 6 dX2_rankOf_15 (by decide) ge_1 rfl inX3 (by decide) rfl u_1_59 ?_
  refine lv_iload_n hx hb dX2_rankOf_18 rfl (lv_at hl 1 rfl) ?_
  obtain ⟨v2, hv, h⟩ := ob h
  refine g_ld hC hP dX2_rankOf_19 (by decide) ge_8 hv ?_
  obtain ⟨v3, hv, h⟩ := bd1_e h
  refine g_ki (g_runS (As := [.int v2]) (rest := [.int (v1 * 7)]) hC hP (c6_bitCount_0f7a4 l hv) u_2_43 yv_J6_bitCount_0f7a4 (Nat.le_of_ble_eq_true rfl) rfl hl.1 rfl (Nat.le_of_ble_eq_true rfl) dX2_rankOf_20 ⟨by decide, by decide⟩) hS (fun H locs hP hS => ?_)
  refine lv_isub hx hb dX2_rankOf_23 ?_
  cases h
  exact g_iret hC hP hS dX2_rankOf_24 rfl
def r2_rankWaiting_b7 (T : OS) (P_7 : OS) (x1_7 : Int32) : Option ((OS × Int32) ⊕ (OS)) :=
  (if 14 ≤ x1_7 then some (.inr P_7)
  else bd1 (r3_hasEvent T x1_7) (fun v3 =>
  (if v3 = 0 then some (.inl (P_7, (x1_7 + 1)))
  else (rd 14 (T 9) x1_7).bind fun v5 =>
  (if v5 = (-1) then (sw P_7 4 ((P_7 4 0) ||| (1 <<< (x1_7 &&& 31)))).bind fun P7 =>
  bd1 (r2_rankOf T x1_7) (fun v8 =>
  (wr 14 P7 3 x1_7 v8).bind fun P9 =>
  some (.inl (P9, (x1_7 + 1))))
  else some (.inl (P_7, (x1_7 + 1)))))))
def r2_rankWaiting (T : OS) (P : OS) : Option OS :=
  (sw P 4 0).bind fun P1 =>
  bd1 (it2 (r2_rankWaiting_b7 T) 200 P1 0) (fun P_x7 => some P_x7)
theorem yv_X2_rankWaiting : gYV yX2_rankWaiting cX2_rankWaiting 2 none 0 := ⟨u_2_2, u_2_3, u_1_4, u_2_4, ⟨by decide +kernel, by decide +kernel, by decide +kernel⟩, by decide⟩
set_option maxHeartbeats 4000000 in
set_option maxRecDepth 100000 in
theorem c2_rankWaiting (l : Launch) {γ : GA} {sz : Nat} {T P X Y B M : OS} {E : Nat → OS} {O : Nat → Int64} {Pz : OS} (h : r2_rankWaiting T P = some Pz) : Met l yX2_rankWaiting (gU yX2_rankWaiting cX2_rankWaiting 2 none) (gR 4 0 0) (gPc γ [.ref (ad γ 15)] sz (T, P, X, Y, E, B, M, O)) (gQv γ sz (T, Pz, X, Y, E, B, M, O)) 0 0 (gA γ sz) := by
  refine g_met (fun sz => gQv γ sz (T, Pz, X, Y, E, B, M, O)) (by decide) (Nat.le_of_ble_eq_true rfl) ?_
  intro p e s m args below meth c ls hC hP hS hl
  have hx := hC.x
  have hb := hC.b
  have hl : lv_has ls 2 [(0, .ref (ad γ 15))] := hl
  unfold r2_rankWaiting at h
  refine lv_aload_n hx hb dX2_rankWaiting_0 rfl (lv_at hl 0 rfl) ?_
  refine lv_iconst (v := 0) hx hb dX2_rankWaiting_1 (by decide) ?_
  obtain ⟨P1, hv, h⟩ := ob h
  refine g_putI hC hP hS (fun Z => (T, Z, X, Y, E, B, M, O)) 4 tyX2 dX2_rankWaiting_2 (by decide) ge_15 rfl inX2 tyX2_ok nmX2 (by decide) u_1_119 rfl rfl (Nat.le_of_ble_eq_true rfl) gp_15_4 hv (fun H locs hP hS => ?_)
  refine lv_iconst (v := 0) hx hb dX2_rankWaiting_5 (by decide) ?_
  refine lv_istore_n (lv' := [(1, .int 0), (0, .ref (ad γ 15))]) hx hb dX2_rankWaiting_6 rfl hl (by decide) rfl (fun ls hl => ?_)
  have L7 := it2_W (r2_rankWaiting_b7 T) (fun (P_7 : OS) (x1_7 : Int32) => ∀ (H : Heap) (locs : List Loc) (ls : Array Slot), va_P γ.1 vwCl (gw γ (T, P_7, X, Y, E, B, M, O)) H → va_S (gA γ s.heap.size) s.heap H locs → lv_has ls 2 [(0, .ref (ad γ 15)), (1, .int x1_7)] → W p l e (gR 4 0 0) s m args below meth c H locs 0 0 (MQ below (gQv γ s.heap.size (T, Pz, X, Y, E, B, M, O)) args s 0 0 (gA γ s.heap.size)) (F0 m 7 ls [])) (fun (r_k : OS) => (∀ (P_x7 : OS), r_k = P_x7 → ∀ (H : Heap) (locs : List Loc) (ls : Array Slot), va_P γ.1 vwCl (gw γ (T, P_x7, X, Y, E, B, M, O)) H → va_S (gA γ s.heap.size) s.heap H locs → lv_has ls 2 [] → W p l e (gR 4 0 0) s m args below meth c H locs 0 0 (MQ below (gQv γ s.heap.size (T, Pz, X, Y, E, B, M, O)) args s 0 0 (gA γ s.heap.size)) (F0 m 66 ls []))) (by
    intro P_7 x1_7 o_7 h kS kR H locs ls hP hS hl
    unfold r2_rankWaiting_b7 at h
    refine lv_iload_n hx hb dX2_rankWaiting_7 rfl (lv_at hl 1 rfl) ?_
    refine lv_bipush (v := 14) hx hb dX2_rankWaiting_8 (by decide) ?_
    refine lv_icmp_ge (tgt := 66) hx hb dX2_rankWaiting_10 (by decide) (fun c2 => ?_) (fun c2 => ?_)
    · rw [if_pos c2] at h
      cases h
      exact kR _ rfl _ rfl _ _ _ hP hS (lv_sub hl [] rfl)
    · rw [if_neg c2] at h
      refine lv_aload_n hx hb dX2_rankWaiting_13 rfl (lv_at hl 0 rfl) ?_
      refine g_get hC hP 0 dX2_rankWaiting_14 (by decide) ge_15 rfl inX2 (by decide) rfl u_1_115 ?_
      refine lv_iload_n hx hb dX2_rankWaiting_17 rfl (lv_at hl 1 rfl) ?_
      obtain ⟨v3, hv, h⟩ := bd1_e h
      refine g_ki (g_runV (As := [.int x1_7]) (rest := []) hC hP (c3_hasEvent l hv) (by decide) ge_1 rfl u_2_5 yv_X3_hasEvent (Nat.le_of_ble_eq_true rfl) rfl hl.1 rfl (Nat.le_of_ble_eq_true rfl) dX2_rankWaiting_18 ⟨by decide, by decide⟩) hS (fun H locs hP hS => ?_)
      refine lv_if_eq (tgt := 60) hx hb dX2_rankWaiting_21 (by decide) (fun c4 => ?_) (fun c4 => ?_)
      · rw [if_pos c4] at h
        refine lv_iinc (v := (x1_7 + 1)) (lv' := [(1, .int (x1_7 + 1)), (0, .ref (ad γ 15))]) hx hb dX2_rankWaiting_60 hl (k := 1) rfl rfl (by decide) rfl (fun ls hl => ?_)
        refine lv_goto (tgt := 7) hx hb dX2_rankWaiting_63 (by decide) ?_
        cases h
        exact kS _ _ rfl _ _ _ hP hS (lv_sub hl [1, 0] rfl)
      · rw [if_neg c4] at h
        refine lv_aload_n hx hb dX2_rankWaiting_24 rfl (lv_at hl 0 rfl) ?_
        refine g_get hC hP 0 dX2_rankWaiting_25 (by decide) ge_15 rfl inX2 (by decide) rfl u_1_115 ?_
        refine g_get hC hP 9 dX2_rankWaiting_28 (by decide) ge_1 rfl inX3 (by decide) rfl u_1_67 ?_
        refine lv_iload_n hx hb dX2_rankWaiting_31 rfl (lv_at hl 1 rfl) ?_
        obtain ⟨v5, hv, h⟩ := ob h
        refine g_ld hC hP dX2_rankWaiting_32 (by decide) ge_11 hv ?_
        refine lv_iconst (v := -1) hx hb dX2_rankWaiting_33 (by decide) ?_
        refine lv_icmp_ne (tgt := 60) hx hb dX2_rankWaiting_34 (by decide) (fun c6 => ?_) (fun c6 => ?_)
        · rw [if_neg c6] at h
          refine lv_iinc (v := (x1_7 + 1)) (lv' := [(1, .int (x1_7 + 1)), (0, .ref (ad γ 15))]) hx hb dX2_rankWaiting_60 hl (k := 1) rfl rfl (by decide) rfl (fun ls hl => ?_)
          refine lv_goto (tgt := 7) hx hb dX2_rankWaiting_63 (by decide) ?_
          cases h
          exact kS _ _ rfl _ _ _ hP hS (lv_sub hl [1, 0] rfl)
        · rw [if_pos c6] at h
          refine lv_aload_n hx hb dX2_rankWaiting_37 rfl (lv_at hl 0 rfl) ?_
          refine lv_dup hx hb dX2_rankWaiting_38 rfl ?_
          refine g_get hC hP 4 dX2_rankWaiting_39 (by decide) ge_15 rfl inX2 (by decide) rfl u_1_119 ?_
          refine lv_iconst (v := 1) hx hb dX2_rankWaiting_42 (by decide) ?_
          refine lv_iload_n hx hb dX2_rankWaiting_43 rfl (lv_at hl 1 rfl) ?_
          refine lv_ishl hx hb dX2_rankWaiting_44 ?_
          refine lv_ior hx hb dX2_rankWaiting_45 ?_
          obtain ⟨P7, hv, h⟩ := ob h
          refine g_putI hC hP hS (fun Z => (T, Z, X, Y, E, B, M, O)) 4 tyX2 dX2_rankWaiting_46 (by decide) ge_15 rfl inX2 tyX2_ok nmX2 (by decide) u_1_119 rfl rfl (Nat.le_of_ble_eq_true rfl) gp_15_4 hv (fun H locs hP hS => ?_)
          refine lv_aload_n hx hb dX2_rankWaiting_49 rfl (lv_at hl 0 rfl) ?_
          refine g_get hC hP 3 dX2_rankWaiting_50 (by decide) ge_15 rfl inX2 (by decide) rfl u_1_118 ?_
          refine lv_iload_n hx hb dX2_rankWaiting_53 rfl (lv_at hl 1 rfl) ?_
          refine lv_aload_n hx hb dX2_rankWaiting_54 rfl (lv_at hl 0 rfl) ?_
          refine lv_iload_n hx hb dX2_rankWaiting_55 rfl (lv_at hl 1 rfl) ?_
          obtain ⟨v8, hv, h⟩ := bd1_e h
          refine g_ki (g_runV (As := [.int x1_7]) (rest := [.int x1_7, .ref (ad γ 18)]) hC hP (c2_rankOf l hv) (by decide) ge_15 rfl u_2_9 yv_X2_rankOf (Nat.le_of_ble_eq_true rfl) rfl hl.1 rfl (Nat.le_of_ble_eq_true rfl) dX2_rankWaiting_56 ⟨by decide, by decide⟩) hS (fun H locs hP hS => ?_)
          obtain ⟨P9, hv, h⟩ := ob h
          refine g_st hC hP hS (fun Z => (T, Z, X, Y, E, B, M, O)) dX2_rankWaiting_59 (by decide) ge_18 gs_18 hv (fun H locs hP hS => ?_)
          refine lv_iinc (v := (x1_7 + 1)) (lv' := [(1, .int (x1_7 + 1)), (0, .ref (ad γ 15))]) hx hb dX2_rankWaiting_60 hl (k := 1) rfl rfl (by decide) rfl (fun ls hl => ?_)
          refine lv_goto (tgt := 7) hx hb dX2_rankWaiting_63 (by decide) ?_
          cases h
          exact kS _ _ rfl _ _ _ hP hS (lv_sub hl [1, 0] rfl))
  obtain ⟨P_x7, hv, h⟩ := bd1_e h
  refine L7 _ _ _ _ hv (fun q0 e9 H locs ls hP hS hl => ?_) _ _ _ hP hS (lv_sub hl [1, 0] rfl)
  obtain rfl := e9
  cases h
  exact g_vret hC hP hS dX2_rankWaiting_66
def r2_nextByRank_b4 (P : OS) (x1_4 : Int32) (x2_4 : Int32) : Option ((Int32 × Int32) ⊕ (Int32)) :=
  (if 14 ≤ x2_4 then some (.inr x1_4)
  else bd1 (r4_contains (P 4 0) x2_4) (fun v2 =>
  (if v2 = 0 then some (.inl (x1_4, (x2_4 + 1)))
  else (if x1_4 = (-1) then some (.inl (x2_4, (x2_4 + 1)))
  else (rd 14 (P 3) x2_4).bind fun v5 =>
  (rd 14 (P 3) x1_4).bind fun v6 =>
  (if v6 ≤ v5 then some (.inl (x1_4, (x2_4 + 1)))
  else some (.inl (x2_4, (x2_4 + 1))))))))
def r2_nextByRank (P : OS) : Option (Int32 × OS) :=
  bd1 (it2 (r2_nextByRank_b4 P) 200 (-1) 0) (fun x1_x4 => (if x1_x4 = (-1) then some (x1_x4, P)
  else (sw P 4 ((P 4 0) &&& ((1 <<< (x1_x4 &&& 31)) ^^^ (-1)))).bind fun P9 =>
  some (x1_x4, P9)))
theorem yv_X2_nextByRank : gYV yX2_nextByRank cX2_nextByRank 3 (some .int) 0 := ⟨u_2_45, u_2_46, u_1_4, u_2_47, ⟨by decide +kernel, by decide +kernel, by decide +kernel⟩, by decide⟩
set_option maxHeartbeats 4000000 in
set_option maxRecDepth 100000 in
theorem c2_nextByRank (l : Launch) {γ : GA} {sz : Nat} {T P X Y B M : OS} {E : Nat → OS} {O : Nat → Int64} {r0 : Int32} {Pz : OS} (h : r2_nextByRank P = some (r0, Pz)) : Met l yX2_nextByRank (gU yX2_nextByRank cX2_nextByRank 3 (some .int)) (gR 1 0 0) (gPc γ [.ref (ad γ 15)] sz (T, P, X, Y, E, B, M, O)) (gQi γ r0 sz (T, Pz, X, Y, E, B, M, O)) 0 0 (gA γ sz) := by
  refine g_met (fun sz => gQi γ r0 sz (T, Pz, X, Y, E, B, M, O)) (by decide) (Nat.le_of_ble_eq_true rfl) ?_
  intro p e s m args below meth c ls hC hP hS hl
  have hx := hC.x
  have hb := hC.b
  have hl : lv_has ls 3 [(0, .ref (ad γ 15))] := hl
  unfold r2_nextByRank at h
  refine lv_iconst (v := -1) hx hb dX2_nextByRank_0 (by decide) ?_
  refine lv_istore_n (lv' := [(1, .int (-1)), (0, .ref (ad γ 15))]) hx hb dX2_nextByRank_1 rfl hl (by decide) rfl (fun ls hl => ?_)
  refine lv_iconst (v := 0) hx hb dX2_nextByRank_2 (by decide) ?_
  refine lv_istore_n (lv' := [(2, .int 0), (1, .int (-1)), (0, .ref (ad γ 15))]) hx hb dX2_nextByRank_3 rfl hl (by decide) rfl (fun ls hl => ?_)
  have L4 := it2_W (r2_nextByRank_b4 P) (fun (x1_4 : Int32) (x2_4 : Int32) => ∀ (H : Heap) (locs : List Loc) (ls : Array Slot), va_P γ.1 vwCl (gw γ (T, P, X, Y, E, B, M, O)) H → va_S (gA γ s.heap.size) s.heap H locs → lv_has ls 3 [(0, .ref (ad γ 15)), (1, .int x1_4), (2, .int x2_4)] → W p l e (gR 1 0 0) s m args below meth c H locs 0 0 (MQ below (gQi γ r0 s.heap.size (T, Pz, X, Y, E, B, M, O)) args s 0 0 (gA γ s.heap.size)) (F0 m 4 ls [])) (fun (r_k : Int32) => (∀ (x1_x4 : Int32), r_k = x1_x4 → ∀ (H : Heap) (locs : List Loc) (ls : Array Slot), va_P γ.1 vwCl (gw γ (T, P, X, Y, E, B, M, O)) H → va_S (gA γ s.heap.size) s.heap H locs → lv_has ls 3 [(0, .ref (ad γ 15)), (1, .int x1_x4)] → W p l e (gR 1 0 0) s m args below meth c H locs 0 0 (MQ below (gQi γ r0 s.heap.size (T, Pz, X, Y, E, B, M, O)) args s 0 0 (gA γ s.heap.size)) (F0 m 49 ls []))) (by
    intro x1_4 x2_4 o_4 h kS kR H locs ls hP hS hl
    unfold r2_nextByRank_b4 at h
    refine lv_iload_n hx hb dX2_nextByRank_4 rfl (lv_at hl 2 rfl) ?_
    refine lv_bipush (v := 14) hx hb dX2_nextByRank_5 (by decide) ?_
    refine lv_icmp_ge (tgt := 49) hx hb dX2_nextByRank_7 (by decide) (fun c1 => ?_) (fun c1 => ?_)
    · rw [if_pos c1] at h
      cases h
      exact kR _ rfl _ rfl _ _ _ hP hS (lv_sub hl [0, 1] rfl)
    · rw [if_neg c1] at h
      refine lv_aload_n hx hb dX2_nextByRank_10 rfl (lv_at hl 0 rfl) ?_
      refine g_get hC hP 4 dX2_nextByRank_11 (by decide) ge_15 rfl inX2 (by decide) rfl u_1_119 ?_
      refine lv_iload_n hx hb dX2_nextByRank_14 rfl (lv_at hl 2 rfl) ?_
      obtain ⟨v2, hv, h⟩ := bd1_e h
      refine g_ki (g_runN (As := [.int (P 4 0), .int x2_4]) (rest := []) hC hP (c4_contains l hv) List.mem_cons_self yv_X4_contains (Nat.le_of_ble_eq_true rfl) rfl hl.1 rfl (Nat.le_of_ble_eq_true rfl) dX2_nextByRank_15 ⟨by decide, by decide⟩) hS (fun H locs hP hS => ?_)
      refine lv_if_eq (tgt := 43) hx hb dX2_nextByRank_18 (by decide) (fun c3 => ?_) (fun c3 => ?_)
      · rw [if_pos c3] at h
        refine lv_iinc (v := (x2_4 + 1)) (lv' := [(2, .int (x2_4 + 1)), (0, .ref (ad γ 15)), (1, .int x1_4)]) hx hb dX2_nextByRank_43 hl (k := 2) rfl rfl (by decide) rfl (fun ls hl => ?_)
        refine lv_goto (tgt := 4) hx hb dX2_nextByRank_46 (by decide) ?_
        cases h
        exact kS _ _ rfl _ _ _ hP hS (lv_sub hl [1, 2, 0] rfl)
      · rw [if_neg c3] at h
        refine lv_iload_n hx hb dX2_nextByRank_21 rfl (lv_at hl 1 rfl) ?_
        refine lv_iconst (v := -1) hx hb dX2_nextByRank_22 (by decide) ?_
        refine lv_icmp_eq (tgt := 41) hx hb dX2_nextByRank_23 (by decide) (fun c4 => ?_) (fun c4 => ?_)
        · rw [if_pos c4] at h
          refine lv_iload_n hx hb dX2_nextByRank_41 rfl (lv_at hl 2 rfl) ?_
          refine lv_istore_n (lv' := [(1, .int x2_4), (0, .ref (ad γ 15)), (2, .int x2_4)]) hx hb dX2_nextByRank_42 rfl hl (by decide) rfl (fun ls hl => ?_)
          refine lv_iinc (v := (x2_4 + 1)) (lv' := [(2, .int (x2_4 + 1)), (1, .int x2_4), (0, .ref (ad γ 15))]) hx hb dX2_nextByRank_43 hl (k := 2) rfl rfl (by decide) rfl (fun ls hl => ?_)
          refine lv_goto (tgt := 4) hx hb dX2_nextByRank_46 (by decide) ?_
          cases h
          exact kS _ _ rfl _ _ _ hP hS (lv_sub hl [2, 1, 0] rfl)
        · rw [if_neg c4] at h
          refine lv_aload_n hx hb dX2_nextByRank_26 rfl (lv_at hl 0 rfl) ?_
          refine g_get hC hP 3 dX2_nextByRank_27 (by decide) ge_15 rfl inX2 (by decide) rfl u_1_118 ?_
          refine lv_iload_n hx hb dX2_nextByRank_30 rfl (lv_at hl 2 rfl) ?_
          obtain ⟨v5, hv, h⟩ := ob h
          refine g_ld hC hP dX2_nextByRank_31 (by decide) ge_18 hv ?_
          refine lv_aload_n hx hb dX2_nextByRank_32 rfl (lv_at hl 0 rfl) ?_
          refine g_get hC hP 3 dX2_nextByRank_33 (by decide) ge_15 rfl inX2 (by decide) rfl u_1_118 ?_
          refine lv_iload_n hx hb dX2_nextByRank_36 rfl (lv_at hl 1 rfl) ?_
          obtain ⟨v6, hv, h⟩ := ob h
          refine g_ld hC hP dX2_nextByRank_37 (by decide) ge_18 hv ?_
          refine lv_icmp_ge (tgt := 43) hx hb dX2_nextByRank_38 (by decide) (fun c7 => ?_) (fun c7 => ?_)
          · rw [if_pos c7] at h
            refine lv_iinc (v := (x2_4 + 1)) (lv' := [(2, .int (x2_4 + 1)), (0, .ref (ad γ 15)), (1, .int x1_4)]) hx hb dX2_nextByRank_43 hl (k := 2) rfl rfl (by decide) rfl (fun ls hl => ?_)
            refine lv_goto (tgt := 4) hx hb dX2_nextByRank_46 (by decide) ?_
            cases h
            exact kS _ _ rfl _ _ _ hP hS (lv_sub hl [1, 2, 0] rfl)
          · rw [if_neg c7] at h
            refine lv_iload_n hx hb dX2_nextByRank_41 rfl (lv_at hl 2 rfl) ?_
            refine lv_istore_n (lv' := [(1, .int x2_4), (0, .ref (ad γ 15)), (2, .int x2_4)]) hx hb dX2_nextByRank_42 rfl hl (by decide) rfl (fun ls hl => ?_)
            refine lv_iinc (v := (x2_4 + 1)) (lv' := [(2, .int (x2_4 + 1)), (1, .int x2_4), (0, .ref (ad γ 15))]) hx hb dX2_nextByRank_43 hl (k := 2) rfl rfl (by decide) rfl (fun ls hl => ?_)
            refine lv_goto (tgt := 4) hx hb dX2_nextByRank_46 (by decide) ?_
            cases h
            exact kS _ _ rfl _ _ _ hP hS (lv_sub hl [2, 1, 0] rfl))
  obtain ⟨x1_x4, hv, h⟩ := bd1_e h
  refine L4 _ _ _ _ hv (fun q0 e9 H locs ls hP hS hl => ?_) _ _ _ hP hS (lv_sub hl [2, 1, 0] rfl)
  obtain rfl := e9
  refine lv_iload_n hx hb dX2_nextByRank_49 rfl (lv_at hl 1 rfl) ?_
  refine lv_iconst (v := -1) hx hb dX2_nextByRank_50 (by decide) ?_
  refine lv_icmp_eq (tgt := 68) hx hb dX2_nextByRank_51 (by decide) (fun c8 => ?_) (fun c8 => ?_)
  · rw [if_pos c8] at h
    refine lv_iload_n hx hb dX2_nextByRank_68 rfl (lv_at hl 1 rfl) ?_
    cases h
    exact g_iret hC hP hS dX2_nextByRank_69 rfl
  · rw [if_neg c8] at h
    refine lv_aload_n hx hb dX2_nextByRank_54 rfl (lv_at hl 0 rfl) ?_
    refine lv_dup hx hb dX2_nextByRank_55 rfl ?_
    refine g_get hC hP 4 dX2_nextByRank_56 (by decide) ge_15 rfl inX2 (by decide) rfl u_1_119 ?_
    refine lv_iconst (v := 1) hx hb dX2_nextByRank_59 (by decide) ?_
    refine lv_iload_n hx hb dX2_nextByRank_60 rfl (lv_at hl 1 rfl) ?_
    refine lv_ishl hx hb dX2_nextByRank_61 ?_
    refine lv_iconst (v := -1) hx hb dX2_nextByRank_62 (by decide) ?_
    refine lv_ixor hx hb dX2_nextByRank_63 ?_
    refine lv_iand hx hb dX2_nextByRank_64 ?_
    obtain ⟨P9, hv, h⟩ := ob h
    refine g_putI hC hP hS (fun Z => (T, Z, X, Y, E, B, M, O)) 4 tyX2 dX2_nextByRank_65 (by decide) ge_15 rfl inX2 tyX2_ok nmX2 (by decide) u_1_119 rfl rfl (Nat.le_of_ble_eq_true rfl) gp_15_4 hv (fun H locs hP hS => ?_)
    refine lv_iload_n hx hb dX2_nextByRank_68 rfl (lv_at hl 1 rfl) ?_
    cases h
    exact g_iret hC hP hS dX2_nextByRank_69 rfl
def r2_withLinked_b8 (T : OS) (x1 : Int32) (x2 : Int32) (x3_8 : Int32) (x4_8 : Int32) (x5_8 : Int32) : Option ((Int32 × Int32 × Int32) ⊕ (Int32 × Int32)) :=
  (if 14 ≤ x5_8 then some (.inr (x3_8, x4_8))
  else bd1 (r4_contains x1 x5_8) (fun v2 =>
  (if v2 = 0 then some (.inl (x3_8, x4_8, (x5_8 + 1)))
  else (rd 14 (T 5) x5_8).bind fun v4 =>
  (some (x3_8 ||| (1 <<< (v4 &&& 31)))).bind fun v5 =>
  (rd 14 (T 6) x5_8).bind fun v6 =>
  (some (x4_8 ||| v6)).bind fun v7 =>
  some (.inl (v5, v7, (x5_8 + 1))))))
def r2_withLinked_j111 (T : OS) (x2 : Int32) (x3_x8 : Int32) (x4_x8 : Int32) (x5_111 : Int32) (x6_111 : Int32) (s0_111 : Int32)  : Option ((Int32 × Int32) ⊕ (Int32)) :=
  (if s0_111 = 0 then some (.inl (x5_111, (x6_111 + 1)))
  else (rd 14 (T 10) x6_111).bind fun v9 =>
  (if (v9 &&& x2) = 0 then some (.inl (x5_111, (x6_111 + 1)))
  else (some (x5_111 ||| (1 <<< (x6_111 &&& 31)))).bind fun v11 =>
  some (.inl (v11, (x6_111 + 1)))))
def r2_withLinked_b66 (T : OS) (x2 : Int32) (x3_x8 : Int32) (x4_x8 : Int32) (x5_66 : Int32) (x6_66 : Int32) : Option ((Int32 × Int32) ⊕ (Int32)) :=
  (if 14 ≤ x6_66 then some (.inr x5_66)
  else (rd 14 (T 5) x6_66).bind fun v13 =>
  bd1 (r4_contains x3_x8 v13) (fun v14 =>
  (if v14 = 0 then (rd 14 (T 6) x6_66).bind fun v16 =>
  (if (x4_x8 &&& v16) = 0 then r2_withLinked_j111 T x2 x3_x8 x4_x8 x5_66 x6_66 0
  else r2_withLinked_j111 T x2 x3_x8 x4_x8 x5_66 x6_66 1)
  else r2_withLinked_j111 T x2 x3_x8 x4_x8 x5_66 x6_66 1)))
def r2_withLinked (T : OS) (x1 : Int32) (x2 : Int32) : Option Int32 :=
  bd2 (it3 (r2_withLinked_b8 T x1 x2) 200 0 0 0) (fun x3_x8 x4_x8 => bd1 (it2 (r2_withLinked_b66 T x2 x3_x8 x4_x8) 200 x1 0) (fun x5_x66 => some x5_x66))
theorem yv_X2_withLinked : gYV yX2_withLinked cX2_withLinked 8 (some .int) 2 := ⟨u_5_10, u_sp_20, u_1_4, u_5_11, ⟨by decide +kernel, by decide +kernel, by decide +kernel⟩, by decide⟩
set_option maxHeartbeats 4000000 in
set_option maxRecDepth 100000 in
theorem c2_withLinked (l : Launch) {γ : GA} {sz : Nat} {T P X Y B M : OS} {E : Nat → OS} {O : Nat → Int64} {x1 : Int32} {x2 : Int32} {r0 : Int32} (h : r2_withLinked T x1 x2 = some r0) : Met l yX2_withLinked (gU yX2_withLinked cX2_withLinked 8 (some .int)) (gR 1 0 0) (gPc γ [.ref (ad γ 15), .int x1, .int x2] sz (T, P, X, Y, E, B, M, O)) (gQi γ r0 sz (T, P, X, Y, E, B, M, O)) 0 0 (gA γ sz) := by
  refine g_met (fun sz => gQi γ r0 sz (T, P, X, Y, E, B, M, O)) (by decide) (Nat.le_of_ble_eq_true rfl) ?_
  intro p e s m args below meth c ls hC hP hS hl
  have hx := hC.x
  have hb := hC.b
  have hl : lv_has ls 8 [(0, .ref (ad γ 15)), (1, .int x1), (2, .int x2)] := hl
  unfold r2_withLinked at h
  refine lv_iconst (v := 0) hx hb dX2_withLinked_0 (by decide) ?_
  refine lv_istore_n (lv' := [(3, .int 0), (0, .ref (ad γ 15)), (1, .int x1), (2, .int x2)]) hx hb dX2_withLinked_1 rfl hl (by decide) rfl (fun ls hl => ?_)
  refine lv_iconst (v := 0) hx hb dX2_withLinked_2 (by decide) ?_
  refine lv_istore (lv' := [(4, .int 0), (3, .int 0), (0, .ref (ad γ 15)), (1, .int x1), (2, .int x2)]) hx hb dX2_withLinked_3 hl (by decide) rfl (fun ls hl => ?_)
  refine lv_iconst (v := 0) hx hb dX2_withLinked_5 (by decide) ?_
  refine lv_istore (lv' := [(5, .int 0), (4, .int 0), (3, .int 0), (0, .ref (ad γ 15)), (1, .int x1), (2, .int x2)]) hx hb dX2_withLinked_6 hl (by decide) rfl (fun ls hl => ?_)
  have L8 := it3_W (r2_withLinked_b8 T x1 x2) (fun (x3_8 : Int32) (x4_8 : Int32) (x5_8 : Int32) => ∀ (H : Heap) (locs : List Loc) (ls : Array Slot), va_P γ.1 vwCl (gw γ (T, P, X, Y, E, B, M, O)) H → va_S (gA γ s.heap.size) s.heap H locs → lv_has ls 8 [(0, .ref (ad γ 15)), (1, .int x1), (2, .int x2), (3, .int x3_8), (4, .int x4_8), (5, .int x5_8)] → W p l e (gR 1 0 0) s m args below meth c H locs 0 0 (MQ below (gQi γ r0 s.heap.size (T, P, X, Y, E, B, M, O)) args s 0 0 (gA γ s.heap.size)) (F0 m 8 ls [])) (fun (r_k : Int32 × Int32) => (∀ (x3_x8 : Int32) (x4_x8 : Int32), r_k = (x3_x8, x4_x8) → ∀ (H : Heap) (locs : List Loc) (ls : Array Slot), va_P γ.1 vwCl (gw γ (T, P, X, Y, E, B, M, O)) H → va_S (gA γ s.heap.size) s.heap H locs → lv_has ls 8 [(0, .ref (ad γ 15)), (1, .int x1), (2, .int x2), (3, .int x3_x8), (4, .int x4_x8)] → W p l e (gR 1 0 0) s m args below meth c H locs 0 0 (MQ below (gQi γ r0 s.heap.size (T, P, X, Y, E, B, M, O)) args s 0 0 (gA γ s.heap.size)) (F0 m 60 ls []))) (by
    intro x3_8 x4_8 x5_8 o_8 h kS kR H locs ls hP hS hl
    unfold r2_withLinked_b8 at h
    refine lv_iload hx hb dX2_withLinked_8 (lv_at hl 5 rfl) ?_
    refine lv_bipush (v := 14) hx hb dX2_withLinked_10 (by decide) ?_
    refine lv_icmp_ge (tgt := 60) hx hb dX2_withLinked_12 (by decide) (fun c1 => ?_) (fun c1 => ?_)
    · rw [if_pos c1] at h
      cases h
      exact kR _ rfl _ _ rfl _ _ _ hP hS (lv_sub hl [0, 1, 2, 3, 4] rfl)
    · rw [if_neg c1] at h
      refine lv_iload_n hx hb dX2_withLinked_15 rfl (lv_at hl 1 rfl) ?_
      refine lv_iload hx hb dX2_withLinked_16 (lv_at hl 5 rfl) ?_
      obtain ⟨v2, hv, h⟩ := bd1_e h
      refine g_ki (g_runN (As := [.int x1, .int x5_8]) (rest := []) hC hP (c4_contains l hv) List.mem_cons_self yv_X4_contains (Nat.le_of_ble_eq_true rfl) rfl hl.1 rfl (Nat.le_of_ble_eq_true rfl) dX2_withLinked_18 ⟨by decide, by decide⟩) hS (fun H locs hP hS => ?_)
      refine lv_if_eq (tgt := 54) hx hb dX2_withLinked_21 (by decide) (fun c3 => ?_) (fun c3 => ?_)
      · rw [if_pos c3] at h
        refine lv_iinc (v := (x5_8 + 1)) (lv' := [(5, .int (x5_8 + 1)), (0, .ref (ad γ 15)), (1, .int x1), (2, .int x2), (3, .int x3_8), (4, .int x4_8)]) hx hb dX2_withLinked_54 hl (k := 5) rfl rfl (by decide) rfl (fun ls hl => ?_)
        refine lv_goto (tgt := 8) hx hb dX2_withLinked_57 (by decide) ?_
        cases h
        exact kS _ _ _ rfl _ _ _ hP hS (lv_sub hl [1, 2, 3, 4, 5, 0] rfl)
      · rw [if_neg c3] at h
        refine lv_iload_n hx hb dX2_withLinked_24 rfl (lv_at hl 3 rfl) ?_
        refine lv_iconst (v := 1) hx hb dX2_withLinked_25 (by decide) ?_
        refine lv_aload_n hx hb dX2_withLinked_26 rfl (lv_at hl 0 rfl) ?_
        refine g_get hC hP 0 dX2_withLinked_27 (by decide) ge_15 rfl inX2 (by decide) rfl u_1_115 ?_
        refine g_get hC hP 5 dX2_withLinked_30 (by decide) ge_1 rfl inX3 (by decide) rfl u_1_57 ?_
        refine lv_iload hx hb dX2_withLinked_33 (lv_at hl 5 rfl) ?_
        obtain ⟨v4, hv, h⟩ := ob h
        refine g_ld hC hP dX2_withLinked_35 (by decide) ge_7 hv ?_
        refine lv_ishl hx hb dX2_withLinked_36 ?_
        refine lv_ior hx hb dX2_withLinked_37 ?_
        obtain ⟨v5, hv, h⟩ := ob h
        refine lv_topi (fun y9 ey9 => ?_)
        obtain rfl : v5 = y9 := (Option.some.inj hv).symm.trans ey9.symm
        clear hv ey9
        refine lv_istore_n (lv' := [(3, .int v5), (0, .ref (ad γ 15)), (1, .int x1), (2, .int x2), (4, .int x4_8), (5, .int x5_8)]) hx hb dX2_withLinked_38 rfl hl (by decide) rfl (fun ls hl => ?_)
        refine lv_iload hx hb dX2_withLinked_39 (lv_at hl 4 rfl) ?_
        refine lv_aload_n hx hb dX2_withLinked_41 rfl (lv_at hl 1 rfl) ?_
        refine g_get hC hP 0 dX2_withLinked_42 (by decide) ge_15 rfl inX2 (by decide) rfl u_1_115 ?_
        refine g_get hC hP 6 dX2_withLinked_45 (by decide) ge_1 rfl inX3 (by decide) rfl u_1_59 ?_
        refine lv_iload hx hb dX2_withLinked_48 (lv_at hl 5 rfl) ?_
        obtain ⟨v6, hv, h⟩ := ob h
        refine g_ld hC hP dX2_withLinked_50 (by decide) ge_8 hv ?_
        refine lv_ior hx hb dX2_withLinked_51 ?_
        obtain ⟨v7, hv, h⟩ := ob h
        refine lv_topi (fun y9 ey9 => ?_)
        obtain rfl : v7 = y9 := (Option.some.inj hv).symm.trans ey9.symm
        clear hv ey9
        refine lv_istore (lv' := [(4, .int v7), (3, .int v5), (0, .ref (ad γ 15)), (1, .int x1), (2, .int x2), (5, .int x5_8)]) hx hb dX2_withLinked_52 hl (by decide) rfl (fun ls hl => ?_)
        refine lv_iinc (v := (x5_8 + 1)) (lv' := [(5, .int (x5_8 + 1)), (4, .int v7), (3, .int v5), (0, .ref (ad γ 15)), (1, .int x1), (2, .int x2)]) hx hb dX2_withLinked_54 hl (k := 5) rfl rfl (by decide) rfl (fun ls hl => ?_)
        refine lv_goto (tgt := 8) hx hb dX2_withLinked_57 (by decide) ?_
        cases h
        exact kS _ _ _ rfl _ _ _ hP hS (lv_sub hl [3, 4, 5, 2, 1, 0] rfl))
  obtain ⟨x3_x8, x4_x8, hv, h⟩ := bd2_e h
  refine L8 _ _ _ _ _ hv (fun q0 q1 e9 H locs ls hP hS hl => ?_) _ _ _ hP hS (lv_sub hl [3, 4, 5, 2, 1, 0] rfl)
  obtain ⟨rfl, rfl⟩ := inj2 e9
  refine lv_iload_n hx hb dX2_withLinked_60 rfl (lv_at hl 1 rfl) ?_
  refine lv_istore (lv' := [(5, .int x1), (0, .ref (ad γ 15)), (1, .int x1), (2, .int x2), (3, .int x3_x8), (4, .int x4_x8)]) hx hb dX2_withLinked_61 hl (by decide) rfl (fun ls hl => ?_)
  refine lv_iconst (v := 0) hx hb dX2_withLinked_63 (by decide) ?_
  refine lv_istore (lv' := [(6, .int 0), (5, .int x1), (0, .ref (ad γ 15)), (1, .int x1), (2, .int x2), (3, .int x3_x8), (4, .int x4_x8)]) hx hb dX2_withLinked_64 hl (by decide) rfl (fun ls hl => ?_)
  have L66 := it2_W (r2_withLinked_b66 T x2 x3_x8 x4_x8) (fun (x5_66 : Int32) (x6_66 : Int32) => ∀ (H : Heap) (locs : List Loc) (ls : Array Slot), va_P γ.1 vwCl (gw γ (T, P, X, Y, E, B, M, O)) H → va_S (gA γ s.heap.size) s.heap H locs → lv_has ls 8 [(0, .ref (ad γ 15)), (2, .int x2), (3, .int x3_x8), (4, .int x4_x8), (5, .int x5_66), (6, .int x6_66)] → W p l e (gR 1 0 0) s m args below meth c H locs 0 0 (MQ below (gQi γ r0 s.heap.size (T, P, X, Y, E, B, M, O)) args s 0 0 (gA γ s.heap.size)) (F0 m 66 ls [])) (fun (r_k : Int32) => (∀ (x5_x66 : Int32), r_k = x5_x66 → ∀ (H : Heap) (locs : List Loc) (ls : Array Slot), va_P γ.1 vwCl (gw γ (T, P, X, Y, E, B, M, O)) H → va_S (gA γ s.heap.size) s.heap H locs → lv_has ls 8 [(5, .int x5_x66)] → W p l e (gR 1 0 0) s m args below meth c H locs 0 0 (MQ below (gQi γ r0 s.heap.size (T, P, X, Y, E, B, M, O)) args s 0 0 (gA γ s.heap.size)) (F0 m 148 ls []))) (by
    intro x5_66 x6_66 o_66 h kS kR H locs ls hP hS hl
    unfold r2_withLinked_b66 at h
    have J111 : ∀ (x5_111 : Int32) (x6_111 : Int32) (s0_111 : Int32) (h : r2_withLinked_j111 T x2 x3_x8 x4_x8 x5_111 x6_111 s0_111 = some o_66), ∀ (H : Heap) (locs : List Loc) (ls : Array Slot), va_P γ.1 vwCl (gw γ (T, P, X, Y, E, B, M, O)) H → va_S (gA γ s.heap.size) s.heap H locs → lv_has ls 8 [(0, .ref (ad γ 15)), (2, .int x2), (3, .int x3_x8), (4, .int x4_x8), (5, .int x5_111), (6, .int x6_111)] → W p l e (gR 1 0 0) s m args below meth c H locs 0 0 (MQ below (gQi γ r0 s.heap.size (T, P, X, Y, E, B, M, O)) args s 0 0 (gA γ s.heap.size)) (F0 m 111 ls [.int s0_111]) := by
      intro x5_111 x6_111 s0_111 h H locs ls hP hS hl
      unfold r2_withLinked_j111 at h
      refine lv_istore (lv' := [(7, .int s0_111), (0, .ref (ad γ 15)), (2, .int x2), (3, .int x3_x8), (4, .int x4_x8), (5, .int x5_111), (6, .int x6_111)]) hx hb dX2_withLinked_111 hl (by decide) rfl (fun ls hl => ?_)
      refine lv_iload hx hb dX2_withLinked_113 (lv_at hl 0 rfl) ?_
      refine lv_if_eq (tgt := 142) hx hb dX2_withLinked_115 (by decide) (fun c8 => ?_) (fun c8 => ?_)
      · rw [if_pos c8] at h
        refine lv_iinc (v := (x6_111 + 1)) (lv' := [(6, .int (x6_111 + 1)), (7, .int s0_111), (0, .ref (ad γ 15)), (2, .int x2), (3, .int x3_x8), (4, .int x4_x8), (5, .int x5_111)]) hx hb dX2_withLinked_142 hl (k := 6) rfl rfl (by decide) rfl (fun ls hl => ?_)
        refine lv_goto (tgt := 66) hx hb dX2_withLinked_145 (by decide) ?_
        cases h
        exact kS _ _ rfl _ _ _ hP hS (lv_sub hl [2, 3, 4, 5, 6, 0] rfl)
      · rw [if_neg c8] at h
        refine lv_aload_n hx hb dX2_withLinked_118 rfl (lv_at hl 1 rfl) ?_
        refine g_get hC hP 0 dX2_withLinked_119 (by decide) ge_15 rfl inX2 (by decide) rfl u_1_115 ?_
        refine g_get hC hP 10 dX2_withLinked_122 (by decide) ge_1 rfl inX3 (by decide) rfl u_1_70 ?_
        refine lv_iload hx hb dX2_withLinked_125 (lv_at hl 6 rfl) ?_
        obtain ⟨v9, hv, h⟩ := ob h
        refine g_ld hC hP dX2_withLinked_127 (by decide) ge_12 hv ?_
        refine lv_iload_n hx hb dX2_withLinked_128 rfl (lv_at hl 2 rfl) ?_
        refine lv_iand hx hb dX2_withLinked_129 ?_
        refine lv_if_eq (tgt := 142) hx hb dX2_withLinked_130 (by decide) (fun c10 => ?_) (fun c10 => ?_)
        · rw [if_pos c10] at h
          refine lv_iinc (v := (x6_111 + 1)) (lv' := [(6, .int (x6_111 + 1)), (7, .int s0_111), (0, .ref (ad γ 15)), (2, .int x2), (3, .int x3_x8), (4, .int x4_x8), (5, .int x5_111)]) hx hb dX2_withLinked_142 hl (k := 6) rfl rfl (by decide) rfl (fun ls hl => ?_)
          refine lv_goto (tgt := 66) hx hb dX2_withLinked_145 (by decide) ?_
          cases h
          exact kS _ _ rfl _ _ _ hP hS (lv_sub hl [2, 3, 4, 5, 6, 0] rfl)
        · rw [if_neg c10] at h
          refine lv_iload hx hb dX2_withLinked_133 (lv_at hl 5 rfl) ?_
          refine lv_iconst (v := 1) hx hb dX2_withLinked_135 (by decide) ?_
          refine lv_iload hx hb dX2_withLinked_136 (lv_at hl 6 rfl) ?_
          refine lv_ishl hx hb dX2_withLinked_138 ?_
          refine lv_ior hx hb dX2_withLinked_139 ?_
          obtain ⟨v11, hv, h⟩ := ob h
          refine lv_topi (fun y9 ey9 => ?_)
          obtain rfl : v11 = y9 := (Option.some.inj hv).symm.trans ey9.symm
          clear hv ey9
          refine lv_istore (lv' := [(5, .int v11), (7, .int s0_111), (0, .ref (ad γ 15)), (2, .int x2), (3, .int x3_x8), (4, .int x4_x8), (6, .int x6_111)]) hx hb dX2_withLinked_140 hl (by decide) rfl (fun ls hl => ?_)
          refine lv_iinc (v := (x6_111 + 1)) (lv' := [(6, .int (x6_111 + 1)), (5, .int v11), (7, .int s0_111), (0, .ref (ad γ 15)), (2, .int x2), (3, .int x3_x8), (4, .int x4_x8)]) hx hb dX2_withLinked_142 hl (k := 6) rfl rfl (by decide) rfl (fun ls hl => ?_)
          refine lv_goto (tgt := 66) hx hb dX2_withLinked_145 (by decide) ?_
          cases h
          exact kS _ _ rfl _ _ _ hP hS (lv_sub hl [3, 4, 5, 6, 1, 0] rfl)
    refine lv_iload hx hb dX2_withLinked_66 (lv_at hl 5 rfl) ?_
    refine lv_bipush (v := 14) hx hb dX2_withLinked_68 (by decide) ?_
    refine lv_icmp_ge (tgt := 148) hx hb dX2_withLinked_70 (by decide) (fun c12 => ?_) (fun c12 => ?_)
    · rw [if_pos c12] at h
      cases h
      exact kR _ rfl _ rfl _ _ _ hP hS (lv_sub hl [4] rfl)
    · rw [if_neg c12] at h
      refine lv_iload_n hx hb dX2_withLinked_73 rfl (lv_at hl 2 rfl) ?_
      refine lv_aload_n hx hb dX2_withLinked_74 rfl (lv_at hl 0 rfl) ?_
      refine g_get hC hP 0 dX2_withLinked_75 (by decide) ge_15 rfl inX2 (by decide) rfl u_1_115 ?_
      refine g_get hC hP 5 dX2_withLinked_78 (by decide) ge_1 rfl inX3 (by decide) rfl u_1_57 ?_
      refine lv_iload hx hb dX2_withLinked_81 (lv_at hl 5 rfl) ?_
      obtain ⟨v13, hv, h⟩ := ob h
      refine g_ld hC hP dX2_withLinked_83 (by decide) ge_7 hv ?_
      obtain ⟨v14, hv, h⟩ := bd1_e h
      refine g_ki (g_runN (As := [.int x3_x8, .int v13]) (rest := []) hC hP (c4_contains l hv) List.mem_cons_self yv_X4_contains (Nat.le_of_ble_eq_true rfl) rfl hl.1 rfl (Nat.le_of_ble_eq_true rfl) dX2_withLinked_84 ⟨by decide, by decide⟩) hS (fun H locs hP hS => ?_)
      refine lv_if_ne (tgt := 106) hx hb dX2_withLinked_87 (by decide) (fun c15 => ?_) (fun c15 => ?_)
      · rw [if_neg c15] at h
        refine lv_iconst (v := 1) hx hb dX2_withLinked_106 (by decide) ?_
        refine lv_goto (tgt := 111) hx hb dX2_withLinked_107 (by decide) ?_
        exact J111 x5_66 x6_66 1 h _ _ _ hP hS (lv_sub hl [0, 1, 2, 3, 4, 5] rfl)
      · rw [if_pos c15] at h
        refine lv_iload hx hb dX2_withLinked_90 (lv_at hl 3 rfl) ?_
        refine lv_aload_n hx hb dX2_withLinked_92 rfl (lv_at hl 0 rfl) ?_
        refine g_get hC hP 0 dX2_withLinked_93 (by decide) ge_15 rfl inX2 (by decide) rfl u_1_115 ?_
        refine g_get hC hP 6 dX2_withLinked_96 (by decide) ge_1 rfl inX3 (by decide) rfl u_1_59 ?_
        refine lv_iload hx hb dX2_withLinked_99 (lv_at hl 5 rfl) ?_
        obtain ⟨v16, hv, h⟩ := ob h
        refine g_ld hC hP dX2_withLinked_101 (by decide) ge_8 hv ?_
        refine lv_iand hx hb dX2_withLinked_102 ?_
        refine lv_if_eq (tgt := 110) hx hb dX2_withLinked_103 (by decide) (fun c17 => ?_) (fun c17 => ?_)
        · rw [if_pos c17] at h
          refine lv_iconst (v := 0) hx hb dX2_withLinked_110 (by decide) ?_
          exact J111 x5_66 x6_66 0 h _ _ _ hP hS (lv_sub hl [0, 1, 2, 3, 4, 5] rfl)
        · rw [if_neg c17] at h
          refine lv_iconst (v := 1) hx hb dX2_withLinked_106 (by decide) ?_
          refine lv_goto (tgt := 111) hx hb dX2_withLinked_107 (by decide) ?_
          exact J111 x5_66 x6_66 1 h _ _ _ hP hS (lv_sub hl [0, 1, 2, 3, 4, 5] rfl))
  obtain ⟨x5_x66, hv, h⟩ := bd1_e h
  refine L66 _ _ _ _ hv (fun q0 e9 H locs ls hP hS hl => ?_) _ _ _ hP hS (lv_sub hl [2, 4, 5, 6, 1, 0] rfl)
  obtain rfl := e9
  refine lv_iload hx hb dX2_withLinked_148 (lv_at hl 0 rfl) ?_
  cases h
  exact g_iret hC hP hS dX2_withLinked_150 rfl
def r2_chainOf_b22 (T : OS) (v2 : Int32) (x4_22 : Int32) (x5_22 : Int32) : Option ((Int32 × Int32) ⊕ ((Int32) ⊕ (Int32))) :=
  (if 14 ≤ x5_22 then some (.inr (.inl x4_22))
  else bd1 (r2_withLinked T x4_22 v2) (fun v5 =>
  (if v5 = x4_22 then some (.inr (.inr x4_22))
  else some (.inl (v5, (x5_22 + 1))))))
def r2_chainOf (T : OS) (x1 : Int32) (x2 : Int32) : Option Int32 :=
  (rd 14 (T 10) x1).bind fun v1 =>
  (some (v1 ||| (1 <<< (x2 &&& 31)))).bind fun v2 =>
  (some (1 <<< (x1 &&& 31))).bind fun v3 =>
  bs1 (it2 (r2_chainOf_b22 T v2) 200 v3 0) (fun x4_x22 => some x4_x22) (fun t7 => some t7)
theorem yv_X2_chainOf : gYV yX2_chainOf cX2_chainOf 7 (some .int) 2 := ⟨u_5_5, u_5_6, u_1_4, u_5_7, ⟨by decide +kernel, by decide +kernel, by decide +kernel⟩, by decide⟩
set_option maxHeartbeats 4000000 in
set_option maxRecDepth 100000 in
theorem c2_chainOf (l : Launch) {γ : GA} {sz : Nat} {T P X Y B M : OS} {E : Nat → OS} {O : Nat → Int64} {x1 : Int32} {x2 : Int32} {r0 : Int32} (h : r2_chainOf T x1 x2 = some r0) : Met l yX2_chainOf (gU yX2_chainOf cX2_chainOf 7 (some .int)) (gR 2 0 0) (gPc γ [.ref (ad γ 15), .int x1, .int x2] sz (T, P, X, Y, E, B, M, O)) (gQi γ r0 sz (T, P, X, Y, E, B, M, O)) 0 0 (gA γ sz) := by
  refine g_met (fun sz => gQi γ r0 sz (T, P, X, Y, E, B, M, O)) (by decide) (Nat.le_of_ble_eq_true rfl) ?_
  intro p e s m args below meth c ls hC hP hS hl
  have hx := hC.x
  have hb := hC.b
  have hl : lv_has ls 7 [(0, .ref (ad γ 15)), (1, .int x1), (2, .int x2)] := hl
  unfold r2_chainOf at h
  refine lv_aload_n hx hb dX2_chainOf_0 rfl (lv_at hl 0 rfl) ?_
  refine g_get hC hP 0 dX2_chainOf_1 (by decide) ge_15 rfl inX2 (by decide) rfl u_1_115 ?_
  refine g_get hC hP 10 dX2_chainOf_4 (by decide) ge_1 rfl inX3 (by decide) rfl u_1_70 ?_
  refine lv_iload_n hx hb dX2_chainOf_7 rfl (lv_at hl 1 rfl) ?_
  obtain ⟨v1, hv, h⟩ := ob h
  refine g_ld hC hP dX2_chainOf_8 (by decide) ge_12 hv ?_
  refine lv_iconst (v := 1) hx hb dX2_chainOf_9 (by decide) ?_
  refine lv_iload_n hx hb dX2_chainOf_10 rfl (lv_at hl 2 rfl) ?_
  refine lv_ishl hx hb dX2_chainOf_11 ?_
  refine lv_ior hx hb dX2_chainOf_12 ?_
  obtain ⟨v2, hv, h⟩ := ob h
  refine lv_topi (fun y9 ey9 => ?_)
  obtain rfl : v2 = y9 := (Option.some.inj hv).symm.trans ey9.symm
  clear hv ey9
  refine lv_istore_n (lv' := [(3, .int v2), (0, .ref (ad γ 15)), (1, .int x1), (2, .int x2)]) hx hb dX2_chainOf_13 rfl hl (by decide) rfl (fun ls hl => ?_)
  refine lv_iconst (v := 1) hx hb dX2_chainOf_14 (by decide) ?_
  refine lv_iload_n hx hb dX2_chainOf_15 rfl (lv_at hl 2 rfl) ?_
  refine lv_ishl hx hb dX2_chainOf_16 ?_
  obtain ⟨v3, hv, h⟩ := ob h
  refine lv_topi (fun y9 ey9 => ?_)
  obtain rfl : v3 = y9 := (Option.some.inj hv).symm.trans ey9.symm
  clear hv ey9
  refine lv_istore (lv' := [(4, .int v3), (3, .int v2), (0, .ref (ad γ 15)), (1, .int x1), (2, .int x2)]) hx hb dX2_chainOf_17 hl (by decide) rfl (fun ls hl => ?_)
  refine lv_iconst (v := 0) hx hb dX2_chainOf_19 (by decide) ?_
  refine lv_istore (lv' := [(5, .int 0), (4, .int v3), (3, .int v2), (0, .ref (ad γ 15)), (1, .int x1), (2, .int x2)]) hx hb dX2_chainOf_20 hl (by decide) rfl (fun ls hl => ?_)
  have L22 := it2_W (r2_chainOf_b22 T v2) (fun (x4_22 : Int32) (x5_22 : Int32) => ∀ (H : Heap) (locs : List Loc) (ls : Array Slot), va_P γ.1 vwCl (gw γ (T, P, X, Y, E, B, M, O)) H → va_S (gA γ s.heap.size) s.heap H locs → lv_has ls 7 [(0, .ref (ad γ 15)), (3, .int v2), (4, .int x4_22), (5, .int x5_22)] → W p l e (gR 2 0 0) s m args below meth c H locs 0 0 (MQ below (gQi γ r0 s.heap.size (T, P, X, Y, E, B, M, O)) args s 0 0 (gA γ s.heap.size)) (F0 m 22 ls [])) (fun (r_k : (Int32) ⊕ (Int32)) => (∀ (x4_x22 : Int32), r_k = .inl x4_x22 → ∀ (H : Heap) (locs : List Loc) (ls : Array Slot), va_P γ.1 vwCl (gw γ (T, P, X, Y, E, B, M, O)) H → va_S (gA γ s.heap.size) s.heap H locs → lv_has ls 7 [(4, .int x4_x22)] → W p l e (gR 2 0 0) s m args below meth c H locs 0 0 (MQ below (gQi γ r0 s.heap.size (T, P, X, Y, E, B, M, O)) args s 0 0 (gA γ s.heap.size)) (F0 m 58 ls [])) ∧ (∀ t_k, r_k = .inr t_k → t_k = r0)) (by
    intro x4_22 x5_22 o_22 h kS kR H locs ls hP hS hl
    unfold r2_chainOf_b22 at h
    refine lv_iload hx hb dX2_chainOf_22 (lv_at hl 3 rfl) ?_
    refine lv_bipush (v := 14) hx hb dX2_chainOf_24 (by decide) ?_
    refine lv_icmp_ge (tgt := 58) hx hb dX2_chainOf_26 (by decide) (fun c4 => ?_) (fun c4 => ?_)
    · rw [if_pos c4] at h
      cases h
      exact (kR _ rfl).1 _ rfl _ _ _ hP hS (lv_sub hl [2] rfl)
    · rw [if_neg c4] at h
      refine lv_aload_n hx hb dX2_chainOf_29 rfl (lv_at hl 0 rfl) ?_
      refine lv_iload hx hb dX2_chainOf_30 (lv_at hl 2 rfl) ?_
      refine lv_iload_n hx hb dX2_chainOf_32 rfl (lv_at hl 1 rfl) ?_
      obtain ⟨v5, hv, h⟩ := bd1_e h
      refine g_ki (g_runV (As := [.int x4_22, .int v2]) (rest := []) hC hP (c2_withLinked l hv) (by decide) ge_15 rfl u_5_8 yv_X2_withLinked (Nat.le_of_ble_eq_true rfl) rfl hl.1 rfl (Nat.le_of_ble_eq_true rfl) dX2_chainOf_33 ⟨by decide, by decide⟩) hS (fun H locs hP hS => ?_)
      refine lv_istore (lv' := [(6, .int v5), (0, .ref (ad γ 15)), (3, .int v2), (4, .int x4_22), (5, .int x5_22)]) hx hb dX2_chainOf_36 hl (by decide) rfl (fun ls hl => ?_)
      refine lv_iload hx hb dX2_chainOf_38 (lv_at hl 0 rfl) ?_
      refine lv_iload hx hb dX2_chainOf_40 (lv_at hl 3 rfl) ?_
      refine lv_icmp_ne (tgt := 48) hx hb dX2_chainOf_42 (by decide) (fun c6 => ?_) (fun c6 => ?_)
      · rw [if_neg c6] at h
        refine lv_iload hx hb dX2_chainOf_48 (lv_at hl 0 rfl) ?_
        refine lv_istore (lv' := [(4, .int v5), (6, .int v5), (0, .ref (ad γ 15)), (3, .int v2), (5, .int x5_22)]) hx hb dX2_chainOf_50 hl (by decide) rfl (fun ls hl => ?_)
        refine lv_iinc (v := (x5_22 + 1)) (lv' := [(5, .int (x5_22 + 1)), (4, .int v5), (6, .int v5), (0, .ref (ad γ 15)), (3, .int v2)]) hx hb dX2_chainOf_52 hl (k := 4) rfl rfl (by decide) rfl (fun ls hl => ?_)
        refine lv_goto (tgt := 22) hx hb dX2_chainOf_55 (by decide) ?_
        cases h
        exact kS _ _ rfl _ _ _ hP hS (lv_sub hl [3, 4, 1, 0] rfl)
      · rw [if_pos c6] at h
        refine lv_iload hx hb dX2_chainOf_45 (lv_at hl 3 rfl) ?_
        cases h
        cases (kR _ rfl).2 _ rfl
        exact g_iret hC hP hS dX2_chainOf_47 rfl)
  rcases bs1_e h with ⟨x4_x22, hv, h⟩ | ⟨t7, hv, h⟩
  · refine L22 _ _ _ _ hv ⟨fun q0 e9 H locs ls hP hS hl => ?_, fun t9 e9 => nomatch e9⟩ _ _ _ hP hS (lv_sub hl [3, 2, 1, 0] rfl)
    obtain rfl := (Sum.inl.inj e9)
    refine lv_iload hx hb dX2_chainOf_58 (lv_at hl 0 rfl) ?_
    cases h
    exact g_iret hC hP hS dX2_chainOf_60 rfl
  · refine L22 _ _ _ _ hv ⟨fun q0 e9 => (nomatch e9), fun t9 e9 => ?_⟩ _ _ _ hP hS (lv_sub hl [3, 2, 1, 0] rfl)
    cases e9
    exact Option.some.inj h
def r2_canSwap_b12 (T : OS) (x1 : Int32) (v1 : Int32) (x5_12 : Int32) : Option ((Int32) ⊕ ((Unit) ⊕ (Int32))) :=
  (if 14 ≤ x5_12 then some (.inr (.inl ()))
  else bd1 (r4_contains x1 x5_12) (fun v3 =>
  (if v3 = 0 then some (.inl (x5_12 + 1))
  else (rd 14 (T 8) x5_12).bind fun v5 =>
  (if v5 = 1 then (rd 14 (T 12) x5_12).bind fun v7 =>
  (if v7 = 0 then (rd 14 (T 10) x5_12).bind fun v9 =>
  bd1 (r3_isAvailable T x5_12 (v1 &&& (v9 ^^^ (-1)))) (fun v10 =>
  (if v10 = 0 then some (.inr (.inr 0))
  else some (.inl (x5_12 + 1))))
  else some (.inr (.inr 0)))
  else some (.inr (.inr 0))))))
def r2_canSwap (T : OS) (x1 : Int32) (x2 : Int32) (x3 : Int32) : Option Int32 :=
  (some ((1 <<< (x2 &&& 31)) ||| (1 <<< (x3 &&& 31)))).bind fun v1 =>
  bs0 (it1 (r2_canSwap_b12 T x1 v1) 200 0) (fun _ => some 1) (fun t12 => some t12)
theorem yv_X2_canSwap : gYV yX2_canSwap cX2_canSwap 6 (some .boolean) 3 := ⟨u_5_18, u_sp_21, u_1_4, u_5_19, ⟨by decide +kernel, by decide +kernel, by decide +kernel⟩, by decide⟩
set_option maxHeartbeats 4000000 in
set_option maxRecDepth 100000 in
theorem c2_canSwap (l : Launch) {γ : GA} {sz : Nat} {T P X Y B M : OS} {E : Nat → OS} {O : Nat → Int64} {x1 : Int32} {x2 : Int32} {x3 : Int32} {r0 : Int32} (h : r2_canSwap T x1 x2 x3 = some r0) : Met l yX2_canSwap (gU yX2_canSwap cX2_canSwap 6 (some .boolean)) (gR 1 0 0) (gPc γ [.ref (ad γ 15), .int x1, .int x2, .int x3] sz (T, P, X, Y, E, B, M, O)) (gQi γ r0 sz (T, P, X, Y, E, B, M, O)) 0 0 (gA γ sz) := by
  refine g_met (fun sz => gQi γ r0 sz (T, P, X, Y, E, B, M, O)) (by decide) (Nat.le_of_ble_eq_true rfl) ?_
  intro p e s m args below meth c ls hC hP hS hl
  have hx := hC.x
  have hb := hC.b
  have hl : lv_has ls 6 [(0, .ref (ad γ 15)), (1, .int x1), (2, .int x2), (3, .int x3)] := hl
  unfold r2_canSwap at h
  refine lv_iconst (v := 1) hx hb dX2_canSwap_0 (by decide) ?_
  refine lv_iload_n hx hb dX2_canSwap_1 rfl (lv_at hl 2 rfl) ?_
  refine lv_ishl hx hb dX2_canSwap_2 ?_
  refine lv_iconst (v := 1) hx hb dX2_canSwap_3 (by decide) ?_
  refine lv_iload_n hx hb dX2_canSwap_4 rfl (lv_at hl 3 rfl) ?_
  refine lv_ishl hx hb dX2_canSwap_5 ?_
  refine lv_ior hx hb dX2_canSwap_6 ?_
  obtain ⟨v1, hv, h⟩ := ob h
  refine lv_topi (fun y9 ey9 => ?_)
  obtain rfl : v1 = y9 := (Option.some.inj hv).symm.trans ey9.symm
  clear hv ey9
  refine lv_istore (lv' := [(4, .int v1), (0, .ref (ad γ 15)), (1, .int x1), (2, .int x2), (3, .int x3)]) hx hb dX2_canSwap_7 hl (by decide) rfl (fun ls hl => ?_)
  refine lv_iconst (v := 0) hx hb dX2_canSwap_9 (by decide) ?_
  refine lv_istore (lv' := [(5, .int 0), (4, .int v1), (0, .ref (ad γ 15)), (1, .int x1), (2, .int x2), (3, .int x3)]) hx hb dX2_canSwap_10 hl (by decide) rfl (fun ls hl => ?_)
  have L12 := it1_W (r2_canSwap_b12 T x1 v1) (fun (x5_12 : Int32) => ∀ (H : Heap) (locs : List Loc) (ls : Array Slot), va_P γ.1 vwCl (gw γ (T, P, X, Y, E, B, M, O)) H → va_S (gA γ s.heap.size) s.heap H locs → lv_has ls 6 [(0, .ref (ad γ 15)), (1, .int x1), (4, .int v1), (5, .int x5_12)] → W p l e (gR 1 0 0) s m args below meth c H locs 0 0 (MQ below (gQi γ r0 s.heap.size (T, P, X, Y, E, B, M, O)) args s 0 0 (gA γ s.heap.size)) (F0 m 12 ls [])) (fun (r_k : (Unit) ⊕ (Int32)) => (r_k = .inl () → ∀ (H : Heap) (locs : List Loc) (ls : Array Slot), va_P γ.1 vwCl (gw γ (T, P, X, Y, E, B, M, O)) H → va_S (gA γ s.heap.size) s.heap H locs → lv_has ls 6 [] → W p l e (gR 1 0 0) s m args below meth c H locs 0 0 (MQ below (gQi γ r0 s.heap.size (T, P, X, Y, E, B, M, O)) args s 0 0 (gA γ s.heap.size)) (F0 m 90 ls [])) ∧ (∀ t_k, r_k = .inr t_k → t_k = r0)) (by
    intro x5_12 o_12 h kS kR H locs ls hP hS hl
    unfold r2_canSwap_b12 at h
    refine lv_iload hx hb dX2_canSwap_12 (lv_at hl 3 rfl) ?_
    refine lv_bipush (v := 14) hx hb dX2_canSwap_14 (by decide) ?_
    refine lv_icmp_ge (tgt := 90) hx hb dX2_canSwap_16 (by decide) (fun c2 => ?_) (fun c2 => ?_)
    · rw [if_pos c2] at h
      cases h
      exact (kR _ rfl).1  rfl _ _ _ hP hS (lv_sub hl [] rfl)
    · rw [if_neg c2] at h
      refine lv_iload_n hx hb dX2_canSwap_19 rfl (lv_at hl 1 rfl) ?_
      refine lv_iload hx hb dX2_canSwap_20 (lv_at hl 3 rfl) ?_
      obtain ⟨v3, hv, h⟩ := bd1_e h
      refine g_ki (g_runN (As := [.int x1, .int x5_12]) (rest := []) hC hP (c4_contains l hv) List.mem_cons_self yv_X4_contains (Nat.le_of_ble_eq_true rfl) rfl hl.1 rfl (Nat.le_of_ble_eq_true rfl) dX2_canSwap_22 ⟨by decide, by decide⟩) hS (fun H locs hP hS => ?_)
      refine lv_if_eq (tgt := 84) hx hb dX2_canSwap_25 (by decide) (fun c4 => ?_) (fun c4 => ?_)
      · rw [if_pos c4] at h
        refine lv_iinc (v := (x5_12 + 1)) (lv' := [(5, .int (x5_12 + 1)), (0, .ref (ad γ 15)), (1, .int x1), (4, .int v1)]) hx hb dX2_canSwap_84 hl (k := 3) rfl rfl (by decide) rfl (fun ls hl => ?_)
        refine lv_goto (tgt := 12) hx hb dX2_canSwap_87 (by decide) ?_
        cases h
        exact kS _ rfl _ _ _ hP hS (lv_sub hl [1, 2, 3, 0] rfl)
      · rw [if_neg c4] at h
        refine lv_aload_n hx hb dX2_canSwap_28 rfl (lv_at hl 0 rfl) ?_
        refine g_get hC hP 0 dX2_canSwap_29 (by decide) ge_15 rfl inX2 (by decide) rfl u_1_115 ?_
        refine g_get hC hP 8 dX2_canSwap_32 (by decide) ge_1 rfl inX3 (by decide) rfl u_1_65 ?_
        refine lv_iload hx hb dX2_canSwap_35 (lv_at hl 3 rfl) ?_
        obtain ⟨v5, hv, h⟩ := ob h
        refine g_ld hC hP dX2_canSwap_37 (by decide) ge_10 hv ?_
        refine lv_iconst (v := 1) hx hb dX2_canSwap_38 (by decide) ?_
        refine lv_icmp_ne (tgt := 82) hx hb dX2_canSwap_39 (by decide) (fun c6 => ?_) (fun c6 => ?_)
        · rw [if_neg c6] at h
          refine lv_iconst (v := 0) hx hb dX2_canSwap_82 (by decide) ?_
          have hz : zz 0 = some 0 := rfl
          cases h
          cases (kR _ rfl).2 _ rfl
          exact g_zret hC hP hS dX2_canSwap_83 hz rfl
        · rw [if_pos c6] at h
          refine lv_aload_n hx hb dX2_canSwap_42 rfl (lv_at hl 0 rfl) ?_
          refine g_get hC hP 0 dX2_canSwap_43 (by decide) ge_15 rfl inX2 (by decide) rfl u_1_115 ?_
          refine g_get hC hP 12 dX2_canSwap_46 (by decide) ge_1 rfl inX3 (by decide) rfl u_1_74 ?_
          refine lv_iload hx hb dX2_canSwap_49 (lv_at hl 3 rfl) ?_
          obtain ⟨v7, hv, h⟩ := ob h
          refine g_zld hC hP dX2_canSwap_51 (by decide) ge_14 hv ?_
          refine lv_if_ne (tgt := 82) hx hb dX2_canSwap_52 (by decide) (fun c8 => ?_) (fun c8 => ?_)
          · rw [if_neg c8] at h
            refine lv_iconst (v := 0) hx hb dX2_canSwap_82 (by decide) ?_
            have hz : zz 0 = some 0 := rfl
            cases h
            cases (kR _ rfl).2 _ rfl
            exact g_zret hC hP hS dX2_canSwap_83 hz rfl
          · rw [if_pos c8] at h
            refine lv_aload_n hx hb dX2_canSwap_55 rfl (lv_at hl 0 rfl) ?_
            refine g_get hC hP 0 dX2_canSwap_56 (by decide) ge_15 rfl inX2 (by decide) rfl u_1_115 ?_
            refine lv_iload hx hb dX2_canSwap_59 (lv_at hl 3 rfl) ?_
            refine lv_iload hx hb dX2_canSwap_61 (lv_at hl 2 rfl) ?_
            refine lv_aload_n hx hb dX2_canSwap_63 rfl (lv_at hl 0 rfl) ?_
            refine g_get hC hP 0 dX2_canSwap_64 (by decide) ge_15 rfl inX2 (by decide) rfl u_1_115 ?_
            refine g_get hC hP 10 dX2_canSwap_67 (by decide) ge_1 rfl inX3 (by decide) rfl u_1_70 ?_
            refine lv_iload hx hb dX2_canSwap_70 (lv_at hl 3 rfl) ?_
            obtain ⟨v9, hv, h⟩ := ob h
            refine g_ld hC hP dX2_canSwap_72 (by decide) ge_12 hv ?_
            refine lv_iconst (v := -1) hx hb dX2_canSwap_73 (by decide) ?_
            refine lv_ixor hx hb dX2_canSwap_74 ?_
            refine lv_iand hx hb dX2_canSwap_75 ?_
            obtain ⟨v10, hv, h⟩ := bd1_e h
            refine g_ki (g_runV (As := [.int x5_12, .int (v1 &&& (v9 ^^^ (-1)))]) (rest := []) hC hP (c3_isAvailable l hv) (by decide) ge_1 rfl u_5_20 yv_X3_isAvailable (Nat.le_of_ble_eq_true rfl) rfl hl.1 rfl (Nat.le_of_ble_eq_true rfl) dX2_canSwap_76 ⟨by decide, by decide⟩) hS (fun H locs hP hS => ?_)
            refine lv_if_ne (tgt := 84) hx hb dX2_canSwap_79 (by decide) (fun c11 => ?_) (fun c11 => ?_)
            · rw [if_neg c11] at h
              refine lv_iinc (v := (x5_12 + 1)) (lv' := [(5, .int (x5_12 + 1)), (0, .ref (ad γ 15)), (1, .int x1), (4, .int v1)]) hx hb dX2_canSwap_84 hl (k := 3) rfl rfl (by decide) rfl (fun ls hl => ?_)
              refine lv_goto (tgt := 12) hx hb dX2_canSwap_87 (by decide) ?_
              cases h
              exact kS _ rfl _ _ _ hP hS (lv_sub hl [1, 2, 3, 0] rfl)
            · rw [if_pos c11] at h
              refine lv_iconst (v := 0) hx hb dX2_canSwap_82 (by decide) ?_
              have hz : zz 0 = some 0 := rfl
              cases h
              cases (kR _ rfl).2 _ rfl
              exact g_zret hC hP hS dX2_canSwap_83 hz rfl)
  rcases bs0_e h with ⟨hv, h⟩ | ⟨t12, hv, h⟩
  · refine L12 _ _ _ hv ⟨fun e9 H locs ls hP hS hl => ?_, fun t9 e9 => nomatch e9⟩ _ _ _ hP hS (lv_sub hl [2, 3, 1, 0] rfl)
    skip
    refine lv_iconst (v := 1) hx hb dX2_canSwap_90 (by decide) ?_
    have hz : zz 1 = some 1 := rfl
    cases h
    exact g_zret hC hP hS dX2_canSwap_91 hz rfl
  · refine L12 _ _ _ hv ⟨fun e9 => (nomatch e9), fun t9 e9 => ?_⟩ _ _ _ hP hS (lv_sub hl [2, 3, 1, 0] rfl)
    cases e9
    exact Option.some.inj h
def r2_membersIn_b5 (T : OS) (x1 : Int32) (x2 : Int32) (x3_5 : Int32) (x4_5 : Int32) : Option ((Int32 × Int32) ⊕ (Int32)) :=
  (if 14 ≤ x4_5 then some (.inr x3_5)
  else bd1 (r4_contains x1 x4_5) (fun v2 =>
  (if v2 = 0 then some (.inl (x3_5, (x4_5 + 1)))
  else (rd 14 (T 10) x4_5).bind fun v4 =>
  bd1 (r4_contains v4 x2) (fun v5 =>
  (if v5 = 0 then some (.inl (x3_5, (x4_5 + 1)))
  else (some (x3_5 ||| (1 <<< (x4_5 &&& 31)))).bind fun v7 =>
  some (.inl (v7, (x4_5 + 1))))))))
def r2_membersIn (T : OS) (x1 : Int32) (x2 : Int32) : Option Int32 :=
  bd1 (it2 (r2_membersIn_b5 T x1 x2) 200 0 0) (fun x3_x5 => some x3_x5)
theorem yv_X2_membersIn : gYV yX2_membersIn cX2_membersIn 5 (some .int) 2 := ⟨u_5_23, u_sp_22, u_1_4, u_5_24, ⟨by decide +kernel, by decide +kernel, by decide +kernel⟩, by decide⟩
set_option maxHeartbeats 4000000 in
set_option maxRecDepth 100000 in
theorem c2_membersIn (l : Launch) {γ : GA} {sz : Nat} {T P X Y B M : OS} {E : Nat → OS} {O : Nat → Int64} {x1 : Int32} {x2 : Int32} {r0 : Int32} (h : r2_membersIn T x1 x2 = some r0) : Met l yX2_membersIn (gU yX2_membersIn cX2_membersIn 5 (some .int)) (gR 1 0 0) (gPc γ [.ref (ad γ 15), .int x1, .int x2] sz (T, P, X, Y, E, B, M, O)) (gQi γ r0 sz (T, P, X, Y, E, B, M, O)) 0 0 (gA γ sz) := by
  refine g_met (fun sz => gQi γ r0 sz (T, P, X, Y, E, B, M, O)) (by decide) (Nat.le_of_ble_eq_true rfl) ?_
  intro p e s m args below meth c ls hC hP hS hl
  have hx := hC.x
  have hb := hC.b
  have hl : lv_has ls 5 [(0, .ref (ad γ 15)), (1, .int x1), (2, .int x2)] := hl
  unfold r2_membersIn at h
  refine lv_iconst (v := 0) hx hb dX2_membersIn_0 (by decide) ?_
  refine lv_istore_n (lv' := [(3, .int 0), (0, .ref (ad γ 15)), (1, .int x1), (2, .int x2)]) hx hb dX2_membersIn_1 rfl hl (by decide) rfl (fun ls hl => ?_)
  refine lv_iconst (v := 0) hx hb dX2_membersIn_2 (by decide) ?_
  refine lv_istore (lv' := [(4, .int 0), (3, .int 0), (0, .ref (ad γ 15)), (1, .int x1), (2, .int x2)]) hx hb dX2_membersIn_3 hl (by decide) rfl (fun ls hl => ?_)
  have L5 := it2_W (r2_membersIn_b5 T x1 x2) (fun (x3_5 : Int32) (x4_5 : Int32) => ∀ (H : Heap) (locs : List Loc) (ls : Array Slot), va_P γ.1 vwCl (gw γ (T, P, X, Y, E, B, M, O)) H → va_S (gA γ s.heap.size) s.heap H locs → lv_has ls 5 [(0, .ref (ad γ 15)), (1, .int x1), (2, .int x2), (3, .int x3_5), (4, .int x4_5)] → W p l e (gR 1 0 0) s m args below meth c H locs 0 0 (MQ below (gQi γ r0 s.heap.size (T, P, X, Y, E, B, M, O)) args s 0 0 (gA γ s.heap.size)) (F0 m 5 ls [])) (fun (r_k : Int32) => (∀ (x3_x5 : Int32), r_k = x3_x5 → ∀ (H : Heap) (locs : List Loc) (ls : Array Slot), va_P γ.1 vwCl (gw γ (T, P, X, Y, E, B, M, O)) H → va_S (gA γ s.heap.size) s.heap H locs → lv_has ls 5 [(3, .int x3_x5)] → W p l e (gR 1 0 0) s m args below meth c H locs 0 0 (MQ below (gQi γ r0 s.heap.size (T, P, X, Y, E, B, M, O)) args s 0 0 (gA γ s.heap.size)) (F0 m 51 ls []))) (by
    intro x3_5 x4_5 o_5 h kS kR H locs ls hP hS hl
    unfold r2_membersIn_b5 at h
    refine lv_iload hx hb dX2_membersIn_5 (lv_at hl 4 rfl) ?_
    refine lv_bipush (v := 14) hx hb dX2_membersIn_7 (by decide) ?_
    refine lv_icmp_ge (tgt := 51) hx hb dX2_membersIn_9 (by decide) (fun c1 => ?_) (fun c1 => ?_)
    · rw [if_pos c1] at h
      cases h
      exact kR _ rfl _ rfl _ _ _ hP hS (lv_sub hl [3] rfl)
    · rw [if_neg c1] at h
      refine lv_iload_n hx hb dX2_membersIn_12 rfl (lv_at hl 1 rfl) ?_
      refine lv_iload hx hb dX2_membersIn_13 (lv_at hl 4 rfl) ?_
      obtain ⟨v2, hv, h⟩ := bd1_e h
      refine g_ki (g_runN (As := [.int x1, .int x4_5]) (rest := []) hC hP (c4_contains l hv) List.mem_cons_self yv_X4_contains (Nat.le_of_ble_eq_true rfl) rfl hl.1 rfl (Nat.le_of_ble_eq_true rfl) dX2_membersIn_15 ⟨by decide, by decide⟩) hS (fun H locs hP hS => ?_)
      refine lv_if_eq (tgt := 45) hx hb dX2_membersIn_18 (by decide) (fun c3 => ?_) (fun c3 => ?_)
      · rw [if_pos c3] at h
        refine lv_iinc (v := (x4_5 + 1)) (lv' := [(4, .int (x4_5 + 1)), (0, .ref (ad γ 15)), (1, .int x1), (2, .int x2), (3, .int x3_5)]) hx hb dX2_membersIn_45 hl (k := 4) rfl rfl (by decide) rfl (fun ls hl => ?_)
        refine lv_goto (tgt := 5) hx hb dX2_membersIn_48 (by decide) ?_
        cases h
        exact kS _ _ rfl _ _ _ hP hS (lv_sub hl [1, 2, 3, 4, 0] rfl)
      · rw [if_neg c3] at h
        refine lv_aload_n hx hb dX2_membersIn_21 rfl (lv_at hl 0 rfl) ?_
        refine g_get hC hP 0 dX2_membersIn_22 (by decide) ge_15 rfl inX2 (by decide) rfl u_1_115 ?_
        refine g_get hC hP 10 dX2_membersIn_25 (by decide) ge_1 rfl inX3 (by decide) rfl u_1_70 ?_
        refine lv_iload hx hb dX2_membersIn_28 (lv_at hl 4 rfl) ?_
        obtain ⟨v4, hv, h⟩ := ob h
        refine g_ld hC hP dX2_membersIn_30 (by decide) ge_12 hv ?_
        refine lv_iload_n hx hb dX2_membersIn_31 rfl (lv_at hl 2 rfl) ?_
        obtain ⟨v5, hv, h⟩ := bd1_e h
        refine g_ki (g_runN (As := [.int v4, .int x2]) (rest := []) hC hP (c4_contains l hv) List.mem_cons_self yv_X4_contains (Nat.le_of_ble_eq_true rfl) rfl hl.1 rfl (Nat.le_of_ble_eq_true rfl) dX2_membersIn_32 ⟨by decide, by decide⟩) hS (fun H locs hP hS => ?_)
        refine lv_if_eq (tgt := 45) hx hb dX2_membersIn_35 (by decide) (fun c6 => ?_) (fun c6 => ?_)
        · rw [if_pos c6] at h
          refine lv_iinc (v := (x4_5 + 1)) (lv' := [(4, .int (x4_5 + 1)), (0, .ref (ad γ 15)), (1, .int x1), (2, .int x2), (3, .int x3_5)]) hx hb dX2_membersIn_45 hl (k := 4) rfl rfl (by decide) rfl (fun ls hl => ?_)
          refine lv_goto (tgt := 5) hx hb dX2_membersIn_48 (by decide) ?_
          cases h
          exact kS _ _ rfl _ _ _ hP hS (lv_sub hl [1, 2, 3, 4, 0] rfl)
        · rw [if_neg c6] at h
          refine lv_iload_n hx hb dX2_membersIn_38 rfl (lv_at hl 3 rfl) ?_
          refine lv_iconst (v := 1) hx hb dX2_membersIn_39 (by decide) ?_
          refine lv_iload hx hb dX2_membersIn_40 (lv_at hl 4 rfl) ?_
          refine lv_ishl hx hb dX2_membersIn_42 ?_
          refine lv_ior hx hb dX2_membersIn_43 ?_
          obtain ⟨v7, hv, h⟩ := ob h
          refine lv_topi (fun y9 ey9 => ?_)
          obtain rfl : v7 = y9 := (Option.some.inj hv).symm.trans ey9.symm
          clear hv ey9
          refine lv_istore_n (lv' := [(3, .int v7), (0, .ref (ad γ 15)), (1, .int x1), (2, .int x2), (4, .int x4_5)]) hx hb dX2_membersIn_44 rfl hl (by decide) rfl (fun ls hl => ?_)
          refine lv_iinc (v := (x4_5 + 1)) (lv' := [(4, .int (x4_5 + 1)), (3, .int v7), (0, .ref (ad γ 15)), (1, .int x1), (2, .int x2)]) hx hb dX2_membersIn_45 hl (k := 4) rfl rfl (by decide) rfl (fun ls hl => ?_)
          refine lv_goto (tgt := 5) hx hb dX2_membersIn_48 (by decide) ?_
          cases h
          exact kS _ _ rfl _ _ _ hP hS (lv_sub hl [2, 3, 4, 1, 0] rfl))
  obtain ⟨x3_x5, hv, h⟩ := bd1_e h
  refine L5 _ _ _ _ hv (fun q0 e9 H locs ls hP hS hl => ?_) _ _ _ hP hS (lv_sub hl [2, 3, 4, 1, 0] rfl)
  obtain rfl := e9
  refine lv_iload_n hx hb dX2_membersIn_51 rfl (lv_at hl 0 rfl) ?_
  cases h
  exact g_iret hC hP hS dX2_membersIn_52 rfl
def r2_openRooms_b6 (T : OS) (x1 : Int32) (x2 : Int32) (x3_6 : Int32) (x4_6 : Int32) : Option ((Int32 × Int32) ⊕ (Int32)) :=
  (if 14 ≤ x4_6 then some (.inr x3_6)
  else bd1 (r4_contains x1 x4_6) (fun v2 =>
  (if v2 = 0 then (rd 14 (T 10) x4_6).bind fun v4 =>
  bd1 (r4_contains v4 x2) (fun v5 =>
  (if v5 = 0 then some (.inl (x3_6, (x4_6 + 1)))
  else (rd 14 (T 9) x4_6).bind fun v7 =>
  (some (x3_6 &&& ((1 <<< ((im v7 6) &&& 31)) ^^^ (-1)))).bind fun v8 =>
  some (.inl (v8, (x4_6 + 1)))))
  else some (.inl (x3_6, (x4_6 + 1))))))
def r2_openRooms (T : OS) (x1 : Int32) (x2 : Int32) : Option Int32 :=
  bd1 (it2 (r2_openRooms_b6 T x1 x2) 200 63 0) (fun x3_x6 => some x3_x6)
theorem yv_X2_openRooms : gYV yX2_openRooms cX2_openRooms 5 (some .int) 2 := ⟨u_5_27, u_sp_23, u_1_4, u_5_28, ⟨by decide +kernel, by decide +kernel, by decide +kernel⟩, by decide⟩
set_option maxHeartbeats 4000000 in
set_option maxRecDepth 100000 in
theorem c2_openRooms (l : Launch) {γ : GA} {sz : Nat} {T P X Y B M : OS} {E : Nat → OS} {O : Nat → Int64} {x1 : Int32} {x2 : Int32} {r0 : Int32} (h : r2_openRooms T x1 x2 = some r0) : Met l yX2_openRooms (gU yX2_openRooms cX2_openRooms 5 (some .int)) (gR 1 0 0) (gPc γ [.ref (ad γ 15), .int x1, .int x2] sz (T, P, X, Y, E, B, M, O)) (gQi γ r0 sz (T, P, X, Y, E, B, M, O)) 0 0 (gA γ sz) := by
  refine g_met (fun sz => gQi γ r0 sz (T, P, X, Y, E, B, M, O)) (by decide) (Nat.le_of_ble_eq_true rfl) ?_
  intro p e s m args below meth c ls hC hP hS hl
  have hx := hC.x
  have hb := hC.b
  have hl : lv_has ls 5 [(0, .ref (ad γ 15)), (1, .int x1), (2, .int x2)] := hl
  unfold r2_openRooms at h
  refine lv_bipush (v := 63) hx hb dX2_openRooms_0 (by decide) ?_
  refine lv_istore_n (lv' := [(3, .int 63), (0, .ref (ad γ 15)), (1, .int x1), (2, .int x2)]) hx hb dX2_openRooms_2 rfl hl (by decide) rfl (fun ls hl => ?_)
  refine lv_iconst (v := 0) hx hb dX2_openRooms_3 (by decide) ?_
  refine lv_istore (lv' := [(4, .int 0), (3, .int 63), (0, .ref (ad γ 15)), (1, .int x1), (2, .int x2)]) hx hb dX2_openRooms_4 hl (by decide) rfl (fun ls hl => ?_)
  have L6 := it2_W (r2_openRooms_b6 T x1 x2) (fun (x3_6 : Int32) (x4_6 : Int32) => ∀ (H : Heap) (locs : List Loc) (ls : Array Slot), va_P γ.1 vwCl (gw γ (T, P, X, Y, E, B, M, O)) H → va_S (gA γ s.heap.size) s.heap H locs → lv_has ls 5 [(0, .ref (ad γ 15)), (1, .int x1), (2, .int x2), (3, .int x3_6), (4, .int x4_6)] → W p l e (gR 1 0 0) s m args below meth c H locs 0 0 (MQ below (gQi γ r0 s.heap.size (T, P, X, Y, E, B, M, O)) args s 0 0 (gA γ s.heap.size)) (F0 m 6 ls [])) (fun (r_k : Int32) => (∀ (x3_x6 : Int32), r_k = x3_x6 → ∀ (H : Heap) (locs : List Loc) (ls : Array Slot), va_P γ.1 vwCl (gw γ (T, P, X, Y, E, B, M, O)) H → va_S (gA γ s.heap.size) s.heap H locs → lv_has ls 5 [(3, .int x3_x6)] → W p l e (gR 1 0 0) s m args below meth c H locs 0 0 (MQ below (gQi γ r0 s.heap.size (T, P, X, Y, E, B, M, O)) args s 0 0 (gA γ s.heap.size)) (F0 m 65 ls []))) (by
    intro x3_6 x4_6 o_6 h kS kR H locs ls hP hS hl
    unfold r2_openRooms_b6 at h
    refine lv_iload hx hb dX2_openRooms_6 (lv_at hl 4 rfl) ?_
    refine lv_bipush (v := 14) hx hb dX2_openRooms_8 (by decide) ?_
    refine lv_icmp_ge (tgt := 65) hx hb dX2_openRooms_10 (by decide) (fun c1 => ?_) (fun c1 => ?_)
    · rw [if_pos c1] at h
      cases h
      exact kR _ rfl _ rfl _ _ _ hP hS (lv_sub hl [3] rfl)
    · rw [if_neg c1] at h
      refine lv_iload_n hx hb dX2_openRooms_13 rfl (lv_at hl 1 rfl) ?_
      refine lv_iload hx hb dX2_openRooms_14 (lv_at hl 4 rfl) ?_
      obtain ⟨v2, hv, h⟩ := bd1_e h
      refine g_ki (g_runN (As := [.int x1, .int x4_6]) (rest := []) hC hP (c4_contains l hv) List.mem_cons_self yv_X4_contains (Nat.le_of_ble_eq_true rfl) rfl hl.1 rfl (Nat.le_of_ble_eq_true rfl) dX2_openRooms_16 ⟨by decide, by decide⟩) hS (fun H locs hP hS => ?_)
      refine lv_if_ne (tgt := 59) hx hb dX2_openRooms_19 (by decide) (fun c3 => ?_) (fun c3 => ?_)
      · rw [if_neg c3] at h
        refine lv_iinc (v := (x4_6 + 1)) (lv' := [(4, .int (x4_6 + 1)), (0, .ref (ad γ 15)), (1, .int x1), (2, .int x2), (3, .int x3_6)]) hx hb dX2_openRooms_59 hl (k := 4) rfl rfl (by decide) rfl (fun ls hl => ?_)
        refine lv_goto (tgt := 6) hx hb dX2_openRooms_62 (by decide) ?_
        cases h
        exact kS _ _ rfl _ _ _ hP hS (lv_sub hl [1, 2, 3, 4, 0] rfl)
      · rw [if_pos c3] at h
        refine lv_aload_n hx hb dX2_openRooms_22 rfl (lv_at hl 0 rfl) ?_
        refine g_get hC hP 0 dX2_openRooms_23 (by decide) ge_15 rfl inX2 (by decide) rfl u_1_115 ?_
        refine g_get hC hP 10 dX2_openRooms_26 (by decide) ge_1 rfl inX3 (by decide) rfl u_1_70 ?_
        refine lv_iload hx hb dX2_openRooms_29 (lv_at hl 4 rfl) ?_
        obtain ⟨v4, hv, h⟩ := ob h
        refine g_ld hC hP dX2_openRooms_31 (by decide) ge_12 hv ?_
        refine lv_iload_n hx hb dX2_openRooms_32 rfl (lv_at hl 2 rfl) ?_
        obtain ⟨v5, hv, h⟩ := bd1_e h
        refine g_ki (g_runN (As := [.int v4, .int x2]) (rest := []) hC hP (c4_contains l hv) List.mem_cons_self yv_X4_contains (Nat.le_of_ble_eq_true rfl) rfl hl.1 rfl (Nat.le_of_ble_eq_true rfl) dX2_openRooms_33 ⟨by decide, by decide⟩) hS (fun H locs hP hS => ?_)
        refine lv_if_eq (tgt := 59) hx hb dX2_openRooms_36 (by decide) (fun c6 => ?_) (fun c6 => ?_)
        · rw [if_pos c6] at h
          refine lv_iinc (v := (x4_6 + 1)) (lv' := [(4, .int (x4_6 + 1)), (0, .ref (ad γ 15)), (1, .int x1), (2, .int x2), (3, .int x3_6)]) hx hb dX2_openRooms_59 hl (k := 4) rfl rfl (by decide) rfl (fun ls hl => ?_)
          refine lv_goto (tgt := 6) hx hb dX2_openRooms_62 (by decide) ?_
          cases h
          exact kS _ _ rfl _ _ _ hP hS (lv_sub hl [1, 2, 3, 4, 0] rfl)
        · rw [if_neg c6] at h
          refine lv_iload_n hx hb dX2_openRooms_39 rfl (lv_at hl 3 rfl) ?_
          refine lv_iconst (v := 1) hx hb dX2_openRooms_40 (by decide) ?_
          refine lv_aload_n hx hb dX2_openRooms_41 rfl (lv_at hl 0 rfl) ?_
          refine g_get hC hP 0 dX2_openRooms_42 (by decide) ge_15 rfl inX2 (by decide) rfl u_1_115 ?_
          refine g_get hC hP 9 dX2_openRooms_45 (by decide) ge_1 rfl inX3 (by decide) rfl u_1_67 ?_
          refine lv_iload hx hb dX2_openRooms_48 (lv_at hl 4 rfl) ?_
          obtain ⟨v7, hv, h⟩ := ob h
          refine g_ld hC hP dX2_openRooms_50 (by decide) ge_11 hv ?_
          refine lv_bipush (v := 6) hx hb dX2_openRooms_51 (by decide) ?_
          refine lv_irem hx hb dX2_openRooms_53 (by decide) ?_
          refine lv_ishl hx hb dX2_openRooms_54 ?_
          refine lv_iconst (v := -1) hx hb dX2_openRooms_55 (by decide) ?_
          refine lv_ixor hx hb dX2_openRooms_56 ?_
          refine lv_iand hx hb dX2_openRooms_57 ?_
          obtain ⟨v8, hv, h⟩ := ob h
          refine lv_topi (fun y9 ey9 => ?_)
          obtain rfl : v8 = y9 := (Option.some.inj hv).symm.trans ey9.symm
          clear hv ey9
          refine lv_istore_n (lv' := [(3, .int v8), (0, .ref (ad γ 15)), (1, .int x1), (2, .int x2), (4, .int x4_6)]) hx hb dX2_openRooms_58 rfl hl (by decide) rfl (fun ls hl => ?_)
          refine lv_iinc (v := (x4_6 + 1)) (lv' := [(4, .int (x4_6 + 1)), (3, .int v8), (0, .ref (ad γ 15)), (1, .int x1), (2, .int x2)]) hx hb dX2_openRooms_59 hl (k := 4) rfl rfl (by decide) rfl (fun ls hl => ?_)
          refine lv_goto (tgt := 6) hx hb dX2_openRooms_62 (by decide) ?_
          cases h
          exact kS _ _ rfl _ _ _ hP hS (lv_sub hl [2, 3, 4, 1, 0] rfl))
  obtain ⟨x3_x6, hv, h⟩ := bd1_e h
  refine L6 _ _ _ _ hv (fun q0 e9 H locs ls hP hS hl => ?_) _ _ _ hP hS (lv_sub hl [2, 3, 4, 1, 0] rfl)
  obtain rfl := e9
  refine lv_iload_n hx hb dX2_openRooms_65 rfl (lv_at hl 0 rfl) ?_
  cases h
  exact g_iret hC hP hS dX2_openRooms_66 rfl
def r2_giveRooms_b46 (rec : OS → OS → Int32 → Int32 → Int32 → Option (Int32 × OS)) (T : OS) (x2 : Int32) (x3 : Int32) (x4 : Int32) (v5 : Int32) (P_46 : OS) (x6_46 : Int32) : Option ((OS × Int32) ⊕ ((OS) ⊕ (Int32 × OS))) :=
  (if 6 ≤ x6_46 then some (.inr (.inl P_46))
  else bd1 (r4_contains x3 x6_46) (fun v7 =>
  (if v7 = 0 then some (.inl (P_46, (x6_46 + 1)))
  else (rd 6 (T 0) x6_46).bind fun v9 =>
  (if v9 < v5 then some (.inl (P_46, (x6_46 + 1)))
  else bd1 (r3_hasNeeds T x4 x6_46) (fun v11 =>
  (if v11 = 0 then some (.inl (P_46, (x6_46 + 1)))
  else (wr 14 P_46 2 x4 x6_46).bind fun P13 =>
  bd2 (rec T P13 x2 (x3 &&& ((1 <<< (x6_46 &&& 31)) ^^^ (-1))) (x4 + 1)) (fun v14 P15 =>
  (if v14 = 0 then some (.inl (P15, (x6_46 + 1)))
  else some (.inr (.inr (1, P15)))))))))))
def r2_giveRooms_F (rec : OS → OS → Int32 → Int32 → Int32 → Option (Int32 × OS)) (T : OS) (P : OS) (x2 : Int32) (x3 : Int32) (x4 : Int32) : Option (Int32 × OS) :=
  (if x4 < 0 then some (1, P)
  else (if x4 < 14 then bd1 (r4_contains x2 x4) (fun v3 =>
  (if v3 = 0 then bd2 (rec T P x2 x3 (x4 + 1)) (fun v18 P19 =>
  (zz v18).bind fun v20 =>
  some (v20, P19))
  else bd1 (r3_sizeOf T x4) (fun v5 =>
  bs1 (it2 (r2_giveRooms_b46 rec T x2 x3 x4 v5) 200 P 0) (fun P_x46 => some (0, P_x46)) (fun t17 => some t17))))
  else some (1, P)))
def r2_giveRooms : Nat → OS → OS → Int32 → Int32 → Int32 → Option (Int32 × OS)
  | 0 => fun _ _ _ _ _ => none
  | d + 1 => fun T P x2 x3 x4 => r2_giveRooms_F (r2_giveRooms d) T P x2 x3 x4
theorem yv_X2_giveRooms : gYS yX2_giveRooms cX2_giveRooms 7 (some .boolean) 5 := ⟨u_5_30, u_1_4, u_5_31, ⟨by decide +kernel, by decide +kernel, by decide +kernel⟩, by decide⟩
set_option maxHeartbeats 4000000 in
set_option maxRecDepth 100000 in
theorem c2_giveRooms (l : Launch) : ∀ (d : Nat) {γ : GA} {sz : Nat} {T P X Y B M : OS} {E : Nat → OS} {O : Nat → Int64} {x2 : Int32} {x3 : Int32} {x4 : Int32} {r0 : Int32} {Pz : OS} (h : r2_giveRooms d T P x2 x3 x4 = some (r0, Pz)), Met l yX2_giveRooms (gU yX2_giveRooms cX2_giveRooms 7 (some .boolean)) (gR (1 + d) 0 0) (gPc γ [.ref (ad γ 1), .ref (ad γ 17), .int x2, .int x3, .int x4] sz (T, P, X, Y, E, B, M, O)) (gQi γ r0 sz (T, Pz, X, Y, E, B, M, O)) 0 0 (gA γ sz) := by
  intro d
  induction d with
  | zero => intros; rename_i h; cases h
  | succ d ih =>
    intro  γ   sz   T P X Y B M   E   O   x2   x3   x4   r0   Pz  h
    refine g_met (fun sz => gQi γ r0 sz (T, Pz, X, Y, E, B, M, O)) (by decide) (Nat.le_of_ble_eq_true rfl) ?_
    intro p e s m args below meth c ls hC hP hS hl
    have hx := hC.x
    have hb := hC.b
    have hl : lv_has ls 7 [(0, .ref (ad γ 1)), (1, .ref (ad γ 17)), (2, .int x2), (3, .int x3), (4, .int x4)] := hl
    have h : r2_giveRooms_F (r2_giveRooms d) T P x2 x3 x4 = some (r0, Pz) := h
    unfold r2_giveRooms_F at h
    generalize er9 : r2_giveRooms d = rec at h ih
    refine lv_iload hx hb dX2_giveRooms_0 (lv_at hl 4 rfl) ?_
    refine lv_if_lt (tgt := 12) hx hb dX2_giveRooms_2 (by decide) (fun c1 => ?_) (fun c1 => ?_)
    · rw [if_pos c1] at h
      refine lv_iconst (v := 1) hx hb dX2_giveRooms_12 (by decide) ?_
      have hz : zz 1 = some 1 := rfl
      cases h
      exact g_zret hC hP hS dX2_giveRooms_13 hz rfl
    · rw [if_neg c1] at h
      refine lv_iload hx hb dX2_giveRooms_5 (lv_at hl 4 rfl) ?_
      refine lv_bipush (v := 14) hx hb dX2_giveRooms_7 (by decide) ?_
      refine lv_icmp_lt (tgt := 14) hx hb dX2_giveRooms_9 (by decide) (fun c2 => ?_) (fun c2 => ?_)
      · rw [if_pos c2] at h
        refine lv_iload_n hx hb dX2_giveRooms_14 rfl (lv_at hl 2 rfl) ?_
        refine lv_iload hx hb dX2_giveRooms_15 (lv_at hl 4 rfl) ?_
        obtain ⟨v3, hv, h⟩ := bd1_e h
        refine g_ki (g_runN (As := [.int x2, .int x4]) (rest := []) hC hP (c4_contains l hv) List.mem_cons_self yv_X4_contains (by omega) rfl hl.1 rfl (Nat.le_of_ble_eq_true rfl) dX2_giveRooms_17 ⟨by decide, by decide⟩) hS (fun H locs hP hS => ?_)
        refine lv_if_ne (tgt := 35) hx hb dX2_giveRooms_20 (by decide) (fun c4 => ?_) (fun c4 => ?_)
        · rw [if_neg c4] at h
          refine lv_aload_n hx hb dX2_giveRooms_35 rfl (lv_at hl 0 rfl) ?_
          refine lv_iload hx hb dX2_giveRooms_36 (lv_at hl 4 rfl) ?_
          obtain ⟨v5, hv, h⟩ := bd1_e h
          refine g_ki (g_runV (As := [.int x4]) (rest := []) hC hP (c3_sizeOf l hv) (by decide) ge_1 rfl u_5_32 yv_X3_sizeOf (by omega) rfl hl.1 rfl (Nat.le_of_ble_eq_true rfl) dX2_giveRooms_38 ⟨by decide, by decide⟩) hS (fun H locs hP hS => ?_)
          refine lv_istore (lv' := [(5, .int v5), (0, .ref (ad γ 1)), (1, .ref (ad γ 17)), (2, .int x2), (3, .int x3), (4, .int x4)]) hx hb dX2_giveRooms_41 hl (by decide) rfl (fun ls hl => ?_)
          refine lv_iconst (v := 0) hx hb dX2_giveRooms_43 (by decide) ?_
          refine lv_istore (lv' := [(6, .int 0), (5, .int v5), (0, .ref (ad γ 1)), (1, .ref (ad γ 17)), (2, .int x2), (3, .int x3), (4, .int x4)]) hx hb dX2_giveRooms_44 hl (by decide) rfl (fun ls hl => ?_)
          have L46 := it2_W (r2_giveRooms_b46 rec T x2 x3 x4 v5) (fun (P_46 : OS) (x6_46 : Int32) => ∀ (H : Heap) (locs : List Loc) (ls : Array Slot), va_P γ.1 vwCl (gw γ (T, P_46, X, Y, E, B, M, O)) H → va_S (gA γ s.heap.size) s.heap H locs → lv_has ls 7 [(0, .ref (ad γ 1)), (1, .ref (ad γ 17)), (2, .int x2), (3, .int x3), (4, .int x4), (5, .int v5), (6, .int x6_46)] → W p l e (gR (1 + (d + 1)) 0 0) s m args below meth c H locs 0 0 (MQ below (gQi γ r0 s.heap.size (T, Pz, X, Y, E, B, M, O)) args s 0 0 (gA γ s.heap.size)) (F0 m 46 ls [])) (fun (r_k : (OS) ⊕ (Int32 × OS)) => (∀ (P_x46 : OS), r_k = .inl P_x46 → ∀ (H : Heap) (locs : List Loc) (ls : Array Slot), va_P γ.1 vwCl (gw γ (T, P_x46, X, Y, E, B, M, O)) H → va_S (gA γ s.heap.size) s.heap H locs → lv_has ls 7 [] → W p l e (gR (1 + (d + 1)) 0 0) s m args below meth c H locs 0 0 (MQ below (gQi γ r0 s.heap.size (T, Pz, X, Y, E, B, M, O)) args s 0 0 (gA γ s.heap.size)) (F0 m 120 ls [])) ∧ (∀ t_k, r_k = .inr t_k → t_k = (r0, Pz))) (by
            intro P_46 x6_46 o_46 h kS kR H locs ls hP hS hl
            unfold r2_giveRooms_b46 at h
            refine lv_iload hx hb dX2_giveRooms_46 (lv_at hl 6 rfl) ?_
            refine lv_bipush (v := 6) hx hb dX2_giveRooms_48 (by decide) ?_
            refine lv_icmp_ge (tgt := 120) hx hb dX2_giveRooms_50 (by decide) (fun c6 => ?_) (fun c6 => ?_)
            · rw [if_pos c6] at h
              cases h
              exact (kR _ rfl).1 _ rfl _ _ _ hP hS (lv_sub hl [] rfl)
            · rw [if_neg c6] at h
              refine lv_iload_n hx hb dX2_giveRooms_53 rfl (lv_at hl 3 rfl) ?_
              refine lv_iload hx hb dX2_giveRooms_54 (lv_at hl 6 rfl) ?_
              obtain ⟨v7, hv, h⟩ := bd1_e h
              refine g_ki (g_runN (As := [.int x3, .int x6_46]) (rest := []) hC hP (c4_contains l hv) List.mem_cons_self yv_X4_contains (by omega) rfl hl.1 rfl (Nat.le_of_ble_eq_true rfl) dX2_giveRooms_56 ⟨by decide, by decide⟩) hS (fun H locs hP hS => ?_)
              refine lv_if_eq (tgt := 114) hx hb dX2_giveRooms_59 (by decide) (fun c8 => ?_) (fun c8 => ?_)
              · rw [if_pos c8] at h
                refine lv_iinc (v := (x6_46 + 1)) (lv' := [(6, .int (x6_46 + 1)), (0, .ref (ad γ 1)), (1, .ref (ad γ 17)), (2, .int x2), (3, .int x3), (4, .int x4), (5, .int v5)]) hx hb dX2_giveRooms_114 hl (k := 6) rfl rfl (by decide) rfl (fun ls hl => ?_)
                refine lv_goto (tgt := 46) hx hb dX2_giveRooms_117 (by decide) ?_
                cases h
                exact kS _ _ rfl _ _ _ hP hS (lv_sub hl [1, 2, 3, 4, 5, 6, 0] rfl)
              · rw [if_neg c8] at h
                refine lv_aload_n hx hb dX2_giveRooms_62 rfl (lv_at hl 0 rfl) ?_
                refine g_get hC hP 0 dX2_giveRooms_63 (by decide) ge_1 rfl inX3 (by decide) rfl u_1_46 ?_
                refine lv_iload hx hb dX2_giveRooms_66 (lv_at hl 6 rfl) ?_
                obtain ⟨v9, hv, h⟩ := ob h
                refine g_ld hC hP dX2_giveRooms_68 (by decide) ge_2 hv ?_
                refine lv_iload hx hb dX2_giveRooms_69 (lv_at hl 5 rfl) ?_
                refine lv_icmp_lt (tgt := 114) hx hb dX2_giveRooms_71 (by decide) (fun c10 => ?_) (fun c10 => ?_)
                · rw [if_pos c10] at h
                  refine lv_iinc (v := (x6_46 + 1)) (lv' := [(6, .int (x6_46 + 1)), (0, .ref (ad γ 1)), (1, .ref (ad γ 17)), (2, .int x2), (3, .int x3), (4, .int x4), (5, .int v5)]) hx hb dX2_giveRooms_114 hl (k := 6) rfl rfl (by decide) rfl (fun ls hl => ?_)
                  refine lv_goto (tgt := 46) hx hb dX2_giveRooms_117 (by decide) ?_
                  cases h
                  exact kS _ _ rfl _ _ _ hP hS (lv_sub hl [1, 2, 3, 4, 5, 6, 0] rfl)
                · rw [if_neg c10] at h
                  refine lv_aload_n hx hb dX2_giveRooms_74 rfl (lv_at hl 0 rfl) ?_
                  refine lv_iload hx hb dX2_giveRooms_75 (lv_at hl 4 rfl) ?_
                  refine lv_iload hx hb dX2_giveRooms_77 (lv_at hl 6 rfl) ?_
                  obtain ⟨v11, hv, h⟩ := bd1_e h
                  refine g_ki (g_runV (As := [.int x4, .int x6_46]) (rest := []) hC hP (c3_hasNeeds l hv) (by decide) ge_1 rfl u_5_33 yv_X3_hasNeeds (by omega) rfl hl.1 rfl (Nat.le_of_ble_eq_true rfl) dX2_giveRooms_79 ⟨by decide, by decide⟩) hS (fun H locs hP hS => ?_)
                  refine lv_if_eq (tgt := 114) hx hb dX2_giveRooms_82 (by decide) (fun c12 => ?_) (fun c12 => ?_)
                  · rw [if_pos c12] at h
                    refine lv_iinc (v := (x6_46 + 1)) (lv' := [(6, .int (x6_46 + 1)), (0, .ref (ad γ 1)), (1, .ref (ad γ 17)), (2, .int x2), (3, .int x3), (4, .int x4), (5, .int v5)]) hx hb dX2_giveRooms_114 hl (k := 6) rfl rfl (by decide) rfl (fun ls hl => ?_)
                    refine lv_goto (tgt := 46) hx hb dX2_giveRooms_117 (by decide) ?_
                    cases h
                    exact kS _ _ rfl _ _ _ hP hS (lv_sub hl [1, 2, 3, 4, 5, 6, 0] rfl)
                  · rw [if_neg c12] at h
                    refine lv_aload_n hx hb dX2_giveRooms_85 rfl (lv_at hl 1 rfl) ?_
                    refine lv_iload hx hb dX2_giveRooms_86 (lv_at hl 4 rfl) ?_
                    refine lv_iload hx hb dX2_giveRooms_88 (lv_at hl 6 rfl) ?_
                    obtain ⟨P13, hv, h⟩ := ob h
                    refine g_st hC hP hS (fun Z => (T, Z, X, Y, E, B, M, O)) dX2_giveRooms_90 (by decide) ge_17 gs_17 hv (fun H locs hP hS => ?_)
                    refine lv_aload_n hx hb dX2_giveRooms_91 rfl (lv_at hl 0 rfl) ?_
                    refine lv_aload_n hx hb dX2_giveRooms_92 rfl (lv_at hl 1 rfl) ?_
                    refine lv_iload_n hx hb dX2_giveRooms_93 rfl (lv_at hl 2 rfl) ?_
                    refine lv_iload_n hx hb dX2_giveRooms_94 rfl (lv_at hl 3 rfl) ?_
                    refine lv_iconst (v := 1) hx hb dX2_giveRooms_95 (by decide) ?_
                    refine lv_iload hx hb dX2_giveRooms_96 (lv_at hl 6 rfl) ?_
                    refine lv_ishl hx hb dX2_giveRooms_98 ?_
                    refine lv_iconst (v := -1) hx hb dX2_giveRooms_99 (by decide) ?_
                    refine lv_ixor hx hb dX2_giveRooms_100 ?_
                    refine lv_iand hx hb dX2_giveRooms_101 ?_
                    refine lv_iload hx hb dX2_giveRooms_102 (lv_at hl 4 rfl) ?_
                    refine lv_iconst (v := 1) hx hb dX2_giveRooms_104 (by decide) ?_
                    refine lv_iadd hx hb dX2_giveRooms_105 ?_
                    obtain ⟨v14, P15, hv, h⟩ := bd2_e h
                    refine g_ki (g_runS (As := [.ref (ad γ 1), .ref (ad γ 17), .int x2, .int (x3 &&& ((1 <<< (x6_46 &&& 31)) ^^^ (-1))), .int (x4 + 1)]) (rest := []) hC hP (ih hv) u_5_29 yv_X2_giveRooms (Nat.le_refl _) rfl hl.1 rfl (Nat.le_of_ble_eq_true rfl) dX2_giveRooms_106 ⟨by decide, by decide⟩) hS (fun H locs hP hS => ?_)
                    refine lv_if_eq (tgt := 114) hx hb dX2_giveRooms_109 (by decide) (fun c16 => ?_) (fun c16 => ?_)
                    · rw [if_pos c16] at h
                      refine lv_iinc (v := (x6_46 + 1)) (lv' := [(6, .int (x6_46 + 1)), (0, .ref (ad γ 1)), (1, .ref (ad γ 17)), (2, .int x2), (3, .int x3), (4, .int x4), (5, .int v5)]) hx hb dX2_giveRooms_114 hl (k := 6) rfl rfl (by decide) rfl (fun ls hl => ?_)
                      refine lv_goto (tgt := 46) hx hb dX2_giveRooms_117 (by decide) ?_
                      cases h
                      exact kS _ _ rfl _ _ _ hP hS (lv_sub hl [1, 2, 3, 4, 5, 6, 0] rfl)
                    · rw [if_neg c16] at h
                      refine lv_iconst (v := 1) hx hb dX2_giveRooms_112 (by decide) ?_
                      have hz : zz 1 = some 1 := rfl
                      cases h
                      cases (kR _ rfl).2 _ rfl
                      exact g_zret hC hP hS dX2_giveRooms_113 hz rfl)
          rcases bs1_e h with ⟨P_x46, hv, h⟩ | ⟨t17, hv, h⟩
          · refine L46 _ _ _ _ hv ⟨fun q0 e9 H locs ls hP hS hl => ?_, fun t9 e9 => nomatch e9⟩ _ _ _ hP hS (lv_sub hl [2, 3, 4, 5, 6, 1, 0] rfl)
            obtain rfl := (Sum.inl.inj e9)
            refine lv_iconst (v := 0) hx hb dX2_giveRooms_120 (by decide) ?_
            have hz : zz 0 = some 0 := rfl
            cases h
            exact g_zret hC hP hS dX2_giveRooms_121 hz rfl
          · refine L46 _ _ _ _ hv ⟨fun q0 e9 => (nomatch e9), fun t9 e9 => ?_⟩ _ _ _ hP hS (lv_sub hl [2, 3, 4, 5, 6, 1, 0] rfl)
            cases e9
            exact Option.some.inj h
        · rw [if_pos c4] at h
          refine lv_aload_n hx hb dX2_giveRooms_23 rfl (lv_at hl 0 rfl) ?_
          refine lv_aload_n hx hb dX2_giveRooms_24 rfl (lv_at hl 1 rfl) ?_
          refine lv_iload_n hx hb dX2_giveRooms_25 rfl (lv_at hl 2 rfl) ?_
          refine lv_iload_n hx hb dX2_giveRooms_26 rfl (lv_at hl 3 rfl) ?_
          refine lv_iload hx hb dX2_giveRooms_27 (lv_at hl 4 rfl) ?_
          refine lv_iconst (v := 1) hx hb dX2_giveRooms_29 (by decide) ?_
          refine lv_iadd hx hb dX2_giveRooms_30 ?_
          obtain ⟨v18, P19, hv, h⟩ := bd2_e h
          refine g_ki (g_runS (As := [.ref (ad γ 1), .ref (ad γ 17), .int x2, .int x3, .int (x4 + 1)]) (rest := []) hC hP (ih hv) u_5_29 yv_X2_giveRooms (Nat.le_refl _) rfl hl.1 rfl (Nat.le_of_ble_eq_true rfl) dX2_giveRooms_31 ⟨by decide, by decide⟩) hS (fun H locs hP hS => ?_)
          obtain ⟨v20, hz, h⟩ := ob h
          cases h
          exact g_zret hC hP hS dX2_giveRooms_34 hz rfl
      · rw [if_neg c2] at h
        refine lv_iconst (v := 1) hx hb dX2_giveRooms_12 (by decide) ?_
        have hz : zz 1 = some 1 := rfl
        cases h
        exact g_zret hC hP hS dX2_giveRooms_13 hz rfl
theorem c2_giveRooms_20 (l : Launch) {γ : GA} {sz : Nat} {T P X Y B M : OS} {E : Nat → OS} {O : Nat → Int64} {x2 : Int32} {x3 : Int32} {x4 : Int32} {r0 : Int32} {Pz : OS} (h : r2_giveRooms 20 T P x2 x3 x4 = some (r0, Pz)) : Met l yX2_giveRooms (gU yX2_giveRooms cX2_giveRooms 7 (some .boolean)) (gR 21 0 0) (gPc γ [.ref (ad γ 1), .ref (ad γ 17), .int x2, .int x3, .int x4] sz (T, P, X, Y, E, B, M, O)) (gQi γ r0 sz (T, Pz, X, Y, E, B, M, O)) 0 0 (gA γ sz) := c2_giveRooms l 20 h
def r2_findRooms (T : OS) (P : OS) (x1 : Int32) (x2 : Int32) (x3 : Int32) : Option (Int32 × OS) :=
  bd1 (r2_canSwap T x1 x2 x3) (fun v1 =>
  (if v1 = 0 then some (0, P)
  else bd1 (r2_membersIn T x1 x3) (fun v3 =>
  bd1 (r2_openRooms T x1 x2) (fun v4 =>
  bd2 (r2_giveRooms 20 T P v3 v4 0) (fun v5 P6 =>
  (if v5 = 0 then some (0, P6)
  else bd1 (r2_membersIn T x1 x2) (fun v8 =>
  bd1 (r2_openRooms T x1 x3) (fun v9 =>
  bd2 (r2_giveRooms 20 T P6 v8 v9 0) (fun v10 P11 =>
  (if v10 = 0 then some (0, P11)
  else some (1, P11)))))))))))
theorem yv_X2_findRooms : gYV yX2_findRooms cX2_findRooms 4 (some .boolean) 3 := ⟨u_5_13, u_5_14, u_1_4, u_5_15, ⟨by decide +kernel, by decide +kernel, by decide +kernel⟩, by decide⟩
set_option maxHeartbeats 4000000 in
set_option maxRecDepth 100000 in
theorem c2_findRooms (l : Launch) {γ : GA} {sz : Nat} {T P X Y B M : OS} {E : Nat → OS} {O : Nat → Int64} {x1 : Int32} {x2 : Int32} {x3 : Int32} {r0 : Int32} {Pz : OS} (h : r2_findRooms T P x1 x2 x3 = some (r0, Pz)) : Met l yX2_findRooms (gU yX2_findRooms cX2_findRooms 4 (some .boolean)) (gR 22 0 0) (gPc γ [.ref (ad γ 15), .int x1, .int x2, .int x3] sz (T, P, X, Y, E, B, M, O)) (gQi γ r0 sz (T, Pz, X, Y, E, B, M, O)) 0 0 (gA γ sz) := by
  refine g_met (fun sz => gQi γ r0 sz (T, Pz, X, Y, E, B, M, O)) (by decide) (Nat.le_of_ble_eq_true rfl) ?_
  intro p e s m args below meth c ls hC hP hS hl
  have hx := hC.x
  have hb := hC.b
  have hl : lv_has ls 4 [(0, .ref (ad γ 15)), (1, .int x1), (2, .int x2), (3, .int x3)] := hl
  unfold r2_findRooms at h
  refine lv_aload_n hx hb dX2_findRooms_0 rfl (lv_at hl 0 rfl) ?_
  refine lv_iload_n hx hb dX2_findRooms_1 rfl (lv_at hl 1 rfl) ?_
  refine lv_iload_n hx hb dX2_findRooms_2 rfl (lv_at hl 2 rfl) ?_
  refine lv_iload_n hx hb dX2_findRooms_3 rfl (lv_at hl 3 rfl) ?_
  obtain ⟨v1, hv, h⟩ := bd1_e h
  refine g_ki (g_runV (As := [.int x1, .int x2, .int x3]) (rest := []) hC hP (c2_canSwap l hv) (by decide) ge_15 rfl u_5_16 yv_X2_canSwap (Nat.le_of_ble_eq_true rfl) rfl hl.1 rfl (Nat.le_of_ble_eq_true rfl) dX2_findRooms_4 ⟨by decide, by decide⟩) hS (fun H locs hP hS => ?_)
  refine lv_if_eq (tgt := 68) hx hb dX2_findRooms_7 (by decide) (fun c2 => ?_) (fun c2 => ?_)
  · rw [if_pos c2] at h
    refine lv_iconst (v := 0) hx hb dX2_findRooms_68 (by decide) ?_
    have hz : zz 0 = some 0 := rfl
    cases h
    exact g_zret hC hP hS dX2_findRooms_69 hz rfl
  · rw [if_neg c2] at h
    refine lv_aload_n hx hb dX2_findRooms_10 rfl (lv_at hl 0 rfl) ?_
    refine g_get hC hP 0 dX2_findRooms_11 (by decide) ge_15 rfl inX2 (by decide) rfl u_1_115 ?_
    refine lv_aload_n hx hb dX2_findRooms_14 rfl (lv_at hl 0 rfl) ?_
    refine g_get hC hP 2 dX2_findRooms_15 (by decide) ge_15 rfl inX2 (by decide) rfl u_1_117 ?_
    refine lv_aload_n hx hb dX2_findRooms_18 rfl (lv_at hl 0 rfl) ?_
    refine lv_iload_n hx hb dX2_findRooms_19 rfl (lv_at hl 1 rfl) ?_
    refine lv_iload_n hx hb dX2_findRooms_20 rfl (lv_at hl 3 rfl) ?_
    obtain ⟨v3, hv, h⟩ := bd1_e h
    refine g_ki (g_runV (As := [.int x1, .int x3]) (rest := [.ref (ad γ 17), .ref (ad γ 1)]) hC hP (c2_membersIn l hv) (by decide) ge_15 rfl u_5_21 yv_X2_membersIn (Nat.le_of_ble_eq_true rfl) rfl hl.1 rfl (Nat.le_of_ble_eq_true rfl) dX2_findRooms_21 ⟨by decide, by decide⟩) hS (fun H locs hP hS => ?_)
    refine lv_aload_n hx hb dX2_findRooms_24 rfl (lv_at hl 0 rfl) ?_
    refine lv_iload_n hx hb dX2_findRooms_25 rfl (lv_at hl 1 rfl) ?_
    refine lv_iload_n hx hb dX2_findRooms_26 rfl (lv_at hl 2 rfl) ?_
    obtain ⟨v4, hv, h⟩ := bd1_e h
    refine g_ki (g_runV (As := [.int x1, .int x2]) (rest := [.int v3, .ref (ad γ 17), .ref (ad γ 1)]) hC hP (c2_openRooms l hv) (by decide) ge_15 rfl u_5_25 yv_X2_openRooms (Nat.le_of_ble_eq_true rfl) rfl hl.1 rfl (Nat.le_of_ble_eq_true rfl) dX2_findRooms_27 ⟨by decide, by decide⟩) hS (fun H locs hP hS => ?_)
    refine lv_iconst (v := 0) hx hb dX2_findRooms_30 (by decide) ?_
    obtain ⟨v5, P6, hv, h⟩ := bd2_e h
    refine g_ki (g_runS (As := [.ref (ad γ 1), .ref (ad γ 17), .int v3, .int v4, .int 0]) (rest := []) hC hP (c2_giveRooms_20 l hv) u_5_29 yv_X2_giveRooms (Nat.le_of_ble_eq_true rfl) rfl hl.1 rfl (Nat.le_of_ble_eq_true rfl) dX2_findRooms_31 ⟨by decide, by decide⟩) hS (fun H locs hP hS => ?_)
    refine lv_if_eq (tgt := 68) hx hb dX2_findRooms_34 (by decide) (fun c7 => ?_) (fun c7 => ?_)
    · rw [if_pos c7] at h
      refine lv_iconst (v := 0) hx hb dX2_findRooms_68 (by decide) ?_
      have hz : zz 0 = some 0 := rfl
      cases h
      exact g_zret hC hP hS dX2_findRooms_69 hz rfl
    · rw [if_neg c7] at h
      refine lv_aload_n hx hb dX2_findRooms_37 rfl (lv_at hl 0 rfl) ?_
      refine g_get hC hP 0 dX2_findRooms_38 (by decide) ge_15 rfl inX2 (by decide) rfl u_1_115 ?_
      refine lv_aload_n hx hb dX2_findRooms_41 rfl (lv_at hl 0 rfl) ?_
      refine g_get hC hP 2 dX2_findRooms_42 (by decide) ge_15 rfl inX2 (by decide) rfl u_1_117 ?_
      refine lv_aload_n hx hb dX2_findRooms_45 rfl (lv_at hl 0 rfl) ?_
      refine lv_iload_n hx hb dX2_findRooms_46 rfl (lv_at hl 1 rfl) ?_
      refine lv_iload_n hx hb dX2_findRooms_47 rfl (lv_at hl 2 rfl) ?_
      obtain ⟨v8, hv, h⟩ := bd1_e h
      refine g_ki (g_runV (As := [.int x1, .int x2]) (rest := [.ref (ad γ 17), .ref (ad γ 1)]) hC hP (c2_membersIn l hv) (by decide) ge_15 rfl u_5_21 yv_X2_membersIn (Nat.le_of_ble_eq_true rfl) rfl hl.1 rfl (Nat.le_of_ble_eq_true rfl) dX2_findRooms_48 ⟨by decide, by decide⟩) hS (fun H locs hP hS => ?_)
      refine lv_aload_n hx hb dX2_findRooms_51 rfl (lv_at hl 0 rfl) ?_
      refine lv_iload_n hx hb dX2_findRooms_52 rfl (lv_at hl 1 rfl) ?_
      refine lv_iload_n hx hb dX2_findRooms_53 rfl (lv_at hl 3 rfl) ?_
      obtain ⟨v9, hv, h⟩ := bd1_e h
      refine g_ki (g_runV (As := [.int x1, .int x3]) (rest := [.int v8, .ref (ad γ 17), .ref (ad γ 1)]) hC hP (c2_openRooms l hv) (by decide) ge_15 rfl u_5_25 yv_X2_openRooms (Nat.le_of_ble_eq_true rfl) rfl hl.1 rfl (Nat.le_of_ble_eq_true rfl) dX2_findRooms_54 ⟨by decide, by decide⟩) hS (fun H locs hP hS => ?_)
      refine lv_iconst (v := 0) hx hb dX2_findRooms_57 (by decide) ?_
      obtain ⟨v10, P11, hv, h⟩ := bd2_e h
      refine g_ki (g_runS (As := [.ref (ad γ 1), .ref (ad γ 17), .int v8, .int v9, .int 0]) (rest := []) hC hP (c2_giveRooms_20 l hv) u_5_29 yv_X2_giveRooms (Nat.le_of_ble_eq_true rfl) rfl hl.1 rfl (Nat.le_of_ble_eq_true rfl) dX2_findRooms_58 ⟨by decide, by decide⟩) hS (fun H locs hP hS => ?_)
      refine lv_if_eq (tgt := 68) hx hb dX2_findRooms_61 (by decide) (fun c12 => ?_) (fun c12 => ?_)
      · rw [if_pos c12] at h
        refine lv_iconst (v := 0) hx hb dX2_findRooms_68 (by decide) ?_
        have hz : zz 0 = some 0 := rfl
        cases h
        exact g_zret hC hP hS dX2_findRooms_69 hz rfl
      · rw [if_neg c12] at h
        refine lv_iconst (v := 1) hx hb dX2_findRooms_64 (by decide) ?_
        refine lv_goto (tgt := 69) hx hb dX2_findRooms_65 (by decide) ?_
        have hz : zz 1 = some 1 := rfl
        cases h
        exact g_zret hC hP hS dX2_findRooms_69 hz rfl
def r2_swapSlots_j37 (T_37 : OS) (P : OS) (x1 : Int32) (x2 : Int32) (x3 : Int32) (x4_37 : Int32) (s0_37 : Int32)  : Option ((OS × Int32) ⊕ (OS)) :=
  (rd 14 (P 2) x4_37).bind fun v1 =>
  bd1 (r3_moveTo T_37 x4_37 ((s0_37 * 6) + v1)) (fun T2 =>
  some (.inl (T2, (x4_37 + 1))))
def r2_swapSlots_b3 (P : OS) (x1 : Int32) (x2 : Int32) (x3 : Int32) (T_3 : OS) (x4_3 : Int32) : Option ((OS × Int32) ⊕ (OS)) :=
  (if 14 ≤ x4_3 then some (.inr T_3)
  else bd1 (r4_contains x1 x4_3) (fun v4 =>
  (if v4 = 0 then some (.inl (T_3, (x4_3 + 1)))
  else bd1 (r3_slotOf T_3 x4_3) (fun v6 =>
  (if v6 = x2 then r2_swapSlots_j37 T_3 P x1 x2 x3 x4_3 x3
  else r2_swapSlots_j37 T_3 P x1 x2 x3 x4_3 x2)))))
def r2_swapSlots (T : OS) (P : OS) (x1 : Int32) (x2 : Int32) (x3 : Int32) : Option OS :=
  bd1 (it2 (r2_swapSlots_b3 P x1 x2 x3) 200 T 0) (fun T_x3 => some T_x3)
theorem yv_X2_swapSlots : gYV yX2_swapSlots cX2_swapSlots 6 none 3 := ⟨u_5_36, u_5_37, u_1_4, u_5_38, ⟨by decide +kernel, by decide +kernel, by decide +kernel⟩, by decide⟩
set_option maxHeartbeats 4000000 in
set_option maxRecDepth 100000 in
theorem c2_swapSlots (l : Launch) {γ : GA} {sz : Nat} {T P X Y B M : OS} {E : Nat → OS} {O : Nat → Int64} {x1 : Int32} {x2 : Int32} {x3 : Int32} {Tz : OS} (h : r2_swapSlots T P x1 x2 x3 = some Tz) : Met l yX2_swapSlots (gU yX2_swapSlots cX2_swapSlots 6 none) (gR 2 0 0) (gPc γ [.ref (ad γ 15), .int x1, .int x2, .int x3] sz (T, P, X, Y, E, B, M, O)) (gQv γ sz (Tz, P, X, Y, E, B, M, O)) 0 0 (gA γ sz) := by
  refine g_met (fun sz => gQv γ sz (Tz, P, X, Y, E, B, M, O)) (by decide) (Nat.le_of_ble_eq_true rfl) ?_
  intro p e s m args below meth c ls hC hP hS hl
  have hx := hC.x
  have hb := hC.b
  have hl : lv_has ls 6 [(0, .ref (ad γ 15)), (1, .int x1), (2, .int x2), (3, .int x3)] := hl
  unfold r2_swapSlots at h
  refine lv_iconst (v := 0) hx hb dX2_swapSlots_0 (by decide) ?_
  refine lv_istore (lv' := [(4, .int 0), (0, .ref (ad γ 15)), (1, .int x1), (2, .int x2), (3, .int x3)]) hx hb dX2_swapSlots_1 hl (by decide) rfl (fun ls hl => ?_)
  have L3 := it2_W (r2_swapSlots_b3 P x1 x2 x3) (fun (T_3 : OS) (x4_3 : Int32) => ∀ (H : Heap) (locs : List Loc) (ls : Array Slot), va_P γ.1 vwCl (gw γ (T_3, P, X, Y, E, B, M, O)) H → va_S (gA γ s.heap.size) s.heap H locs → lv_has ls 6 [(0, .ref (ad γ 15)), (1, .int x1), (2, .int x2), (3, .int x3), (4, .int x4_3)] → W p l e (gR 2 0 0) s m args below meth c H locs 0 0 (MQ below (gQv γ s.heap.size (Tz, P, X, Y, E, B, M, O)) args s 0 0 (gA γ s.heap.size)) (F0 m 3 ls [])) (fun (r_k : OS) => (∀ (T_x3 : OS), r_k = T_x3 → ∀ (H : Heap) (locs : List Loc) (ls : Array Slot), va_P γ.1 vwCl (gw γ (T_x3, P, X, Y, E, B, M, O)) H → va_S (gA γ s.heap.size) s.heap H locs → lv_has ls 6 [] → W p l e (gR 2 0 0) s m args below meth c H locs 0 0 (MQ below (gQv γ s.heap.size (Tz, P, X, Y, E, B, M, O)) args s 0 0 (gA γ s.heap.size)) (F0 m 67 ls []))) (by
    intro T_3 x4_3 o_3 h kS kR H locs ls hP hS hl
    unfold r2_swapSlots_b3 at h
    have J37 : ∀ (T_37 : OS) (x4_37 : Int32) (s0_37 : Int32) (h : r2_swapSlots_j37 T_37 P x1 x2 x3 x4_37 s0_37 = some o_3), ∀ (H : Heap) (locs : List Loc) (ls : Array Slot), va_P γ.1 vwCl (gw γ (T_37, P, X, Y, E, B, M, O)) H → va_S (gA γ s.heap.size) s.heap H locs → lv_has ls 6 [(0, .ref (ad γ 15)), (1, .int x1), (2, .int x2), (3, .int x3), (4, .int x4_37)] → W p l e (gR 2 0 0) s m args below meth c H locs 0 0 (MQ below (gQv γ s.heap.size (Tz, P, X, Y, E, B, M, O)) args s 0 0 (gA γ s.heap.size)) (F0 m 37 ls [.int s0_37]) := by
      intro T_37 x4_37 s0_37 h H locs ls hP hS hl
      unfold r2_swapSlots_j37 at h
      refine lv_istore (lv' := [(5, .int s0_37), (0, .ref (ad γ 15)), (1, .int x1), (2, .int x2), (3, .int x3), (4, .int x4_37)]) hx hb dX2_swapSlots_37 hl (by decide) rfl (fun ls hl => ?_)
      refine lv_aload_n hx hb dX2_swapSlots_39 rfl (lv_at hl 1 rfl) ?_
      refine g_get hC hP 0 dX2_swapSlots_40 (by decide) ge_15 rfl inX2 (by decide) rfl u_1_115 ?_
      refine lv_iload hx hb dX2_swapSlots_43 (lv_at hl 5 rfl) ?_
      refine lv_iload hx hb dX2_swapSlots_45 (lv_at hl 0 rfl) ?_
      refine lv_bipush (v := 6) hx hb dX2_swapSlots_47 (by decide) ?_
      refine lv_imul hx hb dX2_swapSlots_49 ?_
      refine lv_aload_n hx hb dX2_swapSlots_50 rfl (lv_at hl 1 rfl) ?_
      refine g_get hC hP 2 dX2_swapSlots_51 (by decide) ge_15 rfl inX2 (by decide) rfl u_1_117 ?_
      refine lv_iload hx hb dX2_swapSlots_54 (lv_at hl 5 rfl) ?_
      obtain ⟨v1, hv, h⟩ := ob h
      refine g_ld hC hP dX2_swapSlots_56 (by decide) ge_17 hv ?_
      refine lv_iadd hx hb dX2_swapSlots_57 ?_
      obtain ⟨T2, hv, h⟩ := bd1_e h
      refine g_kv (g_runV (As := [.int x4_37, .int ((s0_37 * 6) + v1)]) (rest := []) hC hP (c3_moveTo l hv) (by decide) ge_1 rfl u_2_77 yv_X3_moveTo (Nat.le_of_ble_eq_true rfl) rfl hl.1 rfl (Nat.le_of_ble_eq_true rfl) dX2_swapSlots_58 ⟨by decide, by decide⟩) hS (fun H locs hP hS => ?_)
      refine lv_iinc (v := (x4_37 + 1)) (lv' := [(4, .int (x4_37 + 1)), (5, .int s0_37), (0, .ref (ad γ 15)), (1, .int x1), (2, .int x2), (3, .int x3)]) hx hb dX2_swapSlots_61 hl (k := 5) rfl rfl (by decide) rfl (fun ls hl => ?_)
      refine lv_goto (tgt := 3) hx hb dX2_swapSlots_64 (by decide) ?_
      cases h
      exact kS _ _ rfl _ _ _ hP hS (lv_sub hl [2, 3, 4, 5, 0] rfl)
    refine lv_iload hx hb dX2_swapSlots_3 (lv_at hl 4 rfl) ?_
    refine lv_bipush (v := 14) hx hb dX2_swapSlots_5 (by decide) ?_
    refine lv_icmp_ge (tgt := 67) hx hb dX2_swapSlots_7 (by decide) (fun c3 => ?_) (fun c3 => ?_)
    · rw [if_pos c3] at h
      cases h
      exact kR _ rfl _ rfl _ _ _ hP hS (lv_sub hl [] rfl)
    · rw [if_neg c3] at h
      refine lv_iload_n hx hb dX2_swapSlots_10 rfl (lv_at hl 1 rfl) ?_
      refine lv_iload hx hb dX2_swapSlots_11 (lv_at hl 4 rfl) ?_
      obtain ⟨v4, hv, h⟩ := bd1_e h
      refine g_ki (g_runN (As := [.int x1, .int x4_3]) (rest := []) hC hP (c4_contains l hv) List.mem_cons_self yv_X4_contains (Nat.le_of_ble_eq_true rfl) rfl hl.1 rfl (Nat.le_of_ble_eq_true rfl) dX2_swapSlots_13 ⟨by decide, by decide⟩) hS (fun H locs hP hS => ?_)
      refine lv_if_eq (tgt := 61) hx hb dX2_swapSlots_16 (by decide) (fun c5 => ?_) (fun c5 => ?_)
      · rw [if_pos c5] at h
        refine lv_iinc (v := (x4_3 + 1)) (lv' := [(4, .int (x4_3 + 1)), (0, .ref (ad γ 15)), (1, .int x1), (2, .int x2), (3, .int x3)]) hx hb dX2_swapSlots_61 hl (k := 4) rfl rfl (by decide) rfl (fun ls hl => ?_)
        refine lv_goto (tgt := 3) hx hb dX2_swapSlots_64 (by decide) ?_
        cases h
        exact kS _ _ rfl _ _ _ hP hS (lv_sub hl [1, 2, 3, 4, 0] rfl)
      · rw [if_neg c5] at h
        refine lv_aload_n hx hb dX2_swapSlots_19 rfl (lv_at hl 0 rfl) ?_
        refine g_get hC hP 0 dX2_swapSlots_20 (by decide) ge_15 rfl inX2 (by decide) rfl u_1_115 ?_
        refine lv_iload hx hb dX2_swapSlots_23 (lv_at hl 4 rfl) ?_
        obtain ⟨v6, hv, h⟩ := bd1_e h
        refine g_ki (g_runV (As := [.int x4_3]) (rest := []) hC hP (c3_slotOf l hv) (by decide) ge_1 rfl u_5_39 yv_X3_slotOf (Nat.le_of_ble_eq_true rfl) rfl hl.1 rfl (Nat.le_of_ble_eq_true rfl) dX2_swapSlots_25 ⟨by decide, by decide⟩) hS (fun H locs hP hS => ?_)
        refine lv_iload_n hx hb dX2_swapSlots_28 rfl (lv_at hl 2 rfl) ?_
        refine lv_icmp_ne (tgt := 36) hx hb dX2_swapSlots_29 (by decide) (fun c7 => ?_) (fun c7 => ?_)
        · rw [if_neg c7] at h
          refine lv_iload_n hx hb dX2_swapSlots_36 rfl (lv_at hl 2 rfl) ?_
          exact J37 T_3 x4_3 x2 h _ _ _ hP hS (lv_sub hl [0, 1, 2, 3, 4] rfl)
        · rw [if_pos c7] at h
          refine lv_iload_n hx hb dX2_swapSlots_32 rfl (lv_at hl 3 rfl) ?_
          refine lv_goto (tgt := 37) hx hb dX2_swapSlots_33 (by decide) ?_
          exact J37 T_3 x4_3 x3 h _ _ _ hP hS (lv_sub hl [0, 1, 2, 3, 4] rfl))
  obtain ⟨T_x3, hv, h⟩ := bd1_e h
  refine L3 _ _ _ _ hv (fun q0 e9 H locs ls hP hS hl => ?_) _ _ _ hP hS (lv_sub hl [1, 2, 3, 4, 0] rfl)
  obtain rfl := e9
  cases h
  exact g_vret hC hP hS dX2_swapSlots_67
def r2_cheaperPlace_b35 (x1 : Int32) (T_35 : OS) (x3_35 : Int32) (x4_35 : Int32) (x5_35 : Int32) : Option ((OS × Int32 × Int32 × Int32) ⊕ (OS × Int32)) :=
  (if 60 ≤ x5_35 then some (.inr (T_35, x4_35))
  else bd1 (r3_obstacleAt T_35 x1 x5_35) (fun v6 =>
  (if v6 = 0 then bd2 (r3_costIf T_35 x1 x5_35) (fun v8 T9 =>
  (if x3_35 ≤ v8 then some (.inl (T9, x3_35, x4_35, (x5_35 + 1)))
  else some (.inl (T9, v8, x5_35, (x5_35 + 1)))))
  else some (.inl (T_35, x3_35, x4_35, (x5_35 + 1))))))
def r2_cheaperPlace (T : OS) (x1 : Int32) (x2 : Int32) : Option (Int32 × OS) :=
  (rd 14 (T 9) x1).bind fun v1 =>
  (if v1 = (-1) then some ((-1), T)
  else (rd 14 (T 12) x1).bind fun v3 =>
  (if v3 = 0 then bd2 (it4 (r2_cheaperPlace_b35 x1) 200 T x2 (-1) 0) (fun T_x35 x4_x35 => some (x4_x35, T_x35))
  else some ((-1), T)))
theorem yv_X2_cheaperPlace : gYV yX2_cheaperPlace cX2_cheaperPlace 7 (some .int) 2 := ⟨u_5_79, u_sp_24, u_1_4, u_5_80, ⟨by decide +kernel, by decide +kernel, by decide +kernel⟩, by decide⟩
set_option maxHeartbeats 4000000 in
set_option maxRecDepth 100000 in
theorem c2_cheaperPlace (l : Launch) {γ : GA} {sz : Nat} {T P X Y B M : OS} {E : Nat → OS} {O : Nat → Int64} {x1 : Int32} {x2 : Int32} {r0 : Int32} {Tz : OS} (h : r2_cheaperPlace T x1 x2 = some (r0, Tz)) : Met l yX2_cheaperPlace (gU yX2_cheaperPlace cX2_cheaperPlace 7 (some .int)) (gR 5 0 0) (gPc γ [.ref (ad γ 15), .int x1, .int x2] sz (T, P, X, Y, E, B, M, O)) (gQi γ r0 sz (Tz, P, X, Y, E, B, M, O)) 0 0 (gA γ sz) := by
  refine g_met (fun sz => gQi γ r0 sz (Tz, P, X, Y, E, B, M, O)) (by decide) (Nat.le_of_ble_eq_true rfl) ?_
  intro p e s m args below meth c ls hC hP hS hl
  have hx := hC.x
  have hb := hC.b
  have hl : lv_has ls 7 [(0, .ref (ad γ 15)), (1, .int x1), (2, .int x2)] := hl
  unfold r2_cheaperPlace at h
  refine lv_aload_n hx hb dX2_cheaperPlace_0 rfl (lv_at hl 0 rfl) ?_
  refine g_get hC hP 0 dX2_cheaperPlace_1 (by decide) ge_15 rfl inX2 (by decide) rfl u_1_115 ?_
  refine g_get hC hP 9 dX2_cheaperPlace_4 (by decide) ge_1 rfl inX3 (by decide) rfl u_1_67 ?_
  refine lv_iload_n hx hb dX2_cheaperPlace_7 rfl (lv_at hl 1 rfl) ?_
  obtain ⟨v1, hv, h⟩ := ob h
  refine g_ld hC hP dX2_cheaperPlace_8 (by decide) ge_11 hv ?_
  refine lv_iconst (v := -1) hx hb dX2_cheaperPlace_9 (by decide) ?_
  refine lv_icmp_eq (tgt := 25) hx hb dX2_cheaperPlace_10 (by decide) (fun c2 => ?_) (fun c2 => ?_)
  · rw [if_pos c2] at h
    refine lv_iconst (v := -1) hx hb dX2_cheaperPlace_25 (by decide) ?_
    cases h
    exact g_iret hC hP hS dX2_cheaperPlace_26 rfl
  · rw [if_neg c2] at h
    refine lv_aload_n hx hb dX2_cheaperPlace_13 rfl (lv_at hl 0 rfl) ?_
    refine g_get hC hP 0 dX2_cheaperPlace_14 (by decide) ge_15 rfl inX2 (by decide) rfl u_1_115 ?_
    refine g_get hC hP 12 dX2_cheaperPlace_17 (by decide) ge_1 rfl inX3 (by decide) rfl u_1_74 ?_
    refine lv_iload_n hx hb dX2_cheaperPlace_20 rfl (lv_at hl 1 rfl) ?_
    obtain ⟨v3, hv, h⟩ := ob h
    refine g_zld hC hP dX2_cheaperPlace_21 (by decide) ge_14 hv ?_
    refine lv_if_eq (tgt := 27) hx hb dX2_cheaperPlace_22 (by decide) (fun c4 => ?_) (fun c4 => ?_)
    · rw [if_pos c4] at h
      refine lv_iload_n hx hb dX2_cheaperPlace_27 rfl (lv_at hl 2 rfl) ?_
      refine lv_istore_n (lv' := [(3, .int x2), (0, .ref (ad γ 15)), (1, .int x1), (2, .int x2)]) hx hb dX2_cheaperPlace_28 rfl hl (by decide) rfl (fun ls hl => ?_)
      refine lv_iconst (v := -1) hx hb dX2_cheaperPlace_29 (by decide) ?_
      refine lv_istore (lv' := [(4, .int (-1)), (3, .int x2), (0, .ref (ad γ 15)), (1, .int x1), (2, .int x2)]) hx hb dX2_cheaperPlace_30 hl (by decide) rfl (fun ls hl => ?_)
      refine lv_iconst (v := 0) hx hb dX2_cheaperPlace_32 (by decide) ?_
      refine lv_istore (lv' := [(5, .int 0), (4, .int (-1)), (3, .int x2), (0, .ref (ad γ 15)), (1, .int x1), (2, .int x2)]) hx hb dX2_cheaperPlace_33 hl (by decide) rfl (fun ls hl => ?_)
      have L35 := it4_W (r2_cheaperPlace_b35 x1) (fun (T_35 : OS) (x3_35 : Int32) (x4_35 : Int32) (x5_35 : Int32) => ∀ (H : Heap) (locs : List Loc) (ls : Array Slot), va_P γ.1 vwCl (gw γ (T_35, P, X, Y, E, B, M, O)) H → va_S (gA γ s.heap.size) s.heap H locs → lv_has ls 7 [(0, .ref (ad γ 15)), (1, .int x1), (3, .int x3_35), (4, .int x4_35), (5, .int x5_35)] → W p l e (gR 5 0 0) s m args below meth c H locs 0 0 (MQ below (gQi γ r0 s.heap.size (Tz, P, X, Y, E, B, M, O)) args s 0 0 (gA γ s.heap.size)) (F0 m 35 ls [])) (fun (r_k : OS × Int32) => (∀ (T_x35 : OS) (x4_x35 : Int32), r_k = (T_x35, x4_x35) → ∀ (H : Heap) (locs : List Loc) (ls : Array Slot), va_P γ.1 vwCl (gw γ (T_x35, P, X, Y, E, B, M, O)) H → va_S (gA γ s.heap.size) s.heap H locs → lv_has ls 7 [(4, .int x4_x35)] → W p l e (gR 5 0 0) s m args below meth c H locs 0 0 (MQ below (gQi γ r0 s.heap.size (Tz, P, X, Y, E, B, M, O)) args s 0 0 (gA γ s.heap.size)) (F0 m 86 ls []))) (by
        intro T_35 x3_35 x4_35 x5_35 o_35 h kS kR H locs ls hP hS hl
        unfold r2_cheaperPlace_b35 at h
        refine lv_iload hx hb dX2_cheaperPlace_35 (lv_at hl 4 rfl) ?_
        refine lv_bipush (v := 60) hx hb dX2_cheaperPlace_37 (by decide) ?_
        refine lv_icmp_ge (tgt := 86) hx hb dX2_cheaperPlace_39 (by decide) (fun c5 => ?_) (fun c5 => ?_)
        · rw [if_pos c5] at h
          cases h
          exact kR _ rfl _ _ rfl _ _ _ hP hS (lv_sub hl [3] rfl)
        · rw [if_neg c5] at h
          refine lv_aload_n hx hb dX2_cheaperPlace_42 rfl (lv_at hl 0 rfl) ?_
          refine g_get hC hP 0 dX2_cheaperPlace_43 (by decide) ge_15 rfl inX2 (by decide) rfl u_1_115 ?_
          refine lv_iload_n hx hb dX2_cheaperPlace_46 rfl (lv_at hl 1 rfl) ?_
          refine lv_iload hx hb dX2_cheaperPlace_47 (lv_at hl 4 rfl) ?_
          obtain ⟨v6, hv, h⟩ := bd1_e h
          refine g_ki (g_runV (As := [.int x1, .int x5_35]) (rest := []) hC hP (c3_obstacleAt l hv) (by decide) ge_1 rfl u_2_96 yv_X3_obstacleAt (Nat.le_of_ble_eq_true rfl) rfl hl.1 rfl (Nat.le_of_ble_eq_true rfl) dX2_cheaperPlace_49 ⟨by decide, by decide⟩) hS (fun H locs hP hS => ?_)
          refine lv_if_ne (tgt := 80) hx hb dX2_cheaperPlace_52 (by decide) (fun c7 => ?_) (fun c7 => ?_)
          · rw [if_neg c7] at h
            refine lv_iinc (v := (x5_35 + 1)) (lv' := [(5, .int (x5_35 + 1)), (0, .ref (ad γ 15)), (1, .int x1), (3, .int x3_35), (4, .int x4_35)]) hx hb dX2_cheaperPlace_80 hl (k := 4) rfl rfl (by decide) rfl (fun ls hl => ?_)
            refine lv_goto (tgt := 35) hx hb dX2_cheaperPlace_83 (by decide) ?_
            cases h
            exact kS _ _ _ _ rfl _ _ _ hP hS (lv_sub hl [1, 2, 3, 4, 0] rfl)
          · rw [if_pos c7] at h
            refine lv_aload_n hx hb dX2_cheaperPlace_55 rfl (lv_at hl 0 rfl) ?_
            refine g_get hC hP 0 dX2_cheaperPlace_56 (by decide) ge_15 rfl inX2 (by decide) rfl u_1_115 ?_
            refine lv_iload_n hx hb dX2_cheaperPlace_59 rfl (lv_at hl 1 rfl) ?_
            refine lv_iload hx hb dX2_cheaperPlace_60 (lv_at hl 4 rfl) ?_
            obtain ⟨v8, T9, hv, h⟩ := bd2_e h
            refine g_ki (g_runV (As := [.int x1, .int x5_35]) (rest := []) hC hP (c3_costIf l hv) (by decide) ge_1 rfl u_5_81 yv_X3_costIf (Nat.le_of_ble_eq_true rfl) rfl hl.1 rfl (Nat.le_of_ble_eq_true rfl) dX2_cheaperPlace_62 ⟨by decide, by decide⟩) hS (fun H locs hP hS => ?_)
            refine lv_istore (lv' := [(6, .int v8), (0, .ref (ad γ 15)), (1, .int x1), (3, .int x3_35), (4, .int x4_35), (5, .int x5_35)]) hx hb dX2_cheaperPlace_65 hl (by decide) rfl (fun ls hl => ?_)
            refine lv_iload hx hb dX2_cheaperPlace_67 (lv_at hl 0 rfl) ?_
            refine lv_iload_n hx hb dX2_cheaperPlace_69 rfl (lv_at hl 3 rfl) ?_
            refine lv_icmp_ge (tgt := 80) hx hb dX2_cheaperPlace_70 (by decide) (fun c10 => ?_) (fun c10 => ?_)
            · rw [if_pos c10] at h
              refine lv_iinc (v := (x5_35 + 1)) (lv' := [(5, .int (x5_35 + 1)), (6, .int v8), (0, .ref (ad γ 15)), (1, .int x1), (3, .int x3_35), (4, .int x4_35)]) hx hb dX2_cheaperPlace_80 hl (k := 5) rfl rfl (by decide) rfl (fun ls hl => ?_)
              refine lv_goto (tgt := 35) hx hb dX2_cheaperPlace_83 (by decide) ?_
              cases h
              exact kS _ _ _ _ rfl _ _ _ hP hS (lv_sub hl [2, 3, 4, 5, 0] rfl)
            · rw [if_neg c10] at h
              refine lv_iload hx hb dX2_cheaperPlace_73 (lv_at hl 0 rfl) ?_
              refine lv_istore_n (lv' := [(3, .int v8), (6, .int v8), (0, .ref (ad γ 15)), (1, .int x1), (4, .int x4_35), (5, .int x5_35)]) hx hb dX2_cheaperPlace_75 rfl hl (by decide) rfl (fun ls hl => ?_)
              refine lv_iload hx hb dX2_cheaperPlace_76 (lv_at hl 5 rfl) ?_
              refine lv_istore (lv' := [(4, .int x5_35), (3, .int v8), (6, .int v8), (0, .ref (ad γ 15)), (1, .int x1), (5, .int x5_35)]) hx hb dX2_cheaperPlace_78 hl (by decide) rfl (fun ls hl => ?_)
              refine lv_iinc (v := (x5_35 + 1)) (lv' := [(5, .int (x5_35 + 1)), (4, .int x5_35), (3, .int v8), (6, .int v8), (0, .ref (ad γ 15)), (1, .int x1)]) hx hb dX2_cheaperPlace_80 hl (k := 5) rfl rfl (by decide) rfl (fun ls hl => ?_)
              refine lv_goto (tgt := 35) hx hb dX2_cheaperPlace_83 (by decide) ?_
              cases h
              exact kS _ _ _ _ rfl _ _ _ hP hS (lv_sub hl [4, 5, 2, 1, 0] rfl))
      obtain ⟨T_x35, x4_x35, hv, h⟩ := bd2_e h
      refine L35 _ _ _ _ _ _ hv (fun q0 q1 e9 H locs ls hP hS hl => ?_) _ _ _ hP hS (lv_sub hl [3, 4, 2, 1, 0] rfl)
      obtain ⟨rfl, rfl⟩ := inj2 e9
      refine lv_iload hx hb dX2_cheaperPlace_86 (lv_at hl 0 rfl) ?_
      cases h
      exact g_iret hC hP hS dX2_cheaperPlace_88 rfl
    · rw [if_neg c4] at h
      refine lv_iconst (v := -1) hx hb dX2_cheaperPlace_25 (by decide) ?_
      cases h
      exact g_iret hC hP hS dX2_cheaperPlace_26 rfl
def r2_makeStep_b15 (T_15 : OS) (x1_15 : Int32) (x2_15 : Int32) (x3_15 : Int32) (x4_15 : Int32) : Option ((OS × Int32 × Int32 × Int32 × Int32) ⊕ (OS × Int32 × Int32)) :=
  (if 14 ≤ x4_15 then some (.inr (T_15, x2_15, x3_15))
  else bd2 (r2_cheaperPlace T_15 x4_15 x1_15) (fun v3 T4 =>
  (if v3 = (-1) then some (.inl (T4, x1_15, x2_15, x3_15, (x4_15 + 1)))
  else bd2 (r3_costIf T4 x4_15 v3) (fun v6 T7 =>
  some (.inl (T7, v6, x4_15, v3, (x4_15 + 1)))))))
def r2_makeStep (T : OS) : Option (Int32 × OS) :=
  bd1 (r3_totalCost T) (fun v1 =>
  bd3 (it5 r2_makeStep_b15 200 T v1 (-1) (-1) 0) (fun T_x15 x2_x15 x3_x15 => (if x2_x15 = (-1) then some (0, T_x15)
  else bd1 (r3_moveTo T_x15 x2_x15 x3_x15) (fun T9 =>
  some (1, T9)))))
theorem yv_X2_makeStep : gYV yX2_makeStep cX2_makeStep 6 (some .boolean) 0 := ⟨u_5_53, u_5_54, u_1_4, u_5_55, ⟨by decide +kernel, by decide +kernel, by decide +kernel⟩, by decide⟩
set_option maxHeartbeats 4000000 in
set_option maxRecDepth 100000 in
theorem c2_makeStep (l : Launch) {γ : GA} {sz : Nat} {T P X Y B M : OS} {E : Nat → OS} {O : Nat → Int64} {r0 : Int32} {Tz : OS} (h : r2_makeStep T = some (r0, Tz)) : Met l yX2_makeStep (gU yX2_makeStep cX2_makeStep 6 (some .boolean)) (gR 6 0 0) (gPc γ [.ref (ad γ 15)] sz (T, P, X, Y, E, B, M, O)) (gQi γ r0 sz (Tz, P, X, Y, E, B, M, O)) 0 0 (gA γ sz) := by
  refine g_met (fun sz => gQi γ r0 sz (Tz, P, X, Y, E, B, M, O)) (by decide) (Nat.le_of_ble_eq_true rfl) ?_
  intro p e s m args below meth c ls hC hP hS hl
  have hx := hC.x
  have hb := hC.b
  have hl : lv_has ls 6 [(0, .ref (ad γ 15))] := hl
  unfold r2_makeStep at h
  refine lv_aload_n hx hb dX2_makeStep_0 rfl (lv_at hl 0 rfl) ?_
  refine g_get hC hP 0 dX2_makeStep_1 (by decide) ge_15 rfl inX2 (by decide) rfl u_1_115 ?_
  obtain ⟨v1, hv, h⟩ := bd1_e h
  refine g_ki (g_runV (As := []) (rest := []) hC hP (c3_totalCost l hv) (by decide) ge_1 rfl u_5_56 yv_X3_totalCost (Nat.le_of_ble_eq_true rfl) rfl hl.1 rfl (Nat.le_of_ble_eq_true rfl) dX2_makeStep_4 ⟨by decide, by decide⟩) hS (fun H locs hP hS => ?_)
  refine lv_istore_n (lv' := [(1, .int v1), (0, .ref (ad γ 15))]) hx hb dX2_makeStep_7 rfl hl (by decide) rfl (fun ls hl => ?_)
  refine lv_iconst (v := -1) hx hb dX2_makeStep_8 (by decide) ?_
  refine lv_istore_n (lv' := [(2, .int (-1)), (1, .int v1), (0, .ref (ad γ 15))]) hx hb dX2_makeStep_9 rfl hl (by decide) rfl (fun ls hl => ?_)
  refine lv_iconst (v := -1) hx hb dX2_makeStep_10 (by decide) ?_
  refine lv_istore_n (lv' := [(3, .int (-1)), (2, .int (-1)), (1, .int v1), (0, .ref (ad γ 15))]) hx hb dX2_makeStep_11 rfl hl (by decide) rfl (fun ls hl => ?_)
  refine lv_iconst (v := 0) hx hb dX2_makeStep_12 (by decide) ?_
  refine lv_istore (lv' := [(4, .int 0), (3, .int (-1)), (2, .int (-1)), (1, .int v1), (0, .ref (ad γ 15))]) hx hb dX2_makeStep_13 hl (by decide) rfl (fun ls hl => ?_)
  have L15 := it5_W r2_makeStep_b15 (fun (T_15 : OS) (x1_15 : Int32) (x2_15 : Int32) (x3_15 : Int32) (x4_15 : Int32) => ∀ (H : Heap) (locs : List Loc) (ls : Array Slot), va_P γ.1 vwCl (gw γ (T_15, P, X, Y, E, B, M, O)) H → va_S (gA γ s.heap.size) s.heap H locs → lv_has ls 6 [(0, .ref (ad γ 15)), (1, .int x1_15), (2, .int x2_15), (3, .int x3_15), (4, .int x4_15)] → W p l e (gR 6 0 0) s m args below meth c H locs 0 0 (MQ below (gQi γ r0 s.heap.size (Tz, P, X, Y, E, B, M, O)) args s 0 0 (gA γ s.heap.size)) (F0 m 15 ls [])) (fun (r_k : OS × Int32 × Int32) => (∀ (T_x15 : OS) (x2_x15 : Int32) (x3_x15 : Int32), r_k = (T_x15, x2_x15, x3_x15) → ∀ (H : Heap) (locs : List Loc) (ls : Array Slot), va_P γ.1 vwCl (gw γ (T_x15, P, X, Y, E, B, M, O)) H → va_S (gA γ s.heap.size) s.heap H locs → lv_has ls 6 [(0, .ref (ad γ 15)), (2, .int x2_x15), (3, .int x3_x15)] → W p l e (gR 6 0 0) s m args below meth c H locs 0 0 (MQ below (gQi γ r0 s.heap.size (Tz, P, X, Y, E, B, M, O)) args s 0 0 (gA γ s.heap.size)) (F0 m 61 ls []))) (by
    intro T_15 x1_15 x2_15 x3_15 x4_15 o_15 h kS kR H locs ls hP hS hl
    unfold r2_makeStep_b15 at h
    refine lv_iload hx hb dX2_makeStep_15 (lv_at hl 4 rfl) ?_
    refine lv_bipush (v := 14) hx hb dX2_makeStep_17 (by decide) ?_
    refine lv_icmp_ge (tgt := 61) hx hb dX2_makeStep_19 (by decide) (fun c2 => ?_) (fun c2 => ?_)
    · rw [if_pos c2] at h
      cases h
      exact kR _ rfl _ _ _ rfl _ _ _ hP hS (lv_sub hl [0, 2, 3] rfl)
    · rw [if_neg c2] at h
      refine lv_aload_n hx hb dX2_makeStep_22 rfl (lv_at hl 0 rfl) ?_
      refine lv_iload hx hb dX2_makeStep_23 (lv_at hl 4 rfl) ?_
      refine lv_iload_n hx hb dX2_makeStep_25 rfl (lv_at hl 1 rfl) ?_
      obtain ⟨v3, T4, hv, h⟩ := bd2_e h
      refine g_ki (g_runV (As := [.int x4_15, .int x1_15]) (rest := []) hC hP (c2_cheaperPlace l hv) (by decide) ge_15 rfl u_5_77 yv_X2_cheaperPlace (Nat.le_of_ble_eq_true rfl) rfl hl.1 rfl (Nat.le_of_ble_eq_true rfl) dX2_makeStep_26 ⟨by decide, by decide⟩) hS (fun H locs hP hS => ?_)
      refine lv_istore (lv' := [(5, .int v3), (0, .ref (ad γ 15)), (1, .int x1_15), (2, .int x2_15), (3, .int x3_15), (4, .int x4_15)]) hx hb dX2_makeStep_29 hl (by decide) rfl (fun ls hl => ?_)
      refine lv_iload hx hb dX2_makeStep_31 (lv_at hl 0 rfl) ?_
      refine lv_iconst (v := -1) hx hb dX2_makeStep_33 (by decide) ?_
      refine lv_icmp_eq (tgt := 55) hx hb dX2_makeStep_34 (by decide) (fun c5 => ?_) (fun c5 => ?_)
      · rw [if_pos c5] at h
        refine lv_iinc (v := (x4_15 + 1)) (lv' := [(4, .int (x4_15 + 1)), (5, .int v3), (0, .ref (ad γ 15)), (1, .int x1_15), (2, .int x2_15), (3, .int x3_15)]) hx hb dX2_makeStep_55 hl (k := 5) rfl rfl (by decide) rfl (fun ls hl => ?_)
        refine lv_goto (tgt := 15) hx hb dX2_makeStep_58 (by decide) ?_
        cases h
        exact kS _ _ _ _ _ rfl _ _ _ hP hS (lv_sub hl [2, 3, 4, 5, 0] rfl)
      · rw [if_neg c5] at h
        refine lv_aload_n hx hb dX2_makeStep_37 rfl (lv_at hl 1 rfl) ?_
        refine g_get hC hP 0 dX2_makeStep_38 (by decide) ge_15 rfl inX2 (by decide) rfl u_1_115 ?_
        refine lv_iload hx hb dX2_makeStep_41 (lv_at hl 5 rfl) ?_
        refine lv_iload hx hb dX2_makeStep_43 (lv_at hl 0 rfl) ?_
        obtain ⟨v6, T7, hv, h⟩ := bd2_e h
        refine g_ki (g_runV (As := [.int x4_15, .int v3]) (rest := []) hC hP (c3_costIf l hv) (by decide) ge_1 rfl u_5_81 yv_X3_costIf (Nat.le_of_ble_eq_true rfl) rfl hl.1 rfl (Nat.le_of_ble_eq_true rfl) dX2_makeStep_45 ⟨by decide, by decide⟩) hS (fun H locs hP hS => ?_)
        refine lv_istore_n (lv' := [(1, .int v6), (5, .int v3), (0, .ref (ad γ 15)), (2, .int x2_15), (3, .int x3_15), (4, .int x4_15)]) hx hb dX2_makeStep_48 rfl hl (by decide) rfl (fun ls hl => ?_)
        refine lv_iload hx hb dX2_makeStep_49 (lv_at hl 5 rfl) ?_
        refine lv_istore_n (lv' := [(2, .int x4_15), (1, .int v6), (5, .int v3), (0, .ref (ad γ 15)), (3, .int x3_15), (4, .int x4_15)]) hx hb dX2_makeStep_51 rfl hl (by decide) rfl (fun ls hl => ?_)
        refine lv_iload hx hb dX2_makeStep_52 (lv_at hl 2 rfl) ?_
        refine lv_istore_n (lv' := [(3, .int v3), (2, .int x4_15), (1, .int v6), (5, .int v3), (0, .ref (ad γ 15)), (4, .int x4_15)]) hx hb dX2_makeStep_54 rfl hl (by decide) rfl (fun ls hl => ?_)
        refine lv_iinc (v := (x4_15 + 1)) (lv' := [(4, .int (x4_15 + 1)), (3, .int v3), (2, .int x4_15), (1, .int v6), (5, .int v3), (0, .ref (ad γ 15))]) hx hb dX2_makeStep_55 hl (k := 5) rfl rfl (by decide) rfl (fun ls hl => ?_)
        refine lv_goto (tgt := 15) hx hb dX2_makeStep_58 (by decide) ?_
        cases h
        exact kS _ _ _ _ _ rfl _ _ _ hP hS (lv_sub hl [5, 3, 2, 1, 0] rfl))
  obtain ⟨T_x15, x2_x15, x3_x15, hv, h⟩ := bd3_e h
  refine L15 _ _ _ _ _ _ _ hv (fun q0 q1 q2 e9 H locs ls hP hS hl => ?_) _ _ _ hP hS (lv_sub hl [4, 3, 2, 1, 0] rfl)
  obtain ⟨rfl, rfl, rfl⟩ := inj3 e9
  refine lv_iload_n hx hb dX2_makeStep_61 rfl (lv_at hl 1 rfl) ?_
  refine lv_iconst (v := -1) hx hb dX2_makeStep_62 (by decide) ?_
  refine lv_icmp_ne (tgt := 68) hx hb dX2_makeStep_63 (by decide) (fun c8 => ?_) (fun c8 => ?_)
  · rw [if_neg c8] at h
    refine lv_aload_n hx hb dX2_makeStep_68 rfl (lv_at hl 0 rfl) ?_
    refine g_get hC hP 0 dX2_makeStep_69 (by decide) ge_15 rfl inX2 (by decide) rfl u_1_115 ?_
    refine lv_iload_n hx hb dX2_makeStep_72 rfl (lv_at hl 1 rfl) ?_
    refine lv_iload_n hx hb dX2_makeStep_73 rfl (lv_at hl 2 rfl) ?_
    obtain ⟨T9, hv, h⟩ := bd1_e h
    refine g_kv (g_runV (As := [.int x2_x15, .int x3_x15]) (rest := []) hC hP (c3_moveTo l hv) (by decide) ge_1 rfl u_2_77 yv_X3_moveTo (Nat.le_of_ble_eq_true rfl) rfl hl.1 rfl (Nat.le_of_ble_eq_true rfl) dX2_makeStep_74 ⟨by decide, by decide⟩) hS (fun H locs hP hS => ?_)
    refine lv_iconst (v := 1) hx hb dX2_makeStep_77 (by decide) ?_
    have hz : zz 1 = some 1 := rfl
    cases h
    exact g_zret hC hP hS dX2_makeStep_78 hz rfl
  · rw [if_pos c8] at h
    refine lv_iconst (v := 0) hx hb dX2_makeStep_66 (by decide) ?_
    have hz : zz 0 = some 0 := rfl
    cases h
    exact g_zret hC hP hS dX2_makeStep_67 hz rfl
