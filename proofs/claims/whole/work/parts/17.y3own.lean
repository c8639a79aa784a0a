/-! text that is built: the builder's own methods -/
theorem cp_gt {n : Nat} (h : n < 34) : n < cp (n + 1) := by unfold cp; split <;> omega
theorem cp_ge {n : Nat} (h : n ≤ 34) : n ≤ cp n := by unfold cp; split <;> omega
theorem cp_le (n : Nat) : cp n ≤ 34 := by unfold cp; split <;> decide
set_option maxHeartbeats 4000000 in
set_option maxRecDepth 100000 in
theorem c5_init (l : Launch) {γ : GA} {sz : Nat} {o : Nat}  : Met l yJ5_init_d00df (gU yJ5_init_d00df cJ5_init_d00df 2 (none)) (gR 1 1 16) (jPc γ [.ref o, .int 16] sz (jn o)) (jQv γ (va_A (jn o) sz) (fun _ : Nat => True) (fun v => jw γ o v 16 0 (fun _ => 0))) 1 16 (va_A (jn o) sz) := by
  refine j_met (fun A => jQv γ A (fun _ : Nat => True) (fun v => jw γ o v 16 0 (fun _ => 0))) (by decide) (Nat.le_of_ble_eq_true rfl) ?_
  intro p e s m args below meth c ls A hAe hmn hC hZ hA hP hD hS hl
  have hx := hC.x
  have hb := hC.b
  have hl : lv_has ls 2 [(0, .ref o), (1, .int 16)] := hl
  refine lv_aload_n hx hb dJ5_init_d00df_0 rfl (lv_at hl 0 rfl) ?_
  refine k_obj hC dJ5_init_d00df_1 hl.1 u_3_162 (Nat.le_of_ble_eq_true rfl) (Nat.le_of_ble_eq_true rfl) ?_
  refine va_gets hx hb hZ.2.2.1 hS hC.o (hC.w u_3_163) (fun _ h => h) dJ5_init_d00df_4 ?_
  refine lv_if_eq (tgt := 25) hx hb dJ5_init_d00df_7 (by decide) (fun c9 => absurd c9 (by decide)) (fun c9 => ?_)
  refine lv_aload_n hx hb dJ5_init_d00df_10 rfl (lv_at hl 0 rfl) ?_
  refine lv_iload_n hx hb dJ5_init_d00df_11 rfl (lv_at hl 1 rfl) ?_
  refine j_newB (N' := 16) hC hP hD hS hA dJ5_init_d00df_12 (by decide) rfl (by decide) (Nat.le_of_ble_eq_true rfl) (Nat.le_of_ble_eq_true rfl) (fun q H hP hD hS => ?_)
  have hP : va_P γ.1 vwCl ([(o, .inr (0, [.null, .int 0, .int 0, .int 0])), (q, .inl (gBy γ, 16, .inl (fun _ => 0)))]) H := hP
  have hD : va_D A ([(o, .inr (0, [.null, .int 0, .int 0, .int 0])), (q, .inl (gBy γ, 16, .inl (fun _ => 0)))]) := hD
  refine k_putI hC hP hD hS 0 0 tyJ4 dJ5_init_d00df_14 rfl rfl inJ4' tyJ4_ok nmJ4 (by decide) u_3_172 rfl rfl rfl rfl (Nat.le_of_ble_eq_true rfl) (fun H locs hP hD hS => ?_)
  have hP : va_P γ.1 vwCl (jw γ o q 16 0 (fun _ => 0)) H := hP
  have hD : va_D A (jw γ o q 16 0 (fun _ => 0)) := hD
  refine lv_aload_n hx hb dJ5_init_d00df_17 rfl (lv_at hl 0 rfl) ?_
  refine lv_iconst (v := 0) hx hb dJ5_init_d00df_18 (by decide) ?_
  refine k_putI hC hP hD hS 0 1 tyJ4 dJ5_init_d00df_19 rfl rfl inJ4' tyJ4_ok nmJ4 (by decide) u_3_173 rfl rfl rfl rfl (Nat.le_of_ble_eq_true rfl) (fun H locs hP hD hS => ?_)
  have hP : va_P γ.1 vwCl (jw γ o q 16 0 (fun _ => 0)) H := hP
  have hD : va_D A (jw γ o q 16 0 (fun _ => 0)) := hD
  refine lv_goto (tgt := 38) hx hb dJ5_init_d00df_22 (by decide) ?_
  exact j_vret hC q trivial hP hD hS dJ5_init_d00df_38
set_option maxHeartbeats 4000000 in
set_option maxRecDepth 100000 in
theorem c4_init (l : Launch) {γ : GA} {sz : Nat} {o : Nat}  : Met l yJ4_init_da8c8 (gU yJ4_init_da8c8 cJ4_init_da8c8 1 (none)) (gR 2 1 16) (jPc γ [.ref o] sz (jn o)) (jQv γ (va_A (jn o) sz) (fun _ : Nat => True) (fun v => jw γ o v 16 0 (fun _ => 0))) 1 16 (va_A (jn o) sz) := by
  refine j_met (fun A => jQv γ A (fun _ : Nat => True) (fun v => jw γ o v 16 0 (fun _ => 0))) (by decide) (Nat.le_of_ble_eq_true rfl) ?_
  intro p e s m args below meth c ls A hAe hmn hC hZ hA hP hD hS hl
  have hx := hC.x
  have hb := hC.b
  have hl : lv_has ls 1 [(0, .ref o)] := hl
  refine lv_aload_n hx hb dJ4_init_da8c8_0 rfl (lv_at hl 0 rfl) ?_
  refine lv_bipush (v := 16) hx hb dJ4_init_da8c8_1 (by decide) ?_
  refine j_gov (ws := []) (wb := (jn o)) (j_runI (As := [.int 16]) (rest := []) (ws := []) (wb := (jn o)) hC hZ hA hP hD hS (c5_init l) u_3_159 yi_J5_init (Nat.le_of_ble_eq_true rfl) rfl hl.1 rfl (Nat.le_of_ble_eq_true rfl) dJ4_init_da8c8_3 ⟨Nat.le_of_ble_eq_true rfl, Nat.le_of_ble_eq_true rfl⟩) hP hD hS hA (fun q H locs _ hP hD hS => ?_)
  have hP : va_P γ.1 vwCl (jw γ o q 16 0 (fun _ => 0)) H := hP
  have hD : va_D A (jw γ o q 16 0 (fun _ => 0)) := hD
  exact j_vret hC q trivial hP hD hS dJ4_init_da8c8_6
set_option maxHeartbeats 4000000 in
set_option maxRecDepth 100000 in
theorem c5_appC (l : Launch) {γ : GA} {sz : Nat} {o v k : Nat} {cs : List Int32} {f : Nat → Int32} (hk : k < 128) (hn : cs.length < 34) (ht : tx cs f) : Met l yJ5_append_3fe6f (gU yJ5_append_3fe6f cJ5_append_3fe6f 2 (some (.object "java/lang/AbstractStringBuilder"))) (gR 4 (kc (cs.length + 1) - kc cs.length) (34 * (kc (cs.length + 1) - kc cs.length))) (jPc γ [.ref o, .int (nI k)] sz (jw γ o v (cp cs.length) cs.length f)) (jQr γ (va_A (jw γ o v (cp cs.length) cs.length f) sz) (fun u : Nat × (Nat → Int32) => tx (cs ++ [nI k]) u.2) (fun _ q => q = o) (fun u _ => jw γ o u.1 (cp (cs.length + 1)) (cs.length + 1) u.2)) (kc (cs.length + 1) - kc cs.length) (34 * (kc (cs.length + 1) - kc cs.length)) (va_A (jw γ o v (cp cs.length) cs.length f) sz) := by
  refine j_met (fun A => jQr γ A (fun u : Nat × (Nat → Int32) => tx (cs ++ [nI k]) u.2) (fun _ q => q = o) (fun u _ => jw γ o u.1 (cp (cs.length + 1)) (cs.length + 1) u.2)) (by decide) (Nat.le_of_ble_eq_true rfl) ?_
  intro p e s m args below meth c ls A hAe hmn hC hZ hA hP hD hS hl
  have hx := hC.x
  have hb := hC.b
  have hl : lv_has ls 2 [(0, .ref o), (1, .int (nI k))] := hl
  refine lv_aload_n hx hb dJ5_append_3fe6f_0 rfl (lv_at hl 0 rfl) ?_
  refine lv_aload_n hx hb dJ5_append_3fe6f_1 rfl (lv_at hl 0 rfl) ?_
  refine k_get hC hP 0 3 dJ5_append_3fe6f_2 rfl rfl inJ4' (by decide) rfl u_3_174 ?_
  refine lv_iconst (v := 1) hx hb dJ5_append_3fe6f_5 (by decide) ?_
  refine lv_iadd hx hb dJ5_append_3fe6f_6 ?_
  refine lv_topi (fun y9 e9 => ?_)
  obtain rfl : y9 = (nI (cs.length + 1)) := e9.trans (nI_1 _)
  clear e9
  refine j_gov (ws := []) (wb := (jw γ o v (cp cs.length) cs.length f)) (j_runU (As := [.int (nI (cs.length + 1))]) (rest := []) (ws := []) (wb := (jw γ o v (cp cs.length) cs.length f)) hC hZ hA hP hD hS 0 (c5_ens l (k := cs.length + 1) (by omega) (by omega) ht) rfl u_3_194 yu_J5_ens (va_Nw.use rfl hZ.2.2.2.2.2.2.1) (Nat.le_of_ble_eq_true rfl) rfl hl.1 rfl (Nat.le_of_ble_eq_true rfl) dJ5_append_3fe6f_7 ⟨by omega, by omega⟩) hP hD hS hA (fun u H locs ht hP hD hS => ?_)
  obtain ⟨w, g⟩ := u
  have hP : va_P γ.1 vwCl (jw γ o w (cp (cs.length + 1)) cs.length g) H := hP
  have hD : va_D A (jw γ o w (cp (cs.length + 1)) cs.length g) := hD
  have ht : tx cs g := ht
  refine lv_aload_n hx hb dJ5_append_3fe6f_10 rfl (lv_at hl 0 rfl) ?_
  refine j_gok (ws := []) (wb := (jw γ o w (cp (cs.length + 1)) cs.length g)) (j_runU (As := []) (rest := []) (ws := []) (wb := (jw γ o w (cp (cs.length + 1)) cs.length g)) hC hZ hA hP hD hS 0 (c5_isLatin1 l) rfl u_3_225 yu_J5_isLatin1 (hC.w u_3_228) (Nat.le_of_ble_eq_true rfl) rfl hl.1 rfl (Nat.le_of_ble_eq_true rfl) dJ5_append_3fe6f_11 ⟨by omega, by omega⟩) hP hD hS hA (fun H locs hP hD hS => ?_)
  have hP : va_P γ.1 vwCl (jw γ o w (cp (cs.length + 1)) cs.length g) H := hP
  have hD : va_D A (jw γ o w (cp (cs.length + 1)) cs.length g) := hD
  refine lv_if_eq (tgt := 45) hx hb dJ5_append_3fe6f_14 (by decide) (fun c9 => absurd c9 (by decide)) (fun c9 => ?_)
  refine lv_iload_n hx hb dJ5_append_3fe6f_17 rfl (lv_at hl 1 rfl) ?_
  refine j_gok (ws := []) (wb := (jw γ o w (cp (cs.length + 1)) cs.length g)) (j_runS (As := [.int (nI k)]) (rest := []) (ws := []) (wb := (jw γ o w (cp (cs.length + 1)) cs.length g)) hC hZ hA hP hD hS (c1_canEncode l (nb7 k hk)) u_4_36 yv_J1_canEncode (Nat.le_of_ble_eq_true rfl) rfl hl.1 rfl (Nat.le_of_ble_eq_true rfl) dJ5_append_3fe6f_18 ⟨by omega, by omega⟩) hP hD hS hA (fun H locs hP hD hS => ?_)
  have hP : va_P γ.1 vwCl (jw γ o w (cp (cs.length + 1)) cs.length g) H := hP
  have hD : va_D A (jw γ o w (cp (cs.length + 1)) cs.length g) := hD
  refine lv_if_eq (tgt := 45) hx hb dJ5_append_3fe6f_21 (by decide) (fun c9 => absurd c9 (by decide)) (fun c9 => ?_)
  refine lv_aload_n hx hb dJ5_append_3fe6f_24 rfl (lv_at hl 0 rfl) ?_
  refine k_get hC hP 0 0 dJ5_append_3fe6f_25 rfl rfl inJ4' (by decide) rfl u_3_172 ?_
  refine lv_aload_n hx hb dJ5_append_3fe6f_28 rfl (lv_at hl 0 rfl) ?_
  refine lv_dup hx hb dJ5_append_3fe6f_29 rfl ?_
  refine k_get hC hP 0 3 dJ5_append_3fe6f_30 rfl rfl inJ4' (by decide) rfl u_3_174 ?_
  refine lv_dup_x1 hx hb dJ5_append_3fe6f_33 rfl rfl ?_
  refine lv_iconst (v := 1) hx hb dJ5_append_3fe6f_34 (by decide) ?_
  refine lv_iadd hx hb dJ5_append_3fe6f_35 ?_
  refine lv_topi (fun y9 e9 => ?_)
  obtain rfl : y9 = (nI (cs.length + 1)) := e9.trans (nI_1 _)
  clear e9
  refine k_putI hC hP hD hS 0 3 tyJ4 dJ5_append_3fe6f_36 rfl rfl inJ4' tyJ4_ok nmJ4 (by decide) u_3_174 rfl rfl rfl rfl (Nat.le_of_ble_eq_true rfl) (fun H locs hP hD hS => ?_)
  have hP : va_P γ.1 vwCl (jw γ o w (cp (cs.length + 1)) (cs.length + 1) g) H := hP
  have hD : va_D A (jw γ o w (cp (cs.length + 1)) (cs.length + 1) g) := hD
  refine lv_iload_n hx hb dJ5_append_3fe6f_39 rfl (lv_at hl 1 rfl) ?_
  refine lv_i2b hx hb dJ5_append_3fe6f_40 (nb3 k hk) ?_
  refine va_bast hx hb hC.k hP hD hS 1 4 rfl rfl (nI_in (cp_gt hn) (by have := cp_le (cs.length + 1); omega)) dJ5_append_3fe6f_41 (fun H locs hP hD hS => ?_)
  rw [nI_clamp (by omega), nb1 _ hk] at hP hD
  have hP : va_P γ.1 vwCl (jw γ o w (cp (cs.length + 1)) (cs.length + 1) (upd g cs.length (nI k))) H := hP
  have hD : va_D A (jw γ o w (cp (cs.length + 1)) (cs.length + 1) (upd g cs.length (nI k))) := hD
  refine lv_goto (tgt := 75) hx hb dJ5_append_3fe6f_42 (by decide) ?_
  refine lv_aload_n hx hb dJ5_append_3fe6f_75 rfl (lv_at hl 0 rfl) ?_
  refine W.widen (k := kc (cs.length + 1) - kc cs.length) (n := 34 * (kc (cs.length + 1) - kc cs.length)) (by omega) (by omega) ?_
  exact j_aret hC (Or.inl ⟨_, rfl⟩) (w, upd g cs.length (nI k)) (tx_put ht hn hk) rfl hP hD hS dJ5_append_3fe6f_76
set_option maxHeartbeats 4000000 in
set_option maxRecDepth 100000 in
theorem c4_appC (l : Launch) {γ : GA} {sz : Nat} {o v k : Nat} {cs : List Int32} {f : Nat → Int32} (hk : k < 128) (hn : cs.length < 34) (ht : tx cs f) : Met l yJ4_append_cf468 (gU yJ4_append_cf468 cJ4_append_cf468 2 (some (.object "java/lang/StringBuilder"))) (gR 5 (kc (cs.length + 1) - kc cs.length) (34 * (kc (cs.length + 1) - kc cs.length))) (jPc γ [.ref o, .int (nI k)] sz (jw γ o v (cp cs.length) cs.length f)) (jQr γ (va_A (jw γ o v (cp cs.length) cs.length f) sz) (fun u : Nat × (Nat → Int32) => tx (cs ++ [nI k]) u.2) (fun _ q => q = o) (fun u _ => jw γ o u.1 (cp (cs.length + 1)) (cs.length + 1) u.2)) (kc (cs.length + 1) - kc cs.length) (34 * (kc (cs.length + 1) - kc cs.length)) (va_A (jw γ o v (cp cs.length) cs.length f) sz) := by
  refine j_met (fun A => jQr γ A (fun u : Nat × (Nat → Int32) => tx (cs ++ [nI k]) u.2) (fun _ q => q = o) (fun u _ => jw γ o u.1 (cp (cs.length + 1)) (cs.length + 1) u.2)) (by decide) (Nat.le_of_ble_eq_true rfl) ?_
  intro p e s m args below meth c ls A hAe hmn hC hZ hA hP hD hS hl
  have hx := hC.x
  have hb := hC.b
  have hl : lv_has ls 2 [(0, .ref o), (1, .int (nI k))] := hl
  refine lv_aload_n hx hb dJ4_append_cf468_0 rfl (lv_at hl 0 rfl) ?_
  refine lv_iload_n hx hb dJ4_append_cf468_1 rfl (lv_at hl 1 rfl) ?_
  refine j_gor (ws := []) (wb := (jw γ o v (cp cs.length) cs.length f)) (j_runSU (As := [.int (nI k)]) (rest := []) (ws := []) (wb := (jw γ o v (cp cs.length) cs.length f)) hC hZ hA hP hD hS 0 (c5_appC l hk hn ht) rfl u_4_33 yu_J5_appC u_3_183 (by decide) (Nat.le_of_ble_eq_true rfl) rfl hl.1 rfl (Nat.le_of_ble_eq_true rfl) dJ4_append_cf468_2 ⟨by omega, by omega⟩) hP hD hS hA (fun u q H locs ht hq hP hD hS => ?_)
  subst hq
  refine lv_pop hx hb dJ4_append_cf468_5 rfl ?_
  refine lv_aload_n hx hb dJ4_append_cf468_6 rfl (lv_at hl 0 rfl) ?_
  refine W.widen (k := kc (cs.length + 1) - kc cs.length) (n := 34 * (kc (cs.length + 1) - kc cs.length)) (by omega) (by omega) ?_
  exact j_aret hC (Or.inl ⟨_, rfl⟩) u ht rfl hP hD hS dJ4_append_cf468_7
set_option maxHeartbeats 4000000 in
set_option maxRecDepth 100000 in
theorem c5_appI (l : Launch) {γ : GA} {sz : Nat} {o v k : Nat} {cs : List Int32} {f : Nat → Int32} (hk : k < 100) (hn : cs.length + dl k ≤ 34) (ht : tx cs f) : Met l yJ5_append_c97b9 (gU yJ5_append_c97b9 cJ5_append_c97b9 4 (some (.object "java/lang/AbstractStringBuilder"))) (gR 4 (kc (cs.length + dl k) - kc cs.length) (34 * (kc (cs.length + dl k) - kc cs.length))) (jPc γ [.ref o, .int (nI k)] sz (jw γ o v (cp cs.length) cs.length f)) (jQr γ (va_A (jw γ o v (cp cs.length) cs.length f) sz) (fun u : Nat × (Nat → Int32) => tx (cs ++ dd k) u.2) (fun _ q => q = o) (fun u _ => jw γ o u.1 (cp (cs.length + dl k)) (cs.length + dl k) u.2)) (kc (cs.length + dl k) - kc cs.length) (34 * (kc (cs.length + dl k) - kc cs.length)) (va_A (jw γ o v (cp cs.length) cs.length f) sz) := by
  refine j_met (fun A => jQr γ A (fun u : Nat × (Nat → Int32) => tx (cs ++ dd k) u.2) (fun _ q => q = o) (fun u _ => jw γ o u.1 (cp (cs.length + dl k)) (cs.length + dl k) u.2)) (by decide) (Nat.le_of_ble_eq_true rfl) ?_
  intro p e s m args below meth c ls A hAe hmn hC hZ hA hP hD hS hl
  have hx := hC.x
  have hb := hC.b
  have hl : lv_has ls 4 [(0, .ref o), (1, .int (nI k))] := hl
  refine lv_aload_n hx hb dJ5_append_c97b9_0 rfl (lv_at hl 0 rfl) ?_
  refine k_get hC hP 0 3 dJ5_append_c97b9_1 rfl rfl inJ4' (by decide) rfl u_3_174 ?_
  refine lv_istore_n (lv' := [(2, .int (nI cs.length)), (0, .ref o), (1, .int (nI k))]) hx hb dJ5_append_c97b9_4 rfl hl (by decide) rfl (fun ls hl => ?_)
  refine lv_iload_n hx hb dJ5_append_c97b9_5 rfl (lv_at hl 0 rfl) ?_
  refine lv_iload_n hx hb dJ5_append_c97b9_6 rfl (lv_at hl 2 rfl) ?_
  refine j_gok (ws := []) (wb := (jw γ o v (cp cs.length) cs.length f)) (j_runS (As := [.int (nI k)]) (rest := [.int (nI cs.length)]) (ws := []) (wb := (jw γ o v (cp cs.length) cs.length f)) hC hZ hA hP hD hS (c6_stringSize l hk) u_3_191 yv_J6_stringSize (Nat.le_of_ble_eq_true rfl) rfl hl.1 rfl (Nat.le_of_ble_eq_true rfl) dJ5_append_c97b9_7 ⟨by omega, by omega⟩) hP hD hS hA (fun H locs hP hD hS => ?_)
  have hP : va_P γ.1 vwCl (jw γ o v (cp cs.length) cs.length f) H := hP
  have hD : va_D A (jw γ o v (cp cs.length) cs.length f) := hD
  refine lv_iadd hx hb dJ5_append_c97b9_10 ?_
  refine lv_topi (fun y9 e9 => ?_)
  obtain rfl : y9 = (nI (cs.length + dl k)) := e9.trans (nI_add _ _)
  clear e9
  refine lv_istore_n (lv' := [(3, .int (nI (cs.length + dl k))), (2, .int (nI cs.length)), (0, .ref o), (1, .int (nI k))]) hx hb dJ5_append_c97b9_11 rfl hl (by decide) rfl (fun ls hl => ?_)
  refine lv_aload_n hx hb dJ5_append_c97b9_12 rfl (lv_at hl 2 rfl) ?_
  refine lv_iload_n hx hb dJ5_append_c97b9_13 rfl (lv_at hl 0 rfl) ?_
  refine j_gov (ws := []) (wb := (jw γ o v (cp cs.length) cs.length f)) (j_runU (As := [.int (nI (cs.length + dl k))]) (rest := []) (ws := []) (wb := (jw γ o v (cp cs.length) cs.length f)) hC hZ hA hP hD hS 0 (c5_ens l (k := cs.length + dl k) (by omega) (by omega) ht) rfl u_3_194 yu_J5_ens (va_Nw.use rfl hZ.2.2.2.2.2.2.1) (Nat.le_of_ble_eq_true rfl) rfl hl.1 rfl (Nat.le_of_ble_eq_true rfl) dJ5_append_c97b9_14 ⟨by omega, by omega⟩) hP hD hS hA (fun u H locs ht hP hD hS => ?_)
  obtain ⟨w, g⟩ := u
  have hP : va_P γ.1 vwCl (jw γ o w (cp (cs.length + dl k)) cs.length g) H := hP
  have hD : va_D A (jw γ o w (cp (cs.length + dl k)) cs.length g) := hD
  have ht : tx cs g := ht
  refine lv_aload_n hx hb dJ5_append_c97b9_17 rfl (lv_at hl 2 rfl) ?_
  refine j_gok (ws := []) (wb := (jw γ o w (cp (cs.length + dl k)) cs.length g)) (j_runU (As := []) (rest := []) (ws := []) (wb := (jw γ o w (cp (cs.length + dl k)) cs.length g)) hC hZ hA hP hD hS 0 (c5_isLatin1 l) rfl u_3_225 yu_J5_isLatin1 (hC.w u_3_228) (Nat.le_of_ble_eq_true rfl) rfl hl.1 rfl (Nat.le_of_ble_eq_true rfl) dJ5_append_c97b9_18 ⟨by omega, by omega⟩) hP hD hS hA (fun H locs hP hD hS => ?_)
  have hP : va_P γ.1 vwCl (jw γ o w (cp (cs.length + dl k)) cs.length g) H := hP
  have hD : va_D A (jw γ o w (cp (cs.length + dl k)) cs.length g) := hD
  refine lv_if_eq (tgt := 37) hx hb dJ5_append_c97b9_21 (by decide) (fun c9 => absurd c9 (by decide)) (fun c9 => ?_)
  refine lv_iload_n hx hb dJ5_append_c97b9_24 rfl (lv_at hl 3 rfl) ?_
  refine lv_iload_n hx hb dJ5_append_c97b9_25 rfl (lv_at hl 0 rfl) ?_
  refine lv_aload_n hx hb dJ5_append_c97b9_26 rfl (lv_at hl 2 rfl) ?_
  refine k_get hC hP 0 0 dJ5_append_c97b9_27 rfl rfl inJ4' (by decide) rfl u_3_172 ?_
  refine j_gok (ws := []) (wb := (jw γ o w (cp (cs.length + dl k)) cs.length g)) (j_runS (As := [.int (nI k), .int (nI (cs.length + dl k)), .ref w]) (rest := []) (ws := []) (wb := (jw γ o w (cp (cs.length + dl k)) cs.length g)) hC hZ hA hP hD hS (c6_getChars l hk (cp_ge hn) (cp_le _)) u_3_230 yv_J6_getChars (Nat.le_of_ble_eq_true rfl) rfl hl.1 rfl (Nat.le_of_ble_eq_true rfl) dJ5_append_c97b9_30 ⟨by omega, by omega⟩) hP hD hS hA (fun H locs hP hD hS => ?_)
  have hP : va_P γ.1 vwCl (jw γ o w (cp (cs.length + dl k)) cs.length (gch cs.length k g)) H := hP
  have hD : va_D A (jw γ o w (cp (cs.length + dl k)) cs.length (gch cs.length k g)) := hD
  refine lv_pop hx hb dJ5_append_c97b9_33 rfl ?_
  refine lv_goto (tgt := 48) hx hb dJ5_append_c97b9_34 (by decide) ?_
  refine lv_aload_n hx hb dJ5_append_c97b9_48 rfl (lv_at hl 2 rfl) ?_
  refine lv_iload_n hx hb dJ5_append_c97b9_49 rfl (lv_at hl 0 rfl) ?_
  refine k_putI hC hP hD hS 0 3 tyJ4 dJ5_append_c97b9_50 rfl rfl inJ4' tyJ4_ok nmJ4 (by decide) u_3_174 rfl rfl rfl rfl (Nat.le_of_ble_eq_true rfl) (fun H locs hP hD hS => ?_)
  have hP : va_P γ.1 vwCl (jw γ o w (cp (cs.length + dl k)) (cs.length + dl k) (gch cs.length k g)) H := hP
  have hD : va_D A (jw γ o w (cp (cs.length + dl k)) (cs.length + dl k) (gch cs.length k g)) := hD
  refine lv_aload_n hx hb dJ5_append_c97b9_53 rfl (lv_at hl 2 rfl) ?_
  refine W.widen (k := kc (cs.length + dl k) - kc cs.length) (n := 34 * (kc (cs.length + dl k) - kc cs.length)) (by omega) (by omega) ?_
  exact j_aret hC (Or.inl ⟨_, rfl⟩) (w, gch cs.length k g) (tx_gch ht hn hk) rfl hP hD hS dJ5_append_c97b9_54
set_option maxHeartbeats 4000000 in
set_option maxRecDepth 100000 in
theorem c4_appI (l : Launch) {γ : GA} {sz : Nat} {o v k : Nat} {cs : List Int32} {f : Nat → Int32} (hk : k < 100) (hn : cs.length + dl k ≤ 34) (ht : tx cs f) : Met l yJ4_append_bf812 (gU yJ4_append_bf812 cJ4_append_bf812 2 (some (.object "java/lang/StringBuilder"))) (gR 5 (kc (cs.length + dl k) - kc cs.length) (34 * (kc (cs.length + dl k) - kc cs.length))) (jPc γ [.ref o, .int (nI k)] sz (jw γ o v (cp cs.length) cs.length f)) (jQr γ (va_A (jw γ o v (cp cs.length) cs.length f) sz) (fun u : Nat × (Nat → Int32) => tx (cs ++ dd k) u.2) (fun _ q => q = o) (fun u _ => jw γ o u.1 (cp (cs.length + dl k)) (cs.length + dl k) u.2)) (kc (cs.length + dl k) - kc cs.length) (34 * (kc (cs.length + dl k) - kc cs.length)) (va_A (jw γ o v (cp cs.length) cs.length f) sz) := by
  refine j_met (fun A => jQr γ A (fun u : Nat × (Nat → Int32) => tx (cs ++ dd k) u.2) (fun _ q => q = o) (fun u _ => jw γ o u.1 (cp (cs.length + dl k)) (cs.length + dl k) u.2)) (by decide) (Nat.le_of_ble_eq_true rfl) ?_
  intro p e s m args below meth c ls A hAe hmn hC hZ hA hP hD hS hl
  have hx := hC.x
  have hb := hC.b
  have hl : lv_has ls 2 [(0, .ref o), (1, .int (nI k))] := hl
  refine lv_aload_n hx hb dJ4_append_bf812_0 rfl (lv_at hl 0 rfl) ?_
  refine lv_iload_n hx hb dJ4_append_bf812_1 rfl (lv_at hl 1 rfl) ?_
  refine j_gor (ws := []) (wb := (jw γ o v (cp cs.length) cs.length f)) (j_runSU (As := [.int (nI k)]) (rest := []) (ws := []) (wb := (jw γ o v (cp cs.length) cs.length f)) hC hZ hA hP hD hS 0 (c5_appI l hk hn ht) rfl u_3_188 yu_J5_appI u_3_183 (by decide) (Nat.le_of_ble_eq_true rfl) rfl hl.1 rfl (Nat.le_of_ble_eq_true rfl) dJ4_append_bf812_2 ⟨by omega, by omega⟩) hP hD hS hA (fun u q H locs ht hq hP hD hS => ?_)
  subst hq
  refine lv_pop hx hb dJ4_append_bf812_5 rfl ?_
  refine lv_aload_n hx hb dJ4_append_bf812_6 rfl (lv_at hl 0 rfl) ?_
  refine W.widen (k := kc (cs.length + dl k) - kc cs.length) (n := 34 * (kc (cs.length + dl k) - kc cs.length)) (by omega) (by omega) ?_
  exact j_aret hC (Or.inl ⟨_, rfl⟩) u ht rfl hP hD hS dJ4_append_bf812_7
set_option maxHeartbeats 4000000 in
set_option maxRecDepth 100000 in
theorem c5_length (l : Launch) {γ : GA} {sz : Nat} {o v cap n : Nat} {f : Nat → Int32}  : Met l yJ5_length_8abf5 (gU yJ5_length_8abf5 cJ5_length_8abf5 1 (some .int)) (gR 0 0 0) (jPc γ [.ref o] sz (jw γ o v cap n f)) (jK γ (va_A (jw γ o v cap n f) sz) (nI n) (jw γ o v cap n f)) 0 0 (va_A (jw γ o v cap n f) sz) := by
  refine j_met (fun A => jK γ A (nI n) (jw γ o v cap n f)) (by decide) (Nat.le_of_ble_eq_true rfl) ?_
  intro p e s m args below meth c ls A hAe hmn hC hZ hA hP hD hS hl
  have hx := hC.x
  have hb := hC.b
  have hl : lv_has ls 1 [(0, .ref o)] := hl
  refine lv_aload_n hx hb dJ5_length_8abf5_0 rfl (lv_at hl 0 rfl) ?_
  refine k_get hC hP 0 3 dJ5_length_8abf5_1 rfl rfl inJ4' (by decide) rfl u_3_174 ?_
  exact j_iret hC hP hD hS dJ5_length_8abf5_4 rfl
set_option maxHeartbeats 4000000 in
set_option maxRecDepth 100000 in
theorem c4_length (l : Launch) {γ : GA} {sz : Nat} {o v cap n : Nat} {f : Nat → Int32}  : Met l yJ4_length_8abf5 (gU yJ4_length_8abf5 cJ4_length_8abf5 1 (some .int)) (gR 1 0 0) (jPc γ [.ref o] sz (jw γ o v cap n f)) (jK γ (va_A (jw γ o v cap n f) sz) (nI n) (jw γ o v cap n f)) 0 0 (va_A (jw γ o v cap n f) sz) := by
  refine j_met (fun A => jK γ A (nI n) (jw γ o v cap n f)) (by decide) (Nat.le_of_ble_eq_true rfl) ?_
  intro p e s m args below meth c ls A hAe hmn hC hZ hA hP hD hS hl
  have hx := hC.x
  have hb := hC.b
  have hl : lv_has ls 1 [(0, .ref o)] := hl
  refine lv_aload_n hx hb dJ4_length_8abf5_0 rfl (lv_at hl 0 rfl) ?_
  refine j_gok (ws := []) (wb := (jw γ o v cap n f)) (j_runSU (As := []) (rest := []) (ws := []) (wb := (jw γ o v cap n f)) hC hZ hA hP hD hS 0 (c5_length l) rfl u_4_74 yu_J5_length u_3_183 (by decide) (Nat.le_of_ble_eq_true rfl) rfl hl.1 rfl (Nat.le_of_ble_eq_true rfl) dJ4_length_8abf5_1 ⟨by decide, by decide⟩) hP hD hS hA (fun H locs hP hD hS => ?_)
  exact j_iret hC hP hD hS dJ4_length_8abf5_4 rfl
set_option maxHeartbeats 4000000 in
set_option maxRecDepth 100000 in
theorem c3_checkIndex0 (l : Launch) {γ : GA} {sz : Nat} {wb : va_W} {i n : Nat} (hi : i < n) (hn : n < 64) : Met l yJ3_checkIndex_8e157 (gU yJ3_checkIndex_8e157 cJ3_checkIndex_8e157 3 (some .int)) (gR 0 0 0) (jPc γ [.int (nI i), .int (nI n), .null] sz (wb)) (jK γ (va_A (wb) sz) (nI i) wb) 0 0 (va_A (wb) sz) := by
  refine j_met (fun A => jK γ A (nI i) wb) (by decide) (Nat.le_of_ble_eq_true rfl) ?_
  intro p e s m args below meth c ls A hAe hmn hC hZ hA hP hD hS hl
  have hx := hC.x
  have hb := hC.b
  have hl : lv_has ls 3 [(0, .int (nI i)), (1, .int (nI n)), (2, .null)] := hl
  refine lv_iload_n hx hb dJ3_checkIndex_8e157_0 rfl (lv_at hl 0 rfl) ?_
  refine lv_if_lt (tgt := 9) hx hb dJ3_checkIndex_8e157_1 (by decide) (fun c9 => absurd c9 (nI_pos (by omega))) (fun c9 => ?_)
  refine lv_iload_n hx hb dJ3_checkIndex_8e157_4 rfl (lv_at hl 0 rfl) ?_
  refine lv_iload_n hx hb dJ3_checkIndex_8e157_5 rfl (lv_at hl 1 rfl) ?_
  refine lv_icmp_lt (tgt := 16) hx hb dJ3_checkIndex_8e157_6 (by decide) (fun c9 => ?_) (fun c9 => absurd (nI_lt hi (by omega)) c9)
  refine lv_iload_n hx hb dJ3_checkIndex_8e157_16 rfl (lv_at hl 0 rfl) ?_
  exact j_iret hC hP hD hS dJ3_checkIndex_8e157_17 rfl
set_option maxHeartbeats 4000000 in
set_option maxRecDepth 100000 in
theorem c3_checkIndexR (l : Launch) {γ : GA} {sz : Nat} {wb : va_W} {i n : Nat} {t : Nat} (hi : i < n) (hn : n < 64) : Met l yJ3_checkIndex_8e157 (gU yJ3_checkIndex_8e157 cJ3_checkIndex_8e157 3 (some .int)) (gR 0 0 0) (jPc γ [.int (nI i), .int (nI n), .ref t] sz (wb)) (jK γ (va_A (wb) sz) (nI i) wb) 0 0 (va_A (wb) sz) := by
  refine j_met (fun A => jK γ A (nI i) wb) (by decide) (Nat.le_of_ble_eq_true rfl) ?_
  intro p e s m args below meth c ls A hAe hmn hC hZ hA hP hD hS hl
  have hx := hC.x
  have hb := hC.b
  have hl : lv_has ls 3 [(0, .int (nI i)), (1, .int (nI n)), (2, .ref t)] := hl
  refine lv_iload_n hx hb dJ3_checkIndex_8e157_0 rfl (lv_at hl 0 rfl) ?_
  refine lv_if_lt (tgt := 9) hx hb dJ3_checkIndex_8e157_1 (by decide) (fun c9 => absurd c9 (nI_pos (by omega))) (fun c9 => ?_)
  refine lv_iload_n hx hb dJ3_checkIndex_8e157_4 rfl (lv_at hl 0 rfl) ?_
  refine lv_iload_n hx hb dJ3_checkIndex_8e157_5 rfl (lv_at hl 1 rfl) ?_
  refine lv_icmp_lt (tgt := 16) hx hb dJ3_checkIndex_8e157_6 (by decide) (fun c9 => ?_) (fun c9 => absurd (nI_lt hi (by omega)) c9)
  refine lv_iload_n hx hb dJ3_checkIndex_8e157_16 rfl (lv_at hl 0 rfl) ?_
  exact j_iret hC hP hD hS dJ3_checkIndex_8e157_17 rfl
set_option maxHeartbeats 4000000 in
set_option maxRecDepth 100000 in
theorem c0_checkIndex (l : Launch) {γ : GA} {sz : Nat} {wb : va_W} {i n : Nat} (hi : i < n) (hn : n < 64) : Met l yJ0_checkIndex_df160 (gU yJ0_checkIndex_df160 cJ0_checkIndex_df160 2 (none)) (gR 1 0 0) (jPc γ [.int (nI i), .int (nI n)] sz (wb)) (jV γ (va_A (wb) sz) wb) 0 0 (va_A (wb) sz) := by
  refine j_met (fun A => jV γ A wb) (by decide) (Nat.le_of_ble_eq_true rfl) ?_
  intro p e s m args below meth c ls A hAe hmn hC hZ hA hP hD hS hl
  have hx := hC.x
  have hb := hC.b
  have hl : lv_has ls 2 [(0, .int (nI i)), (1, .int (nI n))] := hl
  refine lv_iload_n hx hb dJ0_checkIndex_df160_0 rfl (lv_at hl 0 rfl) ?_
  refine lv_iload_n hx hb dJ0_checkIndex_df160_1 rfl (lv_at hl 1 rfl) ?_
  rcases hZ.2.2.2.2.2.1 with hz | ⟨t, hz⟩
  · refine va_gets hx hb hz hS hC.o (hC.w u_4_9) (fun _ h => h) dJ0_checkIndex_df160_2 ?_
    refine j_gok (ws := []) (wb := wb) (j_runS (As := [.int (nI i), .int (nI n), .null]) (rest := []) (ws := []) (wb := wb) hC hZ hA hP hD hS (c3_checkIndex0 l hi hn) u_4_67 yv_J3_checkIndex (Nat.le_of_ble_eq_true rfl) rfl hl.1 rfl (Nat.le_of_ble_eq_true rfl) dJ0_checkIndex_df160_5 ⟨by decide, by decide⟩) hP hD hS hA (fun H locs hP hD hS => ?_)
    refine lv_pop hx hb dJ0_checkIndex_df160_8 rfl ?_
    exact j_vret hC () trivial hP hD hS dJ0_checkIndex_df160_9
  · refine va_gets hx hb hz hS hC.o (hC.w u_4_9) (fun _ h => h) dJ0_checkIndex_df160_2 ?_
    refine j_gok (ws := []) (wb := wb) (j_runS (As := [.int (nI i), .int (nI n), .ref t]) (rest := []) (ws := []) (wb := wb) hC hZ hA hP hD hS (c3_checkIndexR l hi hn) u_4_67 yv_J3_checkIndex (Nat.le_of_ble_eq_true rfl) rfl hl.1 rfl (Nat.le_of_ble_eq_true rfl) dJ0_checkIndex_df160_5 ⟨by decide, by decide⟩) hP hD hS hA (fun H locs hP hD hS => ?_)
    refine lv_pop hx hb dJ0_checkIndex_df160_8 rfl ?_
    exact j_vret hC () trivial hP hD hS dJ0_checkIndex_df160_9
set_option maxHeartbeats 4000000 in
set_option maxRecDepth 100000 in
theorem c5_charAt (l : Launch) {γ : GA} {sz : Nat} {o v cap n i k : Nat} {f : Nat → Int32} (hi : i < n) (hn : n ≤ cap) (hcap : cap ≤ 34) (hk : k < 128) (hf : f i = nI k) : Met l yJ5_charAt_5068e (gU yJ5_charAt_5068e cJ5_charAt_5068e 5 (some .char)) (gR 2 0 0) (jPc γ [.ref o, .int (nI i)] sz (jw γ o v cap n f)) (jK γ (va_A (jw γ o v cap n f) sz) (nI k) (jw γ o v cap n f)) 0 0 (va_A (jw γ o v cap n f) sz) := by
  refine j_met (fun A => jK γ A (nI k) (jw γ o v cap n f)) (by decide) (Nat.le_of_ble_eq_true rfl) ?_
  intro p e s m args below meth c ls A hAe hmn hC hZ hA hP hD hS hl
  have hx := hC.x
  have hb := hC.b
  have hl : lv_has ls 5 [(0, .ref o), (1, .int (nI i))] := hl
  refine lv_aload_n hx hb dJ5_charAt_5068e_0 rfl (lv_at hl 0 rfl) ?_
  refine k_get hC hP 0 1 dJ5_charAt_5068e_1 rfl rfl inJ4' (by decide) rfl u_3_173 ?_
  refine lv_istore_n (lv' := [(2, .int 0), (0, .ref o), (1, .int (nI i))]) hx hb dJ5_charAt_5068e_4 rfl hl (by decide) rfl (fun ls hl => ?_)
  refine lv_aload_n hx hb dJ5_charAt_5068e_5 rfl (lv_at hl 1 rfl) ?_
  refine k_get hC hP 0 0 dJ5_charAt_5068e_6 rfl rfl inJ4' (by decide) rfl u_3_172 ?_
  refine lv_astore_n (lv' := [(3, .ref v), (2, .int 0), (0, .ref o), (1, .int (nI i))]) hx hb dJ5_charAt_5068e_9 rfl hl (by decide) rfl (fun ls hl => ?_)
  refine lv_aload_n hx hb dJ5_charAt_5068e_10 rfl (lv_at hl 2 rfl) ?_
  refine k_get hC hP 0 3 dJ5_charAt_5068e_11 rfl rfl inJ4' (by decide) rfl u_3_174 ?_
  refine lv_aload_n hx hb dJ5_charAt_5068e_14 rfl (lv_at hl 0 rfl) ?_
  refine va_alen (v := nI cap) hx hb hC.k hP 1 4 rfl rfl rfl dJ5_charAt_5068e_15 ?_
  refine lv_iload_n hx hb dJ5_charAt_5068e_16 rfl (lv_at hl 1 rfl) ?_
  refine lv_ishr hx hb dJ5_charAt_5068e_17 ?_
  refine lv_topi (fun y9 e9 => ?_)
  obtain rfl : y9 = (nI cap) := e9.trans (sh2 cap (by omega))
  clear e9
  refine va_mmin hx hb (hC.1.2.2.1.trans hl.1.symm) hC.o (hC.w u_4_84) (hC.w u_1_239) (hC.w u_1_14) (hC.w u_2_0) (Nat.le_of_ble_eq_true rfl) (Nat.le_of_ble_eq_true rfl) (Nat.le_of_ble_eq_true rfl) (Nat.le_of_ble_eq_true rfl) dJ5_charAt_5068e_18 ?_
  refine lv_topi (fun y9 e9 => ?_)
  obtain rfl : y9 = nI n := e9.trans (if_neg (nI_nlt hn (by omega)))
  clear e9
  refine lv_istore (lv' := [(4, .int (nI n)), (3, .ref v), (2, .int 0), (0, .ref o), (1, .int (nI i))]) hx hb dJ5_charAt_5068e_21 hl (by decide) rfl (fun ls hl => ?_)
  refine lv_iload_n hx hb dJ5_charAt_5068e_23 rfl (lv_at hl 4 rfl) ?_
  refine lv_iload hx hb dJ5_charAt_5068e_24 (lv_at hl 0 rfl) ?_
  refine j_gov (ws := []) (wb := (jw γ o v cap n f)) (j_runS (As := [.int (nI i), .int (nI n)]) (rest := []) (ws := []) (wb := (jw γ o v cap n f)) hC hZ hA hP hD hS (c0_checkIndex l hi (by omega)) u_4_85 yv_J0_checkIndex (Nat.le_of_ble_eq_true rfl) rfl hl.1 rfl (Nat.le_of_ble_eq_true rfl) dJ5_charAt_5068e_26 ⟨by decide, by decide⟩) hP hD hS hA (fun _ H locs _ hP hD hS => ?_)
  have hP : va_P γ.1 vwCl (jw γ o v cap n f) H := hP
  have hD : va_D A (jw γ o v cap n f) := hD
  refine lv_iload_n hx hb dJ5_charAt_5068e_29 rfl (lv_at hl 2 rfl) ?_
  refine lv_if_ne (tgt := 42) hx hb dJ5_charAt_5068e_30 (by decide) (fun c9 => absurd rfl c9) (fun c9 => ?_)
  refine lv_aload_n hx hb dJ5_charAt_5068e_33 rfl (lv_at hl 1 rfl) ?_
  refine lv_iload_n hx hb dJ5_charAt_5068e_34 rfl (lv_at hl 4 rfl) ?_
  refine va_bald hx hb hC.k hP 1 4 rfl rfl (nI_in (show i < cap by omega) (by omega)) dJ5_charAt_5068e_35 ?_
  refine lv_topi (fun y9 e9 => ?_)
  obtain rfl : y9 = nI k := e9.trans (by rw [nI_clamp (by omega)]; exact hf)
  clear e9
  refine lv_sipush (v := 255) hx hb dJ5_charAt_5068e_36 (by decide) ?_
  refine lv_iand hx hb dJ5_charAt_5068e_39 ?_
  refine lv_topi (fun y9 e9 => ?_)
  obtain rfl : y9 = (nI k) := e9.trans (nb4 k hk)
  clear e9
  refine lv_i2c hx hb dJ5_charAt_5068e_40 (nb5 k hk) ?_
  exact j_zret hC (nb6 k hk) hP hD hS dJ5_charAt_5068e_41 rfl
set_option maxHeartbeats 4000000 in
set_option maxRecDepth 100000 in
theorem c4_charAt (l : Launch) {γ : GA} {sz : Nat} {o v cap n i k : Nat} {f : Nat → Int32} (hi : i < n) (hn : n ≤ cap) (hcap : cap ≤ 34) (hk : k < 128) (hf : f i = nI k) : Met l yJ4_charAt_5068e (gU yJ4_charAt_5068e cJ4_charAt_5068e 2 (some .char)) (gR 3 0 0) (jPc γ [.ref o, .int (nI i)] sz (jw γ o v cap n f)) (jK γ (va_A (jw γ o v cap n f) sz) (nI k) (jw γ o v cap n f)) 0 0 (va_A (jw γ o v cap n f) sz) := by
  refine j_met (fun A => jK γ A (nI k) (jw γ o v cap n f)) (by decide) (Nat.le_of_ble_eq_true rfl) ?_
  intro p e s m args below meth c ls A hAe hmn hC hZ hA hP hD hS hl
  have hx := hC.x
  have hb := hC.b
  have hl : lv_has ls 2 [(0, .ref o), (1, .int (nI i))] := hl
  refine lv_aload_n hx hb dJ4_charAt_5068e_0 rfl (lv_at hl 0 rfl) ?_
  refine lv_iload_n hx hb dJ4_charAt_5068e_1 rfl (lv_at hl 1 rfl) ?_
  refine j_gok (ws := []) (wb := (jw γ o v cap n f)) (j_runSU (As := [.int (nI i)]) (rest := []) (ws := []) (wb := (jw γ o v cap n f)) hC hZ hA hP hD hS 0 (c5_charAt l hi hn hcap hk hf) rfl u_4_81 yu_J5_charAt u_3_183 (by decide) (Nat.le_of_ble_eq_true rfl) rfl hl.1 rfl (Nat.le_of_ble_eq_true rfl) dJ4_charAt_5068e_2 ⟨by decide, by decide⟩) hP hD hS hA (fun H locs hP hD hS => ?_)
  exact j_zret hC (nb6 k hk) hP hD hS dJ4_charAt_5068e_5 rfl
