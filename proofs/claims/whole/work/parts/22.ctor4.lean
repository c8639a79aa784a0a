/-! the builder's constructor -/
theorem tabW_k {γ : GA} {a b : Nat → Nat} {T : OS} (h : ∀ k, k < 14 → a k = b k) : tabW γ a T = tabW γ b T := by
  unfold tabW
  refine List.map_congr_left (fun k hk => ?_)
  have hk := List.mem_range.mp hk
  have he : tabE γ a T k = tabE γ b T k := by
    cases k with
    | zero => simp only [tabE]; rw [h 1 (by omega), h 2 (by omega), h 3 (by omega), h 4 (by omega), h 5 (by omega), h 6 (by omega), h 7 (by omega), h 8 (by omega), h 9 (by omega), h 10 (by omega), h 11 (by omega), h 12 (by omega), h 13 (by omega)]
    | succ k => rfl
  rw [h k hk, he]
theorem plW_k {γ : GA} {t t' : Nat} {a b : Nat → Nat} {T : OS} (ht : t = t') (h : ∀ k, k < 4 → a k = b k) : plW γ t a T = plW γ t' b T := by
  unfold plW
  rw [ht, h 0 (by omega), h 1 (by omega), h 2 (by omega), h 3 (by omega)]
theorem txW_k {γ : GA} {a b : Nat → Nat} {T : OS} (h : ∀ k, k < 2 → a k = b k) : txW γ a T = txW γ b T := by
  unfold txW
  rw [h 0 (by omega), h 1 (by omega)]
theorem hiW_k {γ : GA} {a b : Nat → Nat} (h : ∀ k, k < 100 → a k = b k) : hiW γ a = hiW γ b := by
  have h1 : tabsW γ (fun j k => a (2 + 14 * j + k)) 7 = tabsW γ (fun j k => b (2 + 14 * j + k)) 7 := by
    unfold tabsW
    rw [List.flatMap_def, List.flatMap_def]
    congr 1
    refine List.map_congr_left (fun j hj => ?_)
    have hj := List.mem_range.mp hj
    exact tabW_k (fun k hk => h _ (by omega))
  have h2 : (fun j => if j < 7 then some (a (2 + 14 * j)) else none) = (fun j => if j < 7 then some (b (2 + 14 * j)) else none) := by
    funext j
    by_cases hj : j < 7
    · rw [if_pos hj, if_pos hj, h _ (by omega)]
    · rw [if_neg hj, if_neg hj]
  unfold hiW
  rw [h1, h2, h 0 (by omega), h 1 (by omega)]
/-- the builder's cells, at the addresses of the one world -/
def biW (γ : GA) (a : Nat → Nat) : va_W := (((([(a 0, .inr (5, [.ref (a 1), .ref (a 129), .ref (a 15), .ref (a 19), .ref (a 21), .int 0]))] ++ tabW γ (fun k => a (1 + k)) T0) ++ tabW γ (fun k => a (129 + k)) T0) ++ plW γ (a 1) (fun k => a (15 + k)) P0) ++ hiW γ (fun k => if k < 2 then a (19 + k) else a (29 + k))) ++ txW γ (fun k => a (21 + k)) X00
set_option maxHeartbeats 4000000 in
set_option maxRecDepth 100000 in
theorem k4_init (l : Launch) {γ : GA} {sz o : Nat} : Met l yX4_init (gU yX4_init cX4_init 1 none) (gR 7 134 1604) (kPc γ [.ref o] sz [(o, .inr (5, [.null, .null, .null, .null, .null, .int 0]))]) (kQ γ sz [(o, .inr (5, [.null, .null, .null, .null, .null, .int 0]))] (fun a => a 0 = o) (fun a => biW γ a)) 134 1604 (va_A [(o, .inr (5, [.null, .null, .null, .null, .null, .int 0]))] sz) := by
  refine k_met (by decide) rfl (Nat.le_of_ble_eq_true rfl) ?_
  intro p e s m args below meth c ls A hAe hmn hC hA hP hD hS hl
  have hx := hC.x
  have hb := hC.b
  have hl : lv_has ls 1 [(0, .ref o)] := hl
  refine lv_aload_n hx hb dX4_init_0 rfl (lv_at hl 0 rfl) ?_
  refine k_obj hC dX4_init_1 hl.1 u_1_32 (Nat.le_of_ble_eq_true rfl) (Nat.le_of_ble_eq_true rfl) ?_
  refine lv_aload_n hx hb dX4_init_4 rfl (lv_at hl 0 rfl) ?_
  refine k_new (ci := 4) (fs := [.null, .null, .null, .null, .null, .null, .null, .null, .null, .null, .null, .null, .null, .int 0]) hC hP hD hS hA tyX3 dX4_init_5 inX3 tyX3_ok u_1_35 u_1_36 u_1_2 rfl (by decide) (Nat.le_of_ble_eq_true rfl) (Nat.le_of_ble_eq_true rfl) (fun q1 H hP hD hS => ?_)
  refine lv_dup hx hb dX4_init_8 rfl ?_
  refine k_ctor (n := 0) (As := []) (rest := [.ref q1, .ref o]) hC hP hD hS hA (k3_init l) u_1_37 u_1_38 u_1_2 u_1_39 ⟨by decide +kernel, by decide +kernel, by decide +kernel⟩ rfl ⟨Nat.le_of_ble_eq_true rfl, Nat.le_of_ble_eq_true rfl⟩ (by decide) rfl hl.1 rfl (Nat.le_of_ble_eq_true rfl) dX4_init_9 ⟨Nat.le_of_ble_eq_true rfl, Nat.le_of_ble_eq_true rfl⟩ (fun a1 H locs hpa0 hP hD hS => ?_)
  refine k_putF hC hmn hP hD hS 0 0 tyX4 dX4_init_12 rfl rfl inX4 tyX4_ok nmX4 (by decide) u_1_188 rfl rfl rfl rfl rfl (Nat.le_of_ble_eq_true rfl) (fun H locs hP hD hS => ?_)
  have hP : va_P γ.1 vwCl ([(o, .inr (5, [.ref (q1), .null, .null, .null, .null, .int 0]))] ++ tabW γ a1 T0) H := hP
  have hD : va_D A ([(o, .inr (5, [.ref (q1), .null, .null, .null, .null, .int 0]))] ++ tabW γ a1 T0) := hD
  refine lv_aload_n hx hb dX4_init_15 rfl (lv_at hl 0 rfl) ?_
  refine k_new (ci := 4) (fs := [.null, .null, .null, .null, .null, .null, .null, .null, .null, .null, .null, .null, .null, .int 0]) hC hP hD hS hA tyX3 dX4_init_16 inX3 tyX3_ok u_1_35 u_1_36 u_1_2 rfl (by decide) (Nat.le_of_ble_eq_true rfl) (Nat.le_of_ble_eq_true rfl) (fun q2 H hP hD hS => ?_)
  refine lv_dup hx hb dX4_init_19 rfl ?_
  refine k_ctor (n := 0) (As := []) (rest := [.ref q2, .ref o]) hC hP hD hS hA (k3_init l) u_1_37 u_1_38 u_1_2 u_1_39 ⟨by decide +kernel, by decide +kernel, by decide +kernel⟩ rfl ⟨Nat.le_of_ble_eq_true rfl, Nat.le_of_ble_eq_true rfl⟩ (by decide) rfl hl.1 rfl (Nat.le_of_ble_eq_true rfl) dX4_init_20 ⟨Nat.le_of_ble_eq_true rfl, Nat.le_of_ble_eq_true rfl⟩ (fun a2 H locs hpa1 hP hD hS => ?_)
  refine k_putF hC hmn hP hD hS 0 1 tyX4 dX4_init_23 rfl rfl inX4 tyX4_ok nmX4 (by decide) u_1_189 rfl rfl rfl rfl rfl (Nat.le_of_ble_eq_true rfl) (fun H locs hP hD hS => ?_)
  have hP : va_P γ.1 vwCl (([(o, .inr (5, [.ref (q1), .ref (q2), .null, .null, .null, .int 0]))] ++ tabW γ a1 T0) ++ tabW γ a2 T0) H := hP
  have hD : va_D A (([(o, .inr (5, [.ref (q1), .ref (q2), .null, .null, .null, .int 0]))] ++ tabW γ a1 T0) ++ tabW γ a2 T0) := hD
  refine lv_aload_n hx hb dX4_init_26 rfl (lv_at hl 0 rfl) ?_
  refine k_new (ci := 3) (fs := [.null, .null, .null, .null, .int 0]) hC hP hD hS hA tyX2 dX4_init_27 inX2 tyX2_ok u_1_109 u_1_110 u_1_4 rfl (by decide) (Nat.le_of_ble_eq_true rfl) (Nat.le_of_ble_eq_true rfl) (fun q3 H hP hD hS => ?_)
  refine lv_dup hx hb dX4_init_30 rfl ?_
  refine lv_aload_n hx hb dX4_init_31 rfl (lv_at hl 0 rfl) ?_
  refine k_get hC hP 0 0 dX4_init_32 rfl rfl inX4 (by decide) rfl u_1_188 ?_
  refine k_ctor (n := 1) (As := [.ref q1]) (rest := [.ref q3, .ref o]) hC hP hD hS hA (k2_init l) u_1_111 u_1_112 u_1_4 u_1_113 ⟨by decide +kernel, by decide +kernel, by decide +kernel⟩ rfl ⟨Nat.le_of_ble_eq_true rfl, Nat.le_of_ble_eq_true rfl⟩ (by decide) rfl hl.1 rfl (Nat.le_of_ble_eq_true rfl) dX4_init_35 ⟨Nat.le_of_ble_eq_true rfl, Nat.le_of_ble_eq_true rfl⟩ (fun a3 H locs hpa2 hP hD hS => ?_)
  refine k_putF hC hmn hP hD hS 0 2 tyX4 dX4_init_38 rfl rfl inX4 tyX4_ok nmX4 (by decide) u_1_190 rfl rfl rfl rfl rfl (Nat.le_of_ble_eq_true rfl) (fun H locs hP hD hS => ?_)
  have hP : va_P γ.1 vwCl ((([(o, .inr (5, [.ref (q1), .ref (q2), .ref (q3), .null, .null, .int 0]))] ++ tabW γ a1 T0) ++ tabW γ a2 T0) ++ plW γ q1 a3 P0) H := hP
  have hD : va_D A ((([(o, .inr (5, [.ref (q1), .ref (q2), .ref (q3), .null, .null, .int 0]))] ++ tabW γ a1 T0) ++ tabW γ a2 T0) ++ plW γ q1 a3 P0) := hD
  refine lv_aload_n hx hb dX4_init_41 rfl (lv_at hl 0 rfl) ?_
  refine k_new (ci := 2) (fs := [.null, .int 0, .int 0]) hC hP hD hS hA tyX1 dX4_init_42 inX1 tyX1_ok u_1_131 u_1_132 u_1_5 rfl (by decide) (Nat.le_of_ble_eq_true rfl) (Nat.le_of_ble_eq_true rfl) (fun q4 H hP hD hS => ?_)
  refine lv_dup hx hb dX4_init_45 rfl ?_
  refine k_ctor (n := 0) (As := []) (rest := [.ref q4, .ref o]) hC hP hD hS hA (k1_init l) u_1_133 u_1_134 u_1_5 u_1_135 ⟨by decide +kernel, by decide +kernel, by decide +kernel⟩ rfl ⟨Nat.le_of_ble_eq_true rfl, Nat.le_of_ble_eq_true rfl⟩ (by decide) rfl hl.1 rfl (Nat.le_of_ble_eq_true rfl) dX4_init_46 ⟨Nat.le_of_ble_eq_true rfl, Nat.le_of_ble_eq_true rfl⟩ (fun a4 H locs hpa3 hP hD hS => ?_)
  refine k_putF hC hmn hP hD hS 0 3 tyX4 dX4_init_49 rfl rfl inX4 tyX4_ok nmX4 (by decide) u_1_191 rfl rfl rfl rfl rfl (Nat.le_of_ble_eq_true rfl) (fun H locs hP hD hS => ?_)
  have hP : va_P γ.1 vwCl (((([(o, .inr (5, [.ref (q1), .ref (q2), .ref (q3), .ref (q4), .null, .int 0]))] ++ tabW γ a1 T0) ++ tabW γ a2 T0) ++ plW γ q1 a3 P0) ++ hiW γ a4) H := hP
  have hD : va_D A (((([(o, .inr (5, [.ref (q1), .ref (q2), .ref (q3), .ref (q4), .null, .int 0]))] ++ tabW γ a1 T0) ++ tabW γ a2 T0) ++ plW γ q1 a3 P0) ++ hiW γ a4) := hD
  refine lv_aload_n hx hb dX4_init_52 rfl (lv_at hl 0 rfl) ?_
  refine k_new (ci := 1) (fs := [.null, .int 0, .int 0, .int 0, .int 0, .int 0, .int 0, .int 0]) hC hP hD hS hA tyX0 dX4_init_53 inX0 tyX0_ok u_1_151 u_1_152 u_1_6 rfl (by decide) (Nat.le_of_ble_eq_true rfl) (Nat.le_of_ble_eq_true rfl) (fun q5 H hP hD hS => ?_)
  refine lv_dup hx hb dX4_init_56 rfl ?_
  refine k_ctorN (n := 0) (As := []) (rest := [.ref q5, .ref o]) hC hP hD hS hA (k0_init l) hC.2.1.2.2.2.2.2.2.1 u_1_154 u_1_6 u_1_155 ⟨by decide +kernel, by decide +kernel, by decide +kernel⟩ rfl ⟨Nat.le_of_ble_eq_true rfl, Nat.le_of_ble_eq_true rfl⟩ (by decide) rfl hl.1 rfl (Nat.le_of_ble_eq_true rfl) dX4_init_57 ⟨Nat.le_of_ble_eq_true rfl, Nat.le_of_ble_eq_true rfl⟩ (fun a5 H locs hpa4 hP hD hS => ?_)
  refine k_putF hC hmn hP hD hS 0 4 tyX4 dX4_init_60 rfl rfl inX4 tyX4_ok nmX4 (by decide) u_1_192 rfl rfl rfl rfl rfl (Nat.le_of_ble_eq_true rfl) (fun H locs hP hD hS => ?_)
  have hP : va_P γ.1 vwCl ((((([(o, .inr (5, [.ref (q1), .ref (q2), .ref (q3), .ref (q4), .ref (q5), .int 0]))] ++ tabW γ a1 T0) ++ tabW γ a2 T0) ++ plW γ q1 a3 P0) ++ hiW γ a4) ++ txW γ a5 X00) H := hP
  have hD : va_D A ((((([(o, .inr (5, [.ref (q1), .ref (q2), .ref (q3), .ref (q4), .ref (q5), .int 0]))] ++ tabW γ a1 T0) ++ tabW γ a2 T0) ++ plW γ q1 a3 P0) ++ hiW γ a4) ++ txW γ a5 X00) := hD
  obtain ⟨AA, hAA⟩ : ∃ AA : Nat → Nat, AA = fun k => if k = 0 then o else if k < 15 then a1 (k - 1) else if k < 19 then a3 (k - 15) else if k < 21 then a4 (k - 19) else if k < 23 then a5 (k - 21) else if k < 129 then a4 (k - 29) else a2 (k - 129) := ⟨_, rfl⟩
  have h0 : AA 0 = o := by rw [hAA]; rfl
  have h1 : ∀ k, k < 14 → a1 k = AA (1 + k) := by
    intro k hk
    rw [hAA]
    simp only []
    rw [if_neg (by omega), if_pos (by omega), show 1 + k - 1 = k by omega]
  have h2 : ∀ k, k < 14 → a2 k = AA (129 + k) := by
    intro k hk
    rw [hAA]
    simp only []
    rw [if_neg (by omega), if_neg (by omega), if_neg (by omega), if_neg (by omega), if_neg (by omega), if_neg (by omega), show 129 + k - 129 = k by omega]
  have h3 : ∀ k, k < 4 → a3 k = AA (15 + k) := by
    intro k hk
    rw [hAA]
    simp only []
    rw [if_neg (by omega), if_neg (by omega), if_pos (by omega), show 15 + k - 15 = k by omega]
  have h4 : ∀ k, k < 100 → a4 k = if k < 2 then AA (19 + k) else AA (29 + k) := by
    intro k hk
    rw [hAA]
    simp only []
    by_cases hk2 : k < 2
    · rw [if_pos hk2, if_neg (by omega), if_neg (by omega), if_neg (by omega), if_pos (by omega), show 19 + k - 19 = k by omega]
    · rw [if_neg hk2, if_neg (by omega), if_neg (by omega), if_neg (by omega), if_neg (by omega), if_neg (by omega), if_pos (by omega), show 29 + k - 29 = k by omega]
  have h5 : ∀ k, k < 2 → a5 k = AA (21 + k) := by
    intro k hk
    rw [hAA]
    simp only []
    rw [if_neg (by omega), if_neg (by omega), if_neg (by omega), if_neg (by omega), if_pos (by omega), show 21 + k - 21 = k by omega]
  have hw : ((((([(o, .inr (5, [.ref (q1), .ref (q2), .ref (q3), .ref (q4), .ref (q5), .int 0]))] ++ tabW γ a1 T0) ++ tabW γ a2 T0) ++ plW γ q1 a3 P0) ++ hiW γ a4) ++ txW γ a5 X00) = biW γ AA := by
    rw [← hpa0, ← hpa1, ← hpa2, ← hpa3, ← hpa4, show a5 0 = AA 21 from h5 0 (by omega), show a4 0 = AA 19 from h4 0 (by omega), show a3 0 = AA 15 from h3 0 (by omega), show a2 0 = AA 129 from h2 0 (by omega), tabW_k h1, tabW_k h2, plW_k (h1 0 (by omega)) h3, hiW_k h4, txW_k h5, show a1 0 = AA 1 from h1 0 (by omega), ← h0]
    rfl
  rw [hw] at hP hD
  exact k_vret hC AA h0 hP hD hS dX4_init_63
