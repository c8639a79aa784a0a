/-! copyFrom, and the history: tables at cells 31 + 14 q -/
abbrev mn (x y : Int32) : Int32 := if y < x then y else x
abbrev mx (x y : Int32) : Int32 := if x < y then y else x
theorem upE_s (E : Nat → OS) (q : Nat) (A : OS) : upE E q A q = A := if_pos rfl
theorem upE_u (E : Nat → OS) (q : Nat) (A A' : OS) : upE (upE E q A) q A' = upE E q A' := by
  funext j
  unfold upE
  by_cases h : j = q
  · rw [if_pos h, if_pos h]
  · rw [if_neg h, if_neg h, if_neg h]
theorem upE_i (E : Nat → OS) (q : Nat) : upE E q (E q) = E := by
  funext j
  unfold upE
  by_cases h : j = q
  · rw [if_pos h, h]
  · rw [if_neg h]
section GEE
variable {γ : GA} {T P X Y B M : OS} {E : Nat → OS} {O : Nat → Int64} {q : Nat} {A : OS}
theorem gee_o (hq : q < 8) : gcell γ (T, P, X, Y, E, B, M, O) (31 + 14 * q) = .inr (4, [.ref (ad γ (31 + 14 * q + 1)), .ref (ad γ (31 + 14 * q + 2)), .ref (ad γ (31 + 14 * q + 3)), .ref (ad γ (31 + 14 * q + 4)), .ref (ad γ (31 + 14 * q + 5)), .ref (ad γ (31 + 14 * q + 6)), .ref (ad γ (31 + 14 * q + 7)), .ref (ad γ (31 + 14 * q + 8)), .ref (ad γ (31 + 14 * q + 9)), .ref (ad γ (31 + 14 * q + 10)), .ref (ad γ (31 + 14 * q + 11)), .ref (ad γ (31 + 14 * q + 12)), .ref (ad γ (31 + 14 * q + 13)), .int (E q 13 0)]) := gcell_E (r := 0) hq (by decide)
theorem geu_o (hq : q < 8) : gcell γ (T, P, X, Y, upE E q A, B, M, O) (31 + 14 * q) = .inr (4, [.ref (ad γ (31 + 14 * q + 1)), .ref (ad γ (31 + 14 * q + 2)), .ref (ad γ (31 + 14 * q + 3)), .ref (ad γ (31 + 14 * q + 4)), .ref (ad γ (31 + 14 * q + 5)), .ref (ad γ (31 + 14 * q + 6)), .ref (ad γ (31 + 14 * q + 7)), .ref (ad γ (31 + 14 * q + 8)), .ref (ad γ (31 + 14 * q + 9)), .ref (ad γ (31 + 14 * q + 10)), .ref (ad γ (31 + 14 * q + 11)), .ref (ad γ (31 + 14 * q + 12)), .ref (ad γ (31 + 14 * q + 13)), .int (A 13 0)]) := (gee_o hq).trans (by rw [upE_s])
theorem gpu_o (hq : q < 8) (v : Int32) : (gw γ (T, P, X, Y, upE E q A, B, M, O)).set (31 + 14 * q) (ad γ (31 + 14 * q), .inr (4, ([.ref (ad γ (31 + 14 * q + 1)), .ref (ad γ (31 + 14 * q + 2)), .ref (ad γ (31 + 14 * q + 3)), .ref (ad γ (31 + 14 * q + 4)), .ref (ad γ (31 + 14 * q + 5)), .ref (ad γ (31 + 14 * q + 6)), .ref (ad γ (31 + 14 * q + 7)), .ref (ad γ (31 + 14 * q + 8)), .ref (ad γ (31 + 14 * q + 9)), .ref (ad γ (31 + 14 * q + 10)), .ref (ad γ (31 + 14 * q + 11)), .ref (ad γ (31 + 14 * q + 12)), .ref (ad γ (31 + 14 * q + 13)), .int (A 13 0)] : List Value).set 13 (.int v))) = gw γ (T, P, X, Y, upE E q (us A 13 v), B, M, O) := (gw_Es (E := upE E q A) hq v).trans (by rw [upE_s, upE_u])
theorem gee_0 (hq : q < 8) : gcell γ (T, P, X, Y, E, B, M, O) (31 + 14 * q + 1) = .inl (gI γ, 6, .inl (E q 0)) := gcell_E (r := 1) hq (by decide)
theorem geu_0 (hq : q < 8) : gcell γ (T, P, X, Y, upE E q A, B, M, O) (31 + 14 * q + 1) = .inl (gI γ, 6, .inl (A 0)) := (gee_0 hq).trans (by rw [upE_s])
theorem gsu_0 (hq : q < 8) (f : Nat → Int32) : (gw γ (T, P, X, Y, upE E q A, B, M, O)).set (31 + 14 * q + 1) (ad γ (31 + 14 * q + 1), .inl (gI γ, 6, .inl f)) = gw γ (T, P, X, Y, upE E q (upr A 0 f), B, M, O) := (gw_E (E := upE E q A) (r := 0) hq (by decide) f).trans (by rw [upE_s, upE_u])
theorem gee_1 (hq : q < 8) : gcell γ (T, P, X, Y, E, B, M, O) (31 + 14 * q + 2) = .inl (gI γ, 6, .inl (E q 1)) := gcell_E (r := 2) hq (by decide)
theorem geu_1 (hq : q < 8) : gcell γ (T, P, X, Y, upE E q A, B, M, O) (31 + 14 * q + 2) = .inl (gI γ, 6, .inl (A 1)) := (gee_1 hq).trans (by rw [upE_s])
theorem gsu_1 (hq : q < 8) (f : Nat → Int32) : (gw γ (T, P, X, Y, upE E q A, B, M, O)).set (31 + 14 * q + 2) (ad γ (31 + 14 * q + 2), .inl (gI γ, 6, .inl f)) = gw γ (T, P, X, Y, upE E q (upr A 1 f), B, M, O) := (gw_E (E := upE E q A) (r := 1) hq (by decide) f).trans (by rw [upE_s, upE_u])
theorem gee_2 (hq : q < 8) : gcell γ (T, P, X, Y, E, B, M, O) (31 + 14 * q + 3) = .inl (gI γ, 6, .inl (E q 2)) := gcell_E (r := 3) hq (by decide)
theorem geu_2 (hq : q < 8) : gcell γ (T, P, X, Y, upE E q A, B, M, O) (31 + 14 * q + 3) = .inl (gI γ, 6, .inl (A 2)) := (gee_2 hq).trans (by rw [upE_s])
theorem gsu_2 (hq : q < 8) (f : Nat → Int32) : (gw γ (T, P, X, Y, upE E q A, B, M, O)).set (31 + 14 * q + 3) (ad γ (31 + 14 * q + 3), .inl (gI γ, 6, .inl f)) = gw γ (T, P, X, Y, upE E q (upr A 2 f), B, M, O) := (gw_E (E := upE E q A) (r := 2) hq (by decide) f).trans (by rw [upE_s, upE_u])
theorem gee_3 (hq : q < 8) : gcell γ (T, P, X, Y, E, B, M, O) (31 + 14 * q + 4) = .inl (gI γ, 6, .inl (E q 3)) := gcell_E (r := 4) hq (by decide)
theorem geu_3 (hq : q < 8) : gcell γ (T, P, X, Y, upE E q A, B, M, O) (31 + 14 * q + 4) = .inl (gI γ, 6, .inl (A 3)) := (gee_3 hq).trans (by rw [upE_s])
theorem gsu_3 (hq : q < 8) (f : Nat → Int32) : (gw γ (T, P, X, Y, upE E q A, B, M, O)).set (31 + 14 * q + 4) (ad γ (31 + 14 * q + 4), .inl (gI γ, 6, .inl f)) = gw γ (T, P, X, Y, upE E q (upr A 3 f), B, M, O) := (gw_E (E := upE E q A) (r := 3) hq (by decide) f).trans (by rw [upE_s, upE_u])
theorem gee_4 (hq : q < 8) : gcell γ (T, P, X, Y, E, B, M, O) (31 + 14 * q + 5) = .inl (gI γ, 3, .inl (E q 4)) := gcell_E (r := 5) hq (by decide)
theorem geu_4 (hq : q < 8) : gcell γ (T, P, X, Y, upE E q A, B, M, O) (31 + 14 * q + 5) = .inl (gI γ, 3, .inl (A 4)) := (gee_4 hq).trans (by rw [upE_s])
theorem gsu_4 (hq : q < 8) (f : Nat → Int32) : (gw γ (T, P, X, Y, upE E q A, B, M, O)).set (31 + 14 * q + 5) (ad γ (31 + 14 * q + 5), .inl (gI γ, 3, .inl f)) = gw γ (T, P, X, Y, upE E q (upr A 4 f), B, M, O) := (gw_E (E := upE E q A) (r := 4) hq (by decide) f).trans (by rw [upE_s, upE_u])
theorem gee_5 (hq : q < 8) : gcell γ (T, P, X, Y, E, B, M, O) (31 + 14 * q + 6) = .inl (gI γ, 14, .inl (E q 5)) := gcell_E (r := 6) hq (by decide)
theorem geu_5 (hq : q < 8) : gcell γ (T, P, X, Y, upE E q A, B, M, O) (31 + 14 * q + 6) = .inl (gI γ, 14, .inl (A 5)) := (gee_5 hq).trans (by rw [upE_s])
theorem gsu_5 (hq : q < 8) (f : Nat → Int32) : (gw γ (T, P, X, Y, upE E q A, B, M, O)).set (31 + 14 * q + 6) (ad γ (31 + 14 * q + 6), .inl (gI γ, 14, .inl f)) = gw γ (T, P, X, Y, upE E q (upr A 5 f), B, M, O) := (gw_E (E := upE E q A) (r := 5) hq (by decide) f).trans (by rw [upE_s, upE_u])
theorem gee_6 (hq : q < 8) : gcell γ (T, P, X, Y, E, B, M, O) (31 + 14 * q + 7) = .inl (gI γ, 14, .inl (E q 6)) := gcell_E (r := 7) hq (by decide)
theorem geu_6 (hq : q < 8) : gcell γ (T, P, X, Y, upE E q A, B, M, O) (31 + 14 * q + 7) = .inl (gI γ, 14, .inl (A 6)) := (gee_6 hq).trans (by rw [upE_s])
theorem gsu_6 (hq : q < 8) (f : Nat → Int32) : (gw γ (T, P, X, Y, upE E q A, B, M, O)).set (31 + 14 * q + 7) (ad γ (31 + 14 * q + 7), .inl (gI γ, 14, .inl f)) = gw γ (T, P, X, Y, upE E q (upr A 6 f), B, M, O) := (gw_E (E := upE E q A) (r := 6) hq (by decide) f).trans (by rw [upE_s, upE_u])
theorem gee_7 (hq : q < 8) : gcell γ (T, P, X, Y, E, B, M, O) (31 + 14 * q + 8) = .inl (gI γ, 14, .inl (E q 7)) := gcell_E (r := 8) hq (by decide)
theorem geu_7 (hq : q < 8) : gcell γ (T, P, X, Y, upE E q A, B, M, O) (31 + 14 * q + 8) = .inl (gI γ, 14, .inl (A 7)) := (gee_7 hq).trans (by rw [upE_s])
theorem gsu_7 (hq : q < 8) (f : Nat → Int32) : (gw γ (T, P, X, Y, upE E q A, B, M, O)).set (31 + 14 * q + 8) (ad γ (31 + 14 * q + 8), .inl (gI γ, 14, .inl f)) = gw γ (T, P, X, Y, upE E q (upr A 7 f), B, M, O) := (gw_E (E := upE E q A) (r := 7) hq (by decide) f).trans (by rw [upE_s, upE_u])
theorem gee_8 (hq : q < 8) : gcell γ (T, P, X, Y, E, B, M, O) (31 + 14 * q + 9) = .inl (gI γ, 14, .inl (E q 8)) := gcell_E (r := 9) hq (by decide)
theorem geu_8 (hq : q < 8) : gcell γ (T, P, X, Y, upE E q A, B, M, O) (31 + 14 * q + 9) = .inl (gI γ, 14, .inl (A 8)) := (gee_8 hq).trans (by rw [upE_s])
theorem gsu_8 (hq : q < 8) (f : Nat → Int32) : (gw γ (T, P, X, Y, upE E q A, B, M, O)).set (31 + 14 * q + 9) (ad γ (31 + 14 * q + 9), .inl (gI γ, 14, .inl f)) = gw γ (T, P, X, Y, upE E q (upr A 8 f), B, M, O) := (gw_E (E := upE E q A) (r := 8) hq (by decide) f).trans (by rw [upE_s, upE_u])
theorem gee_9 (hq : q < 8) : gcell γ (T, P, X, Y, E, B, M, O) (31 + 14 * q + 10) = .inl (gI γ, 14, .inl (E q 9)) := gcell_E (r := 10) hq (by decide)
theorem geu_9 (hq : q < 8) : gcell γ (T, P, X, Y, upE E q A, B, M, O) (31 + 14 * q + 10) = .inl (gI γ, 14, .inl (A 9)) := (gee_9 hq).trans (by rw [upE_s])
theorem gsu_9 (hq : q < 8) (f : Nat → Int32) : (gw γ (T, P, X, Y, upE E q A, B, M, O)).set (31 + 14 * q + 10) (ad γ (31 + 14 * q + 10), .inl (gI γ, 14, .inl f)) = gw γ (T, P, X, Y, upE E q (upr A 9 f), B, M, O) := (gw_E (E := upE E q A) (r := 9) hq (by decide) f).trans (by rw [upE_s, upE_u])
theorem gee_10 (hq : q < 8) : gcell γ (T, P, X, Y, E, B, M, O) (31 + 14 * q + 11) = .inl (gI γ, 14, .inl (E q 10)) := gcell_E (r := 11) hq (by decide)
theorem geu_10 (hq : q < 8) : gcell γ (T, P, X, Y, upE E q A, B, M, O) (31 + 14 * q + 11) = .inl (gI γ, 14, .inl (A 10)) := (gee_10 hq).trans (by rw [upE_s])
theorem gsu_10 (hq : q < 8) (f : Nat → Int32) : (gw γ (T, P, X, Y, upE E q A, B, M, O)).set (31 + 14 * q + 11) (ad γ (31 + 14 * q + 11), .inl (gI γ, 14, .inl f)) = gw γ (T, P, X, Y, upE E q (upr A 10 f), B, M, O) := (gw_E (E := upE E q A) (r := 10) hq (by decide) f).trans (by rw [upE_s, upE_u])
theorem gee_11 (hq : q < 8) : gcell γ (T, P, X, Y, E, B, M, O) (31 + 14 * q + 12) = .inl (gI γ, 14, .inl (E q 11)) := gcell_E (r := 12) hq (by decide)
theorem geu_11 (hq : q < 8) : gcell γ (T, P, X, Y, upE E q A, B, M, O) (31 + 14 * q + 12) = .inl (gI γ, 14, .inl (A 11)) := (gee_11 hq).trans (by rw [upE_s])
theorem gsu_11 (hq : q < 8) (f : Nat → Int32) : (gw γ (T, P, X, Y, upE E q A, B, M, O)).set (31 + 14 * q + 12) (ad γ (31 + 14 * q + 12), .inl (gI γ, 14, .inl f)) = gw γ (T, P, X, Y, upE E q (upr A 11 f), B, M, O) := (gw_E (E := upE E q A) (r := 11) hq (by decide) f).trans (by rw [upE_s, upE_u])
theorem gee_12 (hq : q < 8) : gcell γ (T, P, X, Y, E, B, M, O) (31 + 14 * q + 13) = .inl (gZ γ, 14, .inl (E q 12)) := gcell_E (r := 13) hq (by decide)
theorem geu_12 (hq : q < 8) : gcell γ (T, P, X, Y, upE E q A, B, M, O) (31 + 14 * q + 13) = .inl (gZ γ, 14, .inl (A 12)) := (gee_12 hq).trans (by rw [upE_s])
theorem gsu_12 (hq : q < 8) (f : Nat → Int32) : (gw γ (T, P, X, Y, upE E q A, B, M, O)).set (31 + 14 * q + 13) (ad γ (31 + 14 * q + 13), .inl (gZ γ, 14, .inl f)) = gw γ (T, P, X, Y, upE E q (upr A 12 f), B, M, O) := (gw_E (E := upE E q A) (r := 12) hq (by decide) f).trans (by rw [upE_s, upE_u])
end GEE
/-- a table copied into another one -/
def r3_copyFrom (A Q : OS) : Option OS :=
  (cpi 6 (A 0) Q 0).bind fun Q1 =>
  (cpi 6 (A 1) Q1 1).bind fun Q2 =>
  (cpi 6 (A 2) Q2 2).bind fun Q3 =>
  (cpi 6 (A 3) Q3 3).bind fun Q4 =>
  (cpi 3 (A 4) Q4 4).bind fun Q5 =>
  (cpi 14 (A 5) Q5 5).bind fun Q6 =>
  (cpi 14 (A 6) Q6 6).bind fun Q7 =>
  (cpi 14 (A 7) Q7 7).bind fun Q8 =>
  (cpi 14 (A 8) Q8 8).bind fun Q9 =>
  (cpi 14 (A 9) Q9 9).bind fun Q10 =>
  (cpi 14 (A 10) Q10 10).bind fun Q11 =>
  (cpi 14 (A 11) Q11 11).bind fun Q12 =>
  (cpz 14 (A 12) Q12 12).bind fun Q13 =>
  (sw Q13 13 (A 13 0)).bind fun Q14 => some Q14
theorem yv_X3_copyFrom : gYV yX3_copyFrom cX3_copyFrom 2 none 1 := ⟨u_1_228, u_1_229, u_1_2, u_1_230, ⟨by decide +kernel, by decide +kernel, by decide +kernel⟩, by decide⟩
set_option maxHeartbeats 4000000 in
set_option maxRecDepth 100000 in
theorem c3_copyIn (l : Launch) {γ : GA} {sz q : Nat} (hq : q < 8) {T P X Y B M Qz : OS} {E : Nat → OS} {O : Nat → Int64} (h : r3_copyFrom T (E q) = some Qz) : Met l yX3_copyFrom (gU yX3_copyFrom cX3_copyFrom 2 none) (gR 1 0 0) (gPc γ [.ref (ad γ (31 + 14 * q)), .ref (ad γ 1)] sz (T, P, X, Y, E, B, M, O)) (gQv γ sz (T, P, X, Y, upE E q Qz, B, M, O)) 0 0 (gA γ sz) := by
  refine g_met (fun sz => gQv γ sz (T, P, X, Y, upE E q Qz, B, M, O)) (by decide) (Nat.le_of_ble_eq_true rfl) ?_
  intro p e s m args below meth c ls hC hP hS hl
  have hx := hC.x
  have hb := hC.b
  have hl : lv_has ls 2 [(0, .ref (ad γ (31 + 14 * q))), (1, .ref (ad γ 1))] := hl
  have hq2 : 31 + 14 * q + 14 ≤ 143 := by omega
  rw [← upE_i E q] at hP
  obtain ⟨Q, hQ⟩ : ∃ Q, Q = E q := ⟨_, rfl⟩
  rw [← hQ] at hP h
  unfold r3_copyFrom at h
  refine lv_aload_n hx hb dX3_copyFrom_0 rfl (lv_at hl 1 rfl) ?_
  refine lv_ifnonnull (tgt := 5) hx hb dX3_copyFrom_1 (by decide) ?_
  refine lv_aload_n hx hb dX3_copyFrom_5 rfl (lv_at hl 1 rfl) ?_
  refine g_get hC hP 0 dX3_copyFrom_6 (by decide) ge_1 rfl inX3 (by decide) rfl u_1_44 ?_
  refine lv_iconst (v := 0) hx hb dX3_copyFrom_9 (by decide) ?_
  refine lv_aload_n hx hb dX3_copyFrom_10 rfl (lv_at hl 0 rfl) ?_
  refine g_get hC hP 0 dX3_copyFrom_11 (by omega) (geu_o hq) rfl inX3 (by decide) rfl u_1_44 ?_
  refine lv_iconst (v := 0) hx hb dX3_copyFrom_14 (by decide) ?_
  refine lv_bipush (v := 6) hx hb dX3_copyFrom_15 (by decide) ?_
  obtain ⟨Q1, hv, h⟩ := ob h
  refine g_cpi hC hP hS (fun Z => (T, P, X, Y, upE E q Z, B, M, O)) dX3_copyFrom_17 hl.1 u_1_231 (by decide) (by omega) ge_2 (geu_0 hq) (gsu_0 hq) (by decide) rfl (by decide) (by decide) hv (by decide) (Nat.le_of_ble_eq_true rfl) (fun H locs hP hS => ?_)
  refine lv_aload_n hx hb dX3_copyFrom_20 rfl (lv_at hl 1 rfl) ?_
  refine g_get hC hP 1 dX3_copyFrom_21 (by decide) ge_1 rfl inX3 (by decide) rfl u_1_47 ?_
  refine lv_iconst (v := 0) hx hb dX3_copyFrom_24 (by decide) ?_
  refine lv_aload_n hx hb dX3_copyFrom_25 rfl (lv_at hl 0 rfl) ?_
  refine g_get hC hP 1 dX3_copyFrom_26 (by omega) (geu_o hq) rfl inX3 (by decide) rfl u_1_47 ?_
  refine lv_iconst (v := 0) hx hb dX3_copyFrom_29 (by decide) ?_
  refine lv_bipush (v := 6) hx hb dX3_copyFrom_30 (by decide) ?_
  obtain ⟨Q2, hv, h⟩ := ob h
  refine g_cpi hC hP hS (fun Z => (T, P, X, Y, upE E q Z, B, M, O)) dX3_copyFrom_32 hl.1 u_1_231 (by decide) (by omega) ge_3 (geu_1 hq) (gsu_1 hq) (by decide) rfl (by decide) (by decide) hv (by decide) (Nat.le_of_ble_eq_true rfl) (fun H locs hP hS => ?_)
  refine lv_aload_n hx hb dX3_copyFrom_35 rfl (lv_at hl 1 rfl) ?_
  refine g_get hC hP 2 dX3_copyFrom_36 (by decide) ge_1 rfl inX3 (by decide) rfl u_1_49 ?_
  refine lv_iconst (v := 0) hx hb dX3_copyFrom_39 (by decide) ?_
  refine lv_aload_n hx hb dX3_copyFrom_40 rfl (lv_at hl 0 rfl) ?_
  refine g_get hC hP 2 dX3_copyFrom_41 (by omega) (geu_o hq) rfl inX3 (by decide) rfl u_1_49 ?_
  refine lv_iconst (v := 0) hx hb dX3_copyFrom_44 (by decide) ?_
  refine lv_bipush (v := 6) hx hb dX3_copyFrom_45 (by decide) ?_
  obtain ⟨Q3, hv, h⟩ := ob h
  refine g_cpi hC hP hS (fun Z => (T, P, X, Y, upE E q Z, B, M, O)) dX3_copyFrom_47 hl.1 u_1_231 (by decide) (by omega) ge_4 (geu_2 hq) (gsu_2 hq) (by decide) rfl (by decide) (by decide) hv (by decide) (Nat.le_of_ble_eq_true rfl) (fun H locs hP hS => ?_)
  refine lv_aload_n hx hb dX3_copyFrom_50 rfl (lv_at hl 1 rfl) ?_
  refine g_get hC hP 3 dX3_copyFrom_51 (by decide) ge_1 rfl inX3 (by decide) rfl u_1_51 ?_
  refine lv_iconst (v := 0) hx hb dX3_copyFrom_54 (by decide) ?_
  refine lv_aload_n hx hb dX3_copyFrom_55 rfl (lv_at hl 0 rfl) ?_
  refine g_get hC hP 3 dX3_copyFrom_56 (by omega) (geu_o hq) rfl inX3 (by decide) rfl u_1_51 ?_
  refine lv_iconst (v := 0) hx hb dX3_copyFrom_59 (by decide) ?_
  refine lv_bipush (v := 6) hx hb dX3_copyFrom_60 (by decide) ?_
  obtain ⟨Q4, hv, h⟩ := ob h
  refine g_cpi hC hP hS (fun Z => (T, P, X, Y, upE E q Z, B, M, O)) dX3_copyFrom_62 hl.1 u_1_231 (by decide) (by omega) ge_5 (geu_3 hq) (gsu_3 hq) (by decide) rfl (by decide) (by decide) hv (by decide) (Nat.le_of_ble_eq_true rfl) (fun H locs hP hS => ?_)
  refine lv_aload_n hx hb dX3_copyFrom_65 rfl (lv_at hl 1 rfl) ?_
  refine g_get hC hP 4 dX3_copyFrom_66 (by decide) ge_1 rfl inX3 (by decide) rfl u_1_53 ?_
  refine lv_iconst (v := 0) hx hb dX3_copyFrom_69 (by decide) ?_
  refine lv_aload_n hx hb dX3_copyFrom_70 rfl (lv_at hl 0 rfl) ?_
  refine g_get hC hP 4 dX3_copyFrom_71 (by omega) (geu_o hq) rfl inX3 (by decide) rfl u_1_53 ?_
  refine lv_iconst (v := 0) hx hb dX3_copyFrom_74 (by decide) ?_
  refine lv_iconst (v := 3) hx hb dX3_copyFrom_75 (by decide) ?_
  obtain ⟨Q5, hv, h⟩ := ob h
  refine g_cpi hC hP hS (fun Z => (T, P, X, Y, upE E q Z, B, M, O)) dX3_copyFrom_76 hl.1 u_1_231 (by decide) (by omega) ge_6 (geu_4 hq) (gsu_4 hq) (by decide) rfl (by decide) (by decide) hv (by decide) (Nat.le_of_ble_eq_true rfl) (fun H locs hP hS => ?_)
  refine lv_aload_n hx hb dX3_copyFrom_79 rfl (lv_at hl 1 rfl) ?_
  refine g_get hC hP 5 dX3_copyFrom_80 (by decide) ge_1 rfl inX3 (by decide) rfl u_1_55 ?_
  refine lv_iconst (v := 0) hx hb dX3_copyFrom_83 (by decide) ?_
  refine lv_aload_n hx hb dX3_copyFrom_84 rfl (lv_at hl 0 rfl) ?_
  refine g_get hC hP 5 dX3_copyFrom_85 (by omega) (geu_o hq) rfl inX3 (by decide) rfl u_1_55 ?_
  refine lv_iconst (v := 0) hx hb dX3_copyFrom_88 (by decide) ?_
  refine lv_bipush (v := 14) hx hb dX3_copyFrom_89 (by decide) ?_
  obtain ⟨Q6, hv, h⟩ := ob h
  refine g_cpi hC hP hS (fun Z => (T, P, X, Y, upE E q Z, B, M, O)) dX3_copyFrom_91 hl.1 u_1_231 (by decide) (by omega) ge_7 (geu_5 hq) (gsu_5 hq) (by decide) rfl (by decide) (by decide) hv (by decide) (Nat.le_of_ble_eq_true rfl) (fun H locs hP hS => ?_)
  refine lv_aload_n hx hb dX3_copyFrom_94 rfl (lv_at hl 1 rfl) ?_
  refine g_get hC hP 6 dX3_copyFrom_95 (by decide) ge_1 rfl inX3 (by decide) rfl u_1_58 ?_
  refine lv_iconst (v := 0) hx hb dX3_copyFrom_98 (by decide) ?_
  refine lv_aload_n hx hb dX3_copyFrom_99 rfl (lv_at hl 0 rfl) ?_
  refine g_get hC hP 6 dX3_copyFrom_100 (by omega) (geu_o hq) rfl inX3 (by decide) rfl u_1_58 ?_
  refine lv_iconst (v := 0) hx hb dX3_copyFrom_103 (by decide) ?_
  refine lv_bipush (v := 14) hx hb dX3_copyFrom_104 (by decide) ?_
  obtain ⟨Q7, hv, h⟩ := ob h
  refine g_cpi hC hP hS (fun Z => (T, P, X, Y, upE E q Z, B, M, O)) dX3_copyFrom_106 hl.1 u_1_231 (by decide) (by omega) ge_8 (geu_6 hq) (gsu_6 hq) (by decide) rfl (by decide) (by decide) hv (by decide) (Nat.le_of_ble_eq_true rfl) (fun H locs hP hS => ?_)
  refine lv_aload_n hx hb dX3_copyFrom_109 rfl (lv_at hl 1 rfl) ?_
  refine g_get hC hP 7 dX3_copyFrom_110 (by decide) ge_1 rfl inX3 (by decide) rfl u_1_61 ?_
  refine lv_iconst (v := 0) hx hb dX3_copyFrom_113 (by decide) ?_
  refine lv_aload_n hx hb dX3_copyFrom_114 rfl (lv_at hl 0 rfl) ?_
  refine g_get hC hP 7 dX3_copyFrom_115 (by omega) (geu_o hq) rfl inX3 (by decide) rfl u_1_61 ?_
  refine lv_iconst (v := 0) hx hb dX3_copyFrom_118 (by decide) ?_
  refine lv_bipush (v := 14) hx hb dX3_copyFrom_119 (by decide) ?_
  obtain ⟨Q8, hv, h⟩ := ob h
  refine g_cpi hC hP hS (fun Z => (T, P, X, Y, upE E q Z, B, M, O)) dX3_copyFrom_121 hl.1 u_1_231 (by decide) (by omega) ge_9 (geu_7 hq) (gsu_7 hq) (by decide) rfl (by decide) (by decide) hv (by decide) (Nat.le_of_ble_eq_true rfl) (fun H locs hP hS => ?_)
  refine lv_aload_n hx hb dX3_copyFrom_124 rfl (lv_at hl 1 rfl) ?_
  refine g_get hC hP 8 dX3_copyFrom_125 (by decide) ge_1 rfl inX3 (by decide) rfl u_1_63 ?_
  refine lv_iconst (v := 0) hx hb dX3_copyFrom_128 (by decide) ?_
  refine lv_aload_n hx hb dX3_copyFrom_129 rfl (lv_at hl 0 rfl) ?_
  refine g_get hC hP 8 dX3_copyFrom_130 (by omega) (geu_o hq) rfl inX3 (by decide) rfl u_1_63 ?_
  refine lv_iconst (v := 0) hx hb dX3_copyFrom_133 (by decide) ?_
  refine lv_bipush (v := 14) hx hb dX3_copyFrom_134 (by decide) ?_
  obtain ⟨Q9, hv, h⟩ := ob h
  refine g_cpi hC hP hS (fun Z => (T, P, X, Y, upE E q Z, B, M, O)) dX3_copyFrom_136 hl.1 u_1_231 (by decide) (by omega) ge_10 (geu_8 hq) (gsu_8 hq) (by decide) rfl (by decide) (by decide) hv (by decide) (Nat.le_of_ble_eq_true rfl) (fun H locs hP hS => ?_)
  refine lv_aload_n hx hb dX3_copyFrom_139 rfl (lv_at hl 1 rfl) ?_
  refine g_get hC hP 9 dX3_copyFrom_140 (by decide) ge_1 rfl inX3 (by decide) rfl u_1_66 ?_
  refine lv_iconst (v := 0) hx hb dX3_copyFrom_143 (by decide) ?_
  refine lv_aload_n hx hb dX3_copyFrom_144 rfl (lv_at hl 0 rfl) ?_
  refine g_get hC hP 9 dX3_copyFrom_145 (by omega) (geu_o hq) rfl inX3 (by decide) rfl u_1_66 ?_
  refine lv_iconst (v := 0) hx hb dX3_copyFrom_148 (by decide) ?_
  refine lv_bipush (v := 14) hx hb dX3_copyFrom_149 (by decide) ?_
  obtain ⟨Q10, hv, h⟩ := ob h
  refine g_cpi hC hP hS (fun Z => (T, P, X, Y, upE E q Z, B, M, O)) dX3_copyFrom_151 hl.1 u_1_231 (by decide) (by omega) ge_11 (geu_9 hq) (gsu_9 hq) (by decide) rfl (by decide) (by decide) hv (by decide) (Nat.le_of_ble_eq_true rfl) (fun H locs hP hS => ?_)
  refine lv_aload_n hx hb dX3_copyFrom_154 rfl (lv_at hl 1 rfl) ?_
  refine g_get hC hP 10 dX3_copyFrom_155 (by decide) ge_1 rfl inX3 (by decide) rfl u_1_69 ?_
  refine lv_iconst (v := 0) hx hb dX3_copyFrom_158 (by decide) ?_
  refine lv_aload_n hx hb dX3_copyFrom_159 rfl (lv_at hl 0 rfl) ?_
  refine g_get hC hP 10 dX3_copyFrom_160 (by omega) (geu_o hq) rfl inX3 (by decide) rfl u_1_69 ?_
  refine lv_iconst (v := 0) hx hb dX3_copyFrom_163 (by decide) ?_
  refine lv_bipush (v := 14) hx hb dX3_copyFrom_164 (by decide) ?_
  obtain ⟨Q11, hv, h⟩ := ob h
  refine g_cpi hC hP hS (fun Z => (T, P, X, Y, upE E q Z, B, M, O)) dX3_copyFrom_166 hl.1 u_1_231 (by decide) (by omega) ge_12 (geu_10 hq) (gsu_10 hq) (by decide) rfl (by decide) (by decide) hv (by decide) (Nat.le_of_ble_eq_true rfl) (fun H locs hP hS => ?_)
  refine lv_aload_n hx hb dX3_copyFrom_169 rfl (lv_at hl 1 rfl) ?_
  refine g_get hC hP 11 dX3_copyFrom_170 (by decide) ge_1 rfl inX3 (by decide) rfl u_1_71 ?_
  refine lv_iconst (v := 0) hx hb dX3_copyFrom_173 (by decide) ?_
  refine lv_aload_n hx hb dX3_copyFrom_174 rfl (lv_at hl 0 rfl) ?_
  refine g_get hC hP 11 dX3_copyFrom_175 (by omega) (geu_o hq) rfl inX3 (by decide) rfl u_1_71 ?_
  refine lv_iconst (v := 0) hx hb dX3_copyFrom_178 (by decide) ?_
  refine lv_bipush (v := 14) hx hb dX3_copyFrom_179 (by decide) ?_
  obtain ⟨Q12, hv, h⟩ := ob h
  refine g_cpi hC hP hS (fun Z => (T, P, X, Y, upE E q Z, B, M, O)) dX3_copyFrom_181 hl.1 u_1_231 (by decide) (by omega) ge_13 (geu_11 hq) (gsu_11 hq) (by decide) rfl (by decide) (by decide) hv (by decide) (Nat.le_of_ble_eq_true rfl) (fun H locs hP hS => ?_)
  refine lv_aload_n hx hb dX3_copyFrom_184 rfl (lv_at hl 1 rfl) ?_
  refine g_get hC hP 12 dX3_copyFrom_185 (by decide) ge_1 rfl inX3 (by decide) rfl u_1_73 ?_
  refine lv_iconst (v := 0) hx hb dX3_copyFrom_188 (by decide) ?_
  refine lv_aload_n hx hb dX3_copyFrom_189 rfl (lv_at hl 0 rfl) ?_
  refine g_get hC hP 12 dX3_copyFrom_190 (by omega) (geu_o hq) rfl inX3 (by decide) rfl u_1_73 ?_
  refine lv_iconst (v := 0) hx hb dX3_copyFrom_193 (by decide) ?_
  refine lv_bipush (v := 14) hx hb dX3_copyFrom_194 (by decide) ?_
  obtain ⟨Q13, hv, h⟩ := ob h
  refine g_cpz hC hP hS (fun Z => (T, P, X, Y, upE E q Z, B, M, O)) dX3_copyFrom_196 hl.1 u_1_231 (by decide) (by omega) ge_14 (geu_12 hq) (gsu_12 hq) (by decide) rfl (by decide) (by decide) hv (by decide) (Nat.le_of_ble_eq_true rfl) (fun H locs hP hS => ?_)
  refine lv_aload_n hx hb dX3_copyFrom_199 rfl (lv_at hl 0 rfl) ?_
  refine lv_aload_n hx hb dX3_copyFrom_200 rfl (lv_at hl 1 rfl) ?_
  refine g_get hC hP 13 dX3_copyFrom_201 (by decide) ge_1 rfl inX3 (by decide) rfl u_1_76 ?_
  obtain ⟨Q14, hv, h⟩ := ob h
  refine g_putI hC hP hS (fun Z => (T, P, X, Y, upE E q Z, B, M, O)) 13 tyX3 dX3_copyFrom_204 (by omega) (geu_o hq) rfl inX3 tyX3_ok nmX3 (by decide) u_1_76 rfl rfl (Nat.le_of_ble_eq_true rfl) (gpu_o hq) hv (fun H locs hP hS => ?_)
  cases h
  exact g_vret hC hP hS dX3_copyFrom_207
set_option maxHeartbeats 4000000 in
set_option maxRecDepth 100000 in
theorem c3_copyOut (l : Launch) {γ : GA} {sz q : Nat} (hq : q < 8) {T P X Y B M Qz : OS} {E : Nat → OS} {O : Nat → Int64} (h : r3_copyFrom (E q) T = some Qz) : Met l yX3_copyFrom (gU yX3_copyFrom cX3_copyFrom 2 none) (gR 1 0 0) (gPc γ [.ref (ad γ 1), .ref (ad γ (31 + 14 * q))] sz (T, P, X, Y, E, B, M, O)) (gQv γ sz (Qz, P, X, Y, E, B, M, O)) 0 0 (gA γ sz) := by
  refine g_met (fun sz => gQv γ sz (Qz, P, X, Y, E, B, M, O)) (by decide) (Nat.le_of_ble_eq_true rfl) ?_
  intro p e s m args below meth c ls hC hP hS hl
  have hx := hC.x
  have hb := hC.b
  have hl : lv_has ls 2 [(0, .ref (ad γ 1)), (1, .ref (ad γ (31 + 14 * q)))] := hl
  have hq2 : 31 + 14 * q + 14 ≤ 143 := by omega
  obtain ⟨A, hA⟩ : ∃ A, A = E q := ⟨_, rfl⟩
  rw [← hA] at h
  unfold r3_copyFrom at h
  refine lv_aload_n hx hb dX3_copyFrom_0 rfl (lv_at hl 1 rfl) ?_
  refine lv_ifnonnull (tgt := 5) hx hb dX3_copyFrom_1 (by decide) ?_
  refine lv_aload_n hx hb dX3_copyFrom_5 rfl (lv_at hl 1 rfl) ?_
  refine g_get hC hP 0 dX3_copyFrom_6 (by omega) (gee_o hq) rfl inX3 (by decide) rfl u_1_44 ?_
  refine lv_iconst (v := 0) hx hb dX3_copyFrom_9 (by decide) ?_
  refine lv_aload_n hx hb dX3_copyFrom_10 rfl (lv_at hl 0 rfl) ?_
  refine g_get hC hP 0 dX3_copyFrom_11 (by decide) ge_1 rfl inX3 (by decide) rfl u_1_44 ?_
  refine lv_iconst (v := 0) hx hb dX3_copyFrom_14 (by decide) ?_
  refine lv_bipush (v := 6) hx hb dX3_copyFrom_15 (by decide) ?_
  obtain ⟨Q1, hv, h⟩ := ob h
  rw [hA] at hv
  refine g_cpi hC hP hS (fun Z => (Z, P, X, Y, E, B, M, O)) dX3_copyFrom_17 hl.1 u_1_231 (by omega) (by decide) (gee_0 hq) ge_2 gs_2 (by decide) rfl (by decide) (by decide) hv (by decide) (Nat.le_of_ble_eq_true rfl) (fun H locs hP hS => ?_)
  refine lv_aload_n hx hb dX3_copyFrom_20 rfl (lv_at hl 1 rfl) ?_
  refine g_get hC hP 1 dX3_copyFrom_21 (by omega) (gee_o hq) rfl inX3 (by decide) rfl u_1_47 ?_
  refine lv_iconst (v := 0) hx hb dX3_copyFrom_24 (by decide) ?_
  refine lv_aload_n hx hb dX3_copyFrom_25 rfl (lv_at hl 0 rfl) ?_
  refine g_get hC hP 1 dX3_copyFrom_26 (by decide) ge_1 rfl inX3 (by decide) rfl u_1_47 ?_
  refine lv_iconst (v := 0) hx hb dX3_copyFrom_29 (by decide) ?_
  refine lv_bipush (v := 6) hx hb dX3_copyFrom_30 (by decide) ?_
  obtain ⟨Q2, hv, h⟩ := ob h
  rw [hA] at hv
  refine g_cpi hC hP hS (fun Z => (Z, P, X, Y, E, B, M, O)) dX3_copyFrom_32 hl.1 u_1_231 (by omega) (by decide) (gee_1 hq) ge_3 gs_3 (by decide) rfl (by decide) (by decide) hv (by decide) (Nat.le_of_ble_eq_true rfl) (fun H locs hP hS => ?_)
  refine lv_aload_n hx hb dX3_copyFrom_35 rfl (lv_at hl 1 rfl) ?_
  refine g_get hC hP 2 dX3_copyFrom_36 (by omega) (gee_o hq) rfl inX3 (by decide) rfl u_1_49 ?_
  refine lv_iconst (v := 0) hx hb dX3_copyFrom_39 (by decide) ?_
  refine lv_aload_n hx hb dX3_copyFrom_40 rfl (lv_at hl 0 rfl) ?_
  refine g_get hC hP 2 dX3_copyFrom_41 (by decide) ge_1 rfl inX3 (by decide) rfl u_1_49 ?_
  refine lv_iconst (v := 0) hx hb dX3_copyFrom_44 (by decide) ?_
  refine lv_bipush (v := 6) hx hb dX3_copyFrom_45 (by decide) ?_
  obtain ⟨Q3, hv, h⟩ := ob h
  rw [hA] at hv
  refine g_cpi hC hP hS (fun Z => (Z, P, X, Y, E, B, M, O)) dX3_copyFrom_47 hl.1 u_1_231 (by omega) (by decide) (gee_2 hq) ge_4 gs_4 (by decide) rfl (by decide) (by decide) hv (by decide) (Nat.le_of_ble_eq_true rfl) (fun H locs hP hS => ?_)
  refine lv_aload_n hx hb dX3_copyFrom_50 rfl (lv_at hl 1 rfl) ?_
  refine g_get hC hP 3 dX3_copyFrom_51 (by omega) (gee_o hq) rfl inX3 (by decide) rfl u_1_51 ?_
  refine lv_iconst (v := 0) hx hb dX3_copyFrom_54 (by decide) ?_
  refine lv_aload_n hx hb dX3_copyFrom_55 rfl (lv_at hl 0 rfl) ?_
  refine g_get hC hP 3 dX3_copyFrom_56 (by decide) ge_1 rfl inX3 (by decide) rfl u_1_51 ?_
  refine lv_iconst (v := 0) hx hb dX3_copyFrom_59 (by decide) ?_
  refine lv_bipush (v := 6) hx hb dX3_copyFrom_60 (by decide) ?_
  obtain ⟨Q4, hv, h⟩ := ob h
  rw [hA] at hv
  refine g_cpi hC hP hS (fun Z => (Z, P, X, Y, E, B, M, O)) dX3_copyFrom_62 hl.1 u_1_231 (by omega) (by decide) (gee_3 hq) ge_5 gs_5 (by decide) rfl (by decide) (by decide) hv (by decide) (Nat.le_of_ble_eq_true rfl) (fun H locs hP hS => ?_)
  refine lv_aload_n hx hb dX3_copyFrom_65 rfl (lv_at hl 1 rfl) ?_
  refine g_get hC hP 4 dX3_copyFrom_66 (by omega) (gee_o hq) rfl inX3 (by decide) rfl u_1_53 ?_
  refine lv_iconst (v := 0) hx hb dX3_copyFrom_69 (by decide) ?_
  refine lv_aload_n hx hb dX3_copyFrom_70 rfl (lv_at hl 0 rfl) ?_
  refine g_get hC hP 4 dX3_copyFrom_71 (by decide) ge_1 rfl inX3 (by decide) rfl u_1_53 ?_
  refine lv_iconst (v := 0) hx hb dX3_copyFrom_74 (by decide) ?_
  refine lv_iconst (v := 3) hx hb dX3_copyFrom_75 (by decide) ?_
  obtain ⟨Q5, hv, h⟩ := ob h
  rw [hA] at hv
  refine g_cpi hC hP hS (fun Z => (Z, P, X, Y, E, B, M, O)) dX3_copyFrom_76 hl.1 u_1_231 (by omega) (by decide) (gee_4 hq) ge_6 gs_6 (by decide) rfl (by decide) (by decide) hv (by decide) (Nat.le_of_ble_eq_true rfl) (fun H locs hP hS => ?_)
  refine lv_aload_n hx hb dX3_copyFrom_79 rfl (lv_at hl 1 rfl) ?_
  refine g_get hC hP 5 dX3_copyFrom_80 (by omega) (gee_o hq) rfl inX3 (by decide) rfl u_1_55 ?_
  refine lv_iconst (v := 0) hx hb dX3_copyFrom_83 (by decide) ?_
  refine lv_aload_n hx hb dX3_copyFrom_84 rfl (lv_at hl 0 rfl) ?_
  refine g_get hC hP 5 dX3_copyFrom_85 (by decide) ge_1 rfl inX3 (by decide) rfl u_1_55 ?_
  refine lv_iconst (v := 0) hx hb dX3_copyFrom_88 (by decide) ?_
  refine lv_bipush (v := 14) hx hb dX3_copyFrom_89 (by decide) ?_
  obtain ⟨Q6, hv, h⟩ := ob h
  rw [hA] at hv
  refine g_cpi hC hP hS (fun Z => (Z, P, X, Y, E, B, M, O)) dX3_copyFrom_91 hl.1 u_1_231 (by omega) (by decide) (gee_5 hq) ge_7 gs_7 (by decide) rfl (by decide) (by decide) hv (by decide) (Nat.le_of_ble_eq_true rfl) (fun H locs hP hS => ?_)
  refine lv_aload_n hx hb dX3_copyFrom_94 rfl (lv_at hl 1 rfl) ?_
  refine g_get hC hP 6 dX3_copyFrom_95 (by omega) (gee_o hq) rfl inX3 (by decide) rfl u_1_58 ?_
  refine lv_iconst (v := 0) hx hb dX3_copyFrom_98 (by decide) ?_
  refine lv_aload_n hx hb dX3_copyFrom_99 rfl (lv_at hl 0 rfl) ?_
  refine g_get hC hP 6 dX3_copyFrom_100 (by decide) ge_1 rfl inX3 (by decide) rfl u_1_58 ?_
  refine lv_iconst (v := 0) hx hb dX3_copyFrom_103 (by decide) ?_
  refine lv_bipush (v := 14) hx hb dX3_copyFrom_104 (by decide) ?_
  obtain ⟨Q7, hv, h⟩ := ob h
  rw [hA] at hv
  refine g_cpi hC hP hS (fun Z => (Z, P, X, Y, E, B, M, O)) dX3_copyFrom_106 hl.1 u_1_231 (by omega) (by decide) (gee_6 hq) ge_8 gs_8 (by decide) rfl (by decide) (by decide) hv (by decide) (Nat.le_of_ble_eq_true rfl) (fun H locs hP hS => ?_)
  refine lv_aload_n hx hb dX3_copyFrom_109 rfl (lv_at hl 1 rfl) ?_
  refine g_get hC hP 7 dX3_copyFrom_110 (by omega) (gee_o hq) rfl inX3 (by decide) rfl u_1_61 ?_
  refine lv_iconst (v := 0) hx hb dX3_copyFrom_113 (by decide) ?_
  refine lv_aload_n hx hb dX3_copyFrom_114 rfl (lv_at hl 0 rfl) ?_
  refine g_get hC hP 7 dX3_copyFrom_115 (by decide) ge_1 rfl inX3 (by decide) rfl u_1_61 ?_
  refine lv_iconst (v := 0) hx hb dX3_copyFrom_118 (by decide) ?_
  refine lv_bipush (v := 14) hx hb dX3_copyFrom_119 (by decide) ?_
  obtain ⟨Q8, hv, h⟩ := ob h
  rw [hA] at hv
  refine g_cpi hC hP hS (fun Z => (Z, P, X, Y, E, B, M, O)) dX3_copyFrom_121 hl.1 u_1_231 (by omega) (by decide) (gee_7 hq) ge_9 gs_9 (by decide) rfl (by decide) (by decide) hv (by decide) (Nat.le_of_ble_eq_true rfl) (fun H locs hP hS => ?_)
  refine lv_aload_n hx hb dX3_copyFrom_124 rfl (lv_at hl 1 rfl) ?_
  refine g_get hC hP 8 dX3_copyFrom_125 (by omega) (gee_o hq) rfl inX3 (by decide) rfl u_1_63 ?_
  refine lv_iconst (v := 0) hx hb dX3_copyFrom_128 (by decide) ?_
  refine lv_aload_n hx hb dX3_copyFrom_129 rfl (lv_at hl 0 rfl) ?_
  refine g_get hC hP 8 dX3_copyFrom_130 (by decide) ge_1 rfl inX3 (by decide) rfl u_1_63 ?_
  refine lv_iconst (v := 0) hx hb dX3_copyFrom_133 (by decide) ?_
  refine lv_bipush (v := 14) hx hb dX3_copyFrom_134 (by decide) ?_
  obtain ⟨Q9, hv, h⟩ := ob h
  rw [hA] at hv
  refine g_cpi hC hP hS (fun Z => (Z, P, X, Y, E, B, M, O)) dX3_copyFrom_136 hl.1 u_1_231 (by omega) (by decide) (gee_8 hq) ge_10 gs_10 (by decide) rfl (by decide) (by decide) hv (by decide) (Nat.le_of_ble_eq_true rfl) (fun H locs hP hS => ?_)
  refine lv_aload_n hx hb dX3_copyFrom_139 rfl (lv_at hl 1 rfl) ?_
  refine g_get hC hP 9 dX3_copyFrom_140 (by omega) (gee_o hq) rfl inX3 (by decide) rfl u_1_66 ?_
  refine lv_iconst (v := 0) hx hb dX3_copyFrom_143 (by decide) ?_
  refine lv_aload_n hx hb dX3_copyFrom_144 rfl (lv_at hl 0 rfl) ?_
  refine g_get hC hP 9 dX3_copyFrom_145 (by decide) ge_1 rfl inX3 (by decide) rfl u_1_66 ?_
  refine lv_iconst (v := 0) hx hb dX3_copyFrom_148 (by decide) ?_
  refine lv_bipush (v := 14) hx hb dX3_copyFrom_149 (by decide) ?_
  obtain ⟨Q10, hv, h⟩ := ob h
  rw [hA] at hv
  refine g_cpi hC hP hS (fun Z => (Z, P, X, Y, E, B, M, O)) dX3_copyFrom_151 hl.1 u_1_231 (by omega) (by decide) (gee_9 hq) ge_11 gs_11 (by decide) rfl (by decide) (by decide) hv (by decide) (Nat.le_of_ble_eq_true rfl) (fun H locs hP hS => ?_)
  refine lv_aload_n hx hb dX3_copyFrom_154 rfl (lv_at hl 1 rfl) ?_
  refine g_get hC hP 10 dX3_copyFrom_155 (by omega) (gee_o hq) rfl inX3 (by decide) rfl u_1_69 ?_
  refine lv_iconst (v := 0) hx hb dX3_copyFrom_158 (by decide) ?_
  refine lv_aload_n hx hb dX3_copyFrom_159 rfl (lv_at hl 0 rfl) ?_
  refine g_get hC hP 10 dX3_copyFrom_160 (by decide) ge_1 rfl inX3 (by decide) rfl u_1_69 ?_
  refine lv_iconst (v := 0) hx hb dX3_copyFrom_163 (by decide) ?_
  refine lv_bipush (v := 14) hx hb dX3_copyFrom_164 (by decide) ?_
  obtain ⟨Q11, hv, h⟩ := ob h
  rw [hA] at hv
  refine g_cpi hC hP hS (fun Z => (Z, P, X, Y, E, B, M, O)) dX3_copyFrom_166 hl.1 u_1_231 (by omega) (by decide) (gee_10 hq) ge_12 gs_12 (by decide) rfl (by decide) (by decide) hv (by decide) (Nat.le_of_ble_eq_true rfl) (fun H locs hP hS => ?_)
  refine lv_aload_n hx hb dX3_copyFrom_169 rfl (lv_at hl 1 rfl) ?_
  refine g_get hC hP 11 dX3_copyFrom_170 (by omega) (gee_o hq) rfl inX3 (by decide) rfl u_1_71 ?_
  refine lv_iconst (v := 0) hx hb dX3_copyFrom_173 (by decide) ?_
  refine lv_aload_n hx hb dX3_copyFrom_174 rfl (lv_at hl 0 rfl) ?_
  refine g_get hC hP 11 dX3_copyFrom_175 (by decide) ge_1 rfl inX3 (by decide) rfl u_1_71 ?_
  refine lv_iconst (v := 0) hx hb dX3_copyFrom_178 (by decide) ?_
  refine lv_bipush (v := 14) hx hb dX3_copyFrom_179 (by decide) ?_
  obtain ⟨Q12, hv, h⟩ := ob h
  rw [hA] at hv
  refine g_cpi hC hP hS (fun Z => (Z, P, X, Y, E, B, M, O)) dX3_copyFrom_181 hl.1 u_1_231 (by omega) (by decide) (gee_11 hq) ge_13 gs_13 (by decide) rfl (by decide) (by decide) hv (by decide) (Nat.le_of_ble_eq_true rfl) (fun H locs hP hS => ?_)
  refine lv_aload_n hx hb dX3_copyFrom_184 rfl (lv_at hl 1 rfl) ?_
  refine g_get hC hP 12 dX3_copyFrom_185 (by omega) (gee_o hq) rfl inX3 (by decide) rfl u_1_73 ?_
  refine lv_iconst (v := 0) hx hb dX3_copyFrom_188 (by decide) ?_
  refine lv_aload_n hx hb dX3_copyFrom_189 rfl (lv_at hl 0 rfl) ?_
  refine g_get hC hP 12 dX3_copyFrom_190 (by decide) ge_1 rfl inX3 (by decide) rfl u_1_73 ?_
  refine lv_iconst (v := 0) hx hb dX3_copyFrom_193 (by decide) ?_
  refine lv_bipush (v := 14) hx hb dX3_copyFrom_194 (by decide) ?_
  obtain ⟨Q13, hv, h⟩ := ob h
  rw [hA] at hv
  refine g_cpz hC hP hS (fun Z => (Z, P, X, Y, E, B, M, O)) dX3_copyFrom_196 hl.1 u_1_231 (by omega) (by decide) (gee_12 hq) ge_14 gs_14 (by decide) rfl (by decide) (by decide) hv (by decide) (Nat.le_of_ble_eq_true rfl) (fun H locs hP hS => ?_)
  refine lv_aload_n hx hb dX3_copyFrom_199 rfl (lv_at hl 0 rfl) ?_
  refine lv_aload_n hx hb dX3_copyFrom_200 rfl (lv_at hl 1 rfl) ?_
  refine g_get hC hP 13 dX3_copyFrom_201 (by omega) (gee_o hq) rfl inX3 (by decide) rfl u_1_76 ?_
  obtain ⟨Q14, hv, h⟩ := ob h
  rw [hA] at hv
  refine g_putI hC hP hS (fun Z => (Z, P, X, Y, E, B, M, O)) 13 tyX3 dX3_copyFrom_204 (by decide) ge_1 rfl inX3 tyX3_ok nmX3 (by decide) u_1_76 rfl rfl (Nat.le_of_ble_eq_true rfl) gp_1_13 hv (fun H locs hP hS => ?_)
  cases h
  exact g_vret hC hP hS dX3_copyFrom_207
set_option maxRecDepth 100000 in
theorem c3_copyNull (l : Launch) {γ : GA} {sz : Nat} {T P X Y B M : OS} {E : Nat → OS} {O : Nat → Int64} : Met l yX3_copyFrom (gU yX3_copyFrom cX3_copyFrom 2 none) (gR 1 0 0) (gPc γ [.ref (ad γ 1), .null] sz (T, P, X, Y, E, B, M, O)) (gQv γ sz (T, P, X, Y, E, B, M, O)) 0 0 (gA γ sz) := by
  refine g_met (fun sz => gQv γ sz (T, P, X, Y, E, B, M, O)) (by decide) (Nat.le_of_ble_eq_true rfl) ?_
  intro p e s m args below meth c ls hC hP hS hl
  have hx := hC.x
  have hb := hC.b
  have hl : lv_has ls 2 [(0, .ref (ad γ 1)), (1, .null)] := hl
  refine lv_aload_nN hx hb dX3_copyFrom_0 rfl (lv_at hl 1 rfl) ?_
  refine lv_ifnonnullN hx hb dX3_copyFrom_1 ?_
  exact g_vret hC hP hS dX3_copyFrom_4
theorem yv_X1_nextRow : gYV yX1_nextRow cX1_nextRow 1 (some (.object "TimetableBuilder$Table")) 0 := ⟨u_1_225, u_sp_0, u_1_5, u_1_226, ⟨by decide +kernel, by decide +kernel, by decide +kernel⟩, by decide⟩
theorem yv_X1_note : gYV yX1_note cX1_note 3 none 1 := ⟨u_1_220, u_1_221, u_1_5, u_1_222, ⟨by decide +kernel, by decide +kernel, by decide +kernel⟩, by decide⟩
theorem yv_X1_keepNoted : gYV yX1_keepNoted cX1_keepNoted 1 none 0 := ⟨u_1_235, u_1_236, u_1_5, u_1_237, ⟨by decide +kernel, by decide +kernel, by decide +kernel⟩, by decide⟩
theorem yv_X1_keep : gYV yX1_keep cX1_keep 2 none 1 := ⟨u_1_216, u_1_217, u_1_5, u_1_218, ⟨by decide +kernel, by decide +kernel, by decide +kernel⟩, by decide⟩
theorem yv_X1_takeBack : gYV yX1_takeBack cX1_takeBack 2 none 1 := ⟨u_5_132, u_5_133, u_1_5, u_5_134, ⟨by decide +kernel, by decide +kernel, by decide +kernel⟩, by decide⟩
def r1_nextRow (Y : OS) : Option (Option Nat) := if (Y 1 0) < 0 then some none else if 7 ≤ (Y 1 0) then some none else some (some (Y 1 0).toNatClampNeg)
def gadr (γ : GA) (o : Option Nat) : Option Nat := o.map (fun i => ad γ (31 + 14 * i))
def gQq (γ : GA) (r : Option Nat) (sz : Nat) (σ : GS) : Array Value → State → Outcome → State → Prop := va_Qq (fun r' (_ : Unit) => r' = r) (fun _ t => va_P γ.1 vwCl (gw γ σ) t.heap) (gA γ sz)
theorem r1_nextRow_lt {Y : OS} {i : Nat} (h : r1_nextRow Y = some (some i)) : i < 7 := by
  unfold r1_nextRow at h
  split at h
  · cases h
  · split at h
    · cases h
    · next h1 h2 =>
      cases h
      have q1 := Int32.not_lt.mp h1
      have q2 := Int32.not_le.mp h2
      rw [Int32.le_iff_toInt_le] at q1
      rw [Int32.lt_iff_toInt_lt] at q2
      have e0 : (0 : Int32).toInt = 0 := rfl
      have e7 : (7 : Int32).toInt = 7 := rfl
      have : (Y 1 0).toNatClampNeg = (Y 1 0).toInt.toNat := rfl
      omega
section GQ
variable {p : Program} {l : Launch} {e : Env} {R : Room} {s : State} {m : MethodId} {args : Array Value} {below : List Frame} {meth : Method} {c : Code} {H : Heap} {locs : List Loc} {cells slots : Nat} {Q : State → Prop}
variable {pc : Nat} {ls : Array Slot} {rest st0 : List Value} {own : String} {cc : ByteArray} {nL : Nat} {yo : Cond} {reto : Option FieldType} {γ : GA} {σ σ' : GS}
theorem g_aret {o : Option Nat} {C9 : String} (hC : gCtx p s m args meth c own cc nL yo (some (.object C9)) γ) (hP : va_P γ.1 vwCl (gw γ σ) H) (hS : va_S (gA γ s.heap.size) s.heap H locs) (hdg : decode cc pc = .ok (.areturn, 1)) : W p l e R s m args below meth c H locs cells slots (MQ below (gQq γ (gadr γ o) s.heap.size σ) args s cells slots (gA γ s.heap.size)) (F0 m pc ls [va_rf (gadr γ o)]) :=
  W.aret hC.x hC.b hC.2.2.2.1 (Or.inl ⟨_, rfl⟩) (by cases o; exact Or.inl rfl; exact Or.inr ⟨_, rfl⟩) (fun t ht hW => ⟨⟨_, (), rfl, rfl, by subst ht; exact hP⟩, hS.F ht⟩) hS.2.2 hdg hC.2.2.2.2
theorem g_kq {a : Array Value} {r : Option Nat} {mc ms : Nat} (hr : va_Run p l e R s m args below meth c H locs cells slots mc ms (F0 m pc ls st0) rest (gQq γ r H.size σ' a) (gA γ H.size)) (hS : va_S (gA γ s.heap.size) s.heap H locs)
    (kk : ∀ (H : Heap) (locs : List Loc), va_P γ.1 vwCl (gw γ σ') H → va_S (gA γ s.heap.size) s.heap H locs → W p l e R s m args below meth c H locs (cells + mc) (slots + ms) Q (F0 m (pc + 3) ls (va_rf r :: rest))) : W p l e R s m args below meth c H locs cells slots Q (F0 m pc ls st0) :=
  va_callq hr hS (gA_step hS rfl).1 (gA_step hS rfl).2 (fun r' u t H1 locs1 ht hvm hw hB hz hk hS1 => by subst hw; subst ht; exact kk _ _ hB hS1)
end GQ
set_option maxHeartbeats 4000000 in
set_option maxRecDepth 100000 in
theorem c1_nextRow (l : Launch) {γ : GA} {sz : Nat} {T P X Y B M : OS} {E : Nat → OS} {O : Nat → Int64} {o : Option Nat} (h : r1_nextRow Y = some o) : Met l yX1_nextRow (gU yX1_nextRow cX1_nextRow 1 (some (.object "TimetableBuilder$Table"))) (gR 0 0 0) (gPc γ [.ref (ad γ 19)] sz (T, P, X, Y, E, B, M, O)) (gQq γ (gadr γ o) sz (T, P, X, Y, E, B, M, O)) 0 0 (gA γ sz) := by
  refine g_met (fun sz => gQq γ (gadr γ o) sz (T, P, X, Y, E, B, M, O)) (by decide) (Nat.le_of_ble_eq_true rfl) ?_
  intro p e s m args below meth c ls hC hP hS hl
  have hx := hC.x
  have hb := hC.b
  have hl : lv_has ls 1 [(0, .ref (ad γ 19))] := hl
  have hlt := h
  unfold r1_nextRow at h
  refine lv_aload_n hx hb dX1_nextRow_0 rfl (lv_at hl 0 rfl) ?_
  refine g_get hC hP 1 dX1_nextRow_1 (by decide) ge_19 rfl inX1 (by decide) rfl u_1_141 ?_
  refine lv_if_lt (tgt := 31) hx hb dX1_nextRow_4 (by decide) (fun c1 => ?_) (fun c1 => ?_)
  · rw [if_pos c1] at h
    cases h
    refine lv_null hx hb dX1_nextRow_31 ?_
    exact g_aret (o := none) hC hP hS dX1_nextRow_32
  · rw [if_neg c1] at h
    refine lv_aload_n hx hb dX1_nextRow_7 rfl (lv_at hl 0 rfl) ?_
    refine g_get hC hP 1 dX1_nextRow_8 (by decide) ge_19 rfl inX1 (by decide) rfl u_1_141 ?_
    refine lv_aload_n hx hb dX1_nextRow_11 rfl (lv_at hl 0 rfl) ?_
    refine g_get hC hP 0 dX1_nextRow_12 (by decide) ge_19 rfl inX1 (by decide) rfl u_1_140 ?_
    refine g_len hC hP (t0 := 2) (v := 7) dX1_nextRow_15 (by decide) ge_20 rfl rfl ?_
    refine lv_icmp_ge (tgt := 31) hx hb dX1_nextRow_16 (by decide) (fun c2 => ?_) (fun c2 => ?_)
    · rw [if_pos c2] at h
      cases h
      refine lv_null hx hb dX1_nextRow_31 ?_
      exact g_aret (o := none) hC hP hS dX1_nextRow_32
    · rw [if_neg c2] at h
      cases h
      have hlt := r1_nextRow_lt hlt
      refine lv_aload_n hx hb dX1_nextRow_19 rfl (lv_at hl 0 rfl) ?_
      refine g_get hC hP 0 dX1_nextRow_20 (by decide) ge_19 rfl inX1 (by decide) rfl u_1_140 ?_
      refine lv_aload_n hx hb dX1_nextRow_23 rfl (lv_at hl 0 rfl) ?_
      refine g_get hC hP 1 dX1_nextRow_24 (by decide) ge_19 rfl inX1 (by decide) rfl u_1_141 ?_
      refine va_aldq (C := "TimetableBuilder$Table") hx hb hC.k hP 20 2 (by rw [gw_at (by decide), ge_20]) rfl (fun z => z.elim (fun z => c1 z) (fun z => Nat.not_lt.mpr z hlt)) dX1_nextRow_27 ?_
      refine lv_goto (tgt := 32) hx hb dX1_nextRow_28 (by decide) ?_
      exact g_aret (o := some _) hC hP hS dX1_nextRow_32
/-- the table into the ring's next row -/
def r1_note (T Y : OS) (E : Nat → OS) : Option (Nat → OS) := (r1_nextRow Y).bind fun o => match o with
  | none => some E
  | some q => (r3_copyFrom T (E q)).bind fun Q => some (upE E q Q)
def r1_takeBack (T Y : OS) (E : Nat → OS) : Option (OS × OS) :=
  (sw Y 1 (if (Y 1 0) ≤ 0 then 6 else (Y 1 0) - 1)).bind fun Y1 =>
  (sw Y1 2 (mx ((Y1 2 0) - 1) 0)).bind fun Y2 =>
  (r1_nextRow Y2).bind fun o => match o with
  | none => some (T, Y2)
  | some q => (r3_copyFrom (E q) T).bind fun Q => some (Q, Y2)
set_option maxHeartbeats 4000000 in
set_option maxRecDepth 100000 in
theorem c1_note (l : Launch) {γ : GA} {sz : Nat} {T P X Y B M : OS} {E : Nat → OS} {O : Nat → Int64} {Ez : Nat → OS} (h : r1_note T Y E = some Ez) : Met l yX1_note (gU yX1_note cX1_note 3 none) (gR 2 0 0) (gPc γ [.ref (ad γ 19), .ref (ad γ 1)] sz (T, P, X, Y, E, B, M, O)) (gQv γ sz (T, P, X, Y, Ez, B, M, O)) 0 0 (gA γ sz) := by
  refine g_met (fun sz => gQv γ sz (T, P, X, Y, Ez, B, M, O)) (by decide) (Nat.le_of_ble_eq_true rfl) ?_
  intro p e s m args below meth c ls hC hP hS hl
  have hx := hC.x
  have hb := hC.b
  have hl : lv_has ls 3 [(0, .ref (ad γ 19)), (1, .ref (ad γ 1))] := hl
  unfold r1_note at h
  obtain ⟨o, hv, h⟩ := ob h
  refine lv_aload_n hx hb dX1_note_0 rfl (lv_at hl 0 rfl) ?_
  refine g_kq (g_runV (As := []) (rest := []) hC hP (c1_nextRow l hv) (by decide) ge_19 rfl u_1_223 yv_X1_nextRow (Nat.le_of_ble_eq_true rfl) rfl hl.1 rfl (Nat.le_of_ble_eq_true rfl) dX1_note_1 ⟨by decide, by decide⟩) hS (fun H locs hP hS => ?_)
  cases o with
  | none =>
    cases h
    refine lv_astore_nN (lv' := [(2, .null), (0, .ref (ad γ 19)), (1, .ref (ad γ 1))]) hx hb dX1_note_4 rfl hl (by decide) rfl (fun ls hl => ?_)
    refine lv_aload_nN hx hb dX1_note_5 rfl (lv_at hl 0 rfl) ?_
    refine lv_ifnullN (tgt := 14) hx hb dX1_note_6 (by decide) ?_
    exact g_vret hC hP hS dX1_note_14
  | some q =>
    have hq : q < 7 := r1_nextRow_lt hv
    obtain ⟨Q, hw, h⟩ := ob h
    cases h
    refine lv_astore_n (lv' := [(2, .ref (ad γ (31 + 14 * q))), (0, .ref (ad γ 19)), (1, .ref (ad γ 1))]) hx hb dX1_note_4 rfl hl (by decide) rfl (fun ls hl => ?_)
    refine lv_aload_n hx hb dX1_note_5 rfl (lv_at hl 0 rfl) ?_
    refine lv_ifnull hx hb dX1_note_6 ?_
    refine lv_aload_n hx hb dX1_note_9 rfl (lv_at hl 0 rfl) ?_
    refine lv_aload_n hx hb dX1_note_10 rfl (lv_at hl 2 rfl) ?_
    refine g_kv (g_runV (As := [.ref (ad γ 1)]) (rest := []) hC hP (c3_copyIn l (by omega) hw) (by omega) (gee_o (by omega)) rfl u_1_227 yv_X3_copyFrom (Nat.le_of_ble_eq_true rfl) rfl hl.1 rfl (Nat.le_of_ble_eq_true rfl) dX1_note_11 ⟨by decide, by decide⟩) hS (fun H locs hP hS => ?_)
    exact g_vret hC hP hS dX1_note_14
def r1_keepNoted_j19 (Y : OS) (v : Int32) : Option OS :=
  (sw Y 1 v).bind fun Y1 =>
  (sw Y1 2 (mn ((Y1 2 0) + 1) 6)).bind fun Y2 => some Y2
def r1_keepNoted (Y : OS) : Option OS := r1_keepNoted_j19 Y (if 6 ≤ (Y 1 0) then 0 else (Y 1 0) + 1)
set_option maxHeartbeats 4000000 in
set_option maxRecDepth 100000 in
theorem c1_keepNoted (l : Launch) {γ : GA} {sz : Nat} {T P X Y B M : OS} {E : Nat → OS} {O : Nat → Int64} {Yz : OS} (h : r1_keepNoted Y = some Yz) : Met l yX1_keepNoted (gU yX1_keepNoted cX1_keepNoted 1 none) (gR 1 0 0) (gPc γ [.ref (ad γ 19)] sz (T, P, X, Y, E, B, M, O)) (gQv γ sz (T, P, X, Yz, E, B, M, O)) 0 0 (gA γ sz) := by
  refine g_met (fun sz => gQv γ sz (T, P, X, Yz, E, B, M, O)) (by decide) (Nat.le_of_ble_eq_true rfl) ?_
  intro p e s m args below meth c ls hC hP hS hl
  have hx := hC.x
  have hb := hC.b
  have hl : lv_has ls 1 [(0, .ref (ad γ 19))] := hl
  unfold r1_keepNoted at h
  have J : ∀ v, r1_keepNoted_j19 Y v = some Yz → W p l e (gR 1 0 0) s m args below meth c s.heap [] 0 0 (MQ below (gQv γ s.heap.size (T, P, X, Yz, E, B, M, O)) args s 0 0 (gA γ s.heap.size)) (F0 m 20 ls [.int v, .ref (ad γ 19)]) := by
    intro v h
    unfold r1_keepNoted_j19 at h
    obtain ⟨Y1, hv, h⟩ := ob h
    refine g_putI hC hP hS (fun Z => (T, P, X, Z, E, B, M, O)) 1 tyX1 dX1_keepNoted_20 (by decide) ge_19 rfl inX1 tyX1_ok nmX1 (by decide) u_1_141 rfl rfl (Nat.le_of_ble_eq_true rfl) gp_19_1 hv (fun H locs hP hS => ?_)
    refine lv_aload_n hx hb dX1_keepNoted_23 rfl (lv_at hl 0 rfl) ?_
    refine lv_aload_n hx hb dX1_keepNoted_24 rfl (lv_at hl 0 rfl) ?_
    refine g_get hC hP 2 dX1_keepNoted_25 (by decide) ge_19 rfl inX1 (by decide) rfl u_1_142 ?_
    refine lv_iconst (v := 1) hx hb dX1_keepNoted_28 (by decide) ?_
    refine lv_iadd hx hb dX1_keepNoted_29 ?_
    refine lv_bipush (v := 6) hx hb dX1_keepNoted_30 (by decide) ?_
    refine va_mmin hx hb (hC.1.2.2.1.trans hl.1.symm) hC.o (hC.w u_1_238) (hC.w u_1_239) (hC.w u_1_14) (hC.w u_2_0) (by decide) (Nat.le_of_ble_eq_true rfl) (by decide) (by decide) dX1_keepNoted_32 ?_
    obtain ⟨Y2, hv, h⟩ := ob h
    refine g_putI hC hP hS (fun Z => (T, P, X, Z, E, B, M, O)) 2 tyX1 dX1_keepNoted_35 (by decide) ge_19 rfl inX1 tyX1_ok nmX1 (by decide) u_1_142 rfl rfl (Nat.le_of_ble_eq_true rfl) gp_19_2 hv (fun H locs hP hS => ?_)
    cases h
    exact g_vret hC hP hS dX1_keepNoted_38
  refine lv_aload_n hx hb dX1_keepNoted_0 rfl (lv_at hl 0 rfl) ?_
  refine lv_aload_n hx hb dX1_keepNoted_1 rfl (lv_at hl 0 rfl) ?_
  refine g_get hC hP 1 dX1_keepNoted_2 (by decide) ge_19 rfl inX1 (by decide) rfl u_1_141 ?_
  refine lv_bipush (v := 6) hx hb dX1_keepNoted_5 (by decide) ?_
  refine lv_icmp_ge (tgt := 19) hx hb dX1_keepNoted_7 (by decide) (fun c1 => ?_) (fun c1 => ?_)
  · rw [if_pos c1] at h
    refine lv_iconst (v := 0) hx hb dX1_keepNoted_19 (by decide) ?_
    exact J _ h
  · rw [if_neg c1] at h
    refine lv_aload_n hx hb dX1_keepNoted_10 rfl (lv_at hl 0 rfl) ?_
    refine g_get hC hP 1 dX1_keepNoted_11 (by decide) ge_19 rfl inX1 (by decide) rfl u_1_141 ?_
    refine lv_iconst (v := 1) hx hb dX1_keepNoted_14 (by decide) ?_
    refine lv_iadd hx hb dX1_keepNoted_15 ?_
    refine lv_goto (tgt := 20) hx hb dX1_keepNoted_16 (by decide) ?_
    exact J _ h
def r1_keep (T Y : OS) (E : Nat → OS) : Option (OS × (Nat → OS)) := bd1 (r1_note T Y E) fun E1 => bd1 (r1_keepNoted Y) fun Y1 => some (Y1, E1)
set_option maxHeartbeats 4000000 in
set_option maxRecDepth 100000 in
theorem c1_keep (l : Launch) {γ : GA} {sz : Nat} {T P X Y B M : OS} {E : Nat → OS} {O : Nat → Int64} {Yz : OS} {Ez : Nat → OS} (h : r1_keep T Y E = some (Yz, Ez)) : Met l yX1_keep (gU yX1_keep cX1_keep 2 none) (gR 3 0 0) (gPc γ [.ref (ad γ 19), .ref (ad γ 1)] sz (T, P, X, Y, E, B, M, O)) (gQv γ sz (T, P, X, Yz, Ez, B, M, O)) 0 0 (gA γ sz) := by
  refine g_met (fun sz => gQv γ sz (T, P, X, Yz, Ez, B, M, O)) (by decide) (Nat.le_of_ble_eq_true rfl) ?_
  intro p e s m args below meth c ls hC hP hS hl
  have hx := hC.x
  have hb := hC.b
  have hl : lv_has ls 2 [(0, .ref (ad γ 19)), (1, .ref (ad γ 1))] := hl
  unfold r1_keep at h
  obtain ⟨E1, hv, h⟩ := bd1_e h
  refine lv_aload_n hx hb dX1_keep_0 rfl (lv_at hl 0 rfl) ?_
  refine lv_aload_n hx hb dX1_keep_1 rfl (lv_at hl 1 rfl) ?_
  refine g_kv (g_runV (As := [.ref (ad γ 1)]) (rest := []) hC hP (c1_note l hv) (by decide) ge_19 rfl u_1_219 yv_X1_note (Nat.le_of_ble_eq_true rfl) rfl hl.1 rfl (Nat.le_of_ble_eq_true rfl) dX1_keep_2 ⟨by decide, by decide⟩) hS (fun H locs hP hS => ?_)
  obtain ⟨Y1, hv, h⟩ := bd1_e h
  refine lv_aload_n hx hb dX1_keep_5 rfl (lv_at hl 0 rfl) ?_
  refine g_kv (g_runV (As := []) (rest := []) hC hP (c1_keepNoted l hv) (by decide) ge_19 rfl u_1_234 yv_X1_keepNoted (Nat.le_of_ble_eq_true rfl) rfl hl.1 rfl (Nat.le_of_ble_eq_true rfl) dX1_keep_6 ⟨by decide, by decide⟩) hS (fun H locs hP hS => ?_)
  cases h
  exact g_vret hC hP hS dX1_keep_9
set_option maxHeartbeats 4000000 in
set_option maxRecDepth 100000 in
theorem c1_takeBack (l : Launch) {γ : GA} {sz : Nat} {T P X Y B M : OS} {E : Nat → OS} {O : Nat → Int64} {Tz Yz : OS} (h : r1_takeBack T Y E = some (Tz, Yz)) : Met l yX1_takeBack (gU yX1_takeBack cX1_takeBack 2 none) (gR 2 0 0) (gPc γ [.ref (ad γ 19), .ref (ad γ 1)] sz (T, P, X, Y, E, B, M, O)) (gQv γ sz (Tz, P, X, Yz, E, B, M, O)) 0 0 (gA γ sz) := by
  refine g_met (fun sz => gQv γ sz (Tz, P, X, Yz, E, B, M, O)) (by decide) (Nat.le_of_ble_eq_true rfl) ?_
  intro p e s m args below meth c ls hC hP hS hl
  have hx := hC.x
  have hb := hC.b
  have hl : lv_has ls 2 [(0, .ref (ad γ 19)), (1, .ref (ad γ 1))] := hl
  unfold r1_takeBack at h
  obtain ⟨Y1, hv, h⟩ := ob h
  have J : ∀ v, sw Y 1 v = some Y1 → W p l e (gR 2 0 0) s m args below meth c s.heap [] 0 0 (MQ below (gQv γ s.heap.size (Tz, P, X, Yz, E, B, M, O)) args s 0 0 (gA γ s.heap.size)) (F0 m 19 ls [.int v, .ref (ad γ 19)]) := by
    intro v hv
    refine g_putI hC hP hS (fun Z => (T, P, X, Z, E, B, M, O)) 1 tyX1 dX1_takeBack_19 (by decide) ge_19 rfl inX1 tyX1_ok nmX1 (by decide) u_1_141 rfl rfl (Nat.le_of_ble_eq_true rfl) gp_19_1 hv (fun H locs hP hS => ?_)
    obtain ⟨Y2, hv, h⟩ := ob h
    refine lv_aload_n hx hb dX1_takeBack_22 rfl (lv_at hl 0 rfl) ?_
    refine lv_aload_n hx hb dX1_takeBack_23 rfl (lv_at hl 0 rfl) ?_
    refine g_get hC hP 2 dX1_takeBack_24 (by decide) ge_19 rfl inX1 (by decide) rfl u_1_142 ?_
    refine lv_iconst (v := 1) hx hb dX1_takeBack_27 (by decide) ?_
    refine lv_isub hx hb dX1_takeBack_28 ?_
    refine lv_iconst (v := 0) hx hb dX1_takeBack_29 (by decide) ?_
    refine va_mmax hx hb (hC.1.2.2.1.trans hl.1.symm) hC.o (hC.w u_5_135) (hC.w u_3_206) (hC.w u_1_14) (hC.w u_3_207) (by decide) (Nat.le_of_ble_eq_true rfl) (by decide) (by decide) dX1_takeBack_30 ?_
    refine g_putI hC hP hS (fun Z => (T, P, X, Z, E, B, M, O)) 2 tyX1 dX1_takeBack_33 (by decide) ge_19 rfl inX1 tyX1_ok nmX1 (by decide) u_1_142 rfl rfl (Nat.le_of_ble_eq_true rfl) gp_19_2 hv (fun H locs hP hS => ?_)
    obtain ⟨o, hv, h⟩ := ob h
    refine lv_aload_n hx hb dX1_takeBack_36 rfl (lv_at hl 1 rfl) ?_
    refine lv_aload_n hx hb dX1_takeBack_37 rfl (lv_at hl 0 rfl) ?_
    refine g_kq (g_runV (As := []) (rest := [.ref (ad γ 1)]) hC hP (c1_nextRow l hv) (by decide) ge_19 rfl u_1_223 yv_X1_nextRow (Nat.le_of_ble_eq_true rfl) rfl hl.1 rfl (Nat.le_of_ble_eq_true rfl) dX1_takeBack_38 ⟨by decide, by decide⟩) hS (fun H locs hP hS => ?_)
    cases o with
    | none =>
      cases h
      refine g_kv (g_runV (As := [.null]) (rest := []) hC hP (c3_copyNull l) (by decide) ge_1 rfl u_1_227 yv_X3_copyFrom (Nat.le_of_ble_eq_true rfl) rfl hl.1 rfl (Nat.le_of_ble_eq_true rfl) dX1_takeBack_41 ⟨by decide, by decide⟩) hS (fun H locs hP hS => ?_)
      exact g_vret hC hP hS dX1_takeBack_44
    | some q =>
      have hq : q < 7 := r1_nextRow_lt hv
      obtain ⟨Q, hw, h⟩ := ob h
      cases h
      refine g_kv (g_runV (As := [.ref (ad γ (31 + 14 * q))]) (rest := []) hC hP (c3_copyOut l (by omega) hw) (by decide) ge_1 rfl u_1_227 yv_X3_copyFrom (Nat.le_of_ble_eq_true rfl) rfl hl.1 rfl (Nat.le_of_ble_eq_true rfl) dX1_takeBack_41 ⟨by decide, by decide⟩) hS (fun H locs hP hS => ?_)
      exact g_vret hC hP hS dX1_takeBack_44
  refine lv_aload_n hx hb dX1_takeBack_0 rfl (lv_at hl 0 rfl) ?_
  refine lv_aload_n hx hb dX1_takeBack_1 rfl (lv_at hl 0 rfl) ?_
  refine g_get hC hP 1 dX1_takeBack_2 (by decide) ge_19 rfl inX1 (by decide) rfl u_1_141 ?_
  refine lv_if_le (tgt := 17) hx hb dX1_takeBack_5 (by decide) (fun c1 => ?_) (fun c1 => ?_)
  · rw [if_pos c1] at hv
    refine lv_bipush (v := 6) hx hb dX1_takeBack_17 (by decide) ?_
    exact J _ hv
  · rw [if_neg c1] at hv
    refine lv_aload_n hx hb dX1_takeBack_8 rfl (lv_at hl 0 rfl) ?_
    refine g_get hC hP 1 dX1_takeBack_9 (by decide) ge_19 rfl inX1 (by decide) rfl u_1_141 ?_
    refine lv_iconst (v := 1) hx hb dX1_takeBack_12 (by decide) ?_
    refine lv_isub hx hb dX1_takeBack_13 ?_
    refine lv_goto (tgt := 19) hx hb dX1_takeBack_14 (by decide) ?_
    exact J _ hv
