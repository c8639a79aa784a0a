/-! the law: a case of its switch, and its loop -/
def R_lw : String := "TimetableBuilderLaw"
section LROW
variable {p : Program} {l : Launch} {e : Env} {R : Room} {s : State} {m : MethodId} {args : Array Value} {below : List Frame} {meth : Method} {c : Code} {H : Heap} {locs : List Loc} {cells slots : Nat} {Q : State → Prop}
variable {pc : Nat} {ls : Array Slot} {rest st0 : List Value} {own : String} {cc : ByteArray} {nL : Nat} {yo : Cond} {reto : Option FieldType} {γ : GA} {σ σ' : GS}
theorem g_scr (hC : gCtx p s m args meth c own cc nL yo reto γ) {b L : Nat} {xs : Nat → Int32} (hX : va_X b L xs s s.heap) (hbl : b < s.heap.size) (hbA : ¬ gA γ s.heap.size b) (hS : va_S (gA γ s.heap.size) s.heap H locs) {i v : Int32} (hdg : decode cc pc = .ok (.iaload, 1)) (hv : rd L xs i = some v)
    (kk : W p l e R s m args below meth c H locs cells slots Q (F0 m (pc + 1) ls (.int v :: rest))) : W p l e R s m args below meth c H locs cells slots Q (F0 m pc ls (.int i :: .ref b :: rest)) := by
  obtain ⟨h1, h2⟩ := rd_in hv
  subst h2
  exact va_sld hC.x hC.b hX hbl hbA hS h1 hdg kk
theorem g_lld (hC : gCtx p s m args meth c own cc nL yo reto γ) {T P X Y B M : OS} {E : Nat → OS} {O : Nat → Int64} (hP : va_P γ.1 vwCl (gw γ (T, P, X, Y, E, B, M, O)) H) (hdg : decode cc pc = .ok (.laload, 1))
    (kk : W p l e R s m args below meth c H locs cells slots Q (F0 m (pc + 1) ls (.long (O 0) :: rest))) : W p l e R s m args below meth c H locs cells slots Q (F0 m pc ls (.int 0 :: .ref (ad γ 30) :: rest)) :=
  va_lald hC.x hC.b hC.k hP 30 3 (by rw [gw_at (by decide), ge_30]) rfl (show ¬ ((0 : Int32) < 0 ∨ 1 ≤ (0 : Int32).toNatClampNeg) by decide) hdg kk
end LROW
/-- the law's standing facts -/
def lC (p : Program) (s : State) (m : MethodId) (args : Array Value) (meth : Method) (c : Code) (γ : GA) (b L : Nat) (xs : Nat → Int32) : Prop := gCtx p s m args meth c RL cL_law 7 (Cond.initialized RL) (some .boolean) γ ∧ va_X b L xs s s.heap ∧ b < s.heap.size ∧ ¬ gA γ s.heap.size b ∧ gZs (gA γ s.heap.size) s s.heap
def rw_0 (L : Nat) (xs : Nat → Int32) (σ : GS) (x4 : Int32) : Option GS := match σ with
  | (T, P, X, Y, E, B, M, O) =>
  (rd L xs (x4 + 1)).bind fun v1 =>
  (rd L xs (x4 + 2)).bind fun v2 =>
  (rd L xs (x4 + 3)).bind fun v3 =>
  bd5 (rL_setRoom T Y E O v1 v2 v3) (fun v4 T5 Y6 E7 O8 =>
  (rd L xs (x4 + 1)).bind fun v9 =>
  (rd L xs (x4 + 2)).bind fun v10 =>
  (rd L xs (x4 + 3)).bind fun v11 =>
  bd2 (r5_setRoom M v9 v10 v11) (fun v12 M13 =>
  bd1 (r5_thrown M13) (fun v14 =>
  (if v14 = v4 then (if v4 = 0 then (if (lg_cmp (O8 0) (v12.toInt64)) = 0 then some (T5, P, X, Y6, E7, B, M13, O8)
  else none)
  else some (T5, P, X, Y6, E7, B, M13, O8))
  else none))))
set_option maxHeartbeats 4000000 in
set_option maxRecDepth 100000 in
theorem lw_0 {p : Program} {l : Launch} {e : Env} {s : State} {m : MethodId} {args : Array Value} {below : List Frame} {meth : Method} {c : Code} {Q : State → Prop} (hst : l.stackTraces = false) {γ : GA} {b L : Nat} {xs : Nat → Int32} (hLC : lC p s m args meth c γ b L xs) {σ σ' : GS} {x4 : Int32} (h : rw_0 L xs σ x4 = some σ') {ce se : Nat} (hce : ce + 16 ≤ 601024) (hse : se + 96 ≤ 7293034)
    (kk : ∀ (H : Heap) (locs : List Loc) (ls : Array Slot) (ce2 se2 : Nat), ce2 ≤ ce + 16 → se2 ≤ se + 96 → va_P γ.1 vwCl (gw γ σ') H → va_S (gA γ s.heap.size) s.heap H locs → lv_has ls 7 [(0, .ref b), (1, .ref (ad γ 0)), (2, .ref (ad γ 23)), (3, .ref (ad γ 30)), (4, .int x4)] → W p l e room_1 s m args below meth c H locs ce2 se2 Q (F0 m 2164 ls []))
    {H : Heap} {locs : List Loc} {ls : Array Slot} (hP : va_P γ.1 vwCl (gw γ σ) H) (hS : va_S (gA γ s.heap.size) s.heap H locs) (hl : lv_has ls 7 [(0, .ref b), (1, .ref (ad γ 0)), (2, .ref (ad γ 23)), (3, .ref (ad γ 30)), (4, .int x4)]) : W p l e room_1 s m args below meth c H locs ce se Q (F0 m 192 ls []) := by
  obtain ⟨hC, hX, hbl, hbA, hZ⟩ := hLC
  have hx := hC.x
  have hb := hC.b
  obtain ⟨T, P, X, Y, E, B, M, O⟩ := σ
  unfold rw_0 at h
  dsimp only at h
  refine lv_aload_n hx hb dL_law_192 rfl (lv_at hl 1 rfl) ?_
  refine lv_aload_n hx hb dL_law_193 rfl (lv_at hl 0 rfl) ?_
  refine lv_iload hx hb dL_law_194 (lv_at hl 4 rfl) ?_
  refine lv_iconst (v := 1) hx hb dL_law_196 (by decide) ?_
  refine lv_iadd hx hb dL_law_197 ?_
  obtain ⟨v1, hv, h⟩ := ob h
  refine g_scr hC hX hbl hbA hS dL_law_198 hv ?_
  refine lv_aload_n hx hb dL_law_199 rfl (lv_at hl 0 rfl) ?_
  refine lv_iload hx hb dL_law_200 (lv_at hl 4 rfl) ?_
  refine lv_iconst (v := 2) hx hb dL_law_202 (by decide) ?_
  refine lv_iadd hx hb dL_law_203 ?_
  obtain ⟨v2, hv, h⟩ := ob h
  refine g_scr hC hX hbl hbA hS dL_law_204 hv ?_
  refine lv_aload_n hx hb dL_law_205 rfl (lv_at hl 0 rfl) ?_
  refine lv_iload hx hb dL_law_206 (lv_at hl 4 rfl) ?_
  refine lv_iconst (v := 3) hx hb dL_law_208 (by decide) ?_
  refine lv_iadd hx hb dL_law_209 ?_
  obtain ⟨v3, hv, h⟩ := ob h
  refine g_scr hC hX hbl hbA hS dL_law_210 hv ?_
  refine lv_aload_n hx hb dL_law_211 rfl (lv_at hl 3 rfl) ?_
  obtain ⟨v4, T5, Y6, E7, O8, hv, h⟩ := bd5_e h
  refine g_xki (g_lW (As := [.ref (ad γ 0), .int v1, .int v2, .int v3, .ref (ad γ 30)]) (rest := []) hC hZ hP hS (tL_setRoom l hst hv) u_2_124 yw_L_setRoom ⟨Nat.le_of_ble_eq_true rfl, Nat.le_of_ble_eq_true rfl⟩ rfl hl.1 rfl (Nat.le_of_ble_eq_true rfl) dL_law_212 ⟨by show _ ≤ 601024; omega, by show _ ≤ 7293034; omega⟩) hS (fun H locs hP hS => ?_)
  refine lv_istore (lv' := [(5, .int v4), (0, .ref b), (1, .ref (ad γ 0)), (2, .ref (ad γ 23)), (3, .ref (ad γ 30)), (4, .int x4)]) hx hb dL_law_215 hl (by decide) rfl (fun ls hl => ?_)
  refine lv_aload_n hx hb dL_law_217 rfl (lv_at hl 3 rfl) ?_
  refine lv_aload_n hx hb dL_law_218 rfl (lv_at hl 1 rfl) ?_
  refine lv_iload hx hb dL_law_219 (lv_at hl 5 rfl) ?_
  refine lv_iconst (v := 1) hx hb dL_law_221 (by decide) ?_
  refine lv_iadd hx hb dL_law_222 ?_
  obtain ⟨v9, hv, h⟩ := ob h
  refine g_scr hC hX hbl hbA hS dL_law_223 hv ?_
  refine lv_aload_n hx hb dL_law_224 rfl (lv_at hl 1 rfl) ?_
  refine lv_iload hx hb dL_law_225 (lv_at hl 5 rfl) ?_
  refine lv_iconst (v := 2) hx hb dL_law_227 (by decide) ?_
  refine lv_iadd hx hb dL_law_228 ?_
  obtain ⟨v10, hv, h⟩ := ob h
  refine g_scr hC hX hbl hbA hS dL_law_229 hv ?_
  refine lv_aload_n hx hb dL_law_230 rfl (lv_at hl 1 rfl) ?_
  refine lv_iload hx hb dL_law_231 (lv_at hl 5 rfl) ?_
  refine lv_iconst (v := 3) hx hb dL_law_233 (by decide) ?_
  refine lv_iadd hx hb dL_law_234 ?_
  obtain ⟨v11, hv, h⟩ := ob h
  refine g_scr hC hX hbl hbA hS dL_law_235 hv ?_
  obtain ⟨v12, M13, hv, h⟩ := bd2_e h
  refine g_ki (g_lV (As := [.int v9, .int v10, .int v11]) (rest := []) hC hP (c5_setRoom l hv) (by decide) ge_23 rfl u_5_206 yv_X5_setRoom ⟨Nat.le_of_ble_eq_true rfl, Nat.le_of_ble_eq_true rfl⟩ rfl hl.1 rfl (Nat.le_of_ble_eq_true rfl) dL_law_236 ⟨by show _ ≤ 601024; omega, by show _ ≤ 7293034; omega⟩) hS (fun H locs hP hS => ?_)
  refine lv_istore (lv' := [(6, .int v12), (5, .int v4), (0, .ref b), (1, .ref (ad γ 0)), (2, .ref (ad γ 23)), (3, .ref (ad γ 30)), (4, .int x4)]) hx hb dL_law_239 hl (by decide) rfl (fun ls hl => ?_)
  refine lv_aload_n hx hb dL_law_241 rfl (lv_at hl 4 rfl) ?_
  obtain ⟨v14, hv, h⟩ := bd1_e h
  refine g_ki (g_lV (As := []) (rest := []) hC hP (c5_thrown l hv) (by decide) ge_23 rfl u_5_144 yv_X5_thrown ⟨Nat.le_of_ble_eq_true rfl, Nat.le_of_ble_eq_true rfl⟩ rfl hl.1 rfl (Nat.le_of_ble_eq_true rfl) dL_law_242 ⟨by show _ ≤ 601024; omega, by show _ ≤ 7293034; omega⟩) hS (fun H locs hP hS => ?_)
  refine lv_iload hx hb dL_law_245 (lv_at hl 1 rfl) ?_
  refine lv_icmp_eq (tgt := 252) hx hb dL_law_247 (by decide) (fun c15 => ?_) (fun c15 => ?_)
  · rw [if_pos c15] at h
    refine lv_iload hx hb dL_law_252 (lv_at hl 1 rfl) ?_
    refine lv_if_ne (tgt := 269) hx hb dL_law_254 (by decide) (fun c16 => ?_) (fun c16 => ?_)
    · rw [if_neg c16] at h
      refine lv_goto (tgt := 2164) hx hb dL_law_269 (by decide) ?_
      cases h
      exact kk _ _ _ _ _ (by omega) (by omega) hP hS (lv_sub hl [2, 3, 4, 5, 6] rfl)
    · rw [if_pos c16] at h
      refine lv_aload_n hx hb dL_law_257 rfl (lv_at hl 5 rfl) ?_
      refine lv_iconst (v := 0) hx hb dL_law_258 (by decide) ?_
      refine g_lld hC hP dL_law_259 ?_
      refine lv_iload hx hb dL_law_260 (lv_at hl 0 rfl) ?_
      refine lv_i2l (v := (v12).toInt64) hx hb dL_law_262 rfl ?_
      refine W.lcmp hx hb dL_law_263 ?_
      refine lv_if_eq (tgt := 269) hx hb dL_law_264 (by decide) (fun c17 => ?_) (fun c17 => ?_)
      · rw [if_pos c17] at h
        refine lv_goto (tgt := 2164) hx hb dL_law_269 (by decide) ?_
        cases h
        exact kk _ _ _ _ _ (by omega) (by omega) hP hS (lv_sub hl [2, 3, 4, 5, 6] rfl)
      · rw [if_neg c17] at h
        refine lv_iconst (v := 0) hx hb dL_law_267 (by decide) ?_
        cases h
  · rw [if_neg c15] at h
    refine lv_iconst (v := 0) hx hb dL_law_250 (by decide) ?_
    cases h
def rw_1 (L : Nat) (xs : Nat → Int32) (σ : GS) (x4 : Int32) : Option GS := match σ with
  | (T, P, X, Y, E, B, M, O) =>
  (rd L xs (x4 + 1)).bind fun v1 =>
  (rd L xs (x4 + 2)).bind fun v2 =>
  bd5 (rL_setGroup T Y E O v1 v2) (fun v3 T4 Y5 E6 O7 =>
  (rd L xs (x4 + 1)).bind fun v8 =>
  (rd L xs (x4 + 2)).bind fun v9 =>
  bd2 (r5_setGroup M v8 v9) (fun v10 M11 =>
  bd1 (r5_thrown M11) (fun v12 =>
  (if v12 = v3 then (if v3 = 0 then (if (lg_cmp (O7 0) (v10.toInt64)) = 0 then some (T4, P, X, Y5, E6, B, M11, O7)
  else none)
  else some (T4, P, X, Y5, E6, B, M11, O7))
  else none))))
set_option maxHeartbeats 4000000 in
set_option maxRecDepth 100000 in
theorem lw_1 {p : Program} {l : Launch} {e : Env} {s : State} {m : MethodId} {args : Array Value} {below : List Frame} {meth : Method} {c : Code} {Q : State → Prop} (hst : l.stackTraces = false) {γ : GA} {b L : Nat} {xs : Nat → Int32} (hLC : lC p s m args meth c γ b L xs) {σ σ' : GS} {x4 : Int32} (h : rw_1 L xs σ x4 = some σ') {ce se : Nat} (hce : ce + 16 ≤ 601024) (hse : se + 96 ≤ 7293034)
    (kk : ∀ (H : Heap) (locs : List Loc) (ls : Array Slot) (ce2 se2 : Nat), ce2 ≤ ce + 16 → se2 ≤ se + 96 → va_P γ.1 vwCl (gw γ σ') H → va_S (gA γ s.heap.size) s.heap H locs → lv_has ls 7 [(0, .ref b), (1, .ref (ad γ 0)), (2, .ref (ad γ 23)), (3, .ref (ad γ 30)), (4, .int x4)] → W p l e room_1 s m args below meth c H locs ce2 se2 Q (F0 m 2164 ls []))
    {H : Heap} {locs : List Loc} {ls : Array Slot} (hP : va_P γ.1 vwCl (gw γ σ) H) (hS : va_S (gA γ s.heap.size) s.heap H locs) (hl : lv_has ls 7 [(0, .ref b), (1, .ref (ad γ 0)), (2, .ref (ad γ 23)), (3, .ref (ad γ 30)), (4, .int x4)]) : W p l e room_1 s m args below meth c H locs ce se Q (F0 m 272 ls []) := by
  obtain ⟨hC, hX, hbl, hbA, hZ⟩ := hLC
  have hx := hC.x
  have hb := hC.b
  obtain ⟨T, P, X, Y, E, B, M, O⟩ := σ
  unfold rw_1 at h
  dsimp only at h
  refine lv_aload_n hx hb dL_law_272 rfl (lv_at hl 1 rfl) ?_
  refine lv_aload_n hx hb dL_law_273 rfl (lv_at hl 0 rfl) ?_
  refine lv_iload hx hb dL_law_274 (lv_at hl 4 rfl) ?_
  refine lv_iconst (v := 1) hx hb dL_law_276 (by decide) ?_
  refine lv_iadd hx hb dL_law_277 ?_
  obtain ⟨v1, hv, h⟩ := ob h
  refine g_scr hC hX hbl hbA hS dL_law_278 hv ?_
  refine lv_aload_n hx hb dL_law_279 rfl (lv_at hl 0 rfl) ?_
  refine lv_iload hx hb dL_law_280 (lv_at hl 4 rfl) ?_
  refine lv_iconst (v := 2) hx hb dL_law_282 (by decide) ?_
  refine lv_iadd hx hb dL_law_283 ?_
  obtain ⟨v2, hv, h⟩ := ob h
  refine g_scr hC hX hbl hbA hS dL_law_284 hv ?_
  refine lv_aload_n hx hb dL_law_285 rfl (lv_at hl 3 rfl) ?_
  obtain ⟨v3, T4, Y5, E6, O7, hv, h⟩ := bd5_e h
  refine g_xki (g_lW (As := [.ref (ad γ 0), .int v1, .int v2, .ref (ad γ 30)]) (rest := []) hC hZ hP hS (tL_setGroup l hst hv) u_2_234 yw_L_setGroup ⟨Nat.le_of_ble_eq_true rfl, Nat.le_of_ble_eq_true rfl⟩ rfl hl.1 rfl (Nat.le_of_ble_eq_true rfl) dL_law_286 ⟨by show _ ≤ 601024; omega, by show _ ≤ 7293034; omega⟩) hS (fun H locs hP hS => ?_)
  refine lv_istore (lv' := [(5, .int v3), (0, .ref b), (1, .ref (ad γ 0)), (2, .ref (ad γ 23)), (3, .ref (ad γ 30)), (4, .int x4)]) hx hb dL_law_289 hl (by decide) rfl (fun ls hl => ?_)
  refine lv_aload_n hx hb dL_law_291 rfl (lv_at hl 3 rfl) ?_
  refine lv_aload_n hx hb dL_law_292 rfl (lv_at hl 1 rfl) ?_
  refine lv_iload hx hb dL_law_293 (lv_at hl 5 rfl) ?_
  refine lv_iconst (v := 1) hx hb dL_law_295 (by decide) ?_
  refine lv_iadd hx hb dL_law_296 ?_
  obtain ⟨v8, hv, h⟩ := ob h
  refine g_scr hC hX hbl hbA hS dL_law_297 hv ?_
  refine lv_aload_n hx hb dL_law_298 rfl (lv_at hl 1 rfl) ?_
  refine lv_iload hx hb dL_law_299 (lv_at hl 5 rfl) ?_
  refine lv_iconst (v := 2) hx hb dL_law_301 (by decide) ?_
  refine lv_iadd hx hb dL_law_302 ?_
  obtain ⟨v9, hv, h⟩ := ob h
  refine g_scr hC hX hbl hbA hS dL_law_303 hv ?_
  obtain ⟨v10, M11, hv, h⟩ := bd2_e h
  refine g_ki (g_lV (As := [.int v8, .int v9]) (rest := []) hC hP (c5_setGroup l hv) (by decide) ge_23 rfl u_6_23 yv_X5_setGroup ⟨Nat.le_of_ble_eq_true rfl, Nat.le_of_ble_eq_true rfl⟩ rfl hl.1 rfl (Nat.le_of_ble_eq_true rfl) dL_law_304 ⟨by show _ ≤ 601024; omega, by show _ ≤ 7293034; omega⟩) hS (fun H locs hP hS => ?_)
  refine lv_istore (lv' := [(6, .int v10), (5, .int v3), (0, .ref b), (1, .ref (ad γ 0)), (2, .ref (ad γ 23)), (3, .ref (ad γ 30)), (4, .int x4)]) hx hb dL_law_307 hl (by decide) rfl (fun ls hl => ?_)
  refine lv_aload_n hx hb dL_law_309 rfl (lv_at hl 4 rfl) ?_
  obtain ⟨v12, hv, h⟩ := bd1_e h
  refine g_ki (g_lV (As := []) (rest := []) hC hP (c5_thrown l hv) (by decide) ge_23 rfl u_5_144 yv_X5_thrown ⟨Nat.le_of_ble_eq_true rfl, Nat.le_of_ble_eq_true rfl⟩ rfl hl.1 rfl (Nat.le_of_ble_eq_true rfl) dL_law_310 ⟨by show _ ≤ 601024; omega, by show _ ≤ 7293034; omega⟩) hS (fun H locs hP hS => ?_)
  refine lv_iload hx hb dL_law_313 (lv_at hl 1 rfl) ?_
  refine lv_icmp_eq (tgt := 320) hx hb dL_law_315 (by decide) (fun c13 => ?_) (fun c13 => ?_)
  · rw [if_pos c13] at h
    refine lv_iload hx hb dL_law_320 (lv_at hl 1 rfl) ?_
    refine lv_if_ne (tgt := 337) hx hb dL_law_322 (by decide) (fun c14 => ?_) (fun c14 => ?_)
    · rw [if_neg c14] at h
      refine lv_goto (tgt := 2164) hx hb dL_law_337 (by decide) ?_
      cases h
      exact kk _ _ _ _ _ (by omega) (by omega) hP hS (lv_sub hl [2, 3, 4, 5, 6] rfl)
    · rw [if_pos c14] at h
      refine lv_aload_n hx hb dL_law_325 rfl (lv_at hl 5 rfl) ?_
      refine lv_iconst (v := 0) hx hb dL_law_326 (by decide) ?_
      refine g_lld hC hP dL_law_327 ?_
      refine lv_iload hx hb dL_law_328 (lv_at hl 0 rfl) ?_
      refine lv_i2l (v := (v10).toInt64) hx hb dL_law_330 rfl ?_
      refine W.lcmp hx hb dL_law_331 ?_
      refine lv_if_eq (tgt := 337) hx hb dL_law_332 (by decide) (fun c15 => ?_) (fun c15 => ?_)
      · rw [if_pos c15] at h
        refine lv_goto (tgt := 2164) hx hb dL_law_337 (by decide) ?_
        cases h
        exact kk _ _ _ _ _ (by omega) (by omega) hP hS (lv_sub hl [2, 3, 4, 5, 6] rfl)
      · rw [if_neg c15] at h
        refine lv_iconst (v := 0) hx hb dL_law_335 (by decide) ?_
        cases h
  · rw [if_neg c13] at h
    refine lv_iconst (v := 0) hx hb dL_law_318 (by decide) ?_
    cases h
def rw_2 (L : Nat) (xs : Nat → Int32) (σ : GS) (x4 : Int32) : Option GS := match σ with
  | (T, P, X, Y, E, B, M, O) =>
  (rd L xs (x4 + 1)).bind fun v1 =>
  (rd L xs (x4 + 2)).bind fun v2 =>
  bd5 (rL_setTeacher T Y E O v1 v2) (fun v3 T4 Y5 E6 O7 =>
  (rd L xs (x4 + 1)).bind fun v8 =>
  (rd L xs (x4 + 2)).bind fun v9 =>
  bd2 (r5_setTeacher M v8 v9) (fun v10 M11 =>
  bd1 (r5_thrown M11) (fun v12 =>
  (if v12 = v3 then (if v3 = 0 then (if (lg_cmp (O7 0) (v10.toInt64)) = 0 then some (T4, P, X, Y5, E6, B, M11, O7)
  else none)
  else some (T4, P, X, Y5, E6, B, M11, O7))
  else none))))
set_option maxHeartbeats 4000000 in
set_option maxRecDepth 100000 in
theorem lw_2 {p : Program} {l : Launch} {e : Env} {s : State} {m : MethodId} {args : Array Value} {below : List Frame} {meth : Method} {c : Code} {Q : State → Prop} (hst : l.stackTraces = false) {γ : GA} {b L : Nat} {xs : Nat → Int32} (hLC : lC p s m args meth c γ b L xs) {σ σ' : GS} {x4 : Int32} (h : rw_2 L xs σ x4 = some σ') {ce se : Nat} (hce : ce + 16 ≤ 601024) (hse : se + 96 ≤ 7293034)
    (kk : ∀ (H : Heap) (locs : List Loc) (ls : Array Slot) (ce2 se2 : Nat), ce2 ≤ ce + 16 → se2 ≤ se + 96 → va_P γ.1 vwCl (gw γ σ') H → va_S (gA γ s.heap.size) s.heap H locs → lv_has ls 7 [(0, .ref b), (1, .ref (ad γ 0)), (2, .ref (ad γ 23)), (3, .ref (ad γ 30)), (4, .int x4)] → W p l e room_1 s m args below meth c H locs ce2 se2 Q (F0 m 2164 ls []))
    {H : Heap} {locs : List Loc} {ls : Array Slot} (hP : va_P γ.1 vwCl (gw γ σ) H) (hS : va_S (gA γ s.heap.size) s.heap H locs) (hl : lv_has ls 7 [(0, .ref b), (1, .ref (ad γ 0)), (2, .ref (ad γ 23)), (3, .ref (ad γ 30)), (4, .int x4)]) : W p l e room_1 s m args below meth c H locs ce se Q (F0 m 340 ls []) := by
  obtain ⟨hC, hX, hbl, hbA, hZ⟩ := hLC
  have hx := hC.x
  have hb := hC.b
  obtain ⟨T, P, X, Y, E, B, M, O⟩ := σ
  unfold rw_2 at h
  dsimp only at h
  refine lv_aload_n hx hb dL_law_340 rfl (lv_at hl 1 rfl) ?_
  refine lv_aload_n hx hb dL_law_341 rfl (lv_at hl 0 rfl) ?_
  refine lv_iload hx hb dL_law_342 (lv_at hl 4 rfl) ?_
  refine lv_iconst (v := 1) hx hb dL_law_344 (by decide) ?_
  refine lv_iadd hx hb dL_law_345 ?_
  obtain ⟨v1, hv, h⟩ := ob h
  refine g_scr hC hX hbl hbA hS dL_law_346 hv ?_
  refine lv_aload_n hx hb dL_law_347 rfl (lv_at hl 0 rfl) ?_
  refine lv_iload hx hb dL_law_348 (lv_at hl 4 rfl) ?_
  refine lv_iconst (v := 2) hx hb dL_law_350 (by decide) ?_
  refine lv_iadd hx hb dL_law_351 ?_
  obtain ⟨v2, hv, h⟩ := ob h
  refine g_scr hC hX hbl hbA hS dL_law_352 hv ?_
  refine lv_aload_n hx hb dL_law_353 rfl (lv_at hl 3 rfl) ?_
  obtain ⟨v3, T4, Y5, E6, O7, hv, h⟩ := bd5_e h
  refine g_xki (g_lW (As := [.ref (ad γ 0), .int v1, .int v2, .ref (ad γ 30)]) (rest := []) hC hZ hP hS (tL_setTeacher l hst hv) u_3_1 yw_L_setTeacher ⟨Nat.le_of_ble_eq_true rfl, Nat.le_of_ble_eq_true rfl⟩ rfl hl.1 rfl (Nat.le_of_ble_eq_true rfl) dL_law_354 ⟨by show _ ≤ 601024; omega, by show _ ≤ 7293034; omega⟩) hS (fun H locs hP hS => ?_)
  refine lv_istore (lv' := [(5, .int v3), (0, .ref b), (1, .ref (ad γ 0)), (2, .ref (ad γ 23)), (3, .ref (ad γ 30)), (4, .int x4)]) hx hb dL_law_357 hl (by decide) rfl (fun ls hl => ?_)
  refine lv_aload_n hx hb dL_law_359 rfl (lv_at hl 3 rfl) ?_
  refine lv_aload_n hx hb dL_law_360 rfl (lv_at hl 1 rfl) ?_
  refine lv_iload hx hb dL_law_361 (lv_at hl 5 rfl) ?_
  refine lv_iconst (v := 1) hx hb dL_law_363 (by decide) ?_
  refine lv_iadd hx hb dL_law_364 ?_
  obtain ⟨v8, hv, h⟩ := ob h
  refine g_scr hC hX hbl hbA hS dL_law_365 hv ?_
  refine lv_aload_n hx hb dL_law_366 rfl (lv_at hl 1 rfl) ?_
  refine lv_iload hx hb dL_law_367 (lv_at hl 5 rfl) ?_
  refine lv_iconst (v := 2) hx hb dL_law_369 (by decide) ?_
  refine lv_iadd hx hb dL_law_370 ?_
  obtain ⟨v9, hv, h⟩ := ob h
  refine g_scr hC hX hbl hbA hS dL_law_371 hv ?_
  obtain ⟨v10, M11, hv, h⟩ := bd2_e h
  refine g_ki (g_lV (As := [.int v8, .int v9]) (rest := []) hC hP (c5_setTeacher l hv) (by decide) ge_23 rfl u_6_27 yv_X5_setTeacher ⟨Nat.le_of_ble_eq_true rfl, Nat.le_of_ble_eq_true rfl⟩ rfl hl.1 rfl (Nat.le_of_ble_eq_true rfl) dL_law_372 ⟨by show _ ≤ 601024; omega, by show _ ≤ 7293034; omega⟩) hS (fun H locs hP hS => ?_)
  refine lv_istore (lv' := [(6, .int v10), (5, .int v3), (0, .ref b), (1, .ref (ad γ 0)), (2, .ref (ad γ 23)), (3, .ref (ad γ 30)), (4, .int x4)]) hx hb dL_law_375 hl (by decide) rfl (fun ls hl => ?_)
  refine lv_aload_n hx hb dL_law_377 rfl (lv_at hl 4 rfl) ?_
  obtain ⟨v12, hv, h⟩ := bd1_e h
  refine g_ki (g_lV (As := []) (rest := []) hC hP (c5_thrown l hv) (by decide) ge_23 rfl u_5_144 yv_X5_thrown ⟨Nat.le_of_ble_eq_true rfl, Nat.le_of_ble_eq_true rfl⟩ rfl hl.1 rfl (Nat.le_of_ble_eq_true rfl) dL_law_378 ⟨by show _ ≤ 601024; omega, by show _ ≤ 7293034; omega⟩) hS (fun H locs hP hS => ?_)
  refine lv_iload hx hb dL_law_381 (lv_at hl 1 rfl) ?_
  refine lv_icmp_eq (tgt := 388) hx hb dL_law_383 (by decide) (fun c13 => ?_) (fun c13 => ?_)
  · rw [if_pos c13] at h
    refine lv_iload hx hb dL_law_388 (lv_at hl 1 rfl) ?_
    refine lv_if_ne (tgt := 405) hx hb dL_law_390 (by decide) (fun c14 => ?_) (fun c14 => ?_)
    · rw [if_neg c14] at h
      refine lv_goto (tgt := 2164) hx hb dL_law_405 (by decide) ?_
      cases h
      exact kk _ _ _ _ _ (by omega) (by omega) hP hS (lv_sub hl [2, 3, 4, 5, 6] rfl)
    · rw [if_pos c14] at h
      refine lv_aload_n hx hb dL_law_393 rfl (lv_at hl 5 rfl) ?_
      refine lv_iconst (v := 0) hx hb dL_law_394 (by decide) ?_
      refine g_lld hC hP dL_law_395 ?_
      refine lv_iload hx hb dL_law_396 (lv_at hl 0 rfl) ?_
      refine lv_i2l (v := (v10).toInt64) hx hb dL_law_398 rfl ?_
      refine W.lcmp hx hb dL_law_399 ?_
      refine lv_if_eq (tgt := 405) hx hb dL_law_400 (by decide) (fun c15 => ?_) (fun c15 => ?_)
      · rw [if_pos c15] at h
        refine lv_goto (tgt := 2164) hx hb dL_law_405 (by decide) ?_
        cases h
        exact kk _ _ _ _ _ (by omega) (by omega) hP hS (lv_sub hl [2, 3, 4, 5, 6] rfl)
      · rw [if_neg c15] at h
        refine lv_iconst (v := 0) hx hb dL_law_403 (by decide) ?_
        cases h
  · rw [if_neg c13] at h
    refine lv_iconst (v := 0) hx hb dL_law_386 (by decide) ?_
    cases h
def rw_3 (L : Nat) (xs : Nat → Int32) (σ : GS) (x4 : Int32) : Option GS := match σ with
  | (T, P, X, Y, E, B, M, O) =>
  (rd L xs (x4 + 1)).bind fun v1 =>
  (rd L xs (x4 + 2)).bind fun v2 =>
  bd5 (rL_setWeight T Y E O v1 v2) (fun v3 T4 Y5 E6 O7 =>
  (rd L xs (x4 + 1)).bind fun v8 =>
  (rd L xs (x4 + 2)).bind fun v9 =>
  bd2 (r5_setWeight M v8 v9) (fun v10 M11 =>
  bd1 (r5_thrown M11) (fun v12 =>
  (if v12 = v3 then (if v3 = 0 then (if (lg_cmp (O7 0) (v10.toInt64)) = 0 then some (T4, P, X, Y5, E6, B, M11, O7)
  else none)
  else some (T4, P, X, Y5, E6, B, M11, O7))
  else none))))
set_option maxHeartbeats 4000000 in
set_option maxRecDepth 100000 in
theorem lw_3 {p : Program} {l : Launch} {e : Env} {s : State} {m : MethodId} {args : Array Value} {below : List Frame} {meth : Method} {c : Code} {Q : State → Prop} (hst : l.stackTraces = false) {γ : GA} {b L : Nat} {xs : Nat → Int32} (hLC : lC p s m args meth c γ b L xs) {σ σ' : GS} {x4 : Int32} (h : rw_3 L xs σ x4 = some σ') {ce se : Nat} (hce : ce + 16 ≤ 601024) (hse : se + 96 ≤ 7293034)
    (kk : ∀ (H : Heap) (locs : List Loc) (ls : Array Slot) (ce2 se2 : Nat), ce2 ≤ ce + 16 → se2 ≤ se + 96 → va_P γ.1 vwCl (gw γ σ') H → va_S (gA γ s.heap.size) s.heap H locs → lv_has ls 7 [(0, .ref b), (1, .ref (ad γ 0)), (2, .ref (ad γ 23)), (3, .ref (ad γ 30)), (4, .int x4)] → W p l e room_1 s m args below meth c H locs ce2 se2 Q (F0 m 2164 ls []))
    {H : Heap} {locs : List Loc} {ls : Array Slot} (hP : va_P γ.1 vwCl (gw γ σ) H) (hS : va_S (gA γ s.heap.size) s.heap H locs) (hl : lv_has ls 7 [(0, .ref b), (1, .ref (ad γ 0)), (2, .ref (ad γ 23)), (3, .ref (ad γ 30)), (4, .int x4)]) : W p l e room_1 s m args below meth c H locs ce se Q (F0 m 408 ls []) := by
  obtain ⟨hC, hX, hbl, hbA, hZ⟩ := hLC
  have hx := hC.x
  have hb := hC.b
  obtain ⟨T, P, X, Y, E, B, M, O⟩ := σ
  unfold rw_3 at h
  dsimp only at h
  refine lv_aload_n hx hb dL_law_408 rfl (lv_at hl 1 rfl) ?_
  refine lv_aload_n hx hb dL_law_409 rfl (lv_at hl 0 rfl) ?_
  refine lv_iload hx hb dL_law_410 (lv_at hl 4 rfl) ?_
  refine lv_iconst (v := 1) hx hb dL_law_412 (by decide) ?_
  refine lv_iadd hx hb dL_law_413 ?_
  obtain ⟨v1, hv, h⟩ := ob h
  refine g_scr hC hX hbl hbA hS dL_law_414 hv ?_
  refine lv_aload_n hx hb dL_law_415 rfl (lv_at hl 0 rfl) ?_
  refine lv_iload hx hb dL_law_416 (lv_at hl 4 rfl) ?_
  refine lv_iconst (v := 2) hx hb dL_law_418 (by decide) ?_
  refine lv_iadd hx hb dL_law_419 ?_
  obtain ⟨v2, hv, h⟩ := ob h
  refine g_scr hC hX hbl hbA hS dL_law_420 hv ?_
  refine lv_aload_n hx hb dL_law_421 rfl (lv_at hl 3 rfl) ?_
  obtain ⟨v3, T4, Y5, E6, O7, hv, h⟩ := bd5_e h
  refine g_xki (g_lW (As := [.ref (ad γ 0), .int v1, .int v2, .ref (ad γ 30)]) (rest := []) hC hZ hP hS (tL_setWeight l hst hv) u_3_8 yw_L_setWeight ⟨Nat.le_of_ble_eq_true rfl, Nat.le_of_ble_eq_true rfl⟩ rfl hl.1 rfl (Nat.le_of_ble_eq_true rfl) dL_law_422 ⟨by show _ ≤ 601024; omega, by show _ ≤ 7293034; omega⟩) hS (fun H locs hP hS => ?_)
  refine lv_istore (lv' := [(5, .int v3), (0, .ref b), (1, .ref (ad γ 0)), (2, .ref (ad γ 23)), (3, .ref (ad γ 30)), (4, .int x4)]) hx hb dL_law_425 hl (by decide) rfl (fun ls hl => ?_)
  refine lv_aload_n hx hb dL_law_427 rfl (lv_at hl 3 rfl) ?_
  refine lv_aload_n hx hb dL_law_428 rfl (lv_at hl 1 rfl) ?_
  refine lv_iload hx hb dL_law_429 (lv_at hl 5 rfl) ?_
  refine lv_iconst (v := 1) hx hb dL_law_431 (by decide) ?_
  refine lv_iadd hx hb dL_law_432 ?_
  obtain ⟨v8, hv, h⟩ := ob h
  refine g_scr hC hX hbl hbA hS dL_law_433 hv ?_
  refine lv_aload_n hx hb dL_law_434 rfl (lv_at hl 1 rfl) ?_
  refine lv_iload hx hb dL_law_435 (lv_at hl 5 rfl) ?_
  refine lv_iconst (v := 2) hx hb dL_law_437 (by decide) ?_
  refine lv_iadd hx hb dL_law_438 ?_
  obtain ⟨v9, hv, h⟩ := ob h
  refine g_scr hC hX hbl hbA hS dL_law_439 hv ?_
  obtain ⟨v10, M11, hv, h⟩ := bd2_e h
  refine g_ki (g_lV (As := [.int v8, .int v9]) (rest := []) hC hP (c5_setWeight l hv) (by decide) ge_23 rfl u_6_31 yv_X5_setWeight ⟨Nat.le_of_ble_eq_true rfl, Nat.le_of_ble_eq_true rfl⟩ rfl hl.1 rfl (Nat.le_of_ble_eq_true rfl) dL_law_440 ⟨by show _ ≤ 601024; omega, by show _ ≤ 7293034; omega⟩) hS (fun H locs hP hS => ?_)
  refine lv_istore (lv' := [(6, .int v10), (5, .int v3), (0, .ref b), (1, .ref (ad γ 0)), (2, .ref (ad γ 23)), (3, .ref (ad γ 30)), (4, .int x4)]) hx hb dL_law_443 hl (by decide) rfl (fun ls hl => ?_)
  refine lv_aload_n hx hb dL_law_445 rfl (lv_at hl 4 rfl) ?_
  obtain ⟨v12, hv, h⟩ := bd1_e h
  refine g_ki (g_lV (As := []) (rest := []) hC hP (c5_thrown l hv) (by decide) ge_23 rfl u_5_144 yv_X5_thrown ⟨Nat.le_of_ble_eq_true rfl, Nat.le_of_ble_eq_true rfl⟩ rfl hl.1 rfl (Nat.le_of_ble_eq_true rfl) dL_law_446 ⟨by show _ ≤ 601024; omega, by show _ ≤ 7293034; omega⟩) hS (fun H locs hP hS => ?_)
  refine lv_iload hx hb dL_law_449 (lv_at hl 1 rfl) ?_
  refine lv_icmp_eq (tgt := 456) hx hb dL_law_451 (by decide) (fun c13 => ?_) (fun c13 => ?_)
  · rw [if_pos c13] at h
    refine lv_iload hx hb dL_law_456 (lv_at hl 1 rfl) ?_
    refine lv_if_ne (tgt := 473) hx hb dL_law_458 (by decide) (fun c14 => ?_) (fun c14 => ?_)
    · rw [if_neg c14] at h
      refine lv_goto (tgt := 2164) hx hb dL_law_473 (by decide) ?_
      cases h
      exact kk _ _ _ _ _ (by omega) (by omega) hP hS (lv_sub hl [2, 3, 4, 5, 6] rfl)
    · rw [if_pos c14] at h
      refine lv_aload_n hx hb dL_law_461 rfl (lv_at hl 5 rfl) ?_
      refine lv_iconst (v := 0) hx hb dL_law_462 (by decide) ?_
      refine g_lld hC hP dL_law_463 ?_
      refine lv_iload hx hb dL_law_464 (lv_at hl 0 rfl) ?_
      refine lv_i2l (v := (v10).toInt64) hx hb dL_law_466 rfl ?_
      refine W.lcmp hx hb dL_law_467 ?_
      refine lv_if_eq (tgt := 473) hx hb dL_law_468 (by decide) (fun c15 => ?_) (fun c15 => ?_)
      · rw [if_pos c15] at h
        refine lv_goto (tgt := 2164) hx hb dL_law_473 (by decide) ?_
        cases h
        exact kk _ _ _ _ _ (by omega) (by omega) hP hS (lv_sub hl [2, 3, 4, 5, 6] rfl)
      · rw [if_neg c15] at h
        refine lv_iconst (v := 0) hx hb dL_law_471 (by decide) ?_
        cases h
  · rw [if_neg c13] at h
    refine lv_iconst (v := 0) hx hb dL_law_454 (by decide) ?_
    cases h
def rw_4 (L : Nat) (xs : Nat → Int32) (σ : GS) (x4 : Int32) : Option GS := match σ with
  | (T, P, X, Y, E, B, M, O) =>
  (rd L xs (x4 + 1)).bind fun v1 =>
  (rd L xs (x4 + 2)).bind fun v2 =>
  bd2 (rL_setting T O v1 v2) (fun v3 O4 =>
  (rd L xs (x4 + 1)).bind fun v5 =>
  (rd L xs (x4 + 2)).bind fun v6 =>
  bd2 (r5_setting M v5 v6) (fun v7 M8 =>
  bd1 (r5_thrown M8) (fun v9 =>
  (if v9 = v3 then (if v3 = 0 then (if (lg_cmp (O4 0) (v7.toInt64)) = 0 then some (T, P, X, Y, E, B, M8, O4)
  else none)
  else some (T, P, X, Y, E, B, M8, O4))
  else none))))
set_option maxHeartbeats 4000000 in
set_option maxRecDepth 100000 in
theorem lw_4 {p : Program} {l : Launch} {e : Env} {s : State} {m : MethodId} {args : Array Value} {below : List Frame} {meth : Method} {c : Code} {Q : State → Prop} (hst : l.stackTraces = false) {γ : GA} {b L : Nat} {xs : Nat → Int32} (hLC : lC p s m args meth c γ b L xs) {σ σ' : GS} {x4 : Int32} (h : rw_4 L xs σ x4 = some σ') {ce se : Nat} (hce : ce + 16 ≤ 601024) (hse : se + 96 ≤ 7293034)
    (kk : ∀ (H : Heap) (locs : List Loc) (ls : Array Slot) (ce2 se2 : Nat), ce2 ≤ ce + 16 → se2 ≤ se + 96 → va_P γ.1 vwCl (gw γ σ') H → va_S (gA γ s.heap.size) s.heap H locs → lv_has ls 7 [(0, .ref b), (1, .ref (ad γ 0)), (2, .ref (ad γ 23)), (3, .ref (ad γ 30)), (4, .int x4)] → W p l e room_1 s m args below meth c H locs ce2 se2 Q (F0 m 2164 ls []))
    {H : Heap} {locs : List Loc} {ls : Array Slot} (hP : va_P γ.1 vwCl (gw γ σ) H) (hS : va_S (gA γ s.heap.size) s.heap H locs) (hl : lv_has ls 7 [(0, .ref b), (1, .ref (ad γ 0)), (2, .ref (ad γ 23)), (3, .ref (ad γ 30)), (4, .int x4)]) : W p l e room_1 s m args below meth c H locs ce se Q (F0 m 476 ls []) := by
  obtain ⟨hC, hX, hbl, hbA, hZ⟩ := hLC
  have hx := hC.x
  have hb := hC.b
  obtain ⟨T, P, X, Y, E, B, M, O⟩ := σ
  unfold rw_4 at h
  dsimp only at h
  refine lv_aload_n hx hb dL_law_476 rfl (lv_at hl 1 rfl) ?_
  refine lv_aload_n hx hb dL_law_477 rfl (lv_at hl 0 rfl) ?_
  refine lv_iload hx hb dL_law_478 (lv_at hl 4 rfl) ?_
  refine lv_iconst (v := 1) hx hb dL_law_480 (by decide) ?_
  refine lv_iadd hx hb dL_law_481 ?_
  obtain ⟨v1, hv, h⟩ := ob h
  refine g_scr hC hX hbl hbA hS dL_law_482 hv ?_
  refine lv_aload_n hx hb dL_law_483 rfl (lv_at hl 0 rfl) ?_
  refine lv_iload hx hb dL_law_484 (lv_at hl 4 rfl) ?_
  refine lv_iconst (v := 2) hx hb dL_law_486 (by decide) ?_
  refine lv_iadd hx hb dL_law_487 ?_
  obtain ⟨v2, hv, h⟩ := ob h
  refine g_scr hC hX hbl hbA hS dL_law_488 hv ?_
  refine lv_aload_n hx hb dL_law_489 rfl (lv_at hl 3 rfl) ?_
  obtain ⟨v3, O4, hv, h⟩ := bd2_e h
  refine g_xki (g_lW (As := [.ref (ad γ 0), .int v1, .int v2, .ref (ad γ 30)]) (rest := []) hC hZ hP hS (tL_setting l hst hv) u_3_15 yw_L_setting ⟨Nat.le_of_ble_eq_true rfl, Nat.le_of_ble_eq_true rfl⟩ rfl hl.1 rfl (Nat.le_of_ble_eq_true rfl) dL_law_490 ⟨by show _ ≤ 601024; omega, by show _ ≤ 7293034; omega⟩) hS (fun H locs hP hS => ?_)
  refine lv_istore (lv' := [(5, .int v3), (0, .ref b), (1, .ref (ad γ 0)), (2, .ref (ad γ 23)), (3, .ref (ad γ 30)), (4, .int x4)]) hx hb dL_law_493 hl (by decide) rfl (fun ls hl => ?_)
  refine lv_aload_n hx hb dL_law_495 rfl (lv_at hl 3 rfl) ?_
  refine lv_aload_n hx hb dL_law_496 rfl (lv_at hl 1 rfl) ?_
  refine lv_iload hx hb dL_law_497 (lv_at hl 5 rfl) ?_
  refine lv_iconst (v := 1) hx hb dL_law_499 (by decide) ?_
  refine lv_iadd hx hb dL_law_500 ?_
  obtain ⟨v5, hv, h⟩ := ob h
  refine g_scr hC hX hbl hbA hS dL_law_501 hv ?_
  refine lv_aload_n hx hb dL_law_502 rfl (lv_at hl 1 rfl) ?_
  refine lv_iload hx hb dL_law_503 (lv_at hl 5 rfl) ?_
  refine lv_iconst (v := 2) hx hb dL_law_505 (by decide) ?_
  refine lv_iadd hx hb dL_law_506 ?_
  obtain ⟨v6, hv, h⟩ := ob h
  refine g_scr hC hX hbl hbA hS dL_law_507 hv ?_
  obtain ⟨v7, M8, hv, h⟩ := bd2_e h
  refine g_ki (g_lV (As := [.int v5, .int v6]) (rest := []) hC hP (c5_setting l hv) (by decide) ge_23 rfl u_6_35 yv_X5_setting ⟨Nat.le_of_ble_eq_true rfl, Nat.le_of_ble_eq_true rfl⟩ rfl hl.1 rfl (Nat.le_of_ble_eq_true rfl) dL_law_508 ⟨by show _ ≤ 601024; omega, by show _ ≤ 7293034; omega⟩) hS (fun H locs hP hS => ?_)
  refine lv_istore (lv' := [(6, .int v7), (5, .int v3), (0, .ref b), (1, .ref (ad γ 0)), (2, .ref (ad γ 23)), (3, .ref (ad γ 30)), (4, .int x4)]) hx hb dL_law_511 hl (by decide) rfl (fun ls hl => ?_)
  refine lv_aload_n hx hb dL_law_513 rfl (lv_at hl 4 rfl) ?_
  obtain ⟨v9, hv, h⟩ := bd1_e h
  refine g_ki (g_lV (As := []) (rest := []) hC hP (c5_thrown l hv) (by decide) ge_23 rfl u_5_144 yv_X5_thrown ⟨Nat.le_of_ble_eq_true rfl, Nat.le_of_ble_eq_true rfl⟩ rfl hl.1 rfl (Nat.le_of_ble_eq_true rfl) dL_law_514 ⟨by show _ ≤ 601024; omega, by show _ ≤ 7293034; omega⟩) hS (fun H locs hP hS => ?_)
  refine lv_iload hx hb dL_law_517 (lv_at hl 1 rfl) ?_
  refine lv_icmp_eq (tgt := 524) hx hb dL_law_519 (by decide) (fun c10 => ?_) (fun c10 => ?_)
  · rw [if_pos c10] at h
    refine lv_iload hx hb dL_law_524 (lv_at hl 1 rfl) ?_
    refine lv_if_ne (tgt := 541) hx hb dL_law_526 (by decide) (fun c11 => ?_) (fun c11 => ?_)
    · rw [if_neg c11] at h
      refine lv_goto (tgt := 2164) hx hb dL_law_541 (by decide) ?_
      cases h
      exact kk _ _ _ _ _ (by omega) (by omega) hP hS (lv_sub hl [2, 3, 4, 5, 6] rfl)
    · rw [if_pos c11] at h
      refine lv_aload_n hx hb dL_law_529 rfl (lv_at hl 5 rfl) ?_
      refine lv_iconst (v := 0) hx hb dL_law_530 (by decide) ?_
      refine g_lld hC hP dL_law_531 ?_
      refine lv_iload hx hb dL_law_532 (lv_at hl 0 rfl) ?_
      refine lv_i2l (v := (v7).toInt64) hx hb dL_law_534 rfl ?_
      refine W.lcmp hx hb dL_law_535 ?_
      refine lv_if_eq (tgt := 541) hx hb dL_law_536 (by decide) (fun c12 => ?_) (fun c12 => ?_)
      · rw [if_pos c12] at h
        refine lv_goto (tgt := 2164) hx hb dL_law_541 (by decide) ?_
        cases h
        exact kk _ _ _ _ _ (by omega) (by omega) hP hS (lv_sub hl [2, 3, 4, 5, 6] rfl)
      · rw [if_neg c12] at h
        refine lv_iconst (v := 0) hx hb dL_law_539 (by decide) ?_
        cases h
  · rw [if_neg c10] at h
    refine lv_iconst (v := 0) hx hb dL_law_522 (by decide) ?_
    cases h
def rw_5 (L : Nat) (xs : Nat → Int32) (σ : GS) (x4 : Int32) : Option GS := match σ with
  | (T, P, X, Y, E, B, M, O) =>
  (rd L xs (x4 + 1)).bind fun v1 =>
  bd3 (rL_append X O v1) (fun v2 X3 O4 =>
  (rd L xs (x4 + 1)).bind fun v5 =>
  bd2 (r5_append M v5) (fun v6 M7 =>
  bd1 (r5_thrown M7) (fun v8 =>
  (if v8 = v2 then (if v2 = 0 then (if (lg_cmp (O4 0) (v6.toInt64)) = 0 then some (T, P, X3, Y, E, B, M7, O4)
  else none)
  else some (T, P, X3, Y, E, B, M7, O4))
  else none))))
set_option maxHeartbeats 4000000 in
set_option maxRecDepth 100000 in
theorem lw_5 {p : Program} {l : Launch} {e : Env} {s : State} {m : MethodId} {args : Array Value} {below : List Frame} {meth : Method} {c : Code} {Q : State → Prop} (hst : l.stackTraces = false) {γ : GA} {b L : Nat} {xs : Nat → Int32} (hLC : lC p s m args meth c γ b L xs) {σ σ' : GS} {x4 : Int32} (h : rw_5 L xs σ x4 = some σ') {ce se : Nat} (hce : ce + 16 ≤ 601024) (hse : se + 96 ≤ 7293034)
    (kk : ∀ (H : Heap) (locs : List Loc) (ls : Array Slot) (ce2 se2 : Nat), ce2 ≤ ce + 16 → se2 ≤ se + 96 → va_P γ.1 vwCl (gw γ σ') H → va_S (gA γ s.heap.size) s.heap H locs → lv_has ls 7 [(0, .ref b), (1, .ref (ad γ 0)), (2, .ref (ad γ 23)), (3, .ref (ad γ 30)), (4, .int x4)] → W p l e room_1 s m args below meth c H locs ce2 se2 Q (F0 m 2164 ls []))
    {H : Heap} {locs : List Loc} {ls : Array Slot} (hP : va_P γ.1 vwCl (gw γ σ) H) (hS : va_S (gA γ s.heap.size) s.heap H locs) (hl : lv_has ls 7 [(0, .ref b), (1, .ref (ad γ 0)), (2, .ref (ad γ 23)), (3, .ref (ad γ 30)), (4, .int x4)]) : W p l e room_1 s m args below meth c H locs ce se Q (F0 m 544 ls []) := by
  obtain ⟨hC, hX, hbl, hbA, hZ⟩ := hLC
  have hx := hC.x
  have hb := hC.b
  obtain ⟨T, P, X, Y, E, B, M, O⟩ := σ
  unfold rw_5 at h
  dsimp only at h
  refine lv_aload_n hx hb dL_law_544 rfl (lv_at hl 1 rfl) ?_
  refine lv_aload_n hx hb dL_law_545 rfl (lv_at hl 0 rfl) ?_
  refine lv_iload hx hb dL_law_546 (lv_at hl 4 rfl) ?_
  refine lv_iconst (v := 1) hx hb dL_law_548 (by decide) ?_
  refine lv_iadd hx hb dL_law_549 ?_
  obtain ⟨v1, hv, h⟩ := ob h
  refine g_scr hC hX hbl hbA hS dL_law_550 hv ?_
  refine lv_aload_n hx hb dL_law_551 rfl (lv_at hl 3 rfl) ?_
  obtain ⟨v2, X3, O4, hv, h⟩ := bd3_e h
  refine g_xki (g_lW (As := [.ref (ad γ 0), .int v1, .ref (ad γ 30)]) (rest := []) hC hZ hP hS (tL_append l hst hv) u_3_22 yw_L_append ⟨Nat.le_of_ble_eq_true rfl, Nat.le_of_ble_eq_true rfl⟩ rfl hl.1 rfl (Nat.le_of_ble_eq_true rfl) dL_law_552 ⟨by show _ ≤ 601024; omega, by show _ ≤ 7293034; omega⟩) hS (fun H locs hP hS => ?_)
  refine lv_istore (lv' := [(5, .int v2), (0, .ref b), (1, .ref (ad γ 0)), (2, .ref (ad γ 23)), (3, .ref (ad γ 30)), (4, .int x4)]) hx hb dL_law_555 hl (by decide) rfl (fun ls hl => ?_)
  refine lv_aload_n hx hb dL_law_557 rfl (lv_at hl 3 rfl) ?_
  refine lv_aload_n hx hb dL_law_558 rfl (lv_at hl 1 rfl) ?_
  refine lv_iload hx hb dL_law_559 (lv_at hl 5 rfl) ?_
  refine lv_iconst (v := 1) hx hb dL_law_561 (by decide) ?_
  refine lv_iadd hx hb dL_law_562 ?_
  obtain ⟨v5, hv, h⟩ := ob h
  refine g_scr hC hX hbl hbA hS dL_law_563 hv ?_
  obtain ⟨v6, M7, hv, h⟩ := bd2_e h
  refine g_ki (g_lV (As := [.int v5]) (rest := []) hC hP (c5_append l hv) (by decide) ge_23 rfl u_6_39 yv_X5_append ⟨Nat.le_of_ble_eq_true rfl, Nat.le_of_ble_eq_true rfl⟩ rfl hl.1 rfl (Nat.le_of_ble_eq_true rfl) dL_law_564 ⟨by show _ ≤ 601024; omega, by show _ ≤ 7293034; omega⟩) hS (fun H locs hP hS => ?_)
  refine lv_istore (lv' := [(6, .int v6), (5, .int v2), (0, .ref b), (1, .ref (ad γ 0)), (2, .ref (ad γ 23)), (3, .ref (ad γ 30)), (4, .int x4)]) hx hb dL_law_567 hl (by decide) rfl (fun ls hl => ?_)
  refine lv_aload_n hx hb dL_law_569 rfl (lv_at hl 4 rfl) ?_
  obtain ⟨v8, hv, h⟩ := bd1_e h
  refine g_ki (g_lV (As := []) (rest := []) hC hP (c5_thrown l hv) (by decide) ge_23 rfl u_5_144 yv_X5_thrown ⟨Nat.le_of_ble_eq_true rfl, Nat.le_of_ble_eq_true rfl⟩ rfl hl.1 rfl (Nat.le_of_ble_eq_true rfl) dL_law_570 ⟨by show _ ≤ 601024; omega, by show _ ≤ 7293034; omega⟩) hS (fun H locs hP hS => ?_)
  refine lv_iload hx hb dL_law_573 (lv_at hl 1 rfl) ?_
  refine lv_icmp_eq (tgt := 580) hx hb dL_law_575 (by decide) (fun c9 => ?_) (fun c9 => ?_)
  · rw [if_pos c9] at h
    refine lv_iload hx hb dL_law_580 (lv_at hl 1 rfl) ?_
    refine lv_if_ne (tgt := 597) hx hb dL_law_582 (by decide) (fun c10 => ?_) (fun c10 => ?_)
    · rw [if_neg c10] at h
      refine lv_goto (tgt := 2164) hx hb dL_law_597 (by decide) ?_
      cases h
      exact kk _ _ _ _ _ (by omega) (by omega) hP hS (lv_sub hl [2, 3, 4, 5, 6] rfl)
    · rw [if_pos c10] at h
      refine lv_aload_n hx hb dL_law_585 rfl (lv_at hl 5 rfl) ?_
      refine lv_iconst (v := 0) hx hb dL_law_586 (by decide) ?_
      refine g_lld hC hP dL_law_587 ?_
      refine lv_iload hx hb dL_law_588 (lv_at hl 0 rfl) ?_
      refine lv_i2l (v := (v6).toInt64) hx hb dL_law_590 rfl ?_
      refine W.lcmp hx hb dL_law_591 ?_
      refine lv_if_eq (tgt := 597) hx hb dL_law_592 (by decide) (fun c11 => ?_) (fun c11 => ?_)
      · rw [if_pos c11] at h
        refine lv_goto (tgt := 2164) hx hb dL_law_597 (by decide) ?_
        cases h
        exact kk _ _ _ _ _ (by omega) (by omega) hP hS (lv_sub hl [2, 3, 4, 5, 6] rfl)
      · rw [if_neg c11] at h
        refine lv_iconst (v := 0) hx hb dL_law_595 (by decide) ?_
        cases h
  · rw [if_neg c9] at h
    refine lv_iconst (v := 0) hx hb dL_law_578 (by decide) ?_
    cases h
def rw_6 (L : Nat) (xs : Nat → Int32) (σ : GS) (x4 : Int32) : Option GS := match σ with
  | (T, P, X, Y, E, B, M, O) =>
  bd6 (rL_addEvent T X Y E O) (fun v1 T2 X3 Y4 E5 O6 =>
  bd2 (r5_addEvent M) (fun v7 M8 =>
  bd1 (r5_thrown M8) (fun v9 =>
  (if v9 = v1 then (if v1 = 0 then (if (lg_cmp (O6 0) (v7.toInt64)) = 0 then some (T2, P, X3, Y4, E5, B, M8, O6)
  else none)
  else some (T2, P, X3, Y4, E5, B, M8, O6))
  else none))))
set_option maxHeartbeats 4000000 in
set_option maxRecDepth 100000 in
theorem lw_6 {p : Program} {l : Launch} {e : Env} {s : State} {m : MethodId} {args : Array Value} {below : List Frame} {meth : Method} {c : Code} {Q : State → Prop} (hst : l.stackTraces = false) {γ : GA} {b L : Nat} {xs : Nat → Int32} (hLC : lC p s m args meth c γ b L xs) {σ σ' : GS} {x4 : Int32} (h : rw_6 L xs σ x4 = some σ') {ce se : Nat} (hce : ce + 16 ≤ 601024) (hse : se + 96 ≤ 7293034)
    (kk : ∀ (H : Heap) (locs : List Loc) (ls : Array Slot) (ce2 se2 : Nat), ce2 ≤ ce + 16 → se2 ≤ se + 96 → va_P γ.1 vwCl (gw γ σ') H → va_S (gA γ s.heap.size) s.heap H locs → lv_has ls 7 [(0, .ref b), (1, .ref (ad γ 0)), (2, .ref (ad γ 23)), (3, .ref (ad γ 30)), (4, .int x4)] → W p l e room_1 s m args below meth c H locs ce2 se2 Q (F0 m 2164 ls []))
    {H : Heap} {locs : List Loc} {ls : Array Slot} (hP : va_P γ.1 vwCl (gw γ σ) H) (hS : va_S (gA γ s.heap.size) s.heap H locs) (hl : lv_has ls 7 [(0, .ref b), (1, .ref (ad γ 0)), (2, .ref (ad γ 23)), (3, .ref (ad γ 30)), (4, .int x4)]) : W p l e room_1 s m args below meth c H locs ce se Q (F0 m 600 ls []) := by
  obtain ⟨hC, hX, hbl, hbA, hZ⟩ := hLC
  have hx := hC.x
  have hb := hC.b
  obtain ⟨T, P, X, Y, E, B, M, O⟩ := σ
  unfold rw_6 at h
  dsimp only at h
  refine lv_aload_n hx hb dL_law_600 rfl (lv_at hl 1 rfl) ?_
  refine lv_aload_n hx hb dL_law_601 rfl (lv_at hl 3 rfl) ?_
  obtain ⟨v1, T2, X3, Y4, E5, O6, hv, h⟩ := bd6_e h
  refine g_xki (g_lW (As := [.ref (ad γ 0), .ref (ad γ 30)]) (rest := []) hC hZ hP hS (tL_addEvent l hst hv) u_3_58 yw_L_addEvent ⟨Nat.le_of_ble_eq_true rfl, Nat.le_of_ble_eq_true rfl⟩ rfl hl.1 rfl (Nat.le_of_ble_eq_true rfl) dL_law_602 ⟨by show _ ≤ 601024; omega, by show _ ≤ 7293034; omega⟩) hS (fun H locs hP hS => ?_)
  refine lv_istore (lv' := [(5, .int v1), (0, .ref b), (1, .ref (ad γ 0)), (2, .ref (ad γ 23)), (3, .ref (ad γ 30)), (4, .int x4)]) hx hb dL_law_605 hl (by decide) rfl (fun ls hl => ?_)
  refine lv_aload_n hx hb dL_law_607 rfl (lv_at hl 3 rfl) ?_
  obtain ⟨v7, M8, hv, h⟩ := bd2_e h
  refine g_ki (g_lV (As := []) (rest := []) hC hP (c5_addEvent l hv) (by decide) ge_23 rfl u_6_43 yv_X5_addEvent ⟨Nat.le_of_ble_eq_true rfl, Nat.le_of_ble_eq_true rfl⟩ rfl hl.1 rfl (Nat.le_of_ble_eq_true rfl) dL_law_608 ⟨by show _ ≤ 601024; omega, by show _ ≤ 7293034; omega⟩) hS (fun H locs hP hS => ?_)
  refine lv_istore (lv' := [(6, .int v7), (5, .int v1), (0, .ref b), (1, .ref (ad γ 0)), (2, .ref (ad γ 23)), (3, .ref (ad γ 30)), (4, .int x4)]) hx hb dL_law_611 hl (by decide) rfl (fun ls hl => ?_)
  refine lv_aload_n hx hb dL_law_613 rfl (lv_at hl 4 rfl) ?_
  obtain ⟨v9, hv, h⟩ := bd1_e h
  refine g_ki (g_lV (As := []) (rest := []) hC hP (c5_thrown l hv) (by decide) ge_23 rfl u_5_144 yv_X5_thrown ⟨Nat.le_of_ble_eq_true rfl, Nat.le_of_ble_eq_true rfl⟩ rfl hl.1 rfl (Nat.le_of_ble_eq_true rfl) dL_law_614 ⟨by show _ ≤ 601024; omega, by show _ ≤ 7293034; omega⟩) hS (fun H locs hP hS => ?_)
  refine lv_iload hx hb dL_law_617 (lv_at hl 1 rfl) ?_
  refine lv_icmp_eq (tgt := 624) hx hb dL_law_619 (by decide) (fun c10 => ?_) (fun c10 => ?_)
  · rw [if_pos c10] at h
    refine lv_iload hx hb dL_law_624 (lv_at hl 1 rfl) ?_
    refine lv_if_ne (tgt := 641) hx hb dL_law_626 (by decide) (fun c11 => ?_) (fun c11 => ?_)
    · rw [if_neg c11] at h
      refine lv_goto (tgt := 2164) hx hb dL_law_641 (by decide) ?_
      cases h
      exact kk _ _ _ _ _ (by omega) (by omega) hP hS (lv_sub hl [2, 3, 4, 5, 6] rfl)
    · rw [if_pos c11] at h
      refine lv_aload_n hx hb dL_law_629 rfl (lv_at hl 5 rfl) ?_
      refine lv_iconst (v := 0) hx hb dL_law_630 (by decide) ?_
      refine g_lld hC hP dL_law_631 ?_
      refine lv_iload hx hb dL_law_632 (lv_at hl 0 rfl) ?_
      refine lv_i2l (v := (v7).toInt64) hx hb dL_law_634 rfl ?_
      refine W.lcmp hx hb dL_law_635 ?_
      refine lv_if_eq (tgt := 641) hx hb dL_law_636 (by decide) (fun c12 => ?_) (fun c12 => ?_)
      · rw [if_pos c12] at h
        refine lv_goto (tgt := 2164) hx hb dL_law_641 (by decide) ?_
        cases h
        exact kk _ _ _ _ _ (by omega) (by omega) hP hS (lv_sub hl [2, 3, 4, 5, 6] rfl)
      · rw [if_neg c12] at h
        refine lv_iconst (v := 0) hx hb dL_law_639 (by decide) ?_
        cases h
  · rw [if_neg c10] at h
    refine lv_iconst (v := 0) hx hb dL_law_622 (by decide) ?_
    cases h
def rw_7 (L : Nat) (xs : Nat → Int32) (σ : GS) (x4 : Int32) : Option GS := match σ with
  | (T, P, X, Y, E, B, M, O) =>
  bd1 (r4_errorPosition X) (fun v1 =>
  bd2 (r5_errorPosition M) (fun v2 M3 =>
  (if v1 = v2 then some (T, P, X, Y, E, B, M3, O)
  else none)))
set_option maxHeartbeats 4000000 in
set_option maxRecDepth 100000 in
theorem lw_7 {p : Program} {l : Launch} {e : Env} {s : State} {m : MethodId} {args : Array Value} {below : List Frame} {meth : Method} {c : Code} {Q : State → Prop} (hst : l.stackTraces = false) {γ : GA} {b L : Nat} {xs : Nat → Int32} (hLC : lC p s m args meth c γ b L xs) {σ σ' : GS} {x4 : Int32} (h : rw_7 L xs σ x4 = some σ') {ce se : Nat} (hce : ce + 16 ≤ 601024) (hse : se + 96 ≤ 7293034)
    (kk : ∀ (H : Heap) (locs : List Loc) (ls : Array Slot) (ce2 se2 : Nat), ce2 ≤ ce + 16 → se2 ≤ se + 96 → va_P γ.1 vwCl (gw γ σ') H → va_S (gA γ s.heap.size) s.heap H locs → lv_has ls 7 [(0, .ref b), (1, .ref (ad γ 0)), (2, .ref (ad γ 23)), (3, .ref (ad γ 30)), (4, .int x4)] → W p l e room_1 s m args below meth c H locs ce2 se2 Q (F0 m 2164 ls []))
    {H : Heap} {locs : List Loc} {ls : Array Slot} (hP : va_P γ.1 vwCl (gw γ σ) H) (hS : va_S (gA γ s.heap.size) s.heap H locs) (hl : lv_has ls 7 [(0, .ref b), (1, .ref (ad γ 0)), (2, .ref (ad γ 23)), (3, .ref (ad γ 30)), (4, .int x4)]) : W p l e room_1 s m args below meth c H locs ce se Q (F0 m 644 ls []) := by
  obtain ⟨hC, hX, hbl, hbA, hZ⟩ := hLC
  have hx := hC.x
  have hb := hC.b
  obtain ⟨T, P, X, Y, E, B, M, O⟩ := σ
  unfold rw_7 at h
  dsimp only at h
  refine lv_aload_n hx hb dL_law_644 rfl (lv_at hl 1 rfl) ?_
  obtain ⟨v1, hv, h⟩ := bd1_e h
  refine g_ki (g_lV (As := []) (rest := []) hC hP (c4_errorPosition l hv) (by decide) ge_0 rfl u_1_207 yv_X4_errorPosition ⟨Nat.le_of_ble_eq_true rfl, Nat.le_of_ble_eq_true rfl⟩ rfl hl.1 rfl (Nat.le_of_ble_eq_true rfl) dL_law_645 ⟨by show _ ≤ 601024; omega, by show _ ≤ 7293034; omega⟩) hS (fun H locs hP hS => ?_)
  refine lv_aload_n hx hb dL_law_648 rfl (lv_at hl 2 rfl) ?_
  obtain ⟨v2, M3, hv, h⟩ := bd2_e h
  refine g_ki (g_lV (As := []) (rest := [.int v1]) hC hP (c5_errorPosition l hv) (by decide) ge_23 rfl u_6_63 yv_X5_errorPosition ⟨Nat.le_of_ble_eq_true rfl, Nat.le_of_ble_eq_true rfl⟩ rfl hl.1 rfl (Nat.le_of_ble_eq_true rfl) dL_law_649 ⟨by show _ ≤ 601024; omega, by show _ ≤ 7293034; omega⟩) hS (fun H locs hP hS => ?_)
  refine lv_icmp_eq (tgt := 2164) hx hb dL_law_652 (by decide) (fun c4 => ?_) (fun c4 => ?_)
  · rw [if_pos c4] at h
    cases h
    exact kk _ _ _ _ _ (by omega) (by omega) hP hS (lv_sub hl [0, 1, 2, 3, 4] rfl)
  · rw [if_neg c4] at h
    refine lv_iconst (v := 0) hx hb dL_law_655 (by decide) ?_
    cases h
def rw_8 (L : Nat) (xs : Nat → Int32) (σ : GS) (x4 : Int32) : Option GS := match σ with
  | (T, P, X, Y, E, B, M, O) =>
  (rd L xs (x4 + 1)).bind fun v1 =>
  bd5 (rL_removeEvent T Y E O v1) (fun v2 T3 Y4 E5 O6 =>
  (rd L xs (x4 + 1)).bind fun v7 =>
  bd2 (r5_removeEvent M v7) (fun v8 M9 =>
  bd1 (r5_thrown M9) (fun v10 =>
  (if v10 = v2 then (if v2 = 0 then (if (lg_cmp (O6 0) (v8.toInt64)) = 0 then some (T3, P, X, Y4, E5, B, M9, O6)
  else none)
  else some (T3, P, X, Y4, E5, B, M9, O6))
  else none))))
set_option maxHeartbeats 4000000 in
set_option maxRecDepth 100000 in
theorem lw_8 {p : Program} {l : Launch} {e : Env} {s : State} {m : MethodId} {args : Array Value} {below : List Frame} {meth : Method} {c : Code} {Q : State → Prop} (hst : l.stackTraces = false) {γ : GA} {b L : Nat} {xs : Nat → Int32} (hLC : lC p s m args meth c γ b L xs) {σ σ' : GS} {x4 : Int32} (h : rw_8 L xs σ x4 = some σ') {ce se : Nat} (hce : ce + 16 ≤ 601024) (hse : se + 96 ≤ 7293034)
    (kk : ∀ (H : Heap) (locs : List Loc) (ls : Array Slot) (ce2 se2 : Nat), ce2 ≤ ce + 16 → se2 ≤ se + 96 → va_P γ.1 vwCl (gw γ σ') H → va_S (gA γ s.heap.size) s.heap H locs → lv_has ls 7 [(0, .ref b), (1, .ref (ad γ 0)), (2, .ref (ad γ 23)), (3, .ref (ad γ 30)), (4, .int x4)] → W p l e room_1 s m args below meth c H locs ce2 se2 Q (F0 m 2164 ls []))
    {H : Heap} {locs : List Loc} {ls : Array Slot} (hP : va_P γ.1 vwCl (gw γ σ) H) (hS : va_S (gA γ s.heap.size) s.heap H locs) (hl : lv_has ls 7 [(0, .ref b), (1, .ref (ad γ 0)), (2, .ref (ad γ 23)), (3, .ref (ad γ 30)), (4, .int x4)]) : W p l e room_1 s m args below meth c H locs ce se Q (F0 m 657 ls []) := by
  obtain ⟨hC, hX, hbl, hbA, hZ⟩ := hLC
  have hx := hC.x
  have hb := hC.b
  obtain ⟨T, P, X, Y, E, B, M, O⟩ := σ
  unfold rw_8 at h
  dsimp only at h
  refine lv_aload_n hx hb dL_law_657 rfl (lv_at hl 1 rfl) ?_
  refine lv_aload_n hx hb dL_law_658 rfl (lv_at hl 0 rfl) ?_
  refine lv_iload hx hb dL_law_659 (lv_at hl 4 rfl) ?_
  refine lv_iconst (v := 1) hx hb dL_law_661 (by decide) ?_
  refine lv_iadd hx hb dL_law_662 ?_
  obtain ⟨v1, hv, h⟩ := ob h
  refine g_scr hC hX hbl hbA hS dL_law_663 hv ?_
  refine lv_aload_n hx hb dL_law_664 rfl (lv_at hl 3 rfl) ?_
  obtain ⟨v2, T3, Y4, E5, O6, hv, h⟩ := bd5_e h
  refine g_xki (g_lW (As := [.ref (ad γ 0), .int v1, .ref (ad γ 30)]) (rest := []) hC hZ hP hS (tL_removeEvent l hst hv) u_3_107 yw_L_removeEvent ⟨Nat.le_of_ble_eq_true rfl, Nat.le_of_ble_eq_true rfl⟩ rfl hl.1 rfl (Nat.le_of_ble_eq_true rfl) dL_law_665 ⟨by show _ ≤ 601024; omega, by show _ ≤ 7293034; omega⟩) hS (fun H locs hP hS => ?_)
  refine lv_istore (lv' := [(5, .int v2), (0, .ref b), (1, .ref (ad γ 0)), (2, .ref (ad γ 23)), (3, .ref (ad γ 30)), (4, .int x4)]) hx hb dL_law_668 hl (by decide) rfl (fun ls hl => ?_)
  refine lv_aload_n hx hb dL_law_670 rfl (lv_at hl 3 rfl) ?_
  refine lv_aload_n hx hb dL_law_671 rfl (lv_at hl 1 rfl) ?_
  refine lv_iload hx hb dL_law_672 (lv_at hl 5 rfl) ?_
  refine lv_iconst (v := 1) hx hb dL_law_674 (by decide) ?_
  refine lv_iadd hx hb dL_law_675 ?_
  obtain ⟨v7, hv, h⟩ := ob h
  refine g_scr hC hX hbl hbA hS dL_law_676 hv ?_
  obtain ⟨v8, M9, hv, h⟩ := bd2_e h
  refine g_ki (g_lV (As := [.int v7]) (rest := []) hC hP (c5_removeEvent l hv) (by decide) ge_23 rfl u_6_67 yv_X5_removeEvent ⟨Nat.le_of_ble_eq_true rfl, Nat.le_of_ble_eq_true rfl⟩ rfl hl.1 rfl (Nat.le_of_ble_eq_true rfl) dL_law_677 ⟨by show _ ≤ 601024; omega, by show _ ≤ 7293034; omega⟩) hS (fun H locs hP hS => ?_)
  refine lv_istore (lv' := [(6, .int v8), (5, .int v2), (0, .ref b), (1, .ref (ad γ 0)), (2, .ref (ad γ 23)), (3, .ref (ad γ 30)), (4, .int x4)]) hx hb dL_law_680 hl (by decide) rfl (fun ls hl => ?_)
  refine lv_aload_n hx hb dL_law_682 rfl (lv_at hl 4 rfl) ?_
  obtain ⟨v10, hv, h⟩ := bd1_e h
  refine g_ki (g_lV (As := []) (rest := []) hC hP (c5_thrown l hv) (by decide) ge_23 rfl u_5_144 yv_X5_thrown ⟨Nat.le_of_ble_eq_true rfl, Nat.le_of_ble_eq_true rfl⟩ rfl hl.1 rfl (Nat.le_of_ble_eq_true rfl) dL_law_683 ⟨by show _ ≤ 601024; omega, by show _ ≤ 7293034; omega⟩) hS (fun H locs hP hS => ?_)
  refine lv_iload hx hb dL_law_686 (lv_at hl 1 rfl) ?_
  refine lv_icmp_eq (tgt := 693) hx hb dL_law_688 (by decide) (fun c11 => ?_) (fun c11 => ?_)
  · rw [if_pos c11] at h
    refine lv_iload hx hb dL_law_693 (lv_at hl 1 rfl) ?_
    refine lv_if_ne (tgt := 710) hx hb dL_law_695 (by decide) (fun c12 => ?_) (fun c12 => ?_)
    · rw [if_neg c12] at h
      refine lv_goto (tgt := 2164) hx hb dL_law_710 (by decide) ?_
      cases h
      exact kk _ _ _ _ _ (by omega) (by omega) hP hS (lv_sub hl [2, 3, 4, 5, 6] rfl)
    · rw [if_pos c12] at h
      refine lv_aload_n hx hb dL_law_698 rfl (lv_at hl 5 rfl) ?_
      refine lv_iconst (v := 0) hx hb dL_law_699 (by decide) ?_
      refine g_lld hC hP dL_law_700 ?_
      refine lv_iload hx hb dL_law_701 (lv_at hl 0 rfl) ?_
      refine lv_i2l (v := (v8).toInt64) hx hb dL_law_703 rfl ?_
      refine W.lcmp hx hb dL_law_704 ?_
      refine lv_if_eq (tgt := 710) hx hb dL_law_705 (by decide) (fun c13 => ?_) (fun c13 => ?_)
      · rw [if_pos c13] at h
        refine lv_goto (tgt := 2164) hx hb dL_law_710 (by decide) ?_
        cases h
        exact kk _ _ _ _ _ (by omega) (by omega) hP hS (lv_sub hl [2, 3, 4, 5, 6] rfl)
      · rw [if_neg c13] at h
        refine lv_iconst (v := 0) hx hb dL_law_708 (by decide) ?_
        cases h
  · rw [if_neg c11] at h
    refine lv_iconst (v := 0) hx hb dL_law_691 (by decide) ?_
    cases h
def rw_9 (L : Nat) (xs : Nat → Int32) (σ : GS) (x4 : Int32) : Option GS := match σ with
  | (T, P, X, Y, E, B, M, O) =>
  (rd L xs (x4 + 1)).bind fun v1 =>
  (rd L xs (x4 + 2)).bind fun v2 =>
  bd5 (rL_split T Y E O v1 v2) (fun v3 T4 Y5 E6 O7 =>
  (rd L xs (x4 + 1)).bind fun v8 =>
  (rd L xs (x4 + 2)).bind fun v9 =>
  bd2 (r5_split M v8 v9) (fun v10 M11 =>
  bd1 (r5_thrown M11) (fun v12 =>
  (if v12 = v3 then (if v3 = 0 then (if (lg_cmp (O7 0) (v10.toInt64)) = 0 then some (T4, P, X, Y5, E6, B, M11, O7)
  else none)
  else some (T4, P, X, Y5, E6, B, M11, O7))
  else none))))
set_option maxHeartbeats 4000000 in
set_option maxRecDepth 100000 in
theorem lw_9 {p : Program} {l : Launch} {e : Env} {s : State} {m : MethodId} {args : Array Value} {below : List Frame} {meth : Method} {c : Code} {Q : State → Prop} (hst : l.stackTraces = false) {γ : GA} {b L : Nat} {xs : Nat → Int32} (hLC : lC p s m args meth c γ b L xs) {σ σ' : GS} {x4 : Int32} (h : rw_9 L xs σ x4 = some σ') {ce se : Nat} (hce : ce + 16 ≤ 601024) (hse : se + 96 ≤ 7293034)
    (kk : ∀ (H : Heap) (locs : List Loc) (ls : Array Slot) (ce2 se2 : Nat), ce2 ≤ ce + 16 → se2 ≤ se + 96 → va_P γ.1 vwCl (gw γ σ') H → va_S (gA γ s.heap.size) s.heap H locs → lv_has ls 7 [(0, .ref b), (1, .ref (ad γ 0)), (2, .ref (ad γ 23)), (3, .ref (ad γ 30)), (4, .int x4)] → W p l e room_1 s m args below meth c H locs ce2 se2 Q (F0 m 2164 ls []))
    {H : Heap} {locs : List Loc} {ls : Array Slot} (hP : va_P γ.1 vwCl (gw γ σ) H) (hS : va_S (gA γ s.heap.size) s.heap H locs) (hl : lv_has ls 7 [(0, .ref b), (1, .ref (ad γ 0)), (2, .ref (ad γ 23)), (3, .ref (ad γ 30)), (4, .int x4)]) : W p l e room_1 s m args below meth c H locs ce se Q (F0 m 713 ls []) := by
  obtain ⟨hC, hX, hbl, hbA, hZ⟩ := hLC
  have hx := hC.x
  have hb := hC.b
  obtain ⟨T, P, X, Y, E, B, M, O⟩ := σ
  unfold rw_9 at h
  dsimp only at h
  refine lv_aload_n hx hb dL_law_713 rfl (lv_at hl 1 rfl) ?_
  refine lv_aload_n hx hb dL_law_714 rfl (lv_at hl 0 rfl) ?_
  refine lv_iload hx hb dL_law_715 (lv_at hl 4 rfl) ?_
  refine lv_iconst (v := 1) hx hb dL_law_717 (by decide) ?_
  refine lv_iadd hx hb dL_law_718 ?_
  obtain ⟨v1, hv, h⟩ := ob h
  refine g_scr hC hX hbl hbA hS dL_law_719 hv ?_
  refine lv_aload_n hx hb dL_law_720 rfl (lv_at hl 0 rfl) ?_
  refine lv_iload hx hb dL_law_721 (lv_at hl 4 rfl) ?_
  refine lv_iconst (v := 2) hx hb dL_law_723 (by decide) ?_
  refine lv_iadd hx hb dL_law_724 ?_
  obtain ⟨v2, hv, h⟩ := ob h
  refine g_scr hC hX hbl hbA hS dL_law_725 hv ?_
  refine lv_aload_n hx hb dL_law_726 rfl (lv_at hl 3 rfl) ?_
  obtain ⟨v3, T4, Y5, E6, O7, hv, h⟩ := bd5_e h
  refine g_xki (g_lW (As := [.ref (ad γ 0), .int v1, .int v2, .ref (ad γ 30)]) (rest := []) hC hZ hP hS (tL_split l hst hv) u_3_127 yw_L_split ⟨Nat.le_of_ble_eq_true rfl, Nat.le_of_ble_eq_true rfl⟩ rfl hl.1 rfl (Nat.le_of_ble_eq_true rfl) dL_law_727 ⟨by show _ ≤ 601024; omega, by show _ ≤ 7293034; omega⟩) hS (fun H locs hP hS => ?_)
  refine lv_istore (lv' := [(5, .int v3), (0, .ref b), (1, .ref (ad γ 0)), (2, .ref (ad γ 23)), (3, .ref (ad γ 30)), (4, .int x4)]) hx hb dL_law_730 hl (by decide) rfl (fun ls hl => ?_)
  refine lv_aload_n hx hb dL_law_732 rfl (lv_at hl 3 rfl) ?_
  refine lv_aload_n hx hb dL_law_733 rfl (lv_at hl 1 rfl) ?_
  refine lv_iload hx hb dL_law_734 (lv_at hl 5 rfl) ?_
  refine lv_iconst (v := 1) hx hb dL_law_736 (by decide) ?_
  refine lv_iadd hx hb dL_law_737 ?_
  obtain ⟨v8, hv, h⟩ := ob h
  refine g_scr hC hX hbl hbA hS dL_law_738 hv ?_
  refine lv_aload_n hx hb dL_law_739 rfl (lv_at hl 1 rfl) ?_
  refine lv_iload hx hb dL_law_740 (lv_at hl 5 rfl) ?_
  refine lv_iconst (v := 2) hx hb dL_law_742 (by decide) ?_
  refine lv_iadd hx hb dL_law_743 ?_
  obtain ⟨v9, hv, h⟩ := ob h
  refine g_scr hC hX hbl hbA hS dL_law_744 hv ?_
  obtain ⟨v10, M11, hv, h⟩ := bd2_e h
  refine g_ki (g_lV (As := [.int v8, .int v9]) (rest := []) hC hP (c5_split l hv) (by decide) ge_23 rfl u_6_75 yv_X5_split ⟨Nat.le_of_ble_eq_true rfl, Nat.le_of_ble_eq_true rfl⟩ rfl hl.1 rfl (Nat.le_of_ble_eq_true rfl) dL_law_745 ⟨by show _ ≤ 601024; omega, by show _ ≤ 7293034; omega⟩) hS (fun H locs hP hS => ?_)
  refine lv_istore (lv' := [(6, .int v10), (5, .int v3), (0, .ref b), (1, .ref (ad γ 0)), (2, .ref (ad γ 23)), (3, .ref (ad γ 30)), (4, .int x4)]) hx hb dL_law_748 hl (by decide) rfl (fun ls hl => ?_)
  refine lv_aload_n hx hb dL_law_750 rfl (lv_at hl 4 rfl) ?_
  obtain ⟨v12, hv, h⟩ := bd1_e h
  refine g_ki (g_lV (As := []) (rest := []) hC hP (c5_thrown l hv) (by decide) ge_23 rfl u_5_144 yv_X5_thrown ⟨Nat.le_of_ble_eq_true rfl, Nat.le_of_ble_eq_true rfl⟩ rfl hl.1 rfl (Nat.le_of_ble_eq_true rfl) dL_law_751 ⟨by show _ ≤ 601024; omega, by show _ ≤ 7293034; omega⟩) hS (fun H locs hP hS => ?_)
  refine lv_iload hx hb dL_law_754 (lv_at hl 1 rfl) ?_
  refine lv_icmp_eq (tgt := 761) hx hb dL_law_756 (by decide) (fun c13 => ?_) (fun c13 => ?_)
  · rw [if_pos c13] at h
    refine lv_iload hx hb dL_law_761 (lv_at hl 1 rfl) ?_
    refine lv_if_ne (tgt := 778) hx hb dL_law_763 (by decide) (fun c14 => ?_) (fun c14 => ?_)
    · rw [if_neg c14] at h
      refine lv_goto (tgt := 2164) hx hb dL_law_778 (by decide) ?_
      cases h
      exact kk _ _ _ _ _ (by omega) (by omega) hP hS (lv_sub hl [2, 3, 4, 5, 6] rfl)
    · rw [if_pos c14] at h
      refine lv_aload_n hx hb dL_law_766 rfl (lv_at hl 5 rfl) ?_
      refine lv_iconst (v := 0) hx hb dL_law_767 (by decide) ?_
      refine g_lld hC hP dL_law_768 ?_
      refine lv_iload hx hb dL_law_769 (lv_at hl 0 rfl) ?_
      refine lv_i2l (v := (v10).toInt64) hx hb dL_law_771 rfl ?_
      refine W.lcmp hx hb dL_law_772 ?_
      refine lv_if_eq (tgt := 778) hx hb dL_law_773 (by decide) (fun c15 => ?_) (fun c15 => ?_)
      · rw [if_pos c15] at h
        refine lv_goto (tgt := 2164) hx hb dL_law_778 (by decide) ?_
        cases h
        exact kk _ _ _ _ _ (by omega) (by omega) hP hS (lv_sub hl [2, 3, 4, 5, 6] rfl)
      · rw [if_neg c15] at h
        refine lv_iconst (v := 0) hx hb dL_law_776 (by decide) ?_
        cases h
  · rw [if_neg c13] at h
    refine lv_iconst (v := 0) hx hb dL_law_759 (by decide) ?_
    cases h
def rw_10 (L : Nat) (xs : Nat → Int32) (σ : GS) (x4 : Int32) : Option GS := match σ with
  | (T, P, X, Y, E, B, M, O) =>
  (rd L xs (x4 + 1)).bind fun v1 =>
  (rd L xs (x4 + 2)).bind fun v2 =>
  bd2 (rL_event T O v1 v2) (fun v3 O4 =>
  (rd L xs (x4 + 1)).bind fun v5 =>
  (rd L xs (x4 + 2)).bind fun v6 =>
  bd2 (r5_event M v5 v6) (fun v7 M8 =>
  bd1 (r5_thrown M8) (fun v9 =>
  (if v9 = v3 then (if v3 = 0 then (if (lg_cmp (O4 0) (v7.toInt64)) = 0 then some (T, P, X, Y, E, B, M8, O4)
  else none)
  else some (T, P, X, Y, E, B, M8, O4))
  else none))))
set_option maxHeartbeats 4000000 in
set_option maxRecDepth 100000 in
theorem lw_10 {p : Program} {l : Launch} {e : Env} {s : State} {m : MethodId} {args : Array Value} {below : List Frame} {meth : Method} {c : Code} {Q : State → Prop} (hst : l.stackTraces = false) {γ : GA} {b L : Nat} {xs : Nat → Int32} (hLC : lC p s m args meth c γ b L xs) {σ σ' : GS} {x4 : Int32} (h : rw_10 L xs σ x4 = some σ') {ce se : Nat} (hce : ce + 16 ≤ 601024) (hse : se + 96 ≤ 7293034)
    (kk : ∀ (H : Heap) (locs : List Loc) (ls : Array Slot) (ce2 se2 : Nat), ce2 ≤ ce + 16 → se2 ≤ se + 96 → va_P γ.1 vwCl (gw γ σ') H → va_S (gA γ s.heap.size) s.heap H locs → lv_has ls 7 [(0, .ref b), (1, .ref (ad γ 0)), (2, .ref (ad γ 23)), (3, .ref (ad γ 30)), (4, .int x4)] → W p l e room_1 s m args below meth c H locs ce2 se2 Q (F0 m 2164 ls []))
    {H : Heap} {locs : List Loc} {ls : Array Slot} (hP : va_P γ.1 vwCl (gw γ σ) H) (hS : va_S (gA γ s.heap.size) s.heap H locs) (hl : lv_has ls 7 [(0, .ref b), (1, .ref (ad γ 0)), (2, .ref (ad γ 23)), (3, .ref (ad γ 30)), (4, .int x4)]) : W p l e room_1 s m args below meth c H locs ce se Q (F0 m 781 ls []) := by
  obtain ⟨hC, hX, hbl, hbA, hZ⟩ := hLC
  have hx := hC.x
  have hb := hC.b
  obtain ⟨T, P, X, Y, E, B, M, O⟩ := σ
  unfold rw_10 at h
  dsimp only at h
  refine lv_aload_n hx hb dL_law_781 rfl (lv_at hl 1 rfl) ?_
  refine lv_aload_n hx hb dL_law_782 rfl (lv_at hl 0 rfl) ?_
  refine lv_iload hx hb dL_law_783 (lv_at hl 4 rfl) ?_
  refine lv_iconst (v := 1) hx hb dL_law_785 (by decide) ?_
  refine lv_iadd hx hb dL_law_786 ?_
  obtain ⟨v1, hv, h⟩ := ob h
  refine g_scr hC hX hbl hbA hS dL_law_787 hv ?_
  refine lv_aload_n hx hb dL_law_788 rfl (lv_at hl 0 rfl) ?_
  refine lv_iload hx hb dL_law_789 (lv_at hl 4 rfl) ?_
  refine lv_iconst (v := 2) hx hb dL_law_791 (by decide) ?_
  refine lv_iadd hx hb dL_law_792 ?_
  obtain ⟨v2, hv, h⟩ := ob h
  refine g_scr hC hX hbl hbA hS dL_law_793 hv ?_
  refine lv_aload_n hx hb dL_law_794 rfl (lv_at hl 3 rfl) ?_
  obtain ⟨v3, O4, hv, h⟩ := bd2_e h
  refine g_xki (g_lW (As := [.ref (ad γ 0), .int v1, .int v2, .ref (ad γ 30)]) (rest := []) hC hZ hP hS (tL_event l hst hv) u_3_135 yw_L_event ⟨Nat.le_of_ble_eq_true rfl, Nat.le_of_ble_eq_true rfl⟩ rfl hl.1 rfl (Nat.le_of_ble_eq_true rfl) dL_law_795 ⟨by show _ ≤ 601024; omega, by show _ ≤ 7293034; omega⟩) hS (fun H locs hP hS => ?_)
  refine lv_istore (lv' := [(5, .int v3), (0, .ref b), (1, .ref (ad γ 0)), (2, .ref (ad γ 23)), (3, .ref (ad γ 30)), (4, .int x4)]) hx hb dL_law_798 hl (by decide) rfl (fun ls hl => ?_)
  refine lv_aload_n hx hb dL_law_800 rfl (lv_at hl 3 rfl) ?_
  refine lv_aload_n hx hb dL_law_801 rfl (lv_at hl 1 rfl) ?_
  refine lv_iload hx hb dL_law_802 (lv_at hl 5 rfl) ?_
  refine lv_iconst (v := 1) hx hb dL_law_804 (by decide) ?_
  refine lv_iadd hx hb dL_law_805 ?_
  obtain ⟨v5, hv, h⟩ := ob h
  refine g_scr hC hX hbl hbA hS dL_law_806 hv ?_
  refine lv_aload_n hx hb dL_law_807 rfl (lv_at hl 1 rfl) ?_
  refine lv_iload hx hb dL_law_808 (lv_at hl 5 rfl) ?_
  refine lv_iconst (v := 2) hx hb dL_law_810 (by decide) ?_
  refine lv_iadd hx hb dL_law_811 ?_
  obtain ⟨v6, hv, h⟩ := ob h
  refine g_scr hC hX hbl hbA hS dL_law_812 hv ?_
  obtain ⟨v7, M8, hv, h⟩ := bd2_e h
  refine g_ki (g_lV (As := [.int v5, .int v6]) (rest := []) hC hP (c5_event l hv) (by decide) ge_23 rfl u_6_79 yv_X5_event ⟨Nat.le_of_ble_eq_true rfl, Nat.le_of_ble_eq_true rfl⟩ rfl hl.1 rfl (Nat.le_of_ble_eq_true rfl) dL_law_813 ⟨by show _ ≤ 601024; omega, by show _ ≤ 7293034; omega⟩) hS (fun H locs hP hS => ?_)
  refine lv_istore (lv' := [(6, .int v7), (5, .int v3), (0, .ref b), (1, .ref (ad γ 0)), (2, .ref (ad γ 23)), (3, .ref (ad γ 30)), (4, .int x4)]) hx hb dL_law_816 hl (by decide) rfl (fun ls hl => ?_)
  refine lv_aload_n hx hb dL_law_818 rfl (lv_at hl 4 rfl) ?_
  obtain ⟨v9, hv, h⟩ := bd1_e h
  refine g_ki (g_lV (As := []) (rest := []) hC hP (c5_thrown l hv) (by decide) ge_23 rfl u_5_144 yv_X5_thrown ⟨Nat.le_of_ble_eq_true rfl, Nat.le_of_ble_eq_true rfl⟩ rfl hl.1 rfl (Nat.le_of_ble_eq_true rfl) dL_law_819 ⟨by show _ ≤ 601024; omega, by show _ ≤ 7293034; omega⟩) hS (fun H locs hP hS => ?_)
  refine lv_iload hx hb dL_law_822 (lv_at hl 1 rfl) ?_
  refine lv_icmp_eq (tgt := 829) hx hb dL_law_824 (by decide) (fun c10 => ?_) (fun c10 => ?_)
  · rw [if_pos c10] at h
    refine lv_iload hx hb dL_law_829 (lv_at hl 1 rfl) ?_
    refine lv_if_ne (tgt := 846) hx hb dL_law_831 (by decide) (fun c11 => ?_) (fun c11 => ?_)
    · rw [if_neg c11] at h
      refine lv_goto (tgt := 2164) hx hb dL_law_846 (by decide) ?_
      cases h
      exact kk _ _ _ _ _ (by omega) (by omega) hP hS (lv_sub hl [2, 3, 4, 5, 6] rfl)
    · rw [if_pos c11] at h
      refine lv_aload_n hx hb dL_law_834 rfl (lv_at hl 5 rfl) ?_
      refine lv_iconst (v := 0) hx hb dL_law_835 (by decide) ?_
      refine g_lld hC hP dL_law_836 ?_
      refine lv_iload hx hb dL_law_837 (lv_at hl 0 rfl) ?_
      refine lv_i2l (v := (v7).toInt64) hx hb dL_law_839 rfl ?_
      refine W.lcmp hx hb dL_law_840 ?_
      refine lv_if_eq (tgt := 846) hx hb dL_law_841 (by decide) (fun c12 => ?_) (fun c12 => ?_)
      · rw [if_pos c12] at h
        refine lv_goto (tgt := 2164) hx hb dL_law_846 (by decide) ?_
        cases h
        exact kk _ _ _ _ _ (by omega) (by omega) hP hS (lv_sub hl [2, 3, 4, 5, 6] rfl)
      · rw [if_neg c12] at h
        refine lv_iconst (v := 0) hx hb dL_law_844 (by decide) ?_
        cases h
  · rw [if_neg c10] at h
    refine lv_iconst (v := 0) hx hb dL_law_827 (by decide) ?_
    cases h
def rw_11 (L : Nat) (xs : Nat → Int32) (σ : GS) (x4 : Int32) : Option GS := match σ with
  | (T, P, X, Y, E, B, M, O) =>
  (rd L xs (x4 + 1)).bind fun v1 =>
  (rd L xs (x4 + 2)).bind fun v2 =>
  bd2 (rL_describe T O v1 v2) (fun v3 O4 =>
  (rd L xs (x4 + 1)).bind fun v5 =>
  (rd L xs (x4 + 2)).bind fun v6 =>
  bd2 (r5_describe M v5 v6) (fun v7 M8 =>
  bd1 (r5_thrown M8) (fun v9 =>
  (if v9 = v3 then (if v3 = 0 then (if (lg_cmp (O4 0) (v7.toInt64)) = 0 then some (T, P, X, Y, E, B, M8, O4)
  else none)
  else some (T, P, X, Y, E, B, M8, O4))
  else none))))
set_option maxHeartbeats 4000000 in
set_option maxRecDepth 100000 in
theorem lw_11 {p : Program} {l : Launch} {e : Env} {s : State} {m : MethodId} {args : Array Value} {below : List Frame} {meth : Method} {c : Code} {Q : State → Prop} (hst : l.stackTraces = false) {γ : GA} {b L : Nat} {xs : Nat → Int32} (hLC : lC p s m args meth c γ b L xs) {σ σ' : GS} {x4 : Int32} (h : rw_11 L xs σ x4 = some σ') {ce se : Nat} (hce : ce + 16 ≤ 601024) (hse : se + 96 ≤ 7293034)
    (kk : ∀ (H : Heap) (locs : List Loc) (ls : Array Slot) (ce2 se2 : Nat), ce2 ≤ ce + 16 → se2 ≤ se + 96 → va_P γ.1 vwCl (gw γ σ') H → va_S (gA γ s.heap.size) s.heap H locs → lv_has ls 7 [(0, .ref b), (1, .ref (ad γ 0)), (2, .ref (ad γ 23)), (3, .ref (ad γ 30)), (4, .int x4)] → W p l e room_1 s m args below meth c H locs ce2 se2 Q (F0 m 2164 ls []))
    {H : Heap} {locs : List Loc} {ls : Array Slot} (hP : va_P γ.1 vwCl (gw γ σ) H) (hS : va_S (gA γ s.heap.size) s.heap H locs) (hl : lv_has ls 7 [(0, .ref b), (1, .ref (ad γ 0)), (2, .ref (ad γ 23)), (3, .ref (ad γ 30)), (4, .int x4)]) : W p l e room_1 s m args below meth c H locs ce se Q (F0 m 849 ls []) := by
  obtain ⟨hC, hX, hbl, hbA, hZ⟩ := hLC
  have hx := hC.x
  have hb := hC.b
  obtain ⟨T, P, X, Y, E, B, M, O⟩ := σ
  unfold rw_11 at h
  dsimp only at h
  refine lv_aload_n hx hb dL_law_849 rfl (lv_at hl 1 rfl) ?_
  refine lv_aload_n hx hb dL_law_850 rfl (lv_at hl 0 rfl) ?_
  refine lv_iload hx hb dL_law_851 (lv_at hl 4 rfl) ?_
  refine lv_iconst (v := 1) hx hb dL_law_853 (by decide) ?_
  refine lv_iadd hx hb dL_law_854 ?_
  obtain ⟨v1, hv, h⟩ := ob h
  refine g_scr hC hX hbl hbA hS dL_law_855 hv ?_
  refine lv_aload_n hx hb dL_law_856 rfl (lv_at hl 0 rfl) ?_
  refine lv_iload hx hb dL_law_857 (lv_at hl 4 rfl) ?_
  refine lv_iconst (v := 2) hx hb dL_law_859 (by decide) ?_
  refine lv_iadd hx hb dL_law_860 ?_
  obtain ⟨v2, hv, h⟩ := ob h
  refine g_scr hC hX hbl hbA hS dL_law_861 hv ?_
  refine lv_aload_n hx hb dL_law_862 rfl (lv_at hl 3 rfl) ?_
  obtain ⟨v3, O4, hv, h⟩ := bd2_e h
  refine g_xki (g_lW (As := [.ref (ad γ 0), .int v1, .int v2, .ref (ad γ 30)]) (rest := []) hC hZ hP hS (tL_describe l hst hv) u_3_143 yw_L_describe ⟨Nat.le_of_ble_eq_true rfl, Nat.le_of_ble_eq_true rfl⟩ rfl hl.1 rfl (Nat.le_of_ble_eq_true rfl) dL_law_863 ⟨by show _ ≤ 601024; omega, by show _ ≤ 7293034; omega⟩) hS (fun H locs hP hS => ?_)
  refine lv_istore (lv' := [(5, .int v3), (0, .ref b), (1, .ref (ad γ 0)), (2, .ref (ad γ 23)), (3, .ref (ad γ 30)), (4, .int x4)]) hx hb dL_law_866 hl (by decide) rfl (fun ls hl => ?_)
  refine lv_aload_n hx hb dL_law_868 rfl (lv_at hl 3 rfl) ?_
  refine lv_aload_n hx hb dL_law_869 rfl (lv_at hl 1 rfl) ?_
  refine lv_iload hx hb dL_law_870 (lv_at hl 5 rfl) ?_
  refine lv_iconst (v := 1) hx hb dL_law_872 (by decide) ?_
  refine lv_iadd hx hb dL_law_873 ?_
  obtain ⟨v5, hv, h⟩ := ob h
  refine g_scr hC hX hbl hbA hS dL_law_874 hv ?_
  refine lv_aload_n hx hb dL_law_875 rfl (lv_at hl 1 rfl) ?_
  refine lv_iload hx hb dL_law_876 (lv_at hl 5 rfl) ?_
  refine lv_iconst (v := 2) hx hb dL_law_878 (by decide) ?_
  refine lv_iadd hx hb dL_law_879 ?_
  obtain ⟨v6, hv, h⟩ := ob h
  refine g_scr hC hX hbl hbA hS dL_law_880 hv ?_
  obtain ⟨v7, M8, hv, h⟩ := bd2_e h
  refine g_ki (g_lV (As := [.int v5, .int v6]) (rest := []) hC hP (c5_describe l hv) (by decide) ge_23 rfl u_6_83 yv_X5_describe ⟨Nat.le_of_ble_eq_true rfl, Nat.le_of_ble_eq_true rfl⟩ rfl hl.1 rfl (Nat.le_of_ble_eq_true rfl) dL_law_881 ⟨by show _ ≤ 601024; omega, by show _ ≤ 7293034; omega⟩) hS (fun H locs hP hS => ?_)
  refine lv_istore (lv' := [(6, .int v7), (5, .int v3), (0, .ref b), (1, .ref (ad γ 0)), (2, .ref (ad γ 23)), (3, .ref (ad γ 30)), (4, .int x4)]) hx hb dL_law_884 hl (by decide) rfl (fun ls hl => ?_)
  refine lv_aload_n hx hb dL_law_886 rfl (lv_at hl 4 rfl) ?_
  obtain ⟨v9, hv, h⟩ := bd1_e h
  refine g_ki (g_lV (As := []) (rest := []) hC hP (c5_thrown l hv) (by decide) ge_23 rfl u_5_144 yv_X5_thrown ⟨Nat.le_of_ble_eq_true rfl, Nat.le_of_ble_eq_true rfl⟩ rfl hl.1 rfl (Nat.le_of_ble_eq_true rfl) dL_law_887 ⟨by show _ ≤ 601024; omega, by show _ ≤ 7293034; omega⟩) hS (fun H locs hP hS => ?_)
  refine lv_iload hx hb dL_law_890 (lv_at hl 1 rfl) ?_
  refine lv_icmp_eq (tgt := 897) hx hb dL_law_892 (by decide) (fun c10 => ?_) (fun c10 => ?_)
  · rw [if_pos c10] at h
    refine lv_iload hx hb dL_law_897 (lv_at hl 1 rfl) ?_
    refine lv_if_ne (tgt := 914) hx hb dL_law_899 (by decide) (fun c11 => ?_) (fun c11 => ?_)
    · rw [if_neg c11] at h
      refine lv_goto (tgt := 2164) hx hb dL_law_914 (by decide) ?_
      cases h
      exact kk _ _ _ _ _ (by omega) (by omega) hP hS (lv_sub hl [2, 3, 4, 5, 6] rfl)
    · rw [if_pos c11] at h
      refine lv_aload_n hx hb dL_law_902 rfl (lv_at hl 5 rfl) ?_
      refine lv_iconst (v := 0) hx hb dL_law_903 (by decide) ?_
      refine g_lld hC hP dL_law_904 ?_
      refine lv_iload hx hb dL_law_905 (lv_at hl 0 rfl) ?_
      refine lv_i2l (v := (v7).toInt64) hx hb dL_law_907 rfl ?_
      refine W.lcmp hx hb dL_law_908 ?_
      refine lv_if_eq (tgt := 914) hx hb dL_law_909 (by decide) (fun c12 => ?_) (fun c12 => ?_)
      · rw [if_pos c12] at h
        refine lv_goto (tgt := 2164) hx hb dL_law_914 (by decide) ?_
        cases h
        exact kk _ _ _ _ _ (by omega) (by omega) hP hS (lv_sub hl [2, 3, 4, 5, 6] rfl)
      · rw [if_neg c12] at h
        refine lv_iconst (v := 0) hx hb dL_law_912 (by decide) ?_
        cases h
  · rw [if_neg c10] at h
    refine lv_iconst (v := 0) hx hb dL_law_895 (by decide) ?_
    cases h
def rw_12 (L : Nat) (xs : Nat → Int32) (σ : GS) (x4 : Int32) : Option GS := match σ with
  | (T, P, X, Y, E, B, M, O) =>
  (rd L xs (x4 + 1)).bind fun v1 =>
  (rd L xs (x4 + 2)).bind fun v2 =>
  bd5 (rL_place T Y E O v1 v2) (fun v3 T4 Y5 E6 O7 =>
  (rd L xs (x4 + 1)).bind fun v8 =>
  (rd L xs (x4 + 2)).bind fun v9 =>
  bd2 (r5_place M v8 v9) (fun v10 M11 =>
  bd1 (r5_thrown M11) (fun v12 =>
  (if v12 = v3 then (if v3 = 0 then (if (lg_cmp (O7 0) (v10.toInt64)) = 0 then some (T4, P, X, Y5, E6, B, M11, O7)
  else none)
  else some (T4, P, X, Y5, E6, B, M11, O7))
  else none))))
set_option maxHeartbeats 4000000 in
set_option maxRecDepth 100000 in
theorem lw_12 {p : Program} {l : Launch} {e : Env} {s : State} {m : MethodId} {args : Array Value} {below : List Frame} {meth : Method} {c : Code} {Q : State → Prop} (hst : l.stackTraces = false) {γ : GA} {b L : Nat} {xs : Nat → Int32} (hLC : lC p s m args meth c γ b L xs) {σ σ' : GS} {x4 : Int32} (h : rw_12 L xs σ x4 = some σ') {ce se : Nat} (hce : ce + 16 ≤ 601024) (hse : se + 96 ≤ 7293034)
    (kk : ∀ (H : Heap) (locs : List Loc) (ls : Array Slot) (ce2 se2 : Nat), ce2 ≤ ce + 16 → se2 ≤ se + 96 → va_P γ.1 vwCl (gw γ σ') H → va_S (gA γ s.heap.size) s.heap H locs → lv_has ls 7 [(0, .ref b), (1, .ref (ad γ 0)), (2, .ref (ad γ 23)), (3, .ref (ad γ 30)), (4, .int x4)] → W p l e room_1 s m args below meth c H locs ce2 se2 Q (F0 m 2164 ls []))
    {H : Heap} {locs : List Loc} {ls : Array Slot} (hP : va_P γ.1 vwCl (gw γ σ) H) (hS : va_S (gA γ s.heap.size) s.heap H locs) (hl : lv_has ls 7 [(0, .ref b), (1, .ref (ad γ 0)), (2, .ref (ad γ 23)), (3, .ref (ad γ 30)), (4, .int x4)]) : W p l e room_1 s m args below meth c H locs ce se Q (F0 m 917 ls []) := by
  obtain ⟨hC, hX, hbl, hbA, hZ⟩ := hLC
  have hx := hC.x
  have hb := hC.b
  obtain ⟨T, P, X, Y, E, B, M, O⟩ := σ
  unfold rw_12 at h
  dsimp only at h
  refine lv_aload_n hx hb dL_law_917 rfl (lv_at hl 1 rfl) ?_
  refine lv_aload_n hx hb dL_law_918 rfl (lv_at hl 0 rfl) ?_
  refine lv_iload hx hb dL_law_919 (lv_at hl 4 rfl) ?_
  refine lv_iconst (v := 1) hx hb dL_law_921 (by decide) ?_
  refine lv_iadd hx hb dL_law_922 ?_
  obtain ⟨v1, hv, h⟩ := ob h
  refine g_scr hC hX hbl hbA hS dL_law_923 hv ?_
  refine lv_aload_n hx hb dL_law_924 rfl (lv_at hl 0 rfl) ?_
  refine lv_iload hx hb dL_law_925 (lv_at hl 4 rfl) ?_
  refine lv_iconst (v := 2) hx hb dL_law_927 (by decide) ?_
  refine lv_iadd hx hb dL_law_928 ?_
  obtain ⟨v2, hv, h⟩ := ob h
  refine g_scr hC hX hbl hbA hS dL_law_929 hv ?_
  refine lv_aload_n hx hb dL_law_930 rfl (lv_at hl 3 rfl) ?_
  obtain ⟨v3, T4, Y5, E6, O7, hv, h⟩ := bd5_e h
  refine g_xki (g_lW (As := [.ref (ad γ 0), .int v1, .int v2, .ref (ad γ 30)]) (rest := []) hC hZ hP hS (tL_place l hst hv) u_4_89 yw_L_place ⟨Nat.le_of_ble_eq_true rfl, Nat.le_of_ble_eq_true rfl⟩ rfl hl.1 rfl (Nat.le_of_ble_eq_true rfl) dL_law_931 ⟨by show _ ≤ 601024; omega, by show _ ≤ 7293034; omega⟩) hS (fun H locs hP hS => ?_)
  refine lv_istore (lv' := [(5, .int v3), (0, .ref b), (1, .ref (ad γ 0)), (2, .ref (ad γ 23)), (3, .ref (ad γ 30)), (4, .int x4)]) hx hb dL_law_934 hl (by decide) rfl (fun ls hl => ?_)
  refine lv_aload_n hx hb dL_law_936 rfl (lv_at hl 3 rfl) ?_
  refine lv_aload_n hx hb dL_law_937 rfl (lv_at hl 1 rfl) ?_
  refine lv_iload hx hb dL_law_938 (lv_at hl 5 rfl) ?_
  refine lv_iconst (v := 1) hx hb dL_law_940 (by decide) ?_
  refine lv_iadd hx hb dL_law_941 ?_
  obtain ⟨v8, hv, h⟩ := ob h
  refine g_scr hC hX hbl hbA hS dL_law_942 hv ?_
  refine lv_aload_n hx hb dL_law_943 rfl (lv_at hl 1 rfl) ?_
  refine lv_iload hx hb dL_law_944 (lv_at hl 5 rfl) ?_
  refine lv_iconst (v := 2) hx hb dL_law_946 (by decide) ?_
  refine lv_iadd hx hb dL_law_947 ?_
  obtain ⟨v9, hv, h⟩ := ob h
  refine g_scr hC hX hbl hbA hS dL_law_948 hv ?_
  obtain ⟨v10, M11, hv, h⟩ := bd2_e h
  refine g_ki (g_lV (As := [.int v8, .int v9]) (rest := []) hC hP (c5_place l hv) (by decide) ge_23 rfl u_6_91 yv_X5_place ⟨Nat.le_of_ble_eq_true rfl, Nat.le_of_ble_eq_true rfl⟩ rfl hl.1 rfl (Nat.le_of_ble_eq_true rfl) dL_law_949 ⟨by show _ ≤ 601024; omega, by show _ ≤ 7293034; omega⟩) hS (fun H locs hP hS => ?_)
  refine lv_istore (lv' := [(6, .int v10), (5, .int v3), (0, .ref b), (1, .ref (ad γ 0)), (2, .ref (ad γ 23)), (3, .ref (ad γ 30)), (4, .int x4)]) hx hb dL_law_952 hl (by decide) rfl (fun ls hl => ?_)
  refine lv_aload_n hx hb dL_law_954 rfl (lv_at hl 4 rfl) ?_
  obtain ⟨v12, hv, h⟩ := bd1_e h
  refine g_ki (g_lV (As := []) (rest := []) hC hP (c5_thrown l hv) (by decide) ge_23 rfl u_5_144 yv_X5_thrown ⟨Nat.le_of_ble_eq_true rfl, Nat.le_of_ble_eq_true rfl⟩ rfl hl.1 rfl (Nat.le_of_ble_eq_true rfl) dL_law_955 ⟨by show _ ≤ 601024; omega, by show _ ≤ 7293034; omega⟩) hS (fun H locs hP hS => ?_)
  refine lv_iload hx hb dL_law_958 (lv_at hl 1 rfl) ?_
  refine lv_icmp_eq (tgt := 965) hx hb dL_law_960 (by decide) (fun c13 => ?_) (fun c13 => ?_)
  · rw [if_pos c13] at h
    refine lv_iload hx hb dL_law_965 (lv_at hl 1 rfl) ?_
    refine lv_if_ne (tgt := 982) hx hb dL_law_967 (by decide) (fun c14 => ?_) (fun c14 => ?_)
    · rw [if_neg c14] at h
      refine lv_goto (tgt := 2164) hx hb dL_law_982 (by decide) ?_
      cases h
      exact kk _ _ _ _ _ (by omega) (by omega) hP hS (lv_sub hl [2, 3, 4, 5, 6] rfl)
    · rw [if_pos c14] at h
      refine lv_aload_n hx hb dL_law_970 rfl (lv_at hl 5 rfl) ?_
      refine lv_iconst (v := 0) hx hb dL_law_971 (by decide) ?_
      refine g_lld hC hP dL_law_972 ?_
      refine lv_iload hx hb dL_law_973 (lv_at hl 0 rfl) ?_
      refine lv_i2l (v := (v10).toInt64) hx hb dL_law_975 rfl ?_
      refine W.lcmp hx hb dL_law_976 ?_
      refine lv_if_eq (tgt := 982) hx hb dL_law_977 (by decide) (fun c15 => ?_) (fun c15 => ?_)
      · rw [if_pos c15] at h
        refine lv_goto (tgt := 2164) hx hb dL_law_982 (by decide) ?_
        cases h
        exact kk _ _ _ _ _ (by omega) (by omega) hP hS (lv_sub hl [2, 3, 4, 5, 6] rfl)
      · rw [if_neg c15] at h
        refine lv_iconst (v := 0) hx hb dL_law_980 (by decide) ?_
        cases h
  · rw [if_neg c13] at h
    refine lv_iconst (v := 0) hx hb dL_law_963 (by decide) ?_
    cases h
def rw_13 (L : Nat) (xs : Nat → Int32) (σ : GS) (x4 : Int32) : Option GS := match σ with
  | (T, P, X, Y, E, B, M, O) =>
  (rd L xs (x4 + 1)).bind fun v1 =>
  bd5 (rL_unplace T Y E O v1) (fun v2 T3 Y4 E5 O6 =>
  (rd L xs (x4 + 1)).bind fun v7 =>
  bd2 (r5_unplace M v7) (fun v8 M9 =>
  bd1 (r5_thrown M9) (fun v10 =>
  (if v10 = v2 then (if v2 = 0 then (if (lg_cmp (O6 0) (v8.toInt64)) = 0 then some (T3, P, X, Y4, E5, B, M9, O6)
  else none)
  else some (T3, P, X, Y4, E5, B, M9, O6))
  else none))))
set_option maxHeartbeats 4000000 in
set_option maxRecDepth 100000 in
theorem lw_13 {p : Program} {l : Launch} {e : Env} {s : State} {m : MethodId} {args : Array Value} {below : List Frame} {meth : Method} {c : Code} {Q : State → Prop} (hst : l.stackTraces = false) {γ : GA} {b L : Nat} {xs : Nat → Int32} (hLC : lC p s m args meth c γ b L xs) {σ σ' : GS} {x4 : Int32} (h : rw_13 L xs σ x4 = some σ') {ce se : Nat} (hce : ce + 16 ≤ 601024) (hse : se + 96 ≤ 7293034)
    (kk : ∀ (H : Heap) (locs : List Loc) (ls : Array Slot) (ce2 se2 : Nat), ce2 ≤ ce + 16 → se2 ≤ se + 96 → va_P γ.1 vwCl (gw γ σ') H → va_S (gA γ s.heap.size) s.heap H locs → lv_has ls 7 [(0, .ref b), (1, .ref (ad γ 0)), (2, .ref (ad γ 23)), (3, .ref (ad γ 30)), (4, .int x4)] → W p l e room_1 s m args below meth c H locs ce2 se2 Q (F0 m 2164 ls []))
    {H : Heap} {locs : List Loc} {ls : Array Slot} (hP : va_P γ.1 vwCl (gw γ σ) H) (hS : va_S (gA γ s.heap.size) s.heap H locs) (hl : lv_has ls 7 [(0, .ref b), (1, .ref (ad γ 0)), (2, .ref (ad γ 23)), (3, .ref (ad γ 30)), (4, .int x4)]) : W p l e room_1 s m args below meth c H locs ce se Q (F0 m 985 ls []) := by
  obtain ⟨hC, hX, hbl, hbA, hZ⟩ := hLC
  have hx := hC.x
  have hb := hC.b
  obtain ⟨T, P, X, Y, E, B, M, O⟩ := σ
  unfold rw_13 at h
  dsimp only at h
  refine lv_aload_n hx hb dL_law_985 rfl (lv_at hl 1 rfl) ?_
  refine lv_aload_n hx hb dL_law_986 rfl (lv_at hl 0 rfl) ?_
  refine lv_iload hx hb dL_law_987 (lv_at hl 4 rfl) ?_
  refine lv_iconst (v := 1) hx hb dL_law_989 (by decide) ?_
  refine lv_iadd hx hb dL_law_990 ?_
  obtain ⟨v1, hv, h⟩ := ob h
  refine g_scr hC hX hbl hbA hS dL_law_991 hv ?_
  refine lv_aload_n hx hb dL_law_992 rfl (lv_at hl 3 rfl) ?_
  obtain ⟨v2, T3, Y4, E5, O6, hv, h⟩ := bd5_e h
  refine g_xki (g_lW (As := [.ref (ad γ 0), .int v1, .ref (ad γ 30)]) (rest := []) hC hZ hP hS (tL_unplace l hst hv) u_4_120 yw_L_unplace ⟨Nat.le_of_ble_eq_true rfl, Nat.le_of_ble_eq_true rfl⟩ rfl hl.1 rfl (Nat.le_of_ble_eq_true rfl) dL_law_993 ⟨by show _ ≤ 601024; omega, by show _ ≤ 7293034; omega⟩) hS (fun H locs hP hS => ?_)
  refine lv_istore (lv' := [(5, .int v2), (0, .ref b), (1, .ref (ad γ 0)), (2, .ref (ad γ 23)), (3, .ref (ad γ 30)), (4, .int x4)]) hx hb dL_law_996 hl (by decide) rfl (fun ls hl => ?_)
  refine lv_aload_n hx hb dL_law_998 rfl (lv_at hl 3 rfl) ?_
  refine lv_aload_n hx hb dL_law_999 rfl (lv_at hl 1 rfl) ?_
  refine lv_iload hx hb dL_law_1000 (lv_at hl 5 rfl) ?_
  refine lv_iconst (v := 1) hx hb dL_law_1002 (by decide) ?_
  refine lv_iadd hx hb dL_law_1003 ?_
  obtain ⟨v7, hv, h⟩ := ob h
  refine g_scr hC hX hbl hbA hS dL_law_1004 hv ?_
  obtain ⟨v8, M9, hv, h⟩ := bd2_e h
  refine g_ki (g_lV (As := [.int v7]) (rest := []) hC hP (c5_unplace l hv) (by decide) ge_23 rfl u_6_102 yv_X5_unplace ⟨Nat.le_of_ble_eq_true rfl, Nat.le_of_ble_eq_true rfl⟩ rfl hl.1 rfl (Nat.le_of_ble_eq_true rfl) dL_law_1005 ⟨by show _ ≤ 601024; omega, by show _ ≤ 7293034; omega⟩) hS (fun H locs hP hS => ?_)
  refine lv_istore (lv' := [(6, .int v8), (5, .int v2), (0, .ref b), (1, .ref (ad γ 0)), (2, .ref (ad γ 23)), (3, .ref (ad γ 30)), (4, .int x4)]) hx hb dL_law_1008 hl (by decide) rfl (fun ls hl => ?_)
  refine lv_aload_n hx hb dL_law_1010 rfl (lv_at hl 4 rfl) ?_
  obtain ⟨v10, hv, h⟩ := bd1_e h
  refine g_ki (g_lV (As := []) (rest := []) hC hP (c5_thrown l hv) (by decide) ge_23 rfl u_5_144 yv_X5_thrown ⟨Nat.le_of_ble_eq_true rfl, Nat.le_of_ble_eq_true rfl⟩ rfl hl.1 rfl (Nat.le_of_ble_eq_true rfl) dL_law_1011 ⟨by show _ ≤ 601024; omega, by show _ ≤ 7293034; omega⟩) hS (fun H locs hP hS => ?_)
  refine lv_iload hx hb dL_law_1014 (lv_at hl 1 rfl) ?_
  refine lv_icmp_eq (tgt := 1021) hx hb dL_law_1016 (by decide) (fun c11 => ?_) (fun c11 => ?_)
  · rw [if_pos c11] at h
    refine lv_iload hx hb dL_law_1021 (lv_at hl 1 rfl) ?_
    refine lv_if_ne (tgt := 1038) hx hb dL_law_1023 (by decide) (fun c12 => ?_) (fun c12 => ?_)
    · rw [if_neg c12] at h
      refine lv_goto (tgt := 2164) hx hb dL_law_1038 (by decide) ?_
      cases h
      exact kk _ _ _ _ _ (by omega) (by omega) hP hS (lv_sub hl [2, 3, 4, 5, 6] rfl)
    · rw [if_pos c12] at h
      refine lv_aload_n hx hb dL_law_1026 rfl (lv_at hl 5 rfl) ?_
      refine lv_iconst (v := 0) hx hb dL_law_1027 (by decide) ?_
      refine g_lld hC hP dL_law_1028 ?_
      refine lv_iload hx hb dL_law_1029 (lv_at hl 0 rfl) ?_
      refine lv_i2l (v := (v8).toInt64) hx hb dL_law_1031 rfl ?_
      refine W.lcmp hx hb dL_law_1032 ?_
      refine lv_if_eq (tgt := 1038) hx hb dL_law_1033 (by decide) (fun c13 => ?_) (fun c13 => ?_)
      · rw [if_pos c13] at h
        refine lv_goto (tgt := 2164) hx hb dL_law_1038 (by decide) ?_
        cases h
        exact kk _ _ _ _ _ (by omega) (by omega) hP hS (lv_sub hl [2, 3, 4, 5, 6] rfl)
      · rw [if_neg c13] at h
        refine lv_iconst (v := 0) hx hb dL_law_1036 (by decide) ?_
        cases h
  · rw [if_neg c11] at h
    refine lv_iconst (v := 0) hx hb dL_law_1019 (by decide) ?_
    cases h
def rw_14 (L : Nat) (xs : Nat → Int32) (σ : GS) (x4 : Int32) : Option GS := match σ with
  | (T, P, X, Y, E, B, M, O) =>
  (rd L xs (x4 + 1)).bind fun v1 =>
  (rd L xs (x4 + 2)).bind fun v2 =>
  (if v2 = 0 then bd5 (rL_fix T Y E O v1 0) (fun v4 T5 Y6 E7 O8 =>
  (rd L xs (x4 + 1)).bind fun v9 =>
  (rd L xs (x4 + 2)).bind fun v10 =>
  (if v10 = 0 then bd2 (r5_fix M v9 0) (fun v12 M13 =>
  bd1 (r5_thrown M13) (fun v14 =>
  (if v14 = v4 then (if v4 = 0 then (if v12 = 0 then (if (lg_cmp (O8 0) (0 : Int64)) = 0 then some (T5, P, X, Y6, E7, B, M13, O8)
  else none)
  else (if (lg_cmp (O8 0) (1 : Int64)) = 0 then some (T5, P, X, Y6, E7, B, M13, O8)
  else none))
  else some (T5, P, X, Y6, E7, B, M13, O8))
  else none)))
  else bd2 (r5_fix M v9 1) (fun v20 M21 =>
  bd1 (r5_thrown M21) (fun v22 =>
  (if v22 = v4 then (if v4 = 0 then (if v20 = 0 then (if (lg_cmp (O8 0) (0 : Int64)) = 0 then some (T5, P, X, Y6, E7, B, M21, O8)
  else none)
  else (if (lg_cmp (O8 0) (1 : Int64)) = 0 then some (T5, P, X, Y6, E7, B, M21, O8)
  else none))
  else some (T5, P, X, Y6, E7, B, M21, O8))
  else none)))))
  else bd5 (rL_fix T Y E O v1 1) (fun v28 T29 Y30 E31 O32 =>
  (rd L xs (x4 + 1)).bind fun v33 =>
  (rd L xs (x4 + 2)).bind fun v34 =>
  (if v34 = 0 then bd2 (r5_fix M v33 0) (fun v36 M37 =>
  bd1 (r5_thrown M37) (fun v38 =>
  (if v38 = v28 then (if v28 = 0 then (if v36 = 0 then (if (lg_cmp (O32 0) (0 : Int64)) = 0 then some (T29, P, X, Y30, E31, B, M37, O32)
  else none)
  else (if (lg_cmp (O32 0) (1 : Int64)) = 0 then some (T29, P, X, Y30, E31, B, M37, O32)
  else none))
  else some (T29, P, X, Y30, E31, B, M37, O32))
  else none)))
  else bd2 (r5_fix M v33 1) (fun v44 M45 =>
  bd1 (r5_thrown M45) (fun v46 =>
  (if v46 = v28 then (if v28 = 0 then (if v44 = 0 then (if (lg_cmp (O32 0) (0 : Int64)) = 0 then some (T29, P, X, Y30, E31, B, M45, O32)
  else none)
  else (if (lg_cmp (O32 0) (1 : Int64)) = 0 then some (T29, P, X, Y30, E31, B, M45, O32)
  else none))
  else some (T29, P, X, Y30, E31, B, M45, O32))
  else none))))))
set_option maxHeartbeats 4000000 in
set_option maxRecDepth 100000 in
theorem lw_14 {p : Program} {l : Launch} {e : Env} {s : State} {m : MethodId} {args : Array Value} {below : List Frame} {meth : Method} {c : Code} {Q : State → Prop} (hst : l.stackTraces = false) {γ : GA} {b L : Nat} {xs : Nat → Int32} (hLC : lC p s m args meth c γ b L xs) {σ σ' : GS} {x4 : Int32} (h : rw_14 L xs σ x4 = some σ') {ce se : Nat} (hce : ce + 16 ≤ 601024) (hse : se + 96 ≤ 7293034)
    (kk : ∀ (H : Heap) (locs : List Loc) (ls : Array Slot) (ce2 se2 : Nat), ce2 ≤ ce + 16 → se2 ≤ se + 96 → va_P γ.1 vwCl (gw γ σ') H → va_S (gA γ s.heap.size) s.heap H locs → lv_has ls 7 [(0, .ref b), (1, .ref (ad γ 0)), (2, .ref (ad γ 23)), (3, .ref (ad γ 30)), (4, .int x4)] → W p l e room_1 s m args below meth c H locs ce2 se2 Q (F0 m 2164 ls []))
    {H : Heap} {locs : List Loc} {ls : Array Slot} (hP : va_P γ.1 vwCl (gw γ σ) H) (hS : va_S (gA γ s.heap.size) s.heap H locs) (hl : lv_has ls 7 [(0, .ref b), (1, .ref (ad γ 0)), (2, .ref (ad γ 23)), (3, .ref (ad γ 30)), (4, .int x4)]) : W p l e room_1 s m args below meth c H locs ce se Q (F0 m 1041 ls []) := by
  obtain ⟨hC, hX, hbl, hbA, hZ⟩ := hLC
  have hx := hC.x
  have hb := hC.b
  obtain ⟨T, P, X, Y, E, B, M, O⟩ := σ
  unfold rw_14 at h
  dsimp only at h
  refine lv_aload_n hx hb dL_law_1041 rfl (lv_at hl 1 rfl) ?_
  refine lv_aload_n hx hb dL_law_1042 rfl (lv_at hl 0 rfl) ?_
  refine lv_iload hx hb dL_law_1043 (lv_at hl 4 rfl) ?_
  refine lv_iconst (v := 1) hx hb dL_law_1045 (by decide) ?_
  refine lv_iadd hx hb dL_law_1046 ?_
  obtain ⟨v1, hv, h⟩ := ob h
  refine g_scr hC hX hbl hbA hS dL_law_1047 hv ?_
  refine lv_aload_n hx hb dL_law_1048 rfl (lv_at hl 0 rfl) ?_
  refine lv_iload hx hb dL_law_1049 (lv_at hl 4 rfl) ?_
  refine lv_iconst (v := 2) hx hb dL_law_1051 (by decide) ?_
  refine lv_iadd hx hb dL_law_1052 ?_
  obtain ⟨v2, hv, h⟩ := ob h
  refine g_scr hC hX hbl hbA hS dL_law_1053 hv ?_
  refine lv_if_eq (tgt := 1061) hx hb dL_law_1054 (by decide) (fun c3 => ?_) (fun c3 => ?_)
  · rw [if_pos c3] at h
    refine lv_iconst (v := 0) hx hb dL_law_1061 (by decide) ?_
    refine lv_aload_n hx hb dL_law_1062 rfl (lv_at hl 3 rfl) ?_
    obtain ⟨v4, T5, Y6, E7, O8, hv, h⟩ := bd5_e h
    refine g_xki (g_lW (As := [.ref (ad γ 0), .int v1, .int 0, .ref (ad γ 30)]) (rest := []) hC hZ hP hS (tL_fix l hst hv) u_4_133 yw_L_fix ⟨Nat.le_of_ble_eq_true rfl, Nat.le_of_ble_eq_true rfl⟩ rfl hl.1 rfl (Nat.le_of_ble_eq_true rfl) dL_law_1063 ⟨by show _ ≤ 601024; omega, by show _ ≤ 7293034; omega⟩) hS (fun H locs hP hS => ?_)
    refine lv_istore (lv' := [(5, .int v4), (0, .ref b), (1, .ref (ad γ 0)), (2, .ref (ad γ 23)), (3, .ref (ad γ 30)), (4, .int x4)]) hx hb dL_law_1066 hl (by decide) rfl (fun ls hl => ?_)
    refine lv_aload_n hx hb dL_law_1068 rfl (lv_at hl 3 rfl) ?_
    refine lv_aload_n hx hb dL_law_1069 rfl (lv_at hl 1 rfl) ?_
    refine lv_iload hx hb dL_law_1070 (lv_at hl 5 rfl) ?_
    refine lv_iconst (v := 1) hx hb dL_law_1072 (by decide) ?_
    refine lv_iadd hx hb dL_law_1073 ?_
    obtain ⟨v9, hv, h⟩ := ob h
    refine g_scr hC hX hbl hbA hS dL_law_1074 hv ?_
    refine lv_aload_n hx hb dL_law_1075 rfl (lv_at hl 1 rfl) ?_
    refine lv_iload hx hb dL_law_1076 (lv_at hl 5 rfl) ?_
    refine lv_iconst (v := 2) hx hb dL_law_1078 (by decide) ?_
    refine lv_iadd hx hb dL_law_1079 ?_
    obtain ⟨v10, hv, h⟩ := ob h
    refine g_scr hC hX hbl hbA hS dL_law_1080 hv ?_
    refine lv_if_eq (tgt := 1088) hx hb dL_law_1081 (by decide) (fun c11 => ?_) (fun c11 => ?_)
    · rw [if_pos c11] at h
      refine lv_iconst (v := 0) hx hb dL_law_1088 (by decide) ?_
      obtain ⟨v12, M13, hv, h⟩ := bd2_e h
      refine g_ki (g_lV (As := [.int v9, .int 0]) (rest := []) hC hP (c5_fix l hv) (by decide) ge_23 rfl u_6_106 yv_X5_fix ⟨Nat.le_of_ble_eq_true rfl, Nat.le_of_ble_eq_true rfl⟩ rfl hl.1 rfl (Nat.le_of_ble_eq_true rfl) dL_law_1089 ⟨by show _ ≤ 601024; omega, by show _ ≤ 7293034; omega⟩) hS (fun H locs hP hS => ?_)
      refine lv_istore (lv' := [(6, .int v12), (5, .int v4), (0, .ref b), (1, .ref (ad γ 0)), (2, .ref (ad γ 23)), (3, .ref (ad γ 30)), (4, .int x4)]) hx hb dL_law_1092 hl (by decide) rfl (fun ls hl => ?_)
      refine lv_aload_n hx hb dL_law_1094 rfl (lv_at hl 4 rfl) ?_
      obtain ⟨v14, hv, h⟩ := bd1_e h
      refine g_ki (g_lV (As := []) (rest := []) hC hP (c5_thrown l hv) (by decide) ge_23 rfl u_5_144 yv_X5_thrown ⟨Nat.le_of_ble_eq_true rfl, Nat.le_of_ble_eq_true rfl⟩ rfl hl.1 rfl (Nat.le_of_ble_eq_true rfl) dL_law_1095 ⟨by show _ ≤ 601024; omega, by show _ ≤ 7293034; omega⟩) hS (fun H locs hP hS => ?_)
      refine lv_iload hx hb dL_law_1098 (lv_at hl 1 rfl) ?_
      refine lv_icmp_eq (tgt := 1105) hx hb dL_law_1100 (by decide) (fun c15 => ?_) (fun c15 => ?_)
      · rw [if_pos c15] at h
        refine lv_iload hx hb dL_law_1105 (lv_at hl 1 rfl) ?_
        refine lv_if_ne (tgt := 1129) hx hb dL_law_1107 (by decide) (fun c16 => ?_) (fun c16 => ?_)
        · rw [if_neg c16] at h
          refine lv_goto (tgt := 2164) hx hb dL_law_1129 (by decide) ?_
          cases h
          exact kk _ _ _ _ _ (by omega) (by omega) hP hS (lv_sub hl [2, 3, 4, 5, 6] rfl)
        · rw [if_pos c16] at h
          refine lv_aload_n hx hb dL_law_1110 rfl (lv_at hl 5 rfl) ?_
          refine lv_iconst (v := 0) hx hb dL_law_1111 (by decide) ?_
          refine g_lld hC hP dL_law_1112 ?_
          refine lv_iload hx hb dL_law_1113 (lv_at hl 0 rfl) ?_
          refine lv_if_eq (tgt := 1122) hx hb dL_law_1115 (by decide) (fun c17 => ?_) (fun c17 => ?_)
          · rw [if_pos c17] at h
            refine lv_lconst (v := 0) hx hb dL_law_1122 rfl ?_
            refine W.lcmp hx hb dL_law_1123 ?_
            refine lv_if_eq (tgt := 1129) hx hb dL_law_1124 (by decide) (fun c18 => ?_) (fun c18 => ?_)
            · rw [if_pos c18] at h
              refine lv_goto (tgt := 2164) hx hb dL_law_1129 (by decide) ?_
              cases h
              exact kk _ _ _ _ _ (by omega) (by omega) hP hS (lv_sub hl [2, 3, 4, 5, 6] rfl)
            · rw [if_neg c18] at h
              refine lv_iconst (v := 0) hx hb dL_law_1127 (by decide) ?_
              cases h
          · rw [if_neg c17] at h
            refine lv_lconst (v := 1) hx hb dL_law_1118 rfl ?_
            refine lv_goto (tgt := 1123) hx hb dL_law_1119 (by decide) ?_
            refine W.lcmp hx hb dL_law_1123 ?_
            refine lv_if_eq (tgt := 1129) hx hb dL_law_1124 (by decide) (fun c19 => ?_) (fun c19 => ?_)
            · rw [if_pos c19] at h
              refine lv_goto (tgt := 2164) hx hb dL_law_1129 (by decide) ?_
              cases h
              exact kk _ _ _ _ _ (by omega) (by omega) hP hS (lv_sub hl [2, 3, 4, 5, 6] rfl)
            · rw [if_neg c19] at h
              refine lv_iconst (v := 0) hx hb dL_law_1127 (by decide) ?_
              cases h
      · rw [if_neg c15] at h
        refine lv_iconst (v := 0) hx hb dL_law_1103 (by decide) ?_
        cases h
    · rw [if_neg c11] at h
      refine lv_iconst (v := 1) hx hb dL_law_1084 (by decide) ?_
      refine lv_goto (tgt := 1089) hx hb dL_law_1085 (by decide) ?_
      obtain ⟨v20, M21, hv, h⟩ := bd2_e h
      refine g_ki (g_lV (As := [.int v9, .int 1]) (rest := []) hC hP (c5_fix l hv) (by decide) ge_23 rfl u_6_106 yv_X5_fix ⟨Nat.le_of_ble_eq_true rfl, Nat.le_of_ble_eq_true rfl⟩ rfl hl.1 rfl (Nat.le_of_ble_eq_true rfl) dL_law_1089 ⟨by show _ ≤ 601024; omega, by show _ ≤ 7293034; omega⟩) hS (fun H locs hP hS => ?_)
      refine lv_istore (lv' := [(6, .int v20), (5, .int v4), (0, .ref b), (1, .ref (ad γ 0)), (2, .ref (ad γ 23)), (3, .ref (ad γ 30)), (4, .int x4)]) hx hb dL_law_1092 hl (by decide) rfl (fun ls hl => ?_)
      refine lv_aload_n hx hb dL_law_1094 rfl (lv_at hl 4 rfl) ?_
      obtain ⟨v22, hv, h⟩ := bd1_e h
      refine g_ki (g_lV (As := []) (rest := []) hC hP (c5_thrown l hv) (by decide) ge_23 rfl u_5_144 yv_X5_thrown ⟨Nat.le_of_ble_eq_true rfl, Nat.le_of_ble_eq_true rfl⟩ rfl hl.1 rfl (Nat.le_of_ble_eq_true rfl) dL_law_1095 ⟨by show _ ≤ 601024; omega, by show _ ≤ 7293034; omega⟩) hS (fun H locs hP hS => ?_)
      refine lv_iload hx hb dL_law_1098 (lv_at hl 1 rfl) ?_
      refine lv_icmp_eq (tgt := 1105) hx hb dL_law_1100 (by decide) (fun c23 => ?_) (fun c23 => ?_)
      · rw [if_pos c23] at h
        refine lv_iload hx hb dL_law_1105 (lv_at hl 1 rfl) ?_
        refine lv_if_ne (tgt := 1129) hx hb dL_law_1107 (by decide) (fun c24 => ?_) (fun c24 => ?_)
        · rw [if_neg c24] at h
          refine lv_goto (tgt := 2164) hx hb dL_law_1129 (by decide) ?_
          cases h
          exact kk _ _ _ _ _ (by omega) (by omega) hP hS (lv_sub hl [2, 3, 4, 5, 6] rfl)
        · rw [if_pos c24] at h
          refine lv_aload_n hx hb dL_law_1110 rfl (lv_at hl 5 rfl) ?_
          refine lv_iconst (v := 0) hx hb dL_law_1111 (by decide) ?_
          refine g_lld hC hP dL_law_1112 ?_
          refine lv_iload hx hb dL_law_1113 (lv_at hl 0 rfl) ?_
          refine lv_if_eq (tgt := 1122) hx hb dL_law_1115 (by decide) (fun c25 => ?_) (fun c25 => ?_)
          · rw [if_pos c25] at h
            refine lv_lconst (v := 0) hx hb dL_law_1122 rfl ?_
            refine W.lcmp hx hb dL_law_1123 ?_
            refine lv_if_eq (tgt := 1129) hx hb dL_law_1124 (by decide) (fun c26 => ?_) (fun c26 => ?_)
            · rw [if_pos c26] at h
              refine lv_goto (tgt := 2164) hx hb dL_law_1129 (by decide) ?_
              cases h
              exact kk _ _ _ _ _ (by omega) (by omega) hP hS (lv_sub hl [2, 3, 4, 5, 6] rfl)
            · rw [if_neg c26] at h
              refine lv_iconst (v := 0) hx hb dL_law_1127 (by decide) ?_
              cases h
          · rw [if_neg c25] at h
            refine lv_lconst (v := 1) hx hb dL_law_1118 rfl ?_
            refine lv_goto (tgt := 1123) hx hb dL_law_1119 (by decide) ?_
            refine W.lcmp hx hb dL_law_1123 ?_
            refine lv_if_eq (tgt := 1129) hx hb dL_law_1124 (by decide) (fun c27 => ?_) (fun c27 => ?_)
            · rw [if_pos c27] at h
              refine lv_goto (tgt := 2164) hx hb dL_law_1129 (by decide) ?_
              cases h
              exact kk _ _ _ _ _ (by omega) (by omega) hP hS (lv_sub hl [2, 3, 4, 5, 6] rfl)
            · rw [if_neg c27] at h
              refine lv_iconst (v := 0) hx hb dL_law_1127 (by decide) ?_
              cases h
      · rw [if_neg c23] at h
        refine lv_iconst (v := 0) hx hb dL_law_1103 (by decide) ?_
        cases h
  · rw [if_neg c3] at h
    refine lv_iconst (v := 1) hx hb dL_law_1057 (by decide) ?_
    refine lv_goto (tgt := 1062) hx hb dL_law_1058 (by decide) ?_
    refine lv_aload_n hx hb dL_law_1062 rfl (lv_at hl 3 rfl) ?_
    obtain ⟨v28, T29, Y30, E31, O32, hv, h⟩ := bd5_e h
    refine g_xki (g_lW (As := [.ref (ad γ 0), .int v1, .int 1, .ref (ad γ 30)]) (rest := []) hC hZ hP hS (tL_fix l hst hv) u_4_133 yw_L_fix ⟨Nat.le_of_ble_eq_true rfl, Nat.le_of_ble_eq_true rfl⟩ rfl hl.1 rfl (Nat.le_of_ble_eq_true rfl) dL_law_1063 ⟨by show _ ≤ 601024; omega, by show _ ≤ 7293034; omega⟩) hS (fun H locs hP hS => ?_)
    refine lv_istore (lv' := [(5, .int v28), (0, .ref b), (1, .ref (ad γ 0)), (2, .ref (ad γ 23)), (3, .ref (ad γ 30)), (4, .int x4)]) hx hb dL_law_1066 hl (by decide) rfl (fun ls hl => ?_)
    refine lv_aload_n hx hb dL_law_1068 rfl (lv_at hl 3 rfl) ?_
    refine lv_aload_n hx hb dL_law_1069 rfl (lv_at hl 1 rfl) ?_
    refine lv_iload hx hb dL_law_1070 (lv_at hl 5 rfl) ?_
    refine lv_iconst (v := 1) hx hb dL_law_1072 (by decide) ?_
    refine lv_iadd hx hb dL_law_1073 ?_
    obtain ⟨v33, hv, h⟩ := ob h
    refine g_scr hC hX hbl hbA hS dL_law_1074 hv ?_
    refine lv_aload_n hx hb dL_law_1075 rfl (lv_at hl 1 rfl) ?_
    refine lv_iload hx hb dL_law_1076 (lv_at hl 5 rfl) ?_
    refine lv_iconst (v := 2) hx hb dL_law_1078 (by decide) ?_
    refine lv_iadd hx hb dL_law_1079 ?_
    obtain ⟨v34, hv, h⟩ := ob h
    refine g_scr hC hX hbl hbA hS dL_law_1080 hv ?_
    refine lv_if_eq (tgt := 1088) hx hb dL_law_1081 (by decide) (fun c35 => ?_) (fun c35 => ?_)
    · rw [if_pos c35] at h
      refine lv_iconst (v := 0) hx hb dL_law_1088 (by decide) ?_
      obtain ⟨v36, M37, hv, h⟩ := bd2_e h
      refine g_ki (g_lV (As := [.int v33, .int 0]) (rest := []) hC hP (c5_fix l hv) (by decide) ge_23 rfl u_6_106 yv_X5_fix ⟨Nat.le_of_ble_eq_true rfl, Nat.le_of_ble_eq_true rfl⟩ rfl hl.1 rfl (Nat.le_of_ble_eq_true rfl) dL_law_1089 ⟨by show _ ≤ 601024; omega, by show _ ≤ 7293034; omega⟩) hS (fun H locs hP hS => ?_)
      refine lv_istore (lv' := [(6, .int v36), (5, .int v28), (0, .ref b), (1, .ref (ad γ 0)), (2, .ref (ad γ 23)), (3, .ref (ad γ 30)), (4, .int x4)]) hx hb dL_law_1092 hl (by decide) rfl (fun ls hl => ?_)
      refine lv_aload_n hx hb dL_law_1094 rfl (lv_at hl 4 rfl) ?_
      obtain ⟨v38, hv, h⟩ := bd1_e h
      refine g_ki (g_lV (As := []) (rest := []) hC hP (c5_thrown l hv) (by decide) ge_23 rfl u_5_144 yv_X5_thrown ⟨Nat.le_of_ble_eq_true rfl, Nat.le_of_ble_eq_true rfl⟩ rfl hl.1 rfl (Nat.le_of_ble_eq_true rfl) dL_law_1095 ⟨by show _ ≤ 601024; omega, by show _ ≤ 7293034; omega⟩) hS (fun H locs hP hS => ?_)
      refine lv_iload hx hb dL_law_1098 (lv_at hl 1 rfl) ?_
      refine lv_icmp_eq (tgt := 1105) hx hb dL_law_1100 (by decide) (fun c39 => ?_) (fun c39 => ?_)
      · rw [if_pos c39] at h
        refine lv_iload hx hb dL_law_1105 (lv_at hl 1 rfl) ?_
        refine lv_if_ne (tgt := 1129) hx hb dL_law_1107 (by decide) (fun c40 => ?_) (fun c40 => ?_)
        · rw [if_neg c40] at h
          refine lv_goto (tgt := 2164) hx hb dL_law_1129 (by decide) ?_
          cases h
          exact kk _ _ _ _ _ (by omega) (by omega) hP hS (lv_sub hl [2, 3, 4, 5, 6] rfl)
        · rw [if_pos c40] at h
          refine lv_aload_n hx hb dL_law_1110 rfl (lv_at hl 5 rfl) ?_
          refine lv_iconst (v := 0) hx hb dL_law_1111 (by decide) ?_
          refine g_lld hC hP dL_law_1112 ?_
          refine lv_iload hx hb dL_law_1113 (lv_at hl 0 rfl) ?_
          refine lv_if_eq (tgt := 1122) hx hb dL_law_1115 (by decide) (fun c41 => ?_) (fun c41 => ?_)
          · rw [if_pos c41] at h
            refine lv_lconst (v := 0) hx hb dL_law_1122 rfl ?_
            refine W.lcmp hx hb dL_law_1123 ?_
            refine lv_if_eq (tgt := 1129) hx hb dL_law_1124 (by decide) (fun c42 => ?_) (fun c42 => ?_)
            · rw [if_pos c42] at h
              refine lv_goto (tgt := 2164) hx hb dL_law_1129 (by decide) ?_
              cases h
              exact kk _ _ _ _ _ (by omega) (by omega) hP hS (lv_sub hl [2, 3, 4, 5, 6] rfl)
            · rw [if_neg c42] at h
              refine lv_iconst (v := 0) hx hb dL_law_1127 (by decide) ?_
              cases h
          · rw [if_neg c41] at h
            refine lv_lconst (v := 1) hx hb dL_law_1118 rfl ?_
            refine lv_goto (tgt := 1123) hx hb dL_law_1119 (by decide) ?_
            refine W.lcmp hx hb dL_law_1123 ?_
            refine lv_if_eq (tgt := 1129) hx hb dL_law_1124 (by decide) (fun c43 => ?_) (fun c43 => ?_)
            · rw [if_pos c43] at h
              refine lv_goto (tgt := 2164) hx hb dL_law_1129 (by decide) ?_
              cases h
              exact kk _ _ _ _ _ (by omega) (by omega) hP hS (lv_sub hl [2, 3, 4, 5, 6] rfl)
            · rw [if_neg c43] at h
              refine lv_iconst (v := 0) hx hb dL_law_1127 (by decide) ?_
              cases h
      · rw [if_neg c39] at h
        refine lv_iconst (v := 0) hx hb dL_law_1103 (by decide) ?_
        cases h
    · rw [if_neg c35] at h
      refine lv_iconst (v := 1) hx hb dL_law_1084 (by decide) ?_
      refine lv_goto (tgt := 1089) hx hb dL_law_1085 (by decide) ?_
      obtain ⟨v44, M45, hv, h⟩ := bd2_e h
      refine g_ki (g_lV (As := [.int v33, .int 1]) (rest := []) hC hP (c5_fix l hv) (by decide) ge_23 rfl u_6_106 yv_X5_fix ⟨Nat.le_of_ble_eq_true rfl, Nat.le_of_ble_eq_true rfl⟩ rfl hl.1 rfl (Nat.le_of_ble_eq_true rfl) dL_law_1089 ⟨by show _ ≤ 601024; omega, by show _ ≤ 7293034; omega⟩) hS (fun H locs hP hS => ?_)
      refine lv_istore (lv' := [(6, .int v44), (5, .int v28), (0, .ref b), (1, .ref (ad γ 0)), (2, .ref (ad γ 23)), (3, .ref (ad γ 30)), (4, .int x4)]) hx hb dL_law_1092 hl (by decide) rfl (fun ls hl => ?_)
      refine lv_aload_n hx hb dL_law_1094 rfl (lv_at hl 4 rfl) ?_
      obtain ⟨v46, hv, h⟩ := bd1_e h
      refine g_ki (g_lV (As := []) (rest := []) hC hP (c5_thrown l hv) (by decide) ge_23 rfl u_5_144 yv_X5_thrown ⟨Nat.le_of_ble_eq_true rfl, Nat.le_of_ble_eq_true rfl⟩ rfl hl.1 rfl (Nat.le_of_ble_eq_true rfl) dL_law_1095 ⟨by show _ ≤ 601024; omega, by show _ ≤ 7293034; omega⟩) hS (fun H locs hP hS => ?_)
      refine lv_iload hx hb dL_law_1098 (lv_at hl 1 rfl) ?_
      refine lv_icmp_eq (tgt := 1105) hx hb dL_law_1100 (by decide) (fun c47 => ?_) (fun c47 => ?_)
      · rw [if_pos c47] at h
        refine lv_iload hx hb dL_law_1105 (lv_at hl 1 rfl) ?_
        refine lv_if_ne (tgt := 1129) hx hb dL_law_1107 (by decide) (fun c48 => ?_) (fun c48 => ?_)
        · rw [if_neg c48] at h
          refine lv_goto (tgt := 2164) hx hb dL_law_1129 (by decide) ?_
          cases h
          exact kk _ _ _ _ _ (by omega) (by omega) hP hS (lv_sub hl [2, 3, 4, 5, 6] rfl)
        · rw [if_pos c48] at h
          refine lv_aload_n hx hb dL_law_1110 rfl (lv_at hl 5 rfl) ?_
          refine lv_iconst (v := 0) hx hb dL_law_1111 (by decide) ?_
          refine g_lld hC hP dL_law_1112 ?_
          refine lv_iload hx hb dL_law_1113 (lv_at hl 0 rfl) ?_
          refine lv_if_eq (tgt := 1122) hx hb dL_law_1115 (by decide) (fun c49 => ?_) (fun c49 => ?_)
          · rw [if_pos c49] at h
            refine lv_lconst (v := 0) hx hb dL_law_1122 rfl ?_
            refine W.lcmp hx hb dL_law_1123 ?_
            refine lv_if_eq (tgt := 1129) hx hb dL_law_1124 (by decide) (fun c50 => ?_) (fun c50 => ?_)
            · rw [if_pos c50] at h
              refine lv_goto (tgt := 2164) hx hb dL_law_1129 (by decide) ?_
              cases h
              exact kk _ _ _ _ _ (by omega) (by omega) hP hS (lv_sub hl [2, 3, 4, 5, 6] rfl)
            · rw [if_neg c50] at h
              refine lv_iconst (v := 0) hx hb dL_law_1127 (by decide) ?_
              cases h
          · rw [if_neg c49] at h
            refine lv_lconst (v := 1) hx hb dL_law_1118 rfl ?_
            refine lv_goto (tgt := 1123) hx hb dL_law_1119 (by decide) ?_
            refine W.lcmp hx hb dL_law_1123 ?_
            refine lv_if_eq (tgt := 1129) hx hb dL_law_1124 (by decide) (fun c51 => ?_) (fun c51 => ?_)
            · rw [if_pos c51] at h
              refine lv_goto (tgt := 2164) hx hb dL_law_1129 (by decide) ?_
              cases h
              exact kk _ _ _ _ _ (by omega) (by omega) hP hS (lv_sub hl [2, 3, 4, 5, 6] rfl)
            · rw [if_neg c51] at h
              refine lv_iconst (v := 0) hx hb dL_law_1127 (by decide) ?_
              cases h
      · rw [if_neg c47] at h
        refine lv_iconst (v := 0) hx hb dL_law_1103 (by decide) ?_
        cases h
def rw_15 (L : Nat) (xs : Nat → Int32) (σ : GS) (x4 : Int32) : Option GS := match σ with
  | (T, P, X, Y, E, B, M, O) =>
  (rd L xs (x4 + 1)).bind fun v1 =>
  (rd L xs (x4 + 2)).bind fun v2 =>
  bd2 (rL_obstacle T O v1 v2) (fun v3 O4 =>
  (rd L xs (x4 + 1)).bind fun v5 =>
  (rd L xs (x4 + 2)).bind fun v6 =>
  bd2 (r5_obstacle M v5 v6) (fun v7 M8 =>
  bd1 (r5_thrown M8) (fun v9 =>
  (if v9 = v3 then (if v3 = 0 then (if (lg_cmp (O4 0) (v7.toInt64)) = 0 then some (T, P, X, Y, E, B, M8, O4)
  else none)
  else some (T, P, X, Y, E, B, M8, O4))
  else none))))
set_option maxHeartbeats 4000000 in
set_option maxRecDepth 100000 in
theorem lw_15 {p : Program} {l : Launch} {e : Env} {s : State} {m : MethodId} {args : Array Value} {below : List Frame} {meth : Method} {c : Code} {Q : State → Prop} (hst : l.stackTraces = false) {γ : GA} {b L : Nat} {xs : Nat → Int32} (hLC : lC p s m args meth c γ b L xs) {σ σ' : GS} {x4 : Int32} (h : rw_15 L xs σ x4 = some σ') {ce se : Nat} (hce : ce + 16 ≤ 601024) (hse : se + 96 ≤ 7293034)
    (kk : ∀ (H : Heap) (locs : List Loc) (ls : Array Slot) (ce2 se2 : Nat), ce2 ≤ ce + 16 → se2 ≤ se + 96 → va_P γ.1 vwCl (gw γ σ') H → va_S (gA γ s.heap.size) s.heap H locs → lv_has ls 7 [(0, .ref b), (1, .ref (ad γ 0)), (2, .ref (ad γ 23)), (3, .ref (ad γ 30)), (4, .int x4)] → W p l e room_1 s m args below meth c H locs ce2 se2 Q (F0 m 2164 ls []))
    {H : Heap} {locs : List Loc} {ls : Array Slot} (hP : va_P γ.1 vwCl (gw γ σ) H) (hS : va_S (gA γ s.heap.size) s.heap H locs) (hl : lv_has ls 7 [(0, .ref b), (1, .ref (ad γ 0)), (2, .ref (ad γ 23)), (3, .ref (ad γ 30)), (4, .int x4)]) : W p l e room_1 s m args below meth c H locs ce se Q (F0 m 1132 ls []) := by
  obtain ⟨hC, hX, hbl, hbA, hZ⟩ := hLC
  have hx := hC.x
  have hb := hC.b
  obtain ⟨T, P, X, Y, E, B, M, O⟩ := σ
  unfold rw_15 at h
  dsimp only at h
  refine lv_aload_n hx hb dL_law_1132 rfl (lv_at hl 1 rfl) ?_
  refine lv_aload_n hx hb dL_law_1133 rfl (lv_at hl 0 rfl) ?_
  refine lv_iload hx hb dL_law_1134 (lv_at hl 4 rfl) ?_
  refine lv_iconst (v := 1) hx hb dL_law_1136 (by decide) ?_
  refine lv_iadd hx hb dL_law_1137 ?_
  obtain ⟨v1, hv, h⟩ := ob h
  refine g_scr hC hX hbl hbA hS dL_law_1138 hv ?_
  refine lv_aload_n hx hb dL_law_1139 rfl (lv_at hl 0 rfl) ?_
  refine lv_iload hx hb dL_law_1140 (lv_at hl 4 rfl) ?_
  refine lv_iconst (v := 2) hx hb dL_law_1142 (by decide) ?_
  refine lv_iadd hx hb dL_law_1143 ?_
  obtain ⟨v2, hv, h⟩ := ob h
  refine g_scr hC hX hbl hbA hS dL_law_1144 hv ?_
  refine lv_aload_n hx hb dL_law_1145 rfl (lv_at hl 3 rfl) ?_
  obtain ⟨v3, O4, hv, h⟩ := bd2_e h
  refine g_xki (g_lW (As := [.ref (ad γ 0), .int v1, .int v2, .ref (ad γ 30)]) (rest := []) hC hZ hP hS (tL_obstacle l hst hv) u_4_140 yw_L_obstacle ⟨Nat.le_of_ble_eq_true rfl, Nat.le_of_ble_eq_true rfl⟩ rfl hl.1 rfl (Nat.le_of_ble_eq_true rfl) dL_law_1146 ⟨by show _ ≤ 601024; omega, by show _ ≤ 7293034; omega⟩) hS (fun H locs hP hS => ?_)
  refine lv_istore (lv' := [(5, .int v3), (0, .ref b), (1, .ref (ad γ 0)), (2, .ref (ad γ 23)), (3, .ref (ad γ 30)), (4, .int x4)]) hx hb dL_law_1149 hl (by decide) rfl (fun ls hl => ?_)
  refine lv_aload_n hx hb dL_law_1151 rfl (lv_at hl 3 rfl) ?_
  refine lv_aload_n hx hb dL_law_1152 rfl (lv_at hl 1 rfl) ?_
  refine lv_iload hx hb dL_law_1153 (lv_at hl 5 rfl) ?_
  refine lv_iconst (v := 1) hx hb dL_law_1155 (by decide) ?_
  refine lv_iadd hx hb dL_law_1156 ?_
  obtain ⟨v5, hv, h⟩ := ob h
  refine g_scr hC hX hbl hbA hS dL_law_1157 hv ?_
  refine lv_aload_n hx hb dL_law_1158 rfl (lv_at hl 1 rfl) ?_
  refine lv_iload hx hb dL_law_1159 (lv_at hl 5 rfl) ?_
  refine lv_iconst (v := 2) hx hb dL_law_1161 (by decide) ?_
  refine lv_iadd hx hb dL_law_1162 ?_
  obtain ⟨v6, hv, h⟩ := ob h
  refine g_scr hC hX hbl hbA hS dL_law_1163 hv ?_
  obtain ⟨v7, M8, hv, h⟩ := bd2_e h
  refine g_ki (g_lV (As := [.int v5, .int v6]) (rest := []) hC hP (c5_obstacle l hv) (by decide) ge_23 rfl u_6_110 yv_X5_obstacle ⟨Nat.le_of_ble_eq_true rfl, Nat.le_of_ble_eq_true rfl⟩ rfl hl.1 rfl (Nat.le_of_ble_eq_true rfl) dL_law_1164 ⟨by show _ ≤ 601024; omega, by show _ ≤ 7293034; omega⟩) hS (fun H locs hP hS => ?_)
  refine lv_istore (lv' := [(6, .int v7), (5, .int v3), (0, .ref b), (1, .ref (ad γ 0)), (2, .ref (ad γ 23)), (3, .ref (ad γ 30)), (4, .int x4)]) hx hb dL_law_1167 hl (by decide) rfl (fun ls hl => ?_)
  refine lv_aload_n hx hb dL_law_1169 rfl (lv_at hl 4 rfl) ?_
  obtain ⟨v9, hv, h⟩ := bd1_e h
  refine g_ki (g_lV (As := []) (rest := []) hC hP (c5_thrown l hv) (by decide) ge_23 rfl u_5_144 yv_X5_thrown ⟨Nat.le_of_ble_eq_true rfl, Nat.le_of_ble_eq_true rfl⟩ rfl hl.1 rfl (Nat.le_of_ble_eq_true rfl) dL_law_1170 ⟨by show _ ≤ 601024; omega, by show _ ≤ 7293034; omega⟩) hS (fun H locs hP hS => ?_)
  refine lv_iload hx hb dL_law_1173 (lv_at hl 1 rfl) ?_
  refine lv_icmp_eq (tgt := 1180) hx hb dL_law_1175 (by decide) (fun c10 => ?_) (fun c10 => ?_)
  · rw [if_pos c10] at h
    refine lv_iload hx hb dL_law_1180 (lv_at hl 1 rfl) ?_
    refine lv_if_ne (tgt := 1197) hx hb dL_law_1182 (by decide) (fun c11 => ?_) (fun c11 => ?_)
    · rw [if_neg c11] at h
      refine lv_goto (tgt := 2164) hx hb dL_law_1197 (by decide) ?_
      cases h
      exact kk _ _ _ _ _ (by omega) (by omega) hP hS (lv_sub hl [2, 3, 4, 5, 6] rfl)
    · rw [if_pos c11] at h
      refine lv_aload_n hx hb dL_law_1185 rfl (lv_at hl 5 rfl) ?_
      refine lv_iconst (v := 0) hx hb dL_law_1186 (by decide) ?_
      refine g_lld hC hP dL_law_1187 ?_
      refine lv_iload hx hb dL_law_1188 (lv_at hl 0 rfl) ?_
      refine lv_i2l (v := (v7).toInt64) hx hb dL_law_1190 rfl ?_
      refine W.lcmp hx hb dL_law_1191 ?_
      refine lv_if_eq (tgt := 1197) hx hb dL_law_1192 (by decide) (fun c12 => ?_) (fun c12 => ?_)
      · rw [if_pos c12] at h
        refine lv_goto (tgt := 2164) hx hb dL_law_1197 (by decide) ?_
        cases h
        exact kk _ _ _ _ _ (by omega) (by omega) hP hS (lv_sub hl [2, 3, 4, 5, 6] rfl)
      · rw [if_neg c12] at h
        refine lv_iconst (v := 0) hx hb dL_law_1195 (by decide) ?_
        cases h
  · rw [if_neg c10] at h
    refine lv_iconst (v := 0) hx hb dL_law_1178 (by decide) ?_
    cases h
def rw_16 (L : Nat) (xs : Nat → Int32) (σ : GS) (x4 : Int32) : Option GS := match σ with
  | (T, P, X, Y, E, B, M, O) =>
  (rd L xs (x4 + 1)).bind fun v1 =>
  (rd L xs (x4 + 2)).bind fun v2 =>
  bd2 (rL_places T O v1 v2) (fun v3 O4 =>
  (rd L xs (x4 + 1)).bind fun v5 =>
  (rd L xs (x4 + 2)).bind fun v6 =>
  bd2 (r5_places M v5 v6) (fun v7 M8 =>
  bd1 (r5_thrown M8) (fun v9 =>
  (if v9 = v3 then (if v3 = 0 then (if (lg_cmp (O4 0) (v7.toInt64)) = 0 then some (T, P, X, Y, E, B, M8, O4)
  else none)
  else some (T, P, X, Y, E, B, M8, O4))
  else none))))
set_option maxHeartbeats 4000000 in
set_option maxRecDepth 100000 in
theorem lw_16 {p : Program} {l : Launch} {e : Env} {s : State} {m : MethodId} {args : Array Value} {below : List Frame} {meth : Method} {c : Code} {Q : State → Prop} (hst : l.stackTraces = false) {γ : GA} {b L : Nat} {xs : Nat → Int32} (hLC : lC p s m args meth c γ b L xs) {σ σ' : GS} {x4 : Int32} (h : rw_16 L xs σ x4 = some σ') {ce se : Nat} (hce : ce + 16 ≤ 601024) (hse : se + 96 ≤ 7293034)
    (kk : ∀ (H : Heap) (locs : List Loc) (ls : Array Slot) (ce2 se2 : Nat), ce2 ≤ ce + 16 → se2 ≤ se + 96 → va_P γ.1 vwCl (gw γ σ') H → va_S (gA γ s.heap.size) s.heap H locs → lv_has ls 7 [(0, .ref b), (1, .ref (ad γ 0)), (2, .ref (ad γ 23)), (3, .ref (ad γ 30)), (4, .int x4)] → W p l e room_1 s m args below meth c H locs ce2 se2 Q (F0 m 2164 ls []))
    {H : Heap} {locs : List Loc} {ls : Array Slot} (hP : va_P γ.1 vwCl (gw γ σ) H) (hS : va_S (gA γ s.heap.size) s.heap H locs) (hl : lv_has ls 7 [(0, .ref b), (1, .ref (ad γ 0)), (2, .ref (ad γ 23)), (3, .ref (ad γ 30)), (4, .int x4)]) : W p l e room_1 s m args below meth c H locs ce se Q (F0 m 1200 ls []) := by
  obtain ⟨hC, hX, hbl, hbA, hZ⟩ := hLC
  have hx := hC.x
  have hb := hC.b
  obtain ⟨T, P, X, Y, E, B, M, O⟩ := σ
  unfold rw_16 at h
  dsimp only at h
  refine lv_aload_n hx hb dL_law_1200 rfl (lv_at hl 1 rfl) ?_
  refine lv_aload_n hx hb dL_law_1201 rfl (lv_at hl 0 rfl) ?_
  refine lv_iload hx hb dL_law_1202 (lv_at hl 4 rfl) ?_
  refine lv_iconst (v := 1) hx hb dL_law_1204 (by decide) ?_
  refine lv_iadd hx hb dL_law_1205 ?_
  obtain ⟨v1, hv, h⟩ := ob h
  refine g_scr hC hX hbl hbA hS dL_law_1206 hv ?_
  refine lv_aload_n hx hb dL_law_1207 rfl (lv_at hl 0 rfl) ?_
  refine lv_iload hx hb dL_law_1208 (lv_at hl 4 rfl) ?_
  refine lv_iconst (v := 2) hx hb dL_law_1210 (by decide) ?_
  refine lv_iadd hx hb dL_law_1211 ?_
  obtain ⟨v2, hv, h⟩ := ob h
  refine g_scr hC hX hbl hbA hS dL_law_1212 hv ?_
  refine lv_aload_n hx hb dL_law_1213 rfl (lv_at hl 3 rfl) ?_
  obtain ⟨v3, O4, hv, h⟩ := bd2_e h
  refine g_xki (g_lW (As := [.ref (ad γ 0), .int v1, .int v2, .ref (ad γ 30)]) (rest := []) hC hZ hP hS (tL_places l hst hv) u_4_147 yw_L_places ⟨Nat.le_of_ble_eq_true rfl, Nat.le_of_ble_eq_true rfl⟩ rfl hl.1 rfl (Nat.le_of_ble_eq_true rfl) dL_law_1214 ⟨by show _ ≤ 601024; omega, by show _ ≤ 7293034; omega⟩) hS (fun H locs hP hS => ?_)
  refine lv_istore (lv' := [(5, .int v3), (0, .ref b), (1, .ref (ad γ 0)), (2, .ref (ad γ 23)), (3, .ref (ad γ 30)), (4, .int x4)]) hx hb dL_law_1217 hl (by decide) rfl (fun ls hl => ?_)
  refine lv_aload_n hx hb dL_law_1219 rfl (lv_at hl 3 rfl) ?_
  refine lv_aload_n hx hb dL_law_1220 rfl (lv_at hl 1 rfl) ?_
  refine lv_iload hx hb dL_law_1221 (lv_at hl 5 rfl) ?_
  refine lv_iconst (v := 1) hx hb dL_law_1223 (by decide) ?_
  refine lv_iadd hx hb dL_law_1224 ?_
  obtain ⟨v5, hv, h⟩ := ob h
  refine g_scr hC hX hbl hbA hS dL_law_1225 hv ?_
  refine lv_aload_n hx hb dL_law_1226 rfl (lv_at hl 1 rfl) ?_
  refine lv_iload hx hb dL_law_1227 (lv_at hl 5 rfl) ?_
  refine lv_iconst (v := 2) hx hb dL_law_1229 (by decide) ?_
  refine lv_iadd hx hb dL_law_1230 ?_
  obtain ⟨v6, hv, h⟩ := ob h
  refine g_scr hC hX hbl hbA hS dL_law_1231 hv ?_
  obtain ⟨v7, M8, hv, h⟩ := bd2_e h
  refine g_ki (g_lV (As := [.int v5, .int v6]) (rest := []) hC hP (c5_places l hv) (by decide) ge_23 rfl u_6_114 yv_X5_places ⟨Nat.le_of_ble_eq_true rfl, Nat.le_of_ble_eq_true rfl⟩ rfl hl.1 rfl (Nat.le_of_ble_eq_true rfl) dL_law_1232 ⟨by show _ ≤ 601024; omega, by show _ ≤ 7293034; omega⟩) hS (fun H locs hP hS => ?_)
  refine lv_istore (lv' := [(6, .int v7), (5, .int v3), (0, .ref b), (1, .ref (ad γ 0)), (2, .ref (ad γ 23)), (3, .ref (ad γ 30)), (4, .int x4)]) hx hb dL_law_1235 hl (by decide) rfl (fun ls hl => ?_)
  refine lv_aload_n hx hb dL_law_1237 rfl (lv_at hl 4 rfl) ?_
  obtain ⟨v9, hv, h⟩ := bd1_e h
  refine g_ki (g_lV (As := []) (rest := []) hC hP (c5_thrown l hv) (by decide) ge_23 rfl u_5_144 yv_X5_thrown ⟨Nat.le_of_ble_eq_true rfl, Nat.le_of_ble_eq_true rfl⟩ rfl hl.1 rfl (Nat.le_of_ble_eq_true rfl) dL_law_1238 ⟨by show _ ≤ 601024; omega, by show _ ≤ 7293034; omega⟩) hS (fun H locs hP hS => ?_)
  refine lv_iload hx hb dL_law_1241 (lv_at hl 1 rfl) ?_
  refine lv_icmp_eq (tgt := 1248) hx hb dL_law_1243 (by decide) (fun c10 => ?_) (fun c10 => ?_)
  · rw [if_pos c10] at h
    refine lv_iload hx hb dL_law_1248 (lv_at hl 1 rfl) ?_
    refine lv_if_ne (tgt := 1265) hx hb dL_law_1250 (by decide) (fun c11 => ?_) (fun c11 => ?_)
    · rw [if_neg c11] at h
      refine lv_goto (tgt := 2164) hx hb dL_law_1265 (by decide) ?_
      cases h
      exact kk _ _ _ _ _ (by omega) (by omega) hP hS (lv_sub hl [2, 3, 4, 5, 6] rfl)
    · rw [if_pos c11] at h
      refine lv_aload_n hx hb dL_law_1253 rfl (lv_at hl 5 rfl) ?_
      refine lv_iconst (v := 0) hx hb dL_law_1254 (by decide) ?_
      refine g_lld hC hP dL_law_1255 ?_
      refine lv_iload hx hb dL_law_1256 (lv_at hl 0 rfl) ?_
      refine lv_i2l (v := (v7).toInt64) hx hb dL_law_1258 rfl ?_
      refine W.lcmp hx hb dL_law_1259 ?_
      refine lv_if_eq (tgt := 1265) hx hb dL_law_1260 (by decide) (fun c12 => ?_) (fun c12 => ?_)
      · rw [if_pos c12] at h
        refine lv_goto (tgt := 2164) hx hb dL_law_1265 (by decide) ?_
        cases h
        exact kk _ _ _ _ _ (by omega) (by omega) hP hS (lv_sub hl [2, 3, 4, 5, 6] rfl)
      · rw [if_neg c12] at h
        refine lv_iconst (v := 0) hx hb dL_law_1263 (by decide) ?_
        cases h
  · rw [if_neg c10] at h
    refine lv_iconst (v := 0) hx hb dL_law_1246 (by decide) ?_
    cases h
def rw_17 (L : Nat) (xs : Nat → Int32) (σ : GS) (x4 : Int32) : Option GS := match σ with
  | (T, P, X, Y, E, B, M, O) =>
  (rd L xs (x4 + 1)).bind fun v1 =>
  (rd L xs (x4 + 2)).bind fun v2 =>
  bd2 (rL_free T O v1 v2) (fun v3 O4 =>
  (rd L xs (x4 + 1)).bind fun v5 =>
  (rd L xs (x4 + 2)).bind fun v6 =>
  bd2 (r5_free M v5 v6) (fun v7 M8 =>
  bd1 (r5_thrown M8) (fun v9 =>
  (if v9 = v3 then (if v3 = 0 then (if (lg_cmp (O4 0) (v7.toInt64)) = 0 then some (T, P, X, Y, E, B, M8, O4)
  else none)
  else some (T, P, X, Y, E, B, M8, O4))
  else none))))
set_option maxHeartbeats 4000000 in
set_option maxRecDepth 100000 in
theorem lw_17 {p : Program} {l : Launch} {e : Env} {s : State} {m : MethodId} {args : Array Value} {below : List Frame} {meth : Method} {c : Code} {Q : State → Prop} (hst : l.stackTraces = false) {γ : GA} {b L : Nat} {xs : Nat → Int32} (hLC : lC p s m args meth c γ b L xs) {σ σ' : GS} {x4 : Int32} (h : rw_17 L xs σ x4 = some σ') {ce se : Nat} (hce : ce + 16 ≤ 601024) (hse : se + 96 ≤ 7293034)
    (kk : ∀ (H : Heap) (locs : List Loc) (ls : Array Slot) (ce2 se2 : Nat), ce2 ≤ ce + 16 → se2 ≤ se + 96 → va_P γ.1 vwCl (gw γ σ') H → va_S (gA γ s.heap.size) s.heap H locs → lv_has ls 7 [(0, .ref b), (1, .ref (ad γ 0)), (2, .ref (ad γ 23)), (3, .ref (ad γ 30)), (4, .int x4)] → W p l e room_1 s m args below meth c H locs ce2 se2 Q (F0 m 2164 ls []))
    {H : Heap} {locs : List Loc} {ls : Array Slot} (hP : va_P γ.1 vwCl (gw γ σ) H) (hS : va_S (gA γ s.heap.size) s.heap H locs) (hl : lv_has ls 7 [(0, .ref b), (1, .ref (ad γ 0)), (2, .ref (ad γ 23)), (3, .ref (ad γ 30)), (4, .int x4)]) : W p l e room_1 s m args below meth c H locs ce se Q (F0 m 1268 ls []) := by
  obtain ⟨hC, hX, hbl, hbA, hZ⟩ := hLC
  have hx := hC.x
  have hb := hC.b
  obtain ⟨T, P, X, Y, E, B, M, O⟩ := σ
  unfold rw_17 at h
  dsimp only at h
  refine lv_aload_n hx hb dL_law_1268 rfl (lv_at hl 1 rfl) ?_
  refine lv_aload_n hx hb dL_law_1269 rfl (lv_at hl 0 rfl) ?_
  refine lv_iload hx hb dL_law_1270 (lv_at hl 4 rfl) ?_
  refine lv_iconst (v := 1) hx hb dL_law_1272 (by decide) ?_
  refine lv_iadd hx hb dL_law_1273 ?_
  obtain ⟨v1, hv, h⟩ := ob h
  refine g_scr hC hX hbl hbA hS dL_law_1274 hv ?_
  refine lv_aload_n hx hb dL_law_1275 rfl (lv_at hl 0 rfl) ?_
  refine lv_iload hx hb dL_law_1276 (lv_at hl 4 rfl) ?_
  refine lv_iconst (v := 2) hx hb dL_law_1278 (by decide) ?_
  refine lv_iadd hx hb dL_law_1279 ?_
  obtain ⟨v2, hv, h⟩ := ob h
  refine g_scr hC hX hbl hbA hS dL_law_1280 hv ?_
  refine lv_aload_n hx hb dL_law_1281 rfl (lv_at hl 3 rfl) ?_
  obtain ⟨v3, O4, hv, h⟩ := bd2_e h
  refine g_xki (g_lW (As := [.ref (ad γ 0), .int v1, .int v2, .ref (ad γ 30)]) (rest := []) hC hZ hP hS (tL_free l hst hv) u_4_154 yw_L_free ⟨Nat.le_of_ble_eq_true rfl, Nat.le_of_ble_eq_true rfl⟩ rfl hl.1 rfl (Nat.le_of_ble_eq_true rfl) dL_law_1282 ⟨by show _ ≤ 601024; omega, by show _ ≤ 7293034; omega⟩) hS (fun H locs hP hS => ?_)
  refine lv_istore (lv' := [(5, .int v3), (0, .ref b), (1, .ref (ad γ 0)), (2, .ref (ad γ 23)), (3, .ref (ad γ 30)), (4, .int x4)]) hx hb dL_law_1285 hl (by decide) rfl (fun ls hl => ?_)
  refine lv_aload_n hx hb dL_law_1287 rfl (lv_at hl 3 rfl) ?_
  refine lv_aload_n hx hb dL_law_1288 rfl (lv_at hl 1 rfl) ?_
  refine lv_iload hx hb dL_law_1289 (lv_at hl 5 rfl) ?_
  refine lv_iconst (v := 1) hx hb dL_law_1291 (by decide) ?_
  refine lv_iadd hx hb dL_law_1292 ?_
  obtain ⟨v5, hv, h⟩ := ob h
  refine g_scr hC hX hbl hbA hS dL_law_1293 hv ?_
  refine lv_aload_n hx hb dL_law_1294 rfl (lv_at hl 1 rfl) ?_
  refine lv_iload hx hb dL_law_1295 (lv_at hl 5 rfl) ?_
  refine lv_iconst (v := 2) hx hb dL_law_1297 (by decide) ?_
  refine lv_iadd hx hb dL_law_1298 ?_
  obtain ⟨v6, hv, h⟩ := ob h
  refine g_scr hC hX hbl hbA hS dL_law_1299 hv ?_
  obtain ⟨v7, M8, hv, h⟩ := bd2_e h
  refine g_ki (g_lV (As := [.int v5, .int v6]) (rest := []) hC hP (c5_free l hv) (by decide) ge_23 rfl u_6_122 yv_X5_free ⟨Nat.le_of_ble_eq_true rfl, Nat.le_of_ble_eq_true rfl⟩ rfl hl.1 rfl (Nat.le_of_ble_eq_true rfl) dL_law_1300 ⟨by show _ ≤ 601024; omega, by show _ ≤ 7293034; omega⟩) hS (fun H locs hP hS => ?_)
  refine lv_istore (lv' := [(6, .int v7), (5, .int v3), (0, .ref b), (1, .ref (ad γ 0)), (2, .ref (ad γ 23)), (3, .ref (ad γ 30)), (4, .int x4)]) hx hb dL_law_1303 hl (by decide) rfl (fun ls hl => ?_)
  refine lv_aload_n hx hb dL_law_1305 rfl (lv_at hl 4 rfl) ?_
  obtain ⟨v9, hv, h⟩ := bd1_e h
  refine g_ki (g_lV (As := []) (rest := []) hC hP (c5_thrown l hv) (by decide) ge_23 rfl u_5_144 yv_X5_thrown ⟨Nat.le_of_ble_eq_true rfl, Nat.le_of_ble_eq_true rfl⟩ rfl hl.1 rfl (Nat.le_of_ble_eq_true rfl) dL_law_1306 ⟨by show _ ≤ 601024; omega, by show _ ≤ 7293034; omega⟩) hS (fun H locs hP hS => ?_)
  refine lv_iload hx hb dL_law_1309 (lv_at hl 1 rfl) ?_
  refine lv_icmp_eq (tgt := 1316) hx hb dL_law_1311 (by decide) (fun c10 => ?_) (fun c10 => ?_)
  · rw [if_pos c10] at h
    refine lv_iload hx hb dL_law_1316 (lv_at hl 1 rfl) ?_
    refine lv_if_ne (tgt := 1333) hx hb dL_law_1318 (by decide) (fun c11 => ?_) (fun c11 => ?_)
    · rw [if_neg c11] at h
      refine lv_goto (tgt := 2164) hx hb dL_law_1333 (by decide) ?_
      cases h
      exact kk _ _ _ _ _ (by omega) (by omega) hP hS (lv_sub hl [2, 3, 4, 5, 6] rfl)
    · rw [if_pos c11] at h
      refine lv_aload_n hx hb dL_law_1321 rfl (lv_at hl 5 rfl) ?_
      refine lv_iconst (v := 0) hx hb dL_law_1322 (by decide) ?_
      refine g_lld hC hP dL_law_1323 ?_
      refine lv_iload hx hb dL_law_1324 (lv_at hl 0 rfl) ?_
      refine lv_i2l (v := (v7).toInt64) hx hb dL_law_1326 rfl ?_
      refine W.lcmp hx hb dL_law_1327 ?_
      refine lv_if_eq (tgt := 1333) hx hb dL_law_1328 (by decide) (fun c12 => ?_) (fun c12 => ?_)
      · rw [if_pos c12] at h
        refine lv_goto (tgt := 2164) hx hb dL_law_1333 (by decide) ?_
        cases h
        exact kk _ _ _ _ _ (by omega) (by omega) hP hS (lv_sub hl [2, 3, 4, 5, 6] rfl)
      · rw [if_neg c12] at h
        refine lv_iconst (v := 0) hx hb dL_law_1331 (by decide) ?_
        cases h
  · rw [if_neg c10] at h
    refine lv_iconst (v := 0) hx hb dL_law_1314 (by decide) ?_
    cases h
def rw_18 (L : Nat) (xs : Nat → Int32) (σ : GS) (x4 : Int32) : Option GS := match σ with
  | (T, P, X, Y, E, B, M, O) =>
  (rd L xs (x4 + 1)).bind fun v1 =>
  (rd L xs (x4 + 2)).bind fun v2 =>
  bd2 (rL_hindering T O v1 v2) (fun v3 O4 =>
  (rd L xs (x4 + 1)).bind fun v5 =>
  (rd L xs (x4 + 2)).bind fun v6 =>
  bd2 (r5_hindering M v5 v6) (fun v7 M8 =>
  bd1 (r5_thrown M8) (fun v9 =>
  (if v9 = v3 then (if v3 = 0 then (if (lg_cmp (O4 0) (v7.toInt64)) = 0 then some (T, P, X, Y, E, B, M8, O4)
  else none)
  else some (T, P, X, Y, E, B, M8, O4))
  else none))))
set_option maxHeartbeats 4000000 in
set_option maxRecDepth 100000 in
theorem lw_18 {p : Program} {l : Launch} {e : Env} {s : State} {m : MethodId} {args : Array Value} {below : List Frame} {meth : Method} {c : Code} {Q : State → Prop} (hst : l.stackTraces = false) {γ : GA} {b L : Nat} {xs : Nat → Int32} (hLC : lC p s m args meth c γ b L xs) {σ σ' : GS} {x4 : Int32} (h : rw_18 L xs σ x4 = some σ') {ce se : Nat} (hce : ce + 16 ≤ 601024) (hse : se + 96 ≤ 7293034)
    (kk : ∀ (H : Heap) (locs : List Loc) (ls : Array Slot) (ce2 se2 : Nat), ce2 ≤ ce + 16 → se2 ≤ se + 96 → va_P γ.1 vwCl (gw γ σ') H → va_S (gA γ s.heap.size) s.heap H locs → lv_has ls 7 [(0, .ref b), (1, .ref (ad γ 0)), (2, .ref (ad γ 23)), (3, .ref (ad γ 30)), (4, .int x4)] → W p l e room_1 s m args below meth c H locs ce2 se2 Q (F0 m 2164 ls []))
    {H : Heap} {locs : List Loc} {ls : Array Slot} (hP : va_P γ.1 vwCl (gw γ σ) H) (hS : va_S (gA γ s.heap.size) s.heap H locs) (hl : lv_has ls 7 [(0, .ref b), (1, .ref (ad γ 0)), (2, .ref (ad γ 23)), (3, .ref (ad γ 30)), (4, .int x4)]) : W p l e room_1 s m args below meth c H locs ce se Q (F0 m 1336 ls []) := by
  obtain ⟨hC, hX, hbl, hbA, hZ⟩ := hLC
  have hx := hC.x
  have hb := hC.b
  obtain ⟨T, P, X, Y, E, B, M, O⟩ := σ
  unfold rw_18 at h
  dsimp only at h
  refine lv_aload_n hx hb dL_law_1336 rfl (lv_at hl 1 rfl) ?_
  refine lv_aload_n hx hb dL_law_1337 rfl (lv_at hl 0 rfl) ?_
  refine lv_iload hx hb dL_law_1338 (lv_at hl 4 rfl) ?_
  refine lv_iconst (v := 1) hx hb dL_law_1340 (by decide) ?_
  refine lv_iadd hx hb dL_law_1341 ?_
  obtain ⟨v1, hv, h⟩ := ob h
  refine g_scr hC hX hbl hbA hS dL_law_1342 hv ?_
  refine lv_aload_n hx hb dL_law_1343 rfl (lv_at hl 0 rfl) ?_
  refine lv_iload hx hb dL_law_1344 (lv_at hl 4 rfl) ?_
  refine lv_iconst (v := 2) hx hb dL_law_1346 (by decide) ?_
  refine lv_iadd hx hb dL_law_1347 ?_
  obtain ⟨v2, hv, h⟩ := ob h
  refine g_scr hC hX hbl hbA hS dL_law_1348 hv ?_
  refine lv_aload_n hx hb dL_law_1349 rfl (lv_at hl 3 rfl) ?_
  obtain ⟨v3, O4, hv, h⟩ := bd2_e h
  refine g_xki (g_lW (As := [.ref (ad γ 0), .int v1, .int v2, .ref (ad γ 30)]) (rest := []) hC hZ hP hS (tL_hindering l hst hv) u_4_178 yw_L_hindering ⟨Nat.le_of_ble_eq_true rfl, Nat.le_of_ble_eq_true rfl⟩ rfl hl.1 rfl (Nat.le_of_ble_eq_true rfl) dL_law_1350 ⟨by show _ ≤ 601024; omega, by show _ ≤ 7293034; omega⟩) hS (fun H locs hP hS => ?_)
  refine lv_istore (lv' := [(5, .int v3), (0, .ref b), (1, .ref (ad γ 0)), (2, .ref (ad γ 23)), (3, .ref (ad γ 30)), (4, .int x4)]) hx hb dL_law_1353 hl (by decide) rfl (fun ls hl => ?_)
  refine lv_aload_n hx hb dL_law_1355 rfl (lv_at hl 3 rfl) ?_
  refine lv_aload_n hx hb dL_law_1356 rfl (lv_at hl 1 rfl) ?_
  refine lv_iload hx hb dL_law_1357 (lv_at hl 5 rfl) ?_
  refine lv_iconst (v := 1) hx hb dL_law_1359 (by decide) ?_
  refine lv_iadd hx hb dL_law_1360 ?_
  obtain ⟨v5, hv, h⟩ := ob h
  refine g_scr hC hX hbl hbA hS dL_law_1361 hv ?_
  refine lv_aload_n hx hb dL_law_1362 rfl (lv_at hl 1 rfl) ?_
  refine lv_iload hx hb dL_law_1363 (lv_at hl 5 rfl) ?_
  refine lv_iconst (v := 2) hx hb dL_law_1365 (by decide) ?_
  refine lv_iadd hx hb dL_law_1366 ?_
  obtain ⟨v6, hv, h⟩ := ob h
  refine g_scr hC hX hbl hbA hS dL_law_1367 hv ?_
  obtain ⟨v7, M8, hv, h⟩ := bd2_e h
  refine g_ki (g_lV (As := [.int v5, .int v6]) (rest := []) hC hP (c5_hindering l hv) (by decide) ge_23 rfl u_6_126 yv_X5_hindering ⟨Nat.le_of_ble_eq_true rfl, Nat.le_of_ble_eq_true rfl⟩ rfl hl.1 rfl (Nat.le_of_ble_eq_true rfl) dL_law_1368 ⟨by show _ ≤ 601024; omega, by show _ ≤ 7293034; omega⟩) hS (fun H locs hP hS => ?_)
  refine lv_istore (lv' := [(6, .int v7), (5, .int v3), (0, .ref b), (1, .ref (ad γ 0)), (2, .ref (ad γ 23)), (3, .ref (ad γ 30)), (4, .int x4)]) hx hb dL_law_1371 hl (by decide) rfl (fun ls hl => ?_)
  refine lv_aload_n hx hb dL_law_1373 rfl (lv_at hl 4 rfl) ?_
  obtain ⟨v9, hv, h⟩ := bd1_e h
  refine g_ki (g_lV (As := []) (rest := []) hC hP (c5_thrown l hv) (by decide) ge_23 rfl u_5_144 yv_X5_thrown ⟨Nat.le_of_ble_eq_true rfl, Nat.le_of_ble_eq_true rfl⟩ rfl hl.1 rfl (Nat.le_of_ble_eq_true rfl) dL_law_1374 ⟨by show _ ≤ 601024; omega, by show _ ≤ 7293034; omega⟩) hS (fun H locs hP hS => ?_)
  refine lv_iload hx hb dL_law_1377 (lv_at hl 1 rfl) ?_
  refine lv_icmp_eq (tgt := 1384) hx hb dL_law_1379 (by decide) (fun c10 => ?_) (fun c10 => ?_)
  · rw [if_pos c10] at h
    refine lv_iload hx hb dL_law_1384 (lv_at hl 1 rfl) ?_
    refine lv_if_ne (tgt := 1401) hx hb dL_law_1386 (by decide) (fun c11 => ?_) (fun c11 => ?_)
    · rw [if_neg c11] at h
      refine lv_goto (tgt := 2164) hx hb dL_law_1401 (by decide) ?_
      cases h
      exact kk _ _ _ _ _ (by omega) (by omega) hP hS (lv_sub hl [2, 3, 4, 5, 6] rfl)
    · rw [if_pos c11] at h
      refine lv_aload_n hx hb dL_law_1389 rfl (lv_at hl 5 rfl) ?_
      refine lv_iconst (v := 0) hx hb dL_law_1390 (by decide) ?_
      refine g_lld hC hP dL_law_1391 ?_
      refine lv_iload hx hb dL_law_1392 (lv_at hl 0 rfl) ?_
      refine lv_i2l (v := (v7).toInt64) hx hb dL_law_1394 rfl ?_
      refine W.lcmp hx hb dL_law_1395 ?_
      refine lv_if_eq (tgt := 1401) hx hb dL_law_1396 (by decide) (fun c12 => ?_) (fun c12 => ?_)
      · rw [if_pos c12] at h
        refine lv_goto (tgt := 2164) hx hb dL_law_1401 (by decide) ?_
        cases h
        exact kk _ _ _ _ _ (by omega) (by omega) hP hS (lv_sub hl [2, 3, 4, 5, 6] rfl)
      · rw [if_neg c12] at h
        refine lv_iconst (v := 0) hx hb dL_law_1399 (by decide) ?_
        cases h
  · rw [if_neg c10] at h
    refine lv_iconst (v := 0) hx hb dL_law_1382 (by decide) ?_
    cases h
def rw_19 (L : Nat) (xs : Nat → Int32) (σ : GS) (x4 : Int32) : Option GS := match σ with
  | (T, P, X, Y, E, B, M, O) =>
  (rd L xs (x4 + 1)).bind fun v1 =>
  (rd L xs (x4 + 2)).bind fun v2 =>
  bd2 (rL_at T O v1 v2) (fun v3 O4 =>
  (rd L xs (x4 + 1)).bind fun v5 =>
  (rd L xs (x4 + 2)).bind fun v6 =>
  bd2 (r5_at M v5 v6) (fun v7 M8 =>
  bd1 (r5_thrown M8) (fun v9 =>
  (if v9 = v3 then (if v3 = 0 then (if (lg_cmp (O4 0) (v7.toInt64)) = 0 then some (T, P, X, Y, E, B, M8, O4)
  else none)
  else some (T, P, X, Y, E, B, M8, O4))
  else none))))
set_option maxHeartbeats 4000000 in
set_option maxRecDepth 100000 in
theorem lw_19 {p : Program} {l : Launch} {e : Env} {s : State} {m : MethodId} {args : Array Value} {below : List Frame} {meth : Method} {c : Code} {Q : State → Prop} (hst : l.stackTraces = false) {γ : GA} {b L : Nat} {xs : Nat → Int32} (hLC : lC p s m args meth c γ b L xs) {σ σ' : GS} {x4 : Int32} (h : rw_19 L xs σ x4 = some σ') {ce se : Nat} (hce : ce + 16 ≤ 601024) (hse : se + 96 ≤ 7293034)
    (kk : ∀ (H : Heap) (locs : List Loc) (ls : Array Slot) (ce2 se2 : Nat), ce2 ≤ ce + 16 → se2 ≤ se + 96 → va_P γ.1 vwCl (gw γ σ') H → va_S (gA γ s.heap.size) s.heap H locs → lv_has ls 7 [(0, .ref b), (1, .ref (ad γ 0)), (2, .ref (ad γ 23)), (3, .ref (ad γ 30)), (4, .int x4)] → W p l e room_1 s m args below meth c H locs ce2 se2 Q (F0 m 2164 ls []))
    {H : Heap} {locs : List Loc} {ls : Array Slot} (hP : va_P γ.1 vwCl (gw γ σ) H) (hS : va_S (gA γ s.heap.size) s.heap H locs) (hl : lv_has ls 7 [(0, .ref b), (1, .ref (ad γ 0)), (2, .ref (ad γ 23)), (3, .ref (ad γ 30)), (4, .int x4)]) : W p l e room_1 s m args below meth c H locs ce se Q (F0 m 1404 ls []) := by
  obtain ⟨hC, hX, hbl, hbA, hZ⟩ := hLC
  have hx := hC.x
  have hb := hC.b
  obtain ⟨T, P, X, Y, E, B, M, O⟩ := σ
  unfold rw_19 at h
  dsimp only at h
  refine lv_aload_n hx hb dL_law_1404 rfl (lv_at hl 1 rfl) ?_
  refine lv_aload_n hx hb dL_law_1405 rfl (lv_at hl 0 rfl) ?_
  refine lv_iload hx hb dL_law_1406 (lv_at hl 4 rfl) ?_
  refine lv_iconst (v := 1) hx hb dL_law_1408 (by decide) ?_
  refine lv_iadd hx hb dL_law_1409 ?_
  obtain ⟨v1, hv, h⟩ := ob h
  refine g_scr hC hX hbl hbA hS dL_law_1410 hv ?_
  refine lv_aload_n hx hb dL_law_1411 rfl (lv_at hl 0 rfl) ?_
  refine lv_iload hx hb dL_law_1412 (lv_at hl 4 rfl) ?_
  refine lv_iconst (v := 2) hx hb dL_law_1414 (by decide) ?_
  refine lv_iadd hx hb dL_law_1415 ?_
  obtain ⟨v2, hv, h⟩ := ob h
  refine g_scr hC hX hbl hbA hS dL_law_1416 hv ?_
  refine lv_aload_n hx hb dL_law_1417 rfl (lv_at hl 3 rfl) ?_
  obtain ⟨v3, O4, hv, h⟩ := bd2_e h
  refine g_xki (g_lW (As := [.ref (ad γ 0), .int v1, .int v2, .ref (ad γ 30)]) (rest := []) hC hZ hP hS (tL_at l hst hv) u_4_186 yw_L_at ⟨Nat.le_of_ble_eq_true rfl, Nat.le_of_ble_eq_true rfl⟩ rfl hl.1 rfl (Nat.le_of_ble_eq_true rfl) dL_law_1418 ⟨by show _ ≤ 601024; omega, by show _ ≤ 7293034; omega⟩) hS (fun H locs hP hS => ?_)
  refine lv_istore (lv' := [(5, .int v3), (0, .ref b), (1, .ref (ad γ 0)), (2, .ref (ad γ 23)), (3, .ref (ad γ 30)), (4, .int x4)]) hx hb dL_law_1421 hl (by decide) rfl (fun ls hl => ?_)
  refine lv_aload_n hx hb dL_law_1423 rfl (lv_at hl 3 rfl) ?_
  refine lv_aload_n hx hb dL_law_1424 rfl (lv_at hl 1 rfl) ?_
  refine lv_iload hx hb dL_law_1425 (lv_at hl 5 rfl) ?_
  refine lv_iconst (v := 1) hx hb dL_law_1427 (by decide) ?_
  refine lv_iadd hx hb dL_law_1428 ?_
  obtain ⟨v5, hv, h⟩ := ob h
  refine g_scr hC hX hbl hbA hS dL_law_1429 hv ?_
  refine lv_aload_n hx hb dL_law_1430 rfl (lv_at hl 1 rfl) ?_
  refine lv_iload hx hb dL_law_1431 (lv_at hl 5 rfl) ?_
  refine lv_iconst (v := 2) hx hb dL_law_1433 (by decide) ?_
  refine lv_iadd hx hb dL_law_1434 ?_
  obtain ⟨v6, hv, h⟩ := ob h
  refine g_scr hC hX hbl hbA hS dL_law_1435 hv ?_
  obtain ⟨v7, M8, hv, h⟩ := bd2_e h
  refine g_ki (g_lV (As := [.int v5, .int v6]) (rest := []) hC hP (c5_at l hv) (by decide) ge_23 rfl u_6_134 yv_X5_at ⟨Nat.le_of_ble_eq_true rfl, Nat.le_of_ble_eq_true rfl⟩ rfl hl.1 rfl (Nat.le_of_ble_eq_true rfl) dL_law_1436 ⟨by show _ ≤ 601024; omega, by show _ ≤ 7293034; omega⟩) hS (fun H locs hP hS => ?_)
  refine lv_istore (lv' := [(6, .int v7), (5, .int v3), (0, .ref b), (1, .ref (ad γ 0)), (2, .ref (ad γ 23)), (3, .ref (ad γ 30)), (4, .int x4)]) hx hb dL_law_1439 hl (by decide) rfl (fun ls hl => ?_)
  refine lv_aload_n hx hb dL_law_1441 rfl (lv_at hl 4 rfl) ?_
  obtain ⟨v9, hv, h⟩ := bd1_e h
  refine g_ki (g_lV (As := []) (rest := []) hC hP (c5_thrown l hv) (by decide) ge_23 rfl u_5_144 yv_X5_thrown ⟨Nat.le_of_ble_eq_true rfl, Nat.le_of_ble_eq_true rfl⟩ rfl hl.1 rfl (Nat.le_of_ble_eq_true rfl) dL_law_1442 ⟨by show _ ≤ 601024; omega, by show _ ≤ 7293034; omega⟩) hS (fun H locs hP hS => ?_)
  refine lv_iload hx hb dL_law_1445 (lv_at hl 1 rfl) ?_
  refine lv_icmp_eq (tgt := 1452) hx hb dL_law_1447 (by decide) (fun c10 => ?_) (fun c10 => ?_)
  · rw [if_pos c10] at h
    refine lv_iload hx hb dL_law_1452 (lv_at hl 1 rfl) ?_
    refine lv_if_ne (tgt := 1469) hx hb dL_law_1454 (by decide) (fun c11 => ?_) (fun c11 => ?_)
    · rw [if_neg c11] at h
      refine lv_goto (tgt := 2164) hx hb dL_law_1469 (by decide) ?_
      cases h
      exact kk _ _ _ _ _ (by omega) (by omega) hP hS (lv_sub hl [2, 3, 4, 5, 6] rfl)
    · rw [if_pos c11] at h
      refine lv_aload_n hx hb dL_law_1457 rfl (lv_at hl 5 rfl) ?_
      refine lv_iconst (v := 0) hx hb dL_law_1458 (by decide) ?_
      refine g_lld hC hP dL_law_1459 ?_
      refine lv_iload hx hb dL_law_1460 (lv_at hl 0 rfl) ?_
      refine lv_i2l (v := (v7).toInt64) hx hb dL_law_1462 rfl ?_
      refine W.lcmp hx hb dL_law_1463 ?_
      refine lv_if_eq (tgt := 1469) hx hb dL_law_1464 (by decide) (fun c12 => ?_) (fun c12 => ?_)
      · rw [if_pos c12] at h
        refine lv_goto (tgt := 2164) hx hb dL_law_1469 (by decide) ?_
        cases h
        exact kk _ _ _ _ _ (by omega) (by omega) hP hS (lv_sub hl [2, 3, 4, 5, 6] rfl)
      · rw [if_neg c12] at h
        refine lv_iconst (v := 0) hx hb dL_law_1467 (by decide) ?_
        cases h
  · rw [if_neg c10] at h
    refine lv_iconst (v := 0) hx hb dL_law_1450 (by decide) ?_
    cases h
def rw_20 (L : Nat) (xs : Nat → Int32) (σ : GS) (x4 : Int32) : Option GS := match σ with
  | (T, P, X, Y, E, B, M, O) =>
  (rd L xs (x4 + 1)).bind fun v1 =>
  (rd L xs (x4 + 2)).bind fun v2 =>
  bd2 (rL_taken T O v1 v2) (fun v3 O4 =>
  (rd L xs (x4 + 1)).bind fun v5 =>
  (rd L xs (x4 + 2)).bind fun v6 =>
  bd2 (r5_taken M v5 v6) (fun v7 M8 =>
  bd1 (r5_thrown M8) (fun v9 =>
  (if v9 = v3 then (if v3 = 0 then (if (lg_cmp (O4 0) (v7.toInt64)) = 0 then some (T, P, X, Y, E, B, M8, O4)
  else none)
  else some (T, P, X, Y, E, B, M8, O4))
  else none))))
set_option maxHeartbeats 4000000 in
set_option maxRecDepth 100000 in
theorem lw_20 {p : Program} {l : Launch} {e : Env} {s : State} {m : MethodId} {args : Array Value} {below : List Frame} {meth : Method} {c : Code} {Q : State → Prop} (hst : l.stackTraces = false) {γ : GA} {b L : Nat} {xs : Nat → Int32} (hLC : lC p s m args meth c γ b L xs) {σ σ' : GS} {x4 : Int32} (h : rw_20 L xs σ x4 = some σ') {ce se : Nat} (hce : ce + 16 ≤ 601024) (hse : se + 96 ≤ 7293034)
    (kk : ∀ (H : Heap) (locs : List Loc) (ls : Array Slot) (ce2 se2 : Nat), ce2 ≤ ce + 16 → se2 ≤ se + 96 → va_P γ.1 vwCl (gw γ σ') H → va_S (gA γ s.heap.size) s.heap H locs → lv_has ls 7 [(0, .ref b), (1, .ref (ad γ 0)), (2, .ref (ad γ 23)), (3, .ref (ad γ 30)), (4, .int x4)] → W p l e room_1 s m args below meth c H locs ce2 se2 Q (F0 m 2164 ls []))
    {H : Heap} {locs : List Loc} {ls : Array Slot} (hP : va_P γ.1 vwCl (gw γ σ) H) (hS : va_S (gA γ s.heap.size) s.heap H locs) (hl : lv_has ls 7 [(0, .ref b), (1, .ref (ad γ 0)), (2, .ref (ad γ 23)), (3, .ref (ad γ 30)), (4, .int x4)]) : W p l e room_1 s m args below meth c H locs ce se Q (F0 m 1472 ls []) := by
  obtain ⟨hC, hX, hbl, hbA, hZ⟩ := hLC
  have hx := hC.x
  have hb := hC.b
  obtain ⟨T, P, X, Y, E, B, M, O⟩ := σ
  unfold rw_20 at h
  dsimp only at h
  refine lv_aload_n hx hb dL_law_1472 rfl (lv_at hl 1 rfl) ?_
  refine lv_aload_n hx hb dL_law_1473 rfl (lv_at hl 0 rfl) ?_
  refine lv_iload hx hb dL_law_1474 (lv_at hl 4 rfl) ?_
  refine lv_iconst (v := 1) hx hb dL_law_1476 (by decide) ?_
  refine lv_iadd hx hb dL_law_1477 ?_
  obtain ⟨v1, hv, h⟩ := ob h
  refine g_scr hC hX hbl hbA hS dL_law_1478 hv ?_
  refine lv_aload_n hx hb dL_law_1479 rfl (lv_at hl 0 rfl) ?_
  refine lv_iload hx hb dL_law_1480 (lv_at hl 4 rfl) ?_
  refine lv_iconst (v := 2) hx hb dL_law_1482 (by decide) ?_
  refine lv_iadd hx hb dL_law_1483 ?_
  obtain ⟨v2, hv, h⟩ := ob h
  refine g_scr hC hX hbl hbA hS dL_law_1484 hv ?_
  refine lv_aload_n hx hb dL_law_1485 rfl (lv_at hl 3 rfl) ?_
  obtain ⟨v3, O4, hv, h⟩ := bd2_e h
  refine g_xki (g_lW (As := [.ref (ad γ 0), .int v1, .int v2, .ref (ad γ 30)]) (rest := []) hC hZ hP hS (tL_taken l hst hv) u_4_198 yw_L_taken ⟨Nat.le_of_ble_eq_true rfl, Nat.le_of_ble_eq_true rfl⟩ rfl hl.1 rfl (Nat.le_of_ble_eq_true rfl) dL_law_1486 ⟨by show _ ≤ 601024; omega, by show _ ≤ 7293034; omega⟩) hS (fun H locs hP hS => ?_)
  refine lv_istore (lv' := [(5, .int v3), (0, .ref b), (1, .ref (ad γ 0)), (2, .ref (ad γ 23)), (3, .ref (ad γ 30)), (4, .int x4)]) hx hb dL_law_1489 hl (by decide) rfl (fun ls hl => ?_)
  refine lv_aload_n hx hb dL_law_1491 rfl (lv_at hl 3 rfl) ?_
  refine lv_aload_n hx hb dL_law_1492 rfl (lv_at hl 1 rfl) ?_
  refine lv_iload hx hb dL_law_1493 (lv_at hl 5 rfl) ?_
  refine lv_iconst (v := 1) hx hb dL_law_1495 (by decide) ?_
  refine lv_iadd hx hb dL_law_1496 ?_
  obtain ⟨v5, hv, h⟩ := ob h
  refine g_scr hC hX hbl hbA hS dL_law_1497 hv ?_
  refine lv_aload_n hx hb dL_law_1498 rfl (lv_at hl 1 rfl) ?_
  refine lv_iload hx hb dL_law_1499 (lv_at hl 5 rfl) ?_
  refine lv_iconst (v := 2) hx hb dL_law_1501 (by decide) ?_
  refine lv_iadd hx hb dL_law_1502 ?_
  obtain ⟨v6, hv, h⟩ := ob h
  refine g_scr hC hX hbl hbA hS dL_law_1503 hv ?_
  obtain ⟨v7, M8, hv, h⟩ := bd2_e h
  refine g_ki (g_lV (As := [.int v5, .int v6]) (rest := []) hC hP (c5_taken l hv) (by decide) ge_23 rfl u_6_138 yv_X5_taken ⟨Nat.le_of_ble_eq_true rfl, Nat.le_of_ble_eq_true rfl⟩ rfl hl.1 rfl (Nat.le_of_ble_eq_true rfl) dL_law_1504 ⟨by show _ ≤ 601024; omega, by show _ ≤ 7293034; omega⟩) hS (fun H locs hP hS => ?_)
  refine lv_istore (lv' := [(6, .int v7), (5, .int v3), (0, .ref b), (1, .ref (ad γ 0)), (2, .ref (ad γ 23)), (3, .ref (ad γ 30)), (4, .int x4)]) hx hb dL_law_1507 hl (by decide) rfl (fun ls hl => ?_)
  refine lv_aload_n hx hb dL_law_1509 rfl (lv_at hl 4 rfl) ?_
  obtain ⟨v9, hv, h⟩ := bd1_e h
  refine g_ki (g_lV (As := []) (rest := []) hC hP (c5_thrown l hv) (by decide) ge_23 rfl u_5_144 yv_X5_thrown ⟨Nat.le_of_ble_eq_true rfl, Nat.le_of_ble_eq_true rfl⟩ rfl hl.1 rfl (Nat.le_of_ble_eq_true rfl) dL_law_1510 ⟨by show _ ≤ 601024; omega, by show _ ≤ 7293034; omega⟩) hS (fun H locs hP hS => ?_)
  refine lv_iload hx hb dL_law_1513 (lv_at hl 1 rfl) ?_
  refine lv_icmp_eq (tgt := 1520) hx hb dL_law_1515 (by decide) (fun c10 => ?_) (fun c10 => ?_)
  · rw [if_pos c10] at h
    refine lv_iload hx hb dL_law_1520 (lv_at hl 1 rfl) ?_
    refine lv_if_ne (tgt := 1537) hx hb dL_law_1522 (by decide) (fun c11 => ?_) (fun c11 => ?_)
    · rw [if_neg c11] at h
      refine lv_goto (tgt := 2164) hx hb dL_law_1537 (by decide) ?_
      cases h
      exact kk _ _ _ _ _ (by omega) (by omega) hP hS (lv_sub hl [2, 3, 4, 5, 6] rfl)
    · rw [if_pos c11] at h
      refine lv_aload_n hx hb dL_law_1525 rfl (lv_at hl 5 rfl) ?_
      refine lv_iconst (v := 0) hx hb dL_law_1526 (by decide) ?_
      refine g_lld hC hP dL_law_1527 ?_
      refine lv_iload hx hb dL_law_1528 (lv_at hl 0 rfl) ?_
      refine lv_i2l (v := (v7).toInt64) hx hb dL_law_1530 rfl ?_
      refine W.lcmp hx hb dL_law_1531 ?_
      refine lv_if_eq (tgt := 1537) hx hb dL_law_1532 (by decide) (fun c12 => ?_) (fun c12 => ?_)
      · rw [if_pos c12] at h
        refine lv_goto (tgt := 2164) hx hb dL_law_1537 (by decide) ?_
        cases h
        exact kk _ _ _ _ _ (by omega) (by omega) hP hS (lv_sub hl [2, 3, 4, 5, 6] rfl)
      · rw [if_neg c12] at h
        refine lv_iconst (v := 0) hx hb dL_law_1535 (by decide) ?_
        cases h
  · rw [if_neg c10] at h
    refine lv_iconst (v := 0) hx hb dL_law_1518 (by decide) ?_
    cases h
def rw_21 (L : Nat) (xs : Nat → Int32) (σ : GS) (x4 : Int32) : Option GS := match σ with
  | (T, P, X, Y, E, B, M, O) =>
  (rd L xs (x4 + 1)).bind fun v1 =>
  bd6 (rL_insert T P Y E O v1) (fun v2 T3 P4 Y5 E6 O7 =>
  (rd L xs (x4 + 1)).bind fun v8 =>
  bd2 (r5_insert M v8) (fun v9 M10 =>
  bd1 (r5_thrown M10) (fun v11 =>
  (if v11 = v2 then (if v2 = 0 then (if (lg_cmp (O7 0) (v9.toInt64)) = 0 then some (T3, P4, X, Y5, E6, B, M10, O7)
  else none)
  else some (T3, P4, X, Y5, E6, B, M10, O7))
  else none))))
set_option maxHeartbeats 4000000 in
set_option maxRecDepth 100000 in
theorem lw_21 {p : Program} {l : Launch} {e : Env} {s : State} {m : MethodId} {args : Array Value} {below : List Frame} {meth : Method} {c : Code} {Q : State → Prop} (hst : l.stackTraces = false) {γ : GA} {b L : Nat} {xs : Nat → Int32} (hLC : lC p s m args meth c γ b L xs) {σ σ' : GS} {x4 : Int32} (h : rw_21 L xs σ x4 = some σ') {ce se : Nat} (hce : ce + 16 ≤ 601024) (hse : se + 96 ≤ 7293034)
    (kk : ∀ (H : Heap) (locs : List Loc) (ls : Array Slot) (ce2 se2 : Nat), ce2 ≤ ce + 16 → se2 ≤ se + 96 → va_P γ.1 vwCl (gw γ σ') H → va_S (gA γ s.heap.size) s.heap H locs → lv_has ls 7 [(0, .ref b), (1, .ref (ad γ 0)), (2, .ref (ad γ 23)), (3, .ref (ad γ 30)), (4, .int x4)] → W p l e room_1 s m args below meth c H locs ce2 se2 Q (F0 m 2164 ls []))
    {H : Heap} {locs : List Loc} {ls : Array Slot} (hP : va_P γ.1 vwCl (gw γ σ) H) (hS : va_S (gA γ s.heap.size) s.heap H locs) (hl : lv_has ls 7 [(0, .ref b), (1, .ref (ad γ 0)), (2, .ref (ad γ 23)), (3, .ref (ad γ 30)), (4, .int x4)]) : W p l e room_1 s m args below meth c H locs ce se Q (F0 m 1540 ls []) := by
  obtain ⟨hC, hX, hbl, hbA, hZ⟩ := hLC
  have hx := hC.x
  have hb := hC.b
  obtain ⟨T, P, X, Y, E, B, M, O⟩ := σ
  unfold rw_21 at h
  dsimp only at h
  refine lv_aload_n hx hb dL_law_1540 rfl (lv_at hl 1 rfl) ?_
  refine lv_aload_n hx hb dL_law_1541 rfl (lv_at hl 0 rfl) ?_
  refine lv_iload hx hb dL_law_1542 (lv_at hl 4 rfl) ?_
  refine lv_iconst (v := 1) hx hb dL_law_1544 (by decide) ?_
  refine lv_iadd hx hb dL_law_1545 ?_
  obtain ⟨v1, hv, h⟩ := ob h
  refine g_scr hC hX hbl hbA hS dL_law_1546 hv ?_
  refine lv_aload_n hx hb dL_law_1547 rfl (lv_at hl 3 rfl) ?_
  obtain ⟨v2, T3, P4, Y5, E6, O7, hv, h⟩ := bd6_e h
  refine g_xki (g_lW (As := [.ref (ad γ 0), .int v1, .ref (ad γ 30)]) (rest := []) hC hZ hP hS (tL_insert l hst hv) u_4_217 yw_L_insert ⟨Nat.le_of_ble_eq_true rfl, Nat.le_of_ble_eq_true rfl⟩ rfl hl.1 rfl (Nat.le_of_ble_eq_true rfl) dL_law_1548 ⟨by show _ ≤ 601024; omega, by show _ ≤ 7293034; omega⟩) hS (fun H locs hP hS => ?_)
  refine lv_istore (lv' := [(5, .int v2), (0, .ref b), (1, .ref (ad γ 0)), (2, .ref (ad γ 23)), (3, .ref (ad γ 30)), (4, .int x4)]) hx hb dL_law_1551 hl (by decide) rfl (fun ls hl => ?_)
  refine lv_aload_n hx hb dL_law_1553 rfl (lv_at hl 3 rfl) ?_
  refine lv_aload_n hx hb dL_law_1554 rfl (lv_at hl 1 rfl) ?_
  refine lv_iload hx hb dL_law_1555 (lv_at hl 5 rfl) ?_
  refine lv_iconst (v := 1) hx hb dL_law_1557 (by decide) ?_
  refine lv_iadd hx hb dL_law_1558 ?_
  obtain ⟨v8, hv, h⟩ := ob h
  refine g_scr hC hX hbl hbA hS dL_law_1559 hv ?_
  obtain ⟨v9, M10, hv, h⟩ := bd2_e h
  refine g_ki (g_lV (As := [.int v8]) (rest := []) hC hP (c5_insert l hv) (by decide) ge_23 rfl u_6_142 yv_X5_insert ⟨Nat.le_of_ble_eq_true rfl, Nat.le_of_ble_eq_true rfl⟩ rfl hl.1 rfl (Nat.le_of_ble_eq_true rfl) dL_law_1560 ⟨by show _ ≤ 601024; omega, by show _ ≤ 7293034; omega⟩) hS (fun H locs hP hS => ?_)
  refine lv_istore (lv' := [(6, .int v9), (5, .int v2), (0, .ref b), (1, .ref (ad γ 0)), (2, .ref (ad γ 23)), (3, .ref (ad γ 30)), (4, .int x4)]) hx hb dL_law_1563 hl (by decide) rfl (fun ls hl => ?_)
  refine lv_aload_n hx hb dL_law_1565 rfl (lv_at hl 4 rfl) ?_
  obtain ⟨v11, hv, h⟩ := bd1_e h
  refine g_ki (g_lV (As := []) (rest := []) hC hP (c5_thrown l hv) (by decide) ge_23 rfl u_5_144 yv_X5_thrown ⟨Nat.le_of_ble_eq_true rfl, Nat.le_of_ble_eq_true rfl⟩ rfl hl.1 rfl (Nat.le_of_ble_eq_true rfl) dL_law_1566 ⟨by show _ ≤ 601024; omega, by show _ ≤ 7293034; omega⟩) hS (fun H locs hP hS => ?_)
  refine lv_iload hx hb dL_law_1569 (lv_at hl 1 rfl) ?_
  refine lv_icmp_eq (tgt := 1576) hx hb dL_law_1571 (by decide) (fun c12 => ?_) (fun c12 => ?_)
  · rw [if_pos c12] at h
    refine lv_iload hx hb dL_law_1576 (lv_at hl 1 rfl) ?_
    refine lv_if_ne (tgt := 1593) hx hb dL_law_1578 (by decide) (fun c13 => ?_) (fun c13 => ?_)
    · rw [if_neg c13] at h
      refine lv_goto (tgt := 2164) hx hb dL_law_1593 (by decide) ?_
      cases h
      exact kk _ _ _ _ _ (by omega) (by omega) hP hS (lv_sub hl [2, 3, 4, 5, 6] rfl)
    · rw [if_pos c13] at h
      refine lv_aload_n hx hb dL_law_1581 rfl (lv_at hl 5 rfl) ?_
      refine lv_iconst (v := 0) hx hb dL_law_1582 (by decide) ?_
      refine g_lld hC hP dL_law_1583 ?_
      refine lv_iload hx hb dL_law_1584 (lv_at hl 0 rfl) ?_
      refine lv_i2l (v := (v9).toInt64) hx hb dL_law_1586 rfl ?_
      refine W.lcmp hx hb dL_law_1587 ?_
      refine lv_if_eq (tgt := 1593) hx hb dL_law_1588 (by decide) (fun c14 => ?_) (fun c14 => ?_)
      · rw [if_pos c14] at h
        refine lv_goto (tgt := 2164) hx hb dL_law_1593 (by decide) ?_
        cases h
        exact kk _ _ _ _ _ (by omega) (by omega) hP hS (lv_sub hl [2, 3, 4, 5, 6] rfl)
      · rw [if_neg c14] at h
        refine lv_iconst (v := 0) hx hb dL_law_1591 (by decide) ?_
        cases h
  · rw [if_neg c12] at h
    refine lv_iconst (v := 0) hx hb dL_law_1574 (by decide) ?_
    cases h
def rw_22 (L : Nat) (xs : Nat → Int32) (σ : GS) (x4 : Int32) : Option GS := match σ with
  | (T, P, X, Y, E, B, M, O) =>
  bd5 (r4_build T P Y E) (fun v1 T2 P3 Y4 E5 =>
  bd2 (r5_build M) (fun v6 M7 =>
  (if v1 = v6 then some (T2, P3, X, Y4, E5, B, M7, O)
  else none)))
set_option maxHeartbeats 4000000 in
set_option maxRecDepth 100000 in
theorem lw_22 {p : Program} {l : Launch} {e : Env} {s : State} {m : MethodId} {args : Array Value} {below : List Frame} {meth : Method} {c : Code} {Q : State → Prop} (hst : l.stackTraces = false) {γ : GA} {b L : Nat} {xs : Nat → Int32} (hLC : lC p s m args meth c γ b L xs) {σ σ' : GS} {x4 : Int32} (h : rw_22 L xs σ x4 = some σ') {ce se : Nat} (hce : ce + 16 ≤ 601024) (hse : se + 96 ≤ 7293034)
    (kk : ∀ (H : Heap) (locs : List Loc) (ls : Array Slot) (ce2 se2 : Nat), ce2 ≤ ce + 16 → se2 ≤ se + 96 → va_P γ.1 vwCl (gw γ σ') H → va_S (gA γ s.heap.size) s.heap H locs → lv_has ls 7 [(0, .ref b), (1, .ref (ad γ 0)), (2, .ref (ad γ 23)), (3, .ref (ad γ 30)), (4, .int x4)] → W p l e room_1 s m args below meth c H locs ce2 se2 Q (F0 m 2164 ls []))
    {H : Heap} {locs : List Loc} {ls : Array Slot} (hP : va_P γ.1 vwCl (gw γ σ) H) (hS : va_S (gA γ s.heap.size) s.heap H locs) (hl : lv_has ls 7 [(0, .ref b), (1, .ref (ad γ 0)), (2, .ref (ad γ 23)), (3, .ref (ad γ 30)), (4, .int x4)]) : W p l e room_1 s m args below meth c H locs ce se Q (F0 m 1596 ls []) := by
  obtain ⟨hC, hX, hbl, hbA, hZ⟩ := hLC
  have hx := hC.x
  have hb := hC.b
  obtain ⟨T, P, X, Y, E, B, M, O⟩ := σ
  unfold rw_22 at h
  dsimp only at h
  refine lv_aload_n hx hb dL_law_1596 rfl (lv_at hl 1 rfl) ?_
  obtain ⟨v1, T2, P3, Y4, E5, hv, h⟩ := bd5_e h
  refine g_ki (g_lV (As := []) (rest := []) hC hP (c4_build l hv) (by decide) ge_0 rfl u_1_211 yv_X4_build ⟨Nat.le_of_ble_eq_true rfl, Nat.le_of_ble_eq_true rfl⟩ rfl hl.1 rfl (Nat.le_of_ble_eq_true rfl) dL_law_1597 ⟨by show _ ≤ 601024; omega, by show _ ≤ 7293034; omega⟩) hS (fun H locs hP hS => ?_)
  refine lv_aload_n hx hb dL_law_1600 rfl (lv_at hl 2 rfl) ?_
  obtain ⟨v6, M7, hv, h⟩ := bd2_e h
  refine g_ki (g_lV (As := []) (rest := [.int v1]) hC hP (c5_build l hv) (by decide) ge_23 rfl u_6_168 yv_X5_build ⟨Nat.le_of_ble_eq_true rfl, Nat.le_of_ble_eq_true rfl⟩ rfl hl.1 rfl (Nat.le_of_ble_eq_true rfl) dL_law_1601 ⟨by show _ ≤ 601024; omega, by show _ ≤ 7293034; omega⟩) hS (fun H locs hP hS => ?_)
  refine lv_icmp_eq (tgt := 2164) hx hb dL_law_1604 (by decide) (fun c8 => ?_) (fun c8 => ?_)
  · rw [if_pos c8] at h
    cases h
    exact kk _ _ _ _ _ (by omega) (by omega) hP hS (lv_sub hl [0, 1, 2, 3, 4] rfl)
  · rw [if_neg c8] at h
    refine lv_iconst (v := 0) hx hb dL_law_1607 (by decide) ?_
    cases h
def rw_23 (L : Nat) (xs : Nat → Int32) (σ : GS) (x4 : Int32) : Option GS := match σ with
  | (T, P, X, Y, E, B, M, O) =>
  (rd L xs (x4 + 1)).bind fun v1 =>
  (rd L xs (x4 + 2)).bind fun v2 =>
  bd6 (rL_exchange T P Y E O v1 v2) (fun v3 T4 P5 Y6 E7 O8 =>
  (rd L xs (x4 + 1)).bind fun v9 =>
  (rd L xs (x4 + 2)).bind fun v10 =>
  bd2 (r5_exchange M v9 v10) (fun v11 M12 =>
  bd1 (r5_thrown M12) (fun v13 =>
  (if v13 = v3 then (if v3 = 0 then (if (lg_cmp (O8 0) (v11.toInt64)) = 0 then some (T4, P5, X, Y6, E7, B, M12, O8)
  else none)
  else some (T4, P5, X, Y6, E7, B, M12, O8))
  else none))))
set_option maxHeartbeats 4000000 in
set_option maxRecDepth 100000 in
theorem lw_23 {p : Program} {l : Launch} {e : Env} {s : State} {m : MethodId} {args : Array Value} {below : List Frame} {meth : Method} {c : Code} {Q : State → Prop} (hst : l.stackTraces = false) {γ : GA} {b L : Nat} {xs : Nat → Int32} (hLC : lC p s m args meth c γ b L xs) {σ σ' : GS} {x4 : Int32} (h : rw_23 L xs σ x4 = some σ') {ce se : Nat} (hce : ce + 16 ≤ 601024) (hse : se + 96 ≤ 7293034)
    (kk : ∀ (H : Heap) (locs : List Loc) (ls : Array Slot) (ce2 se2 : Nat), ce2 ≤ ce + 16 → se2 ≤ se + 96 → va_P γ.1 vwCl (gw γ σ') H → va_S (gA γ s.heap.size) s.heap H locs → lv_has ls 7 [(0, .ref b), (1, .ref (ad γ 0)), (2, .ref (ad γ 23)), (3, .ref (ad γ 30)), (4, .int x4)] → W p l e room_1 s m args below meth c H locs ce2 se2 Q (F0 m 2164 ls []))
    {H : Heap} {locs : List Loc} {ls : Array Slot} (hP : va_P γ.1 vwCl (gw γ σ) H) (hS : va_S (gA γ s.heap.size) s.heap H locs) (hl : lv_has ls 7 [(0, .ref b), (1, .ref (ad γ 0)), (2, .ref (ad γ 23)), (3, .ref (ad γ 30)), (4, .int x4)]) : W p l e room_1 s m args below meth c H locs ce se Q (F0 m 1609 ls []) := by
  obtain ⟨hC, hX, hbl, hbA, hZ⟩ := hLC
  have hx := hC.x
  have hb := hC.b
  obtain ⟨T, P, X, Y, E, B, M, O⟩ := σ
  unfold rw_23 at h
  dsimp only at h
  refine lv_aload_n hx hb dL_law_1609 rfl (lv_at hl 1 rfl) ?_
  refine lv_aload_n hx hb dL_law_1610 rfl (lv_at hl 0 rfl) ?_
  refine lv_iload hx hb dL_law_1611 (lv_at hl 4 rfl) ?_
  refine lv_iconst (v := 1) hx hb dL_law_1613 (by decide) ?_
  refine lv_iadd hx hb dL_law_1614 ?_
  obtain ⟨v1, hv, h⟩ := ob h
  refine g_scr hC hX hbl hbA hS dL_law_1615 hv ?_
  refine lv_aload_n hx hb dL_law_1616 rfl (lv_at hl 0 rfl) ?_
  refine lv_iload hx hb dL_law_1617 (lv_at hl 4 rfl) ?_
  refine lv_iconst (v := 2) hx hb dL_law_1619 (by decide) ?_
  refine lv_iadd hx hb dL_law_1620 ?_
  obtain ⟨v2, hv, h⟩ := ob h
  refine g_scr hC hX hbl hbA hS dL_law_1621 hv ?_
  refine lv_aload_n hx hb dL_law_1622 rfl (lv_at hl 3 rfl) ?_
  obtain ⟨v3, T4, P5, Y6, E7, O8, hv, h⟩ := bd6_e h
  refine g_xki (g_lW (As := [.ref (ad γ 0), .int v1, .int v2, .ref (ad γ 30)]) (rest := []) hC hZ hP hS (tL_exchange l hst hv) u_4_228 yw_L_exchange ⟨Nat.le_of_ble_eq_true rfl, Nat.le_of_ble_eq_true rfl⟩ rfl hl.1 rfl (Nat.le_of_ble_eq_true rfl) dL_law_1623 ⟨by show _ ≤ 601024; omega, by show _ ≤ 7293034; omega⟩) hS (fun H locs hP hS => ?_)
  refine lv_istore (lv' := [(5, .int v3), (0, .ref b), (1, .ref (ad γ 0)), (2, .ref (ad γ 23)), (3, .ref (ad γ 30)), (4, .int x4)]) hx hb dL_law_1626 hl (by decide) rfl (fun ls hl => ?_)
  refine lv_aload_n hx hb dL_law_1628 rfl (lv_at hl 3 rfl) ?_
  refine lv_aload_n hx hb dL_law_1629 rfl (lv_at hl 1 rfl) ?_
  refine lv_iload hx hb dL_law_1630 (lv_at hl 5 rfl) ?_
  refine lv_iconst (v := 1) hx hb dL_law_1632 (by decide) ?_
  refine lv_iadd hx hb dL_law_1633 ?_
  obtain ⟨v9, hv, h⟩ := ob h
  refine g_scr hC hX hbl hbA hS dL_law_1634 hv ?_
  refine lv_aload_n hx hb dL_law_1635 rfl (lv_at hl 1 rfl) ?_
  refine lv_iload hx hb dL_law_1636 (lv_at hl 5 rfl) ?_
  refine lv_iconst (v := 2) hx hb dL_law_1638 (by decide) ?_
  refine lv_iadd hx hb dL_law_1639 ?_
  obtain ⟨v10, hv, h⟩ := ob h
  refine g_scr hC hX hbl hbA hS dL_law_1640 hv ?_
  obtain ⟨v11, M12, hv, h⟩ := bd2_e h
  refine g_ki (g_lV (As := [.int v9, .int v10]) (rest := []) hC hP (c5_exchange l hv) (by decide) ge_23 rfl u_6_196 yv_X5_exchange ⟨Nat.le_of_ble_eq_true rfl, Nat.le_of_ble_eq_true rfl⟩ rfl hl.1 rfl (Nat.le_of_ble_eq_true rfl) dL_law_1641 ⟨by show _ ≤ 601024; omega, by show _ ≤ 7293034; omega⟩) hS (fun H locs hP hS => ?_)
  refine lv_istore (lv' := [(6, .int v11), (5, .int v3), (0, .ref b), (1, .ref (ad γ 0)), (2, .ref (ad γ 23)), (3, .ref (ad γ 30)), (4, .int x4)]) hx hb dL_law_1644 hl (by decide) rfl (fun ls hl => ?_)
  refine lv_aload_n hx hb dL_law_1646 rfl (lv_at hl 4 rfl) ?_
  obtain ⟨v13, hv, h⟩ := bd1_e h
  refine g_ki (g_lV (As := []) (rest := []) hC hP (c5_thrown l hv) (by decide) ge_23 rfl u_5_144 yv_X5_thrown ⟨Nat.le_of_ble_eq_true rfl, Nat.le_of_ble_eq_true rfl⟩ rfl hl.1 rfl (Nat.le_of_ble_eq_true rfl) dL_law_1647 ⟨by show _ ≤ 601024; omega, by show _ ≤ 7293034; omega⟩) hS (fun H locs hP hS => ?_)
  refine lv_iload hx hb dL_law_1650 (lv_at hl 1 rfl) ?_
  refine lv_icmp_eq (tgt := 1657) hx hb dL_law_1652 (by decide) (fun c14 => ?_) (fun c14 => ?_)
  · rw [if_pos c14] at h
    refine lv_iload hx hb dL_law_1657 (lv_at hl 1 rfl) ?_
    refine lv_if_ne (tgt := 1674) hx hb dL_law_1659 (by decide) (fun c15 => ?_) (fun c15 => ?_)
    · rw [if_neg c15] at h
      refine lv_goto (tgt := 2164) hx hb dL_law_1674 (by decide) ?_
      cases h
      exact kk _ _ _ _ _ (by omega) (by omega) hP hS (lv_sub hl [2, 3, 4, 5, 6] rfl)
    · rw [if_pos c15] at h
      refine lv_aload_n hx hb dL_law_1662 rfl (lv_at hl 5 rfl) ?_
      refine lv_iconst (v := 0) hx hb dL_law_1663 (by decide) ?_
      refine g_lld hC hP dL_law_1664 ?_
      refine lv_iload hx hb dL_law_1665 (lv_at hl 0 rfl) ?_
      refine lv_i2l (v := (v11).toInt64) hx hb dL_law_1667 rfl ?_
      refine W.lcmp hx hb dL_law_1668 ?_
      refine lv_if_eq (tgt := 1674) hx hb dL_law_1669 (by decide) (fun c16 => ?_) (fun c16 => ?_)
      · rw [if_pos c16] at h
        refine lv_goto (tgt := 2164) hx hb dL_law_1674 (by decide) ?_
        cases h
        exact kk _ _ _ _ _ (by omega) (by omega) hP hS (lv_sub hl [2, 3, 4, 5, 6] rfl)
      · rw [if_neg c16] at h
        refine lv_iconst (v := 0) hx hb dL_law_1672 (by decide) ?_
        cases h
  · rw [if_neg c14] at h
    refine lv_iconst (v := 0) hx hb dL_law_1655 (by decide) ?_
    cases h
def rw_24 (L : Nat) (xs : Nat → Int32) (σ : GS) (x4 : Int32) : Option GS := match σ with
  | (T, P, X, Y, E, B, M, O) =>
  (rd L xs (x4 + 1)).bind fun v1 =>
  (rd L xs (x4 + 2)).bind fun v2 =>
  bd2 (rL_chain T O v1 v2) (fun v3 O4 =>
  (rd L xs (x4 + 1)).bind fun v5 =>
  (rd L xs (x4 + 2)).bind fun v6 =>
  bd2 (r5_chain M v5 v6) (fun v7 M8 =>
  bd1 (r5_thrown M8) (fun v9 =>
  (if v9 = v3 then (if v3 = 0 then (if (lg_cmp (O4 0) (v7.toInt64)) = 0 then some (T, P, X, Y, E, B, M8, O4)
  else none)
  else some (T, P, X, Y, E, B, M8, O4))
  else none))))
set_option maxHeartbeats 4000000 in
set_option maxRecDepth 100000 in
theorem lw_24 {p : Program} {l : Launch} {e : Env} {s : State} {m : MethodId} {args : Array Value} {below : List Frame} {meth : Method} {c : Code} {Q : State → Prop} (hst : l.stackTraces = false) {γ : GA} {b L : Nat} {xs : Nat → Int32} (hLC : lC p s m args meth c γ b L xs) {σ σ' : GS} {x4 : Int32} (h : rw_24 L xs σ x4 = some σ') {ce se : Nat} (hce : ce + 16 ≤ 601024) (hse : se + 96 ≤ 7293034)
    (kk : ∀ (H : Heap) (locs : List Loc) (ls : Array Slot) (ce2 se2 : Nat), ce2 ≤ ce + 16 → se2 ≤ se + 96 → va_P γ.1 vwCl (gw γ σ') H → va_S (gA γ s.heap.size) s.heap H locs → lv_has ls 7 [(0, .ref b), (1, .ref (ad γ 0)), (2, .ref (ad γ 23)), (3, .ref (ad γ 30)), (4, .int x4)] → W p l e room_1 s m args below meth c H locs ce2 se2 Q (F0 m 2164 ls []))
    {H : Heap} {locs : List Loc} {ls : Array Slot} (hP : va_P γ.1 vwCl (gw γ σ) H) (hS : va_S (gA γ s.heap.size) s.heap H locs) (hl : lv_has ls 7 [(0, .ref b), (1, .ref (ad γ 0)), (2, .ref (ad γ 23)), (3, .ref (ad γ 30)), (4, .int x4)]) : W p l e room_1 s m args below meth c H locs ce se Q (F0 m 1677 ls []) := by
  obtain ⟨hC, hX, hbl, hbA, hZ⟩ := hLC
  have hx := hC.x
  have hb := hC.b
  obtain ⟨T, P, X, Y, E, B, M, O⟩ := σ
  unfold rw_24 at h
  dsimp only at h
  refine lv_aload_n hx hb dL_law_1677 rfl (lv_at hl 1 rfl) ?_
  refine lv_aload_n hx hb dL_law_1678 rfl (lv_at hl 0 rfl) ?_
  refine lv_iload hx hb dL_law_1679 (lv_at hl 4 rfl) ?_
  refine lv_iconst (v := 1) hx hb dL_law_1681 (by decide) ?_
  refine lv_iadd hx hb dL_law_1682 ?_
  obtain ⟨v1, hv, h⟩ := ob h
  refine g_scr hC hX hbl hbA hS dL_law_1683 hv ?_
  refine lv_aload_n hx hb dL_law_1684 rfl (lv_at hl 0 rfl) ?_
  refine lv_iload hx hb dL_law_1685 (lv_at hl 4 rfl) ?_
  refine lv_iconst (v := 2) hx hb dL_law_1687 (by decide) ?_
  refine lv_iadd hx hb dL_law_1688 ?_
  obtain ⟨v2, hv, h⟩ := ob h
  refine g_scr hC hX hbl hbA hS dL_law_1689 hv ?_
  refine lv_aload_n hx hb dL_law_1690 rfl (lv_at hl 3 rfl) ?_
  obtain ⟨v3, O4, hv, h⟩ := bd2_e h
  refine g_xki (g_lW (As := [.ref (ad γ 0), .int v1, .int v2, .ref (ad γ 30)]) (rest := []) hC hZ hP hS (tL_chain l hst hv) u_5_41 yw_L_chain ⟨Nat.le_of_ble_eq_true rfl, Nat.le_of_ble_eq_true rfl⟩ rfl hl.1 rfl (Nat.le_of_ble_eq_true rfl) dL_law_1691 ⟨by show _ ≤ 601024; omega, by show _ ≤ 7293034; omega⟩) hS (fun H locs hP hS => ?_)
  refine lv_istore (lv' := [(5, .int v3), (0, .ref b), (1, .ref (ad γ 0)), (2, .ref (ad γ 23)), (3, .ref (ad γ 30)), (4, .int x4)]) hx hb dL_law_1694 hl (by decide) rfl (fun ls hl => ?_)
  refine lv_aload_n hx hb dL_law_1696 rfl (lv_at hl 3 rfl) ?_
  refine lv_aload_n hx hb dL_law_1697 rfl (lv_at hl 1 rfl) ?_
  refine lv_iload hx hb dL_law_1698 (lv_at hl 5 rfl) ?_
  refine lv_iconst (v := 1) hx hb dL_law_1700 (by decide) ?_
  refine lv_iadd hx hb dL_law_1701 ?_
  obtain ⟨v5, hv, h⟩ := ob h
  refine g_scr hC hX hbl hbA hS dL_law_1702 hv ?_
  refine lv_aload_n hx hb dL_law_1703 rfl (lv_at hl 1 rfl) ?_
  refine lv_iload hx hb dL_law_1704 (lv_at hl 5 rfl) ?_
  refine lv_iconst (v := 2) hx hb dL_law_1706 (by decide) ?_
  refine lv_iadd hx hb dL_law_1707 ?_
  obtain ⟨v6, hv, h⟩ := ob h
  refine g_scr hC hX hbl hbA hS dL_law_1708 hv ?_
  obtain ⟨v7, M8, hv, h⟩ := bd2_e h
  refine g_ki (g_lV (As := [.int v5, .int v6]) (rest := []) hC hP (c5_chain l hv) (by decide) ge_23 rfl u_6_180 yv_X5_chain ⟨Nat.le_of_ble_eq_true rfl, Nat.le_of_ble_eq_true rfl⟩ rfl hl.1 rfl (Nat.le_of_ble_eq_true rfl) dL_law_1709 ⟨by show _ ≤ 601024; omega, by show _ ≤ 7293034; omega⟩) hS (fun H locs hP hS => ?_)
  refine lv_istore (lv' := [(6, .int v7), (5, .int v3), (0, .ref b), (1, .ref (ad γ 0)), (2, .ref (ad γ 23)), (3, .ref (ad γ 30)), (4, .int x4)]) hx hb dL_law_1712 hl (by decide) rfl (fun ls hl => ?_)
  refine lv_aload_n hx hb dL_law_1714 rfl (lv_at hl 4 rfl) ?_
  obtain ⟨v9, hv, h⟩ := bd1_e h
  refine g_ki (g_lV (As := []) (rest := []) hC hP (c5_thrown l hv) (by decide) ge_23 rfl u_5_144 yv_X5_thrown ⟨Nat.le_of_ble_eq_true rfl, Nat.le_of_ble_eq_true rfl⟩ rfl hl.1 rfl (Nat.le_of_ble_eq_true rfl) dL_law_1715 ⟨by show _ ≤ 601024; omega, by show _ ≤ 7293034; omega⟩) hS (fun H locs hP hS => ?_)
  refine lv_iload hx hb dL_law_1718 (lv_at hl 1 rfl) ?_
  refine lv_icmp_eq (tgt := 1725) hx hb dL_law_1720 (by decide) (fun c10 => ?_) (fun c10 => ?_)
  · rw [if_pos c10] at h
    refine lv_iload hx hb dL_law_1725 (lv_at hl 1 rfl) ?_
    refine lv_if_ne (tgt := 1742) hx hb dL_law_1727 (by decide) (fun c11 => ?_) (fun c11 => ?_)
    · rw [if_neg c11] at h
      refine lv_goto (tgt := 2164) hx hb dL_law_1742 (by decide) ?_
      cases h
      exact kk _ _ _ _ _ (by omega) (by omega) hP hS (lv_sub hl [2, 3, 4, 5, 6] rfl)
    · rw [if_pos c11] at h
      refine lv_aload_n hx hb dL_law_1730 rfl (lv_at hl 5 rfl) ?_
      refine lv_iconst (v := 0) hx hb dL_law_1731 (by decide) ?_
      refine g_lld hC hP dL_law_1732 ?_
      refine lv_iload hx hb dL_law_1733 (lv_at hl 0 rfl) ?_
      refine lv_i2l (v := (v7).toInt64) hx hb dL_law_1735 rfl ?_
      refine W.lcmp hx hb dL_law_1736 ?_
      refine lv_if_eq (tgt := 1742) hx hb dL_law_1737 (by decide) (fun c12 => ?_) (fun c12 => ?_)
      · rw [if_pos c12] at h
        refine lv_goto (tgt := 2164) hx hb dL_law_1742 (by decide) ?_
        cases h
        exact kk _ _ _ _ _ (by omega) (by omega) hP hS (lv_sub hl [2, 3, 4, 5, 6] rfl)
      · rw [if_neg c12] at h
        refine lv_iconst (v := 0) hx hb dL_law_1740 (by decide) ?_
        cases h
  · rw [if_neg c10] at h
    refine lv_iconst (v := 0) hx hb dL_law_1723 (by decide) ?_
    cases h
def rw_25 (L : Nat) (xs : Nat → Int32) (σ : GS) (x4 : Int32) : Option GS := match σ with
  | (T, P, X, Y, E, B, M, O) =>
  (rd L xs (x4 + 1)).bind fun v1 =>
  bd5 (rL_improve T Y E O v1) (fun v2 T3 Y4 E5 O6 =>
  (rd L xs (x4 + 1)).bind fun v7 =>
  bd2 (r5_improve M v7) (fun v8 M9 =>
  bd1 (r5_thrown M9) (fun v10 =>
  (if v10 = v2 then (if v2 = 0 then (if (lg_cmp (O6 0) (v8.toInt64)) = 0 then some (T3, P, X, Y4, E5, B, M9, O6)
  else none)
  else some (T3, P, X, Y4, E5, B, M9, O6))
  else none))))
set_option maxHeartbeats 4000000 in
set_option maxRecDepth 100000 in
theorem lw_25 {p : Program} {l : Launch} {e : Env} {s : State} {m : MethodId} {args : Array Value} {below : List Frame} {meth : Method} {c : Code} {Q : State → Prop} (hst : l.stackTraces = false) {γ : GA} {b L : Nat} {xs : Nat → Int32} (hLC : lC p s m args meth c γ b L xs) {σ σ' : GS} {x4 : Int32} (h : rw_25 L xs σ x4 = some σ') {ce se : Nat} (hce : ce + 16 ≤ 601024) (hse : se + 96 ≤ 7293034)
    (kk : ∀ (H : Heap) (locs : List Loc) (ls : Array Slot) (ce2 se2 : Nat), ce2 ≤ ce + 16 → se2 ≤ se + 96 → va_P γ.1 vwCl (gw γ σ') H → va_S (gA γ s.heap.size) s.heap H locs → lv_has ls 7 [(0, .ref b), (1, .ref (ad γ 0)), (2, .ref (ad γ 23)), (3, .ref (ad γ 30)), (4, .int x4)] → W p l e room_1 s m args below meth c H locs ce2 se2 Q (F0 m 2164 ls []))
    {H : Heap} {locs : List Loc} {ls : Array Slot} (hP : va_P γ.1 vwCl (gw γ σ) H) (hS : va_S (gA γ s.heap.size) s.heap H locs) (hl : lv_has ls 7 [(0, .ref b), (1, .ref (ad γ 0)), (2, .ref (ad γ 23)), (3, .ref (ad γ 30)), (4, .int x4)]) : W p l e room_1 s m args below meth c H locs ce se Q (F0 m 1745 ls []) := by
  obtain ⟨hC, hX, hbl, hbA, hZ⟩ := hLC
  have hx := hC.x
  have hb := hC.b
  obtain ⟨T, P, X, Y, E, B, M, O⟩ := σ
  unfold rw_25 at h
  dsimp only at h
  refine lv_aload_n hx hb dL_law_1745 rfl (lv_at hl 1 rfl) ?_
  refine lv_aload_n hx hb dL_law_1746 rfl (lv_at hl 0 rfl) ?_
  refine lv_iload hx hb dL_law_1747 (lv_at hl 4 rfl) ?_
  refine lv_iconst (v := 1) hx hb dL_law_1749 (by decide) ?_
  refine lv_iadd hx hb dL_law_1750 ?_
  obtain ⟨v1, hv, h⟩ := ob h
  refine g_scr hC hX hbl hbA hS dL_law_1751 hv ?_
  refine lv_aload_n hx hb dL_law_1752 rfl (lv_at hl 3 rfl) ?_
  obtain ⟨v2, T3, Y4, E5, O6, hv, h⟩ := bd5_e h
  refine g_xki (g_lW (As := [.ref (ad γ 0), .int v1, .ref (ad γ 30)]) (rest := []) hC hZ hP hS (tL_improve l hst hv) u_5_45 yw_L_improve ⟨Nat.le_of_ble_eq_true rfl, Nat.le_of_ble_eq_true rfl⟩ rfl hl.1 rfl (Nat.le_of_ble_eq_true rfl) dL_law_1753 ⟨by show _ ≤ 601024; omega, by show _ ≤ 7293034; omega⟩) hS (fun H locs hP hS => ?_)
  refine lv_istore (lv' := [(5, .int v2), (0, .ref b), (1, .ref (ad γ 0)), (2, .ref (ad γ 23)), (3, .ref (ad γ 30)), (4, .int x4)]) hx hb dL_law_1756 hl (by decide) rfl (fun ls hl => ?_)
  refine lv_aload_n hx hb dL_law_1758 rfl (lv_at hl 3 rfl) ?_
  refine lv_aload_n hx hb dL_law_1759 rfl (lv_at hl 1 rfl) ?_
  refine lv_iload hx hb dL_law_1760 (lv_at hl 5 rfl) ?_
  refine lv_iconst (v := 1) hx hb dL_law_1762 (by decide) ?_
  refine lv_iadd hx hb dL_law_1763 ?_
  obtain ⟨v7, hv, h⟩ := ob h
  refine g_scr hC hX hbl hbA hS dL_law_1764 hv ?_
  obtain ⟨v8, M9, hv, h⟩ := bd2_e h
  refine g_ki (g_lV (As := [.int v7]) (rest := []) hC hP (c5_improve l hv) (by decide) ge_23 rfl u_7_8 yv_X5_improve ⟨Nat.le_of_ble_eq_true rfl, Nat.le_of_ble_eq_true rfl⟩ rfl hl.1 rfl (Nat.le_of_ble_eq_true rfl) dL_law_1765 ⟨by show _ ≤ 601024; omega, by show _ ≤ 7293034; omega⟩) hS (fun H locs hP hS => ?_)
  refine lv_istore (lv' := [(6, .int v8), (5, .int v2), (0, .ref b), (1, .ref (ad γ 0)), (2, .ref (ad γ 23)), (3, .ref (ad γ 30)), (4, .int x4)]) hx hb dL_law_1768 hl (by decide) rfl (fun ls hl => ?_)
  refine lv_aload_n hx hb dL_law_1770 rfl (lv_at hl 4 rfl) ?_
  obtain ⟨v10, hv, h⟩ := bd1_e h
  refine g_ki (g_lV (As := []) (rest := []) hC hP (c5_thrown l hv) (by decide) ge_23 rfl u_5_144 yv_X5_thrown ⟨Nat.le_of_ble_eq_true rfl, Nat.le_of_ble_eq_true rfl⟩ rfl hl.1 rfl (Nat.le_of_ble_eq_true rfl) dL_law_1771 ⟨by show _ ≤ 601024; omega, by show _ ≤ 7293034; omega⟩) hS (fun H locs hP hS => ?_)
  refine lv_iload hx hb dL_law_1774 (lv_at hl 1 rfl) ?_
  refine lv_icmp_eq (tgt := 1781) hx hb dL_law_1776 (by decide) (fun c11 => ?_) (fun c11 => ?_)
  · rw [if_pos c11] at h
    refine lv_iload hx hb dL_law_1781 (lv_at hl 1 rfl) ?_
    refine lv_if_ne (tgt := 1798) hx hb dL_law_1783 (by decide) (fun c12 => ?_) (fun c12 => ?_)
    · rw [if_neg c12] at h
      refine lv_goto (tgt := 2164) hx hb dL_law_1798 (by decide) ?_
      cases h
      exact kk _ _ _ _ _ (by omega) (by omega) hP hS (lv_sub hl [2, 3, 4, 5, 6] rfl)
    · rw [if_pos c12] at h
      refine lv_aload_n hx hb dL_law_1786 rfl (lv_at hl 5 rfl) ?_
      refine lv_iconst (v := 0) hx hb dL_law_1787 (by decide) ?_
      refine g_lld hC hP dL_law_1788 ?_
      refine lv_iload hx hb dL_law_1789 (lv_at hl 0 rfl) ?_
      refine lv_i2l (v := (v8).toInt64) hx hb dL_law_1791 rfl ?_
      refine W.lcmp hx hb dL_law_1792 ?_
      refine lv_if_eq (tgt := 1798) hx hb dL_law_1793 (by decide) (fun c13 => ?_) (fun c13 => ?_)
      · rw [if_pos c13] at h
        refine lv_goto (tgt := 2164) hx hb dL_law_1798 (by decide) ?_
        cases h
        exact kk _ _ _ _ _ (by omega) (by omega) hP hS (lv_sub hl [2, 3, 4, 5, 6] rfl)
      · rw [if_neg c13] at h
        refine lv_iconst (v := 0) hx hb dL_law_1796 (by decide) ?_
        cases h
  · rw [if_neg c11] at h
    refine lv_iconst (v := 0) hx hb dL_law_1779 (by decide) ?_
    cases h
def rw_26 (L : Nat) (xs : Nat → Int32) (σ : GS) (x4 : Int32) : Option GS := match σ with
  | (T, P, X, Y, E, B, M, O) =>
  (rd L xs (x4 + 1)).bind fun v1 =>
  bd2 (rL_cost T O v1) (fun v2 O3 =>
  (rd L xs (x4 + 1)).bind fun v4 =>
  bd2 (r5_cost M v4) (fun v5 M6 =>
  bd1 (r5_thrown M6) (fun v7 =>
  (if v7 = v2 then (if v2 = 0 then (if (lg_cmp (O3 0) (v5.toInt64)) = 0 then some (T, P, X, Y, E, B, M6, O3)
  else none)
  else some (T, P, X, Y, E, B, M6, O3))
  else none))))
set_option maxHeartbeats 4000000 in
set_option maxRecDepth 100000 in
theorem lw_26 {p : Program} {l : Launch} {e : Env} {s : State} {m : MethodId} {args : Array Value} {below : List Frame} {meth : Method} {c : Code} {Q : State → Prop} (hst : l.stackTraces = false) {γ : GA} {b L : Nat} {xs : Nat → Int32} (hLC : lC p s m args meth c γ b L xs) {σ σ' : GS} {x4 : Int32} (h : rw_26 L xs σ x4 = some σ') {ce se : Nat} (hce : ce + 16 ≤ 601024) (hse : se + 96 ≤ 7293034)
    (kk : ∀ (H : Heap) (locs : List Loc) (ls : Array Slot) (ce2 se2 : Nat), ce2 ≤ ce + 16 → se2 ≤ se + 96 → va_P γ.1 vwCl (gw γ σ') H → va_S (gA γ s.heap.size) s.heap H locs → lv_has ls 7 [(0, .ref b), (1, .ref (ad γ 0)), (2, .ref (ad γ 23)), (3, .ref (ad γ 30)), (4, .int x4)] → W p l e room_1 s m args below meth c H locs ce2 se2 Q (F0 m 2164 ls []))
    {H : Heap} {locs : List Loc} {ls : Array Slot} (hP : va_P γ.1 vwCl (gw γ σ) H) (hS : va_S (gA γ s.heap.size) s.heap H locs) (hl : lv_has ls 7 [(0, .ref b), (1, .ref (ad γ 0)), (2, .ref (ad γ 23)), (3, .ref (ad γ 30)), (4, .int x4)]) : W p l e room_1 s m args below meth c H locs ce se Q (F0 m 1801 ls []) := by
  obtain ⟨hC, hX, hbl, hbA, hZ⟩ := hLC
  have hx := hC.x
  have hb := hC.b
  obtain ⟨T, P, X, Y, E, B, M, O⟩ := σ
  unfold rw_26 at h
  dsimp only at h
  refine lv_aload_n hx hb dL_law_1801 rfl (lv_at hl 1 rfl) ?_
  refine lv_aload_n hx hb dL_law_1802 rfl (lv_at hl 0 rfl) ?_
  refine lv_iload hx hb dL_law_1803 (lv_at hl 4 rfl) ?_
  refine lv_iconst (v := 1) hx hb dL_law_1805 (by decide) ?_
  refine lv_iadd hx hb dL_law_1806 ?_
  obtain ⟨v1, hv, h⟩ := ob h
  refine g_scr hC hX hbl hbA hS dL_law_1807 hv ?_
  refine lv_aload_n hx hb dL_law_1808 rfl (lv_at hl 3 rfl) ?_
  obtain ⟨v2, O3, hv, h⟩ := bd2_e h
  refine g_xki (g_lW (As := [.ref (ad γ 0), .int v1, .ref (ad γ 30)]) (rest := []) hC hZ hP hS (tL_cost l hst hv) u_5_86 yw_L_cost ⟨Nat.le_of_ble_eq_true rfl, Nat.le_of_ble_eq_true rfl⟩ rfl hl.1 rfl (Nat.le_of_ble_eq_true rfl) dL_law_1809 ⟨by show _ ≤ 601024; omega, by show _ ≤ 7293034; omega⟩) hS (fun H locs hP hS => ?_)
  refine lv_istore (lv' := [(5, .int v2), (0, .ref b), (1, .ref (ad γ 0)), (2, .ref (ad γ 23)), (3, .ref (ad γ 30)), (4, .int x4)]) hx hb dL_law_1812 hl (by decide) rfl (fun ls hl => ?_)
  refine lv_aload_n hx hb dL_law_1814 rfl (lv_at hl 3 rfl) ?_
  refine lv_aload_n hx hb dL_law_1815 rfl (lv_at hl 1 rfl) ?_
  refine lv_iload hx hb dL_law_1816 (lv_at hl 5 rfl) ?_
  refine lv_iconst (v := 1) hx hb dL_law_1818 (by decide) ?_
  refine lv_iadd hx hb dL_law_1819 ?_
  obtain ⟨v4, hv, h⟩ := ob h
  refine g_scr hC hX hbl hbA hS dL_law_1820 hv ?_
  obtain ⟨v5, M6, hv, h⟩ := bd2_e h
  refine g_ki (g_lV (As := [.int v4]) (rest := []) hC hP (c5_cost l hv) (by decide) ge_23 rfl u_6_216 yv_X5_cost ⟨Nat.le_of_ble_eq_true rfl, Nat.le_of_ble_eq_true rfl⟩ rfl hl.1 rfl (Nat.le_of_ble_eq_true rfl) dL_law_1821 ⟨by show _ ≤ 601024; omega, by show _ ≤ 7293034; omega⟩) hS (fun H locs hP hS => ?_)
  refine lv_istore (lv' := [(6, .int v5), (5, .int v2), (0, .ref b), (1, .ref (ad γ 0)), (2, .ref (ad γ 23)), (3, .ref (ad γ 30)), (4, .int x4)]) hx hb dL_law_1824 hl (by decide) rfl (fun ls hl => ?_)
  refine lv_aload_n hx hb dL_law_1826 rfl (lv_at hl 4 rfl) ?_
  obtain ⟨v7, hv, h⟩ := bd1_e h
  refine g_ki (g_lV (As := []) (rest := []) hC hP (c5_thrown l hv) (by decide) ge_23 rfl u_5_144 yv_X5_thrown ⟨Nat.le_of_ble_eq_true rfl, Nat.le_of_ble_eq_true rfl⟩ rfl hl.1 rfl (Nat.le_of_ble_eq_true rfl) dL_law_1827 ⟨by show _ ≤ 601024; omega, by show _ ≤ 7293034; omega⟩) hS (fun H locs hP hS => ?_)
  refine lv_iload hx hb dL_law_1830 (lv_at hl 1 rfl) ?_
  refine lv_icmp_eq (tgt := 1837) hx hb dL_law_1832 (by decide) (fun c8 => ?_) (fun c8 => ?_)
  · rw [if_pos c8] at h
    refine lv_iload hx hb dL_law_1837 (lv_at hl 1 rfl) ?_
    refine lv_if_ne (tgt := 1854) hx hb dL_law_1839 (by decide) (fun c9 => ?_) (fun c9 => ?_)
    · rw [if_neg c9] at h
      refine lv_goto (tgt := 2164) hx hb dL_law_1854 (by decide) ?_
      cases h
      exact kk _ _ _ _ _ (by omega) (by omega) hP hS (lv_sub hl [2, 3, 4, 5, 6] rfl)
    · rw [if_pos c9] at h
      refine lv_aload_n hx hb dL_law_1842 rfl (lv_at hl 5 rfl) ?_
      refine lv_iconst (v := 0) hx hb dL_law_1843 (by decide) ?_
      refine g_lld hC hP dL_law_1844 ?_
      refine lv_iload hx hb dL_law_1845 (lv_at hl 0 rfl) ?_
      refine lv_i2l (v := (v5).toInt64) hx hb dL_law_1847 rfl ?_
      refine W.lcmp hx hb dL_law_1848 ?_
      refine lv_if_eq (tgt := 1854) hx hb dL_law_1849 (by decide) (fun c10 => ?_) (fun c10 => ?_)
      · rw [if_pos c10] at h
        refine lv_goto (tgt := 2164) hx hb dL_law_1854 (by decide) ?_
        cases h
        exact kk _ _ _ _ _ (by omega) (by omega) hP hS (lv_sub hl [2, 3, 4, 5, 6] rfl)
      · rw [if_neg c10] at h
        refine lv_iconst (v := 0) hx hb dL_law_1852 (by decide) ?_
        cases h
  · rw [if_neg c8] at h
    refine lv_iconst (v := 0) hx hb dL_law_1835 (by decide) ?_
    cases h
def rw_27 (L : Nat) (xs : Nat → Int32) (σ : GS) (x4 : Int32) : Option GS := match σ with
  | (T, P, X, Y, E, B, M, O) =>
  (rd L xs (x4 + 1)).bind fun v1 =>
  (rd L xs (x4 + 2)).bind fun v2 =>
  bd3 (rL_costAt T O v1 v2) (fun v3 T4 O5 =>
  (rd L xs (x4 + 1)).bind fun v6 =>
  (rd L xs (x4 + 2)).bind fun v7 =>
  bd2 (r5_costAt M v6 v7) (fun v8 M9 =>
  bd1 (r5_thrown M9) (fun v10 =>
  (if v10 = v3 then (if v3 = 0 then (if (lg_cmp (O5 0) (v8.toInt64)) = 0 then some (T4, P, X, Y, E, B, M9, O5)
  else none)
  else some (T4, P, X, Y, E, B, M9, O5))
  else none))))
set_option maxHeartbeats 4000000 in
set_option maxRecDepth 100000 in
theorem lw_27 {p : Program} {l : Launch} {e : Env} {s : State} {m : MethodId} {args : Array Value} {below : List Frame} {meth : Method} {c : Code} {Q : State → Prop} (hst : l.stackTraces = false) {γ : GA} {b L : Nat} {xs : Nat → Int32} (hLC : lC p s m args meth c γ b L xs) {σ σ' : GS} {x4 : Int32} (h : rw_27 L xs σ x4 = some σ') {ce se : Nat} (hce : ce + 16 ≤ 601024) (hse : se + 96 ≤ 7293034)
    (kk : ∀ (H : Heap) (locs : List Loc) (ls : Array Slot) (ce2 se2 : Nat), ce2 ≤ ce + 16 → se2 ≤ se + 96 → va_P γ.1 vwCl (gw γ σ') H → va_S (gA γ s.heap.size) s.heap H locs → lv_has ls 7 [(0, .ref b), (1, .ref (ad γ 0)), (2, .ref (ad γ 23)), (3, .ref (ad γ 30)), (4, .int x4)] → W p l e room_1 s m args below meth c H locs ce2 se2 Q (F0 m 2164 ls []))
    {H : Heap} {locs : List Loc} {ls : Array Slot} (hP : va_P γ.1 vwCl (gw γ σ) H) (hS : va_S (gA γ s.heap.size) s.heap H locs) (hl : lv_has ls 7 [(0, .ref b), (1, .ref (ad γ 0)), (2, .ref (ad γ 23)), (3, .ref (ad γ 30)), (4, .int x4)]) : W p l e room_1 s m args below meth c H locs ce se Q (F0 m 1857 ls []) := by
  obtain ⟨hC, hX, hbl, hbA, hZ⟩ := hLC
  have hx := hC.x
  have hb := hC.b
  obtain ⟨T, P, X, Y, E, B, M, O⟩ := σ
  unfold rw_27 at h
  dsimp only at h
  refine lv_aload_n hx hb dL_law_1857 rfl (lv_at hl 1 rfl) ?_
  refine lv_aload_n hx hb dL_law_1858 rfl (lv_at hl 0 rfl) ?_
  refine lv_iload hx hb dL_law_1859 (lv_at hl 4 rfl) ?_
  refine lv_iconst (v := 1) hx hb dL_law_1861 (by decide) ?_
  refine lv_iadd hx hb dL_law_1862 ?_
  obtain ⟨v1, hv, h⟩ := ob h
  refine g_scr hC hX hbl hbA hS dL_law_1863 hv ?_
  refine lv_aload_n hx hb dL_law_1864 rfl (lv_at hl 0 rfl) ?_
  refine lv_iload hx hb dL_law_1865 (lv_at hl 4 rfl) ?_
  refine lv_iconst (v := 2) hx hb dL_law_1867 (by decide) ?_
  refine lv_iadd hx hb dL_law_1868 ?_
  obtain ⟨v2, hv, h⟩ := ob h
  refine g_scr hC hX hbl hbA hS dL_law_1869 hv ?_
  refine lv_aload_n hx hb dL_law_1870 rfl (lv_at hl 3 rfl) ?_
  obtain ⟨v3, T4, O5, hv, h⟩ := bd3_e h
  refine g_xki (g_lW (As := [.ref (ad γ 0), .int v1, .int v2, .ref (ad γ 30)]) (rest := []) hC hZ hP hS (tL_costAt l hst hv) u_5_97 yw_L_costAt ⟨Nat.le_of_ble_eq_true rfl, Nat.le_of_ble_eq_true rfl⟩ rfl hl.1 rfl (Nat.le_of_ble_eq_true rfl) dL_law_1871 ⟨by show _ ≤ 601024; omega, by show _ ≤ 7293034; omega⟩) hS (fun H locs hP hS => ?_)
  refine lv_istore (lv' := [(5, .int v3), (0, .ref b), (1, .ref (ad γ 0)), (2, .ref (ad γ 23)), (3, .ref (ad γ 30)), (4, .int x4)]) hx hb dL_law_1874 hl (by decide) rfl (fun ls hl => ?_)
  refine lv_aload_n hx hb dL_law_1876 rfl (lv_at hl 3 rfl) ?_
  refine lv_aload_n hx hb dL_law_1877 rfl (lv_at hl 1 rfl) ?_
  refine lv_iload hx hb dL_law_1878 (lv_at hl 5 rfl) ?_
  refine lv_iconst (v := 1) hx hb dL_law_1880 (by decide) ?_
  refine lv_iadd hx hb dL_law_1881 ?_
  obtain ⟨v6, hv, h⟩ := ob h
  refine g_scr hC hX hbl hbA hS dL_law_1882 hv ?_
  refine lv_aload_n hx hb dL_law_1883 rfl (lv_at hl 1 rfl) ?_
  refine lv_iload hx hb dL_law_1884 (lv_at hl 5 rfl) ?_
  refine lv_iconst (v := 2) hx hb dL_law_1886 (by decide) ?_
  refine lv_iadd hx hb dL_law_1887 ?_
  obtain ⟨v7, hv, h⟩ := ob h
  refine g_scr hC hX hbl hbA hS dL_law_1888 hv ?_
  obtain ⟨v8, M9, hv, h⟩ := bd2_e h
  refine g_ki (g_lV (As := [.int v6, .int v7]) (rest := []) hC hP (c5_costAt l hv) (by decide) ge_23 rfl u_7_0 yv_X5_costAt ⟨Nat.le_of_ble_eq_true rfl, Nat.le_of_ble_eq_true rfl⟩ rfl hl.1 rfl (Nat.le_of_ble_eq_true rfl) dL_law_1889 ⟨by show _ ≤ 601024; omega, by show _ ≤ 7293034; omega⟩) hS (fun H locs hP hS => ?_)
  refine lv_istore (lv' := [(6, .int v8), (5, .int v3), (0, .ref b), (1, .ref (ad γ 0)), (2, .ref (ad γ 23)), (3, .ref (ad γ 30)), (4, .int x4)]) hx hb dL_law_1892 hl (by decide) rfl (fun ls hl => ?_)
  refine lv_aload_n hx hb dL_law_1894 rfl (lv_at hl 4 rfl) ?_
  obtain ⟨v10, hv, h⟩ := bd1_e h
  refine g_ki (g_lV (As := []) (rest := []) hC hP (c5_thrown l hv) (by decide) ge_23 rfl u_5_144 yv_X5_thrown ⟨Nat.le_of_ble_eq_true rfl, Nat.le_of_ble_eq_true rfl⟩ rfl hl.1 rfl (Nat.le_of_ble_eq_true rfl) dL_law_1895 ⟨by show _ ≤ 601024; omega, by show _ ≤ 7293034; omega⟩) hS (fun H locs hP hS => ?_)
  refine lv_iload hx hb dL_law_1898 (lv_at hl 1 rfl) ?_
  refine lv_icmp_eq (tgt := 1905) hx hb dL_law_1900 (by decide) (fun c11 => ?_) (fun c11 => ?_)
  · rw [if_pos c11] at h
    refine lv_iload hx hb dL_law_1905 (lv_at hl 1 rfl) ?_
    refine lv_if_ne (tgt := 1922) hx hb dL_law_1907 (by decide) (fun c12 => ?_) (fun c12 => ?_)
    · rw [if_neg c12] at h
      refine lv_goto (tgt := 2164) hx hb dL_law_1922 (by decide) ?_
      cases h
      exact kk _ _ _ _ _ (by omega) (by omega) hP hS (lv_sub hl [2, 3, 4, 5, 6] rfl)
    · rw [if_pos c12] at h
      refine lv_aload_n hx hb dL_law_1910 rfl (lv_at hl 5 rfl) ?_
      refine lv_iconst (v := 0) hx hb dL_law_1911 (by decide) ?_
      refine g_lld hC hP dL_law_1912 ?_
      refine lv_iload hx hb dL_law_1913 (lv_at hl 0 rfl) ?_
      refine lv_i2l (v := (v8).toInt64) hx hb dL_law_1915 rfl ?_
      refine W.lcmp hx hb dL_law_1916 ?_
      refine lv_if_eq (tgt := 1922) hx hb dL_law_1917 (by decide) (fun c13 => ?_) (fun c13 => ?_)
      · rw [if_pos c13] at h
        refine lv_goto (tgt := 2164) hx hb dL_law_1922 (by decide) ?_
        cases h
        exact kk _ _ _ _ _ (by omega) (by omega) hP hS (lv_sub hl [2, 3, 4, 5, 6] rfl)
      · rw [if_neg c13] at h
        refine lv_iconst (v := 0) hx hb dL_law_1920 (by decide) ?_
        cases h
  · rw [if_neg c11] at h
    refine lv_iconst (v := 0) hx hb dL_law_1903 (by decide) ?_
    cases h
def rw_28 (L : Nat) (xs : Nat → Int32) (σ : GS) (x4 : Int32) : Option GS := match σ with
  | (T, P, X, Y, E, B, M, O) =>
  bd4 (r4_mark T Y E) (fun v1 T2 Y3 E4 =>
  bd2 (r5_mark M) (fun v5 M6 =>
  (if v1 = v5 then some (T2, P, X, Y3, E4, B, M6, O)
  else none)))
set_option maxHeartbeats 4000000 in
set_option maxRecDepth 100000 in
theorem lw_28 {p : Program} {l : Launch} {e : Env} {s : State} {m : MethodId} {args : Array Value} {below : List Frame} {meth : Method} {c : Code} {Q : State → Prop} (hst : l.stackTraces = false) {γ : GA} {b L : Nat} {xs : Nat → Int32} (hLC : lC p s m args meth c γ b L xs) {σ σ' : GS} {x4 : Int32} (h : rw_28 L xs σ x4 = some σ') {ce se : Nat} (hce : ce + 16 ≤ 601024) (hse : se + 96 ≤ 7293034)
    (kk : ∀ (H : Heap) (locs : List Loc) (ls : Array Slot) (ce2 se2 : Nat), ce2 ≤ ce + 16 → se2 ≤ se + 96 → va_P γ.1 vwCl (gw γ σ') H → va_S (gA γ s.heap.size) s.heap H locs → lv_has ls 7 [(0, .ref b), (1, .ref (ad γ 0)), (2, .ref (ad γ 23)), (3, .ref (ad γ 30)), (4, .int x4)] → W p l e room_1 s m args below meth c H locs ce2 se2 Q (F0 m 2164 ls []))
    {H : Heap} {locs : List Loc} {ls : Array Slot} (hP : va_P γ.1 vwCl (gw γ σ) H) (hS : va_S (gA γ s.heap.size) s.heap H locs) (hl : lv_has ls 7 [(0, .ref b), (1, .ref (ad γ 0)), (2, .ref (ad γ 23)), (3, .ref (ad γ 30)), (4, .int x4)]) : W p l e room_1 s m args below meth c H locs ce se Q (F0 m 1925 ls []) := by
  obtain ⟨hC, hX, hbl, hbA, hZ⟩ := hLC
  have hx := hC.x
  have hb := hC.b
  obtain ⟨T, P, X, Y, E, B, M, O⟩ := σ
  unfold rw_28 at h
  dsimp only at h
  refine lv_aload_n hx hb dL_law_1925 rfl (lv_at hl 1 rfl) ?_
  obtain ⟨v1, T2, Y3, E4, hv, h⟩ := bd4_e h
  refine g_ki (g_lV (As := []) (rest := []) hC hP (c4_mark l hv) (by decide) ge_0 rfl u_2_109 yv_X4_mark ⟨Nat.le_of_ble_eq_true rfl, Nat.le_of_ble_eq_true rfl⟩ rfl hl.1 rfl (Nat.le_of_ble_eq_true rfl) dL_law_1926 ⟨by show _ ≤ 601024; omega, by show _ ≤ 7293034; omega⟩) hS (fun H locs hP hS => ?_)
  refine lv_aload_n hx hb dL_law_1929 rfl (lv_at hl 2 rfl) ?_
  obtain ⟨v5, M6, hv, h⟩ := bd2_e h
  refine g_ki (g_lV (As := []) (rest := [.int v1]) hC hP (c5_mark l hv) (by decide) ge_23 rfl u_7_16 yv_X5_mark ⟨Nat.le_of_ble_eq_true rfl, Nat.le_of_ble_eq_true rfl⟩ rfl hl.1 rfl (Nat.le_of_ble_eq_true rfl) dL_law_1930 ⟨by show _ ≤ 601024; omega, by show _ ≤ 7293034; omega⟩) hS (fun H locs hP hS => ?_)
  refine lv_icmp_eq (tgt := 2164) hx hb dL_law_1933 (by decide) (fun c7 => ?_) (fun c7 => ?_)
  · rw [if_pos c7] at h
    cases h
    exact kk _ _ _ _ _ (by omega) (by omega) hP hS (lv_sub hl [0, 1, 2, 3, 4] rfl)
  · rw [if_neg c7] at h
    refine lv_iconst (v := 0) hx hb dL_law_1936 (by decide) ?_
    cases h
def rw_29 (L : Nat) (xs : Nat → Int32) (σ : GS) (x4 : Int32) : Option GS := match σ with
  | (T, P, X, Y, E, B, M, O) =>
  bd1 (r4_changed T) (fun v1 =>
  bd2 (r5_changed M) (fun v2 M3 =>
  (if v1 = v2 then some (T, P, X, Y, E, B, M3, O)
  else none)))
set_option maxHeartbeats 4000000 in
set_option maxRecDepth 100000 in
theorem lw_29 {p : Program} {l : Launch} {e : Env} {s : State} {m : MethodId} {args : Array Value} {below : List Frame} {meth : Method} {c : Code} {Q : State → Prop} (hst : l.stackTraces = false) {γ : GA} {b L : Nat} {xs : Nat → Int32} (hLC : lC p s m args meth c γ b L xs) {σ σ' : GS} {x4 : Int32} (h : rw_29 L xs σ x4 = some σ') {ce se : Nat} (hce : ce + 16 ≤ 601024) (hse : se + 96 ≤ 7293034)
    (kk : ∀ (H : Heap) (locs : List Loc) (ls : Array Slot) (ce2 se2 : Nat), ce2 ≤ ce + 16 → se2 ≤ se + 96 → va_P γ.1 vwCl (gw γ σ') H → va_S (gA γ s.heap.size) s.heap H locs → lv_has ls 7 [(0, .ref b), (1, .ref (ad γ 0)), (2, .ref (ad γ 23)), (3, .ref (ad γ 30)), (4, .int x4)] → W p l e room_1 s m args below meth c H locs ce2 se2 Q (F0 m 2164 ls []))
    {H : Heap} {locs : List Loc} {ls : Array Slot} (hP : va_P γ.1 vwCl (gw γ σ) H) (hS : va_S (gA γ s.heap.size) s.heap H locs) (hl : lv_has ls 7 [(0, .ref b), (1, .ref (ad γ 0)), (2, .ref (ad γ 23)), (3, .ref (ad γ 30)), (4, .int x4)]) : W p l e room_1 s m args below meth c H locs ce se Q (F0 m 1938 ls []) := by
  obtain ⟨hC, hX, hbl, hbA, hZ⟩ := hLC
  have hx := hC.x
  have hb := hC.b
  obtain ⟨T, P, X, Y, E, B, M, O⟩ := σ
  unfold rw_29 at h
  dsimp only at h
  refine lv_aload_n hx hb dL_law_1938 rfl (lv_at hl 1 rfl) ?_
  obtain ⟨v1, hv, h⟩ := bd1_e h
  refine g_ki (g_lV (As := []) (rest := []) hC hP (c4_changed l hv) (by decide) ge_0 rfl u_2_115 yv_X4_changed ⟨Nat.le_of_ble_eq_true rfl, Nat.le_of_ble_eq_true rfl⟩ rfl hl.1 rfl (Nat.le_of_ble_eq_true rfl) dL_law_1939 ⟨by show _ ≤ 601024; omega, by show _ ≤ 7293034; omega⟩) hS (fun H locs hP hS => ?_)
  refine lv_aload_n hx hb dL_law_1942 rfl (lv_at hl 2 rfl) ?_
  obtain ⟨v2, M3, hv, h⟩ := bd2_e h
  refine g_ki (g_lV (As := []) (rest := [.int v1]) hC hP (c5_changed l hv) (by decide) ge_23 rfl u_7_20 yv_X5_changed ⟨Nat.le_of_ble_eq_true rfl, Nat.le_of_ble_eq_true rfl⟩ rfl hl.1 rfl (Nat.le_of_ble_eq_true rfl) dL_law_1943 ⟨by show _ ≤ 601024; omega, by show _ ≤ 7293034; omega⟩) hS (fun H locs hP hS => ?_)
  refine lv_icmp_eq (tgt := 2164) hx hb dL_law_1946 (by decide) (fun c4 => ?_) (fun c4 => ?_)
  · rw [if_pos c4] at h
    cases h
    exact kk _ _ _ _ _ (by omega) (by omega) hP hS (lv_sub hl [0, 1, 2, 3, 4] rfl)
  · rw [if_neg c4] at h
    refine lv_iconst (v := 0) hx hb dL_law_1949 (by decide) ?_
    cases h
def rw_30 (L : Nat) (xs : Nat → Int32) (σ : GS) (x4 : Int32) : Option GS := match σ with
  | (T, P, X, Y, E, B, M, O) =>
  (rd L xs (x4 + 1)).bind fun v1 =>
  bd2 (rL_marked T O v1) (fun v2 O3 =>
  (rd L xs (x4 + 1)).bind fun v4 =>
  bd2 (r5_marked M v4) (fun v5 M6 =>
  bd1 (r5_thrown M6) (fun v7 =>
  (if v7 = v2 then (if v2 = 0 then (if (lg_cmp (O3 0) (v5.toInt64)) = 0 then some (T, P, X, Y, E, B, M6, O3)
  else none)
  else some (T, P, X, Y, E, B, M6, O3))
  else none))))
set_option maxHeartbeats 4000000 in
set_option maxRecDepth 100000 in
theorem lw_30 {p : Program} {l : Launch} {e : Env} {s : State} {m : MethodId} {args : Array Value} {below : List Frame} {meth : Method} {c : Code} {Q : State → Prop} (hst : l.stackTraces = false) {γ : GA} {b L : Nat} {xs : Nat → Int32} (hLC : lC p s m args meth c γ b L xs) {σ σ' : GS} {x4 : Int32} (h : rw_30 L xs σ x4 = some σ') {ce se : Nat} (hce : ce + 16 ≤ 601024) (hse : se + 96 ≤ 7293034)
    (kk : ∀ (H : Heap) (locs : List Loc) (ls : Array Slot) (ce2 se2 : Nat), ce2 ≤ ce + 16 → se2 ≤ se + 96 → va_P γ.1 vwCl (gw γ σ') H → va_S (gA γ s.heap.size) s.heap H locs → lv_has ls 7 [(0, .ref b), (1, .ref (ad γ 0)), (2, .ref (ad γ 23)), (3, .ref (ad γ 30)), (4, .int x4)] → W p l e room_1 s m args below meth c H locs ce2 se2 Q (F0 m 2164 ls []))
    {H : Heap} {locs : List Loc} {ls : Array Slot} (hP : va_P γ.1 vwCl (gw γ σ) H) (hS : va_S (gA γ s.heap.size) s.heap H locs) (hl : lv_has ls 7 [(0, .ref b), (1, .ref (ad γ 0)), (2, .ref (ad γ 23)), (3, .ref (ad γ 30)), (4, .int x4)]) : W p l e room_1 s m args below meth c H locs ce se Q (F0 m 1951 ls []) := by
  obtain ⟨hC, hX, hbl, hbA, hZ⟩ := hLC
  have hx := hC.x
  have hb := hC.b
  obtain ⟨T, P, X, Y, E, B, M, O⟩ := σ
  unfold rw_30 at h
  dsimp only at h
  refine lv_aload_n hx hb dL_law_1951 rfl (lv_at hl 1 rfl) ?_
  refine lv_aload_n hx hb dL_law_1952 rfl (lv_at hl 0 rfl) ?_
  refine lv_iload hx hb dL_law_1953 (lv_at hl 4 rfl) ?_
  refine lv_iconst (v := 1) hx hb dL_law_1955 (by decide) ?_
  refine lv_iadd hx hb dL_law_1956 ?_
  obtain ⟨v1, hv, h⟩ := ob h
  refine g_scr hC hX hbl hbA hS dL_law_1957 hv ?_
  refine lv_aload_n hx hb dL_law_1958 rfl (lv_at hl 3 rfl) ?_
  obtain ⟨v2, O3, hv, h⟩ := bd2_e h
  refine g_xki (g_lW (As := [.ref (ad γ 0), .int v1, .ref (ad γ 30)]) (rest := []) hC hZ hP hS (tL_marked l hst hv) u_5_105 yw_L_marked ⟨Nat.le_of_ble_eq_true rfl, Nat.le_of_ble_eq_true rfl⟩ rfl hl.1 rfl (Nat.le_of_ble_eq_true rfl) dL_law_1959 ⟨by show _ ≤ 601024; omega, by show _ ≤ 7293034; omega⟩) hS (fun H locs hP hS => ?_)
  refine lv_istore (lv' := [(5, .int v2), (0, .ref b), (1, .ref (ad γ 0)), (2, .ref (ad γ 23)), (3, .ref (ad γ 30)), (4, .int x4)]) hx hb dL_law_1962 hl (by decide) rfl (fun ls hl => ?_)
  refine lv_aload_n hx hb dL_law_1964 rfl (lv_at hl 3 rfl) ?_
  refine lv_aload_n hx hb dL_law_1965 rfl (lv_at hl 1 rfl) ?_
  refine lv_iload hx hb dL_law_1966 (lv_at hl 5 rfl) ?_
  refine lv_iconst (v := 1) hx hb dL_law_1968 (by decide) ?_
  refine lv_iadd hx hb dL_law_1969 ?_
  obtain ⟨v4, hv, h⟩ := ob h
  refine g_scr hC hX hbl hbA hS dL_law_1970 hv ?_
  obtain ⟨v5, M6, hv, h⟩ := bd2_e h
  refine g_ki (g_lV (As := [.int v4]) (rest := []) hC hP (c5_marked l hv) (by decide) ge_23 rfl u_7_24 yv_X5_marked ⟨Nat.le_of_ble_eq_true rfl, Nat.le_of_ble_eq_true rfl⟩ rfl hl.1 rfl (Nat.le_of_ble_eq_true rfl) dL_law_1971 ⟨by show _ ≤ 601024; omega, by show _ ≤ 7293034; omega⟩) hS (fun H locs hP hS => ?_)
  refine lv_istore (lv' := [(6, .int v5), (5, .int v2), (0, .ref b), (1, .ref (ad γ 0)), (2, .ref (ad γ 23)), (3, .ref (ad γ 30)), (4, .int x4)]) hx hb dL_law_1974 hl (by decide) rfl (fun ls hl => ?_)
  refine lv_aload_n hx hb dL_law_1976 rfl (lv_at hl 4 rfl) ?_
  obtain ⟨v7, hv, h⟩ := bd1_e h
  refine g_ki (g_lV (As := []) (rest := []) hC hP (c5_thrown l hv) (by decide) ge_23 rfl u_5_144 yv_X5_thrown ⟨Nat.le_of_ble_eq_true rfl, Nat.le_of_ble_eq_true rfl⟩ rfl hl.1 rfl (Nat.le_of_ble_eq_true rfl) dL_law_1977 ⟨by show _ ≤ 601024; omega, by show _ ≤ 7293034; omega⟩) hS (fun H locs hP hS => ?_)
  refine lv_iload hx hb dL_law_1980 (lv_at hl 1 rfl) ?_
  refine lv_icmp_eq (tgt := 1987) hx hb dL_law_1982 (by decide) (fun c8 => ?_) (fun c8 => ?_)
  · rw [if_pos c8] at h
    refine lv_iload hx hb dL_law_1987 (lv_at hl 1 rfl) ?_
    refine lv_if_ne (tgt := 2004) hx hb dL_law_1989 (by decide) (fun c9 => ?_) (fun c9 => ?_)
    · rw [if_neg c9] at h
      refine lv_goto (tgt := 2164) hx hb dL_law_2004 (by decide) ?_
      cases h
      exact kk _ _ _ _ _ (by omega) (by omega) hP hS (lv_sub hl [2, 3, 4, 5, 6] rfl)
    · rw [if_pos c9] at h
      refine lv_aload_n hx hb dL_law_1992 rfl (lv_at hl 5 rfl) ?_
      refine lv_iconst (v := 0) hx hb dL_law_1993 (by decide) ?_
      refine g_lld hC hP dL_law_1994 ?_
      refine lv_iload hx hb dL_law_1995 (lv_at hl 0 rfl) ?_
      refine lv_i2l (v := (v5).toInt64) hx hb dL_law_1997 rfl ?_
      refine W.lcmp hx hb dL_law_1998 ?_
      refine lv_if_eq (tgt := 2004) hx hb dL_law_1999 (by decide) (fun c10 => ?_) (fun c10 => ?_)
      · rw [if_pos c10] at h
        refine lv_goto (tgt := 2164) hx hb dL_law_2004 (by decide) ?_
        cases h
        exact kk _ _ _ _ _ (by omega) (by omega) hP hS (lv_sub hl [2, 3, 4, 5, 6] rfl)
      · rw [if_neg c10] at h
        refine lv_iconst (v := 0) hx hb dL_law_2002 (by decide) ?_
        cases h
  · rw [if_neg c8] at h
    refine lv_iconst (v := 0) hx hb dL_law_1985 (by decide) ?_
    cases h
def rw_31 (L : Nat) (xs : Nat → Int32) (σ : GS) (x4 : Int32) : Option GS := match σ with
  | (T, P, X, Y, E, B, M, O) =>
  (rd L xs (x4 + 1)).bind fun v1 =>
  bd2 (rL_count T X Y O v1) (fun v2 O3 =>
  (rd L xs (x4 + 1)).bind fun v4 =>
  bd2 (r5_count M v4) (fun v5 M6 =>
  bd1 (r5_thrown M6) (fun v7 =>
  (if v7 = v2 then (if v2 = 0 then (if (lg_cmp (O3 0) (v5.toInt64)) = 0 then some (T, P, X, Y, E, B, M6, O3)
  else none)
  else some (T, P, X, Y, E, B, M6, O3))
  else none))))
set_option maxHeartbeats 4000000 in
set_option maxRecDepth 100000 in
theorem lw_31 {p : Program} {l : Launch} {e : Env} {s : State} {m : MethodId} {args : Array Value} {below : List Frame} {meth : Method} {c : Code} {Q : State → Prop} (hst : l.stackTraces = false) {γ : GA} {b L : Nat} {xs : Nat → Int32} (hLC : lC p s m args meth c γ b L xs) {σ σ' : GS} {x4 : Int32} (h : rw_31 L xs σ x4 = some σ') {ce se : Nat} (hce : ce + 16 ≤ 601024) (hse : se + 96 ≤ 7293034)
    (kk : ∀ (H : Heap) (locs : List Loc) (ls : Array Slot) (ce2 se2 : Nat), ce2 ≤ ce + 16 → se2 ≤ se + 96 → va_P γ.1 vwCl (gw γ σ') H → va_S (gA γ s.heap.size) s.heap H locs → lv_has ls 7 [(0, .ref b), (1, .ref (ad γ 0)), (2, .ref (ad γ 23)), (3, .ref (ad γ 30)), (4, .int x4)] → W p l e room_1 s m args below meth c H locs ce2 se2 Q (F0 m 2164 ls []))
    {H : Heap} {locs : List Loc} {ls : Array Slot} (hP : va_P γ.1 vwCl (gw γ σ) H) (hS : va_S (gA γ s.heap.size) s.heap H locs) (hl : lv_has ls 7 [(0, .ref b), (1, .ref (ad γ 0)), (2, .ref (ad γ 23)), (3, .ref (ad γ 30)), (4, .int x4)]) : W p l e room_1 s m args below meth c H locs ce se Q (F0 m 2007 ls []) := by
  obtain ⟨hC, hX, hbl, hbA, hZ⟩ := hLC
  have hx := hC.x
  have hb := hC.b
  obtain ⟨T, P, X, Y, E, B, M, O⟩ := σ
  unfold rw_31 at h
  dsimp only at h
  refine lv_aload_n hx hb dL_law_2007 rfl (lv_at hl 1 rfl) ?_
  refine lv_aload_n hx hb dL_law_2008 rfl (lv_at hl 0 rfl) ?_
  refine lv_iload hx hb dL_law_2009 (lv_at hl 4 rfl) ?_
  refine lv_iconst (v := 1) hx hb dL_law_2011 (by decide) ?_
  refine lv_iadd hx hb dL_law_2012 ?_
  obtain ⟨v1, hv, h⟩ := ob h
  refine g_scr hC hX hbl hbA hS dL_law_2013 hv ?_
  refine lv_aload_n hx hb dL_law_2014 rfl (lv_at hl 3 rfl) ?_
  obtain ⟨v2, O3, hv, h⟩ := bd2_e h
  refine g_xki (g_lW (As := [.ref (ad γ 0), .int v1, .ref (ad γ 30)]) (rest := []) hC hZ hP hS (tL_count l hst hv) u_5_112 yw_L_count ⟨Nat.le_of_ble_eq_true rfl, Nat.le_of_ble_eq_true rfl⟩ rfl hl.1 rfl (Nat.le_of_ble_eq_true rfl) dL_law_2015 ⟨by show _ ≤ 601024; omega, by show _ ≤ 7293034; omega⟩) hS (fun H locs hP hS => ?_)
  refine lv_istore (lv' := [(5, .int v2), (0, .ref b), (1, .ref (ad γ 0)), (2, .ref (ad γ 23)), (3, .ref (ad γ 30)), (4, .int x4)]) hx hb dL_law_2018 hl (by decide) rfl (fun ls hl => ?_)
  refine lv_aload_n hx hb dL_law_2020 rfl (lv_at hl 3 rfl) ?_
  refine lv_aload_n hx hb dL_law_2021 rfl (lv_at hl 1 rfl) ?_
  refine lv_iload hx hb dL_law_2022 (lv_at hl 5 rfl) ?_
  refine lv_iconst (v := 1) hx hb dL_law_2024 (by decide) ?_
  refine lv_iadd hx hb dL_law_2025 ?_
  obtain ⟨v4, hv, h⟩ := ob h
  refine g_scr hC hX hbl hbA hS dL_law_2026 hv ?_
  obtain ⟨v5, M6, hv, h⟩ := bd2_e h
  refine g_ki (g_lV (As := [.int v4]) (rest := []) hC hP (c5_count l hv) (by decide) ge_23 rfl u_7_28 yv_X5_count ⟨Nat.le_of_ble_eq_true rfl, Nat.le_of_ble_eq_true rfl⟩ rfl hl.1 rfl (Nat.le_of_ble_eq_true rfl) dL_law_2027 ⟨by show _ ≤ 601024; omega, by show _ ≤ 7293034; omega⟩) hS (fun H locs hP hS => ?_)
  refine lv_istore (lv' := [(6, .int v5), (5, .int v2), (0, .ref b), (1, .ref (ad γ 0)), (2, .ref (ad γ 23)), (3, .ref (ad γ 30)), (4, .int x4)]) hx hb dL_law_2030 hl (by decide) rfl (fun ls hl => ?_)
  refine lv_aload_n hx hb dL_law_2032 rfl (lv_at hl 4 rfl) ?_
  obtain ⟨v7, hv, h⟩ := bd1_e h
  refine g_ki (g_lV (As := []) (rest := []) hC hP (c5_thrown l hv) (by decide) ge_23 rfl u_5_144 yv_X5_thrown ⟨Nat.le_of_ble_eq_true rfl, Nat.le_of_ble_eq_true rfl⟩ rfl hl.1 rfl (Nat.le_of_ble_eq_true rfl) dL_law_2033 ⟨by show _ ≤ 601024; omega, by show _ ≤ 7293034; omega⟩) hS (fun H locs hP hS => ?_)
  refine lv_iload hx hb dL_law_2036 (lv_at hl 1 rfl) ?_
  refine lv_icmp_eq (tgt := 2043) hx hb dL_law_2038 (by decide) (fun c8 => ?_) (fun c8 => ?_)
  · rw [if_pos c8] at h
    refine lv_iload hx hb dL_law_2043 (lv_at hl 1 rfl) ?_
    refine lv_if_ne (tgt := 2060) hx hb dL_law_2045 (by decide) (fun c9 => ?_) (fun c9 => ?_)
    · rw [if_neg c9] at h
      refine lv_goto (tgt := 2164) hx hb dL_law_2060 (by decide) ?_
      cases h
      exact kk _ _ _ _ _ (by omega) (by omega) hP hS (lv_sub hl [2, 3, 4, 5, 6] rfl)
    · rw [if_pos c9] at h
      refine lv_aload_n hx hb dL_law_2048 rfl (lv_at hl 5 rfl) ?_
      refine lv_iconst (v := 0) hx hb dL_law_2049 (by decide) ?_
      refine g_lld hC hP dL_law_2050 ?_
      refine lv_iload hx hb dL_law_2051 (lv_at hl 0 rfl) ?_
      refine lv_i2l (v := (v5).toInt64) hx hb dL_law_2053 rfl ?_
      refine W.lcmp hx hb dL_law_2054 ?_
      refine lv_if_eq (tgt := 2060) hx hb dL_law_2055 (by decide) (fun c10 => ?_) (fun c10 => ?_)
      · rw [if_pos c10] at h
        refine lv_goto (tgt := 2164) hx hb dL_law_2060 (by decide) ?_
        cases h
        exact kk _ _ _ _ _ (by omega) (by omega) hP hS (lv_sub hl [2, 3, 4, 5, 6] rfl)
      · rw [if_neg c10] at h
        refine lv_iconst (v := 0) hx hb dL_law_2058 (by decide) ?_
        cases h
  · rw [if_neg c8] at h
    refine lv_iconst (v := 0) hx hb dL_law_2041 (by decide) ?_
    cases h
def rw_32 (L : Nat) (xs : Nat → Int32) (σ : GS) (x4 : Int32) : Option GS := match σ with
  | (T, P, X, Y, E, B, M, O) =>
  bd4 (rL_undo T Y E O) (fun v1 T2 Y3 O4 =>
  bd2 (r5_undo M) (fun v5 M6 =>
  bd1 (r5_thrown M6) (fun v7 =>
  (if v7 = v1 then (if v1 = 0 then (if (lg_cmp (O4 0) (v5.toInt64)) = 0 then some (T2, P, X, Y3, E, B, M6, O4)
  else none)
  else some (T2, P, X, Y3, E, B, M6, O4))
  else none))))
set_option maxHeartbeats 4000000 in
set_option maxRecDepth 100000 in
theorem lw_32 {p : Program} {l : Launch} {e : Env} {s : State} {m : MethodId} {args : Array Value} {below : List Frame} {meth : Method} {c : Code} {Q : State → Prop} (hst : l.stackTraces = false) {γ : GA} {b L : Nat} {xs : Nat → Int32} (hLC : lC p s m args meth c γ b L xs) {σ σ' : GS} {x4 : Int32} (h : rw_32 L xs σ x4 = some σ') {ce se : Nat} (hce : ce + 16 ≤ 601024) (hse : se + 96 ≤ 7293034)
    (kk : ∀ (H : Heap) (locs : List Loc) (ls : Array Slot) (ce2 se2 : Nat), ce2 ≤ ce + 16 → se2 ≤ se + 96 → va_P γ.1 vwCl (gw γ σ') H → va_S (gA γ s.heap.size) s.heap H locs → lv_has ls 7 [(0, .ref b), (1, .ref (ad γ 0)), (2, .ref (ad γ 23)), (3, .ref (ad γ 30)), (4, .int x4)] → W p l e room_1 s m args below meth c H locs ce2 se2 Q (F0 m 2164 ls []))
    {H : Heap} {locs : List Loc} {ls : Array Slot} (hP : va_P γ.1 vwCl (gw γ σ) H) (hS : va_S (gA γ s.heap.size) s.heap H locs) (hl : lv_has ls 7 [(0, .ref b), (1, .ref (ad γ 0)), (2, .ref (ad γ 23)), (3, .ref (ad γ 30)), (4, .int x4)]) : W p l e room_1 s m args below meth c H locs ce se Q (F0 m 2063 ls []) := by
  obtain ⟨hC, hX, hbl, hbA, hZ⟩ := hLC
  have hx := hC.x
  have hb := hC.b
  obtain ⟨T, P, X, Y, E, B, M, O⟩ := σ
  unfold rw_32 at h
  dsimp only at h
  refine lv_aload_n hx hb dL_law_2063 rfl (lv_at hl 1 rfl) ?_
  refine lv_aload_n hx hb dL_law_2064 rfl (lv_at hl 3 rfl) ?_
  obtain ⟨v1, T2, Y3, O4, hv, h⟩ := bd4_e h
  refine g_xki (g_lW (As := [.ref (ad γ 0), .ref (ad γ 30)]) (rest := []) hC hZ hP hS (tL_undo l hst hv) u_5_123 yw_L_undo ⟨Nat.le_of_ble_eq_true rfl, Nat.le_of_ble_eq_true rfl⟩ rfl hl.1 rfl (Nat.le_of_ble_eq_true rfl) dL_law_2065 ⟨by show _ ≤ 601024; omega, by show _ ≤ 7293034; omega⟩) hS (fun H locs hP hS => ?_)
  refine lv_istore (lv' := [(5, .int v1), (0, .ref b), (1, .ref (ad γ 0)), (2, .ref (ad γ 23)), (3, .ref (ad γ 30)), (4, .int x4)]) hx hb dL_law_2068 hl (by decide) rfl (fun ls hl => ?_)
  refine lv_aload_n hx hb dL_law_2070 rfl (lv_at hl 3 rfl) ?_
  obtain ⟨v5, M6, hv, h⟩ := bd2_e h
  refine g_ki (g_lV (As := []) (rest := []) hC hP (c5_undo l hv) (by decide) ge_23 rfl u_7_32 yv_X5_undo ⟨Nat.le_of_ble_eq_true rfl, Nat.le_of_ble_eq_true rfl⟩ rfl hl.1 rfl (Nat.le_of_ble_eq_true rfl) dL_law_2071 ⟨by show _ ≤ 601024; omega, by show _ ≤ 7293034; omega⟩) hS (fun H locs hP hS => ?_)
  refine lv_istore (lv' := [(6, .int v5), (5, .int v1), (0, .ref b), (1, .ref (ad γ 0)), (2, .ref (ad γ 23)), (3, .ref (ad γ 30)), (4, .int x4)]) hx hb dL_law_2074 hl (by decide) rfl (fun ls hl => ?_)
  refine lv_aload_n hx hb dL_law_2076 rfl (lv_at hl 4 rfl) ?_
  obtain ⟨v7, hv, h⟩ := bd1_e h
  refine g_ki (g_lV (As := []) (rest := []) hC hP (c5_thrown l hv) (by decide) ge_23 rfl u_5_144 yv_X5_thrown ⟨Nat.le_of_ble_eq_true rfl, Nat.le_of_ble_eq_true rfl⟩ rfl hl.1 rfl (Nat.le_of_ble_eq_true rfl) dL_law_2077 ⟨by show _ ≤ 601024; omega, by show _ ≤ 7293034; omega⟩) hS (fun H locs hP hS => ?_)
  refine lv_iload hx hb dL_law_2080 (lv_at hl 1 rfl) ?_
  refine lv_icmp_eq (tgt := 2087) hx hb dL_law_2082 (by decide) (fun c8 => ?_) (fun c8 => ?_)
  · rw [if_pos c8] at h
    refine lv_iload hx hb dL_law_2087 (lv_at hl 1 rfl) ?_
    refine lv_if_ne (tgt := 2104) hx hb dL_law_2089 (by decide) (fun c9 => ?_) (fun c9 => ?_)
    · rw [if_neg c9] at h
      refine lv_goto (tgt := 2164) hx hb dL_law_2104 (by decide) ?_
      cases h
      exact kk _ _ _ _ _ (by omega) (by omega) hP hS (lv_sub hl [2, 3, 4, 5, 6] rfl)
    · rw [if_pos c9] at h
      refine lv_aload_n hx hb dL_law_2092 rfl (lv_at hl 5 rfl) ?_
      refine lv_iconst (v := 0) hx hb dL_law_2093 (by decide) ?_
      refine g_lld hC hP dL_law_2094 ?_
      refine lv_iload hx hb dL_law_2095 (lv_at hl 0 rfl) ?_
      refine lv_i2l (v := (v5).toInt64) hx hb dL_law_2097 rfl ?_
      refine W.lcmp hx hb dL_law_2098 ?_
      refine lv_if_eq (tgt := 2104) hx hb dL_law_2099 (by decide) (fun c10 => ?_) (fun c10 => ?_)
      · rw [if_pos c10] at h
        refine lv_goto (tgt := 2164) hx hb dL_law_2104 (by decide) ?_
        cases h
        exact kk _ _ _ _ _ (by omega) (by omega) hP hS (lv_sub hl [2, 3, 4, 5, 6] rfl)
      · rw [if_neg c10] at h
        refine lv_iconst (v := 0) hx hb dL_law_2102 (by decide) ?_
        cases h
  · rw [if_neg c8] at h
    refine lv_iconst (v := 0) hx hb dL_law_2085 (by decide) ?_
    cases h
def rw_33 (L : Nat) (xs : Nat → Int32) (σ : GS) (x4 : Int32) : Option GS := match σ with
  | (T, P, X, Y, E, B, M, O) =>
  bd3 (r4_save T E B) (fun v1 E2 B3 =>
  bd2 (r5_save M) (fun v4 M5 =>
  (if v1 = v4 then some (T, P, X, Y, E2, B3, M5, O)
  else none)))
set_option maxHeartbeats 4000000 in
set_option maxRecDepth 100000 in
theorem lw_33 {p : Program} {l : Launch} {e : Env} {s : State} {m : MethodId} {args : Array Value} {below : List Frame} {meth : Method} {c : Code} {Q : State → Prop} (hst : l.stackTraces = false) {γ : GA} {b L : Nat} {xs : Nat → Int32} (hLC : lC p s m args meth c γ b L xs) {σ σ' : GS} {x4 : Int32} (h : rw_33 L xs σ x4 = some σ') {ce se : Nat} (hce : ce + 16 ≤ 601024) (hse : se + 96 ≤ 7293034)
    (kk : ∀ (H : Heap) (locs : List Loc) (ls : Array Slot) (ce2 se2 : Nat), ce2 ≤ ce + 16 → se2 ≤ se + 96 → va_P γ.1 vwCl (gw γ σ') H → va_S (gA γ s.heap.size) s.heap H locs → lv_has ls 7 [(0, .ref b), (1, .ref (ad γ 0)), (2, .ref (ad γ 23)), (3, .ref (ad γ 30)), (4, .int x4)] → W p l e room_1 s m args below meth c H locs ce2 se2 Q (F0 m 2164 ls []))
    {H : Heap} {locs : List Loc} {ls : Array Slot} (hP : va_P γ.1 vwCl (gw γ σ) H) (hS : va_S (gA γ s.heap.size) s.heap H locs) (hl : lv_has ls 7 [(0, .ref b), (1, .ref (ad γ 0)), (2, .ref (ad γ 23)), (3, .ref (ad γ 30)), (4, .int x4)]) : W p l e room_1 s m args below meth c H locs ce se Q (F0 m 2107 ls []) := by
  obtain ⟨hC, hX, hbl, hbA, hZ⟩ := hLC
  have hx := hC.x
  have hb := hC.b
  obtain ⟨T, P, X, Y, E, B, M, O⟩ := σ
  unfold rw_33 at h
  dsimp only at h
  refine lv_aload_n hx hb dL_law_2107 rfl (lv_at hl 1 rfl) ?_
  obtain ⟨v1, E2, B3, hv, h⟩ := bd3_e h
  refine g_ki (g_lV (As := []) (rest := []) hC hP (c4_save l hv) (by decide) ge_0 rfl u_2_119 yv_X4_save ⟨Nat.le_of_ble_eq_true rfl, Nat.le_of_ble_eq_true rfl⟩ rfl hl.1 rfl (Nat.le_of_ble_eq_true rfl) dL_law_2108 ⟨by show _ ≤ 601024; omega, by show _ ≤ 7293034; omega⟩) hS (fun H locs hP hS => ?_)
  refine lv_aload_n hx hb dL_law_2111 rfl (lv_at hl 2 rfl) ?_
  obtain ⟨v4, M5, hv, h⟩ := bd2_e h
  refine g_ki (g_lV (As := []) (rest := [.int v1]) hC hP (c5_save l hv) (by decide) ge_23 rfl u_7_36 yv_X5_save ⟨Nat.le_of_ble_eq_true rfl, Nat.le_of_ble_eq_true rfl⟩ rfl hl.1 rfl (Nat.le_of_ble_eq_true rfl) dL_law_2112 ⟨by show _ ≤ 601024; omega, by show _ ≤ 7293034; omega⟩) hS (fun H locs hP hS => ?_)
  refine lv_icmp_eq (tgt := 2164) hx hb dL_law_2115 (by decide) (fun c6 => ?_) (fun c6 => ?_)
  · rw [if_pos c6] at h
    cases h
    exact kk _ _ _ _ _ (by omega) (by omega) hP hS (lv_sub hl [0, 1, 2, 3, 4] rfl)
  · rw [if_neg c6] at h
    refine lv_iconst (v := 0) hx hb dL_law_2118 (by decide) ?_
    cases h
def rw_34 (L : Nat) (xs : Nat → Int32) (σ : GS) (x4 : Int32) : Option GS := match σ with
  | (T, P, X, Y, E, B, M, O) =>
  bd5 (rL_restore T Y E B O) (fun v1 T2 Y3 E4 O5 =>
  bd2 (r5_restore M) (fun v6 M7 =>
  bd1 (r5_thrown M7) (fun v8 =>
  (if v8 = v1 then (if v1 = 0 then (if (lg_cmp (O5 0) (v6.toInt64)) = 0 then some (T2, P, X, Y3, E4, B, M7, O5)
  else none)
  else some (T2, P, X, Y3, E4, B, M7, O5))
  else none))))
set_option maxHeartbeats 4000000 in
set_option maxRecDepth 100000 in
theorem lw_34 {p : Program} {l : Launch} {e : Env} {s : State} {m : MethodId} {args : Array Value} {below : List Frame} {meth : Method} {c : Code} {Q : State → Prop} (hst : l.stackTraces = false) {γ : GA} {b L : Nat} {xs : Nat → Int32} (hLC : lC p s m args meth c γ b L xs) {σ σ' : GS} {x4 : Int32} (h : rw_34 L xs σ x4 = some σ') {ce se : Nat} (hce : ce + 16 ≤ 601024) (hse : se + 96 ≤ 7293034)
    (kk : ∀ (H : Heap) (locs : List Loc) (ls : Array Slot) (ce2 se2 : Nat), ce2 ≤ ce + 16 → se2 ≤ se + 96 → va_P γ.1 vwCl (gw γ σ') H → va_S (gA γ s.heap.size) s.heap H locs → lv_has ls 7 [(0, .ref b), (1, .ref (ad γ 0)), (2, .ref (ad γ 23)), (3, .ref (ad γ 30)), (4, .int x4)] → W p l e room_1 s m args below meth c H locs ce2 se2 Q (F0 m 2164 ls []))
    {H : Heap} {locs : List Loc} {ls : Array Slot} (hP : va_P γ.1 vwCl (gw γ σ) H) (hS : va_S (gA γ s.heap.size) s.heap H locs) (hl : lv_has ls 7 [(0, .ref b), (1, .ref (ad γ 0)), (2, .ref (ad γ 23)), (3, .ref (ad γ 30)), (4, .int x4)]) : W p l e room_1 s m args below meth c H locs ce se Q (F0 m 2120 ls []) := by
  obtain ⟨hC, hX, hbl, hbA, hZ⟩ := hLC
  have hx := hC.x
  have hb := hC.b
  obtain ⟨T, P, X, Y, E, B, M, O⟩ := σ
  unfold rw_34 at h
  dsimp only at h
  refine lv_aload_n hx hb dL_law_2120 rfl (lv_at hl 1 rfl) ?_
  refine lv_aload_n hx hb dL_law_2121 rfl (lv_at hl 3 rfl) ?_
  obtain ⟨v1, T2, Y3, E4, O5, hv, h⟩ := bd5_e h
  refine g_xki (g_lW (As := [.ref (ad γ 0), .ref (ad γ 30)]) (rest := []) hC hZ hP hS (tL_restore l hst hv) u_5_136 yw_L_restore ⟨Nat.le_of_ble_eq_true rfl, Nat.le_of_ble_eq_true rfl⟩ rfl hl.1 rfl (Nat.le_of_ble_eq_true rfl) dL_law_2122 ⟨by show _ ≤ 601024; omega, by show _ ≤ 7293034; omega⟩) hS (fun H locs hP hS => ?_)
  refine lv_istore (lv' := [(5, .int v1), (0, .ref b), (1, .ref (ad γ 0)), (2, .ref (ad γ 23)), (3, .ref (ad γ 30)), (4, .int x4)]) hx hb dL_law_2125 hl (by decide) rfl (fun ls hl => ?_)
  refine lv_aload_n hx hb dL_law_2127 rfl (lv_at hl 3 rfl) ?_
  obtain ⟨v6, M7, hv, h⟩ := bd2_e h
  refine g_ki (g_lV (As := []) (rest := []) hC hP (c5_restore l hv) (by decide) ge_23 rfl u_7_40 yv_X5_restore ⟨Nat.le_of_ble_eq_true rfl, Nat.le_of_ble_eq_true rfl⟩ rfl hl.1 rfl (Nat.le_of_ble_eq_true rfl) dL_law_2128 ⟨by show _ ≤ 601024; omega, by show _ ≤ 7293034; omega⟩) hS (fun H locs hP hS => ?_)
  refine lv_istore (lv' := [(6, .int v6), (5, .int v1), (0, .ref b), (1, .ref (ad γ 0)), (2, .ref (ad γ 23)), (3, .ref (ad γ 30)), (4, .int x4)]) hx hb dL_law_2131 hl (by decide) rfl (fun ls hl => ?_)
  refine lv_aload_n hx hb dL_law_2133 rfl (lv_at hl 4 rfl) ?_
  obtain ⟨v8, hv, h⟩ := bd1_e h
  refine g_ki (g_lV (As := []) (rest := []) hC hP (c5_thrown l hv) (by decide) ge_23 rfl u_5_144 yv_X5_thrown ⟨Nat.le_of_ble_eq_true rfl, Nat.le_of_ble_eq_true rfl⟩ rfl hl.1 rfl (Nat.le_of_ble_eq_true rfl) dL_law_2134 ⟨by show _ ≤ 601024; omega, by show _ ≤ 7293034; omega⟩) hS (fun H locs hP hS => ?_)
  refine lv_iload hx hb dL_law_2137 (lv_at hl 1 rfl) ?_
  refine lv_icmp_eq (tgt := 2144) hx hb dL_law_2139 (by decide) (fun c9 => ?_) (fun c9 => ?_)
  · rw [if_pos c9] at h
    refine lv_iload hx hb dL_law_2144 (lv_at hl 1 rfl) ?_
    refine lv_if_ne (tgt := 2161) hx hb dL_law_2146 (by decide) (fun c10 => ?_) (fun c10 => ?_)
    · rw [if_neg c10] at h
      refine lv_goto (tgt := 2164) hx hb dL_law_2161 (by decide) ?_
      cases h
      exact kk _ _ _ _ _ (by omega) (by omega) hP hS (lv_sub hl [2, 3, 4, 5, 6] rfl)
    · rw [if_pos c10] at h
      refine lv_aload_n hx hb dL_law_2149 rfl (lv_at hl 5 rfl) ?_
      refine lv_iconst (v := 0) hx hb dL_law_2150 (by decide) ?_
      refine g_lld hC hP dL_law_2151 ?_
      refine lv_iload hx hb dL_law_2152 (lv_at hl 0 rfl) ?_
      refine lv_i2l (v := (v6).toInt64) hx hb dL_law_2154 rfl ?_
      refine W.lcmp hx hb dL_law_2155 ?_
      refine lv_if_eq (tgt := 2161) hx hb dL_law_2156 (by decide) (fun c11 => ?_) (fun c11 => ?_)
      · rw [if_pos c11] at h
        refine lv_goto (tgt := 2164) hx hb dL_law_2161 (by decide) ?_
        cases h
        exact kk _ _ _ _ _ (by omega) (by omega) hP hS (lv_sub hl [2, 3, 4, 5, 6] rfl)
      · rw [if_neg c11] at h
        refine lv_iconst (v := 0) hx hb dL_law_2159 (by decide) ?_
        cases h
  · rw [if_neg c9] at h
    refine lv_iconst (v := 0) hx hb dL_law_2142 (by decide) ?_
    cases h
def rlaw_step (L : Nat) (xs : Nat → Int32) (σ : GS) (x4 : Int32) : Option GS := (rd L xs x4).bind fun v =>
    if v &&& 63 = 0 then rw_0 L xs σ x4
    else if v &&& 63 = 1 then rw_1 L xs σ x4
    else if v &&& 63 = 2 then rw_2 L xs σ x4
    else if v &&& 63 = 3 then rw_3 L xs σ x4
    else if v &&& 63 = 4 then rw_4 L xs σ x4
    else if v &&& 63 = 5 then rw_5 L xs σ x4
    else if v &&& 63 = 6 then rw_6 L xs σ x4
    else if v &&& 63 = 7 then rw_7 L xs σ x4
    else if v &&& 63 = 8 then rw_8 L xs σ x4
    else if v &&& 63 = 9 then rw_9 L xs σ x4
    else if v &&& 63 = 10 then rw_10 L xs σ x4
    else if v &&& 63 = 11 then rw_11 L xs σ x4
    else if v &&& 63 = 12 then rw_12 L xs σ x4
    else if v &&& 63 = 13 then rw_13 L xs σ x4
    else if v &&& 63 = 14 then rw_14 L xs σ x4
    else if v &&& 63 = 15 then rw_15 L xs σ x4
    else if v &&& 63 = 16 then rw_16 L xs σ x4
    else if v &&& 63 = 17 then rw_17 L xs σ x4
    else if v &&& 63 = 18 then rw_18 L xs σ x4
    else if v &&& 63 = 19 then rw_19 L xs σ x4
    else if v &&& 63 = 20 then rw_20 L xs σ x4
    else if v &&& 63 = 21 then rw_21 L xs σ x4
    else if v &&& 63 = 22 then rw_22 L xs σ x4
    else if v &&& 63 = 23 then rw_23 L xs σ x4
    else if v &&& 63 = 24 then rw_24 L xs σ x4
    else if v &&& 63 = 25 then rw_25 L xs σ x4
    else if v &&& 63 = 26 then rw_26 L xs σ x4
    else if v &&& 63 = 27 then rw_27 L xs σ x4
    else if v &&& 63 = 28 then rw_28 L xs σ x4
    else if v &&& 63 = 29 then rw_29 L xs σ x4
    else if v &&& 63 = 30 then rw_30 L xs σ x4
    else if v &&& 63 = 31 then rw_31 L xs σ x4
    else if v &&& 63 = 32 then rw_32 L xs σ x4
    else if v &&& 63 = 33 then rw_33 L xs σ x4
    else if v &&& 63 = 34 then rw_34 L xs σ x4
    else some σ
def rlaw (L : Nat) (xs : Nat → Int32) : Nat → GS → Int32 → Option Unit
  | 0, _, _ => none
  | n + 1, σ, x4 => if nI L - 4 < x4 then some () else (rlaw_step L xs σ x4).bind fun σ' => rlaw L xs n σ' (x4 + 4)
set_option maxHeartbeats 4000000 in
set_option maxRecDepth 100000 in
theorem lw_loop {p : Program} {l : Launch} {e : Env} {s : State} {m : MethodId} {below : List Frame} {meth : Method} {c : Code} {b L : Nat} (hst : l.stackTraces = false) {γ : GA} {xs : Nat → Int32} (hLC : lC p s m #[Value.ref b] meth c γ b L xs) (hfr : ∀ q, gA γ s.heap.size q → s.heap.size ≤ q) (hret : meth.sig.returnType = ret) :
    ∀ (n : Nat) (σ : GS) (x4 : Int32) (h : rlaw L xs n σ x4 = some ()) (ce se : Nat), ce + 16 * n ≤ 601024 → se + 96 * n ≤ 7293034 → ∀ (H : Heap) (locs : List Loc) (ls : Array Slot), va_P γ.1 vwCl (gw γ σ) H → va_S (gA γ s.heap.size) s.heap H locs → lv_has ls 7 [(0, .ref b), (1, .ref (ad γ 0)), (2, .ref (ad γ 23)), (3, .ref (ad γ 30)), (4, .int x4)] → W p l e room_1 s m #[Value.ref b] below meth c H locs ce se (lw_Z below #[Value.ref b] s) (F0 m 23 ls []) := by
  intro n
  induction n with
  | zero => intro σ x4 h; cases h
  | succ n ih =>
    intro σ x4 h ce se hce hse H locs ls hP hS hl
    have hLC2 := hLC
    obtain ⟨hC, hX, hbl, hbA, hZ⟩ := hLC2
    have hx := hC.x
    have hb := hC.b
    unfold rlaw at h
    refine lv_iload hx hb dL_law_23 (lv_at hl 4 rfl) ?_
    refine lv_aload_n hx hb dL_law_25 rfl (lv_at hl 0 rfl) ?_
    refine va_slen hx hb hX hbl hbA hS dL_law_26 ?_
    refine lv_iconst (v := 4) hx hb dL_law_27 (by decide) ?_
    refine lv_isub hx hb dL_law_28 ?_
    refine lv_icmp_gt (tgt := 2170) hx hb dL_law_29 (by decide) (fun c1 => ?_) (fun c1 => ?_)
    · refine lv_iconst (v := 1) hx hb dL_law_2170 (by decide) ?_
      refine va_forget (fun q hq => hfr _ (hS.2.2 q hq)) ?_
      refine W.widen (k := 601024) (n := 7293034) (by omega) (by omega) ?_
      exact lw_ret hx hb hret hC.2.2.2.2 dL_law_2171
    · rw [if_neg (show ¬ nI L - 4 < x4 from c1)] at h
      obtain ⟨σ', hs, h⟩ := ob h
      unfold rlaw_step at hs
      obtain ⟨v, hv, hs⟩ := ob hs
      refine lv_aload_n hx hb dL_law_32 rfl (lv_at hl 0 rfl) ?_
      refine lv_iload hx hb dL_law_33 (lv_at hl 4 rfl) ?_
      refine g_scr hC hX hbl hbA hS dL_law_35 hv ?_
      refine lv_bipush (v := 63) hx hb dL_law_36 (by decide) ?_
      refine lv_iand hx hb dL_law_38 ?_
      have kk : ∀ (H : Heap) (locs : List Loc) (ls : Array Slot) (ce2 se2 : Nat), ce2 ≤ ce + 16 → se2 ≤ se + 96 → va_P γ.1 vwCl (gw γ σ') H → va_S (gA γ s.heap.size) s.heap H locs → lv_has ls 7 [(0, .ref b), (1, .ref (ad γ 0)), (2, .ref (ad γ 23)), (3, .ref (ad γ 30)), (4, .int x4)] → W p l e room_1 s m #[Value.ref b] below meth c H locs ce2 se2 (lw_Z below #[Value.ref b] s) (F0 m 2164 ls []) := by
        intro H locs ls ce2 se2 h1 h2 hP hS hl
        refine lv_iinc (v := x4 + 4) (lv' := [(4, .int (x4 + 4)), (0, .ref b), (1, .ref (ad γ 0)), (2, .ref (ad γ 23)), (3, .ref (ad γ 30))]) hx hb dL_law_2164 hl (k := 4) rfl rfl (by decide) rfl (fun ls hl => ?_)
        refine lv_goto (tgt := 23) hx hb dL_law_2167 (by decide) ?_
        refine W.widen (k := ce + 16) (n := se + 96) h1 h2 ?_
        exact ih σ' (x4 + 4) h _ _ (by omega) (by omega) H locs ls hP hS (lv_sub hl [1, 2, 3, 4, 0] rfl)
      by_cases k0 : v &&& 63 = 0
      · rw [if_pos k0] at hs
        refine lv_tableIn (off := 153) (tgt := 192) hx hb dL_law_39 (by rw [k0]; decide) (by rw [k0]; decide) (by rw [k0]; rfl) (by decide) ?_
        exact lw_0 hst hLC hs (by omega) (by omega) kk hP hS hl
      rw [if_neg k0] at hs
      by_cases k1 : v &&& 63 = 1
      · rw [if_pos k1] at hs
        refine lv_tableIn (off := 233) (tgt := 272) hx hb dL_law_39 (by rw [k1]; decide) (by rw [k1]; decide) (by rw [k1]; rfl) (by decide) ?_
        exact lw_1 hst hLC hs (by omega) (by omega) kk hP hS hl
      rw [if_neg k1] at hs
      by_cases k2 : v &&& 63 = 2
      · rw [if_pos k2] at hs
        refine lv_tableIn (off := 301) (tgt := 340) hx hb dL_law_39 (by rw [k2]; decide) (by rw [k2]; decide) (by rw [k2]; rfl) (by decide) ?_
        exact lw_2 hst hLC hs (by omega) (by omega) kk hP hS hl
      rw [if_neg k2] at hs
      by_cases k3 : v &&& 63 = 3
      · rw [if_pos k3] at hs
        refine lv_tableIn (off := 369) (tgt := 408) hx hb dL_law_39 (by rw [k3]; decide) (by rw [k3]; decide) (by rw [k3]; rfl) (by decide) ?_
        exact lw_3 hst hLC hs (by omega) (by omega) kk hP hS hl
      rw [if_neg k3] at hs
      by_cases k4 : v &&& 63 = 4
      · rw [if_pos k4] at hs
        refine lv_tableIn (off := 437) (tgt := 476) hx hb dL_law_39 (by rw [k4]; decide) (by rw [k4]; decide) (by rw [k4]; rfl) (by decide) ?_
        exact lw_4 hst hLC hs (by omega) (by omega) kk hP hS hl
      rw [if_neg k4] at hs
      by_cases k5 : v &&& 63 = 5
      · rw [if_pos k5] at hs
        refine lv_tableIn (off := 505) (tgt := 544) hx hb dL_law_39 (by rw [k5]; decide) (by rw [k5]; decide) (by rw [k5]; rfl) (by decide) ?_
        exact lw_5 hst hLC hs (by omega) (by omega) kk hP hS hl
      rw [if_neg k5] at hs
      by_cases k6 : v &&& 63 = 6
      · rw [if_pos k6] at hs
        refine lv_tableIn (off := 561) (tgt := 600) hx hb dL_law_39 (by rw [k6]; decide) (by rw [k6]; decide) (by rw [k6]; rfl) (by decide) ?_
        exact lw_6 hst hLC hs (by omega) (by omega) kk hP hS hl
      rw [if_neg k6] at hs
      by_cases k7 : v &&& 63 = 7
      · rw [if_pos k7] at hs
        refine lv_tableIn (off := 605) (tgt := 644) hx hb dL_law_39 (by rw [k7]; decide) (by rw [k7]; decide) (by rw [k7]; rfl) (by decide) ?_
        exact lw_7 hst hLC hs (by omega) (by omega) kk hP hS hl
      rw [if_neg k7] at hs
      by_cases k8 : v &&& 63 = 8
      · rw [if_pos k8] at hs
        refine lv_tableIn (off := 618) (tgt := 657) hx hb dL_law_39 (by rw [k8]; decide) (by rw [k8]; decide) (by rw [k8]; rfl) (by decide) ?_
        exact lw_8 hst hLC hs (by omega) (by omega) kk hP hS hl
      rw [if_neg k8] at hs
      by_cases k9 : v &&& 63 = 9
      · rw [if_pos k9] at hs
        refine lv_tableIn (off := 674) (tgt := 713) hx hb dL_law_39 (by rw [k9]; decide) (by rw [k9]; decide) (by rw [k9]; rfl) (by decide) ?_
        exact lw_9 hst hLC hs (by omega) (by omega) kk hP hS hl
      rw [if_neg k9] at hs
      by_cases k10 : v &&& 63 = 10
      · rw [if_pos k10] at hs
        refine lv_tableIn (off := 742) (tgt := 781) hx hb dL_law_39 (by rw [k10]; decide) (by rw [k10]; decide) (by rw [k10]; rfl) (by decide) ?_
        exact lw_10 hst hLC hs (by omega) (by omega) kk hP hS hl
      rw [if_neg k10] at hs
      by_cases k11 : v &&& 63 = 11
      · rw [if_pos k11] at hs
        refine lv_tableIn (off := 810) (tgt := 849) hx hb dL_law_39 (by rw [k11]; decide) (by rw [k11]; decide) (by rw [k11]; rfl) (by decide) ?_
        exact lw_11 hst hLC hs (by omega) (by omega) kk hP hS hl
      rw [if_neg k11] at hs
      by_cases k12 : v &&& 63 = 12
      · rw [if_pos k12] at hs
        refine lv_tableIn (off := 878) (tgt := 917) hx hb dL_law_39 (by rw [k12]; decide) (by rw [k12]; decide) (by rw [k12]; rfl) (by decide) ?_
        exact lw_12 hst hLC hs (by omega) (by omega) kk hP hS hl
      rw [if_neg k12] at hs
      by_cases k13 : v &&& 63 = 13
      · rw [if_pos k13] at hs
        refine lv_tableIn (off := 946) (tgt := 985) hx hb dL_law_39 (by rw [k13]; decide) (by rw [k13]; decide) (by rw [k13]; rfl) (by decide) ?_
        exact lw_13 hst hLC hs (by omega) (by omega) kk hP hS hl
      rw [if_neg k13] at hs
      by_cases k14 : v &&& 63 = 14
      · rw [if_pos k14] at hs
        refine lv_tableIn (off := 1002) (tgt := 1041) hx hb dL_law_39 (by rw [k14]; decide) (by rw [k14]; decide) (by rw [k14]; rfl) (by decide) ?_
        exact lw_14 hst hLC hs (by omega) (by omega) kk hP hS hl
      rw [if_neg k14] at hs
      by_cases k15 : v &&& 63 = 15
      · rw [if_pos k15] at hs
        refine lv_tableIn (off := 1093) (tgt := 1132) hx hb dL_law_39 (by rw [k15]; decide) (by rw [k15]; decide) (by rw [k15]; rfl) (by decide) ?_
        exact lw_15 hst hLC hs (by omega) (by omega) kk hP hS hl
      rw [if_neg k15] at hs
      by_cases k16 : v &&& 63 = 16
      · rw [if_pos k16] at hs
        refine lv_tableIn (off := 1161) (tgt := 1200) hx hb dL_law_39 (by rw [k16]; decide) (by rw [k16]; decide) (by rw [k16]; rfl) (by decide) ?_
        exact lw_16 hst hLC hs (by omega) (by omega) kk hP hS hl
      rw [if_neg k16] at hs
      by_cases k17 : v &&& 63 = 17
      · rw [if_pos k17] at hs
        refine lv_tableIn (off := 1229) (tgt := 1268) hx hb dL_law_39 (by rw [k17]; decide) (by rw [k17]; decide) (by rw [k17]; rfl) (by decide) ?_
        exact lw_17 hst hLC hs (by omega) (by omega) kk hP hS hl
      rw [if_neg k17] at hs
      by_cases k18 : v &&& 63 = 18
      · rw [if_pos k18] at hs
        refine lv_tableIn (off := 1297) (tgt := 1336) hx hb dL_law_39 (by rw [k18]; decide) (by rw [k18]; decide) (by rw [k18]; rfl) (by decide) ?_
        exact lw_18 hst hLC hs (by omega) (by omega) kk hP hS hl
      rw [if_neg k18] at hs
      by_cases k19 : v &&& 63 = 19
      · rw [if_pos k19] at hs
        refine lv_tableIn (off := 1365) (tgt := 1404) hx hb dL_law_39 (by rw [k19]; decide) (by rw [k19]; decide) (by rw [k19]; rfl) (by decide) ?_
        exact lw_19 hst hLC hs (by omega) (by omega) kk hP hS hl
      rw [if_neg k19] at hs
      by_cases k20 : v &&& 63 = 20
      · rw [if_pos k20] at hs
        refine lv_tableIn (off := 1433) (tgt := 1472) hx hb dL_law_39 (by rw [k20]; decide) (by rw [k20]; decide) (by rw [k20]; rfl) (by decide) ?_
        exact lw_20 hst hLC hs (by omega) (by omega) kk hP hS hl
      rw [if_neg k20] at hs
      by_cases k21 : v &&& 63 = 21
      · rw [if_pos k21] at hs
        refine lv_tableIn (off := 1501) (tgt := 1540) hx hb dL_law_39 (by rw [k21]; decide) (by rw [k21]; decide) (by rw [k21]; rfl) (by decide) ?_
        exact lw_21 hst hLC hs (by omega) (by omega) kk hP hS hl
      rw [if_neg k21] at hs
      by_cases k22 : v &&& 63 = 22
      · rw [if_pos k22] at hs
        refine lv_tableIn (off := 1557) (tgt := 1596) hx hb dL_law_39 (by rw [k22]; decide) (by rw [k22]; decide) (by rw [k22]; rfl) (by decide) ?_
        exact lw_22 hst hLC hs (by omega) (by omega) kk hP hS hl
      rw [if_neg k22] at hs
      by_cases k23 : v &&& 63 = 23
      · rw [if_pos k23] at hs
        refine lv_tableIn (off := 1570) (tgt := 1609) hx hb dL_law_39 (by rw [k23]; decide) (by rw [k23]; decide) (by rw [k23]; rfl) (by decide) ?_
        exact lw_23 hst hLC hs (by omega) (by omega) kk hP hS hl
      rw [if_neg k23] at hs
      by_cases k24 : v &&& 63 = 24
      · rw [if_pos k24] at hs
        refine lv_tableIn (off := 1638) (tgt := 1677) hx hb dL_law_39 (by rw [k24]; decide) (by rw [k24]; decide) (by rw [k24]; rfl) (by decide) ?_
        exact lw_24 hst hLC hs (by omega) (by omega) kk hP hS hl
      rw [if_neg k24] at hs
      by_cases k25 : v &&& 63 = 25
      · rw [if_pos k25] at hs
        refine lv_tableIn (off := 1706) (tgt := 1745) hx hb dL_law_39 (by rw [k25]; decide) (by rw [k25]; decide) (by rw [k25]; rfl) (by decide) ?_
        exact lw_25 hst hLC hs (by omega) (by omega) kk hP hS hl
      rw [if_neg k25] at hs
      by_cases k26 : v &&& 63 = 26
      · rw [if_pos k26] at hs
        refine lv_tableIn (off := 1762) (tgt := 1801) hx hb dL_law_39 (by rw [k26]; decide) (by rw [k26]; decide) (by rw [k26]; rfl) (by decide) ?_
        exact lw_26 hst hLC hs (by omega) (by omega) kk hP hS hl
      rw [if_neg k26] at hs
      by_cases k27 : v &&& 63 = 27
      · rw [if_pos k27] at hs
        refine lv_tableIn (off := 1818) (tgt := 1857) hx hb dL_law_39 (by rw [k27]; decide) (by rw [k27]; decide) (by rw [k27]; rfl) (by decide) ?_
        exact lw_27 hst hLC hs (by omega) (by omega) kk hP hS hl
      rw [if_neg k27] at hs
      by_cases k28 : v &&& 63 = 28
      · rw [if_pos k28] at hs
        refine lv_tableIn (off := 1886) (tgt := 1925) hx hb dL_law_39 (by rw [k28]; decide) (by rw [k28]; decide) (by rw [k28]; rfl) (by decide) ?_
        exact lw_28 hst hLC hs (by omega) (by omega) kk hP hS hl
      rw [if_neg k28] at hs
      by_cases k29 : v &&& 63 = 29
      · rw [if_pos k29] at hs
        refine lv_tableIn (off := 1899) (tgt := 1938) hx hb dL_law_39 (by rw [k29]; decide) (by rw [k29]; decide) (by rw [k29]; rfl) (by decide) ?_
        exact lw_29 hst hLC hs (by omega) (by omega) kk hP hS hl
      rw [if_neg k29] at hs
      by_cases k30 : v &&& 63 = 30
      · rw [if_pos k30] at hs
        refine lv_tableIn (off := 1912) (tgt := 1951) hx hb dL_law_39 (by rw [k30]; decide) (by rw [k30]; decide) (by rw [k30]; rfl) (by decide) ?_
        exact lw_30 hst hLC hs (by omega) (by omega) kk hP hS hl
      rw [if_neg k30] at hs
      by_cases k31 : v &&& 63 = 31
      · rw [if_pos k31] at hs
        refine lv_tableIn (off := 1968) (tgt := 2007) hx hb dL_law_39 (by rw [k31]; decide) (by rw [k31]; decide) (by rw [k31]; rfl) (by decide) ?_
        exact lw_31 hst hLC hs (by omega) (by omega) kk hP hS hl
      rw [if_neg k31] at hs
      by_cases k32 : v &&& 63 = 32
      · rw [if_pos k32] at hs
        refine lv_tableIn (off := 2024) (tgt := 2063) hx hb dL_law_39 (by rw [k32]; decide) (by rw [k32]; decide) (by rw [k32]; rfl) (by decide) ?_
        exact lw_32 hst hLC hs (by omega) (by omega) kk hP hS hl
      rw [if_neg k32] at hs
      by_cases k33 : v &&& 63 = 33
      · rw [if_pos k33] at hs
        refine lv_tableIn (off := 2068) (tgt := 2107) hx hb dL_law_39 (by rw [k33]; decide) (by rw [k33]; decide) (by rw [k33]; rfl) (by decide) ?_
        exact lw_33 hst hLC hs (by omega) (by omega) kk hP hS hl
      rw [if_neg k33] at hs
      by_cases k34 : v &&& 63 = 34
      · rw [if_pos k34] at hs
        refine lv_tableIn (off := 2081) (tgt := 2120) hx hb dL_law_39 (by rw [k34]; decide) (by rw [k34]; decide) (by rw [k34]; rfl) (by decide) ?_
        exact lw_34 hst hLC hs (by omega) (by omega) kk hP hS hl
      rw [if_neg k34] at hs
      cases hs
      refine lv_tableOut (tgt := 2164) hx hb dL_law_39 (tsw_0_34 k0 k1 k2 k3 k4 k5 k6 k7 k8 k9 k10 k11 k12 k13 k14 k15 k16 k17 k18 k19 k20 k21 k22 k23 k24 k25 k26 k27 k28 k29 k30 k31 k32 k33 k34) (by decide) ?_
      exact kk H locs ls ce se (by omega) (by omega) hP hS hl
