/-! what describe answers -/
section DR
variable {p : Program} {l : Launch} {e : Env} {R : Room} {s : State} {m : MethodId} {args : Array Value} {below : List Frame} {meth : Method} {c : Code} {H : Heap} {locs : List Loc} {cells slots : Nat} {Q : State → Prop}
variable {pc : Nat} {ls : Array Slot} {rest st0 : List Value} {own : String} {cc : ByteArray} {nL : Nat} {yo : Cond} {reto : Option FieldType} {γ : GA} {σ σ' : GS}
variable {y : MethodName} {bytes : ByteArray} {maxL h h' mc ms mc' ms' n idx k : Nat} {ret : Option FieldType} {Qc : Array Value → State → Outcome → State → Prop} {free : Addr → Prop} {As : List Value}
theorem t_runV (hC : gCtx p s m args meth c own cc nL yo reto γ) (hZ : gZs (gA γ s.heap.size) s s.heap) (hP : va_P γ.1 vwCl (gw γ σ) H) (hS : va_S (gA γ s.heap.size) s.heap H locs) {ci N : Nat} {fs : List Value} {Tt : u_T} (hM : Met l y (gU y bytes maxL ret) (gR h mc ms) (gPx γ (.ref (ad γ k) :: As) H.size σ) Qc mc ms free) (hk : k < 143) (he : gcell γ σ k = .inr (ci, fs)) (hc : vwCl[ci]? = some (y.cls, Tt, N))
    (u1 : Cond.methodLink own idx y ∈ UG) (hy : gYV y bytes maxL ret n) (hh : h + 1 ≤ h')
    (hn : As.length = n) (hls : ls.size = nL) (hst : st0 = As.reverse ++ .ref (ad γ k) :: rest) (hW : (rest.map fun v => v.category).sum ≤ 8) (hdg : decode cc pc = .ok (.invokevirtual idx, 3)) (hf : cells + mc ≤ mc' ∧ slots + ms ≤ ms') :
    va_Run p l e (gR h' mc' ms') s m args below meth c H locs cells slots mc ms (F0 m pc ls st0) rest (Qc (Value.ref (ad γ k) :: As).toArray) free :=
  va_runV (C := y.cls) hC.1 hM ⟨gCB hC u1 hy.2.2.1 hy.2.2.2.1 hy.2.2.2.2.1 hh hy.2.2.2.2.2, hC.w hy.1, hC.w hy.2.1⟩ ⟨gPx_blind, va_recv hC.k hP (q0 := k) hc (by rw [gw_at hk, he]), gPreZ hC hZ hP hS⟩ rfl hn hls hst (lv_room hW) hdg hf
theorem t_go {a : Array Value} {cs : List Int32} (hr : va_Run p l e R s m args below meth c H locs cells slots mc ms (F0 m pc ls st0) rest (tQ γ σ cs H.size a) (gA γ H.size)) (hS : va_S (gA γ s.heap.size) s.heap H locs)
    (kk : ∀ (o v : Nat) (f : Nat → Int32) (H : Heap) (locs : List Loc), tx cs f → va_P γ.1 vwCl (tw γ σ o v cs f) H → va_D (gA γ s.heap.size) (tw γ σ o v cs f) → va_S (gA γ s.heap.size) s.heap H locs → W p l e R s m args below meth c H locs (cells + mc) (slots + ms) Q (F0 m (pc + 3) ls (.ref o :: rest))) : W p l e R s m args below meth c H locs cells slots Q (F0 m pc ls st0) :=
  va_callr hr hS (gA_step hS rfl).1 (gA_step hS rfl).2 (fun u ra t H1 locs1 ht hvm hw hB hz hk hS1 => by
    subst ht
    obtain ⟨h1, h2, h3⟩ := hB
    rw [h1]
    exact kk u.1 u.2.1 u.2.2 _ _ hw h2 (h3.weaken (fun _ _ _ h => gA_le hS.1 h)) hS1)
end DR
theorem chAt_in {cs : List Int32} {i v : Int32} (h : chAt cs i = some v) : ∃ j, i = nI j ∧ j < cs.length ∧ j < 2 ^ 31 ∧ v = cs.getD j 0 := by
  unfold chAt at h
  split at h
  · cases h
  · next hn =>
    obtain ⟨j, hj, rfl⟩ := nI_of (fun z => hn (Or.inl z))
    rw [nI_clamp hj] at h hn
    exact ⟨j, rfl, Nat.lt_of_not_le (fun z => hn (Or.inr z)), hj, (Option.some.inj h).symm⟩
theorem yv_X4_describe : gYV yX4_describe cX4_describe 4 (some .int) 2 := ⟨u_3_147, u_3_148, u_1_1, u_3_149, ⟨by decide +kernel, by decide +kernel, by decide +kernel⟩, by decide⟩
set_option maxHeartbeats 4000000 in
set_option maxRecDepth 100000 in
theorem c4_describe (l : Launch) (hst : l.stackTraces = false) {γ : GA} {sz : Nat} {T P X Y B M : OS} {E : Nat → OS} {O : Nat → Int64} {x1 : Int32} {x2 : Int32} {o0 : Nat ⊕ Int32} (h : r4_describe T x1 x2 = some o0) : vx_Met l yX4_describe (gU yX4_describe cX4_describe 4 (some .int)) (gR 14 12 72) (gPx γ [.ref (ad γ 0), .int x1, .int x2] sz (T, P, X, Y, E, B, M, O)) (gQxi γ o0 sz (T, P, X, Y, E, B, M, O)) (gXC γ o0 sz (T, P, X, Y, E, B, M, O)) 12 72 (gA γ sz) := by
  refine g_metx hst (fun sz => gQxi γ o0 sz (T, P, X, Y, E, B, M, O)) (fun sz => gXC γ o0 sz (T, P, X, Y, E, B, M, O)) (by decide) (Nat.le_of_ble_eq_true rfl) ?_
  intro p e s m args below meth c ls hC hX hP hS hl
  have hx := hC.x
  have hb := hC.b
  have hZ := hX.1
  have hA : ∀ q, s.heap.size ≤ q → gA γ s.heap.size q := fun q h => Or.inr h
  have hl : lv_has ls 4 [(0, .ref (ad γ 0)), (1, .int x1), (2, .int x2)] := hl
  unfold r4_describe at h
  refine lv_aload_n hx hb dX4_describe_0 rfl (lv_at hl 0 rfl) ?_
  refine lv_iload_n hx hb dX4_describe_1 rfl (lv_at hl 1 rfl) ?_
  obtain ⟨o1, hw3, h⟩ := bd1_e h
  rcases o1 with k2 | ⟨⟩
  · have h := bx_l h
    cases h
    exact g_xkev hC hX (g_xrunV (As := [.int x1]) (rest := []) hC hX hP hS (c4_requireEvent l hst hw3) (by decide) ge_0 rfl u_3_114 yv_X4_requireEvent (Nat.le_of_ble_eq_true rfl) rfl hl.1 rfl (Nat.le_of_ble_eq_true rfl) dX4_describe_2 ⟨by decide, by decide⟩) hS rfl (by decide) (by decide)
  have h := bx_r h
  refine g_xkv (g_xrunV (As := [.int x1]) (rest := []) hC hX hP hS (c4_requireEvent l hst hw3) (by decide) ge_0 rfl u_3_114 yv_X4_requireEvent (Nat.le_of_ble_eq_true rfl) rfl hl.1 rfl (Nat.le_of_ble_eq_true rfl) dX4_describe_2 ⟨by decide, by decide⟩) hS (fun H locs hP hS => ?_)
  obtain ⟨cs, hcs, h⟩ := ob h
  refine lv_aload_n hx hb dX4_describe_5 rfl (lv_at hl 0 rfl) ?_
  refine g_get hC hP 0 dX4_describe_6 (by decide) ge_0 rfl inX4 (by decide) rfl u_1_188 ?_
  refine lv_iload_n hx hb dX4_describe_9 rfl (lv_at hl 1 rfl) ?_
  refine t_go (t_runV (As := [.int x1]) (rest := []) hC hZ hP hS (c3_textOf l hcs) (by decide) ge_1 rfl u_3_150 yv_X3_textOf (Nat.le_of_ble_eq_true rfl) rfl hl.1 rfl (Nat.le_of_ble_eq_true rfl) dX4_describe_10 ⟨by decide, by decide⟩) hS (fun o v f H locs ht hP hD hS => ?_)
  refine lv_astore_n (lv' := [(3, .ref o), (0, .ref (ad γ 0)), (1, .int x1), (2, .int x2)]) hx hb dX4_describe_13 rfl hl (by decide) rfl (fun ls hl => ?_)
  refine lv_iload_n hx hb dX4_describe_14 rfl (lv_at hl 3 rfl) ?_
  refine lv_iconst (v := (-1)) hx hb dX4_describe_15 (by decide) ?_
  refine lv_icmp_ne (tgt := 24) hx hb dX4_describe_16 (by decide) (fun c1 => ?_) (fun c1 => ?_)
  · rw [if_neg c1] at h
    refine lv_iload_n hx hb dX4_describe_24 rfl (lv_at hl 3 rfl) ?_
    refine lv_aload_n hx hb dX4_describe_25 rfl (lv_at hl 0 rfl) ?_
    refine j_gok (ws := gw γ (T, P, X, Y, E, B, M, O)) (wb := jw γ o v (cp cs.length) cs.length f) (j_runV (As := []) (rest := [.int x2]) (ws := gw γ (T, P, X, Y, E, B, M, O)) (wb := jw γ o v (cp cs.length) cs.length f) hC hZ hA hP hD hS 0 (c4_length l) rfl rfl u_4_70 yv_J4_length (Nat.le_of_ble_eq_true rfl) rfl hl.1 rfl (Nat.le_of_ble_eq_true rfl) dX4_describe_26 ⟨by decide, by decide⟩) hP hD hS hA (fun H locs hP hD hS => ?_)
    obtain ⟨o3, hw6, h⟩ := bd1_e h
    rcases o3 with k5 | ⟨⟩
    · have h := bx_l h
      cases h
      exact g_xkev hC hX (g_xrunS (As := [.int x2, .int (nI cs.length)]) (rest := []) hC hX (j_L hP) hS (c4_requireIndex l hst hw6) u_2_133 yv_X4_requireIndex (Nat.le_of_ble_eq_true rfl) rfl hl.1 rfl (Nat.le_of_ble_eq_true rfl) dX4_describe_29 ⟨by decide, by decide⟩) hS rfl (by decide) (by decide)
    have h := bx_r h
    refine t_xkv (wb := jw γ o v (cp cs.length) cs.length f) (σ := (T, P, X, Y, E, B, M, O)) (g_xrunS (As := [.int x2, .int (nI cs.length)]) (rest := []) hC hX (j_L hP) hS (c4_requireIndex l hst hw6) u_2_133 yv_X4_requireIndex (Nat.le_of_ble_eq_true rfl) rfl hl.1 rfl (Nat.le_of_ble_eq_true rfl) dX4_describe_29 ⟨by decide, by decide⟩) hP hD hS (fun H locs hP hD hS => ?_)
    obtain ⟨w, hch, h⟩ := ob h
    cases h
    obtain ⟨j, rfl, hj, hj2, hw⟩ := chAt_in hch
    obtain ⟨k, hk, hfk⟩ := ht.2.1 j
    have hwk : w = nI k := by rw [hw, ← ht.1 j hj, hfk]
    refine lv_aload_n hx hb dX4_describe_32 rfl (lv_at hl 0 rfl) ?_
    refine lv_iload_n hx hb dX4_describe_33 rfl (lv_at hl 3 rfl) ?_
    have hlen : cs.length ≤ cp cs.length := cp_ge ht.2.2
    · refine j_gok (ws := gw γ (T, P, X, Y, E, B, M, O)) (wb := jw γ o v (cp cs.length) cs.length f) (j_runV (As := [.int (nI j)]) (rest := []) (ws := gw γ (T, P, X, Y, E, B, M, O)) (wb := jw γ o v (cp cs.length) cs.length f) hC hZ hA hP hD hS 0 (c4_charAt l hj hlen (cp_le _) hk hfk) rfl rfl u_4_77 yv_J4_charAt (Nat.le_of_ble_eq_true rfl) rfl hl.1 rfl (Nat.le_of_ble_eq_true rfl) dX4_describe_34 ⟨by decide, by decide⟩) hP hD hS hA (fun H locs hP hD hS => ?_)
      refine W.widen (k := 12) (n := 72) (by decide) (by decide) ?_
      exact g_xiret hC (j_L hP) hS dX4_describe_37 (by rw [hwk])
  · rw [if_pos c1] at h
    cases h
    refine lv_aload_n hx hb dX4_describe_19 rfl (lv_at hl 0 rfl) ?_
    refine j_gok (ws := gw γ (T, P, X, Y, E, B, M, O)) (wb := jw γ o v (cp cs.length) cs.length f) (j_runV (As := []) (rest := []) (ws := gw γ (T, P, X, Y, E, B, M, O)) (wb := jw γ o v (cp cs.length) cs.length f) hC hZ hA hP hD hS 0 (c4_length l) rfl rfl u_4_70 yv_J4_length (Nat.le_of_ble_eq_true rfl) rfl hl.1 rfl (Nat.le_of_ble_eq_true rfl) dX4_describe_20 ⟨by decide, by decide⟩) hP hD hS hA (fun H locs hP hD hS => ?_)
    refine W.widen (k := 12) (n := 72) (by decide) (by decide) ?_
    exact g_xiret hC (j_L hP) hS dX4_describe_23 rfl
