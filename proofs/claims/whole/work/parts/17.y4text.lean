/-! the text of an event -/
abbrev tw (γ : GA) (σ : GS) (o v : Nat) (cs : List Int32) (f : Nat → Int32) : va_W := gw γ σ ++ jw γ o v (cp cs.length) cs.length f
theorem kc_mono {a b : Nat} (h : a ≤ b) : kc a ≤ kc b := by unfold kc; split <;> split <;> omega
theorem kc_le (a : Nat) : kc a ≤ 1 := by unfold kc; split <;> decide
def tQ (γ : GA) (σ : GS) (cs : List Int32) (sz : Nat) : Array Value → State → Outcome → State → Prop := va_Qr (fun u : Nat × Nat × (Nat → Int32) => tx cs u.2.2) (fun u q t => q = u.1 ∧ va_P γ.1 vwCl (tw γ σ u.1 u.2.1 cs u.2.2) t.heap ∧ va_D (gA γ sz) (tw γ σ u.1 u.2.1 cs u.2.2)) (gA γ sz)
theorem app_in {cs d r : List Int32} (h : app cs d = some r) : cs.length + d.length ≤ 34 ∧ r = cs ++ d := by
  unfold app at h
  split at h
  · next h1 => exact ⟨h1, (Option.some.inj h).symm⟩
  · cases h
theorem t_met {l : Launch} {y : MethodName} {bytes : ByteArray} {maxL h mc ms sz : Nat} {ret : Option FieldType} {γ : GA} {av : List Value} {σ : GS} (Qc : Nat → Array Value → State → Outcome → State → Prop) (hy : plainName y.cls = true) (hn : (lg_sl av).length ≤ maxL)
    (body : ∀ (p : Program) (e : Env) (s : State) (m : MethodId) (args : Array Value) (below : List Frame) (meth : Method) (c : Code) (ls : Array Slot), gCtx p s m args meth c y.cls bytes maxL (Cond.code y bytes maxL ret) ret γ → gZs (gA γ s.heap.size) s s.heap → va_P γ.1 vwCl (gw γ σ) s.heap → va_S (gA γ s.heap.size) s.heap s.heap [] → lv_has ls maxL (lv_args 0 av) →
      W p l e (gR h mc ms) s m args below meth c s.heap [] 0 0 (MQ below (Qc s.heap.size) args s mc ms (gA γ s.heap.size)) (F0 m 0 ls [])) : Met l y (gU y bytes maxL ret) (gR h mc ms) (gPx γ av sz σ) (Qc sz) mc ms (gA γ sz) := by
  refine Met.ofW (cc := bytes) (maxL := maxL) (ret := ret) hy rfl ?_
  intro p e s m args below meth c s₁ B hml hv
  obtain ⟨rfl, ⟨hsz, hP, hE, hj⟩, hZ⟩ := hv
  subst hsz
  rw [lg_entry_eq]
  exact body p e s m _ below meth c _ ⟨⟨B.exec, B.bytes, hml, findClass_of_methodNamed B.named, atoms_spec (ws := gU y bytes maxL ret) B.pre⟩, hE, hj, B.returns, B.notSynchronized⟩ hZ hP va_S.rf (lv_entry av hn)
theorem gw_len (γ : GA) (σ : GS) : (gw γ σ).length = 143 := by simp [gw]
/-- a call over the one world keeps what stands beside it -/
theorem t_keep {γ : GA} {σ σ' : GS} {A : Nat → Prop} {wb : va_W} {H H1 : Heap} (hP : va_P γ.1 vwCl (gw γ σ ++ wb) H) (hD : va_D A (gw γ σ ++ wb)) (hB : va_P γ.1 vwCl (gw γ σ') H1) (hk : ∀ q : Nat, q < H.size → ¬ gA γ H.size q → H1[q]? = H[q]?) : va_P γ.1 vwCl (gw γ σ' ++ wb) H1 := by
  refine va_P.app hB ((j_R hP).kept (fun i p hi => ?_))
  have hlt : p.1 < H.size := (j_R hP i p hi).lt
  refine hk p.1 hlt (fun h => ?_)
  rcases h with ⟨k, hk, he⟩ | h
  · have h1 : (gw γ σ ++ wb)[k]? = some (ad γ k, gcell γ σ k) := by rw [List.getElem?_append_left (by rw [gw_len]; exact hk)]; exact gw_at hk
    have h2 : (gw γ σ ++ wb)[143 + i]? = some p := by
      rw [List.getElem?_append_right (by rw [gw_len]; omega), gw_len, Nat.add_sub_cancel_left]
      exact hi
    have := hD.1 k (143 + i) _ _ h1 h2 he.symm
    omega
  · omega
theorem t_D {γ : GA} {σ σ' : GS} {A : Nat → Prop} {wb : va_W} (hD : va_D A (gw γ σ ++ wb)) : va_D A (gw γ σ' ++ wb) := by
  have key : ∀ (k : Nat) (q : Nat × va_E), (gw γ σ' ++ wb)[k]? = some q → ∃ q', (gw γ σ ++ wb)[k]? = some q' ∧ q'.1 = q.1 := by
    intro k q hk
    by_cases h : k < 143
    · rw [List.getElem?_append_left (by rw [gw_len]; exact h), gw_at h] at hk
      refine ⟨(ad γ k, gcell γ σ k), ?_, ?_⟩
      · rw [List.getElem?_append_left (by rw [gw_len]; exact h)]; exact gw_at h
      · cases hk; rfl
    · refine ⟨q, ?_, rfl⟩
      rw [List.getElem?_append_right (by rw [gw_len]; omega), gw_len] at hk ⊢
      exact hk
  refine ⟨fun i j p q hi hj hpq => ?_, fun k q hk => ?_⟩
  · obtain ⟨p', h1, h2⟩ := key i p hi
    obtain ⟨q', h3, h4⟩ := key j q hj
    exact hD.1 i j p' q' h1 h3 (by rw [h2, h4]; exact hpq)
  · obtain ⟨q', h1, h2⟩ := key k q hk
    rw [← h2]
    exact hD.2 k q' h1
section TR
variable {p : Program} {l : Launch} {e : Env} {R : Room} {s : State} {m : MethodId} {args : Array Value} {below : List Frame} {meth : Method} {c : Code} {H : Heap} {locs : List Loc} {cells slots : Nat} {Q : State → Prop}
variable {pc : Nat} {ls : Array Slot} {rest st0 : List Value} {own : String} {cc : ByteArray} {nL : Nat} {yo : Cond} {reto : Option FieldType} {γ : GA} {A : Nat → Prop} {ws wb : va_W} {σ σ' : GS}
theorem t_ki {a : Array Value} {r : Int32} {mc ms : Nat} (hr : va_Run p l e R s m args below meth c H locs cells slots mc ms (F0 m pc ls st0) rest (gQi γ r H.size σ' a) (gA γ H.size)) (hP : va_P γ.1 vwCl (gw γ σ ++ wb) H) (hD : va_D (gA γ s.heap.size) (gw γ σ ++ wb)) (hS : va_S (gA γ s.heap.size) s.heap H locs)
    (kk : ∀ (H : Heap) (locs : List Loc), va_P γ.1 vwCl (gw γ σ' ++ wb) H → va_D (gA γ s.heap.size) (gw γ σ' ++ wb) → va_S (gA γ s.heap.size) s.heap H locs → W p l e R s m args below meth c H locs (cells + mc) (slots + ms) Q (F0 m (pc + 3) ls (.int r :: rest))) : W p l e R s m args below meth c H locs cells slots Q (F0 m pc ls st0) :=
  va_calli hr hS (gA_step hS rfl).1 (gA_step hS rfl).2 (fun r' u t H1 locs1 ht hvm hw hB hz hk hS1 => by subst hw; subst ht; exact kk _ _ (t_keep hP hD hB hk) (t_D hD) hS1)
theorem t_xkv {a : Array Value} {mc ms : Nat} (hr : vx_Run p l e R s m args below meth c H locs cells slots mc ms (F0 m pc ls st0) rest (gQxv γ (.inr ()) H.size σ' a) (gXC γ (.inr () : Nat ⊕ Unit) H.size σ') (gA γ H.size)) (hP : va_P γ.1 vwCl (gw γ σ ++ wb) H) (hD : va_D (gA γ s.heap.size) (gw γ σ ++ wb)) (hS : va_S (gA γ s.heap.size) s.heap H locs)
    (kk : ∀ (H : Heap) (locs : List Loc), va_P γ.1 vwCl (gw γ σ' ++ wb) H → va_D (gA γ s.heap.size) (gw γ σ' ++ wb) → va_S (gA γ s.heap.size) s.heap H locs → W p l e R s m args below meth c H locs (cells + mc) (slots + ms) Q (F0 m (pc + 3) ls rest)) : W p l e R s m args below meth c H locs cells slots Q (F0 m pc ls st0) :=
  vx_callv hr hS (gA_step hS rfl).1 (gA_step hS rfl).2 (gA_step hS rfl).1 (fun E ce q9 u t H1 locs1 ht hvm hpx => nomatch hpx) (fun u t H1 locs1 ht hvm hw hB hz hk hS1 => by subst ht; exact kk _ _ (t_keep hP hD hB hk) (t_D hD) hS1)
section TCall
variable {idx h' mc' ms' o v : Nat} {cs cs' d : List Int32} {f : Nat → Int32} {x : Int32}
theorem t_appI (hC : gCtx p s m args meth c own cc nL yo reto γ) (hZ : gZs A s s.heap) (hA : ∀ q, s.heap.size ≤ q → A q) (hP : va_P γ.1 vwCl (tw γ σ o v cs f) H) (hD : va_D A (tw γ σ o v cs f)) (hS : va_S A s.heap H locs) (ht : tx cs f) (hd : dgs x = some d) (ha : app cs d = some cs')
    (u1 : Cond.methodLink own idx yJ4_append_bf812 ∈ UG) (hh : 6 ≤ h') (hls : ls.size = nL) (hW : (rest.map fun v => v.category).sum ≤ 8) (hdg : decode cc pc = .ok (.invokevirtual idx, 3)) (hf : 3 ≤ mc' ∧ 54 ≤ ms')
    (kk : ∀ (v : Nat) (f : Nat → Int32) (H : Heap) (locs : List Loc), tx cs' f → va_P γ.1 vwCl (tw γ σ o v cs' f) H → va_D A (tw γ σ o v cs' f) → va_S A s.heap H locs → W p l e (gR h' mc' ms') s m args below meth c H locs (2 + kc cs'.length) (20 + 34 * kc cs'.length) Q (F0 m (pc + 3) ls (.ref o :: rest))) : W p l e (gR h' mc' ms') s m args below meth c H locs (2 + kc cs.length) (20 + 34 * kc cs.length) Q (F0 m pc ls (.int x :: .ref o :: rest)) := by
  obtain ⟨k, hk, rfl, rfl⟩ := dgs_of hd
  obtain ⟨hn, rfl⟩ := app_in ha
  rw [dd_len] at hn
  have e1 : (cs ++ dd k).length = cs.length + dl k := by rw [List.length_append, dd_len]
  have h1 := kc_mono (show cs.length ≤ cs.length + dl k by omega)
  have h2 := kc_le (cs.length + dl k)
  refine j_gor (ws := gw γ σ) (wb := jw γ o v (cp cs.length) cs.length f) (j_runV (As := [.int (nI k)]) (rest := rest) (ws := gw γ σ) (wb := jw γ o v (cp cs.length) cs.length f) hC hZ hA hP hD hS 0 (c4_appI l hk hn ht) rfl rfl u1 yv_J4_appI hh rfl hls rfl hW hdg ⟨by omega, by omega⟩) hP hD hS hA (fun u q H locs ht hq hP hD hS => ?_)
  rw [hq, show 2 + kc cs.length + (kc (cs.length + dl k) - kc cs.length) = 2 + kc (cs ++ dd k).length by rw [e1]; omega, show 20 + 34 * kc cs.length + 34 * (kc (cs.length + dl k) - kc cs.length) = 20 + 34 * kc (cs ++ dd k).length by rw [e1]; omega]
  refine kk u.1 u.2 H locs ht ?_ ?_ hS
  · unfold tw; rw [e1]; exact hP
  · unfold tw; rw [e1]; exact hD
theorem t_appC (hC : gCtx p s m args meth c own cc nL yo reto γ) (hZ : gZs A s s.heap) (hA : ∀ q, s.heap.size ≤ q → A q) (hP : va_P γ.1 vwCl (tw γ σ o v cs f) H) (hD : va_D A (tw γ σ o v cs f)) (hS : va_S A s.heap H locs) (ht : tx cs f) (hd : ∃ k, k < 128 ∧ x = nI k) (ha : app cs [x] = some cs')
    (u1 : Cond.methodLink own idx yJ4_append_cf468 ∈ UG) (hh : 6 ≤ h') (hls : ls.size = nL) (hW : (rest.map fun v => v.category).sum ≤ 8) (hdg : decode cc pc = .ok (.invokevirtual idx, 3)) (hf : 3 ≤ mc' ∧ 54 ≤ ms')
    (kk : ∀ (v : Nat) (f : Nat → Int32) (H : Heap) (locs : List Loc), tx cs' f → va_P γ.1 vwCl (tw γ σ o v cs' f) H → va_D A (tw γ σ o v cs' f) → va_S A s.heap H locs → W p l e (gR h' mc' ms') s m args below meth c H locs (2 + kc cs'.length) (20 + 34 * kc cs'.length) Q (F0 m (pc + 3) ls (.ref o :: rest))) : W p l e (gR h' mc' ms') s m args below meth c H locs (2 + kc cs.length) (20 + 34 * kc cs.length) Q (F0 m pc ls (.int x :: .ref o :: rest)) := by
  obtain ⟨k, hk, rfl⟩ := hd
  obtain ⟨hn, rfl⟩ := app_in ha
  rw [List.length_singleton] at hn
  have e1 : (cs ++ [nI k]).length = cs.length + 1 := by rw [List.length_append, List.length_singleton]
  have h1 := kc_mono (show cs.length ≤ cs.length + 1 by omega)
  have h2 := kc_le (cs.length + 1)
  refine j_gor (ws := gw γ σ) (wb := jw γ o v (cp cs.length) cs.length f) (j_runV (As := [.int (nI k)]) (rest := rest) (ws := gw γ σ) (wb := jw γ o v (cp cs.length) cs.length f) hC hZ hA hP hD hS 0 (c4_appC l hk (by omega) ht) rfl rfl u1 yv_J4_appC hh rfl hls rfl hW hdg ⟨by omega, by omega⟩) hP hD hS hA (fun u q H locs ht hq hP hD hS => ?_)
  rw [hq, show 2 + kc cs.length + (kc (cs.length + 1) - kc cs.length) = 2 + kc (cs ++ [nI k]).length by rw [e1]; omega, show 20 + 34 * kc cs.length + 34 * (kc (cs.length + 1) - kc cs.length) = 20 + 34 * kc (cs ++ [nI k]).length by rw [e1]; omega]
  refine kk u.1 u.2 H locs ht ?_ ?_ hS
  · unfold tw; rw [e1]; exact hP
  · unfold tw; rw [e1]; exact hD
end TCall
end TR
theorem dgs_2 : dgs 2 = some [50] := by decide +kernel
theorem sg_58 : ∃ k, k < 128 ∧ (58 : Int32) = nI k := ⟨58, by decide, rfl⟩
theorem sg_44 : ∃ k, k < 128 ∧ (44 : Int32) = nI k := ⟨44, by decide, rfl⟩
theorem sg_47 : ∃ k, k < 128 ∧ (47 : Int32) = nI k := ⟨47, by decide, rfl⟩
theorem sg_42 : ∃ k, k < 128 ∧ (42 : Int32) = nI k := ⟨42, by decide, rfl⟩
set_option maxHeartbeats 4000000 in
set_option maxRecDepth 100000 in
theorem c3_textOf (l : Launch) {γ : GA} {sz : Nat} {T P X Y B M : OS} {E : Nat → OS} {O : Nat → Int64} {x1 : Int32} {cs0 : List Int32} (h : r3_textOf T x1 = some cs0) : Met l yX3_textOf (gU yX3_textOf cX3_textOf 5 (some (.object "java/lang/StringBuilder"))) (gR 6 3 54) (gPx γ [.ref (ad γ 1), .int x1] sz (T, P, X, Y, E, B, M, O)) (tQ γ (T, P, X, Y, E, B, M, O) cs0 sz) 3 54 (gA γ sz) := by
  refine t_met (fun sz => tQ γ (T, P, X, Y, E, B, M, O) cs0 sz) (by decide) (Nat.le_of_ble_eq_true rfl) ?_
  intro p e s m args below meth c ls hC hZ hP hS hl
  have hx := hC.x
  have hb := hC.b
  have hA : ∀ q, s.heap.size ≤ q → gA γ s.heap.size q := fun q h => Or.inr h
  have hD : va_D (gA γ s.heap.size) (gw γ (T, P, X, Y, E, B, M, O)) := gS_D hC
  have hl : lv_has ls 5 [(0, .ref (ad γ 1)), (1, .int x1)] := hl
  unfold r3_textOf at h
  obtain ⟨v1, hv1, h⟩ := ob h
  obtain ⟨d1, hd1, h⟩ := ob h
  obtain ⟨c1, ha1, h⟩ := ob h
  obtain ⟨c2, hL, h⟩ := bd1_e h
  obtain ⟨v2, hv2, h⟩ := ob h
  refine k_new (ci := 0) (fs := [.null, .int 0, .int 0, .int 0]) hC hP hD hS hA tyJ4 dX3_textOf_0 inJ4' tyJ4_ok u_3_154 u_3_155 u_1_19 rfl (by decide) (Nat.le_of_ble_eq_true rfl) (Nat.le_of_ble_eq_true rfl) (fun o H hP hD hS => ?_)
  refine lv_dup hx hb dX3_textOf_3 rfl ?_
  refine j_gov (ws := gw γ (T, P, X, Y, E, B, M, O)) (wb := jn o) (j_runI (As := []) (rest := [.ref o]) (ws := gw γ (T, P, X, Y, E, B, M, O)) (wb := jn o) hC hZ hA hP hD hS (c4_init l) u_3_156 yi_J4_init (Nat.le_of_ble_eq_true rfl) rfl hl.1 rfl (Nat.le_of_ble_eq_true rfl) dX3_textOf_4 ⟨Nat.le_of_ble_eq_true rfl, Nat.le_of_ble_eq_true rfl⟩) hP hD hS hA (fun v H locs _ hP hD hS => ?_)
  have hP : va_P γ.1 vwCl (tw γ (T, P, X, Y, E, B, M, O) o v [] (fun _ => 0)) H := hP
  have hD : va_D (gA γ s.heap.size) (tw γ (T, P, X, Y, E, B, M, O) o v [] (fun _ => 0)) := hD
  refine W.widen (k := 2 + kc ([] : List Int32).length) (n := 20 + 34 * kc ([] : List Int32).length) (Nat.le_of_ble_eq_true rfl) (Nat.le_of_ble_eq_true rfl) ?_
  have J : ∀ (cs : List Int32) (v : Nat) (f : Nat → Int32) (H : Heap) (locs : List Loc) (ls : Array Slot), r3_textOf_j91 T x1 cs = some cs0 → tx cs f → va_P γ.1 vwCl (tw γ (T, P, X, Y, E, B, M, O) o v cs f) H → va_D (gA γ s.heap.size) (tw γ (T, P, X, Y, E, B, M, O) o v cs f) → va_S (gA γ s.heap.size) s.heap H locs → lv_has ls 5 [(2, .ref o), (0, .ref (ad γ 1)), (1, .int x1)] → W p l e (gR 6 3 54) s m args below meth c H locs (2 + kc cs.length) (20 + 34 * kc cs.length) (MQ below (tQ γ (T, P, X, Y, E, B, M, O) cs0 s.heap.size) args s 3 54 (gA γ s.heap.size)) (F0 m 91 ls []) := by
    intro cs v f H locs ls h ht hP hD hS hl
    unfold r3_textOf_j91 at h
    obtain ⟨v3, hv3, h⟩ := ob h
    refine lv_aload_n hx hb dX3_textOf_91 rfl (lv_at hl 1 rfl) ?_
    refine g_get hC (j_L hP) 8 dX3_textOf_92 (by decide) ge_1 rfl inX3 (by decide) rfl u_1_63 ?_
    refine lv_iload_n hx hb dX3_textOf_95 rfl (lv_at hl 2 rfl) ?_
    refine g_ld hC (j_L hP) dX3_textOf_96 (by decide) ge_10 hv3 ?_
    refine lv_iconst (v := 2) hx hb dX3_textOf_97 (by decide) ?_
    refine lv_icmp_ne (tgt := 112) hx hb dX3_textOf_98 (by decide) (fun c1 => ?_) (fun c1 => ?_)
    · rw [if_neg c1] at h
      cases h
      refine lv_aload_n hx hb dX3_textOf_112 rfl (lv_at hl 0 rfl) ?_
      refine W.widen (k := 3) (n := 54) (by have := kc_le cs0.length; omega) (by have := kc_le cs0.length; omega) ?_
      exact W.aret hC.x hC.b hC.2.2.2.1 (Or.inl ⟨_, rfl⟩) (Or.inr ⟨_, rfl⟩) (fun t ht9 hW => ⟨⟨(o, v, f), o, rfl, ht, rfl, by subst ht9; exact hP, hD⟩, hS.F ht9⟩) hS.2.2 dX3_textOf_113 hC.2.2.2.2
    · rw [if_pos c1] at h
      obtain ⟨c3, ha3, h⟩ := ob h
      obtain ⟨c4, ha4, h⟩ := ob h
      cases h
      refine lv_aload_n hx hb dX3_textOf_101 rfl (lv_at hl 0 rfl) ?_
      refine lv_bipush (v := 42) hx hb dX3_textOf_102 (by decide) ?_
      refine t_appC (rest := []) hC hZ hA hP hD hS ht sg_42 ha3 u_4_29 (Nat.le_of_ble_eq_true rfl) hl.1 (Nat.le_of_ble_eq_true rfl) dX3_textOf_104 ⟨Nat.le_of_ble_eq_true rfl, Nat.le_of_ble_eq_true rfl⟩ (fun v f H locs ht hP hD hS => ?_)
      refine lv_iconst (v := 2) hx hb dX3_textOf_107 (by decide) ?_
      refine t_appI (rest := []) hC hZ hA hP hD hS ht dgs_2 ha4 u_3_184 (Nat.le_of_ble_eq_true rfl) hl.1 (Nat.le_of_ble_eq_true rfl) dX3_textOf_108 ⟨Nat.le_of_ble_eq_true rfl, Nat.le_of_ble_eq_true rfl⟩ (fun v f H locs ht hP hD hS => ?_)
      refine lv_pop hx hb dX3_textOf_111 rfl ?_
      refine lv_aload_n hx hb dX3_textOf_112 rfl (lv_at hl 0 rfl) ?_
      refine W.widen (k := 3) (n := 54) (by have := kc_le cs0.length; omega) (by have := kc_le cs0.length; omega) ?_
      exact W.aret hC.x hC.b hC.2.2.2.1 (Or.inl ⟨_, rfl⟩) (Or.inr ⟨_, rfl⟩) (fun t ht9 hW => ⟨⟨(o, v, f), o, rfl, ht, rfl, by subst ht9; exact hP, hD⟩, hS.F ht9⟩) hS.2.2 dX3_textOf_113 hC.2.2.2.2
  have Z : ∀ (v : Nat) (f : Nat → Int32) (H : Heap) (locs : List Loc) (ls : Array Slot), tx c2 f → va_P γ.1 vwCl (tw γ (T, P, X, Y, E, B, M, O) o v c2 f) H → va_D (gA γ s.heap.size) (tw γ (T, P, X, Y, E, B, M, O) o v c2 f) → va_S (gA γ s.heap.size) s.heap H locs → lv_has ls 5 [(2, .ref o), (0, .ref (ad γ 1)), (1, .int x1)] → W p l e (gR 6 3 54) s m args below meth c H locs (2 + kc c2.length) (20 + 34 * kc c2.length) (MQ below (tQ γ (T, P, X, Y, E, B, M, O) cs0 s.heap.size) args s 3 54 (gA γ s.heap.size)) (F0 m 66 ls []) := by
    intro v f H locs ls ht hP hD hS hl
    refine lv_aload_n hx hb dX3_textOf_66 rfl (lv_at hl 1 rfl) ?_
    refine g_get hC (j_L hP) 7 dX3_textOf_67 (by decide) ge_1 rfl inX3 (by decide) rfl u_1_61 ?_
    refine lv_iload_n hx hb dX3_textOf_70 rfl (lv_at hl 2 rfl) ?_
    refine g_ld hC (j_L hP) dX3_textOf_71 (by decide) ge_9 hv2 ?_
    refine lv_if_eq (tgt := 91) hx hb dX3_textOf_72 (by decide) (fun c1 => ?_) (fun c1 => ?_)
    · rw [if_pos c1] at h
      exact J c2 v f H locs ls h ht hP hD hS hl
    · rw [if_neg c1] at h
      obtain ⟨c3, ha3, h⟩ := ob h
      obtain ⟨d4, hd4, h⟩ := ob h
      obtain ⟨c4, ha4, h⟩ := ob h
      refine lv_aload_n hx hb dX3_textOf_75 rfl (lv_at hl 0 rfl) ?_
      refine lv_bipush (v := 47) hx hb dX3_textOf_76 (by decide) ?_
      refine t_appC (rest := []) hC hZ hA hP hD hS ht sg_47 ha3 u_4_29 (Nat.le_of_ble_eq_true rfl) hl.1 (Nat.le_of_ble_eq_true rfl) dX3_textOf_78 ⟨Nat.le_of_ble_eq_true rfl, Nat.le_of_ble_eq_true rfl⟩ (fun v f H locs ht hP hD hS => ?_)
      refine lv_aload_n hx hb dX3_textOf_81 rfl (lv_at hl 1 rfl) ?_
      refine g_get hC (j_L hP) 7 dX3_textOf_82 (by decide) ge_1 rfl inX3 (by decide) rfl u_1_61 ?_
      refine lv_iload_n hx hb dX3_textOf_85 rfl (lv_at hl 2 rfl) ?_
      refine g_ld hC (j_L hP) dX3_textOf_86 (by decide) ge_9 hv2 ?_
      refine t_appI (rest := []) hC hZ hA hP hD hS ht hd4 ha4 u_3_184 (Nat.le_of_ble_eq_true rfl) hl.1 (Nat.le_of_ble_eq_true rfl) dX3_textOf_87 ⟨Nat.le_of_ble_eq_true rfl, Nat.le_of_ble_eq_true rfl⟩ (fun v f H locs ht hP hD hS => ?_)
      refine lv_pop hx hb dX3_textOf_90 rfl ?_
      exact J c4 v f H locs ls h ht hP hD hS hl
  have L := it3_W (r3_textOf_b25 T x1) (fun (cs : List Int32) (x3 x4 : Int32) => ∀ (v : Nat) (f : Nat → Int32) (H : Heap) (locs : List Loc) (ls : Array Slot), (x3 = 58 ∨ x3 = 44) → tx cs f → va_P γ.1 vwCl (tw γ (T, P, X, Y, E, B, M, O) o v cs f) H → va_D (gA γ s.heap.size) (tw γ (T, P, X, Y, E, B, M, O) o v cs f) → va_S (gA γ s.heap.size) s.heap H locs → lv_has ls 5 [(4, .int x4), (3, .int x3), (2, .ref o), (0, .ref (ad γ 1)), (1, .int x1)] → W p l e (gR 6 3 54) s m args below meth c H locs (2 + kc cs.length) (20 + 34 * kc cs.length) (MQ below (tQ γ (T, P, X, Y, E, B, M, O) cs0 s.heap.size) args s 3 54 (gA γ s.heap.size)) (F0 m 25 ls [])) (fun (r : List Int32) => r = c2) (by
    intro cs x3 x4 oo hF kS kR v f H locs ls h3 ht hP hD hS hl
    unfold r3_textOf_b25 at hF
    refine lv_iload hx hb dX3_textOf_25 (lv_at hl 0 rfl) ?_
    refine lv_bipush (v := 6) hx hb dX3_textOf_27 (by decide) ?_
    refine lv_icmp_ge (tgt := 66) hx hb dX3_textOf_29 (by decide) (fun c1 => ?_) (fun c1 => ?_)
    · rw [if_pos c1] at hF
      cases hF
      obtain rfl := kR _ rfl
      exact Z v f H locs ls ht hP hD hS (lv_sub hl [2, 3, 4] rfl)
    · rw [if_neg c1] at hF
      obtain ⟨w1, hw1, hF⟩ := ob hF
      obtain ⟨w2, hw2, hF⟩ := bd1_e hF
      refine lv_aload_n hx hb dX3_textOf_32 rfl (lv_at hl 3 rfl) ?_
      refine g_get hC (j_L hP) 6 dX3_textOf_33 (by decide) ge_1 rfl inX3 (by decide) rfl u_1_58 ?_
      refine lv_iload_n hx hb dX3_textOf_36 rfl (lv_at hl 4 rfl) ?_
      refine g_ld hC (j_L hP) dX3_textOf_37 (by decide) ge_8 hw1 ?_
      refine lv_iload hx hb dX3_textOf_38 (lv_at hl 0 rfl) ?_
      refine t_ki (wb := jw γ o v (cp cs.length) cs.length f) (σ := (T, P, X, Y, E, B, M, O)) (g_runN (As := [.int w1, .int x4]) (rest := []) hC (j_L hP) (c4_contains l hw2) (List.mem_cons_of_mem _ List.mem_cons_self) yv_X4_contains (Nat.le_of_ble_eq_true rfl) rfl hl.1 rfl (Nat.le_of_ble_eq_true rfl) dX3_textOf_40 ⟨by have := kc_le cs.length; omega, by have := kc_le cs.length; omega⟩) hP hD hS (fun H locs hP hD hS => ?_)
      refine lv_if_eq (tgt := 60) hx hb dX3_textOf_43 (by decide) (fun c5 => ?_) (fun c5 => ?_)
      · rw [if_pos c5] at hF
        cases hF
        refine lv_iinc (v := (x4 + 1)) (lv' := [(4, .int (x4 + 1)), (3, .int x3), (2, .ref o), (0, .ref (ad γ 1)), (1, .int x1)]) hx hb dX3_textOf_60 hl (k := 0) rfl rfl (by decide) rfl (fun ls hl => ?_)
        refine lv_goto (tgt := 25) hx hb dX3_textOf_63 (by decide) ?_
        exact kS _ _ _ rfl v f H locs ls h3 ht hP hD hS hl
      · rw [if_neg c5] at hF
        obtain ⟨c3, ha3, hF⟩ := ob hF
        obtain ⟨d4, hd4, hF⟩ := ob hF
        obtain ⟨c4, ha4, hF⟩ := ob hF
        cases hF
        refine lv_aload_n hx hb dX3_textOf_46 rfl (lv_at hl 2 rfl) ?_
        refine lv_iload_n hx hb dX3_textOf_47 rfl (lv_at hl 1 rfl) ?_
        refine t_appC (rest := []) hC hZ hA hP hD hS ht (h3.elim (fun z => z ▸ sg_58) (fun z => z ▸ sg_44)) ha3 u_4_29 (Nat.le_of_ble_eq_true rfl) hl.1 (Nat.le_of_ble_eq_true rfl) dX3_textOf_48 ⟨Nat.le_of_ble_eq_true rfl, Nat.le_of_ble_eq_true rfl⟩ (fun v f H locs ht hP hD hS => ?_)
        refine lv_iload hx hb dX3_textOf_51 (lv_at hl 0 rfl) ?_
        refine t_appI (rest := []) hC hZ hA hP hD hS ht hd4 ha4 u_3_184 (Nat.le_of_ble_eq_true rfl) hl.1 (Nat.le_of_ble_eq_true rfl) dX3_textOf_53 ⟨Nat.le_of_ble_eq_true rfl, Nat.le_of_ble_eq_true rfl⟩ (fun v f H locs ht hP hD hS => ?_)
        refine lv_pop hx hb dX3_textOf_56 rfl ?_
        refine lv_bipush (v := 44) hx hb dX3_textOf_57 (by decide) ?_
        refine lv_istore_n (lv' := [(3, .int 44), (4, .int x4), (2, .ref o), (0, .ref (ad γ 1)), (1, .int x1)]) hx hb dX3_textOf_59 rfl hl (by decide) rfl (fun ls hl => ?_)
        refine lv_iinc (v := (x4 + 1)) (lv' := [(4, .int (x4 + 1)), (3, .int 44), (2, .ref o), (0, .ref (ad γ 1)), (1, .int x1)]) hx hb dX3_textOf_60 hl (k := 1) rfl rfl (by decide) rfl (fun ls hl => ?_)
        refine lv_goto (tgt := 25) hx hb dX3_textOf_63 (by decide) ?_
        exact kS _ _ _ rfl v f H locs ls (Or.inr rfl) ht hP hD hS hl)
  refine lv_astore_n (lv' := [(2, .ref o), (0, .ref (ad γ 1)), (1, .int x1)]) hx hb dX3_textOf_7 rfl hl (by decide) rfl (fun ls hl => ?_)
  refine lv_aload_n hx hb dX3_textOf_8 rfl (lv_at hl 0 rfl) ?_
  refine lv_aload_n hx hb dX3_textOf_9 rfl (lv_at hl 1 rfl) ?_
  refine g_get hC (j_L hP) 5 dX3_textOf_10 (by decide) ge_1 rfl inX3 (by decide) rfl u_1_55 ?_
  refine lv_iload_n hx hb dX3_textOf_13 rfl (lv_at hl 2 rfl) ?_
  refine g_ld hC (j_L hP) dX3_textOf_14 (by decide) ge_7 hv1 ?_
  have ht : tx [] (fun _ => (0 : Int32)) := tx_nil
  refine t_appI (rest := []) hC hZ hA hP hD hS ht hd1 ha1 u_3_184 (Nat.le_of_ble_eq_true rfl) hl.1 (Nat.le_of_ble_eq_true rfl) dX3_textOf_15 ⟨Nat.le_of_ble_eq_true rfl, Nat.le_of_ble_eq_true rfl⟩ (fun v f H locs ht hP hD hS => ?_)
  refine lv_pop hx hb dX3_textOf_18 rfl ?_
  refine lv_bipush (v := 58) hx hb dX3_textOf_19 (by decide) ?_
  refine lv_istore_n (lv' := [(3, .int 58), (2, .ref o), (0, .ref (ad γ 1)), (1, .int x1)]) hx hb dX3_textOf_21 rfl hl (by decide) rfl (fun ls hl => ?_)
  refine lv_iconst (v := 0) hx hb dX3_textOf_22 (by decide) ?_
  refine lv_istore (lv' := [(4, .int 0), (3, .int 58), (2, .ref o), (0, .ref (ad γ 1)), (1, .int x1)]) hx hb dX3_textOf_23 hl (by decide) rfl (fun ls hl => ?_)
  exact L _ _ _ _ _ hL rfl v f H locs ls (Or.inl rfl) ht hP hD hS hl
