/-! the history's and the builder's constructors -/
theorem ctor_join {D : va_G} {cl : List vw_C} {A : Nat → Prop} {ws wa : va_W} {q : Nat} {e0 : va_E} {H H1 : Heap} (hP : va_P D cl (ws ++ [(q, e0)]) H) (hD : va_D A (ws ++ [(q, e0)])) (hA : ∀ x, va_A [(q, e0)] H.size x → A x) (hk : ∀ x, x < H.size → ¬ va_A [(q, e0)] H.size x → H1[x]? = H[x]?) (hP1 : va_P D cl wa H1) (hD1 : va_D (va_A [(q, e0)] H.size) wa) : va_P D cl (ws ++ wa) H1 ∧ va_D A (ws ++ wa) := by
  have hw : ∀ (i : Nat) (p : Nat × va_E), ws[i]? = some p → (ws ++ [(q, e0)])[i]? = some p ∧ ¬ va_A [(q, e0)] H.size p.1 ∧ p.1 < H.size := by
    intro i p hi
    have hl : i < ws.length := (List.getElem?_eq_some_iff.mp hi).1
    have h1 : (ws ++ [(q, e0)])[i]? = some p := by rw [List.getElem?_append_left hl]; exact hi
    have h2 : p.1 < H.size := (hP i p h1).lt
    refine ⟨h1, fun h => ?_, h2⟩
    rcases h with ⟨k, e, hk⟩ | h
    · have hk1 : k < 1 := (List.getElem?_eq_some_iff.mp hk).1
      obtain rfl : k = 0 := by omega
      have hq : (q, e0) = (p.1, e) := Option.some.inj hk
      have h3 : (ws ++ [(q, e0)])[ws.length]? = some (q, e0) := by rw [List.getElem?_append_right (Nat.le_refl _), Nat.sub_self]; rfl
      have := hD.1 i ws.length p (q, e0) h1 h3 (congrArg Prod.fst hq).symm
      omega
    · omega
  refine ⟨va_P.app (fun i p hi => ?_) hP1, va_D.app ⟨fun i j p r hi hj h => hD.1 i j p r (hw i p hi).1 (hw j r hj).1 h, fun i p hi => hD.2 i p (hw i p hi).1⟩ (hD1.weaken fun k r _ h => hA r.1 h) (fun i j p r hi hj h => ?_)⟩
  · obtain ⟨h1, h2, h3⟩ := hw i p hi
    exact (hP i p h1).kept (hk p.1 h3 h2)
  · exact (hw i p hi).2.1 (by rw [h]; exact hD1.2 j r hj)
section KC
variable {p : Program} {l : Launch} {e : Env} {R : Room} {s : State} {m : MethodId} {args : Array Value} {below : List Frame} {meth : Method} {c : Code} {H : Heap} {locs : List Loc} {cells slots : Nat} {Q : State → Prop}
variable {pc : Nat} {ls : Array Slot} {rest st0 : List Value} {own : String} {cc : ByteArray} {nL : Nat} {yo : Cond} {reto : Option FieldType} {γ : GA} {A : Nat → Prop} {ws : va_W}
variable {y : MethodName} {bytes : ByteArray} {maxL h mc ms n idx q : Nat} {e0 : va_E} {As : List Value} {post : (Nat → Nat) → Prop} {wf : (Nat → Nat) → va_W}
theorem k_pre (hC : gCtx p s m args meth c own cc nL yo reto γ) (hP : va_P γ.1 vwCl (ws ++ [(q, e0)]) H) {av : List Value} : ∀ U : State, U.heap = H → s.WarmedH U.vm → kPc γ av H.size [(q, e0)] av.toArray U := fun U hU hW => ⟨rfl, by rw [hU], by
    rw [hU]
    intro k r hk
    have hk1 : k < 1 := (List.getElem?_eq_some_iff.mp hk).1
    obtain rfl : k = 0 := by omega
    exact hP ws.length r (by rw [List.getElem?_append_right (Nat.le_refl _), Nat.sub_self]; exact hk), hC.2.1.warm hW, hC.2.2.1, va_D_one trivial⟩
theorem k_free (hD : va_D A (ws ++ [(q, e0)])) (hS : va_S A s.heap H locs) (hA : ∀ x, s.heap.size ≤ x → A x) : ∀ x, va_A [(q, e0)] H.size x → A x := by
  intro x hx
  rcases hx with ⟨k, e, hk⟩ | hx
  · have hk1 : k < 1 := (List.getElem?_eq_some_iff.mp hk).1
    obtain rfl : k = 0 := by omega
    have hq : (q, e0) = (x, e) := Option.some.inj hk
    have := hD.2 ws.length (q, e0) (by rw [List.getElem?_append_right (Nat.le_refl _), Nat.sub_self]; rfl)
    have h0 : q = x := (Prod.mk.inj hq).1
    subst h0
    exact this
  · exact hA x (Nat.le_trans hS.1 hx)
theorem k_go {a : Array Value} (hr : va_Run p l e R s m args below meth c H locs cells slots mc ms (F0 m pc ls st0) rest (kQ γ H.size [(q, e0)] post wf a) (va_A [(q, e0)] H.size)) (hP : va_P γ.1 vwCl (ws ++ [(q, e0)]) H) (hD : va_D A (ws ++ [(q, e0)])) (hS : va_S A s.heap H locs) (hA : ∀ x, s.heap.size ≤ x → A x)
    (kk : ∀ (a : Nat → Nat) (H : Heap) (locs : List Loc), post a → va_P γ.1 vwCl (ws ++ wf a) H → va_D A (ws ++ wf a) → va_S A s.heap H locs → W p l e R s m args below meth c H locs (cells + mc) (slots + ms) Q (F0 m (pc + 3) ls rest)) : W p l e R s m args below meth c H locs cells slots Q (F0 m pc ls st0) :=
  va_callv hr hS (fun x _ hx => k_free hD hS hA x hx) (k_free hD hS hA) (fun u t H1 locs1 ht hvm hw hB hz hk hS1 => by
    subst ht
    obtain ⟨h1, h2⟩ := ctor_join hP hD (k_free hD hS hA) hk hB.1 hB.2
    exact kk u _ _ hw h1 h2 hS1)
/-- new C(..): its constructor, over the cell that 'new' made -/
theorem k_ctor (hC : gCtx p s m args meth c own cc nL yo reto γ) (hP : va_P γ.1 vwCl (ws ++ [(q, e0)]) H) (hD : va_D A (ws ++ [(q, e0)])) (hS : va_S A s.heap H locs) (hA : ∀ x, s.heap.size ≤ x → A x) (hM : Met l y (gU y bytes maxL none) (gR h mc ms) (kPc γ (.ref q :: As) H.size [(q, e0)]) (kQ γ H.size [(q, e0)] post wf) mc ms (va_A [(q, e0)] H.size))
    (u1 : Cond.methodLink own idx y ∈ UG) (u2 : Cond.instanceMethod y ∈ UG) (u4 : Cond.initialized y.cls ∈ UG) (u5 : Cond.code y bytes maxL none ∈ UG) (hd : y.cls ≠ "java/lang/invoke/MethodHandle" ∧ y.cls ≠ "java/lang/invoke/VarHandle" ∧ (parseMethodDescriptor y.desc).map (fun d => d.parameters.length) = some n) (hyn : y.name = "<init>") (hR : h + 1 ≤ R.frames ∧ 60 + 60 * h ≤ R.locals) (hL : maxL ≤ 41)
    (hn : As.length = n) (hls : ls.size = nL) (hst : st0 = As.reverse ++ .ref q :: rest) (hW : (rest.map fun v => v.category).sum ≤ 8) (hdg : decode cc pc = .ok (.invokespecial idx, 3)) (hf : cells + mc ≤ R.cells ∧ slots + ms ≤ R.slots)
    (kk : ∀ (a : Nat → Nat) (H : Heap) (locs : List Loc), post a → va_P γ.1 vwCl (ws ++ wf a) H → va_D A (ws ++ wf a) → va_S A s.heap H locs → W p l e R s m args below meth c H locs (cells + mc) (slots + ms) Q (F0 m (pc + 3) ls rest)) : W p l e R s m args below meth c H locs cells slots Q (F0 m pc ls st0) :=
  k_go (va_runI (b := q) hC.1 hM ⟨callB_of n hC.1.2.2.2.2 (gGood u5) rfl rfl rfl (hC.w u4) (hC.w u1) hd ⟨hR.1, by show 8 + (maxL + 11) + 60 * h ≤ _; omega⟩, hyn, hC.w u2⟩ ⟨kPc_blind, k_pre hC hP⟩ rfl hn hls hst (lv_room hW) hdg hf) hP hD hS hA kk
theorem k_ctorN {host : String} (hC : gCtx p s m args meth c own cc nL yo reto γ) (hP : va_P γ.1 vwCl (ws ++ [(q, e0)]) H) (hD : va_D A (ws ++ [(q, e0)])) (hS : va_S A s.heap H locs) (hA : ∀ x, s.heap.size ≤ x → A x) (hM : Met l y (gU y bytes maxL none) (gR h mc ms) (kPc γ (.ref q :: As) H.size [(q, e0)]) (kQ γ H.size [(q, e0)] post wf) mc ms (va_A [(q, e0)] H.size))
    (u1 : va_Nw (.methodLinkNest own idx y host) s) (u2 : Cond.instanceMethod y ∈ UG) (u4 : Cond.initialized y.cls ∈ UG) (u5 : Cond.code y bytes maxL none ∈ UG) (hd : y.cls ≠ "java/lang/invoke/MethodHandle" ∧ y.cls ≠ "java/lang/invoke/VarHandle" ∧ (parseMethodDescriptor y.desc).map (fun d => d.parameters.length) = some n) (hyn : y.name = "<init>") (hR : h + 1 ≤ R.frames ∧ 60 + 60 * h ≤ R.locals) (hL : maxL ≤ 41)
    (hn : As.length = n) (hls : ls.size = nL) (hst : st0 = As.reverse ++ .ref q :: rest) (hW : (rest.map fun v => v.category).sum ≤ 8) (hdg : decode cc pc = .ok (.invokespecial idx, 3)) (hf : cells + mc ≤ R.cells ∧ slots + ms ≤ R.slots)
    (kk : ∀ (a : Nat → Nat) (H : Heap) (locs : List Loc), post a → va_P γ.1 vwCl (ws ++ wf a) H → va_D A (ws ++ wf a) → va_S A s.heap H locs → W p l e R s m args below meth c H locs (cells + mc) (slots + ms) Q (F0 m (pc + 3) ls rest)) : W p l e R s m args below meth c H locs cells slots Q (F0 m pc ls st0) :=
  k_go (va_runIN (b := q) hC.1 hM ⟨va_cnB n hC.1.2.2.2.2 (gGood u5) rfl rfl rfl u1 (hC.w u4) hd ⟨hR.1, by show 8 + (maxL + 11) + 60 * h ≤ _; omega⟩, hyn, hC.w u2⟩ ⟨kPc_blind, k_pre hC hP⟩ rfl hn hls hst (lv_room hW) hdg hf) hP hD hS hA kk
end KC
/-- tables, the j-th at the addresses aa j -/
def tabsW (γ : GA) (aa : Nat → Nat → Nat) (r : Nat) : va_W := (List.range r).flatMap (fun j => tabW γ (aa j) T0)
theorem tabsW_s (γ : GA) (aa : Nat → Nat → Nat) (r : Nat) : tabsW γ aa (r + 1) = tabsW γ aa r ++ tabW γ (aa r) T0 := by
  unfold tabsW
  rw [List.range_succ, List.flatMap_append]
  simp
theorem tabsW_c {γ : GA} {aa bb : Nat → Nat → Nat} {r : Nat} (h : ∀ j, j < r → aa j = bb j) : tabsW γ aa r = tabsW γ bb r := by
  induction r with
  | zero => rfl
  | succ r ih => rw [tabsW_s, tabsW_s, ih (fun j hj => h j (by omega)), h r (by omega)]
theorem tabsW_k {γ : GA} {aa bb : Nat → Nat → Nat} {r : Nat} (h : ∀ j k, k < 14 → aa j k = bb j k) : tabsW γ aa r = tabsW γ bb r := by
  have h1 : ∀ j, tabW γ (aa j) T0 = tabW γ (bb j) T0 := by
    intro j
    unfold tabW
    refine List.map_congr_left (fun k hk => ?_)
    have hk := List.mem_range.mp hk
    have he : tabE γ (aa j) T0 k = tabE γ (bb j) T0 k := by
      cases k with
      | zero => simp only [tabE]; rw [h j 1 (by omega), h j 2 (by omega), h j 3 (by omega), h j 4 (by omega), h j 5 (by omega), h j 6 (by omega), h j 7 (by omega), h j 8 (by omega), h j 9 (by omega), h j 10 (by omega), h j 11 (by omega), h j 12 (by omega), h j 13 (by omega)]
      | succ k => rfl
    rw [h j k hk, he]
  induction r with
  | zero => rfl
  | succ r ih => rw [tabsW_s, tabsW_s, ih, h1]
theorem tabsW_len (γ : GA) (aa : Nat → Nat → Nat) (r : Nat) : (tabsW γ aa r).length = 14 * r := by
  induction r with
  | zero => rfl
  | succ r ih => rw [tabsW_s, List.length_append, ih]; simp [tabW]; omega
/-- the history's object and its ring: a 0, a 1; then the tables, table j at a (2 + 14 j) .. -/
def hiW (γ : GA) (a : Nat → Nat) : va_W := (a 0, .inr (2, [.ref (a 1), .int 0, .int 0])) :: (a 1, .inl (gT γ, 7, .inr (.inr (.inr (.inr (fun j => if j < 7 then some (a (2 + 14 * j)) else none)))))) :: tabsW γ (fun j k => a (2 + 14 * j + k)) 7
set_option maxHeartbeats 4000000 in
set_option maxRecDepth 100000 in
theorem k1_init (l : Launch) {γ : GA} {sz o : Nat} : Met l yX1_init (gU yX1_init cX1_init 2 none) (gR 6 99 1200) (kPc γ [.ref o] sz [(o, .inr (2, [.null, .int 0, .int 0]))]) (kQ γ sz [(o, .inr (2, [.null, .int 0, .int 0]))] (fun a => a 0 = o) (fun a => hiW γ a)) 99 1200 (va_A [(o, .inr (2, [.null, .int 0, .int 0]))] sz) := by
  refine k_met (by decide) rfl (Nat.le_of_ble_eq_true rfl) ?_
  intro p e s m args below meth c ls A hAe hmn hC hA hP hD hS hl
  have hx := hC.x
  have hb := hC.b
  have hl : lv_has ls 2 [(0, .ref o)] := hl
  refine lv_aload_n hx hb dX1_init_0 rfl (lv_at hl 0 rfl) ?_
  refine k_obj hC dX1_init_1 hl.1 u_1_136 (Nat.le_of_ble_eq_true rfl) (Nat.le_of_ble_eq_true rfl) ?_
  refine lv_aload_n hx hb dX1_init_4 rfl (lv_at hl 0 rfl) ?_
  refine lv_bipush (v := 7) hx hb dX1_init_5 (by decide) ?_
  refine va_newq (C := RX3) (N' := 7) hx hb hC.o (hC.w u_1_137) hC.2.1.2.2.2.2.2.2.2 hC.k hP hD hS hA (by decide) rfl (by decide) (Nat.le_of_ble_eq_true rfl) (Nat.le_of_ble_eq_true rfl) dX1_init_7 (fun q cA H hK1 hP hD hS => ?_)
  have hcA : gT γ = cA := by
    have h1 : va_RA s cA (.object RX3) := (hK1.2 (gty γ).length (cA, .object RX3) (by simp)).2
    have h2 : va_RA s (gT γ) (.object RX3) := (hC.k.2 2 (gT γ, .object RX3) rfl).2
    obtain ⟨_, _, -, -, -, h1⟩ := h1
    obtain ⟨_, _, -, -, -, h2⟩ := h2
    exact Option.some.inj (h2.symm.trans h1)
  subst hcA
  refine W.widen (k := 1) (n := 7) (by decide) (by decide) ?_
  refine k_putF hC hmn hP hD hS 0 0 tyX1 dX1_init_10 rfl rfl inX1 tyX1_ok nmX1 (by decide) u_1_140 rfl rfl rfl rfl rfl (Nat.le_of_ble_eq_true rfl) (fun H locs hP hD hS => ?_)
  have hP : va_P γ.1 vwCl [(o, .inr (2, [.ref q, .int 0, .int 0])), (q, .inl (gT γ, 7, .inr (.inr (.inr (.inr (fun _ => none))))))] H := hP
  have hD : va_D A [(o, .inr (2, [.ref q, .int 0, .int 0])), (q, .inl (gT γ, 7, .inr (.inr (.inr (.inr (fun _ => none))))))] := hD
  refine lv_iconst (v := 0) hx hb dX1_init_13 (by decide) ?_
  refine lv_istore_n (lv' := [(1, .int 0), (0, .ref o)]) hx hb dX1_init_14 rfl hl (by decide) rfl (fun ls hl => ?_)
  have L : ∀ (d r : Nat), r + d = 7 → ∀ (aa : Nat → Nat → Nat) (H : Heap) (locs : List Loc) (ls : Array Slot), va_P γ.1 vwCl ((o, .inr (2, [.ref q, .int 0, .int 0])) :: (q, .inl (gT γ, 7, .inr (.inr (.inr (.inr (fun j => if j < r then some (aa j 0) else none)))))) :: tabsW γ aa r) H → va_D A ((o, .inr (2, [.ref q, .int 0, .int 0])) :: (q, .inl (gT γ, 7, .inr (.inr (.inr (.inr (fun j => if j < r then some (aa j 0) else none)))))) :: tabsW γ aa r) → va_S A s.heap H locs → lv_has ls 2 [(1, .int (nI r)), (0, .ref o)] → W p l e (gR 6 99 1200) s m args below meth c H locs (1 + 14 * r) (7 + 170 * r) (MQ below (va_Qv (fun a => a 0 = o) (fun a t => va_P γ.1 vwCl (hiW γ a) t.heap ∧ va_D A (hiW γ a)) A) args s 99 1200 A) (F0 m 15 ls []) := by
    intro d
    induction d with
    | zero =>
      intro r hr aa H locs ls hP hD hS hl
      obtain rfl : r = 7 := by omega
      refine lv_iload_n hx hb dX1_init_15 rfl (lv_at hl 0 rfl) ?_
      refine lv_aload_n hx hb dX1_init_16 rfl (lv_at hl 1 rfl) ?_
      refine k_get hC hP 0 0 dX1_init_17 rfl rfl inX1 (by decide) rfl u_1_140 ?_
      refine va_alen (v := 7) hx hb hC.k hP 1 2 rfl rfl rfl dX1_init_20 ?_
      refine lv_icmp_ge (tgt := 43) hx hb dX1_init_21 (by decide) (fun c1 => ?_) (fun c1 => absurd (by decide) c1)
      refine W.widen (k := 99) (n := 1200) (by decide) (by decide) ?_
      obtain ⟨AA, hAA⟩ : ∃ AA : Nat → Nat, AA = fun k => if k = 0 then o else if k = 1 then q else aa ((k - 2) / 14) ((k - 2) % 14) := ⟨_, rfl⟩
      have h0 : AA 0 = o := by rw [hAA]; rfl
      have h1 : AA 1 = q := by rw [hAA]; rfl
      have h2 : ∀ j k, k < 14 → aa j k = AA (2 + 14 * j + k) := by
        intro j k hk
        rw [hAA]
        show aa j k = if 2 + 14 * j + k = 0 then o else if 2 + 14 * j + k = 1 then q else aa ((2 + 14 * j + k - 2) / 14) ((2 + 14 * j + k - 2) % 14)
        rw [if_neg (by omega), if_neg (by omega), show (2 + 14 * j + k - 2) / 14 = j by omega, show (2 + 14 * j + k - 2) % 14 = k by omega]
      have hf : (fun j => if j < 7 then some (aa j 0) else none) = (fun j => if j < 7 then some (AA (2 + 14 * j)) else none) := by
        funext j
        rw [h2 j 0 (by omega)]
        rfl
      have ht : tabsW γ aa 7 = tabsW γ (fun j k => AA (2 + 14 * j + k)) 7 := tabsW_k h2
      have hw : ((o, .inr (2, [.ref q, .int 0, .int 0])) :: (q, .inl (gT γ, 7, .inr (.inr (.inr (.inr (fun j => if j < 7 then some (aa j 0) else none)))))) :: tabsW γ aa 7 : va_W) = hiW γ AA := by
        rw [hf, ht]
        unfold hiW
        rw [h0, h1]
      rw [hw] at hP hD
      exact k_vret hC AA h0 hP hD hS dX1_init_43
    | succ d ih =>
      intro r hr aa H locs ls hP hD hS hl
      refine lv_iload_n hx hb dX1_init_15 rfl (lv_at hl 0 rfl) ?_
      refine lv_aload_n hx hb dX1_init_16 rfl (lv_at hl 1 rfl) ?_
      refine k_get hC hP 0 0 dX1_init_17 rfl rfl inX1 (by decide) rfl u_1_140 ?_
      refine va_alen (v := nI 7) hx hb hC.k hP 1 2 rfl rfl rfl dX1_init_20 ?_
      refine lv_icmp_ge (tgt := 43) hx hb dX1_init_21 (by decide) (fun c1 => absurd c1 (nI_ge (by omega) (by omega))) (fun c1 => ?_)
      refine lv_aload_n hx hb dX1_init_24 rfl (lv_at hl 1 rfl) ?_
      refine k_get hC hP 0 0 dX1_init_25 rfl rfl inX1 (by decide) rfl u_1_140 ?_
      refine lv_iload_n hx hb dX1_init_28 rfl (lv_at hl 0 rfl) ?_
      refine k_new (ci := 4) (fs := [.null, .null, .null, .null, .null, .null, .null, .null, .null, .null, .null, .null, .null, .int 0]) hC hP hD hS hA tyX3 dX1_init_29 inX3 tyX3_ok u_1_137 u_1_36 u_1_2 rfl (by decide) (by show 1 + 14 * r + 1 ≤ 99; omega) (by show 7 + 170 * r + 14 ≤ 1200; omega) (fun q9 H hP hD hS => ?_)
      refine lv_dup hx hb dX1_init_32 rfl ?_
      refine k_ctor (As := []) (rest := [.ref q9, .int (nI r), .ref q]) hC hP hD hS hA (k3_init l) u_1_139 u_1_38 u_1_2 u_1_39 ⟨by decide +kernel, by decide +kernel, by decide +kernel⟩ rfl ⟨Nat.le_of_ble_eq_true rfl, Nat.le_of_ble_eq_true rfl⟩ (by decide) rfl hl.1 rfl (Nat.le_of_ble_eq_true rfl) dX1_init_33 ⟨by show 1 + 14 * r + 1 + 13 ≤ 99; omega, by show 7 + 170 * r + 14 + 139 ≤ 1200; omega⟩ (fun a H locs hpa hP hD hS => ?_)
      have hlen : ((o, .inr (2, [.ref q, .int 0, .int 0])) :: (q, .inl (gT γ, 7, .inr (.inr (.inr (.inr (fun j => if j < r then some (aa j 0) else none)))))) :: tabsW γ aa r : va_W).length = 2 + 14 * r := by simp [tabsW_len]; omega
      refine va_astq (r := (RX3, TX3, 14)) hx hb hC.k hP hD hS 1 2 (2 + 14 * r) 4 (vs := [.ref (a 1), .ref (a 2), .ref (a 3), .ref (a 4), .ref (a 5), .ref (a 6), .ref (a 7), .ref (a 8), .ref (a 9), .ref (a 10), .ref (a 11), .ref (a 12), .ref (a 13), .int (T0 13 0)]) rfl rfl (by rw [List.getElem?_append_right (by omega), hlen, Nat.sub_self, ← hpa]; rfl) rfl (vp_in_nI (by omega) (by omega)) dX1_init_36 (fun H locs hP hD hS => ?_)
      have hu : va_up (fun j => if j < r then some (aa j 0) else none) (nI r).toNatClampNeg (some q9) = (fun j => if j < r + 1 then some ((fun j => if j = r then a else aa j) j 0) else none) := by
        funext j
        rw [nI_clamp (by omega)]
        unfold va_up
        by_cases h : j = r
        · subst h; simp [hpa]
        · by_cases h2 : j < r
          · simp [h, h2, show j < r + 1 by omega]
          · simp [h, h2, show ¬ j < r + 1 by omega]
      have hw : (((o, .inr (2, [.ref q, .int 0, .int 0])) :: (q, .inl (gT γ, 7, .inr (.inr (.inr (.inr (fun j => if j < r then some (aa j 0) else none)))))) :: tabsW γ aa r ++ tabW γ a T0 : va_W).set 1 (q, .inl (gT γ, 7, .inr (.inr (.inr (.inr (va_up (fun j => if j < r then some (aa j 0) else none) (nI r).toNatClampNeg (some q9)))))))) = (o, .inr (2, [.ref q, .int 0, .int 0])) :: (q, .inl (gT γ, 7, .inr (.inr (.inr (.inr (fun j => if j < r + 1 then some ((fun j => if j = r then a else aa j) j 0) else none)))))) :: tabsW γ (fun j => if j = r then a else aa j) (r + 1) := by
        rw [hu, tabsW_s, if_pos rfl, ← tabsW_c (γ := γ) (aa := aa) (bb := fun j => if j = r then a else aa j) (fun j hj => by rw [if_neg (by omega)])]
        rfl
      rw [hw] at hP hD
      refine lv_iinc (v := nI (r + 1)) (lv' := [(1, .int (nI (r + 1))), (0, .ref o)]) hx hb dX1_init_37 hl (k := 0) rfl (by rw [← nI_1]; rfl) (by decide) rfl (fun ls hl => ?_)
      refine lv_goto (tgt := 15) hx hb dX1_init_40 (by decide) ?_
      refine W.widen (k := 1 + 14 * (r + 1)) (n := 7 + 170 * (r + 1)) (by omega) (by omega) ?_
      exact ih (r + 1) (by omega) _ H locs ls hP hD hS hl
  exact L 7 0 (by omega) (fun _ _ => 0) H locs ls hP hD hS hl
