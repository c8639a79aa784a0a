/-! constructors: each over its own cells -/
def kPc (γ : GA) (av : List Value) (sz : Nat) (ws : va_W) : Array Value → State → Prop := va_Pc av (fun U => U.heap.size = sz ∧ va_P γ.1 vwCl ws U.heap ∧ gE γ U ∧ gInj γ ∧ va_D (fun _ => True) ws)
theorem kPc_blind {γ : GA} {av : List Value} {sz : Nat} {ws : va_W} : FrameBlind (kPc γ av sz ws) := fun a U g mk h => ⟨h.1, h.2.1, h.2.2.1, h.2.2.2.1.same rfl, h.2.2.2.2.1, h.2.2.2.2.2⟩
def kQ (γ : GA) (sz : Nat) (ws0 : va_W) (post : (Nat → Nat) → Prop) (wf : (Nat → Nat) → va_W) : Array Value → State → Outcome → State → Prop := va_Qv post (fun a t => va_P γ.1 vwCl (wf a) t.heap ∧ va_D (va_A ws0 sz) (wf a)) (va_A ws0 sz)
theorem va_D_one {A : Nat → Prop} {a : Nat} {e : va_E} (h : A a) : va_D A [(a, e)] := by
  refine ⟨fun i j p q hi hj _ => ?_, fun k q hk => ?_⟩
  · have h1 : i < 1 := (List.getElem?_eq_some_iff.mp hi).1
    have h2 : j < 1 := (List.getElem?_eq_some_iff.mp hj).1
    omega
  · have h1 : k < 1 := (List.getElem?_eq_some_iff.mp hk).1
    obtain rfl : k = 0 := by omega
    cases hk
    exact h
def fillv (n : Nat) (f : Nat → Int32) (v : Int32) : Nat → Int32 := fun j => if j < n then v else f j
theorem fillv_s (k : Nat) (f : Nat → Int32) (v : Int32) : upd (fillv k f v) k v = fillv (k + 1) f v := by
  funext j
  unfold upd fillv
  by_cases h : j = k
  · subst h; rw [if_pos rfl, if_pos (by omega)]
  · rw [if_neg h]
    by_cases h2 : j < k
    · rw [if_pos h2, if_pos (by omega)]
    · rw [if_neg h2, if_neg (by omega)]
section KR
variable {p : Program} {l : Launch} {e : Env} {R : Room} {s : State} {m : MethodId} {args : Array Value} {below : List Frame} {meth : Method} {c : Code} {H : Heap} {locs : List Loc} {cells slots : Nat} {Q : State → Prop}
variable {pc : Nat} {ls : Array Slot} {rest st0 : List Value} {own : String} {cc : ByteArray} {nL : Nat} {yo : Cond} {reto : Option FieldType} {γ : GA} {A : Nat → Prop} {ws : va_W}
theorem k_newI (hC : gCtx p s m args meth c own cc nL yo reto γ) (hP : va_P γ.1 vwCl ws H) (hD : va_D A ws) (hS : va_S A s.heap H locs) (hA : ∀ q, s.heap.size ≤ q → A q) {n : Int32} {N' : Nat} (hdg : decode cc pc = .ok (.newarray .int, 2)) (hn : ¬ n < 0) (hN : n.toNatClampNeg = N') (hb : N' * 4 ≤ 536870912) (hcells : cells + 1 ≤ R.cells) (hslots : slots + N' ≤ R.slots)
    (kk : ∀ (q : Nat) (H : Heap), va_P γ.1 vwCl (ws ++ [(q, .inl (gI γ, N', .inl (fun _ => 0)))]) H → va_D A (ws ++ [(q, .inl (gI γ, N', .inl (fun _ => 0)))]) → va_S A s.heap H locs → W p l e R s m args below meth c H locs (cells + 1) (slots + N') Q (F0 m (pc + 2) ls (.ref q :: rest))) : W p l e R s m args below meth c H locs cells slots Q (F0 m pc ls (.int n :: rest)) :=
  va_newa (atype := .int) (ty := .int) (a0 := (N', .inl (fun _ => 0))) hC.x hC.b (hC.w u_1_107) rfl hC.k hP hD hS hA (fun _ => rfl) hn hN hb hcells hslots hdg (fun q cA H1 hK1 hP1 hD1 hS1 => by
    have h1 : va_RA s cA .int := (hK1.2 (gty γ).length (cA, .int) (by simp)).2
    have h2 : va_RA s (gI γ) .int := (hC.k.2 0 (gI γ, .int) rfl).2
    obtain rfl : gI γ = cA := Option.some.inj (h2.symm.trans h1)
    exact kk q H1 hP1 hD1 hS1)
theorem k_newZ (hC : gCtx p s m args meth c own cc nL yo reto γ) (hP : va_P γ.1 vwCl ws H) (hD : va_D A ws) (hS : va_S A s.heap H locs) (hA : ∀ q, s.heap.size ≤ q → A q) {n : Int32} {N' : Nat} (hdg : decode cc pc = .ok (.newarray .boolean, 2)) (hn : ¬ n < 0) (hN : n.toNatClampNeg = N') (hb : N' * 1 ≤ 536870912) (hcells : cells + 1 ≤ R.cells) (hslots : slots + N' ≤ R.slots)
    (kk : ∀ (q : Nat) (H : Heap), va_P γ.1 vwCl (ws ++ [(q, .inl (gZ γ, N', .inl (fun _ => 0)))]) H → va_D A (ws ++ [(q, .inl (gZ γ, N', .inl (fun _ => 0)))]) → va_S A s.heap H locs → W p l e R s m args below meth c H locs (cells + 1) (slots + N') Q (F0 m (pc + 2) ls (.ref q :: rest))) : W p l e R s m args below meth c H locs cells slots Q (F0 m pc ls (.int n :: rest)) :=
  va_newa (atype := .boolean) (ty := .boolean) (a0 := (N', .inl (fun _ => 0))) hC.x hC.b (hC.w u_1_108) rfl hC.k hP hD hS hA (fun _ => rfl) hn hN hb hcells hslots hdg (fun q cA H1 hK1 hP1 hD1 hS1 => by
    have h1 : va_RA s cA .boolean := (hK1.2 (gty γ).length (cA, .boolean) (by simp)).2
    have h2 : va_RA s (gZ γ) .boolean := (hC.k.2 1 (gZ γ, .boolean) rfl).2
    obtain rfl : gZ γ = cA := Option.some.inj (h2.symm.trans h1)
    exact kk q H1 hP1 hD1 hS1)
theorem k_putF (hC : gCtx p s m args meth c own cc nL yo reto γ) (hmn : meth.name = "<init>") (hP : va_P γ.1 vwCl ws H) (hD : va_D A ws) (hS : va_S A s.heap H locs) {a idx ci : Nat} {fs : List Value} {C : String} {T : u_T} {N : Nat} (q0 j : Nat) {v : Value} {ty : FieldType} (ty0 : Nat → FieldType) (hdg : decode cc pc = .ok (.putfield idx, 3)) (he : ws[q0]? = some (a, .inr (ci, fs))) (hc : vwCl[ci]? = some (C, T, N)) (hin : ∀ w ∈ u_ws C T N, w ∈ UG) (hty : ∀ k, k < N → parseFieldDescriptor (T k).2.2.1 = some (ty0 k)) (hnm : ∀ a, a < N → ∀ b, b < N → a ≠ b → (T a).2.1 ≠ (T b).2.1) (hj : j < N) (hl : Cond.fieldLink own idx (T j).1 (T j).2.1 (T j).2.2.1 ∈ UG) (hfin : (T j).2.2.2 = true) (hdecl : (T j).1 = own) (hd : ty0 j = ty) (hn : narrow ty v = v) (hfit : fits ty v = true) (hl2 : j < fs.length)
    (kk : ∀ (H : Heap) (locs : List Loc), va_P γ.1 vwCl (ws.set q0 (a, .inr (ci, fs.set j v))) H → va_D A (ws.set q0 (a, .inr (ci, fs.set j v))) → va_S A s.heap H locs → W p l e R s m args below meth c H locs cells slots Q (F0 m (pc + 3) ls rest)) : W p l e R s m args below meth c H locs cells slots Q (F0 m pc ls (v :: .ref a :: rest)) :=
  va_putF hC.x hC.b (fun w h => hC.1.2.2.2.2 w h) (fun w h => List.mem_cons_of_mem _ (hin w h)) ty0 hty hnm hC.o hC.k hP hD hS q0 he hc j hj (hC.w hl) (fun _ h => h) hfin hmn hdecl ((hty j hj).trans (by rw [hd])) hn hfit hl2 hdg kk
theorem k_putI (hC : gCtx p s m args meth c own cc nL yo reto γ) (hP : va_P γ.1 vwCl ws H) (hD : va_D A ws) (hS : va_S A s.heap H locs) {a idx ci : Nat} {fs : List Value} {C : String} {T : u_T} {N : Nat} (q0 j : Nat) {v : Value} {ty : FieldType} (ty0 : Nat → FieldType) (hdg : decode cc pc = .ok (.putfield idx, 3)) (he : ws[q0]? = some (a, .inr (ci, fs))) (hc : vwCl[ci]? = some (C, T, N)) (hin : ∀ w ∈ u_ws C T N, w ∈ UG) (hty : ∀ k, k < N → parseFieldDescriptor (T k).2.2.1 = some (ty0 k)) (hnm : ∀ a, a < N → ∀ b, b < N → a ≠ b → (T a).2.1 ≠ (T b).2.1) (hj : j < N) (hl : Cond.fieldLink own idx (T j).1 (T j).2.1 (T j).2.2.1 ∈ UG) (hfin : (T j).2.2.2 = false) (hd : ty0 j = ty) (hn : narrow ty v = v) (hfit : fits ty v = true) (hl2 : j < fs.length)
    (kk : ∀ (H : Heap) (locs : List Loc), va_P γ.1 vwCl (ws.set q0 (a, .inr (ci, fs.set j v))) H → va_D A (ws.set q0 (a, .inr (ci, fs.set j v))) → va_S A s.heap H locs → W p l e R s m args below meth c H locs cells slots Q (F0 m (pc + 3) ls rest)) : W p l e R s m args below meth c H locs cells slots Q (F0 m pc ls (v :: .ref a :: rest)) :=
  va_put hC.x hC.b (fun w h => hC.1.2.2.2.2 w h) (fun w h => List.mem_cons_of_mem _ (hin w h)) ty0 hty hnm hC.o hC.k hP hD hS q0 he hc j hj (hC.w hl) (fun _ h => h) hfin ((hty j hj).trans (by rw [hd])) hn hfit hl2 hdg kk
theorem k_get (hC : gCtx p s m args meth c own cc nL yo reto γ) (hP : va_P γ.1 vwCl ws H) {a idx ci : Nat} {fs : List Value} {C : String} {T : u_T} {N : Nat} (q0 j : Nat) {v : Value} (hdg : decode cc pc = .ok (.getfield idx, 3)) (he : ws[q0]? = some (a, .inr (ci, fs))) (hc : vwCl[ci]? = some (C, T, N)) (hin : ∀ w ∈ u_ws C T N, w ∈ UG) (hj : j < N) (hv : fs[j]? = some v) (hl : Cond.fieldLink own idx (T j).1 (T j).2.1 (T j).2.2.1 ∈ UG)
    (kk : W p l e R s m args below meth c H locs cells slots Q (F0 m (pc + 3) ls (v :: rest))) : W p l e R s m args below meth c H locs cells slots Q (F0 m pc ls (.ref a :: rest)) :=
  va_get hC.x hC.b (fun w h => hC.1.2.2.2.2 w h) (fun w h => List.mem_cons_of_mem _ (hin w h)) hC.o hC.k hP q0 he hc j hj (hC.w hl) (fun _ h => h) hv hdg kk
theorem k_obj (hC : gCtx p s m args meth c own cc nL yo reto γ) {a idx : Nat} (hdg : decode cc pc = .ok (.invokespecial idx, 3)) (hls : ls.size = nL) (hl : Cond.methodLink own idx Lib.objectInit ∈ UG) (hR1 : 1 ≤ R.frames) (hR2 : (rest.map fun v => v.category).sum + 12 ≤ R.locals)
    (kk : W p l e R s m args below meth c H locs cells slots Q (F0 m (pc + 3) ls rest)) : W p l e R s m args below meth c H locs cells slots Q (F0 m pc ls (.ref a :: rest)) :=
  W.objInit hC.x hC.b hC.o (hC.w hl) (hC.w u_1_33) (hC.w u_1_34) rfl (hls.trans hC.1.2.2.1.symm) rfl hdg hR1 (by show 2 * 0 + _ + 12 ≤ _; omega) kk
theorem k_new (hC : gCtx p s m args meth c own cc nL yo reto γ) (hP : va_P γ.1 vwCl ws H) (hD : va_D A ws) (hS : va_S A s.heap H locs) (hA : ∀ q, s.heap.size ≤ q → A q) {idx ci N : Nat} {C : String} {T : u_T} (ty0 : Nat → FieldType) {fs : List Value} (hdg : decode cc pc = .ok (.new idx, 3)) (hin : ∀ w ∈ u_ws C T N, w ∈ UG) (hty : ∀ k, k < N → parseFieldDescriptor (T k).2.2.1 = some (ty0 k)) (hcl : Cond.classLink own idx C ∈ UG) (hinst : Cond.instantiable C N ∈ UG) (hini : Cond.initialized C ∈ UG) (hc : vwCl[ci]? = some (C, T, N)) (hfs : ∀ j, j < N → defaultValue (ty0 j) = vp_V fs j) (hcells : cells + 1 ≤ R.cells) (hslots : slots + N ≤ R.slots)
    (kk : ∀ (q : Nat) (H : Heap), va_P γ.1 vwCl (ws ++ [(q, .inr (ci, fs))]) H → va_D A (ws ++ [(q, .inr (ci, fs))]) → va_S A s.heap H locs → W p l e R s m args below meth c H locs (cells + 1) (slots + N) Q (F0 m (pc + 3) ls (.ref q :: rest))) : W p l e R s m args below meth c H locs cells slots Q (F0 m pc ls rest) :=
  va_new hC.x hC.b (fun w h => hC.1.2.2.2.2 w h) (fun w h => List.mem_cons_of_mem _ (hin w h)) ty0 hty hC.o (hC.w hcl) (hC.w hinst) (hC.w hini) hC.k hP hD hS hA hc hfs hcells hslots hdg kk
end KR
theorem k_met {l : Launch} {y : MethodName} {bytes : ByteArray} {maxL h mc ms sz : Nat} {γ : GA} {av : List Value} {ws : va_W} {post : (Nat → Nat) → Prop} {wf : (Nat → Nat) → va_W} (hy : plainName y.cls = true) (hyn : y.name = "<init>") (hn : (lg_sl av).length ≤ maxL)
    (body : ∀ (p : Program) (e : Env) (s : State) (m : MethodId) (args : Array Value) (below : List Frame) (meth : Method) (c : Code) (ls : Array Slot) (A : Nat → Prop), A = va_A ws s.heap.size → meth.name = "<init>" → gCtx p s m args meth c y.cls bytes maxL (Cond.code y bytes maxL none) none γ → (∀ q, s.heap.size ≤ q → A q) → va_P γ.1 vwCl ws s.heap → va_D A ws → va_S A s.heap s.heap [] → lv_has ls maxL (lv_args 0 av) →
      W p l e (gR h mc ms) s m args below meth c s.heap [] 0 0 (MQ below (va_Qv post (fun a t => va_P γ.1 vwCl (wf a) t.heap ∧ va_D A (wf a)) A) args s mc ms A) (F0 m 0 ls [])) : Met l y (gU y bytes maxL none) (gR h mc ms) (kPc γ av sz ws) (kQ γ sz ws post wf) mc ms (va_A ws sz) := by
  refine Met.ofW (cc := bytes) (maxL := maxL) (ret := none) hy rfl ?_
  intro p e s m args below meth c s₁ B hml hv
  obtain ⟨rfl, hsz, hP, hE, hj, hD⟩ := hv
  subst hsz
  rw [lg_entry_eq]
  exact body p e s m _ below meth c _ _ rfl ((name_of_methodNamed B.named B.method).1.trans hyn) ⟨⟨B.exec, B.bytes, hml, findClass_of_methodNamed B.named, atoms_spec (ws := gU y bytes maxL none) B.pre⟩, hE, hj, B.returns, B.notSynchronized⟩ (fun q hq => Or.inr hq) hP hD.self va_S.rf (lv_entry av hn)
theorem k_vret {p : Program} {l : Launch} {e : Env} {R : Room} {s : State} {m : MethodId} {args : Array Value} {below : List Frame} {meth : Method} {c : Code} {H : Heap} {locs : List Loc} {cells slots : Nat} {pc : Nat} {ls : Array Slot} {own : String} {cc : ByteArray} {nL : Nat} {yo : Cond} {γ : GA} {A : Nat → Prop} {post : (Nat → Nat) → Prop} {wf : (Nat → Nat) → va_W}
    (hC : gCtx p s m args meth c own cc nL yo none γ) (a : Nat → Nat) (hpost : post a) (hP : va_P γ.1 vwCl (wf a) H) (hD : va_D A (wf a)) (hS : va_S A s.heap H locs) (hdg : decode cc pc = .ok (.return_, 1)) : W p l e R s m args below meth c H locs cells slots (MQ below (va_Qv post (fun a t => va_P γ.1 vwCl (wf a) t.heap ∧ va_D A (wf a)) A) args s cells slots A) (F0 m pc ls []) :=
  W.vret hC.x hC.b hC.2.2.2.1 (fun t ht hW => ⟨⟨a, rfl, hpost, by subst ht; exact hP, hD⟩, hS.F ht⟩) hS.2.2 hdg hC.2.2.2.2
theorem yv_J7_fill : gYS yJ7_fill_53178 cJ7_fill_53178 4 none 2 := ⟨u_1_42, u_1_3, u_1_43, ⟨by decide +kernel, by decide +kernel, by decide +kernel⟩, by decide⟩
set_option maxHeartbeats 4000000 in
set_option maxRecDepth 100000 in
theorem c7_fill (l : Launch) {γ : GA} {sz a n : Nat} {f : Nat → Int32} {v : Int32} (hn : n < 2147483647) : Met l yJ7_fill_53178 (gU yJ7_fill_53178 cJ7_fill_53178 4 none) (gR 0 0 0) (kPc γ [.ref a, .int v] sz [(a, .inl (gI γ, n, .inl f))]) (kQ γ sz [(a, .inl (gI γ, n, .inl f))] (fun _ => True) (fun _ => [(a, .inl (gI γ, n, .inl (fillv n f v)))])) 0 0 (va_A [(a, .inl (gI γ, n, .inl f))] sz) := by
  refine Met.ofW (cc := cJ7_fill_53178) (maxL := 4) (ret := none) (by decide) rfl ?_
  intro p e s m args below meth c s₁ B hml hv
  obtain ⟨rfl, hsz, hP, hE, hj, hD⟩ := hv
  subst hsz
  rw [lg_entry_eq]
  have hC : gCtx p s m _ meth c yJ7_fill_53178.cls cJ7_fill_53178 4 (Cond.code yJ7_fill_53178 cJ7_fill_53178 4 none) none γ := ⟨⟨B.exec, B.bytes, hml, findClass_of_methodNamed B.named, atoms_spec (ws := gU yJ7_fill_53178 cJ7_fill_53178 4 none) B.pre⟩, hE, hj, B.returns, B.notSynchronized⟩
  have hS : va_S (va_A [(a, .inl (gI γ, n, .inl f))] s.heap.size) s.heap s.heap [] := va_S.rf
  have hD := hD.self (sz := s.heap.size)
  have hl := lv_entry [.ref a, .int v] (n := 4) (Nat.le_of_ble_eq_true rfl)
  have hx := hC.x
  have hb := hC.b
  generalize (lg_sl [Value.ref a, .int v] ++ List.replicate (4 - (lg_sl [Value.ref a, .int v]).length) Slot.unset).toArray = ls at hl ⊢
  have hl : lv_has ls 4 [(0, .ref a), (1, .int v)] := hl
  have L : ∀ (d k : Nat), k + d = n → ∀ (H : Heap) (locs : List Loc) (ls : Array Slot), va_P γ.1 vwCl [(a, .inl (gI γ, n, .inl (fillv k f v)))] H → va_S (va_A [(a, .inl (gI γ, n, .inl f))] s.heap.size) s.heap H locs → lv_has ls 4 [(0, .ref a), (1, .int v), (2, .int (nI k)), (3, .int (nI n))] → W p l e (gR 0 0 0) s m #[Value.ref a, Value.int v] below meth c H locs 0 0 (MQ below (kQ γ s.heap.size [(a, .inl (gI γ, n, .inl f))] (fun _ => True) (fun _ => [(a, .inl (gI γ, n, .inl (fillv n f v)))])) [Value.ref a, .int v].toArray s 0 0 (va_A [(a, .inl (gI γ, n, .inl f))] s.heap.size)) (F0 m 5 ls []) := by
    intro d
    induction d with
    | zero =>
      intro k hk H locs ls hP hS hl
      obtain rfl : k = n := by omega
      refine lv_iload_n hx hb dJ7_fill_53178_5 rfl (lv_at hl 2 rfl) ?_
      refine lv_iload_n hx hb dJ7_fill_53178_6 rfl (lv_at hl 3 rfl) ?_
      refine lv_icmp_ge (tgt := 20) hx hb dJ7_fill_53178_7 (by decide) (fun c1 => ?_) (fun c1 => absurd (nI_le (Nat.le_refl _) (by omega)) c1)
      exact W.vret hC.x hC.b hC.2.2.2.1 (fun t ht hW => ⟨⟨(fun x => x), rfl, trivial, by subst ht; exact hP, va_D_one (Or.inl ⟨0, _, rfl⟩)⟩, hS.F ht⟩) hS.2.2 dJ7_fill_53178_20 hC.2.2.2.2
    | succ d ih =>
      intro k hk H locs ls hP hS hl
      refine lv_iload_n hx hb dJ7_fill_53178_5 rfl (lv_at hl 2 rfl) ?_
      refine lv_iload_n hx hb dJ7_fill_53178_6 rfl (lv_at hl 3 rfl) ?_
      refine lv_icmp_ge (tgt := 20) hx hb dJ7_fill_53178_7 (by decide) (fun c1 => absurd c1 (nI_ge (by omega) (by omega))) (fun c1 => ?_)
      refine lv_aload_n hx hb dJ7_fill_53178_10 rfl (lv_at hl 0 rfl) ?_
      refine lv_iload_n hx hb dJ7_fill_53178_11 rfl (lv_at hl 2 rfl) ?_
      refine lv_iload_n hx hb dJ7_fill_53178_12 rfl (lv_at hl 1 rfl) ?_
      refine va_iast hx hb hC.k hP (va_D_one (Or.inl ⟨0, _, rfl⟩)) hS 0 0 rfl rfl (vp_in_nI (by omega) (by omega)) dJ7_fill_53178_13 (fun H locs hP hD hS => ?_)
      have hP : va_P γ.1 vwCl [(a, .inl (gI γ, n, .inl (upd (fillv k f v) (nI k).toNatClampNeg v)))] H := hP
      rw [nI_clamp (by omega), fillv_s] at hP
      refine lv_iinc (v := nI (k + 1)) (lv' := [(2, .int (nI (k + 1))), (0, .ref a), (1, .int v), (3, .int (nI n))]) hx hb dJ7_fill_53178_14 hl (k := 2) rfl (by rw [← nI_1]; rfl) (by decide) rfl (fun ls hl => ?_)
      refine lv_goto (tgt := 5) hx hb dJ7_fill_53178_17 (by decide) ?_
      exact ih (k + 1) (by omega) H locs ls hP hS (lv_sub hl [1, 2, 0, 3] rfl)
  refine lv_iconst (v := 0) hx hb dJ7_fill_53178_0 (by decide) ?_
  refine lv_istore_n (lv' := [(2, .int 0), (0, .ref a), (1, .int v)]) hx hb dJ7_fill_53178_1 rfl hl (by decide) rfl (fun ls hl => ?_)
  refine lv_aload_n hx hb dJ7_fill_53178_2 rfl (lv_at hl 1 rfl) ?_
  refine va_alen (v := nI n) hx hb hC.k hP 0 0 rfl rfl rfl dJ7_fill_53178_3 ?_
  refine lv_istore_n (lv' := [(3, .int (nI n)), (2, .int 0), (0, .ref a), (1, .int v)]) hx hb dJ7_fill_53178_4 rfl hl (by decide) rfl (fun ls hl => ?_)
  exact L n 0 (by omega) s.heap [] ls (by rw [show fillv 0 f v = f from rfl]; exact hP) hS (lv_sub hl [2, 3, 1, 0] rfl)
/-- a table's cells at the addresses a 0 .. a 13 -/
def tabE (γ : GA) (a : Nat → Nat) (T : OS) : Nat → va_E
  | 0 => .inr (4, [.ref (a 1), .ref (a 2), .ref (a 3), .ref (a 4), .ref (a 5), .ref (a 6), .ref (a 7), .ref (a 8), .ref (a 9), .ref (a 10), .ref (a 11), .ref (a 12), .ref (a 13), .int (T 13 0)])
  | r + 1 => .inl (if r = 12 then gZ γ else gI γ, lenT r, .inl (T r))
def tabW (γ : GA) (a : Nat → Nat) (T : OS) : va_W := (List.range 14).map (fun j => (a j, tabE γ a T j))
def T0 : OS := fun r => if r = 0 then fillv 6 (fun _ => 0) 30 else if r = 2 then fillv 6 (fun _ => 0) 10 else if r = 3 then fillv 6 (fun _ => 0) 1023 else if r = 4 then fillv 3 (fun _ => 0) 1 else if r = 9 then fillv 14 (fun _ => 0) (-1) else if r = 11 then fillv 14 (fun _ => 0) (-1) else fun _ => 0
set_option maxHeartbeats 4000000 in
set_option maxRecDepth 100000 in
theorem k3_init (l : Launch) {γ : GA} {sz o : Nat} : Met l yX3_init (gU yX3_init cX3_init 1 none) (gR 4 13 139) (kPc γ [.ref o] sz [(o, .inr (4, [.null, .null, .null, .null, .null, .null, .null, .null, .null, .null, .null, .null, .null, .int 0]))]) (kQ γ sz [(o, .inr (4, [.null, .null, .null, .null, .null, .null, .null, .null, .null, .null, .null, .null, .null, .int 0]))] (fun a => a 0 = o) (fun a => tabW γ a T0)) 13 139 (va_A [(o, .inr (4, [.null, .null, .null, .null, .null, .null, .null, .null, .null, .null, .null, .null, .null, .int 0]))] sz) := by
  refine k_met (by decide) rfl (Nat.le_of_ble_eq_true rfl) ?_
  intro p e s m args below meth c ls A hAe hmn hC hA hP hD hS hl
  have hx := hC.x
  have hb := hC.b
  have hl : lv_has ls 1 [(0, .ref o)] := hl
  refine lv_aload_n hx hb dX3_init_0 rfl (lv_at hl 0 rfl) ?_
  refine k_obj hC dX3_init_1 hl.1 u_1_40 (Nat.le_of_ble_eq_true rfl) (Nat.le_of_ble_eq_true rfl) ?_
  refine lv_aload_n hx hb dX3_init_4 rfl (lv_at hl 0 rfl) ?_
  refine lv_bipush (v := 6) hx hb dX3_init_5 (by decide) ?_
  refine k_newI hC hP hD hS hA dX3_init_7 (by decide) (N' := 6) rfl (by decide) (Nat.le_of_ble_eq_true rfl) (Nat.le_of_ble_eq_true rfl) (fun q1 H hP hD hS => ?_)
  have hP : va_P γ.1 vwCl [(o, .inr (4, [.null, .null, .null, .null, .null, .null, .null, .null, .null, .null, .null, .null, .null, .int 0])), (q1, .inl (gI γ, 6, .inl (fun _ => 0)))] H := hP
  have hD : va_D A [(o, .inr (4, [.null, .null, .null, .null, .null, .null, .null, .null, .null, .null, .null, .null, .null, .int 0])), (q1, .inl (gI γ, 6, .inl (fun _ => 0)))] := hD
  refine W.widen (k := 1) (n := 6) (by decide) (by decide) ?_
  refine k_putF hC hmn hP hD hS 0 0 tyX3 dX3_init_9 rfl rfl inX3 tyX3_ok nmX3 (by decide) u_1_44 rfl rfl rfl rfl rfl (Nat.le_of_ble_eq_true rfl) (fun H locs hP hD hS => ?_)
  have hP : va_P γ.1 vwCl [(o, .inr (4, [.ref q1, .null, .null, .null, .null, .null, .null, .null, .null, .null, .null, .null, .null, .int 0])), (q1, .inl (gI γ, 6, .inl (fun _ => 0)))] H := hP
  have hD : va_D A [(o, .inr (4, [.ref q1, .null, .null, .null, .null, .null, .null, .null, .null, .null, .null, .null, .null, .int 0])), (q1, .inl (gI γ, 6, .inl (fun _ => 0)))] := hD
  refine lv_aload_n hx hb dX3_init_12 rfl (lv_at hl 0 rfl) ?_
  refine lv_bipush (v := 6) hx hb dX3_init_13 (by decide) ?_
  refine k_newI hC hP hD hS hA dX3_init_15 (by decide) (N' := 6) rfl (by decide) (Nat.le_of_ble_eq_true rfl) (Nat.le_of_ble_eq_true rfl) (fun q2 H hP hD hS => ?_)
  have hP : va_P γ.1 vwCl [(o, .inr (4, [.ref q1, .null, .null, .null, .null, .null, .null, .null, .null, .null, .null, .null, .null, .int 0])), (q1, .inl (gI γ, 6, .inl (fun _ => 0))), (q2, .inl (gI γ, 6, .inl (fun _ => 0)))] H := hP
  have hD : va_D A [(o, .inr (4, [.ref q1, .null, .null, .null, .null, .null, .null, .null, .null, .null, .null, .null, .null, .int 0])), (q1, .inl (gI γ, 6, .inl (fun _ => 0))), (q2, .inl (gI γ, 6, .inl (fun _ => 0)))] := hD
  refine W.widen (k := 2) (n := 12) (by decide) (by decide) ?_
  refine k_putF hC hmn hP hD hS 0 1 tyX3 dX3_init_17 rfl rfl inX3 tyX3_ok nmX3 (by decide) u_1_47 rfl rfl rfl rfl rfl (Nat.le_of_ble_eq_true rfl) (fun H locs hP hD hS => ?_)
  have hP : va_P γ.1 vwCl [(o, .inr (4, [.ref q1, .ref q2, .null, .null, .null, .null, .null, .null, .null, .null, .null, .null, .null, .int 0])), (q1, .inl (gI γ, 6, .inl (fun _ => 0))), (q2, .inl (gI γ, 6, .inl (fun _ => 0)))] H := hP
  have hD : va_D A [(o, .inr (4, [.ref q1, .ref q2, .null, .null, .null, .null, .null, .null, .null, .null, .null, .null, .null, .int 0])), (q1, .inl (gI γ, 6, .inl (fun _ => 0))), (q2, .inl (gI γ, 6, .inl (fun _ => 0)))] := hD
  refine lv_aload_n hx hb dX3_init_20 rfl (lv_at hl 0 rfl) ?_
  refine lv_bipush (v := 6) hx hb dX3_init_21 (by decide) ?_
  refine k_newI hC hP hD hS hA dX3_init_23 (by decide) (N' := 6) rfl (by decide) (Nat.le_of_ble_eq_true rfl) (Nat.le_of_ble_eq_true rfl) (fun q3 H hP hD hS => ?_)
  have hP : va_P γ.1 vwCl [(o, .inr (4, [.ref q1, .ref q2, .null, .null, .null, .null, .null, .null, .null, .null, .null, .null, .null, .int 0])), (q1, .inl (gI γ, 6, .inl (fun _ => 0))), (q2, .inl (gI γ, 6, .inl (fun _ => 0))), (q3, .inl (gI γ, 6, .inl (fun _ => 0)))] H := hP
  have hD : va_D A [(o, .inr (4, [.ref q1, .ref q2, .null, .null, .null, .null, .null, .null, .null, .null, .null, .null, .null, .int 0])), (q1, .inl (gI γ, 6, .inl (fun _ => 0))), (q2, .inl (gI γ, 6, .inl (fun _ => 0))), (q3, .inl (gI γ, 6, .inl (fun _ => 0)))] := hD
  refine W.widen (k := 3) (n := 18) (by decide) (by decide) ?_
  refine k_putF hC hmn hP hD hS 0 2 tyX3 dX3_init_25 rfl rfl inX3 tyX3_ok nmX3 (by decide) u_1_49 rfl rfl rfl rfl rfl (Nat.le_of_ble_eq_true rfl) (fun H locs hP hD hS => ?_)
  have hP : va_P γ.1 vwCl [(o, .inr (4, [.ref q1, .ref q2, .ref q3, .null, .null, .null, .null, .null, .null, .null, .null, .null, .null, .int 0])), (q1, .inl (gI γ, 6, .inl (fun _ => 0))), (q2, .inl (gI γ, 6, .inl (fun _ => 0))), (q3, .inl (gI γ, 6, .inl (fun _ => 0)))] H := hP
  have hD : va_D A [(o, .inr (4, [.ref q1, .ref q2, .ref q3, .null, .null, .null, .null, .null, .null, .null, .null, .null, .null, .int 0])), (q1, .inl (gI γ, 6, .inl (fun _ => 0))), (q2, .inl (gI γ, 6, .inl (fun _ => 0))), (q3, .inl (gI γ, 6, .inl (fun _ => 0)))] := hD
  refine lv_aload_n hx hb dX3_init_28 rfl (lv_at hl 0 rfl) ?_
  refine lv_bipush (v := 6) hx hb dX3_init_29 (by decide) ?_
  refine k_newI hC hP hD hS hA dX3_init_31 (by decide) (N' := 6) rfl (by decide) (Nat.le_of_ble_eq_true rfl) (Nat.le_of_ble_eq_true rfl) (fun q4 H hP hD hS => ?_)
  have hP : va_P γ.1 vwCl [(o, .inr (4, [.ref q1, .ref q2, .ref q3, .null, .null, .null, .null, .null, .null, .null, .null, .null, .null, .int 0])), (q1, .inl (gI γ, 6, .inl (fun _ => 0))), (q2, .inl (gI γ, 6, .inl (fun _ => 0))), (q3, .inl (gI γ, 6, .inl (fun _ => 0))), (q4, .inl (gI γ, 6, .inl (fun _ => 0)))] H := hP
  have hD : va_D A [(o, .inr (4, [.ref q1, .ref q2, .ref q3, .null, .null, .null, .null, .null, .null, .null, .null, .null, .null, .int 0])), (q1, .inl (gI γ, 6, .inl (fun _ => 0))), (q2, .inl (gI γ, 6, .inl (fun _ => 0))), (q3, .inl (gI γ, 6, .inl (fun _ => 0))), (q4, .inl (gI γ, 6, .inl (fun _ => 0)))] := hD
  refine W.widen (k := 4) (n := 24) (by decide) (by decide) ?_
  refine k_putF hC hmn hP hD hS 0 3 tyX3 dX3_init_33 rfl rfl inX3 tyX3_ok nmX3 (by decide) u_1_51 rfl rfl rfl rfl rfl (Nat.le_of_ble_eq_true rfl) (fun H locs hP hD hS => ?_)
  have hP : va_P γ.1 vwCl [(o, .inr (4, [.ref q1, .ref q2, .ref q3, .ref q4, .null, .null, .null, .null, .null, .null, .null, .null, .null, .int 0])), (q1, .inl (gI γ, 6, .inl (fun _ => 0))), (q2, .inl (gI γ, 6, .inl (fun _ => 0))), (q3, .inl (gI γ, 6, .inl (fun _ => 0))), (q4, .inl (gI γ, 6, .inl (fun _ => 0)))] H := hP
  have hD : va_D A [(o, .inr (4, [.ref q1, .ref q2, .ref q3, .ref q4, .null, .null, .null, .null, .null, .null, .null, .null, .null, .int 0])), (q1, .inl (gI γ, 6, .inl (fun _ => 0))), (q2, .inl (gI γ, 6, .inl (fun _ => 0))), (q3, .inl (gI γ, 6, .inl (fun _ => 0))), (q4, .inl (gI γ, 6, .inl (fun _ => 0)))] := hD
  refine lv_aload_n hx hb dX3_init_36 rfl (lv_at hl 0 rfl) ?_
  refine lv_iconst (v := 3) hx hb dX3_init_37 (by decide) ?_
  refine k_newI hC hP hD hS hA dX3_init_38 (by decide) (N' := 3) rfl (by decide) (Nat.le_of_ble_eq_true rfl) (Nat.le_of_ble_eq_true rfl) (fun q5 H hP hD hS => ?_)
  have hP : va_P γ.1 vwCl [(o, .inr (4, [.ref q1, .ref q2, .ref q3, .ref q4, .null, .null, .null, .null, .null, .null, .null, .null, .null, .int 0])), (q1, .inl (gI γ, 6, .inl (fun _ => 0))), (q2, .inl (gI γ, 6, .inl (fun _ => 0))), (q3, .inl (gI γ, 6, .inl (fun _ => 0))), (q4, .inl (gI γ, 6, .inl (fun _ => 0))), (q5, .inl (gI γ, 3, .inl (fun _ => 0)))] H := hP
  have hD : va_D A [(o, .inr (4, [.ref q1, .ref q2, .ref q3, .ref q4, .null, .null, .null, .null, .null, .null, .null, .null, .null, .int 0])), (q1, .inl (gI γ, 6, .inl (fun _ => 0))), (q2, .inl (gI γ, 6, .inl (fun _ => 0))), (q3, .inl (gI γ, 6, .inl (fun _ => 0))), (q4, .inl (gI γ, 6, .inl (fun _ => 0))), (q5, .inl (gI γ, 3, .inl (fun _ => 0)))] := hD
  refine W.widen (k := 5) (n := 27) (by decide) (by decide) ?_
  refine k_putF hC hmn hP hD hS 0 4 tyX3 dX3_init_40 rfl rfl inX3 tyX3_ok nmX3 (by decide) u_1_53 rfl rfl rfl rfl rfl (Nat.le_of_ble_eq_true rfl) (fun H locs hP hD hS => ?_)
  have hP : va_P γ.1 vwCl [(o, .inr (4, [.ref q1, .ref q2, .ref q3, .ref q4, .ref q5, .null, .null, .null, .null, .null, .null, .null, .null, .int 0])), (q1, .inl (gI γ, 6, .inl (fun _ => 0))), (q2, .inl (gI γ, 6, .inl (fun _ => 0))), (q3, .inl (gI γ, 6, .inl (fun _ => 0))), (q4, .inl (gI γ, 6, .inl (fun _ => 0))), (q5, .inl (gI γ, 3, .inl (fun _ => 0)))] H := hP
  have hD : va_D A [(o, .inr (4, [.ref q1, .ref q2, .ref q3, .ref q4, .ref q5, .null, .null, .null, .null, .null, .null, .null, .null, .int 0])), (q1, .inl (gI γ, 6, .inl (fun _ => 0))), (q2, .inl (gI γ, 6, .inl (fun _ => 0))), (q3, .inl (gI γ, 6, .inl (fun _ => 0))), (q4, .inl (gI γ, 6, .inl (fun _ => 0))), (q5, .inl (gI γ, 3, .inl (fun _ => 0)))] := hD
  refine lv_aload_n hx hb dX3_init_43 rfl (lv_at hl 0 rfl) ?_
  refine lv_bipush (v := 14) hx hb dX3_init_44 (by decide) ?_
  refine k_newI hC hP hD hS hA dX3_init_46 (by decide) (N' := 14) rfl (by decide) (Nat.le_of_ble_eq_true rfl) (Nat.le_of_ble_eq_true rfl) (fun q6 H hP hD hS => ?_)
  have hP : va_P γ.1 vwCl [(o, .inr (4, [.ref q1, .ref q2, .ref q3, .ref q4, .ref q5, .null, .null, .null, .null, .null, .null, .null, .null, .int 0])), (q1, .inl (gI γ, 6, .inl (fun _ => 0))), (q2, .inl (gI γ, 6, .inl (fun _ => 0))), (q3, .inl (gI γ, 6, .inl (fun _ => 0))), (q4, .inl (gI γ, 6, .inl (fun _ => 0))), (q5, .inl (gI γ, 3, .inl (fun _ => 0))), (q6, .inl (gI γ, 14, .inl (fun _ => 0)))] H := hP
  have hD : va_D A [(o, .inr (4, [.ref q1, .ref q2, .ref q3, .ref q4, .ref q5, .null, .null, .null, .null, .null, .null, .null, .null, .int 0])), (q1, .inl (gI γ, 6, .inl (fun _ => 0))), (q2, .inl (gI γ, 6, .inl (fun _ => 0))), (q3, .inl (gI γ, 6, .inl (fun _ => 0))), (q4, .inl (gI γ, 6, .inl (fun _ => 0))), (q5, .inl (gI γ, 3, .inl (fun _ => 0))), (q6, .inl (gI γ, 14, .inl (fun _ => 0)))] := hD
  refine W.widen (k := 6) (n := 41) (by decide) (by decide) ?_
  refine k_putF hC hmn hP hD hS 0 5 tyX3 dX3_init_48 rfl rfl inX3 tyX3_ok nmX3 (by decide) u_1_55 rfl rfl rfl rfl rfl (Nat.le_of_ble_eq_true rfl) (fun H locs hP hD hS => ?_)
  have hP : va_P γ.1 vwCl [(o, .inr (4, [.ref q1, .ref q2, .ref q3, .ref q4, .ref q5, .ref q6, .null, .null, .null, .null, .null, .null, .null, .int 0])), (q1, .inl (gI γ, 6, .inl (fun _ => 0))), (q2, .inl (gI γ, 6, .inl (fun _ => 0))), (q3, .inl (gI γ, 6, .inl (fun _ => 0))), (q4, .inl (gI γ, 6, .inl (fun _ => 0))), (q5, .inl (gI γ, 3, .inl (fun _ => 0))), (q6, .inl (gI γ, 14, .inl (fun _ => 0)))] H := hP
  have hD : va_D A [(o, .inr (4, [.ref q1, .ref q2, .ref q3, .ref q4, .ref q5, .ref q6, .null, .null, .null, .null, .null, .null, .null, .int 0])), (q1, .inl (gI γ, 6, .inl (fun _ => 0))), (q2, .inl (gI γ, 6, .inl (fun _ => 0))), (q3, .inl (gI γ, 6, .inl (fun _ => 0))), (q4, .inl (gI γ, 6, .inl (fun _ => 0))), (q5, .inl (gI γ, 3, .inl (fun _ => 0))), (q6, .inl (gI γ, 14, .inl (fun _ => 0)))] := hD
  refine lv_aload_n hx hb dX3_init_51 rfl (lv_at hl 0 rfl) ?_
  refine lv_bipush (v := 14) hx hb dX3_init_52 (by decide) ?_
  refine k_newI hC hP hD hS hA dX3_init_54 (by decide) (N' := 14) rfl (by decide) (Nat.le_of_ble_eq_true rfl) (Nat.le_of_ble_eq_true rfl) (fun q7 H hP hD hS => ?_)
  have hP : va_P γ.1 vwCl [(o, .inr (4, [.ref q1, .ref q2, .ref q3, .ref q4, .ref q5, .ref q6, .null, .null, .null, .null, .null, .null, .null, .int 0])), (q1, .inl (gI γ, 6, .inl (fun _ => 0))), (q2, .inl (gI γ, 6, .inl (fun _ => 0))), (q3, .inl (gI γ, 6, .inl (fun _ => 0))), (q4, .inl (gI γ, 6, .inl (fun _ => 0))), (q5, .inl (gI γ, 3, .inl (fun _ => 0))), (q6, .inl (gI γ, 14, .inl (fun _ => 0))), (q7, .inl (gI γ, 14, .inl (fun _ => 0)))] H := hP
  have hD : va_D A [(o, .inr (4, [.ref q1, .ref q2, .ref q3, .ref q4, .ref q5, .ref q6, .null, .null, .null, .null, .null, .null, .null, .int 0])), (q1, .inl (gI γ, 6, .inl (fun _ => 0))), (q2, .inl (gI γ, 6, .inl (fun _ => 0))), (q3, .inl (gI γ, 6, .inl (fun _ => 0))), (q4, .inl (gI γ, 6, .inl (fun _ => 0))), (q5, .inl (gI γ, 3, .inl (fun _ => 0))), (q6, .inl (gI γ, 14, .inl (fun _ => 0))), (q7, .inl (gI γ, 14, .inl (fun _ => 0)))] := hD
  refine W.widen (k := 7) (n := 55) (by decide) (by decide) ?_
  refine k_putF hC hmn hP hD hS 0 6 tyX3 dX3_init_56 rfl rfl inX3 tyX3_ok nmX3 (by decide) u_1_58 rfl rfl rfl rfl rfl (Nat.le_of_ble_eq_true rfl) (fun H locs hP hD hS => ?_)
  have hP : va_P γ.1 vwCl [(o, .inr (4, [.ref q1, .ref q2, .ref q3, .ref q4, .ref q5, .ref q6, .ref q7, .null, .null, .null, .null, .null, .null, .int 0])), (q1, .inl (gI γ, 6, .inl (fun _ => 0))), (q2, .inl (gI γ, 6, .inl (fun _ => 0))), (q3, .inl (gI γ, 6, .inl (fun _ => 0))), (q4, .inl (gI γ, 6, .inl (fun _ => 0))), (q5, .inl (gI γ, 3, .inl (fun _ => 0))), (q6, .inl (gI γ, 14, .inl (fun _ => 0))), (q7, .inl (gI γ, 14, .inl (fun _ => 0)))] H := hP
  have hD : va_D A [(o, .inr (4, [.ref q1, .ref q2, .ref q3, .ref q4, .ref q5, .ref q6, .ref q7, .null, .null, .null, .null, .null, .null, .int 0])), (q1, .inl (gI γ, 6, .inl (fun _ => 0))), (q2, .inl (gI γ, 6, .inl (fun _ => 0))), (q3, .inl (gI γ, 6, .inl (fun _ => 0))), (q4, .inl (gI γ, 6, .inl (fun _ => 0))), (q5, .inl (gI γ, 3, .inl (fun _ => 0))), (q6, .inl (gI γ, 14, .inl (fun _ => 0))), (q7, .inl (gI γ, 14, .inl (fun _ => 0)))] := hD
  refine lv_aload_n hx hb dX3_init_59 rfl (lv_at hl 0 rfl) ?_
  refine lv_bipush (v := 14) hx hb dX3_init_60 (by decide) ?_
  refine k_newI hC hP hD hS hA dX3_init_62 (by decide) (N' := 14) rfl (by decide) (Nat.le_of_ble_eq_true rfl) (Nat.le_of_ble_eq_true rfl) (fun q8 H hP hD hS => ?_)
  have hP : va_P γ.1 vwCl [(o, .inr (4, [.ref q1, .ref q2, .ref q3, .ref q4, .ref q5, .ref q6, .ref q7, .null, .null, .null, .null, .null, .null, .int 0])), (q1, .inl (gI γ, 6, .inl (fun _ => 0))), (q2, .inl (gI γ, 6, .inl (fun _ => 0))), (q3, .inl (gI γ, 6, .inl (fun _ => 0))), (q4, .inl (gI γ, 6, .inl (fun _ => 0))), (q5, .inl (gI γ, 3, .inl (fun _ => 0))), (q6, .inl (gI γ, 14, .inl (fun _ => 0))), (q7, .inl (gI γ, 14, .inl (fun _ => 0))), (q8, .inl (gI γ, 14, .inl (fun _ => 0)))] H := hP
  have hD : va_D A [(o, .inr (4, [.ref q1, .ref q2, .ref q3, .ref q4, .ref q5, .ref q6, .ref q7, .null, .null, .null, .null, .null, .null, .int 0])), (q1, .inl (gI γ, 6, .inl (fun _ => 0))), (q2, .inl (gI γ, 6, .inl (fun _ => 0))), (q3, .inl (gI γ, 6, .inl (fun _ => 0))), (q4, .inl (gI γ, 6, .inl (fun _ => 0))), (q5, .inl (gI γ, 3, .inl (fun _ => 0))), (q6, .inl (gI γ, 14, .inl (fun _ => 0))), (q7, .inl (gI γ, 14, .inl (fun _ => 0))), (q8, .inl (gI γ, 14, .inl (fun _ => 0)))] := hD
  refine W.widen (k := 8) (n := 69) (by decide) (by decide) ?_
  refine k_putF hC hmn hP hD hS 0 7 tyX3 dX3_init_64 rfl rfl inX3 tyX3_ok nmX3 (by decide) u_1_61 rfl rfl rfl rfl rfl (Nat.le_of_ble_eq_true rfl) (fun H locs hP hD hS => ?_)
  have hP : va_P γ.1 vwCl [(o, .inr (4, [.ref q1, .ref q2, .ref q3, .ref q4, .ref q5, .ref q6, .ref q7, .ref q8, .null, .null, .null, .null, .null, .int 0])), (q1, .inl (gI γ, 6, .inl (fun _ => 0))), (q2, .inl (gI γ, 6, .inl (fun _ => 0))), (q3, .inl (gI γ, 6, .inl (fun _ => 0))), (q4, .inl (gI γ, 6, .inl (fun _ => 0))), (q5, .inl (gI γ, 3, .inl (fun _ => 0))), (q6, .inl (gI γ, 14, .inl (fun _ => 0))), (q7, .inl (gI γ, 14, .inl (fun _ => 0))), (q8, .inl (gI γ, 14, .inl (fun _ => 0)))] H := hP
  have hD : va_D A [(o, .inr (4, [.ref q1, .ref q2, .ref q3, .ref q4, .ref q5, .ref q6, .ref q7, .ref q8, .null, .null, .null, .null, .null, .int 0])), (q1, .inl (gI γ, 6, .inl (fun _ => 0))), (q2, .inl (gI γ, 6, .inl (fun _ => 0))), (q3, .inl (gI γ, 6, .inl (fun _ => 0))), (q4, .inl (gI γ, 6, .inl (fun _ => 0))), (q5, .inl (gI γ, 3, .inl (fun _ => 0))), (q6, .inl (gI γ, 14, .inl (fun _ => 0))), (q7, .inl (gI γ, 14, .inl (fun _ => 0))), (q8, .inl (gI γ, 14, .inl (fun _ => 0)))] := hD
  refine lv_aload_n hx hb dX3_init_67 rfl (lv_at hl 0 rfl) ?_
  refine lv_bipush (v := 14) hx hb dX3_init_68 (by decide) ?_
  refine k_newI hC hP hD hS hA dX3_init_70 (by decide) (N' := 14) rfl (by decide) (Nat.le_of_ble_eq_true rfl) (Nat.le_of_ble_eq_true rfl) (fun q9 H hP hD hS => ?_)
  have hP : va_P γ.1 vwCl [(o, .inr (4, [.ref q1, .ref q2, .ref q3, .ref q4, .ref q5, .ref q6, .ref q7, .ref q8, .null, .null, .null, .null, .null, .int 0])), (q1, .inl (gI γ, 6, .inl (fun _ => 0))), (q2, .inl (gI γ, 6, .inl (fun _ => 0))), (q3, .inl (gI γ, 6, .inl (fun _ => 0))), (q4, .inl (gI γ, 6, .inl (fun _ => 0))), (q5, .inl (gI γ, 3, .inl (fun _ => 0))), (q6, .inl (gI γ, 14, .inl (fun _ => 0))), (q7, .inl (gI γ, 14, .inl (fun _ => 0))), (q8, .inl (gI γ, 14, .inl (fun _ => 0))), (q9, .inl (gI γ, 14, .inl (fun _ => 0)))] H := hP
  have hD : va_D A [(o, .inr (4, [.ref q1, .ref q2, .ref q3, .ref q4, .ref q5, .ref q6, .ref q7, .ref q8, .null, .null, .null, .null, .null, .int 0])), (q1, .inl (gI γ, 6, .inl (fun _ => 0))), (q2, .inl (gI γ, 6, .inl (fun _ => 0))), (q3, .inl (gI γ, 6, .inl (fun _ => 0))), (q4, .inl (gI γ, 6, .inl (fun _ => 0))), (q5, .inl (gI γ, 3, .inl (fun _ => 0))), (q6, .inl (gI γ, 14, .inl (fun _ => 0))), (q7, .inl (gI γ, 14, .inl (fun _ => 0))), (q8, .inl (gI γ, 14, .inl (fun _ => 0))), (q9, .inl (gI γ, 14, .inl (fun _ => 0)))] := hD
  refine W.widen (k := 9) (n := 83) (by decide) (by decide) ?_
  refine k_putF hC hmn hP hD hS 0 8 tyX3 dX3_init_72 rfl rfl inX3 tyX3_ok nmX3 (by decide) u_1_63 rfl rfl rfl rfl rfl (Nat.le_of_ble_eq_true rfl) (fun H locs hP hD hS => ?_)
  have hP : va_P γ.1 vwCl [(o, .inr (4, [.ref q1, .ref q2, .ref q3, .ref q4, .ref q5, .ref q6, .ref q7, .ref q8, .ref q9, .null, .null, .null, .null, .int 0])), (q1, .inl (gI γ, 6, .inl (fun _ => 0))), (q2, .inl (gI γ, 6, .inl (fun _ => 0))), (q3, .inl (gI γ, 6, .inl (fun _ => 0))), (q4, .inl (gI γ, 6, .inl (fun _ => 0))), (q5, .inl (gI γ, 3, .inl (fun _ => 0))), (q6, .inl (gI γ, 14, .inl (fun _ => 0))), (q7, .inl (gI γ, 14, .inl (fun _ => 0))), (q8, .inl (gI γ, 14, .inl (fun _ => 0))), (q9, .inl (gI γ, 14, .inl (fun _ => 0)))] H := hP
  have hD : va_D A [(o, .inr (4, [.ref q1, .ref q2, .ref q3, .ref q4, .ref q5, .ref q6, .ref q7, .ref q8, .ref q9, .null, .null, .null, .null, .int 0])), (q1, .inl (gI γ, 6, .inl (fun _ => 0))), (q2, .inl (gI γ, 6, .inl (fun _ => 0))), (q3, .inl (gI γ, 6, .inl (fun _ => 0))), (q4, .inl (gI γ, 6, .inl (fun _ => 0))), (q5, .inl (gI γ, 3, .inl (fun _ => 0))), (q6, .inl (gI γ, 14, .inl (fun _ => 0))), (q7, .inl (gI γ, 14, .inl (fun _ => 0))), (q8, .inl (gI γ, 14, .inl (fun _ => 0))), (q9, .inl (gI γ, 14, .inl (fun _ => 0)))] := hD
  refine lv_aload_n hx hb dX3_init_75 rfl (lv_at hl 0 rfl) ?_
  refine lv_bipush (v := 14) hx hb dX3_init_76 (by decide) ?_
  refine k_newI hC hP hD hS hA dX3_init_78 (by decide) (N' := 14) rfl (by decide) (Nat.le_of_ble_eq_true rfl) (Nat.le_of_ble_eq_true rfl) (fun q10 H hP hD hS => ?_)
  have hP : va_P γ.1 vwCl [(o, .inr (4, [.ref q1, .ref q2, .ref q3, .ref q4, .ref q5, .ref q6, .ref q7, .ref q8, .ref q9, .null, .null, .null, .null, .int 0])), (q1, .inl (gI γ, 6, .inl (fun _ => 0))), (q2, .inl (gI γ, 6, .inl (fun _ => 0))), (q3, .inl (gI γ, 6, .inl (fun _ => 0))), (q4, .inl (gI γ, 6, .inl (fun _ => 0))), (q5, .inl (gI γ, 3, .inl (fun _ => 0))), (q6, .inl (gI γ, 14, .inl (fun _ => 0))), (q7, .inl (gI γ, 14, .inl (fun _ => 0))), (q8, .inl (gI γ, 14, .inl (fun _ => 0))), (q9, .inl (gI γ, 14, .inl (fun _ => 0))), (q10, .inl (gI γ, 14, .inl (fun _ => 0)))] H := hP
  have hD : va_D A [(o, .inr (4, [.ref q1, .ref q2, .ref q3, .ref q4, .ref q5, .ref q6, .ref q7, .ref q8, .ref q9, .null, .null, .null, .null, .int 0])), (q1, .inl (gI γ, 6, .inl (fun _ => 0))), (q2, .inl (gI γ, 6, .inl (fun _ => 0))), (q3, .inl (gI γ, 6, .inl (fun _ => 0))), (q4, .inl (gI γ, 6, .inl (fun _ => 0))), (q5, .inl (gI γ, 3, .inl (fun _ => 0))), (q6, .inl (gI γ, 14, .inl (fun _ => 0))), (q7, .inl (gI γ, 14, .inl (fun _ => 0))), (q8, .inl (gI γ, 14, .inl (fun _ => 0))), (q9, .inl (gI γ, 14, .inl (fun _ => 0))), (q10, .inl (gI γ, 14, .inl (fun _ => 0)))] := hD
  refine W.widen (k := 10) (n := 97) (by decide) (by decide) ?_
  refine k_putF hC hmn hP hD hS 0 9 tyX3 dX3_init_80 rfl rfl inX3 tyX3_ok nmX3 (by decide) u_1_66 rfl rfl rfl rfl rfl (Nat.le_of_ble_eq_true rfl) (fun H locs hP hD hS => ?_)
  have hP : va_P γ.1 vwCl [(o, .inr (4, [.ref q1, .ref q2, .ref q3, .ref q4, .ref q5, .ref q6, .ref q7, .ref q8, .ref q9, .ref q10, .null, .null, .null, .int 0])), (q1, .inl (gI γ, 6, .inl (fun _ => 0))), (q2, .inl (gI γ, 6, .inl (fun _ => 0))), (q3, .inl (gI γ, 6, .inl (fun _ => 0))), (q4, .inl (gI γ, 6, .inl (fun _ => 0))), (q5, .inl (gI γ, 3, .inl (fun _ => 0))), (q6, .inl (gI γ, 14, .inl (fun _ => 0))), (q7, .inl (gI γ, 14, .inl (fun _ => 0))), (q8, .inl (gI γ, 14, .inl (fun _ => 0))), (q9, .inl (gI γ, 14, .inl (fun _ => 0))), (q10, .inl (gI γ, 14, .inl (fun _ => 0)))] H := hP
  have hD : va_D A [(o, .inr (4, [.ref q1, .ref q2, .ref q3, .ref q4, .ref q5, .ref q6, .ref q7, .ref q8, .ref q9, .ref q10, .null, .null, .null, .int 0])), (q1, .inl (gI γ, 6, .inl (fun _ => 0))), (q2, .inl (gI γ, 6, .inl (fun _ => 0))), (q3, .inl (gI γ, 6, .inl (fun _ => 0))), (q4, .inl (gI γ, 6, .inl (fun _ => 0))), (q5, .inl (gI γ, 3, .inl (fun _ => 0))), (q6, .inl (gI γ, 14, .inl (fun _ => 0))), (q7, .inl (gI γ, 14, .inl (fun _ => 0))), (q8, .inl (gI γ, 14, .inl (fun _ => 0))), (q9, .inl (gI γ, 14, .inl (fun _ => 0))), (q10, .inl (gI γ, 14, .inl (fun _ => 0)))] := hD
  refine lv_aload_n hx hb dX3_init_83 rfl (lv_at hl 0 rfl) ?_
  refine lv_bipush (v := 14) hx hb dX3_init_84 (by decide) ?_
  refine k_newI hC hP hD hS hA dX3_init_86 (by decide) (N' := 14) rfl (by decide) (Nat.le_of_ble_eq_true rfl) (Nat.le_of_ble_eq_true rfl) (fun q11 H hP hD hS => ?_)
  have hP : va_P γ.1 vwCl [(o, .inr (4, [.ref q1, .ref q2, .ref q3, .ref q4, .ref q5, .ref q6, .ref q7, .ref q8, .ref q9, .ref q10, .null, .null, .null, .int 0])), (q1, .inl (gI γ, 6, .inl (fun _ => 0))), (q2, .inl (gI γ, 6, .inl (fun _ => 0))), (q3, .inl (gI γ, 6, .inl (fun _ => 0))), (q4, .inl (gI γ, 6, .inl (fun _ => 0))), (q5, .inl (gI γ, 3, .inl (fun _ => 0))), (q6, .inl (gI γ, 14, .inl (fun _ => 0))), (q7, .inl (gI γ, 14, .inl (fun _ => 0))), (q8, .inl (gI γ, 14, .inl (fun _ => 0))), (q9, .inl (gI γ, 14, .inl (fun _ => 0))), (q10, .inl (gI γ, 14, .inl (fun _ => 0))), (q11, .inl (gI γ, 14, .inl (fun _ => 0)))] H := hP
  have hD : va_D A [(o, .inr (4, [.ref q1, .ref q2, .ref q3, .ref q4, .ref q5, .ref q6, .ref q7, .ref q8, .ref q9, .ref q10, .null, .null, .null, .int 0])), (q1, .inl (gI γ, 6, .inl (fun _ => 0))), (q2, .inl (gI γ, 6, .inl (fun _ => 0))), (q3, .inl (gI γ, 6, .inl (fun _ => 0))), (q4, .inl (gI γ, 6, .inl (fun _ => 0))), (q5, .inl (gI γ, 3, .inl (fun _ => 0))), (q6, .inl (gI γ, 14, .inl (fun _ => 0))), (q7, .inl (gI γ, 14, .inl (fun _ => 0))), (q8, .inl (gI γ, 14, .inl (fun _ => 0))), (q9, .inl (gI γ, 14, .inl (fun _ => 0))), (q10, .inl (gI γ, 14, .inl (fun _ => 0))), (q11, .inl (gI γ, 14, .inl (fun _ => 0)))] := hD
  refine W.widen (k := 11) (n := 111) (by decide) (by decide) ?_
  refine k_putF hC hmn hP hD hS 0 10 tyX3 dX3_init_88 rfl rfl inX3 tyX3_ok nmX3 (by decide) u_1_69 rfl rfl rfl rfl rfl (Nat.le_of_ble_eq_true rfl) (fun H locs hP hD hS => ?_)
  have hP : va_P γ.1 vwCl [(o, .inr (4, [.ref q1, .ref q2, .ref q3, .ref q4, .ref q5, .ref q6, .ref q7, .ref q8, .ref q9, .ref q10, .ref q11, .null, .null, .int 0])), (q1, .inl (gI γ, 6, .inl (fun _ => 0))), (q2, .inl (gI γ, 6, .inl (fun _ => 0))), (q3, .inl (gI γ, 6, .inl (fun _ => 0))), (q4, .inl (gI γ, 6, .inl (fun _ => 0))), (q5, .inl (gI γ, 3, .inl (fun _ => 0))), (q6, .inl (gI γ, 14, .inl (fun _ => 0))), (q7, .inl (gI γ, 14, .inl (fun _ => 0))), (q8, .inl (gI γ, 14, .inl (fun _ => 0))), (q9, .inl (gI γ, 14, .inl (fun _ => 0))), (q10, .inl (gI γ, 14, .inl (fun _ => 0))), (q11, .inl (gI γ, 14, .inl (fun _ => 0)))] H := hP
  have hD : va_D A [(o, .inr (4, [.ref q1, .ref q2, .ref q3, .ref q4, .ref q5, .ref q6, .ref q7, .ref q8, .ref q9, .ref q10, .ref q11, .null, .null, .int 0])), (q1, .inl (gI γ, 6, .inl (fun _ => 0))), (q2, .inl (gI γ, 6, .inl (fun _ => 0))), (q3, .inl (gI γ, 6, .inl (fun _ => 0))), (q4, .inl (gI γ, 6, .inl (fun _ => 0))), (q5, .inl (gI γ, 3, .inl (fun _ => 0))), (q6, .inl (gI γ, 14, .inl (fun _ => 0))), (q7, .inl (gI γ, 14, .inl (fun _ => 0))), (q8, .inl (gI γ, 14, .inl (fun _ => 0))), (q9, .inl (gI γ, 14, .inl (fun _ => 0))), (q10, .inl (gI γ, 14, .inl (fun _ => 0))), (q11, .inl (gI γ, 14, .inl (fun _ => 0)))] := hD
  refine lv_aload_n hx hb dX3_init_91 rfl (lv_at hl 0 rfl) ?_
  refine lv_bipush (v := 14) hx hb dX3_init_92 (by decide) ?_
  refine k_newI hC hP hD hS hA dX3_init_94 (by decide) (N' := 14) rfl (by decide) (Nat.le_of_ble_eq_true rfl) (Nat.le_of_ble_eq_true rfl) (fun q12 H hP hD hS => ?_)
  have hP : va_P γ.1 vwCl [(o, .inr (4, [.ref q1, .ref q2, .ref q3, .ref q4, .ref q5, .ref q6, .ref q7, .ref q8, .ref q9, .ref q10, .ref q11, .null, .null, .int 0])), (q1, .inl (gI γ, 6, .inl (fun _ => 0))), (q2, .inl (gI γ, 6, .inl (fun _ => 0))), (q3, .inl (gI γ, 6, .inl (fun _ => 0))), (q4, .inl (gI γ, 6, .inl (fun _ => 0))), (q5, .inl (gI γ, 3, .inl (fun _ => 0))), (q6, .inl (gI γ, 14, .inl (fun _ => 0))), (q7, .inl (gI γ, 14, .inl (fun _ => 0))), (q8, .inl (gI γ, 14, .inl (fun _ => 0))), (q9, .inl (gI γ, 14, .inl (fun _ => 0))), (q10, .inl (gI γ, 14, .inl (fun _ => 0))), (q11, .inl (gI γ, 14, .inl (fun _ => 0))), (q12, .inl (gI γ, 14, .inl (fun _ => 0)))] H := hP
  have hD : va_D A [(o, .inr (4, [.ref q1, .ref q2, .ref q3, .ref q4, .ref q5, .ref q6, .ref q7, .ref q8, .ref q9, .ref q10, .ref q11, .null, .null, .int 0])), (q1, .inl (gI γ, 6, .inl (fun _ => 0))), (q2, .inl (gI γ, 6, .inl (fun _ => 0))), (q3, .inl (gI γ, 6, .inl (fun _ => 0))), (q4, .inl (gI γ, 6, .inl (fun _ => 0))), (q5, .inl (gI γ, 3, .inl (fun _ => 0))), (q6, .inl (gI γ, 14, .inl (fun _ => 0))), (q7, .inl (gI γ, 14, .inl (fun _ => 0))), (q8, .inl (gI γ, 14, .inl (fun _ => 0))), (q9, .inl (gI γ, 14, .inl (fun _ => 0))), (q10, .inl (gI γ, 14, .inl (fun _ => 0))), (q11, .inl (gI γ, 14, .inl (fun _ => 0))), (q12, .inl (gI γ, 14, .inl (fun _ => 0)))] := hD
  refine W.widen (k := 12) (n := 125) (by decide) (by decide) ?_
  refine k_putF hC hmn hP hD hS 0 11 tyX3 dX3_init_96 rfl rfl inX3 tyX3_ok nmX3 (by decide) u_1_71 rfl rfl rfl rfl rfl (Nat.le_of_ble_eq_true rfl) (fun H locs hP hD hS => ?_)
  have hP : va_P γ.1 vwCl [(o, .inr (4, [.ref q1, .ref q2, .ref q3, .ref q4, .ref q5, .ref q6, .ref q7, .ref q8, .ref q9, .ref q10, .ref q11, .ref q12, .null, .int 0])), (q1, .inl (gI γ, 6, .inl (fun _ => 0))), (q2, .inl (gI γ, 6, .inl (fun _ => 0))), (q3, .inl (gI γ, 6, .inl (fun _ => 0))), (q4, .inl (gI γ, 6, .inl (fun _ => 0))), (q5, .inl (gI γ, 3, .inl (fun _ => 0))), (q6, .inl (gI γ, 14, .inl (fun _ => 0))), (q7, .inl (gI γ, 14, .inl (fun _ => 0))), (q8, .inl (gI γ, 14, .inl (fun _ => 0))), (q9, .inl (gI γ, 14, .inl (fun _ => 0))), (q10, .inl (gI γ, 14, .inl (fun _ => 0))), (q11, .inl (gI γ, 14, .inl (fun _ => 0))), (q12, .inl (gI γ, 14, .inl (fun _ => 0)))] H := hP
  have hD : va_D A [(o, .inr (4, [.ref q1, .ref q2, .ref q3, .ref q4, .ref q5, .ref q6, .ref q7, .ref q8, .ref q9, .ref q10, .ref q11, .ref q12, .null, .int 0])), (q1, .inl (gI γ, 6, .inl (fun _ => 0))), (q2, .inl (gI γ, 6, .inl (fun _ => 0))), (q3, .inl (gI γ, 6, .inl (fun _ => 0))), (q4, .inl (gI γ, 6, .inl (fun _ => 0))), (q5, .inl (gI γ, 3, .inl (fun _ => 0))), (q6, .inl (gI γ, 14, .inl (fun _ => 0))), (q7, .inl (gI γ, 14, .inl (fun _ => 0))), (q8, .inl (gI γ, 14, .inl (fun _ => 0))), (q9, .inl (gI γ, 14, .inl (fun _ => 0))), (q10, .inl (gI γ, 14, .inl (fun _ => 0))), (q11, .inl (gI γ, 14, .inl (fun _ => 0))), (q12, .inl (gI γ, 14, .inl (fun _ => 0)))] := hD
  refine lv_aload_n hx hb dX3_init_99 rfl (lv_at hl 0 rfl) ?_
  refine lv_bipush (v := 14) hx hb dX3_init_100 (by decide) ?_
  refine k_newZ hC hP hD hS hA dX3_init_102 (by decide) (N' := 14) rfl (by decide) (Nat.le_of_ble_eq_true rfl) (Nat.le_of_ble_eq_true rfl) (fun q13 H hP hD hS => ?_)
  have hP : va_P γ.1 vwCl [(o, .inr (4, [.ref q1, .ref q2, .ref q3, .ref q4, .ref q5, .ref q6, .ref q7, .ref q8, .ref q9, .ref q10, .ref q11, .ref q12, .null, .int 0])), (q1, .inl (gI γ, 6, .inl (fun _ => 0))), (q2, .inl (gI γ, 6, .inl (fun _ => 0))), (q3, .inl (gI γ, 6, .inl (fun _ => 0))), (q4, .inl (gI γ, 6, .inl (fun _ => 0))), (q5, .inl (gI γ, 3, .inl (fun _ => 0))), (q6, .inl (gI γ, 14, .inl (fun _ => 0))), (q7, .inl (gI γ, 14, .inl (fun _ => 0))), (q8, .inl (gI γ, 14, .inl (fun _ => 0))), (q9, .inl (gI γ, 14, .inl (fun _ => 0))), (q10, .inl (gI γ, 14, .inl (fun _ => 0))), (q11, .inl (gI γ, 14, .inl (fun _ => 0))), (q12, .inl (gI γ, 14, .inl (fun _ => 0))), (q13, .inl (gZ γ, 14, .inl (fun _ => 0)))] H := hP
  have hD : va_D A [(o, .inr (4, [.ref q1, .ref q2, .ref q3, .ref q4, .ref q5, .ref q6, .ref q7, .ref q8, .ref q9, .ref q10, .ref q11, .ref q12, .null, .int 0])), (q1, .inl (gI γ, 6, .inl (fun _ => 0))), (q2, .inl (gI γ, 6, .inl (fun _ => 0))), (q3, .inl (gI γ, 6, .inl (fun _ => 0))), (q4, .inl (gI γ, 6, .inl (fun _ => 0))), (q5, .inl (gI γ, 3, .inl (fun _ => 0))), (q6, .inl (gI γ, 14, .inl (fun _ => 0))), (q7, .inl (gI γ, 14, .inl (fun _ => 0))), (q8, .inl (gI γ, 14, .inl (fun _ => 0))), (q9, .inl (gI γ, 14, .inl (fun _ => 0))), (q10, .inl (gI γ, 14, .inl (fun _ => 0))), (q11, .inl (gI γ, 14, .inl (fun _ => 0))), (q12, .inl (gI γ, 14, .inl (fun _ => 0))), (q13, .inl (gZ γ, 14, .inl (fun _ => 0)))] := hD
  refine W.widen (k := 13) (n := 139) (by decide) (by decide) ?_
  refine k_putF hC hmn hP hD hS 0 12 tyX3 dX3_init_104 rfl rfl inX3 tyX3_ok nmX3 (by decide) u_1_73 rfl rfl rfl rfl rfl (Nat.le_of_ble_eq_true rfl) (fun H locs hP hD hS => ?_)
  have hP : va_P γ.1 vwCl [(o, .inr (4, [.ref q1, .ref q2, .ref q3, .ref q4, .ref q5, .ref q6, .ref q7, .ref q8, .ref q9, .ref q10, .ref q11, .ref q12, .ref q13, .int 0])), (q1, .inl (gI γ, 6, .inl (fun _ => 0))), (q2, .inl (gI γ, 6, .inl (fun _ => 0))), (q3, .inl (gI γ, 6, .inl (fun _ => 0))), (q4, .inl (gI γ, 6, .inl (fun _ => 0))), (q5, .inl (gI γ, 3, .inl (fun _ => 0))), (q6, .inl (gI γ, 14, .inl (fun _ => 0))), (q7, .inl (gI γ, 14, .inl (fun _ => 0))), (q8, .inl (gI γ, 14, .inl (fun _ => 0))), (q9, .inl (gI γ, 14, .inl (fun _ => 0))), (q10, .inl (gI γ, 14, .inl (fun _ => 0))), (q11, .inl (gI γ, 14, .inl (fun _ => 0))), (q12, .inl (gI γ, 14, .inl (fun _ => 0))), (q13, .inl (gZ γ, 14, .inl (fun _ => 0)))] H := hP
  have hD : va_D A [(o, .inr (4, [.ref q1, .ref q2, .ref q3, .ref q4, .ref q5, .ref q6, .ref q7, .ref q8, .ref q9, .ref q10, .ref q11, .ref q12, .ref q13, .int 0])), (q1, .inl (gI γ, 6, .inl (fun _ => 0))), (q2, .inl (gI γ, 6, .inl (fun _ => 0))), (q3, .inl (gI γ, 6, .inl (fun _ => 0))), (q4, .inl (gI γ, 6, .inl (fun _ => 0))), (q5, .inl (gI γ, 3, .inl (fun _ => 0))), (q6, .inl (gI γ, 14, .inl (fun _ => 0))), (q7, .inl (gI γ, 14, .inl (fun _ => 0))), (q8, .inl (gI γ, 14, .inl (fun _ => 0))), (q9, .inl (gI γ, 14, .inl (fun _ => 0))), (q10, .inl (gI γ, 14, .inl (fun _ => 0))), (q11, .inl (gI γ, 14, .inl (fun _ => 0))), (q12, .inl (gI γ, 14, .inl (fun _ => 0))), (q13, .inl (gZ γ, 14, .inl (fun _ => 0)))] := hD
  refine lv_aload_n hx hb dX3_init_107 rfl (lv_at hl 0 rfl) ?_
  refine k_get hC hP 0 0 dX3_init_108 rfl rfl inX3 (by decide) rfl u_1_44 ?_
  refine lv_bipush (v := 30) hx hb dX3_init_111 (by decide) ?_
  have hPc := hP.sub (ws' := [(q1, .inl (gI γ, 6, .inl (fun _ => 0)))]) [1] rfl
  have hDc := hD.sub (ws' := [(q1, .inl (gI γ, 6, .inl (fun _ => 0)))]) [1] (by decide) rfl
  have hFc := va_free (wc := [(q1, .inl (gI γ, 6, .inl (fun _ => 0)))]) hD hS hA [1] rfl
  refine va_callv (va_runS (As := [.ref q1, .int 30]) (rest := []) hC.1 (c7_fill l (γ := γ) (sz := H.size) (n := 6) (by decide)) ⟨gCB hC u_1_41 yv_J7_fill.2.1 yv_J7_fill.2.2.1 yv_J7_fill.2.2.2.1 (Nat.le_of_ble_eq_true rfl) (by decide), hC.w yv_J7_fill.1⟩ ⟨kPc_blind, fun U hU hW => ⟨rfl, by rw [hU], by rw [hU]; exact hPc, hC.2.1.warm hW, hC.2.2.1, hDc.weaken (fun _ _ _ _ => trivial)⟩⟩ rfl rfl hl.1 rfl (lv_room (Nat.le_of_ble_eq_true rfl)) dX3_init_113 ⟨by decide, by decide⟩) hS (fun q _ h => hFc q h) hFc (fun u9 t9 H1 locs ht9 hvm9 hw9 hB9 hz1 hk1 hS => ?_)
  obtain ⟨hP1, hD1⟩ := hB9
  rw [ht9] at hP1
  obtain ⟨hP, hD⟩ := va_join (wr := [(o, .inr (4, [.ref q1, .ref q2, .ref q3, .ref q4, .ref q5, .ref q6, .ref q7, .ref q8, .ref q9, .ref q10, .ref q11, .ref q12, .ref q13, .int 0])), (q2, .inl (gI γ, 6, .inl (fun _ => 0))), (q3, .inl (gI γ, 6, .inl (fun _ => 0))), (q4, .inl (gI γ, 6, .inl (fun _ => 0))), (q5, .inl (gI γ, 3, .inl (fun _ => 0))), (q6, .inl (gI γ, 14, .inl (fun _ => 0))), (q7, .inl (gI γ, 14, .inl (fun _ => 0))), (q8, .inl (gI γ, 14, .inl (fun _ => 0))), (q9, .inl (gI γ, 14, .inl (fun _ => 0))), (q10, .inl (gI γ, 14, .inl (fun _ => 0))), (q11, .inl (gI γ, 14, .inl (fun _ => 0))), (q12, .inl (gI γ, 14, .inl (fun _ => 0))), (q13, .inl (gZ γ, 14, .inl (fun _ => 0)))]) (w1 := [(q1, .inl (gI γ, 6, .inl (fillv 6 (fun _ => 0) 30)))]) hP hD [1] [0, 2, 3, 4, 5, 6, 7, 8, 9, 10, 11, 12, 13] rfl rfl (by decide) (by decide) hk1 hFc hP1 hD1
  clear hPc hDc hFc hP1 hD1 hk1
  generalize H1 = H at hP hS ⊢
  have hP := hP.sub (ws' := [(o, .inr (4, [.ref q1, .ref q2, .ref q3, .ref q4, .ref q5, .ref q6, .ref q7, .ref q8, .ref q9, .ref q10, .ref q11, .ref q12, .ref q13, .int 0])), (q1, .inl (gI γ, 6, .inl (fillv 6 (fun _ => 0) 30))), (q2, .inl (gI γ, 6, .inl (fun _ => 0))), (q3, .inl (gI γ, 6, .inl (fun _ => 0))), (q4, .inl (gI γ, 6, .inl (fun _ => 0))), (q5, .inl (gI γ, 3, .inl (fun _ => 0))), (q6, .inl (gI γ, 14, .inl (fun _ => 0))), (q7, .inl (gI γ, 14, .inl (fun _ => 0))), (q8, .inl (gI γ, 14, .inl (fun _ => 0))), (q9, .inl (gI γ, 14, .inl (fun _ => 0))), (q10, .inl (gI γ, 14, .inl (fun _ => 0))), (q11, .inl (gI γ, 14, .inl (fun _ => 0))), (q12, .inl (gI γ, 14, .inl (fun _ => 0))), (q13, .inl (gZ γ, 14, .inl (fun _ => 0)))]) [0, 13, 1, 2, 3, 4, 5, 6, 7, 8, 9, 10, 11, 12] rfl
  have hD := hD.sub (ws' := [(o, .inr (4, [.ref q1, .ref q2, .ref q3, .ref q4, .ref q5, .ref q6, .ref q7, .ref q8, .ref q9, .ref q10, .ref q11, .ref q12, .ref q13, .int 0])), (q1, .inl (gI γ, 6, .inl (fillv 6 (fun _ => 0) 30))), (q2, .inl (gI γ, 6, .inl (fun _ => 0))), (q3, .inl (gI γ, 6, .inl (fun _ => 0))), (q4, .inl (gI γ, 6, .inl (fun _ => 0))), (q5, .inl (gI γ, 3, .inl (fun _ => 0))), (q6, .inl (gI γ, 14, .inl (fun _ => 0))), (q7, .inl (gI γ, 14, .inl (fun _ => 0))), (q8, .inl (gI γ, 14, .inl (fun _ => 0))), (q9, .inl (gI γ, 14, .inl (fun _ => 0))), (q10, .inl (gI γ, 14, .inl (fun _ => 0))), (q11, .inl (gI γ, 14, .inl (fun _ => 0))), (q12, .inl (gI γ, 14, .inl (fun _ => 0))), (q13, .inl (gZ γ, 14, .inl (fun _ => 0)))]) [0, 13, 1, 2, 3, 4, 5, 6, 7, 8, 9, 10, 11, 12] (by decide) rfl
  clear ht9 hvm9 hw9 hz1
  refine lv_aload_n hx hb dX3_init_116 rfl (lv_at hl 0 rfl) ?_
  refine k_get hC hP 0 2 dX3_init_117 rfl rfl inX3 (by decide) rfl u_1_49 ?_
  refine lv_bipush (v := 10) hx hb dX3_init_120 (by decide) ?_
  have hPc := hP.sub (ws' := [(q3, .inl (gI γ, 6, .inl (fun _ => 0)))]) [3] rfl
  have hDc := hD.sub (ws' := [(q3, .inl (gI γ, 6, .inl (fun _ => 0)))]) [3] (by decide) rfl
  have hFc := va_free (wc := [(q3, .inl (gI γ, 6, .inl (fun _ => 0)))]) hD hS hA [3] rfl
  refine va_callv (va_runS (As := [.ref q3, .int 10]) (rest := []) hC.1 (c7_fill l (γ := γ) (sz := H.size) (n := 6) (by decide)) ⟨gCB hC u_1_41 yv_J7_fill.2.1 yv_J7_fill.2.2.1 yv_J7_fill.2.2.2.1 (Nat.le_of_ble_eq_true rfl) (by decide), hC.w yv_J7_fill.1⟩ ⟨kPc_blind, fun U hU hW => ⟨rfl, by rw [hU], by rw [hU]; exact hPc, hC.2.1.warm hW, hC.2.2.1, hDc.weaken (fun _ _ _ _ => trivial)⟩⟩ rfl rfl hl.1 rfl (lv_room (Nat.le_of_ble_eq_true rfl)) dX3_init_122 ⟨by decide, by decide⟩) hS (fun q _ h => hFc q h) hFc (fun u9 t9 H1 locs ht9 hvm9 hw9 hB9 hz1 hk1 hS => ?_)
  obtain ⟨hP1, hD1⟩ := hB9
  rw [ht9] at hP1
  obtain ⟨hP, hD⟩ := va_join (wr := [(o, .inr (4, [.ref q1, .ref q2, .ref q3, .ref q4, .ref q5, .ref q6, .ref q7, .ref q8, .ref q9, .ref q10, .ref q11, .ref q12, .ref q13, .int 0])), (q1, .inl (gI γ, 6, .inl (fillv 6 (fun _ => 0) 30))), (q2, .inl (gI γ, 6, .inl (fun _ => 0))), (q4, .inl (gI γ, 6, .inl (fun _ => 0))), (q5, .inl (gI γ, 3, .inl (fun _ => 0))), (q6, .inl (gI γ, 14, .inl (fun _ => 0))), (q7, .inl (gI γ, 14, .inl (fun _ => 0))), (q8, .inl (gI γ, 14, .inl (fun _ => 0))), (q9, .inl (gI γ, 14, .inl (fun _ => 0))), (q10, .inl (gI γ, 14, .inl (fun _ => 0))), (q11, .inl (gI γ, 14, .inl (fun _ => 0))), (q12, .inl (gI γ, 14, .inl (fun _ => 0))), (q13, .inl (gZ γ, 14, .inl (fun _ => 0)))]) (w1 := [(q3, .inl (gI γ, 6, .inl (fillv 6 (fun _ => 0) 10)))]) hP hD [3] [0, 1, 2, 4, 5, 6, 7, 8, 9, 10, 11, 12, 13] rfl rfl (by decide) (by decide) hk1 hFc hP1 hD1
  clear hPc hDc hFc hP1 hD1 hk1
  generalize H1 = H at hP hS ⊢
  have hP := hP.sub (ws' := [(o, .inr (4, [.ref q1, .ref q2, .ref q3, .ref q4, .ref q5, .ref q6, .ref q7, .ref q8, .ref q9, .ref q10, .ref q11, .ref q12, .ref q13, .int 0])), (q1, .inl (gI γ, 6, .inl (fillv 6 (fun _ => 0) 30))), (q2, .inl (gI γ, 6, .inl (fun _ => 0))), (q3, .inl (gI γ, 6, .inl (fillv 6 (fun _ => 0) 10))), (q4, .inl (gI γ, 6, .inl (fun _ => 0))), (q5, .inl (gI γ, 3, .inl (fun _ => 0))), (q6, .inl (gI γ, 14, .inl (fun _ => 0))), (q7, .inl (gI γ, 14, .inl (fun _ => 0))), (q8, .inl (gI γ, 14, .inl (fun _ => 0))), (q9, .inl (gI γ, 14, .inl (fun _ => 0))), (q10, .inl (gI γ, 14, .inl (fun _ => 0))), (q11, .inl (gI γ, 14, .inl (fun _ => 0))), (q12, .inl (gI γ, 14, .inl (fun _ => 0))), (q13, .inl (gZ γ, 14, .inl (fun _ => 0)))]) [0, 1, 2, 13, 3, 4, 5, 6, 7, 8, 9, 10, 11, 12] rfl
  have hD := hD.sub (ws' := [(o, .inr (4, [.ref q1, .ref q2, .ref q3, .ref q4, .ref q5, .ref q6, .ref q7, .ref q8, .ref q9, .ref q10, .ref q11, .ref q12, .ref q13, .int 0])), (q1, .inl (gI γ, 6, .inl (fillv 6 (fun _ => 0) 30))), (q2, .inl (gI γ, 6, .inl (fun _ => 0))), (q3, .inl (gI γ, 6, .inl (fillv 6 (fun _ => 0) 10))), (q4, .inl (gI γ, 6, .inl (fun _ => 0))), (q5, .inl (gI γ, 3, .inl (fun _ => 0))), (q6, .inl (gI γ, 14, .inl (fun _ => 0))), (q7, .inl (gI γ, 14, .inl (fun _ => 0))), (q8, .inl (gI γ, 14, .inl (fun _ => 0))), (q9, .inl (gI γ, 14, .inl (fun _ => 0))), (q10, .inl (gI γ, 14, .inl (fun _ => 0))), (q11, .inl (gI γ, 14, .inl (fun _ => 0))), (q12, .inl (gI γ, 14, .inl (fun _ => 0))), (q13, .inl (gZ γ, 14, .inl (fun _ => 0)))]) [0, 1, 2, 13, 3, 4, 5, 6, 7, 8, 9, 10, 11, 12] (by decide) rfl
  clear ht9 hvm9 hw9 hz1
  refine lv_aload_n hx hb dX3_init_125 rfl (lv_at hl 0 rfl) ?_
  refine k_get hC hP 0 3 dX3_init_126 rfl rfl inX3 (by decide) rfl u_1_51 ?_
  refine lv_sipush (v := 1023) hx hb dX3_init_129 (by decide) ?_
  have hPc := hP.sub (ws' := [(q4, .inl (gI γ, 6, .inl (fun _ => 0)))]) [4] rfl
  have hDc := hD.sub (ws' := [(q4, .inl (gI γ, 6, .inl (fun _ => 0)))]) [4] (by decide) rfl
  have hFc := va_free (wc := [(q4, .inl (gI γ, 6, .inl (fun _ => 0)))]) hD hS hA [4] rfl
  refine va_callv (va_runS (As := [.ref q4, .int 1023]) (rest := []) hC.1 (c7_fill l (γ := γ) (sz := H.size) (n := 6) (by decide)) ⟨gCB hC u_1_41 yv_J7_fill.2.1 yv_J7_fill.2.2.1 yv_J7_fill.2.2.2.1 (Nat.le_of_ble_eq_true rfl) (by decide), hC.w yv_J7_fill.1⟩ ⟨kPc_blind, fun U hU hW => ⟨rfl, by rw [hU], by rw [hU]; exact hPc, hC.2.1.warm hW, hC.2.2.1, hDc.weaken (fun _ _ _ _ => trivial)⟩⟩ rfl rfl hl.1 rfl (lv_room (Nat.le_of_ble_eq_true rfl)) dX3_init_132 ⟨by decide, by decide⟩) hS (fun q _ h => hFc q h) hFc (fun u9 t9 H1 locs ht9 hvm9 hw9 hB9 hz1 hk1 hS => ?_)
  obtain ⟨hP1, hD1⟩ := hB9
  rw [ht9] at hP1
  obtain ⟨hP, hD⟩ := va_join (wr := [(o, .inr (4, [.ref q1, .ref q2, .ref q3, .ref q4, .ref q5, .ref q6, .ref q7, .ref q8, .ref q9, .ref q10, .ref q11, .ref q12, .ref q13, .int 0])), (q1, .inl (gI γ, 6, .inl (fillv 6 (fun _ => 0) 30))), (q2, .inl (gI γ, 6, .inl (fun _ => 0))), (q3, .inl (gI γ, 6, .inl (fillv 6 (fun _ => 0) 10))), (q5, .inl (gI γ, 3, .inl (fun _ => 0))), (q6, .inl (gI γ, 14, .inl (fun _ => 0))), (q7, .inl (gI γ, 14, .inl (fun _ => 0))), (q8, .inl (gI γ, 14, .inl (fun _ => 0))), (q9, .inl (gI γ, 14, .inl (fun _ => 0))), (q10, .inl (gI γ, 14, .inl (fun _ => 0))), (q11, .inl (gI γ, 14, .inl (fun _ => 0))), (q12, .inl (gI γ, 14, .inl (fun _ => 0))), (q13, .inl (gZ γ, 14, .inl (fun _ => 0)))]) (w1 := [(q4, .inl (gI γ, 6, .inl (fillv 6 (fun _ => 0) 1023)))]) hP hD [4] [0, 1, 2, 3, 5, 6, 7, 8, 9, 10, 11, 12, 13] rfl rfl (by decide) (by decide) hk1 hFc hP1 hD1
  clear hPc hDc hFc hP1 hD1 hk1
  generalize H1 = H at hP hS ⊢
  have hP := hP.sub (ws' := [(o, .inr (4, [.ref q1, .ref q2, .ref q3, .ref q4, .ref q5, .ref q6, .ref q7, .ref q8, .ref q9, .ref q10, .ref q11, .ref q12, .ref q13, .int 0])), (q1, .inl (gI γ, 6, .inl (fillv 6 (fun _ => 0) 30))), (q2, .inl (gI γ, 6, .inl (fun _ => 0))), (q3, .inl (gI γ, 6, .inl (fillv 6 (fun _ => 0) 10))), (q4, .inl (gI γ, 6, .inl (fillv 6 (fun _ => 0) 1023))), (q5, .inl (gI γ, 3, .inl (fun _ => 0))), (q6, .inl (gI γ, 14, .inl (fun _ => 0))), (q7, .inl (gI γ, 14, .inl (fun _ => 0))), (q8, .inl (gI γ, 14, .inl (fun _ => 0))), (q9, .inl (gI γ, 14, .inl (fun _ => 0))), (q10, .inl (gI γ, 14, .inl (fun _ => 0))), (q11, .inl (gI γ, 14, .inl (fun _ => 0))), (q12, .inl (gI γ, 14, .inl (fun _ => 0))), (q13, .inl (gZ γ, 14, .inl (fun _ => 0)))]) [0, 1, 2, 3, 13, 4, 5, 6, 7, 8, 9, 10, 11, 12] rfl
  have hD := hD.sub (ws' := [(o, .inr (4, [.ref q1, .ref q2, .ref q3, .ref q4, .ref q5, .ref q6, .ref q7, .ref q8, .ref q9, .ref q10, .ref q11, .ref q12, .ref q13, .int 0])), (q1, .inl (gI γ, 6, .inl (fillv 6 (fun _ => 0) 30))), (q2, .inl (gI γ, 6, .inl (fun _ => 0))), (q3, .inl (gI γ, 6, .inl (fillv 6 (fun _ => 0) 10))), (q4, .inl (gI γ, 6, .inl (fillv 6 (fun _ => 0) 1023))), (q5, .inl (gI γ, 3, .inl (fun _ => 0))), (q6, .inl (gI γ, 14, .inl (fun _ => 0))), (q7, .inl (gI γ, 14, .inl (fun _ => 0))), (q8, .inl (gI γ, 14, .inl (fun _ => 0))), (q9, .inl (gI γ, 14, .inl (fun _ => 0))), (q10, .inl (gI γ, 14, .inl (fun _ => 0))), (q11, .inl (gI γ, 14, .inl (fun _ => 0))), (q12, .inl (gI γ, 14, .inl (fun _ => 0))), (q13, .inl (gZ γ, 14, .inl (fun _ => 0)))]) [0, 1, 2, 3, 13, 4, 5, 6, 7, 8, 9, 10, 11, 12] (by decide) rfl
  clear ht9 hvm9 hw9 hz1
  refine lv_aload_n hx hb dX3_init_135 rfl (lv_at hl 0 rfl) ?_
  refine k_get hC hP 0 4 dX3_init_136 rfl rfl inX3 (by decide) rfl u_1_53 ?_
  refine lv_iconst (v := 1) hx hb dX3_init_139 (by decide) ?_
  have hPc := hP.sub (ws' := [(q5, .inl (gI γ, 3, .inl (fun _ => 0)))]) [5] rfl
  have hDc := hD.sub (ws' := [(q5, .inl (gI γ, 3, .inl (fun _ => 0)))]) [5] (by decide) rfl
  have hFc := va_free (wc := [(q5, .inl (gI γ, 3, .inl (fun _ => 0)))]) hD hS hA [5] rfl
  refine va_callv (va_runS (As := [.ref q5, .int 1]) (rest := []) hC.1 (c7_fill l (γ := γ) (sz := H.size) (n := 3) (by decide)) ⟨gCB hC u_1_41 yv_J7_fill.2.1 yv_J7_fill.2.2.1 yv_J7_fill.2.2.2.1 (Nat.le_of_ble_eq_true rfl) (by decide), hC.w yv_J7_fill.1⟩ ⟨kPc_blind, fun U hU hW => ⟨rfl, by rw [hU], by rw [hU]; exact hPc, hC.2.1.warm hW, hC.2.2.1, hDc.weaken (fun _ _ _ _ => trivial)⟩⟩ rfl rfl hl.1 rfl (lv_room (Nat.le_of_ble_eq_true rfl)) dX3_init_140 ⟨by decide, by decide⟩) hS (fun q _ h => hFc q h) hFc (fun u9 t9 H1 locs ht9 hvm9 hw9 hB9 hz1 hk1 hS => ?_)
  obtain ⟨hP1, hD1⟩ := hB9
  rw [ht9] at hP1
  obtain ⟨hP, hD⟩ := va_join (wr := [(o, .inr (4, [.ref q1, .ref q2, .ref q3, .ref q4, .ref q5, .ref q6, .ref q7, .ref q8, .ref q9, .ref q10, .ref q11, .ref q12, .ref q13, .int 0])), (q1, .inl (gI γ, 6, .inl (fillv 6 (fun _ => 0) 30))), (q2, .inl (gI γ, 6, .inl (fun _ => 0))), (q3, .inl (gI γ, 6, .inl (fillv 6 (fun _ => 0) 10))), (q4, .inl (gI γ, 6, .inl (fillv 6 (fun _ => 0) 1023))), (q6, .inl (gI γ, 14, .inl (fun _ => 0))), (q7, .inl (gI γ, 14, .inl (fun _ => 0))), (q8, .inl (gI γ, 14, .inl (fun _ => 0))), (q9, .inl (gI γ, 14, .inl (fun _ => 0))), (q10, .inl (gI γ, 14, .inl (fun _ => 0))), (q11, .inl (gI γ, 14, .inl (fun _ => 0))), (q12, .inl (gI γ, 14, .inl (fun _ => 0))), (q13, .inl (gZ γ, 14, .inl (fun _ => 0)))]) (w1 := [(q5, .inl (gI γ, 3, .inl (fillv 3 (fun _ => 0) 1)))]) hP hD [5] [0, 1, 2, 3, 4, 6, 7, 8, 9, 10, 11, 12, 13] rfl rfl (by decide) (by decide) hk1 hFc hP1 hD1
  clear hPc hDc hFc hP1 hD1 hk1
  generalize H1 = H at hP hS ⊢
  have hP := hP.sub (ws' := [(o, .inr (4, [.ref q1, .ref q2, .ref q3, .ref q4, .ref q5, .ref q6, .ref q7, .ref q8, .ref q9, .ref q10, .ref q11, .ref q12, .ref q13, .int 0])), (q1, .inl (gI γ, 6, .inl (fillv 6 (fun _ => 0) 30))), (q2, .inl (gI γ, 6, .inl (fun _ => 0))), (q3, .inl (gI γ, 6, .inl (fillv 6 (fun _ => 0) 10))), (q4, .inl (gI γ, 6, .inl (fillv 6 (fun _ => 0) 1023))), (q5, .inl (gI γ, 3, .inl (fillv 3 (fun _ => 0) 1))), (q6, .inl (gI γ, 14, .inl (fun _ => 0))), (q7, .inl (gI γ, 14, .inl (fun _ => 0))), (q8, .inl (gI γ, 14, .inl (fun _ => 0))), (q9, .inl (gI γ, 14, .inl (fun _ => 0))), (q10, .inl (gI γ, 14, .inl (fun _ => 0))), (q11, .inl (gI γ, 14, .inl (fun _ => 0))), (q12, .inl (gI γ, 14, .inl (fun _ => 0))), (q13, .inl (gZ γ, 14, .inl (fun _ => 0)))]) [0, 1, 2, 3, 4, 13, 5, 6, 7, 8, 9, 10, 11, 12] rfl
  have hD := hD.sub (ws' := [(o, .inr (4, [.ref q1, .ref q2, .ref q3, .ref q4, .ref q5, .ref q6, .ref q7, .ref q8, .ref q9, .ref q10, .ref q11, .ref q12, .ref q13, .int 0])), (q1, .inl (gI γ, 6, .inl (fillv 6 (fun _ => 0) 30))), (q2, .inl (gI γ, 6, .inl (fun _ => 0))), (q3, .inl (gI γ, 6, .inl (fillv 6 (fun _ => 0) 10))), (q4, .inl (gI γ, 6, .inl (fillv 6 (fun _ => 0) 1023))), (q5, .inl (gI γ, 3, .inl (fillv 3 (fun _ => 0) 1))), (q6, .inl (gI γ, 14, .inl (fun _ => 0))), (q7, .inl (gI γ, 14, .inl (fun _ => 0))), (q8, .inl (gI γ, 14, .inl (fun _ => 0))), (q9, .inl (gI γ, 14, .inl (fun _ => 0))), (q10, .inl (gI γ, 14, .inl (fun _ => 0))), (q11, .inl (gI γ, 14, .inl (fun _ => 0))), (q12, .inl (gI γ, 14, .inl (fun _ => 0))), (q13, .inl (gZ γ, 14, .inl (fun _ => 0)))]) [0, 1, 2, 3, 4, 13, 5, 6, 7, 8, 9, 10, 11, 12] (by decide) rfl
  clear ht9 hvm9 hw9 hz1
  refine lv_aload_n hx hb dX3_init_143 rfl (lv_at hl 0 rfl) ?_
  refine k_get hC hP 0 9 dX3_init_144 rfl rfl inX3 (by decide) rfl u_1_66 ?_
  refine lv_iconst (v := -1) hx hb dX3_init_147 (by decide) ?_
  have hPc := hP.sub (ws' := [(q10, .inl (gI γ, 14, .inl (fun _ => 0)))]) [10] rfl
  have hDc := hD.sub (ws' := [(q10, .inl (gI γ, 14, .inl (fun _ => 0)))]) [10] (by decide) rfl
  have hFc := va_free (wc := [(q10, .inl (gI γ, 14, .inl (fun _ => 0)))]) hD hS hA [10] rfl
  refine va_callv (va_runS (As := [.ref q10, .int (-1)]) (rest := []) hC.1 (c7_fill l (γ := γ) (sz := H.size) (n := 14) (by decide)) ⟨gCB hC u_1_41 yv_J7_fill.2.1 yv_J7_fill.2.2.1 yv_J7_fill.2.2.2.1 (Nat.le_of_ble_eq_true rfl) (by decide), hC.w yv_J7_fill.1⟩ ⟨kPc_blind, fun U hU hW => ⟨rfl, by rw [hU], by rw [hU]; exact hPc, hC.2.1.warm hW, hC.2.2.1, hDc.weaken (fun _ _ _ _ => trivial)⟩⟩ rfl rfl hl.1 rfl (lv_room (Nat.le_of_ble_eq_true rfl)) dX3_init_148 ⟨by decide, by decide⟩) hS (fun q _ h => hFc q h) hFc (fun u9 t9 H1 locs ht9 hvm9 hw9 hB9 hz1 hk1 hS => ?_)
  obtain ⟨hP1, hD1⟩ := hB9
  rw [ht9] at hP1
  obtain ⟨hP, hD⟩ := va_join (wr := [(o, .inr (4, [.ref q1, .ref q2, .ref q3, .ref q4, .ref q5, .ref q6, .ref q7, .ref q8, .ref q9, .ref q10, .ref q11, .ref q12, .ref q13, .int 0])), (q1, .inl (gI γ, 6, .inl (fillv 6 (fun _ => 0) 30))), (q2, .inl (gI γ, 6, .inl (fun _ => 0))), (q3, .inl (gI γ, 6, .inl (fillv 6 (fun _ => 0) 10))), (q4, .inl (gI γ, 6, .inl (fillv 6 (fun _ => 0) 1023))), (q5, .inl (gI γ, 3, .inl (fillv 3 (fun _ => 0) 1))), (q6, .inl (gI γ, 14, .inl (fun _ => 0))), (q7, .inl (gI γ, 14, .inl (fun _ => 0))), (q8, .inl (gI γ, 14, .inl (fun _ => 0))), (q9, .inl (gI γ, 14, .inl (fun _ => 0))), (q11, .inl (gI γ, 14, .inl (fun _ => 0))), (q12, .inl (gI γ, 14, .inl (fun _ => 0))), (q13, .inl (gZ γ, 14, .inl (fun _ => 0)))]) (w1 := [(q10, .inl (gI γ, 14, .inl (fillv 14 (fun _ => 0) (-1))))]) hP hD [10] [0, 1, 2, 3, 4, 5, 6, 7, 8, 9, 11, 12, 13] rfl rfl (by decide) (by decide) hk1 hFc hP1 hD1
  clear hPc hDc hFc hP1 hD1 hk1
  generalize H1 = H at hP hS ⊢
  have hP := hP.sub (ws' := [(o, .inr (4, [.ref q1, .ref q2, .ref q3, .ref q4, .ref q5, .ref q6, .ref q7, .ref q8, .ref q9, .ref q10, .ref q11, .ref q12, .ref q13, .int 0])), (q1, .inl (gI γ, 6, .inl (fillv 6 (fun _ => 0) 30))), (q2, .inl (gI γ, 6, .inl (fun _ => 0))), (q3, .inl (gI γ, 6, .inl (fillv 6 (fun _ => 0) 10))), (q4, .inl (gI γ, 6, .inl (fillv 6 (fun _ => 0) 1023))), (q5, .inl (gI γ, 3, .inl (fillv 3 (fun _ => 0) 1))), (q6, .inl (gI γ, 14, .inl (fun _ => 0))), (q7, .inl (gI γ, 14, .inl (fun _ => 0))), (q8, .inl (gI γ, 14, .inl (fun _ => 0))), (q9, .inl (gI γ, 14, .inl (fun _ => 0))), (q10, .inl (gI γ, 14, .inl (fillv 14 (fun _ => 0) (-1)))), (q11, .inl (gI γ, 14, .inl (fun _ => 0))), (q12, .inl (gI γ, 14, .inl (fun _ => 0))), (q13, .inl (gZ γ, 14, .inl (fun _ => 0)))]) [0, 1, 2, 3, 4, 5, 6, 7, 8, 9, 13, 10, 11, 12] rfl
  have hD := hD.sub (ws' := [(o, .inr (4, [.ref q1, .ref q2, .ref q3, .ref q4, .ref q5, .ref q6, .ref q7, .ref q8, .ref q9, .ref q10, .ref q11, .ref q12, .ref q13, .int 0])), (q1, .inl (gI γ, 6, .inl (fillv 6 (fun _ => 0) 30))), (q2, .inl (gI γ, 6, .inl (fun _ => 0))), (q3, .inl (gI γ, 6, .inl (fillv 6 (fun _ => 0) 10))), (q4, .inl (gI γ, 6, .inl (fillv 6 (fun _ => 0) 1023))), (q5, .inl (gI γ, 3, .inl (fillv 3 (fun _ => 0) 1))), (q6, .inl (gI γ, 14, .inl (fun _ => 0))), (q7, .inl (gI γ, 14, .inl (fun _ => 0))), (q8, .inl (gI γ, 14, .inl (fun _ => 0))), (q9, .inl (gI γ, 14, .inl (fun _ => 0))), (q10, .inl (gI γ, 14, .inl (fillv 14 (fun _ => 0) (-1)))), (q11, .inl (gI γ, 14, .inl (fun _ => 0))), (q12, .inl (gI γ, 14, .inl (fun _ => 0))), (q13, .inl (gZ γ, 14, .inl (fun _ => 0)))]) [0, 1, 2, 3, 4, 5, 6, 7, 8, 9, 13, 10, 11, 12] (by decide) rfl
  clear ht9 hvm9 hw9 hz1
  refine lv_aload_n hx hb dX3_init_151 rfl (lv_at hl 0 rfl) ?_
  refine k_get hC hP 0 11 dX3_init_152 rfl rfl inX3 (by decide) rfl u_1_71 ?_
  refine lv_iconst (v := -1) hx hb dX3_init_155 (by decide) ?_
  have hPc := hP.sub (ws' := [(q12, .inl (gI γ, 14, .inl (fun _ => 0)))]) [12] rfl
  have hDc := hD.sub (ws' := [(q12, .inl (gI γ, 14, .inl (fun _ => 0)))]) [12] (by decide) rfl
  have hFc := va_free (wc := [(q12, .inl (gI γ, 14, .inl (fun _ => 0)))]) hD hS hA [12] rfl
  refine va_callv (va_runS (As := [.ref q12, .int (-1)]) (rest := []) hC.1 (c7_fill l (γ := γ) (sz := H.size) (n := 14) (by decide)) ⟨gCB hC u_1_41 yv_J7_fill.2.1 yv_J7_fill.2.2.1 yv_J7_fill.2.2.2.1 (Nat.le_of_ble_eq_true rfl) (by decide), hC.w yv_J7_fill.1⟩ ⟨kPc_blind, fun U hU hW => ⟨rfl, by rw [hU], by rw [hU]; exact hPc, hC.2.1.warm hW, hC.2.2.1, hDc.weaken (fun _ _ _ _ => trivial)⟩⟩ rfl rfl hl.1 rfl (lv_room (Nat.le_of_ble_eq_true rfl)) dX3_init_156 ⟨by decide, by decide⟩) hS (fun q _ h => hFc q h) hFc (fun u9 t9 H1 locs ht9 hvm9 hw9 hB9 hz1 hk1 hS => ?_)
  obtain ⟨hP1, hD1⟩ := hB9
  rw [ht9] at hP1
  obtain ⟨hP, hD⟩ := va_join (wr := [(o, .inr (4, [.ref q1, .ref q2, .ref q3, .ref q4, .ref q5, .ref q6, .ref q7, .ref q8, .ref q9, .ref q10, .ref q11, .ref q12, .ref q13, .int 0])), (q1, .inl (gI γ, 6, .inl (fillv 6 (fun _ => 0) 30))), (q2, .inl (gI γ, 6, .inl (fun _ => 0))), (q3, .inl (gI γ, 6, .inl (fillv 6 (fun _ => 0) 10))), (q4, .inl (gI γ, 6, .inl (fillv 6 (fun _ => 0) 1023))), (q5, .inl (gI γ, 3, .inl (fillv 3 (fun _ => 0) 1))), (q6, .inl (gI γ, 14, .inl (fun _ => 0))), (q7, .inl (gI γ, 14, .inl (fun _ => 0))), (q8, .inl (gI γ, 14, .inl (fun _ => 0))), (q9, .inl (gI γ, 14, .inl (fun _ => 0))), (q10, .inl (gI γ, 14, .inl (fillv 14 (fun _ => 0) (-1)))), (q11, .inl (gI γ, 14, .inl (fun _ => 0))), (q13, .inl (gZ γ, 14, .inl (fun _ => 0)))]) (w1 := [(q12, .inl (gI γ, 14, .inl (fillv 14 (fun _ => 0) (-1))))]) hP hD [12] [0, 1, 2, 3, 4, 5, 6, 7, 8, 9, 10, 11, 13] rfl rfl (by decide) (by decide) hk1 hFc hP1 hD1
  clear hPc hDc hFc hP1 hD1 hk1
  generalize H1 = H at hP hS ⊢
  have hP := hP.sub (ws' := [(o, .inr (4, [.ref q1, .ref q2, .ref q3, .ref q4, .ref q5, .ref q6, .ref q7, .ref q8, .ref q9, .ref q10, .ref q11, .ref q12, .ref q13, .int 0])), (q1, .inl (gI γ, 6, .inl (fillv 6 (fun _ => 0) 30))), (q2, .inl (gI γ, 6, .inl (fun _ => 0))), (q3, .inl (gI γ, 6, .inl (fillv 6 (fun _ => 0) 10))), (q4, .inl (gI γ, 6, .inl (fillv 6 (fun _ => 0) 1023))), (q5, .inl (gI γ, 3, .inl (fillv 3 (fun _ => 0) 1))), (q6, .inl (gI γ, 14, .inl (fun _ => 0))), (q7, .inl (gI γ, 14, .inl (fun _ => 0))), (q8, .inl (gI γ, 14, .inl (fun _ => 0))), (q9, .inl (gI γ, 14, .inl (fun _ => 0))), (q10, .inl (gI γ, 14, .inl (fillv 14 (fun _ => 0) (-1)))), (q11, .inl (gI γ, 14, .inl (fun _ => 0))), (q12, .inl (gI γ, 14, .inl (fillv 14 (fun _ => 0) (-1)))), (q13, .inl (gZ γ, 14, .inl (fun _ => 0)))]) [0, 1, 2, 3, 4, 5, 6, 7, 8, 9, 10, 11, 13, 12] rfl
  have hD := hD.sub (ws' := [(o, .inr (4, [.ref q1, .ref q2, .ref q3, .ref q4, .ref q5, .ref q6, .ref q7, .ref q8, .ref q9, .ref q10, .ref q11, .ref q12, .ref q13, .int 0])), (q1, .inl (gI γ, 6, .inl (fillv 6 (fun _ => 0) 30))), (q2, .inl (gI γ, 6, .inl (fun _ => 0))), (q3, .inl (gI γ, 6, .inl (fillv 6 (fun _ => 0) 10))), (q4, .inl (gI γ, 6, .inl (fillv 6 (fun _ => 0) 1023))), (q5, .inl (gI γ, 3, .inl (fillv 3 (fun _ => 0) 1))), (q6, .inl (gI γ, 14, .inl (fun _ => 0))), (q7, .inl (gI γ, 14, .inl (fun _ => 0))), (q8, .inl (gI γ, 14, .inl (fun _ => 0))), (q9, .inl (gI γ, 14, .inl (fun _ => 0))), (q10, .inl (gI γ, 14, .inl (fillv 14 (fun _ => 0) (-1)))), (q11, .inl (gI γ, 14, .inl (fun _ => 0))), (q12, .inl (gI γ, 14, .inl (fillv 14 (fun _ => 0) (-1)))), (q13, .inl (gZ γ, 14, .inl (fun _ => 0)))]) [0, 1, 2, 3, 4, 5, 6, 7, 8, 9, 10, 11, 13, 12] (by decide) rfl
  clear ht9 hvm9 hw9 hz1
  refine k_vret hC (fun k => if k = 0 then o else if k = 1 then q1 else if k = 2 then q2 else if k = 3 then q3 else if k = 4 then q4 else if k = 5 then q5 else if k = 6 then q6 else if k = 7 then q7 else if k = 8 then q8 else if k = 9 then q9 else if k = 10 then q10 else if k = 11 then q11 else if k = 12 then q12 else q13) rfl ?_ ?_ hS dX3_init_159
  · exact hP
  · exact hD
def P0 : OS := fun _ _ => 0
def plW (γ : GA) (tb : Nat) (a : Nat → Nat) (P : OS) : va_W := [(a 0, .inr (3, [.ref tb, .ref (a 1), .ref (a 2), .ref (a 3), .int (P 4 0)])), (a 1, .inl (gI γ, 14, .inl (P 1))), (a 2, .inl (gI γ, 14, .inl (P 2))), (a 3, .inl (gI γ, 14, .inl (P 3)))]
def X00 : OS := fun r => if r = 3 then fun _ => -1 else fun _ => 0
def txW (γ : GA) (a : Nat → Nat) (X : OS) : va_W := [(a 0, .inr (1, [.ref (a 1), .int (X 1 0), .int (X 2 0), .int (X 3 0), .int (X 4 0), .int (X 5 0), .int (X 6 0), .int (X 7 0)])), (a 1, .inl (gI γ, 40, .inl (X 0)))]
def moW (γ : GA) (a : Nat → Nat) (M : OS) : va_W := [(a 0, .inr (6, [.int (M 0 0), .ref (a 1), .int (M 2 0), .int (M 3 0), .ref (a 2), .int (M 5 0), .int (M 6 0), .int (M 7 0), .int (M 8 0), .int (M 9 0), .int (M 10 0), .int (M 11 0), .ref (a 3), .int (M 13 0), .ref (a 4), .ref (a 5), .ref (a 6)])), (a 1, .inl (gI γ, 1008, .inl (M 1))), (a 2, .inl (gI γ, 40, .inl (M 4))), (a 3, .inl (gI γ, 24, .inl (M 12))), (a 4, .inl (gI γ, 14, .inl (M 14))), (a 5, .inl (gI γ, 14, .inl (M 15))), (a 6, .inl (gI γ, 14, .inl (M 16)))]
set_option maxHeartbeats 4000000 in
set_option maxRecDepth 100000 in
theorem k2_init (l : Launch) {γ : GA} {sz o : Nat} {tb : Nat} : Met l yX2_init (gU yX2_init cX2_init 2 none) (gR 1 3 42) (kPc γ [.ref o, .ref tb] sz [(o, .inr (3, [.null, .null, .null, .null, .int 0]))]) (kQ γ sz [(o, .inr (3, [.null, .null, .null, .null, .int 0]))] (fun a => a 0 = o) (fun a => plW γ tb a P0)) 3 42 (va_A [(o, .inr (3, [.null, .null, .null, .null, .int 0]))] sz) := by
  refine k_met (by decide) rfl (Nat.le_of_ble_eq_true rfl) ?_
  intro p e s m args below meth c ls A hAe hmn hC hA hP hD hS hl
  have hx := hC.x
  have hb := hC.b
  have hl : lv_has ls 2 [(0, .ref o), (1, .ref tb)] := hl
  refine lv_aload_n hx hb dX2_init_0 rfl (lv_at hl 0 rfl) ?_
  refine k_obj hC dX2_init_1 hl.1 u_1_114 (Nat.le_of_ble_eq_true rfl) (Nat.le_of_ble_eq_true rfl) ?_
  refine lv_aload_n hx hb dX2_init_4 rfl (lv_at hl 0 rfl) ?_
  refine lv_bipush (v := 14) hx hb dX2_init_5 (by decide) ?_
  refine k_newI hC hP hD hS hA dX2_init_7 (by decide) (N' := 14) rfl (by decide) (Nat.le_of_ble_eq_true rfl) (Nat.le_of_ble_eq_true rfl) (fun q1 H hP hD hS => ?_)
  have hP : va_P γ.1 vwCl [(o, .inr (3, [.null, .null, .null, .null, .int 0])), (q1, .inl (gI γ, 14, .inl (fun _ => 0)))] H := hP
  have hD : va_D A [(o, .inr (3, [.null, .null, .null, .null, .int 0])), (q1, .inl (gI γ, 14, .inl (fun _ => 0)))] := hD
  refine W.widen (k := 1) (n := 14) (by decide) (by decide) ?_
  refine k_putF hC hmn hP hD hS 0 1 tyX2 dX2_init_9 rfl rfl inX2 tyX2_ok nmX2 (by decide) u_1_116 rfl rfl rfl rfl rfl (Nat.le_of_ble_eq_true rfl) (fun H locs hP hD hS => ?_)
  have hP : va_P γ.1 vwCl [(o, .inr (3, [.null, .ref q1, .null, .null, .int 0])), (q1, .inl (gI γ, 14, .inl (fun _ => 0)))] H := hP
  have hD : va_D A [(o, .inr (3, [.null, .ref q1, .null, .null, .int 0])), (q1, .inl (gI γ, 14, .inl (fun _ => 0)))] := hD
  refine lv_aload_n hx hb dX2_init_12 rfl (lv_at hl 0 rfl) ?_
  refine lv_bipush (v := 14) hx hb dX2_init_13 (by decide) ?_
  refine k_newI hC hP hD hS hA dX2_init_15 (by decide) (N' := 14) rfl (by decide) (Nat.le_of_ble_eq_true rfl) (Nat.le_of_ble_eq_true rfl) (fun q2 H hP hD hS => ?_)
  have hP : va_P γ.1 vwCl [(o, .inr (3, [.null, .ref q1, .null, .null, .int 0])), (q1, .inl (gI γ, 14, .inl (fun _ => 0))), (q2, .inl (gI γ, 14, .inl (fun _ => 0)))] H := hP
  have hD : va_D A [(o, .inr (3, [.null, .ref q1, .null, .null, .int 0])), (q1, .inl (gI γ, 14, .inl (fun _ => 0))), (q2, .inl (gI γ, 14, .inl (fun _ => 0)))] := hD
  refine W.widen (k := 2) (n := 28) (by decide) (by decide) ?_
  refine k_putF hC hmn hP hD hS 0 2 tyX2 dX2_init_17 rfl rfl inX2 tyX2_ok nmX2 (by decide) u_1_117 rfl rfl rfl rfl rfl (Nat.le_of_ble_eq_true rfl) (fun H locs hP hD hS => ?_)
  have hP : va_P γ.1 vwCl [(o, .inr (3, [.null, .ref q1, .ref q2, .null, .int 0])), (q1, .inl (gI γ, 14, .inl (fun _ => 0))), (q2, .inl (gI γ, 14, .inl (fun _ => 0)))] H := hP
  have hD : va_D A [(o, .inr (3, [.null, .ref q1, .ref q2, .null, .int 0])), (q1, .inl (gI γ, 14, .inl (fun _ => 0))), (q2, .inl (gI γ, 14, .inl (fun _ => 0)))] := hD
  refine lv_aload_n hx hb dX2_init_20 rfl (lv_at hl 0 rfl) ?_
  refine lv_bipush (v := 14) hx hb dX2_init_21 (by decide) ?_
  refine k_newI hC hP hD hS hA dX2_init_23 (by decide) (N' := 14) rfl (by decide) (Nat.le_of_ble_eq_true rfl) (Nat.le_of_ble_eq_true rfl) (fun q3 H hP hD hS => ?_)
  have hP : va_P γ.1 vwCl [(o, .inr (3, [.null, .ref q1, .ref q2, .null, .int 0])), (q1, .inl (gI γ, 14, .inl (fun _ => 0))), (q2, .inl (gI γ, 14, .inl (fun _ => 0))), (q3, .inl (gI γ, 14, .inl (fun _ => 0)))] H := hP
  have hD : va_D A [(o, .inr (3, [.null, .ref q1, .ref q2, .null, .int 0])), (q1, .inl (gI γ, 14, .inl (fun _ => 0))), (q2, .inl (gI γ, 14, .inl (fun _ => 0))), (q3, .inl (gI γ, 14, .inl (fun _ => 0)))] := hD
  refine W.widen (k := 3) (n := 42) (by decide) (by decide) ?_
  refine k_putF hC hmn hP hD hS 0 3 tyX2 dX2_init_25 rfl rfl inX2 tyX2_ok nmX2 (by decide) u_1_118 rfl rfl rfl rfl rfl (Nat.le_of_ble_eq_true rfl) (fun H locs hP hD hS => ?_)
  have hP : va_P γ.1 vwCl [(o, .inr (3, [.null, .ref q1, .ref q2, .ref q3, .int 0])), (q1, .inl (gI γ, 14, .inl (fun _ => 0))), (q2, .inl (gI γ, 14, .inl (fun _ => 0))), (q3, .inl (gI γ, 14, .inl (fun _ => 0)))] H := hP
  have hD : va_D A [(o, .inr (3, [.null, .ref q1, .ref q2, .ref q3, .int 0])), (q1, .inl (gI γ, 14, .inl (fun _ => 0))), (q2, .inl (gI γ, 14, .inl (fun _ => 0))), (q3, .inl (gI γ, 14, .inl (fun _ => 0)))] := hD
  refine lv_aload_n hx hb dX2_init_28 rfl (lv_at hl 0 rfl) ?_
  refine lv_aload_n hx hb dX2_init_29 rfl (lv_at hl 1 rfl) ?_
  refine k_putF hC hmn hP hD hS 0 0 tyX2 dX2_init_30 rfl rfl inX2 tyX2_ok nmX2 (by decide) u_1_115 rfl rfl rfl rfl rfl (Nat.le_of_ble_eq_true rfl) (fun H locs hP hD hS => ?_)
  have hP : va_P γ.1 vwCl [(o, .inr (3, [.ref tb, .ref q1, .ref q2, .ref q3, .int 0])), (q1, .inl (gI γ, 14, .inl (fun _ => 0))), (q2, .inl (gI γ, 14, .inl (fun _ => 0))), (q3, .inl (gI γ, 14, .inl (fun _ => 0)))] H := hP
  have hD : va_D A [(o, .inr (3, [.ref tb, .ref q1, .ref q2, .ref q3, .int 0])), (q1, .inl (gI γ, 14, .inl (fun _ => 0))), (q2, .inl (gI γ, 14, .inl (fun _ => 0))), (q3, .inl (gI γ, 14, .inl (fun _ => 0)))] := hD
  refine k_vret hC (fun k => if k = 0 then o else if k = 1 then q1 else if k = 2 then q2 else q3) rfl ?_ ?_ hS dX2_init_33
  · exact hP
  · exact hD
set_option maxHeartbeats 4000000 in
set_option maxRecDepth 100000 in
theorem k0_init (l : Launch) {γ : GA} {sz o : Nat} : Met l yX0_init (gU yX0_init cX0_init 1 none) (gR 1 1 40) (kPc γ [.ref o] sz [(o, .inr (1, [.null, .int 0, .int 0, .int 0, .int 0, .int 0, .int 0, .int 0]))]) (kQ γ sz [(o, .inr (1, [.null, .int 0, .int 0, .int 0, .int 0, .int 0, .int 0, .int 0]))] (fun a => a 0 = o) (fun a => txW γ a X00)) 1 40 (va_A [(o, .inr (1, [.null, .int 0, .int 0, .int 0, .int 0, .int 0, .int 0, .int 0]))] sz) := by
  refine k_met (by decide) rfl (Nat.le_of_ble_eq_true rfl) ?_
  intro p e s m args below meth c ls A hAe hmn hC hA hP hD hS hl
  have hx := hC.x
  have hb := hC.b
  have hl : lv_has ls 1 [(0, .ref o)] := hl
  refine lv_aload_n hx hb dX0_init_0 rfl (lv_at hl 0 rfl) ?_
  refine k_obj hC dX0_init_1 hl.1 u_1_156 (Nat.le_of_ble_eq_true rfl) (Nat.le_of_ble_eq_true rfl) ?_
  refine lv_aload_n hx hb dX0_init_4 rfl (lv_at hl 0 rfl) ?_
  refine lv_bipush (v := 40) hx hb dX0_init_5 (by decide) ?_
  refine k_newI hC hP hD hS hA dX0_init_7 (by decide) (N' := 40) rfl (by decide) (Nat.le_of_ble_eq_true rfl) (Nat.le_of_ble_eq_true rfl) (fun q1 H hP hD hS => ?_)
  have hP : va_P γ.1 vwCl [(o, .inr (1, [.null, .int 0, .int 0, .int 0, .int 0, .int 0, .int 0, .int 0])), (q1, .inl (gI γ, 40, .inl (fun _ => 0)))] H := hP
  have hD : va_D A [(o, .inr (1, [.null, .int 0, .int 0, .int 0, .int 0, .int 0, .int 0, .int 0])), (q1, .inl (gI γ, 40, .inl (fun _ => 0)))] := hD
  refine W.widen (k := 1) (n := 40) (by decide) (by decide) ?_
  refine k_putF hC hmn hP hD hS 0 0 tyX0 dX0_init_9 rfl rfl inX0 tyX0_ok nmX0 (by decide) u_1_157 rfl rfl rfl rfl rfl (Nat.le_of_ble_eq_true rfl) (fun H locs hP hD hS => ?_)
  have hP : va_P γ.1 vwCl [(o, .inr (1, [.ref q1, .int 0, .int 0, .int 0, .int 0, .int 0, .int 0, .int 0])), (q1, .inl (gI γ, 40, .inl (fun _ => 0)))] H := hP
  have hD : va_D A [(o, .inr (1, [.ref q1, .int 0, .int 0, .int 0, .int 0, .int 0, .int 0, .int 0])), (q1, .inl (gI γ, 40, .inl (fun _ => 0)))] := hD
  refine lv_aload_n hx hb dX0_init_12 rfl (lv_at hl 0 rfl) ?_
  refine lv_iconst (v := -1) hx hb dX0_init_13 (by decide) ?_
  refine k_putI hC hP hD hS 0 3 tyX0 dX0_init_14 rfl rfl inX0 tyX0_ok nmX0 (by decide) u_1_161 rfl rfl rfl rfl (Nat.le_of_ble_eq_true rfl) (fun H locs hP hD hS => ?_)
  have hP : va_P γ.1 vwCl [(o, .inr (1, [.ref q1, .int 0, .int 0, .int (-1), .int 0, .int 0, .int 0, .int 0])), (q1, .inl (gI γ, 40, .inl (fun _ => 0)))] H := hP
  have hD : va_D A [(o, .inr (1, [.ref q1, .int 0, .int 0, .int (-1), .int 0, .int 0, .int 0, .int 0])), (q1, .inl (gI γ, 40, .inl (fun _ => 0)))] := hD
  refine k_vret hC (fun k => if k = 0 then o else q1) rfl ?_ ?_ hS dX0_init_17
  · exact hP
  · exact hD
def M0all : Nat → Int32 := (upd (upd (upd (upd (upd (upd (upd (upd (upd (upd (upd (upd (upd (upd (upd (upd (upd (upd (upd (upd (upd (fun _ => 0) 0 30) 12 10) 18 1023) 1 30) 13 10) 19 1023) 2 30) 14 10) 20 1023) 3 30) 15 10) 21 1023) 4 30) 16 10) 22 1023) 5 30) 17 10) 23 1023) 24 1) 25 1) 26 1)
def M00 : OS := fun r => if r = 1 then M0all else if r = 7 then fun _ => -1 else fun _ => 0
set_option maxHeartbeats 4000000 in
set_option maxRecDepth 100000 in
theorem k5_init (l : Launch) {γ : GA} {sz o : Nat} : Met l yX5_init (gU yX5_init cX5_init 2 none) (gR 1 6 1114) (kPc γ [.ref o] sz [(o, .inr (6, [.int 0, .null, .int 0, .int 0, .null, .int 0, .int 0, .int 0, .int 0, .int 0, .int 0, .int 0, .null, .int 0, .null, .null, .null]))]) (kQ γ sz [(o, .inr (6, [.int 0, .null, .int 0, .int 0, .null, .int 0, .int 0, .int 0, .int 0, .int 0, .int 0, .int 0, .null, .int 0, .null, .null, .null]))] (fun a => a 0 = o) (fun a => moW γ a M00)) 6 1114 (va_A [(o, .inr (6, [.int 0, .null, .int 0, .int 0, .null, .int 0, .int 0, .int 0, .int 0, .int 0, .int 0, .int 0, .null, .int 0, .null, .null, .null]))] sz) := by
  refine k_met (by decide) rfl (Nat.le_of_ble_eq_true rfl) ?_
  intro p e s m args below meth c ls A hAe hmn hC hA hP hD hS hl
  have hx := hC.x
  have hb := hC.b
  have hl : lv_has ls 2 [(0, .ref o)] := hl
  refine lv_aload_n hx hb dX5_init_0 rfl (lv_at hl 0 rfl) ?_
  refine k_obj hC dX5_init_1 hl.1 u_5_153 (Nat.le_of_ble_eq_true rfl) (Nat.le_of_ble_eq_true rfl) ?_
  refine lv_aload_n hx hb dX5_init_4 rfl (lv_at hl 0 rfl) ?_
  refine lv_sipush (v := 1008) hx hb dX5_init_5 (by decide) ?_
  refine k_newI hC hP hD hS hA dX5_init_8 (by decide) (N' := 1008) rfl (by decide) (Nat.le_of_ble_eq_true rfl) (Nat.le_of_ble_eq_true rfl) (fun q1 H hP hD hS => ?_)
  have hP : va_P γ.1 vwCl [(o, .inr (6, [.int 0, .null, .int 0, .int 0, .null, .int 0, .int 0, .int 0, .int 0, .int 0, .int 0, .int 0, .null, .int 0, .null, .null, .null])), (q1, .inl (gI γ, 1008, .inl (fun _ => 0)))] H := hP
  have hD : va_D A [(o, .inr (6, [.int 0, .null, .int 0, .int 0, .null, .int 0, .int 0, .int 0, .int 0, .int 0, .int 0, .int 0, .null, .int 0, .null, .null, .null])), (q1, .inl (gI γ, 1008, .inl (fun _ => 0)))] := hD
  refine W.widen (k := 1) (n := 1008) (by decide) (by decide) ?_
  refine k_putF hC hmn hP hD hS 0 1 tyX5 dX5_init_10 rfl rfl inX5 tyX5_ok nmX5 (by decide) u_5_155 rfl rfl rfl rfl rfl (Nat.le_of_ble_eq_true rfl) (fun H locs hP hD hS => ?_)
  have hP : va_P γ.1 vwCl [(o, .inr (6, [.int 0, .ref q1, .int 0, .int 0, .null, .int 0, .int 0, .int 0, .int 0, .int 0, .int 0, .int 0, .null, .int 0, .null, .null, .null])), (q1, .inl (gI γ, 1008, .inl (fun _ => 0)))] H := hP
  have hD : va_D A [(o, .inr (6, [.int 0, .ref q1, .int 0, .int 0, .null, .int 0, .int 0, .int 0, .int 0, .int 0, .int 0, .int 0, .null, .int 0, .null, .null, .null])), (q1, .inl (gI γ, 1008, .inl (fun _ => 0)))] := hD
  refine lv_aload_n hx hb dX5_init_13 rfl (lv_at hl 0 rfl) ?_
  refine lv_bipush (v := 40) hx hb dX5_init_14 (by decide) ?_
  refine k_newI hC hP hD hS hA dX5_init_16 (by decide) (N' := 40) rfl (by decide) (Nat.le_of_ble_eq_true rfl) (Nat.le_of_ble_eq_true rfl) (fun q2 H hP hD hS => ?_)
  have hP : va_P γ.1 vwCl [(o, .inr (6, [.int 0, .ref q1, .int 0, .int 0, .null, .int 0, .int 0, .int 0, .int 0, .int 0, .int 0, .int 0, .null, .int 0, .null, .null, .null])), (q1, .inl (gI γ, 1008, .inl (fun _ => 0))), (q2, .inl (gI γ, 40, .inl (fun _ => 0)))] H := hP
  have hD : va_D A [(o, .inr (6, [.int 0, .ref q1, .int 0, .int 0, .null, .int 0, .int 0, .int 0, .int 0, .int 0, .int 0, .int 0, .null, .int 0, .null, .null, .null])), (q1, .inl (gI γ, 1008, .inl (fun _ => 0))), (q2, .inl (gI γ, 40, .inl (fun _ => 0)))] := hD
  refine W.widen (k := 2) (n := 1048) (by decide) (by decide) ?_
  refine k_putF hC hmn hP hD hS 0 4 tyX5 dX5_init_18 rfl rfl inX5 tyX5_ok nmX5 (by decide) u_5_158 rfl rfl rfl rfl rfl (Nat.le_of_ble_eq_true rfl) (fun H locs hP hD hS => ?_)
  have hP : va_P γ.1 vwCl [(o, .inr (6, [.int 0, .ref q1, .int 0, .int 0, .ref q2, .int 0, .int 0, .int 0, .int 0, .int 0, .int 0, .int 0, .null, .int 0, .null, .null, .null])), (q1, .inl (gI γ, 1008, .inl (fun _ => 0))), (q2, .inl (gI γ, 40, .inl (fun _ => 0)))] H := hP
  have hD : va_D A [(o, .inr (6, [.int 0, .ref q1, .int 0, .int 0, .ref q2, .int 0, .int 0, .int 0, .int 0, .int 0, .int 0, .int 0, .null, .int 0, .null, .null, .null])), (q1, .inl (gI γ, 1008, .inl (fun _ => 0))), (q2, .inl (gI γ, 40, .inl (fun _ => 0)))] := hD
  refine lv_aload_n hx hb dX5_init_21 rfl (lv_at hl 0 rfl) ?_
  refine lv_iconst (v := -1) hx hb dX5_init_22 (by decide) ?_
  refine k_putI hC hP hD hS 0 7 tyX5 dX5_init_23 rfl rfl inX5 tyX5_ok nmX5 (by decide) u_5_161 rfl rfl rfl rfl (Nat.le_of_ble_eq_true rfl) (fun H locs hP hD hS => ?_)
  have hP : va_P γ.1 vwCl [(o, .inr (6, [.int 0, .ref q1, .int 0, .int 0, .ref q2, .int 0, .int 0, .int (-1), .int 0, .int 0, .int 0, .int 0, .null, .int 0, .null, .null, .null])), (q1, .inl (gI γ, 1008, .inl (fun _ => 0))), (q2, .inl (gI γ, 40, .inl (fun _ => 0)))] H := hP
  have hD : va_D A [(o, .inr (6, [.int 0, .ref q1, .int 0, .int 0, .ref q2, .int 0, .int 0, .int (-1), .int 0, .int 0, .int 0, .int 0, .null, .int 0, .null, .null, .null])), (q1, .inl (gI γ, 1008, .inl (fun _ => 0))), (q2, .inl (gI γ, 40, .inl (fun _ => 0)))] := hD
  refine lv_aload_n hx hb dX5_init_26 rfl (lv_at hl 0 rfl) ?_
  refine lv_bipush (v := 24) hx hb dX5_init_27 (by decide) ?_
  refine k_newI hC hP hD hS hA dX5_init_29 (by decide) (N' := 24) rfl (by decide) (Nat.le_of_ble_eq_true rfl) (Nat.le_of_ble_eq_true rfl) (fun q3 H hP hD hS => ?_)
  have hP : va_P γ.1 vwCl [(o, .inr (6, [.int 0, .ref q1, .int 0, .int 0, .ref q2, .int 0, .int 0, .int (-1), .int 0, .int 0, .int 0, .int 0, .null, .int 0, .null, .null, .null])), (q1, .inl (gI γ, 1008, .inl (fun _ => 0))), (q2, .inl (gI γ, 40, .inl (fun _ => 0))), (q3, .inl (gI γ, 24, .inl (fun _ => 0)))] H := hP
  have hD : va_D A [(o, .inr (6, [.int 0, .ref q1, .int 0, .int 0, .ref q2, .int 0, .int 0, .int (-1), .int 0, .int 0, .int 0, .int 0, .null, .int 0, .null, .null, .null])), (q1, .inl (gI γ, 1008, .inl (fun _ => 0))), (q2, .inl (gI γ, 40, .inl (fun _ => 0))), (q3, .inl (gI γ, 24, .inl (fun _ => 0)))] := hD
  refine W.widen (k := 3) (n := 1072) (by decide) (by decide) ?_
  refine k_putF hC hmn hP hD hS 0 12 tyX5 dX5_init_31 rfl rfl inX5 tyX5_ok nmX5 (by decide) u_5_166 rfl rfl rfl rfl rfl (Nat.le_of_ble_eq_true rfl) (fun H locs hP hD hS => ?_)
  have hP : va_P γ.1 vwCl [(o, .inr (6, [.int 0, .ref q1, .int 0, .int 0, .ref q2, .int 0, .int 0, .int (-1), .int 0, .int 0, .int 0, .int 0, .ref q3, .int 0, .null, .null, .null])), (q1, .inl (gI γ, 1008, .inl (fun _ => 0))), (q2, .inl (gI γ, 40, .inl (fun _ => 0))), (q3, .inl (gI γ, 24, .inl (fun _ => 0)))] H := hP
  have hD : va_D A [(o, .inr (6, [.int 0, .ref q1, .int 0, .int 0, .ref q2, .int 0, .int 0, .int (-1), .int 0, .int 0, .int 0, .int 0, .ref q3, .int 0, .null, .null, .null])), (q1, .inl (gI γ, 1008, .inl (fun _ => 0))), (q2, .inl (gI γ, 40, .inl (fun _ => 0))), (q3, .inl (gI γ, 24, .inl (fun _ => 0)))] := hD
  refine lv_aload_n hx hb dX5_init_34 rfl (lv_at hl 0 rfl) ?_
  refine lv_bipush (v := 14) hx hb dX5_init_35 (by decide) ?_
  refine k_newI hC hP hD hS hA dX5_init_37 (by decide) (N' := 14) rfl (by decide) (Nat.le_of_ble_eq_true rfl) (Nat.le_of_ble_eq_true rfl) (fun q4 H hP hD hS => ?_)
  have hP : va_P γ.1 vwCl [(o, .inr (6, [.int 0, .ref q1, .int 0, .int 0, .ref q2, .int 0, .int 0, .int (-1), .int 0, .int 0, .int 0, .int 0, .ref q3, .int 0, .null, .null, .null])), (q1, .inl (gI γ, 1008, .inl (fun _ => 0))), (q2, .inl (gI γ, 40, .inl (fun _ => 0))), (q3, .inl (gI γ, 24, .inl (fun _ => 0))), (q4, .inl (gI γ, 14, .inl (fun _ => 0)))] H := hP
  have hD : va_D A [(o, .inr (6, [.int 0, .ref q1, .int 0, .int 0, .ref q2, .int 0, .int 0, .int (-1), .int 0, .int 0, .int 0, .int 0, .ref q3, .int 0, .null, .null, .null])), (q1, .inl (gI γ, 1008, .inl (fun _ => 0))), (q2, .inl (gI γ, 40, .inl (fun _ => 0))), (q3, .inl (gI γ, 24, .inl (fun _ => 0))), (q4, .inl (gI γ, 14, .inl (fun _ => 0)))] := hD
  refine W.widen (k := 4) (n := 1086) (by decide) (by decide) ?_
  refine k_putF hC hmn hP hD hS 0 14 tyX5 dX5_init_39 rfl rfl inX5 tyX5_ok nmX5 (by decide) u_5_168 rfl rfl rfl rfl rfl (Nat.le_of_ble_eq_true rfl) (fun H locs hP hD hS => ?_)
  have hP : va_P γ.1 vwCl [(o, .inr (6, [.int 0, .ref q1, .int 0, .int 0, .ref q2, .int 0, .int 0, .int (-1), .int 0, .int 0, .int 0, .int 0, .ref q3, .int 0, .ref q4, .null, .null])), (q1, .inl (gI γ, 1008, .inl (fun _ => 0))), (q2, .inl (gI γ, 40, .inl (fun _ => 0))), (q3, .inl (gI γ, 24, .inl (fun _ => 0))), (q4, .inl (gI γ, 14, .inl (fun _ => 0)))] H := hP
  have hD : va_D A [(o, .inr (6, [.int 0, .ref q1, .int 0, .int 0, .ref q2, .int 0, .int 0, .int (-1), .int 0, .int 0, .int 0, .int 0, .ref q3, .int 0, .ref q4, .null, .null])), (q1, .inl (gI γ, 1008, .inl (fun _ => 0))), (q2, .inl (gI γ, 40, .inl (fun _ => 0))), (q3, .inl (gI γ, 24, .inl (fun _ => 0))), (q4, .inl (gI γ, 14, .inl (fun _ => 0)))] := hD
  refine lv_aload_n hx hb dX5_init_42 rfl (lv_at hl 0 rfl) ?_
  refine lv_bipush (v := 14) hx hb dX5_init_43 (by decide) ?_
  refine k_newI hC hP hD hS hA dX5_init_45 (by decide) (N' := 14) rfl (by decide) (Nat.le_of_ble_eq_true rfl) (Nat.le_of_ble_eq_true rfl) (fun q5 H hP hD hS => ?_)
  have hP : va_P γ.1 vwCl [(o, .inr (6, [.int 0, .ref q1, .int 0, .int 0, .ref q2, .int 0, .int 0, .int (-1), .int 0, .int 0, .int 0, .int 0, .ref q3, .int 0, .ref q4, .null, .null])), (q1, .inl (gI γ, 1008, .inl (fun _ => 0))), (q2, .inl (gI γ, 40, .inl (fun _ => 0))), (q3, .inl (gI γ, 24, .inl (fun _ => 0))), (q4, .inl (gI γ, 14, .inl (fun _ => 0))), (q5, .inl (gI γ, 14, .inl (fun _ => 0)))] H := hP
  have hD : va_D A [(o, .inr (6, [.int 0, .ref q1, .int 0, .int 0, .ref q2, .int 0, .int 0, .int (-1), .int 0, .int 0, .int 0, .int 0, .ref q3, .int 0, .ref q4, .null, .null])), (q1, .inl (gI γ, 1008, .inl (fun _ => 0))), (q2, .inl (gI γ, 40, .inl (fun _ => 0))), (q3, .inl (gI γ, 24, .inl (fun _ => 0))), (q4, .inl (gI γ, 14, .inl (fun _ => 0))), (q5, .inl (gI γ, 14, .inl (fun _ => 0)))] := hD
  refine W.widen (k := 5) (n := 1100) (by decide) (by decide) ?_
  refine k_putF hC hmn hP hD hS 0 15 tyX5 dX5_init_47 rfl rfl inX5 tyX5_ok nmX5 (by decide) u_5_169 rfl rfl rfl rfl rfl (Nat.le_of_ble_eq_true rfl) (fun H locs hP hD hS => ?_)
  have hP : va_P γ.1 vwCl [(o, .inr (6, [.int 0, .ref q1, .int 0, .int 0, .ref q2, .int 0, .int 0, .int (-1), .int 0, .int 0, .int 0, .int 0, .ref q3, .int 0, .ref q4, .ref q5, .null])), (q1, .inl (gI γ, 1008, .inl (fun _ => 0))), (q2, .inl (gI γ, 40, .inl (fun _ => 0))), (q3, .inl (gI γ, 24, .inl (fun _ => 0))), (q4, .inl (gI γ, 14, .inl (fun _ => 0))), (q5, .inl (gI γ, 14, .inl (fun _ => 0)))] H := hP
  have hD : va_D A [(o, .inr (6, [.int 0, .ref q1, .int 0, .int 0, .ref q2, .int 0, .int 0, .int (-1), .int 0, .int 0, .int 0, .int 0, .ref q3, .int 0, .ref q4, .ref q5, .null])), (q1, .inl (gI γ, 1008, .inl (fun _ => 0))), (q2, .inl (gI γ, 40, .inl (fun _ => 0))), (q3, .inl (gI γ, 24, .inl (fun _ => 0))), (q4, .inl (gI γ, 14, .inl (fun _ => 0))), (q5, .inl (gI γ, 14, .inl (fun _ => 0)))] := hD
  refine lv_aload_n hx hb dX5_init_50 rfl (lv_at hl 0 rfl) ?_
  refine lv_bipush (v := 14) hx hb dX5_init_51 (by decide) ?_
  refine k_newI hC hP hD hS hA dX5_init_53 (by decide) (N' := 14) rfl (by decide) (Nat.le_of_ble_eq_true rfl) (Nat.le_of_ble_eq_true rfl) (fun q6 H hP hD hS => ?_)
  have hP : va_P γ.1 vwCl [(o, .inr (6, [.int 0, .ref q1, .int 0, .int 0, .ref q2, .int 0, .int 0, .int (-1), .int 0, .int 0, .int 0, .int 0, .ref q3, .int 0, .ref q4, .ref q5, .null])), (q1, .inl (gI γ, 1008, .inl (fun _ => 0))), (q2, .inl (gI γ, 40, .inl (fun _ => 0))), (q3, .inl (gI γ, 24, .inl (fun _ => 0))), (q4, .inl (gI γ, 14, .inl (fun _ => 0))), (q5, .inl (gI γ, 14, .inl (fun _ => 0))), (q6, .inl (gI γ, 14, .inl (fun _ => 0)))] H := hP
  have hD : va_D A [(o, .inr (6, [.int 0, .ref q1, .int 0, .int 0, .ref q2, .int 0, .int 0, .int (-1), .int 0, .int 0, .int 0, .int 0, .ref q3, .int 0, .ref q4, .ref q5, .null])), (q1, .inl (gI γ, 1008, .inl (fun _ => 0))), (q2, .inl (gI γ, 40, .inl (fun _ => 0))), (q3, .inl (gI γ, 24, .inl (fun _ => 0))), (q4, .inl (gI γ, 14, .inl (fun _ => 0))), (q5, .inl (gI γ, 14, .inl (fun _ => 0))), (q6, .inl (gI γ, 14, .inl (fun _ => 0)))] := hD
  refine W.widen (k := 6) (n := 1114) (by decide) (by decide) ?_
  refine k_putF hC hmn hP hD hS 0 16 tyX5 dX5_init_55 rfl rfl inX5 tyX5_ok nmX5 (by decide) u_5_170 rfl rfl rfl rfl rfl (Nat.le_of_ble_eq_true rfl) (fun H locs hP hD hS => ?_)
  have hP : va_P γ.1 vwCl [(o, .inr (6, [.int 0, .ref q1, .int 0, .int 0, .ref q2, .int 0, .int 0, .int (-1), .int 0, .int 0, .int 0, .int 0, .ref q3, .int 0, .ref q4, .ref q5, .ref q6])), (q1, .inl (gI γ, 1008, .inl (fun _ => 0))), (q2, .inl (gI γ, 40, .inl (fun _ => 0))), (q3, .inl (gI γ, 24, .inl (fun _ => 0))), (q4, .inl (gI γ, 14, .inl (fun _ => 0))), (q5, .inl (gI γ, 14, .inl (fun _ => 0))), (q6, .inl (gI γ, 14, .inl (fun _ => 0)))] H := hP
  have hD : va_D A [(o, .inr (6, [.int 0, .ref q1, .int 0, .int 0, .ref q2, .int 0, .int 0, .int (-1), .int 0, .int 0, .int 0, .int 0, .ref q3, .int 0, .ref q4, .ref q5, .ref q6])), (q1, .inl (gI γ, 1008, .inl (fun _ => 0))), (q2, .inl (gI γ, 40, .inl (fun _ => 0))), (q3, .inl (gI γ, 24, .inl (fun _ => 0))), (q4, .inl (gI γ, 14, .inl (fun _ => 0))), (q5, .inl (gI γ, 14, .inl (fun _ => 0))), (q6, .inl (gI γ, 14, .inl (fun _ => 0)))] := hD
  refine lv_iconst (v := 0) hx hb dX5_init_58 (by decide) ?_
  refine lv_istore_n (lv' := [(1, .int 0), (0, .ref o)]) hx hb dX5_init_59 rfl hl (by decide) rfl (fun ls hl => ?_)
  refine lv_iload_n hx hb dX5_init_60 rfl (lv_at hl 0 rfl) ?_
  refine lv_bipush (v := 6) hx hb dX5_init_61 (by decide) ?_
  refine lv_icmp_ge (tgt := 105) hx hb dX5_init_63 (by decide) (fun c9 => absurd c9 (by decide)) (fun c9 => ?_)
  refine lv_aload_n hx hb dX5_init_66 rfl (lv_at hl 1 rfl) ?_
  refine k_get hC hP 0 1 dX5_init_67 rfl rfl inX5 (by decide) rfl u_5_155 ?_
  refine lv_iconst (v := 0) hx hb dX5_init_70 (by decide) ?_
  refine lv_iload_n hx hb dX5_init_71 rfl (lv_at hl 0 rfl) ?_
  refine lv_iadd hx hb dX5_init_72 ?_
  refine lv_topi (fun y9 e9 => ?_)
  obtain rfl : y9 = 0 := e9.trans (by decide)
  clear e9
  refine lv_bipush (v := 30) hx hb dX5_init_73 (by decide) ?_
  refine va_iast hx hb hC.k hP hD hS 1 0 rfl rfl (show ¬ ((0 : Int32) < 0 ∨ 1008 ≤ (0 : Int32).toNatClampNeg) by decide) dX5_init_75 (fun H locs hP hD hS => ?_)
  obtain ⟨f1, ef1⟩ : ∃ g, g = upd (fun _ => 0) 0 30 := ⟨_, rfl⟩
  have hP : va_P γ.1 vwCl [(o, .inr (6, [.int 0, .ref q1, .int 0, .int 0, .ref q2, .int 0, .int 0, .int (-1), .int 0, .int 0, .int 0, .int 0, .ref q3, .int 0, .ref q4, .ref q5, .ref q6])), (q1, .inl (gI γ, 1008, .inl (upd (fun _ => 0) 0 30))), (q2, .inl (gI γ, 40, .inl (fun _ => 0))), (q3, .inl (gI γ, 24, .inl (fun _ => 0))), (q4, .inl (gI γ, 14, .inl (fun _ => 0))), (q5, .inl (gI γ, 14, .inl (fun _ => 0))), (q6, .inl (gI γ, 14, .inl (fun _ => 0)))] H := hP
  have hD : va_D A [(o, .inr (6, [.int 0, .ref q1, .int 0, .int 0, .ref q2, .int 0, .int 0, .int (-1), .int 0, .int 0, .int 0, .int 0, .ref q3, .int 0, .ref q4, .ref q5, .ref q6])), (q1, .inl (gI γ, 1008, .inl (upd (fun _ => 0) 0 30))), (q2, .inl (gI γ, 40, .inl (fun _ => 0))), (q3, .inl (gI γ, 24, .inl (fun _ => 0))), (q4, .inl (gI γ, 14, .inl (fun _ => 0))), (q5, .inl (gI γ, 14, .inl (fun _ => 0))), (q6, .inl (gI γ, 14, .inl (fun _ => 0)))] := hD
  rw [← ef1] at hP hD
  refine lv_aload_n hx hb dX5_init_76 rfl (lv_at hl 1 rfl) ?_
  refine k_get hC hP 0 1 dX5_init_77 rfl rfl inX5 (by decide) rfl u_5_155 ?_
  refine lv_bipush (v := 12) hx hb dX5_init_80 (by decide) ?_
  refine lv_iload_n hx hb dX5_init_82 rfl (lv_at hl 0 rfl) ?_
  refine lv_iadd hx hb dX5_init_83 ?_
  refine lv_topi (fun y9 e9 => ?_)
  obtain rfl : y9 = 12 := e9.trans (by decide)
  clear e9
  refine lv_bipush (v := 10) hx hb dX5_init_84 (by decide) ?_
  refine va_iast hx hb hC.k hP hD hS 1 0 rfl rfl (show ¬ ((12 : Int32) < 0 ∨ 1008 ≤ (12 : Int32).toNatClampNeg) by decide) dX5_init_86 (fun H locs hP hD hS => ?_)
  obtain ⟨f2, ef2⟩ : ∃ g, g = upd f1 12 10 := ⟨_, rfl⟩
  have hP : va_P γ.1 vwCl [(o, .inr (6, [.int 0, .ref q1, .int 0, .int 0, .ref q2, .int 0, .int 0, .int (-1), .int 0, .int 0, .int 0, .int 0, .ref q3, .int 0, .ref q4, .ref q5, .ref q6])), (q1, .inl (gI γ, 1008, .inl (upd f1 12 10))), (q2, .inl (gI γ, 40, .inl (fun _ => 0))), (q3, .inl (gI γ, 24, .inl (fun _ => 0))), (q4, .inl (gI γ, 14, .inl (fun _ => 0))), (q5, .inl (gI γ, 14, .inl (fun _ => 0))), (q6, .inl (gI γ, 14, .inl (fun _ => 0)))] H := hP
  have hD : va_D A [(o, .inr (6, [.int 0, .ref q1, .int 0, .int 0, .ref q2, .int 0, .int 0, .int (-1), .int 0, .int 0, .int 0, .int 0, .ref q3, .int 0, .ref q4, .ref q5, .ref q6])), (q1, .inl (gI γ, 1008, .inl (upd f1 12 10))), (q2, .inl (gI γ, 40, .inl (fun _ => 0))), (q3, .inl (gI γ, 24, .inl (fun _ => 0))), (q4, .inl (gI γ, 14, .inl (fun _ => 0))), (q5, .inl (gI γ, 14, .inl (fun _ => 0))), (q6, .inl (gI γ, 14, .inl (fun _ => 0)))] := hD
  rw [← ef2] at hP hD
  refine lv_aload_n hx hb dX5_init_87 rfl (lv_at hl 1 rfl) ?_
  refine k_get hC hP 0 1 dX5_init_88 rfl rfl inX5 (by decide) rfl u_5_155 ?_
  refine lv_bipush (v := 18) hx hb dX5_init_91 (by decide) ?_
  refine lv_iload_n hx hb dX5_init_93 rfl (lv_at hl 0 rfl) ?_
  refine lv_iadd hx hb dX5_init_94 ?_
  refine lv_topi (fun y9 e9 => ?_)
  obtain rfl : y9 = 18 := e9.trans (by decide)
  clear e9
  refine lv_sipush (v := 1023) hx hb dX5_init_95 (by decide) ?_
  refine va_iast hx hb hC.k hP hD hS 1 0 rfl rfl (show ¬ ((18 : Int32) < 0 ∨ 1008 ≤ (18 : Int32).toNatClampNeg) by decide) dX5_init_98 (fun H locs hP hD hS => ?_)
  obtain ⟨f3, ef3⟩ : ∃ g, g = upd f2 18 1023 := ⟨_, rfl⟩
  have hP : va_P γ.1 vwCl [(o, .inr (6, [.int 0, .ref q1, .int 0, .int 0, .ref q2, .int 0, .int 0, .int (-1), .int 0, .int 0, .int 0, .int 0, .ref q3, .int 0, .ref q4, .ref q5, .ref q6])), (q1, .inl (gI γ, 1008, .inl (upd f2 18 1023))), (q2, .inl (gI γ, 40, .inl (fun _ => 0))), (q3, .inl (gI γ, 24, .inl (fun _ => 0))), (q4, .inl (gI γ, 14, .inl (fun _ => 0))), (q5, .inl (gI γ, 14, .inl (fun _ => 0))), (q6, .inl (gI γ, 14, .inl (fun _ => 0)))] H := hP
  have hD : va_D A [(o, .inr (6, [.int 0, .ref q1, .int 0, .int 0, .ref q2, .int 0, .int 0, .int (-1), .int 0, .int 0, .int 0, .int 0, .ref q3, .int 0, .ref q4, .ref q5, .ref q6])), (q1, .inl (gI γ, 1008, .inl (upd f2 18 1023))), (q2, .inl (gI γ, 40, .inl (fun _ => 0))), (q3, .inl (gI γ, 24, .inl (fun _ => 0))), (q4, .inl (gI γ, 14, .inl (fun _ => 0))), (q5, .inl (gI γ, 14, .inl (fun _ => 0))), (q6, .inl (gI γ, 14, .inl (fun _ => 0)))] := hD
  rw [← ef3] at hP hD
  refine lv_iinc (v := 1) (lv' := [(1, .int 1), (0, .ref o)]) hx hb dX5_init_99 hl (k := 0) rfl (by decide) (by decide) rfl (fun ls hl => ?_)
  refine lv_goto (tgt := 60) hx hb dX5_init_102 (by decide) ?_
  refine lv_iload_n hx hb dX5_init_60 rfl (lv_at hl 0 rfl) ?_
  refine lv_bipush (v := 6) hx hb dX5_init_61 (by decide) ?_
  refine lv_icmp_ge (tgt := 105) hx hb dX5_init_63 (by decide) (fun c9 => absurd c9 (by decide)) (fun c9 => ?_)
  refine lv_aload_n hx hb dX5_init_66 rfl (lv_at hl 1 rfl) ?_
  refine k_get hC hP 0 1 dX5_init_67 rfl rfl inX5 (by decide) rfl u_5_155 ?_
  refine lv_iconst (v := 0) hx hb dX5_init_70 (by decide) ?_
  refine lv_iload_n hx hb dX5_init_71 rfl (lv_at hl 0 rfl) ?_
  refine lv_iadd hx hb dX5_init_72 ?_
  refine lv_topi (fun y9 e9 => ?_)
  obtain rfl : y9 = 1 := e9.trans (by decide)
  clear e9
  refine lv_bipush (v := 30) hx hb dX5_init_73 (by decide) ?_
  refine va_iast hx hb hC.k hP hD hS 1 0 rfl rfl (show ¬ ((1 : Int32) < 0 ∨ 1008 ≤ (1 : Int32).toNatClampNeg) by decide) dX5_init_75 (fun H locs hP hD hS => ?_)
  obtain ⟨f5, ef5⟩ : ∃ g, g = upd f3 1 30 := ⟨_, rfl⟩
  have hP : va_P γ.1 vwCl [(o, .inr (6, [.int 0, .ref q1, .int 0, .int 0, .ref q2, .int 0, .int 0, .int (-1), .int 0, .int 0, .int 0, .int 0, .ref q3, .int 0, .ref q4, .ref q5, .ref q6])), (q1, .inl (gI γ, 1008, .inl (upd f3 1 30))), (q2, .inl (gI γ, 40, .inl (fun _ => 0))), (q3, .inl (gI γ, 24, .inl (fun _ => 0))), (q4, .inl (gI γ, 14, .inl (fun _ => 0))), (q5, .inl (gI γ, 14, .inl (fun _ => 0))), (q6, .inl (gI γ, 14, .inl (fun _ => 0)))] H := hP
  have hD : va_D A [(o, .inr (6, [.int 0, .ref q1, .int 0, .int 0, .ref q2, .int 0, .int 0, .int (-1), .int 0, .int 0, .int 0, .int 0, .ref q3, .int 0, .ref q4, .ref q5, .ref q6])), (q1, .inl (gI γ, 1008, .inl (upd f3 1 30))), (q2, .inl (gI γ, 40, .inl (fun _ => 0))), (q3, .inl (gI γ, 24, .inl (fun _ => 0))), (q4, .inl (gI γ, 14, .inl (fun _ => 0))), (q5, .inl (gI γ, 14, .inl (fun _ => 0))), (q6, .inl (gI γ, 14, .inl (fun _ => 0)))] := hD
  rw [← ef5] at hP hD
  refine lv_aload_n hx hb dX5_init_76 rfl (lv_at hl 1 rfl) ?_
  refine k_get hC hP 0 1 dX5_init_77 rfl rfl inX5 (by decide) rfl u_5_155 ?_
  refine lv_bipush (v := 12) hx hb dX5_init_80 (by decide) ?_
  refine lv_iload_n hx hb dX5_init_82 rfl (lv_at hl 0 rfl) ?_
  refine lv_iadd hx hb dX5_init_83 ?_
  refine lv_topi (fun y9 e9 => ?_)
  obtain rfl : y9 = 13 := e9.trans (by decide)
  clear e9
  refine lv_bipush (v := 10) hx hb dX5_init_84 (by decide) ?_
  refine va_iast hx hb hC.k hP hD hS 1 0 rfl rfl (show ¬ ((13 : Int32) < 0 ∨ 1008 ≤ (13 : Int32).toNatClampNeg) by decide) dX5_init_86 (fun H locs hP hD hS => ?_)
  obtain ⟨f6, ef6⟩ : ∃ g, g = upd f5 13 10 := ⟨_, rfl⟩
  have hP : va_P γ.1 vwCl [(o, .inr (6, [.int 0, .ref q1, .int 0, .int 0, .ref q2, .int 0, .int 0, .int (-1), .int 0, .int 0, .int 0, .int 0, .ref q3, .int 0, .ref q4, .ref q5, .ref q6])), (q1, .inl (gI γ, 1008, .inl (upd f5 13 10))), (q2, .inl (gI γ, 40, .inl (fun _ => 0))), (q3, .inl (gI γ, 24, .inl (fun _ => 0))), (q4, .inl (gI γ, 14, .inl (fun _ => 0))), (q5, .inl (gI γ, 14, .inl (fun _ => 0))), (q6, .inl (gI γ, 14, .inl (fun _ => 0)))] H := hP
  have hD : va_D A [(o, .inr (6, [.int 0, .ref q1, .int 0, .int 0, .ref q2, .int 0, .int 0, .int (-1), .int 0, .int 0, .int 0, .int 0, .ref q3, .int 0, .ref q4, .ref q5, .ref q6])), (q1, .inl (gI γ, 1008, .inl (upd f5 13 10))), (q2, .inl (gI γ, 40, .inl (fun _ => 0))), (q3, .inl (gI γ, 24, .inl (fun _ => 0))), (q4, .inl (gI γ, 14, .inl (fun _ => 0))), (q5, .inl (gI γ, 14, .inl (fun _ => 0))), (q6, .inl (gI γ, 14, .inl (fun _ => 0)))] := hD
  rw [← ef6] at hP hD
  refine lv_aload_n hx hb dX5_init_87 rfl (lv_at hl 1 rfl) ?_
  refine k_get hC hP 0 1 dX5_init_88 rfl rfl inX5 (by decide) rfl u_5_155 ?_
  refine lv_bipush (v := 18) hx hb dX5_init_91 (by decide) ?_
  refine lv_iload_n hx hb dX5_init_93 rfl (lv_at hl 0 rfl) ?_
  refine lv_iadd hx hb dX5_init_94 ?_
  refine lv_topi (fun y9 e9 => ?_)
  obtain rfl : y9 = 19 := e9.trans (by decide)
  clear e9
  refine lv_sipush (v := 1023) hx hb dX5_init_95 (by decide) ?_
  refine va_iast hx hb hC.k hP hD hS 1 0 rfl rfl (show ¬ ((19 : Int32) < 0 ∨ 1008 ≤ (19 : Int32).toNatClampNeg) by decide) dX5_init_98 (fun H locs hP hD hS => ?_)
  obtain ⟨f7, ef7⟩ : ∃ g, g = upd f6 19 1023 := ⟨_, rfl⟩
  have hP : va_P γ.1 vwCl [(o, .inr (6, [.int 0, .ref q1, .int 0, .int 0, .ref q2, .int 0, .int 0, .int (-1), .int 0, .int 0, .int 0, .int 0, .ref q3, .int 0, .ref q4, .ref q5, .ref q6])), (q1, .inl (gI γ, 1008, .inl (upd f6 19 1023))), (q2, .inl (gI γ, 40, .inl (fun _ => 0))), (q3, .inl (gI γ, 24, .inl (fun _ => 0))), (q4, .inl (gI γ, 14, .inl (fun _ => 0))), (q5, .inl (gI γ, 14, .inl (fun _ => 0))), (q6, .inl (gI γ, 14, .inl (fun _ => 0)))] H := hP
  have hD : va_D A [(o, .inr (6, [.int 0, .ref q1, .int 0, .int 0, .ref q2, .int 0, .int 0, .int (-1), .int 0, .int 0, .int 0, .int 0, .ref q3, .int 0, .ref q4, .ref q5, .ref q6])), (q1, .inl (gI γ, 1008, .inl (upd f6 19 1023))), (q2, .inl (gI γ, 40, .inl (fun _ => 0))), (q3, .inl (gI γ, 24, .inl (fun _ => 0))), (q4, .inl (gI γ, 14, .inl (fun _ => 0))), (q5, .inl (gI γ, 14, .inl (fun _ => 0))), (q6, .inl (gI γ, 14, .inl (fun _ => 0)))] := hD
  rw [← ef7] at hP hD
  refine lv_iinc (v := 2) (lv' := [(1, .int 2), (0, .ref o)]) hx hb dX5_init_99 hl (k := 0) rfl (by decide) (by decide) rfl (fun ls hl => ?_)
  refine lv_goto (tgt := 60) hx hb dX5_init_102 (by decide) ?_
  refine lv_iload_n hx hb dX5_init_60 rfl (lv_at hl 0 rfl) ?_
  refine lv_bipush (v := 6) hx hb dX5_init_61 (by decide) ?_
  refine lv_icmp_ge (tgt := 105) hx hb dX5_init_63 (by decide) (fun c9 => absurd c9 (by decide)) (fun c9 => ?_)
  refine lv_aload_n hx hb dX5_init_66 rfl (lv_at hl 1 rfl) ?_
  refine k_get hC hP 0 1 dX5_init_67 rfl rfl inX5 (by decide) rfl u_5_155 ?_
  refine lv_iconst (v := 0) hx hb dX5_init_70 (by decide) ?_
  refine lv_iload_n hx hb dX5_init_71 rfl (lv_at hl 0 rfl) ?_
  refine lv_iadd hx hb dX5_init_72 ?_
  refine lv_topi (fun y9 e9 => ?_)
  obtain rfl : y9 = 2 := e9.trans (by decide)
  clear e9
  refine lv_bipush (v := 30) hx hb dX5_init_73 (by decide) ?_
  refine va_iast hx hb hC.k hP hD hS 1 0 rfl rfl (show ¬ ((2 : Int32) < 0 ∨ 1008 ≤ (2 : Int32).toNatClampNeg) by decide) dX5_init_75 (fun H locs hP hD hS => ?_)
  obtain ⟨f9, ef9⟩ : ∃ g, g = upd f7 2 30 := ⟨_, rfl⟩
  have hP : va_P γ.1 vwCl [(o, .inr (6, [.int 0, .ref q1, .int 0, .int 0, .ref q2, .int 0, .int 0, .int (-1), .int 0, .int 0, .int 0, .int 0, .ref q3, .int 0, .ref q4, .ref q5, .ref q6])), (q1, .inl (gI γ, 1008, .inl (upd f7 2 30))), (q2, .inl (gI γ, 40, .inl (fun _ => 0))), (q3, .inl (gI γ, 24, .inl (fun _ => 0))), (q4, .inl (gI γ, 14, .inl (fun _ => 0))), (q5, .inl (gI γ, 14, .inl (fun _ => 0))), (q6, .inl (gI γ, 14, .inl (fun _ => 0)))] H := hP
  have hD : va_D A [(o, .inr (6, [.int 0, .ref q1, .int 0, .int 0, .ref q2, .int 0, .int 0, .int (-1), .int 0, .int 0, .int 0, .int 0, .ref q3, .int 0, .ref q4, .ref q5, .ref q6])), (q1, .inl (gI γ, 1008, .inl (upd f7 2 30))), (q2, .inl (gI γ, 40, .inl (fun _ => 0))), (q3, .inl (gI γ, 24, .inl (fun _ => 0))), (q4, .inl (gI γ, 14, .inl (fun _ => 0))), (q5, .inl (gI γ, 14, .inl (fun _ => 0))), (q6, .inl (gI γ, 14, .inl (fun _ => 0)))] := hD
  rw [← ef9] at hP hD
  refine lv_aload_n hx hb dX5_init_76 rfl (lv_at hl 1 rfl) ?_
  refine k_get hC hP 0 1 dX5_init_77 rfl rfl inX5 (by decide) rfl u_5_155 ?_
  refine lv_bipush (v := 12) hx hb dX5_init_80 (by decide) ?_
  refine lv_iload_n hx hb dX5_init_82 rfl (lv_at hl 0 rfl) ?_
  refine lv_iadd hx hb dX5_init_83 ?_
  refine lv_topi (fun y9 e9 => ?_)
  obtain rfl : y9 = 14 := e9.trans (by decide)
  clear e9
  refine lv_bipush (v := 10) hx hb dX5_init_84 (by decide) ?_
  refine va_iast hx hb hC.k hP hD hS 1 0 rfl rfl (show ¬ ((14 : Int32) < 0 ∨ 1008 ≤ (14 : Int32).toNatClampNeg) by decide) dX5_init_86 (fun H locs hP hD hS => ?_)
  obtain ⟨f10, ef10⟩ : ∃ g, g = upd f9 14 10 := ⟨_, rfl⟩
  have hP : va_P γ.1 vwCl [(o, .inr (6, [.int 0, .ref q1, .int 0, .int 0, .ref q2, .int 0, .int 0, .int (-1), .int 0, .int 0, .int 0, .int 0, .ref q3, .int 0, .ref q4, .ref q5, .ref q6])), (q1, .inl (gI γ, 1008, .inl (upd f9 14 10))), (q2, .inl (gI γ, 40, .inl (fun _ => 0))), (q3, .inl (gI γ, 24, .inl (fun _ => 0))), (q4, .inl (gI γ, 14, .inl (fun _ => 0))), (q5, .inl (gI γ, 14, .inl (fun _ => 0))), (q6, .inl (gI γ, 14, .inl (fun _ => 0)))] H := hP
  have hD : va_D A [(o, .inr (6, [.int 0, .ref q1, .int 0, .int 0, .ref q2, .int 0, .int 0, .int (-1), .int 0, .int 0, .int 0, .int 0, .ref q3, .int 0, .ref q4, .ref q5, .ref q6])), (q1, .inl (gI γ, 1008, .inl (upd f9 14 10))), (q2, .inl (gI γ, 40, .inl (fun _ => 0))), (q3, .inl (gI γ, 24, .inl (fun _ => 0))), (q4, .inl (gI γ, 14, .inl (fun _ => 0))), (q5, .inl (gI γ, 14, .inl (fun _ => 0))), (q6, .inl (gI γ, 14, .inl (fun _ => 0)))] := hD
  rw [← ef10] at hP hD
  refine lv_aload_n hx hb dX5_init_87 rfl (lv_at hl 1 rfl) ?_
  refine k_get hC hP 0 1 dX5_init_88 rfl rfl inX5 (by decide) rfl u_5_155 ?_
  refine lv_bipush (v := 18) hx hb dX5_init_91 (by decide) ?_
  refine lv_iload_n hx hb dX5_init_93 rfl (lv_at hl 0 rfl) ?_
  refine lv_iadd hx hb dX5_init_94 ?_
  refine lv_topi (fun y9 e9 => ?_)
  obtain rfl : y9 = 20 := e9.trans (by decide)
  clear e9
  refine lv_sipush (v := 1023) hx hb dX5_init_95 (by decide) ?_
  refine va_iast hx hb hC.k hP hD hS 1 0 rfl rfl (show ¬ ((20 : Int32) < 0 ∨ 1008 ≤ (20 : Int32).toNatClampNeg) by decide) dX5_init_98 (fun H locs hP hD hS => ?_)
  obtain ⟨f11, ef11⟩ : ∃ g, g = upd f10 20 1023 := ⟨_, rfl⟩
  have hP : va_P γ.1 vwCl [(o, .inr (6, [.int 0, .ref q1, .int 0, .int 0, .ref q2, .int 0, .int 0, .int (-1), .int 0, .int 0, .int 0, .int 0, .ref q3, .int 0, .ref q4, .ref q5, .ref q6])), (q1, .inl (gI γ, 1008, .inl (upd f10 20 1023))), (q2, .inl (gI γ, 40, .inl (fun _ => 0))), (q3, .inl (gI γ, 24, .inl (fun _ => 0))), (q4, .inl (gI γ, 14, .inl (fun _ => 0))), (q5, .inl (gI γ, 14, .inl (fun _ => 0))), (q6, .inl (gI γ, 14, .inl (fun _ => 0)))] H := hP
  have hD : va_D A [(o, .inr (6, [.int 0, .ref q1, .int 0, .int 0, .ref q2, .int 0, .int 0, .int (-1), .int 0, .int 0, .int 0, .int 0, .ref q3, .int 0, .ref q4, .ref q5, .ref q6])), (q1, .inl (gI γ, 1008, .inl (upd f10 20 1023))), (q2, .inl (gI γ, 40, .inl (fun _ => 0))), (q3, .inl (gI γ, 24, .inl (fun _ => 0))), (q4, .inl (gI γ, 14, .inl (fun _ => 0))), (q5, .inl (gI γ, 14, .inl (fun _ => 0))), (q6, .inl (gI γ, 14, .inl (fun _ => 0)))] := hD
  rw [← ef11] at hP hD
  refine lv_iinc (v := 3) (lv' := [(1, .int 3), (0, .ref o)]) hx hb dX5_init_99 hl (k := 0) rfl (by decide) (by decide) rfl (fun ls hl => ?_)
  refine lv_goto (tgt := 60) hx hb dX5_init_102 (by decide) ?_
  refine lv_iload_n hx hb dX5_init_60 rfl (lv_at hl 0 rfl) ?_
  refine lv_bipush (v := 6) hx hb dX5_init_61 (by decide) ?_
  refine lv_icmp_ge (tgt := 105) hx hb dX5_init_63 (by decide) (fun c9 => absurd c9 (by decide)) (fun c9 => ?_)
  refine lv_aload_n hx hb dX5_init_66 rfl (lv_at hl 1 rfl) ?_
  refine k_get hC hP 0 1 dX5_init_67 rfl rfl inX5 (by decide) rfl u_5_155 ?_
  refine lv_iconst (v := 0) hx hb dX5_init_70 (by decide) ?_
  refine lv_iload_n hx hb dX5_init_71 rfl (lv_at hl 0 rfl) ?_
  refine lv_iadd hx hb dX5_init_72 ?_
  refine lv_topi (fun y9 e9 => ?_)
  obtain rfl : y9 = 3 := e9.trans (by decide)
  clear e9
  refine lv_bipush (v := 30) hx hb dX5_init_73 (by decide) ?_
  refine va_iast hx hb hC.k hP hD hS 1 0 rfl rfl (show ¬ ((3 : Int32) < 0 ∨ 1008 ≤ (3 : Int32).toNatClampNeg) by decide) dX5_init_75 (fun H locs hP hD hS => ?_)
  obtain ⟨f13, ef13⟩ : ∃ g, g = upd f11 3 30 := ⟨_, rfl⟩
  have hP : va_P γ.1 vwCl [(o, .inr (6, [.int 0, .ref q1, .int 0, .int 0, .ref q2, .int 0, .int 0, .int (-1), .int 0, .int 0, .int 0, .int 0, .ref q3, .int 0, .ref q4, .ref q5, .ref q6])), (q1, .inl (gI γ, 1008, .inl (upd f11 3 30))), (q2, .inl (gI γ, 40, .inl (fun _ => 0))), (q3, .inl (gI γ, 24, .inl (fun _ => 0))), (q4, .inl (gI γ, 14, .inl (fun _ => 0))), (q5, .inl (gI γ, 14, .inl (fun _ => 0))), (q6, .inl (gI γ, 14, .inl (fun _ => 0)))] H := hP
  have hD : va_D A [(o, .inr (6, [.int 0, .ref q1, .int 0, .int 0, .ref q2, .int 0, .int 0, .int (-1), .int 0, .int 0, .int 0, .int 0, .ref q3, .int 0, .ref q4, .ref q5, .ref q6])), (q1, .inl (gI γ, 1008, .inl (upd f11 3 30))), (q2, .inl (gI γ, 40, .inl (fun _ => 0))), (q3, .inl (gI γ, 24, .inl (fun _ => 0))), (q4, .inl (gI γ, 14, .inl (fun _ => 0))), (q5, .inl (gI γ, 14, .inl (fun _ => 0))), (q6, .inl (gI γ, 14, .inl (fun _ => 0)))] := hD
  rw [← ef13] at hP hD
  refine lv_aload_n hx hb dX5_init_76 rfl (lv_at hl 1 rfl) ?_
  refine k_get hC hP 0 1 dX5_init_77 rfl rfl inX5 (by decide) rfl u_5_155 ?_
  refine lv_bipush (v := 12) hx hb dX5_init_80 (by decide) ?_
  refine lv_iload_n hx hb dX5_init_82 rfl (lv_at hl 0 rfl) ?_
  refine lv_iadd hx hb dX5_init_83 ?_
  refine lv_topi (fun y9 e9 => ?_)
  obtain rfl : y9 = 15 := e9.trans (by decide)
  clear e9
  refine lv_bipush (v := 10) hx hb dX5_init_84 (by decide) ?_
  refine va_iast hx hb hC.k hP hD hS 1 0 rfl rfl (show ¬ ((15 : Int32) < 0 ∨ 1008 ≤ (15 : Int32).toNatClampNeg) by decide) dX5_init_86 (fun H locs hP hD hS => ?_)
  obtain ⟨f14, ef14⟩ : ∃ g, g = upd f13 15 10 := ⟨_, rfl⟩
  have hP : va_P γ.1 vwCl [(o, .inr (6, [.int 0, .ref q1, .int 0, .int 0, .ref q2, .int 0, .int 0, .int (-1), .int 0, .int 0, .int 0, .int 0, .ref q3, .int 0, .ref q4, .ref q5, .ref q6])), (q1, .inl (gI γ, 1008, .inl (upd f13 15 10))), (q2, .inl (gI γ, 40, .inl (fun _ => 0))), (q3, .inl (gI γ, 24, .inl (fun _ => 0))), (q4, .inl (gI γ, 14, .inl (fun _ => 0))), (q5, .inl (gI γ, 14, .inl (fun _ => 0))), (q6, .inl (gI γ, 14, .inl (fun _ => 0)))] H := hP
  have hD : va_D A [(o, .inr (6, [.int 0, .ref q1, .int 0, .int 0, .ref q2, .int 0, .int 0, .int (-1), .int 0, .int 0, .int 0, .int 0, .ref q3, .int 0, .ref q4, .ref q5, .ref q6])), (q1, .inl (gI γ, 1008, .inl (upd f13 15 10))), (q2, .inl (gI γ, 40, .inl (fun _ => 0))), (q3, .inl (gI γ, 24, .inl (fun _ => 0))), (q4, .inl (gI γ, 14, .inl (fun _ => 0))), (q5, .inl (gI γ, 14, .inl (fun _ => 0))), (q6, .inl (gI γ, 14, .inl (fun _ => 0)))] := hD
  rw [← ef14] at hP hD
  refine lv_aload_n hx hb dX5_init_87 rfl (lv_at hl 1 rfl) ?_
  refine k_get hC hP 0 1 dX5_init_88 rfl rfl inX5 (by decide) rfl u_5_155 ?_
  refine lv_bipush (v := 18) hx hb dX5_init_91 (by decide) ?_
  refine lv_iload_n hx hb dX5_init_93 rfl (lv_at hl 0 rfl) ?_
  refine lv_iadd hx hb dX5_init_94 ?_
  refine lv_topi (fun y9 e9 => ?_)
  obtain rfl : y9 = 21 := e9.trans (by decide)
  clear e9
  refine lv_sipush (v := 1023) hx hb dX5_init_95 (by decide) ?_
  refine va_iast hx hb hC.k hP hD hS 1 0 rfl rfl (show ¬ ((21 : Int32) < 0 ∨ 1008 ≤ (21 : Int32).toNatClampNeg) by decide) dX5_init_98 (fun H locs hP hD hS => ?_)
  obtain ⟨f15, ef15⟩ : ∃ g, g = upd f14 21 1023 := ⟨_, rfl⟩
  have hP : va_P γ.1 vwCl [(o, .inr (6, [.int 0, .ref q1, .int 0, .int 0, .ref q2, .int 0, .int 0, .int (-1), .int 0, .int 0, .int 0, .int 0, .ref q3, .int 0, .ref q4, .ref q5, .ref q6])), (q1, .inl (gI γ, 1008, .inl (upd f14 21 1023))), (q2, .inl (gI γ, 40, .inl (fun _ => 0))), (q3, .inl (gI γ, 24, .inl (fun _ => 0))), (q4, .inl (gI γ, 14, .inl (fun _ => 0))), (q5, .inl (gI γ, 14, .inl (fun _ => 0))), (q6, .inl (gI γ, 14, .inl (fun _ => 0)))] H := hP
  have hD : va_D A [(o, .inr (6, [.int 0, .ref q1, .int 0, .int 0, .ref q2, .int 0, .int 0, .int (-1), .int 0, .int 0, .int 0, .int 0, .ref q3, .int 0, .ref q4, .ref q5, .ref q6])), (q1, .inl (gI γ, 1008, .inl (upd f14 21 1023))), (q2, .inl (gI γ, 40, .inl (fun _ => 0))), (q3, .inl (gI γ, 24, .inl (fun _ => 0))), (q4, .inl (gI γ, 14, .inl (fun _ => 0))), (q5, .inl (gI γ, 14, .inl (fun _ => 0))), (q6, .inl (gI γ, 14, .inl (fun _ => 0)))] := hD
  rw [← ef15] at hP hD
  refine lv_iinc (v := 4) (lv' := [(1, .int 4), (0, .ref o)]) hx hb dX5_init_99 hl (k := 0) rfl (by decide) (by decide) rfl (fun ls hl => ?_)
  refine lv_goto (tgt := 60) hx hb dX5_init_102 (by decide) ?_
  refine lv_iload_n hx hb dX5_init_60 rfl (lv_at hl 0 rfl) ?_
  refine lv_bipush (v := 6) hx hb dX5_init_61 (by decide) ?_
  refine lv_icmp_ge (tgt := 105) hx hb dX5_init_63 (by decide) (fun c9 => absurd c9 (by decide)) (fun c9 => ?_)
  refine lv_aload_n hx hb dX5_init_66 rfl (lv_at hl 1 rfl) ?_
  refine k_get hC hP 0 1 dX5_init_67 rfl rfl inX5 (by decide) rfl u_5_155 ?_
  refine lv_iconst (v := 0) hx hb dX5_init_70 (by decide) ?_
  refine lv_iload_n hx hb dX5_init_71 rfl (lv_at hl 0 rfl) ?_
  refine lv_iadd hx hb dX5_init_72 ?_
  refine lv_topi (fun y9 e9 => ?_)
  obtain rfl : y9 = 4 := e9.trans (by decide)
  clear e9
  refine lv_bipush (v := 30) hx hb dX5_init_73 (by decide) ?_
  refine va_iast hx hb hC.k hP hD hS 1 0 rfl rfl (show ¬ ((4 : Int32) < 0 ∨ 1008 ≤ (4 : Int32).toNatClampNeg) by decide) dX5_init_75 (fun H locs hP hD hS => ?_)
  obtain ⟨f17, ef17⟩ : ∃ g, g = upd f15 4 30 := ⟨_, rfl⟩
  have hP : va_P γ.1 vwCl [(o, .inr (6, [.int 0, .ref q1, .int 0, .int 0, .ref q2, .int 0, .int 0, .int (-1), .int 0, .int 0, .int 0, .int 0, .ref q3, .int 0, .ref q4, .ref q5, .ref q6])), (q1, .inl (gI γ, 1008, .inl (upd f15 4 30))), (q2, .inl (gI γ, 40, .inl (fun _ => 0))), (q3, .inl (gI γ, 24, .inl (fun _ => 0))), (q4, .inl (gI γ, 14, .inl (fun _ => 0))), (q5, .inl (gI γ, 14, .inl (fun _ => 0))), (q6, .inl (gI γ, 14, .inl (fun _ => 0)))] H := hP
  have hD : va_D A [(o, .inr (6, [.int 0, .ref q1, .int 0, .int 0, .ref q2, .int 0, .int 0, .int (-1), .int 0, .int 0, .int 0, .int 0, .ref q3, .int 0, .ref q4, .ref q5, .ref q6])), (q1, .inl (gI γ, 1008, .inl (upd f15 4 30))), (q2, .inl (gI γ, 40, .inl (fun _ => 0))), (q3, .inl (gI γ, 24, .inl (fun _ => 0))), (q4, .inl (gI γ, 14, .inl (fun _ => 0))), (q5, .inl (gI γ, 14, .inl (fun _ => 0))), (q6, .inl (gI γ, 14, .inl (fun _ => 0)))] := hD
  rw [← ef17] at hP hD
  refine lv_aload_n hx hb dX5_init_76 rfl (lv_at hl 1 rfl) ?_
  refine k_get hC hP 0 1 dX5_init_77 rfl rfl inX5 (by decide) rfl u_5_155 ?_
  refine lv_bipush (v := 12) hx hb dX5_init_80 (by decide) ?_
  refine lv_iload_n hx hb dX5_init_82 rfl (lv_at hl 0 rfl) ?_
  refine lv_iadd hx hb dX5_init_83 ?_
  refine lv_topi (fun y9 e9 => ?_)
  obtain rfl : y9 = 16 := e9.trans (by decide)
  clear e9
  refine lv_bipush (v := 10) hx hb dX5_init_84 (by decide) ?_
  refine va_iast hx hb hC.k hP hD hS 1 0 rfl rfl (show ¬ ((16 : Int32) < 0 ∨ 1008 ≤ (16 : Int32).toNatClampNeg) by decide) dX5_init_86 (fun H locs hP hD hS => ?_)
  obtain ⟨f18, ef18⟩ : ∃ g, g = upd f17 16 10 := ⟨_, rfl⟩
  have hP : va_P γ.1 vwCl [(o, .inr (6, [.int 0, .ref q1, .int 0, .int 0, .ref q2, .int 0, .int 0, .int (-1), .int 0, .int 0, .int 0, .int 0, .ref q3, .int 0, .ref q4, .ref q5, .ref q6])), (q1, .inl (gI γ, 1008, .inl (upd f17 16 10))), (q2, .inl (gI γ, 40, .inl (fun _ => 0))), (q3, .inl (gI γ, 24, .inl (fun _ => 0))), (q4, .inl (gI γ, 14, .inl (fun _ => 0))), (q5, .inl (gI γ, 14, .inl (fun _ => 0))), (q6, .inl (gI γ, 14, .inl (fun _ => 0)))] H := hP
  have hD : va_D A [(o, .inr (6, [.int 0, .ref q1, .int 0, .int 0, .ref q2, .int 0, .int 0, .int (-1), .int 0, .int 0, .int 0, .int 0, .ref q3, .int 0, .ref q4, .ref q5, .ref q6])), (q1, .inl (gI γ, 1008, .inl (upd f17 16 10))), (q2, .inl (gI γ, 40, .inl (fun _ => 0))), (q3, .inl (gI γ, 24, .inl (fun _ => 0))), (q4, .inl (gI γ, 14, .inl (fun _ => 0))), (q5, .inl (gI γ, 14, .inl (fun _ => 0))), (q6, .inl (gI γ, 14, .inl (fun _ => 0)))] := hD
  rw [← ef18] at hP hD
  refine lv_aload_n hx hb dX5_init_87 rfl (lv_at hl 1 rfl) ?_
  refine k_get hC hP 0 1 dX5_init_88 rfl rfl inX5 (by decide) rfl u_5_155 ?_
  refine lv_bipush (v := 18) hx hb dX5_init_91 (by decide) ?_
  refine lv_iload_n hx hb dX5_init_93 rfl (lv_at hl 0 rfl) ?_
  refine lv_iadd hx hb dX5_init_94 ?_
  refine lv_topi (fun y9 e9 => ?_)
  obtain rfl : y9 = 22 := e9.trans (by decide)
  clear e9
  refine lv_sipush (v := 1023) hx hb dX5_init_95 (by decide) ?_
  refine va_iast hx hb hC.k hP hD hS 1 0 rfl rfl (show ¬ ((22 : Int32) < 0 ∨ 1008 ≤ (22 : Int32).toNatClampNeg) by decide) dX5_init_98 (fun H locs hP hD hS => ?_)
  obtain ⟨f19, ef19⟩ : ∃ g, g = upd f18 22 1023 := ⟨_, rfl⟩
  have hP : va_P γ.1 vwCl [(o, .inr (6, [.int 0, .ref q1, .int 0, .int 0, .ref q2, .int 0, .int 0, .int (-1), .int 0, .int 0, .int 0, .int 0, .ref q3, .int 0, .ref q4, .ref q5, .ref q6])), (q1, .inl (gI γ, 1008, .inl (upd f18 22 1023))), (q2, .inl (gI γ, 40, .inl (fun _ => 0))), (q3, .inl (gI γ, 24, .inl (fun _ => 0))), (q4, .inl (gI γ, 14, .inl (fun _ => 0))), (q5, .inl (gI γ, 14, .inl (fun _ => 0))), (q6, .inl (gI γ, 14, .inl (fun _ => 0)))] H := hP
  have hD : va_D A [(o, .inr (6, [.int 0, .ref q1, .int 0, .int 0, .ref q2, .int 0, .int 0, .int (-1), .int 0, .int 0, .int 0, .int 0, .ref q3, .int 0, .ref q4, .ref q5, .ref q6])), (q1, .inl (gI γ, 1008, .inl (upd f18 22 1023))), (q2, .inl (gI γ, 40, .inl (fun _ => 0))), (q3, .inl (gI γ, 24, .inl (fun _ => 0))), (q4, .inl (gI γ, 14, .inl (fun _ => 0))), (q5, .inl (gI γ, 14, .inl (fun _ => 0))), (q6, .inl (gI γ, 14, .inl (fun _ => 0)))] := hD
  rw [← ef19] at hP hD
  refine lv_iinc (v := 5) (lv' := [(1, .int 5), (0, .ref o)]) hx hb dX5_init_99 hl (k := 0) rfl (by decide) (by decide) rfl (fun ls hl => ?_)
  refine lv_goto (tgt := 60) hx hb dX5_init_102 (by decide) ?_
  refine lv_iload_n hx hb dX5_init_60 rfl (lv_at hl 0 rfl) ?_
  refine lv_bipush (v := 6) hx hb dX5_init_61 (by decide) ?_
  refine lv_icmp_ge (tgt := 105) hx hb dX5_init_63 (by decide) (fun c9 => absurd c9 (by decide)) (fun c9 => ?_)
  refine lv_aload_n hx hb dX5_init_66 rfl (lv_at hl 1 rfl) ?_
  refine k_get hC hP 0 1 dX5_init_67 rfl rfl inX5 (by decide) rfl u_5_155 ?_
  refine lv_iconst (v := 0) hx hb dX5_init_70 (by decide) ?_
  refine lv_iload_n hx hb dX5_init_71 rfl (lv_at hl 0 rfl) ?_
  refine lv_iadd hx hb dX5_init_72 ?_
  refine lv_topi (fun y9 e9 => ?_)
  obtain rfl : y9 = 5 := e9.trans (by decide)
  clear e9
  refine lv_bipush (v := 30) hx hb dX5_init_73 (by decide) ?_
  refine va_iast hx hb hC.k hP hD hS 1 0 rfl rfl (show ¬ ((5 : Int32) < 0 ∨ 1008 ≤ (5 : Int32).toNatClampNeg) by decide) dX5_init_75 (fun H locs hP hD hS => ?_)
  obtain ⟨f21, ef21⟩ : ∃ g, g = upd f19 5 30 := ⟨_, rfl⟩
  have hP : va_P γ.1 vwCl [(o, .inr (6, [.int 0, .ref q1, .int 0, .int 0, .ref q2, .int 0, .int 0, .int (-1), .int 0, .int 0, .int 0, .int 0, .ref q3, .int 0, .ref q4, .ref q5, .ref q6])), (q1, .inl (gI γ, 1008, .inl (upd f19 5 30))), (q2, .inl (gI γ, 40, .inl (fun _ => 0))), (q3, .inl (gI γ, 24, .inl (fun _ => 0))), (q4, .inl (gI γ, 14, .inl (fun _ => 0))), (q5, .inl (gI γ, 14, .inl (fun _ => 0))), (q6, .inl (gI γ, 14, .inl (fun _ => 0)))] H := hP
  have hD : va_D A [(o, .inr (6, [.int 0, .ref q1, .int 0, .int 0, .ref q2, .int 0, .int 0, .int (-1), .int 0, .int 0, .int 0, .int 0, .ref q3, .int 0, .ref q4, .ref q5, .ref q6])), (q1, .inl (gI γ, 1008, .inl (upd f19 5 30))), (q2, .inl (gI γ, 40, .inl (fun _ => 0))), (q3, .inl (gI γ, 24, .inl (fun _ => 0))), (q4, .inl (gI γ, 14, .inl (fun _ => 0))), (q5, .inl (gI γ, 14, .inl (fun _ => 0))), (q6, .inl (gI γ, 14, .inl (fun _ => 0)))] := hD
  rw [← ef21] at hP hD
  refine lv_aload_n hx hb dX5_init_76 rfl (lv_at hl 1 rfl) ?_
  refine k_get hC hP 0 1 dX5_init_77 rfl rfl inX5 (by decide) rfl u_5_155 ?_
  refine lv_bipush (v := 12) hx hb dX5_init_80 (by decide) ?_
  refine lv_iload_n hx hb dX5_init_82 rfl (lv_at hl 0 rfl) ?_
  refine lv_iadd hx hb dX5_init_83 ?_
  refine lv_topi (fun y9 e9 => ?_)
  obtain rfl : y9 = 17 := e9.trans (by decide)
  clear e9
  refine lv_bipush (v := 10) hx hb dX5_init_84 (by decide) ?_
  refine va_iast hx hb hC.k hP hD hS 1 0 rfl rfl (show ¬ ((17 : Int32) < 0 ∨ 1008 ≤ (17 : Int32).toNatClampNeg) by decide) dX5_init_86 (fun H locs hP hD hS => ?_)
  obtain ⟨f22, ef22⟩ : ∃ g, g = upd f21 17 10 := ⟨_, rfl⟩
  have hP : va_P γ.1 vwCl [(o, .inr (6, [.int 0, .ref q1, .int 0, .int 0, .ref q2, .int 0, .int 0, .int (-1), .int 0, .int 0, .int 0, .int 0, .ref q3, .int 0, .ref q4, .ref q5, .ref q6])), (q1, .inl (gI γ, 1008, .inl (upd f21 17 10))), (q2, .inl (gI γ, 40, .inl (fun _ => 0))), (q3, .inl (gI γ, 24, .inl (fun _ => 0))), (q4, .inl (gI γ, 14, .inl (fun _ => 0))), (q5, .inl (gI γ, 14, .inl (fun _ => 0))), (q6, .inl (gI γ, 14, .inl (fun _ => 0)))] H := hP
  have hD : va_D A [(o, .inr (6, [.int 0, .ref q1, .int 0, .int 0, .ref q2, .int 0, .int 0, .int (-1), .int 0, .int 0, .int 0, .int 0, .ref q3, .int 0, .ref q4, .ref q5, .ref q6])), (q1, .inl (gI γ, 1008, .inl (upd f21 17 10))), (q2, .inl (gI γ, 40, .inl (fun _ => 0))), (q3, .inl (gI γ, 24, .inl (fun _ => 0))), (q4, .inl (gI γ, 14, .inl (fun _ => 0))), (q5, .inl (gI γ, 14, .inl (fun _ => 0))), (q6, .inl (gI γ, 14, .inl (fun _ => 0)))] := hD
  rw [← ef22] at hP hD
  refine lv_aload_n hx hb dX5_init_87 rfl (lv_at hl 1 rfl) ?_
  refine k_get hC hP 0 1 dX5_init_88 rfl rfl inX5 (by decide) rfl u_5_155 ?_
  refine lv_bipush (v := 18) hx hb dX5_init_91 (by decide) ?_
  refine lv_iload_n hx hb dX5_init_93 rfl (lv_at hl 0 rfl) ?_
  refine lv_iadd hx hb dX5_init_94 ?_
  refine lv_topi (fun y9 e9 => ?_)
  obtain rfl : y9 = 23 := e9.trans (by decide)
  clear e9
  refine lv_sipush (v := 1023) hx hb dX5_init_95 (by decide) ?_
  refine va_iast hx hb hC.k hP hD hS 1 0 rfl rfl (show ¬ ((23 : Int32) < 0 ∨ 1008 ≤ (23 : Int32).toNatClampNeg) by decide) dX5_init_98 (fun H locs hP hD hS => ?_)
  obtain ⟨f23, ef23⟩ : ∃ g, g = upd f22 23 1023 := ⟨_, rfl⟩
  have hP : va_P γ.1 vwCl [(o, .inr (6, [.int 0, .ref q1, .int 0, .int 0, .ref q2, .int 0, .int 0, .int (-1), .int 0, .int 0, .int 0, .int 0, .ref q3, .int 0, .ref q4, .ref q5, .ref q6])), (q1, .inl (gI γ, 1008, .inl (upd f22 23 1023))), (q2, .inl (gI γ, 40, .inl (fun _ => 0))), (q3, .inl (gI γ, 24, .inl (fun _ => 0))), (q4, .inl (gI γ, 14, .inl (fun _ => 0))), (q5, .inl (gI γ, 14, .inl (fun _ => 0))), (q6, .inl (gI γ, 14, .inl (fun _ => 0)))] H := hP
  have hD : va_D A [(o, .inr (6, [.int 0, .ref q1, .int 0, .int 0, .ref q2, .int 0, .int 0, .int (-1), .int 0, .int 0, .int 0, .int 0, .ref q3, .int 0, .ref q4, .ref q5, .ref q6])), (q1, .inl (gI γ, 1008, .inl (upd f22 23 1023))), (q2, .inl (gI γ, 40, .inl (fun _ => 0))), (q3, .inl (gI γ, 24, .inl (fun _ => 0))), (q4, .inl (gI γ, 14, .inl (fun _ => 0))), (q5, .inl (gI γ, 14, .inl (fun _ => 0))), (q6, .inl (gI γ, 14, .inl (fun _ => 0)))] := hD
  rw [← ef23] at hP hD
  refine lv_iinc (v := 6) (lv' := [(1, .int 6), (0, .ref o)]) hx hb dX5_init_99 hl (k := 0) rfl (by decide) (by decide) rfl (fun ls hl => ?_)
  refine lv_goto (tgt := 60) hx hb dX5_init_102 (by decide) ?_
  refine lv_iload_n hx hb dX5_init_60 rfl (lv_at hl 0 rfl) ?_
  refine lv_bipush (v := 6) hx hb dX5_init_61 (by decide) ?_
  refine lv_icmp_ge (tgt := 105) hx hb dX5_init_63 (by decide) (fun c9 => ?_) (fun c9 => absurd (by decide) c9)
  refine lv_iconst (v := 0) hx hb dX5_init_105 (by decide) ?_
  refine lv_istore_n (lv' := [(1, .int 0), (0, .ref o)]) hx hb dX5_init_106 rfl hl (by decide) rfl (fun ls hl => ?_)
  refine lv_iload_n hx hb dX5_init_107 rfl (lv_at hl 0 rfl) ?_
  refine lv_iconst (v := 3) hx hb dX5_init_108 (by decide) ?_
  refine lv_icmp_ge (tgt := 128) hx hb dX5_init_109 (by decide) (fun c9 => absurd c9 (by decide)) (fun c9 => ?_)
  refine lv_aload_n hx hb dX5_init_112 rfl (lv_at hl 1 rfl) ?_
  refine k_get hC hP 0 1 dX5_init_113 rfl rfl inX5 (by decide) rfl u_5_155 ?_
  refine lv_bipush (v := 24) hx hb dX5_init_116 (by decide) ?_
  refine lv_iload_n hx hb dX5_init_118 rfl (lv_at hl 0 rfl) ?_
  refine lv_iadd hx hb dX5_init_119 ?_
  refine lv_topi (fun y9 e9 => ?_)
  obtain rfl : y9 = 24 := e9.trans (by decide)
  clear e9
  refine lv_iconst (v := 1) hx hb dX5_init_120 (by decide) ?_
  refine va_iast hx hb hC.k hP hD hS 1 0 rfl rfl (show ¬ ((24 : Int32) < 0 ∨ 1008 ≤ (24 : Int32).toNatClampNeg) by decide) dX5_init_121 (fun H locs hP hD hS => ?_)
  obtain ⟨f26, ef26⟩ : ∃ g, g = upd f23 24 1 := ⟨_, rfl⟩
  have hP : va_P γ.1 vwCl [(o, .inr (6, [.int 0, .ref q1, .int 0, .int 0, .ref q2, .int 0, .int 0, .int (-1), .int 0, .int 0, .int 0, .int 0, .ref q3, .int 0, .ref q4, .ref q5, .ref q6])), (q1, .inl (gI γ, 1008, .inl (upd f23 24 1))), (q2, .inl (gI γ, 40, .inl (fun _ => 0))), (q3, .inl (gI γ, 24, .inl (fun _ => 0))), (q4, .inl (gI γ, 14, .inl (fun _ => 0))), (q5, .inl (gI γ, 14, .inl (fun _ => 0))), (q6, .inl (gI γ, 14, .inl (fun _ => 0)))] H := hP
  have hD : va_D A [(o, .inr (6, [.int 0, .ref q1, .int 0, .int 0, .ref q2, .int 0, .int 0, .int (-1), .int 0, .int 0, .int 0, .int 0, .ref q3, .int 0, .ref q4, .ref q5, .ref q6])), (q1, .inl (gI γ, 1008, .inl (upd f23 24 1))), (q2, .inl (gI γ, 40, .inl (fun _ => 0))), (q3, .inl (gI γ, 24, .inl (fun _ => 0))), (q4, .inl (gI γ, 14, .inl (fun _ => 0))), (q5, .inl (gI γ, 14, .inl (fun _ => 0))), (q6, .inl (gI γ, 14, .inl (fun _ => 0)))] := hD
  rw [← ef26] at hP hD
  refine lv_iinc (v := 1) (lv' := [(1, .int 1), (0, .ref o)]) hx hb dX5_init_122 hl (k := 0) rfl (by decide) (by decide) rfl (fun ls hl => ?_)
  refine lv_goto (tgt := 107) hx hb dX5_init_125 (by decide) ?_
  refine lv_iload_n hx hb dX5_init_107 rfl (lv_at hl 0 rfl) ?_
  refine lv_iconst (v := 3) hx hb dX5_init_108 (by decide) ?_
  refine lv_icmp_ge (tgt := 128) hx hb dX5_init_109 (by decide) (fun c9 => absurd c9 (by decide)) (fun c9 => ?_)
  refine lv_aload_n hx hb dX5_init_112 rfl (lv_at hl 1 rfl) ?_
  refine k_get hC hP 0 1 dX5_init_113 rfl rfl inX5 (by decide) rfl u_5_155 ?_
  refine lv_bipush (v := 24) hx hb dX5_init_116 (by decide) ?_
  refine lv_iload_n hx hb dX5_init_118 rfl (lv_at hl 0 rfl) ?_
  refine lv_iadd hx hb dX5_init_119 ?_
  refine lv_topi (fun y9 e9 => ?_)
  obtain rfl : y9 = 25 := e9.trans (by decide)
  clear e9
  refine lv_iconst (v := 1) hx hb dX5_init_120 (by decide) ?_
  refine va_iast hx hb hC.k hP hD hS 1 0 rfl rfl (show ¬ ((25 : Int32) < 0 ∨ 1008 ≤ (25 : Int32).toNatClampNeg) by decide) dX5_init_121 (fun H locs hP hD hS => ?_)
  obtain ⟨f28, ef28⟩ : ∃ g, g = upd f26 25 1 := ⟨_, rfl⟩
  have hP : va_P γ.1 vwCl [(o, .inr (6, [.int 0, .ref q1, .int 0, .int 0, .ref q2, .int 0, .int 0, .int (-1), .int 0, .int 0, .int 0, .int 0, .ref q3, .int 0, .ref q4, .ref q5, .ref q6])), (q1, .inl (gI γ, 1008, .inl (upd f26 25 1))), (q2, .inl (gI γ, 40, .inl (fun _ => 0))), (q3, .inl (gI γ, 24, .inl (fun _ => 0))), (q4, .inl (gI γ, 14, .inl (fun _ => 0))), (q5, .inl (gI γ, 14, .inl (fun _ => 0))), (q6, .inl (gI γ, 14, .inl (fun _ => 0)))] H := hP
  have hD : va_D A [(o, .inr (6, [.int 0, .ref q1, .int 0, .int 0, .ref q2, .int 0, .int 0, .int (-1), .int 0, .int 0, .int 0, .int 0, .ref q3, .int 0, .ref q4, .ref q5, .ref q6])), (q1, .inl (gI γ, 1008, .inl (upd f26 25 1))), (q2, .inl (gI γ, 40, .inl (fun _ => 0))), (q3, .inl (gI γ, 24, .inl (fun _ => 0))), (q4, .inl (gI γ, 14, .inl (fun _ => 0))), (q5, .inl (gI γ, 14, .inl (fun _ => 0))), (q6, .inl (gI γ, 14, .inl (fun _ => 0)))] := hD
  rw [← ef28] at hP hD
  refine lv_iinc (v := 2) (lv' := [(1, .int 2), (0, .ref o)]) hx hb dX5_init_122 hl (k := 0) rfl (by decide) (by decide) rfl (fun ls hl => ?_)
  refine lv_goto (tgt := 107) hx hb dX5_init_125 (by decide) ?_
  refine lv_iload_n hx hb dX5_init_107 rfl (lv_at hl 0 rfl) ?_
  refine lv_iconst (v := 3) hx hb dX5_init_108 (by decide) ?_
  refine lv_icmp_ge (tgt := 128) hx hb dX5_init_109 (by decide) (fun c9 => absurd c9 (by decide)) (fun c9 => ?_)
  refine lv_aload_n hx hb dX5_init_112 rfl (lv_at hl 1 rfl) ?_
  refine k_get hC hP 0 1 dX5_init_113 rfl rfl inX5 (by decide) rfl u_5_155 ?_
  refine lv_bipush (v := 24) hx hb dX5_init_116 (by decide) ?_
  refine lv_iload_n hx hb dX5_init_118 rfl (lv_at hl 0 rfl) ?_
  refine lv_iadd hx hb dX5_init_119 ?_
  refine lv_topi (fun y9 e9 => ?_)
  obtain rfl : y9 = 26 := e9.trans (by decide)
  clear e9
  refine lv_iconst (v := 1) hx hb dX5_init_120 (by decide) ?_
  refine va_iast hx hb hC.k hP hD hS 1 0 rfl rfl (show ¬ ((26 : Int32) < 0 ∨ 1008 ≤ (26 : Int32).toNatClampNeg) by decide) dX5_init_121 (fun H locs hP hD hS => ?_)
  obtain ⟨f30, ef30⟩ : ∃ g, g = upd f28 26 1 := ⟨_, rfl⟩
  have hP : va_P γ.1 vwCl [(o, .inr (6, [.int 0, .ref q1, .int 0, .int 0, .ref q2, .int 0, .int 0, .int (-1), .int 0, .int 0, .int 0, .int 0, .ref q3, .int 0, .ref q4, .ref q5, .ref q6])), (q1, .inl (gI γ, 1008, .inl (upd f28 26 1))), (q2, .inl (gI γ, 40, .inl (fun _ => 0))), (q3, .inl (gI γ, 24, .inl (fun _ => 0))), (q4, .inl (gI γ, 14, .inl (fun _ => 0))), (q5, .inl (gI γ, 14, .inl (fun _ => 0))), (q6, .inl (gI γ, 14, .inl (fun _ => 0)))] H := hP
  have hD : va_D A [(o, .inr (6, [.int 0, .ref q1, .int 0, .int 0, .ref q2, .int 0, .int 0, .int (-1), .int 0, .int 0, .int 0, .int 0, .ref q3, .int 0, .ref q4, .ref q5, .ref q6])), (q1, .inl (gI γ, 1008, .inl (upd f28 26 1))), (q2, .inl (gI γ, 40, .inl (fun _ => 0))), (q3, .inl (gI γ, 24, .inl (fun _ => 0))), (q4, .inl (gI γ, 14, .inl (fun _ => 0))), (q5, .inl (gI γ, 14, .inl (fun _ => 0))), (q6, .inl (gI γ, 14, .inl (fun _ => 0)))] := hD
  rw [← ef30] at hP hD
  refine lv_iinc (v := 3) (lv' := [(1, .int 3), (0, .ref o)]) hx hb dX5_init_122 hl (k := 0) rfl (by decide) (by decide) rfl (fun ls hl => ?_)
  refine lv_goto (tgt := 107) hx hb dX5_init_125 (by decide) ?_
  refine lv_iload_n hx hb dX5_init_107 rfl (lv_at hl 0 rfl) ?_
  refine lv_iconst (v := 3) hx hb dX5_init_108 (by decide) ?_
  refine lv_icmp_ge (tgt := 128) hx hb dX5_init_109 (by decide) (fun c9 => ?_) (fun c9 => absurd (by decide) c9)
  refine k_vret hC (fun k => if k = 0 then o else if k = 1 then q1 else if k = 2 then q2 else if k = 3 then q3 else if k = 4 then q4 else if k = 5 then q5 else q6) rfl ?_ ?_ hS dX5_init_128
  all_goals (subst ef30 ef28 ef26 ef23 ef22 ef21 ef19 ef18 ef17 ef15 ef14 ef13 ef11 ef10 ef9 ef7 ef6 ef5 ef3 ef2 ef1)
  · exact hP
  · exact hD
