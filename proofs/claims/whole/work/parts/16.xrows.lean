/-! methods that may throw -/
/-- the library's two tables of digits -/
def dgOf (n : String) (j : Nat) : Int32 := nI (48 + (if n = "DigitOnes" then j % 10 else j / 10))
def gDg (n : String) (A : Nat → Prop) (U : State) (H : Heap) : Prop := ∃ t : Nat, va_Z "java/lang/Integer" n "[B" (.ref t) A U H ∧ va_T .byte t 100 (fun j => .int (dgOf n j)) A U H
theorem gDg.moved {n : String} {A : Nat → Prop} {u U : State} {H : Heap} (hvm : u.vm.Alike U.vm) (h : gDg n A u H) : gDg n A U H := by
  obtain ⟨t, h1, h2⟩ := h
  exact ⟨t, h1.moved hvm, h2.moved hvm⟩
theorem gDg.kept {n : String} {A : Nat → Prop} {U : State} {H H1 : Heap} (h : gDg n A U H) (hq : ∀ a : Nat, a < H.size → ¬ A a → H1[a]? = H[a]?) : gDg n A U H1 := by
  obtain ⟨t, h1, h2⟩ := h
  exact ⟨t, h1.kept hq, h2.kept hq⟩
theorem gDg.narrow {n : String} {A B : Nat → Prop} {U : State} {H : Heap} (h : gDg n A U H) (hAB : ∀ q, B q → A q) : gDg n B U H := by
  obtain ⟨t, h1, h2⟩ := h
  exact ⟨t, h1.narrow hAB, h2.narrow hAB⟩
/-- the builder's text calls two private methods of its superclass: no table has that word -/
def gSel (y : MethodName) (U : State) : Prop := va_Nw (.selects RJ4 y y) U
theorem gSel.moved {y : MethodName} (hy : y.cls ≠ "java/lang/invoke/MethodHandle" ∧ y.cls ≠ "java/lang/invoke/VarHandle") {u U : State} (hvm : u.vm.Alike U.vm) (h : gSel y u) : gSel y U := by
  obtain ⟨c, r, m, h1, h2, h3, h4, h5⟩ := Cond.selects_spec h
  exact va_tabs (A := #[]) rfl (rfl : (u.setVm U.vm).vm = U.vm) (by rw [Cond.selects_setVm hvm h3 hy]; exact h)
theorem gSel.of {args : Array Value} {s : State} {x y : MethodName} (hy : y.cls ≠ "java/lang/invoke/MethodHandle" ∧ y.cls ≠ "java/lang/invoke/VarHandle") (hxy : x.cls = y.cls) (hp : (Cond.privateMethod y).before args s = true) (hi : (Cond.instanceMethod y).before args s = true) (hs : (Cond.selects RJ4 x x).before args s = true) : gSel y s := by
  obtain ⟨c, r, m0, hc, hr, hm0, hsel0, k0, hk0, hni⟩ := Cond.selects_spec hs
  obtain ⟨mk, methM, hnamed, hmethM, -, -⟩ := Cond.instanceMethod_spec hi
  have hfound : s.methodFound? y.cls y.name y.desc = some mk := State.methodFound?_of_named hnamed hy
  have hcls : mk.cls = m0.cls := Option.some.inj ((findClass_of_methodNamed hnamed).symm.trans (by rw [← hxy]; exact findClass_of_methodNamed hm0))
  have hsel : selectMethod {} s.vm c mk = .method mk := selectMethod_private hmethM (Cond.privateMethod_at hp mk methM hnamed hmethM)
  have hk : s.vm.classes[mk.cls]? = some k0 := by rw [hcls]; exact hk0
  refine va_Nw.of (A := args) rfl ?_
  simp only [Cond.before, Cond.holds, Cond.value, hc, hfound, hnamed, hsel, hk]
  simp; exact hni
def gZs (A : Nat → Prop) (U : State) (H : Heap) : Prop := vx_Zq Bundle.tN "UNASSIGNED_STACK" Bundle.steD A U H ∧ vx_Zq Bundle.tN "SUPPRESSED_SENTINEL" Bundle.listD A U H ∧ va_Z "java/lang/String" "COMPACT_STRINGS" "Z" (.int 1) A U H ∧ gDg "DigitOnes" A U H ∧ gDg "DigitTens" A U H ∧ va_Zq "jdk/internal/util/Preconditions" "SIOOBE_FORMATTER" "Ljava/util/function/BiFunction;" A U H ∧ gSel yJ5_ensureCapacityInternal_d00df U ∧ gSel yJ5_newCapacity_0f7a4 U
theorem gZs.moved {A : Nat → Prop} {u U : State} {H : Heap} (hvm : u.vm.Alike U.vm) (h : gZs A u H) : gZs A U H := ⟨h.1.moved hvm, h.2.1.moved hvm, h.2.2.1.moved hvm, h.2.2.2.1.moved hvm, h.2.2.2.2.1.moved hvm, h.2.2.2.2.2.1.moved hvm, h.2.2.2.2.2.2.1.moved (by decide) hvm, h.2.2.2.2.2.2.2.moved (by decide) hvm⟩
theorem gZs.kept {A : Nat → Prop} {U : State} {H H1 : Heap} (h : gZs A U H) (hq : ∀ a : Nat, a < H.size → ¬ A a → H1[a]? = H[a]?) : gZs A U H1 := ⟨h.1.kept hq, h.2.1.kept hq, h.2.2.1.kept hq, h.2.2.2.1.kept hq, h.2.2.2.2.1.kept hq, h.2.2.2.2.2.1.kept hq, h.2.2.2.2.2.2⟩
theorem gZs.narrow {A B : Nat → Prop} {U : State} {H : Heap} (h : gZs A U H) (hAB : ∀ q, B q → A q) : gZs B U H := ⟨h.1.narrow hAB, h.2.1.narrow hAB, h.2.2.1.narrow hAB, h.2.2.2.1.narrow hAB, h.2.2.2.2.1.narrow hAB, h.2.2.2.2.2.1.narrow hAB, h.2.2.2.2.2.2⟩
def gPx (γ : GA) (av : List Value) (sz : Nat) (σ : GS) : Array Value → State → Prop := va_Pc av (fun U => gB γ sz σ U ∧ gZs (gA γ sz) U U.heap)
theorem gPx_blind {γ : GA} {av : List Value} {sz : Nat} {σ : GS} : FrameBlind (gPx γ av sz σ) := fun a U g mk h => ⟨h.1, ⟨h.2.1.1, h.2.1.2.1, h.2.1.2.2.1.same rfl, h.2.1.2.2.2⟩, gZs.moved (u := U) (U := U.calling g mk a) (Vm.Alike.refl U.vm) h.2.2⟩
def gQxi (γ : GA) (o : Nat ⊕ Int32) (sz : Nat) (σ : GS) : Array Value → State → Outcome → State → Prop := va_Qi (fun r' (_ : Unit) => o = .inr r') (fun _ t => va_P γ.1 vwCl (gw γ σ) t.heap) (gA γ sz)
def gQxv (γ : GA) (o : Nat ⊕ Unit) (sz : Nat) (σ : GS) : Array Value → State → Outcome → State → Prop := va_Qv (fun (_ : Unit) => o = .inr ()) (fun _ t => va_P γ.1 vwCl (gw γ σ) t.heap) (gA γ sz)
def gXC {α : Type} (γ : GA) (o : Nat ⊕ α) (sz : Nat) (σ : GS) : String → State → State → Prop := vx_X (fun k : Nat => o = .inl k) (fun E k t => E = exn k ∧ va_P γ.1 vwCl (gw γ σ) t.heap) (gA γ sz)
def xnm : List String := ["java/lang/RuntimeException", "java/lang/Exception"]
/-- what a throw of the k-th exception needs of the tables: its class's places ik, ic in the pool -/
def gXk (k ik ic : Nat) : Prop := Cond.classLink RX4 ik (exn k) ∈ UG ∧ Cond.initialized (exn k) ∈ UG ∧ (∀ w ∈ (vx_atS RX4 ic (exn k) xnm).filter goodWord, w ∈ lw_tbl) ∧ (∀ w ∈ (vx_atS RX4 ic (exn k) xnm).filter (fun w => !goodWord w), w ∈ Cond.castable (exn k) (exn k) :: gDecl.map Cond.declares) ∧ (∀ w ∈ Cond.classLink RX4 ik (exn k) :: Cond.initialized (exn k) :: vx_atS RX4 ic (exn k) xnm, vx_ot w = true) ∧ Bundle.fit (exn k) = true ∧ k < 5
theorem xnm_fit : ∀ n ∈ xnm, Bundle.fit n = true := by decide +kernel
/-- bind over what a callee answered -/
def bx {α κ : Type} (o : Nat ⊕ α) (f : Nat → κ) (g : α → κ) : κ := match o with
  | .inl k => f k
  | .inr v => g v
theorem bx_l {α κ : Type} {k : Nat} {f : Nat → κ} {g : α → κ} {r : κ} (h : bx (.inl k) f g = r) : f k = r := h
theorem bx_r {α κ : Type} {v : α} {f : Nat → κ} {g : α → κ} {r : κ} (h : bx (.inr v) f g = r) : g v = r := h
/-- no handlers, no stack traces, the two statics -/
def gXx (l : Launch) (s : State) (c : Code) (γ : GA) : Prop := gZs (gA γ s.heap.size) s s.heap ∧ (∀ x ∈ c.exceptionTable.toList, False) ∧ l.stackTraces = false
section GX
variable {p : Program} {l : Launch} {e : Env} {R : Room} {s : State} {m : MethodId} {args : Array Value} {below : List Frame} {meth : Method} {c : Code} {H : Heap} {locs : List Loc} {cells slots : Nat} {Q : State → Prop}
variable {pc : Nat} {ls : Array Slot} {rest st0 : List Value} {own : String} {cc : ByteArray} {nL : Nat} {yo : Cond} {reto : Option FieldType} {γ : GA} {σ σ' : GS}
theorem gX_at (hC : gCtx p s m args meth c own cc nL yo reto γ) {k ik ic : Nat} (hk : gXk k ik ic) : ∀ w ∈ vx_atS RX4 ic (exn k) xnm, w.before args s = true := by
  refine vx_hat (fun w hw => hC.w (List.mem_filter.mpr ⟨hk.2.2.1 w hw, (List.mem_filter.mp hw).2⟩)) hk.2.2.2.1 (fun w hw => ?_)
  rcases List.mem_cons.mp hw with rfl | hw
  · exact va_Nw.use rfl (hC.2.1.2.2.2.1 k hk.2.2.2.2.2.2)
  · obtain ⟨q, hq, rfl⟩ := List.mem_map.mp hw
    exact va_Nw.use rfl (hC.2.1.2.2.1 q hq)
theorem gX_C {α : Type} {o : Nat ⊕ α} (hP : va_P γ.1 vwCl (gw γ σ) H) (hS : va_S (gA γ s.heap.size) s.heap H locs) {k : Nat} (ho : o = .inl k) : ∀ t : State, s.vm.Alike t.vm → H.size ≤ t.heap.size → (∀ q : Nat, q < H.size → t.heap[q]? = H[q]?) → gXC γ o s.heap.size σ (exn k) s t := by
  intro t _ hz hq
  refine ⟨k, ho, ⟨rfl, hP.kept (fun i q hi => hq q.1 (hP i q hi).lt)⟩, Nat.le_trans hS.1 hz, fun q h1 h2 => ?_⟩
  rw [hq q (Nat.lt_of_lt_of_le h1 hS.1)]
  exact hS.2.1 q h1 h2
/-- throw new E("text") -/
theorem g_thr {α : Type} {o : Nat ⊕ α} {Qc : Array Value → State → Outcome → State → Prop} {mc ms : Nat} (hC : gCtx p s m args meth c RX4 cc nL yo reto γ) (hX : gXx l s c γ) (hP : va_P γ.1 vwCl (gw γ σ) H) (hS : va_S (gA γ s.heap.size) s.heap H locs) {k ik ic is : Nat} {text : String} (hk : gXk k ik ic) (ht : (is, text) ∈ gStr) (hsize : ls.size = nL)
    (d0 : decode cc pc = .ok (.new ik, 3)) (d3 : decode cc (pc + 3) = .ok (.dup, 1)) (d4 : decode cc (pc + 4) = .ok (.ldc is, 2)) (d6 : decode cc (pc + 6) = .ok (.invokespecial ic, 3)) (d9 : decode cc (pc + 9) = .ok (.athrow, 1))
    (hR1 : 5 < R.frames) (hR2 : (rest.map fun v => v.category).sum + 82 ≤ R.locals) (hR3 : cells + 1 ≤ R.cells) (hR4 : slots + 6 ≤ R.slots) (hc : cells + 1 ≤ mc) (hs : slots + 6 ≤ ms) (ho : o = .inl k) :
    W p l e R s m args below meth c H locs cells slots (vx_MQ below Qc (gXC γ o s.heap.size σ) args s mc ms (gA γ s.heap.size)) (F0 m pc ls rest) :=
  vx_throwS (names := xnm) hC.x hC.b hX.2.2 hC.o hk.2.2.2.2.2.1 xnm_fit (hC.w hk.1) (hC.w hk.2.1) (hC.2.1.2.2.2.2.2.1 _ ht) (gX_at hC hk) hk.2.2.2.2.1 hX.1.1 hX.1.2.1 hS (hsize.trans hC.1.2.2.1.symm) d0 d3 d4 d6 d9 (fun x hx => (hX.2.1 x hx).elim) hR1 hR2 hR3 hR4 hC.2.2.2.2 (gX_C hP hS ho) hS.2.2 hc hs
theorem g_thrW {α : Type} {o : Nat ⊕ α} {Qc : Array Value → State → Outcome → State → Prop} {mc ms : Nat} (hC : gCtx p s m args meth c RX4 cc nL yo reto γ) (hX : gXx l s c γ) (hP : va_P γ.1 vwCl (gw γ σ) H) (hS : va_S (gA γ s.heap.size) s.heap H locs) {k ik ic is : Nat} {text : String} (hk : gXk k ik ic) (ht : (is, text) ∈ gStr) (hsize : ls.size = nL)
    (d0 : decode cc pc = .ok (.new ik, 3)) (d3 : decode cc (pc + 3) = .ok (.dup, 1)) (d4 : decode cc (pc + 4) = .ok (.ldc_w is, 3)) (d7 : decode cc (pc + 7) = .ok (.invokespecial ic, 3)) (d10 : decode cc (pc + 10) = .ok (.athrow, 1))
    (hR1 : 5 < R.frames) (hR2 : (rest.map fun v => v.category).sum + 82 ≤ R.locals) (hR3 : cells + 1 ≤ R.cells) (hR4 : slots + 6 ≤ R.slots) (hc : cells + 1 ≤ mc) (hs : slots + 6 ≤ ms) (ho : o = .inl k) :
    W p l e R s m args below meth c H locs cells slots (vx_MQ below Qc (gXC γ o s.heap.size σ) args s mc ms (gA γ s.heap.size)) (F0 m pc ls rest) :=
  vx_throwSW (names := xnm) hC.x hC.b hX.2.2 hC.o hk.2.2.2.2.2.1 xnm_fit (hC.w hk.1) (hC.w hk.2.1) (hC.2.1.2.2.2.2.2.1 _ ht) (gX_at hC hk) hk.2.2.2.2.1 hX.1.1 hX.1.2.1 hS (hsize.trans hC.1.2.2.1.symm) d0 d3 d4 d7 d10 (fun x hx => (hX.2.1 x hx).elim) hR1 hR2 hR3 hR4 hC.2.2.2.2 (gX_C hP hS ho) hS.2.2 hc hs
theorem gPreX (hC : gCtx p s m args meth c own cc nL yo reto γ) (hX : gXx l s c γ) (hP : va_P γ.1 vwCl (gw γ σ) H) (hS : va_S (gA γ s.heap.size) s.heap H locs) {av : List Value} : ∀ U : State, U.heap = H → s.WarmedH U.vm → gPx γ av H.size σ av.toArray U := fun U hU hW => ⟨rfl, ⟨by rw [hU], by rw [hU]; exact hP, hC.2.1.warm hW, hC.2.2.1⟩, by
  rw [hU]
  exact gZs.moved hW.alike ((hX.1.kept hS.2.1).narrow (fun q h => gA_le hS.1 h))⟩
section CallX
variable {y : MethodName} {bytes : ByteArray} {maxL h h' mc ms mc' ms' n idx k : Nat} {ret : Option FieldType} {Qc : Array Value → State → Outcome → State → Prop} {XC : String → State → State → Prop} {free : Addr → Prop} {As : List Value}
theorem g_xrunV (hC : gCtx p s m args meth c own cc nL yo reto γ) (hX : gXx l s c γ) (hP : va_P γ.1 vwCl (gw γ σ) H) (hS : va_S (gA γ s.heap.size) s.heap H locs) {ci N : Nat} {fs : List Value} {Tt : u_T} (hM : vx_Met l y (gU y bytes maxL ret) (gR h mc ms) (gPx γ (.ref (ad γ k) :: As) H.size σ) Qc XC mc ms free) (hk : k < 143) (he : gcell γ σ k = .inr (ci, fs)) (hc : vwCl[ci]? = some (y.cls, Tt, N))
    (u1 : Cond.methodLink own idx y ∈ UG) (hy : gYV y bytes maxL ret n) (hh : h + 1 ≤ h')
    (hn : As.length = n) (hls : ls.size = nL) (hst : st0 = As.reverse ++ .ref (ad γ k) :: rest) (hW : (rest.map fun v => v.category).sum ≤ 8) (hdg : decode cc pc = .ok (.invokevirtual idx, 3)) (hf : cells + mc ≤ mc' ∧ slots + ms ≤ ms') :
    vx_Run p l e (gR h' mc' ms') s m args below meth c H locs cells slots mc ms (F0 m pc ls st0) rest (Qc (Value.ref (ad γ k) :: As).toArray) XC free :=
  vx_runV (C := y.cls) hC.1 hM ⟨gCB hC u1 hy.2.2.1 hy.2.2.2.1 hy.2.2.2.2.1 hh hy.2.2.2.2.2, hC.w hy.1, hC.w hy.2.1⟩ ⟨gPx_blind, va_recv hC.k hP (q0 := k) hc (by rw [gw_at hk, he]), gPreX hC hX hP hS⟩ rfl hn hls hst (lv_room hW) hdg hf
theorem g_xrunS (hC : gCtx p s m args meth c own cc nL yo reto γ) (hX : gXx l s c γ) (hP : va_P γ.1 vwCl (gw γ σ) H) (hS : va_S (gA γ s.heap.size) s.heap H locs) (hM : vx_Met l y (gU y bytes maxL ret) (gR h mc ms) (gPx γ As H.size σ) Qc XC mc ms free)
    (u1 : Cond.methodLink own idx y ∈ UG) (hy : gYS y bytes maxL ret n) (hh : h + 1 ≤ h')
    (hn : As.length = n) (hls : ls.size = nL) (hst : st0 = As.reverse ++ rest) (hW : (rest.map fun v => v.category).sum ≤ 8) (hdg : decode cc pc = .ok (.invokestatic idx, 3)) (hf : cells + mc ≤ mc' ∧ slots + ms ≤ ms') :
    vx_Run p l e (gR h' mc' ms') s m args below meth c H locs cells slots mc ms (F0 m pc ls st0) rest (Qc As.toArray) XC free :=
  vx_runS hC.1 hM ⟨gCB hC u1 hy.2.1 hy.2.2.1 hy.2.2.2.1 hh hy.2.2.2.2, hC.w hy.1⟩ ⟨gPx_blind, gPreX hC hX hP hS⟩ rfl hn hls hst (lv_room hW) hdg hf
end CallX
/-- the callee returned -/
theorem g_xki {a : Array Value} {r : Int32} {mc ms : Nat} (hr : vx_Run p l e R s m args below meth c H locs cells slots mc ms (F0 m pc ls st0) rest (gQxi γ (.inr r) H.size σ' a) (gXC γ (.inr r : Nat ⊕ Int32) H.size σ') (gA γ H.size)) (hS : va_S (gA γ s.heap.size) s.heap H locs)
    (kk : ∀ (H : Heap) (locs : List Loc), va_P γ.1 vwCl (gw γ σ') H → va_S (gA γ s.heap.size) s.heap H locs → W p l e R s m args below meth c H locs (cells + mc) (slots + ms) Q (F0 m (pc + 3) ls (.int r :: rest))) : W p l e R s m args below meth c H locs cells slots Q (F0 m pc ls st0) :=
  vx_calli hr hS (gA_step hS rfl).1 (gA_step hS rfl).2 (gA_step hS rfl).1 (fun E ce q9 u t H1 locs1 ht hvm hpx => nomatch hpx) (fun r' u t H1 locs1 ht hvm hw hB hz hk hS1 => by cases hw; subst ht; exact kk _ _ hB hS1)
theorem g_xkv {a : Array Value} {mc ms : Nat} (hr : vx_Run p l e R s m args below meth c H locs cells slots mc ms (F0 m pc ls st0) rest (gQxv γ (.inr ()) H.size σ' a) (gXC γ (.inr () : Nat ⊕ Unit) H.size σ') (gA γ H.size)) (hS : va_S (gA γ s.heap.size) s.heap H locs)
    (kk : ∀ (H : Heap) (locs : List Loc), va_P γ.1 vwCl (gw γ σ') H → va_S (gA γ s.heap.size) s.heap H locs → W p l e R s m args below meth c H locs (cells + mc) (slots + ms) Q (F0 m (pc + 3) ls rest)) : W p l e R s m args below meth c H locs cells slots Q (F0 m pc ls st0) :=
  vx_callv hr hS (gA_step hS rfl).1 (gA_step hS rfl).2 (gA_step hS rfl).1 (fun E ce q9 u t H1 locs1 ht hvm hpx => nomatch hpx) (fun u t H1 locs1 ht hvm hw hB hz hk hS1 => by subst ht; exact kk _ _ hB hS1)
/-- the callee threw: so does the caller -/
theorem g_out {α : Type} {o : Nat ⊕ α} {Qc : Array Value → State → Outcome → State → Prop} {mc ms k : Nat} {ce : Cell} {q : Addr} (hC : gCtx p s m args meth c own cc nL yo reto γ) (hX : gXx l s c γ) (hP : va_P γ.1 vwCl (gw γ σ) H) (hS : va_S (gA γ s.heap.size) s.heap H locs) (ho : o = .inl k) (hce : H[q]? = some ce) (hv : ce.vm = .none) (hcl : s.vm.findClass (exn k) = some ce.cls) (hc : cells ≤ mc) (hs : slots ≤ ms) :
    vx_W p l e R s m args below meth c H locs cells slots (vx_MQ below Qc (gXC γ o s.heap.size σ) args s mc ms (gA γ s.heap.size)) (F0 m pc ls rest) q :=
  vx_out (fun x hx => (hX.2.1 x hx).elim) hC.2.2.2.2 hce hv hcl (fun t ht hW => gX_C hP hS ho t hW (by rw [ht]; exact Nat.le_refl _) (fun q _ => by rw [ht])) hS.2.2 hc hs
theorem g_xkei {α : Type} {o : Nat ⊕ α} {Qc : Array Value → State → Outcome → State → Prop} {a : Array Value} {k mc ms mc' ms' : Nat} (hC : gCtx p s m args meth c own cc nL yo reto γ) (hX : gXx l s c γ) (hr : vx_Run p l e R s m args below meth c H locs cells slots mc ms (F0 m pc ls st0) rest (gQxi γ (.inl k) H.size σ' a) (gXC γ (.inl k : Nat ⊕ Int32) H.size σ') (gA γ H.size)) (hS : va_S (gA γ s.heap.size) s.heap H locs) (ho : o = .inl k) (hc : cells + mc ≤ mc') (hs : slots + ms ≤ ms') :
    W p l e R s m args below meth c H locs cells slots (vx_MQ below Qc (gXC γ o s.heap.size σ') args s mc' ms' (gA γ s.heap.size)) (F0 m pc ls st0) :=
  vx_calli hr hS (gA_step hS rfl).1 (gA_step hS rfl).2 (gA_step hS rfl).1 (fun E ce q9 u t H1 locs1 ht hvm hpx hB hz hk hS1 hce hv hcl => by cases hpx; obtain ⟨rfl, hB⟩ := hB; subst ht; exact g_out hC hX hB hS1 ho hce hv hcl hc hs) (fun r' u t H1 locs1 ht hvm hw => nomatch hw)
theorem g_xkev {α : Type} {o : Nat ⊕ α} {Qc : Array Value → State → Outcome → State → Prop} {a : Array Value} {k mc ms mc' ms' : Nat} (hC : gCtx p s m args meth c own cc nL yo reto γ) (hX : gXx l s c γ) (hr : vx_Run p l e R s m args below meth c H locs cells slots mc ms (F0 m pc ls st0) rest (gQxv γ (.inl k) H.size σ' a) (gXC γ (.inl k : Nat ⊕ Unit) H.size σ') (gA γ H.size)) (hS : va_S (gA γ s.heap.size) s.heap H locs) (ho : o = .inl k) (hc : cells + mc ≤ mc') (hs : slots + ms ≤ ms') :
    W p l e R s m args below meth c H locs cells slots (vx_MQ below Qc (gXC γ o s.heap.size σ') args s mc' ms' (gA γ s.heap.size)) (F0 m pc ls st0) :=
  vx_callv hr hS (gA_step hS rfl).1 (gA_step hS rfl).2 (gA_step hS rfl).1 (fun E ce q9 u t H1 locs1 ht hvm hpx hB hz hk hS1 hce hv hcl => by cases hpx; obtain ⟨rfl, hB⟩ := hB; subst ht; exact g_out hC hX hB hS1 ho hce hv hcl hc hs) (fun u t H1 locs1 ht hvm hw => nomatch hw)
theorem g_xiret {XC : String → State → State → Prop} {o : Nat ⊕ Int32} {v : Int32} (hC : gCtx p s m args meth c own cc nL yo (some .int) γ) (hP : va_P γ.1 vwCl (gw γ σ) H) (hS : va_S (gA γ s.heap.size) s.heap H locs) (hdg : decode cc pc = .ok (.ireturn, 1)) (hv : o = .inr v) : W p l e R s m args below meth c H locs cells slots (vx_MQ below (gQxi γ o s.heap.size σ) XC args s cells slots (gA γ s.heap.size)) (F0 m pc ls [.int v]) :=
  vx_ret (W.iret hC.x hC.b hC.2.2.2.1 (fun t ht hW => ⟨⟨v, (), rfl, hv, by subst ht; exact hP⟩, hS.F ht⟩) hS.2.2 hdg hC.2.2.2.2)
theorem g_xzret {XC : String → State → State → Prop} {o : Nat ⊕ Int32} {v v1 : Int32} (hC : gCtx p s m args meth c own cc nL yo (some .boolean) γ) (hP : va_P γ.1 vwCl (gw γ σ) H) (hS : va_S (gA γ s.heap.size) s.heap H locs) (hdg : decode cc pc = .ok (.ireturn, 1)) (hz : zz v = some v1) (hv : o = .inr v1) : W p l e R s m args below meth c H locs cells slots (vx_MQ below (gQxi γ o s.heap.size σ) XC args s cells slots (gA γ s.heap.size)) (F0 m pc ls [.int v]) := by
  obtain ⟨h1, h2⟩ := zz_in hz
  subst h1
  exact vx_ret (W.zret hC.x hC.b hC.2.2.2.1 h2 (fun t ht hW => ⟨⟨v1, (), rfl, hv, by subst ht; exact hP⟩, hS.F ht⟩) hS.2.2 hdg hC.2.2.2.2)
theorem g_xvret {XC : String → State → State → Prop} {o : Nat ⊕ Unit} (hC : gCtx p s m args meth c own cc nL yo none γ) (hP : va_P γ.1 vwCl (gw γ σ) H) (hS : va_S (gA γ s.heap.size) s.heap H locs) (hdg : decode cc pc = .ok (.return_, 1)) (hv : o = .inr ()) : W p l e R s m args below meth c H locs cells slots (vx_MQ below (gQxv γ o s.heap.size σ) XC args s cells slots (gA γ s.heap.size)) (F0 m pc ls []) :=
  vx_ret (W.vret hC.x hC.b hC.2.2.2.1 (fun t ht hW => ⟨⟨(), rfl, hv, by subst ht; exact hP⟩, hS.F ht⟩) hS.2.2 hdg hC.2.2.2.2)
end GX
/-- a body that may throw: its method's contract -/
theorem g_metx {l : Launch} (hst : l.stackTraces = false) {y : MethodName} {bytes : ByteArray} {maxL h mc ms sz : Nat} {ret : Option FieldType} {γ : GA} {av : List Value} {σ : GS} (Qc : Nat → Array Value → State → Outcome → State → Prop) (XC : Nat → String → State → State → Prop) (hy : plainName y.cls = true) (hn : (lg_sl av).length ≤ maxL)
    (body : ∀ (p : Program) (e : Env) (s : State) (m : MethodId) (args : Array Value) (below : List Frame) (meth : Method) (c : Code) (ls : Array Slot), gCtx p s m args meth c y.cls bytes maxL (Cond.code y bytes maxL ret) ret γ → gXx l s c γ → va_P γ.1 vwCl (gw γ σ) s.heap → va_S (gA γ s.heap.size) s.heap s.heap [] → lv_has ls maxL (lv_args 0 av) →
      W p l e (gR h mc ms) s m args below meth c s.heap [] 0 0 (vx_MQ below (Qc s.heap.size) (XC s.heap.size) args s mc ms (gA γ s.heap.size)) (F0 m 0 ls [])) : vx_Met l y (gU y bytes maxL ret) (gR h mc ms) (gPx γ av sz σ) (Qc sz) (XC sz) mc ms (gA γ sz) := by
  refine vx_ofW (cc := bytes) (maxL := maxL) (ret := ret) hy rfl ?_
  intro p e s m args below meth c s₁ B hml hno hv
  obtain ⟨rfl, ⟨hsz, hP, hE, hj⟩, hZ⟩ := hv
  subst hsz
  rw [lg_entry_eq]
  exact body p e s m _ below meth c _ ⟨⟨B.exec, B.bytes, hml, findClass_of_methodNamed B.named, atoms_spec (ws := gU y bytes maxL ret) B.pre⟩, hE, hj, B.returns, B.notSynchronized⟩ ⟨hZ, hno, hst⟩ hP va_S.rf (lv_entry av hn)
set_option maxRecDepth 100000 in
theorem gx_0 : gXk 0 317 319 := ⟨u_2_136, u_1_11, by decide +kernel, by decide +kernel, by decide +kernel, by decide +kernel, by decide⟩
set_option maxRecDepth 100000 in
theorem gx_1 : gXk 1 77 81 := ⟨u_2_209, u_1_12, by decide +kernel, by decide +kernel, by decide +kernel, by decide +kernel, by decide⟩
set_option maxRecDepth 100000 in
theorem gx_2 : gXk 2 87 91 := ⟨u_3_38, u_1_17, by decide +kernel, by decide +kernel, by decide +kernel, by decide +kernel, by decide⟩
set_option maxRecDepth 100000 in
theorem gx_3 : gXk 3 171 175 := ⟨u_4_97, u_1_25, by decide +kernel, by decide +kernel, by decide +kernel, by decide +kernel, by decide⟩
/-- a static method with handlers, that itself throws nothing -/
def gUW (y : MethodName) (b : ByteArray) (n : Nat) (ret : Option FieldType) (hh : List (Nat × Nat × Nat × Nat)) : List Cond := .codeWith y b n ret hh :: UG
theorem g_metw {l : Launch} {y : MethodName} {bytes : ByteArray} {maxL h mc ms sz : Nat} {ret : Option FieldType} {hh : List (Nat × Nat × Nat × Nat)} {γ : GA} {av : List Value} {σ : GS} (Qc : Nat → Array Value → State → Outcome → State → Prop) (XC : Nat → String → State → State → Prop) (hy : plainName y.cls = true) (hn : (lg_sl av).length ≤ maxL)
    (body : ∀ (p : Program) (e : Env) (s : State) (m : MethodId) (args : Array Value) (below : List Frame) (meth : Method) (c : Code) (ls : Array Slot), gCtx p s m args meth c y.cls bytes maxL (Cond.codeWith y bytes maxL ret hh) ret γ → gZs (gA γ s.heap.size) s s.heap → c.exceptionTable.toList = tableOf hh → va_P γ.1 vwCl (gw γ σ) s.heap → va_S (gA γ s.heap.size) s.heap s.heap [] → lv_has ls maxL (lv_args 0 av) →
      W p l e (gR h mc ms) s m args below meth c s.heap [] 0 0 (vx_MQ below (Qc s.heap.size) (XC s.heap.size) args s mc ms (gA γ s.heap.size)) (F0 m 0 ls [])) : vx_Met l y (gUW y bytes maxL ret hh) (gR h mc ms) (gPx γ av sz σ) (Qc sz) (XC sz) mc ms (gA γ sz) := by
  refine vx_ofWH (cc := bytes) (maxL := maxL) (ret := ret) (hh := hh) hy rfl ?_
  intro p e s m args below meth c s₁ B hml hv
  obtain ⟨rfl, ⟨hsz, hP, hE, hj⟩, hZ⟩ := hv
  subst hsz
  rw [lg_entry_eq]
  have hts := atoms_spec (ws := gUW y bytes maxL ret hh) B.pre
  exact body p e s m _ below meth c _ ⟨⟨B.exec, B.bytes, hml, findClass_of_methodNamed B.named, hts⟩, hE, hj, B.returns, B.notSynchronized⟩ hZ (vx_table (x := y) B (hts _ List.mem_cons_self)) hP va_S.rf (lv_entry av hn)
section GW2
variable {p : Program} {l : Launch} {e : Env} {R : Room} {s : State} {m : MethodId} {args : Array Value} {below : List Frame} {meth : Method} {c : Code} {H : Heap} {locs : List Loc} {cells slots : Nat} {Q : State → Prop}
variable {pc : Nat} {ls : Array Slot} {rest st0 : List Value} {own : String} {cc : ByteArray} {nL : Nat} {yo : Cond} {reto : Option FieldType} {γ : GA} {σ σ' : GS}
variable {y : MethodName} {bytes : ByteArray} {maxL h h' mc ms mc' ms' n idx k : Nat} {ret : Option FieldType} {Qc : Array Value → State → Outcome → State → Prop} {XC : String → State → State → Prop} {free : Addr → Prop} {As : List Value}
theorem gPreZ (hC : gCtx p s m args meth c own cc nL yo reto γ) (hZ : gZs (gA γ s.heap.size) s s.heap) (hP : va_P γ.1 vwCl (gw γ σ) H) (hS : va_S (gA γ s.heap.size) s.heap H locs) {av : List Value} : ∀ U : State, U.heap = H → s.WarmedH U.vm → gPx γ av H.size σ av.toArray U := fun U hU hW => ⟨rfl, ⟨by rw [hU], by rw [hU]; exact hP, hC.2.1.warm hW, hC.2.2.1⟩, by
  rw [hU]
  exact gZs.moved hW.alike ((hZ.kept hS.2.1).narrow (fun q h => gA_le hS.1 h))⟩
theorem g_wrunV (hC : gCtx p s m args meth c own cc nL yo reto γ) (hZ : gZs (gA γ s.heap.size) s s.heap) (hP : va_P γ.1 vwCl (gw γ σ) H) (hS : va_S (gA γ s.heap.size) s.heap H locs) {ci N : Nat} {fs : List Value} {Tt : u_T} (hM : vx_Met l y (gU y bytes maxL ret) (gR h mc ms) (gPx γ (.ref (ad γ k) :: As) H.size σ) Qc XC mc ms free) (hk : k < 143) (he : gcell γ σ k = .inr (ci, fs)) (hc : vwCl[ci]? = some (y.cls, Tt, N))
    (u1 : Cond.methodLink own idx y ∈ UG) (hy : gYV y bytes maxL ret n) (hh : h + 1 ≤ h')
    (hn : As.length = n) (hls : ls.size = nL) (hst : st0 = As.reverse ++ .ref (ad γ k) :: rest) (hW : (rest.map fun v => v.category).sum ≤ 8) (hdg : decode cc pc = .ok (.invokevirtual idx, 3)) (hf : cells + mc ≤ mc' ∧ slots + ms ≤ ms') :
    vx_Run p l e (gR h' mc' ms') s m args below meth c H locs cells slots mc ms (F0 m pc ls st0) rest (Qc (Value.ref (ad γ k) :: As).toArray) XC free :=
  vx_runV (C := y.cls) hC.1 hM ⟨gCB hC u1 hy.2.2.1 hy.2.2.2.1 hy.2.2.2.2.1 hh hy.2.2.2.2.2, hC.w hy.1, hC.w hy.2.1⟩ ⟨gPx_blind, va_recv hC.k hP (q0 := k) hc (by rw [gw_at hk, he]), gPreZ hC hZ hP hS⟩ rfl hn hls hst (lv_room hW) hdg hf
theorem g_wki {a : Array Value} {j : Nat} {mc ms : Nat} (hr : vx_Run p l e R s m args below meth c H locs cells slots mc ms (F0 m pc ls st0) rest (gQxi γ (.inl j) H.size σ' a) (gXC γ (.inl j : Nat ⊕ Int32) H.size σ') (gA γ H.size)) (hS : va_S (gA γ s.heap.size) s.heap H locs)
    (kk : ∀ (H : Heap) (locs : List Loc) (ce : Cell) (q : Addr), va_P γ.1 vwCl (gw γ σ') H → va_S (gA γ s.heap.size) s.heap H locs → H[q]? = some ce → ce.vm = .none → s.vm.findClass (exn j) = some ce.cls → vx_W p l e R s m args below meth c H locs (cells + mc) (slots + ms) Q (F0 m pc ls rest) q) : W p l e R s m args below meth c H locs cells slots Q (F0 m pc ls st0) :=
  vx_calli hr hS (gA_step hS rfl).1 (gA_step hS rfl).2 (gA_step hS rfl).1 (fun E ce q9 u t H1 locs1 ht hvm hpx hB hz hk hS1 hce hv hcl => by cases hpx; obtain ⟨rfl, hB⟩ := hB; subst ht; exact kk _ _ ce q9 hB hS1 hce hv hcl) (fun r' u t H1 locs1 ht hvm hw => nomatch hw)
theorem g_lst (hC : gCtx p s m args meth c own cc nL yo reto γ) {T P X Y B M : OS} {E : Nat → OS} {O : Nat → Int64} (hP : va_P γ.1 vwCl (gw γ (T, P, X, Y, E, B, M, O)) H) (hS : va_S (gA γ s.heap.size) s.heap H locs) {x : Int64} (hdg : decode cc pc = .ok (.lastore, 1))
    (kk : ∀ (H : Heap) (locs : List Loc), va_P γ.1 vwCl (gw γ (T, P, X, Y, E, B, M, vp_updL O 0 x)) H → va_S (gA γ s.heap.size) s.heap H locs → W p l e R s m args below meth c H locs cells slots Q (F0 m (pc + 1) ls rest)) : W p l e R s m args below meth c H locs cells slots Q (F0 m pc ls (.long x :: .int 0 :: .ref (ad γ 30) :: rest)) :=
  va_last hC.x hC.b hC.k hP (gS_D hC) hS 30 3 (by rw [gw_at (by decide), ge_30]) rfl (show ¬ ((0 : Int32) < 0 ∨ 1 ≤ (0 : Int32).toNatClampNeg) by decide) hdg (fun H1 locs1 hP1 _ hS1 => kk H1 locs1 (by rw [show ((0 : Int32).toNatClampNeg) = 0 from rfl, gw_O] at hP1; exact hP1) hS1)
end GW2
/-- the law's own calls: its room is the claim's -/
def gYW (y : MethodName) (b : ByteArray) (n : Nat) (ret : Option FieldType) (hh : List (Nat × Nat × Nat × Nat)) (k : Nat) : Prop := Cond.static y ∈ UG ∧ Cond.initialized y.cls ∈ UG ∧ Cond.codeWith y b n ret hh ∈ UG ∧ (y.cls ≠ "java/lang/invoke/MethodHandle" ∧ y.cls ≠ "java/lang/invoke/VarHandle" ∧ (parseMethodDescriptor y.desc).map (fun d => d.parameters.length) = some k) ∧ n ≤ 41
section GLW
variable {p : Program} {l : Launch} {e : Env} {R : Room} {s : State} {m : MethodId} {args : Array Value} {below : List Frame} {meth : Method} {c : Code} {H : Heap} {locs : List Loc} {cells slots : Nat} {Q : State → Prop}
variable {pc : Nat} {ls : Array Slot} {rest st0 : List Value} {own : String} {cc : ByteArray} {nL : Nat} {yo : Cond} {reto : Option FieldType} {γ : GA} {σ σ' : GS}
variable {y : MethodName} {bytes : ByteArray} {maxL h mc ms n idx k : Nat} {ret : Option FieldType} {hh : List (Nat × Nat × Nat × Nat)} {Qc : Array Value → State → Outcome → State → Prop} {XC : String → State → State → Prop} {free : Addr → Prop} {As : List Value}
theorem g_lW (hC : gCtx p s m args meth c own cc nL yo reto γ) (hZ : gZs (gA γ s.heap.size) s s.heap) (hP : va_P γ.1 vwCl (gw γ σ) H) (hS : va_S (gA γ s.heap.size) s.heap H locs) (hM : vx_Met l y (gUW y bytes maxL ret hh) (gR h mc ms) (gPx γ As H.size σ) Qc XC mc ms free)
    (u1 : Cond.methodLink own idx y ∈ UG) (hy : gYW y bytes maxL ret hh n) (hR : h + 1 ≤ R.frames ∧ 60 + 60 * h ≤ R.locals)
    (hn : As.length = n) (hls : ls.size = nL) (hst : st0 = As.reverse ++ rest) (hW : (rest.map fun v => v.category).sum ≤ 8) (hdg : decode cc pc = .ok (.invokestatic idx, 3)) (hf : cells + mc ≤ R.cells ∧ slots + ms ≤ R.slots) :
    vx_Run p l e R s m args below meth c H locs cells slots mc ms (F0 m pc ls st0) rest (Qc As.toArray) XC free := by
  have hG : GoodIn (yo :: UG) (va_wsS own idx y (gUW y bytes maxL ret hh)) := by
    intro w hw
    have hU : w ∈ UG := by
      rcases List.mem_append.mp hw with hw | hw
      · rcases List.mem_cons.mp hw with rfl | hw
        · exact u1
        · rcases List.mem_cons.mp hw with rfl | hw
          · exact hy.1
          · rcases List.mem_cons.mp hw with rfl | hw
            · exact hy.2.1
            · cases hw
      · rcases List.mem_cons.mp hw with rfl | hw
        · exact hy.2.2.1
        · exact hw
    exact ⟨List.mem_cons_of_mem _ hU, good_of_word (UG_good hU)⟩
  exact vx_runSX hC.1 hM (vx_cwSW n hC.1.2.2.2.2 hG rfl rfl rfl hy.2.2.2.1 ⟨hR.1, by show 8 + (maxL + 11) + 60 * h ≤ _; have := hy.2.2.2.2; omega⟩) ⟨gPx_blind, gPreZ hC hZ hP hS⟩ rfl hn hls hst (lv_room hW) hdg hf
theorem g_lV (hC : gCtx p s m args meth c own cc nL yo reto γ) (hP : va_P γ.1 vwCl (gw γ σ) H) {ci N : Nat} {fs : List Value} {Tt : u_T} (hM : Met l y (gU y bytes maxL ret) (gR h mc ms) (gPc γ (.ref (ad γ k) :: As) H.size σ) Qc mc ms free) (hk : k < 143) (he : gcell γ σ k = .inr (ci, fs)) (hc : vwCl[ci]? = some (y.cls, Tt, N))
    (u1 : Cond.methodLink own idx y ∈ UG) (hy : gYV y bytes maxL ret n) (hR : h + 1 ≤ R.frames ∧ 60 + 60 * h ≤ R.locals)
    (hn : As.length = n) (hls : ls.size = nL) (hst : st0 = As.reverse ++ .ref (ad γ k) :: rest) (hW : (rest.map fun v => v.category).sum ≤ 8) (hdg : decode cc pc = .ok (.invokevirtual idx, 3)) (hf : cells + mc ≤ R.cells ∧ slots + ms ≤ R.slots) :
    va_Run p l e R s m args below meth c H locs cells slots mc ms (F0 m pc ls st0) rest (Qc (Value.ref (ad γ k) :: As).toArray) free :=
  va_runV (C := y.cls) hC.1 hM ⟨callB_of n hC.1.2.2.2.2 (gGood hy.2.2.2.1) rfl rfl rfl (hC.w hy.2.2.1) (hC.w u1) hy.2.2.2.2.1 ⟨hR.1, by show 8 + (maxL + 11) + 60 * h ≤ _; have := hy.2.2.2.2.2; omega⟩, hC.w hy.1, hC.w hy.2.1⟩ ⟨gPc_blind, va_recv hC.k hP (q0 := k) hc (by rw [gw_at hk, he]), gPre hC hP⟩ rfl hn hls hst (lv_room hW) hdg hf
end GLW
/-- the same for NoSuchElementException -/
def nxL : List Cond := (nxAtoms RX4 199 (exn 4) xnm).filter vx_no
set_option maxRecDepth 100000 in
theorem nx_1 : ∀ w ∈ nxL.filter goodWord, w ∈ lw_tbl := by decide +kernel
theorem nx_2 : ∀ w ∈ nxL.filter (fun w => !goodWord w), w ∈ Cond.castable (exn 4) (exn 4) :: gDecl.map Cond.declares := by decide +kernel
theorem nx_3 : ∀ w ∈ Cond.classLink RX4 195 (exn 4) :: Cond.initialized (exn 4) :: nxL, vx_ot w = true := by decide +kernel
theorem nx_4 : Cond.classLink RX4 195 (exn 4) ∈ UG := u_4_163
theorem nx_5 : Cond.initialized (exn 4) ∈ UG := u_1_26
theorem nx_6 : Bundle.fit (exn 4) = true := by decide +kernel
section GXN
variable {p : Program} {l : Launch} {e : Env} {R : Room} {s : State} {m : MethodId} {args : Array Value} {below : List Frame} {meth : Method} {c : Code} {H : Heap} {locs : List Loc} {cells slots : Nat} {Q : State → Prop}
variable {pc : Nat} {ls : Array Slot} {rest st0 : List Value} {own : String} {cc : ByteArray} {nL : Nat} {yo : Cond} {reto : Option FieldType} {γ : GA} {σ σ' : GS}
theorem g_thrN {α : Type} {o : Nat ⊕ α} {Qc : Array Value → State → Outcome → State → Prop} {mc ms : Nat} (hC : gCtx p s m args meth c RX4 cc nL yo reto γ) (hX : gXx l s c γ) (hP : va_P γ.1 vwCl (gw γ σ) H) (hS : va_S (gA γ s.heap.size) s.heap H locs) {is : Nat} {text : String} (ht : (is, text) ∈ gStr) (hsize : ls.size = nL)
    (d0 : decode cc pc = .ok (.new 195, 3)) (d3 : decode cc (pc + 3) = .ok (.dup, 1)) (d4 : decode cc (pc + 4) = .ok (.ldc is, 2)) (d6 : decode cc (pc + 6) = .ok (.invokespecial 199, 3)) (d9 : decode cc (pc + 9) = .ok (.athrow, 1))
    (hR1 : 5 < R.frames) (hR2 : (rest.map fun v => v.category).sum + 82 ≤ R.locals) (hR3 : cells + 1 ≤ R.cells) (hR4 : slots + 6 ≤ R.slots) (hc : cells + 1 ≤ mc) (hs : slots + 6 ≤ ms) (ho : o = .inl 4) :
    W p l e R s m args below meth c H locs cells slots (vx_MQ below Qc (gXC γ o s.heap.size σ) args s mc ms (gA γ s.heap.size)) (F0 m pc ls rest) := by
  have hat : ∀ w ∈ nxL, w.before args s = true := by
    refine vx_hat (fun w hw => hC.w (List.mem_filter.mpr ⟨nx_1 w hw, (List.mem_filter.mp hw).2⟩)) nx_2 (fun w hw => ?_)
    rcases List.mem_cons.mp hw with rfl | hw
    · exact va_Nw.use rfl (hC.2.1.2.2.2.1 4 (by decide))
    · obtain ⟨q, hq, rfl⟩ := List.mem_map.mp hw
      exact va_Nw.use rfl (hC.2.1.2.2.1 q hq)
  refine nx_makeS (names := xnm) (ci := 7) (own := RX4) (T0 := TNo) (cls := exn 4) hC.x hC.b hX.2.2 hC.o nx_6 xnm_fit (hC.w nx_4) (hC.w nx_5) (hC.2.1.2.2.2.2.2.1 _ ht) hat nx_3 hX.1.1 hX.1.2.1 hS (hsize.trans hC.1.2.2.1.symm) d0 d3 d4 d6 hC.k hP (gS_D hC) (fun q hq => Or.inr hq) rfl hR1 hR2 hR3 hR4 (fun q H1 hP1 hD1 hS1 => ?_)
  have hPw : va_P γ.1 vwCl (gw γ σ) H1 := fun k q9 hk => hP1 k q9 (by rw [List.getElem?_append_left (List.getElem?_eq_some_iff.mp hk).1]; exact hk)
  have h143 : (gw γ σ ++ [(q, (.inr (7, []) : va_E))])[143]? = some (q, .inr (7, [])) := by simp [gw]
  obtain ⟨cell, g1, g2, g3⟩ := va_recv (q := (exn 4, TNo, 0)) hC.k hP1 rfl h143
  obtain ⟨q', h1, cell', f1, f2, f3, -⟩ := hP1 143 _ h143
  cases Option.some.inj (g1.symm.trans f1)
  refine nx_athrow hC.x hC.b d9 ?_
  exact g_out hC hX hPw hS1 ho g1 f3 g3 hc hs
end GXN
