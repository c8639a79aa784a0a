/-! text that is built: the rows of its methods' contracts -/
def jPc (γ : GA) (av : List Value) (sz : Nat) (ws : va_W) : Array Value → State → Prop := va_Pc av (fun U => U.heap.size = sz ∧ va_P γ.1 vwCl ws U.heap ∧ gE γ U ∧ gInj γ ∧ va_D (fun _ => True) ws ∧ gZs (va_A ws sz) U U.heap)
theorem jPc_blind {γ : GA} {av : List Value} {sz : Nat} {ws : va_W} : FrameBlind (jPc γ av sz ws) := fun a U g mk h => ⟨h.1, h.2.1, h.2.2.1, h.2.2.2.1.same rfl, h.2.2.2.2.1, h.2.2.2.2.2.1, gZs.moved (u := U) (U := U.calling g mk a) (Vm.Alike.refl U.vm) h.2.2.2.2.2.2⟩
def jQi (γ : GA) {S : Type} (A : Nat → Prop) (post : Int32 → S → Prop) (wf : S → va_W) : Array Value → State → Outcome → State → Prop := va_Qi post (fun u t => va_P γ.1 vwCl (wf u) t.heap ∧ va_D A (wf u)) A
def jQv (γ : GA) {S : Type} (A : Nat → Prop) (post : S → Prop) (wf : S → va_W) : Array Value → State → Outcome → State → Prop := va_Qv post (fun u t => va_P γ.1 vwCl (wf u) t.heap ∧ va_D A (wf u)) A
def jQr (γ : GA) {S : Type} (A : Nat → Prop) (post : S → Prop) (ra : S → Nat → Prop) (wf : S → Nat → va_W) : Array Value → State → Outcome → State → Prop := va_Qr post (fun u a t => ra u a ∧ va_P γ.1 vwCl (wf u a) t.heap ∧ va_D A (wf u a)) A
/-- one number, the world as said -/
def jK (γ : GA) (A : Nat → Prop) (r : Int32) (wb : va_W) : Array Value → State → Outcome → State → Prop := jQi γ A (fun r' (_ : Unit) => r' = r) (fun _ => wb)
/-- nothing, the world as said -/
def jV (γ : GA) (A : Nat → Prop) (wb : va_W) : Array Value → State → Outcome → State → Prop := jQv γ A (fun (_ : Unit) => True) (fun _ => wb)
theorem j_R {D : va_G} {cl : List vw_C} {ws wb : va_W} {H : Heap} (hP : va_P D cl (ws ++ wb) H) : va_P D cl wb H := fun k r hk => hP (ws.length + k) r (by rw [List.getElem?_append_right (Nat.le_add_right _ _), Nat.add_sub_cancel_left]; exact hk)
theorem j_L {D : va_G} {cl : List vw_C} {ws wb : va_W} {H : Heap} (hP : va_P D cl (ws ++ wb) H) : va_P D cl ws H := fun k r hk => hP k r (by rw [List.getElem?_append_left (List.getElem?_eq_some_iff.mp hk).1]; exact hk)
theorem j_DR {A : Nat → Prop} {ws wb : va_W} (hD : va_D A (ws ++ wb)) : va_D (fun _ => True) wb := by
  have h : ∀ (k : Nat) (r : Nat × va_E), wb[k]? = some r → (ws ++ wb)[ws.length + k]? = some r := fun k r hk => by rw [List.getElem?_append_right (Nat.le_add_right _ _), Nat.add_sub_cancel_left]; exact hk
  refine ⟨fun i j p q hi hj hpq => ?_, fun _ _ _ => trivial⟩
  have := hD.1 _ _ p q (h i p hi) (h j q hj) hpq
  omega
theorem j_join {D : va_G} {cl : List vw_C} {A : Nat → Prop} {ws wb wa : va_W} {H H1 : Heap} (hP : va_P D cl (ws ++ wb) H) (hD : va_D A (ws ++ wb)) (hA : ∀ x, va_A wb H.size x → A x) (hk : ∀ x, x < H.size → ¬ va_A wb H.size x → H1[x]? = H[x]?) (hP1 : va_P D cl wa H1) (hD1 : va_D (va_A wb H.size) wa) : va_P D cl (ws ++ wa) H1 ∧ va_D A (ws ++ wa) := by
  have hw : ∀ (i : Nat) (p : Nat × va_E), ws[i]? = some p → (ws ++ wb)[i]? = some p ∧ ¬ va_A wb H.size p.1 ∧ p.1 < H.size := by
    intro i p hi
    have hl : i < ws.length := (List.getElem?_eq_some_iff.mp hi).1
    have h1 : (ws ++ wb)[i]? = some p := by rw [List.getElem?_append_left hl]; exact hi
    have h2 : p.1 < H.size := (hP i p h1).lt
    refine ⟨h1, fun h => ?_, h2⟩
    rcases h with ⟨k, e, hk⟩ | h
    · have h3 : (ws ++ wb)[ws.length + k]? = some (p.1, e) := by rw [List.getElem?_append_right (Nat.le_add_right _ _), Nat.add_sub_cancel_left]; exact hk
      have := hD.1 i (ws.length + k) p (p.1, e) h1 h3 rfl
      omega
    · omega
  refine ⟨va_P.app (fun i p hi => ?_) hP1, va_D.app ⟨fun i j p r hi hj h => hD.1 i j p r (hw i p hi).1 (hw j r hj).1 h, fun i p hi => hD.2 i p (hw i p hi).1⟩ (hD1.weaken fun k r _ h => hA r.1 h) (fun i j p r hi hj h => ?_)⟩
  · obtain ⟨h1, h2, h3⟩ := hw i p hi
    exact (hP i p h1).kept (hk p.1 h3 h2)
  · exact (hw i p hi).2.1 (by rw [h]; exact hD1.2 j r hj)
section JR
variable {p : Program} {l : Launch} {e : Env} {R : Room} {s : State} {m : MethodId} {args : Array Value} {below : List Frame} {meth : Method} {c : Code} {H : Heap} {locs : List Loc} {cells slots : Nat} {Q : State → Prop}
variable {pc : Nat} {ls : Array Slot} {rest st0 : List Value} {own : String} {cc : ByteArray} {nL : Nat} {yo : Cond} {reto : Option FieldType} {γ : GA} {A : Nat → Prop} {ws wb : va_W}
theorem j_free (hD : va_D A (ws ++ wb)) (hS : va_S A s.heap H locs) (hA : ∀ x, s.heap.size ≤ x → A x) : ∀ x, va_A wb H.size x → A x := by
  intro x hx
  rcases hx with ⟨k, e, hk⟩ | hx
  · exact hD.2 (ws.length + k) (x, e) (by rw [List.getElem?_append_right (Nat.le_add_right _ _), Nat.add_sub_cancel_left]; exact hk)
  · exact hA x (Nat.le_trans hS.1 hx)
theorem j_pre (hC : gCtx p s m args meth c own cc nL yo reto γ) (hZ : gZs A s s.heap) (hA : ∀ x, s.heap.size ≤ x → A x) (hP : va_P γ.1 vwCl (ws ++ wb) H) (hD : va_D A (ws ++ wb)) (hS : va_S A s.heap H locs) {av : List Value} : ∀ U : State, U.heap = H → s.WarmedH U.vm → jPc γ av H.size wb av.toArray U := fun U hU hW => ⟨rfl, by rw [hU], by rw [hU]; exact j_R hP, hC.2.1.warm hW, hC.2.2.1, j_DR hD, by
  rw [hU]
  exact gZs.moved hW.alike ((hZ.kept hS.2.1).narrow (j_free hD hS hA))⟩
theorem j_goi {S : Type} {post : Int32 → S → Prop} {wf : S → va_W} {a : Array Value} {mc ms : Nat} (hr : va_Run p l e R s m args below meth c H locs cells slots mc ms (F0 m pc ls st0) rest (jQi γ (va_A wb H.size) post wf a) (va_A wb H.size)) (hP : va_P γ.1 vwCl (ws ++ wb) H) (hD : va_D A (ws ++ wb)) (hS : va_S A s.heap H locs) (hA : ∀ x, s.heap.size ≤ x → A x)
    (kk : ∀ (r : Int32) (u : S) (H : Heap) (locs : List Loc), post r u → va_P γ.1 vwCl (ws ++ wf u) H → va_D A (ws ++ wf u) → va_S A s.heap H locs → W p l e R s m args below meth c H locs (cells + mc) (slots + ms) Q (F0 m (pc + 3) ls (.int r :: rest))) : W p l e R s m args below meth c H locs cells slots Q (F0 m pc ls st0) :=
  va_calli hr hS (fun x _ hx => j_free hD hS hA x hx) (j_free hD hS hA) (fun r u t H1 locs1 ht hvm hw hB hz hk hS1 => by
    subst ht
    obtain ⟨h1, h2⟩ := j_join hP hD (j_free hD hS hA) hk hB.1 hB.2
    exact kk r u _ _ hw h1 h2 hS1)
theorem j_gok {r : Int32} {wa : va_W} {a : Array Value} {mc ms : Nat} (hr : va_Run p l e R s m args below meth c H locs cells slots mc ms (F0 m pc ls st0) rest (jK γ (va_A wb H.size) r wa a) (va_A wb H.size)) (hP : va_P γ.1 vwCl (ws ++ wb) H) (hD : va_D A (ws ++ wb)) (hS : va_S A s.heap H locs) (hA : ∀ x, s.heap.size ≤ x → A x)
    (kk : ∀ (H : Heap) (locs : List Loc), va_P γ.1 vwCl (ws ++ wa) H → va_D A (ws ++ wa) → va_S A s.heap H locs → W p l e R s m args below meth c H locs (cells + mc) (slots + ms) Q (F0 m (pc + 3) ls (.int r :: rest))) : W p l e R s m args below meth c H locs cells slots Q (F0 m pc ls st0) :=
  j_goi hr hP hD hS hA (fun r' u H locs hr' hP hD hS => by subst hr'; exact kk H locs hP hD hS)
theorem j_gov {S : Type} {post : S → Prop} {wf : S → va_W} {a : Array Value} {mc ms : Nat} (hr : va_Run p l e R s m args below meth c H locs cells slots mc ms (F0 m pc ls st0) rest (jQv γ (va_A wb H.size) post wf a) (va_A wb H.size)) (hP : va_P γ.1 vwCl (ws ++ wb) H) (hD : va_D A (ws ++ wb)) (hS : va_S A s.heap H locs) (hA : ∀ x, s.heap.size ≤ x → A x)
    (kk : ∀ (u : S) (H : Heap) (locs : List Loc), post u → va_P γ.1 vwCl (ws ++ wf u) H → va_D A (ws ++ wf u) → va_S A s.heap H locs → W p l e R s m args below meth c H locs (cells + mc) (slots + ms) Q (F0 m (pc + 3) ls rest)) : W p l e R s m args below meth c H locs cells slots Q (F0 m pc ls st0) :=
  va_callv hr hS (fun x _ hx => j_free hD hS hA x hx) (j_free hD hS hA) (fun u t H1 locs1 ht hvm hw hB hz hk hS1 => by
    subst ht
    obtain ⟨h1, h2⟩ := j_join hP hD (j_free hD hS hA) hk hB.1 hB.2
    exact kk u _ _ hw h1 h2 hS1)
theorem j_gor {S : Type} {post : S → Prop} {ra : S → Nat → Prop} {wf : S → Nat → va_W} {a : Array Value} {mc ms : Nat} (hr : va_Run p l e R s m args below meth c H locs cells slots mc ms (F0 m pc ls st0) rest (jQr γ (va_A wb H.size) post ra wf a) (va_A wb H.size)) (hP : va_P γ.1 vwCl (ws ++ wb) H) (hD : va_D A (ws ++ wb)) (hS : va_S A s.heap H locs) (hA : ∀ x, s.heap.size ≤ x → A x)
    (kk : ∀ (u : S) (q : Nat) (H : Heap) (locs : List Loc), post u → ra u q → va_P γ.1 vwCl (ws ++ wf u q) H → va_D A (ws ++ wf u q) → va_S A s.heap H locs → W p l e R s m args below meth c H locs (cells + mc) (slots + ms) Q (F0 m (pc + 3) ls (.ref q :: rest))) : W p l e R s m args below meth c H locs cells slots Q (F0 m pc ls st0) :=
  va_callr hr hS (fun x _ hx => j_free hD hS hA x hx) (j_free hD hS hA) (fun u q t H1 locs1 ht hvm hw hB hz hk hS1 => by
    subst ht
    obtain ⟨h1, h2⟩ := j_join hP hD (j_free hD hS hA) hk hB.2.1 hB.2.2
    exact kk u q _ _ hw hB.1 h1 h2 hS1)
section JCall
variable {y : MethodName} {bytes : ByteArray} {maxL h h' mc ms mc' ms' n idx o : Nat} {ret : Option FieldType} {Qc : Array Value → State → Outcome → State → Prop} {free : Addr → Prop} {As : List Value}
theorem j_runS (hC : gCtx p s m args meth c own cc nL yo reto γ) (hZ : gZs A s s.heap) (hA : ∀ x, s.heap.size ≤ x → A x) (hP : va_P γ.1 vwCl (ws ++ wb) H) (hD : va_D A (ws ++ wb)) (hS : va_S A s.heap H locs) (hM : Met l y (gU y bytes maxL ret) (gR h mc ms) (jPc γ As H.size wb) Qc mc ms free)
    (u1 : Cond.methodLink own idx y ∈ UG) (hy : gYS y bytes maxL ret n) (hh : h + 1 ≤ h')
    (hn : As.length = n) (hls : ls.size = nL) (hst : st0 = As.reverse ++ rest) (hW : (rest.map fun v => v.category).sum ≤ 8) (hdg : decode cc pc = .ok (.invokestatic idx, 3)) (hf : cells + mc ≤ mc' ∧ slots + ms ≤ ms') :
    va_Run p l e (gR h' mc' ms') s m args below meth c H locs cells slots mc ms (F0 m pc ls st0) rest (Qc As.toArray) free :=
  va_runS hC.1 hM ⟨gCB hC u1 hy.2.1 hy.2.2.1 hy.2.2.2.1 hh hy.2.2.2.2, hC.w hy.1⟩ ⟨jPc_blind, j_pre hC hZ hA hP hD hS⟩ rfl hn hls hst (lv_room hW) hdg hf
theorem j_runV (hC : gCtx p s m args meth c own cc nL yo reto γ) (hZ : gZs A s s.heap) (hA : ∀ x, s.heap.size ≤ x → A x) (hP : va_P γ.1 vwCl (ws ++ wb) H) (hD : va_D A (ws ++ wb)) (hS : va_S A s.heap H locs) (q0 : Nat) {ci N : Nat} {fs : List Value} {Tt : u_T} (hM : Met l y (gU y bytes maxL ret) (gR h mc ms) (jPc γ (.ref o :: As) H.size wb) Qc mc ms free) (he : wb[q0]? = some (o, .inr (ci, fs))) (hc : vwCl[ci]? = some (y.cls, Tt, N))
    (u1 : Cond.methodLink own idx y ∈ UG) (hy : gYV y bytes maxL ret n) (hh : h + 1 ≤ h')
    (hn : As.length = n) (hls : ls.size = nL) (hst : st0 = As.reverse ++ .ref o :: rest) (hW : (rest.map fun v => v.category).sum ≤ 8) (hdg : decode cc pc = .ok (.invokevirtual idx, 3)) (hf : cells + mc ≤ mc' ∧ slots + ms ≤ ms') :
    va_Run p l e (gR h' mc' ms') s m args below meth c H locs cells slots mc ms (F0 m pc ls st0) rest (Qc (Value.ref o :: As).toArray) free :=
  va_runV (C := y.cls) hC.1 hM ⟨gCB hC u1 hy.2.2.1 hy.2.2.2.1 hy.2.2.2.2.1 hh hy.2.2.2.2.2, hC.w hy.1, hC.w hy.2.1⟩ ⟨jPc_blind, va_recv hC.k (j_R hP) (q0 := q0) hc he, j_pre hC hZ hA hP hD hS⟩ rfl hn hls hst (lv_room hW) hdg hf
/-- a method of the superclass, called on a StringBuilder: by its own name .. -/
def jYU (y : MethodName) (b : ByteArray) (n : Nat) (ret : Option FieldType) (k : Nat) : Prop := Cond.instanceMethod y ∈ UG ∧ Cond.sameMethod y.cls y.cls y.name y.desc ∈ UG ∧ Cond.initialized y.cls ∈ UG ∧ Cond.code y b n ret ∈ UG ∧ (y.cls ≠ "java/lang/invoke/MethodHandle" ∧ y.cls ≠ "java/lang/invoke/VarHandle" ∧ (parseMethodDescriptor y.desc).map (fun d => d.parameters.length) = some k) ∧ n ≤ 41
theorem j_runU (hC : gCtx p s m args meth c own cc nL yo reto γ) (hZ : gZs A s s.heap) (hA : ∀ x, s.heap.size ≤ x → A x) (hP : va_P γ.1 vwCl (ws ++ wb) H) (hD : va_D A (ws ++ wb)) (hS : va_S A s.heap H locs) (q0 : Nat) {fs : List Value} (hM : Met l y (gU y bytes maxL ret) (gR h mc ms) (jPc γ (.ref o :: As) H.size wb) Qc mc ms free) (he : wb[q0]? = some (o, .inr (0, fs)))
    (u1 : Cond.methodLink own idx y ∈ UG) (hy : jYU y bytes maxL ret n) (hsel : (Cond.selects RJ4 y y).before args s = true) (hh : h + 1 ≤ h')
    (hn : As.length = n) (hls : ls.size = nL) (hst : st0 = As.reverse ++ .ref o :: rest) (hW : (rest.map fun v => v.category).sum ≤ 8) (hdg : decode cc pc = .ok (.invokevirtual idx, 3)) (hf : cells + mc ≤ mc' ∧ slots + ms ≤ ms') :
    va_Run p l e (gR h' mc' ms') s m args below meth c H locs cells slots mc ms (F0 m pc ls st0) rest (Qc (Value.ref o :: As).toArray) free :=
  va_runU (x := y) (owner := y.cls) (C := RJ4) hC.1 hM ⟨⟨rfl, rfl, hh, by show 8 + (maxL + 11) + 60 * h ≤ 60 * h'; have := hy.2.2.2.2.2; omega, pay_in hC.1.2.2.2.2 (gGood hy.2.2.2.1), List.mem_cons_self⟩, hC.w hy.2.2.2.1, hC.w hy.2.2.1, ⟨hy.2.2.2.2.1.1, hy.2.2.2.2.1.2.1⟩, fun sig hsig => by
    have h2 := hy.2.2.2.2.1.2.2
    rw [hsig] at h2
    exact (Option.some.inj h2).symm, hC.w u1, hC.w hy.2.1, va_Decl.of (hC.w hy.1) (hC.w hy.2.2.2.1), hsel, hC.w hy.1⟩ ⟨jPc_blind, va_recv hC.k (j_R hP) (q := (RJ4, TJ4, 4)) (q0 := q0) rfl he, j_pre hC hZ hA hP hD hS⟩ rfl hn hls hst (lv_room hW) hdg hf
/-- .. by 'super' -/
theorem u_3_183 : Cond.superclass RJ4 RJ5 ∈ UG := um_3 (List.mem_of_getElem? (i := 183) rfl) rfl
theorem j_runSU (hC : gCtx p s m args meth c RJ4 cc nL yo reto γ) (hZ : gZs A s s.heap) (hA : ∀ x, s.heap.size ≤ x → A x) (hP : va_P γ.1 vwCl (ws ++ wb) H) (hD : va_D A (ws ++ wb)) (hS : va_S A s.heap H locs) (q0 : Nat) {fs : List Value} (hM : Met l y (gU y bytes maxL ret) (gR h mc ms) (jPc γ (.ref o :: As) H.size wb) Qc mc ms free) (he : wb[q0]? = some (o, .inr (0, fs)))
    (u1 : Cond.methodLink RJ4 idx y ∈ UG) (hy : jYU y bytes maxL ret n) (hsup : Cond.superclass RJ4 y.cls ∈ UG) (hyn : y.name ≠ "<init>") (hh : h + 1 ≤ h')
    (hn : As.length = n) (hls : ls.size = nL) (hst : st0 = As.reverse ++ .ref o :: rest) (hW : (rest.map fun v => v.category).sum ≤ 8) (hdg : decode cc pc = .ok (.invokespecial idx, 3)) (hf : cells + mc ≤ mc' ∧ slots + ms ≤ ms') :
    va_Run p l e (gR h' mc' ms') s m args below meth c H locs cells slots mc ms (F0 m pc ls st0) rest (Qc (Value.ref o :: As).toArray) free :=
  va_runSU (C := RJ4) (hC.k.1 0 (RJ4, TJ4, 4) rfl).2 hC.1 hM ⟨⟨rfl, rfl, hh, by show 8 + (maxL + 11) + 60 * h ≤ 60 * h'; have := hy.2.2.2.2.2; omega, pay_in hC.1.2.2.2.2 (gGood hy.2.2.2.1), List.mem_cons_self⟩, hC.w u1, hC.w hy.2.1, hC.w hsup, hC.w hy.1, hC.w hy.2.2.1, hC.w hy.2.2.2.1, hyn, fun sig hsig => by
    have h2 := hy.2.2.2.2.1.2.2
    rw [hsig] at h2
    exact (Option.some.inj h2).symm⟩ ⟨jPc_blind, va_recv hC.k (j_R hP) (q := (RJ4, TJ4, 4)) (q0 := q0) rfl he, j_pre hC hZ hA hP hD hS⟩ rfl hn hls hst (lv_room hW) hdg hf
/-- a constructor -/
def jYI (y : MethodName) (b : ByteArray) (n : Nat) (k : Nat) : Prop := Cond.instanceMethod y ∈ UG ∧ Cond.initialized y.cls ∈ UG ∧ Cond.code y b n none ∈ UG ∧ (y.cls ≠ "java/lang/invoke/MethodHandle" ∧ y.cls ≠ "java/lang/invoke/VarHandle" ∧ (parseMethodDescriptor y.desc).map (fun d => d.parameters.length) = some k) ∧ n ≤ 41 ∧ y.name = "<init>"
theorem j_runI (hC : gCtx p s m args meth c own cc nL yo reto γ) (hZ : gZs A s s.heap) (hA : ∀ x, s.heap.size ≤ x → A x) (hP : va_P γ.1 vwCl (ws ++ wb) H) (hD : va_D A (ws ++ wb)) (hS : va_S A s.heap H locs) (hM : Met l y (gU y bytes maxL none) (gR h mc ms) (jPc γ (.ref o :: As) H.size wb) Qc mc ms free)
    (u1 : Cond.methodLink own idx y ∈ UG) (hy : jYI y bytes maxL n) (hh : h + 1 ≤ h')
    (hn : As.length = n) (hls : ls.size = nL) (hst : st0 = As.reverse ++ .ref o :: rest) (hW : (rest.map fun v => v.category).sum ≤ 8) (hdg : decode cc pc = .ok (.invokespecial idx, 3)) (hf : cells + mc ≤ mc' ∧ slots + ms ≤ ms') :
    va_Run p l e (gR h' mc' ms') s m args below meth c H locs cells slots mc ms (F0 m pc ls st0) rest (Qc (Value.ref o :: As).toArray) free :=
  va_runI (b := o) hC.1 hM ⟨gCB hC u1 hy.2.1 hy.2.2.1 hy.2.2.2.1 hh hy.2.2.2.2.1, hy.2.2.2.2.2, hC.w hy.1⟩ ⟨jPc_blind, j_pre hC hZ hA hP hD hS⟩ rfl hn hls hst (lv_room hW) hdg hf
end JCall
theorem j_newB (hC : gCtx p s m args meth c own cc nL yo reto γ) (hP : va_P γ.1 vwCl ws H) (hD : va_D A ws) (hS : va_S A s.heap H locs) (hA : ∀ q, s.heap.size ≤ q → A q) {n : Int32} {N' : Nat} (hdg : decode cc pc = .ok (.newarray .byte, 2)) (hn : ¬ n < 0) (hN : n.toNatClampNeg = N') (hb : N' * 1 ≤ 536870912) (hcells : cells + 1 ≤ R.cells) (hslots : slots + N' ≤ R.slots)
    (kk : ∀ (q : Nat) (H : Heap), va_P γ.1 vwCl (ws ++ [(q, .inl (gBy γ, N', .inl (fun _ => 0)))]) H → va_D A (ws ++ [(q, .inl (gBy γ, N', .inl (fun _ => 0)))]) → va_S A s.heap H locs → W p l e R s m args below meth c H locs (cells + 1) (slots + N') Q (F0 m (pc + 2) ls (.ref q :: rest))) : W p l e R s m args below meth c H locs cells slots Q (F0 m pc ls (.int n :: rest)) :=
  va_newa (atype := .byte) (ty := .byte) (a0 := (N', .inl (fun _ => 0))) hC.x hC.b (hC.w u_2_205) rfl hC.k hP hD hS hA (fun _ => rfl) hn hN hb hcells hslots hdg (fun q cA H1 hK1 hP1 hD1 hS1 => by
    have h1 : va_RA s cA .byte := (hK1.2 (gty γ).length (cA, .byte) (by simp)).2
    have h2 : va_RA s (gBy γ) .byte := (hC.k.2 4 (gBy γ, .byte) rfl).2
    obtain rfl : gBy γ = cA := Option.some.inj (h2.symm.trans h1)
    exact kk q H1 hP1 hD1 hS1)
theorem j_iret {r v : Int32} (hC : gCtx p s m args meth c own cc nL yo (some .int) γ) (hP : va_P γ.1 vwCl wb H) (hD : va_D A wb) (hS : va_S A s.heap H locs) (hdg : decode cc pc = .ok (.ireturn, 1)) (hv : v = r) : W p l e R s m args below meth c H locs cells slots (MQ below (jK γ A r wb) args s cells slots A) (F0 m pc ls [.int v]) :=
  W.iret hC.x hC.b hC.2.2.2.1 (fun t ht hW => ⟨⟨v, (), rfl, hv, by subst ht; exact ⟨hP, hD⟩⟩, hS.F ht⟩) hS.2.2 hdg hC.2.2.2.2
theorem j_zret {r v : Int32} {ty : FieldType} (hC : gCtx p s m args meth c own cc nL yo (some ty) γ) (hn : narrow ty (.int v) = .int v) (hP : va_P γ.1 vwCl wb H) (hD : va_D A wb) (hS : va_S A s.heap H locs) (hdg : decode cc pc = .ok (.ireturn, 1)) (hv : v = r) : W p l e R s m args below meth c H locs cells slots (MQ below (jK γ A r wb) args s cells slots A) (F0 m pc ls [.int v]) :=
  W.zret hC.x hC.b hC.2.2.2.1 hn (fun t ht hW => ⟨⟨v, (), rfl, hv, by subst ht; exact ⟨hP, hD⟩⟩, hS.F ht⟩) hS.2.2 hdg hC.2.2.2.2
theorem j_vret {S : Type} {post : S → Prop} {wf : S → va_W} (hC : gCtx p s m args meth c own cc nL yo none γ) (u : S) (hpost : post u) (hP : va_P γ.1 vwCl (wf u) H) (hD : va_D A (wf u)) (hS : va_S A s.heap H locs) (hdg : decode cc pc = .ok (.return_, 1)) : W p l e R s m args below meth c H locs cells slots (MQ below (jQv γ A post wf) args s cells slots A) (F0 m pc ls []) :=
  W.vret hC.x hC.b hC.2.2.2.1 (fun t ht hW => ⟨⟨u, rfl, hpost, by subst ht; exact ⟨hP, hD⟩⟩, hS.F ht⟩) hS.2.2 hdg hC.2.2.2.2
theorem j_aret {S : Type} {post : S → Prop} {ra : S → Nat → Prop} {wf : S → Nat → va_W} {rt : FieldType} {q : Nat} (hC : gCtx p s m args meth c own cc nL yo (some rt) γ) (hrt : (∃ n, rt = .object n) ∨ ∃ t, rt = .array t) (u : S) (hpost : post u) (hra : ra u q) (hP : va_P γ.1 vwCl (wf u q) H) (hD : va_D A (wf u q)) (hS : va_S A s.heap H locs) (hdg : decode cc pc = .ok (.areturn, 1)) : W p l e R s m args below meth c H locs cells slots (MQ below (jQr γ A post ra wf) args s cells slots A) (F0 m pc ls [.ref q]) :=
  W.aret hC.x hC.b hC.2.2.2.1 hrt (Or.inr ⟨q, rfl⟩) (fun t ht hW => ⟨⟨u, q, rfl, hpost, by subst ht; exact ⟨hra, hP, hD⟩⟩, hS.F ht⟩) hS.2.2 hdg hC.2.2.2.2
end JR
theorem j_met {l : Launch} {y : MethodName} {bytes : ByteArray} {maxL h mc ms sz : Nat} {ret : Option FieldType} {γ : GA} {av : List Value} {ws : va_W} (Qc : (Nat → Prop) → Array Value → State → Outcome → State → Prop) (hy : plainName y.cls = true) (hn : (lg_sl av).length ≤ maxL)
    (body : ∀ (p : Program) (e : Env) (s : State) (m : MethodId) (args : Array Value) (below : List Frame) (meth : Method) (c : Code) (ls : Array Slot) (A : Nat → Prop), A = va_A ws s.heap.size → (y.name = "<init>" → meth.name = "<init>") → gCtx p s m args meth c y.cls bytes maxL (Cond.code y bytes maxL ret) ret γ → gZs A s s.heap → (∀ q, s.heap.size ≤ q → A q) → va_P γ.1 vwCl ws s.heap → va_D A ws → va_S A s.heap s.heap [] → lv_has ls maxL (lv_args 0 av) →
      W p l e (gR h mc ms) s m args below meth c s.heap [] 0 0 (MQ below (Qc A) args s mc ms A) (F0 m 0 ls [])) : Met l y (gU y bytes maxL ret) (gR h mc ms) (jPc γ av sz ws) (Qc (va_A ws sz)) mc ms (va_A ws sz) := by
  refine Met.ofW (cc := bytes) (maxL := maxL) (ret := ret) hy rfl ?_
  intro p e s m args below meth c s₁ B hml hv
  obtain ⟨rfl, hsz, hP, hE, hj, hD, hZ⟩ := hv
  subst hsz
  rw [lg_entry_eq]
  exact body p e s m _ below meth c _ _ rfl (fun h => (name_of_methodNamed B.named B.method).1.trans h) ⟨⟨B.exec, B.bytes, hml, findClass_of_methodNamed B.named, atoms_spec (ws := gU y bytes maxL ret) B.pre⟩, hE, hj, B.returns, B.notSynchronized⟩ hZ (fun q hq => Or.inr hq) hP hD.self va_S.rf (lv_entry av hn)
theorem inJ4' : ∀ w ∈ u_ws RJ4 TJ4 4, w ∈ UG := List.forall_mem_cons.mpr ⟨u_3_175, List.forall_mem_cons.mpr ⟨u_3_177, List.forall_mem_cons.mpr ⟨u_3_179, List.forall_mem_cons.mpr ⟨u_3_181, fun _ h => nomatch h⟩⟩⟩⟩
/-- the builder's cell and its row of letters -/
abbrev jw (γ : GA) (o v cap n : Nat) (f : Nat → Int32) : va_W := [(o, .inr (0, [.ref v, .int 0, .int 0, .int (nI n)])), (v, .inl (gBy γ, cap, .inl f))]
abbrev jn (o : Nat) : va_W := [(o, .inr (0, [.null, .int 0, .int 0, .int 0]))]
def cp (n : Nat) : Nat := if n ≤ 16 then 16 else 34
def kc (n : Nat) : Nat := if n ≤ 16 then 0 else 1
/-- the letters written -/
def tx (cs : List Int32) (f : Nat → Int32) : Prop := (∀ i, i < cs.length → f i = cs.getD i 0) ∧ (∀ i, ∃ k, k < 128 ∧ f i = nI k) ∧ cs.length ≤ 34
theorem nb1 : ∀ k, k < 128 → vp_nar .byte (nI k) = nI k := by decide +kernel
theorem nb2 : ∀ k, k < 128 → fits .byte (.int (nI k)) = true := by decide +kernel
theorem nb3 : ∀ k, k < 128 → (nI k).toInt8.toInt32 = nI k := by decide +kernel
theorem nb4 : ∀ k, k < 128 → (nI k &&& 255) = nI k := by decide +kernel
theorem nb5 : ∀ k, k < 128 → ((nI k).toUInt32 % 65536).toInt32 = nI k := by decide +kernel
theorem nb6 : ∀ k, k < 128 → narrow .char (.int (nI k)) = .int (nI k) := by decide +kernel
theorem nb7 : ∀ k, k < 128 → ¬ (255 : Int32) < nI k := by decide +kernel
theorem sh1 : ∀ k, k < 64 → nI k <<< ((0 : Int32) &&& 31) = nI k := by decide +kernel
theorem sh2 : ∀ k, k < 64 → nI k >>> ((0 : Int32) &&& 31) = nI k := by decide +kernel
theorem ss1 : ∀ k, k < 100 → (-nI k ≤ (-10 : Int32) ↔ 10 ≤ k) := by decide +kernel
theorem ss2 : ∀ k, k < 100 → ¬ -nI k ≤ (-100 : Int32) := by decide +kernel
theorem gc1 : ∀ k, k < 100 → (-100 : Int32) < -nI k := by decide +kernel
theorem gc2 : ∀ k, k < 100 → ((-9 : Int32) ≤ -nI k ↔ k < 10) := by decide +kernel
theorem gc3 : ∀ k, k < 100 → - -nI k = nI k := by decide +kernel
theorem gc4 : ∀ e, e < 64 → nI (e + 1) + Int32.ofInt (-1) = nI e := by decide +kernel
theorem nc1 : ∀ k, k < 35 → 16 < k → (if nI k - 16 < 18 then (18 : Int32) else nI k - 16) = 18 := by decide +kernel
theorem nc2 : ∀ k, k < 35 → (nI k - 16 ≤ 0 ↔ k ≤ 16) := by decide +kernel
theorem nc3 : ∀ k, k < 35 → nI k - 34 ≤ 0 := by decide +kernel
/-- how many signs a number has, and which -/
def dl (k : Nat) : Nat := if k < 10 then 1 else 2
def dd (k : Nat) : List Int32 := if k < 10 then [nI (48 + k % 10)] else [nI (48 + k / 10), nI (48 + k % 10)]
def gch (n k : Nat) (f : Nat → Int32) : Nat → Int32 := if k < 10 then upd f n (nI (48 + k % 10)) else upd (upd f (n + 1) (nI (48 + k % 10))) n (nI (48 + k / 10))
theorem dgs_dd : ∀ k, k < 100 → dgs (nI k) = some (dd k) := by decide +kernel
theorem dd_len (k : Nat) : (dd k).length = dl k := by unfold dd dl; split <;> rfl
theorem dgs_of {v : Int32} {d : List Int32} (h : dgs v = some d) : ∃ k, k < 100 ∧ v = nI k ∧ d = dd k := by
  have h0 : dgs v = some d := h
  unfold dgs at h
  split at h
  · next h1 =>
    obtain ⟨k, hk, rfl⟩ := nI_of (x := v) (Int32.not_lt.mpr h1)
    have hk2 : k < 100 := by
      split at h
      · next h2 => have := (nI_ltI hk (show 10 < 2 ^ 31 by decide)).mp h2; omega
      · split at h
        · next h2 => exact (nI_ltI hk (show 100 < 2 ^ 31 by decide)).mp h2
        · cases h
    exact ⟨k, hk2, rfl, Option.some.inj (h0.symm.trans (dgs_dd k hk2))⟩
  · cases h
theorem upd_eq {f : Nat → Int32} {i j : Nat} {x : Int32} : upd f i x j = if j = i then x else f j := rfl
theorem tx_put {cs : List Int32} {f : Nat → Int32} (h : tx cs f) (hn : cs.length < 34) {k : Nat} (hk : k < 128) : tx (cs ++ [nI k]) (upd f cs.length (nI k)) := by
  refine ⟨fun i hi => ?_, fun i => ?_, by rw [List.length_append, List.length_singleton]; exact hn⟩
  · rw [List.length_append, List.length_singleton] at hi
    rw [upd_eq, List.getD_eq_getElem?_getD]
    by_cases c : i = cs.length
    · rw [if_pos c, c, List.getElem?_append_right (Nat.le_refl _), Nat.sub_self]; exact id rfl
    · rw [if_neg c, h.1 i (by omega), List.getD_eq_getElem?_getD, List.getElem?_append_left (by omega)]
  · rw [upd_eq]
    split
    · exact ⟨k, hk, rfl⟩
    · exact h.2.1 i
theorem tx_gch {cs : List Int32} {f : Nat → Int32} (h : tx cs f) {k : Nat} (hn : cs.length + dl k ≤ 34) (hk : k < 100) : tx (cs ++ dd k) (gch cs.length k f) := by
  unfold dd gch
  unfold dl at hn
  by_cases c : k < 10
  · rw [if_pos c] at hn
    rw [if_pos c, if_pos c]
    exact tx_put h (by omega) (by omega)
  · rw [if_neg c] at hn
    rw [if_neg c, if_neg c]
    have h1 := tx_put (tx_put h (by omega) (show 48 + k / 10 < 128 by omega)) (by rw [List.length_append, List.length_singleton]; omega) (show 48 + k % 10 < 128 by omega)
    rw [List.length_append, List.length_singleton, List.append_assoc] at h1
    have he : upd (upd f (cs.length + 1) (nI (48 + k % 10))) cs.length (nI (48 + k / 10)) = upd (upd f cs.length (nI (48 + k / 10))) (cs.length + 1) (nI (48 + k % 10)) := by
      funext j
      rw [upd_eq, upd_eq, upd_eq, upd_eq]
      by_cases c1 : j = cs.length
      · rw [if_pos c1, if_neg (by omega), if_pos c1]
      · rw [if_neg c1, if_neg c1]
    rw [he]
    exact h1
theorem tx_cpy {cs : List Int32} {f : Nat → Int32} {N : Nat} (h : tx cs f) (hn : cs.length ≤ N) : tx cs (va_cpy f (fun _ => 0) 0 0 N) := by
  refine ⟨fun i hi => ?_, fun i => ?_, h.2.2⟩
  · unfold va_cpy
    rw [if_pos ⟨Nat.zero_le _, by omega⟩, Nat.sub_zero, Nat.zero_add]
    exact h.1 i hi
  · unfold va_cpy
    split
    · exact h.2.1 _
    · exact ⟨0, by decide, rfl⟩
theorem tx_nil : tx [] (fun _ => 0) := ⟨fun i hi => absurd hi (Nat.not_lt_zero i), fun _ => ⟨0, by decide, rfl⟩, Nat.zero_le _⟩
theorem tx_nm {cs : List Int32} {f : Nat → Int32} (h : tx cs f) : ∀ i, fits .byte (.int (f i)) = true := fun i => by
  obtain ⟨k, hk, he⟩ := h.2.1 i
  rw [he]
  exact nb2 k hk
