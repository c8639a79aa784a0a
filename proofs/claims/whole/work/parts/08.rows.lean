/-! rows over the one world -/
def exn : Nat → String
  | 0 => "java/lang/IndexOutOfBoundsException"
  | 1 => "java/lang/IllegalArgumentException"
  | 2 => "java/lang/IllegalStateException"
  | 3 => "java/lang/UnsupportedOperationException"
  | _ => "java/util/NoSuchElementException"
def TNo : u_T := fun _ => ("", "", "", false)
abbrev vwCl : List vw_C := [(RJ4, TJ4, 4), (RX0, TX0, 8), (RX1, TX1, 3), (RX2, TX2, 5), (RX3, TX3, 14), (RX4, TX4, 6), (RX5, TX5, 17), (exn 4, TNo, 0)]
def gNest : List (String × Nat) := [(RX2, 75), (RX3, 110)]
def gDecl : List MethodName := [⟨"java/lang/RuntimeException", "<init>", "()V"⟩, ⟨"java/lang/RuntimeException", "<init>", "(Ljava/lang/String;)V"⟩, ⟨"java/lang/Exception", "<init>", "()V"⟩, ⟨"java/lang/Exception", "<init>", "(Ljava/lang/String;)V"⟩, ⟨"java/lang/Throwable", "<init>", "()V"⟩, ⟨"java/lang/Throwable", "<init>", "(Ljava/lang/String;)V"⟩]
def gStr : List (Nat × String) := [(197, "no such index"), (157, "out of range"), (79, "no such character"), (89, "the buffer is full"), (100, "an error in the text"), (325, "no more events"), (323, "no such event"), (137, "not a part of the groups"), (173, "the event is fixed"), (329, "the place has an obstacle"), (327, "the event is not placed"), (206, "no event there"), (217, "the event is placed"), (225, "the event cannot be inserted"), (259, "the event has no chain for this slot"), (249, "the chain cannot be exchanged"), (303, "no change can be taken back"), (315, "nothing was saved")]
/-- what the tables say, and stays so -/
def gE (γ : GA) (U : State) : Prop := va_K γ.1 vwCl (gty γ) U ∧ (∀ q ∈ gNest, va_Nw (.methodLinkNest q.1 q.2 yX4_contains RX4) U) ∧ (∀ q ∈ gDecl, va_Nw (.declares q) U) ∧ (∀ i, i < 5 → va_Nw (.castable (exn i) (exn i)) U) ∧ (∀ i, i < 5 → ∀ j, j < 5 → i ≠ j → va_Nc (exn i) (exn j) U) ∧ (∀ q ∈ gStr, vk_R RX4 q.1 q.2 (sa γ q.1) U) ∧ va_Nw (.methodLinkNest RX4 37 yX0_init RX4) U ∧ va_AO RX3 U
theorem gE.warm {γ : GA} {s U : State} (hW : s.WarmedH U.vm) (h : gE γ s) : gE γ U := ⟨va_K.moved hW.alike h.1, fun q hq => va_Nw.warmM hW (h.2.1 q hq), fun q hq => va_Nw.warmD hW (h.2.2.1 q hq), fun i hi => va_Nw.warmC hW (h.2.2.2.1 i hi), fun i hi j hj hij => va_Nc.moved hW.alike (h.2.2.2.2.1 i hi j hj hij), fun q hq => vk_R.warm hW (h.2.2.2.2.2.1 q hq), va_Nw.warmM hW h.2.2.2.2.2.2.1, va_AO.moved hW.alike h.2.2.2.2.2.2.2⟩
theorem gE.same {γ : GA} {s U : State} (hv : U.vm = s.vm) (h : gE γ s) : gE γ U := by
  refine ⟨va_K.moved (by rw [hv]; exact Vm.Alike.refl s.vm) h.1, fun q hq => va_Nw.same rfl hv.symm (h.2.1 q hq), fun q hq => va_Nw.same rfl hv.symm (h.2.2.1 q hq), fun i hi => va_Nw.same rfl hv.symm (h.2.2.2.1 i hi), fun i hi j hj hij => va_Nc.moved (by rw [hv]; exact Vm.Alike.refl s.vm) (h.2.2.2.2.1 i hi j hj hij), fun q hq => vk_R.same hv (h.2.2.2.2.2.1 q hq), va_Nw.same rfl hv.symm h.2.2.2.2.2.2.1, va_AO.moved (by rw [hv]; exact Vm.Alike.refl s.vm) h.2.2.2.2.2.2.2⟩
def gInj (γ : GA) : Prop := ∀ i, i < 143 → ∀ j, j < 143 → ad γ i = ad γ j → i = j
/-- the cells that may change, and the new ones -/
def gA (γ : GA) (sz : Nat) : Nat → Prop := fun q => (∃ k, k < 143 ∧ q = ad γ k) ∨ sz ≤ q
theorem gw_D {γ : GA} {σ : GS} {A : Nat → Prop} (hj : gInj γ) (hA : ∀ k, k < 143 → A (ad γ k)) : va_D A (gw γ σ) := by
  have key : ∀ (k : Nat) (q : Nat × va_E), (gw γ σ)[k]? = some q → k < 143 ∧ q.1 = ad γ k := by
    intro k q hk
    by_cases h : k < 143
    · rw [gw_at h] at hk
      cases hk
      exact ⟨h, rfl⟩
    · have h1 : (gw γ σ)[k]? = none := by simp [gw]; omega
      rw [h1] at hk
      cases hk
  refine ⟨fun i j p q hi hj2 hpq => ?_, fun k q hk => ?_⟩
  · obtain ⟨h1, h2⟩ := key i p hi
    obtain ⟨h3, h4⟩ := key j q hj2
    exact hj i h1 j h3 (by rw [← h2, ← h4, hpq])
  · obtain ⟨h1, h2⟩ := key k q hk
    rw [h2]
    exact hA k h1
theorem gA_in {γ : GA} {sz k : Nat} (hk : k < 143) : gA γ sz (ad γ k) := Or.inl ⟨k, hk, rfl⟩
theorem gA_le {γ : GA} {s1 s2 : Nat} (h : s1 ≤ s2) {q : Nat} (hq : gA γ s2 q) : gA γ s1 q := hq.elim Or.inl (fun z => Or.inr (Nat.le_trans h z))
def gU (y : MethodName) (b : ByteArray) (n : Nat) (ret : Option FieldType) : List Cond := .code y b n ret :: UG
theorem UG_good {w : Cond} (h : w ∈ UG) : goodWord w = true := (List.mem_filter.mp h).2
theorem gGood {c0 : Cond} {y : MethodName} {b : ByteArray} {n : Nat} {ret : Option FieldType} (h : Cond.code y b n ret ∈ UG) : GoodIn (c0 :: UG) (gU y b n ret) := by
  intro w hw
  rcases List.mem_cons.mp hw with rfl | hw
  · exact ⟨List.mem_cons_of_mem _ h, good_of_word (UG_good h)⟩
  · exact ⟨List.mem_cons_of_mem _ hw, good_of_word (UG_good hw)⟩
abbrev gR (h mc ms : Nat) : Room := { frames := h, cells := mc, slots := ms, locals := 60 * h }
/-- the start of a method: its arguments, the world, what the tables say -/
def gB (γ : GA) (sz : Nat) (σ : GS) (U : State) : Prop := U.heap.size = sz ∧ va_P γ.1 vwCl (gw γ σ) U.heap ∧ gE γ U ∧ gInj γ
def gPc (γ : GA) (av : List Value) (sz : Nat) (σ : GS) : Array Value → State → Prop := va_Pc av (gB γ sz σ)
theorem gPc_blind {γ : GA} {av : List Value} {sz : Nat} {σ : GS} : FrameBlind (gPc γ av sz σ) := fun a U g mk h => ⟨h.1, h.2.1, h.2.2.1, h.2.2.2.1.same rfl, h.2.2.2.2⟩
def gQi (γ : GA) (r : Int32) (sz : Nat) (σ : GS) : Array Value → State → Outcome → State → Prop := va_Qi (fun r' (_ : Unit) => r' = r) (fun _ t => va_P γ.1 vwCl (gw γ σ) t.heap) (gA γ sz)
def gQv (γ : GA) (sz : Nat) (σ : GS) : Array Value → State → Outcome → State → Prop := va_Qv (fun (_ : Unit) => True) (fun _ t => va_P γ.1 vwCl (gw γ σ) t.heap) (gA γ sz)
/-- what stands throughout a method's body -/
def gCtx (p : Program) (s : State) (m : MethodId) (args : Array Value) (meth : Method) (c : Code) (own : String) (cc : ByteArray) (nL : Nat) (w0 : Cond) (ret : Option FieldType) (γ : GA) : Prop :=
  CallFix p m c cc nL s args (w0 :: UG) own ∧ gE γ s ∧ gInj γ ∧ meth.sig.returnType = ret ∧ meth.locks = false
def gYV (y : MethodName) (b : ByteArray) (n : Nat) (ret : Option FieldType) (k : Nat) : Prop := Cond.instanceMethod y ∈ UG ∧ Cond.selects y.cls y y ∈ UG ∧ Cond.initialized y.cls ∈ UG ∧ Cond.code y b n ret ∈ UG ∧ (y.cls ≠ "java/lang/invoke/MethodHandle" ∧ y.cls ≠ "java/lang/invoke/VarHandle" ∧ (parseMethodDescriptor y.desc).map (fun d => d.parameters.length) = some k) ∧ n ≤ 41
def gYS (y : MethodName) (b : ByteArray) (n : Nat) (ret : Option FieldType) (k : Nat) : Prop := Cond.static y ∈ UG ∧ Cond.initialized y.cls ∈ UG ∧ Cond.code y b n ret ∈ UG ∧ (y.cls ≠ "java/lang/invoke/MethodHandle" ∧ y.cls ≠ "java/lang/invoke/VarHandle" ∧ (parseMethodDescriptor y.desc).map (fun d => d.parameters.length) = some k) ∧ n ≤ 41
/-- a row's beginning into another row's -/
def cpi (n : Nat) (f : Nat → Int32) (T : OS) (r : Nat) : Option OS := some (upr T r (va_cpy f (T r) 0 0 n))
def cpz (n : Nat) (f : Nat → Int32) (T : OS) (r : Nat) : Option OS := if ∀ i, i < n → f i = 0 ∨ f i = 1 then some (upr T r (va_cpy f (T r) 0 0 n)) else none
def sw (T : OS) (r : Nat) (v : Int32) : Option OS := some (us T r v)
section GR
variable {p : Program} {l : Launch} {e : Env} {R : Room} {s : State} {m : MethodId} {args : Array Value} {below : List Frame} {meth : Method} {c : Code} {H : Heap} {locs : List Loc} {cells slots : Nat} {Q : State → Prop}
variable {pc : Nat} {ls : Array Slot} {rest st0 : List Value} {own : String} {cc : ByteArray} {nL : Nat} {yo : Cond} {reto : Option FieldType} {γ : GA} {σ σ' : GS}
theorem gCtx.w (hC : gCtx p s m args meth c own cc nL yo reto γ) {w : Cond} (h : w ∈ UG) : w.before args s = true := hC.1.2.2.2.2 w (List.mem_cons_of_mem _ h)
theorem gCtx.x (hC : gCtx p s m args meth c own cc nL yo reto γ) : p.tables.exec = Jvm.exec := hC.1.1
theorem gCtx.b (hC : gCtx p s m args meth c own cc nL yo reto γ) : c.code = cc := hC.1.2.1
theorem gCtx.o (hC : gCtx p s m args meth c own cc nL yo reto γ) : s.vm.findClass own = some m.cls := hC.1.2.2.2.1
theorem gCtx.k (hC : gCtx p s m args meth c own cc nL yo reto γ) : va_K γ.1 vwCl (gty γ) s := hC.2.1.1
theorem gS_D (hC : gCtx p s m args meth c own cc nL yo reto γ) {sz : Nat} : va_D (gA γ sz) (gw γ σ) := gw_D hC.2.2.1 (fun _ hk => gA_in hk)
/-- a number out of a row -/
theorem g_ld (hC : gCtx p s m args meth c own cc nL yo reto γ) (hP : va_P γ.1 vwCl (gw γ σ) H) {k n : Nat} {f : Nat → Int32} {i v : Int32} (hdg : decode cc pc = .ok (.iaload, 1)) (hk : k < 143) (he : gcell γ σ k = .inl (gI γ, n, .inl f)) (hv : rd n f i = some v)
    (kk : W p l e R s m args below meth c H locs cells slots Q (F0 m (pc + 1) ls (.int v :: rest))) : W p l e R s m args below meth c H locs cells slots Q (F0 m pc ls (.int i :: .ref (ad γ k) :: rest)) := by
  obtain ⟨h1, h2⟩ := rd_in hv
  subst h2
  exact va_iald hC.x hC.b hC.k hP k 0 (by rw [gw_at hk, he]) rfl h1 hdg kk
theorem g_zld (hC : gCtx p s m args meth c own cc nL yo reto γ) (hP : va_P γ.1 vwCl (gw γ σ) H) {k n : Nat} {f : Nat → Int32} {i v : Int32} (hdg : decode cc pc = .ok (.baload, 1)) (hk : k < 143) (he : gcell γ σ k = .inl (gZ γ, n, .inl f)) (hv : rd n f i = some v)
    (kk : W p l e R s m args below meth c H locs cells slots Q (F0 m (pc + 1) ls (.int v :: rest))) : W p l e R s m args below meth c H locs cells slots Q (F0 m pc ls (.int i :: .ref (ad γ k) :: rest)) := by
  obtain ⟨h1, h2⟩ := rd_in hv
  subst h2
  exact va_zald hC.x hC.b hC.k hP k 1 (by rw [gw_at hk, he]) rfl h1 hdg kk
/-- a number into a row: 'G' is the world's change, T0 the component -/
theorem g_st (hC : gCtx p s m args meth c own cc nL yo reto γ) (hP : va_P γ.1 vwCl (gw γ σ) H) (hS : va_S (gA γ s.heap.size) s.heap H locs) {k n r : Nat} {T0 T1 : OS} {i x : Int32} (G : OS → GS) (hdg : decode cc pc = .ok (.iastore, 1)) (hk : k < 143) (he : gcell γ σ k = .inl (gI γ, n, .inl (T0 r)))
    (hG : ∀ f, (gw γ σ).set k (ad γ k, .inl (gI γ, n, .inl f)) = gw γ (G (upr T0 r f))) (hv : wr n T0 r i x = some T1)
    (kk : ∀ (H : Heap) (locs : List Loc), va_P γ.1 vwCl (gw γ (G T1)) H → va_S (gA γ s.heap.size) s.heap H locs → W p l e R s m args below meth c H locs cells slots Q (F0 m (pc + 1) ls rest)) : W p l e R s m args below meth c H locs cells slots Q (F0 m pc ls (.int x :: .int i :: .ref (ad γ k) :: rest)) := by
  obtain ⟨h1, h2⟩ := wr_in hv
  subst h2
  exact va_iast hC.x hC.b hC.k hP (gS_D hC) hS k 0 (by rw [gw_at hk, he]) rfl h1 hdg (fun H1 locs1 hP1 _ hS1 => kk H1 locs1 (by rw [hG] at hP1; exact hP1) hS1)
theorem g_zst (hC : gCtx p s m args meth c own cc nL yo reto γ) (hP : va_P γ.1 vwCl (gw γ σ) H) (hS : va_S (gA γ s.heap.size) s.heap H locs) {k n r : Nat} {T0 T1 : OS} {i x x1 : Int32} (G : OS → GS) (hdg : decode cc pc = .ok (.bastore, 1)) (hk : k < 143) (he : gcell γ σ k = .inl (gZ γ, n, .inl (T0 r)))
    (hG : ∀ f, (gw γ σ).set k (ad γ k, .inl (gZ γ, n, .inl f)) = gw γ (G (upr T0 r f))) (hz : zz x = some x1) (hv : wr n T0 r i x1 = some T1)
    (kk : ∀ (H : Heap) (locs : List Loc), va_P γ.1 vwCl (gw γ (G T1)) H → va_S (gA γ s.heap.size) s.heap H locs → W p l e R s m args below meth c H locs cells slots Q (F0 m (pc + 1) ls rest)) : W p l e R s m args below meth c H locs cells slots Q (F0 m pc ls (.int x :: .int i :: .ref (ad γ k) :: rest)) := by
  obtain ⟨h1, h2⟩ := wr_in hv
  obtain ⟨h3, h4⟩ := zz_in hz
  subst h2
  subst h3
  have h5 : vp_nar .boolean x1 = x1 := by unfold vp_nar; rw [h4]
  exact va_zast hC.x hC.b hC.k hP (gS_D hC) hS k 1 (by rw [gw_at hk, he]) rfl h1 hdg (fun H1 locs1 hP1 _ hS1 => kk H1 locs1 (by rw [h5, hG] at hP1; exact hP1) hS1)
/-- a field -/
theorem g_get (hC : gCtx p s m args meth c own cc nL yo reto γ) (hP : va_P γ.1 vwCl (gw γ σ) H) {k idx ci : Nat} {fs : List Value} {C : String} {T : u_T} {N : Nat} (j : Nat) {v : Value} (hdg : decode cc pc = .ok (.getfield idx, 3)) (hk : k < 143) (he : gcell γ σ k = .inr (ci, fs)) (hc : vwCl[ci]? = some (C, T, N)) (hin : ∀ w ∈ u_ws C T N, w ∈ UG) (hj : j < N) (hv : fs[j]? = some v) (hl : Cond.fieldLink own idx (T j).1 (T j).2.1 (T j).2.2.1 ∈ UG)
    (kk : W p l e R s m args below meth c H locs cells slots Q (F0 m (pc + 3) ls (v :: rest))) : W p l e R s m args below meth c H locs cells slots Q (F0 m pc ls (.ref (ad γ k) :: rest)) :=
  va_get hC.x hC.b (fun w h => hC.1.2.2.2.2 w h) (fun w h => List.mem_cons_of_mem _ (hin w h)) hC.o hC.k hP k (by rw [gw_at hk, he]) hc j hj (hC.w hl) (fun _ h => h) hv hdg kk
theorem g_put (hC : gCtx p s m args meth c own cc nL yo reto γ) (hP : va_P γ.1 vwCl (gw γ σ) H) (hS : va_S (gA γ s.heap.size) s.heap H locs) {k idx ci : Nat} {fs : List Value} {C : String} {T : u_T} {N : Nat} (j : Nat) {v : Value} {ty : FieldType} (ty0 : Nat → FieldType) (hdg : decode cc pc = .ok (.putfield idx, 3)) (hk : k < 143) (he : gcell γ σ k = .inr (ci, fs)) (hc : vwCl[ci]? = some (C, T, N)) (hin : ∀ w ∈ u_ws C T N, w ∈ UG) (hty : ∀ k, k < N → parseFieldDescriptor (T k).2.2.1 = some (ty0 k)) (hnm : ∀ a, a < N → ∀ b, b < N → a ≠ b → (T a).2.1 ≠ (T b).2.1) (hj : j < N) (hl : Cond.fieldLink own idx (T j).1 (T j).2.1 (T j).2.2.1 ∈ UG) (hfin : (T j).2.2.2 = false) (hd : parseFieldDescriptor (T j).2.2.1 = some ty) (hn : narrow ty v = v) (hfit : fits ty v = true) (hl2 : j < fs.length)
    (hG : (gw γ σ).set k (ad γ k, .inr (ci, fs.set j v)) = gw γ σ')
    (kk : ∀ (H : Heap) (locs : List Loc), va_P γ.1 vwCl (gw γ σ') H → va_S (gA γ s.heap.size) s.heap H locs → W p l e R s m args below meth c H locs cells slots Q (F0 m (pc + 3) ls rest)) : W p l e R s m args below meth c H locs cells slots Q (F0 m pc ls (v :: .ref (ad γ k) :: rest)) :=
  va_put hC.x hC.b (fun w h => hC.1.2.2.2.2 w h) (fun w h => List.mem_cons_of_mem _ (hin w h)) ty0 hty hnm hC.o hC.k hP (gS_D hC) hS k (by rw [gw_at hk, he]) hc j hj (hC.w hl) (fun _ h => h) hfin hd hn hfit hl2 hdg (fun H1 locs1 hP1 _ hS1 => kk H1 locs1 (by rw [hG] at hP1; exact hP1) hS1)
theorem zz_fit {x v : Int32} (h : zz x = some v) : fits .boolean (.int x) = true := by
  unfold zz at h
  split at h
  · next hn => rcases hn with rfl | rfl <;> rfl
  · cases h
/-- a number, or a truth value, into a field -/
theorem g_putI (hC : gCtx p s m args meth c own cc nL yo reto γ) (hP : va_P γ.1 vwCl (gw γ σ) H) (hS : va_S (gA γ s.heap.size) s.heap H locs) {k idx ci : Nat} {fs : List Value} {C : String} {T : u_T} {N : Nat} {T0 T1 : OS} {r : Nat} (G : OS → GS) (j : Nat) {v : Int32} (ty0 : Nat → FieldType) (hdg : decode cc pc = .ok (.putfield idx, 3)) (hk : k < 143) (he : gcell γ σ k = .inr (ci, fs)) (hc : vwCl[ci]? = some (C, T, N)) (hin : ∀ w ∈ u_ws C T N, w ∈ UG) (hty : ∀ k, k < N → parseFieldDescriptor (T k).2.2.1 = some (ty0 k)) (hnm : ∀ a, a < N → ∀ b, b < N → a ≠ b → (T a).2.1 ≠ (T b).2.1) (hj : j < N) (hl : Cond.fieldLink own idx (T j).1 (T j).2.1 (T j).2.2.1 ∈ UG) (hfin : (T j).2.2.2 = false) (hd : ty0 j = .int) (hl2 : j < fs.length)
    (hG : ∀ v, (gw γ σ).set k (ad γ k, .inr (ci, fs.set j (.int v))) = gw γ (G (us T0 r v))) (hv : sw T0 r v = some T1)
    (kk : ∀ (H : Heap) (locs : List Loc), va_P γ.1 vwCl (gw γ (G T1)) H → va_S (gA γ s.heap.size) s.heap H locs → W p l e R s m args below meth c H locs cells slots Q (F0 m (pc + 3) ls rest)) : W p l e R s m args below meth c H locs cells slots Q (F0 m pc ls (.int v :: .ref (ad γ k) :: rest)) := by
  cases hv
  exact g_put hC hP hS j ty0 hdg hk he hc hin hty hnm hj hl hfin ((hty j hj).trans (by rw [hd])) rfl rfl hl2 (hG v) kk
theorem g_putZ (hC : gCtx p s m args meth c own cc nL yo reto γ) (hP : va_P γ.1 vwCl (gw γ σ) H) (hS : va_S (gA γ s.heap.size) s.heap H locs) {k idx ci : Nat} {fs : List Value} {C : String} {T : u_T} {N : Nat} {T0 T1 : OS} {r : Nat} (G : OS → GS) (j : Nat) {v v1 : Int32} (ty0 : Nat → FieldType) (hdg : decode cc pc = .ok (.putfield idx, 3)) (hk : k < 143) (he : gcell γ σ k = .inr (ci, fs)) (hc : vwCl[ci]? = some (C, T, N)) (hin : ∀ w ∈ u_ws C T N, w ∈ UG) (hty : ∀ k, k < N → parseFieldDescriptor (T k).2.2.1 = some (ty0 k)) (hnm : ∀ a, a < N → ∀ b, b < N → a ≠ b → (T a).2.1 ≠ (T b).2.1) (hj : j < N) (hl : Cond.fieldLink own idx (T j).1 (T j).2.1 (T j).2.2.1 ∈ UG) (hfin : (T j).2.2.2 = false) (hd : ty0 j = .boolean) (hl2 : j < fs.length)
    (hG : ∀ v, (gw γ σ).set k (ad γ k, .inr (ci, fs.set j (.int v))) = gw γ (G (us T0 r v))) (hz : zz v = some v1) (hv : sw T0 r v1 = some T1)
    (kk : ∀ (H : Heap) (locs : List Loc), va_P γ.1 vwCl (gw γ (G T1)) H → va_S (gA γ s.heap.size) s.heap H locs → W p l e R s m args below meth c H locs cells slots Q (F0 m (pc + 3) ls rest)) : W p l e R s m args below meth c H locs cells slots Q (F0 m pc ls (.int v :: .ref (ad γ k) :: rest)) := by
  cases hv
  have h3 := zz_fit hz
  obtain ⟨h1, h2⟩ := zz_in hz
  subst h1
  exact g_put hC hP hS j ty0 hdg hk he hc hin hty hnm hj hl hfin ((hty j hj).trans (by rw [hd])) h2 h3 hl2 (hG v1) kk
/-- .. and a row's length -/
theorem g_len (hC : gCtx p s m args meth c own cc nL yo reto γ) (hP : va_P γ.1 vwCl (gw γ σ) H) {k t0 : Nat} {cA : ClassId} {x : vp_A} {ty : FieldType} {v : Int32} (hdg : decode cc pc = .ok (.arraylength, 1)) (hk : k < 143) (he : gcell γ σ k = .inl (cA, x)) (ht : (gty γ)[t0]? = some (cA, ty)) (hv : Int32.ofNat x.1 = v)
    (kk : W p l e R s m args below meth c H locs cells slots Q (F0 m (pc + 1) ls (.int v :: rest))) : W p l e R s m args below meth c H locs cells slots Q (F0 m pc ls (.ref (ad γ k) :: rest)) :=
  va_alen hC.x hC.b hC.k hP k t0 (by rw [gw_at hk, he]) ht hv hdg kk
theorem g_cpi (hC : gCtx p s m args meth c own cc nL yo reto γ) (hP : va_P γ.1 vwCl (gw γ σ) H) (hS : va_S (gA γ s.heap.size) s.heap H locs) {k0 k1 n0 n1 r N idx : Nat} {T0 T1 : OS} {f : Nat → Int32} {n : Int32} (G : OS → GS) (hdg : decode cc pc = .ok (.invokestatic idx, 3)) (hls : ls.size = nL) (u0 : Cond.methodLink own idx arraycopyName ∈ UG) (hk0 : k0 < 143) (hk1 : k1 < 143) (he0 : gcell γ σ k0 = .inl (gI γ, n0, .inl f)) (he1 : gcell γ σ k1 = .inl (gI γ, n1, .inl (T0 r)))
    (hG : ∀ f, (gw γ σ).set k1 (ad γ k1, .inl (gI γ, n1, .inl f)) = gw γ (G (upr T0 r f))) (h3 : ¬ n < 0) (hN : n.toNatClampNeg = N) (h4 : N ≤ n0) (h5 : N ≤ n1) (hv : cpi N f T0 r = some T1) (hR1 : 1 ≤ R.frames) (hR2 : (rest.map fun v => v.category).sum + (nativeFrameWords "java/lang/System" "arraycopy" 5 + 11) ≤ R.locals)
    (kk : ∀ (H : Heap) (locs : List Loc), va_P γ.1 vwCl (gw γ (G T1)) H → va_S (gA γ s.heap.size) s.heap H locs → W p l e R s m args below meth c H locs cells slots Q (F0 m (pc + 3) ls rest)) : W p l e R s m args below meth c H locs cells slots Q (F0 m pc ls (.int n :: .int 0 :: .ref (ad γ k1) :: .int 0 :: .ref (ad γ k0) :: rest)) := by
  cases hv
  subst hN
  exact va_copyi hC.x hC.b (hC.1.2.2.1.trans hls.symm) hC.o (hC.w u0) (hC.w u_1_233) (hC.w u_1_232) (hC.w u_1_13) hC.k hP (gS_D hC) hS k0 k1 0 0 (by rw [gw_at hk0, he0]) (by rw [gw_at hk1, he1]) rfl rfl rfl (by decide) (by decide) h3 (by show 0 + _ ≤ _; rw [Nat.zero_add]; exact h4) (by show 0 + _ ≤ _; rw [Nat.zero_add]; exact h5) (fun _ _ => rfl) hR1 hR2 hdg (fun H1 locs1 hP1 _ hS1 => kk H1 locs1 (by rw [hG] at hP1; exact hP1) hS1)
theorem g_cpz (hC : gCtx p s m args meth c own cc nL yo reto γ) (hP : va_P γ.1 vwCl (gw γ σ) H) (hS : va_S (gA γ s.heap.size) s.heap H locs) {k0 k1 n0 n1 r N idx : Nat} {T0 T1 : OS} {f : Nat → Int32} {n : Int32} (G : OS → GS) (hdg : decode cc pc = .ok (.invokestatic idx, 3)) (hls : ls.size = nL) (u0 : Cond.methodLink own idx arraycopyName ∈ UG) (hk0 : k0 < 143) (hk1 : k1 < 143) (he0 : gcell γ σ k0 = .inl (gZ γ, n0, .inl f)) (he1 : gcell γ σ k1 = .inl (gZ γ, n1, .inl (T0 r)))
    (hG : ∀ f, (gw γ σ).set k1 (ad γ k1, .inl (gZ γ, n1, .inl f)) = gw γ (G (upr T0 r f))) (h3 : ¬ n < 0) (hN : n.toNatClampNeg = N) (h4 : N ≤ n0) (h5 : N ≤ n1) (hv : cpz N f T0 r = some T1) (hR1 : 1 ≤ R.frames) (hR2 : (rest.map fun v => v.category).sum + (nativeFrameWords "java/lang/System" "arraycopy" 5 + 11) ≤ R.locals)
    (kk : ∀ (H : Heap) (locs : List Loc), va_P γ.1 vwCl (gw γ (G T1)) H → va_S (gA γ s.heap.size) s.heap H locs → W p l e R s m args below meth c H locs cells slots Q (F0 m (pc + 3) ls rest)) : W p l e R s m args below meth c H locs cells slots Q (F0 m pc ls (.int n :: .int 0 :: .ref (ad γ k1) :: .int 0 :: .ref (ad γ k0) :: rest)) := by
  unfold cpz at hv
  split at hv
  · next hb =>
    cases hv
    subst hN
    exact va_copyi hC.x hC.b (hC.1.2.2.1.trans hls.symm) hC.o (hC.w u0) (hC.w u_1_233) (hC.w u_1_232) (hC.w u_1_13) hC.k hP (gS_D hC) hS k0 k1 1 1 (by rw [gw_at hk0, he0]) (by rw [gw_at hk1, he1]) rfl rfl rfl (by decide) (by decide) h3 (by show 0 + _ ≤ _; rw [Nat.zero_add]; exact h4) (by show 0 + _ ≤ _; rw [Nat.zero_add]; exact h5) (fun i hi => by show fits .boolean (.int (f (0 + i))) = true; rw [Nat.zero_add]; rcases hb i hi with h | h <;> rw [h] <;> rfl) hR1 hR2 hdg (fun H1 locs1 hP1 _ hS1 => kk H1 locs1 (by rw [hG] at hP1; exact hP1) hS1)
  · cases hv
/-- what a call brings back -/
theorem gA_step {sz : Nat} (hS : va_S (gA γ s.heap.size) s.heap H locs) (hz : sz = H.size) : (∀ q, q < H.size → gA γ sz q → gA γ s.heap.size q) ∧ ∀ q, gA γ sz q → gA γ s.heap.size q := by
  subst hz
  exact ⟨fun q _ h => gA_le hS.1 h, fun q h => gA_le hS.1 h⟩
theorem gPre (hC : gCtx p s m args meth c own cc nL yo reto γ) (hP : va_P γ.1 vwCl (gw γ σ) H) {av : List Value} : ∀ U : State, U.heap = H → s.WarmedH U.vm → gPc γ av H.size σ av.toArray U := fun U hU hW => ⟨rfl, by rw [hU], by rw [hU]; exact hP, hC.2.1.warm hW, hC.2.2.1⟩
section Call
variable {y : MethodName} {bytes : ByteArray} {maxL h h' mc ms mc' ms' n idx k : Nat} {ret : Option FieldType} {Qc : Array Value → State → Outcome → State → Prop} {XC : String → State → State → Prop} {free : Addr → Prop} {As : List Value}
theorem gCB (hC : gCtx p s m args meth c own cc nL yo reto γ) (u1 : Cond.methodLink own idx y ∈ UG) (u4 : Cond.initialized y.cls ∈ UG) (u5 : Cond.code y bytes maxL ret ∈ UG) (hd : y.cls ≠ "java/lang/invoke/MethodHandle" ∧ y.cls ≠ "java/lang/invoke/VarHandle" ∧ (parseMethodDescriptor y.desc).map (fun d => d.parameters.length) = some n) (hh : h + 1 ≤ h') (hL : maxL ≤ 41) :
    CallB (gR h' mc' ms') s args own idx y bytes maxL ret (gU y bytes maxL ret) (gR h mc ms) mc ms n :=
  callB_of n hC.1.2.2.2.2 (gGood u5) rfl rfl rfl (hC.w u4) (hC.w u1) hd ⟨hh, by show 8 + (maxL + 11) + 60 * h ≤ 60 * h'; omega⟩
theorem g_runV (hC : gCtx p s m args meth c own cc nL yo reto γ) (hP : va_P γ.1 vwCl (gw γ σ) H) {ci N : Nat} {fs : List Value} {Tt : u_T} (hM : Met l y (gU y bytes maxL ret) (gR h mc ms) (gPc γ (.ref (ad γ k) :: As) H.size σ) Qc mc ms free) (hk : k < 143) (he : gcell γ σ k = .inr (ci, fs)) (hc : vwCl[ci]? = some (y.cls, Tt, N))
    (u1 : Cond.methodLink own idx y ∈ UG) (hy : gYV y bytes maxL ret n) (hh : h + 1 ≤ h')
    (hn : As.length = n) (hls : ls.size = nL) (hst : st0 = As.reverse ++ .ref (ad γ k) :: rest) (hW : (rest.map fun v => v.category).sum ≤ 8) (hdg : decode cc pc = .ok (.invokevirtual idx, 3)) (hf : cells + mc ≤ mc' ∧ slots + ms ≤ ms') :
    va_Run p l e (gR h' mc' ms') s m args below meth c H locs cells slots mc ms (F0 m pc ls st0) rest (Qc (Value.ref (ad γ k) :: As).toArray) free :=
  va_runV (C := y.cls) hC.1 hM ⟨gCB hC u1 hy.2.2.1 hy.2.2.2.1 hy.2.2.2.2.1 hh hy.2.2.2.2.2, hC.w hy.1, hC.w hy.2.1⟩ ⟨gPc_blind, va_recv hC.k hP (q0 := k) hc (by rw [gw_at hk, he]), gPre hC hP⟩ rfl hn hls hst (lv_room hW) hdg hf
theorem g_runS (hC : gCtx p s m args meth c own cc nL yo reto γ) (hP : va_P γ.1 vwCl (gw γ σ) H) (hM : Met l y (gU y bytes maxL ret) (gR h mc ms) (gPc γ As H.size σ) Qc mc ms free)
    (u1 : Cond.methodLink own idx y ∈ UG) (hy : gYS y bytes maxL ret n) (hh : h + 1 ≤ h')
    (hn : As.length = n) (hls : ls.size = nL) (hst : st0 = As.reverse ++ rest) (hW : (rest.map fun v => v.category).sum ≤ 8) (hdg : decode cc pc = .ok (.invokestatic idx, 3)) (hf : cells + mc ≤ mc' ∧ slots + ms ≤ ms') :
    va_Run p l e (gR h' mc' ms') s m args below meth c H locs cells slots mc ms (F0 m pc ls st0) rest (Qc As.toArray) free :=
  va_runS hC.1 hM ⟨gCB hC u1 hy.2.1 hy.2.2.1 hy.2.2.2.1 hh hy.2.2.2.2, hC.w hy.1⟩ ⟨gPc_blind, gPre hC hP⟩ rfl hn hls hst (lv_room hW) hdg hf
/-- .. of TimetableBuilder.contains, from a class nested in it -/
theorem g_runN (hC : gCtx p s m args meth c own cc nL yo reto γ) (hP : va_P γ.1 vwCl (gw γ σ) H) (hM : Met l yX4_contains (gU yX4_contains bytes maxL ret) (gR h mc ms) (gPc γ As H.size σ) Qc mc ms free)
    (u1 : (own, idx) ∈ gNest) (hy : gYS yX4_contains bytes maxL ret n) (hh : h + 1 ≤ h')
    (hn : As.length = n) (hls : ls.size = nL) (hst : st0 = As.reverse ++ rest) (hW : (rest.map fun v => v.category).sum ≤ 8) (hdg : decode cc pc = .ok (.invokestatic idx, 3)) (hf : cells + mc ≤ mc' ∧ slots + ms ≤ ms') :
    va_Run p l e (gR h' mc' ms') s m args below meth c H locs cells slots mc ms (F0 m pc ls st0) rest (Qc As.toArray) free :=
  va_runSN hC.1 hM ⟨va_cnB n hC.1.2.2.2.2 (gGood hy.2.2.1) rfl rfl rfl (hC.2.1.2.1 _ u1) (hC.w hy.2.1) hy.2.2.2.1 ⟨hh, by show 8 + (maxL + 11) + 60 * h ≤ 60 * h'; have := hy.2.2.2.2; omega⟩, hC.w hy.1, trivial⟩ ⟨gPc_blind, gPre hC hP⟩ rfl hn hls hst (lv_room hW) hdg hf
theorem g_ki {a : Array Value} {r : Int32} {mc ms : Nat} (hr : va_Run p l e R s m args below meth c H locs cells slots mc ms (F0 m pc ls st0) rest (gQi γ r H.size σ' a) (gA γ H.size)) (hS : va_S (gA γ s.heap.size) s.heap H locs)
    (kk : ∀ (H : Heap) (locs : List Loc), va_P γ.1 vwCl (gw γ σ') H → va_S (gA γ s.heap.size) s.heap H locs → W p l e R s m args below meth c H locs (cells + mc) (slots + ms) Q (F0 m (pc + 3) ls (.int r :: rest))) : W p l e R s m args below meth c H locs cells slots Q (F0 m pc ls st0) :=
  va_calli hr hS (gA_step hS rfl).1 (gA_step hS rfl).2 (fun r' u t H1 locs1 ht hvm hw hB hz hk hS1 => by subst hw; subst ht; exact kk _ _ hB hS1)
theorem g_kv {a : Array Value} {mc ms : Nat} (hr : va_Run p l e R s m args below meth c H locs cells slots mc ms (F0 m pc ls st0) rest (gQv γ H.size σ' a) (gA γ H.size)) (hS : va_S (gA γ s.heap.size) s.heap H locs)
    (kk : ∀ (H : Heap) (locs : List Loc), va_P γ.1 vwCl (gw γ σ') H → va_S (gA γ s.heap.size) s.heap H locs → W p l e R s m args below meth c H locs (cells + mc) (slots + ms) Q (F0 m (pc + 3) ls rest)) : W p l e R s m args below meth c H locs cells slots Q (F0 m pc ls st0) :=
  va_callv hr hS (gA_step hS rfl).1 (gA_step hS rfl).2 (fun u t H1 locs1 ht hvm hw hB hz hk hS1 => by subst ht; exact kk _ _ hB hS1)
end Call
theorem g_iret {r v : Int32} (hC : gCtx p s m args meth c own cc nL yo (some .int) γ) (hP : va_P γ.1 vwCl (gw γ σ) H) (hS : va_S (gA γ s.heap.size) s.heap H locs) (hdg : decode cc pc = .ok (.ireturn, 1)) (hv : v = r) : W p l e R s m args below meth c H locs cells slots (MQ below (gQi γ r s.heap.size σ) args s cells slots (gA γ s.heap.size)) (F0 m pc ls [.int v]) :=
  W.iret hC.x hC.b hC.2.2.2.1 (fun t ht hW => ⟨⟨v, (), rfl, hv, by subst ht; exact hP⟩, hS.F ht⟩) hS.2.2 hdg hC.2.2.2.2
theorem g_zret {r v v1 : Int32} (hC : gCtx p s m args meth c own cc nL yo (some .boolean) γ) (hP : va_P γ.1 vwCl (gw γ σ) H) (hS : va_S (gA γ s.heap.size) s.heap H locs) (hdg : decode cc pc = .ok (.ireturn, 1)) (hz : zz v = some v1) (hv : v1 = r) : W p l e R s m args below meth c H locs cells slots (MQ below (gQi γ r s.heap.size σ) args s cells slots (gA γ s.heap.size)) (F0 m pc ls [.int v]) := by
  obtain ⟨h1, h2⟩ := zz_in hz
  subst h1
  exact W.zret hC.x hC.b hC.2.2.2.1 h2 (fun t ht hW => ⟨⟨v1, (), rfl, hv, by subst ht; exact hP⟩, hS.F ht⟩) hS.2.2 hdg hC.2.2.2.2
theorem g_vret (hC : gCtx p s m args meth c own cc nL yo none γ) (hP : va_P γ.1 vwCl (gw γ σ) H) (hS : va_S (gA γ s.heap.size) s.heap H locs) (hdg : decode cc pc = .ok (.return_, 1)) : W p l e R s m args below meth c H locs cells slots (MQ below (gQv γ s.heap.size σ) args s cells slots (gA γ s.heap.size)) (F0 m pc ls []) :=
  W.vret hC.x hC.b hC.2.2.2.1 (fun t ht hW => ⟨⟨(), rfl, trivial, by subst ht; exact hP⟩, hS.F ht⟩) hS.2.2 hdg hC.2.2.2.2
end GR
/-- a body: its method's contract -/
theorem g_met {l : Launch} {y : MethodName} {bytes : ByteArray} {maxL h mc ms sz : Nat} {ret : Option FieldType} {γ : GA} {av : List Value} {σ : GS} (Qc : Nat → Array Value → State → Outcome → State → Prop) (hy : plainName y.cls = true) (hn : (lg_sl av).length ≤ maxL)
    (body : ∀ (p : Program) (e : Env) (s : State) (m : MethodId) (args : Array Value) (below : List Frame) (meth : Method) (c : Code) (ls : Array Slot), gCtx p s m args meth c y.cls bytes maxL (Cond.code y bytes maxL ret) ret γ → va_P γ.1 vwCl (gw γ σ) s.heap → va_S (gA γ s.heap.size) s.heap s.heap [] → lv_has ls maxL (lv_args 0 av) →
      W p l e (gR h mc ms) s m args below meth c s.heap [] 0 0 (MQ below (Qc s.heap.size) args s mc ms (gA γ s.heap.size)) (F0 m 0 ls [])) : Met l y (gU y bytes maxL ret) (gR h mc ms) (gPc γ av sz σ) (Qc sz) mc ms (gA γ sz) := by
  refine Met.ofW (cc := bytes) (maxL := maxL) (ret := ret) hy rfl ?_
  intro p e s m args below meth c s₁ B hml hv
  obtain ⟨rfl, hsz, hP, hE, hj⟩ := hv
  subst hsz
  rw [lg_entry_eq]
  exact body p e s m _ below meth c _ ⟨⟨B.exec, B.bytes, hml, findClass_of_methodNamed B.named, atoms_spec (ws := gU y bytes maxL ret) B.pre⟩, hE, hj, B.returns, B.notSynchronized⟩ hP va_S.rf (lv_entry av hn)
