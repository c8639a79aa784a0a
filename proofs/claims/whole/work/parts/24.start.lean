/-! the law's front: the two objects and the row, then its loop -/
def s0 : GS := (T0, P0, X00, fun _ _ => 0, fun _ => T0, fun _ _ => 0, M00, fun _ => 0)
theorem app_l {α : Type} {A B : List α} {j : Nat} {x : α} (h : A[j]? = some x) : (A ++ B)[j]? = some x := by
  rw [List.getElem?_append_left (List.getElem?_eq_some_iff.mp h).1]; exact h
theorem app_r {α : Type} {A B : List α} {n j : Nat} {x : α} (hl : A.length = n) (h : B[j]? = some x) : (A ++ B)[n + j]? = some x := by
  rw [List.getElem?_append_right (by omega), hl, show n + j - n = j by omega]; exact h
theorem tabW_at {γ : GA} {a : Nat → Nat} {T : OS} {k : Nat} (hk : k < 14) : (tabW γ a T)[k]? = some (a k, tabE γ a T k) := by simp [tabW, hk]
theorem tabW_len (γ : GA) (a : Nat → Nat) (T : OS) : (tabW γ a T).length = 14 := by simp [tabW]
theorem tabsW_at {γ : GA} {aa : Nat → Nat → Nat} {n j r : Nat} (hj : j < n) (hr : r < 14) : (tabsW γ aa n)[14 * j + r]? = some (aa j r, tabE γ (aa j) T0 r) := by
  induction n with
  | zero => omega
  | succ n ih =>
    rw [tabsW_s]
    by_cases h : j < n
    · exact app_l (ih h)
    · obtain rfl : j = n := by omega
      exact app_r (tabsW_len γ aa j) (tabW_at hr)
theorem tcell_E {γ : GA} {b : Nat} {T : OS} {k : Nat} : tcell γ b T k = tabE γ (fun k => ad γ (b + k)) T k := by
  cases k <;> rfl
theorem hiW_len (γ : GA) (a : Nat → Nat) : (hiW γ a).length = 100 := by simp [hiW, tabsW_len]
def pos (k : Nat) : Nat := if k < 15 then k else if k < 21 then k + 14 else if k < 31 then k + 112 else if k < 129 then k + 4 else k - 114
theorem pos_inj {i j : Nat} (hi : i < 143) (hj : j < 143) (h : pos i = pos j) : i = j := by
  unfold pos at h
  (repeat' split at h) <;> omega
def stW (γ : GA) (a a' : Nat → Nat) (q : Nat) : va_W := (biW γ a ++ moW γ a' M00) ++ [(q, .inl (gL γ, 1, .inr (.inl (fun _ => 0))))]
theorem g_t {γ : GA} {T P X Y B M : OS} {E : Nat → OS} {O : Nat → Int64} {r : Nat} (h : r < 14) : gcell γ (T, P, X, Y, E, B, M, O) (1 + r) = tcell γ 1 T r := by
  simp only [gcell]; rw [if_neg (by omega), if_pos (by omega), show 1 + r - 1 = r by omega]
theorem g_p {γ : GA} {T P X Y B M : OS} {E : Nat → OS} {O : Nat → Int64} {r : Nat} (h : r < 4) : gcell γ (T, P, X, Y, E, B, M, O) (15 + r) = pcell γ P r := by
  simp only [gcell]; rw [if_neg (by omega), if_neg (by omega), if_pos (by omega), show 15 + r - 15 = r by omega]
theorem g_m {γ : GA} {T P X Y B M : OS} {E : Nat → OS} {O : Nat → Int64} {r : Nat} (h : r < 7) : gcell γ (T, P, X, Y, E, B, M, O) (23 + r) = mcell γ M r := by
  simp only [gcell]; rw [if_neg (by omega), if_neg (by omega), if_neg (by omega), if_neg (by omega), if_neg (by omega), if_pos (by omega), show 23 + r - 23 = r by omega]
theorem g_e {γ : GA} {T P X Y B M : OS} {E : Nat → OS} {O : Nat → Int64} {j r : Nat} (h : r < 14) : gcell γ (T, P, X, Y, E, B, M, O) (31 + 14 * j + r) = tcell γ (31 + 14 * j) (E j) r := by
  simp only [gcell]
  rw [if_neg (by omega), if_neg (by omega), if_neg (by omega), if_neg (by omega), if_neg (by omega), if_neg (by omega), if_neg (by omega), show 31 + 14 * j + r - 31 = 14 * j + r by omega, show (14 * j + r) / 14 = j by omega, show (14 * j + r) % 14 = r by omega]
set_option maxRecDepth 10000 in
theorem stW_at {G : va_G} {cI cZ cT cL cBy : ClassId} {sf : Nat → Nat} {a a' : Nat → Nat} {q : Nat} {AA : Nat → Nat} (h1 : ∀ k, k < 23 → a k = AA k) (h1' : ∀ k, 31 ≤ k → a k = AA k) (h2 : ∀ k, k < 7 → a' k = AA (23 + k)) (h3 : q = AA 30) (f : Nat → Nat) {k : Nat} (hk : k < 143) (h20 : k ≠ 20) : (stW (G, cI, cZ, cT, cL, cBy, f, sf) a a' q)[pos k]? = some (AA k, gcell (G, cI, cZ, cT, cL, cBy, AA, sf) s0 k) := by
  obtain ⟨γ, hγ⟩ : ∃ γ : GA, γ = (G, cI, cZ, cT, cL, cBy, AA, sf) := ⟨_, rfl⟩
  have e0 : stW (G, cI, cZ, cT, cL, cBy, f, sf) a a' q = stW γ a a' q := by rw [hγ]; rfl
  have ead : ad γ = AA := by rw [hγ]
  rw [e0, ← hγ]
  have L1 : ([(a 0, (.inr (5, [.ref (a 1), .ref (a 129), .ref (a 15), .ref (a 19), .ref (a 21), .int 0]) : va_E))] ++ tabW γ (fun k => a (1 + k)) T0 : va_W).length = 15 := by simp [tabW_len]
  have L2 : (([(a 0, (.inr (5, [.ref (a 1), .ref (a 129), .ref (a 15), .ref (a 19), .ref (a 21), .int 0]) : va_E))] ++ tabW γ (fun k => a (1 + k)) T0) ++ tabW γ (fun k => a (129 + k)) T0 : va_W).length = 29 := by simp [tabW_len]
  have L3 : ((([(a 0, (.inr (5, [.ref (a 1), .ref (a 129), .ref (a 15), .ref (a 19), .ref (a 21), .int 0]) : va_E))] ++ tabW γ (fun k => a (1 + k)) T0) ++ tabW γ (fun k => a (129 + k)) T0) ++ plW γ (a 1) (fun k => a (15 + k)) P0 : va_W).length = 33 := by simp [tabW_len, plW]
  have L4 : (((([(a 0, (.inr (5, [.ref (a 1), .ref (a 129), .ref (a 15), .ref (a 19), .ref (a 21), .int 0]) : va_E))] ++ tabW γ (fun k => a (1 + k)) T0) ++ tabW γ (fun k => a (129 + k)) T0) ++ plW γ (a 1) (fun k => a (15 + k)) P0) ++ hiW γ (fun k => if k < 2 then a (19 + k) else a (29 + k)) : va_W).length = 133 := by simp [tabW_len, plW, hiW_len]
  have L5 : (biW γ a).length = 135 := by simp [biW, tabW_len, plW, hiW_len, txW]
  have L6 : (biW γ a ++ moW γ a' M00).length = 142 := by simp [L5, moW]
  unfold stW
  have tab : ∀ b r, b = 1 ∨ 31 ≤ b → r < 14 → b + 14 ≤ 23 ∨ 31 ≤ b → tabE γ (fun k => a (b + k)) T0 r = tcell γ b T0 r := by
    intro b r hb hr hb2
    have hk : ∀ k, k < 14 → a (b + k) = AA (b + k) := fun k hk => by
      rcases hb with rfl | hb
      · exact h1 _ (by omega)
      · exact h1' _ (by omega)
    rw [tcell_E, ead]
    have h9 := tabW_k (γ := γ) (T := T0) hk
    have h8 : (tabW γ (fun k => a (b + k)) T0)[r]? = (tabW γ (fun k => AA (b + k)) T0)[r]? := by rw [show tabW γ (fun k => a (b + k)) T0 = tabW γ (fun k => AA (b + k)) T0 from h9]
    rw [tabW_at hr, tabW_at hr] at h8
    exact (Prod.mk.inj (Option.some.inj h8)).2
  by_cases c0 : k < 1
  · obtain rfl : k = 0 := by omega
    refine app_l (app_l ?_)
    show some (a 0, _) = _
    rw [h1 0 (by omega), h1 1 (by omega), h1' 129 (by omega), h1 15 (by omega), h1 19 (by omega), h1 21 (by omega)]
    simp only [gcell, s0, ead]
    rfl
  by_cases c1 : k < 15
  · obtain ⟨r, rfl⟩ : ∃ r, k = 1 + r := ⟨k - 1, by omega⟩
    have hr : r < 14 := by omega
    rw [show pos (1 + r) = 1 + r by unfold pos; rw [if_pos c1]]
    refine app_l (app_l ?_)
    refine app_l (app_l (app_l (app_l (app_r rfl ?_))))
    rw [tabW_at hr, tab 1 r (Or.inl rfl) hr (Or.inl (by omega)), h1 _ (by omega)]
    exact congrArg (fun e => some (AA (1 + r), e)) (g_t hr).symm
  by_cases c2 : k < 19
  · obtain ⟨r, rfl⟩ : ∃ r, k = 15 + r := ⟨k - 15, by omega⟩
    have hr : r < 4 := by omega
    rw [show pos (15 + r) = 29 + r by unfold pos; rw [if_neg c1, if_pos (by omega)]; omega]
    refine app_l (app_l ?_)
    refine app_l (app_l (app_r L2 ?_))
    rw [show gcell γ s0 (15 + r) = pcell γ P0 r from g_p hr]
    match r, hr with
    | 0, _ =>
      show some (a 15, _) = _
      simp only [pcell, ead, ← h1 1 (by omega), ← h1 15 (by omega), ← h1 16 (by omega), ← h1 17 (by omega), ← h1 18 (by omega)]
    | 1, _ => show some (a 16, _) = _; rw [h1 16 (by omega)]; rfl
    | 2, _ => show some (a 17, _) = _; rw [h1 17 (by omega)]; rfl
    | 3, _ => show some (a 18, _) = _; rw [h1 18 (by omega)]; rfl
    | r + 4, hr => omega
  by_cases c3 : k < 21
  · obtain ⟨r, rfl⟩ : ∃ r, k = 19 + r := ⟨k - 19, by omega⟩
    have hr : r < 2 := by omega
    rw [show pos (19 + r) = 33 + r by unfold pos; rw [if_neg c1, if_pos (by omega)]; omega]
    refine app_l (app_l ?_)
    refine app_l (app_r L3 ?_)
    match r, hr with
    | 0, _ =>
      show some (a 19, _) = _
      simp only [gcell, s0, hcell, ead, ← h1 19 (by omega), ← h1 20 (by omega)]
      rfl
    | 1, _ => exact absurd rfl h20
    | r + 2, hr => omega
  by_cases c4 : k < 23
  · obtain ⟨r, rfl⟩ : ∃ r, k = 21 + r := ⟨k - 21, by omega⟩
    have hr : r < 2 := by omega
    rw [show pos (21 + r) = 133 + r by unfold pos; rw [if_neg c1, if_neg (by omega), if_pos (by omega)]; omega]
    refine app_l (app_l ?_)
    refine app_r L4 ?_
    match r, hr with
    | 0, _ =>
      show some (a 21, _) = _
      simp only [gcell, s0, xcell, ead, ← h1 21 (by omega), ← h1 22 (by omega)]
      rfl
    | 1, _ =>
      show some (a 22, _) = _
      rw [h1 22 (by omega)]
      rfl
    | r + 2, hr => omega
  by_cases c5 : k < 30
  · obtain ⟨r, rfl⟩ : ∃ r, k = 23 + r := ⟨k - 23, by omega⟩
    have hr : r < 7 := by omega
    rw [show pos (23 + r) = 135 + r by unfold pos; rw [if_neg c1, if_neg (by omega), if_pos (by omega)]; omega]
    refine app_l (app_r L5 ?_)
    rw [show gcell γ s0 (23 + r) = mcell γ M00 r from g_m hr]
    match r, hr with
    | 0, _ =>
      show some (a' 0, _) = _
      simp only [mcell, ead, h2 0 (by omega), h2 1 (by omega), h2 2 (by omega), h2 3 (by omega), h2 4 (by omega), h2 5 (by omega), h2 6 (by omega)]
    | 1, _ => show some (a' 1, _) = _; rw [h2 1 (by omega)]; rfl
    | 2, _ => show some (a' 2, _) = _; rw [h2 2 (by omega)]; rfl
    | 3, _ => show some (a' 3, _) = _; rw [h2 3 (by omega)]; rfl
    | 4, _ => show some (a' 4, _) = _; rw [h2 4 (by omega)]; rfl
    | 5, _ => show some (a' 5, _) = _; rw [h2 5 (by omega)]; rfl
    | 6, _ => show some (a' 6, _) = _; rw [h2 6 (by omega)]; rfl
    | r + 7, hr => omega
  by_cases c6 : k < 31
  · obtain rfl : k = 30 := by omega
    refine app_r (j := 0) L6 ?_
    rw [h3]
    rfl
  by_cases c7 : k < 129
  · obtain ⟨j, r, hr, rfl⟩ : ∃ j r, r < 14 ∧ k = 31 + 14 * j + r := ⟨(k - 31) / 14, (k - 31) % 14, by omega, by omega⟩
    have hj : j < 7 := by omega
    rw [show pos (31 + 14 * j + r) = 33 + (2 + (14 * j + r)) by unfold pos; rw [if_neg c1, if_neg (by omega), if_neg (by omega), if_pos (by omega)]; omega]
    refine app_l (app_l ?_)
    refine app_l (app_r L3 ?_)
    have h7 : (hiW γ (fun k => if k < 2 then a (19 + k) else a (29 + k)))[2 + (14 * j + r)]? = (tabsW γ (fun j k => if 2 + 14 * j + k < 2 then a (19 + (2 + 14 * j + k)) else a (29 + (2 + 14 * j + k))) 7)[14 * j + r]? := by
      unfold hiW
      rw [show 2 + (14 * j + r) = (14 * j + r) + 1 + 1 by omega, List.getElem?_cons_succ, List.getElem?_cons_succ]
    rw [h7, tabsW_at hj hr]
    have h6 : (fun k => if 2 + 14 * j + k < 2 then a (19 + (2 + 14 * j + k)) else a (29 + (2 + 14 * j + k))) = fun k => a ((31 + 14 * j) + k) := by
      funext k
      rw [if_neg (by omega), show 29 + (2 + 14 * j + k) = 31 + 14 * j + k by omega]
    show some ((fun k => if 2 + 14 * j + k < 2 then a (19 + (2 + 14 * j + k)) else a (29 + (2 + 14 * j + k))) r, tabE γ (fun k => if 2 + 14 * j + k < 2 then a (19 + (2 + 14 * j + k)) else a (29 + (2 + 14 * j + k))) T0 r) = _
    rw [h6, tab (31 + 14 * j) r (Or.inr (by omega)) hr (Or.inr (by omega))]
    show some (a (31 + 14 * j + r), _) = _
    rw [h1' _ (by omega)]
    exact congrArg (fun e => some (AA (31 + 14 * j + r), e)) (g_e (γ := γ) (T := T0) (P := P0) (X := X00) (Y := fun _ _ => 0) (B := fun _ _ => 0) (M := M00) (E := fun _ => T0) (O := fun _ => 0) (j := j) hr).symm
  · obtain ⟨r, rfl⟩ : ∃ r, k = 129 + r := ⟨k - 129, by omega⟩
    have hr : r < 14 := by omega
    rw [show pos (129 + r) = 15 + r by unfold pos; rw [if_neg c1, if_neg (by omega), if_neg (by omega), if_neg (by omega)]; omega]
    refine app_l (app_l ?_)
    refine app_l (app_l (app_l (app_r L1 ?_)))
    rw [tabW_at hr, tab 129 r (Or.inr (by omega)) hr (Or.inr (by omega)), h1' _ (by omega)]
    exact congrArg (fun e => some (AA (129 + r), e)) (g_e (γ := γ) (T := T0) (P := P0) (X := X00) (Y := fun _ _ => 0) (B := fun _ _ => 0) (M := M00) (E := fun _ => T0) (O := fun _ => 0) (j := 7) hr).symm
theorem stW_20 {G : va_G} {cI cZ cT cL cBy : ClassId} {sf : Nat → Nat} {a a' : Nat → Nat} {q : Nat} {AA : Nat → Nat} (h1 : ∀ k, k < 23 → a k = AA k) (h1' : ∀ k, 31 ≤ k → a k = AA k) (f : Nat → Nat) : (stW (G, cI, cZ, cT, cL, cBy, f, sf) a a' q)[pos 20]? = some (AA 20, .inl (cT, 7, .inr (.inr (.inr (.inr (fun j => if j < 7 then some (AA (31 + 14 * j)) else none)))))) := by
  obtain ⟨γ, hγ⟩ : ∃ γ : GA, γ = (G, cI, cZ, cT, cL, cBy, f, sf) := ⟨_, rfl⟩
  have L3 : ((([(a 0, (.inr (5, [.ref (a 1), .ref (a 129), .ref (a 15), .ref (a 19), .ref (a 21), .int 0]) : va_E))] ++ tabW γ (fun k => a (1 + k)) T0) ++ tabW γ (fun k => a (129 + k)) T0) ++ plW γ (a 1) (fun k => a (15 + k)) P0 : va_W).length = 33 := by simp [tabW_len, plW]
  have ht : gT γ = cT := by rw [hγ]
  rw [← hγ, ← ht, show pos 20 = 33 + 1 from rfl]
  refine app_l (app_l ?_)
  refine app_l (app_r L3 ?_)
  show some (a 20, _) = _
  have hf : (fun j => if j < 7 then some (if 2 + 14 * j < 2 then a (19 + (2 + 14 * j)) else a (29 + (2 + 14 * j))) else none) = (fun j => if j < 7 then some (AA (31 + 14 * j)) else none) := by
    funext j
    rw [if_neg (show ¬ 2 + 14 * j < 2 by omega), h1' _ (by omega), show 29 + (2 + 14 * j) = 31 + 14 * j by omega]
  rw [hf, h1 20 (by omega)]
theorem k_newL {p : Program} {l : Launch} {e : Env} {R : Room} {s : State} {m : MethodId} {args : Array Value} {below : List Frame} {meth : Method} {c : Code} {H : Heap} {locs : List Loc} {cells slots : Nat} {Q : State → Prop} {pc : Nat} {ls : Array Slot} {rest : List Value} {own : String} {cc : ByteArray} {nL : Nat} {yo : Cond} {reto : Option FieldType} {γ : GA} {A : Nat → Prop} {ws : va_W} (hC : gCtx p s m args meth c own cc nL yo reto γ) (hP : va_P γ.1 vwCl ws H) (hD : va_D A ws) (hS : va_S A s.heap H locs) (hA : ∀ q, s.heap.size ≤ q → A q) {n : Int32} {N' : Nat} (hdg : decode cc pc = .ok (.newarray .long, 2)) (hn : ¬ n < 0) (hN : n.toNatClampNeg = N') (hb : N' * 8 ≤ 536870912) (hcells : cells + 1 ≤ R.cells) (hslots : slots + N' ≤ R.slots)
    (kk : ∀ (q : Nat) (H : Heap), va_P γ.1 vwCl (ws ++ [(q, .inl (gL γ, N', .inr (.inl (fun _ => 0))))]) H → va_D A (ws ++ [(q, .inl (gL γ, N', .inr (.inl (fun _ => 0))))]) → va_S A s.heap H locs → W p l e R s m args below meth c H locs (cells + 1) (slots + N') Q (F0 m (pc + 2) ls (.ref q :: rest))) : W p l e R s m args below meth c H locs cells slots Q (F0 m pc ls (.int n :: rest)) :=
  va_newa (atype := .long) (ty := .long) (a0 := (N', .inr (.inl (fun _ => 0)))) hC.x hC.b (hC.w u_7_44) rfl hC.k hP hD hS hA (fun _ => rfl) hn hN hb hcells hslots hdg (fun q cA H1 hK1 hP1 hD1 hS1 => by
    have h1 : va_RA s cA .long := (hK1.2 (gty γ).length (cA, .long) (by simp)).2
    have h2 : va_RA s (gL γ) .long := (hC.k.2 3 (gL γ, .long) rfl).2
    obtain rfl : gL γ = cA := Option.some.inj (h2.symm.trans h1)
    exact kk q H1 hP1 hD1 hS1)
