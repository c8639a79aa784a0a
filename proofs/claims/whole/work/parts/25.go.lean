/-! from the law's entry to its loop -/
theorem st_dg {args : Array Value} {s : State} {n : String} {A : Nat → Prop} (hl : (Cond.laysStatic "java/lang/Integer" n "[B").before args s = true) (hini : (Cond.initialized "java/lang/Integer").before args s = true) (ha : (Cond.arrayOf (.static "java/lang/Integer" n "[B") .byte).before args s = true) (hn : (Cond.eq (.length (.static "java/lang/Integer" n "[B")) (.int 100)).before args s = true) (he : ∀ j, j < 100 → (Cond.eq (.elem (.static "java/lang/Integer" n "[B") (.int (Int32.ofNat j))) (.int (dgOf n j))).before args s = true) (hA : ∀ a : Nat, a < s.heap.size → ¬ A a) : gDg n A s s.heap := by
  obtain ⟨t, h1, h2⟩ := va_Tof (N := 100) (f := fun j => .int (dgOf n j)) (by decide) ha (va_eqt hn) (fun j hj => va_eqt (he j hj)) hA
  exact ⟨t, va_Zof hl hini h1 hA, h2⟩
theorem st_digits (n : String) (h : ((List.range 100).map fun j => Cond.eq (.elem (.static "java/lang/Integer" n "[B") (.int (Int32.ofNat j))) (.int (dgOf n j))).Sublist (flatC (Jvm.Cond.and given_1 narrow_1))) : ∀ j, j < 100 → Cond.eq (.elem (.static "java/lang/Integer" n "[B") (.int (Int32.ofNat j))) (.int (dgOf n j)) ∈ flatC (Jvm.Cond.and given_1 narrow_1) := fun j hj => h.subset (List.mem_map.mpr ⟨j, List.mem_range.mpr hj, rfl⟩)
theorem st_digits1 : ((List.range 100).map fun j => Cond.eq (.elem (.static "java/lang/Integer" "DigitOnes" "[B") (.int (Int32.ofNat j))) (.int (dgOf "DigitOnes" j))).Sublist (flatC (Jvm.Cond.and given_1 narrow_1)) := by decide +kernel
theorem st_digits2 : ((List.range 100).map fun j => Cond.eq (.elem (.static "java/lang/Integer" "DigitTens" "[B") (.int (Int32.ofNat j))) (.int (dgOf "DigitTens" j))).Sublist (flatC (Jvm.Cond.and given_1 narrow_1)) := by decide +kernel
set_option maxHeartbeats 4000000 in
set_option maxRecDepth 100000 in
theorem whole_go {p : Program} {e : Env} {s : State} {m : MethodId} {below : List Frame} {meth : Method} {c : Code} (l : Launch) (hflags : l.flags = flags0) {b L : Nat} {xs : Nat → Int32} (C0 : lw_At p s m meth c b L xs) {n : Nat} (hn : n ≤ 2100) (h : rlaw L xs n s0 0 = some ()) : W p l e room_1 s m #[Value.ref b] below meth c s.heap [] 0 0 (lw_Z below #[Value.ref b] s) (entryFrame m ([Value.ref b] : List Value).toArray 7) := by
  obtain ⟨hx, hb, hret, hml, hown, hts, hX, hbl, hlk, hg⟩ := C0
  have hst : l.stackTraces = false := by unfold Launch.stackTraces; rw [hflags]; decide +kernel
  obtain ⟨G, cI, cZ, cT, cL, cBy, sf, hE⟩ := st_E hts hg
  have hq := flat_of_before _ hg
  have hU : ∀ w ∈ (Cond.initialized RL :: UG), w.before #[Value.ref b] s = true := List.forall_mem_cons.mpr ⟨hts _ (List.mem_filter.mp u_1_0).1, fun w hw => hts w (List.mem_filter.mp hw).1⟩
  have hCf : ∀ f : Nat → Nat, (∀ i, i < 143 → ∀ j, j < 143 → f i = f j → i = j) → gCtx p s m #[Value.ref b] meth c RL cL_law 7 (Cond.initialized RL) (some .boolean) (G, cI, cZ, cT, cL, cBy, f, sf) := fun f hf => ⟨⟨hx, hb, hml, hown, hU⟩, hE f, hf, hret, hlk⟩
  have hC := hCf id (fun i _ j _ h => h)
  have hA : ∀ q, s.heap.size ≤ q → (fun q => s.heap.size ≤ q) q := fun q h => h
  rw [lg_entry_eq]
  have hl := lv_entry ([Value.ref b] : List Value) (n := 7) (Nat.le_of_ble_eq_true rfl)
  generalize ((lg_sl [Value.ref b] ++ List.replicate (7 - (lg_sl [Value.ref b]).length) Slot.unset).toArray) = ls at hl ⊢
  have hl : lv_has ls 7 [(0, .ref b)] := hl
  refine k_new (ws := []) (ci := 5) (fs := [.null, .null, .null, .null, .null, .int 0]) hC (fun k q h => (nomatch h)) ⟨fun i j p q h => (nomatch h), fun k q h => (nomatch h)⟩ va_S.rf hA tyX4 dL_law_0 inX4 tyX4_ok u_1_27 u_1_28 u_1_1 rfl (by decide) (Nat.le_of_ble_eq_true rfl) (Nat.le_of_ble_eq_true rfl) (fun o H hP hD hS => ?_)
  refine lv_dup hx hb dL_law_3 rfl ?_
  refine k_ctor (n := 0) (As := []) (rest := [.ref o]) hC hP hD hS hA (k4_init l) u_1_29 u_1_30 u_1_1 u_1_31 ⟨by decide +kernel, by decide +kernel, by decide +kernel⟩ rfl ⟨Nat.le_of_ble_eq_true rfl, Nat.le_of_ble_eq_true rfl⟩ (by decide) rfl hl.1 rfl (Nat.le_of_ble_eq_true rfl) dL_law_4 ⟨Nat.le_of_ble_eq_true rfl, Nat.le_of_ble_eq_true rfl⟩ (fun a H locs hpa hP hD hS => ?_)
  refine lv_astore_n (lv' := [(1, .ref o), (0, .ref b)]) hx hb dL_law_7 rfl hl (by decide) rfl (fun ls hl => ?_)
  refine k_new (ci := 6) (fs := [.int 0, .null, .int 0, .int 0, .null, .int 0, .int 0, .int 0, .int 0, .int 0, .int 0, .int 0, .null, .int 0, .null, .null, .null]) hC hP hD hS hA tyX5 dL_law_8 inX5 tyX5_ok u_5_148 u_5_149 u_1_7 rfl (by decide) (Nat.le_of_ble_eq_true rfl) (Nat.le_of_ble_eq_true rfl) (fun o2 H hP hD hS => ?_)
  refine lv_dup hx hb dL_law_11 rfl ?_
  refine k_ctor (n := 0) (As := []) (rest := [.ref o2]) hC hP hD hS hA (k5_init l) u_5_150 u_5_151 u_1_7 u_5_152 ⟨by decide +kernel, by decide +kernel, by decide +kernel⟩ rfl ⟨Nat.le_of_ble_eq_true rfl, Nat.le_of_ble_eq_true rfl⟩ (by decide) rfl hl.1 rfl (Nat.le_of_ble_eq_true rfl) dL_law_12 ⟨Nat.le_of_ble_eq_true rfl, Nat.le_of_ble_eq_true rfl⟩ (fun a' H locs hpa' hP hD hS => ?_)
  refine lv_astore_n (lv' := [(2, .ref o2), (1, .ref o), (0, .ref b)]) hx hb dL_law_15 rfl hl (by decide) rfl (fun ls hl => ?_)
  refine lv_iconst (v := 1) hx hb dL_law_16 (by decide) ?_
  refine k_newL (N' := 1) hC hP hD hS hA dL_law_17 (by decide) rfl (by decide) (Nat.le_of_ble_eq_true rfl) (Nat.le_of_ble_eq_true rfl) (fun q H hP hD hS => ?_)
  refine lv_astore_n (lv' := [(3, .ref q), (2, .ref o2), (1, .ref o), (0, .ref b)]) hx hb dL_law_19 rfl hl (by decide) rfl (fun ls hl => ?_)
  refine lv_iconst (v := 0) hx hb dL_law_20 (by decide) ?_
  refine lv_istore (lv' := [(4, .int 0), (3, .ref q), (2, .ref o2), (1, .ref o), (0, .ref b)]) hx hb dL_law_21 hl (by decide) rfl (fun ls hl => ?_)
  have hP : va_P G vwCl (stW (G, cI, cZ, cT, cL, cBy, id, sf) a a' q) H := hP
  have hD : va_D (fun q => s.heap.size ≤ q) (stW (G, cI, cZ, cT, cL, cBy, id, sf) a a' q) := hD
  obtain ⟨AA, hAA⟩ : ∃ AA : Nat → Nat, AA = fun k => if k < 23 then a k else if k < 30 then a' (k - 23) else if k = 30 then q else a k := ⟨_, rfl⟩
  have e1 : ∀ k, k < 23 → a k = AA k := fun k hk => by rw [hAA]; exact (if_pos hk).symm
  have e1' : ∀ k, 31 ≤ k → a k = AA k := fun k hk => by
    rw [hAA]
    simp only []
    rw [if_neg (by omega), if_neg (by omega), if_neg (by omega)]
  have e2 : ∀ k, k < 7 → a' k = AA (23 + k) := fun k hk => by
    rw [hAA]
    simp only []
    rw [if_neg (by omega), if_pos (by omega), show 23 + k - 23 = k by omega]
  have e3 : q = AA 30 := by rw [hAA]; rfl
  have hpos : ∀ k, k < 143 → ∃ e, (stW (G, cI, cZ, cT, cL, cBy, id, sf) a a' q)[pos k]? = some (AA k, e) ∧ (va_at G vwCl (AA k, e) H → va_at G vwCl (AA k, gcell (G, cI, cZ, cT, cL, cBy, AA, sf) s0 k) H) := by
    intro k hk
    by_cases h20 : k = 20
    · subst h20
      refine ⟨_, stW_20 e1 e1' id, fun h => ?_⟩
      have h : H[AA 20]? = some (arrV cT 7 (fun j => va_rf (if j < 7 then some (AA (31 + 14 * j)) else none))) := h
      show H[AA 20]? = some (arrV cT 7 (fun j => va_rf (some (AA (31 + 14 * j)))))
      rw [h]
      refine congrArg some ?_
      unfold arrV
      have hf : (Array.ofFn (n := 7) fun j => va_rf (if j.val < 7 then some (AA (31 + 14 * j.val)) else none)) = Array.ofFn (n := 7) fun j => va_rf (some (AA (31 + 14 * j.val))) := by
        congr 1
        funext j
        rw [if_pos j.2]
      rw [hf]
    · exact ⟨_, stW_at e1 e1' e2 e3 id hk h20, fun h => h⟩
  have hge : ∀ k, k < 143 → s.heap.size ≤ AA k := fun k hk => by
    obtain ⟨e, h1, -⟩ := hpos k hk
    exact hD.2 _ _ h1
  have hinj : ∀ i, i < 143 → ∀ j, j < 143 → AA i = AA j → i = j := fun i hi j hj hij => by
    obtain ⟨e, h1, -⟩ := hpos i hi
    obtain ⟨e', h2, -⟩ := hpos j hj
    exact pos_inj hi hj (hD.1 _ _ _ _ h1 h2 hij)
  have hC1 := hCf AA hinj
  have hP1 : va_P G vwCl (gw (G, cI, cZ, cT, cL, cBy, AA, sf) s0) H := by
    intro k q hk
    by_cases h : k < 143
    · rw [gw_at h] at hk
      cases hk
      obtain ⟨e, h1, h2⟩ := hpos k h
      exact h2 (hP _ _ h1)
    · have : k < 143 := by
        have h9 := (List.getElem?_eq_some_iff.mp hk).1
        simp only [gw, List.length_map, List.length_range] at h9
        exact h9
      exact absurd this h
  have hgA : ∀ q, gA (G, cI, cZ, cT, cL, cBy, AA, sf) s.heap.size q → s.heap.size ≤ q := fun q h => by
    rcases h with ⟨k, hk, rfl⟩ | h
    · exact hge k hk
    · exact h
  have hno : ∀ x : Nat, x < s.heap.size → ¬ gA (G, cI, cZ, cT, cL, cBy, AA, sf) s.heap.size x := fun x hx h => absurd (hgA x h) (by omega)
  have hZ : gZs (gA (G, cI, cZ, cT, cL, cBy, AA, sf) s.heap.size) s s.heap := ⟨vx_Zqof (hts _ w_2_163) (hts _ (List.mem_filter.mp u_1_8).1) (hq _ (by decide +kernel)) hno, vx_Zqof (hts _ w_2_165) (hts _ (List.mem_filter.mp u_1_8).1) (hq _ (by decide +kernel)) hno, va_Zof (hts _ w_3_164) (hts _ (List.mem_filter.mp u_1_20).1) (va_eqi (hq _ (by decide +kernel))) hno, st_dg (hts _ w_3_234) (hts _ (List.mem_filter.mp u_1_16).1) (hq _ (by decide +kernel)) (hq _ (by decide +kernel)) (fun j hj => hq _ (st_digits "DigitOnes" st_digits1 j hj)) hno, st_dg (hts _ w_3_236) (hts _ (List.mem_filter.mp u_1_16).1) (hq _ (by decide +kernel)) (hq _ (by decide +kernel)) (fun j hj => hq _ (st_digits "DigitTens" st_digits2 j hj)) hno, va_Zqof (hts _ w_4_10) (hts _ (List.mem_filter.mp u_1_23).1) (hq _ (by decide +kernel)) hno, gSel.of (x := yJ5_isLatin1_aae02) (by decide) rfl (hts _ (wt_3 (List.mem_of_getElem? (i := 195) rfl))) (hts _ (List.mem_filter.mp u_3_196).1) (hts _ (List.mem_filter.mp u_3_228).1), gSel.of (x := yJ5_isLatin1_aae02) (by decide) rfl (hts _ (wt_3 (List.mem_of_getElem? (i := 199) rfl))) (hts _ (List.mem_filter.mp u_3_200).1) (hts _ (List.mem_filter.mp u_3_228).1)⟩
  have hS1 : va_S (gA (G, cI, cZ, cT, cL, cBy, AA, sf) s.heap.size) s.heap H locs := ⟨hS.1, fun q hq hn => hS.2.1 q hq (by show ¬ _ ≤ _; omega), fun l hl => Or.inr (hS.2.2 l hl)⟩
  have ea : o = AA 0 := by rw [← e1 0 (by omega)]; exact hpa.symm
  have eb : o2 = AA 23 := by rw [← e2 0 (by omega)]; exact hpa'.symm
  refine W.widen (k := 200) (n := 3000) (Nat.le_of_ble_eq_true rfl) (Nat.le_of_ble_eq_true rfl) ?_
  refine lw_loop hst (γ := (G, cI, cZ, cT, cL, cBy, AA, sf)) (xs := xs) (L := L) ⟨hC1, hX, hbl, hno b hbl, hZ⟩ hgA hret n s0 0 h 200 3000 (by omega) (by omega) H locs ls hP1 hS1 ?_
  have hl' := lv_sub hl [4, 3, 2, 1, 0] rfl
  rw [ea, eb, e3] at hl'
  exact hl'
