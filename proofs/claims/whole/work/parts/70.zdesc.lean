/-! THE PURE LAYER: an event's text -/
/-- the reference's letters: what is written is cs -/
def LT (M : OS) (cs : List Int32) : Prop := M 13 0 = nI cs.length ∧ ∀ i, i < cs.length → M 12 i = cs.getD i 0
theorem LT.put {M : OS} {cs : List Int32} (h : LT M cs) (hn : cs.length < 24) (x : Int32) : ∃ M', r5_writes M x = some M' ∧ LT M' (cs ++ [x]) ∧ ∀ r, r ≠ 12 → r ≠ 13 → M' r = M r := by
  obtain ⟨h1, h2⟩ := h
  unfold r5_writes sw
  rw [h1, z_wr hn (by decide), zs_b, zs_b, upr_n _ _ _ (show (13 : Nat) ≠ 12 by decide), h1, nI_1]
  refine ⟨_, rfl, ⟨?_, fun i hi => ?_⟩, fun r r1 r2 => ?_⟩
  · rw [us_s, List.length_append]; exact id rfl
  · rw [us_n _ _ _ (show (12 : Nat) ≠ 13 by decide), upr_s]
    rw [List.length_append] at hi
    by_cases c : i = cs.length
    · rw [c, upd_s, List.getD_eq_getElem?_getD, List.getElem?_append_right (Nat.le_refl _), Nat.sub_self]; exact id rfl
    · have hi' : i < cs.length := by
        have : [x].length = 1 := rfl
        omega
      rw [upd_n c, h2 i hi', List.getD_eq_getElem?_getD, List.getD_eq_getElem?_getD, List.getElem?_append_left hi']
  · rw [us_n _ _ _ r2, upr_n _ _ _ r1]
theorem dg1 : ∀ v, v < 10 → dgs (nI v) = some [48 + nI v] := by decide +kernel
def nds (x : Int32) : List Int32 := if x ≤ 9 then [48 + im x 10] else [49, 48 + im x 10]
theorem dg2 : ∀ x, x < 16 → dgs (nI x) = some (nds (nI x)) := by decide +kernel
theorem nds_len (x : Int32) : (nds x).length ≤ 2 := by unfold nds; split <;> exact Nat.le_of_ble_eq_true rfl
theorem app_z {cs d : List Int32} (h : cs.length + d.length ≤ 34) : app cs d = some (cs ++ d) := if_pos h
/-- the teacher and the groups -/
def tG (T : OS) (e : Nat) : Nat → List Int32
  | 0 => [48 + T 5 e]
  | i + 1 => if bt (T 6 e) i then (tG T e i ++ [if (tG T e i).length = 1 then 58 else 44]) ++ [48 + nI i] else tG T e i
theorem tG_len (T : OS) (e : Nat) : ∀ i, 1 ≤ (tG T e i).length ∧ (tG T e i).length ≤ 1 + 2 * i
  | 0 => ⟨Nat.le_refl 1, Nat.le_refl 1⟩
  | i + 1 => by
    have h := tG_len T e i
    show 1 ≤ (if bt (T 6 e) i then (tG T e i ++ [if (tG T e i).length = 1 then (58 : Int32) else 44]) ++ [48 + nI i] else tG T e i).length ∧ (if bt (T 6 e) i then (tG T e i ++ [if (tG T e i).length = 1 then (58 : Int32) else 44]) ++ [48 + nI i] else tG T e i).length ≤ _
    split
    · rw [List.length_append, List.length_append, List.length_singleton, List.length_singleton]; omega
    · omega
def tN (T : OS) (e : Nat) : List Int32 := if T 7 e = 0 then tG T e 6 else (tG T e 6 ++ [47]) ++ nds (T 7 e)
def tL (T : OS) (e : Nat) : List Int32 := if T 8 e = 2 then (tN T e ++ [42]) ++ [50] else tN T e
theorem tN_len (T : OS) (e : Nat) : 1 ≤ (tN T e).length ∧ (tN T e).length ≤ 16 := by
  have h := tG_len T e 6
  have h2 := nds_len (T 7 e)
  unfold tN
  split
  · omega
  · rw [List.length_append, List.length_append, List.length_singleton]; omega
theorem tL_len (T : OS) (e : Nat) : 1 ≤ (tL T e).length ∧ (tL T e).length ≤ 18 := by
  have h := tN_len T e
  unfold tL
  split
  · rw [List.length_append, List.length_append, List.length_singleton, List.length_singleton]; omega
  · omega
theorem tG_s (T : OS) (e i : Nat) : tG T e (i + 1) = if bt (T 6 e) i then (tG T e i ++ [if (tG T e i).length = 1 then 58 else 44]) ++ [48 + nI i] else tG T e i := rfl
section C8
variable {T Y B X M : OS} {E : Nat → OS} {n : Nat}
theorem textOf_z (hW : WF T n) {e : Nat} (he : e < n) : r3_textOf T (nI e) = some (tL T e) := by
  have he' : e < 14 := by have := hW.le; omega
  obtain ⟨⟨t, t1, t2⟩, ⟨g, g1, g2⟩, ⟨x, x1, x2⟩, hl⟩ := hW.2.2.1 e he
  unfold r3_textOf
  rw [z_rd he' (by decide), zs_b, t2, dg1 t (by omega), zs_b, app_z (Nat.le_of_ble_eq_true rfl), zs_b]
  refine zi3k (F := r3_textOf_b25 T (nI e)) (a0 := ([] ++ [48 + nI t] : List Int32)) (b0 := (58 : Int32)) 6 (fun i cs z => cs = tG T e i ∧ z = if cs.length = 1 then 58 else 44) (fun r => r = tG T e 6) (by decide) (fun r h1 h2 => ?_) ⟨by unfold tG; rw [t2]; exact id rfl, id rfl⟩ (fun i cs z hi hI => Or.inl ?_) (fun cs z hI => ⟨cs, ?_, hI.1⟩)
  · rw [h1, h2, zs_1, z_rd he' (by decide), zs_b]
    have hj : ∀ cs, cs = tN T e → r3_textOf_j91 T (nI e) cs = some (tL T e) := by
      intro cs hcs
      have := tN_len T e
      subst hcs
      unfold r3_textOf_j91 tL
      rw [z_rd he' (by decide), zs_b]
      by_cases c : T 8 e = 2
      · rw [if_pos c, if_pos c, app_z (by rw [List.length_singleton]; omega), zs_b, app_z (by rw [List.length_append, List.length_singleton, List.length_singleton]; omega), zs_b]
      · rw [if_neg c, if_neg c]
    have := tG_len T e 6
    by_cases c : T 7 e = 0
    · rw [if_pos c]; exact hj _ (by unfold tN; rw [if_pos c])
    · have h2 := nds_len (T 7 e)
      rw [if_neg c, app_z (by rw [List.length_singleton]; omega), zs_b, x2, dg2 x x1, zs_b, app_z (by rw [List.length_append, List.length_singleton, ← x2]; omega), zs_b]
      exact hj _ (by unfold tN; rw [if_neg c, x2])
  · obtain ⟨h1, h2⟩ := hI
    have hlen := tG_len T e i
    subst h1
    unfold r3_textOf_b25 r4_contains
    rw [if_neg (show ¬ (6 : Int32) ≤ nI i from nI_ge (b := 6) hi (by decide)), z_rd he' (by decide), zs_b, z_bit _ (show i < 32 by omega), tG_s]
    cases hb : bt (T 6 e) i
    · refine ⟨_, _, ?_, rfl, h2⟩
      simp only [if_true, Bool.false_eq_true, if_false, zs_1]
    · refine ⟨_, 44, ?_, rfl, ?_⟩
      · simp only [if_true, show ¬ (1 : Int32) = 0 by decide, if_false, zs_1]
        rw [app_z (by rw [List.length_singleton]; omega), zs_b, dg1 i (by omega), zs_b, app_z (by rw [List.length_append, List.length_singleton, List.length_singleton]; omega), zs_b, h2]
      · rw [if_pos rfl, List.length_append, List.length_append, List.length_singleton, List.length_singleton, if_neg (by omega)]
  · unfold r3_textOf_b25
    rw [if_pos (show (6 : Int32) ≤ nI 6 by decide)]
/-- the question behind the text -/
def r4_ask (cs : List Int32) (b : Int32) : Option (Nat ⊕ Int32) := (if b = (-1) then some (.inr (nI cs.length))
  else bd1 (r4_requireIndex b (nI cs.length)) (fun o3 => bx o3 (fun k4 => some (.inl k4)) (fun _ =>
  (chAt cs b).bind fun v => some (.inr v))))
theorem ask_z {cs : List Int32} {M : OS} (hM : LT M cs) (h1 : 1 ≤ cs.length) (h2 : cs.length ≤ 24) (b : Int32) : ∃ o v M', r4_ask cs b = some o ∧ r5_describe_j167 M b = some (v, M') ∧ agr cdE o v (M' 0 0) ∧ ∀ r, r ≠ 0 → M' r = M r := by
  obtain ⟨q, hq⟩ : ∃ q, cs.length = q + 1 := ⟨cs.length - 1, by omega⟩
  have bad : ∃ v M', r5_describe_j187 M b 1 = some (v, M') ∧ agr cdE (.inl 0) v (M' 0 0) ∧ ∀ r, r ≠ 0 → M' r = M r := by
    unfold r5_describe_j187 sw
    rw [zs_b, us_s, if_neg (show ¬ (1 : Int32) = 0 by decide)]
    exact ⟨_, _, rfl, ⟨by rw [us_s]; exact id rfl, by rw [us_s]; decide⟩, fun r hr => us_n _ _ _ hr⟩
  unfold r4_ask r5_describe_j167
  rw [r5_in_z, zs_1, hM.1, hq, nI_pred]
  by_cases hb : b = -1
  · subst hb
    rw [if_pos rfl, if_neg (show ¬ (-1 : Int32) < -1 by decide), if_neg (show ¬ nI q < (-1 : Int32) from fun z => by
      have := Int32.lt_iff_toInt_lt.mp z
      rw [nI_toInt (show q < 2 ^ 31 by omega), show (-1 : Int32).toInt = -1 from by decide] at this
      omega), if_neg (show ¬ (1 : Int32) = 0 by decide)]
    unfold r5_describe_j187 sw
    rw [zs_b, us_s, if_pos rfl, if_neg (show ¬ (0 : Int32) ≤ -1 by decide)]
    exact ⟨_, _, _, rfl, rfl, ⟨us_s _ _ _ ▸ rfl, by rw [us_n _ _ _ (by decide), hM.1, hq]⟩, fun r hr => us_n _ _ _ hr⟩
  · rw [if_neg hb]
    unfold r4_requireIndex r4_requireIndex_j9
    by_cases h0 : b < 0
    · have hlt : b < -1 := by
        rw [Int32.lt_iff_toInt_lt] at h0 ⊢
        have e1 : (0 : Int32).toInt = 0 := by decide
        have e2 : (-1 : Int32).toInt = -1 := by decide
        have e3 : b.toInt ≠ -1 := fun z => hb (Int32.toInt_inj.mp (z.trans e2.symm))
        omega
      obtain ⟨v, M', m1, m2, m3⟩ := bad
      rw [if_pos h0, if_pos hlt, zs_1, zx_l, if_pos rfl, m1]
      exact ⟨_, _, _, rfl, rfl, m2, m3⟩
    · obtain ⟨k, hk, rfl⟩ := nI_of h0
      rw [if_neg h0, if_neg (show ¬ nI k < (-1 : Int32) from fun z => by
        have := Int32.lt_iff_toInt_lt.mp z
        rw [nI_toInt hk, show (-1 : Int32).toInt = -1 from by decide] at this
        omega)]
      by_cases c : k < q + 1
      · rw [if_pos (nI_lt c (by omega)), zs_1, zx_r, if_neg (nI_nlt (show k ≤ q by omega) (by omega)), if_neg (show ¬ (1 : Int32) = 0 by decide)]
        have hc : chAt cs (nI k) = some (cs.getD k 0) := by
          unfold chAt
          rw [nI_clamp hk, if_neg (fun z => z.elim (nI_pos hk) (fun w => by omega))]
        unfold r5_describe_j187 sw
        rw [hc, zs_b, zs_b, us_s, if_pos rfl, if_pos (nI_pos' hk), us_n _ _ _ (show (12 : Nat) ≠ 0 by decide), z_rd (show k < 24 by omega) (by decide), zs_b, hM.2 k (by omega)]
        exact ⟨_, _, _, rfl, rfl, ⟨us_s _ _ _ ▸ rfl, rfl⟩, fun r hr => us_n _ _ _ hr⟩
      · obtain ⟨v, M', m1, m2, m3⟩ := bad
        rw [if_neg (nI_nlt (show q + 1 ≤ k by omega) hk), zs_1, zx_l, if_pos (nI_lt (show q < k by omega) hk), if_pos rfl, m1]
        exact ⟨_, _, _, rfl, rfl, m2, m3⟩
theorem desc_z (hW : WF T n) (hR : RB (M 1) T n) {e : Nat} (he : e < n) (b : Int32) : ∃ v M', r5_describe_j14 M (nI e) b 0 = some (v, M') ∧ (∃ M1, LT M1 (tL T e) ∧ (∀ r, r ≠ 0 → r ≠ 12 → r ≠ 13 → M1 r = M r) ∧ r5_describe_j167 M1 b = some (v, M')) := by
  have he' : e < 14 := by have := hW.le; omega
  obtain ⟨⟨t, t1, t2⟩, ⟨g, g1, g2⟩, ⟨x, x1, x2⟩, hl⟩ := hW.2.2.1 e he
  have hof : ∀ {M1 : OS}, (∀ r, r ≠ 0 → r ≠ 12 → r ≠ 13 → M1 r = M r) → RB (M1 1) T n := fun h => by rw [h 1 (by decide) (by decide) (by decide)]; exact hR
  have step : ∀ {M1 : OS} {cs : List Int32} (z : Int32), cs.length < 24 → LT M1 cs → (∀ r, r ≠ 0 → r ≠ 12 → r ≠ 13 → M1 r = M r) → ∃ M2, r5_writes M1 z = some M2 ∧ LT M2 (cs ++ [z]) ∧ (∀ r, r ≠ 0 → r ≠ 12 → r ≠ 13 → M2 r = M r) := by
    intro M1 cs z hn h1 h2
    obtain ⟨M2, k1, k2, k3⟩ := h1.put hn z
    exact ⟨M2, k1, k2, fun r r0 r12 r13 => (k3 r r12 r13).trans (h2 r r0 r12 r13)⟩
  have j167 : ∀ {M1 : OS}, LT M1 (tL T e) → (∀ r, r ≠ 0 → r ≠ 12 → r ≠ 13 → M1 r = M r) → ∃ v M', r5_describe_j167 M1 b = some (v, M') ∧ (∃ M1, LT M1 (tL T e) ∧ (∀ r, r ≠ 0 → r ≠ 12 → r ≠ 13 → M1 r = M r) ∧ r5_describe_j167 M1 b = some (v, M')) := by
    intro M1 h1 h2
    have hlen := tL_len T e
    obtain ⟨o, v, M', _, m1, _, _⟩ := ask_z h1 hlen.1 (by omega) b
    exact ⟨v, M', m1, M1, h1, h2, m1⟩
  have j144 : ∀ {M1 : OS}, LT M1 (tN T e) → (∀ r, r ≠ 0 → r ≠ 12 → r ≠ 13 → M1 r = M r) → ∃ v M', r5_describe_j144 M1 (nI e) b = some (v, M') ∧ (∃ M1, LT M1 (tL T e) ∧ (∀ r, r ≠ 0 → r ≠ 12 → r ≠ 13 → M1 r = M r) ∧ r5_describe_j167 M1 b = some (v, M')) := by
    intro M1 h1 h2
    have hlen := tN_len T e
    unfold r5_describe_j144
    rw [zo70 (hof h2) he he', zs_1]
    by_cases c : T 8 e = 2
    · obtain ⟨M2, k1, k2, k3⟩ := step 42 (by omega) h1 h2
      obtain ⟨M3, l1, l2, l3⟩ := step 50 (by rw [List.length_append, List.length_singleton]; omega) k2 k3
      rw [if_pos c, k1, zs_1, l1, zs_1]
      exact j167 (by unfold tL; rw [if_pos c]; exact l2) l3
    · rw [if_neg c]
      exact j167 (by unfold tL; rw [if_neg c]; exact h1) h2
  unfold r5_describe_j14 sw
  rw [zs_b, us_s, if_pos rfl, zs_b]
  have f0 : ∀ r, r ≠ 0 → r ≠ 12 → r ≠ 13 → us (us M 0 0) 13 0 r = M r := fun r r0 _ r13 => by rw [us_n _ _ _ r13, us_n _ _ _ r0]
  have l0 : LT (us (us M 0 0) 13 0) [] := ⟨us_s _ _ _ ▸ rfl, fun i hi => absurd hi (Nat.not_lt_zero i)⟩
  rw [zo28 (hof f0) he he', zs_1]
  obtain ⟨M1, m1, m2, m3⟩ := step (48 + T 5 e) (by decide) l0 f0
  rw [m1, zs_1]
  refine zi2k (F := r5_describe_b47 (nI e) b) (a0 := M1) 6 (fun i N => LT N (tG T e i) ∧ ∀ r, r ≠ 0 → r ≠ 12 → r ≠ 13 → N r = M r) (fun N => LT N (tG T e 6) ∧ ∀ r, r ≠ 0 → r ≠ 12 → r ≠ 13 → N r = M r) (by decide) (fun N h1 h2 => ?_) ⟨m2, m3⟩ (fun i N hi hI => Or.inl ?_) (fun N hI => ⟨N, ?_, hI⟩)
  · obtain ⟨n1, n2⟩ := h2
    have hlen := tG_len T e 6
    rw [h1, zs_1, zo56 (hof n2) he he', zs_1]
    by_cases c : T 7 e = 0
    · rw [if_pos (show T 7 e ≤ 0 by rw [c]; decide)]
      exact j144 (by unfold tN; rw [if_pos c]; exact n1) n2
    · have hx0 : x ≠ 0 := fun z => c (by rw [x2, z]; decide)
      obtain ⟨M2, k1, k2, k3⟩ := step 47 (by omega) n1 n2
      rw [x2, if_neg (show ¬ nI x ≤ (0 : Int32) from nI_nle (by omega) (by omega)), k1, zs_1]
      unfold r5_describe_j133
      by_cases c9 : nI x ≤ 9
      · obtain ⟨M3, l1, l2, l3⟩ := step (48 + im (nI x) 10) (by rw [List.length_append, List.length_singleton]; omega) k2 k3
        rw [if_pos c9, l1, zs_1]
        exact j144 (by unfold tN nds; rw [if_neg c, x2, if_pos c9]; exact l2) l3
      · obtain ⟨M3, l1, l2, l3⟩ := step 49 (by rw [List.length_append, List.length_singleton]; omega) k2 k3
        obtain ⟨M4, o1, o2, o3⟩ := step (48 + im (nI x) 10) (by rw [List.length_append, List.length_append, List.length_singleton, List.length_singleton]; omega) l2 l3
        rw [if_neg c9, l1, zs_1, o1, zs_1]
        exact j144 (by unfold tN nds; rw [if_neg c, x2, if_neg c9]; rw [List.append_assoc] at o2; exact o2) o3
  · obtain ⟨n1, n2⟩ := hI
    have hlen := tG_len T e i
    unfold r5_describe_b47 r5_describe_j86
    rw [if_neg (show ¬ (6 : Int32) ≤ nI i from nI_ge (b := 6) hi (by decide)), zo42 (hof n2) he he', zs_1, z_bit _ (show i < 32 by omega), n1.1, tG_s]
    cases hb : bt (T 6 e) i
    · refine ⟨N, ?_, n1, n2⟩
      simp only [if_true, Bool.false_eq_true, if_false]
    · obtain ⟨M2, k1, k2, k3⟩ := step (if (tG T e i).length = 1 then (58 : Int32) else 44) (by omega) n1 n2
      obtain ⟨M3, l1, l2, l3⟩ := step (48 + nI i) (by rw [List.length_append, List.length_singleton]; omega) k2 k3
      refine ⟨M3, ?_, l2, l3⟩
      simp only [if_true, show ¬ (1 : Int32) = 0 by decide, if_false]
      by_cases c : (tG T e i).length = 1
      · rw [if_pos c] at k1
        rw [if_pos (show nI (tG T e i).length = (1 : Int32) by rw [c]; exact id rfl), k1, zs_1, l1, zs_1]
      · rw [if_neg c] at k1
        rw [if_neg (show ¬ nI (tG T e i).length = (1 : Int32) from fun z => c ((nI_eq (by omega) (show 1 < 2 ^ 31 by decide)).mp z)), k1, zs_1, l1, zs_1]
  · unfold r5_describe_b47
    rw [if_pos (show (6 : Int32) ≤ nI 6 by decide)]
theorem ca_describe (hW : WF T n) (hR : RB (M 1) T n) (a b : Int32) : ∃ o v M', r4_describe T a b = some o ∧ r5_describe M a b = some (v, M') ∧ agr cdE o v (M' 0 0) ∧ RB (M' 1) T n ∧ KP M M' := by
  unfold r4_describe r5_describe
  rcases ev_cases hW hR a with ⟨h1, h2⟩ | ⟨e, he, rfl, h1, h2⟩
  · rw [h1, zs_1, zx_l, h2, zs_1, if_pos rfl]
    unfold r5_describe_j14 sw
    rw [zs_b, us_s, if_neg (show ¬ (1 : Int32) = 0 by decide)]
    exact ⟨_, _, _, rfl, rfl, ⟨by rw [us_s]; exact id rfl, by rw [us_s]; decide⟩, hR.z _, KP.z M 1⟩
  · obtain ⟨v, M', d1, M1, d2, d3, d4⟩ := desc_z hW hR he b
    have hlen := tL_len T e
    obtain ⟨o, v', M'', a1, a2, a3, a4⟩ := ask_z d2 hlen.1 (by omega) b
    rw [d4] at a2
    obtain ⟨rfl, rfl⟩ := Prod.mk.inj (Option.some.inj a2)
    rw [h1, zs_1, zx_r, h2, zs_1, if_neg (show ¬ (1 : Int32) = 0 by decide), textOf_z hW he, zs_b, d1]
    have hk : ∀ r, r ≠ 0 → r ≠ 12 → r ≠ 13 → M' r = M r := fun r r0 r12 r13 => (a4 r r0).trans (d3 r r0 r12 r13)
    refine ⟨o, v, M', a1, rfl, a3, by rw [hk 1 (by decide) (by decide) (by decide)]; exact hR, ⟨fun k _ => by rw [hk 1 (by decide) (by decide) (by decide)], by rw [hk 2 (by decide) (by decide) (by decide)], by rw [hk 3 (by decide) (by decide) (by decide)], hk 4 (by decide) (by decide) (by decide), by rw [hk 5 (by decide) (by decide) (by decide)], by rw [hk 7 (by decide) (by decide) (by decide)]⟩⟩
end C8
