/-! THE PURE LAYER: steps of improvement -/
abbrev IO2 : Type := Int32 × Option (Nat × Nat)
def impI (T : OS) (n e : Nat) (s : IO2) (p : Nat) : IO2 := if obs T e p = 0 then (if cst (mv T e p) n < s.1 then (cst (mv T e p) n, some (e, p)) else s) else s
def impO (T : OS) (n : Nat) (s : IO2) (e : Nat) : IO2 := if plc T e && decide (T 12 e = 0) then zfo (impI T n e) s 60 else s
def impF (T : OS) (n : Nat) : Nat → IO2 := zfo (impO T n) (cst T n, none)
def oE (o : Option (Nat × Nat)) : Int32 := match o with | some z => nI z.1 | none => -1
def oP (o : Option (Nat × Nat)) : Int32 := match o with | some z => nI z.2 | none => -1
/-- where the best place is -/
def okI (T : OS) (n : Nat) (s : IO2) : Prop := match s.2 with | none => s.1 = cst T n | some z => z.1 < n ∧ z.2 < 60 ∧ s.1 = cst (mv T z.1 z.2) n
theorem impI_l {T : OS} {n e : Nat} {l : Int32} (o : Option (Nat × Nat)) : ∀ k, zfo (impI T n e) (l, o) k = ((zfo (impI T n e) (l, none) k).1, match (zfo (impI T n e) (l, none) k).2 with | none => o | some z => some z)
  | 0 => rfl
  | k + 1 => by
    show impI T n e (zfo (impI T n e) (l, o) k) k = _
    rw [impI_l o k]
    show impI T n e ((zfo (impI T n e) (l, none) k).1, _) k = ((impI T n e (zfo (impI T n e) (l, none) k) k).1, match (impI T n e (zfo (impI T n e) (l, none) k) k).2 with | none => o | some z => some z)
    generalize zfo (impI T n e) (l, none) k = s
    unfold impI
    by_cases c : obs T e k = 0
    · rw [if_pos c, if_pos c]
      by_cases c2 : cst (mv T e k) n < s.1
      · rw [if_pos c2, if_pos c2]
      · rw [if_neg c2, if_neg c2]
    · rw [if_neg c, if_neg c]
theorem impI_n {T : OS} {n e : Nat} {l : Int32} : ∀ k, k ≤ 60 → (zfo (impI T n e) (l, none) k = (l, none)) ∨ ∃ p, p < k ∧ zfo (impI T n e) (l, none) k = (cst (mv T e p) n, some (e, p))
  | 0, _ => Or.inl rfl
  | k + 1, hk => by
    have hs : zfo (impI T n e) (l, none) (k + 1) = impI T n e (zfo (impI T n e) (l, none) k) k := rfl
    rw [hs]
    have ih := impI_n (T := T) (n := n) (e := e) (l := l) k (by omega)
    revert ih
    generalize zfo (impI T n e) (l, none) k = s
    intro ih
    have ih' : s = (l, none) ∨ ∃ p, p < k + 1 ∧ s = (cst (mv T e p) n, some (e, p)) := by
      rcases ih with h | ⟨p, hp, h⟩
      · exact Or.inl h
      · exact Or.inr ⟨p, by omega, h⟩
    unfold impI
    by_cases c : obs T e k = 0
    · rw [if_pos c]
      by_cases c2 : cst (mv T e k) n < s.1
      · rw [if_pos c2]
        exact Or.inr ⟨k, by omega, rfl⟩
      · rw [if_neg c2]; exact ih'
    · rw [if_neg c]; exact ih'
theorem impF_ok {T : OS} {n : Nat} (hW : WF T n) : ∀ m, m ≤ 14 → okI T n (impF T n m)
  | 0, _ => rfl
  | m + 1, hm => by
    have hs : impF T n (m + 1) = impO T n (impF T n m) m := rfl
    rw [hs]
    unfold impO
    cases hc : (plc T m && decide (T 12 m = 0))
    · exact impF_ok hW m (by omega)
    · rw [if_pos rfl]
      have hmn : m < n := by
        rw [Bool.and_eq_true] at hc
        rcases hW.plW (show m < 14 by omega) with ⟨_, h⟩ | ⟨_, _, _, h, _⟩
        · rw [h] at hc; exact absurd hc.1 (by decide)
        · exact h
      have ih := impF_ok hW m (by omega)
      obtain ⟨⟨l, o⟩, hs0⟩ : ∃ s, s = impF T n m := ⟨_, rfl⟩
      rw [← hs0] at ih ⊢
      rw [impI_l o 60]
      rcases impI_n (T := T) (n := n) (e := m) (l := l) 60 (Nat.le_refl 60) with h | ⟨p, hp, h⟩
      · rw [h]; exact ih
      · rw [h]; exact ⟨hmn, hp, rfl⟩
theorem impF_ext {T : OS} {n : Nat} (hW : WF T n) : impF T n 14 = impF T n n := zfo_ext hW.le (fun i h1 h2 b => by
  unfold impO
  rw [plc_out hW h1 h2]; rfl)
theorem r2_cheaperPlace_z {T : OS} {n e : Nat} (hW : WF T n) (he : e < 14) (l : Int32) : r2_cheaperPlace T (nI e) l = some (if plc T e && decide (T 12 e = 0) then oP (zfo (impI T n e) (l, none) 60).2 else -1, T) := by
  unfold r2_cheaperPlace
  rw [z_rd he (by decide), zs_b]
  rcases hW.plW he with ⟨p1, p2⟩ | ⟨p1, p2, _, hen, p3⟩
  · rw [p1, p2, if_pos rfl]; rfl
  · rw [p2, p3, if_neg (z_nm1 (by omega)), z_rd he (by decide), zs_b]
    by_cases c : T 12 e = 0
    · rw [if_pos c, decide_eq_true c]
      refine zi4k (F := r2_cheaperPlace_b35 (nI e)) (a0 := T) (b0 := l) (d0 := (-1 : Int32)) 60 (fun k a b d => a = T ∧ b = (zfo (impI T n e) (l, none) k).1 ∧ d = oP (zfo (impI T n e) (l, none) k).2) (fun r => r = (T, oP (zfo (impI T n e) (l, none) 60).2)) (by decide) (fun r h1 h2 => ?_) ⟨rfl, rfl, rfl⟩ (fun k a b d hk hI => Or.inl ?_) (fun a b d hI => ⟨(a, d), ?_, by rw [hI.1, hI.2.2]⟩)
      · rw [h1, h2, zs_2]; rfl
      · obtain ⟨rfl, rfl, rfl⟩ := hI
        have hs : zfo (impI a n e) (l, none) (k + 1) = impI a n e (zfo (impI a n e) (l, none) k) k := rfl
        unfold r2_cheaperPlace_b35
        rw [if_neg (show ¬ (60 : Int32) ≤ nI k from nI_ge hk (by decide)), r3_obstacleAt_z hW hen hk, zs_1, r3_costIf_z hW hen hk, zs_2, hs]
        generalize zfo (impI a n e) (l, none) k = s
        unfold impI
        by_cases c1 : obs a e k = 0
        · rw [if_pos c1, if_pos c1]
          by_cases c2 : s.1 ≤ cst (mv a e k) n
          · rw [if_pos c2, if_neg (fun z => z_nle_lt.mpr z c2)]
            exact ⟨_, _, _, rfl, rfl, rfl, rfl⟩
          · rw [if_neg c2, if_pos (z_nle_lt.mp c2)]
            exact ⟨_, _, _, rfl, rfl, rfl, rfl⟩
        · rw [if_neg c1, if_neg c1]
          exact ⟨_, _, _, rfl, rfl, rfl, rfl⟩
      · unfold r2_cheaperPlace_b35
        rw [if_pos (show (60 : Int32) ≤ nI 60 by decide)]
    · rw [if_neg c, decide_eq_false c]; rfl
/-- one step, if there is one -/
def stpS (T : OS) (n : Nat) : Option OS := match (impF T n n).2 with | some z => some (mv T z.1 z.2) | none => none
theorem stp_WF {T T' : OS} {n : Nat} (hW : WF T n) (h : stpS T n = some T') : WF T' n := by
  unfold stpS at h
  have hok := impF_ok hW n hW.le
  unfold okI at hok
  split at h
  · next z hz =>
    cases h
    rw [hz] at hok
    exact hW.mvW hok.1 hok.2.1
  · cases h
theorem r2_makeStep_z {T : OS} {n : Nat} (hW : WF T n) : r2_makeStep T = some (match stpS T n with | some T' => (1, T') | none => (0, T)) := by
  have hn := hW.le
  unfold r2_makeStep
  rw [r3_totalCost_z hW, zs_1]
  refine zi5k (F := r2_makeStep_b15) (a0 := T) (b0 := cst T n) (d0 := (-1 : Int32)) (e0 := (-1 : Int32)) 14 (fun k a b d e => a = T ∧ b = (impF T n k).1 ∧ d = oE (impF T n k).2 ∧ e = oP (impF T n k).2) (fun r => r = (T, oE (impF T n n).2, oP (impF T n n).2)) (by decide) (fun r h1 h2 => ?_) ⟨rfl, rfl, rfl, rfl⟩ (fun k a b d e hk hI => Or.inl ?_) (fun a b d e hI => ⟨(a, d, e), ?_, by rw [hI.1, hI.2.2.1, hI.2.2.2, impF_ext hW]⟩)
  · rw [h1, h2, zs_3]
    have hok := impF_ok hW n hn
    unfold okI at hok
    unfold stpS
    cases hz : (impF T n n).2 with
    | none => rfl
    | some z =>
      rw [hz] at hok
      obtain ⟨q1, q2, _⟩ := hok
      show (if nI z.1 = -1 then some (0, T) else bd1 (r3_moveTo T (nI z.1) (nI z.2)) fun T9 => some (1, T9)) = _
      rw [if_neg (z_nm1 (by omega)), r3_moveTo_z T (show z.1 < 14 by omega) q2, zs_1]
  · obtain ⟨rfl, rfl, rfl, rfl⟩ := hI
    have hs : impF a n (k + 1) = impO a n (impF a n k) k := rfl
    unfold r2_makeStep_b15
    rw [if_neg (show ¬ (14 : Int32) ≤ nI k from nI_ge hk (by decide)), r2_cheaperPlace_z hW hk, zs_2, hs]
    unfold impO
    cases hc : (plc a k && decide (a 12 k = 0))
    · rw [if_neg (show ¬ (false = true) by decide), if_pos rfl, if_neg (show ¬ (false = true) by decide)]
      exact ⟨_, _, _, _, rfl, rfl, rfl, rfl, rfl⟩
    · rw [if_pos rfl, if_pos rfl]
      have hkn : k < n := by
        rw [Bool.and_eq_true] at hc
        rcases hW.plW hk with ⟨_, h⟩ | ⟨_, _, _, h, _⟩
        · rw [h] at hc; exact absurd hc.1 (by decide)
        · exact h
      obtain ⟨⟨l, o⟩, hs0⟩ : ∃ s, s = impF a n k := ⟨_, rfl⟩
      rw [← hs0]
      rw [impI_l o 60]
      rcases impI_n (T := a) (n := n) (e := k) (l := l) 60 (Nat.le_refl 60) with h | ⟨p, hp, h⟩
      · rw [h]
        show ∃ a' b' d' e', (if (-1 : Int32) = -1 then _ else _) = _ ∧ _
        rw [if_pos rfl]
        exact ⟨_, _, _, _, rfl, rfl, rfl, rfl, rfl⟩
      · rw [h]
        show ∃ a' b' d' e', (if nI p = -1 then _ else bd2 (r3_costIf a (nI k) (nI p)) _) = _ ∧ _
        rw [if_neg (z_nm1 (by omega)), r3_costIf_z hW hkn hp, zs_2]
        exact ⟨_, _, _, _, rfl, rfl, rfl, rfl, rfl⟩
  · unfold r2_makeStep_b15
    rw [if_pos (show (14 : Int32) ≤ nI 14 by decide)]
theorem r5_improves_z {M T : OS} {n : Nat} (hW : WF T n) (hR : RB (M 1) T n) : ∃ v M', r5_improves M = some (v, M') ∧ FK S0 M M' ∧ match stpS T n with | some T' => v = 1 ∧ RB (M' 1) T' n | none => v = 0 ∧ RB (M' 1) T n := by
  have hn := hW.le
  unfold r5_improves
  rw [r5_costs_z hW hR, zs_1]
  refine zi5k (F := r5_improves_b12) (a0 := M) (b0 := cst T n) (d0 := (-1 : Int32)) (e0 := (-1 : Int32)) n (fun k a b d e => a = M ∧ b = (impF T n k).1 ∧ d = oE (impF T n k).2 ∧ e = oP (impF T n k).2) (fun r => r = (M, oE (impF T n n).2, oP (impF T n n).2)) (by omega) (fun r h1 h2 => ?_) ⟨rfl, rfl, rfl, rfl⟩ (fun k a b d e hk hI => Or.inl ?_) (fun a b d e hI => ⟨(a, d, e), ?_, by rw [hI.1, hI.2.2.1, hI.2.2.2]⟩)
  · rw [h1, h2, zs_3]
    have hok := impF_ok hW n hn
    unfold okI at hok
    unfold stpS r5_improves_j121
    cases hz : (impF T n n).2 with
    | none => exact ⟨0, M, rfl, FK.refl _ _, rfl, hR⟩
    | some z =>
      rw [hz] at hok
      obtain ⟨q1, q2, _⟩ := hok
      refine ⟨1, ly M z.1 (nI z.2), ?_, FK.ly (by omega), rfl, hR.mvW hn (by omega)⟩
      show (if nI z.1 < 0 then _ else bd1 (r5_lays M (nI z.1) (nI z.2)) fun M16 => if nI z.1 < 0 then some (0, M16) else some (1, M16)) = _
      rw [if_neg (nI_pos (by omega)), r5_lays_z M (show z.1 < 14 by omega), zs_1, if_neg (nI_pos (by omega))]
  · obtain ⟨rfl, rfl, rfl, rfl⟩ := hI
    have hk14 : k < 14 := by omega
    have hs : impF T n (k + 1) = impO T n (impF T n k) k := rfl
    unfold r5_improves_b12
    rw [zmany hR, zs_1, if_neg (nI_ge hk (by omega)), zo84 hR hk hk14, zs_1, zo98 hR hk hk14, zs_1, hs]
    unfold impO
    rcases hW.plW hk14 with ⟨p1, p2⟩ | ⟨p1, p2, _, hen, p3⟩
    · rw [p1, p2, if_pos z_m1lt]
      exact ⟨_, _, _, _, rfl, rfl, rfl, rfl, rfl⟩
    · rw [p2, p3, if_neg (nI_pos (by omega))]
      rcases hW.2.2.2.2.2 k hk14 with hx | hx
      · rw [hx, if_neg (show ¬ (0 : Int32) = 1 by decide), decide_eq_true rfl, if_pos (show (true && true) = true from rfl)]
        obtain ⟨⟨l, o⟩, hs0⟩ : ∃ s, s = impF T n k := ⟨_, rfl⟩
        rw [← hs0]
        refine zi5k (F := r5_improves_b50 (nI k)) (a0 := a) (b0 := l) (d0 := oE o) (e0 := oP o) 60 (fun p a' b d e => a' = a ∧ b = (zfo (impI T n k) (l, o) p).1 ∧ d = oE (zfo (impI T n k) (l, o) p).2 ∧ e = oP (zfo (impI T n k) (l, o) p).2) (fun r => r = (a, (zfo (impI T n k) (l, o) 60).1, oE (zfo (impI T n k) (l, o) 60).2, oP (zfo (impI T n k) (l, o) 60).2)) (by decide) (fun r h1 h2 => ?_) ⟨rfl, rfl, rfl, rfl⟩ (fun p a' b d e hp hI => Or.inl ?_) (fun a' b d e hI => ⟨(a', b, d, e), ?_, by rw [hI.1, hI.2.1, hI.2.2.1, hI.2.2.2]⟩)
        · show ∃ a' b' d' e', bd4 (it5 (r5_improves_b50 (nI k)) 200 a l (oE o) (oP o) 0) _ = _ ∧ _
          rw [h1, h2, zs_4]
          exact ⟨_, _, _, _, rfl, rfl, rfl, rfl, rfl⟩
        · obtain ⟨rfl, rfl, rfl, rfl⟩ := hI
          have hs2 : zfo (impI T n k) (l, o) (p + 1) = impI T n k (zfo (impI T n k) (l, o) p) p := rfl
          unfold r5_improves_b50
          rw [if_neg (show ¬ (60 : Int32) ≤ nI p from nI_ge hp (by decide)), r5_obstacleOf_z hW hR hk hp, zs_1, r5_costsAt_z hW hR hk hp, zs_2, hs2]
          generalize zfo (impI T n k) (l, o) p = s
          unfold impI
          by_cases c1 : obs T k p = 0
          · rw [if_pos c1, if_pos c1]
            by_cases c2 : cst (mv T k p) n < s.1
            · rw [if_pos c2, if_pos c2]
              exact ⟨_, _, _, _, rfl, rfl, rfl, rfl, rfl⟩
            · rw [if_neg c2, if_neg c2]
              exact ⟨_, _, _, _, rfl, rfl, rfl, rfl, rfl⟩
          · rw [if_neg c1, if_neg c1]
            exact ⟨_, _, _, _, rfl, rfl, rfl, rfl, rfl⟩
        · unfold r5_improves_b50
          rw [if_pos (show (60 : Int32) ≤ nI 60 by decide)]
      · rw [hx, if_pos rfl, decide_eq_false (show ¬ (1 : Int32) = 0 by decide)]
        exact ⟨_, _, _, _, rfl, rfl, rfl, rfl, rfl⟩
  · unfold r5_improves_b12
    rw [zmany (by rw [hI.1]; exact hR), zs_1, if_pos (nI_le (Nat.le_refl n) (by omega))]
/-- k steps at most: the table and how many were made -/
def stN (T : OS) (n : Nat) : Nat → OS × Nat
  | 0 => (T, 0)
  | k + 1 => match stpS (stN T n k).1 n with
    | some T' => (if (stN T n k).2 = k then T' else (stN T n k).1, if (stN T n k).2 = k then k + 1 else (stN T n k).2)
    | none => stN T n k
