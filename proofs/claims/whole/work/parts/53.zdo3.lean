/-! THE PURE LAYER: the last calls that change -/
section C6
variable {T Y B X M P : OS} {E : Nat → OS} {n : Nat}
def imS (n : Nat) (T : OS) (i : Nat) : OS ⊕ (OS × Nat) := match stpS T n with | some T' => .inl T' | none => .inr (T, i)
theorem imS_WF (hW : WF T n) : ∀ i, (∀ a, zlo (imS n) T i = .inl a → WF a n) ∧ (∀ r, zlo (imS n) T i = .inr r → WF r.1 n)
  | 0 => ⟨fun a h => by cases h; exact hW, fun r h => nomatch h⟩
  | i + 1 => by
    obtain ⟨h1, h2⟩ := imS_WF hW i
    cases hz : zlo (imS n) T i with
    | inr r =>
      rw [zlo_stay hz (Nat.le_succ i)]
      exact ⟨fun a h => (nomatch h), fun r' h => by cases h; exact h2 r hz⟩
    | inl b =>
      have hb := h1 b hz
      rw [zlo_s hz]
      unfold imS
      cases hst : stpS b n with
      | none => exact ⟨fun a h => (nomatch h), fun r h => by cases h; exact hb⟩
      | some T' => exact ⟨fun a h => by cases h; exact stp_WF hb hst, fun r h => (nomatch h)⟩
theorem r4_improve_in (hW : WF T n) (Y4 : OS) (E5 : Nat → OS) {k : Nat} (hk : k < 200) : it2 (r4_improve_b19 Y4 E5 (nI k)) 200 T 0 = some (match zlo (imS n) T k with | .inl a => .inl a | .inr r => .inr (.inr (nI r.2), r.1, Y4, E5)) := by
  rw [zl2 k (imS n) (fun a => Sum.inl a) (fun r => Sum.inr (Sum.inr (nI r.2), r.1, Y4, E5)) hk (fun i a hi h => ?_) (fun a h => ?_)]
  · cases zlo (imS n) T k <;> rfl
  · have hWa := (imS_WF hW i).1 a h
    unfold r4_improve_b19 imS
    rw [if_neg (nI_ge hi (by omega)), r2_makeStep_z hWa]
    cases stpS a n with
    | none => rw [zs_2, if_pos rfl]
    | some T' => rw [zs_2, if_neg z1n0]
  · unfold r4_improve_b19
    rw [if_pos (nI_le (Nat.le_refl k) (by omega))]
theorem r5_improve_in (hW : WF T n) (hR : RB (M 1) T n) {k : Nat} (hk : k < 200) : ∃ M', it2 (r5_improve_b33 (nI k)) 200 M 0 = some (M', match zlo (imS n) T k with | .inl _ => nI k | .inr r => nI r.2) ∧ FK S0 M M' ∧ RB (M' 1) (match zlo (imS n) T k with | .inl a => a | .inr r => r.1) n := by
  refine zi2k (F := r5_improve_b33 (nI k)) (a0 := M) k (fun i N => ∃ a, zlo (imS n) T i = .inl a ∧ RB (N 1) a n ∧ FK S0 M N) (fun r => ∃ M', r = (M', match zlo (imS n) T k with | .inl _ => nI k | .inr r => nI r.2) ∧ FK S0 M M' ∧ RB (M' 1) (match zlo (imS n) T k with | .inl a => a | .inr r => r.1) n) hk (fun r h1 h2 => ?_) ⟨T, rfl, hR, FK.refl _ _⟩ (fun i N hi hI => ?_) (fun N hI => ?_)
  · obtain ⟨M', rfl, h3⟩ := h2
    exact ⟨M', h1, h3⟩
  · obtain ⟨a, ha, hRa, hF⟩ := hI
    have hWa := (imS_WF hW i).1 a ha
    obtain ⟨v, M', p1, p2, p3⟩ := r5_improves_z hWa hRa
    unfold r5_improve_b33
    rw [if_neg (nI_ge hi (by omega)), p1, zs_2]
    cases hst : stpS a n with
    | none =>
      rw [hst] at p3
      obtain ⟨rfl, p4⟩ := p3
      right
      have hz : zlo (imS n) T (i + 1) = .inr (a, i) := by rw [zlo_s ha]; unfold imS; rw [hst]
      rw [if_pos rfl]
      refine ⟨_, rfl, M', ?_, hF.trans p2, ?_⟩
      · rw [zlo_stay hz (by omega)]
      · rw [zlo_stay hz (by omega)]; exact p4
    | some T' =>
      rw [hst] at p3
      obtain ⟨rfl, p4⟩ := p3
      left
      rw [if_neg z1n0]
      exact ⟨M', rfl, T', by rw [zlo_s ha]; unfold imS; rw [hst], p4, hF.trans p2⟩
  · obtain ⟨a, ha, hRa, hF⟩ := hI
    unfold r5_improve_b33
    rw [if_pos (nI_le (Nat.le_refl k) (by omega))]
    exact ⟨_, rfl, N, by rw [ha], hF, by rw [ha]; exact hRa⟩
theorem ca_improve (hW : WF T n) (hR : RB (M 1) T n) (hC : CI Y E B X M) (a : Int32) : ∃ o T' Y' E' v M', r4_improve T Y E a = some (o, T', Y', E') ∧ r5_improve M a = some (v, M') ∧ agr cdC o v (M' 0 0) ∧ Res B X T' Y' E' M' := by
  unfold r4_improve r5_improve r5_improve_j15
  rcases rg_cases a 1 5 with ⟨h1, h2⟩ | ⟨g1, g2, h1, h2⟩
  · rw [h1, zs_1, zx_l, h2, zs_1, if_pos rfl, show sw M 0 1 = some (us M 0 1) from rfl, zs_b, us_s, if_neg z1n0]
    refine ⟨_, _, _, _, _, _, rfl, rfl, ⟨?_, ?_⟩, ⟨n, hW, hR.z 1⟩, hC.kp (KP.z M 1)⟩
    · rw [us_s]; rfl
    · rw [us_s]; decide
  · have g0 : ¬ a < 0 := fun z => g1 (by
      rw [Int32.lt_iff_toInt_lt] at z ⊢
      rw [show (1 : Int32).toInt = 1 from by decide]
      rw [show (0 : Int32).toInt = 0 from by decide] at z
      omega)
    obtain ⟨k, hk, rfl⟩ := nI_of2 (M := 5) (n := 5) (by decide) g0 g2
    obtain ⟨Y', E', M1, k1, k2, k3, k4, k5⟩ := keepC hW (hR.z 0) (hC.kp (KP.z M 0))
    obtain ⟨M2, i1, i2, i3⟩ := r5_improve_in hW k4 (show k < 200 by omega)
    rw [h1, zs_1, zx_r, h2, zs_1, if_neg z1n0, k1, zs_2, r4_improve_in hW Y' E' (show k < 200 by omega), show sw M 0 0 = some (us M 0 0) from rfl, zs_b, us_s, if_pos rfl, k2, zs_1, i1, zs_2]
    have h0 : M2 0 0 = 0 := by rw [i2.1 0 (by decide) rfl, k5 0 (by decide) (by decide), us_s]
    cases hz : zlo (imS n) T k with
    | inl a =>
      rw [hz] at i3
      exact ⟨_, _, _, _, _, _, rfl, rfl, ⟨h0, rfl⟩, ⟨n, (imS_WF hW k).1 a hz, i3⟩, k3.kp (KP.of0 i2)⟩
    | inr r =>
      rw [hz] at i3
      exact ⟨_, _, _, _, _, _, rfl, rfl, ⟨h0, rfl⟩, ⟨n, (imS_WF hW k).2 r hz, i3⟩, k3.kp (KP.of0 i2)⟩
theorem ca_mark (hW : WF T n) (hR : RB (M 1) T n) (hC : CI Y E B X M) : ∃ v T' Y' E' M', r4_mark T Y E = some (v, T', Y', E') ∧ r5_mark M = some (v, M') ∧ Res B X T' Y' E' M' := by
  obtain ⟨Y', E', M1, k1, k2, k3, k4, k5⟩ := keepC hW (hR.z 0) (hC.kp (KP.z M 0))
  obtain ⟨N, n1, n2, n3⟩ := r5_mark_in hW k4
  have hWm := mk_WF hW
  unfold r4_mark r5_mark
  rw [k1, zs_2, show cpi 14 (T 9) T 11 = some (mkT T) from rfl, zs_b, r3_placedOnes_z hWm, zs_1, show sw M 0 0 = some (us M 0 0) from rfl, zs_b, k2, zs_1, n1, zs_1, zmany n2, zs_1, r5_unplaced_z hWm n2, zs_1, z_pla]
  exact ⟨_, _, _, _, _, rfl, rfl, ⟨n, hWm, n2⟩, k3.kp (KP.of0 n3)⟩
theorem ca_count (hW : WF T n) (hR : RB (M 1) T n) (hC : CI Y E B X M) (a : Int32) : ∃ o v M', r4_count T X Y a = some o ∧ r5_count M a = some (v, M') ∧ agr cdC o v (M' 0 0) ∧ RB (M' 1) T n ∧ KP M M' := by
  obtain ⟨c, nx, u, g1, g2, g3⟩ := hC
  have hR' := hR.z (M := M) 0
  unfold r4_count r5_count r5_count_j15
  rcases rg_cases a 0 4 with ⟨_, h4⟩ | ⟨f1, f2, _, h4⟩
  · rw [h4, zs_1, if_pos rfl, show sw M 0 1 = some (us M 0 1) from rfl, zs_b, us_s, if_neg z1n0]
    have hb : ∀ q, q < 5 → a ≠ nI q := fun q hq z => by
      rw [z, r5_in_z, if_neg (nI_pos (by omega)), if_neg (show ¬ (4 : Int32) < nI q from nI_nlt (a := 4) (by omega) (by decide))] at h4
      exact absurd (Option.some.inj h4) (by decide)
    rw [if_neg (show ¬ a = 0 from hb 0 (by decide)), if_neg (show ¬ a = 1 from hb 1 (by decide)), if_neg (show ¬ a = 2 from hb 2 (by decide)), if_neg (show ¬ a = 3 from hb 3 (by decide)), if_neg (show ¬ a = 4 from hb 4 (by decide))]
    refine ⟨_, _, _, rfl, rfl, ⟨?_, ?_⟩, hR.z 1, KP.z M 1⟩
    · rw [us_s]; rfl
    · rw [us_s]; decide
  · rw [h4, zs_1, if_neg z1n0]
    obtain ⟨q, hq, rfl⟩ := nI_of2 (M := 4) (n := 4) (by decide) f1 f2
    rw [show sw M 0 0 = some (us M 0 0) from rfl, zs_b, us_s, if_pos rfl, r5_fixed_in hW hR', zs_1, zmany hR', zs_1, zs_1, r5_unplaced_z hW hR', zs_1, z_pla, r3_placedOnes_z hW, zs_1, r3_fixedOnes_z hW, zs_1, hW.2.1, us_n _ _ _ (show (5 : Nat) ≠ 0 by decide), us_n _ _ _ (show (2 : Nat) ≠ 0 by decide)]
    have hq5 : q = 0 ∨ q = 1 ∨ q = 2 ∨ q = 3 ∨ q = 4 := by omega
    rcases hq5 with rfl | rfl | rfl | rfl | rfl
    · rw [if_pos (show nI 0 = 0 from rfl), if_pos (show nI 0 = 0 from rfl)]; exact ⟨_, _, _, rfl, rfl, ⟨us_s _ _ _ ▸ rfl, rfl⟩, hR.z _, KP.z M 0⟩
    · rw [if_neg (show ¬ nI 1 = 0 by decide), if_neg (show ¬ nI 1 = 0 by decide), if_pos (show nI 1 = 1 from rfl), if_pos (show nI 1 = 1 from rfl)]; exact ⟨_, _, _, rfl, rfl, ⟨us_s _ _ _ ▸ rfl, rfl⟩, hR.z _, KP.z M 0⟩
    · rw [if_neg (show ¬ nI 2 = 0 by decide), if_neg (show ¬ nI 2 = 0 by decide), if_neg (show ¬ nI 2 = 1 by decide), if_neg (show ¬ nI 2 = 1 by decide), if_pos (show nI 2 = 2 from rfl), if_pos (show nI 2 = 2 from rfl)]; exact ⟨_, _, _, rfl, rfl, ⟨us_s _ _ _ ▸ rfl, rfl⟩, hR.z _, KP.z M 0⟩
    · rw [if_neg (show ¬ nI 3 = 0 by decide), if_neg (show ¬ nI 3 = 0 by decide), if_neg (show ¬ nI 3 = 1 by decide), if_neg (show ¬ nI 3 = 1 by decide), if_neg (show ¬ nI 3 = 2 by decide), if_neg (show ¬ nI 3 = 2 by decide), if_pos (show nI 3 = 3 from rfl), if_pos (show nI 3 = 3 from rfl)]
      exact ⟨_, _, _, rfl, rfl, ⟨us_s _ _ _ ▸ rfl, by rw [g3.2.1, g3.2.2.1]⟩, hR.z _, KP.z M 0⟩
    · rw [if_neg (show ¬ nI 4 = 0 by decide), if_neg (show ¬ nI 4 = 0 by decide), if_neg (show ¬ nI 4 = 1 by decide), if_neg (show ¬ nI 4 = 1 by decide), if_neg (show ¬ nI 4 = 2 by decide), if_neg (show ¬ nI 4 = 2 by decide), if_neg (show ¬ nI 4 = 3 by decide), if_neg (show ¬ nI 4 = 3 by decide), if_pos (show nI 4 = 4 from rfl)]
      exact ⟨_, _, _, rfl, rfl, ⟨us_s _ _ _ ▸ rfl, by rw [g1.2.2.1, g1.2.2.2.1]⟩, hR.z _, KP.z M 0⟩
theorem ca_undo (hW : WF T n) (hR : RB (M 1) T n) (hC : CI Y E B X M) : ∃ o T' Y' v M', r4_undo T Y E = some (o, T', Y') ∧ r5_undo M = some (v, M') ∧ agr cdU o v (M' 0 0) ∧ Res B X T' Y' E M' := by
  have hC0 := hC
  obtain ⟨c, nx, u, g1, g2, g3⟩ := hC
  unfold r4_undo r5_undo r5_undo_j13
  rw [g1.2.2.1, g1.2.2.2.1]
  by_cases hc : c = 0
  · rw [hc, if_pos (show nI 0 = 0 from rfl), if_pos (show nI 0 = 0 from rfl), show sw M 0 1 = some (us M 0 1) from rfl, zs_b, us_s, if_neg z1n0]
    refine ⟨_, _, _, _, _, rfl, rfl, ⟨?_, ?_⟩, ⟨n, hW, hR.z 1⟩, hC0.kp (KP.z M 1)⟩
    · rw [us_s]; rfl
    · rw [us_s]; decide
  · have hne : ¬ nI c = 0 := nI_ne0 (by omega) (by have := g1.1; omega)
    have k0 := KP.z M 0
    have h1 : HI Y E (us M 0 0) c nx := g1.rows (us_n _ _ _ (by decide)) (us_n _ _ _ (by decide))
    obtain ⟨T', Y', M', m, nx', t1, t2, t3, t4, t5, t6, t7⟩ := undo_z (T := T) h1 hc
    rw [if_neg hne, if_neg hne, t1, zs_2, show sw M 0 0 = some (us M 0 0) from rfl, zs_b, us_s, if_pos rfl, t2, zs_1, show sw M' 2 (M' 2 0 - 1) = some (us M' 2 (M' 2 0 - 1)) from rfl, zs_b]
    have hR2 : RB (us M' 2 (M' 2 0 - 1) 1) T' m := by rw [us_n _ _ _ (by decide)]; exact t4
    have e : ∀ r, r ≠ 0 → r ≠ 1 → r ≠ 2 → us M' 2 (M' 2 0 - 1) r = M r := fun r a0 a1 a2 => by rw [us_n _ _ _ a2, t6 r a1, us_n _ _ _ a0]
    refine ⟨_, _, _, _, _, rfl, rfl, ⟨?_, ?_⟩, ⟨m, t3, hR2⟩, c - 1, nx', u, t5, ?_, ?_⟩
    · rw [us_n _ _ _ (by decide), t6 0 (by decide), us_s]
    · rw [t5.2.2.2.1, t5.2.2.1]
    · unfold SV
      rw [e 3 (by decide) (by decide) (by decide)]
      refine ⟨g2.1, ?_⟩
      rcases g2.2 with h | ⟨h, mm, v1, v2⟩
      · exact Or.inl h
      · refine Or.inr ⟨h, mm, v1, v2.fn v1.le (fun i hi => ?_)⟩
        rw [us_n _ _ _ (by decide), t7 _ (by omega), us_n _ _ _ (by decide)]
    · unfold TX
      rw [e 5 (by decide) (by decide) (by decide), e 4 (by decide) (by decide) (by decide), e 7 (by decide) (by decide) (by decide)]
      exact g3
theorem ca_save (hW : WF T n) (hR : RB (M 1) T n) (hC : CI Y E B X M) : ∃ v E' B' M', r4_save T E B = some (v, E', B') ∧ r5_save M = some (v, M') ∧ Res B' X T Y E' M' := by
  obtain ⟨c, nx, u, g1, g2, g3⟩ := hC
  have hn := hW.le
  obtain ⟨Q, q1, q2⟩ := r3_copyFrom_z hW (E 7)
  obtain ⟨M', m1, m2, m3, m4⟩ := r5_copies_z (us (us M 0 0) 3 1) (show 0 ≤ 7 by decide) (show 7 ≤ 7 by decide) (by decide)
  have e1 : us (us M 0 0) 3 1 1 = M 1 := by rw [us_n _ _ _ (by decide), us_n _ _ _ (by decide)]
  rw [e1] at m3 m4
  have hR' : RB (M' 1) T n := hR.fn hn (fun i hi => m4 i (by omega))
  unfold r4_save r5_save r3_save
  rw [q1, zs_b, zs_1, z_zz1, zs_b, show sw B 5 1 = some (us B 5 1) from rfl, zs_b, show sw M 0 0 = some (us M 0 0) from rfl, zs_b, zs_b, show sw (us M 0 0) 3 1 = some (us (us M 0 0) 3 1) from rfl, zs_b, show r5_copies (us (us M 0 0) 3 1) 0 7 = some M' from m1, zs_1, zmany hR', zs_1, hW.2.1]
  have e : ∀ r, r ≠ 0 → r ≠ 1 → r ≠ 3 → M' r = M r := fun r a0 a1 a3 => by rw [m2 r a1, us_n _ _ _ a3, us_n _ _ _ a0]
  refine ⟨_, _, _, _, rfl, rfl, ⟨n, hW, hR'⟩, c, nx, u, ⟨g1.1, g1.2.1, g1.2.2.1, by rw [e 2 (by decide) (by decide) (by decide)]; exact g1.2.2.2.1, g1.2.2.2.2.1, fun k k1 k2 => ?_⟩, ⟨?_, Or.inr ⟨us_s _ _ _ ▸ rfl, n, ?_, ?_⟩⟩, ?_⟩
  · obtain ⟨m, w1, w2⟩ := g1.2.2.2.2.2 k k1 k2
    have h7 : rix nx c k ≠ 7 := by unfold rix; omega
    have hc6 := g1.1
    unfold upE
    rw [if_neg h7]
    exact ⟨m, w1, w2.fn w1.le (fun i hi => m4 _ (by omega))⟩
  · rw [us_s, m2 3 (by decide), us_s]
  · unfold upE; rw [if_pos rfl]; exact q2.wf hW
  · unfold upE; rw [if_pos rfl]
    refine q2.rb hn (hR.fn hn (fun i hi => ?_))
    have := m3 i hi
    rw [Nat.mul_zero, Nat.zero_add] at this
    exact this
  · unfold TX
    rw [e 5 (by decide) (by decide) (by decide), e 4 (by decide) (by decide) (by decide), e 7 (by decide) (by decide) (by decide)]
    exact g3
theorem ca_restore (hW : WF T n) (hR : RB (M 1) T n) (hC : CI Y E B X M) : ∃ o T' Y' E' v M', r4_restore T Y E B = some (o, T', Y', E') ∧ r5_restore M = some (v, M') ∧ agr cdU o v (M' 0 0) ∧ Res B X T' Y' E' M' := by
  have hC0 := hC
  obtain ⟨_, _, _, _, g2, _⟩ := hC
  unfold r4_restore r5_restore r5_restore_j13
  rw [← g2.1]
  rcases g2.2 with h0 | ⟨h1, mm, v1, v2⟩
  · rw [h0, if_pos rfl, if_pos rfl, show sw M 0 1 = some (us M 0 1) from rfl, zs_b, us_s, if_neg z1n0]
    refine ⟨_, _, _, _, _, _, rfl, rfl, ⟨?_, ?_⟩, ⟨n, hW, hR.z 1⟩, hC0.kp (KP.z M 1)⟩
    · rw [us_s]; rfl
    · rw [us_s]; decide
  · obtain ⟨Y', E', M1, k1, k2, k3, k4, k5⟩ := keepC hW (hR.z 0) (hC0.kp (KP.z M 0))
    obtain ⟨c', nx', u', g1', g2', g3'⟩ := k3
    rcases g2'.2 with h0 | ⟨_, mm', v1', v2'⟩
    · rw [h1] at h0; exact absurd h0 z1n0
    · obtain ⟨Q, q1, q2⟩ := r3_copyFrom_z v1' T
      obtain ⟨M', m1, m2, m3, m4⟩ := r5_copies_z M1 (show 7 ≤ 7 by decide) (show 0 ≤ 7 by decide) (by decide)
      have hWQ := q2.wf v1'
      have hRQ : RB (M' 1) Q mm' := q2.rb v1'.le (v2'.fn v1'.le (fun i hi => by
        have := m3 i hi
        rw [Nat.mul_zero, Nat.zero_add] at this
        exact this))
      unfold r3_load
      rw [h1, if_neg z1n0, if_neg z1n0, k1, zs_2, q1, zs_1, show sw M 0 0 = some (us M 0 0) from rfl, zs_b, us_s, if_pos rfl, k2, zs_1, show r5_copies M1 7 0 = some M' from m1, zs_1, zmany hRQ, zs_1, hWQ.2.1]
      have kp : KP M1 M' := ⟨fun k hk => m4 k (by omega), by rw [m2 2 (by decide)], by rw [m2 3 (by decide)], m2 4 (by decide), by rw [m2 5 (by decide)], by rw [m2 7 (by decide)]⟩
      refine ⟨_, _, _, _, _, _, rfl, rfl, ⟨?_, rfl⟩, ⟨mm', hWQ, hRQ⟩, CI.kp ⟨c', nx', u', g1', g2', g3'⟩ kp⟩
      rw [m2 0 (by decide), k5 0 (by decide) (by decide), us_s]
end C6
