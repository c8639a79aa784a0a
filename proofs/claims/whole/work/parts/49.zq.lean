/-! THE PURE LAYER: calls that set or ask -/
def cdB : Nat → Option Int32 := fun k => if k = 1 then some 1 else if k = 0 then some 2 else none
def cdE : Nat → Option Int32 := fun k => if k = 0 then some 1 else none
def cdC : Nat → Option Int32 := fun k => if k = 1 then some 1 else none
def cdF : Nat → Option Int32 := fun k => if k = 0 then some 1 else if k = 4 then some 2 else none
def cdG : Nat → Option Int32 := fun k => if k = 0 then some 1 else if k = 2 then some 2 else none
def cdP : Nat → Option Int32 := fun k => if k = 0 then some 1 else if k = 3 then some 2 else if k = 2 then some 3 else none
def cdS : Nat → Option Int32 := fun k => if k = 0 then some 1 else if k = 1 then some 2 else if k = 2 then some 3 else none
def cdI : Nat → Option Int32 := fun k => if k = 0 then some 1 else if k = 2 then some 2 else if k = 3 then some 3 else none
def cdT : Nat → Option Int32 := fun k => if k = 1 then some 1 else if k = 2 then some 2 else none
def cdU : Nat → Option Int32 := fun k => if k = 2 then some 1 else none
section C2
variable {T Y B X M : OS} {E : Nat → OS} {n : Nat}
theorem z1n0 : ¬ (1 : Int32) = 0 := by decide
theorem ca_setGroup (hW : WF T n) (hR : RB (M 1) T n) (hC : CI Y E B X M) (a b : Int32) : ∃ o T' Y' E' v M', r4_setGroup T Y E a b = some (o, T', Y', E') ∧ r5_setGroup M a b = some (v, M') ∧ agr cdA o v (M' 0 0) ∧ Res B X T' Y' E' M' := by
  have bad : ∀ (k : Nat) (th : Int32), th ≠ 0 → cdA k = some th → ∃ M', r5_setGroup_j29 M a b th = some (0, M') ∧ agr cdA (.inl k) 0 (M' 0 0) ∧ Res B X T Y E M' := fun k th h0 hk => by
    refine ⟨us M 0 th, ?_, ?_, ⟨n, hW, hR.z _⟩, hC.kp (KP.z M th)⟩
    · unfold r5_setGroup_j29 sw
      rw [zs_b, us_s, if_neg h0]
    · rw [us_s]; exact ⟨hk, h0⟩
  unfold r4_setGroup r5_setGroup
  rcases ix6 a with ⟨h1, h2⟩ | ⟨j, hj, rfl, h1, h2⟩
  · obtain ⟨M', m1, m2, m3⟩ := bad 0 1 (by decide) rfl
    rw [h1, zs_1, zx_l, h2, zs_1, if_pos rfl, m1]
    exact ⟨_, _, _, _, _, _, rfl, rfl, m2, m3⟩
  · rw [h1, zs_1, zx_r, h2, zs_1, if_neg z1n0]
    rcases rg_cases b 0 40 with ⟨h3, h4⟩ | ⟨_, _, h3, h4⟩
    · obtain ⟨M', m1, m2, m3⟩ := bad 1 2 (by decide) rfl
      rw [h3, zs_1, zx_l, h4, zs_1, if_pos rfl, m1]
      exact ⟨_, _, _, _, _, _, rfl, rfl, m2, m3⟩
    · rw [h3, zs_1, zx_r, h4, zs_1, if_neg z1n0]
      obtain ⟨Y', E', M1, k1, k2, k3, k4, k5⟩ := keepC hW (hR.z 0) (hC.kp (KP.z M 0))
      unfold r5_setGroup_j29 sw
      rw [k1, zs_2, z_wr hj (by decide), zs_b, zs_b, us_s, if_pos rfl, k2, zs_1, show (12 : Int32) = nI 12 from rfl, nI_add, z_wr (show 12 + j < 1008 by omega) (by decide), zs_b]
      have hW2 : WF (upr T 2 (upd (T 2) j b)) n := hW.rows (fun r hr => upr_n _ _ _ (by omega))
      have hR1 : RB (upd (M1 1) (12 + j) b) (upr T 2 (upd (T 2) j b)) n := k4.sett (r := 2) (by omega) (upr_s _ _ _) (fun q hq => upr_n _ _ _ hq)
      obtain ⟨M2, c1, c2, c3⟩ := r5_clears_z (M := upr M1 1 (upd (M1 1) (12 + j) b)) hW2 (by rw [upr_s]; exact hR1)
      rw [r3_unplaceUnsuitable_z hW2, zs_2, c1, zs_2]
      have kp : KP M1 M2 := KP.trans ⟨fun k hk => by rw [upr_s, upd_n (by omega)], by rw [upr_n _ _ _ (by decide)], by rw [upr_n _ _ _ (by decide)], by rw [upr_n _ _ _ (by decide)], by rw [upr_n _ _ _ (by decide)], by rw [upr_n _ _ _ (by decide)]⟩ (KP.of0 c3)
      refine ⟨_, _, _, _, _, _, rfl, rfl, ⟨?_, rfl⟩, ⟨n, clF_WF hW2 n, c2⟩, k3.kp kp⟩
      rw [c3.1 0 (by decide) rfl, upr_n _ _ _ (by decide), k5 0 (by decide) (by decide), us_s]
theorem ca_setTeacher (hW : WF T n) (hR : RB (M 1) T n) (hC : CI Y E B X M) (a b : Int32) : ∃ o T' Y' E' v M', r4_setTeacher T Y E a b = some (o, T', Y', E') ∧ r5_setTeacher M a b = some (v, M') ∧ agr cdA o v (M' 0 0) ∧ Res B X T' Y' E' M' := by
  have bad : ∀ (k : Nat) (th : Int32), th ≠ 0 → cdA k = some th → ∃ M', r5_setTeacher_j30 M a b th = some (0, M') ∧ agr cdA (.inl k) 0 (M' 0 0) ∧ Res B X T Y E M' := fun k th h0 hk => by
    refine ⟨us M 0 th, ?_, ?_, ⟨n, hW, hR.z _⟩, hC.kp (KP.z M th)⟩
    · unfold r5_setTeacher_j30 sw
      rw [zs_b, us_s, if_neg h0]
    · rw [us_s]; exact ⟨hk, h0⟩
  unfold r4_setTeacher r5_setTeacher
  rcases ix6 a with ⟨h1, h2⟩ | ⟨j, hj, rfl, h1, h2⟩
  · obtain ⟨M', m1, m2, m3⟩ := bad 0 1 (by decide) rfl
    rw [h1, zs_1, zx_l, h2, zs_1, if_pos rfl, m1]
    exact ⟨_, _, _, _, _, _, rfl, rfl, m2, m3⟩
  · rw [h1, zs_1, zx_r, h2, zs_1, if_neg z1n0]
    rcases rg_cases b 0 1023 with ⟨h3, h4⟩ | ⟨_, _, h3, h4⟩
    · obtain ⟨M', m1, m2, m3⟩ := bad 1 2 (by decide) rfl
      rw [h3, zs_1, zx_l, h4, zs_1, if_pos rfl, m1]
      exact ⟨_, _, _, _, _, _, rfl, rfl, m2, m3⟩
    · rw [h3, zs_1, zx_r, h4, zs_1, if_neg z1n0]
      obtain ⟨Y', E', M1, k1, k2, k3, k4, k5⟩ := keepC hW (hR.z 0) (hC.kp (KP.z M 0))
      unfold r5_setTeacher_j30 sw
      rw [k1, zs_2, z_wr hj (by decide), zs_b, zs_b, us_s, if_pos rfl, k2, zs_1, show (18 : Int32) = nI 18 from rfl, nI_add, z_wr (show 18 + j < 1008 by omega) (by decide), zs_b]
      have hW2 : WF (upr T 3 (upd (T 3) j b)) n := hW.rows (fun r hr => upr_n _ _ _ (by omega))
      have hR1 : RB (upd (M1 1) (18 + j) b) (upr T 3 (upd (T 3) j b)) n := k4.sett (r := 3) (by omega) (upr_s _ _ _) (fun q hq => upr_n _ _ _ hq)
      obtain ⟨M2, c1, c2, c3⟩ := r5_clears_z (M := upr M1 1 (upd (M1 1) (18 + j) b)) hW2 (by rw [upr_s]; exact hR1)
      rw [r3_unplaceUnsuitable_z hW2, zs_2, c1, zs_2]
      have kp : KP M1 M2 := KP.trans ⟨fun k hk => by rw [upr_s, upd_n (by omega)], by rw [upr_n _ _ _ (by decide)], by rw [upr_n _ _ _ (by decide)], by rw [upr_n _ _ _ (by decide)], by rw [upr_n _ _ _ (by decide)], by rw [upr_n _ _ _ (by decide)]⟩ (KP.of0 c3)
      refine ⟨_, _, _, _, _, _, rfl, rfl, ⟨?_, rfl⟩, ⟨n, clF_WF hW2 n, c2⟩, k3.kp kp⟩
      rw [c3.1 0 (by decide) rfl, upr_n _ _ _ (by decide), k5 0 (by decide) (by decide), us_s]
theorem ca_setWeight (hW : WF T n) (hR : RB (M 1) T n) (hC : CI Y E B X M) (a b : Int32) : ∃ o T' Y' E' v M', r4_setWeight T Y E a b = some (o, T', Y', E') ∧ r5_setWeight M a b = some (v, M') ∧ agr cdA o v (M' 0 0) ∧ Res B X T' Y' E' M' := by
  have bad : ∀ (k : Nat) (th : Int32), th ≠ 0 → cdA k = some th → ∃ M', r5_setWeight_j29 M a b th = some (0, M') ∧ agr cdA (.inl k) 0 (M' 0 0) ∧ Res B X T Y E M' := fun k th h0 hk => by
    refine ⟨us M 0 th, ?_, ?_, ⟨n, hW, hR.z _⟩, hC.kp (KP.z M th)⟩
    · unfold r5_setWeight_j29 sw
      rw [zs_b, us_s, if_neg h0]
    · rw [us_s]; exact ⟨hk, h0⟩
  unfold r4_setWeight r5_setWeight
  rcases ix3 a with ⟨h1, h2⟩ | ⟨j, hj, rfl, h1, h2⟩
  · obtain ⟨M', m1, m2, m3⟩ := bad 0 1 (by decide) rfl
    rw [h1, zs_1, zx_l, h2, zs_1, if_pos rfl, m1]
    exact ⟨_, _, _, _, _, _, rfl, rfl, m2, m3⟩
  · rw [h1, zs_1, zx_r, h2, zs_1, if_neg z1n0]
    rcases rg_cases b 0 9 with ⟨h3, h4⟩ | ⟨_, _, h3, h4⟩
    · obtain ⟨M', m1, m2, m3⟩ := bad 1 2 (by decide) rfl
      rw [h3, zs_1, zx_l, h4, zs_1, if_pos rfl, m1]
      exact ⟨_, _, _, _, _, _, rfl, rfl, m2, m3⟩
    · rw [h3, zs_1, zx_r, h4, zs_1, if_neg z1n0]
      obtain ⟨Y', E', M1, k1, k2, k3, k4, k5⟩ := keepC hW (hR.z 0) (hC.kp (KP.z M 0))
      unfold r5_setWeight_j29 sw
      rw [k1, zs_2, z_rd hj (by decide), zs_b, z_wr hj (by decide), zs_b, zs_b, us_s, if_pos rfl, k2, zs_1, show (24 : Int32) = nI 24 from rfl, nI_add, z_rd (show 24 + j < 1008 by omega) (by decide), zs_b, z_wr (show 24 + j < 1008 by omega) (by decide), zs_b]
      have hW2 : WF (upr T 4 (upd (T 4) j b)) n := hW.rows (fun r hr => upr_n _ _ _ (by omega))
      have hR1 : RB (upd (M1 1) (24 + j) b) (upr T 4 (upd (T 4) j b)) n := k4.sett (r := 4) (by omega) (upr_s _ _ _) (fun q hq => upr_n _ _ _ hq)
      have kp : KP M1 (upr M1 1 (upd (M1 1) (24 + j) b)) := ⟨fun k hk => by rw [upr_s, upd_n (by omega)], by rw [upr_n _ _ _ (by decide)], by rw [upr_n _ _ _ (by decide)], by rw [upr_n _ _ _ (by decide)], by rw [upr_n _ _ _ (by decide)], by rw [upr_n _ _ _ (by decide)]⟩
      refine ⟨_, _, _, _, _, _, rfl, rfl, ⟨?_, k4.2.1 j hj⟩, ⟨n, hW2, by rw [upr_s]; exact hR1⟩, k3.kp kp⟩
      rw [upr_n _ _ _ (by decide), k5 0 (by decide) (by decide), us_s]
theorem ca_setting (hR : RB (M 1) T n) (a b : Int32) : ∃ o v M', r4_setting T a b = some o ∧ r5_setting M a b = some (v, M') ∧ agr cdB o v (M' 0 0) ∧ RB (M' 1) T n ∧ KP M M' := by
  have bad : ∀ (k : Nat) (th : Int32), th ≠ 0 → cdB k = some th → ∃ M', r5_setting_j28 M a b th = some (0, M') ∧ agr cdB (.inl k) 0 (M' 0 0) ∧ RB (M' 1) T n ∧ KP M M' := fun k th h0 hk => by
    refine ⟨us M 0 th, ?_, ?_, hR.z _, KP.z M th⟩
    · unfold r5_setting_j28 sw
      rw [zs_b, us_s, if_neg h0]
    · rw [us_s]; exact ⟨hk, h0⟩
  unfold r4_setting r5_setting
  rcases rg_cases a 0 3 with ⟨h1, h2⟩ | ⟨g1, g2, h1, h2⟩
  · obtain ⟨M', m1, m2, m3⟩ := bad 1 1 (by decide) rfl
    rw [h1, zs_1, zx_l, h2, zs_1, if_pos rfl, m1]
    exact ⟨_, _, _, rfl, rfl, m2, m3⟩
  · rw [h1, zs_1, zx_r, h2, zs_1, if_neg z1n0]
    obtain ⟨r, hr, rfl⟩ := nI_of2 (M := 3) (n := 3) (by decide) g1 g2
    have go : ∃ o v M', bd1 (r4_requireIndex b 6) (fun o7 => bx o7 (fun k8 => some (Sum.inl k8)) (fun _ => (rd 6 (T r) b).bind fun v10 => some (Sum.inr v10))) = some o ∧ bd1 (r5_in b 0 5) (fun v6 => if v6 = 0 then r5_setting_j28 M (nI r) b 2 else r5_setting_j28 M (nI r) b 0) = some (v, M') ∧ agr cdB o v (M' 0 0) ∧ RB (M' 1) T n ∧ KP M M' := by
      rcases ix6 b with ⟨h3, h4⟩ | ⟨j, hj, rfl, h3, h4⟩
      · obtain ⟨M', m1, m2, m3⟩ := bad 0 2 (by decide) rfl
        rw [h3, zs_1, zx_l, h4, zs_1, if_pos rfl, m1]
        exact ⟨_, _, _, rfl, rfl, m2, m3⟩
      · unfold r5_setting_j28 sw
        rw [h3, zs_1, zx_r, h4, zs_1, if_neg z1n0, zs_b, us_s, if_pos rfl, us_n _ _ _ (show (1 : Nat) ≠ 0 by decide), z_rd hj (by decide), zs_b, show (6 : Int32) * nI r + nI j = nI (6 * r + j) from by rw [show (6 : Int32) = nI 6 from rfl, pk_mul, nI_add], z_rd (show 6 * r + j < 1008 by omega) (by decide), zs_b]
        refine ⟨_, _, _, rfl, rfl, ⟨us_s _ _ _ ▸ rfl, ?_⟩, hR.z _, KP.z M 0⟩
        obtain ⟨q0, q1, q2, q3⟩ := hR.1 j hj
        have hr4 : r = 0 ∨ r = 1 ∨ r = 2 ∨ r = 3 := by omega
        rcases hr4 with rfl | rfl | rfl | rfl
        · rw [show 6 * 0 + j = j by omega]; exact q0
        · exact q1
        · exact q2
        · exact q3
    have hr4 : r = 0 ∨ r = 1 ∨ r = 2 ∨ r = 3 := by omega
    rcases hr4 with rfl | rfl | rfl | rfl
    · rw [if_pos (show nI 0 = 0 from rfl)]; exact go
    · rw [if_neg (show ¬ nI 1 = 0 by decide), if_pos (show nI 1 = 1 from rfl)]; exact go
    · rw [if_neg (show ¬ nI 2 = 0 by decide), if_neg (show ¬ nI 2 = 1 by decide), if_pos (show nI 2 = 2 from rfl)]; exact go
    · rw [if_neg (show ¬ nI 3 = 0 by decide), if_neg (show ¬ nI 3 = 1 by decide), if_neg (show ¬ nI 3 = 2 by decide)]; exact go
end C2
