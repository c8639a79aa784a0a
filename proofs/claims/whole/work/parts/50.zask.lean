/-! THE PURE LAYER: calls that ask -/
section C3
variable {T Y B X M : OS} {E : Nat → OS} {n : Nat}
theorem ca_event (hW : WF T n) (hR : RB (M 1) T n) (a b : Int32) : ∃ o v M', r4_event T a b = some o ∧ r5_event M a b = some (v, M') ∧ agr cdA o v (M' 0 0) ∧ RB (M' 1) T n ∧ KP M M' := by
  have bad : ∀ (k : Nat) (th : Int32), th ≠ 0 → cdA k = some th → ∃ M', r5_event_j28 M a b th = some (0, M') ∧ agr cdA (.inl k) 0 (M' 0 0) ∧ RB (M' 1) T n ∧ KP M M' := fun k th h0 hk => by
    refine ⟨us M 0 th, ?_, ?_, hR.z _, KP.z M th⟩
    · unfold r5_event_j28 sw
      rw [zs_b, us_s, if_neg h0]
    · rw [us_s]; exact ⟨hk, h0⟩
  unfold r4_event r5_event
  rcases ev_cases hW hR a with ⟨h1, h2⟩ | ⟨e, he, rfl, h1, h2⟩
  · obtain ⟨M', m1, m2, m3⟩ := bad 0 1 (by decide) rfl
    rw [h1, zs_1, zx_l, h2, zs_1, if_pos rfl, m1]
    exact ⟨_, _, _, rfl, rfl, m2, m3⟩
  · have he' : e < 14 := by have := hW.le; omega
    rw [h1, zs_1, zx_r, h2, zs_1, if_neg z1n0]
    rcases rg_cases b 0 6 with ⟨_, h4⟩ | ⟨g1, g2, _, h4⟩
    · obtain ⟨M', m1, m2, m3⟩ := bad 1 2 (by decide) rfl
      rw [h4, zs_1, if_pos rfl, m1]
      have hb : ∀ q, q < 7 → b ≠ nI q := fun q hq z => by
        rw [z, r5_in_z, if_neg (nI_pos (by omega)), if_neg (show ¬ (6 : Int32) < nI q from nI_nlt (a := 6) (by omega) (by decide))] at h4
        exact absurd (Option.some.inj h4) (by decide)
      rw [if_neg (show ¬ b = 0 from hb 0 (by decide)), if_neg (show ¬ b = 1 from hb 1 (by decide)), if_neg (show ¬ b = 2 from hb 2 (by decide)), if_neg (show ¬ b = 3 from hb 3 (by decide)), if_neg (show ¬ b = 4 from hb 4 (by decide)), if_neg (show ¬ b = 5 from hb 5 (by decide)), if_neg (show ¬ b = 6 from hb 6 (by decide))]
      exact ⟨_, _, _, rfl, rfl, m2, m3⟩
    · rw [h4, zs_1, if_neg z1n0]
      obtain ⟨q, hq, rfl⟩ := nI_of2 (M := 6) (n := 6) (by decide) g1 g2
      have hR' := hR.z (M := M) 0
      unfold r5_event_j28 sw
      rw [zs_b, us_s, if_pos rfl, zo28 hR' he he', zs_1, zo42 hR' he he', zs_1, zo56 hR' he he', zs_1, zo70 hR' he he', zs_1, zs_1, r5_sizeOf_z hR', zs_1, zo84 hR' he he', zs_1, zo98 hR' he he', zs_1]
      rw [z_rd he' (by decide), zs_b, z_rd he' (by decide), zs_b, z_rd he' (by decide), zs_b, z_rd he' (by decide), zs_b, r3_sizeOf_z T he', zs_1, z_rd he' (by decide), zs_b, z_rd he' (by decide), zs_b]
      have hq7 : q = 0 ∨ q = 1 ∨ q = 2 ∨ q = 3 ∨ q = 4 ∨ q = 5 ∨ q = 6 := by omega
      rcases hq7 with rfl | rfl | rfl | rfl | rfl | rfl | rfl
      · rw [if_pos (show nI 0 = 0 from rfl), if_pos (show nI 0 = 0 from rfl)]; exact ⟨_, _, _, rfl, rfl, ⟨us_s _ _ _ ▸ rfl, rfl⟩, hR.z _, KP.z M 0⟩
      · rw [if_neg (show ¬ nI 1 = 0 by decide), if_neg (show ¬ nI 1 = 0 by decide), if_pos (show nI 1 = 1 from rfl), if_pos (show nI 1 = 1 from rfl)]; exact ⟨_, _, _, rfl, rfl, ⟨us_s _ _ _ ▸ rfl, rfl⟩, hR.z _, KP.z M 0⟩
      · rw [if_neg (show ¬ nI 2 = 0 by decide), if_neg (show ¬ nI 2 = 0 by decide), if_neg (show ¬ nI 2 = 1 by decide), if_neg (show ¬ nI 2 = 1 by decide), if_pos (show nI 2 = 2 from rfl), if_pos (show nI 2 = 2 from rfl)]; exact ⟨_, _, _, rfl, rfl, ⟨us_s _ _ _ ▸ rfl, rfl⟩, hR.z _, KP.z M 0⟩
      · rw [if_neg (show ¬ nI 3 = 0 by decide), if_neg (show ¬ nI 3 = 0 by decide), if_neg (show ¬ nI 3 = 1 by decide), if_neg (show ¬ nI 3 = 1 by decide), if_neg (show ¬ nI 3 = 2 by decide), if_neg (show ¬ nI 3 = 2 by decide), if_pos (show nI 3 = 3 from rfl), if_pos (show nI 3 = 3 from rfl)]; exact ⟨_, _, _, rfl, rfl, ⟨us_s _ _ _ ▸ rfl, rfl⟩, hR.z _, KP.z M 0⟩
      · rw [if_neg (show ¬ nI 4 = 0 by decide), if_neg (show ¬ nI 4 = 0 by decide), if_neg (show ¬ nI 4 = 1 by decide), if_neg (show ¬ nI 4 = 1 by decide), if_neg (show ¬ nI 4 = 2 by decide), if_neg (show ¬ nI 4 = 2 by decide), if_neg (show ¬ nI 4 = 3 by decide), if_neg (show ¬ nI 4 = 3 by decide), if_pos (show nI 4 = 4 from rfl), if_pos (show nI 4 = 4 from rfl)]; exact ⟨_, _, _, rfl, rfl, ⟨us_s _ _ _ ▸ rfl, rfl⟩, hR.z _, KP.z M 0⟩
      · rw [if_neg (show ¬ nI 5 = 0 by decide), if_neg (show ¬ nI 5 = 0 by decide), if_neg (show ¬ nI 5 = 1 by decide), if_neg (show ¬ nI 5 = 1 by decide), if_neg (show ¬ nI 5 = 2 by decide), if_neg (show ¬ nI 5 = 2 by decide), if_neg (show ¬ nI 5 = 3 by decide), if_neg (show ¬ nI 5 = 3 by decide), if_neg (show ¬ nI 5 = 4 by decide), if_neg (show ¬ nI 5 = 4 by decide), if_pos (show nI 5 = 5 from rfl), if_pos (show nI 5 = 5 from rfl)]; exact ⟨_, _, _, rfl, rfl, ⟨us_s _ _ _ ▸ rfl, rfl⟩, hR.z _, KP.z M 0⟩
      · rw [if_neg (show ¬ nI 6 = 0 by decide), if_neg (show ¬ nI 6 = 0 by decide), if_neg (show ¬ nI 6 = 1 by decide), if_neg (show ¬ nI 6 = 1 by decide), if_neg (show ¬ nI 6 = 2 by decide), if_neg (show ¬ nI 6 = 2 by decide), if_neg (show ¬ nI 6 = 3 by decide), if_neg (show ¬ nI 6 = 3 by decide), if_neg (show ¬ nI 6 = 4 by decide), if_neg (show ¬ nI 6 = 4 by decide), if_neg (show ¬ nI 6 = 5 by decide), if_neg (show ¬ nI 6 = 5 by decide), if_pos (show nI 6 = 6 from rfl)]
        rcases hW.2.2.2.2.2 e he' with hx | hx
        · rw [hx, if_pos rfl]; exact ⟨_, _, _, rfl, rfl, ⟨us_s _ _ _ ▸ rfl, rfl⟩, hR.z _, KP.z M 0⟩
        · rw [hx, if_neg z1n0]; exact ⟨_, _, _, rfl, rfl, ⟨us_s _ _ _ ▸ rfl, rfl⟩, hR.z _, KP.z M 0⟩

theorem ca_obstacle (hW : WF T n) (hR : RB (M 1) T n) (a b : Int32) : ∃ o v M', r4_obstacle T a b = some o ∧ r5_obstacle M a b = some (v, M') ∧ agr cdE o v (M' 0 0) ∧ RB (M' 1) T n ∧ KP M M' := by
  have bad : ∀ (k : Nat) (th : Int32), th ≠ 0 → cdE k = some th → ∃ M', r5_obstacle_j21 M a b th = some (0, M') ∧ agr cdE (.inl k) 0 (M' 0 0) ∧ RB (M' 1) T n ∧ KP M M' := fun k th h0 hk => by
    refine ⟨us M 0 th, ?_, ?_, hR.z _, KP.z M th⟩
    · unfold r5_obstacle_j21 sw
      rw [zs_b, us_s, if_neg h0]
    · rw [us_s]; exact ⟨hk, h0⟩
  unfold r4_obstacle r5_obstacle
  rcases ev_cases hW hR a with ⟨h1, h2⟩ | ⟨e, he, rfl, h1, h2⟩
  · obtain ⟨M', m1, m2, m3⟩ := bad 0 1 (by decide) rfl
    rw [h1, zs_1, zx_l, h2, zs_1, if_pos rfl, m1]
    exact ⟨_, _, _, rfl, rfl, m2, m3⟩
  · have he' : e < 14 := by have := hW.le; omega
    rw [h1, zs_1, zx_r, h2, zs_1, if_neg z1n0]
    rcases ix60 b with ⟨h3, h4⟩ | ⟨p, hp, rfl, h3, h4⟩
    · obtain ⟨M', m1, m2, m3⟩ := bad 0 1 (by decide) rfl
      rw [h3, zs_1, zx_l, h4, zs_1, if_pos rfl, m1]
      exact ⟨_, _, _, rfl, rfl, m2, m3⟩
    · unfold r5_obstacle_j21 sw
      rw [h3, zs_1, zx_r, h4, zs_1, if_neg z1n0, zs_b, us_s, if_pos rfl, r3_obstacleAt_z hW he hp, zs_1, r5_obstacleOf_z hW (hR.z 0) he hp, zs_1]
      exact ⟨_, _, _, rfl, rfl, ⟨us_s _ _ _ ▸ rfl, rfl⟩, hR.z _, KP.z M 0⟩
theorem ca_hindering (hW : WF T n) (hR : RB (M 1) T n) (a b : Int32) : ∃ o v M', r4_hindering T a b = some o ∧ r5_hindering M a b = some (v, M') ∧ agr cdE o v (M' 0 0) ∧ RB (M' 1) T n ∧ KP M M' := by
  have bad : ∀ (k : Nat) (th : Int32), th ≠ 0 → cdE k = some th → ∃ M', r5_hindering_j21 M a b th = some (0, M') ∧ agr cdE (.inl k) 0 (M' 0 0) ∧ RB (M' 1) T n ∧ KP M M' := fun k th h0 hk => by
    refine ⟨us M 0 th, ?_, ?_, hR.z _, KP.z M th⟩
    · unfold r5_hindering_j21 sw
      rw [zs_b, us_s, if_neg h0]
    · rw [us_s]; exact ⟨hk, h0⟩
  unfold r4_hindering r5_hindering
  rcases ev_cases hW hR a with ⟨h1, h2⟩ | ⟨e, he, rfl, h1, h2⟩
  · obtain ⟨M', m1, m2, m3⟩ := bad 0 1 (by decide) rfl
    rw [h1, zs_1, zx_l, h2, zs_1, if_pos rfl, m1]
    exact ⟨_, _, _, rfl, rfl, m2, m3⟩
  · have he' : e < 14 := by have := hW.le; omega
    rw [h1, zs_1, zx_r, h2, zs_1, if_neg z1n0]
    rcases ix60 b with ⟨h3, h4⟩ | ⟨p, hp, rfl, h3, h4⟩
    · obtain ⟨M', m1, m2, m3⟩ := bad 0 1 (by decide) rfl
      rw [h3, zs_1, zx_l, h4, zs_1, if_pos rfl, m1]
      exact ⟨_, _, _, rfl, rfl, m2, m3⟩
    · unfold r5_hindering_j21 sw
      rw [h3, zs_1, zx_r, h4, zs_1, if_neg z1n0, zs_b, us_s, if_pos rfl, r3_hinderingAt_z T he' hp, zs_1, r5_hinderingOf_z hW (hR.z 0) he hp, zs_1]
      exact ⟨_, _, _, rfl, rfl, ⟨us_s _ _ _ ▸ rfl, rfl⟩, hR.z _, KP.z M 0⟩
theorem ca_places (hW : WF T n) (hR : RB (M 1) T n) (a b : Int32) : ∃ o v M', r4_places T a b = some o ∧ r5_places M a b = some (v, M') ∧ agr cdA o v (M' 0 0) ∧ RB (M' 1) T n ∧ KP M M' := by
  have bad : ∀ (k : Nat) (th : Int32), th ≠ 0 → cdA k = some th → ∃ M', r5_places_j28 M a b th = some (0, M') ∧ agr cdA (.inl k) 0 (M' 0 0) ∧ RB (M' 1) T n ∧ KP M M' := fun k th h0 hk => by
    refine ⟨us M 0 th, ?_, ?_, hR.z _, KP.z M th⟩
    · unfold r5_places_j28 sw
      rw [zs_b, us_s, if_neg h0]
    · rw [us_s]; exact ⟨hk, h0⟩
  unfold r4_places r5_places
  rcases ev_cases hW hR a with ⟨h1, h2⟩ | ⟨e, he, rfl, h1, h2⟩
  · obtain ⟨M', m1, m2, m3⟩ := bad 0 1 (by decide) rfl
    rw [h1, zs_1, zx_l, h2, zs_1, if_pos rfl, m1]
    exact ⟨_, _, _, rfl, rfl, m2, m3⟩
  · rw [h1, zs_1, zx_r, h2, zs_1, if_neg z1n0]
    rcases rg_cases b 0 7 with ⟨h3, h4⟩ | ⟨_, _, h3, h4⟩
    · obtain ⟨M', m1, m2, m3⟩ := bad 1 2 (by decide) rfl
      rw [h3, zs_1, zx_l, h4, zs_1, if_pos rfl, m1]
      exact ⟨_, _, _, rfl, rfl, m2, m3⟩
    · unfold r5_places_j28 sw
      rw [h3, zs_1, zx_r, h4, zs_1, if_neg z1n0, zs_b, us_s, if_pos rfl, r4_places_in hW he, zs_1, r5_placesOf_z hW (hR.z 0) he, zs_1]
      exact ⟨_, _, _, rfl, rfl, ⟨us_s _ _ _ ▸ rfl, rfl⟩, hR.z _, KP.z M 0⟩
theorem ca_free (hW : WF T n) (hR : RB (M 1) T n) (a b : Int32) : ∃ o v M', r4_free T a b = some o ∧ r5_free M a b = some (v, M') ∧ agr cdF o v (M' 0 0) ∧ RB (M' 1) T n ∧ KP M M' := by
  have bad : ∀ (k : Nat) (th : Int32), th ≠ 0 → cdF k = some th → ∃ M', r5_free_j22 M a b th = some (0, M') ∧ agr cdF (.inl k) 0 (M' 0 0) ∧ RB (M' 1) T n ∧ KP M M' := fun k th h0 hk => by
    refine ⟨us M 0 th, ?_, ?_, hR.z _, KP.z M th⟩
    · unfold r5_free_j22 sw
      rw [zs_b, us_s, if_neg h0]
    · rw [us_s]; exact ⟨hk, h0⟩
  unfold r4_free r5_free
  rcases ev_cases hW hR a with ⟨h1, h2⟩ | ⟨e, he, rfl, h1, h2⟩
  · obtain ⟨M', m1, m2, m3⟩ := bad 0 1 (by decide) rfl
    rw [h1, zs_1, zx_l, h2, zs_1, if_pos rfl, m1]
    exact ⟨_, _, _, rfl, rfl, m2, m3⟩
  · rw [h1, zs_1, zx_r, h2, zs_1, if_neg z1n0]
    by_cases c : 0 ≤ b
    · unfold r5_free_j22 r4_free_j22 sw
      rw [if_pos c, if_pos c, zs_b, us_s, if_pos rfl, r3_freePlace_z hW he, zs_1, r5_free_in hW (hR.z 0) he]
      cases hz : zlo (fpS T e b) 0 60 with
      | inl q =>
        rw [if_pos rfl]
        refine ⟨_, _, _, rfl, rfl, ⟨?_, ?_⟩, (hR.z 0).z 2, (KP.z M 0).trans (KP.z _ 2)⟩
        · rw [us_s]; rfl
        · rw [us_s]; decide
      | inr p =>
        have hp : p < 60 := zlo_inv (N := 60) (Q := fun p => p < 60) (fun i c r hi hst => by
          unfold fpS at hst
          split at hst
          · split at hst
            · cases hst; exact hi
            · cases hst
          · cases hst) (Nat.le_refl 60) hz
        rw [if_neg (show ¬ nI p = -1 from z_nm1 (by omega))]
        exact ⟨_, _, _, rfl, rfl, ⟨us_s _ _ _ ▸ rfl, rfl⟩, hR.z _, KP.z M 0⟩
    · obtain ⟨M', m1, m2, m3⟩ := bad 4 2 (by decide) rfl
      unfold r4_free_j22
      rw [if_neg c, if_neg c, if_pos rfl, m1]
      exact ⟨_, _, _, rfl, rfl, m2, m3⟩
theorem ca_at (hW : WF T n) (hR : RB (M 1) T n) (a b : Int32) : ∃ o v M', r4_at T a b = some o ∧ r5_at M a b = some (v, M') ∧ agr cdF o v (M' 0 0) ∧ RB (M' 1) T n ∧ KP M M' := by
  have bad : ∀ (k : Nat) (th : Int32), th ≠ 0 → cdF k = some th → ∃ M', r5_at_j25 M a b th = some (0, M') ∧ agr cdF (.inl k) 0 (M' 0 0) ∧ RB (M' 1) T n ∧ KP M M' := fun k th h0 hk => by
    refine ⟨us M 0 th, ?_, ?_, hR.z _, KP.z M th⟩
    · unfold r5_at_j25 sw
      rw [zs_b, us_s, if_neg h0]
    · rw [us_s]; exact ⟨hk, h0⟩
  have hn := hW.le
  unfold r4_at r5_at
  rcases ix10 a with ⟨h1, h2⟩ | ⟨s, hs, rfl, h1, h2⟩
  · obtain ⟨M', m1, m2, m3⟩ := bad 0 1 (by decide) rfl
    rw [h1, zs_1, zx_l, h2, zs_1, if_pos rfl, m1]
    exact ⟨_, _, _, rfl, rfl, m2, m3⟩
  · rw [h1, zs_1, zx_r, h2, zs_1, if_neg z1n0]
    rcases ix6 b with ⟨h3, h4⟩ | ⟨r, hr, rfl, h3, h4⟩
    · obtain ⟨M', m1, m2, m3⟩ := bad 0 1 (by decide) rfl
      rw [h3, zs_1, zx_l, h4, zs_1, if_pos rfl, m1]
      exact ⟨_, _, _, rfl, rfl, m2, m3⟩
    · unfold r5_at_j25
      rw [h3, zs_1, zx_r, h4, zs_1, if_neg z1n0, show sw M 0 0 = some (us M 0 0) from rfl, zs_b, us_s, if_pos rfl, r3_eventIn_z T (show s < 32 by omega), zs_1]
      have hR' := hR.z (M := M) 0
      have hin : it1 (r5_at_b39 (us M 0 0) (nI s) (nI r)) 200 0 = some (match zfi (evp T s r) n with | some i => .inr (nI i, us M 0 0) | none => .inl ()) := by
        refine zf1 n (evp T s r) (fun i => (nI i, us M 0 0)) (by omega) (fun i hi => ?_) (fun _ => ?_)
        · unfold r5_at_b39 evp
          rw [zmany hR', zs_1, if_neg (nI_ge hi (by omega)), r5_slotsOf_z hW hR' hi, zs_1, z_bit _ (show s < 32 by omega), zo84 hR' hi (by omega), zs_1]
          cases bt (T 10 i) s
          · rfl
          · rw [if_pos rfl, if_pos rfl, Bool.true_and]
            by_cases c : im (T 9 i) 6 = nI r
            · rw [if_pos c, decide_eq_true c]; rfl
            · rw [if_neg c, decide_eq_false c]; rfl
        · unfold r5_at_b39
          rw [zmany hR', zs_1, if_pos (nI_le (Nat.le_refl n) (by omega))]
      rw [hin, zfi_ext hn (fun i q1 q2 => by unfold evp; rw [(hW.out q1 q2).2.1, b_0, Bool.false_and])]
      cases hz : zfi (evp T s r) n with
      | none =>
        rw [if_pos rfl]
        refine ⟨_, _, _, rfl, rfl, ⟨?_, ?_⟩, (hR.z 0).z 2, (KP.z M 0).trans (KP.z _ 2)⟩
        · rw [us_s]; rfl
        · rw [us_s]; decide
      | some i =>
        have := (zfi_lt hz).1
        rw [if_neg (show ¬ nI i = -1 from z_nm1 (by omega))]
        exact ⟨_, _, _, rfl, rfl, ⟨us_s _ _ _ ▸ rfl, rfl⟩, hR.z _, KP.z M 0⟩
theorem ca_taken (hW : WF T n) (hR : RB (M 1) T n) (a b : Int32) : ∃ o v M', r4_taken T a b = some o ∧ r5_taken M a b = some (v, M') ∧ agr cdB o v (M' 0 0) ∧ RB (M' 1) T n ∧ KP M M' := by
  have bad : ∀ (k : Nat) (th : Int32), th ≠ 0 → cdB k = some th → ∃ M', r5_taken_j28 M a b th = some (0, M') ∧ agr cdB (.inl k) 0 (M' 0 0) ∧ RB (M' 1) T n ∧ KP M M' := fun k th h0 hk => by
    refine ⟨us M 0 th, ?_, ?_, hR.z _, KP.z M th⟩
    · unfold r5_taken_j28 sw
      rw [zs_b, us_s, if_neg h0]
    · rw [us_s]; exact ⟨hk, h0⟩
  have hn := hW.le
  unfold r4_taken r5_taken
  rcases rg_cases a 0 2 with ⟨h1, h2⟩ | ⟨g1, g2, h1, h2⟩
  · obtain ⟨M', m1, m2, m3⟩ := bad 1 1 (by decide) rfl
    rw [h1, zs_1, zx_l, h2, zs_1, if_pos rfl, m1]
    exact ⟨_, _, _, rfl, rfl, m2, m3⟩
  · rw [h1, zs_1, zx_r, h2, zs_1, if_neg z1n0]
    obtain ⟨r, hr, rfl⟩ := nI_of2 (M := 2) (n := 2) (by decide) g1 g2
    have hr3 : r = 0 ∨ r = 1 ∨ r = 2 := by omega
    rcases ix6 b with ⟨h3, h4⟩ | ⟨j, hj, rfl, h3, h4⟩
    · obtain ⟨M', m1, m2, m3⟩ := bad 0 2 (by decide) rfl
      rw [h4, zs_1, if_pos rfl, m1, h3]
      refine ⟨.inl 0, _, _, ?_, rfl, m2, m3⟩
      rcases hr3 with rfl | rfl | rfl
      · rw [if_pos (show nI 0 = 0 from rfl), zs_1, zx_l]
      · rw [if_neg (show ¬ nI 1 = 0 by decide), if_pos (show nI 1 = 1 from rfl), zs_1, zx_l]
      · rw [if_neg (show ¬ nI 2 = 0 by decide), if_neg (show ¬ nI 2 = 1 by decide), zs_1, zx_l]
    · rw [h4, zs_1, if_neg z1n0, h3, r3_slotsOfTeacher_z, r3_slotsOfGroup_z T (show j < 32 by omega), r3_slotsOfRoom_z]
      unfold r5_taken_j28 sw
      have hR' := hR.z (M := M) 0
      have hin : ∀ p : Nat → Bool, (∀ i, i < n → ∀ a, r5_taken_b45 (us M 0 0) (nI r) (nI j) a (nI i) = some (.inl (if p i then a ||| T 10 i else a, nI i + 1))) → it2 (r5_taken_b45 (us M 0 0) (nI r) (nI j)) 200 0 0 = some (orS T p 14) := fun p hp => by
        rw [zf2 n (fun s e => if p e then s ||| T 10 e else s) (by omega) (fun i hi a => hp i hi a) (fun a => by
          unfold r5_taken_b45
          rw [zmany hR', zs_1, if_pos (nI_le (Nat.le_refl n) (by omega))]), orS_ext hW]
        rfl
      have hj0 : ∀ i a, r5_taken_j138 (us M 0 0) (nI r) (nI j) a (nI i) 0 = some (.inl (a, nI i + 1)) := fun i a => by
        unfold r5_taken_j138
        rw [if_pos rfl, z_or0]
      have hj1 : ∀ i, i < n → ∀ a, r5_taken_j138 (us M 0 0) (nI r) (nI j) a (nI i) 1 = some (.inl (a ||| T 10 i, nI i + 1)) := fun i hi a => by
        unfold r5_taken_j138
        rw [if_neg z1n0, r5_slotsOf_z hW hR' hi, zs_1]
      rw [zs_b, us_s, if_pos rfl]
      rcases hr3 with rfl | rfl | rfl
      · rw [if_pos (show nI 0 = 0 from rfl), zs_1, zx_r, zs_1, hin (fun e => decide (T 5 e = nI j)) (fun i hi a => by
          unfold r5_taken_b45
          rw [zmany hR', zs_1, if_neg (nI_ge hi (by omega)), if_pos (show nI 0 = 0 from rfl), zo28 hR' hi (by omega), zs_1, hj0, hj1 i hi]
          by_cases c : T 5 i = nI j
          · rw [if_pos c, decide_eq_true c]; rfl
          · rw [if_neg c, decide_eq_false c]; rfl), zs_1]
        exact ⟨_, _, _, rfl, rfl, ⟨us_s _ _ _ ▸ rfl, rfl⟩, hR.z _, KP.z M 0⟩
      · rw [if_neg (show ¬ nI 1 = 0 by decide), if_pos (show nI 1 = 1 from rfl), zs_1, zx_r, zs_1, hin (fun e => bt (T 6 e) j) (fun i hi a => by
          unfold r5_taken_b45
          rw [zmany hR', zs_1, if_neg (nI_ge hi (by omega)), if_neg (show ¬ nI 1 = 0 by decide), if_pos (show nI 1 = 1 from rfl), zo42 hR' hi (by omega), zs_1, z_bit _ (show j < 32 by omega), hj0, hj1 i hi]
          cases bt (T 6 i) j <;> rfl), zs_1]
        exact ⟨_, _, _, rfl, rfl, ⟨us_s _ _ _ ▸ rfl, rfl⟩, hR.z _, KP.z M 0⟩
      · rw [if_neg (show ¬ nI 2 = 0 by decide), if_neg (show ¬ nI 2 = 1 by decide), zs_1, zx_r, zs_1, hin (fun e => decide (im (T 9 e) 6 = nI j)) (fun i hi a => by
          unfold r5_taken_b45
          rw [zmany hR', zs_1, if_neg (nI_ge hi (by omega)), if_neg (show ¬ nI 2 = 0 by decide), if_neg (show ¬ nI 2 = 1 by decide), zo84 hR' hi (by omega), zs_1, zs_1, hj0, hj1 i hi]
          rcases hW.plW (show i < 14 by omega) with ⟨p1, _⟩ | ⟨p1, p2, _, _, _⟩
          · have hne : ¬ im (T 9 i) 6 = nI j := by
              rw [p1]
              intro z
              have : im (-1) 6 = (-1 : Int32) := by decide
              rw [this] at z
              exact z_nm1 (show j < 2 ^ 31 by omega) z.symm
            rw [decide_eq_false hne, p1, if_pos z_m1lt]; rfl
          · rw [p2, if_neg (nI_pos (by omega))]
            by_cases c : im (nI (pl T i)) 6 = nI j
            · rw [if_pos c, decide_eq_true c]; rfl
            · rw [if_neg c, decide_eq_false c]; rfl), zs_1]
        exact ⟨_, _, _, rfl, rfl, ⟨us_s _ _ _ ▸ rfl, rfl⟩, hR.z _, KP.z M 0⟩
theorem ca_marked (hW : WF T n) (hR : RB (M 1) T n) (a : Int32) : ∃ o v M', r4_marked T a = some o ∧ r5_marked M a = some (v, M') ∧ agr cdE o v (M' 0 0) ∧ RB (M' 1) T n ∧ KP M M' := by
  have bad : ∀ (k : Nat) (th : Int32), th ≠ 0 → cdE k = some th → ∃ M', r5_marked_j14 M a th = some (0, M') ∧ agr cdE (.inl k) 0 (M' 0 0) ∧ RB (M' 1) T n ∧ KP M M' := fun k th h0 hk => by
    refine ⟨us M 0 th, ?_, ?_, hR.z _, KP.z M th⟩
    · unfold r5_marked_j14 sw
      rw [zs_b, us_s, if_neg h0]
    · rw [us_s]; exact ⟨hk, h0⟩
  unfold r4_marked r5_marked
  rcases ev_cases hW hR a with ⟨h1, h2⟩ | ⟨e, he, rfl, h1, h2⟩
  · obtain ⟨M', m1, m2, m3⟩ := bad 0 1 (by decide) rfl
    rw [h1, zs_1, zx_l, h2, zs_1, if_pos rfl, m1]
    exact ⟨_, _, _, rfl, rfl, m2, m3⟩
  · have he' : e < 14 := by have := hW.le; omega
    unfold r5_marked_j14 sw
    rw [h1, zs_1, zx_r, h2, zs_1, if_neg z1n0, zs_b, us_s, if_pos rfl, z_rd he' (by decide), zs_b, zo112 (hR.z 0) he he', zs_1]
    exact ⟨_, _, _, rfl, rfl, ⟨us_s _ _ _ ▸ rfl, rfl⟩, hR.z _, KP.z M 0⟩
theorem ca_cost (hW : WF T n) (hR : RB (M 1) T n) (a : Int32) : ∃ o v M', r4_cost T a = some o ∧ r5_cost M a = some (v, M') ∧ agr cdC o v (M' 0 0) ∧ RB (M' 1) T n ∧ KP M M' := by
  have bad : ∀ (k : Nat) (th : Int32), th ≠ 0 → cdC k = some th → ∃ M', r5_cost_j15 M a th = some (0, M') ∧ agr cdC (.inl k) 0 (M' 0 0) ∧ RB (M' 1) T n ∧ KP M M' := fun k th h0 hk => by
    refine ⟨us M 0 th, ?_, ?_, hR.z _, KP.z M th⟩
    · unfold r5_cost_j15 sw
      rw [zs_b, us_s, if_neg h0]
    · rw [us_s]; exact ⟨hk, h0⟩
  unfold r4_cost r5_cost
  have hR' := hR.z (M := M) 0
  rcases rg_cases a 0 4 with ⟨_, h4⟩ | ⟨g1, g2, _, h4⟩
  · obtain ⟨M', m1, m2, m3⟩ := bad 1 1 (by decide) rfl
    rw [h4, zs_1, if_pos rfl, m1]
    have hb : ∀ q, q < 5 → a ≠ nI q := fun q hq z => by
      rw [z, r5_in_z, if_neg (nI_pos (by omega)), if_neg (show ¬ (4 : Int32) < nI q from nI_nlt (a := 4) (by omega) (by decide))] at h4
      exact absurd (Option.some.inj h4) (by decide)
    rw [if_neg (show ¬ a = 0 from hb 0 (by decide)), if_neg (show ¬ a = 1 from hb 1 (by decide)), if_neg (show ¬ a = 2 from hb 2 (by decide)), if_neg (show ¬ a = 3 from hb 3 (by decide)), if_neg (show ¬ a = 4 from hb 4 (by decide))]
    exact ⟨_, _, _, rfl, rfl, m2, m3⟩
  · rw [h4, zs_1, if_neg z1n0]
    obtain ⟨q, hq, rfl⟩ := nI_of2 (M := 4) (n := 4) (by decide) g1 g2
    unfold r5_cost_j15 sw
    rw [zs_b, us_s, if_pos rfl, r5_gaps_z hW hR', zs_1, r5_lates_z hW hR', zs_1, r5_slack_z hW hR', zs_1, r5_unplaced_z hW hR', zs_1, r5_costs_z hW hR', zs_1, r3_gaps_z hW, zs_1, r3_lateOnes_z hW, zs_1, r3_slack_z hW, zs_1, r3_unplaced_z hW, zs_1, r3_totalCost_z hW, zs_1]
    have hq5 : q = 0 ∨ q = 1 ∨ q = 2 ∨ q = 3 ∨ q = 4 := by omega
    rcases hq5 with rfl | rfl | rfl | rfl | rfl
    · rw [if_pos (show nI 0 = 0 from rfl), if_pos (show nI 0 = 0 from rfl)]; exact ⟨_, _, _, rfl, rfl, ⟨us_s _ _ _ ▸ rfl, rfl⟩, hR.z _, KP.z M 0⟩
    · rw [if_neg (show ¬ nI 1 = 0 by decide), if_neg (show ¬ nI 1 = 0 by decide), if_pos (show nI 1 = 1 from rfl), if_pos (show nI 1 = 1 from rfl)]; exact ⟨_, _, _, rfl, rfl, ⟨us_s _ _ _ ▸ rfl, rfl⟩, hR.z _, KP.z M 0⟩
    · rw [if_neg (show ¬ nI 2 = 0 by decide), if_neg (show ¬ nI 2 = 0 by decide), if_neg (show ¬ nI 2 = 1 by decide), if_neg (show ¬ nI 2 = 1 by decide), if_pos (show nI 2 = 2 from rfl), if_pos (show nI 2 = 2 from rfl)]; exact ⟨_, _, _, rfl, rfl, ⟨us_s _ _ _ ▸ rfl, rfl⟩, hR.z _, KP.z M 0⟩
    · rw [if_neg (show ¬ nI 3 = 0 by decide), if_neg (show ¬ nI 3 = 0 by decide), if_neg (show ¬ nI 3 = 1 by decide), if_neg (show ¬ nI 3 = 1 by decide), if_neg (show ¬ nI 3 = 2 by decide), if_neg (show ¬ nI 3 = 2 by decide), if_pos (show nI 3 = 3 from rfl), if_pos (show nI 3 = 3 from rfl)]; exact ⟨_, _, _, rfl, rfl, ⟨us_s _ _ _ ▸ rfl, rfl⟩, hR.z _, KP.z M 0⟩
    · rw [if_neg (show ¬ nI 4 = 0 by decide), if_neg (show ¬ nI 4 = 0 by decide), if_neg (show ¬ nI 4 = 1 by decide), if_neg (show ¬ nI 4 = 1 by decide), if_neg (show ¬ nI 4 = 2 by decide), if_neg (show ¬ nI 4 = 2 by decide), if_neg (show ¬ nI 4 = 3 by decide), if_neg (show ¬ nI 4 = 3 by decide), if_pos (show nI 4 = 4 from rfl)]; exact ⟨_, _, _, rfl, rfl, ⟨us_s _ _ _ ▸ rfl, rfl⟩, hR.z _, KP.z M 0⟩
theorem ca_costAt (hW : WF T n) (hR : RB (M 1) T n) (a b : Int32) : ∃ o v M', r4_costAt T a b = some (o, T) ∧ r5_costAt M a b = some (v, M') ∧ agr cdG o v (M' 0 0) ∧ RB (M' 1) T n ∧ KP M M' := by
  have bad : ∀ (k : Nat) (th : Int32), th ≠ 0 → cdG k = some th → ∃ M', r5_costAt_j34 M a b th = some (0, M') ∧ agr cdG (.inl k) 0 (M' 0 0) ∧ RB (M' 1) T n ∧ KP M M' := fun k th h0 hk => by
    refine ⟨us M 0 th, ?_, ?_, hR.z _, KP.z M th⟩
    · unfold r5_costAt_j34 sw
      rw [zs_b, us_s, if_neg h0]
    · rw [us_s]; exact ⟨hk, h0⟩
  unfold r4_costAt r5_costAt
  rcases ev_cases hW hR a with ⟨h1, h2⟩ | ⟨e, he, rfl, h1, h2⟩
  · obtain ⟨M', m1, m2, m3⟩ := bad 0 1 (by decide) rfl
    rw [h1, zs_1, zx_l, h2, zs_1, if_pos rfl, m1]
    exact ⟨_, _, _, rfl, rfl, m2, m3⟩
  · rw [h1, zs_1, zx_r, h2, zs_1, if_neg z1n0]
    rcases ix60 b with ⟨h3, h4⟩ | ⟨p, hp, rfl, h3, h4⟩
    · obtain ⟨M', m1, m2, m3⟩ := bad 0 1 (by decide) rfl
      rw [h3, zs_1, zx_l, h4, zs_1, if_pos rfl, m1]
      exact ⟨_, _, _, rfl, rfl, m2, m3⟩
    · unfold r4_requireFree
      rw [h3, zs_1, zx_r, h4, zs_1, if_neg z1n0, r3_obstacleAt_z hW he hp, zs_1, r5_obstacleOf_z hW hR he hp, zs_1]
      by_cases c : obs T e p = 0
      · unfold r5_costAt_j34 sw
        rw [if_pos c, if_pos c, zs_1, zx_r, zs_b, us_s, if_pos rfl, r3_costIf_z hW he hp, zs_2, r5_costsAt_z hW (hR.z 0) he hp, zs_2]
        exact ⟨_, _, _, rfl, rfl, ⟨us_s _ _ _ ▸ rfl, rfl⟩, hR.z _, KP.z M 0⟩
      · obtain ⟨M', m1, m2, m3⟩ := bad 2 2 (by decide) rfl
        rw [if_neg c, if_neg c, zs_1, zx_l, m1]
        exact ⟨_, _, _, rfl, rfl, m2, m3⟩
theorem or_comm32 (a b : Int32) : a ||| b = b ||| a := b_ext fun i _ => by rw [b_or, b_or, Bool.or_comm]
/-- what a chain's call begins with, in both -/
theorem chn_cases (hW : WF T n) (hR : RB (M 1) T n) (a b : Int32) : (∃ k th, r4_chain T a b = some (.inl k) ∧ r5_chainThrown M a b = some th ∧ th ≠ 0 ∧ cdG k = some th) ∨
    ∃ e t x, e < n ∧ t < 10 ∧ a = nI e ∧ b = nI t ∧ T 8 e = 1 ∧ pl T e < 60 ∧ T 9 e = nI (pl T e) ∧ pl T e / 6 ≠ t ∧ r4_chain T a b = some (.inr x) ∧ r5_chainThrown M a b = some 0 ∧ chn T (zb (pl T e / 6) ||| zb t) n e x ∧ ∀ M', RB (M' 1) T n → r5_chainOf M' a b = some x := by
  have hn := hW.le
  unfold r4_chain r5_chainThrown r4_chain_j41
  rcases ev_cases hW hR a with ⟨h1, h2⟩ | ⟨e, he, rfl, h1, h2⟩
  · left
    rw [h1, zs_1, zx_l, h2, zs_1, if_pos rfl]
    exact ⟨0, 1, rfl, rfl, by decide, rfl⟩
  · have he' : e < 14 := by omega
    rw [h1, zs_1, zx_r, h2, zs_1, if_neg z1n0]
    rcases ix10 b with ⟨h3, h4⟩ | ⟨t, ht, rfl, h3, h4⟩
    · left
      rw [h3, zs_1, zx_l, h4, zs_1, if_pos rfl]
      exact ⟨0, 1, rfl, rfl, by decide, rfl⟩
    · unfold r4_requirePlaced r3_slotOf
      rw [h3, zs_1, zx_r, h4, zs_1, if_neg z1n0, z_rd he' (by decide), zs_b, zo84 hR he he', zs_1, zs_1, zo70 hR he he', zs_1, z_rd he' (by decide), zs_b, zs_b]
      rcases hW.plW he' with ⟨p1, p2⟩ | ⟨p1, p2, p3, _, p4⟩
      · left
        rw [p1, if_pos rfl, zs_1, zx_l, if_pos z_m1lt]
        exact ⟨2, 2, rfl, rfl, by decide, rfl⟩
      · rw [p2, if_neg (z_nm1 (by omega)), zs_1, zx_r, if_neg (nI_pos (by omega)), z_d6 p1, zs_1]
        rcases hW.len he with hl | hl
        · rw [hl, if_neg (show ¬ (1 : Int32) = 2 by decide), if_neg (show ¬ (1 : Int32) = 2 by decide)]
          by_cases c : pl T e / 6 = t
          · left
            rw [if_pos (by rw [c]), if_pos (by rw [c])]
            exact ⟨2, 2, rfl, rfl, by decide, rfl⟩
          · right
            have c' : ¬ nI (pl T e / 6) = nI t := fun z => c ((nI_eq (by omega) (by omega)).mp z)
            obtain ⟨x, x1, x2⟩ := r2_chainOf_z (t := t) hW he (by omega)
            rw [if_neg c', if_neg c', x1, zs_1]
            rw [p3, hl, slS_1] at x2
            refine ⟨e, t, x, he, ht, rfl, rfl, hl, p1, p2, c, rfl, rfl, x2, fun M' hR' => ?_⟩
            obtain ⟨y, y1, y2⟩ := r5_chainOf_z (t := t) hW hR' he (by omega) p1 p2
            rw [or_comm32] at y2
            rw [y1, x2.one y2]
        · left
          rw [hl, if_pos rfl, if_pos rfl]
          exact ⟨2, 2, rfl, rfl, by decide, rfl⟩
theorem ca_chain (hW : WF T n) (hR : RB (M 1) T n) (a b : Int32) : ∃ o v M', r4_chain T a b = some o ∧ r5_chain M a b = some (v, M') ∧ agr cdG o v (M' 0 0) ∧ RB (M' 1) T n ∧ KP M M' := by
  unfold r5_chain sw
  rcases chn_cases hW hR a b with ⟨k, th, h1, h2, h3, h4⟩ | ⟨e, t, x, _, _, _, _, _, _, _, _, h1, h2, _, h3⟩
  · rw [h1, h2, zs_1, zs_b, us_s, if_neg h3]
    refine ⟨_, _, _, rfl, rfl, ⟨?_, ?_⟩, hR.z _, KP.z M th⟩
    · rw [us_s]; exact h4
    · rw [us_s]; exact h3
  · rw [h1, h2, zs_1, zs_b, us_s, if_pos rfl, h3 _ (hR.z 0), zs_1]
    exact ⟨_, _, _, rfl, rfl, ⟨us_s _ _ _ ▸ rfl, rfl⟩, hR.z _, KP.z M 0⟩
end C3
