/-! THE PURE LAYER: calls that change events -/
section C4
variable {T Y B X M : OS} {E : Nat → OS} {n : Nat}
theorem HI.rows {M' : OS} {c nx : Nat} (h : HI Y E M c nx) (h1 : M' 1 = M 1) (h2 : M' 2 = M 2) : HI Y E M' c nx := by
  unfold HI at h ⊢
  rw [h1, h2]; exact h
theorem SV.rows {M' : OS} (h : SV B E M) (h1 : M' 1 = M 1) (h3 : M' 3 = M 3) : SV B E M' := by
  unfold SV at h ⊢
  rw [h1, h3]; exact h
theorem ca_append (hR : RB (M 1) T n) (hC : CI Y E B X M) (a : Int32) : ∃ o X' v M', r4_append X a = some (o, X') ∧ r5_append M a = some (v, M') ∧ agr cdT o v (M' 0 0) ∧ RB (M' 1) T n ∧ CI Y E B X' M' := by
  obtain ⟨c, nx, u, h1, h2, h3⟩ := hC
  obtain ⟨v, M', m1, m2, m3⟩ := r5_append_z a h3
  have e1 := m2 1 (by decide) (by decide) (by decide)
  have e2 := m2 2 (by decide) (by decide) (by decide)
  have e3 := m2 3 (by decide) (by decide) (by decide)
  have e7 := m2 7 (by decide) (by decide) (by decide)
  have hR' : RB (M' 1) T n := by rw [e1]; exact hR
  obtain ⟨hu, t1, t2, t3, t4⟩ := h3
  unfold r4_append
  rw [m1, r0_isText_z, zs_1, r0_hasRoomFor_z X a hu t1, zs_1]
  rcases m3 with ⟨q1, q2, q3, q4⟩ | ⟨q1, q2, q3, q4, q5⟩ | ⟨q1, q2, q3, q4, q5, q6⟩
  · rw [q2, if_pos rfl, if_pos rfl]
    refine ⟨_, _, _, _, rfl, rfl, ⟨?_, ?_⟩, hR', c, nx, u, h1.rows e1 e2, h2.rows e1 e3, hu, t1, q4.trans t2, fun i hi => by rw [q3]; exact t3 i hi, by rw [e7]; exact t4⟩
    · rw [q1]; rfl
    · rw [q1]; decide
  · rw [q2, if_neg (show ¬ (false = true) by decide), if_neg z1n0, if_pos q3, if_pos rfl]
    refine ⟨_, _, _, _, rfl, rfl, ⟨?_, ?_⟩, hR', c, nx, u, h1.rows e1 e2, h2.rows e1 e3, hu, t1, q5.trans t2, fun i hi => by rw [q4]; exact t3 i hi, by rw [e7]; exact t4⟩
    · rw [q1]; rfl
    · rw [q1]; decide
  · obtain ⟨X', x1, x2, x3, x4⟩ := r0_add_z t1 q4
    rw [q3, if_neg (show ¬ (false = true) by decide), if_neg z1n0, if_neg (show ¬ 40 < u + cnz a 4 by omega), if_neg z1n0, x1, zs_2]
    refine ⟨_, _, _, _, rfl, rfl, ⟨q1, q2⟩, hR', c, nx, u + cnz a 4, h1.rows e1 e2, h2.rows e1 e3, q4, x2, q5, fun i hi => ?_, by rw [e7, x4 3 (by decide) (by decide)]; exact t4⟩
    rw [q6, x3]
    exact apL_eq t3 4 i hi
theorem ca_addEvent (hW : WF T n) (hR : RB (M 1) T n) (hC : CI Y E B X M) : ∃ o T' X' Y' E' v M', r4_addEvent T X Y E = some (o, T', X', Y', E') ∧ r5_addEvent M = some (v, M') ∧ agr cdT o v (M' 0 0) ∧ Res B X' T' Y' E' M' := by
  obtain ⟨c, nx, u, h1, h2, h3⟩ := hC
  have hn := hW.le
  obtain ⟨v, X', M6, r1, r2, r3, _, r5, r6, r7⟩ := readEvent_z h3
  have hC6 : CI Y E B X' (us M6 5 0) := by
    have e : ∀ r, r < 5 → us M6 5 0 r = M r := fun r hr => by rw [us_n _ _ _ (by omega)]; exact r3 r (by omega)
    refine ⟨c, nx, 0, h1.rows (e 1 (by decide)) (e 2 (by decide)), h2.rows (e 1 (by decide)) (e 3 (by decide)), by decide, r5, us_s _ _ _ ▸ rfl, fun i hi => absurd hi (by omega), ?_⟩
    rw [us_n _ _ _ (by decide)]; exact r6
  have hR6 : RB (us M6 5 0 1) T n := by rw [us_n _ _ _ (by decide), r3 1 (by decide)]; exact hR
  have e7 : us M6 5 0 7 = M6 7 := us_n _ _ _ (by decide)
  unfold r4_addEvent r5_addEvent
  rw [r1, r2, zs_1, zs_2, show sw M6 5 0 = some (us M6 5 0) from rfl, zs_b, e7]
  have bad : ∀ (k : Nat) (th : Int32), th ≠ 0 → cdT k = some th → ∃ o T' X'' Y' E' v M', some (Sum.inl k, T, X', Y, E) = some (o, T', X'', Y', E') ∧ r5_addEvent_j35 (us M6 5 0) th = some (v, M') ∧ agr cdT o v (M' 0 0) ∧ Res B X'' T' Y' E' M' := fun k th h0 hk => by
    refine ⟨_, _, _, _, _, 0, us (us M6 5 0) 0 th, rfl, ?_, ⟨?_, ?_⟩, ⟨n, hW, hR6.z _⟩, hC6.kp (KP.z _ th)⟩
    · unfold r5_addEvent_j35 sw
      rw [zs_b, us_s, if_neg h0]
    · rw [us_s]; exact hk
    · rw [us_s]; exact h0
  rcases r7 with ⟨rfl, g7, g4, g5, g6, g8, gt, gg, gx, gl⟩ | ⟨rfl, g7⟩
  · rw [g7, if_pos z_m1lt, if_neg z1n0, zmany hR6, zs_1]
    unfold r4_requireRoomForEvent
    rw [hW.2.1]
    by_cases c14 : n = 14
    · rw [c14, if_neg (show ¬ nI 14 < 14 by decide), zs_1, zx_l, if_pos (show nI 14 = 14 from rfl)]
      exact bad 2 2 (by decide) rfl
    · obtain ⟨Y', E', M1, k1, k2, k3, k4, k5⟩ := keepC hW (hR6.z 0) (hC6.kp (KP.z _ 0))
      rw [if_pos (show nI n < 14 from nI_lt (b := 14) (by omega) (by decide)), zs_1, zx_r, if_neg (show ¬ nI n = 14 from fun z => c14 ((nI_eq (b := 14) (by omega) (by decide)).mp z)), k1, zs_2, r3_newEvent_z hW (by omega), zs_2]
      unfold r5_addEvent_j35 sw
      rw [zs_b, us_s, if_pos rfl, k2, zs_1]
      have em : ∀ r, r ≠ 0 → r ≠ 1 → r ≠ 2 → r ≠ 5 → M1 r = M6 r := fun r a0 a1 a2 a5 => by rw [k5 r a1 a2, us_n _ _ _ a0, us_n _ _ _ a5]
      rw [em 8 (by decide) (by decide) (by decide) (by decide), em 9 (by decide) (by decide) (by decide) (by decide), em 10 (by decide) (by decide) (by decide) (by decide), em 11 (by decide) (by decide) (by decide) (by decide), ← g4, ← g5, ← g6, ← g8]
      obtain ⟨M2, p1, p2, p3⟩ := r5_opens_z hW k4 (by omega) (X' 4 0) (X' 5 0) (X' 6 0) (X' 7 0)
      rw [p1, zs_2]
      refine ⟨_, _, _, _, _, _, _, rfl, rfl, ⟨?_, rfl⟩, ⟨n + 1, nw_WF hW (by omega) gt gg gx gl, p2⟩, k3.kp (KP.of0 p3)⟩
      rw [p3.1 0 (by decide) rfl, k5 0 (by decide) (by decide), us_s]
  · rw [if_neg (show ¬ M6 7 0 < 0 from fun z => z_nle_lt.mpr z g7), if_pos rfl]
    exact bad 1 1 (by decide) rfl
theorem ca_errorPosition (hR : RB (M 1) T n) (hC : CI Y E B X M) : ∃ v, r4_errorPosition X = some v ∧ r5_errorPosition M = some (v, us M 0 0) ∧ RB (us M 0 0 1) T n ∧ KP M (us M 0 0) := by
  obtain ⟨c, nx, u, _, _, h3⟩ := hC
  refine ⟨X 3 0, rfl, ?_, hR.z 0, KP.z M 0⟩
  unfold r5_errorPosition sw
  rw [zs_b, us_n _ _ _ (by decide), h3.2.2.2.2]
theorem ca_removeEvent (hW : WF T n) (hR : RB (M 1) T n) (hC : CI Y E B X M) (a : Int32) : ∃ o T' Y' E' v M', r4_removeEvent T Y E a = some (o, T', Y', E') ∧ r5_removeEvent M a = some (v, M') ∧ agr cdE o v (M' 0 0) ∧ Res B X T' Y' E' M' := by
  unfold r4_removeEvent r5_removeEvent r5_removeEvent_j14
  rcases ev_cases hW hR a with ⟨h1, h2⟩ | ⟨e, he, rfl, h1, h2⟩
  · unfold sw
    rw [h1, zs_1, zx_l, h2, zs_1, if_pos rfl, zs_b, us_s, if_neg z1n0]
    refine ⟨_, _, _, _, _, _, rfl, rfl, ⟨?_, ?_⟩, ⟨n, hW, hR.z 1⟩, hC.kp (KP.z M 1)⟩
    · rw [us_s]; rfl
    · rw [us_s]; decide
  · obtain ⟨Y', E', M1, k1, k2, k3, k4, k5⟩ := keepC hW (hR.z 0) (hC.kp (KP.z M 0))
    obtain ⟨T', t1, t2⟩ := r3_dropEvent_z hW he
    obtain ⟨N, n1, n2, n3, n4, n5⟩ := r5_drop_z hW k4 he t2
    have hpred : nI n - 1 = nI (n - 1) := by
      obtain ⟨q, rfl⟩ : ∃ q, n = q + 1 := ⟨n - 1, by omega⟩
      exact nI_pred q
    rw [h1, zs_1, zx_r, h2, zs_1, if_neg z1n0, k1, zs_2, t1, zs_1, show sw M 0 0 = some (us M 0 0) from rfl, zs_b, us_s, if_pos rfl, k2, zs_1, n1, zs_1, show (27 : Int32) = nI 27 from rfl, z_rd (show 27 < 1008 by decide) (by decide), zs_b, z_wr (show 27 < 1008 by decide) (by decide), zs_b, n4, hpred]
    have hR2 : RB ((upr N 1 (upd (N 1) 27 (nI (n - 1)))) 1) T' (n - 1) := by rw [upr_s]; exact n5
    rw [zmany hR2, zs_1]
    refine ⟨_, _, _, _, _, _, rfl, rfl, ⟨?_, ?_⟩, ⟨n - 1, drT_WF hW he t2, hR2⟩, k3.kp ⟨fun k hk => ?_, ?_, ?_, ?_, ?_, ?_⟩⟩
    · rw [upr_n _ _ _ (by decide), n2 0 (by decide), k5 0 (by decide) (by decide), us_s]
    · exact t2.2.2.2.2.2.2.2.2.2.symm
    · rw [upr_s, upd_n (by omega)]; exact n3 k hk
    · rw [upr_n _ _ _ (by decide), n2 2 (by decide)]
    · rw [upr_n _ _ _ (by decide), n2 3 (by decide)]
    · rw [upr_n _ _ _ (by decide), n2 4 (by decide)]
    · rw [upr_n _ _ _ (by decide), n2 5 (by decide)]
    · rw [upr_n _ _ _ (by decide), n2 7 (by decide)]
theorem WF.grp (h : WF T n) {e : Nat} {v : Int32} (hv : ∃ g, g < 64 ∧ v = nI g) : WF (upr T 6 (upd (T 6) e v)) n := by
  obtain ⟨h1, h2, h3, h4, h5, h6⟩ := h
  unfold WF
  simp only [upr_n T 6 _ (show (13 : Nat) ≠ 6 by decide), upr_n T 6 _ (show (5 : Nat) ≠ 6 by decide), upr_n T 6 _ (show (7 : Nat) ≠ 6 by decide), upr_n T 6 _ (show (8 : Nat) ≠ 6 by decide), upr_n T 6 _ (show (9 : Nat) ≠ 6 by decide), upr_n T 6 _ (show (10 : Nat) ≠ 6 by decide), upr_n T 6 _ (show (11 : Nat) ≠ 6 by decide), upr_n T 6 _ (show (12 : Nat) ≠ 6 by decide), upr_s]
  refine ⟨h1, h2, fun i hi => ?_, h4, h5, h6⟩
  obtain ⟨a1, a2, a3, a4⟩ := h3 i hi
  refine ⟨a1, ?_, a3, a4⟩
  by_cases c : i = e
  · rw [c, upd_s]; exact hv
  · rw [upd_n c]; exact a2
theorem z_sub64 {x g : Int32} (hg : ∃ k, k < 64 ∧ g = nI k) (h : ∀ i, i < 32 → bt x i = true → bt g i = true) : ∃ k, k < 64 ∧ x = nI k := by
  obtain ⟨k, hk, rfl⟩ := hg
  refine z_nat (m := 6) (by decide) (fun i hi hi2 => ?_)
  cases hb : bt x i
  · rfl
  · have := h i hi2 hb
    rw [bt_g k hk i hi2 hi] at this; cases this
theorem ca_split (hW : WF T n) (hR : RB (M 1) T n) (hC : CI Y E B X M) (a b : Int32) : ∃ o T' Y' E' v M', r4_split T Y E a b = some (o, T', Y', E') ∧ r5_split M a b = some (v, M') ∧ agr cdS o v (M' 0 0) ∧ Res B X T' Y' E' M' := by
  have hn := hW.le
  have bad : ∀ (k : Nat) (th : Int32), th ≠ 0 → cdS k = some th → ∃ M', r5_split_j60 M a b th = some (0, M') ∧ agr cdS (.inl k) 0 (M' 0 0) ∧ Res B X T Y E M' := fun k th h0 hk => by
    refine ⟨us M 0 th, ?_, ?_, ⟨n, hW, hR.z _⟩, hC.kp (KP.z M th)⟩
    · unfold r5_split_j60 sw
      rw [zs_b, us_s, if_neg h0]
    · rw [us_s]; exact ⟨hk, h0⟩
  unfold r4_split r5_split r4_split_j32
  rcases ev_cases hW hR a with ⟨h1, h2⟩ | ⟨e, he, rfl, h1, h2⟩
  · obtain ⟨M', m1, m2, m3⟩ := bad 0 1 (by decide) rfl
    rw [h1, zs_1, zx_l, h2, zs_1, if_pos rfl, m1]
    exact ⟨_, _, _, _, _, _, rfl, rfl, m2, m3⟩
  · have he' : e < 14 := by omega
    rw [h1, zs_1, zx_r, h2, zs_1, if_neg z1n0, z_rd he' (by decide), zs_b, zo42 hR he he', zs_1, zs_1]
    by_cases c1 : b = 0
    · obtain ⟨M', m1, m2, m3⟩ := bad 1 2 (by decide) rfl
      rw [if_pos c1, if_pos c1, m1]
      exact ⟨_, _, _, _, _, _, rfl, rfl, m2, m3⟩
    · rw [if_neg c1, if_neg c1]
      by_cases c2 : b &&& (T 6 e ^^^ (-1)) = 0
      · rw [if_pos c2, if_pos c2]
        by_cases c3 : b = T 6 e
        · obtain ⟨M', m1, m2, m3⟩ := bad 1 2 (by decide) rfl
          rw [if_pos c3, if_pos c3, m1]
          exact ⟨_, _, _, _, _, _, rfl, rfl, m2, m3⟩
        · unfold r4_requireRoomForEvent
          rw [if_neg c3, if_neg c3, zmany hR, zs_1, hW.2.1]
          by_cases c14 : n = 14
          · obtain ⟨M', m1, m2, m3⟩ := bad 2 3 (by decide) rfl
            rw [c14, if_neg (show ¬ nI 14 < 14 by decide), zs_1, zx_l, if_pos (show nI 14 = 14 from rfl), m1]
            exact ⟨_, _, _, _, _, _, rfl, rfl, m2, m3⟩
          · obtain ⟨Y', E', M1, k1, k2, k3, k4, k5⟩ := keepC hW (hR.z 0) (hC.kp (KP.z M 0))
            rw [if_pos (show nI n < 14 from nI_lt (b := 14) (by omega) (by decide)), zs_1, zx_r, if_neg (show ¬ nI n = 14 from fun z => c14 ((nI_eq (b := 14) (by omega) (by decide)).mp z)), k1, zs_2, z_wr he' (by decide), zs_b]
            have hown := (hW.2.2.1 e he).2.1
            have hsub : ∀ i, i < 32 → bt b i = true → bt (T 6 e) i = true := fun i hi hb => by
              cases ht : bt (T 6 e) i
              · exact absurd ⟨hb, by rw [z_not _ hi, ht]; rfl⟩ ((z_and0 _ _).mp c2 i hi)
              · rfl
            have hW2 : WF (upr T 6 (upd (T 6) e (T 6 e &&& (b ^^^ (-1))))) n := hW.grp (z_sub64 hown (fun i _ hb => by rw [b_and, Bool.and_eq_true] at hb; exact hb.1))
            unfold r5_split_j60
            rw [show sw M 0 0 = some (us M 0 0) from rfl, zs_b, us_s, if_pos rfl, k2, zs_1, show (42 : Int32) = nI 42 from rfl, nI_add, z_rd (show 42 + e < 1008 by omega) (by decide), zs_b, (k4.2.2.2 e he).2.1, z_wr (show 42 + e < 1008 by omega) (by decide), zs_b]
            have hR2 : RB ((upr M1 1 (upd (M1 1) (42 + e) (T 6 e &&& (b ^^^ (-1))))) 1) (upr T 6 (upd (T 6) e (T 6 e &&& (b ^^^ (-1))))) n := by
              rw [upr_s]
              exact k4.upd1 hn he' (r := 6) (by omega) (upr_s _ _ _) (fun q hq _ => upr_n _ _ _ hq)
            rw [zo28 hR2 he he', zs_1, zo56 hR2 he he', zs_1, zo70 hR2 he he', zs_1, z_rd he' (by decide), zs_b, z_rd he' (by decide), zs_b, z_rd he' (by decide), zs_b, r3_newEvent_z hW2 (by omega), zs_2]
            obtain ⟨M2, p1, p2, p3⟩ := r5_opens_z hW2 hR2 (by omega) (upr T 6 (upd (T 6) e (T 6 e &&& (b ^^^ (-1)))) 5 e) b (upr T 6 (upd (T 6) e (T 6 e &&& (b ^^^ (-1)))) 7 e) (upr T 6 (upd (T 6) e (T 6 e &&& (b ^^^ (-1)))) 8 e)
            rw [p1, zs_2]
            refine ⟨_, _, _, _, _, _, rfl, rfl, ⟨?_, rfl⟩, ⟨n + 1, nw_WF hW2 (by omega) (hW2.2.2.1 e he).1 (z_sub64 hown hsub) (hW2.2.2.1 e he).2.2.1 (hW2.2.2.1 e he).2.2.2, p2⟩, k3.kp (KP.trans ⟨fun k hk => ?_, ?_, ?_, ?_, ?_, ?_⟩ (KP.of0 p3))⟩
            · rw [p3.1 0 (by decide) rfl, upr_n _ _ _ (by decide), k5 0 (by decide) (by decide), us_s]
            · rw [upr_s, upd_n (by omega)]
            · rw [upr_n _ _ _ (by decide)]
            · rw [upr_n _ _ _ (by decide)]
            · rw [upr_n _ _ _ (by decide)]
            · rw [upr_n _ _ _ (by decide)]
            · rw [upr_n _ _ _ (by decide)]
      · obtain ⟨M', m1, m2, m3⟩ := bad 1 2 (by decide) rfl
        rw [if_neg c2, if_neg c2, m1]
        refine ⟨.inl 1, _, _, _, _, _, ?_, rfl, m2, m3⟩
        split <;> rfl
theorem ca_place (hW : WF T n) (hR : RB (M 1) T n) (hC : CI Y E B X M) (a b : Int32) : ∃ o T' Y' E' v M', r4_place T Y E a b = some (o, T', Y', E') ∧ r5_place M a b = some (v, M') ∧ agr cdP o v (M' 0 0) ∧ Res B X T' Y' E' M' := by
  have bad : ∀ (k : Nat) (th : Int32), th ≠ 0 → cdP k = some th → ∃ M', r5_place_j49 M a b th = some (0, M') ∧ agr cdP (.inl k) 0 (M' 0 0) ∧ Res B X T Y E M' := fun k th h0 hk => by
    refine ⟨us M 0 th, ?_, ?_, ⟨n, hW, hR.z _⟩, hC.kp (KP.z M th)⟩
    · unfold r5_place_j49 sw
      rw [zs_b, us_s, if_neg h0]
    · rw [us_s]; exact ⟨hk, h0⟩
  unfold r4_place r5_place r4_requireFree
  rcases ev_cases hW hR a with ⟨h1, h2⟩ | ⟨e, he, rfl, h1, h2⟩
  · obtain ⟨M', m1, m2, m3⟩ := bad 0 1 (by decide) rfl
    rw [h1, zs_1, zx_l, h2, zs_1, if_pos rfl, m1]
    exact ⟨_, _, _, _, _, _, rfl, rfl, m2, m3⟩
  · have he' : e < 14 := by have := hW.le; omega
    rw [h1, zs_1, zx_r, h2, zs_1, if_neg z1n0]
    rcases ix60 b with ⟨h3, h4⟩ | ⟨p, hp, rfl, h3, h4⟩
    · obtain ⟨M', m1, m2, m3⟩ := bad 0 1 (by decide) rfl
      rw [h3, zs_1, zx_l, h4, zs_1, if_pos rfl, m1]
      exact ⟨_, _, _, _, _, _, rfl, rfl, m2, m3⟩
    · rw [h3, zs_1, zx_r, h4, zs_1, if_neg z1n0, z_rd he' (by decide), zs_b, zo98 hR he he', zs_1]
      rcases hW.2.2.2.2.2 e he' with hx | hx
      · rw [hx, if_pos rfl, if_neg (show ¬ (0 : Int32) = 1 by decide), r3_obstacleAt_z hW he hp, zs_1, r5_obstacleOf_z hW hR he hp, zs_1]
        by_cases c : obs T e p = 0
        · obtain ⟨Y', E', M1, k1, k2, k3, k4, k5⟩ := keepC hW (hR.z 0) (hC.kp (KP.z M 0))
          unfold r5_place_j49
          rw [if_pos c, if_pos c, zs_1, zx_r, k1, zs_2, z_rd he' (by decide), zs_b, r3_moveTo_z T he' hp, zs_1, show sw M 0 0 = some (us M 0 0) from rfl, zs_b, us_s, if_pos rfl, k2, zs_1, zo84 k4 he he', zs_1, r5_lays_z M1 he', zs_1]
          refine ⟨_, _, _, _, _, _, rfl, rfl, ⟨?_, rfl⟩, ⟨n, hW.mvW he hp, k4.mvW hW.le he'⟩, k3.kp (KP.of0 (FK.ly he'))⟩
          rw [lyn _ _ _ (by decide), k5 0 (by decide) (by decide), us_s]
        · obtain ⟨M', m1, m2, m3⟩ := bad 2 3 (by decide) rfl
          rw [if_neg c, if_neg c, zs_1, zx_l, m1]
          exact ⟨_, _, _, _, _, _, rfl, rfl, m2, m3⟩
      · obtain ⟨M', m1, m2, m3⟩ := bad 3 2 (by decide) rfl
        rw [hx, if_neg z1n0, if_pos rfl, m1]
        exact ⟨_, _, _, _, _, _, rfl, rfl, m2, m3⟩
theorem ca_unplace (hW : WF T n) (hR : RB (M 1) T n) (hC : CI Y E B X M) (a : Int32) : ∃ o T' Y' E' v M', r4_unplace T Y E a = some (o, T', Y', E') ∧ r5_unplace M a = some (v, M') ∧ agr cdG o v (M' 0 0) ∧ Res B X T' Y' E' M' := by
  have bad : ∀ (k : Nat) (th : Int32), th ≠ 0 → cdG k = some th → ∃ M', r5_unplace_j28 M a th = some (0, M') ∧ agr cdG (.inl k) 0 (M' 0 0) ∧ Res B X T Y E M' := fun k th h0 hk => by
    refine ⟨us M 0 th, ?_, ?_, ⟨n, hW, hR.z _⟩, hC.kp (KP.z M th)⟩
    · unfold r5_unplace_j28 sw
      rw [zs_b, us_s, if_neg h0]
    · rw [us_s]; exact ⟨hk, h0⟩
  unfold r4_unplace r5_unplace r4_requirePlaced
  rcases ev_cases hW hR a with ⟨h1, h2⟩ | ⟨e, he, rfl, h1, h2⟩
  · obtain ⟨M', m1, m2, m3⟩ := bad 0 1 (by decide) rfl
    rw [h1, zs_1, zx_l, h2, zs_1, if_pos rfl, m1]
    exact ⟨_, _, _, _, _, _, rfl, rfl, m2, m3⟩
  · have he' : e < 14 := by have := hW.le; omega
    rw [h1, zs_1, zx_r, h2, zs_1, if_neg z1n0, z_rd he' (by decide), zs_b, zo84 hR he he', zs_1]
    rcases hW.plW he' with ⟨p1, p2⟩ | ⟨p1, p2, _, _, p4⟩
    · obtain ⟨M', m1, m2, m3⟩ := bad 2 2 (by decide) rfl
      rw [p1, if_pos rfl, zs_1, zx_l, if_neg (show ¬ (0 : Int32) ≤ -1 by decide), m1]
      exact ⟨_, _, _, _, _, _, rfl, rfl, m2, m3⟩
    · obtain ⟨Y', E', M1, k1, k2, k3, k4, k5⟩ := keepC hW (hR.z 0) (hC.kp (KP.z M 0))
      obtain ⟨M2, l1, l2, l3⟩ := r5_lifts_z hW.le k4 he'
      unfold r5_unplace_j28
      rw [p2, if_neg (z_nm1 (by omega)), zs_1, zx_r, if_pos (nI_pos' (by omega)), k1, zs_2, zs_b, r3_release_z T he', zs_1, show sw M 0 0 = some (us M 0 0) from rfl, zs_b, us_s, if_pos rfl, k2, zs_1, zo84 k4 he he', zs_1, l1, zs_1]
      refine ⟨_, _, _, _, _, _, rfl, rfl, ⟨?_, p2⟩, ⟨n, hW.relW, l2⟩, k3.kp (KP.of0 l3)⟩
      rw [l3.1 0 (by decide) rfl, k5 0 (by decide) (by decide), us_s]
end C4
