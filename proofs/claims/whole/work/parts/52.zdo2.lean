/-! THE PURE LAYER: calls that change tables -/
section C5
variable {T Y B X M P : OS} {E : Nat → OS} {n : Nat}
theorem ca_fix (hW : WF T n) (hR : RB (M 1) T n) (hC : CI Y E B X M) (a : Int32) {w : Int32} (hw : w = 0 ∨ w = 1) : ∃ o T' Y' E' v M', r4_fix T Y E a w = some (o, T', Y', E') ∧ r5_fix M a w = some (v, M') ∧ agr cdG o v (M' 0 0) ∧ Res B X T' Y' E' M' := by
  have bad : ∀ (k : Nat) (th : Int32), th ≠ 0 → cdG k = some th → ∃ M', r5_fix_j28 M a w th = some (0, M') ∧ agr cdG (.inl k) 0 (M' 0 0) ∧ Res B X T Y E M' := fun k th h0 hk => by
    refine ⟨us M 0 th, ?_, ?_, ⟨n, hW, hR.z _⟩, hC.kp (KP.z M th)⟩
    · unfold r5_fix_j28 sw
      rw [zs_b, us_s, if_neg h0]
    · rw [us_s]; exact ⟨hk, h0⟩
  unfold r4_fix r5_fix r4_requirePlaced
  rcases ev_cases hW hR a with ⟨h1, h2⟩ | ⟨e, he, rfl, h1, h2⟩
  · obtain ⟨M', m1, m2, m3⟩ := bad 0 1 (by decide) rfl
    rw [h1, zs_1, zx_l, h2, zs_1, if_pos rfl, m1]
    exact ⟨_, _, _, _, _, _, rfl, rfl, m2, m3⟩
  · have hn := hW.le
    have he' : e < 14 := by omega
    rw [h1, zs_1, zx_r, h2, zs_1, if_neg z1n0, z_rd he' (by decide), zs_b, zo84 hR he he', zs_1]
    rcases hW.plW he' with ⟨p1, p2⟩ | ⟨p1, p2, _, _, p4⟩
    · obtain ⟨M', m1, m2, m3⟩ := bad 2 2 (by decide) rfl
      rw [p1, if_pos rfl, zs_1, zx_l, if_neg (show ¬ (0 : Int32) ≤ -1 by decide), m1]
      exact ⟨_, _, _, _, _, _, rfl, rfl, m2, m3⟩
    · obtain ⟨Y', E', M1, k1, k2, k3, k4, k5⟩ := keepC hW (hR.z 0) (hC.kp (KP.z M 0))
      have hz : ∀ w : Int32, (w = 0 ∨ w = 1) → zz w = some w := fun w h => by
        rcases h with rfl | rfl
        · exact z_zz0
        · exact z_zz1
      have hx := hW.2.2.2.2.2 e he'
      unfold r5_fix_j28
      rw [p2, if_neg (z_nm1 (by omega)), zs_1, zx_r, if_pos (nI_pos' (by omega)), k1, zs_2, z_rd he' (by decide), zs_b, hz w hw, zs_b, z_wr he' (by decide), zs_b, hz _ hx, zs_b, show sw M 0 0 = some (us M 0 0) from rfl, zs_b, us_s, if_pos rfl, k2, zs_1, zo98 k4 he he', zs_1]
      have hW2 : WF (upr T 12 (upd (T 12) e w)) n := by
        obtain ⟨w1, w2, w3, w4, w5, w6⟩ := hW
        unfold WF
        simp only [upr_n T 12 _ (show (13 : Nat) ≠ 12 by decide), upr_n T 12 _ (show (5 : Nat) ≠ 12 by decide), upr_n T 12 _ (show (6 : Nat) ≠ 12 by decide), upr_n T 12 _ (show (7 : Nat) ≠ 12 by decide), upr_n T 12 _ (show (8 : Nat) ≠ 12 by decide), upr_n T 12 _ (show (9 : Nat) ≠ 12 by decide), upr_n T 12 _ (show (10 : Nat) ≠ 12 by decide), upr_n T 12 _ (show (11 : Nat) ≠ 12 by decide), upr_s]
        refine ⟨w1, w2, w3, w4, fun i hi hi2 => ?_, fun i hi => ?_⟩
        · rw [upd_n (by omega)]; exact w5 i hi hi2
        · by_cases c : i = e
          · rw [c, upd_s]; exact hw
          · rw [upd_n c]; exact w6 i hi
      have hR2 : RB (upd (M1 1) (98 + e) w) (upr T 12 (upd (T 12) e w)) n := k4.upd1 hn he' (r := 12) (by omega) (upr_s _ _ _) (fun q hq _ => upr_n _ _ _ hq)
      have kp : KP M1 (upr M1 1 (upd (M1 1) (98 + e) w)) := ⟨fun k hk => by rw [upr_s, upd_n (by omega)], by rw [upr_n _ _ _ (by decide)], by rw [upr_n _ _ _ (by decide)], by rw [upr_n _ _ _ (by decide)], by rw [upr_n _ _ _ (by decide)], by rw [upr_n _ _ _ (by decide)]⟩
      have hj : ∀ s : Int32, (s = 0 ∨ s = 1) → r5_fix_j60 M1 (nI e) w s = some (s, upr M1 1 (upd (M1 1) (98 + e) w)) := fun s hs => by
        unfold r5_fix_j60 r5_fix_j78
        rw [show (98 : Int32) = nI 98 from rfl, nI_add, z_wr (show 98 + e < 1008 by omega) (by decide), z_wr (show 98 + e < 1008 by omega) (by decide), zs_b, zs_b, hz s hs, zs_b, zs_b]
        rcases hw with rfl | rfl
        · rw [if_pos rfl]
        · rw [if_neg z1n0]
      have h0 : upr M1 1 (upd (M1 1) (98 + e) w) 0 0 = 0 := by rw [upr_n _ _ _ (by decide), k5 0 (by decide) (by decide), us_s]
      rcases hx with hx | hx
      · rw [hx, if_neg (show ¬ (0 : Int32) = 1 by decide), hj 0 (Or.inl rfl)]
        exact ⟨_, _, _, _, _, _, rfl, rfl, ⟨h0, rfl⟩, ⟨n, hW2, by rw [upr_s]; exact hR2⟩, k3.kp kp⟩
      · rw [hx, if_pos rfl, hj 1 (Or.inr rfl)]
        exact ⟨_, _, _, _, _, _, rfl, rfl, ⟨h0, rfl⟩, ⟨n, hW2, by rw [upr_s]; exact hR2⟩, k3.kp kp⟩
/-- places and the row of places change sides -/
theorem sw_loop {N A B : OS} (v : Int32) (hn : n ≤ 14) (hA : RB (N 1) A n) (hAB : ∀ q, q ≠ 9 → q ≠ 10 → A q = B q) (hrow : ∀ k, k < n → N 15 k = B 9 k) : ∃ N', it2 (r5_insert_b77 v) 200 N 0 = some N' ∧ RB (N' 1) B n ∧ (∀ k, k < n → N' 15 k = A 9 k) ∧ FK (fun r => decide (r = 15)) N N' := by
  refine zi2k (F := r5_insert_b77 v) (a0 := N) n (fun i Q => (∀ q, q ≠ 1 → q ≠ 15 → Q q = N q) ∧ (∀ j, Q 1 j = if 84 ≤ j ∧ j < 84 + i then N 15 (j - 84) else N 1 j) ∧ ∀ j, Q 15 j = if j < i then N 1 (84 + j) else N 15 j) (fun Q => (∀ q, q ≠ 1 → q ≠ 15 → Q q = N q) ∧ (∀ j, Q 1 j = if 84 ≤ j ∧ j < 84 + n then N 15 (j - 84) else N 1 j) ∧ ∀ j, Q 15 j = if j < n then N 1 (84 + j) else N 15 j) (by omega) (fun Q n1 n2 => ?_) ⟨fun _ _ _ => rfl, fun j => by rw [if_neg (by omega)], fun j => by rw [if_neg (by omega)]⟩ (fun i Q hi hI => Or.inl ?_) (fun Q hI => ⟨Q, ?_, hI⟩)
  · obtain ⟨a1, a2, a3⟩ := n2
    refine ⟨Q, n1, ?_, fun k hk => ?_, fun q hq hq2 => a1 q hq (of_decide_eq_false hq2), fun k hk => by rw [a2, if_neg (by omega)]⟩
    · obtain ⟨h1, h2, h3, h4⟩ := hA
      have g : ∀ j, (j < 84 ∨ 98 ≤ j) → Q 1 j = N 1 j := fun j hj => by rw [a2, if_neg (by omega)]
      refine ⟨fun i hi => ?_, fun i hi => ?_, by rw [g 27 (by decide)]; exact h3, fun i hi => ?_⟩
      · rw [g i (by omega), g _ (by omega), g _ (by omega), g _ (by omega), ← hAB 0 (by decide) (by decide), ← hAB 1 (by decide) (by decide), ← hAB 2 (by decide) (by decide), ← hAB 3 (by decide) (by decide)]; exact h1 i hi
      · rw [g _ (by omega), ← hAB 4 (by decide) (by decide)]; exact h2 i hi
      · rw [g _ (by omega), g _ (by omega), g _ (by omega), g _ (by omega), g (98 + i) (by omega), g (112 + i) (by omega), a2 (84 + i), if_pos (by omega), ← hAB 5 (by decide) (by decide), ← hAB 6 (by decide) (by decide), ← hAB 7 (by decide) (by decide), ← hAB 8 (by decide) (by decide), ← hAB 12 (by decide) (by decide), ← hAB 11 (by decide) (by decide)]
        obtain ⟨b1, b2, b3, b4, _, b6, b7⟩ := h4 i hi
        exact ⟨b1, b2, b3, b4, by rw [show 84 + i - 84 = i by omega]; exact hrow i hi, b6, b7⟩
    · rw [a3, if_pos hk]; exact (hA.2.2.2 k hk).2.2.2.2.1
  · obtain ⟨k1, k2, k3⟩ := hI
    have hm : r5_many Q = some (nI n) := by
      unfold r5_many
      rw [show (27 : Int32) = nI 27 from rfl, z_rd (by decide) (by decide), k2 27, if_neg (by omega), hA.2.2.1]; rfl
    have hi14 : i < 14 := by omega
    unfold r5_insert_b77
    rw [hm, zs_1, if_neg (nI_ge hi (by omega)), show (84 : Int32) = nI 84 from rfl, z_of Q (show 84 + i < 1008 by omega), zs_1, z_rd hi14 (by decide), zs_b, r5_lays_z Q hi14, zs_1, z_wr hi14 (by decide), zs_b]
    refine ⟨_, rfl, fun q hq hq2 => ?_, fun j => ?_, fun j => ?_⟩
    · rw [upr_n _ _ _ hq2, lyn _ _ _ hq]; exact k1 q hq hq2
    · rw [upr_n _ _ _ (by decide), ly1]
      by_cases c : j = 84 + i
      · rw [c, upd_s, if_pos (by omega), k3, if_neg (by omega), show 84 + i - 84 = i by omega]
      · rw [upd_n c, k2]
        by_cases c2 : 84 ≤ j ∧ j < 84 + i
        · rw [if_pos c2, if_pos (by omega)]
        · rw [if_neg c2, if_neg (by omega)]
    · rw [upr_s, lyn _ _ _ (by decide)]
      by_cases c : j = i
      · rw [c, upd_s, if_pos (by omega), k2, if_neg (by omega)]
      · rw [upd_n c, k3]
        by_cases c2 : j < i
        · rw [if_pos c2, if_pos (by omega)]
        · rw [if_neg c2, if_neg (by omega)]
  · have hm : r5_many Q = some (nI n) := by
      unfold r5_many
      rw [show (27 : Int32) = nI 27 from rfl, z_rd (by decide) (by decide), hI.2.1 27, if_neg (by omega), hA.2.2.1]; rfl
    unfold r5_insert_b77
    rw [hm, zs_1, if_pos (nI_le (Nat.le_refl n) (by omega))]
theorem ca_insert (hW : WF T n) (hR : RB (M 1) T n) (hC : CI Y E B X M) (a : Int32) : ∃ o T' P' Y' E' v M', r4_insert T P Y E a = some (o, T', P', Y', E') ∧ r5_insert M a = some (v, M') ∧ agr cdI o v (M' 0 0) ∧ Res B X T' Y' E' M' := by
  have hn := hW.le
  have bad : ∀ (k : Nat) (th : Int32), th ≠ 0 → cdI k = some th → ∃ M', r5_insert_j28 M a th = some (0, M') ∧ agr cdI (.inl k) 0 (M' 0 0) ∧ Res B X T Y E M' := fun k th h0 hk => by
    refine ⟨us M 0 th, ?_, ?_, ⟨n, hW, hR.z _⟩, hC.kp (KP.z M th)⟩
    · unfold r5_insert_j28 sw
      rw [zs_b, us_s, if_neg h0]
    · rw [us_s]; exact ⟨hk, h0⟩
  unfold r4_insert r5_insert
  rcases ev_cases hW hR a with ⟨h1, h2⟩ | ⟨e, he, rfl, h1, h2⟩
  · obtain ⟨M', m1, m2, m3⟩ := bad 0 1 (by decide) rfl
    rw [h1, zs_1, zx_l, h2, zs_1, if_pos rfl, m1]
    exact ⟨_, _, _, _, _, _, _, rfl, rfl, m2, m3⟩
  · have he' : e < 14 := by omega
    rw [h1, zs_1, zx_r, h2, zs_1, if_neg z1n0, z_rd he' (by decide), zs_b, zo84 hR he he', zs_1]
    rcases hW.plW he' with ⟨p1, p2⟩ | ⟨p1, p2, _, _, p4⟩
    · obtain ⟨c, nx, u, g1, g2, g3⟩ := hC.kp (KP.z M 0)
      obtain ⟨E6, n1, n2, n3, n4⟩ := r1_note_z hW g1
      obtain ⟨P', q1, q2⟩ := r2_tryInsert_z P hW he p1
      have hR0 := hR.z (M := M) 0
      obtain ⟨M2, c1, c2, c3⟩ := cp_loop (r := 15) (by decide) hn hR0
      have hR2 : RB (M2 1) T n := by rw [c2 1 (by decide)]; exact hR0
      obtain ⟨v, M3, i1, i2, i3⟩ := r5_inserts_z hW hR2 he p1
      have h15 : ∀ k, k < n → M3 15 k = T 9 k := fun k hk => by rw [i2.1 15 (by decide) rfl]; exact c3 k hk
      unfold r5_insert_j28
      rw [p1, if_pos rfl, if_pos z_m1lt, n1, zs_1, q2, show sw M 0 0 = some (us M 0 0) from rfl, zs_b, us_s, if_pos rfl, show it2 (r5_insert_b42 (nI e)) 200 (us M 0 0) 0 = some M2 from c1, zs_1, i1, zs_2]
      have kp0 : ∀ N, FK (fun r => decide (r = 15)) M3 N → (∀ r, r ≠ 1 → r ≠ 14 → r ≠ 15 → N r = us M 0 0 r) ∧ ∀ k, 126 ≤ k → N 1 k = us M 0 0 1 k := fun N hN => by
        refine ⟨fun r r1 r14 r15 => ?_, fun k hk => ?_⟩
        · rw [hN.1 r r1 (decide_eq_false r15), i2.1 r r1 (decide_eq_false r14), c2 r r15]
        · rw [hN.2 k hk, i2.2 k hk, c2 1 (by decide)]
      cases hI : insS T e with
      | inl z =>
        rw [hI] at i3
        obtain ⟨rfl, i4⟩ := i3
        obtain ⟨N, s1, s2, s3, s4⟩ := sw_loop (-1) hn i4 (fun _ _ _ => rfl) h15
        obtain ⟨f1, f2⟩ := kp0 N s4
        rw [zs_3, if_pos rfl, s1, zs_1, if_neg (show ¬ (0 : Int32) ≤ -1 by decide), show sw N 0 3 = some (us N 0 3) from rfl, zs_b]
        refine ⟨_, _, _, _, _, _, _, rfl, rfl, ⟨?_, ?_⟩, ⟨n, hW, s2.z 3⟩, ?_⟩
        · rw [us_s]; rfl
        · rw [us_s]; decide
        · have hC6 : CI Y E6 B X (us M 0 0) := ⟨c, nx, u, n2, ⟨g2.1, by rw [n4]; exact g2.2⟩, g3⟩
          exact (hC6.kp ⟨f2, by rw [f1 2 (by decide) (by decide) (by decide)], by rw [f1 3 (by decide) (by decide) (by decide)], by rw [f1 4 (by decide) (by decide) (by decide)], by rw [f1 5 (by decide) (by decide) (by decide)], by rw [f1 7 (by decide) (by decide) (by decide)]⟩).kp (KP.z N 3)
      | inr z =>
        obtain ⟨m, T'⟩ := z
        rw [hI] at i3
        obtain ⟨rfl, i4⟩ := i3
        obtain ⟨w1, w2⟩ := insS_WF hW he hI
        have hkeep := (insS_keep hW he hI).1
        obtain ⟨N, s1, s2, s3, s4⟩ := sw_loop (nI m) hn i4 hkeep h15
        obtain ⟨f1, f2⟩ := kp0 N s4
        have hC6 : CI Y E6 B X (us M 0 0) := ⟨c, nx, u, n2, ⟨g2.1, by rw [n4]; exact g2.2⟩, g3⟩
        have kpN : KP (us M 0 0) N := ⟨f2, by rw [f1 2 (by decide) (by decide) (by decide)], by rw [f1 3 (by decide) (by decide) (by decide)], by rw [f1 4 (by decide) (by decide) (by decide)], by rw [f1 5 (by decide) (by decide) (by decide)], by rw [f1 7 (by decide) (by decide) (by decide)]⟩
        -- the same numbers as the note's
        have hHN : HI Y E6 N c nx := by
          refine ⟨n2.1, n2.2.1, n2.2.2.1, kpN.2.1.trans n2.2.2.2.1, n2.2.2.2.2.1, fun q a1 a2 => ?_⟩
          obtain ⟨mm, v1, v2⟩ := n2.2.2.2.2.2 q a1 a2
          exact ⟨mm, v1, v2.fn v1.le (fun i hi => kpN.1 _ (by omega))⟩
        obtain ⟨Y', M4, c', nx', b1, b2, b3, b4, b5⟩ := keep_both hW s2 hHN n3
        have hR4 : RB (M4 1) T n := s2.fn hn (fun i hi => b5 i (Or.inl hi))
        obtain ⟨M5, d1, d2, d3⟩ := ly_loop (r := 15) (B := T') (by decide) hn hR4 (fun q q9 q10 => (hkeep q q9 q10).symm) (fun k hk => by rw [b4 15 (by decide) (by decide)]; exact s3 k hk)
        rw [zs_3, if_neg (z_nm1 (by omega)), b1, zs_1, s1, zs_1, if_pos (nI_pos' (by omega)), b2, zs_1, show it2 (r5_insert_b136 (nI m)) 200 M4 0 = some M5 from d1, zs_1]
        refine ⟨_, _, _, _, _, _, _, rfl, rfl, ⟨?_, rfl⟩, ⟨n, w1, d2⟩, ?_⟩
        · rw [d3.1 0 (by decide) rfl, b4 0 (by decide) (by decide), f1 0 (by decide) (by decide) (by decide), us_s]
        · have hCN := hC6.kp kpN
          have hCM4 : CI Y' E6 B X M4 := by
            obtain ⟨_, _, u', _, y2, y3⟩ := hCN
            refine ⟨c', nx', u', b3, ?_, ?_⟩
            · unfold SV
              rw [b4 3 (by decide) (by decide)]
              refine ⟨y2.1, ?_⟩
              rcases y2.2 with h | ⟨h, mm, v1, v2⟩
              · exact Or.inl h
              · exact Or.inr ⟨h, mm, v1, v2.fn v1.le (fun i hi => b5 _ (by omega))⟩
            · unfold TX
              rw [b4 5 (by decide) (by decide), b4 4 (by decide) (by decide), b4 7 (by decide) (by decide)]
              exact y3
          exact hCM4.kp (KP.of0 d3)
    · obtain ⟨M', m1, m2, m3⟩ := bad 2 2 (by decide) rfl
      rw [p2, if_neg (z_nm1 (by omega)), if_neg (nI_pos (by omega)), m1]
      exact ⟨_, _, _, _, _, _, _, rfl, rfl, m2, m3⟩
theorem ca_build (hW : WF T n) (hR : RB (M 1) T n) (hC : CI Y E B X M) : ∃ T' P' Y' E' v M', r4_build T P Y E = some (v, T', P', Y', E') ∧ r5_build M = some (v, M') ∧ Res B X T' Y' E' M' := by
  obtain ⟨Y', E', M1, k1, k2, k3, k4, k5⟩ := keepC hW (hR.z 0) (hC.kp (KP.z M 0))
  obtain ⟨P3, r1, r2, r3⟩ := r2_rankWaiting_z hW P
  obtain ⟨M2, o, c, b1, b2, b3, b4, b5, b6, b7⟩ := r5_build_ord hW k4
  obtain ⟨P4, l1⟩ := r4_build_loop Y' E' hW b6 b2 r2 r3
  obtain ⟨M3, d1, d2, d3⟩ := r5_build_run hW (by rw [b4]; exact k4) b6 b2 b5
  obtain ⟨w1, _, _, w4⟩ := bT_inv hW b6 c (Nat.le_refl c)
  unfold r4_build r5_build
  rw [k1, zs_2, r1, zs_1, l1, zs_2, r3_unplaced_z w1, zs_1, show sw M 0 0 = some (us M 0 0) from rfl, zs_b, k2, zs_1, b1, zs_2, d1, zs_2]
  have hu : unp (bT o T c) n = nI (bF o T c) := by
    unfold unp
    congr 1
    omega
  rw [hu]
  exact ⟨_, _, _, _, _, _, rfl, rfl, ⟨n, w1, d3⟩, k3.kp ((KP.of b3 rfl rfl rfl rfl rfl).trans (KP.of d2 rfl rfl rfl rfl rfl))⟩
theorem ca_exchange (hW : WF T n) (hR : RB (M 1) T n) (hC : CI Y E B X M) (a b : Int32) : ∃ o T' P' Y' E' v M', r4_exchange T P Y E a b = some (o, T', P', Y', E') ∧ r5_exchange M a b = some (v, M') ∧ agr cdI o v (M' 0 0) ∧ Res B X T' Y' E' M' := by
  have hn := hW.le
  unfold r4_exchange r5_exchange
  rcases chn_cases hW hR a b with ⟨k, th, h1, h2, h3, h4⟩ | ⟨e, t, x, he, ht, rfl, rfl, h8, p1, p2, pne, h1, h2, hx, h3⟩
  · rw [h1, h2, zs_1, zx_l, zs_1, show sw M 0 th = some (us M 0 th) from rfl, zs_b, us_s, if_neg h3]
    refine ⟨_, _, _, _, _, _, _, rfl, rfl, ⟨?_, ?_⟩, ⟨n, hW, hR.z _⟩, hC.kp (KP.z M th)⟩
    · rw [us_s]
      unfold cdG at h4
      unfold cdI
      split at h4
      · next h => rw [if_pos h]; exact h4
      · next h =>
        rw [if_neg h]
        split at h4
        · next h' => rw [if_pos h']; exact h4
        · cases h4
    · rw [us_s]; exact h3
  · have he' : e < 14 := by omega
    have hs : pl T e / 6 < 10 := by omega
    have hins : ins T x (pl T e / 6) t := fun o ho => hx.two (by
      rcases hW.plz he' with ⟨_, z⟩ | ⟨_, _, z, _, _⟩
      · rcases hW.plW he' with ⟨q1, _⟩ | ⟨_, _, q3, _, _⟩
        · rw [q1] at p2; exact absurd p2.symm (z_nm1 (by omega))
        · rw [z] at q3
          intro _
          have hb : bt (slS (pl T e / 6) (T 8 e)) (pl T e / 6) = true := by rw [h8, slS_1, zb_bt _ (by omega) _ (by omega)]; simp
          rw [← q3, b_0] at hb; cases hb
      · rw [z, h8, slS_1]
        exact (z_ne0 _ _).mpr ⟨pl T e / 6, by omega, by rw [zb_bt _ (by omega) _ (by omega)]; simp, by rw [b_or, zb_bt _ (by omega) _ (by omega)]; simp⟩) ho
    obtain ⟨v, P', f1, f2⟩ := r2_find_z hW hx.1 hins hs ht pne P
    have hR0 := hR.z (M := M) 0
    have hsl : r3_slotOf T (nI e) = some (nI (pl T e / 6)) := by
      unfold r3_slotOf
      rw [z_rd he' (by decide), p2, zs_b, z_d6 p1]
    rw [h1, h2, zs_1, zx_r, hsl, zs_1, f1, zs_2, zs_1, show sw M 0 0 = some (us M 0 0) from rfl, zs_b, us_s, if_pos rfl, zo84 hR0 he he', zs_1, p2, z_d6 p1, zs_b, h3 _ hR0, zs_1, r5_canMove_z hW hR0 hx.1 hins hs ht, zs_1]
    have bad : ∀ N, RB (N 1) T n → KP M N → ∃ v M', some ((0 : Int32), us N 0 3) = some (v, M') ∧ agr cdI (.inl 3) v (M' 0 0) ∧ Res B X T Y E M' := fun N hN hk => by
      refine ⟨0, us N 0 3, rfl, ⟨?_, ?_⟩, ⟨n, hW, hN.z 3⟩, (hC.kp hk).kp (KP.z N 3)⟩
      · rw [us_s]; rfl
      · rw [us_s]; decide
    cases hbad : zan (bdp T x (pl T e / 6) t) 14
    · rw [hbad, if_neg (show ¬ (false = true) by decide)] at f2
      obtain ⟨M1, z, M2, w, M3, M4, q1, q2, q3, q4, q5, q6, q7⟩ := r5_ex_z hW hR0 hx.1 hins hs ht pne hbad
      rw [if_neg (show ¬ (false = true) by decide), if_neg z1n0, q1, zs_2, q2, zs_2, q3, zs_1, q4, zs_1]
      have kp4 : KP M M4 := (KP.z M 0).trans (KP.of q6 rfl rfl rfl rfl rfl)
      cases hG : exG T x (pl T e / 6) t with
      | none =>
        rw [hG] at f2 q7
        have f2' : v = 0 := f2
        have q7' : w = 0 := q7
        obtain ⟨v', M', m1, m2, m3⟩ := bad M4 q5 kp4
        rw [if_pos f2', if_pos q7', show sw M4 0 3 = some (us M4 0 3) from rfl, zs_b, m1]
        exact ⟨_, _, _, _, _, _, _, rfl, rfl, m2, m3⟩
      | some R =>
        rw [hG] at f2 q7
        obtain ⟨g1, g2, g3⟩ := f2
        obtain ⟨g4, g5⟩ := q7
        obtain ⟨Y', E', M5, k1, k2, k3, k4, k5⟩ := keepC hW q5 (hC.kp kp4)
        obtain ⟨M6, d1, d2, d3⟩ := ly_loop (r := 15) (B := swp T x (swQ T (pl T e / 6) t R) 14) (by decide) hn k4 (fun q q9 q10 => ((swp_row T x (swQ T (pl T e / 6) t R) 14).1 q q9 q10).symm) (fun k hk => by rw [k5 15 (by decide) (by decide)]; exact g5 k hk)
        rw [g1, if_neg z1n0, k1, zs_2, g2, zs_1, z_bc (fun i hi _ => by
          cases hb : bt x i
          · rfl
          · have := hx.1 i hb; omega), zs_1, g4, if_neg z1n0, k2, zs_1, show it2 (r5_exchange_b228 x) 200 M5 0 = some M6 from d1, zs_1, r5_bits_z (fun i hi _ => by
          cases hb : bt x i
          · rfl
          · have := hx.1 i hb; omega), zs_1]
        refine ⟨_, _, _, _, _, _, _, rfl, rfl, ⟨?_, rfl⟩, ⟨n, swp_WF hW hx.1 g3 14, d2⟩, k3.kp (KP.of0 d3)⟩
        rw [d3.1 0 (by decide) rfl, k5 0 (by decide) (by decide), q6.1 0 (by decide) rfl, us_s]
    · rw [hbad, if_pos rfl] at f2
      obtain ⟨v', M', m1, m2, m3⟩ := bad (us M 0 0) hR0 (KP.z M 0)
      rw [if_pos f2, if_pos rfl, if_pos rfl, show sw (us M 0 0) 0 3 = some (us (us M 0 0) 0 3) from rfl, zs_b, m1]
      exact ⟨_, _, _, _, _, _, _, rfl, rfl, m2, m3⟩
end C5
