/-! THE PURE LAYER: the whole event read -/
section READ2
variable {L : Nat → Int32} {u p : Nat} {X M : OS}
theorem groups_z (hL : okL L u) (hX : cX L u X p) (hM : cM L u M p) : ∃ v X' M', r0_readGroups X = some (v, X') ∧ bd2 (r5_digit M 0 5) (fun v15 M16 => (sw M16 9 (1 <<< (v15 &&& 31))).bind fun M17 => bd1 (it2 r5_reads_b78 200 M17 v15) rnd) = rnd M' ∧
    (∀ r, r ≠ 1 → r ≠ 5 → X' r = X r) ∧ (∀ r, r ≠ 6 → r ≠ 7 → r ≠ 9 → M' r = M r) ∧ bothE u X' M' v (fun p => cX L u X' p ∧ cM L u M' p ∧ X' 5 0 = M' 9 0 ∧ ∃ g, g < 64 ∧ X' 5 0 = nI g) := by
  have hu := hL.1
  have hp := hX.2.2.2
  have hX0 := hX.put 0 (r := 5) (by decide) (by decide) (by decide)
  unfold r0_readGroups
  rw [show sw X 5 0 = some (us X 5 0) from rfl, zs_b, show r5_digit M 0 5 = _ from r5_digit_z hL hM (a := 0) (b := 5) (by decide) (by decide)]
  have hcb : r0_readGroups_b9 (us X 5 0) (-1) 0 = (if (if isD L u p then nI (dv L p) else -1) ≤ -1 then some (.inr (.inr (0, us X 5 0))) else (if (if isD L u p then nI (dv L p) else -1) < 6 then (sw (us X 5 0) 5 ((us X 5 0 5 0) ||| (1 <<< ((if isD L u p then nI (dv L p) else -1) &&& 31)))).bind fun X6 => (sw X6 1 ((X6 1 0) + 1)).bind fun X7 => bd2 (r0_skip X7 44) (fun v8 X9 => (if v8 = 0 then some (.inr (.inr (1, X9))) else some (.inl (X9, (if isD L u p then nI (dv L p) else -1), (0 + 1))))) else some (.inr (.inr (0, us X 5 0))))) := by
    unfold r0_readGroups_b9
    rw [if_neg (show ¬ (6 : Int32) ≤ 0 by decide), r0_digit_z hL hX0, zs_1]
  by_cases cd : isD L u p = true ∧ 0 ≤ dv L p ∧ dv L p ≤ 5
  · obtain ⟨d1, _, d3⟩ := cd
    obtain ⟨hlt, hd9⟩ := isD_lt d1
    rw [if_pos (show isD L u p = true ∧ 0 ≤ dv L p ∧ dv L p ≤ 5 from ⟨d1, Nat.zero_le _, d3⟩), zs_2]
    rw [d1, if_pos rfl, if_neg (show ¬ nI (dv L p) ≤ -1 from by rw [Int32.le_iff_toInt_le, nI_toInt (by omega), show (-1 : Int32).toInt = -1 from by decide]; omega), if_pos (show nI (dv L p) < 6 from nI_lt (b := 6) (by omega) (by decide))] at hcb
    unfold sw at hcb ⊢
    rw [zs_b, us_s, z_0or, us_n _ _ _ (show (1 : Nat) ≠ 5 by decide), us_n _ _ _ (show (1 : Nat) ≠ 5 by decide), hX.2.2.1, zs_b, nI_1] at hcb
    rw [zs_b]
    have hX2 := (hX0.put (1 <<< (nI (dv L p) &&& 31)) (r := 5) (by decide) (by decide) (by decide)).at (p + 1) (by omega)
    have hM2 := (hM.at (p + 1) (by omega)).put (1 <<< (nI (dv L p) &&& 31)) (r := 9) (by decide) (by decide) (by decide) (by decide)
    have hgz : ∀ d, d < 6 → ∃ g', g' < 64 ∧ (1 : Int32) <<< (nI d &&& 31) = nI g' := by decide +kernel
    obtain ⟨v, X', M', r1, r2, r3, r4, r5⟩ := grp_loop hL 5 1 (p + 1) (dv L p) 199 200 _ _ (by decide) (by decide) (by omega) d3 (by decide) (by decide) hX2 hM2 (by rw [us_n _ _ _ (by decide), us_s, us_s]) (by rw [us_n _ _ _ (by decide), us_s]; exact hgz _ (by omega))
    refine ⟨v, X', M', ?_, by rw [r2, zs_1], fun r h1 h5 => ?_, fun r h6 h7 h9 => ?_, r5⟩
    · unfold it3
      rw [hcb]
      rw [r0_skip_z hL hX2 (by decide)] at r1 ⊢
      cases hc2 : hcB L u (p + 1) 44
      · rw [hc2] at r1
        rw [if_neg (show ¬ (false = true) by decide), zs_2, if_pos rfl] at r1 ⊢
        exact r1
      · rw [hc2] at r1
        rw [if_pos rfl, zs_2, if_neg (show ¬ (1 : Int32) = 0 by decide)] at r1 ⊢
        exact r1
    · rw [r3 r h1 h5, us_n _ _ _ h1, us_n _ _ _ h5, us_n _ _ _ h5]
    · rw [r4 r h6 h7 h9, us_n _ _ _ h9, us_n _ _ _ h6]
  · rw [if_neg cd, zs_2]
    have hcb2 : r0_readGroups_b9 (us X 5 0) (-1) 0 = some (.inr (.inr (0, us X 5 0))) := by
      rw [hcb]
      cases hd : isD L u p
      · rw [if_neg (show ¬ (false = true) by decide), if_pos (show (-1 : Int32) ≤ -1 by decide)]
      · obtain ⟨hlt, hd9⟩ := isD_lt hd
        rw [if_pos rfl, if_neg (show ¬ nI (dv L p) ≤ -1 from by rw [Int32.le_iff_toInt_le, nI_toInt (by omega), show (-1 : Int32).toInt = -1 from by decide]; omega), if_neg (show ¬ nI (dv L p) < 6 from nI_nlt (b := 6) (by have : ¬ (0 ≤ dv L p ∧ dv L p ≤ 5) := fun z => cd ⟨hd, z⟩; omega) (by omega))]
    unfold sw
    rw [zs_b]
    have hb2 : ∀ N : OS, 0 ≤ N 7 0 → ∀ z, it2 r5_reads_b78 200 N z = some N := fun N hN z => by
      unfold it2
      have : r5_reads_b78 N z = some (.inr N) := by unfold r5_reads_b78; rw [if_pos hN]
      rw [this]
    rw [hb2 _ (by rw [us_n _ _ _ (by decide), us_s]; exact nI_pos' (by omega)), zs_1]
    refine ⟨0, us X 5 0, us (us M 7 (nI p)) 9 (1 <<< ((0 : Int32) &&& 31)), ?_, rfl, fun r _ h5 => us_n _ _ _ h5, fun r _ h7 h9 => by rw [us_n _ _ _ h9, us_n _ _ _ h7], Or.inr ⟨rfl, p, hp, by rw [us_n _ _ _ (by decide)]; exact hX.2.2.1, by rw [us_n _ _ _ (by decide), us_s]⟩⟩
    unfold it3
    rw [hcb2]; rfl
end READ2
theorem j54_f {M : OS} (h : 0 ≤ M 7 0) : ∃ M', r5_reads_j54 M = some M' ∧ ∀ r, r ≠ 6 → r ≠ 9 → M' r = M r := by
  have e7 : us (us M 6 (M 6 0 + 1)) 9 (1 <<< ((0 : Int32) &&& 31)) 7 = M 7 := by rw [us_n _ _ _ (by decide), us_n _ _ _ (by decide)]
  have h1 : (0 : Int32) ≤ us M 6 (M 6 0 + 1) 7 0 := by rw [us_n _ _ _ (by decide)]; exact h
  have h2 : (0 : Int32) ≤ us (us M 6 (M 6 0 + 1)) 9 (1 <<< ((0 : Int32) &&& 31)) 7 0 := by rw [e7]; exact h
  refine ⟨us (us M 6 (M 6 0 + 1)) 9 (1 <<< ((0 : Int32) &&& 31)), ?_, fun r h6 h9 => by rw [us_n _ _ _ h9, us_n _ _ _ h6]⟩
  unfold r5_reads_j54 sw
  rw [zs_b, r5_digit_f h1, zs_2, zs_b]
  have hb : it2 r5_reads_b78 200 (us (us M 6 (M 6 0 + 1)) 9 (1 <<< ((0 : Int32) &&& 31))) 0 = some (us (us M 6 (M 6 0 + 1)) 9 (1 <<< ((0 : Int32) &&& 31))) := by
    unfold it2
    have : r5_reads_b78 (us (us M 6 (M 6 0 + 1)) 9 (1 <<< ((0 : Int32) &&& 31))) 0 = some (.inr (us (us M 6 (M 6 0 + 1)) 9 (1 <<< ((0 : Int32) &&& 31)))) := by unfold r5_reads_b78; rw [if_pos h2]
    rw [this]
  rw [hb, zs_1, if_pos h2, j238_f h2, j274_f h2]
theorem j54_g (M : OS) : r5_reads_j54 M = bd2 (r5_digit (us M 6 (M 6 0 + 1)) 0 5) (fun v15 M16 => (sw M16 9 (1 <<< (v15 &&& 31))).bind fun M17 => bd1 (it2 r5_reads_b78 200 M17 v15) rnd) := rfl
theorem j49_0 (X : OS) : r0_readEvent_j49 X 0 = some (0, us (us X 3 (X 1 0)) 2 0) := by
  unfold r0_readEvent_j49 r0_readEvent_j63 sw
  rw [if_pos rfl, zs_b, zs_b, z_zz0, zs_b]
theorem j49_1 (X : OS) : r0_readEvent_j49 X 1 = some (1, us (us X 3 (-1)) 2 0) := by
  unfold r0_readEvent_j49 r0_readEvent_j63 sw
  rw [if_neg (show ¬ (1 : Int32) = 0 by decide), zs_b, zs_b, z_zz1, zs_b]
def goodE (X' M' : OS) : Prop := M' 7 0 = -1 ∧ X' 4 0 = M' 8 0 ∧ X' 5 0 = M' 9 0 ∧ X' 6 0 = M' 10 0 ∧ X' 7 0 = M' 11 0 ∧ (∃ t, t < 6 ∧ X' 4 0 = nI t) ∧ (∃ g, g < 64 ∧ X' 5 0 = nI g) ∧ (∃ x, x < 16 ∧ X' 6 0 = nI x) ∧ (X' 7 0 = 1 ∨ X' 7 0 = 2)
theorem readEvent_z {X M : OS} {u : Nat} (hT : TX X M u) : ∃ v X' M', r0_readEvent X = some (v, X') ∧ r5_reads M = some M' ∧ (∀ r, r < 6 → M' r = M r) ∧ (∀ r, 12 ≤ r → M' r = M r) ∧ X' 2 0 = 0 ∧ X' 3 0 = M' 7 0 ∧ ((v = 1 ∧ goodE X' M') ∨ (v = 0 ∧ 0 ≤ M' 7 0)) := by
  obtain ⟨hu, t1, t2, t3, _⟩ := hT
  have hL : okL (X 0) u := ⟨hu, fun i hi => (t3 i hi).2⟩
  have hX5 : cX (X 0) u (us X 1 (nI 0)) 0 := ⟨fun i hi => by rw [us_n _ _ _ (by decide)], by rw [us_n _ _ _ (by decide)]; exact t1, us_s _ _ _ ▸ rfl, Nat.zero_le u⟩
  have hM43 : cM (X 0) u (us (us (us (us M 6 (nI 0)) 7 (-1)) 10 0) 11 1) 0 := by
    refine ⟨fun i hi => ?_, ?_, ?_, ?_, Nat.zero_le u⟩
    · rw [us_n _ _ _ (by decide), us_n _ _ _ (by decide), us_n _ _ _ (by decide), us_n _ _ _ (by decide)]; exact (t3 i hi).1
    · rw [us_n _ _ _ (by decide), us_n _ _ _ (by decide), us_n _ _ _ (by decide), us_n _ _ _ (by decide)]; exact t2
    · rw [us_n _ _ _ (by decide), us_n _ _ _ (by decide), us_n _ _ _ (by decide), us_s]
    · rw [us_n _ _ _ (by decide), us_n _ _ _ (by decide), us_s]
  have a10 : us (us (us (us M 6 (nI 0)) 7 (-1)) 10 0) 11 1 10 0 = 0 := by rw [us_n _ _ _ (by decide), us_s]
  have a11 : us (us (us (us M 6 (nI 0)) 7 (-1)) 10 0) 11 1 11 0 = 1 := by rw [us_s]
  have fr : ∀ r, (r < 6 ∨ 12 ≤ r) → us (us (us (us M 6 (nI 0)) 7 (-1)) 10 0) 11 1 r = M r := fun r hr => by
    rw [us_n _ _ _ (by omega), us_n _ _ _ (by omega), us_n _ _ _ (by omega), us_n _ _ _ (by omega)]
  unfold r0_readEvent r5_reads
  rw [show sw X 1 0 = some (us X 1 (nI 0)) from rfl, zs_b, show sw M 6 0 = some (us M 6 (nI 0)) from rfl, zs_b, show sw (us M 6 (nI 0)) 7 (-1) = some (us (us M 6 (nI 0)) 7 (-1)) from rfl, zs_b, show sw (us (us M 6 (nI 0)) 7 (-1)) 10 0 = some (us (us (us M 6 (nI 0)) 7 (-1)) 10 0) from rfl, zs_b, show sw (us (us (us M 6 (nI 0)) 7 (-1)) 10 0) 11 1 = some (us (us (us (us M 6 (nI 0)) 7 (-1)) 10 0) 11 1) from rfl, zs_b]
  generalize us X 1 (nI 0) = X5 at hX5 ⊢
  generalize us (us (us (us M 6 (nI 0)) 7 (-1)) 10 0) 11 1 = M43 at hM43 a10 a11 fr ⊢
  unfold r0_readTeacher
  rw [r0_digit_z hL hX5, zs_1, show r5_digit M43 0 5 = _ from r5_digit_z hL hM43 (a := 0) (b := 5) (by decide) (by decide)]
  unfold sw
  rw [zs_b, us_s]
  -- an end with a fault
  have hend : ∀ (X7 M9 : OS) (q : Nat), q ≤ u → X7 1 0 = nI q → M9 7 0 = nI q → (∀ r, (r < 6 ∨ 12 ≤ r) → M9 r = M r) → ∃ v X' M', some ((0 : Int32), us (us X7 3 (X7 1 0)) 2 0) = some (v, X') ∧ some M9 = some M' ∧ (∀ r, r < 6 → M' r = M r) ∧ (∀ r, 12 ≤ r → M' r = M r) ∧ X' 2 0 = 0 ∧ X' 3 0 = M' 7 0 ∧ ((v = 1 ∧ goodE X' M') ∨ (v = 0 ∧ 0 ≤ M' 7 0)) := fun X7 M9 q hq h1 h7 hf =>
    ⟨0, us (us X7 3 (X7 1 0)) 2 0, M9, rfl, rfl, fun r hr => hf r (Or.inl hr), fun r hr => hf r (Or.inr hr), us_s _ _ _ ▸ rfl, by rw [us_n _ _ _ (by decide), us_s, h1, h7], Or.inr ⟨rfl, by rw [h7]; exact nI_pos' (by omega)⟩⟩
  by_cases cd : isD (X 0) u 0 = true ∧ 0 ≤ dv (X 0) 0 ∧ dv (X 0) 0 ≤ 5
  · obtain ⟨d1, _, d3⟩ := cd
    obtain ⟨hlt, hd9⟩ := isD_lt d1
    rw [if_pos (show isD (X 0) u 0 = true ∧ 0 ≤ dv (X 0) 0 ∧ dv (X 0) 0 ≤ 5 from ⟨d1, Nat.zero_le _, d3⟩), if_pos d1, zs_2, zs_b, if_neg (nI_pos (by omega)), if_pos (show nI (dv (X 0) 0) < 6 from nI_lt (b := 6) (by omega) (by decide)), us_n _ _ _ (show (1 : Nat) ≠ 4 by decide), hX5.2.2.1, nI_1, zs_b, us_n _ _ _ (show (7 : Nat) ≠ 8 by decide), us_n _ _ _ (show (7 : Nat) ≠ 6 by decide), hM43.2.2.2.1, if_neg (show ¬ (0 : Int32) ≤ -1 by decide)]
    have hX6 := (hX5.put (nI (dv (X 0) 0)) (r := 4) (by decide) (by decide) (by decide)).at (0 + 1) (by omega)
    have hM6 := (hM43.at (0 + 1) (by omega)).put (nI (dv (X 0) 0)) (r := 8) (by decide) (by decide) (by decide) (by decide)
    rw [r0_skip_z hL hX6 (by decide), r5_here_z hL hM6, zs_1]
    have e4 : us (us X5 4 (nI (dv (X 0) 0))) 1 (nI (0 + 1)) 4 0 = nI (dv (X 0) 0) := by rw [us_n _ _ _ (by decide), us_s]
    have e8 : us (us M43 6 (nI (0 + 1))) 8 (nI (dv (X 0) 0)) 8 0 = nI (dv (X 0) 0) := by rw [us_s]
    have e10 : us (us M43 6 (nI (0 + 1))) 8 (nI (dv (X 0) 0)) 10 0 = 0 := by rw [us_n _ _ _ (by decide), us_n _ _ _ (by decide)]; exact a10
    have e11 : us (us M43 6 (nI (0 + 1))) 8 (nI (dv (X 0) 0)) 11 0 = 1 := by rw [us_n _ _ _ (by decide), us_n _ _ _ (by decide)]; exact a11
    have fr2 : ∀ r, (r < 6 ∨ 12 ≤ r) → us (us M43 6 (nI (0 + 1))) 8 (nI (dv (X 0) 0)) r = M r := fun r hr => by
      rw [us_n _ _ _ (by omega), us_n _ _ _ (by omega)]; exact fr r hr
    generalize us (us X5 4 (nI (dv (X 0) 0))) 1 (nI (0 + 1)) = X6 at hX6 e4 ⊢
    generalize us (us M43 6 (nI (0 + 1))) 8 (nI (dv (X 0) 0)) = M6 at hM6 e8 e10 e11 fr2 ⊢
    cases hc : hcB (X 0) u (0 + 1) 58
    · have hne : ¬ ((if 0 + 1 < u then (X 0) (0 + 1) else -1) = 58) := fun z => by rw [here_eq 58 (by decide), hc] at z; cases z
      rw [if_neg hne, if_neg (show ¬ (false = true) by decide), zs_2, z_zz0, zs_b, zs_2, if_pos rfl, j49_0, zs_b]
      obtain ⟨M9, m1, m2⟩ := j54_f (M := us M6 7 (M6 6 0)) (by rw [us_s, hM6.2.2.1]; exact nI_pos' (by omega))
      rw [m1]
      exact hend X6 M9 (0 + 1) (by omega) hX6.2.2.1 (by rw [m2 7 (by decide) (by decide), us_s, hM6.2.2.1]) (fun r hr => by rw [m2 r (by omega) (by omega), us_n _ _ _ (by omega)]; exact fr2 r hr)
    · have heq : (if 0 + 1 < u then (X 0) (0 + 1) else -1) = 58 := by rw [here_eq 58 (by decide)]; exact hc
      have hpu := hcB_lt hc
      rw [if_pos heq, if_pos rfl, zs_2, z_zz1, zs_b, zs_2, if_neg (show ¬ (1 : Int32) = 0 by decide), j54_g, hM6.2.2.1, nI_1]
      have hX7 := hX6.at (0 + 1 + 1) (by omega)
      have hM7 := hM6.at (0 + 1 + 1) (by omega)
      obtain ⟨v, X8, M8, g1, g2, g3, g4, g5⟩ := groups_z hL hX7 hM7
      rw [g1, g2, zs_2]
      have e4' : X8 4 0 = nI (dv (X 0) 0) := by rw [g3 4 (by decide) (by decide), us_n _ _ _ (by decide)]; exact e4
      have e8' : M8 8 0 = nI (dv (X 0) 0) := by rw [g4 8 (by decide) (by decide) (by decide), us_n _ _ _ (by decide)]; exact e8
      have e10' : M8 10 0 = 0 := by rw [g4 10 (by decide) (by decide) (by decide), us_n _ _ _ (by decide)]; exact e10
      have e11' : M8 11 0 = 1 := by rw [g4 11 (by decide) (by decide) (by decide), us_n _ _ _ (by decide)]; exact e11
      have fr3 : ∀ r, (r < 6 ∨ 12 ≤ r) → M8 r = M r := fun r hr => by
        rw [g4 r (by omega) (by omega) (by omega), us_n _ _ _ (by omega)]; exact fr2 r hr
      rcases g5 with ⟨rfl, p2, hX8, hM8, h59, hg⟩ | ⟨rfl, q, hq, q1, q2⟩
      · rw [if_neg (show ¬ (1 : Int32) = 0 by decide)]
        obtain ⟨v, X9, M9, n1, n2, n3, n4, n5⟩ := needs_z hL hX8 hM8 e10'
        rw [n1, n2, zs_2]
        have fr4 : ∀ r, (r < 6 ∨ 12 ≤ r) → M9 r = M r := fun r hr => by
          rw [n4 r (by omega) (by omega) (by omega)]; exact fr3 r hr
        rcases n5 with ⟨rfl, p3, hX9, hM9, h610, hx⟩ | ⟨rfl, q, hq, q1, q2⟩
        · rw [if_neg (show ¬ (1 : Int32) = 0 by decide)]
          obtain ⟨v, X10, M10, l1, l2, l3, l4, l5⟩ := len_z hL hX9 hM9 (by rw [n4 11 (by decide) (by decide) (by decide)]; exact e11')
          rw [l1, l2, zs_2]
          have fr5 : ∀ r, (r < 6 ∨ 12 ≤ r) → M10 r = M r := fun r hr => by
            rw [l4 r (by omega) (by omega) (by omega)]; exact fr4 r hr
          rcases l5 with ⟨rfl, p4, hX10, hM10, h711, hlen⟩ | ⟨rfl, q, hq, q1, q2⟩
          · rw [if_neg (show ¬ (1 : Int32) = 0 by decide), hX10.2.2.1, hX10.2.1]
            have hp4 := hX10.2.2.2
            unfold r5_reads_j274
            rw [hM10.2.2.2.1, if_neg (show ¬ (0 : Int32) ≤ -1 by decide), hM10.2.1, hM10.2.2.1]
            by_cases hfin : p4 = u
            · rw [if_pos (by rw [hfin]), if_pos (nI_le (by omega) (by omega)), j49_1]
              refine ⟨1, us (us X10 3 (-1)) 2 0, M10, rfl, rfl, fun r hr => fr5 r (Or.inl hr), fun r hr => fr5 r (Or.inr hr), us_s _ _ _ ▸ rfl, by rw [us_n _ _ _ (by decide), us_s, hM10.2.2.2.1], Or.inl ⟨rfl, hM10.2.2.2.1, ?_, ?_, ?_, ?_, ?_, ?_, ?_, ?_⟩⟩
              · rw [us_n _ _ _ (by decide), us_n _ _ _ (by decide), l3 4 (by decide) (by decide), n3 4 (by decide) (by decide), e4', l4 8 (by decide) (by decide) (by decide), n4 8 (by decide) (by decide) (by decide), e8']
              · rw [us_n _ _ _ (by decide), us_n _ _ _ (by decide), l3 5 (by decide) (by decide), n3 5 (by decide) (by decide), h59, l4 9 (by decide) (by decide) (by decide), n4 9 (by decide) (by decide) (by decide)]
              · rw [us_n _ _ _ (by decide), us_n _ _ _ (by decide), l3 6 (by decide) (by decide), h610, l4 10 (by decide) (by decide) (by decide)]
              · rw [us_n _ _ _ (by decide), us_n _ _ _ (by decide), h711]
              · refine ⟨dv (X 0) 0, by omega, ?_⟩
                rw [us_n _ _ _ (by decide), us_n _ _ _ (by decide), l3 4 (by decide) (by decide), n3 4 (by decide) (by decide), e4']
              · rw [us_n _ _ _ (by decide), us_n _ _ _ (by decide), l3 5 (by decide) (by decide), n3 5 (by decide) (by decide)]; exact hg
              · rw [us_n _ _ _ (by decide), us_n _ _ _ (by decide), l3 6 (by decide) (by decide)]; exact hx
              · rw [us_n _ _ _ (by decide), us_n _ _ _ (by decide)]; exact hlen
            · rw [if_neg (fun z => hfin ((nI_eq (by omega) (by omega)).mp z)), if_neg (nI_ge (by omega) (by omega)), j49_0]
              unfold sw
              rw [zs_b]
              exact hend X10 _ p4 hp4 hX10.2.2.1 (us_s _ _ _ ▸ rfl) (fun r hr => by rw [us_n _ _ _ (by omega)]; exact fr5 r hr)
          · rw [if_pos rfl, j49_0, j274_f (by rw [q2]; exact nI_pos' (by omega))]
            exact hend X10 M10 q hq q1 q2 fr5
        · have hf : 0 ≤ M9 7 0 := by rw [q2]; exact nI_pos' (by omega)
          rw [if_pos rfl, j49_0, j238_f hf, j274_f hf]
          exact hend X9 M9 q hq q1 q2 fr4
      · have hf : 0 ≤ M8 7 0 := by rw [q2]; exact nI_pos' (by omega)
        rw [if_pos rfl, j49_0, rnd_f hf, j238_f hf, j274_f hf]
        exact hend X8 M8 q hq q1 q2 fr3
  · have hf : (0 : Int32) ≤ us (us M43 7 (nI 0)) 8 0 7 0 := by rw [us_n _ _ _ (by decide), us_s]; exact nI_pos' (by omega)
    obtain ⟨M9, m1, m2⟩ := j54_f hf
    have hM9 : M9 7 0 = nI 0 := by rw [m2 7 (by decide) (by decide), us_n _ _ _ (by decide), us_s]
    have hf9 : ∀ r, (r < 6 ∨ 12 ≤ r) → M9 r = M r := fun r hr => by rw [m2 r (by omega) (by omega), us_n _ _ _ (by omega), us_n _ _ _ (by omega)]; exact fr r hr
    have h1 : ∀ w, us X5 4 w 1 0 = nI 0 := fun w => by rw [us_n _ _ _ (by decide)]; exact hX5.2.2.1
    rw [if_neg cd, zs_2, zs_b (us (us M43 7 (nI 0)) 8 0), if_pos hf, m1]
    cases hd : isD (X 0) u 0
    · rw [if_neg (show ¬ (false = true) by decide), if_pos z_m1lt, zs_2, if_pos rfl, j49_0]
      exact hend _ M9 0 (Nat.zero_le u) (h1 _) hM9 hf9
    · obtain ⟨hlt, hd9⟩ := isD_lt hd
      rw [if_pos rfl, if_neg (nI_pos (by omega)), if_neg (show ¬ nI (dv (X 0) 0) < 6 from nI_nlt (b := 6) (by have : ¬ (0 ≤ dv (X 0) 0 ∧ dv (X 0) 0 ≤ 5) := fun z => cd ⟨hd, z⟩; omega) (by omega)), zs_2, if_pos rfl, j49_0]
      exact hend _ M9 0 (Nat.zero_le u) (h1 _) hM9 hf9
