/-! THE PURE LAYER: the start, the loop -/
theorem inv0 : Inv s0 := by
  refine ⟨⟨0, ⟨by decide, rfl, fun e he => absurd he (by omega), fun e he => Or.inl ⟨?_, rfl⟩, fun e _ he => ⟨?_, rfl⟩, fun e he => Or.inl rfl⟩, ?_, ?_, rfl, fun e he => absurd he (by omega)⟩, 0, 0, 0, ⟨by decide, by decide, rfl, rfl, rfl, fun k h1 h2 => absurd h1 (by omega)⟩, ⟨rfl, Or.inl rfl⟩, ⟨by decide, rfl, rfl, fun i hi => absurd hi (by omega), rfl⟩⟩
  · show fillv 14 (fun _ => 0) (-1) e = -1
    unfold fillv; rw [if_pos he]
  · show fillv 14 (fun _ => 0) (-1) e = -1
    unfold fillv; rw [if_pos he]
  · decide
  · decide
theorem l4 {L k : Nat} (hL : L ≤ 2048) (hk : k ≤ 2100) : (nI L - 4 < nI k) ↔ L < k + 4 := by
  by_cases h : 4 ≤ L
  · obtain ⟨q, rfl⟩ : ∃ q, L = q + 4 := ⟨L - 4, by omega⟩
    rw [← nI_add q 4, show (4 : Int32) = nI 4 from rfl, Int32.add_sub_cancel, Int32.lt_iff_toInt_lt, nI_toInt (by omega), nI_toInt (by omega)]
    omega
  · have h4 : L = 0 ∨ L = 1 ∨ L = 2 ∨ L = 3 := by omega
    have hg : (nI L - 4).toInt < 0 := by
      rcases h4 with rfl | rfl | rfl | rfl <;> decide
    rw [Int32.lt_iff_toInt_lt, nI_toInt (by omega)]
    omega
theorem step_z {L : Nat} {xs : Nat → Int32} {σ : GS} {x4 v a b c : Int32} (hI : Inv σ) (h0 : rd L xs x4 = some v) (h1 : rd L xs (x4 + 1) = some a) (h2 : rd L xs (x4 + 2) = some b) (h3 : rd L xs (x4 + 3) = some c) : ∃ σ', rlaw_step L xs σ x4 = some σ' ∧ Inv σ' := by
  unfold rlaw_step
  rw [h0, zs_b]
  by_cases k0 : v &&& 63 = 0
  · rw [if_pos k0]; exact ra_0 hI h1 h2 h3
  rw [if_neg k0]
  by_cases k1 : v &&& 63 = 1
  · rw [if_pos k1]; exact ra_1 hI h1 h2
  rw [if_neg k1]
  by_cases k2 : v &&& 63 = 2
  · rw [if_pos k2]; exact ra_2 hI h1 h2
  rw [if_neg k2]
  by_cases k3 : v &&& 63 = 3
  · rw [if_pos k3]; exact ra_3 hI h1 h2
  rw [if_neg k3]
  by_cases k4 : v &&& 63 = 4
  · rw [if_pos k4]; exact ra_4 hI h1 h2
  rw [if_neg k4]
  by_cases k5 : v &&& 63 = 5
  · rw [if_pos k5]; exact ra_5 hI h1
  rw [if_neg k5]
  by_cases k6 : v &&& 63 = 6
  · rw [if_pos k6]; exact ra_6 hI 
  rw [if_neg k6]
  by_cases k7 : v &&& 63 = 7
  · rw [if_pos k7]; exact ra_7 hI 
  rw [if_neg k7]
  by_cases k8 : v &&& 63 = 8
  · rw [if_pos k8]; exact ra_8 hI h1
  rw [if_neg k8]
  by_cases k9 : v &&& 63 = 9
  · rw [if_pos k9]; exact ra_9 hI h1 h2
  rw [if_neg k9]
  by_cases k10 : v &&& 63 = 10
  · rw [if_pos k10]; exact ra_10 hI h1 h2
  rw [if_neg k10]
  by_cases k11 : v &&& 63 = 11
  · rw [if_pos k11]; exact ra_11 hI h1 h2
  rw [if_neg k11]
  by_cases k12 : v &&& 63 = 12
  · rw [if_pos k12]; exact ra_12 hI h1 h2
  rw [if_neg k12]
  by_cases k13 : v &&& 63 = 13
  · rw [if_pos k13]; exact ra_13 hI h1
  rw [if_neg k13]
  by_cases k14 : v &&& 63 = 14
  · rw [if_pos k14]; exact ra_14 hI h1 h2
  rw [if_neg k14]
  by_cases k15 : v &&& 63 = 15
  · rw [if_pos k15]; exact ra_15 hI h1 h2
  rw [if_neg k15]
  by_cases k16 : v &&& 63 = 16
  · rw [if_pos k16]; exact ra_16 hI h1 h2
  rw [if_neg k16]
  by_cases k17 : v &&& 63 = 17
  · rw [if_pos k17]; exact ra_17 hI h1 h2
  rw [if_neg k17]
  by_cases k18 : v &&& 63 = 18
  · rw [if_pos k18]; exact ra_18 hI h1 h2
  rw [if_neg k18]
  by_cases k19 : v &&& 63 = 19
  · rw [if_pos k19]; exact ra_19 hI h1 h2
  rw [if_neg k19]
  by_cases k20 : v &&& 63 = 20
  · rw [if_pos k20]; exact ra_20 hI h1 h2
  rw [if_neg k20]
  by_cases k21 : v &&& 63 = 21
  · rw [if_pos k21]; exact ra_21 hI h1
  rw [if_neg k21]
  by_cases k22 : v &&& 63 = 22
  · rw [if_pos k22]; exact ra_22 hI 
  rw [if_neg k22]
  by_cases k23 : v &&& 63 = 23
  · rw [if_pos k23]; exact ra_23 hI h1 h2
  rw [if_neg k23]
  by_cases k24 : v &&& 63 = 24
  · rw [if_pos k24]; exact ra_24 hI h1 h2
  rw [if_neg k24]
  by_cases k25 : v &&& 63 = 25
  · rw [if_pos k25]; exact ra_25 hI h1
  rw [if_neg k25]
  by_cases k26 : v &&& 63 = 26
  · rw [if_pos k26]; exact ra_26 hI h1
  rw [if_neg k26]
  by_cases k27 : v &&& 63 = 27
  · rw [if_pos k27]; exact ra_27 hI h1 h2
  rw [if_neg k27]
  by_cases k28 : v &&& 63 = 28
  · rw [if_pos k28]; exact ra_28 hI 
  rw [if_neg k28]
  by_cases k29 : v &&& 63 = 29
  · rw [if_pos k29]; exact ra_29 hI 
  rw [if_neg k29]
  by_cases k30 : v &&& 63 = 30
  · rw [if_pos k30]; exact ra_30 hI h1
  rw [if_neg k30]
  by_cases k31 : v &&& 63 = 31
  · rw [if_pos k31]; exact ra_31 hI h1
  rw [if_neg k31]
  by_cases k32 : v &&& 63 = 32
  · rw [if_pos k32]; exact ra_32 hI 
  rw [if_neg k32]
  by_cases k33 : v &&& 63 = 33
  · rw [if_pos k33]; exact ra_33 hI 
  rw [if_neg k33]
  by_cases k34 : v &&& 63 = 34
  · rw [if_pos k34]; exact ra_34 hI 
  rw [if_neg k34]
  exact ⟨σ, rfl, hI⟩
theorem loop_z {L : Nat} {xs : Nat → Int32} (hL : L ≤ 2048) : ∀ (n j : Nat) (σ : GS), Inv σ → 4 * j ≤ L → L < 4 * (n + j) → rlaw L xs n σ (nI (4 * j)) = some ()
  | 0, j, _, _, h1, h2 => absurd h2 (by omega)
  | n + 1, j, σ, hI, h1, h2 => by
    unfold rlaw
    by_cases h : L < 4 * j + 4
    · rw [if_pos ((l4 hL (by omega)).mpr h)]
    · rw [if_neg (fun z => h ((l4 hL (by omega)).mp z))]
      obtain ⟨σ', p1, p2⟩ := step_z (L := L) (xs := xs) (x4 := nI (4 * j)) hI (z_rd (by omega) (by omega)) (show rd L xs (nI (4 * j) + nI 1) = some (xs (4 * j + 1)) by rw [nI_add]; exact z_rd (by omega) (by omega)) (show rd L xs (nI (4 * j) + nI 2) = some (xs (4 * j + 2)) by rw [nI_add]; exact z_rd (by omega) (by omega)) (show rd L xs (nI (4 * j) + nI 3) = some (xs (4 * j + 3)) by rw [nI_add]; exact z_rd (by omega) (by omega))
      rw [p1, zs_b, show nI (4 * j) + 4 = nI (4 * (j + 1)) from nI_add (4 * j) 4]
      exact loop_z hL n (j + 1) σ' p2 (by omega) (by omega)
theorem rlaw_all {L : Nat} {xs : Nat → Int32} (hL : L ≤ 2048) : rlaw L xs 513 s0 0 = some () := loop_z hL 513 0 s0 inv0 (by omega) (by omega)
