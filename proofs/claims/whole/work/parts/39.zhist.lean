/-! THE PURE LAYER: changes kept and taken back -/
def AgT (A Q : OS) : Prop := (∀ r, r < 13 → ∀ i, i < lenT r → Q r i = A r i) ∧ Q 13 0 = A 13 0
theorem AgT.wf {A Q : OS} {n : Nat} (h : AgT A Q) (hW : WF A n) : WF Q n := by
  obtain ⟨h1, h2, h3, h4, h5, h6⟩ := hW
  have g : ∀ r, r < 13 → 5 ≤ r → ∀ i, i < 14 → Q r i = A r i := fun r hr h5 i hi => h.1 r hr i (by unfold lenT; rw [if_neg (by omega), if_neg (by omega)]; exact hi)
  refine ⟨h1, h.2.trans h2, fun e he => ?_, fun e he => ?_, fun e he he2 => ?_, fun e he => ?_⟩
  · rw [g 5 (by decide) (by decide) e (by omega), g 6 (by decide) (by decide) e (by omega), g 7 (by decide) (by decide) e (by omega), g 8 (by decide) (by decide) e (by omega)]; exact h3 e he
  · rw [g 9 (by decide) (by decide) e he, g 10 (by decide) (by decide) e he, g 8 (by decide) (by decide) e he]; exact h4 e he
  · rw [g 11 (by decide) (by decide) e he2, g 12 (by decide) (by decide) e he2]; exact h5 e he he2
  · rw [g 12 (by decide) (by decide) e he]; exact h6 e he
theorem AgT.rb {A Q : OS} {n : Nat} {f : Nat → Int32} (h : AgT A Q) (hn : n ≤ 14) (hR : RB f A n) : RB f Q n := by
  obtain ⟨h1, h2, h3, h4⟩ := hR
  have g : ∀ r, r < 13 → 5 ≤ r → ∀ i, i < 14 → Q r i = A r i := fun r hr h5 i hi => h.1 r hr i (by unfold lenT; rw [if_neg (by omega), if_neg (by omega)]; exact hi)
  have s : ∀ r, r < 4 → ∀ i, i < 6 → Q r i = A r i := fun r hr i hi => h.1 r (by omega) i (by unfold lenT; rw [if_pos hr]; exact hi)
  refine ⟨fun i hi => ?_, fun i hi => ?_, h3, fun e he => ?_⟩
  · rw [s 0 (by decide) i hi, s 1 (by decide) i hi, s 2 (by decide) i hi, s 3 (by decide) i hi]; exact h1 i hi
  · rw [h.1 4 (by decide) i (by unfold lenT; rw [if_neg (by decide), if_pos rfl]; exact hi)]; exact h2 i hi
  · rw [g 5 (by decide) (by decide) e (by omega), g 6 (by decide) (by decide) e (by omega), g 7 (by decide) (by decide) e (by omega), g 8 (by decide) (by decide) e (by omega), g 9 (by decide) (by decide) e (by omega), g 12 (by decide) (by decide) e (by omega), g 11 (by decide) (by decide) e (by omega)]; exact h4 e he
theorem RB.fn {f g : Nat → Int32} {T : OS} {n : Nat} (hn : n ≤ 14) (h : RB f T n) (hfg : ∀ i, i < 126 → g i = f i) : RB g T n := by
  obtain ⟨h1, h2, h3, h4⟩ := h
  refine ⟨fun i hi => ?_, fun i hi => ?_, (hfg 27 (by decide)).trans h3, fun e he => ?_⟩
  · rw [hfg i (by omega), hfg _ (by omega), hfg _ (by omega), hfg _ (by omega)]; exact h1 i hi
  · rw [hfg _ (by omega)]; exact h2 i hi
  · rw [hfg _ (by omega), hfg _ (by omega), hfg _ (by omega), hfg _ (by omega), hfg _ (by omega), hfg _ (by omega), hfg _ (by omega)]; exact h4 e he
theorem cpy_at {f g : Nat → Int32} {n i : Nat} (h : i < n) : va_cpy f g 0 0 n i = f i := by
  unfold va_cpy
  rw [if_pos ⟨Nat.zero_le i, by omega⟩]
  congr 1; omega
theorem cpi_z (n : Nat) (f : Nat → Int32) (T : OS) (r : Nat) : ∃ T', cpi n f T r = some T' ∧ (∀ i, i < n → T' r i = f i) ∧ ∀ q, q ≠ r → T' q = T q :=
  ⟨_, rfl, fun i hi => by rw [upr_s]; exact cpy_at hi, fun q hq => upr_n _ _ _ hq⟩
theorem cpz_z {n : Nat} {f : Nat → Int32} (T : OS) (r : Nat) (h : ∀ i, i < n → f i = 0 ∨ f i = 1) : ∃ T', cpz n f T r = some T' ∧ (∀ i, i < n → T' r i = f i) ∧ ∀ q, q ≠ r → T' q = T q := by
  refine ⟨_, if_pos h, fun i hi => by rw [upr_s]; exact cpy_at hi, fun q hq => upr_n _ _ _ hq⟩
theorem r3_copyFrom_z {A : OS} {n : Nat} (hW : WF A n) (Q : OS) : ∃ Q', r3_copyFrom A Q = some Q' ∧ AgT A Q' := by
  unfold r3_copyFrom
  obtain ⟨Q1, e1, a1, b1⟩ := cpi_z 6 (A 0) Q 0
  rw [e1, zs_b]
  obtain ⟨Q2, e2, a2, b2⟩ := cpi_z 6 (A 1) Q1 1
  rw [e2, zs_b]
  obtain ⟨Q3, e3, a3, b3⟩ := cpi_z 6 (A 2) Q2 2
  rw [e3, zs_b]
  obtain ⟨Q4, e4, a4, b4⟩ := cpi_z 6 (A 3) Q3 3
  rw [e4, zs_b]
  obtain ⟨Q5, e5, a5, b5⟩ := cpi_z 3 (A 4) Q4 4
  rw [e5, zs_b]
  obtain ⟨Q6, e6, a6, b6⟩ := cpi_z 14 (A 5) Q5 5
  rw [e6, zs_b]
  obtain ⟨Q7, e7, a7, b7⟩ := cpi_z 14 (A 6) Q6 6
  rw [e7, zs_b]
  obtain ⟨Q8, e8, a8, b8⟩ := cpi_z 14 (A 7) Q7 7
  rw [e8, zs_b]
  obtain ⟨Q9, e9, a9, b9⟩ := cpi_z 14 (A 8) Q8 8
  rw [e9, zs_b]
  obtain ⟨Q10, e10, a10, b10⟩ := cpi_z 14 (A 9) Q9 9
  rw [e10, zs_b]
  obtain ⟨Q11, e11, a11, b11⟩ := cpi_z 14 (A 10) Q10 10
  rw [e11, zs_b]
  obtain ⟨Q12, e12, a12, b12⟩ := cpi_z 14 (A 11) Q11 11
  rw [e12, zs_b]
  obtain ⟨Q13, e13, a13, b13⟩ := cpz_z (n := 14) (f := A 12) Q12 12 (fun i hi => hW.2.2.2.2.2 i hi)
  rw [e13, zs_b]
  unfold sw
  rw [zs_b]
  refine ⟨_, rfl, fun r hr i hi => ?_, by rw [us_s]⟩
  rw [us_n _ _ _ (by omega)]
  have hcase : r = 0 ∨ r = 1 ∨ r = 2 ∨ r = 3 ∨ r = 4 ∨ r = 5 ∨ r = 6 ∨ r = 7 ∨ r = 8 ∨ r = 9 ∨ r = 10 ∨ r = 11 ∨ r = 12 := by omega
  rcases hcase with rfl | rfl | rfl | rfl | rfl | rfl | rfl | rfl | rfl | rfl | rfl | rfl | rfl
  · rw [b13 0 (by decide), b12 0 (by decide), b11 0 (by decide), b10 0 (by decide), b9 0 (by decide), b8 0 (by decide), b7 0 (by decide), b6 0 (by decide), b5 0 (by decide), b4 0 (by decide), b3 0 (by decide), b2 0 (by decide)]; exact a1 i hi
  · rw [b13 1 (by decide), b12 1 (by decide), b11 1 (by decide), b10 1 (by decide), b9 1 (by decide), b8 1 (by decide), b7 1 (by decide), b6 1 (by decide), b5 1 (by decide), b4 1 (by decide), b3 1 (by decide)]; exact a2 i hi
  · rw [b13 2 (by decide), b12 2 (by decide), b11 2 (by decide), b10 2 (by decide), b9 2 (by decide), b8 2 (by decide), b7 2 (by decide), b6 2 (by decide), b5 2 (by decide), b4 2 (by decide)]; exact a3 i hi
  · rw [b13 3 (by decide), b12 3 (by decide), b11 3 (by decide), b10 3 (by decide), b9 3 (by decide), b8 3 (by decide), b7 3 (by decide), b6 3 (by decide), b5 3 (by decide)]; exact a4 i hi
  · rw [b13 4 (by decide), b12 4 (by decide), b11 4 (by decide), b10 4 (by decide), b9 4 (by decide), b8 4 (by decide), b7 4 (by decide), b6 4 (by decide)]; exact a5 i hi
  · rw [b13 5 (by decide), b12 5 (by decide), b11 5 (by decide), b10 5 (by decide), b9 5 (by decide), b8 5 (by decide), b7 5 (by decide)]; exact a6 i hi
  · rw [b13 6 (by decide), b12 6 (by decide), b11 6 (by decide), b10 6 (by decide), b9 6 (by decide), b8 6 (by decide)]; exact a7 i hi
  · rw [b13 7 (by decide), b12 7 (by decide), b11 7 (by decide), b10 7 (by decide), b9 7 (by decide)]; exact a8 i hi
  · rw [b13 8 (by decide), b12 8 (by decide), b11 8 (by decide), b10 8 (by decide)]; exact a9 i hi
  · rw [b13 9 (by decide), b12 9 (by decide), b11 9 (by decide)]; exact a10 i hi
  · rw [b13 10 (by decide), b12 10 (by decide)]; exact a11 i hi
  · rw [b13 11 (by decide)]; exact a12 i hi
  · exact a13 i hi
/-- where the k-th of c changes stands in the ring -/
def rix (nx c k : Nat) : Nat := (nx + 6 + k - c) % 7
def HI (Y : OS) (E : Nat → OS) (M : OS) (c nx : Nat) : Prop := c ≤ 6 ∧ nx ≤ 6 ∧ Y 2 0 = nI c ∧ M 2 0 = nI c ∧ Y 1 0 = nI nx ∧ ∀ k, 1 ≤ k → k ≤ c → ∃ m, WF (E (rix nx c k)) m ∧ RB (fun i => M 1 (126 * k + i)) (E (rix nx c k)) m
theorem r1_nextRow_z {Y : OS} {nx : Nat} (h : nx ≤ 6) (hY : Y 1 0 = nI nx) : r1_nextRow Y = some (some nx) := by
  unfold r1_nextRow
  rw [hY, if_neg (nI_pos (by omega)), if_neg (show ¬ (7 : Int32) ≤ nI nx from nI_ge (b := 7) (by omega) (by decide)), nI_clamp (by omega)]
theorem r1_note_z {T Y : OS} {E : Nat → OS} {M : OS} {n c nx : Nat} (hW : WF T n) (hH : HI Y E M c nx) : ∃ E', r1_note T Y E = some E' ∧ HI Y E' M c nx ∧ AgT T (E' nx) ∧ E' 7 = E 7 := by
  obtain ⟨h1, h2, h3, h4, h5, h6⟩ := hH
  obtain ⟨Q, hQ, hA⟩ := r3_copyFrom_z hW (E nx)
  refine ⟨upE E nx Q, ?_, ⟨h1, h2, h3, h4, h5, fun k hk hkc => ?_⟩, ?_, ?_⟩
  · unfold r1_note
    rw [r1_nextRow_z h2 h5]
    simp only [zs_b, zs_1, zs_2, zs_3, hQ]
  · have : rix nx c k ≠ nx := by unfold rix; omega
    unfold upE
    rw [if_neg this]
    exact h6 k hk hkc
  · unfold upE; rw [if_pos rfl]; exact hA
  · unfold upE; rw [if_neg (by omega)]
theorem r5_copies_z (M : OS) {a b : Nat} (ha : a ≤ 7) (hb : b ≤ 7) (hab : a ≠ b) : ∃ M', r5_copies M (nI a) (nI b) = some M' ∧ (∀ r, r ≠ 1 → M' r = M r) ∧ (∀ i, i < 126 → M' 1 (126 * b + i) = M 1 (126 * a + i)) ∧ ∀ j, (j < 126 * b ∨ 126 * b + 126 ≤ j) → M' 1 j = M 1 j := by
  unfold r5_copies
  refine zi2k (F := r5_copies_b2 (nI a) (nI b)) (a0 := M) 126 (fun k N => (∀ r, r ≠ 1 → N r = M r) ∧ (∀ i, i < k → N 1 (126 * b + i) = M 1 (126 * a + i)) ∧ ∀ j, (j < 126 * b ∨ 126 * b + k ≤ j) → N 1 j = M 1 j) (fun N => (∀ r, r ≠ 1 → N r = M r) ∧ (∀ i, i < 126 → N 1 (126 * b + i) = M 1 (126 * a + i)) ∧ ∀ j, (j < 126 * b ∨ 126 * b + 126 ≤ j) → N 1 j = M 1 j) (by decide) (fun r h1 h2 => ⟨r, by rw [h1]; rfl, h2⟩) ⟨fun _ _ => rfl, fun i hi => absurd hi (by omega), fun _ _ => rfl⟩ (fun k N hk hI => Or.inl ?_) (fun N hI => ⟨N, ?_, hI⟩)
  · obtain ⟨k1, k2, k3⟩ := hI
    unfold r5_copies_b2
    rw [if_neg (show ¬ (126 : Int32) ≤ nI k from nI_ge hk (by decide)), show (126 : Int32) = nI 126 from rfl, pk_mul, pk_mul, nI_add, nI_add, z_rd (show 126 * a + k < 1008 by omega) (by decide)]
    simp only [zs_b, zs_1, zs_2, zs_3]
    rw [z_wr (show 126 * b + k < 1008 by omega) (by decide)]
    refine ⟨_, rfl, fun r hr => (upr_n _ _ _ hr).trans (k1 r hr), fun i hi => ?_, fun j hj => ?_⟩
    · rw [upr_s]
      by_cases e : i = k
      · rw [e, upd_s]; exact k3 _ (by omega)
      · rw [upd_n (by omega)]; exact k2 i (by omega)
    · rw [upr_s, upd_n (by omega)]; exact k3 j (by omega)
  · unfold r5_copies_b2
    rw [if_pos (show (126 : Int32) ≤ nI 126 by decide)]
theorem r1_keepNoted_z {Y : OS} {c nx : Nat} (hc : c ≤ 6) (hn : nx ≤ 6) (h2 : Y 2 0 = nI c) (h1 : Y 1 0 = nI nx) : ∃ Y', r1_keepNoted Y = some Y' ∧ Y' 1 0 = nI ((nx + 1) % 7) ∧ Y' 2 0 = nI (if c = 6 then 6 else c + 1) := by
  unfold r1_keepNoted r1_keepNoted_j19 sw
  simp only [zs_b, zs_1, zs_2, zs_3]
  refine ⟨_, rfl, ?_, ?_⟩
  · rw [us_n _ _ _ (by decide), us_s, h1]
    by_cases e : nx = 6
    · rw [e]; decide
    · rw [if_neg (show ¬ (6 : Int32) ≤ nI nx from nI_ge (b := 6) (by omega) (by decide)), nI_1, Nat.mod_eq_of_lt (by omega)]
  · rw [us_s, us_n _ _ _ (by decide), h2]
    by_cases e : c = 6
    · rw [e]; decide
    · rw [if_neg e, nI_1]
      unfold mn
      rw [if_neg (show ¬ (6 : Int32) < nI (c + 1) from nI_nlt (a := 6) (by omega) (by decide))]
/-- the row that is kept in both -/
theorem keep_both {T Y : OS} {E : Nat → OS} {M : OS} {n c nx : Nat} (hW : WF T n) (hR : RB (M 1) T n) (hH : HI Y E M c nx) (hA : AgT T (E nx)) : ∃ Y' M' c' nx', r1_keepNoted Y = some Y' ∧ r5_keeps M = some M' ∧ HI Y' E M' c' nx' ∧ (∀ r, r ≠ 1 → r ≠ 2 → M' r = M r) ∧ (∀ i, (i < 126 ∨ 882 ≤ i) → M' 1 i = M 1 i) := by
  obtain ⟨h1, h2, h3, h4, h5, h6⟩ := hH
  have hn := hW.le
  obtain ⟨Y', y1, y2, y3⟩ := r1_keepNoted_z h1 h2 h3 h5
  -- the last step of both ways
  have fin : ∀ (N : OS) (c1 : Nat), c1 ≤ 5 → (∀ r, r ≠ 1 → r ≠ 2 → N r = M r) → N 2 0 = nI c1 → (∀ i, (i < 126 ∨ 882 ≤ i) → N 1 i = M 1 i) → (c1 + 1 = if c = 6 then 6 else c + 1) → (∀ k, 1 ≤ k → k ≤ c1 → ∃ m, WF (E (rix nx c (k + (c - c1)))) m ∧ RB (fun i => N 1 (126 * k + i)) (E (rix nx c (k + (c - c1)))) m) → ∃ M' c' nx', r5_keeps_j41 N = some M' ∧ HI Y' E M' c' nx' ∧ (∀ r, r ≠ 1 → r ≠ 2 → M' r = M r) ∧ (∀ i, (i < 126 ∨ 882 ≤ i) → M' 1 i = M 1 i) := by
    intro N c1 hc1 n1 n2 n3 n4 n5
    have hcc : c1 ≤ c := by split at n4 <;> omega
    obtain ⟨M', m1, m2, m3, m4⟩ := r5_copies_z (us N 2 (N 2 0 + 1)) (show 0 ≤ 7 by omega) (show c1 + 1 ≤ 7 by omega) (by omega)
    refine ⟨M', c1 + 1, (nx + 1) % 7, ?_, ⟨by omega, by omega, by rw [y3, n4], ?_, y2, fun k hk hkc => ?_⟩, fun r r1 r2 => ?_, fun i hi => ?_⟩
    · unfold r5_keeps_j41 sw
      simp only [zs_b, zs_1, zs_2, zs_3]
      rw [us_s, n2, nI_1, show (0 : Int32) = nI 0 from rfl]
      rw [n2, nI_1] at m1
      rw [m1]; rfl
    · rw [m2 2 (by decide), us_s, n2, nI_1]
    · by_cases e : k = c1 + 1
      · refine ⟨n, ?_, ?_⟩
        · have : rix ((nx + 1) % 7) (c1 + 1) k = nx := by unfold rix; omega
          rw [this]; exact hA.wf hW
        · have : rix ((nx + 1) % 7) (c1 + 1) k = nx := by unfold rix; omega
          rw [this]
          refine hA.rb hn (hR.fn hn (fun i hi => ?_))
          show M' 1 (126 * k + i) = M 1 i
          rw [e, m3 i hi, us_n _ _ _ (by decide), Nat.mul_zero, Nat.zero_add]
          exact n3 i (Or.inl hi)
      · obtain ⟨m, w1, w2⟩ := n5 k hk (by omega)
        have hix : rix ((nx + 1) % 7) (c1 + 1) k = rix nx c (k + (c - c1)) := by unfold rix; omega
        rw [hix]
        refine ⟨m, w1, w2.fn w1.le (fun i hi => ?_)⟩
        show M' 1 (126 * k + i) = N 1 (126 * k + i)
        rw [m4 _ (by omega), us_n _ _ _ (by decide)]
    · rw [m2 r r1, us_n _ _ _ r2, n1 r r1 r2]
    · rw [m4 i (by omega), us_n _ _ _ (by decide), n3 i hi]
  by_cases hc : c = 6
  · subst hc
    have key : ∃ N, it2 r5_keeps_b11 200 M 1 = some N ∧ (∀ r, r ≠ 1 → N r = M r) ∧ (∀ i, (i < 126 ∨ 756 ≤ i) → N 1 i = M 1 i) ∧ ∀ k, 1 ≤ k → k ≤ 5 → ∀ i, i < 126 → N 1 (126 * k + i) = M 1 (126 * (k + 1) + i) := by
      refine Exists.elim (zi2_go (F := r5_keeps_b11) (N := 6) (I := fun q N => 1 ≤ q ∧ (∀ r, r ≠ 1 → N r = M r) ∧ (∀ i, (i < 126 ∨ 126 * q ≤ i) → N 1 i = M 1 i) ∧ ∀ k, 1 ≤ k → k < q → ∀ i, i < 126 → N 1 (126 * k + i) = M 1 (126 * (k + 1) + i)) (R := fun N => (∀ r, r ≠ 1 → N r = M r) ∧ (∀ i, (i < 126 ∨ 756 ≤ i) → N 1 i = M 1 i) ∧ ∀ k, 1 ≤ k → k ≤ 5 → ∀ i, i < 126 → N 1 (126 * k + i) = M 1 (126 * (k + 1) + i)) (fun q N hq hI => Or.inl ?_) (fun N hI => ⟨N, ?_, hI.2.1, fun i hi => hI.2.2.1 i (by omega), fun k k1 k2 i hi => hI.2.2.2 k k1 (by omega) i hi⟩) 5 200 1 M (by decide) (by decide) ⟨Nat.le_refl 1, fun _ _ => rfl, fun _ _ => rfl, fun k k1 k2 => by omega⟩) (fun r h => ⟨r, h.1, h.2⟩)
      · obtain ⟨q1, q2, q3, q4⟩ := hI
        obtain ⟨M', m1, m2, m3, m4⟩ := r5_copies_z N (show q + 1 ≤ 7 by omega) (show q ≤ 7 by omega) (by omega)
        unfold r5_keeps_b11
        rw [if_neg (show ¬ (6 : Int32) ≤ nI q from nI_ge hq (by decide)), nI_1, m1]
        refine ⟨M', rfl, by omega, fun r hr => (m2 r hr).trans (q2 r hr), fun i hi => ?_, fun k k1 k2 i hi => ?_⟩
        · rw [m4 i (by omega)]; exact q3 i (by omega)
        · by_cases e : k = q
          · rw [e, m3 i hi]; exact q3 _ (by omega)
          · rw [m4 _ (by omega)]; exact q4 k k1 (by omega) i hi
      · unfold r5_keeps_b11
        rw [if_pos (show (6 : Int32) ≤ nI 6 by decide)]
    obtain ⟨N, n1, n2, n3, n4⟩ := key
    obtain ⟨M', c', nx', f1, f2⟩ := fin (us N 2 (N 2 0 - 1)) 5 (by decide) (fun r r1 r2 => (us_n _ _ _ r2).trans (n2 r r1)) (by rw [us_s, n2 2 (by decide), h4]; decide) (fun i hi => by rw [us_n _ _ _ (by decide)]; exact n3 i (by omega)) rfl (fun k k1 k2 => by
      obtain ⟨m, w1, w2⟩ := h6 (k + 1) (by omega) (by omega)
      refine ⟨m, w1, w2.fn w1.le (fun i hi => ?_)⟩
      show us N 2 (N 2 0 - 1) 1 (126 * k + i) = M 1 (126 * (k + 1) + i)
      rw [us_n _ _ _ (by decide)]; exact n4 k k1 k2 i hi)
    refine ⟨Y', M', c', nx', y1, ?_, f2⟩
    unfold r5_keeps
    rw [h4, if_pos (show nI 6 = 6 from rfl), n1]
    unfold sw
    simp only [zs_1, zs_b, zs_1, zs_2, zs_3]
    exact f1
  · obtain ⟨M', c', nx', f1, f2⟩ := fin M c (by omega) (fun _ _ _ => rfl) h4 (fun _ _ => rfl) (by rw [if_neg hc]) (fun k k1 k2 => by
      rw [Nat.sub_self, Nat.add_zero]; exact h6 k k1 k2)
    refine ⟨Y', M', c', nx', y1, ?_, f2⟩
    unfold r5_keeps
    rw [h4, if_neg (show ¬ nI c = 6 from fun z => hc ((nI_eq (b := 6) (by omega) (by decide)).mp z)), f1]
theorem keep_z {T Y : OS} {E : Nat → OS} {M : OS} {n c nx : Nat} (hW : WF T n) (hR : RB (M 1) T n) (hH : HI Y E M c nx) : ∃ Y' E' M' c' nx', r1_keep T Y E = some (Y', E') ∧ r5_keeps M = some M' ∧ HI Y' E' M' c' nx' ∧ (∀ r, r ≠ 1 → r ≠ 2 → M' r = M r) ∧ (∀ i, (i < 126 ∨ 882 ≤ i) → M' 1 i = M 1 i) ∧ E' 7 = E 7 := by
  obtain ⟨E', e1, e2, e3, e4⟩ := r1_note_z hW hH
  obtain ⟨Y', M', c', nx', k1, k2, k3, k4, k5⟩ := keep_both hW hR e2 e3
  refine ⟨Y', E', M', c', nx', ?_, k2, k3, k4, k5, e4⟩
  unfold r1_keep
  rw [e1, k1]; rfl
theorem undo_z {T Y : OS} {E : Nat → OS} {M : OS} {c nx : Nat} (hH : HI Y E M c nx) (hc : c ≠ 0) : ∃ T' Y' M' m nx', r1_takeBack T Y E = some (T', Y') ∧ r5_copies M (M 2 0) 0 = some M' ∧ WF T' m ∧ RB (M' 1) T' m ∧ HI Y' E (us M' 2 (M' 2 0 - 1)) (c - 1) nx' ∧ (∀ r, r ≠ 1 → M' r = M r) ∧ (∀ i, 126 ≤ i → M' 1 i = M 1 i) := by
  obtain ⟨h1, h2, h3, h4, h5, h6⟩ := hH
  obtain ⟨m, w1, w2⟩ := h6 c (by omega) (Nat.le_refl c)
  have hix : rix nx c c = (nx + 6) % 7 := by unfold rix; omega
  rw [hix] at w1 w2
  obtain ⟨T', t1, t2⟩ := r3_copyFrom_z w1 T
  obtain ⟨M', m1, m2, m3, m4⟩ := r5_copies_z M (show c ≤ 7 by omega) (show 0 ≤ 7 by decide) (by omega)
  have hy : (if nI nx ≤ 0 then (6 : Int32) else nI nx - 1) = nI ((nx + 6) % 7) := by
    by_cases e : nx = 0
    · rw [e]; decide
    · rw [if_neg (nI_nle (by omega) (by omega))]
      obtain ⟨q, rfl⟩ : ∃ q, nx = q + 1 := ⟨nx - 1, by omega⟩
      rw [nI_pred]; congr 1; omega
  have hmx : mx (nI c - 1) 0 = nI (c - 1) := by
    obtain ⟨q, rfl⟩ : ∃ q, c = q + 1 := ⟨c - 1, by omega⟩
    rw [nI_pred]
    unfold mx
    rw [if_neg (nI_pos (by omega))]; rfl
  refine ⟨T', us (us Y 1 (nI ((nx + 6) % 7))) 2 (nI (c - 1)), M', m, (nx + 6) % 7, ?_, by rw [h4]; exact m1, t2.wf w1, ?_, ⟨by omega, by omega, ?_, ?_, ?_, fun k k1 k2 => ?_⟩, m2, fun i hi => m4 i (by omega)⟩
  · unfold r1_takeBack sw
    simp only [zs_b, zs_1, zs_2, zs_3, h5, hy]
    rw [us_n _ _ _ (show (2 : Nat) ≠ 1 by decide), h3, hmx]
    have : r1_nextRow (us (us Y 1 (nI ((nx + 6) % 7))) 2 (nI (c - 1))) = some (some ((nx + 6) % 7)) := r1_nextRow_z (by omega) (by rw [us_n _ _ _ (by decide), us_s])
    rw [this]
    simp only [zs_b, zs_1, zs_2, zs_3, t1]
  · refine t2.rb w1.le (w2.fn w1.le (fun i hi => ?_))
    have := m3 i hi
    rw [Nat.mul_zero, Nat.zero_add] at this
    exact this
  · rw [us_s]
  · rw [us_s, m2 2 (by decide), h4]
    obtain ⟨q, rfl⟩ : ∃ q, c = q + 1 := ⟨c - 1, by omega⟩
    rw [nI_pred]; rfl
  · rw [us_n _ _ _ (by decide), us_s]
  · obtain ⟨m', v1, v2⟩ := h6 k k1 (by omega)
    have : rix ((nx + 6) % 7) (c - 1) k = rix nx c k := by unfold rix; omega
    rw [this]
    refine ⟨m', v1, v2.fn v1.le (fun i hi => ?_)⟩
    show us M' 2 (M' 2 0 - 1) 1 (126 * k + i) = M 1 (126 * k + i)
    rw [us_n _ _ _ (by decide)]; exact m4 _ (by omega)
