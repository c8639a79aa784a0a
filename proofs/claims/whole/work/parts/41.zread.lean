/-! THE PURE LAYER: an event read out of the text -/
def hcB (L : Nat → Int32) (u p : Nat) (w : Int32) : Bool := decide (p < u) && decide (L p = w)
def dN (L : Nat → Int32) (p : Nat) : Nat := (L p).toNatClampNeg
def isD (L : Nat → Int32) (u p : Nat) : Bool := decide (p < u ∧ 48 ≤ dN L p ∧ dN L p ≤ 57)
def dv (L : Nat → Int32) (p : Nat) : Nat := dN L p - 48
def cX (L : Nat → Int32) (u : Nat) (X : OS) (p : Nat) : Prop := (∀ i, i < u → X 0 i = L i) ∧ X 2 0 = nI u ∧ X 1 0 = nI p ∧ p ≤ u
def cM (L : Nat → Int32) (u : Nat) (M : OS) (p : Nat) : Prop := (∀ i, i < u → M 4 i = L i) ∧ M 5 0 = nI u ∧ M 6 0 = nI p ∧ M 7 0 = -1 ∧ p ≤ u
def okL (L : Nat → Int32) (u : Nat) : Prop := u ≤ 40 ∧ ∀ i, i < u → ∃ c, c < 256 ∧ L i = nI c
theorem okL.dn {L : Nat → Int32} {u p : Nat} (h : okL L u) (hp : p < u) : dN L p < 256 ∧ L p = nI (dN L p) := by
  obtain ⟨c, hc, e⟩ := h.2 p hp
  unfold dN
  rw [e, nI_clamp (by omega)]
  exact ⟨hc, rfl⟩
section READ
variable {L : Nat → Int32} {u p : Nat} {X M : OS}
theorem cX.at (h : cX L u X p) (k : Nat) (hk : k ≤ u) : cX L u (us X 1 (nI k)) k := ⟨fun i hi => by rw [us_n _ _ _ (by decide)]; exact h.1 i hi, by rw [us_n _ _ _ (by decide)]; exact h.2.1, by rw [us_s], hk⟩
theorem cX.put (h : cX L u X p) {r : Nat} (v : Int32) (h0 : r ≠ 0) (h1 : r ≠ 1) (h2 : r ≠ 2) : cX L u (us X r v) p := ⟨fun i hi => by rw [us_n _ _ _ h0.symm]; exact h.1 i hi, by rw [us_n _ _ _ h2.symm]; exact h.2.1, by rw [us_n _ _ _ h1.symm]; exact h.2.2.1, h.2.2.2⟩
theorem cM.at (h : cM L u M p) (k : Nat) (hk : k ≤ u) : cM L u (us M 6 (nI k)) k := ⟨fun i hi => by rw [us_n _ _ _ (by decide)]; exact h.1 i hi, by rw [us_n _ _ _ (by decide)]; exact h.2.1, by rw [us_s], by rw [us_n _ _ _ (by decide)]; exact h.2.2.2.1, hk⟩
theorem cM.put (h : cM L u M p) {r : Nat} (v : Int32) (h4 : r ≠ 4) (h5 : r ≠ 5) (h6 : r ≠ 6) (h7 : r ≠ 7) : cM L u (us M r v) p := ⟨fun i hi => by rw [us_n _ _ _ h4.symm]; exact h.1 i hi, by rw [us_n _ _ _ h5.symm]; exact h.2.1, by rw [us_n _ _ _ h6.symm]; exact h.2.2.1, by rw [us_n _ _ _ h7.symm]; exact h.2.2.2.1, h.2.2.2.2⟩
theorem hcB_lt {w : Int32} (h : hcB L u p w = true) : p < u := by
  unfold hcB at h
  rw [Bool.and_eq_true] at h
  exact of_decide_eq_true h.1
theorem isD_lt (h : isD L u p = true) : p < u ∧ dv L p ≤ 9 := by
  have := of_decide_eq_true h
  unfold dv
  exact ⟨this.1, by omega⟩
theorem r0_sign_z (hL : okL L u) (h : cX L u X p) : r0_sign X = some (if p < u then L p else 0) := by
  obtain ⟨h1, h2, h3, h4⟩ := h
  have hu := hL.1
  unfold r0_sign
  rw [h3, h2, if_neg (nI_pos (by omega))]
  by_cases c : p < u
  · rw [if_neg (show ¬ (40 : Int32) ≤ nI p from nI_ge (b := 40) (by omega) (by decide)), if_neg (nI_ge c (by omega)), z_rd (show p < 40 by omega) (by decide), zs_b, if_pos c, h1 p c]
  · rw [if_neg c]
    by_cases c2 : 40 ≤ p
    · rw [if_pos (show (40 : Int32) ≤ nI p from nI_le (a := 40) c2 (by omega))]
    · rw [if_neg (show ¬ (40 : Int32) ≤ nI p from nI_ge (b := 40) (by omega) (by decide)), if_pos (nI_le (by omega) (by omega))]
theorem r0_digit_z (hL : okL L u) (h : cX L u X p) : r0_digit X = some (if isD L u p then nI (dv L p) else -1) := by
  unfold r0_digit
  rw [r0_sign_z hL h, zs_1]
  by_cases c : p < u
  · obtain ⟨q1, q2⟩ := hL.dn c
    rw [if_pos c, q2, show (48 : Int32) = nI 48 from rfl]
    unfold isD dv
    by_cases c2 : dN L p < 48
    · rw [if_pos (pk_sneg (by omega) c2), decide_eq_false (by omega)]; rfl
    · rw [pk_sub (by omega), if_neg (nI_pos (by omega))]
      by_cases c3 : 57 < dN L p
      · rw [if_pos (show (9 : Int32) < nI (dN L p - 48) from nI_lt (a := 9) (by omega) (by omega)), decide_eq_false (by omega)]; rfl
      · rw [if_neg (show ¬ (9 : Int32) < nI (dN L p - 48) from nI_nlt (a := 9) (by omega) (by decide)), decide_eq_true (by omega)]; rfl
  · rw [if_neg c, if_pos (show (0 : Int32) - 48 < 0 by decide)]
    unfold isD
    rw [decide_eq_false (fun z => c z.1)]; rfl
theorem r0_skip_z (hL : okL L u) (h : cX L u X p) {w : Int32} (hw : w ≠ 0) : r0_skip X w = some (if hcB L u p w then (1, us X 1 (nI (p + 1))) else (0, X)) := by
  unfold r0_skip
  rw [r0_sign_z hL h, zs_1]
  unfold hcB
  by_cases c : p < u
  · rw [if_pos c, decide_eq_true c, Bool.true_and]
    by_cases c2 : L p = w
    · rw [if_pos c2, decide_eq_true c2]
      unfold sw
      rw [zs_b, h.2.2.1, nI_1]; rfl
    · rw [if_neg c2, decide_eq_false c2]; rfl
  · rw [if_neg c, decide_eq_false c, if_neg (fun z => hw z.symm)]; rfl
theorem r5_here_z (hL : okL L u) (h : cM L u M p) : r5_here M = some (if p < u then L p else -1) := by
  obtain ⟨h1, h2, h3, h4, h5⟩ := h
  have hu := hL.1
  unfold r5_here
  rw [h2, h3]
  by_cases c : p < u
  · rw [if_neg (nI_ge c (by omega)), z_rd (show p < 40 by omega) (by decide), zs_b, if_pos c, h1 p c]
  · rw [if_pos (nI_le (by omega) (by omega)), if_neg c]
theorem here_eq (w : Int32) (hw : w ≠ -1) : ((if p < u then L p else -1) = w) = (hcB L u p w = true) := by
  unfold hcB
  by_cases c : p < u
  · rw [if_pos c, decide_eq_true c, Bool.true_and, decide_eq_true_eq]
  · rw [if_neg c, decide_eq_false c]
    exact propext ⟨fun z => absurd z.symm hw, fun z => nomatch z⟩
theorem r5_digit_z (hL : okL L u) (h : cM L u M p) {a b : Nat} (ha : a ≤ 9) (hb : b ≤ 9) : r5_digit M (nI a) (nI b) = some (if isD L u p = true ∧ a ≤ dv L p ∧ dv L p ≤ b then (nI (dv L p), us M 6 (nI (p + 1))) else (0, us M 7 (nI p))) := by
  have hu := hL.1
  have h6 := h.2.2.1
  have h7 := h.2.2.2.1
  have hp := h.2.2.2.2
  unfold r5_digit
  rw [h7, if_neg (show ¬ (0 : Int32) ≤ -1 by decide), r5_here_z hL h, zs_1, r5_in_z, zs_1, show (48 : Int32) = nI 48 from rfl, nI_add, nI_add]
  unfold sw
  rw [zs_b, h6]
  have hfail : r5_digit_j33 (us M 7 (nI p)) = some (0, us M 7 (nI p)) := by
    unfold r5_digit_j33
    rw [us_s, if_neg (nI_pos (by omega))]
  by_cases c : p < u
  · obtain ⟨q1, q2⟩ := hL.dn c
    rw [if_pos c]
    by_cases c2 : dN L p < 48 + a
    · rw [q2, if_pos (nI_lt c2 (by omega)), if_pos rfl, hfail, if_neg]
      rintro ⟨z1, z2, z3⟩
      unfold isD at z1
      unfold dv at z2
      have := of_decide_eq_true z1
      omega
    · by_cases c3 : 48 + b < dN L p
      · rw [q2, if_neg (nI_nlt (by omega) (by omega)), if_pos (nI_lt c3 (by omega)), if_pos rfl, hfail, if_neg]
        rintro ⟨z1, z2, z3⟩
        unfold isD at z1
        unfold dv at z3
        have := of_decide_eq_true z1
        omega
      · have hgood : r5_digit_j33 M = some (nI (dv L p), us M 6 (nI (p + 1))) := by
          unfold r5_digit_j33 sw
          rw [h7, if_pos z_m1lt, h6, zs_b, us_s, nI_1, nI_pred, us_n _ _ _ (show (4 : Nat) ≠ 6 by decide), z_rd (show p < 40 by omega) (by decide), zs_b, h.1 p c, q2, show (48 : Int32) = nI 48 from rfl, pk_sub (by omega)]
          rfl
        rw [q2, if_neg (nI_nlt (by omega) (by omega)), if_neg (nI_nlt (by omega) (by omega)), if_neg (show ¬ (1 : Int32) = 0 by decide), hgood, if_pos]
        unfold isD dv
        exact ⟨decide_eq_true ⟨c, by omega, by omega⟩, by omega, by omega⟩
  · rw [if_neg c, if_pos (show (-1 : Int32) < nI (48 + a) from by rw [Int32.lt_iff_toInt_lt, nI_toInt (by omega), show (-1 : Int32).toInt = -1 from by decide]; omega), if_pos rfl, hfail, if_neg]
    rintro ⟨z1, _, _⟩
    exact c (isD_lt z1).1
theorem r5_digit_f {M : OS} (h : 0 ≤ M 7 0) (a b : Int32) : r5_digit M a b = some (0, M) := by
  unfold r5_digit r5_digit_j33
  rw [if_pos h, if_neg (fun z => z_nle_lt.mpr z h)]
theorem j274_f {M : OS} (h : 0 ≤ M 7 0) : r5_reads_j274 M = some M := by
  unfold r5_reads_j274; rw [if_pos h]
theorem j238_f {M : OS} (h : 0 ≤ M 7 0) : r5_reads_j238 M = r5_reads_j274 M := by
  unfold r5_reads_j238; rw [if_pos h]
/-! the length -/
def bothE (u : Nat) (X' M' : OS) (v : Int32) (P : Nat → Prop) : Prop := (v = 1 ∧ ∃ p, P p) ∨ (v = 0 ∧ ∃ q, q ≤ u ∧ X' 1 0 = nI q ∧ M' 7 0 = nI q)
theorem len_z (hL : okL L u) (hX : cX L u X p) (hM : cM L u M p) (h11 : M 11 0 = 1) : ∃ v X' M', r0_readLength X = some (v, X') ∧ r5_reads_j238 M = r5_reads_j274 M' ∧ (∀ r, r ≠ 1 → r ≠ 7 → X' r = X r) ∧ (∀ r, r ≠ 6 → r ≠ 7 → r ≠ 11 → M' r = M r) ∧ bothE u X' M' v (fun p => cX L u X' p ∧ cM L u M' p ∧ X' 7 0 = M' 11 0 ∧ (X' 7 0 = 1 ∨ X' 7 0 = 2)) := by
  have hu := hL.1
  have hp := hX.2.2.2
  unfold r0_readLength r5_reads_j238 sw
  rw [zs_b, r0_skip_z hL (hX.put 1 (r := 7) (by decide) (by decide) (by decide)) (by decide), hM.2.2.2.1, if_neg (show ¬ (0 : Int32) ≤ -1 by decide), r5_here_z hL hM, zs_1]
  cases hc : hcB L u p 42
  · have hne : ¬ ((if p < u then L p else -1) = 42) := fun z => by rw [here_eq 42 (by decide), hc] at z; cases z
    rw [if_neg hne, if_neg (show ¬ (false = true) by decide), zs_2, if_pos rfl]
    exact ⟨1, _, M, rfl, rfl, fun r _ h7 => us_n _ _ _ h7, fun _ _ _ _ => rfl, Or.inl ⟨rfl, p, hX.put 1 (by decide) (by decide) (by decide), hM, by rw [us_s, h11], Or.inl (us_s _ _ _ ▸ rfl)⟩⟩
  · have heq : (if p < u then L p else -1) = 42 := by rw [here_eq 42 (by decide)]; exact hc
    have hpu := hcB_lt hc
    have hX1 := (hX.put 1 (r := 7) (by decide) (by decide) (by decide)).at (p + 1) (by omega)
    have hM1 := hM.at (p + 1) (by omega)
    rw [if_pos heq, if_pos rfl, zs_2, if_neg (show ¬ (1 : Int32) = 0 by decide), r0_digit_z hL hX1, zs_1, zs_b, hM.2.2.1, nI_1, show r5_digit (us M 6 (nI (p + 1))) 1 2 = _ from r5_digit_z hL hM1 (a := 1) (b := 2) (by decide) (by decide)]
    by_cases cd : isD L u (p + 1) = true ∧ 1 ≤ dv L (p + 1) ∧ dv L (p + 1) ≤ 2
    · obtain ⟨d1, d2, d3⟩ := cd
      rw [if_pos (show isD L u (p + 1) = true ∧ 1 ≤ dv L (p + 1) ∧ dv L (p + 1) ≤ 2 from ⟨d1, d2, d3⟩), if_pos d1, zs_2, zs_b]
      have hlt := (isD_lt d1).1
      have hfin : ∀ d, (d = 1 ∨ d = 2) → r0_readLength_j33 (us (us X 7 1) 1 (nI (p + 1))) (nI d) = some (1, us (us (us (us X 7 1) 1 (nI (p + 1))) 7 (nI d)) 1 (nI (p + 1 + 1))) := fun d _ => by
        unfold r0_readLength_j33 sw
        rw [zs_b, zs_b, us_n _ _ _ (show (1 : Nat) ≠ 7 by decide), us_s, nI_1]
      have hdd : dv L (p + 1) = 1 ∨ dv L (p + 1) = 2 := by omega
      have hcond : (if nI (dv L (p + 1)) = 1 then r0_readLength_j33 (us (us X 7 1) 1 (nI (p + 1))) (nI (dv L (p + 1))) else if nI (dv L (p + 1)) = 2 then r0_readLength_j33 (us (us X 7 1) 1 (nI (p + 1))) (nI (dv L (p + 1))) else some (0, us (us X 7 1) 1 (nI (p + 1)))) = some (1, us (us (us (us X 7 1) 1 (nI (p + 1))) 7 (nI (dv L (p + 1)))) 1 (nI (p + 1 + 1))) := by
        rw [hfin _ hdd]
        rcases hdd with e | e
        · rw [e, if_pos (show nI 1 = 1 from rfl)]
        · rw [e, if_neg (show ¬ nI 2 = 1 by decide), if_pos (show nI 2 = 2 from rfl)]
      rw [hcond]
      refine ⟨1, _, _, rfl, rfl, fun r h1 h7 => ?_, fun r h6 h7 h11 => ?_, Or.inl ⟨rfl, p + 1 + 1, ?_, ?_, ?_, ?_⟩⟩
      · rw [us_n _ _ _ h1, us_n _ _ _ h7, us_n _ _ _ h1, us_n _ _ _ h7]
      · rw [us_n _ _ _ h11, us_n _ _ _ h6, us_n _ _ _ h6]
      · exact (hX1.put _ (r := 7) (by decide) (by decide) (by decide)).at (p + 1 + 1) (by omega)
      · exact (hM1.at (p + 1 + 1) (by omega)).put _ (r := 11) (by decide) (by decide) (by decide) (by decide)
      · rw [us_n _ _ _ (by decide), us_s, us_s]
      · rw [us_n _ _ _ (by decide), us_s]
        rcases hdd with e | e <;> rw [e]
        · exact Or.inl rfl
        · exact Or.inr rfl
    · rw [if_neg cd, zs_2, zs_b]
      have hcl : (if (if isD L u (p + 1) = true then nI (dv L (p + 1)) else -1) = 1 then r0_readLength_j33 (us (us X 7 1) 1 (nI (p + 1))) (if isD L u (p + 1) = true then nI (dv L (p + 1)) else -1) else if (if isD L u (p + 1) = true then nI (dv L (p + 1)) else -1) = 2 then r0_readLength_j33 (us (us X 7 1) 1 (nI (p + 1))) (if isD L u (p + 1) = true then nI (dv L (p + 1)) else -1) else some (0, us (us X 7 1) 1 (nI (p + 1)))) = some (0, us (us X 7 1) 1 (nI (p + 1))) := by
        cases hd : isD L u (p + 1)
        · rw [if_neg (show ¬ (false = true) by decide), if_neg (show ¬ (-1 : Int32) = 1 by decide), if_neg (show ¬ (-1 : Int32) = 2 by decide)]
        · have := (isD_lt hd).2
          rw [if_pos rfl, if_neg (show ¬ nI (dv L (p + 1)) = 1 from fun z => cd ⟨hd, by have := (nI_eq (b := 1) (by omega) (by decide)).mp z; omega⟩), if_neg (show ¬ nI (dv L (p + 1)) = 2 from fun z => cd ⟨hd, by have := (nI_eq (b := 2) (by omega) (by decide)).mp z; omega⟩)]
      rw [hcl]
      refine ⟨0, _, _, rfl, rfl, fun r h1 h7 => ?_, fun r h6 h7 h11 => ?_, Or.inr ⟨rfl, p + 1, by omega, by rw [us_s], ?_⟩⟩
      · rw [us_n _ _ _ h1, us_n _ _ _ h7]
      · rw [us_n _ _ _ h11, us_n _ _ _ h7, us_n _ _ _ h6]
      · rw [us_n _ _ _ (by decide), us_s]
/-! the needs -/
def rnd (M : OS) : Option OS := if 0 ≤ (M 7 0) then r5_reads_j238 M
  else bd1 (r5_here M) (fun v26 =>
  (if v26 = 47 then (sw M 6 ((M 6 0) + 1)).bind fun M28 =>
  bd2 (r5_digit M28 0 9) (fun v29 M30 =>
  (sw M30 10 v29).bind fun M31 =>
  (if 0 ≤ (M31 7 0) then r5_reads_j217 M31 (M28 6 0)
  else (if (M31 10 0) = 0 then r5_reads_j217 M31 (M28 6 0)
  else bd1 (r5_here M31) (fun v34 =>
  bd1 (r5_in v34 48 57) (fun v35 =>
  (if v35 = 0 then r5_reads_j217 M31 (M28 6 0)
  else bd2 (r5_digit M31 0 9) (fun v37 M38 =>
  (sw M38 10 ((10 * (M31 10 0)) + v37)).bind fun M39 =>
  r5_reads_j217 M39 (M28 6 0))))))))
  else r5_reads_j238 M))
theorem rnd_f {M : OS} (h : 0 ≤ M 7 0) : rnd M = r5_reads_j238 M := if_pos h
theorem nd_end (hL : okL L u) {f k : Nat} (hX : cX L u X p) (hM : cM L u M p) (hk : k < 100) (hf : f ≤ u) (h10 : M 10 0 = nI k) : ∃ v X' M', r0_readNeeds_j72 X (nI f) (nI k) = some (v, X') ∧ r5_reads_j217 M (nI f) = r5_reads_j238 M' ∧ (∀ r, r ≠ 1 → r ≠ 6 → X' r = X r) ∧ (∀ r, r ≠ 6 → r ≠ 7 → r ≠ 10 → M' r = M r) ∧ bothE u X' M' v (fun p => cX L u X' p ∧ cM L u M' p ∧ X' 6 0 = M' 10 0 ∧ ∃ x, x < 16 ∧ X' 6 0 = nI x) := by
  have hu := hL.1
  unfold r0_readNeeds_j72 r5_reads_j217 sw
  rw [hM.2.2.2.1, if_neg (show ¬ (0 : Int32) ≤ -1 by decide), h10, zs_b, zs_b, zs_b]
  have hle : (nI k ≤ 15) = (k ≤ 15) := propext (nI_leI (b := 15) (by omega) (by decide))
  by_cases c : k ≤ 15
  · rw [if_pos (show nI k ≤ 15 by rw [hle]; exact c), if_pos (show nI k ≤ 15 by rw [hle]; exact c)]
    exact ⟨1, _, M, rfl, rfl, fun r _ h6 => us_n _ _ _ h6, fun _ _ _ _ => rfl, Or.inl ⟨rfl, p, hX.put _ (by decide) (by decide) (by decide), hM, by rw [us_s, h10], k, by omega, us_s _ _ _ ▸ rfl⟩⟩
  · rw [if_neg (show ¬ nI k ≤ 15 by rw [hle]; exact c), if_neg (show ¬ nI k ≤ 15 by rw [hle]; exact c)]
    exact ⟨0, _, us M 7 (nI f), rfl, rfl, fun r h1 _ => us_n _ _ _ h1, fun r _ h7 _ => us_n _ _ _ h7, Or.inr ⟨rfl, f, hf, by rw [us_s], by rw [us_s]⟩⟩
theorem needs_z (hL : okL L u) (hX : cX L u X p) (hM : cM L u M p) (h10 : M 10 0 = 0) : ∃ v X' M', r0_readNeeds X = some (v, X') ∧ rnd M = r5_reads_j238 M' ∧ (∀ r, r ≠ 1 → r ≠ 6 → X' r = X r) ∧ (∀ r, r ≠ 6 → r ≠ 7 → r ≠ 10 → M' r = M r) ∧ bothE u X' M' v (fun p => cX L u X' p ∧ cM L u M' p ∧ X' 6 0 = M' 10 0 ∧ ∃ x, x < 16 ∧ X' 6 0 = nI x) := by
  have hu := hL.1
  have hp := hX.2.2.2
  unfold r0_readNeeds rnd
  have hX0 := hX.put 0 (r := 6) (by decide) (by decide) (by decide)
  rw [show sw X 6 0 = some (us X 6 0) from rfl, zs_b, r0_skip_z hL hX0 (by decide), hM.2.2.2.1, if_neg (show ¬ (0 : Int32) ≤ -1 by decide), r5_here_z hL hM, zs_1]
  cases hc : hcB L u p 47
  · have hne : ¬ ((if p < u then L p else -1) = 47) := fun z => by rw [here_eq 47 (by decide), hc] at z; cases z
    rw [if_neg hne, if_neg (show ¬ (false = true) by decide), zs_2, if_pos rfl]
    exact ⟨1, _, M, rfl, rfl, fun r _ h6 => us_n _ _ _ h6, fun _ _ _ _ => rfl, Or.inl ⟨rfl, p, hX0, hM, by rw [us_s, h10], 0, by decide, us_s _ _ _ ▸ rfl⟩⟩
  · have heq : (if p < u then L p else -1) = 47 := by rw [here_eq 47 (by decide)]; exact hc
    have hpu := hcB_lt hc
    have hX1 := hX0.at (p + 1) (by omega)
    have hM1 := hM.at (p + 1) (by omega)
    rw [if_pos heq, if_pos rfl, zs_2, if_neg (show ¬ (1 : Int32) = 0 by decide), r0_digit_z hL hX1, zs_1, hM.2.2.1, nI_1, show sw M 6 (nI (p + 1)) = some (us M 6 (nI (p + 1))) from rfl, zs_b, show r5_digit (us M 6 (nI (p + 1))) 0 9 = _ from r5_digit_z hL hM1 (a := 0) (b := 9) (by decide) (by decide)]
    cases hd : isD L u (p + 1)
    · rw [if_neg (show ¬ (false = true) by decide), if_neg (show ¬ (0 : Int32) ≤ -1 by decide), if_neg (show ¬ (false = true ∧ 0 ≤ dv L (p + 1) ∧ dv L (p + 1) ≤ 9) from fun z => nomatch z.1), zs_2]
      unfold sw
      rw [zs_b, us_n _ _ _ (show (7 : Nat) ≠ 10 by decide), us_s, if_pos (nI_pos' (by omega))]
      unfold r5_reads_j217
      rw [us_n _ _ _ (show (7 : Nat) ≠ 10 by decide), us_s, if_pos (nI_pos' (by omega))]
      refine ⟨0, _, _, rfl, rfl, fun r h1 h6 => ?_, fun r h6 h7 h10 => ?_, Or.inr ⟨rfl, p + 1, by omega, by rw [us_s], ?_⟩⟩
      · rw [us_n _ _ _ h1, us_n _ _ _ h6]
      · rw [us_n _ _ _ h10, us_n _ _ _ h7, us_n _ _ _ h6]
      · rw [us_n _ _ _ (by decide), us_s]
    · obtain ⟨hlt, hd9⟩ := isD_lt hd
      rw [if_pos rfl, if_pos (nI_pos' (by omega)), if_pos (show (true = true ∧ 0 ≤ dv L (p + 1) ∧ dv L (p + 1) ≤ 9) from ⟨rfl, Nat.zero_le _, hd9⟩), zs_2, us_s, nI_1]
      have hX2 := hX1.at (p + 1 + 1) (by omega)
      have hM2 := (hM1.at (p + 1 + 1) (by omega)).put (nI (dv L (p + 1))) (r := 10) (by decide) (by decide) (by decide) (by decide)
      unfold sw
      rw [zs_b, zs_b, r0_digit_z hL hX2, zs_1, hM2.2.2.2.1, if_neg (show ¬ (0 : Int32) ≤ -1 by decide), us_s, us_s]
      have done : ∀ (X9 M9 : OS) (k q : Nat), cX L u X9 q → cM L u M9 q → k < 100 → M9 10 0 = nI k → (∀ r, r ≠ 1 → r ≠ 6 → X9 r = X r) → (∀ r, r ≠ 6 → r ≠ 7 → r ≠ 10 → M9 r = M r) → ∃ v X' M', r0_readNeeds_j72 X9 (nI (p + 1)) (nI k) = some (v, X') ∧ r5_reads_j217 M9 (nI (p + 1)) = r5_reads_j238 M' ∧ (∀ r, r ≠ 1 → r ≠ 6 → X' r = X r) ∧ (∀ r, r ≠ 6 → r ≠ 7 → r ≠ 10 → M' r = M r) ∧ bothE u X' M' v (fun p => cX L u X' p ∧ cM L u M' p ∧ X' 6 0 = M' 10 0 ∧ ∃ x, x < 16 ∧ X' 6 0 = nI x) := by
        intro X9 M9 k q g1 g2 g3 g4 g5 g6
        obtain ⟨v, X', M', e1, e2, e3, e4, e5⟩ := nd_end hL g1 g2 g3 (show p + 1 ≤ u by omega) g4
        exact ⟨v, X', M', e1, e2, fun r h1 h6 => (e3 r h1 h6).trans (g5 r h1 h6), fun r h6 h7 h10 => (e4 r h6 h7 h10).trans (g6 r h6 h7 h10), e5⟩
      have fX : ∀ r, r ≠ 1 → r ≠ 6 → us (us (us X 6 0) 1 (nI (p + 1))) 1 (nI (p + 1 + 1)) r = X r := fun r h1 h6 => by rw [us_n _ _ _ h1, us_n _ _ _ h1, us_n _ _ _ h6]
      have fM : ∀ r, r ≠ 6 → r ≠ 7 → r ≠ 10 → us (us (us M 6 (nI (p + 1))) 6 (nI (p + 1 + 1))) 10 (nI (dv L (p + 1))) r = M r := fun r h6 _ h10 => by rw [us_n _ _ _ h10, us_n _ _ _ h6, us_n _ _ _ h6]
      by_cases c0 : dv L (p + 1) = 0
      · rw [c0] at hM2 fM ⊢
        rw [if_pos (show nI 0 ≤ 0 by decide), if_pos (show nI 0 = 0 from rfl)]
        exact done _ _ 0 _ hX2 hM2 (by decide) (us_s _ _ _ ▸ rfl) fX fM
      · rw [if_neg (nI_nle (by omega) (by omega)), if_neg (nI_ne0 (by omega) (by omega)), r5_here_z hL hM2, zs_1, r5_in_z, zs_1]
        cases hd2 : isD L u (p + 1 + 1)
        · rw [if_neg (show ¬ (false = true) by decide), if_pos z_m1lt]
          have hin : (if (if p + 1 + 1 < u then L (p + 1 + 1) else -1) < 48 then (0 : Int32) else if 57 < (if p + 1 + 1 < u then L (p + 1 + 1) else -1) then 0 else 1) = 0 := by
            by_cases c : p + 1 + 1 < u
            · obtain ⟨q1, q2⟩ := hL.dn c
              rw [if_pos c, q2]
              have hno := of_decide_eq_false hd2
              by_cases c2 : dN L (p + 1 + 1) < 48
              · rw [if_pos (show nI (dN L (p + 1 + 1)) < 48 from nI_lt (b := 48) c2 (by decide))]
              · rw [if_neg (show ¬ nI (dN L (p + 1 + 1)) < 48 from nI_nlt (b := 48) (by omega) (by omega)), if_pos (show (57 : Int32) < nI (dN L (p + 1 + 1)) from nI_lt (a := 57) (by omega) (by omega))]
            · rw [if_neg c]; decide
          rw [if_pos hin]
          exact done _ _ _ _ hX2 hM2 (by omega) (us_s _ _ _ ▸ rfl) fX fM
        · obtain ⟨hlt2, hd92⟩ := isD_lt hd2
          have hw := of_decide_eq_true hd2
          rw [if_pos rfl, if_neg (nI_pos (by omega))]
          have hin : (if (if p + 1 + 1 < u then L (p + 1 + 1) else -1) < 48 then (0 : Int32) else if 57 < (if p + 1 + 1 < u then L (p + 1 + 1) else -1) then 0 else 1) = 1 := by
            obtain ⟨q1, q2⟩ := hL.dn hlt2
            rw [if_pos hlt2, q2, if_neg (show ¬ nI (dN L (p + 1 + 1)) < 48 from nI_nlt (b := 48) (by omega) (by omega)), if_neg (show ¬ (57 : Int32) < nI (dN L (p + 1 + 1)) from nI_nlt (a := 57) (by omega) (by decide))]
          rw [hin, if_neg (show ¬ (1 : Int32) = 0 by decide), show r5_digit (us (us (us M 6 (nI (p + 1))) 6 (nI (p + 1 + 1))) 10 (nI (dv L (p + 1)))) 0 9 = _ from r5_digit_z hL hM2 (a := 0) (b := 9) (by decide) (by decide), if_pos (show isD L u (p + 1 + 1) = true ∧ 0 ≤ dv L (p + 1 + 1) ∧ dv L (p + 1 + 1) ≤ 9 from ⟨hd2, Nat.zero_le _, hd92⟩), zs_2, us_s, nI_1, zs_b, zs_b, show (10 : Int32) = nI 10 from rfl, pk_mul, nI_add]
          have hX3 := hX2.at (p + 1 + 1 + 1) (by omega)
          have hM3 := (hM2.at (p + 1 + 1 + 1) (by omega)).put (nI (10 * dv L (p + 1) + dv L (p + 1 + 1))) (r := 10) (by decide) (by decide) (by decide) (by decide)
          exact done _ _ _ _ hX3 hM3 (by omega) (us_s _ _ _ ▸ rfl) (fun r h1 h6 => (us_n _ _ _ h1).trans (fX r h1 h6)) (fun r h6 h7 h10 => by rw [us_n _ _ _ h10, us_n _ _ _ h6]; exact fM r h6 h7 h10)
/-! the groups -/
theorem grp_loop (hL : okL L u) : ∀ (j k p d fc fr : Nat) (X M : OS), k + j = 6 → 1 ≤ k → k ≤ d + 1 → d ≤ 5 → j < fc → j + 2 < fr → cX L u X p → cM L u M p → X 5 0 = M 9 0 → (∃ g, g < 64 ∧ X 5 0 = nI g) →
    ∃ v X' M', bd2 (r0_skip X 44) (fun v8 X9 => if v8 = 0 then some (1, X9) else bs1 (it3 r0_readGroups_b9 fc X9 (nI d) (nI k)) (fun X_x9 => some (0, X_x9)) (fun t11 => some t11)) = some (v, X') ∧ it2 r5_reads_b78 fr M (nI d) = some M' ∧
      (∀ r, r ≠ 1 → r ≠ 5 → X' r = X r) ∧ (∀ r, r ≠ 6 → r ≠ 7 → r ≠ 9 → M' r = M r) ∧ bothE u X' M' v (fun p => cX L u X' p ∧ cM L u M' p ∧ X' 5 0 = M' 9 0 ∧ ∃ g, g < 64 ∧ X' 5 0 = nI g) := by
  have hu := hL.1
  intro j
  induction j with
  | zero =>
    intro k p d fc fr X M hk hk1 hkd hd5 hfc hfr hX hM h59 hg
    obtain ⟨fr, rfl⟩ : ∃ g, fr = g + 1 + 1 := ⟨fr - 2, by omega⟩
    obtain ⟨fc, rfl⟩ : ∃ g, fc = g + 1 := ⟨fc - 1, by omega⟩
    rw [r0_skip_z hL hX (by decide)]
    cases hc : hcB L u p 44
    · have hb : r5_reads_b78 M (nI d) = some (.inr M) := by
        unfold r5_reads_b78
        rw [hM.2.2.2.1, if_neg (show ¬ (0 : Int32) ≤ -1 by decide), r5_here_z hL hM, zs_1, if_neg (fun z => by rw [here_eq 44 (by decide), hc] at z; cases z)]
      rw [if_neg (show ¬ (false = true) by decide), zs_2, if_pos rfl]
      refine ⟨1, X, M, rfl, ?_, fun _ _ _ => rfl, fun _ _ _ _ => rfl, Or.inl ⟨rfl, p, hX, hM, h59, hg⟩⟩
      unfold it2
      rw [hb]
    · have hpu := hcB_lt hc
      have hX1 := hX.at (p + 1) (by omega)
      have hM1 := hM.at (p + 1) (by omega)
      have hd : d = 5 := by omega
      have hk6 : k = 6 := by omega
      have hb : r5_reads_b78 M (nI d) = some (.inl (us (us (us M 6 (nI (p + 1))) 7 (nI (p + 1))) 9 (M 9 0 ||| (1 <<< ((0 : Int32) &&& 31))), 0)) := by
        unfold r5_reads_b78
        rw [hM.2.2.2.1, if_neg (show ¬ (0 : Int32) ≤ -1 by decide), r5_here_z hL hM, zs_1, if_pos (show (if p < u then L p else -1) = 44 by rw [here_eq 44 (by decide)]; exact hc), hM.2.2.1, nI_1, show sw M 6 (nI (p + 1)) = some (us M 6 (nI (p + 1))) from rfl, zs_b, nI_1, show (5 : Int32) = nI 5 from rfl, r5_digit_z hL hM1 (show d + 1 ≤ 9 by omega) (show 5 ≤ 9 by decide), if_neg (fun z => by omega), zs_2]
        unfold sw
        rw [zs_b, us_n _ _ _ (show (9 : Nat) ≠ 7 by decide), us_n _ _ _ (show (9 : Nat) ≠ 6 by decide)]
      have hb2 : ∀ N : OS, 0 ≤ N 7 0 → ∀ z, r5_reads_b78 N z = some (.inr N) := fun N hN z => by
        unfold r5_reads_b78; rw [if_pos hN]
      have hcb : r0_readGroups_b9 (us X 1 (nI (p + 1))) (nI d) (nI k) = some (.inr (.inl (us X 1 (nI (p + 1))))) := by
        unfold r0_readGroups_b9
        rw [hk6, if_pos (show (6 : Int32) ≤ nI 6 by decide)]
      rw [if_pos rfl, zs_2, if_neg (show ¬ (1 : Int32) = 0 by decide)]
      refine ⟨0, us X 1 (nI (p + 1)), us (us (us M 6 (nI (p + 1))) 7 (nI (p + 1))) 9 (M 9 0 ||| (1 <<< ((0 : Int32) &&& 31))), ?_, ?_, fun r h1 _ => us_n _ _ _ h1, fun r h6 h7 h9 => by rw [us_n _ _ _ h9, us_n _ _ _ h7, us_n _ _ _ h6], Or.inr ⟨rfl, p + 1, by omega, by rw [us_s], by rw [us_n _ _ _ (by decide), us_s]⟩⟩
      · unfold it3
        rw [hcb]; rfl
      · unfold it2
        rw [hb]
        show it2 r5_reads_b78 (fr + 1) (us (us (us M 6 (nI (p + 1))) 7 (nI (p + 1))) 9 (M 9 0 ||| (1 <<< ((0 : Int32) &&& 31)))) 0 = _
        unfold it2
        rw [hb2 _ (by rw [us_n _ _ _ (by decide), us_s]; exact nI_pos' (by omega))]
  | succ j ih =>
    intro k p d fc fr X M hk hk1 hkd hd5 hfc hfr hX hM h59 hg
    obtain ⟨fr, rfl⟩ : ∃ g, fr = g + 1 + 1 := ⟨fr - 2, by omega⟩
    obtain ⟨fc, rfl⟩ : ∃ g, fc = g + 1 := ⟨fc - 1, by omega⟩
    rw [r0_skip_z hL hX (by decide)]
    cases hc : hcB L u p 44
    · have hb : r5_reads_b78 M (nI d) = some (.inr M) := by
        unfold r5_reads_b78
        rw [hM.2.2.2.1, if_neg (show ¬ (0 : Int32) ≤ -1 by decide), r5_here_z hL hM, zs_1, if_neg (fun z => by rw [here_eq 44 (by decide), hc] at z; cases z)]
      rw [if_neg (show ¬ (false = true) by decide), zs_2, if_pos rfl]
      refine ⟨1, X, M, rfl, ?_, fun _ _ _ => rfl, fun _ _ _ _ => rfl, Or.inl ⟨rfl, p, hX, hM, h59, hg⟩⟩
      unfold it2
      rw [hb]
    · have hpu := hcB_lt hc
      have hX1 := hX.at (p + 1) (by omega)
      have hM1 := hM.at (p + 1) (by omega)
      have hb2 : ∀ N : OS, 0 ≤ N 7 0 → ∀ z, r5_reads_b78 N z = some (.inr N) := fun N hN z => by
        unfold r5_reads_b78; rw [if_pos hN]
      rw [if_pos rfl, zs_2, if_neg (show ¬ (1 : Int32) = 0 by decide)]
      have hrb : r5_reads_b78 M (nI d) = bd2 (r5_digit (us M 6 (nI (p + 1))) (nI (d + 1)) (nI 5)) (fun v22 M23 => (sw M23 9 ((M23 9 0) ||| (1 <<< (v22 &&& 31)))).bind fun M24 => some (.inl (M24, v22))) := by
        unfold r5_reads_b78
        rw [hM.2.2.2.1, if_neg (show ¬ (0 : Int32) ≤ -1 by decide), r5_here_z hL hM, zs_1, if_pos (show (if p < u then L p else -1) = 44 by rw [here_eq 44 (by decide)]; exact hc), hM.2.2.1, nI_1, show sw M 6 (nI (p + 1)) = some (us M 6 (nI (p + 1))) from rfl, zs_b, nI_1]
        rfl
      have hcb : r0_readGroups_b9 (us X 1 (nI (p + 1))) (nI d) (nI k) = (if (if isD L u (p + 1) then nI (dv L (p + 1)) else -1) ≤ nI d then some (.inr (.inr (0, us X 1 (nI (p + 1))))) else (if (if isD L u (p + 1) then nI (dv L (p + 1)) else -1) < 6 then (sw (us X 1 (nI (p + 1))) 5 ((us X 1 (nI (p + 1)) 5 0) ||| (1 <<< ((if isD L u (p + 1) then nI (dv L (p + 1)) else -1) &&& 31)))).bind fun X6 => (sw X6 1 ((X6 1 0) + 1)).bind fun X7 => bd2 (r0_skip X7 44) (fun v8 X9 => (if v8 = 0 then some (.inr (.inr (1, X9))) else some (.inl (X9, (if isD L u (p + 1) then nI (dv L (p + 1)) else -1), (nI k + 1))))) else some (.inr (.inr (0, us X 1 (nI (p + 1))))))) := by
        unfold r0_readGroups_b9
        rw [if_neg (show ¬ (6 : Int32) ≤ nI k from nI_ge (b := 6) (by omega) (by decide)), r0_digit_z hL hX1, zs_1]
      by_cases cd : isD L u (p + 1) = true ∧ d + 1 ≤ dv L (p + 1) ∧ dv L (p + 1) ≤ 5
      · obtain ⟨d1, d2, d3⟩ := cd
        obtain ⟨hlt, hd9⟩ := isD_lt d1
        obtain ⟨g, hg1, hg2⟩ := hg
        rw [r5_digit_z hL hM1 (show d + 1 ≤ 9 by omega) (show 5 ≤ 9 by decide), if_pos ⟨d1, d2, d3⟩, zs_2] at hrb
        rw [d1, if_pos rfl, if_neg (nI_ge (show d < dv L (p + 1) by omega) (by omega)), if_pos (show nI (dv L (p + 1)) < 6 from nI_lt (b := 6) (by omega) (by decide))] at hcb
        unfold sw at hrb hcb
        rw [zs_b, us_n _ _ _ (show (9 : Nat) ≠ 6 by decide), us_n _ _ _ (show (9 : Nat) ≠ 6 by decide)] at hrb
        rw [zs_b, us_n _ _ _ (show (5 : Nat) ≠ 1 by decide), us_n _ _ _ (show (1 : Nat) ≠ 5 by decide), us_s, nI_1, zs_b, nI_1] at hcb
        have hX2 := (hX1.put (X 5 0 ||| (1 <<< (nI (dv L (p + 1)) &&& 31))) (r := 5) (by decide) (by decide) (by decide)).at (p + 1 + 1) (by omega)
        have hM2 := (hM1.at (p + 1 + 1) (by omega)).put (M 9 0 ||| (1 <<< (nI (dv L (p + 1)) &&& 31))) (r := 9) (by decide) (by decide) (by decide) (by decide)
        have hgz : ∀ g, g < 64 → ∀ d, d < 6 → ∃ g', g' < 64 ∧ nI g ||| (1 <<< (nI d &&& 31)) = nI g' := by decide +kernel
        obtain ⟨v, X', M', r1, r2, r3, r4, r5⟩ := ih (k + 1) (p + 1 + 1) (dv L (p + 1)) fc (fr + 1) _ _ (by omega) (by omega) (by omega) d3 (by omega) (by omega) hX2 hM2 (by rw [us_n _ _ _ (by decide), us_s, us_s, h59]) (by rw [us_n _ _ _ (by decide), us_s, hg2]; exact hgz g hg1 _ (by omega))
        refine ⟨v, X', M', ?_, ?_, fun r h1 h5 => ?_, fun r h6 h7 h9 => ?_, r5⟩
        · unfold it3
          rw [hcb]
          rw [r0_skip_z hL hX2 (by decide)] at r1 ⊢
          cases hc2 : hcB L u (p + 1 + 1) 44
          · rw [hc2] at r1
            rw [if_neg (show ¬ (false = true) by decide), zs_2, if_pos rfl] at r1 ⊢
            exact r1
          · rw [hc2] at r1
            rw [if_pos rfl, zs_2, if_neg (show ¬ (1 : Int32) = 0 by decide)] at r1 ⊢
            exact r1
        · unfold it2
          rw [hrb]
          exact r2
        · rw [r3 r h1 h5, us_n _ _ _ h1, us_n _ _ _ h5, us_n _ _ _ h1]
        · rw [r4 r h6 h7 h9, us_n _ _ _ h9, us_n _ _ _ h6, us_n _ _ _ h6]
      · rw [r5_digit_z hL hM1 (show d + 1 ≤ 9 by omega) (show 5 ≤ 9 by decide), if_neg cd, zs_2] at hrb
        unfold sw at hrb
        rw [zs_b, us_n _ _ _ (show (9 : Nat) ≠ 7 by decide), us_n _ _ _ (show (9 : Nat) ≠ 6 by decide)] at hrb
        have hcb2 : r0_readGroups_b9 (us X 1 (nI (p + 1))) (nI d) (nI k) = some (.inr (.inr (0, us X 1 (nI (p + 1))))) := by
          rw [hcb]
          cases hd : isD L u (p + 1)
          · rw [if_neg (show ¬ (false = true) by decide), if_pos (show (-1 : Int32) ≤ nI d from by rw [Int32.le_iff_toInt_le, nI_toInt (by omega), show (-1 : Int32).toInt = -1 from by decide]; omega)]
          · obtain ⟨hlt, hd9⟩ := isD_lt hd
            rw [if_pos rfl]
            by_cases c1 : dv L (p + 1) ≤ d
            · rw [if_pos (nI_le c1 (by omega))]
            · rw [if_neg (nI_ge (by omega) (by omega)), if_neg (show ¬ nI (dv L (p + 1)) < 6 from nI_nlt (b := 6) (by have : ¬ (d + 1 ≤ dv L (p + 1) ∧ dv L (p + 1) ≤ 5) := fun z => cd ⟨hd, z⟩; omega) (by omega))]
        refine ⟨0, us X 1 (nI (p + 1)), us (us (us M 6 (nI (p + 1))) 7 (nI (p + 1))) 9 (M 9 0 ||| (1 <<< ((0 : Int32) &&& 31))), ?_, ?_, fun r h1 _ => us_n _ _ _ h1, fun r h6 h7 h9 => ?_, Or.inr ⟨rfl, p + 1, by omega, by rw [us_s], ?_⟩⟩
        · unfold it3
          rw [hcb2]; rfl
        · unfold it2
          rw [hrb]
          show it2 r5_reads_b78 (fr + 1) (us (us (us M 6 (nI (p + 1))) 7 (nI (p + 1))) 9 (M 9 0 ||| (1 <<< ((0 : Int32) &&& 31)))) 0 = _
          unfold it2
          rw [hb2 _ (by rw [us_n _ _ _ (by decide), us_s]; exact nI_pos' (by omega))]
        · rw [us_n _ _ _ h9, us_n _ _ _ h7, us_n _ _ _ h6]
        · rw [us_n _ _ _ (by decide), us_s]
end READ
