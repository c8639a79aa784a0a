/-! THE PURE LAYER: bits counted; insertions -/
/-! rows on bits out of kit/laws/BITS.to-paste -/
theorem nx_and (a b : Nat) : nI a &&& nI b = nI (a &&& b) := by
  apply Int32.toBitVec_inj.1
  show BitVec.ofNat 32 a &&& BitVec.ofNat 32 b = BitVec.ofNat 32 (a &&& b)
  apply BitVec.eq_of_getLsbD_eq
  intro i hi
  simp [hi]
theorem nx_cnt : ∀ j : Fin 32, (UInt32.ofNat j.val &&& Int32.toUInt32 31).toNat % 32 = j.val := by decide +kernel
theorem nx_ush {k j : Nat} (hk : k < 65536) (hj : j < 32) : ((nI k).toUInt32 >>> ((nI j).toUInt32 &&& Int32.toUInt32 31)).toInt32 = nI (k >>> j) := by
  have hs : k >>> j ≤ k := by
    rw [Nat.shiftRight_eq_div_pow]
    exact Nat.div_le_self _ _
  have e2 : UInt32.ofNat k >>> (UInt32.ofNat j &&& Int32.toUInt32 31) = UInt32.ofNat (k >>> j) := by
    apply UInt32.toNat_inj.1
    have h1 : (UInt32.ofNat k).toNat = k := Nat.mod_eq_of_lt (by omega)
    have h2 : (UInt32.ofNat (k >>> j)).toNat = k >>> j := Nat.mod_eq_of_lt (by omega)
    rw [UInt32.toNat_shiftRight, nx_cnt ⟨j, hj⟩, h1, h2]
  show (UInt32.ofNat k >>> (UInt32.ofNat j &&& Int32.toUInt32 31)).toInt32 = _
  rw [e2]
  rfl
def bcA (k : Nat) : Nat := bcB (k - ((k >>> 1) &&& 1431655765))
  where
  bcB (v : Nat) : Nat := bcC ((v &&& 858993459) + ((v >>> 2) &&& 858993459))
  bcC (v : Nat) : Nat := bcD ((v + (v >>> 4)) &&& 252645135)
  bcD (v : Nat) : Nat := (v + (v >>> 8) + ((v + (v >>> 8)) >>> 16)) &&& 63
def ctA (k : Nat) : Nat := k % 2 + k / 2 % 2 + k / 4 % 2 + k / 8 % 2 + k / 16 % 2 + k / 32 % 2 + k / 64 % 2 + k / 128 % 2 + k / 256 % 2 + k / 512 % 2 + k / 1024 % 2 + k / 2048 % 2 + k / 4096 % 2 + k / 8192 % 2
theorem z_bc_0 : ∀ a, a < 16 → ∀ b, b < 128 → bcA (128 * (0 + a) + b) = ctA (128 * (0 + a) + b) := by decide +kernel
theorem z_bc_1 : ∀ a, a < 16 → ∀ b, b < 128 → bcA (128 * (16 + a) + b) = ctA (128 * (16 + a) + b) := by decide +kernel
theorem z_bc_2 : ∀ a, a < 16 → ∀ b, b < 128 → bcA (128 * (32 + a) + b) = ctA (128 * (32 + a) + b) := by decide +kernel
theorem z_bc_3 : ∀ a, a < 16 → ∀ b, b < 128 → bcA (128 * (48 + a) + b) = ctA (128 * (48 + a) + b) := by decide +kernel
theorem z_bc_4 : ∀ a, a < 16 → ∀ b, b < 128 → bcA (128 * (64 + a) + b) = ctA (128 * (64 + a) + b) := by decide +kernel
theorem z_bc_5 : ∀ a, a < 16 → ∀ b, b < 128 → bcA (128 * (80 + a) + b) = ctA (128 * (80 + a) + b) := by decide +kernel
theorem z_bc_6 : ∀ a, a < 16 → ∀ b, b < 128 → bcA (128 * (96 + a) + b) = ctA (128 * (96 + a) + b) := by decide +kernel
theorem z_bc_7 : ∀ a, a < 16 → ∀ b, b < 128 → bcA (128 * (112 + a) + b) = ctA (128 * (112 + a) + b) := by decide +kernel
theorem z_bcN : ∀ k, k < 16384 → bcA k = ctA k := fun k hk => by
  by_cases h0 : k < 2048
  · have := z_bc_0 (k / 128 - 0) (by omega) (k % 128) (by omega)
    rw [show 128 * (0 + (k / 128 - 0)) + k % 128 = k by omega] at this
    exact this
  by_cases h1 : k < 4096
  · have := z_bc_1 (k / 128 - 16) (by omega) (k % 128) (by omega)
    rw [show 128 * (16 + (k / 128 - 16)) + k % 128 = k by omega] at this
    exact this
  by_cases h2 : k < 6144
  · have := z_bc_2 (k / 128 - 32) (by omega) (k % 128) (by omega)
    rw [show 128 * (32 + (k / 128 - 32)) + k % 128 = k by omega] at this
    exact this
  by_cases h3 : k < 8192
  · have := z_bc_3 (k / 128 - 48) (by omega) (k % 128) (by omega)
    rw [show 128 * (48 + (k / 128 - 48)) + k % 128 = k by omega] at this
    exact this
  by_cases h4 : k < 10240
  · have := z_bc_4 (k / 128 - 64) (by omega) (k % 128) (by omega)
    rw [show 128 * (64 + (k / 128 - 64)) + k % 128 = k by omega] at this
    exact this
  by_cases h5 : k < 12288
  · have := z_bc_5 (k / 128 - 80) (by omega) (k % 128) (by omega)
    rw [show 128 * (80 + (k / 128 - 80)) + k % 128 = k by omega] at this
    exact this
  by_cases h6 : k < 14336
  · have := z_bc_6 (k / 128 - 96) (by omega) (k % 128) (by omega)
    rw [show 128 * (96 + (k / 128 - 96)) + k % 128 = k by omega] at this
    exact this
  by_cases h7 : k < 16384
  · have := z_bc_7 (k / 128 - 112) (by omega) (k % 128) (by omega)
    rw [show 128 * (112 + (k / 128 - 112)) + k % 128 = k by omega] at this
    exact this
  omega
theorem z_tb (k i : Nat) : (if k.testBit i then 1 else 0) = k / 2 ^ i % 2 := by
  rw [Nat.testBit_eq_decide_div_mod_eq]
  by_cases h : k / 2 ^ i % 2 = 1
  · rw [decide_eq_true h, h]; rfl
  · rw [decide_eq_false h]; simp; omega
theorem z_bt_nI (k : Nat) {i : Nat} (hi : i < 32) : bt (nI k) i = k.testBit i := by
  show (BitVec.ofNat 32 k).getLsbD i = _
  rw [BitVec.getLsbD_ofNat]; simp [hi]
theorem z_ct14 (k : Nat) : zct (bt (nI k)) 14 = ctA k := by
  rw [zct_cong (q := k.testBit) (fun i hi => z_bt_nI k (by omega))]
  simp only [zct, z_tb]
  unfold ctA
  simp
theorem z_shr (k j : Nat) : k >>> j = k / 2 ^ j := Nat.shiftRight_eq_div_pow k j
theorem z_bcI {k : Nat} (hk : k < 16384) : r6_bitCount_0f7a4 (nI k) = some (nI (bcA k)) := by
  have a1 : (k >>> 1) &&& 1431655765 ≤ k := Nat.le_trans Nat.and_le_left (by rw [z_shr]; omega)
  obtain ⟨v1, hv1⟩ : ∃ v, v = k - ((k >>> 1) &&& 1431655765) := ⟨_, rfl⟩
  have b1 : v1 < 16384 := by omega
  obtain ⟨v2, hv2⟩ : ∃ v, v = (v1 &&& 858993459) + ((v1 >>> 2) &&& 858993459) := ⟨_, rfl⟩
  have b2 : v2 ≤ 20480 := by
    have h1 : v1 &&& 858993459 ≤ v1 := Nat.and_le_left
    have h2 : (v1 >>> 2) &&& 858993459 ≤ v1 / 4 := Nat.le_trans Nat.and_le_left (by rw [z_shr]; omega)
    omega
  obtain ⟨v3, hv3⟩ : ∃ v, v = (v2 + (v2 >>> 4)) &&& 252645135 := ⟨_, rfl⟩
  have b3 : v3 ≤ 21760 := by
    have h1 : (v2 + (v2 >>> 4)) &&& 252645135 ≤ v2 + v2 / 16 := Nat.le_trans Nat.and_le_left (by rw [z_shr]; omega)
    omega
  have b4 : v3 + (v3 >>> 8) < 65536 := by rw [z_shr]; omega
  unfold r6_bitCount_0f7a4
  simp only [zs_b]
  have e1 : iu (nI k) 1 = nI (k >>> 1) := nx_ush (j := 1) (by omega) (by decide)
  have e2 : iu (nI v1) 2 = nI (v1 >>> 2) := nx_ush (j := 2) (by omega) (by decide)
  have e3 : iu (nI v2) 4 = nI (v2 >>> 4) := nx_ush (j := 4) (by omega) (by decide)
  have e4 : iu (nI v3) 8 = nI (v3 >>> 8) := nx_ush (j := 8) (by omega) (by decide)
  have e5 : iu (nI (v3 + (v3 >>> 8))) 16 = nI ((v3 + (v3 >>> 8)) >>> 16) := nx_ush (j := 16) b4 (by decide)
  have f1 : nI k - (iu (nI k) 1 &&& 1431655765) = nI v1 := by
    rw [e1, show (1431655765 : Int32) = nI 1431655765 from rfl, nx_and, pk_sub a1, hv1]
  have f2 : (nI v1 &&& 858993459) + (iu (nI v1) 2 &&& 858993459) = nI v2 := by
    rw [e2, show (858993459 : Int32) = nI 858993459 from rfl, nx_and, nx_and, nI_add, hv2]
  have f3 : (nI v2 + iu (nI v2) 4) &&& 252645135 = nI v3 := by
    rw [e3, nI_add, show (252645135 : Int32) = nI 252645135 from rfl, nx_and, hv3]
  have f4 : nI v3 + iu (nI v3) 8 = nI (v3 + (v3 >>> 8)) := by rw [e4, nI_add]
  rw [f1, f2, f3, f4, e5, nI_add, show (63 : Int32) = nI 63 from rfl, nx_and]
  unfold bcA bcA.bcB bcA.bcC bcA.bcD
  rw [← hv1, ← hv2, ← hv3]
theorem z_bc {x : Int32} (h : ∀ i, 14 ≤ i → i < 32 → bt x i = false) : r6_bitCount_0f7a4 x = some (nI (zct (bt x) 14)) := by
  obtain ⟨k, hk, rfl⟩ := z_nat (m := 14) (by decide) h
  rw [z_bcI hk, z_bcN k hk, z_ct14]
theorem r5_bits_z {x : Int32} (h : ∀ i, 14 ≤ i → i < 32 → bt x i = false) : r5_bits x = some (nI (zct (bt x) 14)) := by
  unfold r5_bits
  rw [zf2 16 (fun a i => if bt x i then a + 1 else a) (by decide) (fun i hi a => ?_) (fun a => ?_)]
  · rw [zfo_ct, zct_ext (n := 14) (m := 16) (by decide) (fun i h1 h2 => h i h1 (by omega))]; rfl
  · unfold r5_bits_b4
    rw [if_neg (show ¬ (16 : Int32) ≤ nI i from nI_ge hi (by decide)), z_bit x (by omega)]
    cases bt x i
    · simp [Int32.add_zero]
    · rfl
  · unfold r5_bits_b4
    rw [if_pos (show (16 : Int32) ≤ nI 16 by decide)]
theorem r5_lowest_z {x : Int32} {i : Nat} (hi : i < 32) (h1 : bt x i = true) (h2 : ∀ j, j < i → bt x j = false) : r5_lowest x = some (nI i) := by
  unfold r5_lowest
  refine zi1k (F := r5_lowest_b2 x) i (fun _ => True) (fun r => r = nI i) (by omega) (fun r h3 h4 => ?_) trivial (fun j hj _ => Or.inl ⟨?_, trivial⟩) (fun _ => ⟨nI i, ?_, rfl⟩)
  · rw [h3, h4]; rfl
  · unfold r5_lowest_b2
    rw [z_bit x (by omega), h2 j hj]; rfl
  · unfold r5_lowest_b2
    rw [z_bit x (by omega), h1]; rfl
/-- what a step of the reference leaves as it was -/
def FK (S : Nat → Bool) (M M' : OS) : Prop := (∀ r, r ≠ 1 → S r = false → M' r = M r) ∧ ∀ k, 126 ≤ k → M' 1 k = M 1 k
theorem FK.refl (S : Nat → Bool) (M : OS) : FK S M M := ⟨fun _ _ _ => rfl, fun _ _ => rfl⟩
theorem FK.trans {S : Nat → Bool} {M M' M'' : OS} (h : FK S M M') (h' : FK S M' M'') : FK S M M'' := ⟨fun r h1 h2 => (h'.1 r h1 h2).trans (h.1 r h1 h2), fun k hk => (h'.2 k hk).trans (h.2 k hk)⟩
theorem FK.mono {S S' : Nat → Bool} {M M' : OS} (h : FK S M M') (hS : ∀ r, S' r = false → S r = false) : FK S' M M' := ⟨fun r h1 h2 => h.1 r h1 (hS r h2), h.2⟩
theorem FK.ly {S : Nat → Bool} {M : OS} {e : Nat} {x : Int32} (he : e < 14) : FK S M (ly M e x) := ⟨fun r h1 _ => lyn M e x h1, fun k hk => by rw [ly1, upd_n (by omega)]⟩
theorem FK.row {S : Nat → Bool} {M : OS} {r : Nat} {f : Nat → Int32} (hr : r ≠ 1) (hS : S r = true) : FK S M (upr M r f) := ⟨fun q _ h2 => upr_n _ _ _ (by intro h; rw [h, hS] at h2; cases h2), fun k _ => by rw [upr_n _ _ _ (by omega)]⟩
abbrev S0 : Nat → Bool := fun _ => false
abbrev S14 : Nat → Bool := fun r => decide (r = 14)
/-! the search -/
def pstep (g : OS → Option OS) (T : OS) (b : Nat → Int32) (i : Nat) (_ : Unit) (p : Nat) : Unit ⊕ OS :=
  if nI p = b i then .inl () else if obs T i p = 0 then (match g (mv T i p) with | some T' => .inr T' | none => .inl ()) else .inl ()
def pfirst (z : Unit ⊕ OS) : Option OS := match z with | .inr T' => some T' | .inl _ => none
def pan (A : Nat → Bool) (b : Nat → Int32) : Nat → Nat → OS → Option OS
  | 0, _, T => some T
  | d + 1, i, T => if A i then pfirst (zlo (pstep (pan A b d (i + 1)) T b i) () 60) else pan A b d (i + 1) T
/-- the events of the set from i on have no place -/
def lifted (A : Nat → Bool) (T : OS) (i : Nat) : Prop := ∀ j, i ≤ j → A j = true → T 9 j = -1 ∧ T 10 j = 0
theorem lifted.mvW {A : Nat → Bool} {T : OS} {i p : Nat} (h : lifted A T i) : lifted A (mv T i p) (i + 1) := fun j hj hA => by
  rw [mv9, mv10, upd_n (by omega), upd_n (by omega)]; exact h j (by omega) hA
theorem lifted.next {A : Nat → Bool} {T : OS} {i : Nat} (h : lifted A T i) : lifted A T (i + 1) := fun j hj hA => h j (by omega) hA
theorem zlo_inv {α ρ : Type} {step : α → Nat → α ⊕ ρ} {a : α} {Q : ρ → Prop} {N : Nat} (hs : ∀ i b r, i < N → step b i = .inr r → Q r) : ∀ {n : Nat} {r : ρ}, n ≤ N → zlo step a n = .inr r → Q r
  | 0, r, _, h => nomatch h
  | n + 1, r, hn, h => by
    unfold zlo at h
    split at h
    · exact hs n _ r (by omega) h
    · next r' h1 => cases h; exact zlo_inv hs (n := n) (by omega) h1
theorem pan_WF {A : Nat → Bool} {b : Nat → Int32} {n : Nat} (hA : ∀ j, A j = true → j < n) : ∀ {d i : Nat} {T T' : OS}, WF T n → pan A b d i T = some T' → WF T' n
  | 0, i, T, T', hW, h => by cases h; exact hW
  | d + 1, i, T, T', hW, h => by
    unfold pan at h
    split at h
    · next hi =>
      have : ∀ r, zlo (pstep (pan A b d (i + 1)) T b i) () 60 = .inr r → WF r n := fun r hr => by
        refine zlo_inv (N := 60) (Q := fun r => WF r n) (fun p _ r hp hst => ?_) (Nat.le_refl 60) hr
        unfold pstep at hst
        split at hst
        · cases hst
        · split at hst
          · split at hst
            · next T1 hT1 => cases hst; exact pan_WF hA (hW.mvW (hA i hi) hp) hT1
            · cases hst
          · cases hst
      unfold pfirst at h
      split at h
      · next T1 hT1 => cases h; exact this _ hT1
      · cases h
    · exact pan_WF hA hW h
theorem r2_placeAnew_z {n : Nat} {P : OS} {x : Int32} (hx : ∀ i, 14 ≤ i → bt x i = false) (hA : ∀ j, bt x j = true → j < n) : ∀ (d f i : Nat) (T : OS), i + d = 14 → d < f → WF T n → lifted (bt x) T i →
    r2_placeAnew f T P x (nI i) = some (match pan (bt x) (P 1) d i T with | some T' => (1, T') | none => (0, T)) := by
  intro d
  induction d with
  | zero =>
    intro f i T hi hf hW hl
    obtain ⟨f, rfl⟩ : ∃ g, f = g + 1 := ⟨f - 1, by omega⟩
    obtain rfl : i = 14 := by omega
    show r2_placeAnew_F (r2_placeAnew f) T P x (nI 14) = _
    unfold r2_placeAnew_F
    rw [if_neg (show ¬ nI 14 < 0 by decide), if_neg (show ¬ nI 14 < 14 by decide)]
    rfl
  | succ d ih =>
    intro f i T hi hf hW hl
    obtain ⟨f, rfl⟩ : ∃ g, f = g + 1 := ⟨f - 1, by omega⟩
    show r2_placeAnew_F (r2_placeAnew f) T P x (nI i) = _
    unfold r2_placeAnew_F
    rw [if_neg (nI_pos (by omega)), if_pos (show nI i < 14 from nI_lt (b := 14) (by omega) (by decide)), r4_contains_z x (show i < 32 by omega)]
    unfold pan
    simp only [zs_1, zs_b, zs_1, zs_2, zs_3]
    cases hb : bt x i
    · simp only [Bool.false_eq_true, if_false, if_true, zs_2, nI_1]
      rw [ih f (i + 1) T (by omega) (by omega) hW hl.next]
      cases pan (bt x) (P 1) d (i + 1) T <;> rfl
    · simp only [if_true]
      rw [if_neg (show ¬ (1 : Int32) = 0 by decide)]
      refine zi2k (F := r2_placeAnew_b33 (r2_placeAnew f) P x (nI i)) (a0 := T) 60 (fun k a => a = T ∧ zlo (pstep (pan (bt x) (P 1) d (i + 1)) T (P 1) i) () k = .inl ()) (fun r => r = (match zlo (pstep (pan (bt x) (P 1) d (i + 1)) T (P 1) i) () 60 with | .inl _ => .inl T | .inr T' => .inr (1, T'))) (by decide) (fun r h1 h2 => ?_) ⟨rfl, rfl⟩ (fun k a hk hI => ?_) (fun a hI => ⟨.inl a, ?_, by rw [hI.2, hI.1]⟩)
      · rw [h1, h2]
        unfold pfirst
        cases zlo (pstep (pan (bt x) (P 1) d (i + 1)) T (P 1) i) () 60 <;> rfl
      · obtain ⟨rfl, hz⟩ := hI
        have hin : i < n := hA i hb
        unfold r2_placeAnew_b33
        rw [if_neg (show ¬ (60 : Int32) ≤ nI k from nI_ge hk (by decide)), z_rd (show i < 14 by omega) (by decide)]
        simp only [zs_b, zs_1, zs_2, zs_3, zs_1, r3_obstacleAt_z hW hin hk, r3_moveTo_z a (show i < 14 by omega) hk, nI_1, zs_2]
        have hih := ih f (i + 1) (mv a i k) (by omega) (by omega) (hW.mvW hin hk) hl.mvW
        by_cases c1 : nI k = P 1 i
        · left
          refine ⟨a, by rw [if_pos c1], rfl, ?_⟩
          rw [zlo_s hz]; unfold pstep; rw [if_pos c1]
        · rw [if_neg c1]
          by_cases c2 : obs a i k = 0
          · rw [if_pos c2, hih]
            cases hp : pan (bt x) (P 1) d (i + 1) (mv a i k) with
            | none =>
              left
              refine ⟨a, ?_, rfl, ?_⟩
              · simp only [zs_b, zs_1, zs_2, zs_3, if_true]
                obtain ⟨l1, l2⟩ := hl i (Nat.le_refl i) hb
                rw [r3_moveTo_l _ (show i < 14 by omega), lf_mv l1 l2]; rfl
              · rw [zlo_s hz]; unfold pstep; rw [if_neg c1, if_pos c2, hp]
            | some T' =>
              right
              refine ⟨.inr (1, T'), ?_, ?_⟩
              · simp only [zs_b, zs_1, zs_2, zs_3]
                rw [if_neg (show ¬ (1 : Int32) = 0 by decide)]
              · have : zlo (pstep (pan (bt x) (P 1) d (i + 1)) a (P 1) i) () (k + 1) = .inr T' := by rw [zlo_s hz]; unfold pstep; rw [if_neg c1, if_pos c2, hp]
                rw [zlo_stay this (by omega)]
          · left
            rw [if_neg c2]
            refine ⟨a, rfl, rfl, ?_⟩
            rw [zlo_s hz]; unfold pstep; rw [if_neg c1, if_neg c2]
      · unfold r2_placeAnew_b33
        rw [if_pos (show (60 : Int32) ≤ nI 60 by decide)]
theorem r5_spreads_z {n : Nat} {A : Nat → Bool} {b : Nat → Int32} (hA : ∀ j, A j = true → j < n) (hn : n ≤ 14) : ∀ (d f i : Nat) (T M : OS) (x : Int32), i + d = 14 → d < f → WF T n → RB (M 1) T n → lifted A T i → (∀ j, A j = true → M 14 j = b j) → (∀ j, j < 32 → bt x j = (decide (i ≤ j) && A j)) →
    ∃ v M', r5_spreads f M x = some (v, M') ∧ FK S0 M M' ∧ match pan A b d i T with | some T' => v = 1 ∧ RB (M' 1) T' n | none => v = 0 ∧ RB (M' 1) T n := by
  intro d
  induction d with
  | zero =>
    intro f i T M x hi hf hW hR hl hst hx
    obtain ⟨f, rfl⟩ : ∃ g, f = g + 1 := ⟨f - 1, by omega⟩
    have h0 : x = 0 := z_zero.mpr (fun j hj => by
      rw [hx j hj]
      cases hAj : A j
      · simp
      · have := hA j hAj; rw [decide_eq_false (by omega)]; rfl)
    refine ⟨1, M, ?_, FK.refl _ _, rfl, hR⟩
    show r5_spreads_F (r5_spreads f) M x = _
    unfold r5_spreads_F
    rw [if_pos h0]
  | succ d ih =>
    intro f i T M x hi hf hW hR hl hst hx
    cases hb : A i
    · unfold pan
      rw [hb]
      simp only [Bool.false_eq_true, if_false]
      refine ih f (i + 1) T M x (by omega) (by omega) hW hR hl.next hst (fun j hj => ?_)
      rw [hx j hj]
      by_cases e : j = i
      · rw [e, hb]; simp
      · have : decide (i ≤ j) = decide (i + 1 ≤ j) := by apply decide_eq_decide.mpr; omega
        rw [this]
    · obtain ⟨f, rfl⟩ : ∃ g, f = g + 1 := ⟨f - 1, by omega⟩
      have hin : i < n := hA i hb
      have hi14 : i < 14 := by omega
      have hbx : bt x i = true := by rw [hx i (by omega), hb]; simp
      have hne : x ≠ 0 := fun h => by rw [h, b_0] at hbx; cases hbx
      have hx' : ∀ j, j < 32 → bt (x &&& ((1 <<< (nI i &&& 31)) ^^^ (-1))) j = (decide (i + 1 ≤ j) && A j) := fun j hj => by
        rw [b_and, z_not _ hj, show (1 : Int32) <<< (nI i &&& 31) = zb i from rfl, zb_bt i (by omega) j hj, hx j hj]
        by_cases e : j = i
        · rw [e, decide_eq_false (show ¬ i + 1 ≤ i by omega)]; simp
        · have h1 : decide (i ≤ j) = decide (i + 1 ≤ j) := by apply decide_eq_decide.mpr; omega
          have h2 : decide (i = j) = false := decide_eq_false (fun z => e z.symm)
          rw [h1, h2]; simp
      show ∃ v M', r5_spreads_F (r5_spreads f) M x = some (v, M') ∧ _
      unfold r5_spreads_F
      rw [if_neg hne, r5_lowest_z (show i < 32 by omega) hbx (fun j hj => by rw [hx j (by omega), decide_eq_false (by omega)]; rfl)]
      unfold pan
      rw [hb]
      simp only [if_true, zs_1, zs_b, zs_1, zs_2, zs_3]
      refine zi2k (F := r5_spreads_b13 (r5_spreads f) x (nI i)) (a0 := M) 60 (fun k a => RB (a 1) T n ∧ FK S0 M a ∧ zlo (pstep (pan A b d (i + 1)) T b i) () k = .inl ()) (fun r => match zlo (pstep (pan A b d (i + 1)) T b i) () 60 with | .inl _ => ∃ a, r = .inl a ∧ RB (a 1) T n ∧ FK S0 M a | .inr T' => ∃ a, r = .inr (1, a) ∧ RB (a 1) T' n ∧ FK S0 M a) (by decide) (fun r h1 h2 => ?_) ⟨hR, FK.refl _ _, rfl⟩ (fun k a hk hI => ?_) (fun a hI => ⟨.inl a, ?_, by rw [hI.2.2]; exact ⟨a, rfl, hI.1, hI.2.1⟩⟩)
      · rw [h1]
        unfold pfirst
        cases hz : zlo (pstep (pan A b d (i + 1)) T b i) () 60 with
        | inl u =>
          rw [hz] at h2
          obtain ⟨a, rfl, h3, h4⟩ := h2
          exact ⟨0, a, rfl, h4, rfl, h3⟩
        | inr T' =>
          rw [hz] at h2
          obtain ⟨a, rfl, h3, h4⟩ := h2
          exact ⟨1, a, rfl, h4, rfl, h3⟩
      · obtain ⟨hRa, hF, hz⟩ := hI
        unfold r5_spreads_b13
        rw [if_neg (show ¬ (60 : Int32) ≤ nI k from nI_ge hk (by decide)), z_rd (show i < 14 by omega) (by decide)]
        simp only [zs_b, zs_1, zs_2, zs_3, zs_1, r5_obstacleOf_z hW hRa hin hk, r5_lays_z a hi14, zs_2]
        rw [show a 14 i = b i from (congrFun (hF.1 14 (by decide) rfl) i).trans (hst i hb)]
        by_cases c1 : nI k = b i
        · left
          refine ⟨a, by rw [if_pos c1], hRa, hF, ?_⟩
          rw [zlo_s hz]; unfold pstep; rw [if_pos c1]
        · rw [if_neg c1]
          by_cases c2 : obs T i k = 0
          · rw [if_pos c2]
            obtain ⟨v, M', q1, q2, q3⟩ := ih f (i + 1) (mv T i k) (ly a i (nI k)) _ (by omega) (by omega) (hW.mvW hin hk) (hRa.mvW hn hi14) hl.mvW (fun j hj => by rw [lyn _ _ _ (by decide)]; exact (congrFun (hF.1 14 (by decide) rfl) j).trans (hst j hj)) hx'
            rw [q1]
            have q2' : FK S0 M M' := hF.trans ((FK.ly hi14).trans q2)
            cases hp : pan A b d (i + 1) (mv T i k) with
            | none =>
              rw [hp] at q3
              obtain ⟨rfl, q4⟩ := q3
              left
              refine ⟨ly M' i (-1), ?_, ?_, q2'.trans (FK.ly hi14), ?_⟩
              · simp only [zs_b, zs_1, zs_2, zs_3, if_true]
                rw [r5_lays_z _ hi14]; rfl
              · have := q4.lfW hn hi14
                obtain ⟨l1, l2⟩ := hl i (Nat.le_refl i) hb
                rw [lf_mv l1 l2] at this; exact this
              · rw [zlo_s hz]; unfold pstep; rw [if_neg c1, if_pos c2, hp]
            | some T' =>
              rw [hp] at q3
              obtain ⟨rfl, q4⟩ := q3
              right
              refine ⟨.inr (1, M'), ?_, ?_⟩
              · simp only [zs_b, zs_1, zs_2, zs_3]
                rw [if_neg (show ¬ (1 : Int32) = 0 by decide)]
              · have : zlo (pstep (pan A b d (i + 1)) T b i) () (k + 1) = .inr T' := by rw [zlo_s hz]; unfold pstep; rw [if_neg c1, if_pos c2, hp]
                rw [zlo_stay this (by omega)]
                exact ⟨M', rfl, q4, q2'⟩
          · left
            rw [if_neg c2]
            refine ⟨a, rfl, hRa, hF, ?_⟩
            rw [zlo_s hz]; unfold pstep; rw [if_neg c1, if_neg c2]
      · unfold r5_spreads_b13
        rw [if_pos (show (60 : Int32) ≤ nI 60 by decide)]
/-! what blocks with fewer events placed blocks with more -/
theorem obs0 {T : OS} {e p : Nat} : obs T e p = 0 ↔ uns T e p = 0 ∧ ∀ o, o < 14 → h5 T e p o = false ∧ h6 T e p o = false ∧ h7 T e p o = false := by
  unfold obs
  constructor
  · intro h
    by_cases hu : uns T e p = 0
    · rw [if_pos hu] at h
      refine ⟨hu, fun o ho => ?_⟩
      unfold obB at h
      split at h
      · exact absurd h (by decide)
      · next c5 =>
        split at h
        · exact absurd h (by decide)
        · next c6 =>
          split at h
          · exact absurd h (by decide)
          · next c7 =>
            refine ⟨?_, ?_, ?_⟩
            · exact Bool.eq_false_iff.mpr fun z => c5 (zan_iff.mpr ⟨o, ho, z⟩)
            · exact Bool.eq_false_iff.mpr fun z => c6 (zan_iff.mpr ⟨o, ho, z⟩)
            · exact Bool.eq_false_iff.mpr fun z => c7 (zan_iff.mpr ⟨o, ho, z⟩)
    · rw [if_neg hu] at h; exact absurd h hu
  · rintro ⟨hu, h⟩
    rw [if_pos hu]
    unfold obB
    rw [if_neg (fun z => by obtain ⟨o, ho, z⟩ := zan_iff.mp z; rw [(h o ho).1] at z; cases z), if_neg (fun z => by obtain ⟨o, ho, z⟩ := zan_iff.mp z; rw [(h o ho).2.1] at z; cases z), if_neg (fun z => by obtain ⟨o, ho, z⟩ := zan_iff.mp z; rw [(h o ho).2.2] at z; cases z)]
theorem uns_mv (T : OS) (j q e p : Nat) : uns (mv T j q) e p = uns T e p := by
  unfold uns te szS
  simp only [mvn T j q (show (8 : Nat) ≠ 9 by decide) (by decide), mvn T j q (show (5 : Nat) ≠ 9 by decide) (by decide), mvn T j q (show (3 : Nat) ≠ 9 by decide) (by decide), mvn T j q (show (2 : Nat) ≠ 9 by decide) (by decide), mvn T j q (show (6 : Nat) ≠ 9 by decide) (by decide), mvn T j q (show (0 : Nat) ≠ 9 by decide) (by decide), mvn T j q (show (7 : Nat) ≠ 9 by decide) (by decide), mvn T j q (show (1 : Nat) ≠ 9 by decide) (by decide)]
theorem obs_mono {T : OS} {j q o p : Nat} (hj : T 10 j = 0) (h : obs (mv T j q) o p = 0) : obs T o p = 0 := by
  obtain ⟨h1, h2⟩ := obs0.mp h
  rw [uns_mv] at h1
  refine obs0.mpr ⟨h1, fun k hk => ?_⟩
  by_cases e : k = j
  · have : mee T o p k = false := by unfold mee; rw [e, hj, z0and]; simp
    unfold h5 h6 h7
    rw [this]; exact ⟨rfl, rfl, rfl⟩
  · have := h2 k hk
    unfold h5 h6 h7 mee at this
    rw [mv9, mv10, upd_n e, upd_n e, mvn T j q (show (8 : Nat) ≠ 9 by decide) (by decide), mvn T j q (show (5 : Nat) ≠ 9 by decide) (by decide), mvn T j q (show (6 : Nat) ≠ 9 by decide) (by decide)] at this
    exact this
theorem pan_none {A : Nat → Bool} {b : Nat → Int32} {o : Nat} (ho : A o = true) (ho14 : o < 14) : ∀ {d i : Nat} {T : OS}, i + d = 14 → i ≤ o → lifted A T i → (∀ p, p < 60 → obs T o p ≠ 0) → pan A b d i T = none
  | 0, i, T, hi, hio, _, _ => by omega
  | d + 1, i, T, hi, hio, hl, hno => by
    unfold pan
    have hz : A i = true → zlo (pstep (pan A b d (i + 1)) T b i) () 60 = .inl () := fun hAi => by
      cases h : zlo (pstep (pan A b d (i + 1)) T b i) () 60 with
      | inl u => rfl
      | inr r =>
        exfalso
        refine zlo_inv (Q := fun _ => False) (N := 60) (fun p u r hp hst => ?_) (Nat.le_refl 60) h
        unfold pstep at hst
        split at hst
        · cases hst
        · split at hst
          · next c2 =>
            by_cases e : o = i
            · subst e; exact hno p hp c2
            · rw [pan_none ho ho14 (by omega) (by omega) hl.mvW (fun q hq z => hno q hq (obs_mono (hl i (Nat.le_refl i) hAi).2 z))] at hst
              cases hst
          · cases hst
    split
    · next hAi => rw [hz hAi]; rfl
    · next hAi =>
      have e : ¬ o = i := fun z => hAi (by rw [← z]; exact ho)
      exact pan_none ho ho14 (by omega) (by omega) hl.next hno
