/-! THE PURE LAYER: the invariant, and what every call begins with -/
def SV (B : OS) (E : Nat → OS) (M : OS) : Prop := B 5 0 = M 3 0 ∧ (B 5 0 = 0 ∨ (B 5 0 = 1 ∧ ∃ m, WF (E 7) m ∧ RB (fun i => M 1 (126 * 7 + i)) (E 7) m))
def CI (Y : OS) (E : Nat → OS) (B X M : OS) : Prop := ∃ c nx u, HI Y E M c nx ∧ SV B E M ∧ TX X M u
def KP (M M' : OS) : Prop := (∀ k, 126 ≤ k → M' 1 k = M 1 k) ∧ M' 2 0 = M 2 0 ∧ M' 3 0 = M 3 0 ∧ M' 4 = M 4 ∧ M' 5 0 = M 5 0 ∧ M' 7 0 = M 7 0
theorem KP.refl (M : OS) : KP M M := ⟨fun _ _ => rfl, rfl, rfl, rfl, rfl, rfl⟩
theorem KP.trans {M M' M'' : OS} (h : KP M M') (h' : KP M' M'') : KP M M'' := ⟨fun k hk => (h'.1 k hk).trans (h.1 k hk), h'.2.1.trans h.2.1, h'.2.2.1.trans h.2.2.1, h'.2.2.2.1.trans h.2.2.2.1, h'.2.2.2.2.1.trans h.2.2.2.2.1, h'.2.2.2.2.2.trans h.2.2.2.2.2⟩
theorem KP.of {M M' : OS} {S : Nat → Bool} (h : FK S M M') (h2 : S 2 = false) (h3 : S 3 = false) (h4 : S 4 = false) (h5 : S 5 = false) (h7 : S 7 = false) : KP M M' := ⟨h.2, by rw [h.1 2 (by decide) h2], by rw [h.1 3 (by decide) h3], h.1 4 (by decide) h4, by rw [h.1 5 (by decide) h5], by rw [h.1 7 (by decide) h7]⟩
theorem KP.of0 {M M' : OS} (h : FK S0 M M') : KP M M' := KP.of h rfl rfl rfl rfl rfl
theorem KP.put (M : OS) {r : Nat} (v : Int32) (h1 : r ≠ 1) (h2 : r ≠ 2) (h3 : r ≠ 3) (h4 : r ≠ 4) (h5 : r ≠ 5) (h7 : r ≠ 7) : KP M (us M r v) := ⟨fun k _ => by rw [us_n _ _ _ h1.symm], by rw [us_n _ _ _ h2.symm], by rw [us_n _ _ _ h3.symm], by rw [us_n _ _ _ h4.symm], by rw [us_n _ _ _ h5.symm], by rw [us_n _ _ _ h7.symm]⟩
theorem KP.z (M : OS) (v : Int32) : KP M (us M 0 v) := KP.put M v (by decide) (by decide) (by decide) (by decide) (by decide) (by decide)
theorem CI.kp {Y : OS} {E : Nat → OS} {B X M M' : OS} (h : CI Y E B X M) (k : KP M M') : CI Y E B X M' := by
  obtain ⟨c, nx, u, h1, h2, h3⟩ := h
  obtain ⟨k1, k2, k3, k4, k5, k7⟩ := k
  refine ⟨c, nx, u, ⟨h1.1, h1.2.1, h1.2.2.1, k2.trans h1.2.2.2.1, h1.2.2.2.2.1, fun q q1 q2 => ?_⟩, ⟨h2.1.trans k3.symm, ?_⟩, ⟨h3.1, h3.2.1, k5.trans h3.2.2.1, fun i hi => ?_, h3.2.2.2.2.trans k7.symm⟩⟩
  · obtain ⟨m, w1, w2⟩ := h1.2.2.2.2.2 q q1 q2
    exact ⟨m, w1, w2.fn w1.le (fun i hi => k1 _ (by omega))⟩
  · rcases h2.2 with h | ⟨h, m, w1, w2⟩
    · exact Or.inl h
    · exact Or.inr ⟨h, m, w1, w2.fn w1.le (fun i hi => k1 _ (by omega))⟩
  · rw [k4]; exact h3.2.2.2.1 i hi
/-- a change kept, in both -/
theorem keepC {T Y : OS} {E : Nat → OS} {B X M : OS} {n : Nat} (hW : WF T n) (hR : RB (M 1) T n) (hC : CI Y E B X M) : ∃ Y' E' M', r1_keep T Y E = some (Y', E') ∧ r5_keeps M = some M' ∧ CI Y' E' B X M' ∧ RB (M' 1) T n ∧ (∀ r, r ≠ 1 → r ≠ 2 → M' r = M r) := by
  obtain ⟨c, nx, u, h1, h2, h3⟩ := hC
  obtain ⟨Y', E', M', c', nx', k1, k2, k3, k4, k5, k6⟩ := keep_z hW hR h1
  refine ⟨Y', E', M', k1, k2, ⟨c', nx', u, k3, ?_, ?_⟩, hR.fn hW.le (fun i hi => k5 i (Or.inl hi)), k4⟩
  · unfold SV
    rw [k4 3 (by decide) (by decide), k6]
    refine ⟨h2.1, ?_⟩
    rcases h2.2 with h | ⟨h, m, w1, w2⟩
    · exact Or.inl h
    · exact Or.inr ⟨h, m, w1, w2.fn w1.le (fun i hi => k5 _ (by omega))⟩
  · unfold TX
    rw [k4 5 (by decide) (by decide), k4 4 (by decide) (by decide), k4 7 (by decide) (by decide)]
    exact h3
/-- the answers agree: cd says which number an exception has -/
def agr (cd : Nat → Option Int32) (o : Nat ⊕ Int32) (v th : Int32) : Prop := match o with | .inl k => cd k = some th ∧ th ≠ 0 | .inr r => th = 0 ∧ v = r
theorem zx_l {α κ : Type} (k : Nat) (f : Nat → κ) (g : α → κ) : bx (.inl k : Nat ⊕ α) f g = f k := id rfl
theorem zx_r {α κ : Type} (a : α) (f : Nat → κ) (g : α → κ) : bx (.inr a : Nat ⊕ α) f g = g a := id rfl
theorem ix_cases (x : Int32) {b c : Nat} (hb : b < 2 ^ 31) (hc : b = c + 1) : (r4_requireIndex x (nI b) = some (.inl 0) ∧ r5_in x 0 (nI c) = some 0) ∨ ∃ j, j < b ∧ x = nI j ∧ r4_requireIndex x (nI b) = some (.inr ()) ∧ r5_in x 0 (nI c) = some 1 := by
  unfold r4_requireIndex r4_requireIndex_j9
  rw [r5_in_z]
  rcases pk_ix x hb with h | h | ⟨j, hj, rfl⟩
  · left
    rw [if_pos h, if_pos h]; exact ⟨rfl, rfl⟩
  · left
    by_cases h0 : x < 0
    · rw [if_pos h0, if_pos h0]; exact ⟨rfl, rfl⟩
    · obtain ⟨k, hk, rfl⟩ := nI_of h0
      have hbk : b ≤ k := (nI_leI hb hk).mp h
      rw [if_neg h0, if_neg h0, if_neg (nI_nlt hbk (by omega)), if_pos (nI_lt (by omega) hk)]; exact ⟨rfl, rfl⟩
  · right
    rw [if_neg (nI_pos (by omega)), if_neg (nI_pos (by omega)), if_pos (nI_lt hj hb), if_neg (nI_nlt (by omega) (by omega))]
    exact ⟨j, hj, rfl, rfl, rfl⟩
theorem ix6 (x : Int32) : (r4_requireIndex x 6 = some (.inl 0) ∧ r5_in x 0 5 = some 0) ∨ ∃ j, j < 6 ∧ x = nI j ∧ r4_requireIndex x 6 = some (.inr ()) ∧ r5_in x 0 5 = some 1 := ix_cases x (b := 6) (c := 5) (by decide) rfl
theorem ix3 (x : Int32) : (r4_requireIndex x 3 = some (.inl 0) ∧ r5_in x 0 2 = some 0) ∨ ∃ j, j < 3 ∧ x = nI j ∧ r4_requireIndex x 3 = some (.inr ()) ∧ r5_in x 0 2 = some 1 := ix_cases x (b := 3) (c := 2) (by decide) rfl
theorem ix10 (x : Int32) : (r4_requireIndex x 10 = some (.inl 0) ∧ r5_in x 0 9 = some 0) ∨ ∃ j, j < 10 ∧ x = nI j ∧ r4_requireIndex x 10 = some (.inr ()) ∧ r5_in x 0 9 = some 1 := ix_cases x (b := 10) (c := 9) (by decide) rfl
theorem ix60 (x : Int32) : (r4_requireIndex x 60 = some (.inl 0) ∧ r5_isPlace x = some 0) ∨ ∃ j, j < 60 ∧ x = nI j ∧ r4_requireIndex x 60 = some (.inr ()) ∧ r5_isPlace x = some 1 := by
  unfold r5_isPlace
  rcases ix_cases x (b := 60) (c := 59) (by decide) rfl with ⟨h1, h2⟩ | ⟨j, h1, h2, h3, h4⟩
  · left
    refine ⟨h1, ?_⟩
    rw [show r5_in x 0 59 = some 0 from h2, zs_1, z_zz0, zs_b]
  · right
    refine ⟨j, h1, h2, h3, ?_⟩
    rw [show r5_in x 0 59 = some 1 from h4, zs_1, z_zz1, zs_b]
theorem rg_cases (x lo hi : Int32) : (r4_requireRange x lo hi = some (.inl 1) ∧ r5_in x lo hi = some 0) ∨ (¬ x < lo ∧ x ≤ hi ∧ r4_requireRange x lo hi = some (.inr ()) ∧ r5_in x lo hi = some 1) := by
  unfold r4_requireRange r4_requireRange_j10
  rw [r5_in_z]
  by_cases h1 : x < lo
  · left; rw [if_pos h1, if_pos h1]; exact ⟨rfl, rfl⟩
  · rw [if_neg h1, if_neg h1]
    by_cases h2 : x ≤ hi
    · right; rw [if_pos h2, if_neg (fun z => z_nle_lt.mpr z h2)]; exact ⟨h1, h2, rfl, rfl⟩
    · left; rw [if_neg h2, if_pos (z_nle_lt.mp h2)]; exact ⟨rfl, rfl⟩
theorem ev_cases {T M : OS} {n : Nat} (hW : WF T n) (hR : RB (M 1) T n) (x : Int32) : (r4_requireEvent T x = some (.inl 0) ∧ r5_isEvent M x = some 0) ∨ ∃ e, e < n ∧ x = nI e ∧ r4_requireEvent T x = some (.inr ()) ∧ r5_isEvent M x = some 1 := by
  have hn := hW.le
  unfold r4_requireEvent r3_hasEvent r5_isEvent
  rw [hW.2.1, zmany hR, zs_1, r5_in_z, zs_1]
  rcases pk_ix x (show n < 2 ^ 31 by omega) with h | h | ⟨j, hj, rfl⟩
  · left
    rw [if_pos h, if_pos h, zs_1, if_pos rfl, z_zz0, zs_b]; exact ⟨rfl, rfl⟩
  · left
    by_cases h0 : x < 0
    · rw [if_pos h0, if_pos h0, zs_1, if_pos rfl, z_zz0, zs_b]; exact ⟨rfl, rfl⟩
    · obtain ⟨k, hk, rfl⟩ := nI_of h0
      have hbk : n ≤ k := (nI_leI (by omega) hk).mp h
      have hlt : nI n - 1 < nI k := by
        by_cases hz : n = 0
        · rw [hz, Int32.lt_iff_toInt_lt, nI_toInt hk, show (nI 0 - 1 : Int32).toInt = -1 from by decide]; omega
        · obtain ⟨q, rfl⟩ : ∃ q, n = q + 1 := ⟨n - 1, by omega⟩
          rw [nI_pred]; exact nI_lt (by omega) hk
      rw [if_neg h0, if_neg h0, if_pos hlt, z_zz0, zs_b]
      refine ⟨?_, rfl⟩
      by_cases h14 : (14 : Int32) ≤ nI k
      · rw [if_pos h14, zs_1, if_pos rfl]
      · rw [if_neg h14, if_pos h, zs_1, if_pos rfl]
  · right
    obtain ⟨q, rfl⟩ : ∃ q, n = q + 1 := ⟨n - 1, by omega⟩
    rw [nI_pred, if_neg (nI_pos (by omega)), if_neg (nI_pos (by omega)), if_neg (nI_nlt (by omega) (by omega)), if_neg (show ¬ (14 : Int32) ≤ nI j from nI_ge (b := 14) (by omega) (by decide)), if_neg (nI_ge hj (by omega)), zs_1, if_neg (show ¬ (1 : Int32) = 0 by decide), z_zz1, zs_b]
    exact ⟨j, hj, rfl, rfl, rfl⟩
/-! settings -/
theorem WF.rows {T T' : OS} {n : Nat} (h : WF T n) (hr : ∀ r, 5 ≤ r → T' r = T r) : WF T' n := by
  obtain ⟨h1, h2, h3, h4, h5, h6⟩ := h
  unfold WF
  rw [hr 13 (by decide), hr 5 (by decide), hr 6 (by decide), hr 7 (by decide), hr 8 (by decide), hr 9 (by decide), hr 10 (by decide), hr 11 (by decide), hr 12 (by decide)]
  exact ⟨h1, h2, h3, h4, h5, h6⟩
theorem RB.sett {f : Nat → Int32} {T T' : OS} {n a r j : Nat} {x : Int32} (h : RB f T n) (ha : (a = 6 * r ∧ r < 4 ∧ j < 6) ∨ (a = 24 ∧ r = 4 ∧ j < 3)) (hr : T' r = upd (T r) j x) (hq : ∀ q, q ≠ r → T' q = T q) : RB (upd f (a + j) x) T' n := by
  obtain ⟨h1, h2, h3, h4⟩ := h
  have hc : ∀ (b q i : Nat), ((b = 6 * q ∧ q < 4 ∧ i < 6) ∨ (b = 24 ∧ q = 4 ∧ i < 3)) → f (b + i) = T q i → upd f (a + j) x (b + i) = T' q i := fun b q i hb hf => by
    by_cases e : q = r
    · rw [e, hr]
      by_cases e2 : i = j
      · rw [e2, upd_s, show b + j = a + j by omega, upd_s]
      · rw [upd_n e2, upd_n (by omega), hf, e]
    · rw [upd_n (by omega), hf, hq q e]
  refine ⟨fun i hi => ?_, fun i hi => hc 24 4 i (by omega) (h2 i hi), by rw [upd_n (by omega)]; exact h3, fun i hi => ?_⟩
  · have := h1 i hi
    refine ⟨?_, hc 6 1 i (by omega) this.2.1, hc 12 2 i (by omega) this.2.2.1, hc 18 3 i (by omega) this.2.2.2⟩
    have h0 := hc 0 0 i (by omega) (by rw [Nat.zero_add]; exact this.1)
    rw [Nat.zero_add] at h0; exact h0
  · rw [hq 5 (by omega), hq 6 (by omega), hq 7 (by omega), hq 8 (by omega), hq 9 (by omega), hq 12 (by omega), hq 11 (by omega)]
    rw [upd_n (by omega), upd_n (by omega), upd_n (by omega), upd_n (by omega), upd_n (by omega), upd_n (by omega), upd_n (by omega)]
    exact h4 i hi
/-- what stands behind a call -/
def Res (B X T' Y' : OS) (E' : Nat → OS) (M' : OS) : Prop := (∃ n, WF T' n ∧ RB (M' 1) T' n) ∧ CI Y' E' B X M'
def cdA : Nat → Option Int32 := fun k => if k = 0 then some 1 else if k = 1 then some 2 else none
section C1
variable {T Y B X M : OS} {E : Nat → OS} {n : Nat}
theorem RB.z (hR : RB (M 1) T n) (v : Int32) : RB (us M 0 v 1) T n := by rw [us_n _ _ _ (by decide)]; exact hR
theorem ca_setRoom (hW : WF T n) (hR : RB (M 1) T n) (hC : CI Y E B X M) (a b c : Int32) : ∃ o T' Y' E' v M', r4_setRoom T Y E a b c = some (o, T', Y', E') ∧ r5_setRoom M a b c = some (v, M') ∧ agr cdA o v (M' 0 0) ∧ Res B X T' Y' E' M' := by
  have bad : ∀ (k : Nat) (th : Int32), th ≠ 0 → cdA k = some th → ∃ M', r5_setRoom_j39 M a b c th = some (0, M') ∧ agr cdA (.inl k) 0 (M' 0 0) ∧ Res B X T Y E M' := fun k th h0 hk => by
    refine ⟨us M 0 th, ?_, ?_, ⟨n, hW, hR.z _⟩, hC.kp (KP.z M th)⟩
    · unfold r5_setRoom_j39 sw
      rw [zs_b, us_s, if_neg h0]
    · rw [us_s]; exact ⟨hk, h0⟩
  unfold r4_setRoom r5_setRoom
  rcases ix6 a with ⟨h1, h2⟩ | ⟨j, hj, rfl, h1, h2⟩
  · obtain ⟨M', m1, m2, m3⟩ := bad 0 1 (by decide) rfl
    rw [h1, zs_1, zx_l, h2, zs_1, if_pos rfl, m1]
    exact ⟨_, _, _, _, _, _, rfl, rfl, m2, m3⟩
  · rw [h1, zs_1, zx_r, h2, zs_1, if_neg (show ¬ (1 : Int32) = 0 by decide)]
    rcases rg_cases b 0 99 with ⟨h3, h4⟩ | ⟨_, _, h3, h4⟩
    · obtain ⟨M', m1, m2, m3⟩ := bad 1 2 (by decide) rfl
      rw [h3, zs_1, zx_l, h4, zs_1, if_pos rfl, m1]
      exact ⟨_, _, _, _, _, _, rfl, rfl, m2, m3⟩
    · rw [h3, zs_1, zx_r, h4, zs_1, if_neg (show ¬ (1 : Int32) = 0 by decide)]
      rcases rg_cases c 0 15 with ⟨h5, h6⟩ | ⟨_, _, h5, h6⟩
      · obtain ⟨M', m1, m2, m3⟩ := bad 1 2 (by decide) rfl
        rw [h5, zs_1, zx_l, h6, zs_1, if_pos rfl, m1]
        exact ⟨_, _, _, _, _, _, rfl, rfl, m2, m3⟩
      · rw [h5, zs_1, zx_r, h6, zs_1, if_neg (show ¬ (1 : Int32) = 0 by decide)]
        obtain ⟨Y', E', M1, k1, k2, k3, k4, k5⟩ := keepC hW (hR.z 0) (hC.kp (KP.z M 0))
        unfold r5_setRoom_j39 sw
        rw [k1, zs_2, z_wr hj (by decide), zs_b, z_wr hj (by decide), zs_b, zs_b, us_s, if_pos rfl, k2, zs_1, show (0 : Int32) = nI 0 from rfl, nI_add, z_wr (show 0 + j < 1008 by omega) (by decide), zs_b, show (6 : Int32) = nI 6 from rfl, nI_add, z_wr (show 6 + j < 1008 by omega) (by decide), zs_b]
        have hW2 : WF (upr (upr T 0 (upd (T 0) j b)) 1 (upd (upr T 0 (upd (T 0) j b) 1) j c)) n := hW.rows (fun r hr => by rw [upr_n _ _ _ (by omega), upr_n _ _ _ (by omega)])
        have hR1 : RB (upd (M1 1) (0 + j) b) (upr T 0 (upd (T 0) j b)) n := k4.sett (r := 0) (by omega) (upr_s _ _ _) (fun q hq => upr_n _ _ _ hq)
        have hR2 : RB (upd (upd (M1 1) (0 + j) b) (6 + j) c) (upr (upr T 0 (upd (T 0) j b)) 1 (upd (upr T 0 (upd (T 0) j b) 1) j c)) n := hR1.sett (r := 1) (by omega) (upr_s _ _ _) (fun q hq => upr_n _ _ _ hq)
        have e2 : upr (upr M1 1 (upd (M1 1) (0 + j) b)) 1 (upd (upr M1 1 (upd (M1 1) (0 + j) b) 1) (6 + j) c) 1 = upd (upd (M1 1) (0 + j) b) (6 + j) c := by rw [upr_s, upr_s]
        obtain ⟨M2, c1, c2, c3⟩ := r5_clears_z (M := upr (upr M1 1 (upd (M1 1) (0 + j) b)) 1 (upd (upr M1 1 (upd (M1 1) (0 + j) b) 1) (6 + j) c)) hW2 (by rw [e2]; exact hR2)
        rw [r3_unplaceUnsuitable_z hW2, zs_2, c1, zs_2]
        have kp : KP M1 M2 := by
          refine KP.trans ⟨fun k hk => ?_, ?_, ?_, ?_, ?_, ?_⟩ (KP.of0 c3)
          · rw [e2, upd_n (by omega), upd_n (by omega)]
          · rw [upr_n _ _ _ (by decide), upr_n _ _ _ (by decide)]
          · rw [upr_n _ _ _ (by decide), upr_n _ _ _ (by decide)]
          · rw [upr_n _ _ _ (by decide), upr_n _ _ _ (by decide)]
          · rw [upr_n _ _ _ (by decide), upr_n _ _ _ (by decide)]
          · rw [upr_n _ _ _ (by decide), upr_n _ _ _ (by decide)]
        refine ⟨_, _, _, _, _, _, rfl, rfl, ⟨?_, rfl⟩, ⟨n, clF_WF hW2 n, c2⟩, k3.kp kp⟩
        rw [c3.1 0 (by decide) rfl, upr_n _ _ _ (by decide), upr_n _ _ _ (by decide), k5 0 (by decide) (by decide), us_s]
end C1
