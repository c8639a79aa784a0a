/-! THE PURE LAYER: building, in the order of the ranks -/
theorem pan_keep {A : Nat → Bool} {b : Nat → Int32} : ∀ {d i : Nat} {T T' : OS}, pan A b d i T = some T' → (∀ r, r ≠ 9 → r ≠ 10 → T' r = T r) ∧ (∀ j, (j < i ∨ A j = false) → T' 9 j = T 9 j) ∧ ∀ j, i ≤ j → j < i + d → A j = true → plc T' j = true
  | 0, i, T, T', h => by cases h; exact ⟨fun _ _ _ => rfl, fun _ _ => rfl, fun j h1 h2 => by omega⟩
  | d + 1, i, T, T', h => by
    unfold pan at h
    split at h
    · next hi =>
      have : ∀ r, zlo (pstep (pan A b d (i + 1)) T b i) () 60 = .inr r → (∀ q, q ≠ 9 → q ≠ 10 → r q = T q) ∧ (∀ j, (j < i ∨ A j = false) → r 9 j = T 9 j) ∧ ∀ j, i ≤ j → j < i + (d + 1) → A j = true → plc r j = true := fun r hr => by
        refine zlo_inv (N := 60) (Q := fun r => (∀ q, q ≠ 9 → q ≠ 10 → r q = T q) ∧ (∀ j, (j < i ∨ A j = false) → r 9 j = T 9 j) ∧ ∀ j, i ≤ j → j < i + (d + 1) → A j = true → plc r j = true) (fun p _ r hp hst => ?_) (Nat.le_refl 60) hr
        unfold pstep at hst
        split at hst
        · cases hst
        · split at hst
          · split at hst
            · next T1 hT1 =>
              cases hst
              obtain ⟨q1, q2, q3⟩ := pan_keep hT1
              refine ⟨fun q a9 a10 => (q1 q a9 a10).trans (mvn _ _ _ a9 a10), fun j hj => ?_, fun j h1 h2 hA => ?_⟩
              · have hji : j ≠ i := by rintro rfl; rcases hj with h | h; omega; rw [hi] at h; cases h
                rw [q2 j (by rcases hj with h | h; left; omega; right; exact h), mv9, upd_n hji]
              · by_cases e : j = i
                · have := q2 j (by left; omega)
                  unfold plc
                  rw [this, mv9, e, upd_s, decide_eq_false (z_nm1 (by omega))]; rfl
                · exact q3 j (by omega) (by omega) hA
            · cases hst
          · cases hst
      unfold pfirst at h
      split at h
      · next T1 hT1 => cases h; exact this _ hT1
      · cases h
    · next hi =>
      obtain ⟨q1, q2, q3⟩ := pan_keep h
      refine ⟨q1, fun j hj => q2 j (by rcases hj with h | h; left; omega; right; exact h), fun j h1 h2 hA => ?_⟩
      by_cases e : j = i
      · rw [e] at hA; exact absurd hA hi
      · exact q3 j (by omega) (by omega) hA
theorem insA_keep {T T' : OS} {n e m p : Nat} (hW : WF T n) (he : e < n) (hp : p < 60) (h : insA T e m p = some T') : (∀ r, r ≠ 9 → r ≠ 10 → T' r = T r) ∧ plc T' e = true ∧ ∀ j, j < 14 → j ≠ e → plc T' j = plc T j := by
  unfold insA at h
  split at h
  · split at h
    · split at h
      · cases h
      · obtain ⟨q1, q2, q3⟩ := pan_keep h
        obtain ⟨l1, l2⟩ := lfs_row (bt (hin T e p)) T 14
        refine ⟨fun r a9 a10 => (q1 r a9 a10).trans ((mvn _ _ _ a9 a10).trans (l1 r a9 a10)), ?_, fun j hj hje => ?_⟩
        · have hAe : bt (hin T e p) e = false := by
            cases hb : bt (hin T e p) e
            · rfl
            · exact absurd rfl (hin_in hW hb).2.1
          unfold plc
          rw [q2 e (Or.inr hAe), mv9, upd_s, decide_eq_false (z_nm1 (by omega))]; rfl
        · cases hb : bt (hin T e p) j
          · unfold plc
            rw [q2 j (Or.inr hb), mv9, upd_n hje, (l2 j).1, hb]; rfl
          · rw [q3 j (Nat.zero_le j) (by omega) hb]
            rcases hW.plW hj with ⟨c1, _⟩ | ⟨_, _, _, _, c1⟩
            · have := (hin_in hW hb).2.2
              rcases hW.2.2.2.1 j hj with ⟨_, c2⟩ | ⟨q, hq, c2, _⟩
              · exact absurd c2 this
              · rw [c1] at c2; exact absurd c2.symm (z_nm1 (by omega))
            · exact c1.symm
    · cases h
  · cases h
theorem insS_keep {T T' : OS} {n e m : Nat} (hW : WF T n) (he : e < n) (h : insS T e = .inr (m, T')) : (∀ r, r ≠ 9 → r ≠ 10 → T' r = T r) ∧ plc T' e = true ∧ ∀ j, j < 14 → j ≠ e → plc T' j = plc T j := by
  refine zlo_inv (N := 3) (Q := fun z => (∀ r, r ≠ 9 → r ≠ 10 → z.2 r = T r) ∧ plc z.2 e = true ∧ ∀ j, j < 14 → j ≠ e → plc z.2 j = plc T j) (fun k u r hk hst => ?_) (Nat.le_refl 3) h
  unfold jstep at hst
  split at hst
  · next T1 hT1 =>
    cases hst
    refine zlo_inv (N := 60) (Q := fun z => (∀ r, r ≠ 9 → r ≠ 10 → z r = T r) ∧ plc z e = true ∧ ∀ j, j < 14 → j ≠ e → plc z j = plc T j) (fun p u r hp hst => ?_) (Nat.le_refl 60) hT1
    unfold istep at hst
    split at hst
    · next T2 hT2 => cases hst; exact insA_keep hW he hp hT2
    · cases hst
  · cases hst
def suN (T : OS) (e : Nat) : Nat := zct (fun p => decide (uns T e p = 0)) 60
def bcN (T : OS) (e : Nat) : Nat := zct (bt (T 6 e)) 14
def ky (T : OS) (e : Nat) : Nat := 7 * suN T e + 7 - bcN T e
def ahd (T : OS) (a b : Nat) : Prop := ky T a < ky T b ∨ (ky T a = ky T b ∧ a < b)
theorem bt_g : ∀ g, g < 64 → ∀ i, i < 32 → 6 ≤ i → bt (nI g) i = false := by decide +kernel
theorem bcN_le {T : OS} {n e : Nat} (hW : WF T n) (he : e < n) : bcN T e ≤ 6 := by
  obtain ⟨g, hg, h⟩ := (hW.2.2.1 e he).2.1
  unfold bcN
  rw [h, zct_ext (n := 6) (m := 14) (by decide) (fun i h1 h2 => bt_g g hg i (by omega) h1)]
  exact zct_le _ 6
theorem bt_grp {T : OS} {n e : Nat} (hW : WF T n) (he : e < n) {i : Nat} (hi : 6 ≤ i) (hi2 : i < 32) : bt (T 6 e) i = false := by
  obtain ⟨g, hg, h⟩ := (hW.2.2.1 e he).2.1
  rw [h]; exact bt_g g hg i hi2 hi
theorem r3_suitablePlaces_z {T : OS} {n e : Nat} (hW : WF T n) (he : e < n) : r3_suitablePlaces T (nI e) = some (nI (suN T e)) := by
  unfold r3_suitablePlaces
  rw [zf2 60 (fun a p => if decide (uns T e p = 0) then a + 1 else a) (by decide) (fun i hi a => ?_) (fun a => ?_)]
  · rw [zfo_ct]; rfl
  · unfold r3_suitablePlaces_b4
    rw [if_neg (show ¬ (60 : Int32) ≤ nI i from nI_ge hi (by decide)), r3_unsuitableAt_z hW he hi]
    simp only [zs_1, zs_b, zs_1, zs_2, zs_3, decide_eq_true_eq]
    split <;> rfl
  · unfold r3_suitablePlaces_b4
    rw [if_pos (show (60 : Int32) ≤ nI 60 by decide)]
theorem r5_suitables_z {M T : OS} {n e : Nat} (hW : WF T n) (hR : RB (M 1) T n) (he : e < n) : r5_suitables M (nI e) = some (nI (suN T e)) := by
  unfold r5_suitables
  rw [zf2 60 (fun a p => if decide (uns T e p = 0) then a + 1 else a) (by decide) (fun i hi a => ?_) (fun a => ?_)]
  · rw [zfo_ct]; rfl
  · unfold r5_suitables_b4
    rw [if_neg (show ¬ (60 : Int32) ≤ nI i from nI_ge hi (by decide)), r5_isSuitable_z hW hR he hi]
    simp only [zs_1, zs_b, zs_1, zs_2, zs_3, decide_eq_true_eq, Int32.add_zero]
    by_cases h : uns T e i = 0 <;> simp [h]
  · unfold r5_suitables_b4
    rw [if_pos (show (60 : Int32) ≤ nI 60 by decide)]
def rkI (T : OS) (e : Nat) : Int32 := nI (suN T e) * 7 - nI (bcN T e)
theorem suN_le (T : OS) (e : Nat) : suN T e ≤ 60 := zct_le _ 60
theorem rkI_toInt {T : OS} {n e : Nat} (hW : WF T n) (he : e < n) : (rkI T e).toInt = (ky T e : Int) - 7 := by
  have h1 := suN_le T e
  have h2 := bcN_le hW he
  unfold rkI
  rw [show (7 : Int32) = nI 7 from rfl, pk_mul, pk_sub_toInt (by omega) (by omega)]
  unfold ky
  omega
theorem r2_rankOf_z {T : OS} {n e : Nat} (hW : WF T n) (he : e < n) : r2_rankOf T (nI e) = some (rkI T e) := by
  have hn := hW.le
  unfold r2_rankOf
  rw [r3_suitablePlaces_z hW he, z_rd (show e < 14 by omega) (by decide)]
  simp only [zs_1, zs_b, zs_1, zs_2, zs_3]
  rw [z_bc (fun i h1 h2 => bt_grp hW he (by omega) h2)]
  rfl
theorem r3_hasEvent_z {T : OS} {n : Nat} (hW : WF T n) {e : Nat} (he : e < 14) : r3_hasEvent T (nI e) = some (if e < n then 1 else 0) := by
  have hn := hW.le
  unfold r3_hasEvent
  rw [if_neg (nI_pos (by omega)), if_neg (show ¬ (14 : Int32) ≤ nI e from nI_ge he (by decide)), hW.2.1]
  by_cases h : e < n
  · rw [if_neg (nI_ge h (by omega)), if_pos h]
  · rw [if_pos (nI_le (by omega) (by omega)), if_neg h]
/-- who waits -/
def wt (T : OS) (n e : Nat) : Bool := decide (e < n) && !plc T e
theorem r2_rankWaiting_z {T : OS} {n : Nat} (hW : WF T n) (P : OS) : ∃ P', r2_rankWaiting T P = some P' ∧ (∀ j, j < 32 → bt (P' 4 0) j = (decide (j < 14) && wt T n j)) ∧ ∀ j, j < 14 → wt T n j = true → P' 3 j = rkI T j := by
  unfold r2_rankWaiting sw
  simp only [zs_b, zs_1, zs_2, zs_3]
  refine zi2k (F := r2_rankWaiting_b7 T) (a0 := us P 4 0) 14 (fun i a => (∀ j, j < 32 → bt (a 4 0) j = (decide (j < i) && wt T n j)) ∧ ∀ j, j < i → wt T n j = true → a 3 j = rkI T j) (fun r => (∀ j, j < 32 → bt (r 4 0) j = (decide (j < 14) && wt T n j)) ∧ ∀ j, j < 14 → wt T n j = true → r 3 j = rkI T j) (by decide) (fun r h1 h2 => ?_) ⟨fun j hj => by rw [us_s, b_0]; simp, fun j hj => absurd hj (by omega)⟩ (fun i a hi hI => Or.inl ?_) (fun a hI => ⟨a, ?_, hI⟩)
  · exact ⟨r, by rw [h1]; rfl, h2⟩
  · have hskip : wt T n i = false → (∀ j, j < 32 → bt (a 4 0) j = (decide (j < i + 1) && wt T n j)) ∧ ∀ j, j < i + 1 → wt T n j = true → a 3 j = rkI T j := fun hw => by
      refine ⟨fun j hj => ?_, fun j hj hwj => ?_⟩
      · rw [hI.1 j hj]
        by_cases e : j = i
        · rw [e, hw]; simp
        · have : decide (j < i) = decide (j < i + 1) := by apply decide_eq_decide.mpr; omega
          rw [this]
      · by_cases e : j = i
        · rw [e, hw] at hwj; cases hwj
        · exact hI.2 j (by omega) hwj
    unfold r2_rankWaiting_b7
    rw [if_neg (show ¬ (14 : Int32) ≤ nI i from nI_ge hi (by decide)), r3_hasEvent_z hW hi]
    simp only [zs_1, zs_b, zs_1, zs_2, zs_3]
    by_cases hn : i < n
    · rw [if_pos hn, if_neg (show ¬ (1 : Int32) = 0 by decide), z_rd hi (by decide)]
      simp only [zs_b, zs_1, zs_2, zs_3]
      by_cases h9 : T 9 i = -1
      · rw [if_pos h9]
        unfold sw
        simp only [zs_b, zs_1, zs_2, zs_3, r2_rankOf_z hW hn, z_wr hi (show 14 < 2 ^ 31 by decide)]
        have hwi : wt T n i = true := by unfold wt plc; rw [decide_eq_true hn, h9]; rfl
        refine ⟨_, rfl, fun j hj => ?_, fun j hj hwj => ?_⟩
        · rw [upr_n _ _ _ (by decide), us_s, b_or, hI.1 j hj, show (1 : Int32) <<< (nI i &&& 31) = zb i from rfl, zb_bt i (by omega) j hj]
          by_cases e : j = i
          · rw [e, hwi]; simp
          · have h1 : decide (j < i) = decide (j < i + 1) := by apply decide_eq_decide.mpr; omega
            have h2 : decide (i = j) = false := decide_eq_false (fun z => e z.symm)
            rw [h1, h2]; simp
        · rw [upr_s, us_n _ _ _ (by decide)]
          by_cases e : j = i
          · rw [e, upd_s]
          · rw [upd_n e]; exact hI.2 j (by omega) hwj
      · rw [if_neg h9]
        exact ⟨a, rfl, hskip (by unfold wt plc; rw [decide_eq_false h9]; simp)⟩
    · rw [if_neg hn, if_pos rfl]
      exact ⟨a, rfl, hskip (by unfold wt; rw [decide_eq_false hn]; rfl)⟩
  · unfold r2_rankWaiting_b7
    rw [if_pos (show (14 : Int32) ≤ nI 14 by decide)]
/-- the first by rank among those that are left -/
theorem r2_nextByRank_z {T P : OS} {n : Nat} (hW : WF T n) {Q : Nat → Bool} (hQ : ∀ j, Q j = true → j < n) (h4 : ∀ j, j < 32 → bt (P 4 0) j = Q j) (h3 : ∀ j, Q j = true → P 3 j = rkI T j) :
    ((∀ j, Q j = false) ∧ r2_nextByRank P = some (-1, P)) ∨ ∃ f, Q f = true ∧ (∀ j, Q j = true → j ≠ f → ahd T f j) ∧ ∃ P', r2_nextByRank P = some (nI f, P') ∧ (∀ r, r ≠ 4 → P' r = P r) ∧ ∀ j, j < 32 → bt (P' 4 0) j = (Q j && !decide (j = f)) := by
  have hn := hW.le
  unfold r2_nextByRank
  refine zi2k (F := r2_nextByRank_b4 P) (a0 := (-1 : Int32)) 14 (fun i a => (a = -1 ∧ ∀ j, j < i → Q j = false) ∨ ∃ f, f < i ∧ a = nI f ∧ Q f = true ∧ ∀ j, j < i → Q j = true → j ≠ f → ahd T f j) (fun r => (r = -1 ∧ ∀ j, j < 14 → Q j = false) ∨ ∃ f, f < 14 ∧ r = nI f ∧ Q f = true ∧ ∀ j, j < 14 → Q j = true → j ≠ f → ahd T f j) (by decide) (fun r h1 h2 => ?_) (Or.inl ⟨rfl, fun j hj => absurd hj (by omega)⟩) (fun i a hi hI => Or.inl ?_) (fun a hI => ⟨a, ?_, hI⟩)
  · rw [h1]
    simp only [zs_1, zs_b, zs_1, zs_2, zs_3]
    rcases h2 with ⟨rfl, h2⟩ | ⟨f, hf, rfl, hQf, h2⟩
    · left
      refine ⟨fun j => ?_, by rw [if_pos rfl]⟩
      rcases Nat.lt_or_ge j 14 with h | h
      · exact h2 j h
      · cases hq : Q j
        · rfl
        · have := hQ j hq; omega
    · right
      refine ⟨f, hQf, fun j hj hne => h2 j (by have := hQ j hj; omega) hj hne, us P 4 ((P 4 0) &&& ((1 <<< (nI f &&& 31)) ^^^ (-1))), ?_, fun r hr => us_n _ _ _ hr, fun j hj => ?_⟩
      · rw [if_neg (z_nm1 (by omega))]; rfl
      · rw [us_s, b_and, h4 j hj, z_not _ hj, show (1 : Int32) <<< (nI f &&& 31) = zb f from rfl, zb_bt f (by omega) j hj]
        have : decide (f = j) = decide (j = f) := by apply decide_eq_decide.mpr; exact ⟨fun z => z.symm, fun z => z.symm⟩
        rw [this]
  · unfold r2_nextByRank_b4
    rw [if_neg (show ¬ (14 : Int32) ≤ nI i from nI_ge hi (by decide)), r4_contains_z _ (show i < 32 by omega), h4 i (by omega)]
    simp only [zs_1, zs_b, zs_1, zs_2, zs_3]
    cases hq : Q i
    · refine ⟨a, rfl, ?_⟩
      rcases hI with ⟨ha, h⟩ | ⟨f, hf, ha, hQf, h⟩
      · left
        refine ⟨ha, fun j hj => ?_⟩
        by_cases e : j = i
        · rw [e]; exact hq
        · exact h j (by omega)
      · right
        refine ⟨f, by omega, ha, hQf, fun j hj hQj => ?_⟩
        by_cases e : j = i
        · rw [e, hq] at hQj; cases hQj
        · exact h j (by omega) hQj
    · rw [if_pos rfl, if_neg (show ¬ (1 : Int32) = 0 by decide)]
      rcases hI with ⟨ha, h⟩ | ⟨f, hf, ha, hQf, h⟩
      · rw [if_pos ha]
        refine ⟨nI i, rfl, Or.inr ⟨i, by omega, rfl, hq, fun j hj hQj hne => ?_⟩⟩
        rw [h j (by omega)] at hQj; cases hQj
      · rw [ha, if_neg (z_nm1 (by omega)), z_rd hi (by decide), z_rd (show f < 14 by omega) (by decide), h3 i hq, h3 f hQf]
        simp only [zs_b, zs_1, zs_2, zs_3]
        have hle : (rkI T f ≤ rkI T i) = (ky T f ≤ ky T i) := by
          rw [Int32.le_iff_toInt_le, rkI_toInt hW (hQ i hq), rkI_toInt hW (hQ f hQf)]
          exact propext ⟨fun z => by omega, fun z => by omega⟩
        by_cases hc : ky T f ≤ ky T i
        · rw [if_pos (show rkI T f ≤ rkI T i by rw [hle]; exact hc)]
          refine ⟨nI f, rfl, Or.inr ⟨f, by omega, rfl, hQf, fun j hj hQj hne => ?_⟩⟩
          by_cases e : j = i
          · rw [e]; unfold ahd; omega
          · exact h j (by omega) hQj hne
        · rw [if_neg (show ¬ rkI T f ≤ rkI T i by rw [hle]; exact hc)]
          refine ⟨nI i, rfl, Or.inr ⟨i, by omega, rfl, hq, fun j hj hQj hne => ?_⟩⟩
          by_cases e : j = f
          · rw [e]; unfold ahd; omega
          · have := h j (by omega) hQj e
            unfold ahd at this ⊢; omega
  · unfold r2_nextByRank_b4
    rw [if_pos (show (14 : Int32) ≤ nI 14 by decide)]
/-- an order of those that wait -/
def ord (T : OS) (n : Nat) (w : Nat → Bool) (o : Nat → Nat) (c : Nat) : Prop := (∀ k, k < c → o k < n ∧ w (o k) = true) ∧ (∀ i j, i < j → j < c → ahd T (o i) (o j)) ∧ ∀ e, e < n → w e = true → ∃ k, k < c ∧ o k = e
theorem ahd_irr (T : OS) (a : Nat) : ¬ ahd T a a := by unfold ahd; omega
theorem ahd_tr {T : OS} {a b c : Nat} (h : ahd T a b) (h' : ahd T b c) : ahd T a c := by unfold ahd at *; omega
theorem ahd_tot {T : OS} {a b : Nat} (h : a ≠ b) : ahd T a b ∨ ahd T b a := by unfold ahd; omega
def bT (o : Nat → Nat) (T : OS) : Nat → OS
  | 0 => T
  | k + 1 => match insS (bT o T k) (o k) with
    | .inr z => z.2
    | .inl _ => bT o T k
/-- how many stay out -/
def bF (o : Nat → Nat) (T : OS) : Nat → Nat
  | 0 => 0
  | k + 1 => match insS (bT o T k) (o k) with
    | .inr _ => bF o T k
    | .inl _ => bF o T k + 1
theorem zct_set {p q : Nat → Bool} {e : Nat} : ∀ {n : Nat}, e < n → (∀ j, j < n → j ≠ e → p j = q j) → p e = true → q e = false → zct p n = zct q n + 1
  | 0, h, _, _, _ => by omega
  | n + 1, h, hj, hp, hq => by
    show zct p n + (if p n then 1 else 0) = zct q n + (if q n then 1 else 0) + 1
    by_cases e1 : e = n
    · rw [← e1, hp, hq, zct_cong (n := e) (p := p) (q := q) (fun j h => hj j (by omega) (by omega))]; rfl
    · rw [hj n (by omega) (fun z => e1 z.symm), zct_set (by omega) (fun j h1 h2 => hj j (by omega) h2) hp hq]; omega
theorem bT_inv {T : OS} {n c : Nat} {o : Nat → Nat} (hW : WF T n) (ho : ord T n (wt T n) o c) : ∀ k, k ≤ c → WF (bT o T k) n ∧ (∀ r, r ≠ 9 → r ≠ 10 → bT o T k r = T r) ∧ (∀ i, k ≤ i → i < c → plc (bT o T k) (o i) = false) ∧ zct (fun e => !plc (bT o T k) e) n + k = zct (fun e => !plc T e) n + bF o T k := by
  intro k
  induction k with
  | zero =>
    intro _
    refine ⟨hW, fun _ _ _ => rfl, fun i _ hi => ?_, rfl⟩
    have := (ho.1 i hi).2
    unfold wt at this
    rw [Bool.and_eq_true] at this
    cases h : plc T (o i)
    · exact h
    · rw [h] at this; exact absurd this.2 (by decide)
  | succ k ih =>
    intro hk
    obtain ⟨h1, h2, h3, h4⟩ := ih (by omega)
    have hkc := (ho.1 k (by omega)).1
    have hn := hW.le
    show WF (match insS (bT o T k) (o k) with | .inr z => z.2 | .inl _ => bT o T k) n ∧ (∀ r, r ≠ 9 → r ≠ 10 → (match insS (bT o T k) (o k) with | .inr z => z.2 | .inl _ => bT o T k) r = T r) ∧ (∀ i, k + 1 ≤ i → i < c → plc (match insS (bT o T k) (o k) with | .inr z => z.2 | .inl _ => bT o T k) (o i) = false) ∧ zct (fun e => !plc (match insS (bT o T k) (o k) with | .inr z => z.2 | .inl _ => bT o T k) e) n + (k + 1) = zct (fun e => !plc T e) n + (match insS (bT o T k) (o k) with | .inr _ => bF o T k | .inl _ => bF o T k + 1)
    cases hI : insS (bT o T k) (o k) with
    | inl u =>
      refine ⟨h1, h2, fun i hi hic => h3 i (by omega) hic, ?_⟩
      show zct (fun e => !plc (bT o T k) e) n + (k + 1) = zct (fun e => !plc T e) n + (bF o T k + 1)
      omega
    | inr z =>
      obtain ⟨m, T'⟩ := z
      obtain ⟨q1, q2, q3⟩ := insS_keep h1 hkc hI
      refine ⟨(insS_WF h1 hkc hI).1, fun r a9 a10 => (q1 r a9 a10).trans (h2 r a9 a10), fun i hi hic => ?_, ?_⟩
      · have hne : o i ≠ o k := fun z => by
          have := ho.2.1 k i (by omega) hic
          rw [z] at this; exact ahd_irr T _ this
        show plc T' (o i) = false
        rw [q3 (o i) (by have := (ho.1 i hic).1; omega) hne]
        exact h3 i (by omega) hic
      · have := zct_set (p := fun e => !plc (bT o T k) e) (q := fun e => !plc T' e) hkc (fun j hj hne => by show (!plc (bT o T k) j) = !plc T' j; rw [q3 j (by omega) hne]) (by show (!plc (bT o T k) (o k)) = true; rw [h3 k (Nat.le_refl k) (by omega)]; rfl) (by show (!plc T' (o k)) = false; rw [q2]; rfl)
        show zct (fun e => !plc T' e) n + (k + 1) = _
        simp only at *
        omega
theorem plc_m1 {T : OS} {e : Nat} (h : plc T e = false) : T 9 e = -1 := by
  unfold plc at h
  cases hd : decide (T 9 e = -1)
  · rw [hd] at h; cases h
  · exact of_decide_eq_true hd
theorem r4_build_loop {T : OS} {n c : Nat} {o : Nat → Nat} (Y1 : OS) (E2 : Nat → OS) (hW : WF T n) (ho : ord T n (wt T n) o c) (hc : c ≤ 14) {P3 : OS} (h4 : ∀ j, j < 32 → bt (P3 4 0) j = (decide (j < 14) && wt T n j)) (h3 : ∀ j, j < 14 → wt T n j = true → P3 3 j = rkI T j) : ∃ P', it3 (r4_build_b20 Y1 E2) 200 T P3 0 = some (bT o T c, P') := by
  have hn := hW.le
  refine zi3k (F := r4_build_b20 Y1 E2) (a0 := T) (b0 := P3) 14 (fun k a b => a = bT o T (min k c) ∧ b 3 = P3 3 ∧ ∀ j, j < 32 → bt (b 4 0) j = decide (∃ i, i < c ∧ k ≤ i ∧ o i = j)) (fun r => ∃ P', r = (bT o T c, P')) (by decide) (fun r h1 ⟨P', h2⟩ => ?_) ⟨by rw [Nat.zero_min]; rfl, rfl, fun j hj => ?_⟩ (fun k a b hk hI => Or.inl ?_) (fun a b hI => ⟨(a, b), ?_, b, by rw [hI.1, Nat.min_eq_right hc]⟩)
  · exact ⟨P', by rw [h1, h2]⟩
  · rw [h4 j hj]
    cases hw : wt T n j
    · rw [Bool.and_false, decide_eq_false]
      rintro ⟨i, hi, _, rfl⟩
      rw [(ho.1 i hi).2] at hw; cases hw
    · have hjn : j < n := by
        unfold wt at hw
        rw [Bool.and_eq_true] at hw
        exact of_decide_eq_true hw.1
      obtain ⟨k, hk, e⟩ := ho.2.2 j hjn hw
      rw [decide_eq_true (show j < 14 by omega), decide_eq_true ⟨k, hk, Nat.zero_le k, e⟩]; rfl
  · obtain ⟨ha, hb3, hb4⟩ := hI
    unfold r4_build_b20
    rw [if_neg (show ¬ (14 : Int32) ≤ nI k from nI_ge hk (by decide))]
    have hQ : ∀ j, decide (∃ i, i < c ∧ k ≤ i ∧ o i = j) = true → j < n := fun j hj => by
      obtain ⟨i, hi, _, rfl⟩ := of_decide_eq_true hj
      exact (ho.1 i hi).1
    rcases r2_nextByRank_z (T := T) (P := b) hW (Q := fun j => decide (∃ i, i < c ∧ k ≤ i ∧ o i = j)) hQ hb4 (fun j hj => by
      obtain ⟨i, hi, _, rfl⟩ := of_decide_eq_true hj
      rw [hb3]; exact h3 _ (by have := (ho.1 i hi).1; omega) (ho.1 i hi).2) with ⟨q1, q2⟩ | ⟨f, q1, q2, P1, q3, q4, q5⟩
    · rw [q2, zs_2, if_pos rfl]
      have hck : c ≤ k := by
        rcases Nat.lt_or_ge k c with h | h
        · have := q1 (o k)
          exact absurd ⟨k, h, Nat.le_refl k, rfl⟩ (of_decide_eq_false this)
        · exact h
      refine ⟨a, b, rfl, by rw [ha, Nat.min_eq_right hck, Nat.min_eq_right (by omega)], hb3, fun j hj => ?_⟩
      rw [hb4 j hj, decide_eq_false, decide_eq_false]
      · rintro ⟨i, hi, hki, _⟩; omega
      · rintro ⟨i, hi, hki, _⟩; omega
    · have hck : k < c := by
        obtain ⟨i, hi, hki, _⟩ := of_decide_eq_true q1
        omega
      have hf : f = o k := by
        obtain ⟨i, hi, hki, e⟩ := of_decide_eq_true q1
        by_cases hik : i = k
        · rw [← hik]; exact e.symm
        · exfalso
          have a1 := ho.2.1 k i (by omega) hi
          rw [e] at a1
          have hne : o k ≠ f := fun z => by rw [z] at a1; exact ahd_irr T _ a1
          exact ahd_irr T _ (ahd_tr a1 (q2 (o k) (decide_eq_true ⟨k, hck, Nat.le_refl k, rfl⟩) hne))
      have hkn := (ho.1 k hck).1
      rw [q3]
      simp only [zs_2, zs_b, zs_1, zs_2, zs_3]
      rw [if_neg (z_nm1 (by have := hQ f q1; omega)), hf, ha, Nat.min_eq_left (by omega)]
      obtain ⟨w1, _, w3, _⟩ := bT_inv hW ho k (by omega)
      obtain ⟨P2, q6, q7⟩ := r2_tryInsert_z P1 w1 hkn (plc_m1 (w3 k (Nat.le_refl k) hck))
      rw [q7]
      have hst : ∀ T2, T2 = bT o T (k + 1) → T2 = bT o T (min (k + 1) c) ∧ P2 3 = P3 3 ∧ ∀ j, j < 32 → bt (P2 4 0) j = decide (∃ i, i < c ∧ k + 1 ≤ i ∧ o i = j) := fun T2 hT2 => by
        refine ⟨by rw [hT2, Nat.min_eq_left (by omega)], by rw [q6 3 (by decide), q4 3 (by decide), hb3], fun j hj => ?_⟩
        rw [q6 4 (by decide), q5 j hj, hf]
        apply Bool.eq_iff_iff.mpr
        rw [Bool.and_eq_true, decide_eq_true_eq, decide_eq_true_eq, Bool.not_eq_true', decide_eq_false_iff_not]
        constructor
        · rintro ⟨⟨i, hi, hki, e⟩, hne⟩
          refine ⟨i, hi, ?_, e⟩
          rcases Nat.lt_or_ge k i with h | h
          · exact h
          · exact absurd (by rw [← e, show i = k by omega]) hne
        · rintro ⟨i, hi, hki, e⟩
          refine ⟨⟨i, hi, by omega, e⟩, fun z => ?_⟩
          have := ho.2.1 k i (by omega) hi
          rw [e, z] at this; exact ahd_irr T _ this
      have hbs : bT o T (k + 1) = match insS (bT o T k) (o k) with | .inr z => z.2 | .inl _ => bT o T k := rfl
      cases hI : insS (bT o T k) (o k) with
      | inl u =>
        rw [hI] at hbs
        exact ⟨_, _, rfl, hst _ hbs.symm⟩
      | inr z =>
        obtain ⟨m, T'⟩ := z
        rw [hI] at hbs
        exact ⟨_, _, rfl, hst _ hbs.symm⟩
  · unfold r4_build_b20
    rw [if_pos (show (14 : Int32) ≤ nI 14 by decide)]
theorem r5_isAhead_z {M T : OS} {n a b : Nat} (hW : WF T n) (hR : RB (M 1) T n) (ha : a < n) (hb : b < n) : r5_isAhead M (nI a) (nI b) (nI (suN T a)) (nI (suN T b)) = some (if ky T a < ky T b ∨ (ky T a = ky T b ∧ a < b) then 1 else 0) := by
  have hn := hW.le
  have s1 := suN_le T a
  have s2 := suN_le T b
  have b1 := bcN_le hW ha
  have b2 := bcN_le hW hb
  unfold r5_isAhead
  simp only [zs_1, zo42 hR ha (show a < 14 by omega), zo42 hR hb (show b < 14 by omega), zs_b, zs_1, zs_2, zs_3, r5_bits_z (x := T 6 a) (fun i h1 h2 => bt_grp hW ha (by omega) h2), r5_bits_z (x := T 6 b) (fun i h1 h2 => bt_grp hW hb (by omega) h2), show zct (bt (T 6 a)) 14 = bcN T a from rfl, show zct (bt (T 6 b)) 14 = bcN T b from rfl, nI_eq (show suN T a < 2 ^ 31 by omega) (show suN T b < 2 ^ 31 by omega), nI_eq (show bcN T a < 2 ^ 31 by omega) (show bcN T b < 2 ^ 31 by omega), nI_leI (show suN T b < 2 ^ 31 by omega) (show suN T a < 2 ^ 31 by omega), nI_leI (show bcN T a < 2 ^ 31 by omega) (show bcN T b < 2 ^ 31 by omega), nI_leI (show b < 2 ^ 31 by omega) (show a < 2 ^ 31 by omega)]
  unfold ky
  by_cases c1 : suN T a = suN T b
  · rw [if_pos c1]
    by_cases c2 : bcN T a = bcN T b
    · rw [if_pos c2]
      by_cases c3 : b ≤ a
      · rw [if_pos c3, if_neg (by omega)]
      · rw [if_neg c3, if_pos (by omega)]
    · rw [if_neg c2]
      by_cases c3 : bcN T a ≤ bcN T b
      · rw [if_pos c3, if_neg (by omega)]
      · rw [if_neg c3, if_pos (by omega)]
  · rw [if_neg c1]
    by_cases c3 : suN T b ≤ suN T a
    · rw [if_pos c3, if_neg (by omega)]
    · rw [if_neg c3, if_pos (by omega)]
abbrev S16 : Nat → Bool := fun r => decide (r = 16)
/-- the place that is sought for one more -/
theorem r5_build_in {M T : OS} {n e c : Nat} {o : Nat → Nat} (x1 : Int32) (hW : WF T n) (hR : RB (M 1) T n) (he : e < n) (hc : c < 14) (ho : ∀ k, k < c → o k < e) (hM : ∀ k, k < c → M 16 k = nI (o k)) : ∃ M' q, it2 (r5_build_b43 x1 (nI e) (nI (suN T e))) 200 M (nI c) = some (M', nI q) ∧ q ≤ c ∧ FK S16 M M' ∧ M' 1 = M 1 ∧ (∀ k, k < q → M' 16 k = nI (o k)) ∧ (∀ k, q ≤ k → k < c → M' 16 (k + 1) = nI (o k)) ∧ (∀ k, q ≤ k → k < c → ahd T e (o k)) ∧ (0 < q → ¬ ahd T e (o (q - 1))) := by
  have hn := hW.le
  have go : ∀ (p f : Nat) (N : OS), p < f → p ≤ c → N 1 = M 1 → FK S16 M N → (∀ k, k < p → N 16 k = nI (o k)) → (∀ k, p ≤ k → k < c → N 16 (k + 1) = nI (o k)) → (∀ k, p ≤ k → k < c → ahd T e (o k)) → ∃ M' q, it2 (r5_build_b43 x1 (nI e) (nI (suN T e))) f N (nI p) = some (M', nI q) ∧ q ≤ c ∧ FK S16 M M' ∧ M' 1 = M 1 ∧ (∀ k, k < q → M' 16 k = nI (o k)) ∧ (∀ k, q ≤ k → k < c → M' 16 (k + 1) = nI (o k)) ∧ (∀ k, q ≤ k → k < c → ahd T e (o k)) ∧ (0 < q → ¬ ahd T e (o (q - 1))) := by
    intro p
    induction p with
    | zero =>
      intro f N hf hp h1 hF h16 h17 ha
      obtain ⟨f, rfl⟩ : ∃ g, f = g + 1 := ⟨f - 1, by omega⟩
      refine ⟨N, 0, ?_, Nat.zero_le c, hF, h1, h16, h17, ha, fun z => absurd z (by omega)⟩
      have : r5_build_b43 x1 (nI e) (nI (suN T e)) N (nI 0) = some (.inr (N, nI 0)) := by
        unfold r5_build_b43
        rw [if_pos (show nI 0 ≤ 0 by decide)]
      unfold it2
      rw [this]
    | succ p ih =>
      intro f N hf hp h1 hF h16 h17 ha
      obtain ⟨f, rfl⟩ : ∃ g, f = g + 1 := ⟨f - 1, by omega⟩
      have hop := ho p (by omega)
      have hRN : RB (N 1) T n := by rw [h1]; exact hR
      have hb : r5_build_b43 x1 (nI e) (nI (suN T e)) N (nI (p + 1)) = if ky T e < ky T (o p) ∨ (ky T e = ky T (o p) ∧ e < o p) then some (.inl (upr N 16 (upd (N 16) (p + 1) (nI (o p))), nI p)) else some (.inr (N, nI (p + 1))) := by
        unfold r5_build_b43
        rw [if_neg (nI_nle (by omega) (by omega)), nI_pred, z_rd (show p < 14 by omega) (by decide), h16 p (by omega), pk_m1]
        simp only [zs_1, zs_b, zs_1, zs_2, zs_3, r5_suitables_z hW hRN (show o p < n by omega), r5_isAhead_z hW hRN he (show o p < n by omega), z_wr (show p + 1 < 14 by omega) (show 14 < 2 ^ 31 by decide)]
        by_cases hq : ky T e < ky T (o p) ∨ (ky T e = ky T (o p) ∧ e < o p)
        · rw [if_pos hq, if_pos hq, if_neg (show ¬ (1 : Int32) = 0 by decide)]
        · rw [if_neg hq, if_neg hq, if_pos rfl]
      by_cases hq : ky T e < ky T (o p) ∨ (ky T e = ky T (o p) ∧ e < o p)
      · rw [if_pos hq] at hb
        unfold it2
        rw [hb]
        refine ih f (upr N 16 (upd (N 16) (p + 1) (nI (o p)))) (by omega) (by omega) ((upr_n _ _ _ (by decide)).trans h1) (hF.trans (FK.row (by decide) rfl)) (fun k hk => ?_) (fun k hk hkc => ?_) (fun k hk hkc => ?_)
        · rw [upr_s, upd_n (by omega)]; exact h16 k (by omega)
        · rw [upr_s]
          by_cases ek : k = p
          · rw [ek, upd_s]
          · rw [upd_n (by omega)]; exact h17 k (by omega) hkc
        · by_cases ek : k = p
          · rw [ek]; exact hq
          · exact ha k (by omega) hkc
      · rw [if_neg hq] at hb
        refine ⟨N, p + 1, ?_, hp, hF, h1, h16, h17, ha, fun _ => hq⟩
        unfold it2
        rw [hb]
  exact go c 200 M (by omega) (Nat.le_refl c) rfl (FK.refl _ _) hM (fun k h1 h2 => by omega) (fun k h1 h2 => by omega)
theorem r5_build_ord {M T : OS} {n : Nat} (hW : WF T n) (hR : RB (M 1) T n) : ∃ M' o c, it3 r5_build_b13 200 M 0 0 = some (M', nI c) ∧ c ≤ 14 ∧ FK S16 M M' ∧ M' 1 = M 1 ∧ (∀ k, k < c → M' 16 k = nI (o k)) ∧ ord T n (wt T n) o c ∧ c = zct (fun e => !plc T e) n := by
  have hn := hW.le
  refine zi3k (F := r5_build_b13) (a0 := M) (b0 := (0 : Int32)) n (fun e a b => ∃ o c, b = nI c ∧ c ≤ e ∧ FK S16 M a ∧ a 1 = M 1 ∧ (∀ k, k < c → a 16 k = nI (o k)) ∧ (∀ k, k < c → o k < e ∧ wt T n (o k) = true) ∧ (∀ i j, i < j → j < c → ahd T (o i) (o j)) ∧ (∀ j, j < e → wt T n j = true → ∃ k, k < c ∧ o k = j) ∧ c = zct (fun e => !plc T e) e) (fun r => ∃ M' o c, r = (M', nI c) ∧ c ≤ 14 ∧ FK S16 M M' ∧ M' 1 = M 1 ∧ (∀ k, k < c → M' 16 k = nI (o k)) ∧ ord T n (wt T n) o c ∧ c = zct (fun e => !plc T e) n) (by omega) (fun r h1 ⟨M', o, c, h2, h3⟩ => ?_) ⟨fun _ => 0, 0, rfl, Nat.le_refl 0, FK.refl _ _, rfl, fun k hk => absurd hk (by omega), fun k hk => absurd hk (by omega), fun i j _ hj => absurd hj (by omega), fun j hj => absurd hj (by omega), rfl⟩ (fun e a b he hI => Or.inl ?_) (fun a b hI => ?_)
  · exact ⟨M', o, c, by rw [h1, h2], h3⟩
  · obtain ⟨o, c, rfl, hce, hF, ha1, h16, ho1, ho2, ho3, hct⟩ := hI
    have hRa : RB (a 1) T n := by rw [ha1]; exact hR
    unfold r5_build_b13
    simp only [zs_1, zmany hRa, zs_b, zs_1, zs_2, zs_3, zo84 hRa he (show e < 14 by omega), r5_suitables_z hW hRa he]
    rw [if_neg (nI_ge he (by omega))]
    rcases hW.plW (show e < 14 by omega) with ⟨p1, p2⟩ | ⟨p1, p2, _, _, p3⟩
    · rw [p1, if_pos z_m1lt]
      obtain ⟨M', q, q1, q2, q3, q4, q5, q6, q7, q8⟩ := r5_build_in (nI c) hW hRa he (show c < 14 by omega) (fun k hk => (ho1 k hk).1) h16
      rw [q1]
      simp only [zs_2, zs_b, zs_1, zs_2, zs_3, z_wr (show q < 14 by omega) (show 14 < 2 ^ 31 by decide), nI_1]
      have hwe : wt T n e = true := by unfold wt; rw [decide_eq_true he, p2]; rfl
      have hbelow : ∀ k, k < q → ahd T (o k) e := fun k hk => by
        have hlast : ahd T (o (q - 1)) e := by
          rcases ahd_tot (T := T) (a := o (q - 1)) (b := e) (by have := (ho1 (q - 1) (by omega)).1; omega) with h | h
          · exact h
          · exact absurd h (q8 (by omega))
        by_cases ek : k = q - 1
        · rw [ek]; exact hlast
        · exact ahd_tr (ho2 k (q - 1) (by omega) (by omega)) hlast
      refine ⟨_, nI (c + 1), rfl, fun k => if k < q then o k else if k = q then e else o (k - 1), c + 1, rfl, by omega, hF.trans (q3.trans (FK.row (by decide) rfl)), (upr_n _ _ _ (by decide)).trans (q4.trans ha1), fun k hk => ?_, fun k hk => ?_, fun i j hij hj => ?_, fun j hj hw => ?_, ?_⟩
      · show _ = nI (if k < q then o k else if k = q then e else o (k - 1))
        rw [upr_s]
        by_cases k1 : k < q
        · rw [upd_n (by omega), if_pos k1]; exact q5 k k1
        · by_cases k2 : k = q
          · rw [k2, upd_s, if_neg (by omega), if_pos rfl]
          · rw [upd_n k2, if_neg k1, if_neg k2]
            have := q6 (k - 1) (by omega) (by omega)
            rw [show k - 1 + 1 = k by omega] at this
            exact this
      · by_cases k1 : k < q
        · simp only [if_pos k1]
          have := ho1 k (by omega)
          exact ⟨by omega, this.2⟩
        · by_cases k2 : k = q
          · simp only [if_neg k1, if_pos k2]; exact ⟨by omega, hwe⟩
          · simp only [if_neg k1, if_neg k2]
            have := ho1 (k - 1) (by omega)
            exact ⟨by omega, this.2⟩
      · by_cases i1 : i < q
        · by_cases j1 : j < q
          · simp only [if_pos i1, if_pos j1]; exact ho2 i j hij (by omega)
          · by_cases j2 : j = q
            · simp only [if_pos i1, if_neg j1, if_pos j2]; exact hbelow i i1
            · simp only [if_pos i1, if_neg j1, if_neg j2]
              exact ho2 i (j - 1) (by omega) (by omega)
        · have j1 : ¬ j < q := by omega
          have j2 : ¬ j = q := by omega
          by_cases i2 : i = q
          · simp only [if_neg i1, if_pos i2, if_neg j1, if_neg j2]
            exact q7 (j - 1) (by omega) (by omega)
          · simp only [if_neg i1, if_neg i2, if_neg j1, if_neg j2]
            exact ho2 (i - 1) (j - 1) (by omega) (by omega)
      · by_cases ej : j = e
        · exact ⟨q, by omega, by simp [ej]⟩
        · obtain ⟨k, hk, e1⟩ := ho3 j (by omega) hw
          by_cases k1 : k < q
          · exact ⟨k, by omega, by simp only [if_pos k1]; exact e1⟩
          · refine ⟨k + 1, by omega, ?_⟩
            simp only [if_neg (show ¬ k + 1 < q by omega), if_neg (show ¬ k + 1 = q by omega), Nat.add_sub_cancel]; exact e1
      · show c + 1 = zct (fun e => !plc T e) e + (if !plc T e then 1 else 0)
        rw [p2, ← hct]; rfl
    · rw [p2, if_neg (nI_pos (by omega))]
      refine ⟨a, nI c, by rw [nI_1], o, c, rfl, by omega, hF, ha1, h16, fun k hk => ⟨by have := (ho1 k hk).1; omega, (ho1 k hk).2⟩, ho2, fun j hj hw => ?_, ?_⟩
      · by_cases ej : j = e
        · rw [ej] at hw; unfold wt at hw; rw [p3] at hw; simp at hw
        · exact ho3 j (by omega) hw
      · show c = zct (fun e => !plc T e) e + (if !plc T e then 1 else 0)
        rw [p3, ← hct]; rfl
  · obtain ⟨o, c, rfl, hce, hF, ha1, h16, ho1, ho2, ho3, hct⟩ := hI
    have hRa : RB (a 1) T n := by rw [ha1]; exact hR
    refine ⟨(a, nI c), ?_, a, o, c, rfl, by omega, hF, ha1, h16, ⟨ho1, ho2, ho3⟩, hct⟩
    unfold r5_build_b13
    simp only [zs_1, zmany hRa, zs_b, zs_1, zs_2, zs_3]
    rw [if_pos (nI_le (Nat.le_refl n) (by omega))]
theorem r5_build_run {M T : OS} {n c : Nat} {o : Nat → Nat} (hW : WF T n) (hR : RB (M 1) T n) (ho : ord T n (wt T n) o c) (hc : c ≤ 14) (h16 : ∀ k, k < c → M 16 k = nI (o k)) : ∃ M', it3 (r5_build_b122 (nI c)) 200 M 0 0 = some (M', nI (bF o T c)) ∧ FK S14 M M' ∧ RB (M' 1) (bT o T c) n := by
  refine zi3k (F := r5_build_b122 (nI c)) (a0 := M) (b0 := (0 : Int32)) c (fun k a b => b = nI (bF o T k) ∧ FK S14 M a ∧ RB (a 1) (bT o T k) n) (fun r => ∃ M', r = (M', nI (bF o T c)) ∧ FK S14 M M' ∧ RB (M' 1) (bT o T c) n) (by omega) (fun r h1 ⟨M', h2, h3⟩ => ?_) ⟨rfl, FK.refl _ _, hR⟩ (fun k a b hk hI => Or.inl ?_) (fun a b hI => ⟨(a, b), ?_, a, by rw [hI.1], hI.2.1, hI.2.2⟩)
  · exact ⟨M', by rw [h1, h2], h3⟩
  · obtain ⟨rfl, hF, hRa⟩ := hI
    have hkn := (ho.1 k hk).1
    obtain ⟨w1, _, w3, _⟩ := bT_inv hW ho k (by omega)
    obtain ⟨v, M', q1, q2, q3⟩ := r5_inserts_z w1 hRa hkn (plc_m1 (w3 k (Nat.le_refl k) hk))
    unfold r5_build_b122
    rw [if_neg (nI_ge hk (by omega)), z_rd (show k < 14 by omega) (by decide), show a 16 k = nI (o k) from (congrFun (hF.1 16 (by decide) rfl) k).trans (h16 k hk)]
    simp only [zs_b, zs_1, zs_2, zs_3, q1, zs_2]
    have hbs : bT o T (k + 1) = match insS (bT o T k) (o k) with | .inr z => z.2 | .inl _ => bT o T k := rfl
    have hfs : bF o T (k + 1) = match insS (bT o T k) (o k) with | .inr _ => bF o T k | .inl _ => bF o T k + 1 := rfl
    cases hI : insS (bT o T k) (o k) with
    | inl u =>
      rw [hI] at q3 hbs hfs
      obtain ⟨rfl, q4⟩ := q3
      rw [if_neg (show ¬ (0 : Int32) ≤ -1 by decide), nI_1]
      exact ⟨_, _, rfl, by rw [hfs], hF.trans q2, by rw [hbs]; exact q4⟩
    | inr z =>
      obtain ⟨m, T'⟩ := z
      rw [hI] at q3 hbs hfs
      obtain ⟨rfl, q4⟩ := q3
      have hm := (insS_WF w1 hkn hI).2
      rw [if_pos (nI_pos' (by omega)), Int32.add_zero]
      exact ⟨_, _, rfl, by rw [hfs], hF.trans q2, by rw [hbs]; exact q4⟩
  · unfold r5_build_b122
    rw [if_pos (nI_le (Nat.le_refl c) (by omega))]
