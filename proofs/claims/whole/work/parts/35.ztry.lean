/-! THE PURE LAYER: lifting a set, one place tried, insertions -/
def lfs (A : Nat → Bool) (T : OS) : Nat → OS := zfo (fun T o => if A o then lf T o else T) T
theorem lfs_row (A : Nat → Bool) (T : OS) : ∀ m, (∀ r, r ≠ 9 → r ≠ 10 → lfs A T m r = T r) ∧ ∀ k, lfs A T m 9 k = (if A k && decide (k < m) then -1 else T 9 k) ∧ lfs A T m 10 k = (if A k && decide (k < m) then 0 else T 10 k)
  | 0 => ⟨fun _ _ _ => rfl, fun k => by simp [lfs, zfo]⟩
  | m + 1 => by
    obtain ⟨h1, h2⟩ := lfs_row A T m
    have hs : lfs A T (m + 1) = if A m then lf (lfs A T m) m else lfs A T m := rfl
    rw [hs]
    cases hA : A m
    · refine ⟨fun r h9 h10 => h1 r h9 h10, fun k => ?_⟩
      rw [if_neg (by decide), (h2 k).1, (h2 k).2]
      by_cases e : k = m
      · rw [e, hA]; simp
      · have : decide (k < m) = decide (k < m + 1) := by apply decide_eq_decide.mpr; omega
        rw [this]; exact ⟨rfl, rfl⟩
    · rw [if_pos rfl]
      refine ⟨fun r h9 h10 => (lfn _ _ h9 h10).trans (h1 r h9 h10), fun k => ?_⟩
      rw [lf9, lf10]
      by_cases e : k = m
      · rw [e, upd_s, upd_s, hA]; simp
      · rw [upd_n e, upd_n e, (h2 k).1, (h2 k).2]
        have : decide (k < m) = decide (k < m + 1) := by apply decide_eq_decide.mpr; omega
        rw [this]; exact ⟨rfl, rfl⟩
theorem lfs_WF {A : Nat → Bool} {T : OS} {n : Nat} (h : WF T n) : ∀ m, WF (lfs A T m) n
  | 0 => h
  | m + 1 => by
    show WF (if A m then lf (lfs A T m) m else lfs A T m) n
    split
    · exact (lfs_WF h m).lfW
    · exact lfs_WF h m
theorem lfs_lifted {A : Nat → Bool} {T : OS} (hA : ∀ j, A j = true → j < 14) : lifted A (lfs A T 14) 0 := fun j _ hj => by
  obtain ⟨_, h⟩ := lfs_row A T 14
  rw [(h j).1, (h j).2, hj, decide_eq_true (hA j hj)]
  exact ⟨rfl, rfl⟩
theorem r2_lift_z (T : OS) (x : Int32) : r2_lift T x = some (lfs (bt x) T 14) := by
  unfold r2_lift
  rw [zf2 14 (fun T o => if bt x o then lf T o else T) (by decide) (fun i hi a => ?_) (fun a => ?_)]
  · rfl
  · unfold r2_lift_b2
    rw [if_neg (show ¬ (14 : Int32) ≤ nI i from nI_ge hi (by decide)), r4_contains_z x (show i < 32 by omega)]
    simp only [zs_1, zs_b, zs_1, zs_2, zs_3, r3_moveTo_l a hi]
    cases bt x i <;> rfl
  · unfold r2_lift_b2
    rw [if_pos (show (14 : Int32) ≤ nI 14 by decide)]
/-- the events of a set back where they stood in T -/
def pbk (A : Nat → Bool) (T : OS) (a : OS) (m : Nat) : Prop := (∀ r, r ≠ 9 → r ≠ 10 → a r = T r) ∧ ∀ k, a 9 k = (if A k && decide (m ≤ k) then -1 else T 9 k) ∧ a 10 k = (if A k && decide (m ≤ k) then 0 else T 10 k)
theorem r2_putBack_z {T a P : OS} {n : Nat} {x : Int32} (hW : WF T n) (hx : ∀ i, 14 ≤ i → bt x i = false) (hP : ∀ i, i < 14 → P 1 i = T 9 i) (ha : a = lfs (bt x) T 14) : r2_putBack a P x = some T := by
  unfold r2_putBack
  refine zi2k (F := r2_putBack_b2 P x) (a0 := a) 14 (fun i a => pbk (bt x) T a i) (fun r => r = T) (by decide) (fun r h1 h2 => ?_) ?_ (fun i b hi hI => Or.inl ?_) (fun b hI => ⟨b, ?_, ?_⟩)
  · rw [h1, h2]; rfl
  · obtain ⟨q1, q2⟩ := lfs_row (bt x) T 14
    rw [ha]
    refine ⟨q1, fun k => ?_⟩
    rw [(q2 k).1, (q2 k).2]
    cases hb : bt x k
    · exact ⟨rfl, rfl⟩
    · have : k < 14 := by
        rcases Nat.lt_or_ge k 14 with h | h
        · exact h
        · rw [hx k h] at hb; cases hb
      simp [this]
  · unfold r2_putBack_b2
    rw [if_neg (show ¬ (14 : Int32) ≤ nI i from nI_ge hi (by decide)), r4_contains_z x (show i < 32 by omega)]
    simp only [zs_1, zs_b, zs_1, zs_2, zs_3, z_rd hi (show 14 < 2 ^ 31 by decide), hP i hi]
    have hstep : ∀ c : OS, (∀ r, r ≠ 9 → r ≠ 10 → c r = b r) → (c 9 = upd (b 9) i (T 9 i)) → (c 10 = upd (b 10) i (T 10 i)) → pbk (bt x) T c (i + 1) := fun c hc h9 h10 => by
      refine ⟨fun r r9 r10 => (hc r r9 r10).trans (hI.1 r r9 r10), fun k => ?_⟩
      rw [h9, h10]
      by_cases e : k = i
      · rw [e, upd_s, upd_s, decide_eq_false (show ¬ i + 1 ≤ i by omega)]; simp
      · rw [upd_n e, upd_n e, (hI.2 k).1, (hI.2 k).2]
        have : decide (i ≤ k) = decide (i + 1 ≤ k) := by apply decide_eq_decide.mpr; omega
        rw [this]; exact ⟨rfl, rfl⟩
    cases hb : bt x i
    · refine ⟨b, rfl, ⟨hI.1, fun k => ?_⟩⟩
      rw [(hI.2 k).1, (hI.2 k).2]
      by_cases e : k = i
      · rw [e, hb]; simp
      · have : decide (i ≤ k) = decide (i + 1 ≤ k) := by apply decide_eq_decide.mpr; omega
        rw [this]; exact ⟨rfl, rfl⟩
    · rw [if_pos rfl, if_neg (show ¬ (1 : Int32) = 0 by decide)]
      rcases hW.2.2.2.1 i hi with ⟨p1, p2⟩ | ⟨p, hp, p1, p2, _⟩
      · rw [p1, r3_moveTo_l _ hi]
        refine ⟨lf b i, rfl, hstep _ (fun r r9 r10 => lfn _ _ r9 r10) ?_ ?_⟩
        · rw [lf9, p1]
        · rw [lf10, p2]
      · rw [p1, r3_moveTo_z _ hi hp]
        refine ⟨mv b i p, rfl, hstep _ (fun r r9 r10 => mvn _ _ _ r9 r10) ?_ ?_⟩
        · rw [mv9, p1]
        · rw [mv10, p2, hI.1 8 (by decide) (by decide)]
  · unfold r2_putBack_b2
    rw [if_pos (show (14 : Int32) ≤ nI 14 by decide)]
  · funext r k
    by_cases r9 : r = 9
    · subst r9
      rw [(hI.2 k).1]
      cases hb : bt x k
      · rfl
      · have : ¬ 14 ≤ k := fun z => by rw [hx k z] at hb; cases hb
        simp [this]
    · by_cases r10 : r = 10
      · subst r10
        rw [(hI.2 k).2]
        cases hb : bt x k
        · rfl
        · have : ¬ 14 ≤ k := fun z => by rw [hx k z] at hb; cases hb
          simp [this]
      · rw [hI.1 r r9 r10]
theorem hin_bt (T : OS) (e p : Nat) {i : Nat} (hi : i < 32) : bt (hin T e p) i = (decide (i < 14) && (h5 T e p i || h6 T e p i || h7 T e p i)) := zst_bt _ 14 i (by decide) hi
theorem hin_hi (T : OS) (e p : Nat) {i : Nat} (h : 14 ≤ i) : bt (hin T e p) i = false := by
  by_cases hi : i < 32
  · rw [hin_bt T e p hi, decide_eq_false (by omega)]; rfl
  · exact b_big (by omega)
theorem hin_in {T : OS} {n e p : Nat} (hW : WF T n) {j : Nat} (h : bt (hin T e p) j = true) : j < n ∧ j ≠ e ∧ T 10 j ≠ 0 := by
  have hj : j < 14 := by
    rcases Nat.lt_or_ge j 14 with h1 | h1
    · exact h1
    · rw [hin_hi T e p h1] at h; cases h
  rw [hin_bt T e p (show j < 32 by omega)] at h
  have hm : mee T e p j = true := by
    cases hm : mee T e p j
    · unfold h5 h6 h7 at h; rw [hm] at h; simp at h
    · rfl
  unfold mee at hm
  rw [Bool.and_eq_true] at hm
  have h2 : j ≠ e := of_decide_eq_true hm.1
  have h3 : T 10 j ≠ 0 := fun z => by rw [z, z0and] at hm; exact absurd hm.2 (by decide)
  refine ⟨?_, h2, h3⟩
  rcases Nat.lt_or_ge j n with h4 | h4
  · exact h4
  · exact absurd (hW.out h4 hj).2.1 h3
def fxd (T : OS) (A : Nat → Bool) (o : Nat) : Bool := A o && !decide (T 12 o = 0)
/-- one place tried for an event -/
def insA (T : OS) (e m p : Nat) : Option OS :=
  if uns T e p = 0 then (if zct (bt (hin T e p)) 14 = m then (if zan (fxd T (bt (hin T e p))) 14 then none else pan (bt (hin T e p)) (T 9) 14 0 (mv (lfs (bt (hin T e p)) T 14) e p)) else none) else none
def istep (T : OS) (e m : Nat) (_ : Unit) (p : Nat) : Unit ⊕ OS := match insA T e m p with
  | some T' => .inr T'
  | none => .inl ()
def jstep (T : OS) (e : Nat) (_ : Unit) (m : Nat) : Unit ⊕ (Nat × OS) := match zlo (istep T e m) () 60 with
  | .inr T' => .inr (m, T')
  | .inl _ => .inl ()
def insS (T : OS) (e : Nat) : Unit ⊕ (Nat × OS) := zlo (jstep T e) () 3
theorem pan_cong {A : Nat → Bool} {b b' : Nat → Int32} (h : ∀ i, A i = true → b i = b' i) : ∀ {d i : Nat} {T : OS}, pan A b d i T = pan A b' d i T
  | 0, _, _ => rfl
  | d + 1, i, T => by
    unfold pan
    rw [show pan A b d (i + 1) = pan A b' d (i + 1) from funext fun T => pan_cong h]
    split
    · next hi =>
      have : pstep (pan A b' d (i + 1)) T b i = pstep (pan A b' d (i + 1)) T b' i := by
        funext u p; unfold pstep; rw [h i hi]
      rw [this]
    · rfl
theorem r2_hasFixed_z (T : OS) (x : Int32) : r2_hasFixed T x = some (if zan (fxd T (bt x)) 14 then 1 else 0) := by
  unfold r2_hasFixed
  rw [zf1 14 (fxd T (bt x)) (fun _ => 1) (by decide) (fun i hi => ?_) (fun _ => ?_)]
  · cases hz : zan (fxd T (bt x)) 14
    · have : zfi (fxd T (bt x)) 14 = none := by
        cases hf : zfi (fxd T (bt x)) 14 with
        | none => rfl
        | some i =>
          obtain ⟨h1, h2, _⟩ := zfi_lt hf
          rw [zan_iff.mpr ⟨i, h1, h2⟩] at hz; cases hz
      rw [this]; rfl
    · obtain ⟨i, h1, h2⟩ := zan_iff.mp hz
      cases hf : zfi (fxd T (bt x)) 14 with
      | none => rw [zfi_lt.zfi_none hf i h1] at h2; cases h2
      | some j => rfl
  · unfold r2_hasFixed_b2 fxd
    rw [if_neg (show ¬ (14 : Int32) ≤ nI i from nI_ge hi (by decide)), r4_contains_z x (show i < 32 by omega)]
    simp only [zs_1, zs_b, zs_1, zs_2, zs_3, z_rd hi (show 14 < 2 ^ 31 by decide)]
    cases bt x i
    · rfl
    · by_cases h : T 12 i = 0 <;> simp [h]
  · unfold r2_hasFixed_b2
    rw [if_pos (show (14 : Int32) ≤ nI 14 by decide)]
def fpS (T : OS) (e : Nat) (idx : Int32) (c : Int32) (p : Nat) : Int32 ⊕ Nat := if obs T e p = 0 then (if c = idx then .inr p else .inl (c + 1)) else .inl c
theorem r3_freePlace_z {T : OS} {n e : Nat} (hW : WF T n) (he : e < n) (idx : Int32) : r3_freePlace T (nI e) idx = some (match zlo (fpS T e idx) 0 60 with | .inl _ => -1 | .inr p => nI p) := by
  unfold r3_freePlace
  rw [zl2 60 (fpS T e idx) (fun _ => .inl ()) (fun p => .inr (nI p)) (by decide) (fun i a hi _ => ?_) (fun a _ => ?_)]
  · cases zlo (fpS T e idx) 0 60 <;> rfl
  · unfold r3_freePlace_b5 fpS
    rw [if_neg (show ¬ (60 : Int32) ≤ nI i from nI_ge hi (by decide)), r3_obstacleAt_z hW he hi]
    simp only [zs_1, zs_b, zs_1, zs_2, zs_3]
    by_cases h : obs T e i = 0
    · rw [if_pos h, if_pos h]
      by_cases h2 : a = idx
      · rw [if_pos h2, if_pos h2]
      · rw [if_neg h2, if_neg h2]
    · rw [if_neg h, if_neg h]
  · unfold r3_freePlace_b5
    rw [if_pos (show (60 : Int32) ≤ nI 60 by decide)]
theorem fpS_none {T : OS} {e : Nat} : ∀ {m : Nat}, (zlo (fpS T e 0) 0 m = .inl 0 ∧ ∀ p, p < m → obs T e p ≠ 0) ∨ ∃ p, p < m ∧ zlo (fpS T e 0) 0 m = .inr p
  | 0 => Or.inl ⟨rfl, fun p hp => absurd hp (by omega)⟩
  | m + 1 => by
    rcases fpS_none (T := T) (e := e) (m := m) with ⟨h1, h2⟩ | ⟨p, hp, h1⟩
    · rw [zlo_s h1]
      unfold fpS
      by_cases h : obs T e m = 0
      · right
        exact ⟨m, by omega, by rw [if_pos h, if_pos rfl]⟩
      · left
        refine ⟨by rw [if_neg h], fun p hp => ?_⟩
        by_cases q : p = m
        · rw [q]; exact h
        · exact h2 p (by omega)
    · right
      exact ⟨p, by omega, zlo_stay h1 (by omega)⟩
theorem r2_canAllMove_z {T : OS} {n : Nat} {x : Int32} (hW : WF T n) (hA : ∀ j, bt x j = true → j < n) : ∃ v, r2_canAllMove T x = some v ∧ (v = 0 → ∃ o, bt x o = true ∧ ∀ p, p < 60 → obs T o p ≠ 0) := by
  unfold r2_canAllMove
  refine zi1k (F := r2_canAllMove_b2 T x) 14 (fun _ => True) (fun r => r = .inl () ∨ (r = .inr 0 ∧ ∃ o, bt x o = true ∧ ∀ p, p < 60 → obs T o p ≠ 0)) (by decide) (fun r h1 h2 => ?_) trivial (fun i hi _ => ?_) (fun _ => ⟨.inl (), ?_, Or.inl rfl⟩)
  · rw [h1]
    rcases h2 with rfl | ⟨rfl, h3⟩
    · exact ⟨1, rfl, fun z => absurd z (by decide)⟩
    · exact ⟨0, rfl, fun _ => h3⟩
  · unfold r2_canAllMove_b2
    rw [if_neg (show ¬ (14 : Int32) ≤ nI i from nI_ge hi (by decide)), r4_contains_z x (show i < 32 by omega)]
    simp only [zs_1, zs_b, zs_1, zs_2, zs_3]
    cases hb : bt x i
    · left; exact ⟨rfl, trivial⟩
    · rw [if_pos rfl, if_neg (show ¬ (1 : Int32) = 0 by decide), r3_freePlace_z hW (hA i hb)]
      simp only [zs_b, zs_1, zs_2, zs_3]
      rcases fpS_none (T := T) (e := i) (m := 60) with ⟨q1, q2⟩ | ⟨p, hp, q1⟩
      · right
        rw [q1]
        exact ⟨.inr 0, by rw [if_pos rfl], Or.inr ⟨rfl, i, hb, q2⟩⟩
      · left
        rw [q1]
        exact ⟨if_neg (z_nm1 (by omega)), trivial⟩
  · unfold r2_canAllMove_b2
    rw [if_pos (show (14 : Int32) ≤ nI 14 by decide)]
theorem z_bcm {x : Int32} {m : Nat} (hm : m < 3) : (nI (zct (bt x) 14) = nI m) = (zct (bt x) 14 = m) := by
  have := zct_le (bt x) 14
  exact propext (nI_eq (by omega) (by omega))
theorem r2_insertAt_z {T : OS} {n e p m : Nat} (P : OS) (hW : WF T n) (he : e < n) (h9 : T 9 e = -1) (hp : p < 60) (hm : m < 3) : ∃ P' : OS, (∀ r, r ≠ 1 → P' r = P r) ∧ r2_insertAt T P (nI e) (nI p) (nI m) = some (match insA T e m p with | some T' => (1, T', P') | none => (0, T, P')) := by
  have hn := hW.le
  have he' : e < 14 := by omega
  unfold r2_insertAt insA
  simp only [zs_1, r3_unsuitableAt_z hW he hp, r3_hinderingAt_z T he' hp, zs_b, zs_1, zs_2, zs_3]
  by_cases hu : uns T e p = 0
  · rw [if_pos hu, if_pos hu, z_bc (fun i h1 _ => hin_hi T e p h1)]
    simp only [zs_b, zs_1, zs_2, zs_3, z_bcm hm]
    by_cases hc : zct (bt (hin T e p)) 14 = m
    · rw [if_pos hc, if_pos hc, r2_hasFixed_z]
      simp only [zs_b, zs_1, zs_2, zs_3]
      cases hf : zan (fxd T (bt (hin T e p))) 14
      · rw [if_neg (show ¬ false = true by decide), if_neg (show ¬ false = true by decide), if_pos rfl]
        unfold cpi
        simp only [zs_b, zs_1, zs_2, zs_3, r2_lift_z, r3_moveTo_z _ he' hp]
        obtain ⟨P1, hP1⟩ : ∃ P1, P1 = upr P 1 (va_cpy (T 9) (P 1) 0 0 14) := ⟨_, rfl⟩
        rw [← hP1]
        have hP1r : ∀ r, r ≠ 1 → P1 r = P r := fun r hr => by rw [hP1, upr_n _ _ _ hr]
        have hP : ∀ i, i < 14 → P1 1 i = T 9 i := fun i hi => by
          rw [hP1, upr_s]
          unfold va_cpy
          rw [if_pos ⟨Nat.zero_le i, by omega⟩]
          congr 1; omega
        have hA : ∀ j, bt (hin T e p) j = true → j < n := fun j hj => (hin_in hW hj).1
        have hA14 : ∀ j, bt (hin T e p) j = true → j < 14 := fun j hj => by have := hA j hj; omega
        have hWl : WF (lfs (bt (hin T e p)) T 14) n := lfs_WF hW 14
        have hWm := hWl.mvW he hp
        have hlift : lifted (bt (hin T e p)) (mv (lfs (bt (hin T e p)) T 14) e p) 0 := fun j _ hj => by
          have hne := (hin_in hW hj).2.1
          rw [mv9, mv10, upd_n hne, upd_n hne]
          exact lfs_lifted hA14 j (Nat.zero_le j) hj
        have hback : ∀ T1, T1 = mv (lfs (bt (hin T e p)) T 14) e p → r2_insertAt_j106 T1 P1 (nI e) (hin T e p) = some (0, T, P1) := fun T1 h1 => by
          unfold r2_insertAt_j106
          rw [h1, r3_moveTo_l _ he']
          simp only [zs_1, zs_b, zs_1, zs_2, zs_3]
          have e0 : T 10 e = 0 := by
            rcases hW.2.2.2.1 e he' with ⟨_, q⟩ | ⟨q, hq, q2, _⟩
            · exact q
            · rw [h9] at q2; exact absurd q2.symm (z_nm1 (by omega))
          have hAe : bt (hin T e p) e = false := by
            cases hb : bt (hin T e p) e
            · rfl
            · exact absurd rfl (hin_in hW hb).2.1
          obtain ⟨_, q⟩ := lfs_row (bt (hin T e p)) T 14
          rw [lf_mv (by rw [(q e).1, hAe]; exact h9) (by rw [(q e).2, hAe]; exact e0), r2_putBack_z hW (fun i hi => hin_hi T e p hi) hP rfl]
          rfl
        obtain ⟨v, hv, hv0⟩ := r2_canAllMove_z hWm hA
        rw [hv]
        simp only [zs_b, zs_1, zs_2, zs_3]
        have hpa := r2_placeAnew_z (P := P1) (fun i hi => hin_hi T e p hi) hA 14 20 0 (mv (lfs (bt (hin T e p)) T 14) e p) (by decide) (by decide) hWm hlift
        rw [pan_cong (b := P1 1) (b' := T 9) (fun i hi => hP i (hA14 i hi))] at hpa
        by_cases hz : v = 0
        · rw [if_pos hz, hback _ rfl]
          obtain ⟨o, ho, hno⟩ := hv0 hz
          rw [pan_none ho (hA14 o ho) (by decide) (Nat.zero_le o) hlift hno]
          exact ⟨P1, hP1r, rfl⟩
        · rw [if_neg hz, show (0 : Int32) = nI 0 from rfl, hpa]
          cases hpn : pan (bt (hin T e p)) (T 9) 14 0 (mv (lfs (bt (hin T e p)) T 14) e p) with
          | none =>
            simp only [zs_2, zs_b, zs_1, zs_2, zs_3]
            rw [if_pos nI_0.symm, hback _ rfl]
            exact ⟨P1, hP1r, rfl⟩
          | some T' =>
            simp only [zs_2, zs_b, zs_1, zs_2, zs_3]
            rw [if_neg (by decide)]
            exact ⟨P1, hP1r, rfl⟩
      · rw [if_pos rfl, if_pos rfl, if_neg (show ¬ (1 : Int32) = 0 by decide)]
        exact ⟨P, fun _ _ => rfl, rfl⟩
    · rw [if_neg hc, if_neg hc]
      exact ⟨P, fun _ _ => rfl, rfl⟩
  · rw [if_neg hu, if_neg hu]
    exact ⟨P, fun _ _ => rfl, rfl⟩
theorem r2_tryInsert_z {T : OS} {n e : Nat} (P : OS) (hW : WF T n) (he : e < n) (h9 : T 9 e = -1) : ∃ P' : OS, (∀ r, r ≠ 1 → P' r = P r) ∧ r2_tryInsert T P (nI e) = some (match insS T e with | .inr (m, T') => (nI m, T', P') | .inl _ => (-1, T, P')) := by
  have inner : ∀ m, m < 3 → ∀ P : OS, ∃ P' : OS, (∀ r, r ≠ 1 → P' r = P r) ∧ it3 (r2_tryInsert_b9 (nI e) (nI m)) 200 T P 0 = some (match zlo (istep T e m) () 60 with | .inr T' => .inr (nI m, T', P') | .inl _ => .inl (T, P')) := fun m hm P => by
    refine zi3k (F := r2_tryInsert_b9 (nI e) (nI m)) (a0 := T) (b0 := P) 60 (fun k a b => a = T ∧ zlo (istep T e m) () k = .inl () ∧ ∀ r, r ≠ 1 → b r = P r) (fun r => ∃ P' : OS, (∀ r, r ≠ 1 → P' r = P r) ∧ r = (match zlo (istep T e m) () 60 with | .inr T' => .inr (nI m, T', P') | .inl _ => .inl (T, P'))) (by decide) (fun r h1 ⟨P', h0, h2⟩ => ?_) ⟨rfl, rfl, fun _ _ => rfl⟩ (fun k a b hk hI => ?_) (fun a b hI => ⟨.inl (a, b), ?_, b, hI.2.2, by rw [hI.2.1, hI.1]⟩)
    · exact ⟨P', h0, by rw [h1, h2]⟩
    · obtain ⟨rfl, hz, hb0⟩ := hI
      unfold r2_tryInsert_b9
      rw [if_neg (show ¬ (60 : Int32) ≤ nI k from nI_ge hk (by decide))]
      obtain ⟨P', hr', hP'⟩ := r2_insertAt_z b hW he h9 hk hm
      have hb1 : ∀ r, r ≠ 1 → P' r = P r := fun r hr => (hr' r hr).trans (hb0 r hr)
      rw [hP']
      cases hA : insA a e m k with
      | none =>
        left
        exact ⟨a, P', by simp only [zs_3, zs_b, zs_1, zs_2, zs_3, if_true], rfl, by rw [zlo_s hz]; unfold istep; rw [hA], hb1⟩
      | some T' =>
        right
        refine ⟨.inr (nI m, T', P'), ?_, P', hb1, ?_⟩
        · simp only [zs_3, zs_b, zs_1, zs_2, zs_3]
          rw [if_neg (show ¬ (1 : Int32) = 0 by decide)]
        · have : zlo (istep a e m) () (k + 1) = .inr T' := by rw [zlo_s hz]; unfold istep; rw [hA]
          rw [zlo_stay this (by omega)]
    · unfold r2_tryInsert_b9
      rw [if_pos (show (60 : Int32) ≤ nI 60 by decide)]
  unfold r2_tryInsert insS
  refine zi3k (F := r2_tryInsert_b2 (nI e)) (a0 := T) (b0 := P) 3 (fun k a b => a = T ∧ zlo (jstep T e) () k = .inl () ∧ ∀ r, r ≠ 1 → b r = P r) (fun r => ∃ P' : OS, (∀ r, r ≠ 1 → P' r = P r) ∧ r = (match zlo (jstep T e) () 3 with | .inr (m, T') => .inr (nI m, T', P') | .inl _ => .inl (T, P'))) (by decide) (fun r h1 ⟨P', h0, h2⟩ => ?_) ⟨rfl, rfl, fun _ _ => rfl⟩ (fun k a b hk hI => ?_) (fun a b hI => ⟨.inl (a, b), ?_, b, hI.2.2, by rw [hI.2.1, hI.1]⟩)
  · refine ⟨P', h0, ?_⟩
    rw [h1, h2]
    cases zlo (jstep T e) () 3 with
    | inl u => rfl
    | inr z => rfl
  · obtain ⟨rfl, hz, hb0⟩ := hI
    unfold r2_tryInsert_b2
    rw [if_neg (show ¬ (2 : Int32) < nI k from nI_nlt (a := 2) (by omega) (by decide))]
    obtain ⟨P', hr', hP'⟩ := inner k hk b
    have hb1 : ∀ r, r ≠ 1 → P' r = P r := fun r hr => (hr' r hr).trans (hb0 r hr)
    rw [hP']
    cases hA : zlo (istep a e k) () 60 with
    | inl u =>
      left
      exact ⟨a, P', by simp only [zs_2l, zs_2r, zs_b, zs_1, zs_2, zs_3], rfl, by rw [zlo_s hz]; unfold jstep; rw [hA], hb1⟩
    | inr T' =>
      right
      refine ⟨.inr (nI k, T', P'), by simp only [zs_2l, zs_2r, zs_b, zs_1, zs_2, zs_3], P', hb1, ?_⟩
      have : zlo (jstep a e) () (k + 1) = .inr (k, T') := by rw [zlo_s hz]; unfold jstep; rw [hA]
      rw [zlo_stay this (by omega)]
  · unfold r2_tryInsert_b2
    rw [if_pos (show (2 : Int32) < nI 3 by decide)]
theorem insA_WF {T T' : OS} {n e m p : Nat} (hW : WF T n) (he : e < n) (hp : p < 60) (h : insA T e m p = some T') : WF T' n := by
  unfold insA at h
  split at h
  · split at h
    · split at h
      · cases h
      · exact pan_WF (fun j hj => (hin_in hW hj).1) ((lfs_WF hW 14).mvW he hp) h
    · cases h
  · cases h
theorem insS_WF {T T' : OS} {n e m : Nat} (hW : WF T n) (he : e < n) (h : insS T e = .inr (m, T')) : WF T' n ∧ m < 3 := by
  refine zlo_inv (N := 3) (Q := fun z => WF z.2 n ∧ z.1 < 3) (fun k u r hk hst => ?_) (Nat.le_refl 3) h
  unfold jstep at hst
  split at hst
  · next T1 hT1 =>
    cases hst
    refine ⟨zlo_inv (N := 60) (Q := fun z => WF z n) (fun p u r hp hst => ?_) (Nat.le_refl 60) hT1, hk⟩
    unfold istep at hst
    split at hst
    · next T2 hT2 => cases hst; exact insA_WF hW he hp hT2
    · cases hst
  · cases hst
/-! the reference's -/
theorem r5_hasFixed_z {M T : OS} {n : Nat} {x : Int32} (hW : WF T n) (hR : RB (M 1) T n) (hA : ∀ j, bt x j = true → j < n) : r5_hasFixed M x = some (if zan (fxd T (bt x)) 14 then 1 else 0) := by
  have hn := hW.le
  have hx : zan (fxd T (bt x)) 14 = zan (fxd T (bt x)) n := zan_ext hn (fun i h1 h2 => by
    unfold fxd
    cases hb : bt x i
    · rfl
    · have := hA i hb; omega)
  rw [hx]
  unfold r5_hasFixed
  rw [zf1 n (fxd T (bt x)) (fun _ => 1) (by omega) (fun i hi => ?_) (fun _ => ?_)]
  · cases hz : zan (fxd T (bt x)) n
    · have : zfi (fxd T (bt x)) n = none := by
        cases hf : zfi (fxd T (bt x)) n with
        | none => rfl
        | some i =>
          obtain ⟨h1, h2, _⟩ := zfi_lt hf
          rw [zan_iff.mpr ⟨i, h1, h2⟩] at hz; cases hz
      rw [this]; rfl
    · obtain ⟨i, h1, h2⟩ := zan_iff.mp hz
      cases hf : zfi (fxd T (bt x)) n with
      | none => rw [zfi_lt.zfi_none hf i h1] at h2; cases h2
      | some j => rfl
  · unfold r5_hasFixed_b2 fxd
    simp only [zs_1, zmany hR, zs_b, zs_1, zs_2, zs_3, zo98 hR hi (by omega), z_bit1 x (show i < 32 by omega)]
    rw [if_neg (nI_ge hi (by omega))]
    cases bt x i
    · rfl
    · rcases hW.2.2.2.2.2 i (by omega) with h | h <;> rw [h] <;> rfl
  · unfold r5_hasFixed_b2
    simp only [zs_1, zmany hR, zs_b, zs_1, zs_2, zs_3]
    rw [if_pos (nI_le (Nat.le_refl n) (by omega))]
theorem r5_insertsAt_z {M T : OS} {n e p : Nat} {x : Int32} (hW : WF T n) (hR : RB (M 1) T n) (he : e < n) (h9 : T 9 e = -1) (hp : p < 60) (hx : ∀ i, 14 ≤ i → bt x i = false) (hA : ∀ j, bt x j = true → j < n ∧ j ≠ e) :
    ∃ v M', r5_insertsAt M (nI e) (nI p) x = some (v, M') ∧ FK S14 M M' ∧ match pan (bt x) (T 9) 14 0 (mv (lfs (bt x) T 14) e p) with | some T' => v = 1 ∧ RB (M' 1) T' n | none => v = 0 ∧ RB (M' 1) T n := by
  have hn := hW.le
  have he' : e < 14 := by omega
  have hA14 : ∀ j, bt x j = true → j < 14 := fun j hj => by have := (hA j hj).1; omega
  unfold r5_insertsAt
  refine zi2k (F := r5_insertsAt_b3 (nI e) (nI p) x) (a0 := M) n (fun i a => RB (a 1) (lfs (bt x) T i) n ∧ FK S14 M a ∧ ∀ j, j < i → bt x j = true → a 14 j = T 9 j) (fun r => RB (r 1) (lfs (bt x) T n) n ∧ FK S14 M r ∧ ∀ j, j < n → bt x j = true → r 14 j = T 9 j) (by omega) (fun r h1 ⟨hr1, hr2, hr3⟩ => ?_) ⟨hR, FK.refl _ _, fun j hj => absurd hj (by omega)⟩ (fun i a hi hI => Or.inl ?_) (fun a hI => ⟨a, ?_, hI⟩)
  · rw [h1]
    have hlf : lfs (bt x) T 14 = lfs (bt x) T n := zfo_ext hn (fun i q1 q2 b => by
      cases hb : bt x i
      · rfl
      · have := (hA i hb).1; omega)
    rw [← hlf] at hr1
    have hWl : WF (lfs (bt x) T 14) n := lfs_WF hW 14
    have hlift : lifted (bt x) (mv (lfs (bt x) T 14) e p) 0 := fun j _ hj => by
      have hne := (hA j hj).2
      rw [mv9, mv10, upd_n hne, upd_n hne]
      exact lfs_lifted hA14 j (Nat.zero_le j) hj
    obtain ⟨v, M', q1, q2, q3⟩ := r5_spreads_z (A := bt x) (b := T 9) (fun j hj => (hA j hj).1) hn 14 20 0 (mv (lfs (bt x) T 14) e p) (ly r e (nI p)) x (by decide) (by decide) (hWl.mvW he hp) (hr1.mvW hn he') hlift (fun j hj => by rw [lyn _ _ _ (by decide)]; exact hr3 j (hA j hj).1 hj) (fun j _ => by simp)
    simp only [zs_1, zs_b, zs_1, zs_2, zs_3, r5_lays_z r he', q1, zs_2]
    have qF : FK S14 M M' := hr2.trans ((FK.ly he').trans (q2.mono (fun r _ => rfl)))
    cases hpn : pan (bt x) (T 9) 14 0 (mv (lfs (bt x) T 14) e p) with
    | some T' =>
      rw [hpn] at q3
      obtain ⟨rfl, q4⟩ := q3
      rw [if_neg (show ¬ (1 : Int32) = 0 by decide)]
      exact ⟨1, M', rfl, qF, rfl, q4⟩
    | none =>
      rw [hpn] at q3
      obtain ⟨rfl, q4⟩ := q3
      rw [if_pos rfl]
      have hAe : bt x e = false := by
        cases hb : bt x e
        · rfl
        · exact absurd rfl (hA e hb).2
      have e0 : T 10 e = 0 := by
        rcases hW.2.2.2.1 e he' with ⟨_, q⟩ | ⟨q, hq, q5, _⟩
        · exact q
        · rw [h9] at q5; exact absurd q5.symm (z_nm1 (by omega))
      obtain ⟨rows, q⟩ := lfs_row (bt x) T 14
      have q5 := q4.lfW hn he'
      rw [lf_mv (by rw [(q e).1, hAe]; exact h9) (by rw [(q e).2, hAe]; exact e0)] at q5
      have hst : ∀ j, bt x j = true → ly M' e (-1) 14 j = T 9 j := fun j hj => by
        rw [lyn _ _ _ (by decide)]
        exact (congrFun (q2.1 14 (by decide) rfl) j).trans (by rw [lyn _ _ _ (by decide)]; exact hr3 j (hA j hj).1 hj)
      refine zi2k (F := r5_insertsAt_b77 x) (a0 := ly M' e (-1)) n (fun i a => (∃ T'', RB (a 1) T'' n ∧ (∀ r, r ≠ 9 → r ≠ 10 → T'' r = T r) ∧ ∀ k, k < n → T'' 9 k = (if bt x k && decide (i ≤ k) then -1 else T 9 k)) ∧ FK S0 (ly M' e (-1)) a) (fun r => RB (r 1) T n ∧ FK S0 (ly M' e (-1)) r) (by omega) (fun r' h1' ⟨hr1', hr2'⟩ => ?_) ⟨⟨_, q5, rows, fun k hk => by rw [(q k).1, decide_eq_true (show k < 14 by omega)]; simp⟩, FK.refl _ _⟩ (fun i a hi hI => Or.inl ?_) (fun a hI => ⟨a, ?_, ?_, hI.2⟩)
      · rw [r5_lays_z _ he']
        simp only [zs_b, zs_1, zs_2, zs_3, h1']
        exact ⟨0, r', rfl, qF.trans ((FK.ly he').trans (hr2'.mono (fun r _ => rfl))), rfl, hr1'⟩
      · obtain ⟨⟨T'', k1, k2, k3⟩, kF⟩ := hI
        have hi14 : i < 14 := by omega
        unfold r5_insertsAt_b77
        have hm : r5_many a = some (nI n) := zmany k1
        simp only [zs_1, hm, zs_b, zs_1, zs_2, zs_3, z_bit1 x (show i < 32 by omega)]
        rw [if_neg (nI_ge hi (by omega))]
        cases hb : bt x i
        · rw [if_neg (by decide)]
          refine ⟨a, rfl, ⟨T'', k1, k2, fun k hk => ?_⟩, kF⟩
          rw [k3 k hk]
          by_cases ek : k = i
          · rw [ek, hb]; simp
          · have : decide (i ≤ k) = decide (i + 1 ≤ k) := by apply decide_eq_decide.mpr; omega
            rw [this]
        · rw [if_pos rfl, z_rd hi14 (by decide), show a 14 i = T 9 i from (congrFun (kF.1 14 (by decide) rfl) i).trans (hst i hb)]
          simp only [zs_b, zs_1, zs_2, zs_3, r5_lays_z a hi14]
          refine ⟨ly a i (T 9 i), rfl, ⟨upr T'' 9 (upd (T'' 9) i (T 9 i)), ?_, fun r r9 r10 => (upr_n _ _ _ r9).trans (k2 r r9 r10), fun k hk => ?_⟩, kF.trans (FK.ly hi14)⟩
          · rw [ly1]; exact k1.lay hn hi14 (upr_s _ _ _) (fun r r9 _ => upr_n _ _ _ r9)
          · rw [upr_s]
            by_cases ek : k = i
            · rw [ek, upd_s, decide_eq_false (show ¬ i + 1 ≤ i by omega)]; simp
            · rw [upd_n ek, k3 k hk]
              have : decide (i ≤ k) = decide (i + 1 ≤ k) := by apply decide_eq_decide.mpr; omega
              rw [this]
      · obtain ⟨⟨T'', k1, _, _⟩, _⟩ := hI
        unfold r5_insertsAt_b77
        simp only [zs_1, zmany k1, zs_b, zs_1, zs_2, zs_3]
        rw [if_pos (nI_le (Nat.le_refl n) (by omega))]
      · obtain ⟨⟨T'', k1, k2, k3⟩, _⟩ := hI
        obtain ⟨z1, z2, z3, z4⟩ := k1
        refine ⟨fun i hi => ?_, fun i hi => ?_, z3, fun i hi => ?_⟩
        · have := z1 i hi
          rw [k2 0 (by decide) (by decide), k2 1 (by decide) (by decide), k2 2 (by decide) (by decide), k2 3 (by decide) (by decide)] at this
          exact this
        · have := z2 i hi
          rw [k2 4 (by decide) (by decide)] at this
          exact this
        · have := z4 i hi
          rw [k2 5 (by decide) (by decide), k2 6 (by decide) (by decide), k2 7 (by decide) (by decide), k2 8 (by decide) (by decide), k2 12 (by decide) (by decide), k2 11 (by decide) (by decide), k3 i hi, decide_eq_false (show ¬ n ≤ i by omega)] at this
          simpa using this
  · obtain ⟨k1, kF, k3⟩ := hI
    have hi14 : i < 14 := by omega
    unfold r5_insertsAt_b3
    have hm : r5_many a = some (nI n) := zmany k1
    simp only [zs_1, hm, zs_b, zs_1, zs_2, zs_3, z_bit0 x (show i < 32 by omega)]
    rw [if_neg (nI_ge hi (by omega))]
    have hs : lfs (bt x) T (i + 1) = if bt x i then lf (lfs (bt x) T i) i else lfs (bt x) T i := rfl
    cases hb : bt x i
    · rw [if_pos rfl]
      rw [hb] at hs
      refine ⟨a, rfl, by rw [hs]; exact k1, kF, fun j hj hbj => ?_⟩
      by_cases ej : j = i
      · rw [ej, hb] at hbj; cases hbj
      · exact k3 j (by omega) hbj
    · rw [if_neg (by decide), zo84 k1 hi hi14]
      rw [hb] at hs
      have e9 : lfs (bt x) T i 9 i = T 9 i := by rw [((lfs_row (bt x) T i).2 i).1, decide_eq_false (show ¬ i < i by omega)]; simp
      rw [e9]
      simp only [zs_b, zs_1, zs_2, zs_3, z_wr hi14 (show 14 < 2 ^ 31 by decide), r5_lays_z _ hi14]
      refine ⟨_, rfl, ?_, kF.trans ((FK.row (by decide) rfl).trans (FK.ly hi14)), fun j hj hbj => ?_⟩
      · rw [hs]
        have k1' : RB ((upr a 14 (upd (a 14) i (T 9 i))) 1) (lfs (bt x) T i) n := by rw [upr_n _ _ _ (by decide)]; exact k1
        exact k1'.lfW hn hi14
      · rw [lyn _ _ _ (by decide), upr_s]
        by_cases ej : j = i
        · rw [ej, upd_s]
        · rw [upd_n ej]; exact k3 j (by omega) hbj
  · unfold r5_insertsAt_b3
    simp only [zs_1, zmany hI.1, zs_b, zs_1, zs_2, zs_3]
    rw [if_pos (nI_le (Nat.le_refl n) (by omega))]
theorem r5_inserts_z {M T : OS} {n e : Nat} (hW : WF T n) (hR : RB (M 1) T n) (he : e < n) (h9 : T 9 e = -1) : ∃ v M', r5_inserts M (nI e) = some (v, M') ∧ FK S14 M M' ∧ match insS T e with | .inr (m, T') => v = nI m ∧ RB (M' 1) T' n | .inl _ => v = -1 ∧ RB (M' 1) T n := by
  have hn := hW.le
  have inner : ∀ m, m < 3 → ∀ M, RB (M 1) T n → ∃ r, it2 (r5_inserts_b9 (nI e) (nI m)) 200 M 0 = some r ∧ (match zlo (istep T e m) () 60 with | .inr T' => ∃ M', r = .inr (nI m, M') ∧ RB (M' 1) T' n ∧ FK S14 M M' | .inl _ => ∃ M', r = .inl M' ∧ RB (M' 1) T n ∧ FK S14 M M') := fun m hm M hR => by
    refine zi2 (F := r5_inserts_b9 (nI e) (nI m)) (a0 := M) 60 (fun k a => RB (a 1) T n ∧ FK S14 M a ∧ zlo (istep T e m) () k = .inl ()) (fun r => match zlo (istep T e m) () 60 with | .inr T' => ∃ M', r = .inr (nI m, M') ∧ RB (M' 1) T' n ∧ FK S14 M M' | .inl _ => ∃ M', r = .inl M' ∧ RB (M' 1) T n ∧ FK S14 M M') (by decide) ⟨hR, FK.refl _ _, rfl⟩ (fun k a hk hI => ?_) (fun a hI => ⟨.inl a, ?_, ?_⟩)
    · obtain ⟨kR, kF, hz⟩ := hI
      unfold r5_inserts_b9
      rw [if_neg (show ¬ (60 : Int32) ≤ nI k from nI_ge hk (by decide))]
      simp only [zs_1, r5_isSuitable_z hW kR he hk, r5_hinderingOf_z hW kR he hk, r5_bits_z (fun i h1 _ => hin_hi T e k h1), r5_hasFixed_z hW kR (fun j hj => (hin_in hW hj).1), zs_b, zs_1, zs_2, zs_3, z_bcm hm, zs_2]
      by_cases hu : uns T e k = 0
      · rw [if_pos hu, if_neg (show ¬ (1 : Int32) = 0 by decide)]
        by_cases hc : zct (bt (hin T e k)) 14 = m
        · rw [if_pos hc]
          cases hf : zan (fxd T (bt (hin T e k))) 14
          · rw [if_neg (show ¬ false = true by decide), if_pos rfl]
            obtain ⟨v, M', q1, q2, q3⟩ := r5_insertsAt_z hW kR he h9 hk (fun i hi => hin_hi T e k hi) (fun j hj => ⟨(hin_in hW hj).1, (hin_in hW hj).2.1⟩)
            rw [q1]
            have hins : insA T e m k = pan (bt (hin T e k)) (T 9) 14 0 (mv (lfs (bt (hin T e k)) T 14) e k) := by
              unfold insA; rw [if_pos hu, if_pos hc, hf]; rfl
            cases hpn : pan (bt (hin T e k)) (T 9) 14 0 (mv (lfs (bt (hin T e k)) T 14) e k) with
            | some T' =>
              rw [hpn] at q3 hins
              obtain ⟨rfl, q4⟩ := q3
              right
              refine ⟨.inr (nI m, M'), ?_, ?_⟩
              · simp only [zs_b, zs_1, zs_2, zs_3]
                rw [if_neg (show ¬ (1 : Int32) = 0 by decide)]
              · have : zlo (istep T e m) () (k + 1) = .inr T' := by rw [zlo_s hz]; unfold istep; rw [hins]
                rw [zlo_stay this (by omega)]
                exact ⟨M', rfl, q4, kF.trans q2⟩
            | none =>
              rw [hpn] at q3 hins
              obtain ⟨rfl, q4⟩ := q3
              left
              exact ⟨M', by simp only [zs_b, zs_1, zs_2, zs_3, if_true], q4, kF.trans q2, by rw [zlo_s hz]; unfold istep; rw [hins]⟩
          · rw [if_pos rfl, if_neg (show ¬ (1 : Int32) = 0 by decide)]
            left
            exact ⟨a, rfl, kR, kF, by rw [zlo_s hz]; unfold istep insA; rw [if_pos hu, if_pos hc, hf]; rfl⟩
        · rw [if_neg hc]
          left
          exact ⟨a, rfl, kR, kF, by rw [zlo_s hz]; unfold istep insA; rw [if_pos hu, if_neg hc]⟩
      · rw [if_neg hu, if_pos rfl]
        left
        exact ⟨a, rfl, kR, kF, by rw [zlo_s hz]; unfold istep insA; rw [if_neg hu]⟩
    · unfold r5_inserts_b9
      rw [if_pos (show (60 : Int32) ≤ nI 60 by decide)]
    · rw [hI.2.2]; exact ⟨a, rfl, hI.1, hI.2.1⟩
  unfold r5_inserts insS
  refine zi2k (F := r5_inserts_b2 (nI e)) (a0 := M) 3 (fun k a => RB (a 1) T n ∧ FK S14 M a ∧ zlo (jstep T e) () k = .inl ()) (fun r => match zlo (jstep T e) () 3 with | .inr (m, T') => ∃ M', r = .inr (nI m, M') ∧ RB (M' 1) T' n ∧ FK S14 M M' | .inl _ => ∃ M', r = .inl M' ∧ RB (M' 1) T n ∧ FK S14 M M') (by decide) (fun r h1 h2 => ?_) ⟨hR, FK.refl _ _, rfl⟩ (fun k a hk hI => ?_) (fun a hI => ⟨.inl a, ?_, ?_⟩)
  · rw [h1]
    cases hz : zlo (jstep T e) () 3 with
    | inl u =>
      rw [hz] at h2
      obtain ⟨M', rfl, q1, q2⟩ := h2
      exact ⟨-1, M', rfl, q2, rfl, q1⟩
    | inr z =>
      rw [hz] at h2
      obtain ⟨M', rfl, q1, q2⟩ := h2
      exact ⟨nI z.1, M', rfl, q2, rfl, q1⟩
  · obtain ⟨kR, kF, hz⟩ := hI
    unfold r5_inserts_b2
    rw [if_neg (show ¬ (3 : Int32) ≤ nI k from nI_ge hk (by decide))]
    obtain ⟨r, q1, q2⟩ := inner k hk a kR
    rw [q1]
    cases hA : zlo (istep T e k) () 60 with
    | inl u =>
      rw [hA] at q2
      obtain ⟨M', rfl, q3, q4⟩ := q2
      left
      exact ⟨M', by simp only [zs_1l, zs_1r, zs_b, zs_1, zs_2, zs_3], q3, kF.trans q4, by rw [zlo_s hz]; unfold jstep; rw [hA]⟩
    | inr T' =>
      rw [hA] at q2
      obtain ⟨M', rfl, q3, q4⟩ := q2
      right
      refine ⟨.inr (nI k, M'), by simp only [zs_1l, zs_1r, zs_b, zs_1, zs_2, zs_3], ?_⟩
      have : zlo (jstep T e) () (k + 1) = .inr (k, T') := by rw [zlo_s hz]; unfold jstep; rw [hA]
      rw [zlo_stay this (by omega)]
      exact ⟨M', rfl, q3, kF.trans q4⟩
  · unfold r5_inserts_b2
    rw [if_pos (show (3 : Int32) ≤ nI 3 by decide)]
  · rw [hI.2.2]; exact ⟨a, rfl, hI.1, hI.2.1⟩
