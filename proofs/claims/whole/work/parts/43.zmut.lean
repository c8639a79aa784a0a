/-! THE PURE LAYER: what changes a table -/
def rel (T : OS) (e : Nat) : OS := upr (lf T e) 12 (upd (T 12) e 0)
theorem rel12 (T : OS) (e : Nat) : rel T e 12 = upd (T 12) e 0 := upr_s _ _ _
theorem rel9 (T : OS) (e : Nat) : rel T e 9 = upd (T 9) e (-1) := by unfold rel; rw [upr_n _ _ _ (by decide), lf9]
theorem rel10 (T : OS) (e : Nat) : rel T e 10 = upd (T 10) e 0 := by unfold rel; rw [upr_n _ _ _ (by decide), lf10]
theorem reln (T : OS) (e : Nat) {r : Nat} (h : r ≠ 9) (h' : r ≠ 10) (h'' : r ≠ 12) : rel T e r = T r := by unfold rel; rw [upr_n _ _ _ h'', lfn _ _ h h']
theorem r3_release_z (T : OS) {e : Nat} (he : e < 14) : r3_release T (nI e) = some (rel T e) := by
  unfold r3_release
  rw [r3_moveTo_l T he, zs_1, z_zz0, zs_b, z_wr he (by decide), zs_b, lfn _ _ (by decide) (by decide)]
  rfl
theorem WF.relW {T : OS} {n e : Nat} (h : WF T n) : WF (rel T e) n := by
  obtain ⟨h1, h2, h3, h4, h5, h6⟩ := h
  refine ⟨h1, by rw [reln _ _ (by decide) (by decide) (by decide)]; exact h2, fun i hi => ?_, fun i hi => ?_, fun i hi hi2 => ?_, fun i hi => ?_⟩
  · rw [reln _ _ (by decide) (by decide) (by decide), reln _ _ (by decide) (by decide) (by decide), reln _ _ (by decide) (by decide) (by decide), reln _ _ (by decide) (by decide) (by decide)]; exact h3 i hi
  · rw [rel9, rel10, reln _ _ (by decide) (by decide) (by decide)]
    by_cases q : i = e
    · subst q
      rw [upd_s, upd_s]
      exact Or.inl ⟨rfl, rfl⟩
    · rw [upd_n q, upd_n q]; exact h4 i hi
  · rw [reln _ _ (by decide) (by decide) (by decide), rel12]
    refine ⟨(h5 i hi hi2).1, ?_⟩
    by_cases q : i = e
    · rw [q, upd_s]
    · rw [upd_n q]; exact (h5 i hi hi2).2
  · rw [rel12]
    by_cases q : i = e
    · rw [q, upd_s]; exact Or.inl rfl
    · rw [upd_n q]; exact h6 i hi
/-- one row of a block -/
theorem RB.upd1 {f : Nat → Int32} {T T' : OS} {n e a r : Nat} {x : Int32} (h : RB f T n) (hn : n ≤ 14) (he : e < 14) (ha : (a = 42 ∧ r = 6) ∨ (a = 84 ∧ r = 9) ∨ (a = 98 ∧ r = 12) ∨ (a = 112 ∧ r = 11)) (hr : T' r = upd (T r) e x) (hq : ∀ q, q ≠ r → q ≠ 10 → T' q = T q) : RB (upd f (a + e) x) T' n := by
  obtain ⟨h1, h2, h3, h4⟩ := h
  have hrow : ∀ r', (∀ i, r' ≠ r → r' ≠ 10 → T' r' i = T r' i) := fun r' i h1 h2 => by rw [hq r' h1 h2]
  refine ⟨fun i hi => ?_, fun i hi => ?_, ?_, fun i hi => ?_⟩
  · rw [hq 0 (by omega) (by decide), hq 1 (by omega) (by decide), hq 2 (by omega) (by decide), hq 3 (by omega) (by decide)]
    rw [upd_n (by omega), upd_n (by omega), upd_n (by omega), upd_n (by omega)]
    exact h1 i hi
  · rw [hq 4 (by omega) (by decide), upd_n (by omega)]; exact h2 i hi
  · rw [upd_n (by omega)]; exact h3
  · obtain ⟨a1, a2, a3, a4, a5, a6, a7⟩ := h4 i hi
    have hcase : ∀ (b r' : Nat) (_ : b ≤ 112 ∧ b % 14 = 0 ∧ 28 ≤ b) (_ : b = a ↔ r' = r) (_ : r' ≠ 10) (_ : f (b + i) = T r' i), upd f (a + e) x (b + i) = T' r' i := by
      intro b r' hb hbr h10 hf
      by_cases e1 : r' = r
      · have e2 : b = a := hbr.mpr e1
        rw [e1, hr, e2]
        by_cases e3 : i = e
        · rw [e3, upd_s, upd_s]
        · rw [upd_n (by omega), upd_n e3, ← e2, hf, e1]
      · have e2 : b ≠ a := fun z => e1 (hbr.mp z)
        rw [upd_n (by omega), hq r' e1 h10]; exact hf
    exact ⟨hcase 28 5 (by omega) (by omega) (by decide) a1, hcase 42 6 (by omega) (by omega) (by decide) a2, hcase 56 7 (by omega) (by omega) (by decide) a3, hcase 70 8 (by omega) (by omega) (by decide) a4, hcase 84 9 (by omega) (by omega) (by decide) a5, hcase 98 12 (by omega) (by omega) (by decide) a6, hcase 112 11 (by omega) (by omega) (by decide) a7⟩
theorem r5_lifts_z {M T : OS} {n e : Nat} (hn : n ≤ 14) (hR : RB (M 1) T n) (he : e < 14) : ∃ M', r5_lifts M (nI e) = some M' ∧ RB (M' 1) (rel T e) n ∧ FK S0 M M' := by
  unfold r5_lifts
  rw [show (84 : Int32) = nI 84 from rfl, nI_add, z_wr (by omega) (by decide), zs_b, show (98 : Int32) = nI 98 from rfl, nI_add, z_wr (by omega) (by decide), zs_b]
  refine ⟨_, rfl, ?_, ?_, fun k hk => ?_⟩
  · rw [upr_s, upr_s]
    have h1 : RB (upd (M 1) (84 + e) (-1)) (upr T 9 (upd (T 9) e (-1))) n := hR.upd1 hn he (by omega) (upr_s _ _ _) (fun q hq _ => upr_n _ _ _ hq)
    exact h1.upd1 hn he (r := 12) (by omega) (by rw [rel12, upr_n _ _ _ (by decide)]) (fun q hq h10 => by
      by_cases e9 : q = 9
      · rw [e9, rel9, upr_s]
      · rw [reln _ _ e9 h10 hq, upr_n _ _ _ e9])
  · intro r hr _
    rw [upr_n _ _ _ hr, upr_n _ _ _ hr]
  · rw [upr_s, upr_s, upd_n (by omega), upd_n (by omega)]
def clstep (s : OS × Nat) (e : Nat) : OS × Nat := if plc s.1 e && !decide (uns s.1 e (pl s.1 e) = 0) then (rel s.1 e, s.2 + 1) else s
def clF (T : OS) : Nat → OS × Nat := zfo clstep (T, 0)
theorem clF_WF {T : OS} {n : Nat} (hW : WF T n) : ∀ m, WF (clF T m).1 n
  | 0 => hW
  | m + 1 => by
    show WF (clstep (clF T m) m).1 n
    unfold clstep
    split
    · exact (clF_WF hW m).relW
    · exact clF_WF hW m
theorem r3_unplaceUnsuitable_z {T : OS} {n : Nat} (hW : WF T n) : r3_unplaceUnsuitable T = some (nI (clF T n).2, (clF T n).1) := by
  have hn := hW.le
  unfold r3_unplaceUnsuitable
  obtain ⟨r, h1, h2⟩ := zi3 (F := r3_unplaceUnsuitable_b4) (a0 := T) (b0 := (0 : Int32)) 14 (fun e a b => a = (clF T e).1 ∧ b = nI (clF T e).2 ∧ (n ≤ e → clF T e = clF T n)) (fun r => r = ((clF T n).1, nI (clF T n).2)) (by decide) ⟨rfl, rfl, fun h => by rw [Nat.le_zero.mp h]⟩ (fun e a b he hI => Or.inl (by
    obtain ⟨rfl, rfl, h3⟩ := hI
    have hWe := clF_WF hW e
    have hs : clF T (e + 1) = clstep (clF T e) e := rfl
    unfold r3_unplaceUnsuitable_b4
    rw [if_neg (show ¬ (14 : Int32) ≤ nI e from nI_ge he (by decide)), z_rd he (by decide), zs_b, hs]
    unfold clstep
    rcases hWe.plW he with ⟨p1, p2⟩ | ⟨p1, p2, _, hen, p3⟩
    · rw [p1, p2, if_pos rfl]
      refine ⟨_, _, rfl, rfl, rfl, fun h => ?_⟩
      show clF T e = clF T n
      by_cases c : n ≤ e
      · exact h3 c
      · rw [show n = e + 1 by omega, hs]
        unfold clstep
        rw [p2]; rfl
    · rw [p3, p2, if_neg (z_nm1 (by omega)), r3_unsuitableAt_z hWe hen p1, zs_1, r3_release_z _ he, zs_1]
      have hnot : ¬ n ≤ e := by omega
      by_cases c : uns (clF T e).1 e (pl (clF T e).1 e) = 0
      · rw [if_pos c, decide_eq_true c]
        refine ⟨_, _, rfl, rfl, rfl, fun h => ?_⟩
        rw [show n = e + 1 by omega, hs]
        unfold clstep
        rw [decide_eq_true c, p3]
      · rw [if_neg c, decide_eq_false c, nI_1]
        refine ⟨_, _, rfl, rfl, rfl, fun h => ?_⟩
        rw [show n = e + 1 by omega, hs]
        unfold clstep
        rw [decide_eq_false c, p3])) (fun a b hI => ⟨(a, b), (by
    unfold r3_unplaceUnsuitable_b4
    rw [if_pos (show (14 : Int32) ≤ nI 14 by decide)]), by rw [hI.1, hI.2.1, hI.2.2 hn]⟩)
  rw [h1, h2]; rfl
theorem r5_clears_z {M T : OS} {n : Nat} (hW : WF T n) (hR : RB (M 1) T n) : ∃ M', r5_clears M = some (nI (clF T n).2, M') ∧ RB (M' 1) (clF T n).1 n ∧ FK S0 M M' := by
  have hn := hW.le
  unfold r5_clears
  obtain ⟨r, h1, M', h2, h3⟩ := zi3 (F := r5_clears_b4) (a0 := M) (b0 := (0 : Int32)) n (fun e a b => b = nI (clF T e).2 ∧ RB (a 1) (clF T e).1 n ∧ FK S0 M a) (fun r => ∃ M', r = (M', nI (clF T n).2) ∧ RB (M' 1) (clF T n).1 n ∧ FK S0 M M') (by omega) ⟨rfl, hR, FK.refl _ _⟩ (fun e a b he hI => Or.inl (by
    obtain ⟨rfl, hRa, hF⟩ := hI
    have he' : e < 14 := by omega
    have hWe := clF_WF hW e
    have hs : clF T (e + 1) = clstep (clF T e) e := rfl
    unfold r5_clears_b4
    rw [zmany hRa, zs_1, if_neg (nI_ge he (by omega)), zo84 hRa he he', zs_1, hs]
    unfold clstep
    rcases hWe.plW he' with ⟨p1, p2⟩ | ⟨p1, p2, _, hen, p3⟩
    · rw [p1, p2, if_pos z_m1lt]
      exact ⟨_, _, rfl, rfl, hRa, hF⟩
    · rw [p3, p2, if_neg (nI_pos (by omega)), zs_1, r5_isSuitable_z hWe hRa he p1, zs_1]
      by_cases c : uns (clF T e).1 e (pl (clF T e).1 e) = 0
      · rw [if_pos c, if_neg (show ¬ (1 : Int32) = 0 by decide), decide_eq_true c]
        exact ⟨_, _, rfl, rfl, hRa, hF⟩
      · obtain ⟨M1, m1, m2, m3⟩ := r5_lifts_z hn hRa he'
        rw [if_neg c, if_pos rfl, m1, zs_1, decide_eq_false c, nI_1]
        exact ⟨_, _, rfl, rfl, m2, hF.trans m3⟩)) (fun a b hI => ⟨(a, b), (by
    unfold r5_clears_b4
    rw [zmany hI.2.1, zs_1, if_pos (nI_le (Nat.le_refl n) (by omega))]), a, by rw [hI.1], hI.2.1, hI.2.2⟩)
  exact ⟨M', by rw [h1, h2]; rfl, h3⟩
/-! a new event -/
def nwT (T : OS) (n : Nat) (t g x l : Int32) : OS := us (upr (upr (upr (upr T 5 (upd (T 5) n t)) 6 (upd (T 6) n g)) 7 (upd (T 7) n x)) 8 (upd (T 8) n l)) 13 (nI (n + 1))
theorem nw5 (T : OS) (n : Nat) (t g x l : Int32) : nwT T n t g x l 5 = upd (T 5) n t := by unfold nwT; rw [us_n _ _ _ (by decide), upr_n _ _ _ (by decide), upr_n _ _ _ (by decide), upr_n _ _ _ (by decide), upr_s]
theorem nw6 (T : OS) (n : Nat) (t g x l : Int32) : nwT T n t g x l 6 = upd (T 6) n g := by unfold nwT; rw [us_n _ _ _ (by decide), upr_n _ _ _ (by decide), upr_n _ _ _ (by decide), upr_s]
theorem nw7 (T : OS) (n : Nat) (t g x l : Int32) : nwT T n t g x l 7 = upd (T 7) n x := by unfold nwT; rw [us_n _ _ _ (by decide), upr_n _ _ _ (by decide), upr_s]
theorem nw8 (T : OS) (n : Nat) (t g x l : Int32) : nwT T n t g x l 8 = upd (T 8) n l := by unfold nwT; rw [us_n _ _ _ (by decide), upr_s]
theorem nwn (T : OS) (n : Nat) (t g x l : Int32) {r : Nat} (h : r < 5 ∨ 9 ≤ r) (h' : r ≠ 13) : nwT T n t g x l r = T r := by unfold nwT; rw [us_n _ _ _ h', upr_n _ _ _ (by omega), upr_n _ _ _ (by omega), upr_n _ _ _ (by omega), upr_n _ _ _ (by omega)]
theorem r3_newEvent_z {T : OS} {n : Nat} (hW : WF T n) (hn : n < 14) (t g x l : Int32) : r3_newEvent T t g x l = some (nI n, nwT T n t g x l) := by
  unfold r3_newEvent
  rw [hW.2.1, if_neg (nI_pos (by omega)), if_pos (show nI n < 14 from nI_lt (b := 14) hn (by decide)), z_wr hn (by decide), zs_b, z_wr hn (by decide), zs_b, z_wr hn (by decide), zs_b, z_wr hn (by decide), zs_b]
  unfold sw nwT
  rw [zs_b, nI_1]
  simp only [upr_n _ _ _ (show (6 : Nat) ≠ 5 by decide), upr_n _ _ _ (show (7 : Nat) ≠ 6 by decide), upr_n _ _ _ (show (7 : Nat) ≠ 5 by decide), upr_n _ _ _ (show (8 : Nat) ≠ 7 by decide), upr_n _ _ _ (show (8 : Nat) ≠ 6 by decide), upr_n _ _ _ (show (8 : Nat) ≠ 5 by decide)]
theorem nw_WF {T : OS} {n : Nat} (hW : WF T n) (hn : n < 14) {t g x l : Int32} (ht : ∃ k, k < 6 ∧ t = nI k) (hg : ∃ k, k < 64 ∧ g = nI k) (hx : ∃ k, k < 16 ∧ x = nI k) (hl : l = 1 ∨ l = 2) : WF (nwT T n t g x l) (n + 1) := by
  obtain ⟨h1, h2, h3, h4, h5, h6⟩ := hW
  refine ⟨by omega, by unfold nwT; rw [us_s], fun i hi => ?_, fun i hi => ?_, fun i hi hi2 => ?_, fun i hi => ?_⟩
  · rw [nw5, nw6, nw7, nw8]
    by_cases e : i = n
    · rw [e, upd_s, upd_s, upd_s, upd_s]; exact ⟨ht, hg, hx, hl⟩
    · rw [upd_n e, upd_n e, upd_n e, upd_n e]; exact h3 i (by omega)
  · rw [nwn _ _ _ _ _ _ (by omega) (by decide), nwn _ _ _ _ _ _ (by omega) (by decide), nw8]
    rcases h4 i hi with h | ⟨p, hp, q1, q2, q3⟩
    · exact Or.inl h
    · right
      rw [upd_n (by omega)]
      exact ⟨p, hp, q1, q2, by omega⟩
  · rw [nwn _ _ _ _ _ _ (by omega) (by decide), nwn _ _ _ _ _ _ (by omega) (by decide)]; exact h5 i (by omega) hi2
  · rw [nwn _ _ _ _ _ _ (by omega) (by decide)]; exact h6 i hi
theorem r5_opens_z {M T : OS} {n : Nat} (hW : WF T n) (hR : RB (M 1) T n) (hn : n < 14) (t g x l : Int32) : ∃ M', r5_opens M t g x l = some (nI n, M') ∧ RB (M' 1) (nwT T n t g x l) (n + 1) ∧ FK S0 M M' := by
  unfold r5_opens
  rw [show (27 : Int32) = nI 27 from rfl, z_rd (show 27 < 1008 by decide) (by decide), hR.2.2.1, zs_b, zs_b, nI_1, z_wr (show 27 < 1008 by decide) (by decide), zs_b]
  rw [show (28 : Int32) = nI 28 from rfl, nI_add, z_wr (show 28 + n < 1008 by omega) (by decide), zs_b, show (42 : Int32) = nI 42 from rfl, nI_add, z_wr (show 42 + n < 1008 by omega) (by decide), zs_b, show (56 : Int32) = nI 56 from rfl, nI_add, z_wr (show 56 + n < 1008 by omega) (by decide), zs_b, show (70 : Int32) = nI 70 from rfl, nI_add, z_wr (show 70 + n < 1008 by omega) (by decide), zs_b, show (84 : Int32) = nI 84 from rfl, nI_add, z_wr (show 84 + n < 1008 by omega) (by decide), zs_b, show (98 : Int32) = nI 98 from rfl, nI_add, z_wr (show 98 + n < 1008 by omega) (by decide), zs_b, show (112 : Int32) = nI 112 from rfl, nI_add, z_wr (show 112 + n < 1008 by omega) (by decide), zs_b]
  simp only [upr_s]
  obtain ⟨h1, h2, h3, h4⟩ := hR
  obtain ⟨o1, o2, o3, o4⟩ := hW.out (Nat.le_refl n) hn
  refine ⟨_, rfl, ?_, ?_, fun k hk => ?_⟩
  · simp only [upr_s]
    refine ⟨fun i hi => ?_, fun i hi => ?_, ?_, fun i hi => ?_⟩
    · rw [nwn _ _ _ _ _ _ (by omega) (by decide), nwn _ _ _ _ _ _ (by omega) (by decide), nwn _ _ _ _ _ _ (by omega) (by decide), nwn _ _ _ _ _ _ (by omega) (by decide)]
      have e : ∀ j, j < 27 → upd (upd (upd (upd (upd (upd (upd (upd (M 1) 27 (nI (n + 1))) (28 + n) t) (42 + n) g) (56 + n) x) (70 + n) l) (84 + n) (-1)) (98 + n) 0) (112 + n) (-1) j = M 1 j := fun j hj => by
        rw [upd_n (by omega), upd_n (by omega), upd_n (by omega), upd_n (by omega), upd_n (by omega), upd_n (by omega), upd_n (by omega), upd_n (by omega)]
      rw [e i (by omega), e _ (by omega), e _ (by omega), e _ (by omega)]
      exact h1 i hi
    · rw [nwn _ _ _ _ _ _ (by omega) (by decide), upd_n (by omega), upd_n (by omega), upd_n (by omega), upd_n (by omega), upd_n (by omega), upd_n (by omega), upd_n (by omega), upd_n (by omega)]
      exact h2 i hi
    · rw [upd_n (by omega), upd_n (by omega), upd_n (by omega), upd_n (by omega), upd_n (by omega), upd_n (by omega), upd_n (by omega), upd_s]
    · rw [nw5, nw6, nw7, nw8, nwn _ _ _ _ _ _ (by omega) (by decide), nwn _ _ _ _ _ _ (by omega) (by decide), nwn _ _ _ _ _ _ (by omega) (by decide)]
      by_cases e : i = n
      · subst e
        rw [upd_s, upd_s, upd_s, upd_s, o1, o3, o4]
        refine ⟨?_, ?_, ?_, ?_, ?_, ?_, ?_⟩
        · rw [upd_n (by omega), upd_n (by omega), upd_n (by omega), upd_n (by omega), upd_n (by omega), upd_n (by omega), upd_s]
        · rw [upd_n (by omega), upd_n (by omega), upd_n (by omega), upd_n (by omega), upd_n (by omega), upd_s]
        · rw [upd_n (by omega), upd_n (by omega), upd_n (by omega), upd_n (by omega), upd_s]
        · rw [upd_n (by omega), upd_n (by omega), upd_n (by omega), upd_s]
        · rw [upd_n (by omega), upd_n (by omega), upd_s]
        · rw [upd_n (by omega), upd_s]
        · rw [upd_s]
      · rw [upd_n e, upd_n e, upd_n e, upd_n e]
        have q : ∀ b, (b = 28 ∨ b = 42 ∨ b = 56 ∨ b = 70 ∨ b = 84 ∨ b = 98 ∨ b = 112) → upd (upd (upd (upd (upd (upd (upd (upd (M 1) 27 (nI (n + 1))) (28 + n) t) (42 + n) g) (56 + n) x) (70 + n) l) (84 + n) (-1)) (98 + n) 0) (112 + n) (-1) (b + i) = M 1 (b + i) := fun b hb => by
          rw [upd_n (by omega), upd_n (by omega), upd_n (by omega), upd_n (by omega), upd_n (by omega), upd_n (by omega), upd_n (by omega), upd_n (by omega)]
        rw [q 28 (by omega), q 42 (by omega), q 56 (by omega), q 70 (by omega), q 84 (by omega), q 98 (by omega), q 112 (by omega)]
        exact h4 i (by omega)
  · intro r hr _
    simp only [upr_n _ _ _ hr]
  · simp only [upr_s]
    rw [upd_n (by omega), upd_n (by omega), upd_n (by omega), upd_n (by omega), upd_n (by omega), upd_n (by omega), upd_n (by omega), upd_n (by omega)]
