/-! THE PURE LAYER: an exchange, its end -/
section EX3
variable {T M : OS} {n s t : Nat} {x : Int32}
theorem zst_hi (p : Nat → Bool) {i : Nat} (h : 14 ≤ i) : bt (zst p 14) i = false := by
  by_cases hi : i < 32
  · rw [zst_bt p 14 i (by decide) hi, decide_eq_false (by omega)]; rfl
  · exact b_big (by omega)
theorem bdp_1 (h : zan (bdp T x s t) 14 = false) {o : Nat} (ho : bt x o = true) (h14 : o < 14) : T 8 o = 1 := by
  apply Classical.byContradiction
  intro hc
  have : zan (bdp T x s t) 14 = true := zan_iff.mpr ⟨o, h14, by unfold bdp; rw [ho, decide_eq_false hc]; rfl⟩
  rw [h] at this; cases this
theorem mem_t (hW : WF T n) (hi : ins T x s t) (hs : s < 10) (ht : t < 10) (hst : s ≠ t) (h : zan (bdp T x s t) 14 = false) {o : Nat} (h14 : o < 14) : (bt x o && bt (T 10 o) t) = inT T x t o ∧ (bt x o && bt (T 10 o) s) = ouT T x t o := by
  unfold inT ouT
  cases hb : bt x o
  · exact ⟨rfl, rfl⟩
  · obtain ⟨p1, p2, p3, p4, p5⟩ := ins_pl hW hi hs ht hb h14
    have h8 := bdp_1 h hb h14
    rw [p3, h8, slS_1, zb_bt _ (by omega) t (by omega), zb_bt _ (by omega) s (by omega)]
    simp only [Bool.true_and]
    refine ⟨trivial, ?_⟩
    rcases p5 h8 with e | e
    · rw [e, decide_eq_true rfl, decide_eq_false hst]; rfl
    · rw [e, decide_eq_false (fun z => hst z.symm), decide_eq_true rfl]; rfl
theorem r2_find_z (hW : WF T n) (hx : ∀ o, bt x o = true → o < n) (hi : ins T x s t) (hs : s < 10) (ht : t < 10) (hst : s ≠ t) (P : OS) : ∃ v P', r2_findRooms T P x (nI s) (nI t) = some (v, P') ∧
    if zan (bdp T x s t) 14 then v = 0 else match exG T x s t with | none => v = 0 | some R => v = 1 ∧ r2_swapSlots T P' x (nI s) (nI t) = some (swp T x (swQ T s t R) 14) ∧ ∀ j, bt x j = true → swQ T s t R j < 60 := by
  have hn := hW.le
  unfold r2_findRooms
  rw [r2_canSwap_z hW hi hs ht hst, zs_1]
  cases hbad : zan (bdp T x s t) 14
  · rw [if_neg (show ¬ (false = true) by decide), if_neg (show ¬ (1 : Int32) = 0 by decide), r2_membersIn_z T x (show t < 32 by omega), zs_1]
    obtain ⟨y1, hy1, hy2⟩ := r2_openRooms_z hW hx (show s < 32 by omega)
    obtain ⟨y3, hy3, hy4⟩ := r2_openRooms_z hW hx (show t < 32 by omega)
    rw [hy1, zs_1]
    have hC1 : ∀ j, j < 14 → bt (zst (fun o => bt x o && bt (T 10 o) t) 14) j = inT T x t j := fun j hj => by
      rw [zst_bt _ 14 j (by decide) (by omega), decide_eq_true hj, Bool.true_and]
      exact (mem_t hW hi hs ht hst hbad hj).1
    have hC2 : ∀ j, j < 14 → bt (zst (fun o => bt x o && bt (T 10 o) s) 14) j = ouT T x t j := fun j hj => by
      rw [zst_bt _ 14 j (by decide) (by omega), decide_eq_true hj, Bool.true_and]
      exact (mem_t hW hi hs ht hst hbad hj).2
    obtain ⟨v1, P1, g1, g2, g3⟩ := r2_giveRooms_z (T := T) (fun i hi => zst_hi (fun o => bt x o && bt (T 10 o) t) hi) 14 20 0 P (opS (lfs (bt x) T 14) s) y1 (by decide) (by decide) hy2
    rw [gv_C hC1 (by decide)] at g3
    rw [show r2_giveRooms 20 T P (zst (fun o => bt x o && bt (T 10 o) t) 14) y1 0 = some (v1, P1) from g1, zs_2]
    unfold exG
    cases hg1 : gv T (inT T x t) 14 0 (opS (lfs (bt x) T 14) s) with
    | none =>
      rw [hg1] at g3
      have g3' : v1 = 0 := g3
      rw [if_pos g3']
      exact ⟨_, _, rfl, rfl⟩
    | some R1 =>
      rw [hg1] at g3
      obtain ⟨rfl, g4⟩ := g3
      rw [if_neg (show ¬ (1 : Int32) = 0 by decide), r2_membersIn_z T x (show s < 32 by omega), zs_1, hy3, zs_1]
      obtain ⟨v2, P2, k1, k2, k3⟩ := r2_giveRooms_z (T := T) (fun i hi => zst_hi (fun o => bt x o && bt (T 10 o) s) hi) 14 20 0 P1 (opS (lfs (bt x) T 14) t) y3 (by decide) (by decide) hy4
      rw [gv_C hC2 (by decide)] at k3
      rw [show r2_giveRooms 20 T P1 (zst (fun o => bt x o && bt (T 10 o) s) 14) y3 0 = some (v2, P2) from k1, zs_2]
      cases hg2 : gv T (ouT T x t) 14 0 (opS (lfs (bt x) T 14) t) with
      | none =>
        rw [hg2] at k3
        have k3' : v2 = 0 := k3
        rw [if_pos k3']
        exact ⟨_, _, rfl, rfl⟩
      | some R2 =>
        rw [hg2] at k3
        obtain ⟨rfl, k4⟩ := k3
        rw [if_neg (show ¬ (1 : Int32) = 0 by decide)]
        have hlt : ∀ j, bt x j = true → swQ T s t (R1, R2) j < 60 := fun j hj => by
          have hj14 : j < 14 := by have := hx j hj; omega
          obtain ⟨p1, p2, p3, p4, p5⟩ := ins_pl hW hi hs ht hj hj14
          have h8 := bdp_1 hbad hj hj14
          unfold swQ
          rcases p5 h8 with e | e
          · rw [if_pos e]
            have := gv_lt hg2 j (Nat.zero_le j) (by omega) (by unfold ouT; rw [hj, e, decide_eq_false hst]; rfl)
            show t * 6 + R2 j < 60
            omega
          · rw [if_neg (by rw [e]; exact fun z => hst z.symm)]
            have := gv_lt hg1 j (Nat.zero_le j) (by omega) (by unfold inT; rw [hj, e, decide_eq_true rfl]; rfl)
            show s * 6 + R1 j < 60
            omega
        refine ⟨_, _, rfl, rfl, ?_, hlt⟩
        unfold r2_swapSlots
        refine zi2k (F := r2_swapSlots_b3 P2 x (nI s) (nI t)) (a0 := T) 14 (fun i a => a = swp T x (swQ T s t (R1, R2)) i) (fun a => a = swp T x (swQ T s t (R1, R2)) 14) (by decide) (fun r h1 h2 => by rw [h1, zs_1, h2]) rfl (fun i a hi14 hI => Or.inl ?_) (fun a hI => ⟨a, ?_, hI⟩)
        · have hs1 : swp T x (swQ T s t (R1, R2)) (i + 1) = if bt x i then mv (swp T x (swQ T s t (R1, R2)) i) i (swQ T s t (R1, R2) i) else swp T x (swQ T s t (R1, R2)) i := rfl
          rw [hI, hs1]
          unfold r2_swapSlots_b3
          rw [if_neg (show ¬ (14 : Int32) ≤ nI i from nI_ge hi14 (by decide)), r4_contains_z x (show i < 32 by omega), zs_1]
          cases hb : bt x i
          · exact ⟨_, rfl, rfl⟩
          · obtain ⟨p1, p2, p3, p4, p5⟩ := ins_pl hW hi hs ht hb hi14
            have h8 := bdp_1 hbad hb hi14
            have e9 : swp T x (swQ T s t (R1, R2)) i 9 i = nI (pl T i) := by
              rw [(swp_row T x (swQ T s t (R1, R2)) i).2 i, decide_eq_false (show ¬ i < i by omega), Bool.and_false]; exact p2
            have hlti := hlt i hb
            rw [if_pos rfl, if_neg (show ¬ (1 : Int32) = 0 by decide)]
            unfold r3_slotOf r2_swapSlots_j37
            rw [z_rd hi14 (by decide), e9, zs_b, z_d6 p1, zs_1, z_rd hi14 (by decide), zs_b, zs_b]
            rcases p5 h8 with e | e
            · have hP : P2 2 i = nI (R2 i) := k4 i (Nat.zero_le i) (by rw [hC2 i hi14]; unfold ouT; rw [hb, e, decide_eq_false hst]; rfl)
              have hQ : swQ T s t (R1, R2) i = t * 6 + R2 i := by unfold swQ; rw [if_pos e]
              rw [hQ] at hlti ⊢
              rw [e, if_pos (show nI s = nI s from rfl), hP, show (6 : Int32) = nI 6 from rfl, pk_mul, nI_add, r3_moveTo_z _ hi14 hlti, zs_1]
              exact ⟨_, rfl, rfl⟩
            · have hP : P2 2 i = nI (R1 i) := by
                rw [k2 i (Or.inr (by rw [hC2 i hi14]; unfold ouT; rw [hb, e, decide_eq_true rfl]; rfl))]
                exact g4 i (Nat.zero_le i) (by rw [hC1 i hi14]; unfold inT; rw [hb, e, decide_eq_true rfl]; rfl)
              have hQ : swQ T s t (R1, R2) i = s * 6 + R1 i := by unfold swQ; rw [if_neg (by rw [e]; exact fun z => hst z.symm)]
              rw [hQ] at hlti ⊢
              rw [e, if_neg (show ¬ nI t = nI s from fun z => hst ((nI_eq (by omega) (by omega)).mp z).symm), hP, show (6 : Int32) = nI 6 from rfl, pk_mul, nI_add, r3_moveTo_z _ hi14 hlti, zs_1]
              exact ⟨_, rfl, rfl⟩
        · unfold r2_swapSlots_b3
          rw [if_pos (show (14 : Int32) ≤ nI 14 by decide)]
  · rw [if_pos rfl, if_pos rfl]
    exact ⟨0, P, rfl, rfl⟩
theorem zan_cong {p q : Nat → Bool} : ∀ {n : Nat}, (∀ i, i < n → p i = q i) → zan p n = zan q n
  | 0, _ => rfl
  | n + 1, h => by
    show (zan p n || p n) = (zan q n || q n)
    rw [zan_cong (fun i hi => h i (by omega)), h n (by omega)]
theorem opS_cong {T T' : OS} {k : Nat} (h : ∀ o, o < 14 → (bt (T 10 o) k = false ∧ bt (T' 10 o) k = false) ∨ (T 10 o = T' 10 o ∧ pl T o = pl T' o)) : opS T k = opS T' k := by
  funext q
  unfold opS
  have e : zan (fun o => bt (T 10 o) k && decide (pl T o % 6 = q)) 14 = zan (fun o => bt (T' 10 o) k && decide (pl T' o % 6 = q)) 14 := by
    refine zan_cong (fun o ho => ?_)
    rcases h o ho with ⟨h1, h2⟩ | ⟨h1, h2⟩
    · show (bt (T 10 o) k && decide (pl T o % 6 = q)) = (bt (T' 10 o) k && decide (pl T' o % 6 = q))
      rw [h1, h2, Bool.false_and, Bool.false_and]
    · show (bt (T 10 o) k && decide (pl T o % 6 = q)) = (bt (T' 10 o) k && decide (pl T' o % 6 = q))
      rw [h1, h2]
  rw [e]
abbrev S145 : Nat → Bool := fun r => decide (r = 14) || decide (r = 15)
theorem r5_ex_l1 (hW : WF T n) (hR : RB (M 1) T n) (hi : ins T x s t) (hs : s < 10) (ht : t < 10) : ∃ M1 z, it3 (r5_exchange_b62 (nI t) (nI s) x) 200 M 0 0 = some (M1, z) ∧ (∀ r, r ≠ 14 → M1 r = M r) ∧ (∀ k, k < n → M1 14 k = T 9 k) ∧ ∀ o, o < 32 → bt z o = (decide (o < n) && inT T x t o) := by
  have hn := hW.le
  refine zi3k (F := r5_exchange_b62 (nI t) (nI s) x) (a0 := M) (b0 := (0 : Int32)) n (fun i a b => (∀ r, r ≠ 14 → a r = M r) ∧ (∀ k, k < i → a 14 k = T 9 k) ∧ ∀ o, o < 32 → bt b o = (decide (o < i) && inT T x t o)) (fun r => (∀ q, q ≠ 14 → r.1 q = M q) ∧ (∀ k, k < n → r.1 14 k = T 9 k) ∧ ∀ o, o < 32 → bt r.2 o = (decide (o < n) && inT T x t o)) (by omega) (fun r h1 h2 => ⟨r.1, r.2, h1, h2⟩) ⟨fun _ _ => rfl, fun k hk => absurd hk (by omega), fun o _ => by rw [b_0]; simp⟩ (fun i a b hi' hI => Or.inl ?_) (fun a b hI => ⟨(a, b), ?_, hI⟩)
  · obtain ⟨k1, k2, k3⟩ := hI
    have hi14 : i < 14 := by omega
    have hRa : RB (a 1) T n := by rw [k1 1 (by decide)]; exact hR
    unfold r5_exchange_b62
    rw [zmany hRa, zs_1, if_neg (nI_ge hi' (by omega)), zo84 hRa hi' hi14, zs_1, z_wr hi14 (by decide), zs_b, z_bit x (show i < 32 by omega)]
    have hRa' : RB ((upr a 14 (upd (a 14) i (T 9 i))) 1) T n := by rw [upr_n _ _ _ (by decide)]; exact hRa
    have f1 : ∀ r, r ≠ 14 → upr a 14 (upd (a 14) i (T 9 i)) r = M r := fun r hr => (upr_n _ _ _ hr).trans (k1 r hr)
    have f2 : ∀ k, k < i + 1 → upr a 14 (upd (a 14) i (T 9 i)) 14 k = T 9 k := fun k hk => by
      rw [upr_s]
      by_cases c : k = i
      · rw [c, upd_s]
      · rw [upd_n c]; exact k2 k (by omega)
    have hno : inT T x t i = false → ∀ o, o < 32 → bt b o = (decide (o < i + 1) && inT T x t o) := fun h o ho => by
      rw [k3 o ho]
      by_cases c : o = i
      · rw [c, h]; simp
      · have : decide (o < i) = decide (o < i + 1) := by apply decide_eq_decide.mpr; omega
        rw [this]
    cases hb : bt x i
    · rw [if_neg (show ¬ (false = true) by decide), if_pos rfl]
      exact ⟨_, _, rfl, f1, f2, hno (by unfold inT; rw [hb]; rfl)⟩
    · obtain ⟨p1, p2, _, _, _⟩ := ins_pl hW hi hs ht hb hi14
      rw [if_pos rfl, if_neg (show ¬ (1 : Int32) = 0 by decide), zo84 hRa' hi' hi14, zs_1, p2, z_d6 p1]
      rw [p2] at f1 f2
      by_cases c : pl T i / 6 = t
      · rw [if_pos (by rw [c]), zs_b]
        refine ⟨_, _, rfl, f1, f2, fun o ho => ?_⟩
        rw [b_or, k3 o ho, show (1 : Int32) <<< (nI i &&& 31) = zb i from rfl, zb_bt i (by omega) o ho]
        by_cases c2 : o = i
        · rw [c2]; unfold inT; rw [hb, decide_eq_true c]; simp
        · have h1 : decide (o < i) = decide (o < i + 1) := by apply decide_eq_decide.mpr; omega
          have h2 : decide (i = o) = false := decide_eq_false (fun z => c2 z.symm)
          rw [h1, h2]; simp
      · rw [if_neg (fun z => c ((nI_eq (by omega) (by omega)).mp z)), z_or0]
        exact ⟨_, _, rfl, f1, f2, hno (by unfold inT; rw [decide_eq_false c, Bool.and_false])⟩
  · have hRa : RB (a 1) T n := by rw [hI.1 1 (by decide)]; exact hR
    unfold r5_exchange_b62
    rw [zmany hRa, zs_1, if_pos (nI_le (Nat.le_refl n) (by omega))]
theorem r5_ex_l2 {M1 : OS} (z : Int32) (hW : WF T n) (hR1 : RB (M1 1) T n) (hx : ∀ o, bt x o = true → o < n) : ∃ N, it2 (r5_settlesBoth_b3 x z (nI s) (nI t)) 200 M1 0 = some N ∧ RB (N 1) (lfs (bt x) T 14) n ∧ FK S0 M1 N := by
  have hn := hW.le
  refine zi2k (F := r5_settlesBoth_b3 x z (nI s) (nI t)) (a0 := M1) n (fun i a => RB (a 1) (lfs (bt x) T i) n ∧ FK S0 M1 a) (fun a => RB (a 1) (lfs (bt x) T n) n ∧ FK S0 M1 a) (by omega) (fun r h1 h2 => ⟨r, h1, ?_, h2.2⟩) ⟨hR1, FK.refl _ _⟩ (fun i a hi' hI => Or.inl ?_) (fun a hI => ⟨a, ?_, hI⟩)
  · have : lfs (bt x) T 14 = lfs (bt x) T n := zfo_ext hn (fun i q1 q2 b => by
      cases hb : bt x i
      · rfl
      · have := hx i hb; omega)
    rw [this]; exact h2.1
  · obtain ⟨k1, k2⟩ := hI
    have hi14 : i < 14 := by omega
    have hs1 : lfs (bt x) T (i + 1) = if bt x i then lf (lfs (bt x) T i) i else lfs (bt x) T i := rfl
    unfold r5_settlesBoth_b3
    rw [zmany k1, zs_1, if_neg (nI_ge hi' (by omega)), z_bit x (show i < 32 by omega), hs1]
    cases hb : bt x i
    · exact ⟨a, rfl, k1, k2⟩
    · rw [if_pos rfl, if_pos rfl, r5_lays_z a hi14, zs_1]
      exact ⟨_, rfl, k1.lfW hn hi14, k2.trans (FK.ly hi14)⟩
  · unfold r5_settlesBoth_b3
    rw [zmany hI.1, zs_1, if_pos (nI_le (Nat.le_refl n) (by omega))]
theorem r5_ex_z (hW : WF T n) (hR : RB (M 1) T n) (hx : ∀ o, bt x o = true → o < n) (hi : ins T x s t) (hs : s < 10) (ht : t < 10) (hst : s ≠ t) (hbad : zan (bdp T x s t) 14 = false) : ∃ M1 z M2 w M3 M4, it3 (r5_exchange_b62 (nI t) (nI s) x) 200 M 0 0 = some (M1, z) ∧ r5_settlesBoth M1 x z (nI s) (nI t) = some (w, M2) ∧ it2 (r5_exchange_b148 x w) 200 M2 0 = some M3 ∧ it2 (r5_exchange_b181 x w) 200 M3 0 = some M4 ∧ RB (M4 1) T n ∧ FK S145 M M4 ∧ match exG T x s t with | none => w = 0 | some R => w = 1 ∧ ∀ k, k < n → M4 15 k = swp T x (swQ T s t R) 14 9 k := by
  have hn := hW.le
  obtain ⟨M1, z, e1, r1, s14, hz⟩ := r5_ex_l1 hW hR hi hs ht
  have hR1 : RB (M1 1) T n := by rw [r1 1 (by decide)]; exact hR
  have hA14 : ∀ j, bt x j = true → j < 14 := fun j hj => by have := hx j hj; omega
  obtain ⟨N, e2, hRN, hFN⟩ := r5_ex_l2 (s := s) (t := t) z hW hR1 hx
  have hWl : WF (lfs (bt x) T 14) n := lfs_WF hW 14
  obtain ⟨lrow, lr⟩ := lfs_row (bt x) T 14
  have hlift := lfs_lifted (T := T) hA14
  have h8 : ∀ j, bt x j = true → T 8 j = 1 := fun j hj => bdp_1 hbad hj (hA14 j hj)
  have hCi : ∀ j, inT T x t j = true → bt x j = true ∧ pl T j / 6 = t := fun j hj => by
    unfold inT at hj; rw [Bool.and_eq_true] at hj; exact ⟨hj.1, of_decide_eq_true hj.2⟩
  have hCo : ∀ j, ouT T x t j = true → bt x j = true ∧ pl T j / 6 ≠ t := fun j hj => by
    unfold ouT at hj
    rw [Bool.and_eq_true] at hj
    refine ⟨hj.1, fun z => ?_⟩
    rw [decide_eq_true z] at hj
    exact absurd hj.2 (by decide)
  -- the end: what is read out of the row behind
  have fin : ∀ (w : Int32) (M2 A : OS), r5_settlesBoth M1 x z (nI s) (nI t) = some (w, M2) → RB (M2 1) A n → (∀ q, q ≠ 9 → q ≠ 10 → A q = T q) → FK S0 M1 M2 → (match exG T x s t with | none => w = 0 | some R => w = 1 ∧ ∀ k, k < n → A 9 k = swp T x (swQ T s t R) 14 9 k) → ∃ M1 z M2 w M3 M4, it3 (r5_exchange_b62 (nI t) (nI s) x) 200 M 0 0 = some (M1, z) ∧ r5_settlesBoth M1 x z (nI s) (nI t) = some (w, M2) ∧ it2 (r5_exchange_b148 x w) 200 M2 0 = some M3 ∧ it2 (r5_exchange_b181 x w) 200 M3 0 = some M4 ∧ RB (M4 1) T n ∧ FK S145 M M4 ∧ match exG T x s t with | none => w = 0 | some R => w = 1 ∧ ∀ k, k < n → M4 15 k = swp T x (swQ T s t R) 14 9 k := fun w M2 A a1 a2 a3 a4 a5 => by
    obtain ⟨M3, c1, c2, c3⟩ := cp_loop (r := 15) (by decide) hn a2
    have hR3 : RB (M3 1) A n := by rw [c2 1 (by decide)]; exact a2
    obtain ⟨M4, d1, d2, d3⟩ := ly_loop (r := 14) (B := T) (by decide) hn hR3 a3 (fun k hk => by
      rw [c2 14 (by decide), a4.1 14 (by decide) rfl]; exact s14 k hk)
    refine ⟨M1, z, M2, w, M3, M4, e1, a1, c1, d1, d2, ⟨fun r hr1 hr2 => ?_, fun k hk => ?_⟩, ?_⟩
    · have : r ≠ 14 ∧ r ≠ 15 := by
        constructor
        · intro e; rw [e] at hr2; exact absurd hr2 (by decide)
        · intro e; rw [e] at hr2; exact absurd hr2 (by decide)
      rw [d3.1 r hr1 rfl, c2 r this.2, a4.1 r hr1 rfl, r1 r this.1]
    · rw [d3.2 k hk, c2 1 (by decide), a4.2 k hk, r1 1 (by decide)]
    · cases hG : exG T x s t with
      | none => rw [hG] at a5; exact a5
      | some R =>
        rw [hG] at a5
        exact ⟨a5.1, fun k hk => by rw [d3.1 15 (by decide) rfl, c3 k hk]; exact a5.2 k hk⟩
  have hzb : ∀ j, j < 32 → bt z j = (decide (0 ≤ j) && inT T x t j) := fun j hj => by
    rw [hz j hj, decide_eq_true (Nat.zero_le j)]
    cases hb : inT T x t j
    · simp
    · have := hx j (hCi j hb).1
      rw [decide_eq_true this]
  obtain ⟨v1, M6, g1, g2, g3⟩ := r5_settles_z (T0 := T) (C := inT T x t) (s := s) (fun j hj => ⟨hx j (hCi j hj).1, h8 j (hCi j hj).1⟩) hn hs 14 20 0 (lfs (bt x) T 14) N z (by decide) (by decide) hWl hRN lrow (fun j hj hC => hlift j hj (hCi j hC).1) hzb
  have hsb : r5_settlesBoth M1 x z (nI s) (nI t) = bd2 (some (v1, M6)) (fun v5 M6 => if v5 = 0 then some (0, M6) else bd2 (r5_settles 20 M6 (x &&& (z ^^^ (-1))) (nI t)) (fun v8 M9 => if v8 = 0 then some (0, M9) else some (1, M9))) := by
    unfold r5_settlesBoth
    rw [e2, zs_1, g1]
  rw [zs_2] at hsb
  unfold exG at fin ⊢
  cases hg1 : gv T (inT T x t) 14 0 (opS (lfs (bt x) T 14) s) with
  | none =>
    rw [hg1] at g3 fin
    obtain ⟨rfl, g4⟩ := g3
    rw [if_pos rfl] at hsb
    exact fin 0 M6 _ hsb g4 lrow (hFN.trans g2) rfl
  | some R1 =>
    rw [hg1] at g3 fin
    obtain ⟨rfl, T1, g4, g5, g6, g7⟩ := g3
    rw [if_neg (show ¬ (1 : Int32) = 0 by decide)] at hsb
    have hop : opS T1 t = opS (lfs (bt x) T 14) t := opS_cong (fun o ho => by
      cases hb : inT T x t o
      · have a9 := (g7 o).1
        have a10 := (g7 o).2
        rw [hb] at a9 a10
        have : pl T1 o = pl (lfs (bt x) T 14) o := by unfold pl; rw [a9]; rfl
        right
        exact ⟨a10, this⟩
      · have a10 := (g7 o).2
        obtain ⟨hbo, _⟩ := hCi o hb
        rw [hb, decide_eq_true (Nat.zero_le o)] at a10
        have e10 : lfs (bt x) T 14 10 o = 0 := by rw [(lr o).2, hbo, decide_eq_true (hA14 o hbo)]; rfl
        left
        refine ⟨?_, by rw [e10, b_0]⟩
        rw [a10]
        show bt (zb s) t = false
        rw [zb_bt s (by omega) t (by omega), decide_eq_false hst])
    have hlift1 : lifted (ouT T x t) T1 0 := fun j hj hC => by
      obtain ⟨c1, c2⟩ := hCo j hC
      have hin : inT T x t j = false := by unfold inT; rw [decide_eq_false c2, Bool.and_false]
      have a9 := (g7 j).1
      have a10 := (g7 j).2
      rw [hin] at a9 a10
      have := hlift j hj c1
      exact ⟨a9.trans this.1, a10.trans this.2⟩
    obtain ⟨v2, M9, k1, k2, k3⟩ := r5_settles_z (T0 := T) (C := ouT T x t) (s := t) (fun j hj => ⟨hx j (hCo j hj).1, h8 j (hCo j hj).1⟩) hn ht 14 20 0 T1 M6 (x &&& (z ^^^ (-1))) (by decide) (by decide) g5 g4 (fun r r9 r10 => (g6 r r9 r10).trans (lrow r r9 r10)) hlift1 (fun j hj => by
      rw [b_and, z_not z hj, hzb j hj, decide_eq_true (Nat.zero_le j)]
      unfold inT ouT
      cases bt x j <;> cases decide (pl T j / 6 = t) <;> rfl)
    rw [hop] at k3
    rw [k1, zs_2] at hsb
    cases hg2 : gv T (ouT T x t) 14 0 (opS (lfs (bt x) T 14) t) with
    | none =>
      rw [hg2] at k3 fin
      obtain ⟨rfl, k4⟩ := k3
      rw [if_pos rfl] at hsb
      exact fin 0 M9 T1 hsb k4 (fun r r9 r10 => (g6 r r9 r10).trans (lrow r r9 r10)) (hFN.trans (g2.trans k2)) rfl
    | some R2 =>
      rw [hg2] at k3 fin
      obtain ⟨rfl, T2, k4, k5, k6, k7⟩ := k3
      rw [if_neg (show ¬ (1 : Int32) = 0 by decide)] at hsb
      refine fin 1 M9 T2 hsb k4 (fun r r9 r10 => (k6 r r9 r10).trans ((g6 r r9 r10).trans (lrow r r9 r10))) (hFN.trans (g2.trans k2)) ⟨rfl, fun k hk => ?_⟩
      have hk14 : k < 14 := by omega
      rw [(k7 k).1, (g7 k).1, (lr k).1, (swp_row T x (swQ T s t (R1, R2)) 14).2 k, decide_eq_true hk14, decide_eq_true (Nat.zero_le k)]
      cases hb : bt x k
      · unfold ouT inT
        rw [hb]; rfl
      · obtain ⟨p1, p2, p3, p4, p5⟩ := ins_pl hW hi hs ht hb hk14
        rcases p5 (h8 k hb) with e | e
        · have hQ : swQ T s t (R1, R2) k = t * 6 + R2 k := by unfold swQ; rw [if_pos e]
          have h1 : ouT T x t k = true := by unfold ouT; rw [hb, e, decide_eq_false hst]; rfl
          rw [hQ, h1]
          show nI (6 * t + R2 k) = nI (t * 6 + R2 k)
          congr 1; omega
        · have hQ : swQ T s t (R1, R2) k = s * 6 + R1 k := by unfold swQ; rw [if_neg (by rw [e]; exact fun z => hst z.symm)]
          have h1 : ouT T x t k = false := by unfold ouT; rw [hb, e, decide_eq_true rfl]; rfl
          have h2 : inT T x t k = true := by unfold inT; rw [hb, e, decide_eq_true rfl]; rfl
          rw [hQ, h1, h2]
          show nI (6 * s + R1 k) = nI (s * 6 + R1 k)
          congr 1; omega
end EX3
