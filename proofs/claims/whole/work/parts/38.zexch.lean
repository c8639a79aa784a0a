/-! THE PURE LAYER: rooms for an exchange -/
def gok (T : OS) (i r : Nat) : Bool := decide (szS T (T 6 i) ≤ T 0 r) && decide (T 7 i &&& (T 1 r ^^^ (-1)) = 0)
def gstep (g : (Nat → Bool) → Option (Nat → Nat)) (T : OS) (i : Nat) (op : Nat → Bool) (_ : Unit) (r : Nat) : Unit ⊕ (Nat → Nat) :=
  if op r && gok T i r then (match g (fun q => op q && !decide (q = r)) with | some R => .inr (fun j => if j = i then r else R j) | none => .inl ()) else .inl ()
def gfirst (z : Unit ⊕ (Nat → Nat)) : Option (Nat → Nat) := match z with | .inr R => some R | .inl _ => none
def gv (T : OS) (C : Nat → Bool) : Nat → Nat → (Nat → Bool) → Option (Nat → Nat)
  | 0, _, _ => some (fun _ => 0)
  | d + 1, i, op => if C i then gfirst (zlo (gstep (gv T C d (i + 1)) T i op) () 6) else gv T C d (i + 1) op
theorem gv_lt {T : OS} {C : Nat → Bool} : ∀ {d i : Nat} {op : Nat → Bool} {R : Nat → Nat}, gv T C d i op = some R → ∀ j, i ≤ j → j < i + d → C j = true → R j < 6
  | 0, i, op, R, _, j, h1, h2, _ => by omega
  | d + 1, i, op, R, h, j, h1, h2, hC => by
    unfold gv at h
    split at h
    · next hi =>
      have : ∀ R, zlo (gstep (gv T C d (i + 1)) T i op) () 6 = .inr R → ∀ j, i ≤ j → j < i + (d + 1) → C j = true → R j < 6 := fun R hR => by
        refine zlo_inv (N := 6) (Q := fun R => ∀ j, i ≤ j → j < i + (d + 1) → C j = true → R j < 6) (fun r u R hr hst => ?_) (Nat.le_refl 6) hR
        unfold gstep at hst
        split at hst
        · split at hst
          · next R1 hR1 =>
            cases hst
            intro j h1 h2 hC
            show (if j = i then r else R1 j) < 6
            by_cases e : j = i
            · rw [if_pos e]; exact hr
            · rw [if_neg e]; exact gv_lt hR1 j (by omega) (by omega) hC
          · cases hst
        · cases hst
      unfold gfirst at h
      split at h
      · next R1 hR1 => cases h; exact this _ hR1 j h1 h2 hC
      · cases h
    · next hi =>
      by_cases e : j = i
      · rw [e] at hC; exact absurd hC hi
      · exact gv_lt h j (by omega) (by omega) hC
theorem r2_giveRooms_z {T : OS} {x : Int32} (hx : ∀ i, 14 ≤ i → bt x i = false) : ∀ (d f i : Nat) (P : OS) (op : Nat → Bool) (y : Int32), i + d = 14 → d < f → (∀ q, q < 32 → bt y q = op q) →
    ∃ v P', r2_giveRooms f T P x y (nI i) = some (v, P') ∧ (∀ j, (j < i ∨ bt x j = false) → P' 2 j = P 2 j) ∧ match gv T (bt x) d i op with | some R => v = 1 ∧ ∀ j, i ≤ j → bt x j = true → P' 2 j = nI (R j) | none => v = 0 := by
  intro d
  induction d with
  | zero =>
    intro f i P op y hi hf hy
    obtain ⟨f, rfl⟩ : ∃ g, f = g + 1 := ⟨f - 1, by omega⟩
    obtain rfl : i = 14 := by omega
    refine ⟨1, P, ?_, fun _ _ => rfl, rfl, fun j hj hb => by rw [hx j hj] at hb; cases hb⟩
    show r2_giveRooms_F (r2_giveRooms f) T P x y (nI 14) = _
    unfold r2_giveRooms_F
    rw [if_neg (show ¬ nI 14 < 0 by decide), if_neg (show ¬ nI 14 < 14 by decide)]
  | succ d ih =>
    intro f i P op y hi hf hy
    obtain ⟨f, rfl⟩ : ∃ g, f = g + 1 := ⟨f - 1, by omega⟩
    show ∃ v P', r2_giveRooms_F (r2_giveRooms f) T P x y (nI i) = some (v, P') ∧ _
    unfold r2_giveRooms_F
    rw [if_neg (nI_pos (by omega)), if_pos (show nI i < 14 from nI_lt (b := 14) (by omega) (by decide)), r4_contains_z x (show i < 32 by omega)]
    unfold gv
    simp only [zs_1, zs_b, zs_1, zs_2, zs_3]
    cases hb : bt x i
    · simp only [Bool.false_eq_true, if_false, if_true, zs_2, nI_1]
      obtain ⟨v, P', h1, h2, h3⟩ := ih f (i + 1) P op y (by omega) (by omega) hy
      rw [h1]
      cases hg : gv T (bt x) d (i + 1) op with
      | some R =>
        rw [hg] at h3
        obtain ⟨rfl, h4⟩ := h3
        refine ⟨1, P', rfl, fun j hj => h2 j (by rcases hj with h | h; left; omega; right; exact h), rfl, fun j hj hbj => ?_⟩
        by_cases e : j = i
        · rw [e, hb] at hbj; cases hbj
        · exact h4 j (by omega) hbj
      | none =>
        rw [hg] at h3
        rw [h3]
        exact ⟨0, P', rfl, fun j hj => h2 j (by rcases hj with h | h; left; omega; right; exact h), rfl⟩
    · simp only [if_true]
      rw [if_neg (show ¬ (1 : Int32) = 0 by decide), r3_sizeOf_z T (show i < 14 by omega)]
      simp only [zs_b, zs_1, zs_2, zs_3]
      refine zi2k (F := r2_giveRooms_b46 (r2_giveRooms f) T x y (nI i) (szS T (T 6 i))) (a0 := P) 6 (fun k a => (∀ j, (j < i ∨ bt x j = false) → a 2 j = P 2 j) ∧ zlo (gstep (gv T (bt x) d (i + 1)) T i op) () k = .inl ()) (fun r => ∃ a, (∀ j, (j < i ∨ bt x j = false) → a 2 j = P 2 j) ∧ match gfirst (zlo (gstep (gv T (bt x) d (i + 1)) T i op) () 6) with | none => r = .inl a | some R => r = .inr (1, a) ∧ ∀ j, i ≤ j → bt x j = true → a 2 j = nI (R j)) (by decide) (fun r h1 h2 => ?_) ⟨fun _ _ => rfl, rfl⟩ (fun k a hk hI => ?_) (fun a hI => ⟨.inl a, ?_, a, hI.1, by rw [hI.2]; rfl⟩)
      · rw [h1]
        obtain ⟨a, ha, h3⟩ := h2
        cases hz : gfirst (zlo (gstep (gv T (bt x) d (i + 1)) T i op) () 6) with
        | none =>
          rw [hz] at h3
          rw [h3]
          exact ⟨0, a, rfl, ha, rfl⟩
        | some R =>
          rw [hz] at h3
          rw [h3.1]
          exact ⟨1, a, rfl, ha, rfl, h3.2⟩
      · obtain ⟨k1, hz⟩ := hI
        have hi14 : i < 14 := by omega
        unfold r2_giveRooms_b46
        rw [if_neg (show ¬ (6 : Int32) ≤ nI k from nI_ge hk (by decide)), r4_contains_z y (show k < 32 by omega), hy k (by omega), z_rd hk (by decide), r3_hasNeeds_z T hi14 hk]
        simp only [zs_1, zs_b, zs_1, zs_2, zs_3, z_wr hi14 (show 14 < 2 ^ 31 by decide), nI_1, zs_2]
        cases ho : op k
        · left
          refine ⟨a, rfl, k1, ?_⟩
          rw [zlo_s hz]; unfold gstep; rw [ho]; rfl
        · rw [if_pos rfl, if_neg (show ¬ (1 : Int32) = 0 by decide)]
          by_cases c1 : T 0 k < szS T (T 6 i)
          · left
            rw [if_pos c1]
            refine ⟨a, rfl, k1, ?_⟩
            rw [zlo_s hz]; unfold gstep gok
            rw [decide_eq_false (show ¬ szS T (T 6 i) ≤ T 0 k from by rw [Int32.le_iff_toInt_le]; rw [Int32.lt_iff_toInt_lt] at c1; omega)]
            simp
          · rw [if_neg c1]
            have c1' : szS T (T 6 i) ≤ T 0 k := by rw [Int32.le_iff_toInt_le]; rw [Int32.lt_iff_toInt_lt] at c1; omega
            by_cases c2 : T 7 i &&& (T 1 k ^^^ (-1)) = 0
            · rw [if_pos c2, if_neg (show ¬ (1 : Int32) = 0 by decide)]
              have hok : (op k && gok T i k) = true := by unfold gok; rw [ho, decide_eq_true c1', decide_eq_true c2]; rfl
              obtain ⟨v, P', q1, q2, q3⟩ := ih f (i + 1) (upr a 2 (upd (a 2) i (nI k))) (fun q => op q && !decide (q = k)) (y &&& ((1 <<< (nI k &&& 31)) ^^^ (-1))) (by omega) (by omega) (fun q hq => by
                rw [b_and, hy q hq, z_not _ hq, show (1 : Int32) <<< (nI k &&& 31) = zb k from rfl, zb_bt k (by omega) q hq]
                have : decide (k = q) = decide (q = k) := by apply decide_eq_decide.mpr; exact ⟨fun z => z.symm, fun z => z.symm⟩
                rw [this])
              rw [q1]
              simp only [zs_b, zs_1, zs_2, zs_3]
              have hP : ∀ j, (j < i ∨ bt x j = false) → P' 2 j = P 2 j := fun j hj => by
                have hji : j ≠ i := by rintro rfl; rcases hj with h | h; omega; rw [hb] at h; cases h
                rw [q2 j (by rcases hj with h | h; left; omega; right; exact h), upr_s, upd_n hji]
                exact k1 j hj
              cases hg : gv T (bt x) d (i + 1) (fun q => op q && !decide (q = k)) with
              | none =>
                rw [hg] at q3
                left
                rw [if_pos q3]
                refine ⟨P', rfl, hP, ?_⟩
                rw [zlo_s hz]; unfold gstep; rw [if_pos hok, hg]
              | some R =>
                rw [hg] at q3
                right
                rw [q3.1, if_neg (show ¬ (1 : Int32) = 0 by decide)]
                refine ⟨.inr (1, P'), rfl, P', hP, ?_⟩
                have : zlo (gstep (gv T (bt x) d (i + 1)) T i op) () (k + 1) = .inr (fun j => if j = i then k else R j) := by rw [zlo_s hz]; unfold gstep; rw [if_pos hok, hg]
                rw [zlo_stay this (by omega)]
                refine ⟨rfl, fun j hj hbj => ?_⟩
                show P' 2 j = nI (if j = i then k else R j)
                by_cases e : j = i
                · rw [if_pos e, q2 j (Or.inl (by omega)), upr_s, e, upd_s]
                · rw [if_neg e]; exact q3.2 j (by omega) hbj
            · left
              rw [if_neg c2, if_pos rfl]
              refine ⟨a, rfl, k1, ?_⟩
              rw [zlo_s hz]; unfold gstep gok; rw [decide_eq_false c2]; simp
      · unfold r2_giveRooms_b46
        rw [if_pos (show (6 : Int32) ≤ nI 6 by decide)]
theorem WF.plz {T : OS} {n e : Nat} (h : WF T n) (he : e < 14) : (T 9 e = -1 ∧ T 10 e = 0) ∨ (pl T e < 60 ∧ T 9 e = nI (pl T e) ∧ T 10 e = slS (pl T e / 6) (T 8 e) ∧ e < n ∧ plc T e = true) := by
  rcases h.2.2.2.1 e he with h1 | ⟨p, hp, h1, h2, h3⟩
  · exact Or.inl h1
  · right
    have e1 : pl T e = p := by unfold pl; rw [h1, nI_clamp (by omega)]
    rw [e1]
    refine ⟨hp, h1, h2, h3, ?_⟩
    unfold plc; rw [h1, decide_eq_false (z_nm1 (by omega))]; rfl
/-- the rooms that nobody takes in a slot -/
def opS (T : OS) (s q : Nat) : Bool := decide (q < 6) && !zan (fun o => bt (T 10 o) s && decide (pl T o % 6 = q)) 14
theorem r5_roomsIn_z {M T : OS} {n s : Nat} (hW : WF T n) (hR : RB (M 1) T n) (hs : s < 32) : ∃ y, r5_roomsIn M (nI s) = some y ∧ ∀ q, q < 6 → bt y q = !opS T s q := by
  have hn := hW.le
  unfold r5_roomsIn
  refine zi2k (F := r5_roomsIn_b4 M (nI s)) (a0 := (0 : Int32)) n (fun i a => ∀ q, q < 6 → bt a q = zan (fun o => bt (T 10 o) s && decide (pl T o % 6 = q)) i) (fun a => ∀ q, q < 6 → bt a q = zan (fun o => bt (T 10 o) s && decide (pl T o % 6 = q)) n) (by omega) (fun r h1 h2 => ⟨r, by rw [h1]; rfl, fun q hq => ?_⟩) (fun q _ => b_0 q) (fun i a hi hI => Or.inl ?_) (fun a hI => ⟨a, ?_, hI⟩)
  · rw [h2 q hq]
    unfold opS
    rw [decide_eq_true hq, zan_ext hn (fun i h1 h2 => by rw [(hW.out h1 h2).2.1, b_0]; rfl)]
    simp
  · unfold r5_roomsIn_b4
    simp only [zs_1, zmany hR, zs_b, zs_1, zs_2, zs_3, r5_slotsOf_z hW hR hi, zo84 hR hi (show i < 14 by omega), z_bit1 _ hs]
    rw [if_neg (nI_ge hi (by omega))]
    have hstep : ∀ q, zan (fun o => bt (T 10 o) s && decide (pl T o % 6 = q)) (i + 1) = (zan (fun o => bt (T 10 o) s && decide (pl T o % 6 = q)) i || (bt (T 10 i) s && decide (pl T i % 6 = q))) := fun _ => rfl
    rcases hW.plz (show i < 14 by omega) with ⟨p1, p2⟩ | ⟨p1, p2, _, _, _⟩
    · rw [p2, b_0, if_neg (by decide)]
      refine ⟨_, rfl, fun q hq => ?_⟩
      rw [hstep q, p2, b_0, z_or0, hI q hq]; simp
    · cases hb : bt (T 10 i) s
      · rw [if_neg (by decide)]
        refine ⟨_, rfl, fun q hq => ?_⟩
        rw [hstep q, hb, z_or0, hI q hq]; simp
      · rw [if_pos rfl, p2, z_m6 p1]
        refine ⟨_, rfl, fun q hq => ?_⟩
        rw [hstep q, hb, b_or, hI q hq, show (1 : Int32) <<< (nI (pl T i % 6) &&& 31) = zb (pl T i % 6) from rfl, zb_bt _ (by omega) q (by omega)]; rfl
  · unfold r5_roomsIn_b4
    simp only [zs_1, zmany hR, zs_b, zs_1, zs_2, zs_3]
    rw [if_pos (nI_le (Nat.le_refl n) (by omega))]
/-- some events of a table placed in one slot -/
def stl (T T' : OS) (C : Nat → Bool) (s : Nat) (R : Nat → Nat) (i : Nat) : Prop := (∀ r, r ≠ 9 → r ≠ 10 → T' r = T r) ∧ ∀ j, T' 9 j = (if C j && decide (i ≤ j) then nI (6 * s + R j) else T 9 j) ∧ T' 10 j = (if C j && decide (i ≤ j) then zb s else T 10 j)
theorem slS_1 (s : Nat) : slS s 1 = zb s := by unfold slS; rw [if_neg (by decide)]
theorem opS_mv {T : OS} {i r s : Nat} (hi : i < 14) (hr : r < 6) (hs : s < 10) (h8 : T 8 i = 1) (h10 : T 10 i = 0) : opS (mv T i (6 * s + r)) s = fun q => opS T s q && !decide (q = r) := by
  funext q
  unfold opS
  have hpi : pl (mv T i (6 * s + r)) i = 6 * s + r := by unfold pl; rw [mv9, upd_s, nI_clamp (by omega)]
  have hpo : ∀ o, o ≠ i → pl (mv T i (6 * s + r)) o = pl T o := fun o ho => by unfold pl; rw [mv9, upd_n ho]
  have hz : zan (fun o => bt (mv T i (6 * s + r) 10 o) s && decide (pl (mv T i (6 * s + r)) o % 6 = q)) 14 = (zan (fun o => bt (T 10 o) s && decide (pl T o % 6 = q)) 14 || decide (q = r)) := by
    apply Bool.eq_iff_iff.mpr
    rw [Bool.or_eq_true, zan_iff, zan_iff, decide_eq_true_eq]
    constructor
    · rintro ⟨o, ho, h⟩
      rw [Bool.and_eq_true, decide_eq_true_eq] at h
      by_cases e : o = i
      · right; rw [e, hpi] at h; omega
      · left
        rw [mv10, upd_n e, hpo o e] at h
        exact ⟨o, ho, by rw [Bool.and_eq_true, decide_eq_true_eq]; exact h⟩
    · rintro (⟨o, ho, h⟩ | h)
      · have e : o ≠ i := fun e => by rw [e, h10, b_0] at h; cases h
        exact ⟨o, ho, by rw [mv10, upd_n e, hpo o e]; exact h⟩
      · refine ⟨i, hi, ?_⟩
        rw [mv10, upd_s, hpi, h8, slS_1, show (6 * s + r) / 6 = s by omega, zb_bt s (by omega) s (by omega), h]
        simp; omega
  rw [hz]
  cases decide (q < 6) <;> simp [Bool.not_or]
theorem r5_settles_z {n s : Nat} {T0 : OS} {C : Nat → Bool} (hC : ∀ j, C j = true → j < n ∧ T0 8 j = 1) (hn : n ≤ 14) (hs : s < 10) : ∀ (d f i : Nat) (T M : OS) (x : Int32), i + d = 14 → d < f → WF T n → RB (M 1) T n → (∀ r, r ≠ 9 → r ≠ 10 → T r = T0 r) → lifted C T i → (∀ j, j < 32 → bt x j = (decide (i ≤ j) && C j)) →
    ∃ v M', r5_settles f M x (nI s) = some (v, M') ∧ FK S0 M M' ∧ match gv T0 C d i (opS T s) with | some R => v = 1 ∧ ∃ T', RB (M' 1) T' n ∧ WF T' n ∧ stl T T' C s R i | none => v = 0 ∧ RB (M' 1) T n := by
  intro d
  induction d with
  | zero =>
    intro f i T M x hi hf hW hR hT hl hx
    obtain ⟨f, rfl⟩ : ∃ g, f = g + 1 := ⟨f - 1, by omega⟩
    have hCi : ∀ j, (C j && decide (i ≤ j)) = false := fun j => by
      cases hCj : C j
      · rfl
      · have := (hC j hCj).1; rw [decide_eq_false (by omega)]; rfl
    have h0 : x = 0 := z_zero.mpr (fun j hj => by rw [hx j hj, Bool.and_comm, hCi j])
    refine ⟨1, M, ?_, FK.refl _ _, rfl, T, hR, hW, fun _ _ _ => rfl, fun j => ?_⟩
    · show r5_settles_F (r5_settles f) M x (nI s) = _
      unfold r5_settles_F
      rw [if_pos h0]
    · rw [hCi j]; exact ⟨rfl, rfl⟩
  | succ d ih =>
    intro f i T M x hi hf hW hR hT hl hx
    cases hb : C i
    · unfold gv
      rw [hb]
      simp only [Bool.false_eq_true, if_false]
      obtain ⟨v, M', q1, q2, q3⟩ := ih f (i + 1) T M x (by omega) (by omega) hW hR hT hl.next (fun j hj => by
        rw [hx j hj]
        by_cases e : j = i
        · rw [e, hb]; simp
        · have : decide (i ≤ j) = decide (i + 1 ≤ j) := by apply decide_eq_decide.mpr; omega
          rw [this])
      refine ⟨v, M', q1, q2, ?_⟩
      cases hg : gv T0 C d (i + 1) (opS T s) with
      | none => rw [hg] at q3; exact q3
      | some R =>
        rw [hg] at q3
        obtain ⟨rfl, T', k1, k2, k3, k4⟩ := q3
        refine ⟨rfl, T', k1, k2, k3, fun j => ?_⟩
        have : (C j && decide (i + 1 ≤ j)) = (C j && decide (i ≤ j)) := by
          by_cases e : j = i
          · rw [e, hb]; rfl
          · have : decide (i ≤ j) = decide (i + 1 ≤ j) := by apply decide_eq_decide.mpr; omega
            rw [this]
        rw [← this]; exact k4 j
    · obtain ⟨f, rfl⟩ : ∃ g, f = g + 1 := ⟨f - 1, by omega⟩
      obtain ⟨hin, h8⟩ := hC i hb
      have hi14 : i < 14 := by omega
      have hbx : bt x i = true := by rw [hx i (by omega), hb]; simp
      have hne : x ≠ 0 := fun h => by rw [h, b_0] at hbx; cases hbx
      obtain ⟨l1, l2⟩ := hl i (Nat.le_refl i) hb
      have h8' : T 8 i = 1 := by rw [hT 8 (by decide) (by decide)]; exact h8
      have hx' : ∀ j, j < 32 → bt (x &&& ((1 <<< (nI i &&& 31)) ^^^ (-1))) j = (decide (i + 1 ≤ j) && C j) := fun j hj => by
        rw [b_and, z_not _ hj, show (1 : Int32) <<< (nI i &&& 31) = zb i from rfl, zb_bt i (by omega) j hj, hx j hj]
        by_cases e : j = i
        · rw [e, decide_eq_false (show ¬ i + 1 ≤ i by omega)]; simp
        · have h1 : decide (i ≤ j) = decide (i + 1 ≤ j) := by apply decide_eq_decide.mpr; omega
          have h2 : decide (i = j) = false := decide_eq_false (fun z => e z.symm)
          rw [h1, h2]; simp
      show ∃ v M', r5_settles_F (r5_settles f) M x (nI s) = some (v, M') ∧ _
      unfold r5_settles_F
      rw [if_neg hne, r5_lowest_z (show i < 32 by omega) hbx (fun j hj => by rw [hx j (by omega), decide_eq_false (by omega)]; rfl)]
      unfold gv
      rw [hb]
      simp only [if_true, zs_1, zs_b, zs_1, zs_2, zs_3]
      have hsz : szS T (T 6 i) = szS T0 (T0 6 i) := by unfold szS; rw [hT 2 (by decide) (by decide), hT 6 (by decide) (by decide)]
      refine zi2k (F := r5_settles_b14 (r5_settles f) x (nI s) (nI i)) (a0 := M) 6 (fun k a => RB (a 1) T n ∧ FK S0 M a ∧ zlo (gstep (gv T0 C d (i + 1)) T0 i (opS T s)) () k = .inl ()) (fun r => match gfirst (zlo (gstep (gv T0 C d (i + 1)) T0 i (opS T s)) () 6) with | none => ∃ a, r = .inl a ∧ RB (a 1) T n ∧ FK S0 M a | some R => ∃ a, r = .inr (1, a) ∧ FK S0 M a ∧ ∃ T', RB (a 1) T' n ∧ WF T' n ∧ stl T T' C s R i) (by decide) (fun r h1 h2 => ?_) ⟨hR, FK.refl _ _, rfl⟩ (fun k a hk hI => ?_) (fun a hI => ⟨.inl a, ?_, by rw [hI.2.2]; exact ⟨a, rfl, hI.1, hI.2.1⟩⟩)
      · rw [h1]
        cases hz : gfirst (zlo (gstep (gv T0 C d (i + 1)) T0 i (opS T s)) () 6) with
        | none =>
          rw [hz] at h2
          obtain ⟨a, rfl, h3, h4⟩ := h2
          exact ⟨0, a, rfl, h4, rfl, h3⟩
        | some R =>
          rw [hz] at h2
          obtain ⟨a, rfl, h3, h4⟩ := h2
          exact ⟨1, a, rfl, h3, rfl, h4⟩
      · obtain ⟨hRa, hF, hz⟩ := hI
        obtain ⟨y, hy1, hy2⟩ := r5_roomsIn_z hW hRa (show s < 32 by omega)
        unfold r5_settles_b14
        rw [if_neg (show ¬ (6 : Int32) ≤ nI k from nI_ge hk (by decide)), hy1]
        simp only [zs_b, zs_1, zs_2, zs_3, zs_1, zo0 hRa hk, zo6 hRa hk, zo42 hRa hin hi14, zo56 hRa hin hi14, r5_sizeOf_z hRa, z_bit1 y (show k < 32 by omega), hy2 k hk, zs_2, r5_lays_z _ hi14]
        rw [hsz, hT 0 (by decide) (by decide), hT 1 (by decide) (by decide), hT 7 (by decide) (by decide)]
        cases ho : opS T s k
        · left
          refine ⟨a, by simp, hRa, hF, ?_⟩
          rw [zlo_s hz]; unfold gstep; rw [ho]; rfl
        · rw [if_neg (by decide)]
          by_cases c1 : T0 0 k < szS T0 (T0 6 i)
          · left
            rw [if_pos c1]
            refine ⟨a, rfl, hRa, hF, ?_⟩
            rw [zlo_s hz]; unfold gstep gok
            rw [decide_eq_false (show ¬ szS T0 (T0 6 i) ≤ T0 0 k from by rw [Int32.le_iff_toInt_le]; rw [Int32.lt_iff_toInt_lt] at c1; omega)]
            simp
          · rw [if_neg c1]
            have c1' : szS T0 (T0 6 i) ≤ T0 0 k := by rw [Int32.le_iff_toInt_le]; rw [Int32.lt_iff_toInt_lt] at c1; omega
            by_cases c2 : T0 7 i &&& (T0 1 k ^^^ (-1)) = 0
            · rw [if_pos c2]
              have hok : (opS T s k && gok T0 i k) = true := by unfold gok; rw [ho, decide_eq_true c1', decide_eq_true c2]; rfl
              have hpl : 6 * s + k < 60 := by omega
              have e6 : (6 : Int32) * nI s + nI k = nI (6 * s + k) := by rw [show (6 : Int32) = nI 6 from rfl, pk_mul, nI_add]
              rw [e6]
              obtain ⟨v, M', q1, q2, q3⟩ := ih f (i + 1) (mv T i (6 * s + k)) (ly a i (nI (6 * s + k))) (x &&& ((1 <<< (nI i &&& 31)) ^^^ (-1))) (by omega) (by omega) (hW.mvW hin hpl) (hRa.mvW hn hi14) (fun r r9 r10 => (mvn _ _ _ r9 r10).trans (hT r r9 r10)) hl.mvW hx'
              rw [opS_mv hi14 hk hs h8' l2] at q3
              rw [q1]
              simp only [zs_b, zs_1, zs_2, zs_3]
              have q2' : FK S0 M M' := hF.trans ((FK.ly hi14).trans q2)
              cases hg : gv T0 C d (i + 1) (fun q => opS T s q && !decide (q = k)) with
              | none =>
                rw [hg] at q3
                left
                rw [if_pos q3.1]
                refine ⟨ly M' i (-1), rfl, ?_, q2'.trans (FK.ly hi14), ?_⟩
                · have := q3.2.lfW hn hi14
                  rw [lf_mv l1 l2] at this; exact this
                · rw [zlo_s hz]; unfold gstep; rw [if_pos hok, hg]
              | some R =>
                rw [hg] at q3
                obtain ⟨rfl, T', k1, k2, k3, k4⟩ := q3
                right
                rw [if_neg (show ¬ (1 : Int32) = 0 by decide)]
                refine ⟨.inr (1, M'), rfl, ?_⟩
                have : zlo (gstep (gv T0 C d (i + 1)) T0 i (opS T s)) () (k + 1) = .inr (fun j => if j = i then k else R j) := by rw [zlo_s hz]; unfold gstep; rw [if_pos hok, hg]
                rw [zlo_stay this (by omega)]
                refine ⟨M', rfl, q2', T', k1, k2, fun r r9 r10 => (k3 r r9 r10).trans (mvn _ _ _ r9 r10), fun j => ?_⟩
                obtain ⟨a1, a2⟩ := k4 j
                rw [a1, a2, mv9, mv10]
                by_cases e : j = i
                · rw [e, decide_eq_false (show ¬ i + 1 ≤ i by omega), decide_eq_true (Nat.le_refl i), hb, upd_s, upd_s, h8', slS_1, show (6 * s + k) / 6 = s by omega]
                  simp
                · rw [upd_n e, upd_n e]
                  have : decide (i ≤ j) = decide (i + 1 ≤ j) := by apply decide_eq_decide.mpr; omega
                  rw [this]
                  constructor <;> simp only [if_neg e]
            · left
              rw [if_neg c2]
              refine ⟨a, rfl, hRa, hF, ?_⟩
              rw [zlo_s hz]; unfold gstep gok; rw [decide_eq_false c2]; simp
      · unfold r5_settles_b14
        rw [if_pos (show (6 : Int32) ≤ nI 6 by decide)]
