/-! THE PURE LAYER: an exchange, both ways -/
def lyB (r : Nat) (M : OS) (i : Int32) : Option ((OS × Int32) ⊕ (OS)) := bd1 (r5_many M) (fun v => (if v ≤ i then some (.inr M) else (rd 14 (M r) i).bind fun v2 => bd1 (r5_lays M i v2) (fun M3 => some (.inl (M3, (i + 1))))))
theorem ly_loop {N A B : OS} {n r : Nat} (hr : r ≠ 1) (hn : n ≤ 14) (hA : RB (N 1) A n) (hAB : ∀ q, q ≠ 9 → q ≠ 10 → A q = B q) (hrow : ∀ k, k < n → N r k = B 9 k) : ∃ N', it2 (lyB r) 200 N 0 = some N' ∧ RB (N' 1) B n ∧ FK S0 N N' := by
  refine zi2k (F := lyB r) (a0 := N) n (fun i Q => (∀ q, q ≠ 1 → Q q = N q) ∧ ∀ j, Q 1 j = if 84 ≤ j ∧ j < 84 + i then N r (j - 84) else N 1 j) (fun Q => (∀ q, q ≠ 1 → Q q = N q) ∧ ∀ j, Q 1 j = if 84 ≤ j ∧ j < 84 + n then N r (j - 84) else N 1 j) (by omega) (fun Q n1 n2 => ?_) ⟨fun _ _ => rfl, fun j => by rw [if_neg (by omega)]⟩ (fun i Q hi hI => Or.inl ?_) (fun Q hI => ⟨Q, ?_, hI⟩)
  · refine ⟨Q, n1, ?_, fun q hq _ => n2.1 q hq, fun k hk => by rw [n2.2, if_neg (by omega)]⟩
    obtain ⟨h1, h2, h3, h4⟩ := hA
    have g : ∀ j, (j < 84 ∨ 98 ≤ j) → Q 1 j = N 1 j := fun j hj => by rw [n2.2, if_neg (by omega)]
    refine ⟨fun i hi => ?_, fun i hi => ?_, by rw [g 27 (by decide)]; exact h3, fun i hi => ?_⟩
    · rw [g i (by omega), g _ (by omega), g _ (by omega), g _ (by omega), ← hAB 0 (by decide) (by decide), ← hAB 1 (by decide) (by decide), ← hAB 2 (by decide) (by decide), ← hAB 3 (by decide) (by decide)]; exact h1 i hi
    · rw [g _ (by omega), ← hAB 4 (by decide) (by decide)]; exact h2 i hi
    · rw [g _ (by omega), g _ (by omega), g _ (by omega), g _ (by omega), g (98 + i) (by omega), g (112 + i) (by omega), n2.2 (84 + i), if_pos (by omega), ← hAB 5 (by decide) (by decide), ← hAB 6 (by decide) (by decide), ← hAB 7 (by decide) (by decide), ← hAB 8 (by decide) (by decide), ← hAB 12 (by decide) (by decide), ← hAB 11 (by decide) (by decide)]
      obtain ⟨a1, a2, a3, a4, _, a6, a7⟩ := h4 i hi
      exact ⟨a1, a2, a3, a4, by rw [show 84 + i - 84 = i by omega]; exact hrow i hi, a6, a7⟩
  · obtain ⟨k1, k2⟩ := hI
    have hm : r5_many Q = some (nI n) := by
      unfold r5_many
      rw [show (27 : Int32) = nI 27 from rfl, z_rd (by decide) (by decide), k2 27, if_neg (by omega), hA.2.2.1]; rfl
    unfold lyB
    rw [hm, zs_1, if_neg (nI_ge hi (by omega)), z_rd (show i < 14 by omega) (by decide), zs_b, r5_lays_z Q (show i < 14 by omega), zs_1, k1 r hr]
    refine ⟨_, rfl, fun q hq => (lyn _ _ _ hq).trans (k1 q hq), fun j => ?_⟩
    rw [ly1]
    by_cases c : j = 84 + i
    · rw [c, upd_s, if_pos (by omega), show 84 + i - 84 = i by omega]
    · rw [upd_n c, k2]
      by_cases c2 : 84 ≤ j ∧ j < 84 + i
      · rw [if_pos c2, if_pos (by omega)]
      · rw [if_neg c2, if_neg (by omega)]
  · have hm : r5_many Q = some (nI n) := by
      unfold r5_many
      rw [show (27 : Int32) = nI 27 from rfl, z_rd (by decide) (by decide), hI.2 27, if_neg (by omega), hA.2.2.1]; rfl
    unfold lyB
    rw [hm, zs_1, if_pos (nI_le (Nat.le_refl n) (by omega))]
def cpB (r : Nat) (M : OS) (i : Int32) : Option ((OS × Int32) ⊕ (OS)) := bd1 (r5_many M) (fun v => (if v ≤ i then some (.inr M) else bd1 (r5_of M 84 i) (fun v2 => (wr 14 M r i v2).bind fun M3 => some (.inl (M3, (i + 1))))))
theorem cp_loop {N A : OS} {n r : Nat} (hr : r ≠ 1) (hn : n ≤ 14) (hA : RB (N 1) A n) : ∃ N', it2 (cpB r) 200 N 0 = some N' ∧ (∀ q, q ≠ r → N' q = N q) ∧ ∀ k, k < n → N' r k = A 9 k := by
  refine zi2k (F := cpB r) (a0 := N) n (fun i Q => (∀ q, q ≠ r → Q q = N q) ∧ ∀ k, k < i → Q r k = A 9 k) (fun Q => (∀ q, q ≠ r → Q q = N q) ∧ ∀ k, k < n → Q r k = A 9 k) (by omega) (fun Q n1 n2 => ⟨Q, n1, n2⟩) ⟨fun _ _ => rfl, fun k hk => absurd hk (by omega)⟩ (fun i Q hi hI => Or.inl ?_) (fun Q hI => ⟨Q, ?_, hI⟩)
  · obtain ⟨k1, k2⟩ := hI
    have hRQ : RB (Q 1) A n := by rw [k1 1 (fun z => hr z.symm)]; exact hA
    unfold cpB
    rw [zmany hRQ, zs_1, if_neg (nI_ge hi (by omega)), zo84 hRQ hi (by omega), zs_1, z_wr (show i < 14 by omega) (by decide), zs_b]
    refine ⟨_, rfl, fun q hq => (upr_n _ _ _ hq).trans (k1 q hq), fun k hk => ?_⟩
    rw [upr_s]
    by_cases c : k = i
    · rw [c, upd_s]
    · rw [upd_n c]; exact k2 k (by omega)
  · have hRQ : RB (Q 1) A n := by rw [hI.1 1 (fun z => hr z.symm)]; exact hA
    unfold cpB
    rw [zmany hRQ, zs_1, if_pos (nI_le (Nat.le_refl n) (by omega))]
section EX
variable {T M : OS} {n s t : Nat} {x : Int32}
/-- what the chain's events are, where lengths are 1 -/
def ins (T : OS) (x : Int32) (s t : Nat) : Prop := ∀ o, bt x o = true → T 10 o &&& (zb s ||| zb t) ≠ 0
theorem ins_pl (hW : WF T n) (hi : ins T x s t) (hs : s < 10) (ht : t < 10) {o : Nat} (ho : bt x o = true) (h14 : o < 14) : pl T o < 60 ∧ T 9 o = nI (pl T o) ∧ T 10 o = slS (pl T o / 6) (T 8 o) ∧ o < n ∧ (T 8 o = 1 → pl T o / 6 = s ∨ pl T o / 6 = t) := by
  rcases hW.plz h14 with ⟨_, h⟩ | ⟨h1, h2, h3, h4, _⟩
  · exact absurd (by rw [h]; exact z0and _) (hi o ho)
  · refine ⟨h1, h2, h3, h4, fun h8 => ?_⟩
    have := hi o ho
    rw [h3, h8, slS_1] at this
    obtain ⟨i, hi32, b1, b2⟩ := (z_ne0 _ _).mp this
    have e1 := zb_in (show pl T o / 6 < 32 by omega) b1
    rw [b_or, Bool.or_eq_true] at b2
    rcases b2 with b2 | b2
    · left; rw [← e1]; exact zb_in (by omega) b2
    · right; rw [← e1]; exact zb_in (by omega) b2
def bdp (T : OS) (x : Int32) (s t o : Nat) : Bool := bt x o && (!decide (T 8 o = 1) || (!decide (T 12 o = 0) || !bt (T 3 (te T o)) (if pl T o / 6 = s then t else s)))
theorem zbF (F : Int32) {k : Nat} (hk : k < 32) : zb k &&& (F ^^^ (-1)) = 0 ↔ bt F k = true := by
  rw [z_and0]
  constructor
  · intro h
    have := h k hk
    rw [zb_bt k hk k hk, z_not F hk] at this
    cases hb : bt F k
    · rw [hb] at this; exact absurd ⟨by simp, rfl⟩ this
    · rfl
  · intro h i hi hh
    have e := zb_in hk hh.1
    rw [e, z_not F hk, h] at hh
    exact absurd hh.2 (by decide)
theorem zb_oth : ∀ a, a < 10 → ∀ b, b < 10 → a ≠ b → (zb a ||| zb b) &&& (zb a ^^^ (-1)) = zb b ∧ (zb a ||| zb b) &&& (zb b ^^^ (-1)) = zb a := by decide +kernel
theorem r2_canSwap_z (hW : WF T n) (hi : ins T x s t) (hs : s < 10) (ht : t < 10) (hst : s ≠ t) : r2_canSwap T x (nI s) (nI t) = some (if zan (bdp T x s t) 14 then 0 else 1) := by
  unfold r2_canSwap
  rw [zs_b, zf1 14 (bdp T x s t) (fun _ => 0) (by decide) (fun o ho => ?_) (fun _ => ?_)]
  · cases hz : zan (bdp T x s t) 14
    · have : zfi (bdp T x s t) 14 = none := by
        cases hf : zfi (bdp T x s t) 14 with
        | none => rfl
        | some i =>
          obtain ⟨h1, h2, _⟩ := zfi_lt hf
          rw [zan_iff.mpr ⟨i, h1, h2⟩] at hz; cases hz
      rw [this]; rfl
    · obtain ⟨i, h1, h2⟩ := zan_iff.mp hz
      cases hf : zfi (bdp T x s t) 14 with
      | none => rw [zfi_lt.zfi_none hf i h1] at h2; cases h2
      | some j => rfl
  · unfold r2_canSwap_b12 bdp
    rw [if_neg (show ¬ (14 : Int32) ≤ nI o from nI_ge ho (by decide)), r4_contains_z x (show o < 32 by omega), zs_1]
    cases hb : bt x o
    · rfl
    · obtain ⟨p1, p2, p3, p4, p5⟩ := ins_pl hW hi hs ht hb ho
      rw [if_pos rfl, if_neg (show ¬ (1 : Int32) = 0 by decide), z_rd ho (by decide), zs_b, Bool.true_and]
      by_cases c1 : T 8 o = 1
      · rw [if_pos c1, decide_eq_true c1, z_rd ho (by decide), zs_b]
        by_cases c2 : T 12 o = 0
        · rw [if_pos c2, decide_eq_true c2, z_rd ho (by decide), zs_b, r3_isAvailable_z hW p4, zs_1, p3, c1, slS_1]
          have hoth : ((1 <<< (nI s &&& 31)) ||| (1 <<< (nI t &&& 31)) : Int32) &&& (zb (pl T o / 6) ^^^ (-1)) = zb (if pl T o / 6 = s then t else s) := by
            rcases p5 c1 with e | e
            · rw [e, if_pos rfl]; exact (zb_oth s hs t ht hst).1
            · rw [e, if_neg (fun z => hst z.symm)]; exact (zb_oth s hs t ht hst).2
          rw [hoth]
          have hk : (if pl T o / 6 = s then t else s) < 32 := by split <;> omega
          have hz := zbF (T 3 (te T o)) hk
          cases hbt : bt (T 3 (te T o)) (if pl T o / 6 = s then t else s)
          · rw [hbt] at hz
            rw [if_neg (show ¬ (zb (if pl T o / 6 = s then t else s) &&& (T 3 (te T o) ^^^ (-1)) = 0) from fun z => by have := hz.mp z; cases this), if_pos rfl]; rfl
          · rw [hbt] at hz
            rw [if_pos (show zb (if pl T o / 6 = s then t else s) &&& (T 3 (te T o) ^^^ (-1)) = 0 from hz.mpr rfl), if_neg (show ¬ (1 : Int32) = 0 by decide)]; rfl
        · rw [if_neg c2, decide_eq_false c2]; rfl
      · rw [if_neg c1, decide_eq_false c1]; rfl
  · unfold r2_canSwap_b12
    rw [if_pos (show (14 : Int32) ≤ nI 14 by decide)]
theorem r5_canMove_z (hW : WF T n) (hR : RB (M 1) T n) (hx : ∀ o, bt x o = true → o < n) (hi : ins T x s t) (hs : s < 10) (ht : t < 10) : r5_canMove M x (nI s) (nI t) = some (if zan (bdp T x s t) 14 then 0 else 1) := by
  have hn := hW.le
  have hze : zan (bdp T x s t) 14 = zan (bdp T x s t) n := zan_ext hn (fun i h1 h2 => by
    unfold bdp
    cases hb : bt x i
    · rfl
    · have := hx i hb; omega)
  unfold r5_canMove
  rw [hze, zf1 n (bdp T x s t) (fun _ => 0) (by omega) (fun o ho => ?_) (fun _ => ?_)]
  · cases hz : zan (bdp T x s t) n
    · have : zfi (bdp T x s t) n = none := by
        cases hf : zfi (bdp T x s t) n with
        | none => rfl
        | some i =>
          obtain ⟨h1, h2, _⟩ := zfi_lt hf
          rw [zan_iff.mpr ⟨i, h1, h2⟩] at hz; cases hz
      rw [this]; rfl
    · obtain ⟨i, h1, h2⟩ := zan_iff.mp hz
      cases hf : zfi (bdp T x s t) n with
      | none => rw [zfi_lt.zfi_none hf i h1] at h2; cases h2
      | some j => rfl
  · have ho14 : o < 14 := by omega
    unfold r5_canMove_b3
    rw [zmany hR, zs_1, if_neg (nI_ge ho (by omega)), z_bit x (show o < 32 by omega)]
    cases hb : bt x o
    · unfold bdp; rw [hb]; rfl
    · obtain ⟨p1, p2, p3, p4, p5⟩ := ins_pl hW hi hs ht hb ho14
      obtain ⟨q1, q2⟩ := hW.teW ho
      have hj : ∀ k, k < 32 → k = (if pl T o / 6 = s then t else s) → r5_canMove_j44 M x (nI s) (nI t) (nI o) (nI k) = if bdp T x s t o then some (.inr (.inr 0)) else some (.inl (nI o + 1)) := fun k hk hke => by
        unfold r5_canMove_j44 bdp
        rw [hb, zo70 hR ho ho14, zs_1, zo98 hR ho ho14, zs_1, zo28 hR ho ho14, zs_1, q2, zo18 hR q1, zs_1, z_bit _ hk, ← hke, Bool.true_and]
        rcases hW.len ho with e | e
        · rw [e, if_neg (show ¬ (1 : Int32) = 2 by decide), decide_eq_true rfl]
          rcases hW.2.2.2.2.2 o ho14 with e2 | e2
          · rw [e2, if_neg (show ¬ (0 : Int32) = 1 by decide), decide_eq_true rfl]
            cases bt (T 3 (te T o)) k <;> rfl
          · rw [e2, if_pos rfl, decide_eq_false (show ¬ (1 : Int32) = 0 by decide)]; rfl
        · rw [e, if_pos rfl, decide_eq_false (show ¬ (2 : Int32) = 1 by decide)]; rfl
      rw [if_pos rfl, if_neg (show ¬ (1 : Int32) = 0 by decide), zo84 hR ho ho14, zs_1, p2, z_d6 p1]
      by_cases c : pl T o / 6 = s
      · rw [if_pos (by rw [c])]
        exact hj t (by omega) (by rw [if_pos c])
      · rw [if_neg (fun z => c ((nI_eq (by omega) (by omega)).mp z))]
        exact hj s (by omega) (by rw [if_neg c])
  · unfold r5_canMove_b3
    rw [zmany hR, zs_1, if_pos (nI_le (Nat.le_refl n) (by omega))]
theorem r2_membersIn_z (T : OS) (x : Int32) {k : Nat} (hk : k < 32) : r2_membersIn T x (nI k) = some (zst (fun o => bt x o && bt (T 10 o) k) 14) := by
  unfold r2_membersIn
  rw [zf2 14 (fun y i => if (bt x i && bt (T 10 i) k) then y ||| zb i else y) (by decide) (fun i hi a => ?_) (fun a => ?_)]
  · rfl
  · unfold r2_membersIn_b5
    rw [if_neg (show ¬ (14 : Int32) ≤ nI i from nI_ge hi (by decide)), r4_contains_z x (show i < 32 by omega), zs_1, z_rd hi (by decide)]
    cases bt x i
    · rfl
    · rw [if_pos rfl, if_neg (show ¬ (1 : Int32) = 0 by decide), zs_b, r4_contains_z _ hk, zs_1]
      cases bt (T 10 i) k <;> rfl
  · unfold r2_membersIn_b5
    rw [if_pos (show (14 : Int32) ≤ nI 14 by decide)]
theorem zb63 : ∀ q, q < 32 → bt 63 q = decide (q < 6) := by decide +kernel
theorem r2_openRooms_z (hW : WF T n) (hx : ∀ o, bt x o = true → o < n) {k : Nat} (hk : k < 32) : ∃ y, r2_openRooms T x (nI k) = some y ∧ ∀ q, q < 32 → bt y q = opS (lfs (bt x) T 14) k q := by
  have hn := hW.le
  unfold r2_openRooms
  refine zi2k (F := r2_openRooms_b6 T x (nI k)) (a0 := (63 : Int32)) 14 (fun i a => ∀ q, q < 32 → bt a q = (decide (q < 6) && !zan (fun o => bt (lfs (bt x) T 14 10 o) k && decide (pl (lfs (bt x) T 14) o % 6 = q)) i)) (fun a => ∀ q, q < 32 → bt a q = (decide (q < 6) && !zan (fun o => bt (lfs (bt x) T 14 10 o) k && decide (pl (lfs (bt x) T 14) o % 6 = q)) 14)) (by decide) (fun r h1 h2 => ⟨r, by rw [h1, zs_1], h2⟩) (fun q hq => by rw [zb63 q hq]; simp [zan]) (fun i a hi hI => Or.inl ?_) (fun a hI => ⟨a, ?_, hI⟩)
  · obtain ⟨_, lr⟩ := lfs_row (bt x) T 14
    have hstep : ∀ q, zan (fun o => bt (lfs (bt x) T 14 10 o) k && decide (pl (lfs (bt x) T 14) o % 6 = q)) (i + 1) = (zan (fun o => bt (lfs (bt x) T 14 10 o) k && decide (pl (lfs (bt x) T 14) o % 6 = q)) i || (bt (lfs (bt x) T 14 10 i) k && decide (pl (lfs (bt x) T 14) i % 6 = q))) := fun _ => rfl
    unfold r2_openRooms_b6
    rw [if_neg (show ¬ (14 : Int32) ≤ nI i from nI_ge hi (by decide)), r4_contains_z x (show i < 32 by omega), zs_1, z_rd hi (by decide), z_rd hi (by decide)]
    cases hb : bt x i
    · have e10 : lfs (bt x) T 14 10 i = T 10 i := by rw [(lr i).2, hb]; rfl
      have epl : pl (lfs (bt x) T 14) i = pl T i := by unfold pl; rw [(lr i).1, hb]; rfl
      rw [if_neg (show ¬ (false = true) by decide), if_pos rfl, zs_b, r4_contains_z _ hk, zs_1]
      cases hb2 : bt (T 10 i) k
      · rw [if_neg (show ¬ (false = true) by decide), if_pos rfl]
        refine ⟨a, rfl, fun q hq => ?_⟩
        rw [hstep q, e10, hb2, hI q hq]; simp
      · rw [if_pos rfl, if_neg (show ¬ (1 : Int32) = 0 by decide)]
        rcases hW.plz hi with ⟨_, p2⟩ | ⟨p1, p2, _, _, _⟩
        · rw [p2, b_0] at hb2; cases hb2
        · rw [p2, zs_b, z_m6 p1, zs_b]
          refine ⟨_, rfl, fun q hq => ?_⟩
          rw [hstep q, e10, hb2, epl, b_and, hI q hq, z_not _ hq, show (1 : Int32) <<< (nI (pl T i % 6) &&& 31) = zb (pl T i % 6) from rfl, zb_bt _ (by omega) q hq]
          cases decide (q < 6) <;> simp [Bool.not_or]
    · have e10 : lfs (bt x) T 14 10 i = 0 := by rw [(lr i).2, hb, decide_eq_true hi]; rfl
      rw [if_pos rfl, if_neg (show ¬ (1 : Int32) = 0 by decide)]
      refine ⟨a, rfl, fun q hq => ?_⟩
      rw [hstep q, e10, b_0, hI q hq]; simp
  · unfold r2_openRooms_b6
    rw [if_pos (show (14 : Int32) ≤ nI 14 by decide)]
def inT (T : OS) (x : Int32) (t o : Nat) : Bool := bt x o && decide (pl T o / 6 = t)
def ouT (T : OS) (x : Int32) (t o : Nat) : Bool := bt x o && !decide (pl T o / 6 = t)
/-- the rooms, first for those that come to s, then for those that come to t -/
def exG (T : OS) (x : Int32) (s t : Nat) : Option ((Nat → Nat) × (Nat → Nat)) := match gv T (inT T x t) 14 0 (opS (lfs (bt x) T 14) s) with
  | none => none
  | some R1 => match gv T (ouT T x t) 14 0 (opS (lfs (bt x) T 14) t) with
    | none => none
    | some R2 => some (R1, R2)
theorem gv_C {T : OS} {C C' : Nat → Bool} (h : ∀ j, j < 14 → C j = C' j) : ∀ {d i : Nat} {op : Nat → Bool}, i + d = 14 → gv T C d i op = gv T C' d i op
  | 0, _, _, _ => rfl
  | d + 1, i, op, hi => by
    unfold gv
    rw [h i (by omega), show gv T C d (i + 1) = gv T C' d (i + 1) from funext fun op => gv_C h (by omega)]
def swQ (T : OS) (s t : Nat) (R : (Nat → Nat) × (Nat → Nat)) (j : Nat) : Nat := if pl T j / 6 = s then t * 6 + R.2 j else s * 6 + R.1 j
def swp (T : OS) (x : Int32) (Q : Nat → Nat) : Nat → OS := zfo (fun a j => if bt x j then mv a j (Q j) else a) T
theorem swp_row (T : OS) (x : Int32) (Q : Nat → Nat) : ∀ m, (∀ r, r ≠ 9 → r ≠ 10 → swp T x Q m r = T r) ∧ ∀ k, swp T x Q m 9 k = if bt x k && decide (k < m) then nI (Q k) else T 9 k
  | 0 => ⟨fun _ _ _ => rfl, fun k => by simp [swp, zfo]⟩
  | m + 1 => by
    obtain ⟨h1, h2⟩ := swp_row T x Q m
    have hs : swp T x Q (m + 1) = if bt x m then mv (swp T x Q m) m (Q m) else swp T x Q m := rfl
    rw [hs]
    cases hA : bt x m
    · refine ⟨fun r h9 h10 => h1 r h9 h10, fun k => ?_⟩
      rw [if_neg (by decide), h2 k]
      by_cases e : k = m
      · rw [e, hA]; simp
      · have : decide (k < m) = decide (k < m + 1) := by apply decide_eq_decide.mpr; omega
        rw [this]
    · rw [if_pos rfl]
      refine ⟨fun r h9 h10 => (mvn _ _ _ h9 h10).trans (h1 r h9 h10), fun k => ?_⟩
      rw [mv9]
      by_cases e : k = m
      · rw [e, upd_s, hA]; simp
      · rw [upd_n e, h2 k]
        have : decide (k < m) = decide (k < m + 1) := by apply decide_eq_decide.mpr; omega
        rw [this]
theorem swp_WF (hW : WF T n) (hx : ∀ o, bt x o = true → o < n) {Q : Nat → Nat} (hQ : ∀ j, bt x j = true → Q j < 60) : ∀ m, WF (swp T x Q m) n
  | 0 => hW
  | m + 1 => by
    show WF (if bt x m then mv (swp T x Q m) m (Q m) else swp T x Q m) n
    cases hb : bt x m
    · exact swp_WF hW hx hQ m
    · exact (swp_WF hW hx hQ m).mvW (hx m hb) (hQ m hb)
end EX
