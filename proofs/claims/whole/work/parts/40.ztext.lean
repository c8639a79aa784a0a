/-! THE PURE LAYER: the text -/
/-- the four shifts of a packed int -/
def sh (k : Nat) : Int32 := 24 - nI (8 * k)
theorem sh_pos : ∀ k, k < 4 → ¬ sh k < 0 := by decide +kernel
theorem sh_s : ∀ k, k < 4 → sh k + (-8) = sh (k + 1) := by decide +kernel
theorem sh_end : sh 4 < 0 := by decide +kernel
section DOWN
variable {α β ρ : Type}
theorem zd1_go {F : Int32 → Option (Int32 ⊕ ρ)} {N : Nat} {I : Nat → Prop} {R : ρ → Prop}
    (hs : ∀ i, i < N → I i → (F (sh i) = some (.inl (sh (i + 1))) ∧ I (i + 1)) ∨ ∃ r, F (sh i) = some (.inr r) ∧ R r)
    (he : I N → ∃ r, F (sh N) = some (.inr r) ∧ R r) : ∀ (k f i : Nat), i + k = N → k < f → I i → ∃ r, it1 F f (sh i) = some r ∧ R r := by
  intro k
  induction k with
  | zero =>
    intro f i hi hf h
    obtain ⟨f, rfl⟩ : ∃ g, f = g + 1 := ⟨f - 1, by omega⟩
    obtain ⟨r, h1, h2⟩ := he (by rw [← hi]; exact h)
    refine ⟨r, ?_, h2⟩
    rw [Nat.add_zero] at hi
    unfold it1
    rw [hi, h1]
  | succ k ih =>
    intro f i hi hf h
    obtain ⟨f, rfl⟩ : ∃ g, f = g + 1 := ⟨f - 1, by omega⟩
    rcases hs i (by omega) h with ⟨h1, h2⟩ | ⟨r, h1, h2⟩
    · obtain ⟨r, h3, h4⟩ := ih f (i + 1) (by omega) (by omega) h2
      refine ⟨r, ?_, h4⟩
      unfold it1
      rw [h1]
      exact h3
    · refine ⟨r, ?_, h2⟩
      unfold it1
      rw [h1]
theorem zd2_go {F : α → Int32 → Option ((α × Int32) ⊕ ρ)} {N : Nat} {I : Nat → α → Prop} {R : ρ → Prop}
    (hs : ∀ i a, i < N → I i a → ∃ a', F a (sh i) = some (.inl (a', sh (i + 1))) ∧ I (i + 1) a')
    (he : ∀ a, I N a → ∃ r, F a (sh N) = some (.inr r) ∧ R r) : ∀ (k f i : Nat) (a : α), i + k = N → k < f → I i a → ∃ r, it2 F f a (sh i) = some r ∧ R r := by
  intro k
  induction k with
  | zero =>
    intro f i a hi hf h
    obtain ⟨f, rfl⟩ : ∃ g, f = g + 1 := ⟨f - 1, by omega⟩
    obtain ⟨r, h1, h2⟩ := he a (by rw [← hi]; exact h)
    refine ⟨r, ?_, h2⟩
    rw [Nat.add_zero] at hi
    unfold it2
    rw [hi, h1]
  | succ k ih =>
    intro f i a hi hf h
    obtain ⟨f, rfl⟩ : ∃ g, f = g + 1 := ⟨f - 1, by omega⟩
    obtain ⟨a', h1, h2⟩ := hs i a (by omega) h
    obtain ⟨r, h3, h4⟩ := ih f (i + 1) a' (by omega) (by omega) h2
    refine ⟨r, ?_, h4⟩
    unfold it2
    rw [h1]
    exact h3
theorem zd3_go {F : α → β → Int32 → Option ((α × β × Int32) ⊕ ρ)} {N : Nat} {I : Nat → α → β → Prop} {R : ρ → Prop}
    (hs : ∀ i a b, i < N → I i a b → ∃ a' b', F a b (sh i) = some (.inl (a', b', sh (i + 1))) ∧ I (i + 1) a' b')
    (he : ∀ a b, I N a b → ∃ r, F a b (sh N) = some (.inr r) ∧ R r) : ∀ (k f i : Nat) (a : α) (b : β), i + k = N → k < f → I i a b → ∃ r, it3 F f a b (sh i) = some r ∧ R r := by
  intro k
  induction k with
  | zero =>
    intro f i a b hi hf h
    obtain ⟨f, rfl⟩ : ∃ g, f = g + 1 := ⟨f - 1, by omega⟩
    obtain ⟨r, h1, h2⟩ := he a b (by rw [← hi]; exact h)
    refine ⟨r, ?_, h2⟩
    rw [Nat.add_zero] at hi
    unfold it3
    rw [hi, h1]
  | succ k ih =>
    intro f i a b hi hf h
    obtain ⟨f, rfl⟩ : ∃ g, f = g + 1 := ⟨f - 1, by omega⟩
    obtain ⟨a', b', h1, h2⟩ := hs i a b (by omega) h
    obtain ⟨r, h3, h4⟩ := ih f (i + 1) a' b' (by omega) (by omega) h2
    refine ⟨r, ?_, h4⟩
    unfold it3
    rw [h1]
    exact h3
end DOWN
/-- the k-th sign of a packed int -/
def chv (x : Int32) (k : Nat) : Int32 := (x >>> (sh k &&& 31)) &&& 255
theorem chv_c (x : Int32) (k : Nat) : ∃ c, c < 256 ∧ chv x k = nI c := ⟨_, Nat.mod_lt _ (by decide), pk_and _ 8 (by decide)⟩
def badc (v : Int32) : Bool := !decide (v = 0) && (decide (v < 33) || decide (126 < v))
def nzc (v : Int32) : Bool := !decide (v = 0)
def TX (X M : OS) (u : Nat) : Prop := u ≤ 40 ∧ X 2 0 = nI u ∧ M 5 0 = nI u ∧ (∀ i, i < u → M 4 i = X 0 i ∧ ∃ c, c < 256 ∧ X 0 i = nI c) ∧ X 3 0 = M 7 0
theorem z_nle_lt {a b : Int32} : ¬ a ≤ b ↔ b < a := by rw [Int32.le_iff_toInt_le, Int32.lt_iff_toInt_lt]; omega
theorem r0_isText_z (x : Int32) : r0_isText x = some (if zan (fun k => badc (chv x k)) 4 then 0 else 1) := by
  unfold r0_isText
  obtain ⟨r, h1, h2⟩ := zd1_go (F := r0_isText_b3 x) (N := 4) (I := fun k => zan (fun k => badc (chv x k)) k = false) (R := fun r => (r = .inl () ∧ zan (fun k => badc (chv x k)) 4 = false) ∨ (r = .inr 0 ∧ zan (fun k => badc (chv x k)) 4 = true)) (fun k hk hI => by
    unfold r0_isText_b3
    rw [if_neg (sh_pos k hk), sh_s k hk]
    simp only [zs_b]
    have e : (x >>> (sh k &&& 31)) &&& 255 = chv x k := rfl
    rw [e]
    have hz : zan (fun k => badc (chv x k)) (k + 1) = (zan (fun k => badc (chv x k)) k || badc (chv x k)) := rfl
    have hgood : badc (chv x k) = false → zan (fun k => badc (chv x k)) (k + 1) = false := fun h => by rw [hz, hI, h]; rfl
    have hbad : badc (chv x k) = true → zan (fun k => badc (chv x k)) 4 = true := fun h => zan_iff.mpr ⟨k, hk, h⟩
    by_cases c1 : chv x k = 0
    · left
      rw [if_pos c1]
      exact ⟨rfl, hgood (by unfold badc; rw [decide_eq_true c1]; rfl)⟩
    · rw [if_neg c1]
      by_cases c2 : chv x k < 33
      · right
        rw [if_pos c2]
        exact ⟨_, rfl, Or.inr ⟨rfl, hbad (by unfold badc; rw [decide_eq_false c1, decide_eq_true c2]; rfl)⟩⟩
      · rw [if_neg c2]
        by_cases c3 : chv x k ≤ 126
        · left
          rw [if_pos c3]
          exact ⟨rfl, hgood (by unfold badc; rw [decide_eq_false c1, decide_eq_false c2, decide_eq_false (fun z => z_nle_lt.mpr z c3)]; rfl)⟩
        · right
          rw [if_neg c3]
          exact ⟨_, rfl, Or.inr ⟨rfl, hbad (by unfold badc; rw [decide_eq_false c1, decide_eq_false c2, decide_eq_true (z_nle_lt.mp c3)]; rfl)⟩⟩) (fun hI => by
    refine ⟨.inl (), ?_, Or.inl ⟨rfl, hI⟩⟩
    unfold r0_isText_b3
    rw [if_pos sh_end]) 4 200 0 rfl (by decide) rfl
  have h1' : it1 (r0_isText_b3 x) 200 24 = some r := h1
  rw [h1']
  rcases h2 with ⟨rfl, h⟩ | ⟨rfl, h⟩ <;> rw [h] <;> rfl
theorem nzc_step (v a : Int32) : (if v = 0 then a else a + 1) = if nzc v then a + 1 else a := by
  unfold nzc
  by_cases h : v = 0
  · rw [if_pos h, decide_eq_true h]; rfl
  · rw [if_neg h, decide_eq_false h]; rfl
def cnz (x : Int32) (k : Nat) : Nat := zct (fun k => nzc (chv x k)) k
theorem cnz_s (x : Int32) (k : Nat) : cnz x (k + 1) = cnz x k + (if nzc (chv x k) then 1 else 0) := rfl
theorem cnz_mono (x : Int32) {j k : Nat} (h : j ≤ k) : cnz x j ≤ cnz x k := by
  induction k with
  | zero => rw [Nat.le_zero.mp h]; exact Nat.le_refl _
  | succ k ih =>
    by_cases e : j = k + 1
    · rw [e]; exact Nat.le_refl _
    · rw [cnz_s]; have := ih (by omega); omega
theorem r0_hasRoomFor_z (X : OS) (x : Int32) {u : Nat} (hu : u ≤ 40) (hX : X 2 0 = nI u) : r0_hasRoomFor X x = some (if 40 < u + cnz x 4 then 0 else 1) := by
  unfold r0_hasRoomFor
  obtain ⟨r, h1, h2⟩ := zd2_go (F := r0_hasRoomFor_b5 X x) (N := 4) (I := fun k a => a = nI (cnz x k)) (R := fun r => r = nI (cnz x 4)) (fun k a hk hI => by
    unfold r0_hasRoomFor_b5
    rw [if_neg (sh_pos k hk), sh_s k hk]
    have e : (x >>> (sh k &&& 31)) &&& 255 = chv x k := rfl
    rw [e, hI, cnz_s]
    unfold nzc
    by_cases c : chv x k = 0
    · rw [if_pos c, decide_eq_true c]
      exact ⟨_, rfl, rfl⟩
    · rw [if_neg c, decide_eq_false c]
      exact ⟨_, rfl, nI_1 _⟩) (fun a hI => by
    refine ⟨a, ?_, hI⟩
    unfold r0_hasRoomFor_b5
    rw [if_pos sh_end]) 4 200 0 0 rfl (by decide) nI_0.symm
  have h1' : it2 (r0_hasRoomFor_b5 X x) 200 0 24 = some r := h1
  have hc : cnz x 4 ≤ 4 := zct_le _ 4
  rw [h1', h2, hX, zs_1, nI_add]
  have : ((40 : Int32) < nI (u + cnz x 4)) = (40 < u + cnz x 4) := propext (nI_ltI (a := 40) (by decide) (by omega))
  by_cases c : 40 < u + cnz x 4
  · rw [if_pos (by rw [this]; exact c), if_pos c]
  · rw [if_neg (by rw [this]; exact c), if_neg c]
/-- the buffer's row after k signs -/
def apL (x : Int32) (f : Nat → Int32) (u : Nat) : Nat → Nat → Int32
  | 0 => f
  | k + 1 => if nzc (chv x k) then upd (apL x f u k) (u + cnz x k) (chv x k) else apL x f u k
theorem apL_eq {x : Int32} {f g : Nat → Int32} {u : Nat} (h : ∀ i, i < u → g i = f i ∧ ∃ c, c < 256 ∧ f i = nI c) : ∀ k, ∀ i, i < u + cnz x k → apL x g u k i = apL x f u k i ∧ ∃ c, c < 256 ∧ apL x f u k i = nI c
  | 0, i, hi => h i hi
  | k + 1, i, hi => by
    rw [cnz_s] at hi
    show (if nzc (chv x k) then upd (apL x g u k) (u + cnz x k) (chv x k) else apL x g u k) i = (if nzc (chv x k) then upd (apL x f u k) (u + cnz x k) (chv x k) else apL x f u k) i ∧ ∃ c, c < 256 ∧ (if nzc (chv x k) then upd (apL x f u k) (u + cnz x k) (chv x k) else apL x f u k) i = nI c
    cases hn : nzc (chv x k)
    · rw [hn] at hi
      exact apL_eq h k i hi
    · rw [hn] at hi
      simp only [if_true] at hi ⊢
      by_cases e : i = u + cnz x k
      · rw [e, upd_s, upd_s]; exact ⟨rfl, chv_c x k⟩
      · rw [upd_n e, upd_n e]; exact apL_eq h k i (by omega)
theorem r0_add_z {X : OS} {x : Int32} {u : Nat} (hX : X 2 0 = nI u) (hfit : u + cnz x 4 ≤ 40) : ∃ X', r0_add X x = some (nI (u + cnz x 4), X') ∧ X' 2 0 = nI (u + cnz x 4) ∧ X' 0 = apL x (X 0) u 4 ∧ ∀ r, r ≠ 0 → r ≠ 2 → X' r = X r := by
  unfold r0_add
  obtain ⟨r, h1, h2, h3, h4⟩ := zd2_go (F := r0_add_b3 x) (N := 4) (I := fun k a => a 2 0 = nI (u + cnz x k) ∧ a 0 = apL x (X 0) u k ∧ ∀ r, r ≠ 0 → r ≠ 2 → a r = X r) (R := fun a => a 2 0 = nI (u + cnz x 4) ∧ a 0 = apL x (X 0) u 4 ∧ ∀ r, r ≠ 0 → r ≠ 2 → a r = X r) (fun k a hk hI => by
    obtain ⟨k1, k2, k3⟩ := hI
    unfold r0_add_b3
    rw [if_neg (sh_pos k hk), sh_s k hk]
    have e : (x >>> (sh k &&& 31)) &&& 255 = chv x k := rfl
    rw [e, zs_b]
    have hap : apL x (X 0) u (k + 1) = if nzc (chv x k) then upd (apL x (X 0) u k) (u + cnz x k) (chv x k) else apL x (X 0) u k := rfl
    rw [cnz_s, hap]
    by_cases c : chv x k = 0
    · rw [if_pos c]
      have hn : nzc (chv x k) = false := by unfold nzc; rw [decide_eq_true c]; rfl
      rw [hn]
      exact ⟨a, rfl, k1, k2, k3⟩
    · rw [if_neg c]
      have hn : nzc (chv x k) = true := by unfold nzc; rw [decide_eq_false c]; rfl
      have hm := cnz_mono x (show k + 1 ≤ 4 by omega)
      rw [cnz_s, hn] at hm
      simp only [if_true] at hm
      rw [hn, k1, if_neg (nI_pos (by omega)), if_neg (show ¬ (40 : Int32) ≤ nI (u + cnz x k) from nI_ge (b := 40) (by omega) (by decide)), z_wr (show u + cnz x k < 40 by omega) (by decide), zs_b]
      unfold sw
      rw [zs_b]
      refine ⟨_, rfl, ?_, ?_, fun r r0 r2 => ?_⟩
      · rw [us_s, upr_n _ _ _ (by decide), k1, nI_1]; rfl
      · rw [us_n _ _ _ (by decide), upr_s, k2]; rfl
      · rw [us_n _ _ _ r2, upr_n _ _ _ r0]; exact k3 r r0 r2) (fun a hI => by
    refine ⟨a, ?_, hI⟩
    unfold r0_add_b3
    rw [if_pos sh_end]) 4 200 0 X rfl (by decide) ⟨hX, rfl, fun _ _ _ => rfl⟩
  have h1' : it2 (r0_add_b3 x) 200 X 24 = some r := h1
  exact ⟨r, by rw [h1', zs_1, h2], h2, h3, h4⟩
theorem r5_append_z {X M : OS} {u : Nat} (x : Int32) (hT : TX X M u) : ∃ v M', r5_append M x = some (v, M') ∧ (∀ r, r ≠ 0 → r ≠ 4 → r ≠ 5 → M' r = M r) ∧
    ((M' 0 0 = 1 ∧ zan (fun k => badc (chv x k)) 4 = true ∧ M' 4 = M 4 ∧ M' 5 0 = M 5 0) ∨ (M' 0 0 = 2 ∧ zan (fun k => badc (chv x k)) 4 = false ∧ 40 < u + cnz x 4 ∧ M' 4 = M 4 ∧ M' 5 0 = M 5 0) ∨
      (M' 0 0 = 0 ∧ v = nI (u + cnz x 4) ∧ zan (fun k => badc (chv x k)) 4 = false ∧ u + cnz x 4 ≤ 40 ∧ M' 5 0 = nI (u + cnz x 4) ∧ M' 4 = apL x (M 4) u 4)) := by
  obtain ⟨hu, t1, t2, t3, t4⟩ := hT
  have hc : cnz x 4 ≤ 4 := zct_le _ 4
  unfold r5_append sw
  rw [zs_b]
  obtain ⟨r, h1, hr⟩ := zd3_go (F := r5_append_b10 x) (N := 4) (I := fun k a b => (∀ r, r ≠ 0 → a r = M r) ∧ b = nI (cnz x k) ∧ a 0 0 = if zan (fun k => badc (chv x k)) k then 1 else 0) (R := fun r => (∀ q, q ≠ 0 → r.1 q = M q) ∧ r.2 = nI (cnz x 4) ∧ r.1 0 0 = if zan (fun k => badc (chv x k)) 4 then 1 else 0) (fun k a b hk hI => by
    obtain ⟨k1, k2, k3⟩ := hI
    unfold r5_append_b10
    rw [if_neg (sh_pos k hk)]
    have e : (x >>> (sh k &&& 31)) &&& 255 = chv x k := rfl
    rw [e, zs_b]
    have hz : zan (fun k => badc (chv x k)) (k + 1) = (zan (fun k => badc (chv x k)) k || badc (chv x k)) := rfl
    rw [cnz_s, hz]
    unfold r5_append_j34 r5_append_j62 sw
    rw [r5_in_z, zs_1, zs_b, zs_b, sh_s k hk, k2]
    by_cases c : chv x k = 0
    · have hn : nzc (chv x k) = false := by unfold nzc; rw [decide_eq_true c]; rfl
      have hb : badc (chv x k) = false := by unfold badc; rw [decide_eq_true c]; rfl
      rw [hn, hb, if_pos c, if_pos c]
      refine ⟨_, _, rfl, fun r hr => (us_n _ _ _ hr).trans (k1 r hr), ?_, ?_⟩
      · rw [Int32.add_zero]; rfl
      · rw [us_s, k3, Bool.or_false]
    · have hn : nzc (chv x k) = true := by unfold nzc; rw [decide_eq_false c]; rfl
      rw [hn, if_neg c, if_neg c]
      have key : (if (if chv x k < 33 then (0 : Int32) else if 126 < chv x k then 0 else 1) = 0 then (1 : Int32) else a 0 0) = if (zan (fun k => badc (chv x k)) k || badc (chv x k)) then 1 else 0 := by
        by_cases c2 : chv x k < 33
        · have hb : badc (chv x k) = true := by unfold badc; rw [decide_eq_false c, decide_eq_true c2]; rfl
          rw [if_pos c2, if_pos rfl, hb, Bool.or_true]; rfl
        · by_cases c3 : 126 < chv x k
          · have hb : badc (chv x k) = true := by unfold badc; rw [decide_eq_false c, decide_eq_true c3]; simp
            rw [if_neg c2, if_pos c3, if_pos rfl, hb, Bool.or_true]; rfl
          · have hb : badc (chv x k) = false := by unfold badc; rw [decide_eq_false c, decide_eq_false c2, decide_eq_false c3]; rfl
            rw [if_neg c2, if_neg c3, if_neg (show ¬ (1 : Int32) = 0 by decide), hb, Bool.or_false, k3]
      by_cases c4 : (if chv x k < 33 then (0 : Int32) else if 126 < chv x k then 0 else 1) = 0
      · rw [if_pos c4] at key
        rw [zs_1, if_pos c4, zs_b]
        refine ⟨_, _, rfl, fun r hr => (us_n _ _ _ hr).trans (k1 r hr), nI_1 _, ?_⟩
        rw [us_s]; exact key
      · rw [if_neg c4] at key
        rw [zs_1, if_neg c4, zs_b]
        refine ⟨_, _, rfl, fun r hr => (us_n _ _ _ hr).trans (k1 r hr), nI_1 _, ?_⟩
        rw [us_s]; exact key) (fun a b hI => by
    refine ⟨(a, b), ?_, hI⟩
    unfold r5_append_b10
    rw [if_pos sh_end]) 4 200 0 (us M 0 0) 0 rfl (by decide) ⟨fun r hr => us_n _ _ _ hr, nI_0.symm, us_s _ _ _ ▸ rfl⟩
  have h1' : it3 (r5_append_b10 x) 200 (us M 0 0) 0 24 = some r := h1
  obtain ⟨N, c⟩ := r
  obtain ⟨n1, n2, n3⟩ := hr
  simp only at n1 n2 n3
  rw [h1', zs_2, n1 5 (by decide), t2, n2, nI_add]
  unfold r5_append_j98 sw
  cases hz : zan (fun k => badc (chv x k)) 4
  · rw [hz] at n3
    rw [n3, if_neg (show ¬ (false = true) by decide), if_pos rfl]
    have hle : (nI (u + cnz x 4) ≤ 40) = (u + cnz x 4 ≤ 40) := propext (nI_leI (b := 40) (by omega) (by decide))
    by_cases hf : u + cnz x 4 ≤ 40
    · rw [if_pos (show nI (u + cnz x 4) ≤ 40 by rw [hle]; exact hf), zs_b, us_s, if_pos rfl]
      obtain ⟨Q, q1, q2, q3, q4⟩ := zd2_go (F := r5_append_b113 x) (N := 4) (I := fun k a => a 5 0 = nI (u + cnz x k) ∧ a 4 = apL x (M 4) u k ∧ ∀ r, r ≠ 4 → r ≠ 5 → a r = us N 0 0 r) (R := fun a => a 5 0 = nI (u + cnz x 4) ∧ a 4 = apL x (M 4) u 4 ∧ ∀ r, r ≠ 4 → r ≠ 5 → a r = us N 0 0 r) (fun k a hk hI => by
        obtain ⟨k1, k2, k3⟩ := hI
        unfold r5_append_b113
        rw [if_neg (sh_pos k hk), sh_s k hk]
        have e : (x >>> (sh k &&& 31)) &&& 255 = chv x k := rfl
        rw [e, zs_b]
        have hap : apL x (M 4) u (k + 1) = if nzc (chv x k) then upd (apL x (M 4) u k) (u + cnz x k) (chv x k) else apL x (M 4) u k := rfl
        rw [cnz_s, hap]
        by_cases c : chv x k = 0
        · rw [if_pos c]
          have hn : nzc (chv x k) = false := by unfold nzc; rw [decide_eq_true c]; rfl
          rw [hn]
          exact ⟨a, rfl, k1, k2, k3⟩
        · rw [if_neg c]
          have hn : nzc (chv x k) = true := by unfold nzc; rw [decide_eq_false c]; rfl
          have hm := cnz_mono x (show k + 1 ≤ 4 by omega)
          rw [cnz_s, hn] at hm
          simp only [if_true] at hm
          rw [hn, k1, z_wr (show u + cnz x k < 40 by omega) (by decide), zs_b]
          unfold sw
          rw [zs_b]
          refine ⟨_, rfl, ?_, ?_, fun r r4 r5 => ?_⟩
          · rw [us_s, upr_n _ _ _ (by decide), k1, nI_1]; rfl
          · rw [us_n _ _ _ (by decide), upr_s, k2]; rfl
          · rw [us_n _ _ _ r5, upr_n _ _ _ r4]; exact k3 r r4 r5) (fun a hI => by
        refine ⟨a, ?_, hI⟩
        unfold r5_append_b113
        rw [if_pos sh_end]) 4 200 0 (us N 0 0) rfl (by decide) ⟨by rw [us_n _ _ _ (by decide), n1 5 (by decide), t2]; rfl, by rw [us_n _ _ _ (by decide), n1 4 (by decide)]; rfl, fun _ _ _ => rfl⟩
      have q1' : it2 (r5_append_b113 x) 200 (us N 0 0) 24 = some Q := q1
      rw [q1', zs_1]
      refine ⟨_, _, rfl, fun r r0 r4 r5 => by rw [q4 r r4 r5, us_n _ _ _ r0]; exact n1 r r0, Or.inr (Or.inr ⟨by rw [q4 0 (by decide) (by decide), us_s], q2, rfl, hf, q2, q3⟩)⟩
    · rw [if_neg (show ¬ nI (u + cnz x 4) ≤ 40 by rw [hle]; exact hf), zs_b, us_s, if_neg (show ¬ (2 : Int32) = 0 by decide)]
      refine ⟨_, _, rfl, fun r r0 _ _ => (us_n _ _ _ r0).trans (n1 r r0), Or.inr (Or.inl ⟨us_s _ _ _ ▸ rfl, rfl, by omega, ?_, ?_⟩)⟩
      · rw [us_n _ _ _ (by decide), n1 4 (by decide)]
      · rw [us_n _ _ _ (by decide), n1 5 (by decide)]; exact t2
  · rw [hz] at n3
    rw [n3, if_pos rfl, if_neg (show ¬ (1 : Int32) = 0 by decide), zs_b, us_s, if_neg (show ¬ (1 : Int32) = 0 by decide)]
    refine ⟨_, _, rfl, fun r r0 _ _ => (us_n _ _ _ r0).trans (n1 r r0), Or.inl ⟨us_s _ _ _ ▸ rfl, rfl, ?_, ?_⟩⟩
    · rw [us_n _ _ _ (by decide), n1 4 (by decide)]
    · rw [us_n _ _ _ (by decide), n1 5 (by decide)]; exact t2
