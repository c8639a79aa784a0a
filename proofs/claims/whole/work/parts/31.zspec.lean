/-! THE PURE LAYER: the table's numbers, and the class's questions to a table -/
def slS (s : Nat) (l : Int32) : Int32 := if l = 2 then (if s % 5 = 4 then zb s else zb s ||| zb (s + 1)) else zb s
def te (T : OS) (e : Nat) : Nat := (T 5 e).toNatClampNeg
/-- a table as it can be: n events; an event without a place takes no slot; nothing stands behind the last event -/
def WF (T : OS) (n : Nat) : Prop :=
  n ≤ 14 ∧ T 13 0 = nI n ∧
  (∀ e, e < n → (∃ t, t < 6 ∧ T 5 e = nI t) ∧ (∃ g, g < 64 ∧ T 6 e = nI g) ∧ (∃ x, x < 16 ∧ T 7 e = nI x) ∧ (T 8 e = 1 ∨ T 8 e = 2)) ∧
  (∀ e, e < 14 → (T 9 e = -1 ∧ T 10 e = 0) ∨ (∃ p, p < 60 ∧ T 9 e = nI p ∧ T 10 e = slS (p / 6) (T 8 e) ∧ e < n)) ∧
  (∀ e, n ≤ e → e < 14 → T 11 e = -1 ∧ T 12 e = 0) ∧ (∀ e, e < 14 → T 12 e = 0 ∨ T 12 e = 1)
theorem WF.le {T : OS} {n : Nat} (h : WF T n) : n ≤ 14 := h.1
theorem WF.teW {T : OS} {n e : Nat} (h : WF T n) (he : e < n) : te T e < 6 ∧ T 5 e = nI (te T e) := by
  obtain ⟨t, h1, h2⟩ := (h.2.2.1 e he).1
  unfold te
  rw [h2, nI_clamp (by omega)]
  exact ⟨h1, rfl⟩
theorem WF.len {T : OS} {n e : Nat} (h : WF T n) (he : e < n) : T 8 e = 1 ∨ T 8 e = 2 := (h.2.2.1 e he).2.2.2
theorem WF.out {T : OS} {n e : Nat} (h : WF T n) (he : n ≤ e) (h2 : e < 14) : T 9 e = -1 ∧ T 10 e = 0 ∧ T 11 e = -1 ∧ T 12 e = 0 := by
  rcases h.2.2.2.1 e h2 with h1 | ⟨p, _, _, _, h1⟩
  · exact ⟨h1.1, h1.2, h.2.2.2.2.1 e he h2⟩
  · omega
def szS (T : OS) (g : Int32) : Int32 := zfo (fun a i => a + ((g >>> (nI i &&& 31)) &&& 1) * T 2 i) 0 6
def uns (T : OS) (e p : Nat) : Int32 :=
  if T 8 e = 2 ∧ p / 6 % 5 = 4 then 1
  else if slS (p / 6) (T 8 e) &&& (T 3 (te T e) ^^^ (-1)) = 0 then
    (if szS T (T 6 e) ≤ T 0 (p % 6) then (if T 7 e &&& (T 1 (p % 6) ^^^ (-1)) = 0 then 0 else 4) else 3)
  else 2
/-- another event takes a slot of those wanted; then the three reasons -/
def mee (T : OS) (e p o : Nat) : Bool := decide (o ≠ e) && !decide (T 10 o &&& slS (p / 6) (T 8 e) = 0)
def h5 (T : OS) (e p o : Nat) : Bool := mee T e p o && decide (im (T 9 o) 6 = nI (p % 6))
def h6 (T : OS) (e p o : Nat) : Bool := mee T e p o && decide (T 5 o = T 5 e)
def h7 (T : OS) (e p o : Nat) : Bool := mee T e p o && !decide (T 6 o &&& T 6 e = 0)
def zan (p : Nat → Bool) : Nat → Bool
  | 0 => false
  | n + 1 => zan p n || p n
theorem zan_iff {p : Nat → Bool} : ∀ {n : Nat}, zan p n = true ↔ ∃ i, i < n ∧ p i = true
  | 0 => ⟨fun h => (nomatch h), fun ⟨i, h, _⟩ => absurd h (by omega)⟩
  | n + 1 => by
    unfold zan
    rw [Bool.or_eq_true, zan_iff]
    constructor
    · rintro (⟨i, h, hp⟩ | h)
      · exact ⟨i, by omega, hp⟩
      · exact ⟨n, by omega, h⟩
    · rintro ⟨i, h, hp⟩
      by_cases e : i = n
      · right; rw [← e]; exact hp
      · left; exact ⟨i, by omega, hp⟩
theorem zan_ext {p : Nat → Bool} {n m : Nat} (h : n ≤ m) (hp : ∀ i, n ≤ i → i < m → p i = false) : zan p m = zan p n := by
  apply Bool.eq_iff_iff.mpr
  rw [zan_iff, zan_iff]
  constructor
  · rintro ⟨i, h1, h2⟩
    by_cases e : i < n
    · exact ⟨i, e, h2⟩
    · rw [hp i (by omega) h1] at h2; cases h2
  · rintro ⟨i, h1, h2⟩; exact ⟨i, by omega, h2⟩
def obB (T : OS) (e p n : Nat) : Int32 := if zan (h5 T e p) n then 5 else if zan (h6 T e p) n then 6 else if zan (h7 T e p) n then 7 else 0
def obs (T : OS) (e p : Nat) : Int32 := if uns T e p = 0 then obB T e p 14 else uns T e p
def zst (p : Nat → Bool) : Nat → Int32 := zfo (fun s i => if p i then s ||| zb i else s) 0
theorem zst_bt (p : Nat → Bool) : ∀ (n i : Nat), n ≤ 32 → i < 32 → bt (zst p n) i = (decide (i < n) && p i) := by
  intro n
  induction n with
  | zero => intro i _ _; show bt 0 i = _; rw [b_0]; simp
  | succ n ih =>
    intro i hn hi
    show bt (if p n then zst p n ||| zb n else zst p n) i = _
    have := ih i (by omega) hi
    by_cases e : i = n
    · subst e
      cases hp : p i
      · simp [this]
      · simp [b_or, this, zb_bt i hi i hi]
    · have e2 : ¬ n = i := fun z => e z.symm
      have e3 : decide (i < n + 1) = decide (i < n) := by apply decide_eq_decide.mpr; omega
      cases hp : p n
      · simp [this, e3]
      · simp [b_or, this, zb_bt n (by omega) i hi, e2, e3]
def hin (T : OS) (e p : Nat) : Int32 := zst (fun o => h5 T e p o || h6 T e p o || h7 T e p o) 14
/-! the class's methods of a table -/
theorem slS_class (l : Int32) {s : Nat} (hs : s < 10) : (if l = 2 then (if zb s &&& 528 = 0 then some (zb s ||| (zb s <<< (1 &&& 31))) else some (zb s)) else some (zb s)) = some (slS s l) := by
  unfold slS
  by_cases h : l = 2
  · rw [if_pos h, if_pos h]
    exact (by decide +kernel : ∀ s, s < 10 → (if zb s &&& 528 = 0 then some (zb s ||| (zb s <<< (1 &&& 31))) else some (zb s)) = some (if s % 5 = 4 then zb s else zb s ||| zb (s + 1))) s hs
  · rw [if_neg h, if_neg h]
theorem z_d6 {p : Nat} (hp : p < 60) : nI p / 6 = nI (p / 6) := pk_div (by omega) (by decide) (by decide)
theorem z_m6 {p : Nat} (hp : p < 60) : im (nI p) 6 = nI (p % 6) := z_im (by omega) (by decide) (by decide)
theorem r3_slotsAt_z (T : OS) {e p : Nat} (he : e < 14) (hp : p < 60) : r3_slotsAt T (nI e) (nI p) = some (slS (p / 6) (T 8 e)) := by
  rw [← slS_class (T 8 e) (show p / 6 < 10 by omega)]
  unfold r3_slotsAt
  simp only [zs_b, zs_1, zs_2, zs_3, z_d6 hp, z_rd he (by decide)]
  unfold r3_slotsAt_j30
  rw [if_neg (show ¬ (1 : Int32) = 0 by decide), if_pos rfl]
theorem slS_bc {l : Int32} (hl : l = 1 ∨ l = 2) {s : Nat} (hs : s < 10) : r6_bitCount_0f7a4 (slS s l) = some (if l = 2 ∧ ¬ s % 5 = 4 then 2 else 1) := by
  rcases hl with rfl | rfl
  · exact (by decide +kernel : ∀ s, s < 10 → r6_bitCount_0f7a4 (slS s 1) = some (if (1 : Int32) = 2 ∧ ¬ s % 5 = 4 then 2 else 1)) s hs
  · exact (by decide +kernel : ∀ s, s < 10 → r6_bitCount_0f7a4 (slS s 2) = some (if (2 : Int32) = 2 ∧ ¬ s % 5 = 4 then 2 else 1)) s hs
theorem r3_sizeOf_z (T : OS) {e : Nat} (he : e < 14) : r3_sizeOf T (nI e) = some (szS T (T 6 e)) := by
  unfold r3_sizeOf
  rw [zf2 6 (fun a i => a + ((T 6 e >>> (nI i &&& 31)) &&& 1) * T 2 i) (by decide) (fun i hi a => ?_) (fun a => ?_)]
  · rfl
  · unfold r3_sizeOf_b4
    rw [if_neg (show ¬ (6 : Int32) ≤ nI i from nI_ge hi (by decide)), z_rd he (by decide), z_rd hi (by decide)]
    rfl
  · unfold r3_sizeOf_b4
    rw [if_pos (show (6 : Int32) ≤ nI 6 by decide)]
theorem r3_isAvailable_z {T : OS} {n e : Nat} (hW : WF T n) (he : e < n) (w : Int32) : r3_isAvailable T (nI e) w = some (if w &&& (T 3 (te T e) ^^^ (-1)) = 0 then 1 else 0) := by
  obtain ⟨h1, h2⟩ := hW.teW he
  unfold r3_isAvailable
  rw [z_rd (by have := hW.le; omega) (by decide), h2]
  simp only [zs_b, zs_1, zs_2, zs_3]
  rw [if_neg (nI_pos (by omega)), if_neg (show ¬ (6 : Int32) ≤ nI (te T e) from nI_ge h1 (by decide)), z_rd h1 (by decide)]
  simp only [zs_b, zs_1, zs_2, zs_3]
  split <;> rfl
theorem r3_hasNeeds_z (T : OS) {e r : Nat} (he : e < 14) (hr : r < 6) : r3_hasNeeds T (nI e) (nI r) = some (if T 7 e &&& (T 1 r ^^^ (-1)) = 0 then 1 else 0) := by
  unfold r3_hasNeeds
  rw [z_rd he (by decide), z_rd hr (by decide)]
  simp only [zs_b, zs_1, zs_2, zs_3]
  split <;> rfl
theorem r3_unsuitableAt_z {T : OS} {n e p : Nat} (hW : WF T n) (he : e < n) (hp : p < 60) : r3_unsuitableAt T (nI e) (nI p) = some (uns T e p) := by
  have he' : e < 14 := by have := hW.le; omega
  have hs : p / 6 < 10 := by omega
  have hr : p % 6 < 6 := by omega
  have hbc := slS_bc (hW.len he) hs
  have h2 : ¬ (T 8 e = 2 ∧ p / 6 % 5 = 4) → T 8 e ≤ (if T 8 e = 2 ∧ ¬ p / 6 % 5 = 4 then (2 : Int32) else 1) := fun h1 => by
    rcases hW.len he with h | h
    · rw [h, if_neg (fun z => absurd z.1 (by decide))]; decide
    · rw [h, if_pos ⟨rfl, fun z => h1 ⟨h, z⟩⟩]; decide
  have h3 : (T 8 e = 2 ∧ p / 6 % 5 = 4) → ¬ T 8 e ≤ (if T 8 e = 2 ∧ ¬ p / 6 % 5 = 4 then (2 : Int32) else 1) := fun h1 => by
    rw [if_neg (fun z => z.2 h1.2), h1.1]; decide
  have hav := r3_isAvailable_z hW he (slS (p / 6) (T 8 e))
  have hsz := r3_sizeOf_z T he'
  have hne := r3_hasNeeds_z T he' hr
  have hc0 := z_rd (f := T 0) hr (show 6 < 2 ^ 31 by decide)
  have hl := z_rd (f := T 8) he' (show 14 < 2 ^ 31 by decide)
  unfold r3_unsuitableAt uns
  rw [r3_slotsAt_z T he' hp, z_m6 hp, hl, hc0, hsz, hne]
  revert hbc h2 h3 hav
  generalize (if T 8 e = 2 ∧ ¬ p / 6 % 5 = 4 then (2 : Int32) else 1) = w
  generalize slS (p / 6) (T 8 e) = s
  intro hbc h2 h3 hav
  simp only [zs_1, zs_b, zs_1, zs_2, zs_3]
  rw [hbc]
  simp only [zs_b, zs_1, zs_2, zs_3]
  rw [hav]
  simp only [zs_b, zs_1, zs_2, zs_3]
  by_cases h1 : T 8 e = 2 ∧ p / 6 % 5 = 4
  · rw [if_pos h1, if_neg (h3 h1)]
  · rw [if_neg h1, if_pos (h2 h1)]
    by_cases h3 : s &&& (T 3 (te T e) ^^^ (-1)) = 0
    · rw [if_pos h3, if_pos h3, if_neg (show ¬ (1 : Int32) = 0 by decide)]
      by_cases h4 : szS T (T 6 e) ≤ T 0 (p % 6)
      · rw [if_pos h4, if_pos h4]
        by_cases h5 : T 7 e &&& (T 1 (p % 6) ^^^ (-1)) = 0
        · rw [if_pos h5, if_pos h5, if_neg (show ¬ (1 : Int32) = 0 by decide)]
        · rw [if_neg h5, if_neg h5, if_pos rfl]
      · rw [if_neg h4, if_neg h4]
    · rw [if_neg h3, if_neg h3, if_pos rfl]
def clv (T : OS) (e p o : Nat) : Int32 := if h5 T e p o then 5 else if h6 T e p o then 6 else if h7 T e p o then 7 else 0
theorem r3_clashWith_z (T : OS) {e p o : Nat} (he : e < 14) (ho : o < 14) : r3_clashWith T (nI o) (nI e) (nI (p % 6)) (slS (p / 6) (T 8 e)) = some (clv T e p o) := by
  unfold r3_clashWith
  simp only [z_rd he (show 14 < 2 ^ 31 by decide), z_rd ho (show 14 < 2 ^ 31 by decide), zs_b, zs_1, zs_2, zs_3, nI_eq (show o < 2 ^ 31 by omega) (show e < 2 ^ 31 by omega)]
  unfold clv h5 h6 h7 mee
  by_cases h1 : o = e
  · simp [h1]
  · by_cases h2 : T 10 o &&& slS (p / 6) (T 8 e) = 0
    · simp [h1, h2]
    · by_cases h3 : im (T 9 o) 6 = nI (p % 6)
      · simp [h1, h2, h3]
      · by_cases h4 : T 5 o = T 5 e
        · simp [h1, h2, h3, h4]
        · by_cases h5 : T 6 o &&& T 6 e = 0
          · simp [h1, h2, h3, h4, h5]
          · simp [h1, h2, h3, h4, h5]
theorem obB_step (T : OS) (e p i : Nat) : obB T e p (i + 1) = (if clv T e p i = 0 then obB T e p i else if obB T e p i = 0 then clv T e p i else if obB T e p i ≤ clv T e p i then obB T e p i else clv T e p i) := by
  unfold obB clv
  show (if zan (h5 T e p) i || h5 T e p i then (5 : Int32) else if zan (h6 T e p) i || h6 T e p i then 6 else if zan (h7 T e p) i || h7 T e p i then 7 else 0) = _
  generalize zan (h5 T e p) i = a1
  generalize zan (h6 T e p) i = a2
  generalize zan (h7 T e p) i = a3
  generalize h5 T e p i = b1
  generalize h6 T e p i = b2
  generalize h7 T e p i = b3
  revert a1 a2 a3 b1 b2 b3
  decide
theorem r3_obstacleAt_z {T : OS} {n e p : Nat} (hW : WF T n) (he : e < n) (hp : p < 60) : r3_obstacleAt T (nI e) (nI p) = some (obs T e p) := by
  have he' : e < 14 := by have := hW.le; omega
  unfold r3_obstacleAt
  simp only [zs_1, r3_unsuitableAt_z hW he hp, r3_slotsAt_z T he' hp, zs_b, zs_1, zs_2, zs_3]
  unfold obs
  by_cases h : uns T e p = 0
  · rw [if_pos h, if_pos h, h]
    refine zi2k (F := r3_obstacleAt_b24 T (nI e) (nI p) (slS (p / 6) (T 8 e))) (a0 := (0 : Int32)) 14 (fun i a => a = obB T e p i) (fun r => r = obB T e p 14) (by decide) (fun r h1 h2 => ?_) rfl (fun i a hi ha => Or.inl ⟨obB T e p (i + 1), ?_, rfl⟩) (fun a ha => ⟨a, ?_, ha⟩)
    · rw [h1, h2]; rfl
    · unfold r3_obstacleAt_b24
      rw [if_neg (show ¬ (14 : Int32) ≤ nI i from nI_ge hi (by decide)), z_m6 hp, r3_clashWith_z T he' hi, obB_step, ha]
      simp only [zs_1, zs_b, zs_1, zs_2, zs_3]
      split
      · rfl
      · split
        · rfl
        · split <;> rfl
    · unfold r3_obstacleAt_b24
      rw [if_pos (show (14 : Int32) ≤ nI 14 by decide)]
  · rw [if_neg h, if_neg h]
theorem r3_hinderingAt_z (T : OS) {e p : Nat} (he : e < 14) (hp : p < 60) : r3_hinderingAt T (nI e) (nI p) = some (hin T e p) := by
  unfold r3_hinderingAt
  simp only [zs_1, r3_slotsAt_z T he hp, zs_b, zs_1, zs_2, zs_3]
  rw [zf2 14 (fun s i => if h5 T e p i || h6 T e p i || h7 T e p i then s ||| zb i else s) (by decide) (fun i hi a => ?_) (fun a => ?_)]
  · rfl
  · unfold r3_hinderingAt_b13
    rw [if_neg (show ¬ (14 : Int32) ≤ nI i from nI_ge hi (by decide)), z_m6 hp, r3_clashWith_z T he hi]
    simp only [zs_1, zs_b, zs_1, zs_2, zs_3]
    unfold clv
    cases h5 T e p i <;> cases h6 T e p i <;> cases h7 T e p i <;> rfl
  · unfold r3_hinderingAt_b13
    rw [if_pos (show (14 : Int32) ≤ nI 14 by decide)]
