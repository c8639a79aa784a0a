/-! THE PURE LAYER: the reference's row beside a table, and the reference's questions to it -/
def RB (f : Nat → Int32) (T : OS) (n : Nat) : Prop :=
  (∀ i, i < 6 → f i = T 0 i ∧ f (6 + i) = T 1 i ∧ f (12 + i) = T 2 i ∧ f (18 + i) = T 3 i) ∧ (∀ i, i < 3 → f (24 + i) = T 4 i) ∧ f 27 = nI n ∧
  ∀ e, e < n → f (28 + e) = T 5 e ∧ f (42 + e) = T 6 e ∧ f (56 + e) = T 7 e ∧ f (70 + e) = T 8 e ∧ f (84 + e) = T 9 e ∧ f (98 + e) = T 12 e ∧ f (112 + e) = T 11 e
theorem z_of (M : OS) {a e : Nat} (h : a + e < 1008) : r5_of M (nI a) (nI e) = some (M 1 (a + e)) := by
  unfold r5_of
  rw [nI_add, z_rd h (by decide)]
  rfl
theorem obs_eq (T : OS) (e p : Nat) : obs T e p = (if T 8 e = 2 ∧ p / 6 % 5 = 4 then 1 else if slS (p / 6) (T 8 e) &&& (T 3 (te T e) ^^^ (-1)) = 0 then (if szS T (T 6 e) ≤ T 0 (p % 6) then (if T 7 e &&& (T 1 (p % 6) ^^^ (-1)) = 0 then obB T e p 14 else 4) else 3) else 2) := by
  unfold obs uns
  generalize obB T e p 14 = w
  by_cases h0 : T 8 e = 2 ∧ p / 6 % 5 = 4
  · rw [if_pos h0, if_pos h0, if_neg (show ¬ (1 : Int32) = 0 by decide)]
  · rw [if_neg h0, if_neg h0]
    by_cases h1 : slS (p / 6) (T 8 e) &&& (T 3 (te T e) ^^^ (-1)) = 0
    · rw [if_pos h1, if_pos h1]
      by_cases h2 : szS T (T 6 e) ≤ T 0 (p % 6)
      · rw [if_pos h2, if_pos h2]
        by_cases h3 : T 7 e &&& (T 1 (p % 6) ^^^ (-1)) = 0
        · rw [if_pos h3, if_pos h3, if_pos rfl]
        · rw [if_neg h3, if_neg h3, if_neg (show ¬ (4 : Int32) = 0 by decide)]
      · rw [if_neg h2, if_neg h2, if_neg (show ¬ (3 : Int32) = 0 by decide)]
    · rw [if_neg h1, if_neg h1, if_neg (show ¬ (2 : Int32) = 0 by decide)]
section REF
variable {M T : OS} {n : Nat}
theorem zo0 (hR : RB (M 1) T n) {i : Nat} (hi : i < 6) : r5_of M 0 (nI i) = some (T 0 i) := by rw [← (hR.1 i hi).1]; exact (z_of M (a := 0) (by omega)).trans (by rw [Nat.zero_add])
theorem zo6 (hR : RB (M 1) T n) {i : Nat} (hi : i < 6) : r5_of M 6 (nI i) = some (T 1 i) := by rw [← (hR.1 i hi).2.1]; exact z_of M (a := 6) (by omega)
theorem zo12 (hR : RB (M 1) T n) {i : Nat} (hi : i < 6) : r5_of M 12 (nI i) = some (T 2 i) := by rw [← (hR.1 i hi).2.2.1]; exact z_of M (a := 12) (by omega)
theorem zo18 (hR : RB (M 1) T n) {i : Nat} (hi : i < 6) : r5_of M 18 (nI i) = some (T 3 i) := by rw [← (hR.1 i hi).2.2.2]; exact z_of M (a := 18) (by omega)
theorem zo24 (hR : RB (M 1) T n) {i : Nat} (hi : i < 3) : r5_of M 24 (nI i) = some (T 4 i) := by rw [← hR.2.1 i hi]; exact z_of M (a := 24) (by omega)
theorem zo28 (hR : RB (M 1) T n) {e : Nat} (he : e < n) (h : e < 14) : r5_of M 28 (nI e) = some (T 5 e) := by rw [← (hR.2.2.2 e he).1]; exact z_of M (a := 28) (by omega)
theorem zo42 (hR : RB (M 1) T n) {e : Nat} (he : e < n) (h : e < 14) : r5_of M 42 (nI e) = some (T 6 e) := by rw [← (hR.2.2.2 e he).2.1]; exact z_of M (a := 42) (by omega)
theorem zo56 (hR : RB (M 1) T n) {e : Nat} (he : e < n) (h : e < 14) : r5_of M 56 (nI e) = some (T 7 e) := by rw [← (hR.2.2.2 e he).2.2.1]; exact z_of M (a := 56) (by omega)
theorem zo70 (hR : RB (M 1) T n) {e : Nat} (he : e < n) (h : e < 14) : r5_of M 70 (nI e) = some (T 8 e) := by rw [← (hR.2.2.2 e he).2.2.2.1]; exact z_of M (a := 70) (by omega)
theorem zo84 (hR : RB (M 1) T n) {e : Nat} (he : e < n) (h : e < 14) : r5_of M 84 (nI e) = some (T 9 e) := by rw [← (hR.2.2.2 e he).2.2.2.2.1]; exact z_of M (a := 84) (by omega)
theorem zo98 (hR : RB (M 1) T n) {e : Nat} (he : e < n) (h : e < 14) : r5_of M 98 (nI e) = some (T 12 e) := by rw [← (hR.2.2.2 e he).2.2.2.2.2.1]; exact z_of M (a := 98) (by omega)
theorem zo112 (hR : RB (M 1) T n) {e : Nat} (he : e < n) (h : e < 14) : r5_of M 112 (nI e) = some (T 11 e) := by rw [← (hR.2.2.2 e he).2.2.2.2.2.2]; exact z_of M (a := 112) (by omega)
theorem zmany (hR : RB (M 1) T n) : r5_many M = some (nI n) := by
  unfold r5_many
  rw [← hR.2.2.1, show (27 : Int32) = nI 27 from rfl, z_rd (by decide) (by decide)]
  rfl
theorem r5_in_z (x a b : Int32) : r5_in x a b = some (if x < a then 0 else if b < x then 0 else 1) := by
  unfold r5_in
  split
  · rfl
  · split <;> rfl
theorem r5_slots_z (l : Int32) {s : Nat} (hs : s < 10) : r5_slots (nI s) l = some (slS s l) := by
  unfold r5_slots slS
  by_cases h : l = 2
  · rw [if_pos h, if_pos h]
    exact (by decide +kernel : ∀ s, s < 10 → bd1 (r5_isLast (nI s)) (fun v2 => if v2 = 0 then some ((1 <<< (nI s &&& 31)) ||| (1 <<< ((nI s + 1) &&& 31))) else some ((1 <<< (nI s &&& 31)) ||| 0)) = some (if s % 5 = 4 then zb s else zb s ||| zb (s + 1))) s hs
  · rw [if_neg h, if_neg h, z_or0]
theorem r5_isLast_z {s : Nat} (hs : s < 10) : r5_isLast (nI s) = some (if s % 5 = 4 then 1 else 0) := (by decide +kernel : ∀ s, s < 10 → r5_isLast (nI s) = some (if s % 5 = 4 then 1 else 0)) s hs
theorem r5_slotsOf_z (hW : WF T n) (hR : RB (M 1) T n) {e : Nat} (he : e < n) : r5_slotsOf M (nI e) = some (T 10 e) := by
  have he' : e < 14 := by have := hW.le; omega
  unfold r5_slotsOf
  simp only [zs_1, zo84 hR he he', zo70 hR he he', zs_b, zs_1, zs_2, zs_3]
  rcases hW.2.2.2.1 e he' with ⟨h1, h2⟩ | ⟨p, hp, h1, h2, _⟩
  · rw [h1, h2, if_neg (show ¬ (0 : Int32) ≤ -1 by decide)]
  · rw [h1, h2, if_pos (nI_pos' (by omega)), z_d6 hp, r5_slots_z _ (by omega)]
    rfl
theorem r5_sizeOf_z (hR : RB (M 1) T n) (g : Int32) : r5_sizeOf M g = some (szS T g) := by
  unfold r5_sizeOf
  rw [zf2 6 (fun a i => a + ((g >>> (nI i &&& 31)) &&& 1) * T 2 i) (by decide) (fun i hi a => ?_) (fun a => ?_)]
  · rfl
  · unfold r5_sizeOf_b4
    rw [if_neg (show ¬ (6 : Int32) ≤ nI i from nI_ge hi (by decide)), zo12 hR hi]
    rfl
  · unfold r5_sizeOf_b4
    rw [if_pos (show (6 : Int32) ≤ nI 6 by decide)]
theorem r5_isBound_z (hR : RB (M 1) T n) {e o : Nat} (he : e < n) (h : e < 14) (ho : o < n) (h' : o < 14) : r5_isBound M (nI e) (nI o) = some (if T 5 e = T 5 o then 1 else if T 6 e &&& T 6 o = 0 then 0 else 1) := by
  unfold r5_isBound
  simp only [zs_1, zo28 hR he h, zo28 hR ho h', zo42 hR he h, zo42 hR ho h', zs_b, zs_1, zs_2, zs_3]
  split
  · rfl
  · split <;> rfl
theorem r5_hinders_z (hW : WF T n) (hR : RB (M 1) T n) {e p o : Nat} (he : e < n) (hp : p < 60) (ho : o < n) (k : Int32) : r5_hinders M (nI e) (nI p) (nI o) k = some (if k = 5 then (if h5 T e p o then 1 else 0) else if k = 6 then (if h6 T e p o then 1 else 0) else (if h7 T e p o then 1 else 0)) := by
  have he' : e < 14 := by have := hW.le; omega
  have ho' : o < 14 := by have := hW.le; omega
  unfold r5_hinders
  simp only [zs_1, zo28 hR he he', zo28 hR ho ho', zo42 hR he he', zo42 hR ho ho', zo70 hR he he', zo84 hR ho ho', r5_slotsOf_z hW hR ho, z_d6 hp, r5_slots_z _ (show p / 6 < 10 by omega), z_m6 hp, zs_b, zs_1, zs_2, zs_3, nI_eq (show o < 2 ^ 31 by omega) (show e < 2 ^ 31 by omega)]
  unfold h5 h6 h7 mee
  by_cases h1 : o = e
  · simp [h1]
  · by_cases h2 : T 10 o &&& slS (p / 6) (T 8 e) = 0
    · simp [h1, h2]
    · by_cases h3 : im (T 9 o) 6 = nI (p % 6)
      · by_cases h4 : T 5 o = T 5 e
        · by_cases h5 : T 6 o &&& T 6 e = 0 <;> simp [h1, h2, h3, h4, h5] <;> (repeat' split) <;> rfl
        · by_cases h5 : T 6 o &&& T 6 e = 0 <;> simp [h1, h2, h3, h4, h5] <;> (repeat' split) <;> rfl
      · by_cases h4 : T 5 o = T 5 e
        · by_cases h5 : T 6 o &&& T 6 e = 0 <;> simp [h1, h2, h3, h4, h5] <;> (repeat' split) <;> rfl
        · by_cases h5 : T 6 o &&& T 6 e = 0 <;> simp [h1, h2, h3, h4, h5] <;> (repeat' split) <;> rfl
theorem mee_out (hW : WF T n) {e p o : Nat} (ho : n ≤ o) (h : o < 14) : mee T e p o = false := by
  unfold mee
  rw [(hW.out ho h).2.1]
  have : (0 : Int32) &&& slS (p / 6) (T 8 e) = 0 := b_ext fun i _ => by rw [b_and, b_0]; rfl
  rw [this]; simp
theorem r5_hinderingOf_z (hW : WF T n) (hR : RB (M 1) T n) {e p : Nat} (he : e < n) (hp : p < 60) : r5_hinderingOf M (nI e) (nI p) = some (hin T e p) := by
  have hn := hW.le
  unfold r5_hinderingOf
  rw [zf2 n (fun s i => if h5 T e p i || h6 T e p i || h7 T e p i then s ||| zb i else s) (by omega) (fun i hi a => ?_) (fun a => ?_)]
  · unfold hin zst
    rw [zfo_ext (n := n) (m := 14) hn (fun i h1 h2 b => ?_)]
    · rfl
    · unfold h5 h6 h7
      simp [mee_out hW h1 h2]
  · unfold r5_hinderingOf_b5
    simp only [zs_1, zmany hR, zs_b, zs_1, zs_2, zs_3, r5_hinders_z hW hR he hp hi]
    rw [if_neg (nI_ge hi (by omega))]
    cases h5 T e p i <;> cases h6 T e p i <;> cases h7 T e p i <;> simp [z_or0]
  · unfold r5_hinderingOf_b5
    simp only [zs_1, zmany hR, zs_b, zs_1, zs_2, zs_3]
    rw [if_pos (nI_le (Nat.le_refl n) (by omega))]
theorem r5_obs_in (hW : WF T n) (hR : RB (M 1) T n) {e p : Nat} (he : e < n) (hp : p < 60) (h : Nat → Bool) (k : Int32) (hk : ∀ o, o < n → r5_hinders M (nI e) (nI p) (nI o) k = some (if h o then 1 else 0)) : it1 (r5_obstacleOf_b122 M (nI e) (nI p) k) 200 0 = some (if zan h n then .inr k else .inl ()) := by
  have hn := hW.le
  rw [zf1 n h (fun _ => k) (by omega) (fun i hi => ?_) (fun _ => ?_)]
  · congr 1
    cases hz : zan h n
    · have : zfi h n = none := by
        cases hf : zfi h n with
        | none => rfl
        | some i =>
          obtain ⟨h1, h2, _⟩ := zfi_lt hf
          rw [zan_iff.mpr ⟨i, h1, h2⟩] at hz; cases hz
      rw [this]; rfl
    · obtain ⟨i, h1, h2⟩ := zan_iff.mp hz
      cases hf : zfi h n with
      | none => rw [zfi_lt.zfi_none hf i h1] at h2; cases h2
      | some j => rfl
  · unfold r5_obstacleOf_b122
    simp only [zs_1, zmany hR, zs_b, zs_1, zs_2, zs_3, hk i hi]
    rw [if_neg (nI_ge hi (by omega))]
    cases h i <;> rfl
  · unfold r5_obstacleOf_b122
    simp only [zs_1, zmany hR, zs_b, zs_1, zs_2, zs_3]
    rw [if_pos (nI_le (Nat.le_refl n) (by omega))]
theorem r5_obstacleOf_z (hW : WF T n) (hR : RB (M 1) T n) {e p : Nat} (he : e < n) (hp : p < 60) : r5_obstacleOf M (nI e) (nI p) = some (obs T e p) := by
  have hn := hW.le
  have he' : e < 14 := by omega
  obtain ⟨ht, ht2⟩ := hW.teW he
  have hj : bs0 (it1 (r5_obstacleOf_b112 M (nI e) (nI p)) 200 5) (fun _ => some 0) (fun t19 => some t19) = some (obB T e p 14) := by
    have q5 : r5_obstacleOf_b112 M (nI e) (nI p) 5 = some (if zan (h5 T e p) 14 then .inr (.inr 5) else .inl 6) := by
      unfold r5_obstacleOf_b112
      rw [if_neg (by decide), r5_obs_in hW hR he hp (h5 T e p) 5 (fun o ho => by rw [r5_hinders_z hW hR he hp ho]; rfl), zan_ext hn (fun i h1 h2 => by unfold h5; rw [mee_out hW h1 h2]; rfl)]
      cases zan (h5 T e p) n <;> rfl
    have q6 : r5_obstacleOf_b112 M (nI e) (nI p) 6 = some (if zan (h6 T e p) 14 then .inr (.inr 6) else .inl 7) := by
      unfold r5_obstacleOf_b112
      rw [if_neg (by decide), r5_obs_in hW hR he hp (h6 T e p) 6 (fun o ho => by rw [r5_hinders_z hW hR he hp ho]; rfl), zan_ext hn (fun i h1 h2 => by unfold h6; rw [mee_out hW h1 h2]; rfl)]
      cases zan (h6 T e p) n <;> rfl
    have q7 : r5_obstacleOf_b112 M (nI e) (nI p) 7 = some (if zan (h7 T e p) 14 then .inr (.inr 7) else .inl 8) := by
      unfold r5_obstacleOf_b112
      rw [if_neg (by decide), r5_obs_in hW hR he hp (h7 T e p) 7 (fun o ho => by rw [r5_hinders_z hW hR he hp ho]; rfl), zan_ext hn (fun i h1 h2 => by unfold h7; rw [mee_out hW h1 h2]; rfl)]
      cases zan (h7 T e p) n <;> rfl
    have q8 : r5_obstacleOf_b112 M (nI e) (nI p) 8 = some (.inr (.inl ())) := by
      unfold r5_obstacleOf_b112
      rw [if_pos (by decide)]
    unfold obB
    cases c5 : zan (h5 T e p) 14
    · cases c6 : zan (h6 T e p) 14
      · cases c7 : zan (h7 T e p) 14
        · rw [c5] at q5; rw [c6] at q6; rw [c7] at q7
          simp only [it1, q5, q6, q7, q8, zs_0l, zs_0r, zs_b, zs_1, zs_2, zs_3, if_false, Bool.false_eq_true]
        · rw [c5] at q5; rw [c6] at q6; rw [c7] at q7
          simp only [it1, q5, q6, q7, zs_0l, zs_0r, zs_b, zs_1, zs_2, zs_3, if_false, if_true, Bool.false_eq_true]
      · rw [c5] at q5; rw [c6] at q6
        simp only [it1, q5, q6, zs_0l, zs_0r, zs_b, zs_1, zs_2, zs_3, if_false, if_true, Bool.false_eq_true]
    · rw [c5] at q5
      simp only [it1, q5, zs_0l, zs_0r, zs_b, zs_1, zs_2, zs_3, if_true]
  have hj2 : r5_obstacleOf_j31 M (nI e) (nI p) (nI p / 6) (im (nI p) 6) = some (if slS (p / 6) (T 8 e) &&& (T 3 (te T e) ^^^ (-1)) = 0 then (if szS T (T 6 e) ≤ T 0 (p % 6) then (if T 7 e &&& (T 1 (p % 6) ^^^ (-1)) = 0 then obB T e p 14 else 4) else 3) else 2) := by
    unfold r5_obstacleOf_j31
    simp only [zs_1, zo70 hR he he', zo28 hR he he', zo42 hR he he', zo56 hR he he', ht2, zo18 hR ht, z_d6 hp, z_m6 hp, r5_slots_z _ (show p / 6 < 10 by omega), zo0 hR (show p % 6 < 6 by omega), zo6 hR (show p % 6 < 6 by omega), r5_sizeOf_z hR, zs_b, zs_1, zs_2, zs_3, hj]
    (repeat' split) <;> rfl
  unfold r5_obstacleOf
  simp only [zs_1, zo70 hR he he', zs_b, zs_1, zs_2, zs_3, hj2]
  rw [z_d6 hp, r5_isLast_z (by omega)]
  rw [obs_eq]
  by_cases h1 : T 8 e = 2
  · by_cases h2 : p / 6 % 5 = 4
    · rw [if_pos h1, if_pos h2, zs_1, if_neg (show ¬ (1 : Int32) = 0 by decide), if_pos ⟨h1, h2⟩]
    · rw [if_pos h1, if_neg h2, zs_1, if_pos rfl, if_neg (show ¬ (T 8 e = 2 ∧ p / 6 % 5 = 4) from fun z => h2 z.2)]
  · rw [if_neg h1, if_neg (show ¬ (T 8 e = 2 ∧ p / 6 % 5 = 4) from fun z => h1 z.1)]
theorem obB_cases (T : OS) (e p k : Nat) : obB T e p k = 0 ∨ obB T e p k = 5 ∨ obB T e p k = 6 ∨ obB T e p k = 7 := by
  unfold obB
  (repeat' split) <;> simp
theorem uns_cases (T : OS) (e p : Nat) : uns T e p = 0 ∨ uns T e p = 1 ∨ uns T e p = 2 ∨ uns T e p = 3 ∨ uns T e p = 4 := by
  unfold uns
  (repeat' split) <;> simp
theorem r5_isSuitable_z (hW : WF T n) (hR : RB (M 1) T n) {e p : Nat} (he : e < n) (hp : p < 60) : r5_isSuitable M (nI e) (nI p) = some (if uns T e p = 0 then 1 else 0) := by
  unfold r5_isSuitable
  simp only [zs_1, r5_obstacleOf_z hW hR he hp, zs_b, zs_1, zs_2, zs_3, r5_in_z]
  unfold obs
  rcases uns_cases T e p with h | h | h | h | h
  · rw [h, if_pos rfl]
    rcases obB_cases T e p 14 with h | h | h | h <;> rw [h] <;> decide
  · rw [h, if_neg (show ¬ (1 : Int32) = 0 by decide)]; decide
  · rw [h, if_neg (show ¬ (2 : Int32) = 0 by decide)]; decide
  · rw [h, if_neg (show ¬ (3 : Int32) = 0 by decide)]; decide
  · rw [h, if_neg (show ¬ (4 : Int32) = 0 by decide)]; decide
end REF
