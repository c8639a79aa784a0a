/-! THE PURE LAYER: a case of the law keeps the invariant -/
def Inv (σ : GS) : Prop := match σ with
  | (T, P, X, Y, E, B, M, O) => (∃ n, WF T n ∧ RB (M 1) T n) ∧ CI Y E B X M
theorem lgz (x : Int64) : lg_cmp x x = 0 := by
  unfold lg_cmp
  rw [if_neg (show ¬ x > x from Int64.lt_irrefl), if_pos rfl]
theorem lgu (O : Nat → Int64) (x : Int64) : lg_cmp (vp_updL O 0 x 0) x = 0 := lgz x
theorem inv_q {T P X Y B M M' : OS} {E : Nat → OS} {O : Nat → Int64} {n : Nat} (hW : WF T n) (hC : CI Y E B X M) (hR : RB (M' 1) T n) (hK : KP M M') : Inv (T, P, X, Y, E, B, M', O) := ⟨⟨n, hW, hR⟩, hC.kp hK⟩
section LAWC
variable {L : Nat} {xs : Nat → Int32} {σ : GS} {x4 a b c : Int32}
theorem ra_0 (hI : Inv σ) (h1 : rd L xs (x4 + 1) = some a) (h2 : rd L xs (x4 + 2) = some b) (h3 : rd L xs (x4 + 3) = some c) : ∃ σ', rw_0 L xs σ x4 = some σ' ∧ Inv σ' := by
  obtain ⟨T, P, X, Y, E, B, M, O⟩ := σ
  obtain ⟨⟨n, hW, hR⟩, hC⟩ := hI
  obtain ⟨o, T', Y', E', v, M', p1, p2, p3, p4⟩ := ca_setRoom hW hR hC a b c
  unfold rw_0 rL_setRoom
  dsimp only
  rw [h1, h2, h3, zs_b, zs_b, zs_b, p1, zs_4]
  rcases o with k | r
  · obtain ⟨q1, q2⟩ := p3
    rw [zx_l]
    unfold cdA at q1
    by_cases k0 : k = 0
    · rw [if_pos k0] at q1 ⊢
      have q3 := Option.some.inj q1
      rw [zs_5, zs_b, zs_b, zs_b, p2, zs_2, show r5_thrown M' = some (M' 0 0) from rfl, zs_1, ← q3, if_pos rfl, if_neg (by decide)]
      exact ⟨_, rfl, p4⟩
    rw [if_neg k0] at q1 ⊢
    by_cases k1 : k = 1
    · rw [if_pos k1] at q1 ⊢
      have q3 := Option.some.inj q1
      rw [zs_5, zs_b, zs_b, zs_b, p2, zs_2, show r5_thrown M' = some (M' 0 0) from rfl, zs_1, ← q3, if_pos rfl, if_neg (by decide)]
      exact ⟨_, rfl, p4⟩
    rw [if_neg k1] at q1 ⊢
    exact nomatch q1
  · obtain ⟨q1, q2⟩ := p3
    rw [zx_r, zs_5, zs_b, zs_b, zs_b, p2, zs_2, show r5_thrown M' = some (M' 0 0) from rfl, zs_1, q1, if_pos rfl, if_pos rfl, q2, lgu, if_pos rfl]
    exact ⟨_, rfl, p4⟩
theorem ra_1 (hI : Inv σ) (h1 : rd L xs (x4 + 1) = some a) (h2 : rd L xs (x4 + 2) = some b) : ∃ σ', rw_1 L xs σ x4 = some σ' ∧ Inv σ' := by
  obtain ⟨T, P, X, Y, E, B, M, O⟩ := σ
  obtain ⟨⟨n, hW, hR⟩, hC⟩ := hI
  obtain ⟨o, T', Y', E', v, M', p1, p2, p3, p4⟩ := ca_setGroup hW hR hC a b
  unfold rw_1 rL_setGroup
  dsimp only
  rw [h1, h2, zs_b, zs_b, p1, zs_4]
  rcases o with k | r
  · obtain ⟨q1, q2⟩ := p3
    rw [zx_l]
    unfold cdA at q1
    by_cases k0 : k = 0
    · rw [if_pos k0] at q1 ⊢
      have q3 := Option.some.inj q1
      rw [zs_5, zs_b, zs_b, p2, zs_2, show r5_thrown M' = some (M' 0 0) from rfl, zs_1, ← q3, if_pos rfl, if_neg (by decide)]
      exact ⟨_, rfl, p4⟩
    rw [if_neg k0] at q1 ⊢
    by_cases k1 : k = 1
    · rw [if_pos k1] at q1 ⊢
      have q3 := Option.some.inj q1
      rw [zs_5, zs_b, zs_b, p2, zs_2, show r5_thrown M' = some (M' 0 0) from rfl, zs_1, ← q3, if_pos rfl, if_neg (by decide)]
      exact ⟨_, rfl, p4⟩
    rw [if_neg k1] at q1 ⊢
    exact nomatch q1
  · obtain ⟨q1, q2⟩ := p3
    rw [zx_r, zs_5, zs_b, zs_b, p2, zs_2, show r5_thrown M' = some (M' 0 0) from rfl, zs_1, q1, if_pos rfl, if_pos rfl, q2, lgu, if_pos rfl]
    exact ⟨_, rfl, p4⟩
theorem ra_2 (hI : Inv σ) (h1 : rd L xs (x4 + 1) = some a) (h2 : rd L xs (x4 + 2) = some b) : ∃ σ', rw_2 L xs σ x4 = some σ' ∧ Inv σ' := by
  obtain ⟨T, P, X, Y, E, B, M, O⟩ := σ
  obtain ⟨⟨n, hW, hR⟩, hC⟩ := hI
  obtain ⟨o, T', Y', E', v, M', p1, p2, p3, p4⟩ := ca_setTeacher hW hR hC a b
  unfold rw_2 rL_setTeacher
  dsimp only
  rw [h1, h2, zs_b, zs_b, p1, zs_4]
  rcases o with k | r
  · obtain ⟨q1, q2⟩ := p3
    rw [zx_l]
    unfold cdA at q1
    by_cases k0 : k = 0
    · rw [if_pos k0] at q1 ⊢
      have q3 := Option.some.inj q1
      rw [zs_5, zs_b, zs_b, p2, zs_2, show r5_thrown M' = some (M' 0 0) from rfl, zs_1, ← q3, if_pos rfl, if_neg (by decide)]
      exact ⟨_, rfl, p4⟩
    rw [if_neg k0] at q1 ⊢
    by_cases k1 : k = 1
    · rw [if_pos k1] at q1 ⊢
      have q3 := Option.some.inj q1
      rw [zs_5, zs_b, zs_b, p2, zs_2, show r5_thrown M' = some (M' 0 0) from rfl, zs_1, ← q3, if_pos rfl, if_neg (by decide)]
      exact ⟨_, rfl, p4⟩
    rw [if_neg k1] at q1 ⊢
    exact nomatch q1
  · obtain ⟨q1, q2⟩ := p3
    rw [zx_r, zs_5, zs_b, zs_b, p2, zs_2, show r5_thrown M' = some (M' 0 0) from rfl, zs_1, q1, if_pos rfl, if_pos rfl, q2, lgu, if_pos rfl]
    exact ⟨_, rfl, p4⟩
theorem ra_3 (hI : Inv σ) (h1 : rd L xs (x4 + 1) = some a) (h2 : rd L xs (x4 + 2) = some b) : ∃ σ', rw_3 L xs σ x4 = some σ' ∧ Inv σ' := by
  obtain ⟨T, P, X, Y, E, B, M, O⟩ := σ
  obtain ⟨⟨n, hW, hR⟩, hC⟩ := hI
  obtain ⟨o, T', Y', E', v, M', p1, p2, p3, p4⟩ := ca_setWeight hW hR hC a b
  unfold rw_3 rL_setWeight
  dsimp only
  rw [h1, h2, zs_b, zs_b, p1, zs_4]
  rcases o with k | r
  · obtain ⟨q1, q2⟩ := p3
    rw [zx_l]
    unfold cdA at q1
    by_cases k0 : k = 0
    · rw [if_pos k0] at q1 ⊢
      have q3 := Option.some.inj q1
      rw [zs_5, zs_b, zs_b, p2, zs_2, show r5_thrown M' = some (M' 0 0) from rfl, zs_1, ← q3, if_pos rfl, if_neg (by decide)]
      exact ⟨_, rfl, p4⟩
    rw [if_neg k0] at q1 ⊢
    by_cases k1 : k = 1
    · rw [if_pos k1] at q1 ⊢
      have q3 := Option.some.inj q1
      rw [zs_5, zs_b, zs_b, p2, zs_2, show r5_thrown M' = some (M' 0 0) from rfl, zs_1, ← q3, if_pos rfl, if_neg (by decide)]
      exact ⟨_, rfl, p4⟩
    rw [if_neg k1] at q1 ⊢
    exact nomatch q1
  · obtain ⟨q1, q2⟩ := p3
    rw [zx_r, zs_5, zs_b, zs_b, p2, zs_2, show r5_thrown M' = some (M' 0 0) from rfl, zs_1, q1, if_pos rfl, if_pos rfl, q2, lgu, if_pos rfl]
    exact ⟨_, rfl, p4⟩
theorem ra_4 (hI : Inv σ) (h1 : rd L xs (x4 + 1) = some a) (h2 : rd L xs (x4 + 2) = some b) : ∃ σ', rw_4 L xs σ x4 = some σ' ∧ Inv σ' := by
  obtain ⟨T, P, X, Y, E, B, M, O⟩ := σ
  obtain ⟨⟨n, hW, hR⟩, hC⟩ := hI
  obtain ⟨o, v, M', p1, p2, p3, p4, p5⟩ := ca_setting hR a b
  unfold rw_4 rL_setting
  dsimp only
  rw [h1, h2, zs_b, zs_b, p1, zs_1]
  rcases o with k | r
  · obtain ⟨q1, q2⟩ := p3
    rw [zx_l]
    unfold cdB at q1
    by_cases k0 : k = 1
    · rw [if_pos k0] at q1 ⊢
      have q3 := Option.some.inj q1
      rw [zs_2, zs_b, zs_b, p2, zs_2, show r5_thrown M' = some (M' 0 0) from rfl, zs_1, ← q3, if_pos rfl, if_neg (by decide)]
      exact ⟨_, rfl, inv_q hW hC p4 p5⟩
    rw [if_neg k0] at q1 ⊢
    by_cases k1 : k = 0
    · rw [if_pos k1] at q1 ⊢
      have q3 := Option.some.inj q1
      rw [zs_2, zs_b, zs_b, p2, zs_2, show r5_thrown M' = some (M' 0 0) from rfl, zs_1, ← q3, if_pos rfl, if_neg (by decide)]
      exact ⟨_, rfl, inv_q hW hC p4 p5⟩
    rw [if_neg k1] at q1 ⊢
    exact nomatch q1
  · obtain ⟨q1, q2⟩ := p3
    rw [zx_r, zs_2, zs_b, zs_b, p2, zs_2, show r5_thrown M' = some (M' 0 0) from rfl, zs_1, q1, if_pos rfl, if_pos rfl, q2, lgu, if_pos rfl]
    exact ⟨_, rfl, inv_q hW hC p4 p5⟩
theorem ra_5 (hI : Inv σ) (h1 : rd L xs (x4 + 1) = some a) : ∃ σ', rw_5 L xs σ x4 = some σ' ∧ Inv σ' := by
  obtain ⟨T, P, X, Y, E, B, M, O⟩ := σ
  obtain ⟨⟨n, hW, hR⟩, hC⟩ := hI
  obtain ⟨o, X', v, M', p1, p2, p3, p4, p5⟩ := ca_append hR hC a
  unfold rw_5 rL_append
  dsimp only
  rw [h1, zs_b, p1, zs_2]
  rcases o with k | r
  · obtain ⟨q1, q2⟩ := p3
    rw [zx_l]
    unfold cdT at q1
    by_cases k0 : k = 1
    · rw [if_pos k0] at q1 ⊢
      have q3 := Option.some.inj q1
      rw [zs_3, zs_b, p2, zs_2, show r5_thrown M' = some (M' 0 0) from rfl, zs_1, ← q3, if_pos rfl, if_neg (by decide)]
      exact ⟨_, rfl, ⟨⟨n, hW, p4⟩, p5⟩⟩
    rw [if_neg k0] at q1 ⊢
    by_cases k1 : k = 2
    · rw [if_pos k1] at q1 ⊢
      have q3 := Option.some.inj q1
      rw [zs_3, zs_b, p2, zs_2, show r5_thrown M' = some (M' 0 0) from rfl, zs_1, ← q3, if_pos rfl, if_neg (by decide)]
      exact ⟨_, rfl, ⟨⟨n, hW, p4⟩, p5⟩⟩
    rw [if_neg k1] at q1 ⊢
    exact nomatch q1
  · obtain ⟨q1, q2⟩ := p3
    rw [zx_r, zs_3, zs_b, p2, zs_2, show r5_thrown M' = some (M' 0 0) from rfl, zs_1, q1, if_pos rfl, if_pos rfl, q2, lgu, if_pos rfl]
    exact ⟨_, rfl, ⟨⟨n, hW, p4⟩, p5⟩⟩
theorem ra_6 (hI : Inv σ)  : ∃ σ', rw_6 L xs σ x4 = some σ' ∧ Inv σ' := by
  obtain ⟨T, P, X, Y, E, B, M, O⟩ := σ
  obtain ⟨⟨n, hW, hR⟩, hC⟩ := hI
  obtain ⟨o, T', X', Y', E', v, M', p1, p2, p3, p4⟩ := ca_addEvent hW hR hC 
  unfold rw_6 rL_addEvent
  dsimp only
  rw [p1, zs_5]
  rcases o with k | r
  · obtain ⟨q1, q2⟩ := p3
    rw [zx_l]
    unfold cdT at q1
    by_cases k0 : k = 1
    · rw [if_pos k0] at q1 ⊢
      have q3 := Option.some.inj q1
      rw [zs_6, p2, zs_2, show r5_thrown M' = some (M' 0 0) from rfl, zs_1, ← q3, if_pos rfl, if_neg (by decide)]
      exact ⟨_, rfl, p4⟩
    rw [if_neg k0] at q1 ⊢
    by_cases k1 : k = 2
    · rw [if_pos k1] at q1 ⊢
      have q3 := Option.some.inj q1
      rw [zs_6, p2, zs_2, show r5_thrown M' = some (M' 0 0) from rfl, zs_1, ← q3, if_pos rfl, if_neg (by decide)]
      exact ⟨_, rfl, p4⟩
    rw [if_neg k1] at q1 ⊢
    exact nomatch q1
  · obtain ⟨q1, q2⟩ := p3
    rw [zx_r, zs_6, p2, zs_2, show r5_thrown M' = some (M' 0 0) from rfl, zs_1, q1, if_pos rfl, if_pos rfl, q2, lgu, if_pos rfl]
    exact ⟨_, rfl, p4⟩
theorem ra_8 (hI : Inv σ) (h1 : rd L xs (x4 + 1) = some a) : ∃ σ', rw_8 L xs σ x4 = some σ' ∧ Inv σ' := by
  obtain ⟨T, P, X, Y, E, B, M, O⟩ := σ
  obtain ⟨⟨n, hW, hR⟩, hC⟩ := hI
  obtain ⟨o, T', Y', E', v, M', p1, p2, p3, p4⟩ := ca_removeEvent hW hR hC a
  unfold rw_8 rL_removeEvent
  dsimp only
  rw [h1, zs_b, p1, zs_4]
  rcases o with k | r
  · obtain ⟨q1, q2⟩ := p3
    rw [zx_l]
    unfold cdE at q1
    by_cases k0 : k = 0
    · rw [if_pos k0] at q1 ⊢
      have q3 := Option.some.inj q1
      rw [zs_5, zs_b, p2, zs_2, show r5_thrown M' = some (M' 0 0) from rfl, zs_1, ← q3, if_pos rfl, if_neg (by decide)]
      exact ⟨_, rfl, p4⟩
    rw [if_neg k0] at q1 ⊢
    exact nomatch q1
  · obtain ⟨q1, q2⟩ := p3
    rw [zx_r, zs_5, zs_b, p2, zs_2, show r5_thrown M' = some (M' 0 0) from rfl, zs_1, q1, if_pos rfl, if_pos rfl, q2, lgu, if_pos rfl]
    exact ⟨_, rfl, p4⟩
theorem ra_9 (hI : Inv σ) (h1 : rd L xs (x4 + 1) = some a) (h2 : rd L xs (x4 + 2) = some b) : ∃ σ', rw_9 L xs σ x4 = some σ' ∧ Inv σ' := by
  obtain ⟨T, P, X, Y, E, B, M, O⟩ := σ
  obtain ⟨⟨n, hW, hR⟩, hC⟩ := hI
  obtain ⟨o, T', Y', E', v, M', p1, p2, p3, p4⟩ := ca_split hW hR hC a b
  unfold rw_9 rL_split
  dsimp only
  rw [h1, h2, zs_b, zs_b, p1, zs_4]
  rcases o with k | r
  · obtain ⟨q1, q2⟩ := p3
    rw [zx_l]
    unfold cdS at q1
    by_cases k0 : k = 0
    · rw [if_pos k0] at q1 ⊢
      have q3 := Option.some.inj q1
      rw [zs_5, zs_b, zs_b, p2, zs_2, show r5_thrown M' = some (M' 0 0) from rfl, zs_1, ← q3, if_pos rfl, if_neg (by decide)]
      exact ⟨_, rfl, p4⟩
    rw [if_neg k0] at q1 ⊢
    by_cases k1 : k = 1
    · rw [if_pos k1] at q1 ⊢
      have q3 := Option.some.inj q1
      rw [zs_5, zs_b, zs_b, p2, zs_2, show r5_thrown M' = some (M' 0 0) from rfl, zs_1, ← q3, if_pos rfl, if_neg (by decide)]
      exact ⟨_, rfl, p4⟩
    rw [if_neg k1] at q1 ⊢
    by_cases k2 : k = 2
    · rw [if_pos k2] at q1 ⊢
      have q3 := Option.some.inj q1
      rw [zs_5, zs_b, zs_b, p2, zs_2, show r5_thrown M' = some (M' 0 0) from rfl, zs_1, ← q3, if_pos rfl, if_neg (by decide)]
      exact ⟨_, rfl, p4⟩
    rw [if_neg k2] at q1 ⊢
    exact nomatch q1
  · obtain ⟨q1, q2⟩ := p3
    rw [zx_r, zs_5, zs_b, zs_b, p2, zs_2, show r5_thrown M' = some (M' 0 0) from rfl, zs_1, q1, if_pos rfl, if_pos rfl, q2, lgu, if_pos rfl]
    exact ⟨_, rfl, p4⟩
theorem ra_10 (hI : Inv σ) (h1 : rd L xs (x4 + 1) = some a) (h2 : rd L xs (x4 + 2) = some b) : ∃ σ', rw_10 L xs σ x4 = some σ' ∧ Inv σ' := by
  obtain ⟨T, P, X, Y, E, B, M, O⟩ := σ
  obtain ⟨⟨n, hW, hR⟩, hC⟩ := hI
  obtain ⟨o, v, M', p1, p2, p3, p4, p5⟩ := ca_event hW hR a b
  unfold rw_10 rL_event
  dsimp only
  rw [h1, h2, zs_b, zs_b, p1, zs_1]
  rcases o with k | r
  · obtain ⟨q1, q2⟩ := p3
    rw [zx_l]
    unfold cdA at q1
    by_cases k0 : k = 0
    · rw [if_pos k0] at q1 ⊢
      have q3 := Option.some.inj q1
      rw [zs_2, zs_b, zs_b, p2, zs_2, show r5_thrown M' = some (M' 0 0) from rfl, zs_1, ← q3, if_pos rfl, if_neg (by decide)]
      exact ⟨_, rfl, inv_q hW hC p4 p5⟩
    rw [if_neg k0] at q1 ⊢
    by_cases k1 : k = 1
    · rw [if_pos k1] at q1 ⊢
      have q3 := Option.some.inj q1
      rw [zs_2, zs_b, zs_b, p2, zs_2, show r5_thrown M' = some (M' 0 0) from rfl, zs_1, ← q3, if_pos rfl, if_neg (by decide)]
      exact ⟨_, rfl, inv_q hW hC p4 p5⟩
    rw [if_neg k1] at q1 ⊢
    exact nomatch q1
  · obtain ⟨q1, q2⟩ := p3
    rw [zx_r, zs_2, zs_b, zs_b, p2, zs_2, show r5_thrown M' = some (M' 0 0) from rfl, zs_1, q1, if_pos rfl, if_pos rfl, q2, lgu, if_pos rfl]
    exact ⟨_, rfl, inv_q hW hC p4 p5⟩
theorem ra_11 (hI : Inv σ) (h1 : rd L xs (x4 + 1) = some a) (h2 : rd L xs (x4 + 2) = some b) : ∃ σ', rw_11 L xs σ x4 = some σ' ∧ Inv σ' := by
  obtain ⟨T, P, X, Y, E, B, M, O⟩ := σ
  obtain ⟨⟨n, hW, hR⟩, hC⟩ := hI
  obtain ⟨o, v, M', p1, p2, p3, p4, p5⟩ := ca_describe hW hR a b
  unfold rw_11 rL_describe
  dsimp only
  rw [h1, h2, zs_b, zs_b, p1, zs_1]
  rcases o with k | r
  · obtain ⟨q1, q2⟩ := p3
    rw [zx_l]
    unfold cdE at q1
    by_cases k0 : k = 0
    · rw [if_pos k0] at q1 ⊢
      have q3 := Option.some.inj q1
      rw [zs_2, zs_b, zs_b, p2, zs_2, show r5_thrown M' = some (M' 0 0) from rfl, zs_1, ← q3, if_pos rfl, if_neg (by decide)]
      exact ⟨_, rfl, inv_q hW hC p4 p5⟩
    rw [if_neg k0] at q1 ⊢
    exact nomatch q1
  · obtain ⟨q1, q2⟩ := p3
    rw [zx_r, zs_2, zs_b, zs_b, p2, zs_2, show r5_thrown M' = some (M' 0 0) from rfl, zs_1, q1, if_pos rfl, if_pos rfl, q2, lgu, if_pos rfl]
    exact ⟨_, rfl, inv_q hW hC p4 p5⟩
theorem ra_12 (hI : Inv σ) (h1 : rd L xs (x4 + 1) = some a) (h2 : rd L xs (x4 + 2) = some b) : ∃ σ', rw_12 L xs σ x4 = some σ' ∧ Inv σ' := by
  obtain ⟨T, P, X, Y, E, B, M, O⟩ := σ
  obtain ⟨⟨n, hW, hR⟩, hC⟩ := hI
  obtain ⟨o, T', Y', E', v, M', p1, p2, p3, p4⟩ := ca_place hW hR hC a b
  unfold rw_12 rL_place
  dsimp only
  rw [h1, h2, zs_b, zs_b, p1, zs_4]
  rcases o with k | r
  · obtain ⟨q1, q2⟩ := p3
    rw [zx_l]
    unfold cdP at q1
    by_cases k0 : k = 0
    · rw [if_pos k0] at q1 ⊢
      have q3 := Option.some.inj q1
      rw [zs_5, zs_b, zs_b, p2, zs_2, show r5_thrown M' = some (M' 0 0) from rfl, zs_1, ← q3, if_pos rfl, if_neg (by decide)]
      exact ⟨_, rfl, p4⟩
    rw [if_neg k0] at q1 ⊢
    by_cases k1 : k = 3
    · rw [if_pos k1] at q1 ⊢
      have q3 := Option.some.inj q1
      rw [zs_5, zs_b, zs_b, p2, zs_2, show r5_thrown M' = some (M' 0 0) from rfl, zs_1, ← q3, if_pos rfl, if_neg (by decide)]
      exact ⟨_, rfl, p4⟩
    rw [if_neg k1] at q1 ⊢
    by_cases k2 : k = 2
    · rw [if_pos k2] at q1 ⊢
      have q3 := Option.some.inj q1
      rw [zs_5, zs_b, zs_b, p2, zs_2, show r5_thrown M' = some (M' 0 0) from rfl, zs_1, ← q3, if_pos rfl, if_neg (by decide)]
      exact ⟨_, rfl, p4⟩
    rw [if_neg k2] at q1 ⊢
    exact nomatch q1
  · obtain ⟨q1, q2⟩ := p3
    rw [zx_r, zs_5, zs_b, zs_b, p2, zs_2, show r5_thrown M' = some (M' 0 0) from rfl, zs_1, q1, if_pos rfl, if_pos rfl, q2, lgu, if_pos rfl]
    exact ⟨_, rfl, p4⟩
theorem ra_13 (hI : Inv σ) (h1 : rd L xs (x4 + 1) = some a) : ∃ σ', rw_13 L xs σ x4 = some σ' ∧ Inv σ' := by
  obtain ⟨T, P, X, Y, E, B, M, O⟩ := σ
  obtain ⟨⟨n, hW, hR⟩, hC⟩ := hI
  obtain ⟨o, T', Y', E', v, M', p1, p2, p3, p4⟩ := ca_unplace hW hR hC a
  unfold rw_13 rL_unplace
  dsimp only
  rw [h1, zs_b, p1, zs_4]
  rcases o with k | r
  · obtain ⟨q1, q2⟩ := p3
    rw [zx_l]
    unfold cdG at q1
    by_cases k0 : k = 0
    · rw [if_pos k0] at q1 ⊢
      have q3 := Option.some.inj q1
      rw [zs_5, zs_b, p2, zs_2, show r5_thrown M' = some (M' 0 0) from rfl, zs_1, ← q3, if_pos rfl, if_neg (by decide)]
      exact ⟨_, rfl, p4⟩
    rw [if_neg k0] at q1 ⊢
    by_cases k1 : k = 2
    · rw [if_pos k1] at q1 ⊢
      have q3 := Option.some.inj q1
      rw [zs_5, zs_b, p2, zs_2, show r5_thrown M' = some (M' 0 0) from rfl, zs_1, ← q3, if_pos rfl, if_neg (by decide)]
      exact ⟨_, rfl, p4⟩
    rw [if_neg k1] at q1 ⊢
    exact nomatch q1
  · obtain ⟨q1, q2⟩ := p3
    rw [zx_r, zs_5, zs_b, p2, zs_2, show r5_thrown M' = some (M' 0 0) from rfl, zs_1, q1, if_pos rfl, if_pos rfl, q2, lgu, if_pos rfl]
    exact ⟨_, rfl, p4⟩
theorem ra_15 (hI : Inv σ) (h1 : rd L xs (x4 + 1) = some a) (h2 : rd L xs (x4 + 2) = some b) : ∃ σ', rw_15 L xs σ x4 = some σ' ∧ Inv σ' := by
  obtain ⟨T, P, X, Y, E, B, M, O⟩ := σ
  obtain ⟨⟨n, hW, hR⟩, hC⟩ := hI
  obtain ⟨o, v, M', p1, p2, p3, p4, p5⟩ := ca_obstacle hW hR a b
  unfold rw_15 rL_obstacle
  dsimp only
  rw [h1, h2, zs_b, zs_b, p1, zs_1]
  rcases o with k | r
  · obtain ⟨q1, q2⟩ := p3
    rw [zx_l]
    unfold cdE at q1
    by_cases k0 : k = 0
    · rw [if_pos k0] at q1 ⊢
      have q3 := Option.some.inj q1
      rw [zs_2, zs_b, zs_b, p2, zs_2, show r5_thrown M' = some (M' 0 0) from rfl, zs_1, ← q3, if_pos rfl, if_neg (by decide)]
      exact ⟨_, rfl, inv_q hW hC p4 p5⟩
    rw [if_neg k0] at q1 ⊢
    exact nomatch q1
  · obtain ⟨q1, q2⟩ := p3
    rw [zx_r, zs_2, zs_b, zs_b, p2, zs_2, show r5_thrown M' = some (M' 0 0) from rfl, zs_1, q1, if_pos rfl, if_pos rfl, q2, lgu, if_pos rfl]
    exact ⟨_, rfl, inv_q hW hC p4 p5⟩
theorem ra_16 (hI : Inv σ) (h1 : rd L xs (x4 + 1) = some a) (h2 : rd L xs (x4 + 2) = some b) : ∃ σ', rw_16 L xs σ x4 = some σ' ∧ Inv σ' := by
  obtain ⟨T, P, X, Y, E, B, M, O⟩ := σ
  obtain ⟨⟨n, hW, hR⟩, hC⟩ := hI
  obtain ⟨o, v, M', p1, p2, p3, p4, p5⟩ := ca_places hW hR a b
  unfold rw_16 rL_places
  dsimp only
  rw [h1, h2, zs_b, zs_b, p1, zs_1]
  rcases o with k | r
  · obtain ⟨q1, q2⟩ := p3
    rw [zx_l]
    unfold cdA at q1
    by_cases k0 : k = 0
    · rw [if_pos k0] at q1 ⊢
      have q3 := Option.some.inj q1
      rw [zs_2, zs_b, zs_b, p2, zs_2, show r5_thrown M' = some (M' 0 0) from rfl, zs_1, ← q3, if_pos rfl, if_neg (by decide)]
      exact ⟨_, rfl, inv_q hW hC p4 p5⟩
    rw [if_neg k0] at q1 ⊢
    by_cases k1 : k = 1
    · rw [if_pos k1] at q1 ⊢
      have q3 := Option.some.inj q1
      rw [zs_2, zs_b, zs_b, p2, zs_2, show r5_thrown M' = some (M' 0 0) from rfl, zs_1, ← q3, if_pos rfl, if_neg (by decide)]
      exact ⟨_, rfl, inv_q hW hC p4 p5⟩
    rw [if_neg k1] at q1 ⊢
    exact nomatch q1
  · obtain ⟨q1, q2⟩ := p3
    rw [zx_r, zs_2, zs_b, zs_b, p2, zs_2, show r5_thrown M' = some (M' 0 0) from rfl, zs_1, q1, if_pos rfl, if_pos rfl, q2, lgu, if_pos rfl]
    exact ⟨_, rfl, inv_q hW hC p4 p5⟩
theorem ra_17 (hI : Inv σ) (h1 : rd L xs (x4 + 1) = some a) (h2 : rd L xs (x4 + 2) = some b) : ∃ σ', rw_17 L xs σ x4 = some σ' ∧ Inv σ' := by
  obtain ⟨T, P, X, Y, E, B, M, O⟩ := σ
  obtain ⟨⟨n, hW, hR⟩, hC⟩ := hI
  obtain ⟨o, v, M', p1, p2, p3, p4, p5⟩ := ca_free hW hR a b
  unfold rw_17 rL_free
  dsimp only
  rw [h1, h2, zs_b, zs_b, p1, zs_1]
  rcases o with k | r
  · obtain ⟨q1, q2⟩ := p3
    rw [zx_l]
    unfold cdF at q1
    by_cases k0 : k = 0
    · rw [if_pos k0] at q1 ⊢
      have q3 := Option.some.inj q1
      rw [zs_2, zs_b, zs_b, p2, zs_2, show r5_thrown M' = some (M' 0 0) from rfl, zs_1, ← q3, if_pos rfl, if_neg (by decide)]
      exact ⟨_, rfl, inv_q hW hC p4 p5⟩
    rw [if_neg k0] at q1 ⊢
    by_cases k1 : k = 4
    · rw [if_pos k1] at q1 ⊢
      have q3 := Option.some.inj q1
      rw [zs_2, zs_b, zs_b, p2, zs_2, show r5_thrown M' = some (M' 0 0) from rfl, zs_1, ← q3, if_pos rfl, if_neg (by decide)]
      exact ⟨_, rfl, inv_q hW hC p4 p5⟩
    rw [if_neg k1] at q1 ⊢
    exact nomatch q1
  · obtain ⟨q1, q2⟩ := p3
    rw [zx_r, zs_2, zs_b, zs_b, p2, zs_2, show r5_thrown M' = some (M' 0 0) from rfl, zs_1, q1, if_pos rfl, if_pos rfl, q2, lgu, if_pos rfl]
    exact ⟨_, rfl, inv_q hW hC p4 p5⟩
theorem ra_18 (hI : Inv σ) (h1 : rd L xs (x4 + 1) = some a) (h2 : rd L xs (x4 + 2) = some b) : ∃ σ', rw_18 L xs σ x4 = some σ' ∧ Inv σ' := by
  obtain ⟨T, P, X, Y, E, B, M, O⟩ := σ
  obtain ⟨⟨n, hW, hR⟩, hC⟩ := hI
  obtain ⟨o, v, M', p1, p2, p3, p4, p5⟩ := ca_hindering hW hR a b
  unfold rw_18 rL_hindering
  dsimp only
  rw [h1, h2, zs_b, zs_b, p1, zs_1]
  rcases o with k | r
  · obtain ⟨q1, q2⟩ := p3
    rw [zx_l]
    unfold cdE at q1
    by_cases k0 : k = 0
    · rw [if_pos k0] at q1 ⊢
      have q3 := Option.some.inj q1
      rw [zs_2, zs_b, zs_b, p2, zs_2, show r5_thrown M' = some (M' 0 0) from rfl, zs_1, ← q3, if_pos rfl, if_neg (by decide)]
      exact ⟨_, rfl, inv_q hW hC p4 p5⟩
    rw [if_neg k0] at q1 ⊢
    exact nomatch q1
  · obtain ⟨q1, q2⟩ := p3
    rw [zx_r, zs_2, zs_b, zs_b, p2, zs_2, show r5_thrown M' = some (M' 0 0) from rfl, zs_1, q1, if_pos rfl, if_pos rfl, q2, lgu, if_pos rfl]
    exact ⟨_, rfl, inv_q hW hC p4 p5⟩
theorem ra_19 (hI : Inv σ) (h1 : rd L xs (x4 + 1) = some a) (h2 : rd L xs (x4 + 2) = some b) : ∃ σ', rw_19 L xs σ x4 = some σ' ∧ Inv σ' := by
  obtain ⟨T, P, X, Y, E, B, M, O⟩ := σ
  obtain ⟨⟨n, hW, hR⟩, hC⟩ := hI
  obtain ⟨o, v, M', p1, p2, p3, p4, p5⟩ := ca_at hW hR a b
  unfold rw_19 rL_at
  dsimp only
  rw [h1, h2, zs_b, zs_b, p1, zs_1]
  rcases o with k | r
  · obtain ⟨q1, q2⟩ := p3
    rw [zx_l]
    unfold cdF at q1
    by_cases k0 : k = 0
    · rw [if_pos k0] at q1 ⊢
      have q3 := Option.some.inj q1
      rw [zs_2, zs_b, zs_b, p2, zs_2, show r5_thrown M' = some (M' 0 0) from rfl, zs_1, ← q3, if_pos rfl, if_neg (by decide)]
      exact ⟨_, rfl, inv_q hW hC p4 p5⟩
    rw [if_neg k0] at q1 ⊢
    by_cases k1 : k = 4
    · rw [if_pos k1] at q1 ⊢
      have q3 := Option.some.inj q1
      rw [zs_2, zs_b, zs_b, p2, zs_2, show r5_thrown M' = some (M' 0 0) from rfl, zs_1, ← q3, if_pos rfl, if_neg (by decide)]
      exact ⟨_, rfl, inv_q hW hC p4 p5⟩
    rw [if_neg k1] at q1 ⊢
    exact nomatch q1
  · obtain ⟨q1, q2⟩ := p3
    rw [zx_r, zs_2, zs_b, zs_b, p2, zs_2, show r5_thrown M' = some (M' 0 0) from rfl, zs_1, q1, if_pos rfl, if_pos rfl, q2, lgu, if_pos rfl]
    exact ⟨_, rfl, inv_q hW hC p4 p5⟩
theorem ra_20 (hI : Inv σ) (h1 : rd L xs (x4 + 1) = some a) (h2 : rd L xs (x4 + 2) = some b) : ∃ σ', rw_20 L xs σ x4 = some σ' ∧ Inv σ' := by
  obtain ⟨T, P, X, Y, E, B, M, O⟩ := σ
  obtain ⟨⟨n, hW, hR⟩, hC⟩ := hI
  obtain ⟨o, v, M', p1, p2, p3, p4, p5⟩ := ca_taken hW hR a b
  unfold rw_20 rL_taken
  dsimp only
  rw [h1, h2, zs_b, zs_b, p1, zs_1]
  rcases o with k | r
  · obtain ⟨q1, q2⟩ := p3
    rw [zx_l]
    unfold cdB at q1
    by_cases k0 : k = 1
    · rw [if_pos k0] at q1 ⊢
      have q3 := Option.some.inj q1
      rw [zs_2, zs_b, zs_b, p2, zs_2, show r5_thrown M' = some (M' 0 0) from rfl, zs_1, ← q3, if_pos rfl, if_neg (by decide)]
      exact ⟨_, rfl, inv_q hW hC p4 p5⟩
    rw [if_neg k0] at q1 ⊢
    by_cases k1 : k = 0
    · rw [if_pos k1] at q1 ⊢
      have q3 := Option.some.inj q1
      rw [zs_2, zs_b, zs_b, p2, zs_2, show r5_thrown M' = some (M' 0 0) from rfl, zs_1, ← q3, if_pos rfl, if_neg (by decide)]
      exact ⟨_, rfl, inv_q hW hC p4 p5⟩
    rw [if_neg k1] at q1 ⊢
    exact nomatch q1
  · obtain ⟨q1, q2⟩ := p3
    rw [zx_r, zs_2, zs_b, zs_b, p2, zs_2, show r5_thrown M' = some (M' 0 0) from rfl, zs_1, q1, if_pos rfl, if_pos rfl, q2, lgu, if_pos rfl]
    exact ⟨_, rfl, inv_q hW hC p4 p5⟩
theorem ra_21 (hI : Inv σ) (h1 : rd L xs (x4 + 1) = some a) : ∃ σ', rw_21 L xs σ x4 = some σ' ∧ Inv σ' := by
  obtain ⟨T, P, X, Y, E, B, M, O⟩ := σ
  obtain ⟨⟨n, hW, hR⟩, hC⟩ := hI
  obtain ⟨o, T', P', Y', E', v, M', p1, p2, p3, p4⟩ := ca_insert hW hR hC (P := P) a
  unfold rw_21 rL_insert
  dsimp only
  rw [h1, zs_b, p1, zs_5]
  rcases o with k | r
  · obtain ⟨q1, q2⟩ := p3
    rw [zx_l]
    unfold cdI at q1
    by_cases k0 : k = 0
    · rw [if_pos k0] at q1 ⊢
      have q3 := Option.some.inj q1
      rw [zs_6, zs_b, p2, zs_2, show r5_thrown M' = some (M' 0 0) from rfl, zs_1, ← q3, if_pos rfl, if_neg (by decide)]
      exact ⟨_, rfl, p4⟩
    rw [if_neg k0] at q1 ⊢
    by_cases k1 : k = 2
    · rw [if_pos k1] at q1 ⊢
      have q3 := Option.some.inj q1
      rw [zs_6, zs_b, p2, zs_2, show r5_thrown M' = some (M' 0 0) from rfl, zs_1, ← q3, if_pos rfl, if_neg (by decide)]
      exact ⟨_, rfl, p4⟩
    rw [if_neg k1] at q1 ⊢
    by_cases k2 : k = 3
    · rw [if_pos k2] at q1 ⊢
      have q3 := Option.some.inj q1
      rw [zs_6, zs_b, p2, zs_2, show r5_thrown M' = some (M' 0 0) from rfl, zs_1, ← q3, if_pos rfl, if_neg (by decide)]
      exact ⟨_, rfl, p4⟩
    rw [if_neg k2] at q1 ⊢
    exact nomatch q1
  · obtain ⟨q1, q2⟩ := p3
    rw [zx_r, zs_6, zs_b, p2, zs_2, show r5_thrown M' = some (M' 0 0) from rfl, zs_1, q1, if_pos rfl, if_pos rfl, q2, lgu, if_pos rfl]
    exact ⟨_, rfl, p4⟩
theorem ra_23 (hI : Inv σ) (h1 : rd L xs (x4 + 1) = some a) (h2 : rd L xs (x4 + 2) = some b) : ∃ σ', rw_23 L xs σ x4 = some σ' ∧ Inv σ' := by
  obtain ⟨T, P, X, Y, E, B, M, O⟩ := σ
  obtain ⟨⟨n, hW, hR⟩, hC⟩ := hI
  obtain ⟨o, T', P', Y', E', v, M', p1, p2, p3, p4⟩ := ca_exchange hW hR hC (P := P) a b
  unfold rw_23 rL_exchange
  dsimp only
  rw [h1, h2, zs_b, zs_b, p1, zs_5]
  rcases o with k | r
  · obtain ⟨q1, q2⟩ := p3
    rw [zx_l]
    unfold cdI at q1
    by_cases k0 : k = 0
    · rw [if_pos k0] at q1 ⊢
      have q3 := Option.some.inj q1
      rw [zs_6, zs_b, zs_b, p2, zs_2, show r5_thrown M' = some (M' 0 0) from rfl, zs_1, ← q3, if_pos rfl, if_neg (by decide)]
      exact ⟨_, rfl, p4⟩
    rw [if_neg k0] at q1 ⊢
    by_cases k1 : k = 2
    · rw [if_pos k1] at q1 ⊢
      have q3 := Option.some.inj q1
      rw [zs_6, zs_b, zs_b, p2, zs_2, show r5_thrown M' = some (M' 0 0) from rfl, zs_1, ← q3, if_pos rfl, if_neg (by decide)]
      exact ⟨_, rfl, p4⟩
    rw [if_neg k1] at q1 ⊢
    by_cases k2 : k = 3
    · rw [if_pos k2] at q1 ⊢
      have q3 := Option.some.inj q1
      rw [zs_6, zs_b, zs_b, p2, zs_2, show r5_thrown M' = some (M' 0 0) from rfl, zs_1, ← q3, if_pos rfl, if_neg (by decide)]
      exact ⟨_, rfl, p4⟩
    rw [if_neg k2] at q1 ⊢
    exact nomatch q1
  · obtain ⟨q1, q2⟩ := p3
    rw [zx_r, zs_6, zs_b, zs_b, p2, zs_2, show r5_thrown M' = some (M' 0 0) from rfl, zs_1, q1, if_pos rfl, if_pos rfl, q2, lgu, if_pos rfl]
    exact ⟨_, rfl, p4⟩
theorem ra_24 (hI : Inv σ) (h1 : rd L xs (x4 + 1) = some a) (h2 : rd L xs (x4 + 2) = some b) : ∃ σ', rw_24 L xs σ x4 = some σ' ∧ Inv σ' := by
  obtain ⟨T, P, X, Y, E, B, M, O⟩ := σ
  obtain ⟨⟨n, hW, hR⟩, hC⟩ := hI
  obtain ⟨o, v, M', p1, p2, p3, p4, p5⟩ := ca_chain hW hR a b
  unfold rw_24 rL_chain
  dsimp only
  rw [h1, h2, zs_b, zs_b, p1, zs_1]
  rcases o with k | r
  · obtain ⟨q1, q2⟩ := p3
    rw [zx_l]
    unfold cdG at q1
    by_cases k0 : k = 0
    · rw [if_pos k0] at q1 ⊢
      have q3 := Option.some.inj q1
      rw [zs_2, zs_b, zs_b, p2, zs_2, show r5_thrown M' = some (M' 0 0) from rfl, zs_1, ← q3, if_pos rfl, if_neg (by decide)]
      exact ⟨_, rfl, inv_q hW hC p4 p5⟩
    rw [if_neg k0] at q1 ⊢
    by_cases k1 : k = 2
    · rw [if_pos k1] at q1 ⊢
      have q3 := Option.some.inj q1
      rw [zs_2, zs_b, zs_b, p2, zs_2, show r5_thrown M' = some (M' 0 0) from rfl, zs_1, ← q3, if_pos rfl, if_neg (by decide)]
      exact ⟨_, rfl, inv_q hW hC p4 p5⟩
    rw [if_neg k1] at q1 ⊢
    exact nomatch q1
  · obtain ⟨q1, q2⟩ := p3
    rw [zx_r, zs_2, zs_b, zs_b, p2, zs_2, show r5_thrown M' = some (M' 0 0) from rfl, zs_1, q1, if_pos rfl, if_pos rfl, q2, lgu, if_pos rfl]
    exact ⟨_, rfl, inv_q hW hC p4 p5⟩
theorem ra_25 (hI : Inv σ) (h1 : rd L xs (x4 + 1) = some a) : ∃ σ', rw_25 L xs σ x4 = some σ' ∧ Inv σ' := by
  obtain ⟨T, P, X, Y, E, B, M, O⟩ := σ
  obtain ⟨⟨n, hW, hR⟩, hC⟩ := hI
  obtain ⟨o, T', Y', E', v, M', p1, p2, p3, p4⟩ := ca_improve hW hR hC a
  unfold rw_25 rL_improve
  dsimp only
  rw [h1, zs_b, p1, zs_4]
  rcases o with k | r
  · obtain ⟨q1, q2⟩ := p3
    rw [zx_l]
    unfold cdC at q1
    by_cases k0 : k = 1
    · rw [if_pos k0] at q1 ⊢
      have q3 := Option.some.inj q1
      rw [zs_5, zs_b, p2, zs_2, show r5_thrown M' = some (M' 0 0) from rfl, zs_1, ← q3, if_pos rfl, if_neg (by decide)]
      exact ⟨_, rfl, p4⟩
    rw [if_neg k0] at q1 ⊢
    exact nomatch q1
  · obtain ⟨q1, q2⟩ := p3
    rw [zx_r, zs_5, zs_b, p2, zs_2, show r5_thrown M' = some (M' 0 0) from rfl, zs_1, q1, if_pos rfl, if_pos rfl, q2, lgu, if_pos rfl]
    exact ⟨_, rfl, p4⟩
theorem ra_26 (hI : Inv σ) (h1 : rd L xs (x4 + 1) = some a) : ∃ σ', rw_26 L xs σ x4 = some σ' ∧ Inv σ' := by
  obtain ⟨T, P, X, Y, E, B, M, O⟩ := σ
  obtain ⟨⟨n, hW, hR⟩, hC⟩ := hI
  obtain ⟨o, v, M', p1, p2, p3, p4, p5⟩ := ca_cost hW hR a
  unfold rw_26 rL_cost
  dsimp only
  rw [h1, zs_b, p1, zs_1]
  rcases o with k | r
  · obtain ⟨q1, q2⟩ := p3
    rw [zx_l]
    unfold cdC at q1
    by_cases k0 : k = 1
    · rw [if_pos k0] at q1 ⊢
      have q3 := Option.some.inj q1
      rw [zs_2, zs_b, p2, zs_2, show r5_thrown M' = some (M' 0 0) from rfl, zs_1, ← q3, if_pos rfl, if_neg (by decide)]
      exact ⟨_, rfl, inv_q hW hC p4 p5⟩
    rw [if_neg k0] at q1 ⊢
    exact nomatch q1
  · obtain ⟨q1, q2⟩ := p3
    rw [zx_r, zs_2, zs_b, p2, zs_2, show r5_thrown M' = some (M' 0 0) from rfl, zs_1, q1, if_pos rfl, if_pos rfl, q2, lgu, if_pos rfl]
    exact ⟨_, rfl, inv_q hW hC p4 p5⟩
theorem ra_27 (hI : Inv σ) (h1 : rd L xs (x4 + 1) = some a) (h2 : rd L xs (x4 + 2) = some b) : ∃ σ', rw_27 L xs σ x4 = some σ' ∧ Inv σ' := by
  obtain ⟨T, P, X, Y, E, B, M, O⟩ := σ
  obtain ⟨⟨n, hW, hR⟩, hC⟩ := hI
  obtain ⟨o, v, M', p1, p2, p3, p4, p5⟩ := ca_costAt hW hR a b
  unfold rw_27 rL_costAt
  dsimp only
  rw [h1, h2, zs_b, zs_b, p1, zs_2]
  rcases o with k | r
  · obtain ⟨q1, q2⟩ := p3
    rw [zx_l]
    unfold cdG at q1
    by_cases k0 : k = 0
    · rw [if_pos k0] at q1 ⊢
      have q3 := Option.some.inj q1
      rw [zs_3, zs_b, zs_b, p2, zs_2, show r5_thrown M' = some (M' 0 0) from rfl, zs_1, ← q3, if_pos rfl, if_neg (by decide)]
      exact ⟨_, rfl, inv_q hW hC p4 p5⟩
    rw [if_neg k0] at q1 ⊢
    by_cases k1 : k = 2
    · rw [if_pos k1] at q1 ⊢
      have q3 := Option.some.inj q1
      rw [zs_3, zs_b, zs_b, p2, zs_2, show r5_thrown M' = some (M' 0 0) from rfl, zs_1, ← q3, if_pos rfl, if_neg (by decide)]
      exact ⟨_, rfl, inv_q hW hC p4 p5⟩
    rw [if_neg k1] at q1 ⊢
    exact nomatch q1
  · obtain ⟨q1, q2⟩ := p3
    rw [zx_r, zs_3, zs_b, zs_b, p2, zs_2, show r5_thrown M' = some (M' 0 0) from rfl, zs_1, q1, if_pos rfl, if_pos rfl, q2, lgu, if_pos rfl]
    exact ⟨_, rfl, inv_q hW hC p4 p5⟩
theorem ra_30 (hI : Inv σ) (h1 : rd L xs (x4 + 1) = some a) : ∃ σ', rw_30 L xs σ x4 = some σ' ∧ Inv σ' := by
  obtain ⟨T, P, X, Y, E, B, M, O⟩ := σ
  obtain ⟨⟨n, hW, hR⟩, hC⟩ := hI
  obtain ⟨o, v, M', p1, p2, p3, p4, p5⟩ := ca_marked hW hR a
  unfold rw_30 rL_marked
  dsimp only
  rw [h1, zs_b, p1, zs_1]
  rcases o with k | r
  · obtain ⟨q1, q2⟩ := p3
    rw [zx_l]
    unfold cdE at q1
    by_cases k0 : k = 0
    · rw [if_pos k0] at q1 ⊢
      have q3 := Option.some.inj q1
      rw [zs_2, zs_b, p2, zs_2, show r5_thrown M' = some (M' 0 0) from rfl, zs_1, ← q3, if_pos rfl, if_neg (by decide)]
      exact ⟨_, rfl, inv_q hW hC p4 p5⟩
    rw [if_neg k0] at q1 ⊢
    exact nomatch q1
  · obtain ⟨q1, q2⟩ := p3
    rw [zx_r, zs_2, zs_b, p2, zs_2, show r5_thrown M' = some (M' 0 0) from rfl, zs_1, q1, if_pos rfl, if_pos rfl, q2, lgu, if_pos rfl]
    exact ⟨_, rfl, inv_q hW hC p4 p5⟩
theorem ra_31 (hI : Inv σ) (h1 : rd L xs (x4 + 1) = some a) : ∃ σ', rw_31 L xs σ x4 = some σ' ∧ Inv σ' := by
  obtain ⟨T, P, X, Y, E, B, M, O⟩ := σ
  obtain ⟨⟨n, hW, hR⟩, hC⟩ := hI
  obtain ⟨o, v, M', p1, p2, p3, p4, p5⟩ := ca_count hW hR hC a
  unfold rw_31 rL_count
  dsimp only
  rw [h1, zs_b, p1, zs_1]
  rcases o with k | r
  · obtain ⟨q1, q2⟩ := p3
    rw [zx_l]
    unfold cdC at q1
    by_cases k0 : k = 1
    · rw [if_pos k0] at q1 ⊢
      have q3 := Option.some.inj q1
      rw [zs_2, zs_b, p2, zs_2, show r5_thrown M' = some (M' 0 0) from rfl, zs_1, ← q3, if_pos rfl, if_neg (by decide)]
      exact ⟨_, rfl, inv_q hW hC p4 p5⟩
    rw [if_neg k0] at q1 ⊢
    exact nomatch q1
  · obtain ⟨q1, q2⟩ := p3
    rw [zx_r, zs_2, zs_b, p2, zs_2, show r5_thrown M' = some (M' 0 0) from rfl, zs_1, q1, if_pos rfl, if_pos rfl, q2, lgu, if_pos rfl]
    exact ⟨_, rfl, inv_q hW hC p4 p5⟩
theorem ra_32 (hI : Inv σ)  : ∃ σ', rw_32 L xs σ x4 = some σ' ∧ Inv σ' := by
  obtain ⟨T, P, X, Y, E, B, M, O⟩ := σ
  obtain ⟨⟨n, hW, hR⟩, hC⟩ := hI
  obtain ⟨o, T', Y', v, M', p1, p2, p3, p4⟩ := ca_undo hW hR hC 
  unfold rw_32 rL_undo
  dsimp only
  rw [p1, zs_3]
  rcases o with k | r
  · obtain ⟨q1, q2⟩ := p3
    rw [zx_l]
    unfold cdU at q1
    by_cases k0 : k = 2
    · rw [if_pos k0] at q1 ⊢
      have q3 := Option.some.inj q1
      rw [zs_4, p2, zs_2, show r5_thrown M' = some (M' 0 0) from rfl, zs_1, ← q3, if_pos rfl, if_neg (by decide)]
      exact ⟨_, rfl, p4⟩
    rw [if_neg k0] at q1 ⊢
    exact nomatch q1
  · obtain ⟨q1, q2⟩ := p3
    rw [zx_r, zs_4, p2, zs_2, show r5_thrown M' = some (M' 0 0) from rfl, zs_1, q1, if_pos rfl, if_pos rfl, q2, lgu, if_pos rfl]
    exact ⟨_, rfl, p4⟩
theorem ra_34 (hI : Inv σ)  : ∃ σ', rw_34 L xs σ x4 = some σ' ∧ Inv σ' := by
  obtain ⟨T, P, X, Y, E, B, M, O⟩ := σ
  obtain ⟨⟨n, hW, hR⟩, hC⟩ := hI
  obtain ⟨o, T', Y', E', v, M', p1, p2, p3, p4⟩ := ca_restore hW hR hC 
  unfold rw_34 rL_restore
  dsimp only
  rw [p1, zs_4]
  rcases o with k | r
  · obtain ⟨q1, q2⟩ := p3
    rw [zx_l]
    unfold cdU at q1
    by_cases k0 : k = 2
    · rw [if_pos k0] at q1 ⊢
      have q3 := Option.some.inj q1
      rw [zs_5, p2, zs_2, show r5_thrown M' = some (M' 0 0) from rfl, zs_1, ← q3, if_pos rfl, if_neg (by decide)]
      exact ⟨_, rfl, p4⟩
    rw [if_neg k0] at q1 ⊢
    exact nomatch q1
  · obtain ⟨q1, q2⟩ := p3
    rw [zx_r, zs_5, p2, zs_2, show r5_thrown M' = some (M' 0 0) from rfl, zs_1, q1, if_pos rfl, if_pos rfl, q2, lgu, if_pos rfl]
    exact ⟨_, rfl, p4⟩
theorem ra_7 (hI : Inv σ) : ∃ σ', rw_7 L xs σ x4 = some σ' ∧ Inv σ' := by
  obtain ⟨T, P, X, Y, E, B, M, O⟩ := σ
  obtain ⟨⟨n, hW, hR⟩, hC⟩ := hI
  obtain ⟨v, p1, p2, p3, p4⟩ := ca_errorPosition hR hC
  unfold rw_7
  dsimp only
  rw [p1, zs_1, p2, zs_2, if_pos rfl]
  exact ⟨_, rfl, inv_q hW hC p3 p4⟩
theorem ra_22 (hI : Inv σ) : ∃ σ', rw_22 L xs σ x4 = some σ' ∧ Inv σ' := by
  obtain ⟨T, P, X, Y, E, B, M, O⟩ := σ
  obtain ⟨⟨n, hW, hR⟩, hC⟩ := hI
  obtain ⟨T', P', Y', E', v, M', p1, p2, p3⟩ := ca_build hW hR hC (P := P)
  unfold rw_22
  dsimp only
  rw [p1, zs_5, p2, zs_2, if_pos rfl]
  exact ⟨_, rfl, p3⟩
theorem ra_28 (hI : Inv σ) : ∃ σ', rw_28 L xs σ x4 = some σ' ∧ Inv σ' := by
  obtain ⟨T, P, X, Y, E, B, M, O⟩ := σ
  obtain ⟨⟨n, hW, hR⟩, hC⟩ := hI
  obtain ⟨v, T', Y', E', M', p1, p2, p3⟩ := ca_mark hW hR hC
  unfold rw_28
  dsimp only
  rw [p1, zs_4, p2, zs_2, if_pos rfl]
  exact ⟨_, rfl, p3⟩
theorem ra_29 (hI : Inv σ) : ∃ σ', rw_29 L xs σ x4 = some σ' ∧ Inv σ' := by
  obtain ⟨T, P, X, Y, E, B, M, O⟩ := σ
  obtain ⟨⟨n, hW, hR⟩, hC⟩ := hI
  unfold rw_29
  dsimp only
  rw [r4_changed_z hW, zs_1, r5_changed_z hW hR, zs_2, if_pos rfl]
  exact ⟨_, rfl, inv_q hW hC (hR.z 0) (KP.z M 0)⟩
theorem ra_33 (hI : Inv σ) : ∃ σ', rw_33 L xs σ x4 = some σ' ∧ Inv σ' := by
  obtain ⟨T, P, X, Y, E, B, M, O⟩ := σ
  obtain ⟨⟨n, hW, hR⟩, hC⟩ := hI
  obtain ⟨v, E', B', M', p1, p2, p3⟩ := ca_save hW hR hC
  unfold rw_33
  dsimp only
  rw [p1, zs_3, p2, zs_2, if_pos rfl]
  exact ⟨_, rfl, p3⟩
theorem ra_14 (hI : Inv σ) (h1 : rd L xs (x4 + 1) = some a) (h2 : rd L xs (x4 + 2) = some b) : ∃ σ', rw_14 L xs σ x4 = some σ' ∧ Inv σ' := by
  obtain ⟨T, P, X, Y, E, B, M, O⟩ := σ
  obtain ⟨⟨n, hW, hR⟩, hC⟩ := hI
  unfold rw_14 rL_fix
  dsimp only
  rw [h1, zs_b, h2, zs_b]
  by_cases hb : b = 0
  · skip
    obtain ⟨o, T', Y', E', v, M', p1, p2, p3, p4⟩ := ca_fix hW hR hC a (w := 0) (by decide)
    rw [if_pos hb, p1, zs_4]
    rcases o with k | r
    · obtain ⟨q1, q2⟩ := p3
      rw [zx_l]
      unfold cdG at q1
      by_cases k0 : k = 0
      · rw [if_pos k0] at q1 ⊢
        have q3 := Option.some.inj q1
        rw [zs_5, zs_b, zs_b, if_pos hb, p2, zs_2, show r5_thrown M' = some (M' 0 0) from rfl, zs_1, ← q3, if_pos rfl, if_neg (by decide)]
        exact ⟨_, rfl, p4⟩
      rw [if_neg k0] at q1 ⊢
      by_cases k1 : k = 2
      · rw [if_pos k1] at q1 ⊢
        have q3 := Option.some.inj q1
        rw [zs_5, zs_b, zs_b, if_pos hb, p2, zs_2, show r5_thrown M' = some (M' 0 0) from rfl, zs_1, ← q3, if_pos rfl, if_neg (by decide)]
        exact ⟨_, rfl, p4⟩
      rw [if_neg k1] at q1 ⊢
      exact nomatch q1
    · obtain ⟨q1, q2⟩ := p3
      rw [zx_r, zs_5, zs_b, zs_b, if_pos hb, p2, zs_2, show r5_thrown M' = some (M' 0 0) from rfl, zs_1, q1, if_pos rfl, if_pos rfl, q2]
      by_cases hr : r = 0
      · rw [if_pos hr, if_pos hr, lgu, if_pos rfl]; exact ⟨_, rfl, p4⟩
      · rw [if_neg hr, if_neg hr, lgu, if_pos rfl]; exact ⟨_, rfl, p4⟩
  · skip
    obtain ⟨o, T', Y', E', v, M', p1, p2, p3, p4⟩ := ca_fix hW hR hC a (w := 1) (by decide)
    rw [if_neg hb, p1, zs_4]
    rcases o with k | r
    · obtain ⟨q1, q2⟩ := p3
      rw [zx_l]
      unfold cdG at q1
      by_cases k0 : k = 0
      · rw [if_pos k0] at q1 ⊢
        have q3 := Option.some.inj q1
        rw [zs_5, zs_b, zs_b, if_neg hb, p2, zs_2, show r5_thrown M' = some (M' 0 0) from rfl, zs_1, ← q3, if_pos rfl, if_neg (by decide)]
        exact ⟨_, rfl, p4⟩
      rw [if_neg k0] at q1 ⊢
      by_cases k1 : k = 2
      · rw [if_pos k1] at q1 ⊢
        have q3 := Option.some.inj q1
        rw [zs_5, zs_b, zs_b, if_neg hb, p2, zs_2, show r5_thrown M' = some (M' 0 0) from rfl, zs_1, ← q3, if_pos rfl, if_neg (by decide)]
        exact ⟨_, rfl, p4⟩
      rw [if_neg k1] at q1 ⊢
      exact nomatch q1
    · obtain ⟨q1, q2⟩ := p3
      rw [zx_r, zs_5, zs_b, zs_b, if_neg hb, p2, zs_2, show r5_thrown M' = some (M' 0 0) from rfl, zs_1, q1, if_pos rfl, if_pos rfl, q2]
      by_cases hr : r = 0
      · rw [if_pos hr, if_pos hr, lgu, if_pos rfl]; exact ⟨_, rfl, p4⟩
      · rw [if_neg hr, if_neg hr, lgu, if_pos rfl]; exact ⟨_, rfl, p4⟩
end LAWC
