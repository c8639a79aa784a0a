/-! THE PURE LAYER: an event taken away, the mark, the small questions -/
def drw (f : Nat → Int32) (e : Nat) (last : Int32) (k : Nat) : Int32 := if k < e then f k else if k < 13 then f (k + 1) else if k = 13 then last else f k
def cuB (r : Nat) (T : OS) (i : Int32) : Option ((OS × Int32) ⊕ OS) := (if 13 ≤ i then some (.inr T) else (rd 14 (T r) (i + 1)).bind fun v2 => (wr 14 T r i v2).bind fun T3 => some (.inl (T3, (i + 1))))
theorem cu_z {r : Nat} (T : OS) {e : Nat} (he : e < 14) (last : Int32) : ∃ T', bd1 (it2 (cuB r) 200 T (nI e)) (fun T_x2 => (wr 14 T_x2 r 13 last).bind fun T4 => some T4) = some T' ∧ T' r = drw (T r) e last ∧ ∀ q, q ≠ r → T' q = T q := by
  obtain ⟨N, n1, n2, n3⟩ := zi2_go (F := cuB r) (N := 13) (I := fun q N => e ≤ q ∧ (∀ q', q' ≠ r → N q' = T q') ∧ ∀ k, N r k = if e ≤ k ∧ k < q then T r (k + 1) else T r k) (R := fun N => (∀ q', q' ≠ r → N q' = T q') ∧ ∀ k, N r k = if e ≤ k ∧ k < 13 then T r (k + 1) else T r k) (fun q N hq hI => Or.inl (by
    obtain ⟨k1, k2, k3⟩ := hI
    unfold cuB
    rw [if_neg (show ¬ (13 : Int32) ≤ nI q from nI_ge (b := 13) hq (by decide)), nI_1, z_rd (show q + 1 < 14 by omega) (by decide), zs_b, z_wr (show q < 14 by omega) (by decide), zs_b]
    refine ⟨_, rfl, by omega, fun q' h => (upr_n _ _ _ h).trans (k2 q' h), fun k => ?_⟩
    rw [upr_s]
    by_cases c : k = q
    · rw [c, upd_s, k3, if_neg (by omega), if_pos (by omega)]
    · rw [upd_n c, k3]
      by_cases c2 : e ≤ k ∧ k < q
      · rw [if_pos c2, if_pos (by omega)]
      · rw [if_neg c2, if_neg (by omega)])) (fun N hI => ⟨N, (by
    unfold cuB
    rw [if_pos (show (13 : Int32) ≤ nI 13 by decide)]), hI.2⟩) (13 - e) 200 e T (by omega) (by omega) ⟨Nat.le_refl e, fun _ _ => rfl, fun k => by rw [if_neg (by omega)]⟩
  rw [n1, zs_1, show (13 : Int32) = nI 13 from rfl, z_wr (show 13 < 14 by decide) (by decide), zs_b]
  refine ⟨_, rfl, ?_, fun q hq => (upr_n _ _ _ hq).trans (n2 q hq)⟩
  rw [upr_s]
  funext k
  unfold drw
  by_cases c : k = 13
  · rw [c, upd_s, if_neg (by omega), if_neg (by omega), if_pos rfl]
  · rw [upd_n c, n3]
    by_cases c1 : k < e
    · rw [if_pos c1, if_neg (by omega)]
    · rw [if_neg c1]
      by_cases c2 : k < 13
      · rw [if_pos c2, if_pos (by omega)]
      · rw [if_neg c2, if_neg c, if_neg (by omega)]
/-- a table without one of its events -/
def drT (T T' : OS) (n e : Nat) : Prop := (∀ r, r < 5 → T' r = T r) ∧ T' 5 = drw (T 5) e 0 ∧ T' 6 = drw (T 6) e 0 ∧ T' 7 = drw (T 7) e 0 ∧ T' 8 = drw (T 8) e 0 ∧ T' 9 = drw (T 9) e (-1) ∧ T' 10 = drw (T 10) e 0 ∧ T' 11 = drw (T 11) e (-1) ∧ T' 12 = drw (T 12) e 0 ∧ T' 13 0 = nI (n - 1)
theorem r3_dropEvent_z {T : OS} {n e : Nat} (hW : WF T n) (he : e < n) : ∃ T', r3_dropEvent T (nI e) = some T' ∧ drT T T' n e := by
  have hn := hW.le
  have he' : e < 14 := by omega
  unfold r3_dropEvent
  obtain ⟨T1, t1, a1, b1⟩ := cu_z (r := 5) T he' 0
  rw [show r3_closeUp_c7 T (nI e) 0 = some T1 from t1, zs_1]
  obtain ⟨T2, t2, a2, b2⟩ := cu_z (r := 6) T1 he' 0
  rw [show r3_closeUp_c8 T1 (nI e) 0 = some T2 from t2, zs_1]
  obtain ⟨T3, t3, a3, b3⟩ := cu_z (r := 7) T2 he' 0
  rw [show r3_closeUp_c9 T2 (nI e) 0 = some T3 from t3, zs_1]
  obtain ⟨T4, t4, a4, b4⟩ := cu_z (r := 8) T3 he' 0
  rw [show r3_closeUp_c10 T3 (nI e) 0 = some T4 from t4, zs_1]
  obtain ⟨T5, t5, a5, b5⟩ := cu_z (r := 9) T4 he' (-1)
  rw [show r3_closeUp_c11 T4 (nI e) (-1) = some T5 from t5, zs_1]
  obtain ⟨T6, t6, a6, b6⟩ := cu_z (r := 10) T5 he' 0
  rw [show r3_closeUp_c12 T5 (nI e) 0 = some T6 from t6, zs_1]
  obtain ⟨T7, t7, a7, b7⟩ := cu_z (r := 11) T6 he' (-1)
  rw [show r3_closeUp_c13 T6 (nI e) (-1) = some T7 from t7, zs_1]
  have e12 : T7 12 = T 12 := by rw [b7 12 (by decide), b6 12 (by decide), b5 12 (by decide), b4 12 (by decide), b3 12 (by decide), b2 12 (by decide), b1 12 (by decide)]
  have e13 : T7 13 = T 13 := by rw [b7 13 (by decide), b6 13 (by decide), b5 13 (by decide), b4 13 (by decide), b3 13 (by decide), b2 13 (by decide), b1 13 (by decide)]
  obtain ⟨N, n1, n2, n3⟩ := zi2_go (F := r3_dropEvent_b65) (N := 13) (I := fun q N => e ≤ q ∧ (∀ q', q' ≠ 12 → N q' = T7 q') ∧ ∀ k, N 12 k = if e ≤ k ∧ k < q then T 12 (k + 1) else T 12 k) (R := fun N => (∀ q', q' ≠ 12 → N q' = T7 q') ∧ ∀ k, N 12 k = if e ≤ k ∧ k < 13 then T 12 (k + 1) else T 12 k) (fun q N hq hI => Or.inl (by
    obtain ⟨k1, k2, k3⟩ := hI
    unfold r3_dropEvent_b65
    rw [if_neg (show ¬ (13 : Int32) ≤ nI q from nI_ge (b := 13) hq (by decide)), nI_1, z_rd (show q + 1 < 14 by omega) (by decide), zs_b, k3, if_neg (by omega)]
    have hzz : zz (T 12 (q + 1)) = some (T 12 (q + 1)) := by
      rcases hW.2.2.2.2.2 (q + 1) (by omega) with h | h <;> rw [h]
      · exact z_zz0
      · exact z_zz1
    rw [hzz, zs_b, z_wr (show q < 14 by omega) (by decide), zs_b]
    refine ⟨_, rfl, by omega, fun q' h => (upr_n _ _ _ h).trans (k2 q' h), fun k => ?_⟩
    rw [upr_s]
    by_cases c : k = q
    · rw [c, upd_s, if_pos (by omega)]
    · rw [upd_n c, k3]
      by_cases c2 : e ≤ k ∧ k < q
      · rw [if_pos c2, if_pos (by omega)]
      · rw [if_neg c2, if_neg (by omega)])) (fun N hI => ⟨N, (by
    unfold r3_dropEvent_b65
    rw [if_pos (show (13 : Int32) ≤ nI 13 by decide)]), hI.2⟩) (13 - e) 200 e T7 (by omega) (by omega) ⟨Nat.le_refl e, fun _ _ => rfl, fun k => by rw [if_neg (by omega), e12]⟩
  rw [n1, zs_1, z_zz0, zs_b, show (13 : Int32) = nI 13 from rfl, z_wr (show 13 < 14 by decide) (by decide), zs_b]
  unfold sw
  rw [zs_b, upr_n _ _ _ (show (13 : Nat) ≠ 12 by decide), n2 13 (by decide), e13, hW.2.1]
  have hpred : nI n - 1 = nI (n - 1) := by
    obtain ⟨q, rfl⟩ : ∃ q, n = q + 1 := ⟨n - 1, by omega⟩
    exact nI_pred q
  rw [hpred]
  have g : ∀ r, r ≠ 12 → r ≠ 13 → us (upr N 12 (upd (N 12) 13 0)) 13 (nI (n - 1)) r = T7 r := fun r h h' => by rw [us_n _ _ _ h', upr_n _ _ _ h, n2 r h]
  refine ⟨_, rfl, fun r hr => ?_, ?_, ?_, ?_, ?_, ?_, ?_, ?_, ?_, by rw [us_s]⟩
  · rw [g r (by omega) (by omega), b7 r (by omega), b6 r (by omega), b5 r (by omega), b4 r (by omega), b3 r (by omega), b2 r (by omega), b1 r (by omega)]
  · rw [g 5 (by decide) (by decide), b7 5 (by decide), b6 5 (by decide), b5 5 (by decide), b4 5 (by decide), b3 5 (by decide), b2 5 (by decide), a1]
  · rw [g 6 (by decide) (by decide), b7 6 (by decide), b6 6 (by decide), b5 6 (by decide), b4 6 (by decide), b3 6 (by decide), a2, b1 6 (by decide)]
  · rw [g 7 (by decide) (by decide), b7 7 (by decide), b6 7 (by decide), b5 7 (by decide), b4 7 (by decide), a3, b2 7 (by decide), b1 7 (by decide)]
  · rw [g 8 (by decide) (by decide), b7 8 (by decide), b6 8 (by decide), b5 8 (by decide), a4, b3 8 (by decide), b2 8 (by decide), b1 8 (by decide)]
  · rw [g 9 (by decide) (by decide), b7 9 (by decide), b6 9 (by decide), a5, b4 9 (by decide), b3 9 (by decide), b2 9 (by decide), b1 9 (by decide)]
  · rw [g 10 (by decide) (by decide), b7 10 (by decide), a6, b5 10 (by decide), b4 10 (by decide), b3 10 (by decide), b2 10 (by decide), b1 10 (by decide)]
  · rw [g 11 (by decide) (by decide), a7, b6 11 (by decide), b5 11 (by decide), b4 11 (by decide), b3 11 (by decide), b2 11 (by decide), b1 11 (by decide)]
  · rw [us_n _ _ _ (by decide), upr_s]
    funext k
    unfold drw
    by_cases c : k = 13
    · rw [c, upd_s, if_neg (by omega), if_neg (by omega), if_pos rfl]
    · rw [upd_n c, n3]
      by_cases c1 : k < e
      · rw [if_pos c1, if_neg (by omega)]
      · rw [if_neg c1]
        by_cases c2 : k < 13
        · rw [if_pos c2, if_pos (by omega)]
        · rw [if_neg c2, if_neg c, if_neg (by omega)]
theorem drw_lt {f : Nat → Int32} {e k : Nat} {l : Int32} (h : k < e) : drw f e l k = f k := if_pos h
theorem drw_ge {f : Nat → Int32} {e k : Nat} {l : Int32} (h : e ≤ k) (h2 : k < 13) : drw f e l k = f (k + 1) := by unfold drw; rw [if_neg (by omega), if_pos h2]
theorem drw_13 {f : Nat → Int32} {e : Nat} {l : Int32} (h : e ≤ 13) : drw f e l 13 = l := by unfold drw; rw [if_neg (by omega), if_neg (by omega), if_pos rfl]
theorem drT_WF {T T' : OS} {n e : Nat} (hW : WF T n) (he : e < n) (h : drT T T' n e) : WF T' (n - 1) := by
  obtain ⟨d0, d5, d6, d7, d8, d9, d10, d11, d12, d13⟩ := h
  have hn := hW.le
  obtain ⟨w1, w2, w3, w4, w5, w6⟩ := hW
  refine ⟨by omega, d13, fun i hi => ?_, fun i hi => ?_, fun i hi hi2 => ?_, fun i hi => ?_⟩
  · rw [d5, d6, d7, d8]
    by_cases c : i < e
    · rw [drw_lt c, drw_lt c, drw_lt c, drw_lt c]; exact w3 i (by omega)
    · rw [drw_ge (by omega) (by omega), drw_ge (by omega) (by omega), drw_ge (by omega) (by omega), drw_ge (by omega) (by omega)]; exact w3 (i + 1) (by omega)
  · rw [d9, d10, d8]
    by_cases c : i < e
    · rw [drw_lt c, drw_lt c, drw_lt c]
      rcases w4 i hi with h | ⟨p, hp, q1, q2, q3⟩
      · exact Or.inl h
      · exact Or.inr ⟨p, hp, q1, q2, by omega⟩
    · by_cases c2 : i < 13
      · rw [drw_ge (by omega) c2, drw_ge (by omega) c2, drw_ge (by omega) c2]
        rcases w4 (i + 1) (by omega) with h | ⟨p, hp, q1, q2, q3⟩
        · exact Or.inl h
        · exact Or.inr ⟨p, hp, q1, q2, by omega⟩
      · rw [show i = 13 by omega, drw_13 (by omega), drw_13 (by omega)]; exact Or.inl ⟨rfl, rfl⟩
  · rw [d11, d12]
    by_cases c2 : i < 13
    · rw [drw_ge (by omega) c2, drw_ge (by omega) c2]; exact w5 (i + 1) (by omega) (by omega)
    · rw [show i = 13 by omega, drw_13 (by omega), drw_13 (by omega)]; exact ⟨rfl, rfl⟩
  · rw [d12]
    by_cases c : i < e
    · rw [drw_lt c]; exact w6 i hi
    · by_cases c2 : i < 13
      · rw [drw_ge (by omega) c2]; exact w6 (i + 1) (by omega)
      · rw [show i = 13 by omega, drw_13 (by omega)]; exact Or.inl rfl
/-- the reference's rows moved down -/
theorem r5_drop_z {M T T' : OS} {n e : Nat} (hW : WF T n) (hR : RB (M 1) T n) (he : e < n) (hd : drT T T' n e) : ∃ N, it2 r5_removeEvent_b32 200 M (nI e) = some N ∧ (∀ r, r ≠ 1 → N r = M r) ∧ (∀ k, 126 ≤ k → N 1 k = M 1 k) ∧ N 1 27 = nI n ∧ RB (upd (N 1) 27 (nI (n - 1))) T' (n - 1) := by
  have hn := hW.le
  have hpred : nI n - 1 = nI (n - 1) := by
    obtain ⟨q, rfl⟩ : ∃ q, n = q + 1 := ⟨n - 1, by omega⟩
    exact nI_pred q
  obtain ⟨N, n1, n2, n3⟩ := zi2_go (F := r5_removeEvent_b32) (N := n - 1) (I := fun q N => e ≤ q ∧ (∀ r, r ≠ 1 → N r = M r) ∧ ∀ j, N 1 j = if 28 ≤ j ∧ j < 126 ∧ e ≤ (j - 28) % 14 ∧ (j - 28) % 14 < q then M 1 (j + 1) else M 1 j) (R := fun N => (∀ r, r ≠ 1 → N r = M r) ∧ ∀ j, N 1 j = if 28 ≤ j ∧ j < 126 ∧ e ≤ (j - 28) % 14 ∧ (j - 28) % 14 < n - 1 then M 1 (j + 1) else M 1 j) (fun q N hq hI => Or.inl (by
    obtain ⟨k1, k2, k3⟩ := hI
    have hm : r5_many N = some (nI n) := by
      unfold r5_many
      rw [show (27 : Int32) = nI 27 from rfl, z_rd (by decide) (by decide), k3 27, if_neg (by omega), hR.2.2.1]; rfl
    have inner : ∃ Q, it2 (r5_removeEvent_b45 (nI q)) 200 N 28 = some Q ∧ (∀ r, r ≠ 1 → Q r = N r) ∧ ∀ j, Q 1 j = if 28 ≤ j ∧ j < 126 ∧ (j - 28) % 14 = q then N 1 (j + 1) else N 1 j := by
      have step : ∀ (t f : Nat) (Q : OS), t < 8 → 7 - t < f → (∀ r, r ≠ 1 → Q r = N r) → (∀ j, Q 1 j = if 28 ≤ j ∧ (j - 28) / 14 < t ∧ (j - 28) % 14 = q then N 1 (j + 1) else N 1 j) → ∃ Q', it2 (r5_removeEvent_b45 (nI q)) f Q (nI (28 + 14 * t)) = some Q' ∧ (∀ r, r ≠ 1 → Q' r = N r) ∧ ∀ j, Q' 1 j = if 28 ≤ j ∧ j < 126 ∧ (j - 28) % 14 = q then N 1 (j + 1) else N 1 j := by
        intro t
        obtain ⟨s, hs⟩ : ∃ s, s = 7 - t := ⟨_, rfl⟩
        induction s generalizing t with
        | zero =>
          intro f Q ht hf q1 q2
          obtain ⟨f, rfl⟩ : ∃ g, f = g + 1 := ⟨f - 1, by omega⟩
          obtain rfl : t = 7 := by omega
          refine ⟨Q, ?_, q1, fun j => ?_⟩
          · unfold it2 r5_removeEvent_b45
            rw [if_pos (show (112 : Int32) < nI (28 + 14 * 7) by decide)]
          · rw [q2 j]
            by_cases c : 28 ≤ j ∧ (j - 28) / 14 < 7 ∧ (j - 28) % 14 = q
            · rw [if_pos c, if_pos (by omega)]
            · rw [if_neg c, if_neg (by omega)]
        | succ s ih =>
          intro f Q ht hf q1 q2
          obtain ⟨f, rfl⟩ : ∃ g, f = g + 1 := ⟨f - 1, by omega⟩
          have hb : r5_removeEvent_b45 (nI q) Q (nI (28 + 14 * t)) = some (.inl (upr Q 1 (upd (Q 1) (28 + 14 * t + q) (Q 1 (28 + 14 * t + q + 1))), nI (28 + 14 * (t + 1)))) := by
            unfold r5_removeEvent_b45
            rw [if_neg (show ¬ (112 : Int32) < nI (28 + 14 * t) from nI_nlt (a := 112) (by omega) (by decide)), nI_add, nI_1, z_rd (show 28 + 14 * t + q + 1 < 1008 by omega) (by decide), zs_b, z_wr (show 28 + 14 * t + q < 1008 by omega) (by decide), zs_b, show (14 : Int32) = nI 14 from rfl, nI_add]
            rfl
          unfold it2
          rw [hb]
          refine ih (t + 1) (by omega) f _ (by omega) (by omega) (fun r hr => (upr_n _ _ _ hr).trans (q1 r hr)) (fun j => ?_)
          show upr Q 1 (upd (Q 1) (28 + 14 * t + q) (Q 1 (28 + 14 * t + q + 1))) 1 j = _
          rw [upr_s]
          by_cases c : j = 28 + 14 * t + q
          · rw [c, upd_s, q2, if_neg (by omega), if_pos (by omega)]
          · rw [upd_n c, q2 j]
            by_cases c2 : 28 ≤ j ∧ (j - 28) / 14 < t ∧ (j - 28) % 14 = q
            · rw [if_pos c2, if_pos (by omega)]
            · rw [if_neg c2, if_neg (by omega)]
      obtain ⟨Q', h1, h2, h3⟩ := step 0 200 N (by decide) (by decide) (fun _ _ => rfl) (fun j => by rw [if_neg (by omega)])
      exact ⟨Q', h1, h2, h3⟩
    obtain ⟨Q, i1, i2, i3⟩ := inner
    unfold r5_removeEvent_b32
    rw [hm, zs_1, hpred, if_neg (nI_ge hq (by omega)), i1, zs_1]
    refine ⟨Q, rfl, by omega, fun r hr => (i2 r hr).trans (k2 r hr), fun j => ?_⟩
    rw [i3 j]
    by_cases c : 28 ≤ j ∧ j < 126 ∧ (j - 28) % 14 = q
    · rw [if_pos c, if_pos (by omega), k3, if_neg (by omega)]
    · rw [if_neg c, k3 j]
      by_cases c2 : 28 ≤ j ∧ j < 126 ∧ e ≤ (j - 28) % 14 ∧ (j - 28) % 14 < q
      · rw [if_pos c2, if_pos (by omega)]
      · rw [if_neg c2, if_neg (by omega)])) (fun N hI => ⟨N, (by
    have hm : r5_many N = some (nI n) := by
      unfold r5_many
      rw [show (27 : Int32) = nI 27 from rfl, z_rd (by decide) (by decide), hI.2.2 27, if_neg (by omega), hR.2.2.1]; rfl
    unfold r5_removeEvent_b32
    rw [hm, zs_1, hpred, if_pos (nI_le (Nat.le_refl _) (by omega))]), hI.2⟩) (n - 1 - e) 200 e M (by omega) (by omega) ⟨Nat.le_refl e, fun _ _ => rfl, fun j => by rw [if_neg (by omega)]⟩
  obtain ⟨h1, h2, h3, h4⟩ := hR
  obtain ⟨d0, d5, d6, d7, d8, d9, d10, d11, d12, d13⟩ := hd
  refine ⟨N, n1, n2, fun k hk => by rw [n3, if_neg (by omega)], by rw [n3, if_neg (by omega)]; exact h3, fun i hi => ?_, fun i hi => ?_, upd_s _ _ _, fun i hi => ?_⟩
  · rw [d0 0 (by decide), d0 1 (by decide), d0 2 (by decide), d0 3 (by decide), upd_n (by omega), upd_n (by omega), upd_n (by omega), upd_n (by omega), n3, n3, n3, n3, if_neg (by omega), if_neg (by omega), if_neg (by omega), if_neg (by omega)]
    exact h1 i hi
  · rw [d0 4 (by decide), upd_n (by omega), n3, if_neg (by omega)]; exact h2 i hi
  · have q : ∀ b, (b = 28 ∨ b = 42 ∨ b = 56 ∨ b = 70 ∨ b = 84 ∨ b = 98 ∨ b = 112) → upd (N 1) 27 (nI (n - 1)) (b + i) = if i < e then M 1 (b + i) else M 1 (b + (i + 1)) := fun b hb => by
      rw [upd_n (by omega), n3]
      by_cases c : i < e
      · rw [if_pos c, if_neg (by omega)]
      · rw [if_neg c, if_pos (by omega)]; rfl
    rw [q 28 (by omega), q 42 (by omega), q 56 (by omega), q 70 (by omega), q 84 (by omega), q 98 (by omega), q 112 (by omega), d5, d6, d7, d8, d9, d12, d11]
    by_cases c : i < e
    · simp only [if_pos c, drw_lt c]; exact h4 i (by omega)
    · simp only [if_neg c, drw_ge (show e ≤ i by omega) (show i < 13 by omega)]; exact h4 (i + 1) (by omega)
/-! the mark -/
def mkT (T : OS) : OS := upr T 11 (va_cpy (T 9) (T 11) 0 0 14)
theorem mk11 (T : OS) {i : Nat} (hi : i < 14) : mkT T 11 i = T 9 i := by unfold mkT; rw [upr_s]; exact cpy_at hi
theorem mkn (T : OS) {r : Nat} (h : r ≠ 11) : mkT T r = T r := upr_n _ _ _ h
theorem mk_WF {T : OS} {n : Nat} (hW : WF T n) : WF (mkT T) n := by
  have ho := fun i h1 h2 => hW.out (e := i) h1 h2
  obtain ⟨h1, h2, h3, h4, h5, h6⟩ := hW
  refine ⟨h1, by rw [mkn _ (by decide)]; exact h2, fun i hi => ?_, fun i hi => ?_, fun i hi hi2 => ?_, fun i hi => ?_⟩
  · rw [mkn _ (by decide), mkn _ (by decide), mkn _ (by decide), mkn _ (by decide)]; exact h3 i hi
  · rw [mkn _ (by decide), mkn _ (by decide), mkn _ (by decide)]; exact h4 i hi
  · rw [mk11 _ hi2, mkn _ (by decide)]; exact ⟨(ho i hi hi2).1, (h5 i hi hi2).2⟩
  · rw [mkn _ (by decide)]; exact h6 i hi
theorem r5_mark_in {M T : OS} {n : Nat} (hW : WF T n) (hR : RB (M 1) T n) : ∃ N, it2 r5_mark_b11 200 M 0 = some N ∧ RB (N 1) (mkT T) n ∧ FK S0 M N := by
  have hn := hW.le
  refine zi2k (F := r5_mark_b11) (a0 := M) n (fun i N => (∀ r, r ≠ 1 → N r = M r) ∧ ∀ j, N 1 j = if 112 ≤ j ∧ j < 112 + i then M 1 (j - 28) else M 1 j) (fun N => (∀ r, r ≠ 1 → N r = M r) ∧ ∀ j, N 1 j = if 112 ≤ j ∧ j < 112 + n then M 1 (j - 28) else M 1 j) (by omega) (fun N n1 n2 => ?_) ⟨fun _ _ => rfl, fun j => by rw [if_neg (by omega)]⟩ (fun i N hi hI => Or.inl ?_) (fun N hI => ⟨N, ?_, hI⟩)
  · refine ⟨N, n1, ?_, fun r hr _ => n2.1 r hr, fun k hk => by rw [n2.2, if_neg (by omega)]⟩
    obtain ⟨h1, h2, h3, h4⟩ := hR
    have g : ∀ j, j < 112 → N 1 j = M 1 j := fun j hj => by rw [n2.2, if_neg (by omega)]
    refine ⟨fun i hi => ?_, fun i hi => ?_, by rw [g 27 (by decide)]; exact h3, fun i hi => ?_⟩
    · rw [g i (by omega), g _ (by omega), g _ (by omega), g _ (by omega), mkn _ (by decide), mkn _ (by decide), mkn _ (by decide), mkn _ (by decide)]; exact h1 i hi
    · rw [g _ (by omega), mkn _ (by decide)]; exact h2 i hi
    · rw [g _ (by omega), g _ (by omega), g _ (by omega), g _ (by omega), g _ (by omega), g _ (by omega), n2.2 (112 + i), if_pos (by omega), mkn _ (by decide), mkn _ (by decide), mkn _ (by decide), mkn _ (by decide), mkn _ (by decide), mkn _ (by decide), mk11 _ (by omega)]
      obtain ⟨a1, a2, a3, a4, a5, a6, _⟩ := h4 i hi
      exact ⟨a1, a2, a3, a4, a5, a6, by rw [show 112 + i - 28 = 84 + i by omega]; exact a5⟩
  · obtain ⟨k1, k2⟩ := hI
    have hm : r5_many N = some (nI n) := by
      unfold r5_many
      rw [show (27 : Int32) = nI 27 from rfl, z_rd (by decide) (by decide), k2 27, if_neg (by omega), hR.2.2.1]; rfl
    unfold r5_mark_b11
    rw [hm, zs_1, if_neg (nI_ge hi (by omega)), show (84 : Int32) = nI 84 from rfl, z_of N (show 84 + i < 1008 by omega), zs_1, show (112 : Int32) = nI 112 from rfl, nI_add, z_wr (show 112 + i < 1008 by omega) (by decide), zs_b]
    refine ⟨_, rfl, fun r hr => (upr_n _ _ _ hr).trans (k1 r hr), fun j => ?_⟩
    rw [upr_s]
    by_cases c : j = 112 + i
    · rw [c, upd_s, k2, if_neg (by omega), if_pos (by omega), show 112 + i - 28 = 84 + i by omega]
    · rw [upd_n c, k2]
      by_cases c2 : 112 ≤ j ∧ j < 112 + i
      · rw [if_pos c2, if_pos (by omega)]
      · rw [if_neg c2, if_neg (by omega)]
  · have hm : r5_many N = some (nI n) := by
      unfold r5_many
      rw [show (27 : Int32) = nI 27 from rfl, z_rd (by decide) (by decide), hI.2 27, if_neg (by omega), hR.2.2.1]; rfl
    unfold r5_mark_b11
    rw [hm, zs_1, if_pos (nI_le (Nat.le_refl n) (by omega))]
/-! small questions -/
theorem zfi_ext {p : Nat → Bool} {n m : Nat} (h : n ≤ m) (hp : ∀ i, n ≤ i → i < m → p i = false) : zfi p m = zfi p n := by
  induction m with
  | zero => rw [Nat.le_zero.mp h]
  | succ m ih =>
    by_cases e : n = m + 1
    · rw [e]
    · show (match zfi p m with | some i => some i | none => if p m then some m else none) = _
      rw [ih (by omega) (fun i h1 h2 => hp i h1 (by omega)), hp m (by omega) (by omega)]
      cases zfi p n <;> rfl
def evp (T : OS) (s r e : Nat) : Bool := bt (T 10 e) s && decide (im (T 9 e) 6 = nI r)
theorem r3_eventIn_z (T : OS) {s r : Nat} (hs : s < 32) : r3_eventIn T (nI s) (nI r) = some (match zfi (evp T s r) 14 with | some i => nI i | none => -1) := by
  unfold r3_eventIn
  rw [zf1 14 (evp T s r) nI (by decide) (fun i hi => ?_) (fun _ => ?_)]
  · cases zfi (evp T s r) 14 <;> rfl
  · unfold r3_eventIn_b2 evp
    rw [if_neg (show ¬ (14 : Int32) ≤ nI i from nI_ge hi (by decide)), z_rd hi (by decide), zs_b, r4_contains_z _ hs, zs_1, z_rd hi (by decide)]
    cases bt (T 10 i) s
    · rfl
    · rw [if_pos rfl, if_neg (show ¬ (1 : Int32) = 0 by decide), zs_b, Bool.true_and]
      by_cases c : im (T 9 i) 6 = nI r
      · rw [if_pos c, decide_eq_true c]; rfl
      · rw [if_neg c, decide_eq_false c]; rfl
  · unfold r3_eventIn_b2
    rw [if_pos (show (14 : Int32) ≤ nI 14 by decide)]
theorem r3_slotsOfTeacher_z (T : OS) (x : Int32) : r3_slotsOfTeacher T x = some (orS T (fun e => decide (T 5 e = x)) 14) := by
  unfold r3_slotsOfTeacher
  rw [zf2 14 (fun s e => if decide (T 5 e = x) then s ||| T 10 e else s) (by decide) (fun i hi a => ?_) (fun a => ?_)]
  · rfl
  · unfold r3_slotsOfTeacher_b4
    rw [if_neg (show ¬ (14 : Int32) ≤ nI i from nI_ge hi (by decide)), z_rd hi (by decide), zs_b, z_rd hi (by decide)]
    by_cases c : T 5 i = x
    · rw [if_pos c, decide_eq_true c]; rfl
    · rw [if_neg c, decide_eq_false c]; rfl
  · unfold r3_slotsOfTeacher_b4
    rw [if_pos (show (14 : Int32) ≤ nI 14 by decide)]
theorem r3_slotsOfRoom_z (T : OS) (x : Int32) : r3_slotsOfRoom T x = some (orS T (fun e => decide (im (T 9 e) 6 = x)) 14) := by
  unfold r3_slotsOfRoom
  rw [zf2 14 (fun s e => if decide (im (T 9 e) 6 = x) then s ||| T 10 e else s) (by decide) (fun i hi a => ?_) (fun a => ?_)]
  · rfl
  · unfold r3_slotsOfRoom_b4
    rw [if_neg (show ¬ (14 : Int32) ≤ nI i from nI_ge hi (by decide)), z_rd hi (by decide), zs_b, z_rd hi (by decide)]
    by_cases c : im (T 9 i) 6 = x
    · rw [if_pos c, decide_eq_true c]; rfl
    · rw [if_neg c, decide_eq_false c]; rfl
  · unfold r3_slotsOfRoom_b4
    rw [if_pos (show (14 : Int32) ≤ nI 14 by decide)]
def chp (T : OS) (e : Nat) : Bool := !decide (T 9 e = T 11 e)
theorem r4_changed_z {T : OS} {n : Nat} (hW : WF T n) : r4_changed T = some (zst (chp T) n) := by
  unfold r4_changed
  rw [zf2 14 (fun s i => if chp T i then s ||| zb i else s) (by decide) (fun i hi a => ?_) (fun a => ?_)]
  · rw [zfo_ext hW.le (fun i h1 h2 b => by
      have : chp T i = false := by unfold chp; rw [(hW.out h1 h2).1, (hW.out h1 h2).2.2.1]; rfl
      rw [this]; rfl)]
    rfl
  · unfold r4_changed_b4 chp
    rw [if_neg (show ¬ (14 : Int32) ≤ nI i from nI_ge hi (by decide)), z_rd hi (by decide), zs_b, z_rd hi (by decide), zs_b, zs_b]
    by_cases c : T 9 i = T 11 i
    · rw [if_pos c, decide_eq_true c]; rfl
    · rw [if_neg c, decide_eq_false c]; rfl
  · unfold r4_changed_b4
    rw [if_pos (show (14 : Int32) ≤ nI 14 by decide)]
theorem r5_changed_z {M T : OS} {n : Nat} (hW : WF T n) (hR : RB (M 1) T n) : r5_changed M = some (zst (chp T) n, us M 0 0) := by
  have hn := hW.le
  have hR' : RB (us M 0 0 1) T n := by rw [us_n _ _ _ (by decide)]; exact hR
  unfold r5_changed sw
  rw [zs_b, zf2 n (fun s i => if chp T i then s ||| zb i else s) (by omega) (fun i hi a => ?_) (fun a => ?_)]
  · rfl
  · unfold r5_changed_b9 chp
    rw [zmany hR', zs_1, if_neg (nI_ge hi (by omega)), zo84 hR' hi (by omega), zs_1, zo112 hR' hi (by omega), zs_1, zs_b]
    by_cases c : T 9 i = T 11 i
    · rw [if_pos c, decide_eq_true c, z_or0]; rfl
    · rw [if_neg c, decide_eq_false c]; rfl
  · unfold r5_changed_b9
    rw [zmany hR', zs_1, if_pos (nI_le (Nat.le_refl n) (by omega))]
def fxp (T : OS) (e : Nat) : Bool := !decide (T 12 e = 0)
theorem r3_fixedOnes_z {T : OS} {n : Nat} (hW : WF T n) : r3_fixedOnes T = some (nI (zct (fxp T) n)) := by
  unfold r3_fixedOnes
  rw [zf2 14 (fun a i => if fxp T i then a + 1 else a) (by decide) (fun i hi a => ?_) (fun a => ?_)]
  · rw [zfo_ct, zct_ext hW.le (fun i h1 h2 => by unfold fxp; rw [(hW.out h1 h2).2.2.2]; rfl)]; rfl
  · unfold r3_fixedOnes_b4 fxp
    rw [if_neg (show ¬ (14 : Int32) ≤ nI i from nI_ge hi (by decide)), z_rd hi (by decide), zs_b]
    by_cases h : T 12 i = 0
    · rw [if_pos h, decide_eq_true h]; rfl
    · rw [if_neg h, decide_eq_false h]; rfl
  · unfold r3_fixedOnes_b4
    rw [if_pos (show (14 : Int32) ≤ nI 14 by decide)]
theorem r5_fixed_in {M T : OS} {n : Nat} (hW : WF T n) (hR : RB (M 1) T n) (x : Int32) : it2 (r5_count_b31 M x) 200 0 0 = some (nI (zct (fxp T) n)) := by
  have hn := hW.le
  rw [zf2 n (fun a i => if fxp T i then a + 1 else a) (by omega) (fun i hi a => ?_) (fun a => ?_), zfo_ct]
  · unfold r5_count_b31 fxp
    rw [zmany hR, zs_1, if_neg (nI_ge hi (by omega)), zo98 hR hi (by omega), zs_1]
    rcases hW.2.2.2.2.2 i (by omega) with h | h <;> rw [h]
    · rw [Int32.add_zero]; rfl
    · rfl
  · unfold r5_count_b31
    rw [zmany hR, zs_1, if_pos (nI_le (Nat.le_refl n) (by omega))]
theorem r5_free_in {M T : OS} {n e : Nat} (hW : WF T n) (hR : RB (M 1) T n) (he : e < n) (idx : Int32) : it2 (r5_free_b39 M (nI e) idx) 200 0 0 = some (match zlo (fpS T e idx) 0 60 with | .inl _ => .inl () | .inr p => .inr (nI p, M)) := by
  rw [zl2 60 (fpS T e idx) (fun _ => .inl ()) (fun p => .inr (nI p, M)) (by decide) (fun i a hi _ => ?_) (fun a _ => ?_)]
  · cases zlo (fpS T e idx) 0 60 <;> rfl
  · unfold r5_free_b39 fpS
    rw [if_neg (show ¬ (60 : Int32) ≤ nI i from nI_ge hi (by decide)), r5_obstacleOf_z hW hR he hi, zs_1]
    by_cases h : obs T e i = 0
    · rw [if_pos h, if_pos h]
      by_cases h2 : a = idx
      · rw [if_pos h2, if_pos h2]
      · rw [if_neg h2, if_neg h2]
    · rw [if_neg h, if_neg h]
  · unfold r5_free_b39
    rw [if_pos (show (60 : Int32) ≤ nI 60 by decide)]
def plN (T : OS) (e : Nat) (k : Int32) : Nat := zct (fun p => decide (obs T e p = k)) 60
theorem r4_places_in {T : OS} {n e : Nat} (hW : WF T n) (he : e < n) (k : Int32) : it2 (r4_places_b17 T (nI e) k) 200 0 0 = some (nI (plN T e k)) := by
  rw [zf2 60 (fun a p => if decide (obs T e p = k) then a + 1 else a) (by decide) (fun i hi a => ?_) (fun a => ?_), zfo_ct]
  · rfl
  · unfold r4_places_b17
    rw [if_neg (show ¬ (60 : Int32) ≤ nI i from nI_ge hi (by decide)), r3_obstacleAt_z hW he hi, zs_1]
    by_cases h : obs T e i = k
    · rw [if_pos h, decide_eq_true h]; rfl
    · rw [if_neg h, decide_eq_false h]; rfl
  · unfold r4_places_b17
    rw [if_pos (show (60 : Int32) ≤ nI 60 by decide)]
theorem r5_placesOf_z {M T : OS} {n e : Nat} (hW : WF T n) (hR : RB (M 1) T n) (he : e < n) (k : Int32) : r5_placesOf M (nI e) k k = some (nI (plN T e k)) := by
  unfold r5_placesOf
  rw [zf2 60 (fun a p => if decide (obs T e p = k) then a + 1 else a) (by decide) (fun i hi a => ?_) (fun a => ?_), zfo_ct]
  · rfl
  · unfold r5_placesOf_b6
    rw [if_neg (show ¬ (60 : Int32) ≤ nI i from nI_ge hi (by decide)), r5_obstacleOf_z hW hR he hi, zs_1, r5_in_z, zs_1]
    by_cases h : obs T e i = k
    · rw [h, if_neg (show ¬ k < k by rw [Int32.lt_iff_toInt_lt]; omega), if_neg (show ¬ k < k by rw [Int32.lt_iff_toInt_lt]; omega), if_neg (show ¬ (1 : Int32) = 0 by decide), decide_eq_true rfl]; rfl
    · rw [decide_eq_false h]
      have hne : (obs T e i).toInt ≠ k.toInt := fun z => h (Int32.toInt_inj.mp z)
      by_cases c : obs T e i < k
      · rw [if_pos c, if_pos rfl, Int32.add_zero]; rfl
      · rw [if_neg c, if_pos (show k < obs T e i by rw [Int32.lt_iff_toInt_lt] at c ⊢; omega), if_pos rfl, Int32.add_zero]; rfl
  · unfold r5_placesOf_b6
    rw [if_pos (show (60 : Int32) ≤ nI 60 by decide)]
