/-! THE PURE LAYER: loops with an early end, counts, moves, costs -/
def zlo {α ρ : Type} (step : α → Nat → α ⊕ ρ) (a : α) : Nat → α ⊕ ρ
  | 0 => .inl a
  | n + 1 => match zlo step a n with
    | .inl b => step b n
    | .inr r => .inr r
theorem zlo_s {α ρ : Type} {step : α → Nat → α ⊕ ρ} {a b : α} {n : Nat} (h : zlo step a n = .inl b) : zlo step a (n + 1) = step b n := by
  show (match zlo step a n with | .inl b => step b n | .inr r => .inr r) = _
  rw [h]
theorem zlo_stay {α ρ : Type} {step : α → Nat → α ⊕ ρ} {a : α} {n : Nat} {r : ρ} (h : zlo step a n = .inr r) : ∀ {m : Nat}, n ≤ m → zlo step a m = .inr r
  | 0, hm => by rw [← Nat.le_zero.mp hm]; exact h
  | m + 1, hm => by
    by_cases e : n = m + 1
    · rw [← e]; exact h
    · show (match zlo step a m with | .inl b => step b m | .inr r => .inr r) = _
      rw [zlo_stay h (by omega)]
theorem zlo_ext {α ρ : Type} {step : α → Nat → α ⊕ ρ} {a : α} {n : Nat} : ∀ {m : Nat}, n ≤ m → (∀ i, n ≤ i → i < m → ∀ b, step b i = .inl b) → zlo step a m = zlo step a n
  | 0, h, _ => by rw [Nat.le_zero.mp h]
  | m + 1, h, hg => by
    by_cases e : n = m + 1
    · rw [e]
    · show (match zlo step a m with | .inl b => step b m | .inr r => .inr r) = _
      rw [zlo_ext (by omega : n ≤ m) (fun i h1 h2 b => hg i h1 (by omega) b)]
      cases zlo step a n with
      | inl b => exact hg m (by omega) (by omega) b
      | inr r => rfl
theorem zl2 {α ρ ρ' : Type} {F : α → Int32 → Option ((α × Int32) ⊕ ρ')} {a0 : α} (N : Nat) (step : α → Nat → α ⊕ ρ) (k : α → ρ') (g : ρ → ρ') (hN : N < 200)
    (hs : ∀ i a, i < N → zlo step a0 i = .inl a → F a (nI i) = match step a i with | .inl b => some (.inl (b, nI i + 1)) | .inr r => some (.inr (g r)))
    (he : ∀ a, zlo step a0 N = .inl a → F a (nI N) = some (.inr (k a))) : it2 F 200 a0 0 = some (match zlo step a0 N with | .inl a => k a | .inr r => g r) := by
  refine zi2k (F := F) (a0 := a0) N (fun i a => zlo step a0 i = .inl a) (fun r' => r' = (match zlo step a0 N with | .inl a => k a | .inr r => g r)) hN (fun r h1 h2 => ?_) rfl (fun i a hi h => ?_) (fun a h => ⟨k a, he a h, by rw [h]⟩)
  · rw [h1, h2]
  · have := hs i a hi h
    cases hst : step a i with
    | inl b =>
      left
      rw [hst] at this
      exact ⟨b, this, by rw [zlo_s h, hst]⟩
    | inr r =>
      right
      rw [hst] at this
      exact ⟨g r, this, by rw [zlo_stay (n := i + 1) (m := N) (r := r) (by rw [zlo_s h, hst]) (by omega)]⟩
def zct (p : Nat → Bool) : Nat → Nat
  | 0 => 0
  | n + 1 => zct p n + (if p n then 1 else 0)
theorem zct_le (p : Nat → Bool) : ∀ n, zct p n ≤ n
  | 0 => Nat.le_refl 0
  | n + 1 => by have := zct_le p n; show zct p n + (if p n then 1 else 0) ≤ n + 1; split <;> omega
theorem zct_ext {p : Nat → Bool} {n : Nat} : ∀ {m : Nat}, n ≤ m → (∀ i, n ≤ i → i < m → p i = false) → zct p m = zct p n
  | 0, h, _ => by rw [Nat.le_zero.mp h]
  | m + 1, h, hg => by
    by_cases e : n = m + 1
    · rw [e]
    · show zct p m + (if p m then 1 else 0) = _
      rw [hg m (by omega) (by omega), zct_ext (by omega : n ≤ m) (fun i h1 h2 => hg i h1 (by omega))]; rfl
theorem zct_not (p : Nat → Bool) : ∀ n, zct p n + zct (fun i => !p i) n = n
  | 0 => rfl
  | n + 1 => by
    have := zct_not p n
    show zct p n + (if p n then 1 else 0) + (zct (fun i => !p i) n + (if !p n then 1 else 0)) = n + 1
    cases p n <;> simp <;> omega
theorem zct_cong {p q : Nat → Bool} : ∀ {n : Nat}, (∀ i, i < n → p i = q i) → zct p n = zct q n
  | 0, _ => rfl
  | n + 1, h => by
    show zct p n + (if p n then 1 else 0) = zct q n + (if q n then 1 else 0)
    rw [zct_cong (fun i hi => h i (by omega)), h n (by omega)]
theorem zfo_ct (p : Nat → Bool) : ∀ n, zfo (fun (a : Int32) i => if p i then a + 1 else a) 0 n = nI (zct p n)
  | 0 => rfl
  | n + 1 => by
    show (if p n then zfo _ 0 n + 1 else zfo _ 0 n) = nI (zct p n + (if p n then 1 else 0))
    rw [zfo_ct p n]
    cases p n
    · rfl
    · simp only [if_true]; exact nI_1 _
/-! moves -/
def mv (T : OS) (e p : Nat) : OS := upr (upr T 9 (upd (T 9) e (nI p))) 10 (upd (T 10) e (slS (p / 6) (T 8 e)))
def lf (T : OS) (e : Nat) : OS := upr (upr T 9 (upd (T 9) e (-1))) 10 (upd (T 10) e 0)
theorem mv9 (T : OS) (e p : Nat) : mv T e p 9 = upd (T 9) e (nI p) := by unfold mv; rw [upr_n _ _ _ (by decide), upr_s]
theorem mv10 (T : OS) (e p : Nat) : mv T e p 10 = upd (T 10) e (slS (p / 6) (T 8 e)) := by unfold mv; rw [upr_s]
theorem mvn (T : OS) (e p : Nat) {r : Nat} (h : r ≠ 9) (h' : r ≠ 10) : mv T e p r = T r := by unfold mv; rw [upr_n _ _ _ h', upr_n _ _ _ h]
theorem lf9 (T : OS) (e : Nat) : lf T e 9 = upd (T 9) e (-1) := by unfold lf; rw [upr_n _ _ _ (by decide), upr_s]
theorem lf10 (T : OS) (e : Nat) : lf T e 10 = upd (T 10) e 0 := by unfold lf; rw [upr_s]
theorem lfn (T : OS) (e : Nat) {r : Nat} (h : r ≠ 9) (h' : r ≠ 10) : lf T e r = T r := by unfold lf; rw [upr_n _ _ _ h', upr_n _ _ _ h]
theorem upd_s (f : Nat → Int32) (k : Nat) (x : Int32) : upd f k x k = x := if_pos rfl
theorem upd_n {f : Nat → Int32} {k j : Nat} {x : Int32} (h : j ≠ k) : upd f k x j = f j := if_neg h
theorem r3_moveTo_z (T : OS) {e p : Nat} (he : e < 14) (hp : p < 60) : r3_moveTo T (nI e) (nI p) = some (mv T e p) := by
  unfold r3_moveTo
  rw [z_wr he (by decide)]
  simp only [zs_b, zs_1, zs_2, zs_3]
  rw [if_neg (z_nm1 (by omega)), r3_slotsAt_z _ he hp]
  unfold r3_moveTo_j27
  simp only [zs_1, zs_b, zs_1, zs_2, zs_3]
  rw [z_wr he (by decide), upr_n _ _ _ (by decide), upr_n _ _ _ (by decide)]
  rfl
theorem r3_moveTo_l (T : OS) {e : Nat} (he : e < 14) : r3_moveTo T (nI e) (-1) = some (lf T e) := by
  unfold r3_moveTo
  rw [z_wr he (by decide), zs_b, if_pos rfl]
  unfold r3_moveTo_j27
  rw [z_wr he (by decide), upr_n _ _ _ (by decide)]
  rfl
theorem WF.mvW {T : OS} {n e p : Nat} (h : WF T n) (he : e < n) (hp : p < 60) : WF (mv T e p) n := by
  obtain ⟨h1, h2, h3, h4, h5, h6⟩ := h
  refine ⟨h1, by rw [mvn _ _ _ (by decide) (by decide)]; exact h2, fun i hi => ?_, fun i hi => ?_, fun i hi hi2 => ?_, fun i hi => ?_⟩
  · rw [mvn _ _ _ (by decide) (by decide), mvn _ _ _ (by decide) (by decide), mvn _ _ _ (by decide) (by decide), mvn _ _ _ (by decide) (by decide)]; exact h3 i hi
  · rw [mv9, mv10, mvn _ _ _ (by decide) (by decide)]
    by_cases q : i = e
    · subst q
      rw [upd_s, upd_s]
      exact Or.inr ⟨p, hp, rfl, rfl, he⟩
    · rw [upd_n q, upd_n q]; exact h4 i hi
  · rw [mvn _ _ _ (by decide) (by decide), mvn _ _ _ (by decide) (by decide)]; exact h5 i hi hi2
  · rw [mvn _ _ _ (by decide) (by decide)]; exact h6 i hi
theorem WF.lfW {T : OS} {n e : Nat} (h : WF T n) : WF (lf T e) n := by
  obtain ⟨h1, h2, h3, h4, h5, h6⟩ := h
  refine ⟨h1, by rw [lfn _ _ (by decide) (by decide)]; exact h2, fun i hi => ?_, fun i hi => ?_, fun i hi hi2 => ?_, fun i hi => ?_⟩
  · rw [lfn _ _ (by decide) (by decide), lfn _ _ (by decide) (by decide), lfn _ _ (by decide) (by decide), lfn _ _ (by decide) (by decide)]; exact h3 i hi
  · rw [lf9, lf10, lfn _ _ (by decide) (by decide)]
    by_cases q : i = e
    · subst q
      rw [upd_s, upd_s]
      exact Or.inl ⟨rfl, rfl⟩
    · rw [upd_n q, upd_n q]; exact h4 i hi
  · rw [lfn _ _ (by decide) (by decide), lfn _ _ (by decide) (by decide)]; exact h5 i hi hi2
  · rw [lfn _ _ (by decide) (by decide)]; exact h6 i hi
/-- a move back -/
theorem mv_back {T : OS} {n e p : Nat} (h : WF T n) (he : e < 14) : (T 9 e = -1 ∧ r3_moveTo (mv T e p) (nI e) (T 9 e) = some T) ∨ (∃ q, q < 60 ∧ T 9 e = nI q ∧ r3_moveTo (mv T e p) (nI e) (T 9 e) = some T) := by
  rcases h.2.2.2.1 e he with ⟨h1, h2⟩ | ⟨q, hq, h1, h2, _⟩
  · left
    refine ⟨h1, ?_⟩
    rw [h1, r3_moveTo_l _ he]
    congr 1
    funext r k
    by_cases r9 : r = 9
    · subst r9; rw [lf9, mv9]; unfold upd; split
      · next hk => rw [hk, h1]
      · rfl
    · by_cases r10 : r = 10
      · subst r10; rw [lf10, mv10]; unfold upd; split
        · next hk => rw [hk, h2]
        · rfl
      · rw [lfn _ _ r9 r10, mvn _ _ _ r9 r10]
  · right
    refine ⟨q, hq, h1, ?_⟩
    rw [h1, r3_moveTo_z _ he hq]
    congr 1
    funext r k
    by_cases r9 : r = 9
    · subst r9; rw [mv9, mv9]; unfold upd; split
      · next hk => rw [hk, h1]
      · rfl
    · by_cases r10 : r = 10
      · subst r10; rw [mv10, mv10, mvn _ _ _ (by decide) (by decide)]; unfold upd; split
        · next hk => rw [hk, h2]
        · rfl
      · rw [mvn _ _ _ r9 r10, mvn _ _ _ r9 r10]
theorem lf_mv {T : OS} {e p : Nat} (h1 : T 9 e = -1) (h2 : T 10 e = 0) : lf (mv T e p) e = T := by
  funext r k
  by_cases r9 : r = 9
  · subst r9; rw [lf9, mv9]; unfold upd; split
    · next hk => rw [hk, h1]
    · rfl
  · by_cases r10 : r = 10
    · subst r10; rw [lf10, mv10]; unfold upd; split
      · next hk => rw [hk, h2]
      · rfl
    · rw [lfn _ _ r9 r10, mvn _ _ _ r9 r10]
/-- the reference's lay -/
def ly (M : OS) (e : Nat) (x : Int32) : OS := upr M 1 (upd (M 1) (84 + e) x)
theorem ly1 (M : OS) (e : Nat) (x : Int32) : ly M e x 1 = upd (M 1) (84 + e) x := upr_s _ _ _
theorem lyn (M : OS) (e : Nat) (x : Int32) {r : Nat} (h : r ≠ 1) : ly M e x r = M r := upr_n _ _ _ h
theorem r5_lays_z (M : OS) {e : Nat} (he : e < 14) (x : Int32) : r5_lays M (nI e) x = some (ly M e x) := by
  unfold r5_lays
  rw [show (84 : Int32) = nI 84 from rfl, nI_add, z_wr (by omega) (by decide)]
  rfl
theorem RB.lay {f : Nat → Int32} {T T' : OS} {n e : Nat} {x : Int32} (h : RB f T n) (hn : n ≤ 14) (he : e < 14) (h9 : T' 9 = upd (T 9) e x) (hr : ∀ r, r ≠ 9 → r ≠ 10 → T' r = T r) : RB (upd f (84 + e) x) T' n := by
  obtain ⟨h1, h2, h3, h4⟩ := h
  refine ⟨fun i hi => ?_, fun i hi => ?_, ?_, fun i hi => ?_⟩
  · rw [hr 0 (by decide) (by decide), hr 1 (by decide) (by decide), hr 2 (by decide) (by decide), hr 3 (by decide) (by decide)]
    rw [upd_n (by omega), upd_n (by omega), upd_n (by omega), upd_n (by omega)]
    exact h1 i hi
  · rw [hr 4 (by decide) (by decide), upd_n (by omega)]; exact h2 i hi
  · rw [upd_n (by omega)]; exact h3
  · obtain ⟨a1, a2, a3, a4, a5, a6, a7⟩ := h4 i hi
    rw [hr 5 (by decide) (by decide), hr 6 (by decide) (by decide), hr 7 (by decide) (by decide), hr 8 (by decide) (by decide), hr 12 (by decide) (by decide), hr 11 (by decide) (by decide), h9]
    refine ⟨by rw [upd_n (by omega)]; exact a1, by rw [upd_n (by omega)]; exact a2, by rw [upd_n (by omega)]; exact a3, by rw [upd_n (by omega)]; exact a4, ?_, by rw [upd_n (by omega)]; exact a6, by rw [upd_n (by omega)]; exact a7⟩
    by_cases q : i = e
    · rw [q, upd_s, upd_s]
    · rw [upd_n (by omega), upd_n q]; exact a5
theorem RB.mvW {M T : OS} {n e p : Nat} (h : RB (M 1) T n) (hn : n ≤ 14) (he : e < 14) : RB (ly M e (nI p) 1) (mv T e p) n := by
  rw [ly1]; exact h.lay hn he (mv9 T e p) (fun r h1 h2 => mvn T e p h1 h2)
theorem RB.lfW {M T : OS} {n e : Nat} (h : RB (M 1) T n) (hn : n ≤ 14) (he : e < 14) : RB (ly M e (-1) 1) (lf T e) n := by
  rw [ly1]; exact h.lay hn he (lf9 T e) (fun r h1 h2 => lfn T e h1 h2)
theorem ly_back (M : OS) (e : Nat) (x : Int32) : ly (ly M e x) e (M 1 (84 + e)) = M := by
  funext r k
  by_cases h : r = 1
  · subst h; rw [ly1, ly1]; unfold upd; split
    · next hk => rw [hk]
    · rfl
  · rw [lyn _ _ _ h, lyn _ _ _ h]
/-! costs -/
theorem z_nat {x : Int32} {m : Nat} (hm : m ≤ 32) (h : ∀ i, m ≤ i → i < 32 → bt x i = false) : ∃ k, k < 2 ^ m ∧ x = nI k := by
  refine ⟨x.toBitVec.toNat, Nat.lt_pow_two_of_testBit _ (fun i hi => ?_), ?_⟩
  · by_cases h32 : i < 32
    · exact h i hi h32
    · exact b_big (x := x) (by omega)
  · apply Int32.toBitVec_inj.mp
    show _ = BitVec.ofNat 32 _
    simp
theorem slS_hi : ∀ s, s < 10 → ∀ i, i < 32 → 10 ≤ i → bt (slS s 1) i = false ∧ bt (slS s 2) i = false := by decide +kernel
theorem WF.sl {T : OS} {n e i : Nat} (h : WF T n) (he : e < 14) (hi : 10 ≤ i) (hi2 : i < 32) : bt (T 10 e) i = false := by
  rcases h.2.2.2.1 e he with ⟨_, h2⟩ | ⟨p, hp, _, h2, hen⟩
  · rw [h2, b_0]
  · rw [h2]
    rcases h.len hen with hl | hl
    · rw [hl]; exact (slS_hi (p / 6) (by omega) i hi2 hi).1
    · rw [hl]; exact (slS_hi (p / 6) (by omega) i hi2 hi).2
def orS (T : OS) (p : Nat → Bool) (m : Nat) : Int32 := zfo (fun s e => if p e then s ||| T 10 e else s) 0 m
theorem orS_hi {T : OS} {n : Nat} (h : WF T n) (p : Nat → Bool) : ∀ m, m ≤ 14 → ∀ i, 10 ≤ i → i < 32 → bt (orS T p m) i = false := by
  intro m
  induction m with
  | zero => intro _ i _ _; exact b_0 i
  | succ m ih =>
    intro hm i hi hi2
    show bt (if p m then orS T p m ||| T 10 m else orS T p m) i = false
    split
    · rw [b_or, ih (by omega) i hi hi2, h.sl (by omega) hi hi2]; rfl
    · exact ih (by omega) i hi hi2
theorem orS_ext {T : OS} {n : Nat} (h : WF T n) (p : Nat → Bool) : orS T p 14 = orS T p n := by
  refine zfo_ext h.le (fun i h1 h2 b => ?_)
  rw [(h.out h1 h2).2.1, z_or0]
  split <;> rfl
theorem orS_nat {T : OS} {n : Nat} (h : WF T n) (p : Nat → Bool) : ∃ k, k < 1024 ∧ orS T p 14 = nI k := z_nat (m := 10) (by decide) (orS_hi h p 14 (Nat.le_refl 14))
def gpd (s : Int32) : Int32 := (r3_gapsOfDay s).getD 0
def gp1 (s : Int32) (i : Nat) : Bool := !bt s i && !decide ((s &&& (31 <<< (((nI i / 5) * 5) &&& 31))) &&& ((1 <<< (nI i &&& 31)) - 1) = 0) && !decide ((s &&& (31 <<< (((nI i / 5) * 5) &&& 31))) &&& (((1 <<< ((nI i + 1) &&& 31)) - 1) ^^^ (-1)) = 0)
theorem gp_some : ∀ k, k < 32 → r3_gapsOfDay (nI k) = some (gpd (nI k)) := by decide +kernel
theorem gp_sum : ∀ a, a < 32 → ∀ b, b < 32 → gpd (nI (32 * a + b) &&& 31) + gpd ((nI (32 * a + b) >>> (5 &&& 31)) &&& 31) = nI (zct (gp1 (nI (32 * a + b))) 10) := by decide +kernel
theorem gp_lo : ∀ a, a < 32 → ∀ b, b < 32 → nI (32 * a + b) &&& 31 = nI b ∧ (nI (32 * a + b) >>> (5 &&& 31)) &&& 31 = nI a := by decide +kernel
def gaps (T : OS) : Int32 := zfo (fun a g => a + nI (zct (gp1 (orS T (fun e => bt (T 6 e) g) 14)) 10)) 0 6
theorem r4_contains_z (x : Int32) {i : Nat} (hi : i < 32) : r4_contains x (nI i) = some (if bt x i then 1 else 0) := by
  unfold r4_contains
  rw [z_bit x hi]
  cases bt x i <;> rfl
theorem r3_slotsOfGroup_z (T : OS) {g : Nat} (hg : g < 32) : r3_slotsOfGroup T (nI g) = some (orS T (fun e => bt (T 6 e) g) 14) := by
  unfold r3_slotsOfGroup
  rw [zf2 14 (fun s e => if bt (T 6 e) g then s ||| T 10 e else s) (by decide) (fun i hi a => ?_) (fun a => ?_)]
  · rfl
  · unfold r3_slotsOfGroup_b4
    rw [if_neg (show ¬ (14 : Int32) ≤ nI i from nI_ge hi (by decide)), z_rd hi (by decide)]
    simp only [zs_1, zs_b, zs_1, zs_2, zs_3, r4_contains_z _ hg, z_rd hi (show 14 < 2 ^ 31 by decide)]
    cases bt (T 6 i) g <;> rfl
  · unfold r3_slotsOfGroup_b4
    rw [if_pos (show (14 : Int32) ≤ nI 14 by decide)]
theorem r3_gaps_z {T : OS} {n : Nat} (hW : WF T n) : r3_gaps T = some (gaps T) := by
  unfold r3_gaps
  rw [zf2 6 (fun a g => a + nI (zct (gp1 (orS T (fun e => bt (T 6 e) g) 14)) 10)) (by decide) (fun i hi a => ?_) (fun a => ?_)]
  · rfl
  · unfold r3_gaps_b4
    rw [if_neg (show ¬ (6 : Int32) ≤ nI i from nI_ge hi (by decide)), r3_slotsOfGroup_z T (by omega)]
    obtain ⟨k, hk, hs⟩ := orS_nat hW (fun e => bt (T 6 e) i)
    rw [hs]
    have e1 : k = 32 * (k / 32) + k % 32 := by omega
    rw [e1]
    obtain ⟨l1, l2⟩ := gp_lo (k / 32) (by omega) (k % 32) (by omega)
    rw [← gp_sum (k / 32) (by omega) (k % 32) (by omega)]
    simp only [zs_1, zs_b, zs_1, zs_2, zs_3, l1, l2, gp_some (k % 32) (by omega), gp_some (k / 32) (by omega)]
  · unfold r3_gaps_b4
    rw [if_pos (show (6 : Int32) ≤ nI 6 by decide)]
theorem zfo_ct' (p : Nat → Bool) (x : Int32) : ∀ n, zfo (fun (a : Int32) i => if p i then a + 1 else a) x n = x + nI (zct p n)
  | 0 => by show x = x + nI 0; rw [nI_0, Int32.add_zero]
  | n + 1 => by
    show (if p n then zfo _ x n + 1 else zfo _ x n) = x + nI (zct p n + (if p n then 1 else 0))
    rw [zfo_ct' p x n]
    cases p n
    · rfl
    · simp only [if_true]; rw [Int32.add_assoc, nI_1]
theorem r5_gaps_z {M T : OS} {n : Nat} (hW : WF T n) (hR : RB (M 1) T n) : r5_gaps M = some (gaps T) := by
  have hn := hW.le
  unfold r5_gaps
  rw [zf2 6 (fun a g => a + nI (zct (gp1 (orS T (fun e => bt (T 6 e) g) 14)) 10)) (by decide) (fun i hi a => ?_) (fun a => ?_)]
  · rfl
  · unfold r5_gaps_b4
    rw [if_neg (show ¬ (6 : Int32) ≤ nI i from nI_ge hi (by decide))]
    rw [zf2 n (fun s e => if bt (T 6 e) i then s ||| T 10 e else s) (by omega) (fun j hj b => ?_) (fun b => ?_)]
    · rw [← show orS T (fun e => bt (T 6 e) i) 14 = zfo (fun s e => if bt (T 6 e) i then s ||| T 10 e else s) 0 n from orS_ext hW _]
      generalize orS T (fun e => bt (T 6 e) i) 14 = s
      simp only [zs_1, zs_b, zs_1, zs_2, zs_3]
      rw [zf2 10 (fun b j => if gp1 s j then b + 1 else b) (by decide) (fun j hj b => ?_) (fun b => ?_)]
      · simp only [zs_b, zs_1, zs_2, zs_3, zfo_ct']
      · unfold r5_gaps_b62
        rw [if_neg (show ¬ (10 : Int32) ≤ nI j from nI_ge hj (by decide))]
        simp only [zs_b, zs_1, zs_2, zs_3, z_bit0 s (show j < 32 by omega)]
        unfold gp1
        cases hb : bt s j
        · simp only [if_true, Int32.add_zero]
          split
          · next h => rw [decide_eq_true h]; simp
          · next h =>
            split
            · next h' => rw [decide_eq_false h, decide_eq_true h']; simp
            · next h' => rw [decide_eq_false h, decide_eq_false h']; simp
        · simp [Int32.add_zero]
      · unfold r5_gaps_b62
        rw [if_pos (show (10 : Int32) ≤ nI 10 by decide)]
    · unfold r5_gaps_b15
      simp only [zs_1, zmany hR, zs_b, zs_1, zs_2, zs_3, zo42 hR hj (by omega), r5_slotsOf_z hW hR hj, z_bit1 _ (show i < 32 by omega)]
      rw [if_neg (nI_ge hj (by omega))]
      cases bt (T 6 j) i <;> simp [z_or0]
    · unfold r5_gaps_b15
      simp only [zs_1, zmany hR, zs_b, zs_1, zs_2, zs_3]
      rw [if_pos (nI_le (Nat.le_refl n) (by omega))]
  · unfold r5_gaps_b4
    rw [if_pos (show (6 : Int32) ≤ nI 6 by decide)]
def late (T : OS) (e : Nat) : Bool := !decide (T 10 e &&& 528 = 0)
def plc (T : OS) (e : Nat) : Bool := !decide (T 9 e = -1)
theorem z0and (x : Int32) : (0 : Int32) &&& x = 0 := b_ext fun i _ => by rw [b_and, b_0]; rfl
theorem late_out {T : OS} {n i : Nat} (hW : WF T n) (h : n ≤ i) (h2 : i < 14) : late T i = false := by
  unfold late
  rw [(hW.out h h2).2.1, z0and]; rfl
theorem plc_out {T : OS} {n i : Nat} (hW : WF T n) (h : n ≤ i) (h2 : i < 14) : plc T i = false := by
  unfold plc
  rw [(hW.out h h2).1]; rfl
theorem r3_lateOnes_z {T : OS} {n : Nat} (hW : WF T n) : r3_lateOnes T = some (nI (zct (late T) n)) := by
  unfold r3_lateOnes
  rw [zf2 14 (fun a i => if late T i then a + 1 else a) (by decide) (fun i hi a => ?_) (fun a => ?_)]
  · rw [zfo_ct, zct_ext hW.le (fun i h1 h2 => late_out hW h1 h2)]; rfl
  · unfold r3_lateOnes_b4 late
    rw [if_neg (show ¬ (14 : Int32) ≤ nI i from nI_ge hi (by decide)), z_rd hi (by decide)]
    simp only [zs_b, zs_1, zs_2, zs_3]
    by_cases h : T 10 i &&& 528 = 0 <;> simp [h]
  · unfold r3_lateOnes_b4
    rw [if_pos (show (14 : Int32) ≤ nI 14 by decide)]
theorem r5_lates_z {M T : OS} {n : Nat} (hW : WF T n) (hR : RB (M 1) T n) : r5_lates M = some (nI (zct (late T) n)) := by
  have hn := hW.le
  unfold r5_lates
  rw [zf2 n (fun a i => if late T i then a + 1 else a) (by omega) (fun i hi a => ?_) (fun a => ?_)]
  · rw [zfo_ct]; rfl
  · unfold r5_lates_b4 late
    simp only [zs_1, zmany hR, zs_b, zs_1, zs_2, zs_3, r5_slotsOf_z hW hR hi, Int32.add_zero]
    rw [if_neg (nI_ge hi (by omega))]
    by_cases h : T 10 i &&& 528 = 0 <;> simp [h]
  · unfold r5_lates_b4
    simp only [zs_1, zmany hR, zs_b, zs_1, zs_2, zs_3]
    rw [if_pos (nI_le (Nat.le_refl n) (by omega))]
def pl (T : OS) (e : Nat) : Nat := (T 9 e).toNatClampNeg
theorem WF.plW {T : OS} {n e : Nat} (h : WF T n) (he : e < 14) : (T 9 e = -1 ∧ plc T e = false) ∨ (pl T e < 60 ∧ T 9 e = nI (pl T e) ∧ T 10 e = slS (pl T e / 6) (T 8 e) ∧ e < n ∧ plc T e = true) := by
  rcases h.2.2.2.1 e he with ⟨h1, _⟩ | ⟨p, hp, h1, h2, h3⟩
  · left; refine ⟨h1, ?_⟩; unfold plc; rw [h1]; rfl
  · right
    have e1 : pl T e = p := by unfold pl; rw [h1, nI_clamp (by omega)]
    rw [e1]
    refine ⟨hp, h1, h2, h3, ?_⟩
    unfold plc; rw [h1, decide_eq_false (z_nm1 (by omega))]; rfl
def slack (T : OS) (m : Nat) : Int32 := zfo (fun s e => if plc T e then s + (T 0 (pl T e % 6) - szS T (T 6 e)) / 10 else s) 0 m
theorem r3_slack_z {T : OS} {n : Nat} (hW : WF T n) : r3_slack T = some (slack T n) := by
  unfold r3_slack
  rw [zf2 14 (fun s e => if plc T e then s + (T 0 (pl T e % 6) - szS T (T 6 e)) / 10 else s) (by decide) (fun i hi a => ?_) (fun a => ?_)]
  · rw [zfo_ext hW.le (fun i h1 h2 b => by rw [plc_out hW h1 h2]; rfl)]; rfl
  · unfold r3_slack_b4
    rw [if_neg (show ¬ (14 : Int32) ≤ nI i from nI_ge hi (by decide)), z_rd hi (by decide)]
    simp only [zs_b, zs_1, zs_2, zs_3]
    rcases hW.plW hi with ⟨h1, h2⟩ | ⟨h1, h2, _, _, h3⟩
    · rw [h1, h2, if_pos z_m1lt]; rfl
    · rw [h2, h3, if_neg (nI_pos (by omega)), z_m6 h1, z_rd (show pl T i % 6 < 6 by omega) (by decide), r3_sizeOf_z T hi]
      rfl
  · unfold r3_slack_b4
    rw [if_pos (show (14 : Int32) ≤ nI 14 by decide)]
theorem r5_slack_z {M T : OS} {n : Nat} (hW : WF T n) (hR : RB (M 1) T n) : r5_slack M = some (slack T n) := by
  have hn := hW.le
  unfold r5_slack
  rw [zf2 n (fun s e => if plc T e then s + (T 0 (pl T e % 6) - szS T (T 6 e)) / 10 else s) (by omega) (fun i hi a => ?_) (fun a => ?_)]
  · rfl
  · unfold r5_slack_b4
    simp only [zs_1, zmany hR, zs_b, zs_1, zs_2, zs_3, zo84 hR hi (by omega), zo42 hR hi (by omega), r5_sizeOf_z hR, Int32.add_zero]
    rw [if_neg (nI_ge hi (by omega))]
    rcases hW.plW (show i < 14 by omega) with ⟨h1, h2⟩ | ⟨h1, h2, _, _, h3⟩
    · rw [h1, h2, if_neg (show ¬ (0 : Int32) ≤ -1 by decide)]; rfl
    · rw [h2, h3, if_pos (nI_pos' (by omega)), z_m6 h1, zo0 hR (show pl T i % 6 < 6 by omega)]
      rfl
  · unfold r5_slack_b4
    simp only [zs_1, zmany hR, zs_b, zs_1, zs_2, zs_3]
    rw [if_pos (nI_le (Nat.le_refl n) (by omega))]
def unp (T : OS) (n : Nat) : Int32 := nI (zct (fun e => !plc T e) n)
theorem r3_placedOnes_z {T : OS} {n : Nat} (hW : WF T n) : r3_placedOnes T = some (nI (zct (plc T) n)) := by
  unfold r3_placedOnes
  rw [zf2 14 (fun a i => if plc T i then a + 1 else a) (by decide) (fun i hi a => ?_) (fun a => ?_)]
  · rw [zfo_ct, zct_ext hW.le (fun i h1 h2 => plc_out hW h1 h2)]; rfl
  · unfold r3_placedOnes_b4 plc
    rw [if_neg (show ¬ (14 : Int32) ≤ nI i from nI_ge hi (by decide)), z_rd hi (by decide)]
    simp only [zs_b, zs_1, zs_2, zs_3]
    by_cases h : T 9 i = -1 <;> simp [h]
  · unfold r3_placedOnes_b4
    rw [if_pos (show (14 : Int32) ≤ nI 14 by decide)]
theorem z_unp (T : OS) (n : Nat) : nI n - nI (zct (plc T) n) = unp T n := by
  have := zct_not (plc T) n
  unfold unp
  rw [pk_sub (by omega)]
  congr 1; omega
theorem z_pla (T : OS) (n : Nat) : nI n - unp T n = nI (zct (plc T) n) := by
  have := zct_not (plc T) n
  unfold unp
  rw [pk_sub (by omega)]
  congr 1; omega
theorem r3_unplaced_z {T : OS} {n : Nat} (hW : WF T n) : r3_unplaced T = some (unp T n) := by
  unfold r3_unplaced
  rw [r3_placedOnes_z hW, hW.2.1]
  simp only [zs_1, zs_b, zs_1, zs_2, zs_3, z_unp]
theorem r5_unplaced_z {M T : OS} {n : Nat} (hW : WF T n) (hR : RB (M 1) T n) : r5_unplaced M = some (unp T n) := by
  have hn := hW.le
  unfold r5_unplaced
  rw [zf2 n (fun a i => if !plc T i then a + 1 else a) (by omega) (fun i hi a => ?_) (fun a => ?_)]
  · rw [zfo_ct]; rfl
  · unfold r5_unplaced_b4
    simp only [zs_1, zmany hR, zs_b, zs_1, zs_2, zs_3, zo84 hR hi (by omega), Int32.add_zero]
    rw [if_neg (nI_ge hi (by omega))]
    rcases hW.plW (show i < 14 by omega) with ⟨h1, h2⟩ | ⟨h1, h2, _, _, h3⟩
    · rw [h1, h2, if_neg (show ¬ (0 : Int32) ≤ -1 by decide)]; rfl
    · rw [h2, h3, if_pos (nI_pos' (by omega))]; rfl
  · unfold r5_unplaced_b4
    simp only [zs_1, zmany hR, zs_b, zs_1, zs_2, zs_3]
    rw [if_pos (nI_le (Nat.le_refl n) (by omega))]
def cst (T : OS) (n : Nat) : Int32 := (((T 4 0 * gaps T) + (T 4 1 * nI (zct (late T) n))) + (T 4 2 * slack T n)) + (100 * unp T n)
theorem r3_totalCost_z {T : OS} {n : Nat} (hW : WF T n) : r3_totalCost T = some (cst T n) := by
  unfold r3_totalCost
  rw [show (0 : Int32) = nI 0 from rfl, show (1 : Int32) = nI 1 from rfl, show (2 : Int32) = nI 2 from rfl, z_rd (show 0 < 3 by decide) (by decide), z_rd (show 1 < 3 by decide) (by decide), z_rd (show 2 < 3 by decide) (by decide)]
  simp only [zs_1, zs_b, zs_1, zs_2, zs_3, r3_gaps_z hW, r3_lateOnes_z hW, r3_slack_z hW, r3_unplaced_z hW]
  rfl
theorem r5_costs_z {M T : OS} {n : Nat} (hW : WF T n) (hR : RB (M 1) T n) : r5_costs M = some (cst T n) := by
  unfold r5_costs
  rw [show (0 : Int32) = nI 0 from rfl, show (1 : Int32) = nI 1 from rfl, show (2 : Int32) = nI 2 from rfl, zo24 hR (show 0 < 3 by decide), zo24 hR (show 1 < 3 by decide), zo24 hR (show 2 < 3 by decide)]
  simp only [zs_1, zs_b, zs_1, zs_2, zs_3, r5_gaps_z hW hR, r5_lates_z hW hR, r5_slack_z hW hR, r5_unplaced_z hW hR]
  rfl
theorem r3_costIf_z {T : OS} {n e p : Nat} (hW : WF T n) (he : e < n) (hp : p < 60) : r3_costIf T (nI e) (nI p) = some (cst (mv T e p) n, T) := by
  have he' : e < 14 := by have := hW.le; omega
  unfold r3_costIf
  simp only [zs_1, z_rd he' (show 14 < 2 ^ 31 by decide), zs_b, zs_1, zs_2, zs_3, r3_moveTo_z T he' hp, r3_totalCost_z (hW.mvW he hp)]
  rcases mv_back (p := p) hW he' with ⟨_, h⟩ | ⟨_, _, _, h⟩ <;> rw [h] <;> rfl
theorem r5_costsAt_z {M T : OS} {n e p : Nat} (hW : WF T n) (hR : RB (M 1) T n) (he : e < n) (hp : p < 60) : r5_costsAt M (nI e) (nI p) = some (cst (mv T e p) n, M) := by
  have he' : e < 14 := by have := hW.le; omega
  unfold r5_costsAt
  simp only [zs_1, zo84 hR he he', zs_b, zs_1, zs_2, zs_3, r5_lays_z M he', r5_costs_z (hW.mvW he hp) (hR.mvW hW.le he'), r5_lays_z _ he']
  rw [← (hR.2.2.2 e he).2.2.2.2.1, ly_back]
