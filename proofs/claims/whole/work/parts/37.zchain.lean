/-! THE PURE LAYER: chains -/
def lk (T : OS) (S : Int32) (a o : Nat) : Prop := T 10 o &&& S ≠ 0 ∧ (T 5 a = T 5 o ∨ T 6 a &&& T 6 o ≠ 0)
def Cl (T : OS) (S : Int32) (n : Nat) (X : Nat → Prop) : Prop := ∀ a o, a < n → o < n → X a → lk T S a o → X o
/-- one round from a set to a set -/
def St (T : OS) (S : Int32) (n : Nat) (x y : Int32) : Prop := (∀ o, bt x o = true → bt y o = true) ∧ (∀ C, Cl T S n C → (∀ o, bt x o = true → C o) → ∀ o, bt y o = true → C o) ∧ (∀ a o, a < n → o < n → bt x a = true → lk T S a o → bt y o = true) ∧ ∀ o, bt y o = true → o < n
theorem bt_lt {x : Int32} {o : Nat} (h : bt x o = true) : o < 32 := by
  rcases Nat.lt_or_ge o 32 with h1 | h1
  · exact h1
  · rw [b_big h1] at h; cases h
theorem St.closed {T : OS} {S : Int32} {n : Nat} {x : Int32} (h : St T S n x x) : Cl T S n (fun o => bt x o = true) := fun a o ha ho hx hl => h.2.2.1 a o ha ho hx hl
theorem St.stay {T : OS} {S : Int32} {n : Nat} {x y : Int32} (h : St T S n x y) (hc : Cl T S n (fun o => bt x o = true)) : y = x := by
  apply b_ext
  intro i _
  apply Bool.eq_iff_iff.mpr
  exact ⟨fun z => h.2.1 _ hc (fun o ho => ho) i z, fun z => h.1 i z⟩
theorem zct_mono {p q : Nat → Bool} : ∀ {n : Nat}, (∀ o, o < n → p o = true → q o = true) → zct p n ≤ zct q n
  | 0, _ => Nat.le_refl 0
  | n + 1, h => by
    show zct p n + (if p n then 1 else 0) ≤ zct q n + (if q n then 1 else 0)
    have := zct_mono (n := n) (fun o ho => h o (by omega))
    have := h n (by omega)
    cases hp : p n
    · simp; omega
    · rw [hp] at this; rw [this rfl]; simp; omega
theorem zct_strict {p q : Nat → Bool} {e : Nat} : ∀ {n : Nat}, (∀ o, o < n → p o = true → q o = true) → e < n → p e = false → q e = true → zct p n < zct q n
  | 0, _, h, _, _ => by omega
  | n + 1, h, he, hp, hq => by
    show zct p n + (if p n then 1 else 0) < zct q n + (if q n then 1 else 0)
    by_cases e1 : e = n
    · have := zct_mono (n := n) (p := p) (q := q) (fun o ho => h o (by omega))
      rw [← e1] at this ⊢
      rw [hp, hq]; simp; omega
    · have := zct_strict (n := n) (fun o ho => h o (by omega)) (by omega) hp hq
      have := h n (by omega)
      cases hpn : p n
      · simp; omega
      · rw [hpn] at this; rw [this rfl]; simp; omega
theorem St.grow {T : OS} {S : Int32} {n : Nat} {x y : Int32} (h : St T S n x y) (hne : y ≠ x) : zct (bt x) n < zct (bt y) n := by
  have : ∃ i, i < 32 ∧ bt x i ≠ bt y i := Classical.byContradiction fun z => hne (b_ext fun i hi => Classical.byContradiction fun z2 => z ⟨i, hi, fun e => z2 e.symm⟩)
  obtain ⟨i, _, hi2⟩ := this
  have hx : bt x i = false := by
    cases hx : bt x i
    · rfl
    · rw [hx, h.1 i hx] at hi2; exact absurd rfl hi2
  have hy : bt y i = true := by
    cases hy : bt y i
    · rw [hx, hy] at hi2; exact absurd rfl hi2
    · rfl
  exact zct_strict (fun o _ => h.1 o) (h.2.2.2 i hy) hx hy
/-- the chain: the least closed set with the event -/
def chn (T : OS) (S : Int32) (n e : Nat) (x : Int32) : Prop := (∀ o, bt x o = true → o < n) ∧ bt x e = true ∧ Cl T S n (fun o => bt x o = true) ∧ ∀ C, Cl T S n C → C e → ∀ o, bt x o = true → C o
theorem chn.one {T : OS} {S : Int32} {n e : Nat} {x y : Int32} (h : chn T S n e x) (h' : chn T S n e y) : x = y := by
  apply b_ext
  intro i _
  apply Bool.eq_iff_iff.mpr
  exact ⟨fun z => h.2.2.2 _ h'.2.2.1 h'.2.1 i z, fun z => h'.2.2.2 _ h.2.2.1 h.2.1 i z⟩
theorem zb_in {e i : Nat} (he : e < 32) (h : bt (zb e) i = true) : i = e := by
  rw [zb_bt e he i (bt_lt h)] at h
  exact (of_decide_eq_true h).symm
/-! the class's rounds -/
theorem z_ne0 (x y : Int32) : x &&& y ≠ 0 ↔ ∃ i, i < 32 ∧ bt x i = true ∧ bt y i = true := by
  constructor
  · intro h
    exact Classical.byContradiction fun z => h ((z_and0 x y).mpr fun i hi hh => z ⟨i, hi, hh.1, hh.2⟩)
  · rintro ⟨i, hi, h1, h2⟩ h
    exact (z_and0 x y).mp h i hi ⟨h1, h2⟩
theorem r2_withLinked_z {T : OS} {n : Nat} {S x : Int32} (hW : WF T n) (hx : ∀ o, bt x o = true → o < n) : ∃ y, r2_withLinked T x S = some y ∧ St T S n x y := by
  have hn := hW.le
  unfold r2_withLinked
  refine zi3k (F := r2_withLinked_b8 T x S) (a0 := (0 : Int32)) (b0 := (0 : Int32)) 14 (fun i a b => (∀ t, t < 32 → (bt a t = true ↔ ∃ j, j < i ∧ bt x j = true ∧ te T j = t)) ∧ ∀ g, g < 32 → (bt b g = true ↔ ∃ j, j < i ∧ bt x j = true ∧ bt (T 6 j) g = true)) (fun r => (∀ t, t < 32 → (bt r.1 t = true ↔ ∃ j, j < 14 ∧ bt x j = true ∧ te T j = t)) ∧ ∀ g, g < 32 → (bt r.2 g = true ↔ ∃ j, j < 14 ∧ bt x j = true ∧ bt (T 6 j) g = true)) (by decide) (fun r h1 hr => ?_) ⟨fun t _ => ⟨fun z => (by rw [b_0] at z; cases z), fun ⟨j, hj, _⟩ => absurd hj (by omega)⟩, fun t _ => ⟨fun z => (by rw [b_0] at z; cases z), fun ⟨j, hj, _⟩ => absurd hj (by omega)⟩⟩ (fun i a b hi hI => Or.inl ?_) (fun a b hI => ⟨(a, b), ?_, hI⟩)
  · obtain ⟨ts, gs⟩ := r
    obtain ⟨hts, hgs⟩ := hr
    rw [h1]
    simp only [zs_2, zs_b, zs_1, zs_2, zs_3]
    have hlink : ∀ o, o < n → ((bt ts (te T o) = true ∨ gs &&& T 6 o ≠ 0) ↔ ∃ a, bt x a = true ∧ (T 5 a = T 5 o ∨ T 6 a &&& T 6 o ≠ 0)) := fun o ho => by
      obtain ⟨q1, q2⟩ := hW.teW ho
      constructor
      · rintro (h | h)
        · obtain ⟨j, _, hj2, hj3⟩ := (hts _ (by omega)).mp h
          exact ⟨j, hj2, Or.inl (by rw [(hW.teW (hx j hj2)).2, q2, hj3])⟩
        · obtain ⟨g, hg, h2, h3⟩ := (z_ne0 _ _).mp h
          obtain ⟨j, _, hj2, hj3⟩ := (hgs g hg).mp h2
          exact ⟨j, hj2, Or.inr ((z_ne0 _ _).mpr ⟨g, hg, hj3, h3⟩)⟩
      · rintro ⟨a, ha, h | h⟩
        · left
          refine (hts _ (by omega)).mpr ⟨a, by have := hx a ha; omega, ha, ?_⟩
          unfold te; rw [h]
        · right
          obtain ⟨g, hg, h2, h3⟩ := (z_ne0 _ _).mp h
          exact (z_ne0 _ _).mpr ⟨g, hg, (hgs g hg).mpr ⟨a, by have := hx a ha; omega, ha, h2⟩, h3⟩
    refine zi2k (F := r2_withLinked_b66 T S ts gs) (a0 := x) 14 (fun i a => ∀ o, o < 32 → (bt a o = true ↔ bt x o = true ∨ (o < i ∧ o < n ∧ ∃ b, bt x b = true ∧ lk T S b o))) (fun r => ∀ o, o < 32 → (bt r o = true ↔ bt x o = true ∨ (o < 14 ∧ o < n ∧ ∃ b, bt x b = true ∧ lk T S b o))) (by decide) (fun r h1 hr => ?_) (fun o _ => ⟨fun z => Or.inl z, fun z => z.elim (fun z => z) (fun z => absurd z.1 (by omega))⟩) (fun i a hi hI => Or.inl ?_) (fun a hI => ⟨a, ?_, hI⟩)
    · refine ⟨r, by rw [h1]; rfl, fun o ho => (hr o (bt_lt ho)).mpr (Or.inl ho), fun C hC hxC o ho => ?_, fun a o ha ho hxa hl => (hr o (by omega)).mpr (Or.inr ⟨by omega, ho, a, hxa, hl⟩), fun o ho => ?_⟩
      · rcases (hr o (bt_lt ho)).mp ho with h | ⟨_, h2, b, hb, hl⟩
        · exact hxC o h
        · exact hC b o (hx b hb) h2 (hxC b hb) hl
      · rcases (hr o (bt_lt ho)).mp ho with h | ⟨_, h2, _⟩
        · exact hx o h
        · exact h2
    · unfold r2_withLinked_b66
      rw [if_neg (show ¬ (14 : Int32) ≤ nI i from nI_ge hi (by decide)), z_rd hi (by decide), z_rd hi (by decide)]
      simp only [zs_1, zs_b, zs_1, zs_2, zs_3]
      have hskip : ¬ (i < n ∧ ∃ b, bt x b = true ∧ lk T S b i) → ∀ o, o < 32 → (bt a o = true ↔ bt x o = true ∨ (o < i + 1 ∧ o < n ∧ ∃ b, bt x b = true ∧ lk T S b o)) := fun hno o ho => by
        rw [hI o ho]
        constructor
        · rintro (h | ⟨h1, h2, h3⟩)
          · exact Or.inl h
          · exact Or.inr ⟨by omega, h2, h3⟩
        · rintro (h | ⟨h1, h2, h3⟩)
          · exact Or.inl h
          · by_cases e : o = i
            · rw [e] at h2 h3; exact absurd ⟨h2, h3⟩ hno
            · exact Or.inr ⟨by omega, h2, h3⟩
      have hadd : i < n → (∃ b, bt x b = true ∧ lk T S b i) → ∀ o, o < 32 → (bt (a ||| (1 <<< (nI i &&& 31))) o = true ↔ bt x o = true ∨ (o < i + 1 ∧ o < n ∧ ∃ b, bt x b = true ∧ lk T S b o)) := fun hin hb o ho => by
        rw [b_or, Bool.or_eq_true, hI o ho, show (1 : Int32) <<< (nI i &&& 31) = zb i from rfl, zb_bt i (by omega) o ho, decide_eq_true_eq]
        constructor
        · rintro ((h | ⟨h1, h2, h3⟩) | h)
          · exact Or.inl h
          · exact Or.inr ⟨by omega, h2, h3⟩
          · exact Or.inr ⟨by omega, by omega, by rw [← h]; exact hb⟩
        · rintro (h | ⟨h1, h2, h3⟩)
          · exact Or.inl (Or.inl h)
          · by_cases e : o = i
            · exact Or.inr e.symm
            · exact Or.inl (Or.inr ⟨by omega, h2, h3⟩)
      have hj : ∀ s0 : Int32, (i < n → (s0 ≠ 0 ↔ ∃ b, bt x b = true ∧ (T 5 b = T 5 i ∨ T 6 b &&& T 6 i ≠ 0))) → ∃ a', r2_withLinked_j111 T S ts gs a (nI i) s0 = some (.inl (a', nI i + 1)) ∧ ∀ o, o < 32 → (bt a' o = true ↔ bt x o = true ∨ (o < i + 1 ∧ o < n ∧ ∃ b, bt x b = true ∧ lk T S b o)) := fun s0 hs0 => by
        unfold r2_withLinked_j111
        rw [z_rd hi (by decide)]
        by_cases hin : i < n
        · by_cases c1 : s0 = 0
          · rw [if_pos c1]
            refine ⟨a, rfl, hskip ?_⟩
            rintro ⟨_, b, hb, hl⟩
            exact (hs0 hin).mpr ⟨b, hb, hl.2⟩ c1
          · rw [if_neg c1]
            simp only [zs_b, zs_1, zs_2, zs_3]
            by_cases c2 : T 10 i &&& S = 0
            · rw [if_pos c2]
              refine ⟨a, rfl, hskip ?_⟩
              rintro ⟨_, b, hb, hl⟩
              exact hl.1 c2
            · rw [if_neg c2]
              obtain ⟨b, hb, hl⟩ := (hs0 hin).mp c1
              exact ⟨_, rfl, hadd hin ⟨b, hb, c2, hl⟩⟩
        · have h0 := (hW.out (show n ≤ i by omega) hi).2.1
          refine ⟨a, ?_, hskip (fun z => hin z.1)⟩
          simp only [zs_b, zs_1, zs_2, zs_3, h0, z0and]
          split <;> rfl
      by_cases hin : i < n
      · obtain ⟨q1, q2⟩ := hW.teW hin
        rw [q2, r4_contains_z ts (show te T i < 32 by omega)]
        simp only [zs_b, zs_1, zs_2, zs_3]
        have hl := hlink i hin
        cases hb : bt ts (te T i)
        · rw [if_neg (show ¬ (false = true) by decide), if_pos rfl]
          by_cases c : gs &&& T 6 i = 0
          · rw [if_pos c]
            refine hj 0 (fun _ => ⟨fun z => absurd rfl z, fun z => ?_⟩)
            rcases hl.mpr z with h | h
            · rw [hb] at h; cases h
            · exact absurd c h
          · rw [if_neg c]
            exact hj 1 (fun _ => ⟨fun _ => hl.mp (Or.inr c), fun _ => by decide⟩)
        · rw [if_pos rfl, if_neg (show ¬ (1 : Int32) = 0 by decide)]
          exact hj 1 (fun _ => ⟨fun _ => hl.mp (Or.inl hb), fun _ => by decide⟩)
      · unfold r4_contains
        have hj' : ∀ s0 : Int32, ∃ a', r2_withLinked_j111 T S ts gs a (nI i) s0 = some (.inl (a', nI i + 1)) ∧ ∀ o, o < 32 → (bt a' o = true ↔ bt x o = true ∨ (o < i + 1 ∧ o < n ∧ ∃ b, bt x b = true ∧ lk T S b o)) := fun s0 => hj s0 (fun z => absurd z hin)
        by_cases c1 : (ts >>> (T 5 i &&& 31)) &&& 1 = 0
        · rw [if_pos c1]
          simp only [zs_b, zs_1, zs_2, zs_3, if_true]
          by_cases c : gs &&& T 6 i = 0
          · rw [if_pos c]; exact hj' 0
          · rw [if_neg c]; exact hj' 1
        · rw [if_neg c1]
          simp only [zs_b, zs_1, zs_2, zs_3]
          rw [if_neg (show ¬ (1 : Int32) = 0 by decide)]
          exact hj' 1
    · unfold r2_withLinked_b66
      rw [if_pos (show (14 : Int32) ≤ nI 14 by decide)]
  · unfold r2_withLinked_b8
    rw [if_neg (show ¬ (14 : Int32) ≤ nI i from nI_ge hi (by decide)), r4_contains_z x (show i < 32 by omega)]
    simp only [zs_1, zs_b, zs_1, zs_2, zs_3, z_rd hi (show 14 < 2 ^ 31 by decide)]
    cases hb : bt x i
    · refine ⟨a, b, rfl, fun t ht => ?_, fun g hg => ?_⟩
      · rw [hI.1 t ht]
        constructor
        · rintro ⟨j, h1, h2⟩; exact ⟨j, by omega, h2⟩
        · rintro ⟨j, h1, h2, h3⟩
          refine ⟨j, ?_, h2, h3⟩
          have : j ≠ i := fun e => by rw [e, hb] at h2; cases h2
          omega
      · rw [hI.2 g hg]
        constructor
        · rintro ⟨j, h1, h2⟩; exact ⟨j, by omega, h2⟩
        · rintro ⟨j, h1, h2, h3⟩
          refine ⟨j, ?_, h2, h3⟩
          have : j ≠ i := fun e => by rw [e, hb] at h2; cases h2
          omega
    · rw [if_pos rfl, if_neg (show ¬ (1 : Int32) = 0 by decide)]
      obtain ⟨q1, q2⟩ := hW.teW (hx i hb)
      rw [q2]
      refine ⟨_, _, rfl, fun t ht => ?_, fun g hg => ?_⟩
      · rw [b_or, Bool.or_eq_true, hI.1 t ht, show (1 : Int32) <<< (nI (te T i) &&& 31) = zb (te T i) from rfl, zb_bt _ (by omega) t ht, decide_eq_true_eq]
        constructor
        · rintro (⟨j, h1, h2⟩ | h)
          · exact ⟨j, by omega, h2⟩
          · exact ⟨i, by omega, hb, h⟩
        · rintro ⟨j, h1, h2, h3⟩
          by_cases e : j = i
          · right; rw [← e]; exact h3
          · left; exact ⟨j, by omega, h2, h3⟩
      · rw [b_or, Bool.or_eq_true, hI.2 g hg]
        constructor
        · rintro (⟨j, h1, h2⟩ | h)
          · exact ⟨j, by omega, h2⟩
          · exact ⟨i, by omega, hb, h⟩
        · rintro ⟨j, h1, h2, h3⟩
          by_cases e : j = i
          · right; rw [← e]; exact h3
          · left; exact ⟨j, by omega, h2, h3⟩
  · unfold r2_withLinked_b8
    rw [if_pos (show (14 : Int32) ≤ nI 14 by decide)]
theorem zct_pos {p : Nat → Bool} {e : Nat} : ∀ {n : Nat}, e < n → p e = true → 1 ≤ zct p n
  | 0, h, _ => by omega
  | n + 1, h, hp => by
    show 1 ≤ zct p n + (if p n then 1 else 0)
    by_cases e1 : e = n
    · rw [← e1, hp]; simp
    · have := zct_pos (n := n) (by omega) hp; omega
theorem r2_chainOf_z {T : OS} {n e t : Nat} (hW : WF T n) (he : e < n) (ht : t < 32) : ∃ x, r2_chainOf T (nI e) (nI t) = some x ∧ chn T (T 10 e ||| zb t) n e x := by
  have hn := hW.le
  have he' : e < 14 := by omega
  unfold r2_chainOf
  rw [z_rd he' (by decide)]
  simp only [zs_b, zs_1, zs_2, zs_3]
  generalize hS : (T 10 e ||| (1 <<< (nI t &&& 31))) = S
  have h0 : ∀ o, bt (zb e) o = true → o < n := fun o ho => by rw [zb_in (by omega) ho]; exact he
  have hee : bt (zb e) e = true := by rw [zb_bt e (by omega) e (by omega)]; simp
  refine zi2k (F := r2_chainOf_b22 T S) (a0 := zb e) 14 (fun i x => (∀ o, bt x o = true → o < n) ∧ bt x e = true ∧ (∀ C, Cl T S n C → C e → ∀ o, bt x o = true → C o) ∧ i + 1 ≤ zct (bt x) n) (fun r => ∃ x, (r = .inl x ∨ r = .inr x) ∧ chn T S n e x) (by decide) (fun r h1 h2 => ?_) ⟨h0, hee, fun C _ hCe o ho => by rw [zb_in (by omega) ho]; exact hCe, by have := zct_pos (p := bt (zb e)) he hee; omega⟩ (fun i x hi hI => ?_) (fun x hI => ?_)
  · obtain ⟨x, hx, hc⟩ := h2
    refine ⟨x, ?_, hc⟩
    rw [show (1 : Int32) <<< (nI e &&& 31) = zb e from rfl, h1]
    rcases hx with rfl | rfl <;> rfl
  · obtain ⟨k1, k2, k3, k4⟩ := hI
    obtain ⟨y, hy, hst⟩ := r2_withLinked_z (S := S) hW k1
    unfold r2_chainOf_b22
    rw [if_neg (show ¬ (14 : Int32) ≤ nI i from nI_ge hi (by decide)), hy]
    simp only [zs_1, zs_b, zs_1, zs_2, zs_3]
    by_cases c : y = x
    · right
      rw [if_pos c]
      rw [c] at hst
      exact ⟨_, rfl, x, Or.inr rfl, k1, k2, hst.closed, k3⟩
    · left
      rw [if_neg c]
      refine ⟨y, rfl, hst.2.2.2, hst.1 e k2, fun C hC hCe o ho => hst.2.1 C hC (fun o ho => k3 C hC hCe o ho) o ho, ?_⟩
      have := hst.grow c
      omega
  · have := zct_le (bt x) n
    have := hI.2.2.2
    omega
/-! the reference's rounds -/
theorem r5_chain_in {M T : OS} {n a : Nat} {S x : Int32} (k : Int32) (hW : WF T n) (hR : RB (M 1) T n) (ha : a < n) : ∃ y, it2 (r5_chainOf_b47 M S k (nI a)) 200 x 0 = some y ∧ ∀ o, o < 32 → (bt y o = true ↔ bt x o = true ∨ (bt x a = true ∧ o < n ∧ lk T S a o)) := by
  have hn := hW.le
  refine zi2k (F := r5_chainOf_b47 M S k (nI a)) (a0 := x) n (fun i y => ∀ o, o < 32 → (bt y o = true ↔ bt x o = true ∨ (bt x a = true ∧ o < i ∧ o < n ∧ lk T S a o))) (fun y => ∀ o, o < 32 → (bt y o = true ↔ bt x o = true ∨ (bt x a = true ∧ o < n ∧ lk T S a o))) (by omega) (fun r h1 h2 => ⟨r, h1, h2⟩) (fun o _ => ⟨fun z => Or.inl z, fun z => z.elim (fun z => z) (fun z => absurd z.2.1 (by omega))⟩) (fun i y hi hI => Or.inl ?_) (fun y hI => ⟨y, ?_, fun o ho => ?_⟩)
  · unfold r5_chainOf_b47
    simp only [zs_1, zmany hR, zs_b, zs_1, zs_2, zs_3, r5_slotsOf_z hW hR hi, r5_isBound_z hR ha (show a < 14 by omega) hi (show i < 14 by omega), z_bit1 y (show a < 32 by omega)]
    rw [if_neg (nI_ge hi (by omega))]
    have haa : bt y a = bt x a := by
      apply Bool.eq_iff_iff.mpr
      rw [hI a (by omega)]
      exact ⟨fun z => z.elim (fun z => z) (fun z => z.1), fun z => Or.inl z⟩
    have hskip : ¬ (bt x a = true ∧ lk T S a i) → ∀ o, o < 32 → (bt (y ||| 0) o = true ↔ bt x o = true ∨ (bt x a = true ∧ o < i + 1 ∧ o < n ∧ lk T S a o)) := fun hno o ho => by
      rw [z_or0, hI o ho]
      constructor
      · rintro (h | ⟨h1, h2, h3⟩)
        · exact Or.inl h
        · exact Or.inr ⟨h1, by omega, h3⟩
      · rintro (h | ⟨h1, h2, h3, h4⟩)
        · exact Or.inl h
        · by_cases e : o = i
          · rw [e] at h4; exact absurd ⟨h1, h4⟩ hno
          · exact Or.inr ⟨h1, by omega, h3, h4⟩
    rw [haa]
    cases hb : bt x a
    · rw [if_neg (by decide)]
      exact ⟨_, rfl, fun o ho => by have := hskip (by rw [hb]; simp) o ho; rw [hb] at this; exact this⟩
    · rw [if_pos rfl]
      rw [hb] at hskip hI
      by_cases c1 : T 10 i &&& S = 0
      · rw [if_pos c1]
        exact ⟨_, rfl, hskip (fun z => z.2.1 c1)⟩
      · rw [if_neg c1]
        have hadd : lk T S a i → ∀ o, o < 32 → (bt (y ||| (1 <<< (nI i &&& 31))) o = true ↔ bt x o = true ∨ (true = true ∧ o < i + 1 ∧ o < n ∧ lk T S a o)) := fun hl o ho => by
          rw [b_or, Bool.or_eq_true, hI o ho, show (1 : Int32) <<< (nI i &&& 31) = zb i from rfl, zb_bt i (by omega) o ho, decide_eq_true_eq]
          constructor
          · rintro ((h | ⟨h1, h2, h3⟩) | h)
            · exact Or.inl h
            · exact Or.inr ⟨h1, by omega, h3⟩
            · exact Or.inr ⟨rfl, by omega, by omega, by rw [← h]; exact hl⟩
          · rintro (h | ⟨h1, h2, h3, h4⟩)
            · exact Or.inl (Or.inl h)
            · by_cases e : o = i
              · exact Or.inr e.symm
              · exact Or.inl (Or.inr ⟨h1, by omega, h3, h4⟩)
        by_cases c2 : T 5 a = T 5 i
        · rw [if_pos c2, if_neg (show ¬ (1 : Int32) = 0 by decide)]
          exact ⟨_, rfl, hadd ⟨c1, Or.inl c2⟩⟩
        · rw [if_neg c2]
          by_cases c3 : T 6 a &&& T 6 i = 0
          · rw [if_pos c3, if_pos rfl]
            exact ⟨_, rfl, hskip (fun z => z.2.2.elim c2 (fun z => z c3))⟩
          · rw [if_neg c3, if_neg (show ¬ (1 : Int32) = 0 by decide)]
            exact ⟨_, rfl, hadd ⟨c1, Or.inr c3⟩⟩
  · unfold r5_chainOf_b47
    simp only [zs_1, zmany hR, zs_b, zs_1, zs_2, zs_3]
    rw [if_pos (nI_le (Nat.le_refl n) (by omega))]
  · rw [hI o ho]
    constructor
    · rintro (h | ⟨h1, h2, h3⟩)
      · exact Or.inl h
      · exact Or.inr ⟨h1, h3⟩
    · rintro (h | ⟨h1, h2, h3⟩)
      · exact Or.inl h
      · exact Or.inr ⟨h1, h2, h2, h3⟩
theorem r5_chain_round {M T : OS} {n : Nat} {S x : Int32} (k : Int32) (hW : WF T n) (hR : RB (M 1) T n) (hx : ∀ o, bt x o = true → o < n) : ∃ y, it2 (r5_chainOf_b35 M S k) 200 x 0 = some y ∧ St T S n x y := by
  have hn := hW.le
  refine zi2k (F := r5_chainOf_b35 M S k) (a0 := x) n (fun i y => (∀ o, bt x o = true → bt y o = true) ∧ (∀ C, Cl T S n C → (∀ o, bt x o = true → C o) → ∀ o, bt y o = true → C o) ∧ (∀ a o, a < i → o < n → bt x a = true → lk T S a o → bt y o = true) ∧ ∀ o, bt y o = true → o < n) (fun y => St T S n x y) (by omega) (fun r h1 h2 => ⟨r, h1, h2⟩) ⟨fun o h => h, fun C _ h => h, fun a o ha => absurd ha (by omega), hx⟩ (fun i y hi hI => Or.inl ?_) (fun y hI => ⟨y, ?_, hI⟩)
  · obtain ⟨k1, k2, k3, k4⟩ := hI
    unfold r5_chainOf_b35
    simp only [zs_1, zmany hR, zs_b, zs_1, zs_2, zs_3]
    rw [if_neg (nI_ge hi (by omega))]
    obtain ⟨z, hz, hz2⟩ := r5_chain_in (S := S) (x := y) k hW hR hi
    rw [hz]
    refine ⟨z, rfl, fun o ho => (hz2 o (bt_lt ho)).mpr (Or.inl (k1 o ho)), fun C hC hxC o ho => ?_, fun a o ha ho hxa hl => ?_, fun o ho => ?_⟩
    · rcases (hz2 o (bt_lt ho)).mp ho with h | ⟨h1, h2, h3⟩
      · exact k2 C hC hxC o h
      · exact hC i o hi h2 (k2 C hC hxC i h1) h3
    · by_cases e : a = i
      · rw [e] at hxa hl
        exact (hz2 o (by omega)).mpr (Or.inr ⟨k1 i hxa, ho, hl⟩)
      · exact (hz2 o (by omega)).mpr (Or.inl (k3 a o (by omega) ho hxa hl))
    · rcases (hz2 o (bt_lt ho)).mp ho with h | ⟨_, h2, _⟩
      · exact k4 o h
      · exact h2
  · unfold r5_chainOf_b35
    simp only [zs_1, zmany hR, zs_b, zs_1, zs_2, zs_3]
    rw [if_pos (nI_le (Nat.le_refl n) (by omega))]
theorem r5_chainOf_z {M T : OS} {n e t p : Nat} (hW : WF T n) (hR : RB (M 1) T n) (he : e < n) (ht : t < 32) (hp : p < 60) (h9 : T 9 e = nI p) : ∃ x, r5_chainOf M (nI e) (nI t) = some x ∧ chn T (zb t ||| zb (p / 6)) n e x := by
  have hn := hW.le
  have he' : e < 14 := by omega
  unfold r5_chainOf
  rw [zo84 hR he he', h9, zs_1, z_d6 hp]
  simp only [zs_1, zs_b, zs_1, zs_2, zs_3]
  generalize hS : ((1 <<< (nI t &&& 31)) ||| (1 <<< (nI (p / 6) &&& 31)) : Int32) = S
  have h0 : ∀ o, bt (zb e) o = true → o < n := fun o ho => by rw [zb_in (by omega) ho]; exact he
  have hee : bt (zb e) e = true := by rw [zb_bt e (by omega) e (by omega)]; simp
  refine zi2k (F := r5_chainOf_b25 M S) (a0 := zb e) 14 (fun i x => (∀ o, bt x o = true → o < n) ∧ bt x e = true ∧ (∀ C, Cl T S n C → C e → ∀ o, bt x o = true → C o) ∧ (Cl T S n (fun o => bt x o = true) ∨ i + 1 ≤ zct (bt x) n)) (fun x => chn T S n e x) (by decide) (fun r h1 h2 => ⟨r, ?_, h2⟩) ⟨h0, hee, fun C _ hCe o ho => by rw [zb_in (by omega) ho]; exact hCe, Or.inr (by have := zct_pos (p := bt (zb e)) he hee; omega)⟩ (fun i x hi hI => Or.inl ?_) (fun x hI => ⟨x, ?_, ?_⟩)
  · rw [show (1 : Int32) <<< (nI e &&& 31) = zb e from rfl, h1, zs_1]
  · obtain ⟨k1, k2, k3, k4⟩ := hI
    obtain ⟨y, hy, hst⟩ := r5_chain_round (S := S) (nI i) hW hR k1
    unfold r5_chainOf_b25
    rw [if_neg (show ¬ (14 : Int32) ≤ nI i from nI_ge hi (by decide)), hy]
    refine ⟨y, rfl, hst.2.2.2, hst.1 e k2, fun C hC hCe o ho => hst.2.1 C hC (fun o ho => k3 C hC hCe o ho) o ho, ?_⟩
    rcases k4 with h | h
    · left; rw [hst.stay h]; exact h
    · by_cases c : y = x
      · left; rw [c] at hst ⊢; exact hst.closed
      · right
        have := hst.grow c
        omega
  · unfold r5_chainOf_b25
    rw [if_pos (show (14 : Int32) ≤ nI 14 by decide)]
  · refine ⟨hI.1, hI.2.1, ?_, hI.2.2.1⟩
    rcases hI.2.2.2 with h | h
    · exact h
    · have := zct_le (bt x) n
      omega
/-- a member of the chain takes one of the two slots -/
theorem chn.two {T : OS} {S : Int32} {n e : Nat} {x : Int32} (h : chn T S n e x) (he : T 10 e &&& S ≠ 0) {o : Nat} (ho : bt x o = true) : T 10 o &&& S ≠ 0 := h.2.2.2 (fun o => T 10 o &&& S ≠ 0) (fun _ _ _ _ _ hl => hl.1) he o ho
