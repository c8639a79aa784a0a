/-! THE PURE LAYER: numbers, bits, loops. Rows on bits began as rows of kit/laws/BITS.to-paste -/
def bt (x : Int32) (i : Nat) : Bool := x.toBitVec.getLsbD i
theorem b_ext {x y : Int32} (h : ∀ i, i < 32 → bt x i = bt y i) : x = y := Int32.toBitVec_inj.mp (BitVec.eq_of_getLsbD_eq (fun i hi => h i hi))
theorem b_or (x y : Int32) (i : Nat) : bt (x ||| y) i = (bt x i || bt y i) := by unfold bt; rw [Int32.toBitVec_or, BitVec.getLsbD_or]
theorem b_and (x y : Int32) (i : Nat) : bt (x &&& y) i = (bt x i && bt y i) := by unfold bt; rw [Int32.toBitVec_and, BitVec.getLsbD_and]
theorem b_xor (x y : Int32) (i : Nat) : bt (x ^^^ y) i = (bt x i ^^ bt y i) := by unfold bt; rw [Int32.toBitVec_xor, BitVec.getLsbD_xor]
theorem b_big {x : Int32} {i : Nat} (h : 32 ≤ i) : bt x i = false := BitVec.getLsbD_of_ge _ _ h
theorem b_m1 : ∀ i, i < 32 → bt (-1) i = true := by decide +kernel
theorem b_0 (i : Nat) : bt 0 i = false := BitVec.getLsbD_zero
theorem s_l : ∀ n, n < 32 → ((nI n &&& 31).toBitVec.smod 32).toNat = n := by decide +kernel
theorem b_sshr (n : Nat) (hn : n < 32) (x : Int32) {i : Nat} (hi : i < 32) : bt (x >>> (nI n &&& 31)) i = if n + i < 32 then bt x (n + i) else bt x 31 := by
  unfold bt
  rw [Int32.toBitVec_shiftRight]
  show (x.toBitVec.sshiftRight ((nI n &&& 31).toBitVec.smod 32).toNat).getLsbD i = _
  rw [s_l n hn, BitVec.getLsbD_sshiftRight, BitVec.msb_eq_getLsbD_last]
  simp [hi]
abbrev zb (i : Nat) : Int32 := 1 <<< (nI i &&& 31)
theorem zb_bt : ∀ i, i < 32 → ∀ j, j < 32 → bt (zb i) j = decide (i = j) := by decide +kernel
theorem z_not (x : Int32) {i : Nat} (h : i < 32) : bt (x ^^^ (-1)) i = !bt x i := by rw [b_xor, b_m1 i h]; simp
theorem z_one : ∀ i, i < 32 → bt 1 i = decide (i = 0) := by decide +kernel
/-- one bit of a set -/
theorem z_bit (x : Int32) {i : Nat} (hi : i < 32) : (x >>> (nI i &&& 31)) &&& 1 = if bt x i then 1 else 0 := by
  apply b_ext
  intro j hj
  rw [b_and, b_sshr i hi x hj, z_one j hj]
  by_cases h : j = 0
  · subst h
    rw [Nat.add_zero, if_pos hi]
    cases bt x i <;> decide
  · simp only [h, decide_false, Bool.and_false]
    split
    · rw [z_one j hj]; simp [h]
    · exact (b_0 j).symm
theorem z_bit0 (x : Int32) {i : Nat} (hi : i < 32) : ((x >>> (nI i &&& 31)) &&& 1 = 0) = (bt x i = false) := by
  rw [z_bit x hi]; cases bt x i <;> decide
theorem z_bit1 (x : Int32) {i : Nat} (hi : i < 32) : ((x >>> (nI i &&& 31)) &&& 1 = 1) = (bt x i = true) := by
  rw [z_bit x hi]; cases bt x i <;> decide
theorem z_or0 (x : Int32) : x ||| 0 = x := b_ext fun i _ => by rw [b_or, b_0, Bool.or_false]
theorem z_0or (x : Int32) : 0 ||| x = x := b_ext fun i _ => by rw [b_or, b_0, Bool.false_or]
theorem z_and0 (x y : Int32) : x &&& y = 0 ↔ ∀ i, i < 32 → ¬ (bt x i = true ∧ bt y i = true) := by
  constructor
  · intro h i _ hh
    have := b_and x y i
    rw [h, b_0, hh.1, hh.2] at this
    cases this
  · intro h
    apply b_ext
    intro i hi
    rw [b_and, b_0]
    have := h i hi
    cases h1 : bt x i <;> cases h2 : bt y i <;> simp_all
theorem z_zero {x : Int32} : x = 0 ↔ ∀ i, i < 32 → bt x i = false := ⟨fun h i _ => by rw [h, b_0], fun h => b_ext fun i hi => by rw [h i hi, b_0]⟩
/-! binds of an answer; not by 'rfl' alone, so that simp keeps steps for the kernel -/
theorem zs_b {α κ : Type} (x : α) (f : α → Option κ) : (some x).bind f = f x := id rfl
theorem zs_1 {α κ : Type} (x : α) (f : α → Option κ) : bd1 (some x) f = f x := id rfl
theorem zs_2 {α β κ : Type} (x : α) (y : β) (f : α → β → Option κ) : bd2 (some (x, y)) f = f x y := id rfl
theorem zs_3 {α β γ κ : Type} (x : α) (y : β) (z : γ) (f : α → β → γ → Option κ) : bd3 (some (x, y, z)) f = f x y z := id rfl
theorem zs_4 {α β γ δ κ : Type} (x : α) (y : β) (z : γ) (u : δ) (f : α → β → γ → δ → Option κ) : bd4 (some (x, y, z, u)) f = f x y z u := id rfl
theorem zs_5 {α β γ δ ε κ : Type} (x : α) (y : β) (z : γ) (u : δ) (v : ε) (f : α → β → γ → δ → ε → Option κ) : bd5 (some (x, y, z, u, v)) f = f x y z u v := id rfl
theorem zs_6 {α β γ δ ε ζ κ : Type} (x : α) (y : β) (z : γ) (u : δ) (v : ε) (w : ζ) (f : α → β → γ → δ → ε → ζ → Option κ) : bd6 (some (x, y, z, u, v, w)) f = f x y z u v w := id rfl
theorem zs_0l {ρ κ : Type} (f : Unit → Option κ) (g : ρ → Option κ) : bs0 (some (.inl ())) f g = f () := id rfl
theorem zs_0r {ρ κ : Type} (t : ρ) (f : Unit → Option κ) (g : ρ → Option κ) : bs0 (some (.inr t)) f g = g t := id rfl
theorem zs_1l {α ρ κ : Type} (x : α) (f : α → Option κ) (g : ρ → Option κ) : bs1 (some (.inl x)) f g = f x := id rfl
theorem zs_1r {α ρ κ : Type} (t : ρ) (f : α → Option κ) (g : ρ → Option κ) : bs1 (some (.inr t)) f g = g t := id rfl
theorem zs_2l {α β ρ κ : Type} (x : α) (y : β) (f : α → β → Option κ) (g : ρ → Option κ) : bs2 (some (.inl (x, y))) f g = f x y := id rfl
theorem zs_2r {α β ρ κ : Type} (t : ρ) (f : α → β → Option κ) (g : ρ → Option κ) : bs2 (some (.inr t)) f g = g t := id rfl
/-! small things of Int32 -/
theorem z_im {a d : Nat} (ha : a < 2 ^ 31) (h0 : 0 < d) (hd : d < 2 ^ 31) : im (nI a) (nI d) = nI (a % d) := pk_rem ha h0 hd
theorem z_clamp {n : Nat} (h : n < 2 ^ 31) : (nI n).toNatClampNeg = n := nI_clamp h
theorem z_rd {n i : Nat} {f : Nat → Int32} (h : i < n) (hn : n < 2 ^ 31) : rd n f (nI i) = some (f i) := by
  unfold rd
  rw [if_neg (nI_in h hn), nI_clamp (by omega)]
theorem z_wr {n i : Nat} {T : OS} {r : Nat} {x : Int32} (h : i < n) (hn : n < 2 ^ 31) : wr n T r (nI i) x = some (upr T r (upd (T r) i x)) := by
  unfold wr
  rw [if_neg (nI_in h hn), nI_clamp (by omega)]
theorem z_m1lt : (-1 : Int32) < 0 := by decide +kernel
theorem z_nm1 {n : Nat} (h : n < 2 ^ 31) : nI n ≠ -1 := by
  intro e
  have := nI_pos h
  rw [e] at this
  exact this z_m1lt
theorem z_zz0 : zz 0 = some 0 := by decide +kernel
theorem z_zz1 : zz 1 = some 1 := by decide +kernel
/-- what is not below 0 and below n -/
theorem z_ix (x : Int32) {n : Nat} (hn : n < 2 ^ 31) : (¬ x < 0 ∧ ¬ nI n ≤ x) → ∃ j, j < n ∧ x = nI j := by
  intro h
  rcases pk_ix x hn with h1 | h1 | h1
  · exact absurd h1 h.1
  · exact absurd h1 h.2
  · exact h1
/-! folds -/
def zfo {α : Type} (g : α → Nat → α) (a : α) : Nat → α
  | 0 => a
  | n + 1 => g (zfo g a n) n
theorem zfo_cong {α : Type} {g g' : α → Nat → α} {a : α} : ∀ {n : Nat}, (∀ i, i < n → ∀ b, g b i = g' b i) → zfo g a n = zfo g' a n
  | 0, _ => rfl
  | n + 1, h => by
    show g (zfo g a n) n = g' (zfo g' a n) n
    rw [zfo_cong (fun i hi b => h i (by omega) b), h n (by omega)]
theorem zfo_ext {α : Type} {g : α → Nat → α} {a : α} {n : Nat} : ∀ {m : Nat}, n ≤ m → (∀ i, n ≤ i → i < m → ∀ b, g b i = b) → zfo g a m = zfo g a n
  | 0, h, _ => by rw [Nat.le_zero.mp h]
  | m + 1, h, hg => by
    by_cases e : n = m + 1
    · rw [e]
    · show g (zfo g a m) m = _
      rw [hg m (by omega) (by omega), zfo_ext (by omega) (fun i h1 h2 b => hg i h1 (by omega) b)]
/-! loops that count up from 0: the counter is the last -/
section LOOPS
variable {α β δ ε ρ : Type}
theorem zi1_go {F : Int32 → Option (Int32 ⊕ ρ)} {N : Nat} {I : Nat → Prop} {R : ρ → Prop}
    (hs : ∀ i, i < N → I i → (F (nI i) = some (.inl (nI i + 1)) ∧ I (i + 1)) ∨ ∃ r, F (nI i) = some (.inr r) ∧ R r)
    (he : I N → ∃ r, F (nI N) = some (.inr r) ∧ R r) : ∀ (k f i : Nat), i + k = N → k < f → I i → ∃ r, it1 F f (nI i) = some r ∧ R r := by
  intro k
  induction k with
  | zero =>
    intro f i hi hf h
    obtain ⟨f, rfl⟩ : ∃ g, f = g + 1 := ⟨f - 1, by omega⟩
    obtain ⟨r, h1, h2⟩ := he (by rw [← hi]; exact h)
    refine ⟨r, ?_, h2⟩
    rw [Nat.add_zero] at hi
    unfold it1
    rw [hi, h1]
  | succ k ih =>
    intro f i hi hf h
    obtain ⟨f, rfl⟩ : ∃ g, f = g + 1 := ⟨f - 1, by omega⟩
    rcases hs i (by omega) h with ⟨h1, h2⟩ | ⟨r, h1, h2⟩
    · obtain ⟨r, h3, h4⟩ := ih f (i + 1) (by omega) (by omega) h2
      refine ⟨r, ?_, h4⟩
      unfold it1
      rw [h1]
      show it1 F f (nI i + 1) = _
      rw [nI_1]; exact h3
    · refine ⟨r, ?_, h2⟩
      unfold it1
      rw [h1]
theorem zi1 {F : Int32 → Option (Int32 ⊕ ρ)} (N : Nat) (I : Nat → Prop) (R : ρ → Prop) (hN : N < 200) (h0 : I 0)
    (hs : ∀ i, i < N → I i → (F (nI i) = some (.inl (nI i + 1)) ∧ I (i + 1)) ∨ ∃ r, F (nI i) = some (.inr r) ∧ R r)
    (he : I N → ∃ r, F (nI N) = some (.inr r) ∧ R r) : ∃ r, it1 F 200 0 = some r ∧ R r := zi1_go hs he N 200 0 (by omega) (by omega) h0
theorem zi2_go {F : α → Int32 → Option ((α × Int32) ⊕ ρ)} {N : Nat} {I : Nat → α → Prop} {R : ρ → Prop}
    (hs : ∀ i a, i < N → I i a → (∃ a', F a (nI i) = some (.inl (a', nI i + 1)) ∧ I (i + 1) a') ∨ ∃ r, F a (nI i) = some (.inr r) ∧ R r)
    (he : ∀ a, I N a → ∃ r, F a (nI N) = some (.inr r) ∧ R r) : ∀ (k f i : Nat) (a : α), i + k = N → k < f → I i a → ∃ r, it2 F f a (nI i) = some r ∧ R r := by
  intro k
  induction k with
  | zero =>
    intro f i a hi hf h
    obtain ⟨f, rfl⟩ : ∃ g, f = g + 1 := ⟨f - 1, by omega⟩
    obtain ⟨r, h1, h2⟩ := he a (by rw [← hi]; exact h)
    refine ⟨r, ?_, h2⟩
    rw [Nat.add_zero] at hi
    unfold it2
    rw [hi, h1]
  | succ k ih =>
    intro f i a hi hf h
    obtain ⟨f, rfl⟩ : ∃ g, f = g + 1 := ⟨f - 1, by omega⟩
    rcases hs i a (by omega) h with ⟨a', h1, h2⟩ | ⟨r, h1, h2⟩
    · obtain ⟨r, h3, h4⟩ := ih f (i + 1) a' (by omega) (by omega) h2
      refine ⟨r, ?_, h4⟩
      unfold it2
      rw [h1]
      show it2 F f a' (nI i + 1) = _
      rw [nI_1]; exact h3
    · refine ⟨r, ?_, h2⟩
      unfold it2
      rw [h1]
theorem zi2 {F : α → Int32 → Option ((α × Int32) ⊕ ρ)} {a0 : α} (N : Nat) (I : Nat → α → Prop) (R : ρ → Prop) (hN : N < 200) (h0 : I 0 a0)
    (hs : ∀ i a, i < N → I i a → (∃ a', F a (nI i) = some (.inl (a', nI i + 1)) ∧ I (i + 1) a') ∨ ∃ r, F a (nI i) = some (.inr r) ∧ R r)
    (he : ∀ a, I N a → ∃ r, F a (nI N) = some (.inr r) ∧ R r) : ∃ r, it2 F 200 a0 0 = some r ∧ R r := zi2_go hs he N 200 0 a0 (by omega) (by omega) h0
theorem zi3_go {F : α → β → Int32 → Option ((α × β × Int32) ⊕ ρ)} {N : Nat} {I : Nat → α → β → Prop} {R : ρ → Prop}
    (hs : ∀ i a b, i < N → I i a b → (∃ a' b', F a b (nI i) = some (.inl (a', b', nI i + 1)) ∧ I (i + 1) a' b') ∨ ∃ r, F a b (nI i) = some (.inr r) ∧ R r)
    (he : ∀ a b, I N a b → ∃ r, F a b (nI N) = some (.inr r) ∧ R r) : ∀ (k f i : Nat) (a : α) (b : β), i + k = N → k < f → I i a b → ∃ r, it3 F f a b (nI i) = some r ∧ R r := by
  intro k
  induction k with
  | zero =>
    intro f i a b hi hf h
    obtain ⟨f, rfl⟩ : ∃ g, f = g + 1 := ⟨f - 1, by omega⟩
    obtain ⟨r, h1, h2⟩ := he a b (by rw [← hi]; exact h)
    refine ⟨r, ?_, h2⟩
    rw [Nat.add_zero] at hi
    unfold it3
    rw [hi, h1]
  | succ k ih =>
    intro f i a b hi hf h
    obtain ⟨f, rfl⟩ : ∃ g, f = g + 1 := ⟨f - 1, by omega⟩
    rcases hs i a b (by omega) h with ⟨a', b', h1, h2⟩ | ⟨r, h1, h2⟩
    · obtain ⟨r, h3, h4⟩ := ih f (i + 1) a' b' (by omega) (by omega) h2
      refine ⟨r, ?_, h4⟩
      unfold it3
      rw [h1]
      show it3 F f a' b' (nI i + 1) = _
      rw [nI_1]; exact h3
    · refine ⟨r, ?_, h2⟩
      unfold it3
      rw [h1]
theorem zi3 {F : α → β → Int32 → Option ((α × β × Int32) ⊕ ρ)} {a0 : α} {b0 : β} (N : Nat) (I : Nat → α → β → Prop) (R : ρ → Prop) (hN : N < 200) (h0 : I 0 a0 b0)
    (hs : ∀ i a b, i < N → I i a b → (∃ a' b', F a b (nI i) = some (.inl (a', b', nI i + 1)) ∧ I (i + 1) a' b') ∨ ∃ r, F a b (nI i) = some (.inr r) ∧ R r)
    (he : ∀ a b, I N a b → ∃ r, F a b (nI N) = some (.inr r) ∧ R r) : ∃ r, it3 F 200 a0 b0 0 = some r ∧ R r := zi3_go hs he N 200 0 a0 b0 (by omega) (by omega) h0
theorem zi4_go {F : α → β → δ → Int32 → Option ((α × β × δ × Int32) ⊕ ρ)} {N : Nat} {I : Nat → α → β → δ → Prop} {R : ρ → Prop}
    (hs : ∀ i a b d, i < N → I i a b d → (∃ a' b' d', F a b d (nI i) = some (.inl (a', b', d', nI i + 1)) ∧ I (i + 1) a' b' d') ∨ ∃ r, F a b d (nI i) = some (.inr r) ∧ R r)
    (he : ∀ a b d, I N a b d → ∃ r, F a b d (nI N) = some (.inr r) ∧ R r) : ∀ (k f i : Nat) (a : α) (b : β) (d : δ), i + k = N → k < f → I i a b d → ∃ r, it4 F f a b d (nI i) = some r ∧ R r := by
  intro k
  induction k with
  | zero =>
    intro f i a b d hi hf h
    obtain ⟨f, rfl⟩ : ∃ g, f = g + 1 := ⟨f - 1, by omega⟩
    obtain ⟨r, h1, h2⟩ := he a b d (by rw [← hi]; exact h)
    refine ⟨r, ?_, h2⟩
    rw [Nat.add_zero] at hi
    unfold it4
    rw [hi, h1]
  | succ k ih =>
    intro f i a b d hi hf h
    obtain ⟨f, rfl⟩ : ∃ g, f = g + 1 := ⟨f - 1, by omega⟩
    rcases hs i a b d (by omega) h with ⟨a', b', d', h1, h2⟩ | ⟨r, h1, h2⟩
    · obtain ⟨r, h3, h4⟩ := ih f (i + 1) a' b' d' (by omega) (by omega) h2
      refine ⟨r, ?_, h4⟩
      unfold it4
      rw [h1]
      show it4 F f a' b' d' (nI i + 1) = _
      rw [nI_1]; exact h3
    · refine ⟨r, ?_, h2⟩
      unfold it4
      rw [h1]
theorem zi4 {F : α → β → δ → Int32 → Option ((α × β × δ × Int32) ⊕ ρ)} {a0 : α} {b0 : β} {d0 : δ} (N : Nat) (I : Nat → α → β → δ → Prop) (R : ρ → Prop) (hN : N < 200) (h0 : I 0 a0 b0 d0)
    (hs : ∀ i a b d, i < N → I i a b d → (∃ a' b' d', F a b d (nI i) = some (.inl (a', b', d', nI i + 1)) ∧ I (i + 1) a' b' d') ∨ ∃ r, F a b d (nI i) = some (.inr r) ∧ R r)
    (he : ∀ a b d, I N a b d → ∃ r, F a b d (nI N) = some (.inr r) ∧ R r) : ∃ r, it4 F 200 a0 b0 d0 0 = some r ∧ R r := zi4_go hs he N 200 0 a0 b0 d0 (by omega) (by omega) h0
theorem zi5_go {F : α → β → δ → ε → Int32 → Option ((α × β × δ × ε × Int32) ⊕ ρ)} {N : Nat} {I : Nat → α → β → δ → ε → Prop} {R : ρ → Prop}
    (hs : ∀ i a b d e, i < N → I i a b d e → (∃ a' b' d' e', F a b d e (nI i) = some (.inl (a', b', d', e', nI i + 1)) ∧ I (i + 1) a' b' d' e') ∨ ∃ r, F a b d e (nI i) = some (.inr r) ∧ R r)
    (he : ∀ a b d e, I N a b d e → ∃ r, F a b d e (nI N) = some (.inr r) ∧ R r) : ∀ (k f i : Nat) (a : α) (b : β) (d : δ) (e : ε), i + k = N → k < f → I i a b d e → ∃ r, it5 F f a b d e (nI i) = some r ∧ R r := by
  intro k
  induction k with
  | zero =>
    intro f i a b d e hi hf h
    obtain ⟨f, rfl⟩ : ∃ g, f = g + 1 := ⟨f - 1, by omega⟩
    obtain ⟨r, h1, h2⟩ := he a b d e (by rw [← hi]; exact h)
    refine ⟨r, ?_, h2⟩
    rw [Nat.add_zero] at hi
    unfold it5
    rw [hi, h1]
  | succ k ih =>
    intro f i a b d e hi hf h
    obtain ⟨f, rfl⟩ : ∃ g, f = g + 1 := ⟨f - 1, by omega⟩
    rcases hs i a b d e (by omega) h with ⟨a', b', d', e', h1, h2⟩ | ⟨r, h1, h2⟩
    · obtain ⟨r, h3, h4⟩ := ih f (i + 1) a' b' d' e' (by omega) (by omega) h2
      refine ⟨r, ?_, h4⟩
      unfold it5
      rw [h1]
      show it5 F f a' b' d' e' (nI i + 1) = _
      rw [nI_1]; exact h3
    · refine ⟨r, ?_, h2⟩
      unfold it5
      rw [h1]
theorem zi5 {F : α → β → δ → ε → Int32 → Option ((α × β × δ × ε × Int32) ⊕ ρ)} {a0 : α} {b0 : β} {d0 : δ} {e0 : ε} (N : Nat) (I : Nat → α → β → δ → ε → Prop) (R : ρ → Prop) (hN : N < 200) (h0 : I 0 a0 b0 d0 e0)
    (hs : ∀ i a b d e, i < N → I i a b d e → (∃ a' b' d' e', F a b d e (nI i) = some (.inl (a', b', d', e', nI i + 1)) ∧ I (i + 1) a' b' d' e') ∨ ∃ r, F a b d e (nI i) = some (.inr r) ∧ R r)
    (he : ∀ a b d e, I N a b d e → ∃ r, F a b d e (nI N) = some (.inr r) ∧ R r) : ∃ r, it5 F 200 a0 b0 d0 e0 0 = some r ∧ R r := zi5_go hs he N 200 0 a0 b0 d0 e0 (by omega) (by omega) h0
theorem zi1k {F : Int32 → Option ((Int32) ⊕ ρ)}  (N : Nat) (I : Nat → Prop) (R : ρ → Prop) (hN : N < 200) {G : Prop} (k : ∀ r, it1 F 200  0 = some r → R r → G) (h0 : I 0 )
    (hs : ∀ i, i < N → I i → (F (nI i) = some (.inl (nI i + 1)) ∧ I (i + 1)) ∨ ∃ r, F (nI i) = some (.inr r) ∧ R r)
    (he : I N → ∃ r, F (nI N) = some (.inr r) ∧ R r) : G := by
  obtain ⟨r, h1, h2⟩ := zi1 (F := F)  N I R hN h0 hs he
  exact k r h1 h2
theorem zi2k {F : α → Int32 → Option ((α × Int32) ⊕ ρ)} {a0 : α} (N : Nat) (I : Nat → α → Prop) (R : ρ → Prop) (hN : N < 200) {G : Prop} (k : ∀ r, it2 F 200 a0 0 = some r → R r → G) (h0 : I 0 a0)
    (hs : ∀ i a, i < N → I i a → (∃ a', F a (nI i) = some (.inl (a', nI i + 1)) ∧ I (i + 1) a') ∨ ∃ r, F a (nI i) = some (.inr r) ∧ R r)
    (he : ∀ a, I N a → ∃ r, F a (nI N) = some (.inr r) ∧ R r) : G := by
  obtain ⟨r, h1, h2⟩ := zi2 (F := F) (a0 := a0) N I R hN h0 hs he
  exact k r h1 h2
theorem zi3k {F : α → β → Int32 → Option ((α × β × Int32) ⊕ ρ)} {a0 : α} {b0 : β} (N : Nat) (I : Nat → α → β → Prop) (R : ρ → Prop) (hN : N < 200) {G : Prop} (k : ∀ r, it3 F 200 a0 b0 0 = some r → R r → G) (h0 : I 0 a0 b0)
    (hs : ∀ i a b, i < N → I i a b → (∃ a' b', F a b (nI i) = some (.inl (a', b', nI i + 1)) ∧ I (i + 1) a' b') ∨ ∃ r, F a b (nI i) = some (.inr r) ∧ R r)
    (he : ∀ a b, I N a b → ∃ r, F a b (nI N) = some (.inr r) ∧ R r) : G := by
  obtain ⟨r, h1, h2⟩ := zi3 (F := F) (a0 := a0) (b0 := b0) N I R hN h0 hs he
  exact k r h1 h2
theorem zi4k {F : α → β → δ → Int32 → Option ((α × β × δ × Int32) ⊕ ρ)} {a0 : α} {b0 : β} {d0 : δ} (N : Nat) (I : Nat → α → β → δ → Prop) (R : ρ → Prop) (hN : N < 200) {G : Prop} (k : ∀ r, it4 F 200 a0 b0 d0 0 = some r → R r → G) (h0 : I 0 a0 b0 d0)
    (hs : ∀ i a b d, i < N → I i a b d → (∃ a' b' d', F a b d (nI i) = some (.inl (a', b', d', nI i + 1)) ∧ I (i + 1) a' b' d') ∨ ∃ r, F a b d (nI i) = some (.inr r) ∧ R r)
    (he : ∀ a b d, I N a b d → ∃ r, F a b d (nI N) = some (.inr r) ∧ R r) : G := by
  obtain ⟨r, h1, h2⟩ := zi4 (F := F) (a0 := a0) (b0 := b0) (d0 := d0) N I R hN h0 hs he
  exact k r h1 h2
theorem zi5k {F : α → β → δ → ε → Int32 → Option ((α × β × δ × ε × Int32) ⊕ ρ)} {a0 : α} {b0 : β} {d0 : δ} {e0 : ε} (N : Nat) (I : Nat → α → β → δ → ε → Prop) (R : ρ → Prop) (hN : N < 200) {G : Prop} (k : ∀ r, it5 F 200 a0 b0 d0 e0 0 = some r → R r → G) (h0 : I 0 a0 b0 d0 e0)
    (hs : ∀ i a b d e, i < N → I i a b d e → (∃ a' b' d' e', F a b d e (nI i) = some (.inl (a', b', d', e', nI i + 1)) ∧ I (i + 1) a' b' d' e') ∨ ∃ r, F a b d e (nI i) = some (.inr r) ∧ R r)
    (he : ∀ a b d e, I N a b d e → ∃ r, F a b d e (nI N) = some (.inr r) ∧ R r) : G := by
  obtain ⟨r, h1, h2⟩ := zi5 (F := F) (a0 := a0) (b0 := b0) (d0 := d0) (e0 := e0) N I R hN h0 hs he
  exact k r h1 h2
/-- a loop that only folds -/
theorem zf2 {F : α → Int32 → Option ((α × Int32) ⊕ α)} {a0 : α} (N : Nat) (g : α → Nat → α) (hN : N < 200)
    (hs : ∀ i, i < N → ∀ a, F a (nI i) = some (.inl (g a i, nI i + 1))) (he : ∀ a, F a (nI N) = some (.inr a)) : it2 F 200 a0 0 = some (zfo g a0 N) := by
  obtain ⟨r, h1, h2⟩ := zi2 (F := F) (a0 := a0) N (fun i a => a = zfo g a0 i) (fun r => r = zfo g a0 N) hN rfl (fun i a hi h => Or.inl ⟨g a i, hs i hi a, by rw [h]; rfl⟩) (fun a h => ⟨a, he a, h⟩)
  rw [h1, h2]
/-- the first index below n -/
def zfi (p : Nat → Bool) : Nat → Option Nat
  | 0 => none
  | n + 1 => match zfi p n with
    | some i => some i
    | none => if p n then some n else none
theorem zfi_lt {p : Nat → Bool} : ∀ {n i : Nat}, zfi p n = some i → i < n ∧ p i = true ∧ ∀ j, j < i → p j = false
  | n + 1, i, h => by
    unfold zfi at h
    split at h
    · next i' h1 =>
      cases h
      obtain ⟨h2, h3, h4⟩ := zfi_lt h1
      exact ⟨by omega, h3, h4⟩
    · next h1 =>
      split at h
      · next h2 => cases h; exact ⟨by omega, h2, fun j hj => zfi_none h1 j hj⟩
      · cases h
  where zfi_none {p : Nat → Bool} : ∀ {n : Nat}, zfi p n = none → ∀ j, j < n → p j = false
  | n + 1, h, j, hj => by
    unfold zfi at h
    split at h
    · cases h
    · next h1 =>
      split at h
      · cases h
      · next h2 =>
        by_cases e : j = n
        · rw [e]; exact Bool.eq_false_iff.mpr h2
        · exact zfi_none h1 j (by omega)
/-- a loop that looks for the first -/
theorem zf1 {F : Int32 → Option (Int32 ⊕ (Unit ⊕ ρ))} (N : Nat) (p : Nat → Bool) (v : Nat → ρ) (hN : N < 200)
    (hs : ∀ i, i < N → F (nI i) = if p i then some (.inr (.inr (v i))) else some (.inl (nI i + 1))) (he : Unit → F (nI N) = some (.inr (.inl ()))) :
    it1 F 200 0 = some (match zfi p N with | some i => .inr (v i) | none => .inl ()) := by
  refine zi1k (F := F) N (fun i => zfi p i = none) (fun r => r = (match zfi p N with | some i => .inr (v i) | none => .inl ())) hN (fun r h1 h2 => ?_) rfl (fun i hi h => ?_) (fun h => ⟨_, he (), by rw [h]⟩)
  · rw [h1, h2]
  · by_cases hp : p i = true
    · right
      refine ⟨.inr (v i), by rw [hs i hi, if_pos hp], ?_⟩
      have hk : ∀ k, i + 1 + k ≤ N → zfi p (i + 1 + k) = some i := by
        intro k
        induction k with
        | zero => intro _; show (match zfi p i with | some i => some i | none => if p i then some i else none) = _; rw [h]; exact if_pos hp
        | succ k ih => intro hk; show (match zfi p (i + 1 + k) with | some i => some i | none => _) = _; rw [ih (by omega)]
      have := hk (N - (i + 1)) (by omega)
      rw [show i + 1 + (N - (i + 1)) = N by omega] at this
      rw [this]
    · left
      refine ⟨by rw [hs i hi, if_neg hp], ?_⟩
      show (match zfi p i with | some i => some i | none => if p i then some i else none) = _
      rw [h]; exact if_neg hp
end LOOPS
