/-! THE ONE WORLD: the class's cells, the reference's and the law's row, at addresses 'ad'; what they hold is a tuple of functions -/
abbrev OS : Type := Nat → Nat → Int32
abbrev GS : Type := OS × OS × OS × OS × (Nat → OS) × OS × OS × (Nat → Int64)
abbrev GA : Type := va_G × ClassId × ClassId × ClassId × ClassId × ClassId × (Nat → Nat) × (Nat → Nat)
abbrev gI (γ : GA) : ClassId := γ.2.1
abbrev gZ (γ : GA) : ClassId := γ.2.2.1
abbrev gT (γ : GA) : ClassId := γ.2.2.2.1
abbrev gL (γ : GA) : ClassId := γ.2.2.2.2.1
abbrev gBy (γ : GA) : ClassId := γ.2.2.2.2.2.1
abbrev ad (γ : GA) : Nat → Nat := γ.2.2.2.2.2.2.1
abbrev sa (γ : GA) : Nat → Nat := γ.2.2.2.2.2.2.2
abbrev gty (γ : GA) : List (ClassId × FieldType) := [(gI γ, .int), (gZ γ, .boolean), (gT γ, .object "TimetableBuilder$Table"), (gL γ, .long), (gBy γ, .byte)]
def upr (T : OS) (r : Nat) (f : Nat → Int32) : OS := fun k => if k = r then f else T k
abbrev us (T : OS) (r : Nat) (v : Int32) : OS := upr T r (fun _ => v)
theorem upr_s (T : OS) (r : Nat) (f : Nat → Int32) : upr T r f r = f := if_pos rfl
theorem us_s (T : OS) (r : Nat) (v : Int32) : us T r v r = fun _ => v := if_pos rfl
theorem us_n (T : OS) (r : Nat) (v : Int32) {k : Nat} (h : k ≠ r) : us T r v k = T k := if_neg h
theorem upr_n (T : OS) (r : Nat) (f : Nat → Int32) {k : Nat} (h : k ≠ r) : upr T r f k = T k := if_neg h
/-- an index that may be wrong: no answer -/
def rd (n : Nat) (f : Nat → Int32) (i : Int32) : Option Int32 := if i < 0 ∨ n ≤ i.toNatClampNeg then none else some (f i.toNatClampNeg)
def wr (n : Nat) (T : OS) (r : Nat) (i x : Int32) : Option OS := if i < 0 ∨ n ≤ i.toNatClampNeg then none else some (upr T r (upd (T r) i.toNatClampNeg x))
/-- a truth value: 0 or 1 -/
def zz (x : Int32) : Option Int32 := if x = 0 ∨ x = 1 then some x else none
theorem rd_in {n : Nat} {f : Nat → Int32} {i v : Int32} (h : rd n f i = some v) : vp_in i n ∧ f i.toNatClampNeg = v := by
  unfold rd at h
  split at h
  · cases h
  · next hn => cases h; exact ⟨hn, rfl⟩
theorem wr_in {n : Nat} {T T' : OS} {r : Nat} {i x : Int32} (h : wr n T r i x = some T') : vp_in i n ∧ T' = upr T r (upd (T r) i.toNatClampNeg x) := by
  unfold wr at h
  split at h
  · cases h
  · next hn => cases h; exact ⟨hn, rfl⟩
theorem zz_in {x v : Int32} (h : zz x = some v) : v = x ∧ narrow .boolean (.int x) = .int x := by
  unfold zz at h
  split at h
  · next hn => cases h; exact ⟨rfl, by rcases hn with rfl | rfl <;> rfl⟩
  · cases h
theorem ob {α β : Type} {o : Option α} {f : α → Option β} {r : β} (h : o.bind f = some r) : ∃ x, o = some x ∧ f x = some r := Option.bind_eq_some_iff.mp h
def lenT (r : Nat) : Nat := if r < 4 then 6 else if r = 4 then 3 else 14
/-- a table at the cells from b on: the object, then its thirteen rows -/
def tcell (γ : GA) (b : Nat) (T : OS) : Nat → va_E
  | 0 => .inr (4, [.ref (ad γ (b + 1)), .ref (ad γ (b + 2)), .ref (ad γ (b + 3)), .ref (ad γ (b + 4)), .ref (ad γ (b + 5)), .ref (ad γ (b + 6)), .ref (ad γ (b + 7)), .ref (ad γ (b + 8)), .ref (ad γ (b + 9)), .ref (ad γ (b + 10)), .ref (ad γ (b + 11)), .ref (ad γ (b + 12)), .ref (ad γ (b + 13)), .int (T 13 0)])
  | r + 1 => .inl (if r = 12 then gZ γ else gI γ, lenT r, .inl (T r))
def pcell (γ : GA) (P : OS) : Nat → va_E
  | 0 => .inr (3, [.ref (ad γ 1), .ref (ad γ 16), .ref (ad γ 17), .ref (ad γ 18), .int (P 4 0)])
  | r + 1 => .inl (gI γ, 14, .inl (P (r + 1)))
def hcell (γ : GA) (Y : OS) : Nat → va_E
  | 0 => .inr (2, [.ref (ad γ 20), .int (Y 1 0), .int (Y 2 0)])
  | _ + 1 => .inl (gT γ, 7, .inr (.inr (.inr (.inr (fun j => some (ad γ (31 + 14 * j)))))))
def xcell (γ : GA) (X : OS) : Nat → va_E
  | 0 => .inr (1, [.ref (ad γ 22), .int (X 1 0), .int (X 2 0), .int (X 3 0), .int (X 4 0), .int (X 5 0), .int (X 6 0), .int (X 7 0)])
  | _ + 1 => .inl (gI γ, 40, .inl (X 0))
/-- the reference's rows: the field and the length of the k-th -/
def mrow : Nat → Nat
  | 0 => 1 | 1 => 4 | 2 => 12 | 3 => 14 | 4 => 15 | _ => 16
def mlen : Nat → Nat
  | 0 => 1008 | 1 => 40 | 2 => 24 | _ => 14
def mcell (γ : GA) (M : OS) : Nat → va_E
  | 0 => .inr (6, [.int (M 0 0), .ref (ad γ 24), .int (M 2 0), .int (M 3 0), .ref (ad γ 25), .int (M 5 0), .int (M 6 0), .int (M 7 0), .int (M 8 0), .int (M 9 0), .int (M 10 0), .int (M 11 0), .ref (ad γ 26), .int (M 13 0), .ref (ad γ 27), .ref (ad γ 28), .ref (ad γ 29)])
  | r + 1 => .inl (gI γ, mlen r, .inl (M (mrow r)))
def gcell (γ : GA) : GS → Nat → va_E
  | (T, P, X, Y, E, B, M, O), k =>
    if k < 1 then .inr (5, [.ref (ad γ 1), .ref (ad γ 129), .ref (ad γ 15), .ref (ad γ 19), .ref (ad γ 21), .int (B 5 0)])
    else if k < 15 then tcell γ 1 T (k - 1)
    else if k < 19 then pcell γ P (k - 15)
    else if k < 21 then hcell γ Y (k - 19)
    else if k < 23 then xcell γ X (k - 21)
    else if k < 30 then mcell γ M (k - 23)
    else if k < 31 then .inl (gL γ, 1, .inr (.inl O))
    else tcell γ (31 + 14 * ((k - 31) / 14)) (E ((k - 31) / 14)) ((k - 31) % 14)
def gw (γ : GA) (σ : GS) : va_W := (List.range 143).map (fun k => (ad γ k, gcell γ σ k))
theorem gw_at {γ : GA} {σ : GS} {k : Nat} (hk : k < 143) : (gw γ σ)[k]? = some (ad γ k, gcell γ σ k) := by simp [gw, hk]
theorem gw_set {γ : GA} {σ σ' : GS} {k : Nat} {e : va_E} (h : ∀ j, j < 143 → gcell γ σ' j = if j = k then e else gcell γ σ j) : (gw γ σ).set k (ad γ k, e) = gw γ σ' := by
  apply List.ext_getElem?
  intro j
  rw [List.getElem?_set]
  by_cases hj : j < 143
  · have hh := h j hj
    by_cases hjk : k = j
    · subst hjk
      rw [if_pos rfl] at hh
      simp only [if_true]
      rw [if_pos (show k < (gw γ σ).length by simp [gw]; exact hj), gw_at hj, hh]
    · rw [if_neg (fun z => hjk z.symm)] at hh
      rw [if_neg hjk, gw_at hj, gw_at hj, hh]
  · have h1 : (gw γ σ)[j]? = none := by simp [gw]; omega
    have h2 : (gw γ σ')[j]? = none := by simp [gw]; omega
    by_cases hjk : k = j
    · subst hjk
      rw [if_pos rfl, if_neg (show ¬ k < (gw γ σ).length by simp [gw]; omega), h2]
    · rw [if_neg hjk, h1, h2]
section GW
variable {γ : GA} {T P X Y B M : OS} {E : Nat → OS} {O : Nat → Int64}
theorem gc_B {j : Nat} (h : 0 ≤ j) (h2 : j < 1) : gcell γ (T, P, X, Y, E, B, M, O) j = .inr (5, [.ref (ad γ 1), .ref (ad γ 129), .ref (ad γ 15), .ref (ad γ 19), .ref (ad γ 21), .int (B 5 0)]) := by simp only [gcell]; rw [if_pos (show j < 1 by omega)]
theorem gf_B (Z : OS) {j : Nat} (h : j < 0 ∨ 1 ≤ j) : gcell γ (T, P, X, Y, E, Z, M, O) j = gcell γ (T, P, X, Y, E, B, M, O) j := by
  simp only [gcell]
  by_cases q1 : j < 1
  · rw [if_pos q1, if_pos q1] <;> exfalso <;> omega
  rw [if_neg q1, if_neg q1]
theorem gc_T {j : Nat} (h : 1 ≤ j) (h2 : j < 15) : gcell γ (T, P, X, Y, E, B, M, O) j = tcell γ 1 T (j - 1) := by simp only [gcell]; rw [if_neg (show ¬ j < 1 by omega), if_pos (show j < 15 by omega)]
theorem gf_T (Z : OS) {j : Nat} (h : j < 1 ∨ 15 ≤ j) : gcell γ (Z, P, X, Y, E, B, M, O) j = gcell γ (T, P, X, Y, E, B, M, O) j := by
  simp only [gcell]
  by_cases q1 : j < 1
  · rw [if_pos q1, if_pos q1]
  rw [if_neg q1, if_neg q1]
  by_cases q15 : j < 15
  · rw [if_pos q15, if_pos q15] <;> exfalso <;> omega
  rw [if_neg q15, if_neg q15]
theorem gc_P {j : Nat} (h : 15 ≤ j) (h2 : j < 19) : gcell γ (T, P, X, Y, E, B, M, O) j = pcell γ P (j - 15) := by simp only [gcell]; rw [if_neg (show ¬ j < 1 by omega), if_neg (show ¬ j < 15 by omega), if_pos (show j < 19 by omega)]
theorem gf_P (Z : OS) {j : Nat} (h : j < 15 ∨ 19 ≤ j) : gcell γ (T, Z, X, Y, E, B, M, O) j = gcell γ (T, P, X, Y, E, B, M, O) j := by
  simp only [gcell]
  by_cases q1 : j < 1
  · rw [if_pos q1, if_pos q1]
  rw [if_neg q1, if_neg q1]
  by_cases q15 : j < 15
  · rw [if_pos q15, if_pos q15]
  rw [if_neg q15, if_neg q15]
  by_cases q19 : j < 19
  · rw [if_pos q19, if_pos q19] <;> exfalso <;> omega
  rw [if_neg q19, if_neg q19]
theorem gc_Y {j : Nat} (h : 19 ≤ j) (h2 : j < 21) : gcell γ (T, P, X, Y, E, B, M, O) j = hcell γ Y (j - 19) := by simp only [gcell]; rw [if_neg (show ¬ j < 1 by omega), if_neg (show ¬ j < 15 by omega), if_neg (show ¬ j < 19 by omega), if_pos (show j < 21 by omega)]
theorem gf_Y (Z : OS) {j : Nat} (h : j < 19 ∨ 21 ≤ j) : gcell γ (T, P, X, Z, E, B, M, O) j = gcell γ (T, P, X, Y, E, B, M, O) j := by
  simp only [gcell]
  by_cases q1 : j < 1
  · rw [if_pos q1, if_pos q1]
  rw [if_neg q1, if_neg q1]
  by_cases q15 : j < 15
  · rw [if_pos q15, if_pos q15]
  rw [if_neg q15, if_neg q15]
  by_cases q19 : j < 19
  · rw [if_pos q19, if_pos q19]
  rw [if_neg q19, if_neg q19]
  by_cases q21 : j < 21
  · rw [if_pos q21, if_pos q21] <;> exfalso <;> omega
  rw [if_neg q21, if_neg q21]
theorem gc_X {j : Nat} (h : 21 ≤ j) (h2 : j < 23) : gcell γ (T, P, X, Y, E, B, M, O) j = xcell γ X (j - 21) := by simp only [gcell]; rw [if_neg (show ¬ j < 1 by omega), if_neg (show ¬ j < 15 by omega), if_neg (show ¬ j < 19 by omega), if_neg (show ¬ j < 21 by omega), if_pos (show j < 23 by omega)]
theorem gf_X (Z : OS) {j : Nat} (h : j < 21 ∨ 23 ≤ j) : gcell γ (T, P, Z, Y, E, B, M, O) j = gcell γ (T, P, X, Y, E, B, M, O) j := by
  simp only [gcell]
  by_cases q1 : j < 1
  · rw [if_pos q1, if_pos q1]
  rw [if_neg q1, if_neg q1]
  by_cases q15 : j < 15
  · rw [if_pos q15, if_pos q15]
  rw [if_neg q15, if_neg q15]
  by_cases q19 : j < 19
  · rw [if_pos q19, if_pos q19]
  rw [if_neg q19, if_neg q19]
  by_cases q21 : j < 21
  · rw [if_pos q21, if_pos q21]
  rw [if_neg q21, if_neg q21]
  by_cases q23 : j < 23
  · rw [if_pos q23, if_pos q23] <;> exfalso <;> omega
  rw [if_neg q23, if_neg q23]
theorem gc_M {j : Nat} (h : 23 ≤ j) (h2 : j < 30) : gcell γ (T, P, X, Y, E, B, M, O) j = mcell γ M (j - 23) := by simp only [gcell]; rw [if_neg (show ¬ j < 1 by omega), if_neg (show ¬ j < 15 by omega), if_neg (show ¬ j < 19 by omega), if_neg (show ¬ j < 21 by omega), if_neg (show ¬ j < 23 by omega), if_pos (show j < 30 by omega)]
theorem gf_M (Z : OS) {j : Nat} (h : j < 23 ∨ 30 ≤ j) : gcell γ (T, P, X, Y, E, B, Z, O) j = gcell γ (T, P, X, Y, E, B, M, O) j := by
  simp only [gcell]
  by_cases q1 : j < 1
  · rw [if_pos q1, if_pos q1]
  rw [if_neg q1, if_neg q1]
  by_cases q15 : j < 15
  · rw [if_pos q15, if_pos q15]
  rw [if_neg q15, if_neg q15]
  by_cases q19 : j < 19
  · rw [if_pos q19, if_pos q19]
  rw [if_neg q19, if_neg q19]
  by_cases q21 : j < 21
  · rw [if_pos q21, if_pos q21]
  rw [if_neg q21, if_neg q21]
  by_cases q23 : j < 23
  · rw [if_pos q23, if_pos q23]
  rw [if_neg q23, if_neg q23]
  by_cases q30 : j < 30
  · rw [if_pos q30, if_pos q30] <;> exfalso <;> omega
  rw [if_neg q30, if_neg q30]
theorem gc_O {j : Nat} (h : 30 ≤ j) (h2 : j < 31) : gcell γ (T, P, X, Y, E, B, M, O) j = .inl (gL γ, 1, .inr (.inl O)) := by simp only [gcell]; rw [if_neg (show ¬ j < 1 by omega), if_neg (show ¬ j < 15 by omega), if_neg (show ¬ j < 19 by omega), if_neg (show ¬ j < 21 by omega), if_neg (show ¬ j < 23 by omega), if_neg (show ¬ j < 30 by omega), if_pos (show j < 31 by omega)]
theorem gf_O (Z : Nat → Int64) {j : Nat} (h : j < 30 ∨ 31 ≤ j) : gcell γ (T, P, X, Y, E, B, M, Z) j = gcell γ (T, P, X, Y, E, B, M, O) j := by
  simp only [gcell]
  by_cases q1 : j < 1
  · rw [if_pos q1, if_pos q1]
  rw [if_neg q1, if_neg q1]
  by_cases q15 : j < 15
  · rw [if_pos q15, if_pos q15]
  rw [if_neg q15, if_neg q15]
  by_cases q19 : j < 19
  · rw [if_pos q19, if_pos q19]
  rw [if_neg q19, if_neg q19]
  by_cases q21 : j < 21
  · rw [if_pos q21, if_pos q21]
  rw [if_neg q21, if_neg q21]
  by_cases q23 : j < 23
  · rw [if_pos q23, if_pos q23]
  rw [if_neg q23, if_neg q23]
  by_cases q30 : j < 30
  · rw [if_pos q30, if_pos q30]
  rw [if_neg q30, if_neg q30]
  by_cases q31 : j < 31
  · rw [if_pos q31, if_pos q31] <;> exfalso <;> omega
  rw [if_neg q31, if_neg q31]
theorem gc_E {j : Nat} (h : 31 ≤ j) (h2 : j < 143) : gcell γ (T, P, X, Y, E, B, M, O) j = tcell γ (31 + 14 * ((j - 31) / 14)) (E ((j - 31) / 14)) ((j - 31) % 14) := by simp only [gcell]; rw [if_neg (show ¬ j < 1 by omega), if_neg (show ¬ j < 15 by omega), if_neg (show ¬ j < 19 by omega), if_neg (show ¬ j < 21 by omega), if_neg (show ¬ j < 23 by omega), if_neg (show ¬ j < 30 by omega), if_neg (show ¬ j < 31 by omega)]
theorem gf_E (Z : Nat → OS) {j : Nat} (h : j < 31) : gcell γ (T, P, X, Y, Z, B, M, O) j = gcell γ (T, P, X, Y, E, B, M, O) j := by
  simp only [gcell]
  by_cases q1 : j < 1
  · rw [if_pos q1, if_pos q1]
  rw [if_neg q1, if_neg q1]
  by_cases q15 : j < 15
  · rw [if_pos q15, if_pos q15]
  rw [if_neg q15, if_neg q15]
  by_cases q19 : j < 19
  · rw [if_pos q19, if_pos q19]
  rw [if_neg q19, if_neg q19]
  by_cases q21 : j < 21
  · rw [if_pos q21, if_pos q21]
  rw [if_neg q21, if_neg q21]
  by_cases q23 : j < 23
  · rw [if_pos q23, if_pos q23]
  rw [if_neg q23, if_neg q23]
  by_cases q30 : j < 30
  · rw [if_pos q30, if_pos q30]
  rw [if_neg q30, if_neg q30]
  by_cases q31 : j < 31
  · rw [if_pos q31, if_pos q31]
  rw [if_neg q31, if_neg q31]
  exfalso; omega
theorem tcell_u {b r : Nat} {f : Nat → Int32} (hr : r < 13) (j : Nat) : tcell γ b (upr T r f) j = if j = r + 1 then .inl (if r = 12 then gZ γ else gI γ, lenT r, .inl f) else tcell γ b T j := by
  cases j with
  | zero => rw [if_neg (by omega)]; simp only [tcell]; rw [upr_n _ _ _ (by omega)]
  | succ j =>
    by_cases h : j = r
    · subst h; rw [if_pos rfl]; simp only [tcell, upr_s]
    · rw [if_neg (by omega)]; simp only [tcell, upr_n _ _ _ h]
theorem tcell_s {b : Nat} {v : Int32} (j : Nat) (hj : j < 14) : tcell γ b (us T 13 v) j = if j = 0 then tcell γ b (us T 13 v) 0 else tcell γ b T j := by
  cases j with
  | zero => rw [if_pos rfl]
  | succ j => rw [if_neg (by omega)]; simp only [tcell]; rw [us_n _ _ _ (by omega)]
theorem pcell_u {r : Nat} {f : Nat → Int32} (hr : r < 3) (j : Nat) : pcell γ (upr P (r + 1) f) j = if j = r + 1 then .inl (gI γ, 14, .inl f) else pcell γ P j := by
  cases j with
  | zero => rw [if_neg (by omega)]; simp only [pcell]; rw [upr_n _ _ _ (by omega)]
  | succ j =>
    by_cases h : j = r
    · subst h; rw [if_pos rfl]; simp only [pcell, upr_s]
    · rw [if_neg (by omega)]; simp only [pcell]; rw [upr_n _ _ _ (by omega)]
theorem pcell_s {v : Int32} (j : Nat) (hj : j < 4) : pcell γ (us P 4 v) j = if j = 0 then pcell γ (us P 4 v) 0 else pcell γ P j := by
  cases j with
  | zero => rw [if_pos rfl]
  | succ j => rw [if_neg (by omega)]; simp only [pcell]; rw [us_n _ _ _ (by omega)]
theorem hcell_s {r : Nat} {v : Int32} (j : Nat) : hcell γ (us Y r v) j = if j = 0 then hcell γ (us Y r v) 0 else hcell γ Y j := by
  cases j with
  | zero => rw [if_pos rfl]
  | succ j => rw [if_neg (by omega)]; rfl
theorem xcell_u {f : Nat → Int32} (j : Nat) : xcell γ (upr X 0 f) j = if j = 0 then xcell γ X 0 else .inl (gI γ, 40, .inl f) := by
  cases j with
  | zero => rfl
  | succ j => rw [if_neg (by omega)]; simp only [xcell, upr_s]
theorem xcell_s {r : Nat} (h0 : r ≠ 0) {v : Int32} (j : Nat) : xcell γ (us X r v) j = if j = 0 then xcell γ (us X r v) 0 else xcell γ X j := by
  cases j with
  | zero => rw [if_pos rfl]
  | succ j => rw [if_neg (by omega)]; simp only [xcell]; rw [us_n _ _ _ (by omega)]
theorem mrow_inj : ∀ i, i < 6 → ∀ r, r < 6 → i ≠ r → mrow i ≠ mrow r := by decide
theorem mcell_u {r : Nat} (hr : r < 6) (f : Nat → Int32) {i : Nat} (hi : i < 7) : mcell γ (upr M (mrow r) f) i = if i = r + 1 then .inl (gI γ, mlen r, .inl f) else mcell γ M i := by
  cases i with
  | zero =>
    rw [if_neg (by omega)]
    match r, hr with
    | 0, _ => rfl
    | 1, _ => rfl
    | 2, _ => rfl
    | 3, _ => rfl
    | 4, _ => rfl
    | 5, _ => rfl
  | succ i =>
    by_cases h : i = r
    · subst h; rw [if_pos rfl]; simp only [mcell, upr_s]
    · rw [if_neg (by omega)]; simp only [mcell]; rw [upr_n _ _ _ (mrow_inj i (by omega) r hr h)]
theorem mcell_s {r : Nat} (hs : ∀ i, i < 6 → mrow i ≠ r) {v : Int32} (i : Nat) (hi : i < 7) : mcell γ (us M r v) i = if i = 0 then mcell γ (us M r v) 0 else mcell γ M i := by
  cases i with
  | zero => rw [if_pos rfl]
  | succ i => rw [if_neg (by omega)]; simp only [mcell]; rw [us_n _ _ _ (hs i (by omega))]
theorem gw_T {r : Nat} (hr : r < 13) (f : Nat → Int32) : (gw γ (T, P, X, Y, E, B, M, O)).set (2 + r) (ad γ (2 + r), .inl (if r = 12 then gZ γ else gI γ, lenT r, .inl f)) = gw γ (upr T r f, P, X, Y, E, B, M, O) := by
  apply gw_set
  intro j hj
  by_cases h : 1 ≤ j ∧ j < 15
  · rw [gc_T h.1 h.2, gc_T h.1 h.2, tcell_u hr]
    by_cases q : j = 2 + r
    · rw [if_pos q, if_pos (by omega)]
    · rw [if_neg q, if_neg (by omega)]
  · rw [gf_T _ (by omega), if_neg (by omega)]
theorem gw_Ts (v : Int32) : (gw γ (T, P, X, Y, E, B, M, O)).set (1) (ad γ (1), tcell γ 1 (us T 13 v) 0) = gw γ (us T 13 v, P, X, Y, E, B, M, O) := by
  apply gw_set
  intro j hj
  by_cases h : 1 ≤ j ∧ j < 15
  · rw [gc_T h.1 h.2, gc_T h.1 h.2, tcell_s _ (by omega)]
    by_cases q : j = 1
    · rw [if_pos q, if_pos (by omega)]
    · rw [if_neg q, if_neg (by omega)]
  · rw [gf_T _ (by omega), if_neg (by omega)]
theorem gw_P {r : Nat} (hr : r < 3) (f : Nat → Int32) : (gw γ (T, P, X, Y, E, B, M, O)).set (16 + r) (ad γ (16 + r), .inl (gI γ, 14, .inl f)) = gw γ (T, upr P (r + 1) f, X, Y, E, B, M, O) := by
  apply gw_set
  intro j hj
  by_cases h : 15 ≤ j ∧ j < 19
  · rw [gc_P h.1 h.2, gc_P h.1 h.2, pcell_u hr]
    by_cases q : j = 16 + r
    · rw [if_pos q, if_pos (by omega)]
    · rw [if_neg q, if_neg (by omega)]
  · rw [gf_P _ (by omega), if_neg (by omega)]
theorem gw_Ps (v : Int32) : (gw γ (T, P, X, Y, E, B, M, O)).set (15) (ad γ (15), pcell γ (us P 4 v) 0) = gw γ (T, us P 4 v, X, Y, E, B, M, O) := by
  apply gw_set
  intro j hj
  by_cases h : 15 ≤ j ∧ j < 19
  · rw [gc_P h.1 h.2, gc_P h.1 h.2, pcell_s _ (by omega)]
    by_cases q : j = 15
    · rw [if_pos q, if_pos (by omega)]
    · rw [if_neg q, if_neg (by omega)]
  · rw [gf_P _ (by omega), if_neg (by omega)]
theorem gw_Ys {r : Nat} (v : Int32) : (gw γ (T, P, X, Y, E, B, M, O)).set (19) (ad γ (19), hcell γ (us Y r v) 0) = gw γ (T, P, X, us Y r v, E, B, M, O) := by
  apply gw_set
  intro j hj
  by_cases h : 19 ≤ j ∧ j < 21
  · rw [gc_Y h.1 h.2, gc_Y h.1 h.2, hcell_s]
    by_cases q : j = 19
    · rw [if_pos q, if_pos (by omega)]
    · rw [if_neg q, if_neg (by omega)]
  · rw [gf_Y _ (by omega), if_neg (by omega)]
theorem gw_Xs {r : Nat} (h0 : r ≠ 0) (v : Int32) : (gw γ (T, P, X, Y, E, B, M, O)).set (21) (ad γ (21), xcell γ (us X r v) 0) = gw γ (T, P, us X r v, Y, E, B, M, O) := by
  apply gw_set
  intro j hj
  by_cases h : 21 ≤ j ∧ j < 23
  · rw [gc_X h.1 h.2, gc_X h.1 h.2, xcell_s h0]
    by_cases q : j = 21
    · rw [if_pos q, if_pos (by omega)]
    · rw [if_neg q, if_neg (by omega)]
  · rw [gf_X _ (by omega), if_neg (by omega)]
theorem gw_M {r : Nat} (hr : r < 6) (f : Nat → Int32) : (gw γ (T, P, X, Y, E, B, M, O)).set (24 + r) (ad γ (24 + r), .inl (gI γ, mlen r, .inl f)) = gw γ (T, P, X, Y, E, B, upr M (mrow r) f, O) := by
  apply gw_set
  intro j hj
  by_cases h : 23 ≤ j ∧ j < 30
  · rw [gc_M h.1 h.2, gc_M h.1 h.2, mcell_u hr _ (by omega)]
    by_cases q : j = 24 + r
    · rw [if_pos q, if_pos (by omega)]
    · rw [if_neg q, if_neg (by omega)]
  · rw [gf_M _ (by omega), if_neg (by omega)]
theorem gw_Ms {r : Nat} (hs : ∀ i, i < 6 → mrow i ≠ r) (v : Int32) : (gw γ (T, P, X, Y, E, B, M, O)).set (23) (ad γ (23), mcell γ (us M r v) 0) = gw γ (T, P, X, Y, E, B, us M r v, O) := by
  apply gw_set
  intro j hj
  by_cases h : 23 ≤ j ∧ j < 30
  · rw [gc_M h.1 h.2, gc_M h.1 h.2, mcell_s hs _ (by omega)]
    by_cases q : j = 23
    · rw [if_pos q, if_pos (by omega)]
    · rw [if_neg q, if_neg (by omega)]
  · rw [gf_M _ (by omega), if_neg (by omega)]
theorem gw_X (f : Nat → Int32) : (gw γ (T, P, X, Y, E, B, M, O)).set 22 (ad γ 22, .inl (gI γ, 40, .inl f)) = gw γ (T, P, upr X 0 f, Y, E, B, M, O) := by
  apply gw_set
  intro j hj
  by_cases h : 21 ≤ j ∧ j < 23
  · rw [gc_X h.1 h.2, gc_X h.1 h.2, xcell_u]
    by_cases q : j = 22
    · rw [if_pos q, if_neg (by omega)]
    · rw [if_neg q, if_pos (by omega), show j - 21 = 0 by omega]
  · rw [gf_X _ (by omega), if_neg (by omega)]
theorem gw_B (v : Int32) : (gw γ (T, P, X, Y, E, B, M, O)).set 0 (ad γ 0, .inr (5, [.ref (ad γ 1), .ref (ad γ 129), .ref (ad γ 15), .ref (ad γ 19), .ref (ad γ 21), .int v])) = gw γ (T, P, X, Y, E, us B 5 v, M, O) := by
  apply gw_set
  intro j hj
  by_cases h : 0 ≤ j ∧ j < 1
  · rw [gc_B h.1 h.2, if_pos (by omega), us_s]
  · rw [gf_B _ (by omega), if_neg (by omega)]
theorem gw_O (f : Nat → Int64) : (gw γ (T, P, X, Y, E, B, M, O)).set 30 (ad γ 30, .inl (gL γ, 1, .inr (.inl f))) = gw γ (T, P, X, Y, E, B, M, f) := by
  apply gw_set
  intro j hj
  by_cases h : 30 ≤ j ∧ j < 31
  · rw [gc_O h.1 h.2, if_pos (by omega)]
  · rw [gf_O _ (by omega), if_neg (by omega)]
def upE (E : Nat → OS) (q : Nat) (T : OS) : Nat → OS := fun j => if j = q then T else E j
theorem gw_E {q r : Nat} (hq : q < 8) (hr : r < 13) (f : Nat → Int32) : (gw γ (T, P, X, Y, E, B, M, O)).set (31 + 14 * q + (1 + r)) (ad γ (31 + 14 * q + (1 + r)), .inl (if r = 12 then gZ γ else gI γ, lenT r, .inl f)) = gw γ (T, P, X, Y, upE E q (upr (E q) r f), B, M, O) := by
  apply gw_set
  intro j hj
  by_cases h : 31 ≤ j ∧ j < 143
  · rw [gc_E h.1 h.2, gc_E h.1 h.2]
    simp only [upE]
    by_cases h1 : (j - 31) / 14 = q
    · rw [if_pos h1, tcell_u hr]
      by_cases h2 : (j - 31) % 14 = r + 1
      · rw [if_pos h2, if_pos (show j = 31 + 14 * q + (1 + r) by omega)]
      · rw [if_neg h2, if_neg (show ¬ j = 31 + 14 * q + (1 + r) by omega), h1]
    · rw [if_neg h1, if_neg (show ¬ j = 31 + 14 * q + (1 + r) by omega)]
  · rw [gf_E _ (by omega), if_neg (by omega)]
theorem gw_Es {q : Nat} (hq : q < 8) (v : Int32) : (gw γ (T, P, X, Y, E, B, M, O)).set (31 + 14 * q) (ad γ (31 + 14 * q), tcell γ (31 + 14 * q) (us (E q) 13 v) 0) = gw γ (T, P, X, Y, upE E q (us (E q) 13 v), B, M, O) := by
  apply gw_set
  intro j hj
  by_cases h : 31 ≤ j ∧ j < 143
  · rw [gc_E h.1 h.2, gc_E h.1 h.2]
    simp only [upE]
    by_cases h1 : (j - 31) / 14 = q
    · rw [if_pos h1, h1]
      by_cases h2 : (j - 31) % 14 = 0
      · rw [if_pos (show j = 31 + 14 * q by omega), h2]
      · rw [if_neg (show ¬ j = 31 + 14 * q by omega), tcell_s _ (by omega), if_neg h2]
    · rw [if_neg h1, if_neg (by omega)]
  · rw [gf_E _ (by omega), if_neg (by omega)]
theorem gcell_E {q r : Nat} (hq : q < 8) (hr : r < 14) : gcell γ (T, P, X, Y, E, B, M, O) (31 + 14 * q + r) = tcell γ (31 + 14 * q) (E q) r := by
  rw [gc_E (by omega) (by omega), show (31 + 14 * q + r - 31) / 14 = q by omega, show (31 + 14 * q + r - 31) % 14 = r by omega]
end GW
