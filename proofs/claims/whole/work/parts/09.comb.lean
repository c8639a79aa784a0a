/-! loops and binds of the raw functions -/
def bd0 {κ : Type} (o : Option Unit) (f : Unit → Option κ) : Option κ := o.bind f
theorem bd0_e {κ : Type} {o : Option Unit} {f : Unit → Option κ} {r : κ} (h : bd0 o f = some r) : o = some () ∧ f () = some r := by
  cases o with
  | none => cases h
  | some x => exact ⟨rfl, h⟩
def bs0 {ρ κ : Type} (o : Option (Unit ⊕ ρ)) (f : Unit → Option κ) (g : ρ → Option κ) : Option κ := o.bind fun z => match z with | .inl u => f u | .inr t => g t
theorem bs0_e {ρ κ : Type} {o : Option (Unit ⊕ ρ)} {f : Unit → Option κ} {g : ρ → Option κ} {r : κ} (h : bs0 o f g = some r) : (o = some (.inl ()) ∧ f () = some r) ∨ ∃ t, o = some (.inr t) ∧ g t = some r := by
  cases o with
  | none => cases h
  | some z =>
    cases z with
    | inl u => exact Or.inl ⟨rfl, h⟩
    | inr t => exact Or.inr ⟨t, rfl, h⟩
def it1 {α ρ : Type} (F : α → Option ((α) ⊕ ρ)) : Nat → α → Option ρ
  | 0, _ => none
  | n + 1, a1 => match F a1 with
    | none => none
    | some (.inl s) => it1 F n s
    | some (.inr r) => some r
theorem it1_W {α ρ : Type} (F : α → Option ((α) ⊕ ρ)) (Q : α → Prop) (R : ρ → Prop) (hs : ∀ (a1 : α) (o : (α) ⊕ ρ), F a1 = some o → (∀ (a1' : α), o = .inl a1' → Q a1') → (∀ r, o = .inr r → R r) → Q a1) : ∀ (n : Nat) (a1 : α) (r : ρ), it1 F n a1 = some r → R r → Q a1 := by
  intro n
  induction n with
  | zero => intro a1 r h1 h2; cases h1
  | succ n ih =>
    intro a1 r h1 h2
    unfold it1 at h1
    split at h1
    · cases h1
    · next s hF => exact hs a1 _ hF (fun a1' e9 => by cases e9; exact ih _ r h1 h2) (fun r' e9 => nomatch e9)
    · next r' hF => cases h1; exact hs a1 _ hF (fun a1' e9 => nomatch e9) (fun r2 e9 => by cases e9; exact h2)
def bd1 {α κ : Type} (o : Option (α)) (f : α → Option κ) : Option κ := o.bind fun s => f s
theorem bd1_e {α κ : Type} {o : Option (α)} {f : α → Option κ} {r : κ} (h : bd1 o f = some r) : ∃ a1, o = some a1 ∧ f a1 = some r := by
  cases o with
  | none => cases h
  | some s => exact ⟨s, rfl, h⟩
def bs1 {α ρ κ : Type} (o : Option ((α) ⊕ ρ)) (f : α → Option κ) (g : ρ → Option κ) : Option κ := o.bind fun z => match z with | .inl s => f s | .inr t => g t
theorem bs1_e {α ρ κ : Type} {o : Option ((α) ⊕ ρ)} {f : α → Option κ} {g : ρ → Option κ} {r : κ} (h : bs1 o f g = some r) : (∃ a1, o = some (.inl a1) ∧ f a1 = some r) ∨ ∃ t, o = some (.inr t) ∧ g t = some r := by
  cases o with
  | none => cases h
  | some z =>
    cases z with
    | inl s => exact Or.inl ⟨s, rfl, h⟩
    | inr t => exact Or.inr ⟨t, rfl, h⟩
def it2 {α β ρ : Type} (F : α → β → Option ((α × β) ⊕ ρ)) : Nat → α → β → Option ρ
  | 0, _, _ => none
  | n + 1, a1, a2 => match F a1 a2 with
    | none => none
    | some (.inl s) => it2 F n s.1 s.2
    | some (.inr r) => some r
theorem it2_W {α β ρ : Type} (F : α → β → Option ((α × β) ⊕ ρ)) (Q : α → β → Prop) (R : ρ → Prop) (hs : ∀ (a1 : α) (a2 : β) (o : (α × β) ⊕ ρ), F a1 a2 = some o → (∀ (a1' : α) (a2' : β), o = .inl (a1', a2') → Q a1' a2') → (∀ r, o = .inr r → R r) → Q a1 a2) : ∀ (n : Nat) (a1 : α) (a2 : β) (r : ρ), it2 F n a1 a2 = some r → R r → Q a1 a2 := by
  intro n
  induction n with
  | zero => intro a1 a2 r h1 h2; cases h1
  | succ n ih =>
    intro a1 a2 r h1 h2
    unfold it2 at h1
    split at h1
    · cases h1
    · next s hF => exact hs a1 a2 _ hF (fun a1' a2' e9 => by cases e9; exact ih _ _ r h1 h2) (fun r' e9 => nomatch e9)
    · next r' hF => cases h1; exact hs a1 a2 _ hF (fun a1' a2' e9 => nomatch e9) (fun r2 e9 => by cases e9; exact h2)
def bd2 {α β κ : Type} (o : Option (α × β)) (f : α → β → Option κ) : Option κ := o.bind fun s => f s.1 s.2
theorem bd2_e {α β κ : Type} {o : Option (α × β)} {f : α → β → Option κ} {r : κ} (h : bd2 o f = some r) : ∃ a1 a2, o = some (a1, a2) ∧ f a1 a2 = some r := by
  cases o with
  | none => cases h
  | some s => exact ⟨s.1, s.2, rfl, h⟩
def bs2 {α β ρ κ : Type} (o : Option ((α × β) ⊕ ρ)) (f : α → β → Option κ) (g : ρ → Option κ) : Option κ := o.bind fun z => match z with | .inl s => f s.1 s.2 | .inr t => g t
theorem bs2_e {α β ρ κ : Type} {o : Option ((α × β) ⊕ ρ)} {f : α → β → Option κ} {g : ρ → Option κ} {r : κ} (h : bs2 o f g = some r) : (∃ a1 a2, o = some (.inl (a1, a2)) ∧ f a1 a2 = some r) ∨ ∃ t, o = some (.inr t) ∧ g t = some r := by
  cases o with
  | none => cases h
  | some z =>
    cases z with
    | inl s => exact Or.inl ⟨s.1, s.2, rfl, h⟩
    | inr t => exact Or.inr ⟨t, rfl, h⟩
theorem inj2 {α β : Type} {a1 a1' : α} {a2 a2' : β} (h : (a1, a2) = (a1', a2')) : a1 = a1' ∧ a2 = a2' := by cases h; exact ⟨rfl, rfl⟩
def it3 {α β γ ρ : Type} (F : α → β → γ → Option ((α × β × γ) ⊕ ρ)) : Nat → α → β → γ → Option ρ
  | 0, _, _, _ => none
  | n + 1, a1, a2, a3 => match F a1 a2 a3 with
    | none => none
    | some (.inl s) => it3 F n s.1 s.2.1 s.2.2
    | some (.inr r) => some r
theorem it3_W {α β γ ρ : Type} (F : α → β → γ → Option ((α × β × γ) ⊕ ρ)) (Q : α → β → γ → Prop) (R : ρ → Prop) (hs : ∀ (a1 : α) (a2 : β) (a3 : γ) (o : (α × β × γ) ⊕ ρ), F a1 a2 a3 = some o → (∀ (a1' : α) (a2' : β) (a3' : γ), o = .inl (a1', a2', a3') → Q a1' a2' a3') → (∀ r, o = .inr r → R r) → Q a1 a2 a3) : ∀ (n : Nat) (a1 : α) (a2 : β) (a3 : γ) (r : ρ), it3 F n a1 a2 a3 = some r → R r → Q a1 a2 a3 := by
  intro n
  induction n with
  | zero => intro a1 a2 a3 r h1 h2; cases h1
  | succ n ih =>
    intro a1 a2 a3 r h1 h2
    unfold it3 at h1
    split at h1
    · cases h1
    · next s hF => exact hs a1 a2 a3 _ hF (fun a1' a2' a3' e9 => by cases e9; exact ih _ _ _ r h1 h2) (fun r' e9 => nomatch e9)
    · next r' hF => cases h1; exact hs a1 a2 a3 _ hF (fun a1' a2' a3' e9 => nomatch e9) (fun r2 e9 => by cases e9; exact h2)
def bd3 {α β γ κ : Type} (o : Option (α × β × γ)) (f : α → β → γ → Option κ) : Option κ := o.bind fun s => f s.1 s.2.1 s.2.2
theorem bd3_e {α β γ κ : Type} {o : Option (α × β × γ)} {f : α → β → γ → Option κ} {r : κ} (h : bd3 o f = some r) : ∃ a1 a2 a3, o = some (a1, a2, a3) ∧ f a1 a2 a3 = some r := by
  cases o with
  | none => cases h
  | some s => exact ⟨s.1, s.2.1, s.2.2, rfl, h⟩
def bs3 {α β γ ρ κ : Type} (o : Option ((α × β × γ) ⊕ ρ)) (f : α → β → γ → Option κ) (g : ρ → Option κ) : Option κ := o.bind fun z => match z with | .inl s => f s.1 s.2.1 s.2.2 | .inr t => g t
theorem bs3_e {α β γ ρ κ : Type} {o : Option ((α × β × γ) ⊕ ρ)} {f : α → β → γ → Option κ} {g : ρ → Option κ} {r : κ} (h : bs3 o f g = some r) : (∃ a1 a2 a3, o = some (.inl (a1, a2, a3)) ∧ f a1 a2 a3 = some r) ∨ ∃ t, o = some (.inr t) ∧ g t = some r := by
  cases o with
  | none => cases h
  | some z =>
    cases z with
    | inl s => exact Or.inl ⟨s.1, s.2.1, s.2.2, rfl, h⟩
    | inr t => exact Or.inr ⟨t, rfl, h⟩
theorem inj3 {α β γ : Type} {a1 a1' : α} {a2 a2' : β} {a3 a3' : γ} (h : (a1, a2, a3) = (a1', a2', a3')) : a1 = a1' ∧ a2 = a2' ∧ a3 = a3' := by cases h; exact ⟨rfl, rfl, rfl⟩
def it4 {α β γ δ ρ : Type} (F : α → β → γ → δ → Option ((α × β × γ × δ) ⊕ ρ)) : Nat → α → β → γ → δ → Option ρ
  | 0, _, _, _, _ => none
  | n + 1, a1, a2, a3, a4 => match F a1 a2 a3 a4 with
    | none => none
    | some (.inl s) => it4 F n s.1 s.2.1 s.2.2.1 s.2.2.2
    | some (.inr r) => some r
theorem it4_W {α β γ δ ρ : Type} (F : α → β → γ → δ → Option ((α × β × γ × δ) ⊕ ρ)) (Q : α → β → γ → δ → Prop) (R : ρ → Prop) (hs : ∀ (a1 : α) (a2 : β) (a3 : γ) (a4 : δ) (o : (α × β × γ × δ) ⊕ ρ), F a1 a2 a3 a4 = some o → (∀ (a1' : α) (a2' : β) (a3' : γ) (a4' : δ), o = .inl (a1', a2', a3', a4') → Q a1' a2' a3' a4') → (∀ r, o = .inr r → R r) → Q a1 a2 a3 a4) : ∀ (n : Nat) (a1 : α) (a2 : β) (a3 : γ) (a4 : δ) (r : ρ), it4 F n a1 a2 a3 a4 = some r → R r → Q a1 a2 a3 a4 := by
  intro n
  induction n with
  | zero => intro a1 a2 a3 a4 r h1 h2; cases h1
  | succ n ih =>
    intro a1 a2 a3 a4 r h1 h2
    unfold it4 at h1
    split at h1
    · cases h1
    · next s hF => exact hs a1 a2 a3 a4 _ hF (fun a1' a2' a3' a4' e9 => by cases e9; exact ih _ _ _ _ r h1 h2) (fun r' e9 => nomatch e9)
    · next r' hF => cases h1; exact hs a1 a2 a3 a4 _ hF (fun a1' a2' a3' a4' e9 => nomatch e9) (fun r2 e9 => by cases e9; exact h2)
def bd4 {α β γ δ κ : Type} (o : Option (α × β × γ × δ)) (f : α → β → γ → δ → Option κ) : Option κ := o.bind fun s => f s.1 s.2.1 s.2.2.1 s.2.2.2
theorem bd4_e {α β γ δ κ : Type} {o : Option (α × β × γ × δ)} {f : α → β → γ → δ → Option κ} {r : κ} (h : bd4 o f = some r) : ∃ a1 a2 a3 a4, o = some (a1, a2, a3, a4) ∧ f a1 a2 a3 a4 = some r := by
  cases o with
  | none => cases h
  | some s => exact ⟨s.1, s.2.1, s.2.2.1, s.2.2.2, rfl, h⟩
def bs4 {α β γ δ ρ κ : Type} (o : Option ((α × β × γ × δ) ⊕ ρ)) (f : α → β → γ → δ → Option κ) (g : ρ → Option κ) : Option κ := o.bind fun z => match z with | .inl s => f s.1 s.2.1 s.2.2.1 s.2.2.2 | .inr t => g t
theorem bs4_e {α β γ δ ρ κ : Type} {o : Option ((α × β × γ × δ) ⊕ ρ)} {f : α → β → γ → δ → Option κ} {g : ρ → Option κ} {r : κ} (h : bs4 o f g = some r) : (∃ a1 a2 a3 a4, o = some (.inl (a1, a2, a3, a4)) ∧ f a1 a2 a3 a4 = some r) ∨ ∃ t, o = some (.inr t) ∧ g t = some r := by
  cases o with
  | none => cases h
  | some z =>
    cases z with
    | inl s => exact Or.inl ⟨s.1, s.2.1, s.2.2.1, s.2.2.2, rfl, h⟩
    | inr t => exact Or.inr ⟨t, rfl, h⟩
theorem inj4 {α β γ δ : Type} {a1 a1' : α} {a2 a2' : β} {a3 a3' : γ} {a4 a4' : δ} (h : (a1, a2, a3, a4) = (a1', a2', a3', a4')) : a1 = a1' ∧ a2 = a2' ∧ a3 = a3' ∧ a4 = a4' := by cases h; exact ⟨rfl, rfl, rfl, rfl⟩
def it5 {α β γ δ ε ρ : Type} (F : α → β → γ → δ → ε → Option ((α × β × γ × δ × ε) ⊕ ρ)) : Nat → α → β → γ → δ → ε → Option ρ
  | 0, _, _, _, _, _ => none
  | n + 1, a1, a2, a3, a4, a5 => match F a1 a2 a3 a4 a5 with
    | none => none
    | some (.inl s) => it5 F n s.1 s.2.1 s.2.2.1 s.2.2.2.1 s.2.2.2.2
    | some (.inr r) => some r
theorem it5_W {α β γ δ ε ρ : Type} (F : α → β → γ → δ → ε → Option ((α × β × γ × δ × ε) ⊕ ρ)) (Q : α → β → γ → δ → ε → Prop) (R : ρ → Prop) (hs : ∀ (a1 : α) (a2 : β) (a3 : γ) (a4 : δ) (a5 : ε) (o : (α × β × γ × δ × ε) ⊕ ρ), F a1 a2 a3 a4 a5 = some o → (∀ (a1' : α) (a2' : β) (a3' : γ) (a4' : δ) (a5' : ε), o = .inl (a1', a2', a3', a4', a5') → Q a1' a2' a3' a4' a5') → (∀ r, o = .inr r → R r) → Q a1 a2 a3 a4 a5) : ∀ (n : Nat) (a1 : α) (a2 : β) (a3 : γ) (a4 : δ) (a5 : ε) (r : ρ), it5 F n a1 a2 a3 a4 a5 = some r → R r → Q a1 a2 a3 a4 a5 := by
  intro n
  induction n with
  | zero => intro a1 a2 a3 a4 a5 r h1 h2; cases h1
  | succ n ih =>
    intro a1 a2 a3 a4 a5 r h1 h2
    unfold it5 at h1
    split at h1
    · cases h1
    · next s hF => exact hs a1 a2 a3 a4 a5 _ hF (fun a1' a2' a3' a4' a5' e9 => by cases e9; exact ih _ _ _ _ _ r h1 h2) (fun r' e9 => nomatch e9)
    · next r' hF => cases h1; exact hs a1 a2 a3 a4 a5 _ hF (fun a1' a2' a3' a4' a5' e9 => nomatch e9) (fun r2 e9 => by cases e9; exact h2)
def bd5 {α β γ δ ε κ : Type} (o : Option (α × β × γ × δ × ε)) (f : α → β → γ → δ → ε → Option κ) : Option κ := o.bind fun s => f s.1 s.2.1 s.2.2.1 s.2.2.2.1 s.2.2.2.2
theorem bd5_e {α β γ δ ε κ : Type} {o : Option (α × β × γ × δ × ε)} {f : α → β → γ → δ → ε → Option κ} {r : κ} (h : bd5 o f = some r) : ∃ a1 a2 a3 a4 a5, o = some (a1, a2, a3, a4, a5) ∧ f a1 a2 a3 a4 a5 = some r := by
  cases o with
  | none => cases h
  | some s => exact ⟨s.1, s.2.1, s.2.2.1, s.2.2.2.1, s.2.2.2.2, rfl, h⟩
def bs5 {α β γ δ ε ρ κ : Type} (o : Option ((α × β × γ × δ × ε) ⊕ ρ)) (f : α → β → γ → δ → ε → Option κ) (g : ρ → Option κ) : Option κ := o.bind fun z => match z with | .inl s => f s.1 s.2.1 s.2.2.1 s.2.2.2.1 s.2.2.2.2 | .inr t => g t
theorem bs5_e {α β γ δ ε ρ κ : Type} {o : Option ((α × β × γ × δ × ε) ⊕ ρ)} {f : α → β → γ → δ → ε → Option κ} {g : ρ → Option κ} {r : κ} (h : bs5 o f g = some r) : (∃ a1 a2 a3 a4 a5, o = some (.inl (a1, a2, a3, a4, a5)) ∧ f a1 a2 a3 a4 a5 = some r) ∨ ∃ t, o = some (.inr t) ∧ g t = some r := by
  cases o with
  | none => cases h
  | some z =>
    cases z with
    | inl s => exact Or.inl ⟨s.1, s.2.1, s.2.2.1, s.2.2.2.1, s.2.2.2.2, rfl, h⟩
    | inr t => exact Or.inr ⟨t, rfl, h⟩
theorem inj5 {α β γ δ ε : Type} {a1 a1' : α} {a2 a2' : β} {a3 a3' : γ} {a4 a4' : δ} {a5 a5' : ε} (h : (a1, a2, a3, a4, a5) = (a1', a2', a3', a4', a5')) : a1 = a1' ∧ a2 = a2' ∧ a3 = a3' ∧ a4 = a4' ∧ a5 = a5' := by cases h; exact ⟨rfl, rfl, rfl, rfl, rfl⟩
def it6 {α β γ δ ε ζ ρ : Type} (F : α → β → γ → δ → ε → ζ → Option ((α × β × γ × δ × ε × ζ) ⊕ ρ)) : Nat → α → β → γ → δ → ε → ζ → Option ρ
  | 0, _, _, _, _, _, _ => none
  | n + 1, a1, a2, a3, a4, a5, a6 => match F a1 a2 a3 a4 a5 a6 with
    | none => none
    | some (.inl s) => it6 F n s.1 s.2.1 s.2.2.1 s.2.2.2.1 s.2.2.2.2.1 s.2.2.2.2.2
    | some (.inr r) => some r
theorem it6_W {α β γ δ ε ζ ρ : Type} (F : α → β → γ → δ → ε → ζ → Option ((α × β × γ × δ × ε × ζ) ⊕ ρ)) (Q : α → β → γ → δ → ε → ζ → Prop) (R : ρ → Prop) (hs : ∀ (a1 : α) (a2 : β) (a3 : γ) (a4 : δ) (a5 : ε) (a6 : ζ) (o : (α × β × γ × δ × ε × ζ) ⊕ ρ), F a1 a2 a3 a4 a5 a6 = some o → (∀ (a1' : α) (a2' : β) (a3' : γ) (a4' : δ) (a5' : ε) (a6' : ζ), o = .inl (a1', a2', a3', a4', a5', a6') → Q a1' a2' a3' a4' a5' a6') → (∀ r, o = .inr r → R r) → Q a1 a2 a3 a4 a5 a6) : ∀ (n : Nat) (a1 : α) (a2 : β) (a3 : γ) (a4 : δ) (a5 : ε) (a6 : ζ) (r : ρ), it6 F n a1 a2 a3 a4 a5 a6 = some r → R r → Q a1 a2 a3 a4 a5 a6 := by
  intro n
  induction n with
  | zero => intro a1 a2 a3 a4 a5 a6 r h1 h2; cases h1
  | succ n ih =>
    intro a1 a2 a3 a4 a5 a6 r h1 h2
    unfold it6 at h1
    split at h1
    · cases h1
    · next s hF => exact hs a1 a2 a3 a4 a5 a6 _ hF (fun a1' a2' a3' a4' a5' a6' e9 => by cases e9; exact ih _ _ _ _ _ _ r h1 h2) (fun r' e9 => nomatch e9)
    · next r' hF => cases h1; exact hs a1 a2 a3 a4 a5 a6 _ hF (fun a1' a2' a3' a4' a5' a6' e9 => nomatch e9) (fun r2 e9 => by cases e9; exact h2)
def bd6 {α β γ δ ε ζ κ : Type} (o : Option (α × β × γ × δ × ε × ζ)) (f : α → β → γ → δ → ε → ζ → Option κ) : Option κ := o.bind fun s => f s.1 s.2.1 s.2.2.1 s.2.2.2.1 s.2.2.2.2.1 s.2.2.2.2.2
theorem bd6_e {α β γ δ ε ζ κ : Type} {o : Option (α × β × γ × δ × ε × ζ)} {f : α → β → γ → δ → ε → ζ → Option κ} {r : κ} (h : bd6 o f = some r) : ∃ a1 a2 a3 a4 a5 a6, o = some (a1, a2, a3, a4, a5, a6) ∧ f a1 a2 a3 a4 a5 a6 = some r := by
  cases o with
  | none => cases h
  | some s => exact ⟨s.1, s.2.1, s.2.2.1, s.2.2.2.1, s.2.2.2.2.1, s.2.2.2.2.2, rfl, h⟩
def bs6 {α β γ δ ε ζ ρ κ : Type} (o : Option ((α × β × γ × δ × ε × ζ) ⊕ ρ)) (f : α → β → γ → δ → ε → ζ → Option κ) (g : ρ → Option κ) : Option κ := o.bind fun z => match z with | .inl s => f s.1 s.2.1 s.2.2.1 s.2.2.2.1 s.2.2.2.2.1 s.2.2.2.2.2 | .inr t => g t
theorem bs6_e {α β γ δ ε ζ ρ κ : Type} {o : Option ((α × β × γ × δ × ε × ζ) ⊕ ρ)} {f : α → β → γ → δ → ε → ζ → Option κ} {g : ρ → Option κ} {r : κ} (h : bs6 o f g = some r) : (∃ a1 a2 a3 a4 a5 a6, o = some (.inl (a1, a2, a3, a4, a5, a6)) ∧ f a1 a2 a3 a4 a5 a6 = some r) ∨ ∃ t, o = some (.inr t) ∧ g t = some r := by
  cases o with
  | none => cases h
  | some z =>
    cases z with
    | inl s => exact Or.inl ⟨s.1, s.2.1, s.2.2.1, s.2.2.2.1, s.2.2.2.2.1, s.2.2.2.2.2, rfl, h⟩
    | inr t => exact Or.inr ⟨t, rfl, h⟩
theorem inj6 {α β γ δ ε ζ : Type} {a1 a1' : α} {a2 a2' : β} {a3 a3' : γ} {a4 a4' : δ} {a5 a5' : ε} {a6 a6' : ζ} (h : (a1, a2, a3, a4, a5, a6) = (a1', a2', a3', a4', a5', a6')) : a1 = a1' ∧ a2 = a2' ∧ a3 = a3' ∧ a4 = a4' ∧ a5 = a5' ∧ a6 = a6' := by cases h; exact ⟨rfl, rfl, rfl, rfl, rfl, rfl⟩
def it7 {α β γ δ ε ζ η ρ : Type} (F : α → β → γ → δ → ε → ζ → η → Option ((α × β × γ × δ × ε × ζ × η) ⊕ ρ)) : Nat → α → β → γ → δ → ε → ζ → η → Option ρ
  | 0, _, _, _, _, _, _, _ => none
  | n + 1, a1, a2, a3, a4, a5, a6, a7 => match F a1 a2 a3 a4 a5 a6 a7 with
    | none => none
    | some (.inl s) => it7 F n s.1 s.2.1 s.2.2.1 s.2.2.2.1 s.2.2.2.2.1 s.2.2.2.2.2.1 s.2.2.2.2.2.2
    | some (.inr r) => some r
theorem it7_W {α β γ δ ε ζ η ρ : Type} (F : α → β → γ → δ → ε → ζ → η → Option ((α × β × γ × δ × ε × ζ × η) ⊕ ρ)) (Q : α → β → γ → δ → ε → ζ → η → Prop) (R : ρ → Prop) (hs : ∀ (a1 : α) (a2 : β) (a3 : γ) (a4 : δ) (a5 : ε) (a6 : ζ) (a7 : η) (o : (α × β × γ × δ × ε × ζ × η) ⊕ ρ), F a1 a2 a3 a4 a5 a6 a7 = some o → (∀ (a1' : α) (a2' : β) (a3' : γ) (a4' : δ) (a5' : ε) (a6' : ζ) (a7' : η), o = .inl (a1', a2', a3', a4', a5', a6', a7') → Q a1' a2' a3' a4' a5' a6' a7') → (∀ r, o = .inr r → R r) → Q a1 a2 a3 a4 a5 a6 a7) : ∀ (n : Nat) (a1 : α) (a2 : β) (a3 : γ) (a4 : δ) (a5 : ε) (a6 : ζ) (a7 : η) (r : ρ), it7 F n a1 a2 a3 a4 a5 a6 a7 = some r → R r → Q a1 a2 a3 a4 a5 a6 a7 := by
  intro n
  induction n with
  | zero => intro a1 a2 a3 a4 a5 a6 a7 r h1 h2; cases h1
  | succ n ih =>
    intro a1 a2 a3 a4 a5 a6 a7 r h1 h2
    unfold it7 at h1
    split at h1
    · cases h1
    · next s hF => exact hs a1 a2 a3 a4 a5 a6 a7 _ hF (fun a1' a2' a3' a4' a5' a6' a7' e9 => by cases e9; exact ih _ _ _ _ _ _ _ r h1 h2) (fun r' e9 => nomatch e9)
    · next r' hF => cases h1; exact hs a1 a2 a3 a4 a5 a6 a7 _ hF (fun a1' a2' a3' a4' a5' a6' a7' e9 => nomatch e9) (fun r2 e9 => by cases e9; exact h2)
def bd7 {α β γ δ ε ζ η κ : Type} (o : Option (α × β × γ × δ × ε × ζ × η)) (f : α → β → γ → δ → ε → ζ → η → Option κ) : Option κ := o.bind fun s => f s.1 s.2.1 s.2.2.1 s.2.2.2.1 s.2.2.2.2.1 s.2.2.2.2.2.1 s.2.2.2.2.2.2
theorem bd7_e {α β γ δ ε ζ η κ : Type} {o : Option (α × β × γ × δ × ε × ζ × η)} {f : α → β → γ → δ → ε → ζ → η → Option κ} {r : κ} (h : bd7 o f = some r) : ∃ a1 a2 a3 a4 a5 a6 a7, o = some (a1, a2, a3, a4, a5, a6, a7) ∧ f a1 a2 a3 a4 a5 a6 a7 = some r := by
  cases o with
  | none => cases h
  | some s => exact ⟨s.1, s.2.1, s.2.2.1, s.2.2.2.1, s.2.2.2.2.1, s.2.2.2.2.2.1, s.2.2.2.2.2.2, rfl, h⟩
def bs7 {α β γ δ ε ζ η ρ κ : Type} (o : Option ((α × β × γ × δ × ε × ζ × η) ⊕ ρ)) (f : α → β → γ → δ → ε → ζ → η → Option κ) (g : ρ → Option κ) : Option κ := o.bind fun z => match z with | .inl s => f s.1 s.2.1 s.2.2.1 s.2.2.2.1 s.2.2.2.2.1 s.2.2.2.2.2.1 s.2.2.2.2.2.2 | .inr t => g t
theorem bs7_e {α β γ δ ε ζ η ρ κ : Type} {o : Option ((α × β × γ × δ × ε × ζ × η) ⊕ ρ)} {f : α → β → γ → δ → ε → ζ → η → Option κ} {g : ρ → Option κ} {r : κ} (h : bs7 o f g = some r) : (∃ a1 a2 a3 a4 a5 a6 a7, o = some (.inl (a1, a2, a3, a4, a5, a6, a7)) ∧ f a1 a2 a3 a4 a5 a6 a7 = some r) ∨ ∃ t, o = some (.inr t) ∧ g t = some r := by
  cases o with
  | none => cases h
  | some z =>
    cases z with
    | inl s => exact Or.inl ⟨s.1, s.2.1, s.2.2.1, s.2.2.2.1, s.2.2.2.2.1, s.2.2.2.2.2.1, s.2.2.2.2.2.2, rfl, h⟩
    | inr t => exact Or.inr ⟨t, rfl, h⟩
theorem inj7 {α β γ δ ε ζ η : Type} {a1 a1' : α} {a2 a2' : β} {a3 a3' : γ} {a4 a4' : δ} {a5 a5' : ε} {a6 a6' : ζ} {a7 a7' : η} (h : (a1, a2, a3, a4, a5, a6, a7) = (a1', a2', a3', a4', a5', a6', a7')) : a1 = a1' ∧ a2 = a2' ∧ a3 = a3' ∧ a4 = a4' ∧ a5 = a5' ∧ a6 = a6' ∧ a7 = a7' := by cases h; exact ⟨rfl, rfl, rfl, rfl, rfl, rfl, rfl⟩
def it8 {α β γ δ ε ζ η θ ρ : Type} (F : α → β → γ → δ → ε → ζ → η → θ → Option ((α × β × γ × δ × ε × ζ × η × θ) ⊕ ρ)) : Nat → α → β → γ → δ → ε → ζ → η → θ → Option ρ
  | 0, _, _, _, _, _, _, _, _ => none
  | n + 1, a1, a2, a3, a4, a5, a6, a7, a8 => match F a1 a2 a3 a4 a5 a6 a7 a8 with
    | none => none
    | some (.inl s) => it8 F n s.1 s.2.1 s.2.2.1 s.2.2.2.1 s.2.2.2.2.1 s.2.2.2.2.2.1 s.2.2.2.2.2.2.1 s.2.2.2.2.2.2.2
    | some (.inr r) => some r
theorem it8_W {α β γ δ ε ζ η θ ρ : Type} (F : α → β → γ → δ → ε → ζ → η → θ → Option ((α × β × γ × δ × ε × ζ × η × θ) ⊕ ρ)) (Q : α → β → γ → δ → ε → ζ → η → θ → Prop) (R : ρ → Prop) (hs : ∀ (a1 : α) (a2 : β) (a3 : γ) (a4 : δ) (a5 : ε) (a6 : ζ) (a7 : η) (a8 : θ) (o : (α × β × γ × δ × ε × ζ × η × θ) ⊕ ρ), F a1 a2 a3 a4 a5 a6 a7 a8 = some o → (∀ (a1' : α) (a2' : β) (a3' : γ) (a4' : δ) (a5' : ε) (a6' : ζ) (a7' : η) (a8' : θ), o = .inl (a1', a2', a3', a4', a5', a6', a7', a8') → Q a1' a2' a3' a4' a5' a6' a7' a8') → (∀ r, o = .inr r → R r) → Q a1 a2 a3 a4 a5 a6 a7 a8) : ∀ (n : Nat) (a1 : α) (a2 : β) (a3 : γ) (a4 : δ) (a5 : ε) (a6 : ζ) (a7 : η) (a8 : θ) (r : ρ), it8 F n a1 a2 a3 a4 a5 a6 a7 a8 = some r → R r → Q a1 a2 a3 a4 a5 a6 a7 a8 := by
  intro n
  induction n with
  | zero => intro a1 a2 a3 a4 a5 a6 a7 a8 r h1 h2; cases h1
  | succ n ih =>
    intro a1 a2 a3 a4 a5 a6 a7 a8 r h1 h2
    unfold it8 at h1
    split at h1
    · cases h1
    · next s hF => exact hs a1 a2 a3 a4 a5 a6 a7 a8 _ hF (fun a1' a2' a3' a4' a5' a6' a7' a8' e9 => by cases e9; exact ih _ _ _ _ _ _ _ _ r h1 h2) (fun r' e9 => nomatch e9)
    · next r' hF => cases h1; exact hs a1 a2 a3 a4 a5 a6 a7 a8 _ hF (fun a1' a2' a3' a4' a5' a6' a7' a8' e9 => nomatch e9) (fun r2 e9 => by cases e9; exact h2)
def bd8 {α β γ δ ε ζ η θ κ : Type} (o : Option (α × β × γ × δ × ε × ζ × η × θ)) (f : α → β → γ → δ → ε → ζ → η → θ → Option κ) : Option κ := o.bind fun s => f s.1 s.2.1 s.2.2.1 s.2.2.2.1 s.2.2.2.2.1 s.2.2.2.2.2.1 s.2.2.2.2.2.2.1 s.2.2.2.2.2.2.2
theorem bd8_e {α β γ δ ε ζ η θ κ : Type} {o : Option (α × β × γ × δ × ε × ζ × η × θ)} {f : α → β → γ → δ → ε → ζ → η → θ → Option κ} {r : κ} (h : bd8 o f = some r) : ∃ a1 a2 a3 a4 a5 a6 a7 a8, o = some (a1, a2, a3, a4, a5, a6, a7, a8) ∧ f a1 a2 a3 a4 a5 a6 a7 a8 = some r := by
  cases o with
  | none => cases h
  | some s => exact ⟨s.1, s.2.1, s.2.2.1, s.2.2.2.1, s.2.2.2.2.1, s.2.2.2.2.2.1, s.2.2.2.2.2.2.1, s.2.2.2.2.2.2.2, rfl, h⟩
def bs8 {α β γ δ ε ζ η θ ρ κ : Type} (o : Option ((α × β × γ × δ × ε × ζ × η × θ) ⊕ ρ)) (f : α → β → γ → δ → ε → ζ → η → θ → Option κ) (g : ρ → Option κ) : Option κ := o.bind fun z => match z with | .inl s => f s.1 s.2.1 s.2.2.1 s.2.2.2.1 s.2.2.2.2.1 s.2.2.2.2.2.1 s.2.2.2.2.2.2.1 s.2.2.2.2.2.2.2 | .inr t => g t
theorem bs8_e {α β γ δ ε ζ η θ ρ κ : Type} {o : Option ((α × β × γ × δ × ε × ζ × η × θ) ⊕ ρ)} {f : α → β → γ → δ → ε → ζ → η → θ → Option κ} {g : ρ → Option κ} {r : κ} (h : bs8 o f g = some r) : (∃ a1 a2 a3 a4 a5 a6 a7 a8, o = some (.inl (a1, a2, a3, a4, a5, a6, a7, a8)) ∧ f a1 a2 a3 a4 a5 a6 a7 a8 = some r) ∨ ∃ t, o = some (.inr t) ∧ g t = some r := by
  cases o with
  | none => cases h
  | some z =>
    cases z with
    | inl s => exact Or.inl ⟨s.1, s.2.1, s.2.2.1, s.2.2.2.1, s.2.2.2.2.1, s.2.2.2.2.2.1, s.2.2.2.2.2.2.1, s.2.2.2.2.2.2.2, rfl, h⟩
    | inr t => exact Or.inr ⟨t, rfl, h⟩
theorem inj8 {α β γ δ ε ζ η θ : Type} {a1 a1' : α} {a2 a2' : β} {a3 a3' : γ} {a4 a4' : δ} {a5 a5' : ε} {a6 a6' : ζ} {a7 a7' : η} {a8 a8' : θ} (h : (a1, a2, a3, a4, a5, a6, a7, a8) = (a1', a2', a3', a4', a5', a6', a7', a8')) : a1 = a1' ∧ a2 = a2' ∧ a3 = a3' ∧ a4 = a4' ∧ a5 = a5' ∧ a6 = a6' ∧ a7 = a7' ∧ a8 = a8' := by cases h; exact ⟨rfl, rfl, rfl, rfl, rfl, rfl, rfl, rfl⟩
/-- the remainder, as the machine has it -/
abbrev im (x y : Int32) : Int32 := x - x / y * y
abbrev iu (x y : Int32) : Int32 := (x.toUInt32 >>> (y.toUInt32 &&& Int32.toUInt32 31)).toInt32
theorem tsw_0_34 {x : Int32} (h0 : ¬ x = 0) (h1 : ¬ x = 1) (h2 : ¬ x = 2) (h3 : ¬ x = 3) (h4 : ¬ x = 4) (h5 : ¬ x = 5) (h6 : ¬ x = 6) (h7 : ¬ x = 7) (h8 : ¬ x = 8) (h9 : ¬ x = 9) (h10 : ¬ x = 10) (h11 : ¬ x = 11) (h12 : ¬ x = 12) (h13 : ¬ x = 13) (h14 : ¬ x = 14) (h15 : ¬ x = 15) (h16 : ¬ x = 16) (h17 : ¬ x = 17) (h18 : ¬ x = 18) (h19 : ¬ x = 19) (h20 : ¬ x = 20) (h21 : ¬ x = 21) (h22 : ¬ x = 22) (h23 : ¬ x = 23) (h24 : ¬ x = 24) (h25 : ¬ x = 25) (h26 : ¬ x = 26) (h27 : ¬ x = 27) (h28 : ¬ x = 28) (h29 : ¬ x = 29) (h30 : ¬ x = 30) (h31 : ¬ x = 31) (h32 : ¬ x = 32) (h33 : ¬ x = 33) (h34 : ¬ x = 34) : x.toInt < 0 ∨ 34 < x.toInt := by
  have q0 : x.toInt ≠ 0 := fun z => h0 (Int32.toInt_inj.mp (z.trans rfl))
  have q1 : x.toInt ≠ 1 := fun z => h1 (Int32.toInt_inj.mp (z.trans rfl))
  have q2 : x.toInt ≠ 2 := fun z => h2 (Int32.toInt_inj.mp (z.trans rfl))
  have q3 : x.toInt ≠ 3 := fun z => h3 (Int32.toInt_inj.mp (z.trans rfl))
  have q4 : x.toInt ≠ 4 := fun z => h4 (Int32.toInt_inj.mp (z.trans rfl))
  have q5 : x.toInt ≠ 5 := fun z => h5 (Int32.toInt_inj.mp (z.trans rfl))
  have q6 : x.toInt ≠ 6 := fun z => h6 (Int32.toInt_inj.mp (z.trans rfl))
  have q7 : x.toInt ≠ 7 := fun z => h7 (Int32.toInt_inj.mp (z.trans rfl))
  have q8 : x.toInt ≠ 8 := fun z => h8 (Int32.toInt_inj.mp (z.trans rfl))
  have q9 : x.toInt ≠ 9 := fun z => h9 (Int32.toInt_inj.mp (z.trans rfl))
  have q10 : x.toInt ≠ 10 := fun z => h10 (Int32.toInt_inj.mp (z.trans rfl))
  have q11 : x.toInt ≠ 11 := fun z => h11 (Int32.toInt_inj.mp (z.trans rfl))
  have q12 : x.toInt ≠ 12 := fun z => h12 (Int32.toInt_inj.mp (z.trans rfl))
  have q13 : x.toInt ≠ 13 := fun z => h13 (Int32.toInt_inj.mp (z.trans rfl))
  have q14 : x.toInt ≠ 14 := fun z => h14 (Int32.toInt_inj.mp (z.trans rfl))
  have q15 : x.toInt ≠ 15 := fun z => h15 (Int32.toInt_inj.mp (z.trans rfl))
  have q16 : x.toInt ≠ 16 := fun z => h16 (Int32.toInt_inj.mp (z.trans rfl))
  have q17 : x.toInt ≠ 17 := fun z => h17 (Int32.toInt_inj.mp (z.trans rfl))
  have q18 : x.toInt ≠ 18 := fun z => h18 (Int32.toInt_inj.mp (z.trans rfl))
  have q19 : x.toInt ≠ 19 := fun z => h19 (Int32.toInt_inj.mp (z.trans rfl))
  have q20 : x.toInt ≠ 20 := fun z => h20 (Int32.toInt_inj.mp (z.trans rfl))
  have q21 : x.toInt ≠ 21 := fun z => h21 (Int32.toInt_inj.mp (z.trans rfl))
  have q22 : x.toInt ≠ 22 := fun z => h22 (Int32.toInt_inj.mp (z.trans rfl))
  have q23 : x.toInt ≠ 23 := fun z => h23 (Int32.toInt_inj.mp (z.trans rfl))
  have q24 : x.toInt ≠ 24 := fun z => h24 (Int32.toInt_inj.mp (z.trans rfl))
  have q25 : x.toInt ≠ 25 := fun z => h25 (Int32.toInt_inj.mp (z.trans rfl))
  have q26 : x.toInt ≠ 26 := fun z => h26 (Int32.toInt_inj.mp (z.trans rfl))
  have q27 : x.toInt ≠ 27 := fun z => h27 (Int32.toInt_inj.mp (z.trans rfl))
  have q28 : x.toInt ≠ 28 := fun z => h28 (Int32.toInt_inj.mp (z.trans rfl))
  have q29 : x.toInt ≠ 29 := fun z => h29 (Int32.toInt_inj.mp (z.trans rfl))
  have q30 : x.toInt ≠ 30 := fun z => h30 (Int32.toInt_inj.mp (z.trans rfl))
  have q31 : x.toInt ≠ 31 := fun z => h31 (Int32.toInt_inj.mp (z.trans rfl))
  have q32 : x.toInt ≠ 32 := fun z => h32 (Int32.toInt_inj.mp (z.trans rfl))
  have q33 : x.toInt ≠ 33 := fun z => h33 (Int32.toInt_inj.mp (z.trans rfl))
  have q34 : x.toInt ≠ 34 := fun z => h34 (Int32.toInt_inj.mp (z.trans rfl))
  omega
theorem tsw_0_1 {x : Int32} (h0 : ¬ x = 0) (h1 : ¬ x = 1) : x.toInt < 0 ∨ 1 < x.toInt := by
  have q0 : x.toInt ≠ 0 := fun z => h0 (Int32.toInt_inj.mp (z.trans rfl))
  have q1 : x.toInt ≠ 1 := fun z => h1 (Int32.toInt_inj.mp (z.trans rfl))
  omega
theorem tsw_0_2 {x : Int32} (h0 : ¬ x = 0) (h1 : ¬ x = 1) (h2 : ¬ x = 2) : x.toInt < 0 ∨ 2 < x.toInt := by
  have q0 : x.toInt ≠ 0 := fun z => h0 (Int32.toInt_inj.mp (z.trans rfl))
  have q1 : x.toInt ≠ 1 := fun z => h1 (Int32.toInt_inj.mp (z.trans rfl))
  have q2 : x.toInt ≠ 2 := fun z => h2 (Int32.toInt_inj.mp (z.trans rfl))
  omega
theorem tsw_0_3 {x : Int32} (h0 : ¬ x = 0) (h1 : ¬ x = 1) (h2 : ¬ x = 2) (h3 : ¬ x = 3) : x.toInt < 0 ∨ 3 < x.toInt := by
  have q0 : x.toInt ≠ 0 := fun z => h0 (Int32.toInt_inj.mp (z.trans rfl))
  have q1 : x.toInt ≠ 1 := fun z => h1 (Int32.toInt_inj.mp (z.trans rfl))
  have q2 : x.toInt ≠ 2 := fun z => h2 (Int32.toInt_inj.mp (z.trans rfl))
  have q3 : x.toInt ≠ 3 := fun z => h3 (Int32.toInt_inj.mp (z.trans rfl))
  omega
theorem tsw_0_4 {x : Int32} (h0 : ¬ x = 0) (h1 : ¬ x = 1) (h2 : ¬ x = 2) (h3 : ¬ x = 3) (h4 : ¬ x = 4) : x.toInt < 0 ∨ 4 < x.toInt := by
  have q0 : x.toInt ≠ 0 := fun z => h0 (Int32.toInt_inj.mp (z.trans rfl))
  have q1 : x.toInt ≠ 1 := fun z => h1 (Int32.toInt_inj.mp (z.trans rfl))
  have q2 : x.toInt ≠ 2 := fun z => h2 (Int32.toInt_inj.mp (z.trans rfl))
  have q3 : x.toInt ≠ 3 := fun z => h3 (Int32.toInt_inj.mp (z.trans rfl))
  have q4 : x.toInt ≠ 4 := fun z => h4 (Int32.toInt_inj.mp (z.trans rfl))
  omega
theorem tsw_0_5 {x : Int32} (h0 : ¬ x = 0) (h1 : ¬ x = 1) (h2 : ¬ x = 2) (h3 : ¬ x = 3) (h4 : ¬ x = 4) (h5 : ¬ x = 5) : x.toInt < 0 ∨ 5 < x.toInt := by
  have q0 : x.toInt ≠ 0 := fun z => h0 (Int32.toInt_inj.mp (z.trans rfl))
  have q1 : x.toInt ≠ 1 := fun z => h1 (Int32.toInt_inj.mp (z.trans rfl))
  have q2 : x.toInt ≠ 2 := fun z => h2 (Int32.toInt_inj.mp (z.trans rfl))
  have q3 : x.toInt ≠ 3 := fun z => h3 (Int32.toInt_inj.mp (z.trans rfl))
  have q4 : x.toInt ≠ 4 := fun z => h4 (Int32.toInt_inj.mp (z.trans rfl))
  have q5 : x.toInt ≠ 5 := fun z => h5 (Int32.toInt_inj.mp (z.trans rfl))
  omega
theorem tsw_0_6 {x : Int32} (h0 : ¬ x = 0) (h1 : ¬ x = 1) (h2 : ¬ x = 2) (h3 : ¬ x = 3) (h4 : ¬ x = 4) (h5 : ¬ x = 5) (h6 : ¬ x = 6) : x.toInt < 0 ∨ 6 < x.toInt := by
  have q0 : x.toInt ≠ 0 := fun z => h0 (Int32.toInt_inj.mp (z.trans rfl))
  have q1 : x.toInt ≠ 1 := fun z => h1 (Int32.toInt_inj.mp (z.trans rfl))
  have q2 : x.toInt ≠ 2 := fun z => h2 (Int32.toInt_inj.mp (z.trans rfl))
  have q3 : x.toInt ≠ 3 := fun z => h3 (Int32.toInt_inj.mp (z.trans rfl))
  have q4 : x.toInt ≠ 4 := fun z => h4 (Int32.toInt_inj.mp (z.trans rfl))
  have q5 : x.toInt ≠ 5 := fun z => h5 (Int32.toInt_inj.mp (z.trans rfl))
  have q6 : x.toInt ≠ 6 := fun z => h6 (Int32.toInt_inj.mp (z.trans rfl))
  omega
section GE
variable {γ : GA} {T P X Y B M : OS} {E : Nat → OS} {O : Nat → Int64}
theorem ge_0 : gcell γ (T, P, X, Y, E, B, M, O) 0 = .inr (5, [.ref (ad γ 1), .ref (ad γ 129), .ref (ad γ 15), .ref (ad γ 19), .ref (ad γ 21), .int (B 5 0)]) := rfl
theorem ge_1 : gcell γ (T, P, X, Y, E, B, M, O) 1 = .inr (4, [.ref (ad γ 2), .ref (ad γ 3), .ref (ad γ 4), .ref (ad γ 5), .ref (ad γ 6), .ref (ad γ 7), .ref (ad γ 8), .ref (ad γ 9), .ref (ad γ 10), .ref (ad γ 11), .ref (ad γ 12), .ref (ad γ 13), .ref (ad γ 14), .int (T 13 0)]) := rfl
theorem ge_15 : gcell γ (T, P, X, Y, E, B, M, O) 15 = .inr (3, [.ref (ad γ 1), .ref (ad γ 16), .ref (ad γ 17), .ref (ad γ 18), .int (P 4 0)]) := rfl
theorem ge_19 : gcell γ (T, P, X, Y, E, B, M, O) 19 = .inr (2, [.ref (ad γ 20), .int (Y 1 0), .int (Y 2 0)]) := rfl
theorem ge_21 : gcell γ (T, P, X, Y, E, B, M, O) 21 = .inr (1, [.ref (ad γ 22), .int (X 1 0), .int (X 2 0), .int (X 3 0), .int (X 4 0), .int (X 5 0), .int (X 6 0), .int (X 7 0)]) := rfl
theorem ge_23 : gcell γ (T, P, X, Y, E, B, M, O) 23 = .inr (6, [.int (M 0 0), .ref (ad γ 24), .int (M 2 0), .int (M 3 0), .ref (ad γ 25), .int (M 5 0), .int (M 6 0), .int (M 7 0), .int (M 8 0), .int (M 9 0), .int (M 10 0), .int (M 11 0), .ref (ad γ 26), .int (M 13 0), .ref (ad γ 27), .ref (ad γ 28), .ref (ad γ 29)]) := rfl
theorem ge_2 : gcell γ (T, P, X, Y, E, B, M, O) 2 = .inl (gI γ, 6, .inl (T 0)) := rfl
theorem gs_2 (f : Nat → Int32) : (gw γ (T, P, X, Y, E, B, M, O)).set 2 (ad γ 2, .inl (gI γ, 6, .inl f)) = gw γ (upr T 0 f, P, X, Y, E, B, M, O) := gw_T (r := 0) (by decide) f
theorem ge_3 : gcell γ (T, P, X, Y, E, B, M, O) 3 = .inl (gI γ, 6, .inl (T 1)) := rfl
theorem gs_3 (f : Nat → Int32) : (gw γ (T, P, X, Y, E, B, M, O)).set 3 (ad γ 3, .inl (gI γ, 6, .inl f)) = gw γ (upr T 1 f, P, X, Y, E, B, M, O) := gw_T (r := 1) (by decide) f
theorem ge_4 : gcell γ (T, P, X, Y, E, B, M, O) 4 = .inl (gI γ, 6, .inl (T 2)) := rfl
theorem gs_4 (f : Nat → Int32) : (gw γ (T, P, X, Y, E, B, M, O)).set 4 (ad γ 4, .inl (gI γ, 6, .inl f)) = gw γ (upr T 2 f, P, X, Y, E, B, M, O) := gw_T (r := 2) (by decide) f
theorem ge_5 : gcell γ (T, P, X, Y, E, B, M, O) 5 = .inl (gI γ, 6, .inl (T 3)) := rfl
theorem gs_5 (f : Nat → Int32) : (gw γ (T, P, X, Y, E, B, M, O)).set 5 (ad γ 5, .inl (gI γ, 6, .inl f)) = gw γ (upr T 3 f, P, X, Y, E, B, M, O) := gw_T (r := 3) (by decide) f
theorem ge_6 : gcell γ (T, P, X, Y, E, B, M, O) 6 = .inl (gI γ, 3, .inl (T 4)) := rfl
theorem gs_6 (f : Nat → Int32) : (gw γ (T, P, X, Y, E, B, M, O)).set 6 (ad γ 6, .inl (gI γ, 3, .inl f)) = gw γ (upr T 4 f, P, X, Y, E, B, M, O) := gw_T (r := 4) (by decide) f
theorem ge_7 : gcell γ (T, P, X, Y, E, B, M, O) 7 = .inl (gI γ, 14, .inl (T 5)) := rfl
theorem gs_7 (f : Nat → Int32) : (gw γ (T, P, X, Y, E, B, M, O)).set 7 (ad γ 7, .inl (gI γ, 14, .inl f)) = gw γ (upr T 5 f, P, X, Y, E, B, M, O) := gw_T (r := 5) (by decide) f
theorem ge_8 : gcell γ (T, P, X, Y, E, B, M, O) 8 = .inl (gI γ, 14, .inl (T 6)) := rfl
theorem gs_8 (f : Nat → Int32) : (gw γ (T, P, X, Y, E, B, M, O)).set 8 (ad γ 8, .inl (gI γ, 14, .inl f)) = gw γ (upr T 6 f, P, X, Y, E, B, M, O) := gw_T (r := 6) (by decide) f
theorem ge_9 : gcell γ (T, P, X, Y, E, B, M, O) 9 = .inl (gI γ, 14, .inl (T 7)) := rfl
theorem gs_9 (f : Nat → Int32) : (gw γ (T, P, X, Y, E, B, M, O)).set 9 (ad γ 9, .inl (gI γ, 14, .inl f)) = gw γ (upr T 7 f, P, X, Y, E, B, M, O) := gw_T (r := 7) (by decide) f
theorem ge_10 : gcell γ (T, P, X, Y, E, B, M, O) 10 = .inl (gI γ, 14, .inl (T 8)) := rfl
theorem gs_10 (f : Nat → Int32) : (gw γ (T, P, X, Y, E, B, M, O)).set 10 (ad γ 10, .inl (gI γ, 14, .inl f)) = gw γ (upr T 8 f, P, X, Y, E, B, M, O) := gw_T (r := 8) (by decide) f
theorem ge_11 : gcell γ (T, P, X, Y, E, B, M, O) 11 = .inl (gI γ, 14, .inl (T 9)) := rfl
theorem gs_11 (f : Nat → Int32) : (gw γ (T, P, X, Y, E, B, M, O)).set 11 (ad γ 11, .inl (gI γ, 14, .inl f)) = gw γ (upr T 9 f, P, X, Y, E, B, M, O) := gw_T (r := 9) (by decide) f
theorem ge_12 : gcell γ (T, P, X, Y, E, B, M, O) 12 = .inl (gI γ, 14, .inl (T 10)) := rfl
theorem gs_12 (f : Nat → Int32) : (gw γ (T, P, X, Y, E, B, M, O)).set 12 (ad γ 12, .inl (gI γ, 14, .inl f)) = gw γ (upr T 10 f, P, X, Y, E, B, M, O) := gw_T (r := 10) (by decide) f
theorem ge_13 : gcell γ (T, P, X, Y, E, B, M, O) 13 = .inl (gI γ, 14, .inl (T 11)) := rfl
theorem gs_13 (f : Nat → Int32) : (gw γ (T, P, X, Y, E, B, M, O)).set 13 (ad γ 13, .inl (gI γ, 14, .inl f)) = gw γ (upr T 11 f, P, X, Y, E, B, M, O) := gw_T (r := 11) (by decide) f
theorem ge_14 : gcell γ (T, P, X, Y, E, B, M, O) 14 = .inl (gZ γ, 14, .inl (T 12)) := rfl
theorem gs_14 (f : Nat → Int32) : (gw γ (T, P, X, Y, E, B, M, O)).set 14 (ad γ 14, .inl (gZ γ, 14, .inl f)) = gw γ (upr T 12 f, P, X, Y, E, B, M, O) := gw_T (r := 12) (by decide) f
theorem ge_16 : gcell γ (T, P, X, Y, E, B, M, O) 16 = .inl (gI γ, 14, .inl (P 1)) := rfl
theorem gs_16 (f : Nat → Int32) : (gw γ (T, P, X, Y, E, B, M, O)).set 16 (ad γ 16, .inl (gI γ, 14, .inl f)) = gw γ (T, upr P 1 f, X, Y, E, B, M, O) := gw_P (r := 0) (by decide) f
theorem ge_17 : gcell γ (T, P, X, Y, E, B, M, O) 17 = .inl (gI γ, 14, .inl (P 2)) := rfl
theorem gs_17 (f : Nat → Int32) : (gw γ (T, P, X, Y, E, B, M, O)).set 17 (ad γ 17, .inl (gI γ, 14, .inl f)) = gw γ (T, upr P 2 f, X, Y, E, B, M, O) := gw_P (r := 1) (by decide) f
theorem ge_18 : gcell γ (T, P, X, Y, E, B, M, O) 18 = .inl (gI γ, 14, .inl (P 3)) := rfl
theorem gs_18 (f : Nat → Int32) : (gw γ (T, P, X, Y, E, B, M, O)).set 18 (ad γ 18, .inl (gI γ, 14, .inl f)) = gw γ (T, upr P 3 f, X, Y, E, B, M, O) := gw_P (r := 2) (by decide) f
theorem ge_22 : gcell γ (T, P, X, Y, E, B, M, O) 22 = .inl (gI γ, 40, .inl (X 0)) := rfl
theorem gs_22 (f : Nat → Int32) : (gw γ (T, P, X, Y, E, B, M, O)).set 22 (ad γ 22, .inl (gI γ, 40, .inl f)) = gw γ (T, P, upr X 0 f, Y, E, B, M, O) := gw_X f
theorem ge_24 : gcell γ (T, P, X, Y, E, B, M, O) 24 = .inl (gI γ, 1008, .inl (M 1)) := rfl
theorem gs_24 (f : Nat → Int32) : (gw γ (T, P, X, Y, E, B, M, O)).set 24 (ad γ 24, .inl (gI γ, 1008, .inl f)) = gw γ (T, P, X, Y, E, B, upr M 1 f, O) := gw_M (r := 0) (by decide) f
theorem ge_25 : gcell γ (T, P, X, Y, E, B, M, O) 25 = .inl (gI γ, 40, .inl (M 4)) := rfl
theorem gs_25 (f : Nat → Int32) : (gw γ (T, P, X, Y, E, B, M, O)).set 25 (ad γ 25, .inl (gI γ, 40, .inl f)) = gw γ (T, P, X, Y, E, B, upr M 4 f, O) := gw_M (r := 1) (by decide) f
theorem ge_26 : gcell γ (T, P, X, Y, E, B, M, O) 26 = .inl (gI γ, 24, .inl (M 12)) := rfl
theorem gs_26 (f : Nat → Int32) : (gw γ (T, P, X, Y, E, B, M, O)).set 26 (ad γ 26, .inl (gI γ, 24, .inl f)) = gw γ (T, P, X, Y, E, B, upr M 12 f, O) := gw_M (r := 2) (by decide) f
theorem ge_27 : gcell γ (T, P, X, Y, E, B, M, O) 27 = .inl (gI γ, 14, .inl (M 14)) := rfl
theorem gs_27 (f : Nat → Int32) : (gw γ (T, P, X, Y, E, B, M, O)).set 27 (ad γ 27, .inl (gI γ, 14, .inl f)) = gw γ (T, P, X, Y, E, B, upr M 14 f, O) := gw_M (r := 3) (by decide) f
theorem ge_28 : gcell γ (T, P, X, Y, E, B, M, O) 28 = .inl (gI γ, 14, .inl (M 15)) := rfl
theorem gs_28 (f : Nat → Int32) : (gw γ (T, P, X, Y, E, B, M, O)).set 28 (ad γ 28, .inl (gI γ, 14, .inl f)) = gw γ (T, P, X, Y, E, B, upr M 15 f, O) := gw_M (r := 4) (by decide) f
theorem ge_29 : gcell γ (T, P, X, Y, E, B, M, O) 29 = .inl (gI γ, 14, .inl (M 16)) := rfl
theorem gs_29 (f : Nat → Int32) : (gw γ (T, P, X, Y, E, B, M, O)).set 29 (ad γ 29, .inl (gI γ, 14, .inl f)) = gw γ (T, P, X, Y, E, B, upr M 16 f, O) := gw_M (r := 5) (by decide) f
theorem ge_20 : gcell γ (T, P, X, Y, E, B, M, O) 20 = .inl (gT γ, 7, .inr (.inr (.inr (.inr (fun j => some (ad γ (31 + 14 * j))))))) := rfl
theorem ge_30 : gcell γ (T, P, X, Y, E, B, M, O) 30 = .inl (gL γ, 1, .inr (.inl O)) := rfl
theorem gp_0_5 (v : Int32) : (gw γ (T, P, X, Y, E, B, M, O)).set 0 (ad γ 0, .inr (5, ([.ref (ad γ 1), .ref (ad γ 129), .ref (ad γ 15), .ref (ad γ 19), .ref (ad γ 21), .int (B 5 0)] : List Value).set 5 (.int v))) = gw γ (T, P, X, Y, E, us B 5 v, M, O) := gw_B v
theorem gp_1_13 (v : Int32) : (gw γ (T, P, X, Y, E, B, M, O)).set 1 (ad γ 1, .inr (4, ([.ref (ad γ 2), .ref (ad γ 3), .ref (ad γ 4), .ref (ad γ 5), .ref (ad γ 6), .ref (ad γ 7), .ref (ad γ 8), .ref (ad γ 9), .ref (ad γ 10), .ref (ad γ 11), .ref (ad γ 12), .ref (ad γ 13), .ref (ad γ 14), .int (T 13 0)] : List Value).set 13 (.int v))) = gw γ (us T 13 v, P, X, Y, E, B, M, O) := gw_Ts v
theorem gp_15_4 (v : Int32) : (gw γ (T, P, X, Y, E, B, M, O)).set 15 (ad γ 15, .inr (3, ([.ref (ad γ 1), .ref (ad γ 16), .ref (ad γ 17), .ref (ad γ 18), .int (P 4 0)] : List Value).set 4 (.int v))) = gw γ (T, us P 4 v, X, Y, E, B, M, O) := gw_Ps v
theorem gp_19_1 (v : Int32) : (gw γ (T, P, X, Y, E, B, M, O)).set 19 (ad γ 19, .inr (2, ([.ref (ad γ 20), .int (Y 1 0), .int (Y 2 0)] : List Value).set 1 (.int v))) = gw γ (T, P, X, us Y 1 v, E, B, M, O) := gw_Ys (r := 1) v
theorem gp_19_2 (v : Int32) : (gw γ (T, P, X, Y, E, B, M, O)).set 19 (ad γ 19, .inr (2, ([.ref (ad γ 20), .int (Y 1 0), .int (Y 2 0)] : List Value).set 2 (.int v))) = gw γ (T, P, X, us Y 2 v, E, B, M, O) := gw_Ys (r := 2) v
theorem gp_21_1 (v : Int32) : (gw γ (T, P, X, Y, E, B, M, O)).set 21 (ad γ 21, .inr (1, ([.ref (ad γ 22), .int (X 1 0), .int (X 2 0), .int (X 3 0), .int (X 4 0), .int (X 5 0), .int (X 6 0), .int (X 7 0)] : List Value).set 1 (.int v))) = gw γ (T, P, us X 1 v, Y, E, B, M, O) := gw_Xs (r := 1) (by decide) v
theorem gp_21_2 (v : Int32) : (gw γ (T, P, X, Y, E, B, M, O)).set 21 (ad γ 21, .inr (1, ([.ref (ad γ 22), .int (X 1 0), .int (X 2 0), .int (X 3 0), .int (X 4 0), .int (X 5 0), .int (X 6 0), .int (X 7 0)] : List Value).set 2 (.int v))) = gw γ (T, P, us X 2 v, Y, E, B, M, O) := gw_Xs (r := 2) (by decide) v
theorem gp_21_3 (v : Int32) : (gw γ (T, P, X, Y, E, B, M, O)).set 21 (ad γ 21, .inr (1, ([.ref (ad γ 22), .int (X 1 0), .int (X 2 0), .int (X 3 0), .int (X 4 0), .int (X 5 0), .int (X 6 0), .int (X 7 0)] : List Value).set 3 (.int v))) = gw γ (T, P, us X 3 v, Y, E, B, M, O) := gw_Xs (r := 3) (by decide) v
theorem gp_21_4 (v : Int32) : (gw γ (T, P, X, Y, E, B, M, O)).set 21 (ad γ 21, .inr (1, ([.ref (ad γ 22), .int (X 1 0), .int (X 2 0), .int (X 3 0), .int (X 4 0), .int (X 5 0), .int (X 6 0), .int (X 7 0)] : List Value).set 4 (.int v))) = gw γ (T, P, us X 4 v, Y, E, B, M, O) := gw_Xs (r := 4) (by decide) v
theorem gp_21_5 (v : Int32) : (gw γ (T, P, X, Y, E, B, M, O)).set 21 (ad γ 21, .inr (1, ([.ref (ad γ 22), .int (X 1 0), .int (X 2 0), .int (X 3 0), .int (X 4 0), .int (X 5 0), .int (X 6 0), .int (X 7 0)] : List Value).set 5 (.int v))) = gw γ (T, P, us X 5 v, Y, E, B, M, O) := gw_Xs (r := 5) (by decide) v
theorem gp_21_6 (v : Int32) : (gw γ (T, P, X, Y, E, B, M, O)).set 21 (ad γ 21, .inr (1, ([.ref (ad γ 22), .int (X 1 0), .int (X 2 0), .int (X 3 0), .int (X 4 0), .int (X 5 0), .int (X 6 0), .int (X 7 0)] : List Value).set 6 (.int v))) = gw γ (T, P, us X 6 v, Y, E, B, M, O) := gw_Xs (r := 6) (by decide) v
theorem gp_21_7 (v : Int32) : (gw γ (T, P, X, Y, E, B, M, O)).set 21 (ad γ 21, .inr (1, ([.ref (ad γ 22), .int (X 1 0), .int (X 2 0), .int (X 3 0), .int (X 4 0), .int (X 5 0), .int (X 6 0), .int (X 7 0)] : List Value).set 7 (.int v))) = gw γ (T, P, us X 7 v, Y, E, B, M, O) := gw_Xs (r := 7) (by decide) v
theorem gp_23_0 (v : Int32) : (gw γ (T, P, X, Y, E, B, M, O)).set 23 (ad γ 23, .inr (6, ([.int (M 0 0), .ref (ad γ 24), .int (M 2 0), .int (M 3 0), .ref (ad γ 25), .int (M 5 0), .int (M 6 0), .int (M 7 0), .int (M 8 0), .int (M 9 0), .int (M 10 0), .int (M 11 0), .ref (ad γ 26), .int (M 13 0), .ref (ad γ 27), .ref (ad γ 28), .ref (ad γ 29)] : List Value).set 0 (.int v))) = gw γ (T, P, X, Y, E, B, us M 0 v, O) := gw_Ms (r := 0) (by decide) v
theorem gp_23_2 (v : Int32) : (gw γ (T, P, X, Y, E, B, M, O)).set 23 (ad γ 23, .inr (6, ([.int (M 0 0), .ref (ad γ 24), .int (M 2 0), .int (M 3 0), .ref (ad γ 25), .int (M 5 0), .int (M 6 0), .int (M 7 0), .int (M 8 0), .int (M 9 0), .int (M 10 0), .int (M 11 0), .ref (ad γ 26), .int (M 13 0), .ref (ad γ 27), .ref (ad γ 28), .ref (ad γ 29)] : List Value).set 2 (.int v))) = gw γ (T, P, X, Y, E, B, us M 2 v, O) := gw_Ms (r := 2) (by decide) v
theorem gp_23_3 (v : Int32) : (gw γ (T, P, X, Y, E, B, M, O)).set 23 (ad γ 23, .inr (6, ([.int (M 0 0), .ref (ad γ 24), .int (M 2 0), .int (M 3 0), .ref (ad γ 25), .int (M 5 0), .int (M 6 0), .int (M 7 0), .int (M 8 0), .int (M 9 0), .int (M 10 0), .int (M 11 0), .ref (ad γ 26), .int (M 13 0), .ref (ad γ 27), .ref (ad γ 28), .ref (ad γ 29)] : List Value).set 3 (.int v))) = gw γ (T, P, X, Y, E, B, us M 3 v, O) := gw_Ms (r := 3) (by decide) v
theorem gp_23_5 (v : Int32) : (gw γ (T, P, X, Y, E, B, M, O)).set 23 (ad γ 23, .inr (6, ([.int (M 0 0), .ref (ad γ 24), .int (M 2 0), .int (M 3 0), .ref (ad γ 25), .int (M 5 0), .int (M 6 0), .int (M 7 0), .int (M 8 0), .int (M 9 0), .int (M 10 0), .int (M 11 0), .ref (ad γ 26), .int (M 13 0), .ref (ad γ 27), .ref (ad γ 28), .ref (ad γ 29)] : List Value).set 5 (.int v))) = gw γ (T, P, X, Y, E, B, us M 5 v, O) := gw_Ms (r := 5) (by decide) v
theorem gp_23_6 (v : Int32) : (gw γ (T, P, X, Y, E, B, M, O)).set 23 (ad γ 23, .inr (6, ([.int (M 0 0), .ref (ad γ 24), .int (M 2 0), .int (M 3 0), .ref (ad γ 25), .int (M 5 0), .int (M 6 0), .int (M 7 0), .int (M 8 0), .int (M 9 0), .int (M 10 0), .int (M 11 0), .ref (ad γ 26), .int (M 13 0), .ref (ad γ 27), .ref (ad γ 28), .ref (ad γ 29)] : List Value).set 6 (.int v))) = gw γ (T, P, X, Y, E, B, us M 6 v, O) := gw_Ms (r := 6) (by decide) v
theorem gp_23_7 (v : Int32) : (gw γ (T, P, X, Y, E, B, M, O)).set 23 (ad γ 23, .inr (6, ([.int (M 0 0), .ref (ad γ 24), .int (M 2 0), .int (M 3 0), .ref (ad γ 25), .int (M 5 0), .int (M 6 0), .int (M 7 0), .int (M 8 0), .int (M 9 0), .int (M 10 0), .int (M 11 0), .ref (ad γ 26), .int (M 13 0), .ref (ad γ 27), .ref (ad γ 28), .ref (ad γ 29)] : List Value).set 7 (.int v))) = gw γ (T, P, X, Y, E, B, us M 7 v, O) := gw_Ms (r := 7) (by decide) v
theorem gp_23_8 (v : Int32) : (gw γ (T, P, X, Y, E, B, M, O)).set 23 (ad γ 23, .inr (6, ([.int (M 0 0), .ref (ad γ 24), .int (M 2 0), .int (M 3 0), .ref (ad γ 25), .int (M 5 0), .int (M 6 0), .int (M 7 0), .int (M 8 0), .int (M 9 0), .int (M 10 0), .int (M 11 0), .ref (ad γ 26), .int (M 13 0), .ref (ad γ 27), .ref (ad γ 28), .ref (ad γ 29)] : List Value).set 8 (.int v))) = gw γ (T, P, X, Y, E, B, us M 8 v, O) := gw_Ms (r := 8) (by decide) v
theorem gp_23_9 (v : Int32) : (gw γ (T, P, X, Y, E, B, M, O)).set 23 (ad γ 23, .inr (6, ([.int (M 0 0), .ref (ad γ 24), .int (M 2 0), .int (M 3 0), .ref (ad γ 25), .int (M 5 0), .int (M 6 0), .int (M 7 0), .int (M 8 0), .int (M 9 0), .int (M 10 0), .int (M 11 0), .ref (ad γ 26), .int (M 13 0), .ref (ad γ 27), .ref (ad γ 28), .ref (ad γ 29)] : List Value).set 9 (.int v))) = gw γ (T, P, X, Y, E, B, us M 9 v, O) := gw_Ms (r := 9) (by decide) v
theorem gp_23_10 (v : Int32) : (gw γ (T, P, X, Y, E, B, M, O)).set 23 (ad γ 23, .inr (6, ([.int (M 0 0), .ref (ad γ 24), .int (M 2 0), .int (M 3 0), .ref (ad γ 25), .int (M 5 0), .int (M 6 0), .int (M 7 0), .int (M 8 0), .int (M 9 0), .int (M 10 0), .int (M 11 0), .ref (ad γ 26), .int (M 13 0), .ref (ad γ 27), .ref (ad γ 28), .ref (ad γ 29)] : List Value).set 10 (.int v))) = gw γ (T, P, X, Y, E, B, us M 10 v, O) := gw_Ms (r := 10) (by decide) v
theorem gp_23_11 (v : Int32) : (gw γ (T, P, X, Y, E, B, M, O)).set 23 (ad γ 23, .inr (6, ([.int (M 0 0), .ref (ad γ 24), .int (M 2 0), .int (M 3 0), .ref (ad γ 25), .int (M 5 0), .int (M 6 0), .int (M 7 0), .int (M 8 0), .int (M 9 0), .int (M 10 0), .int (M 11 0), .ref (ad γ 26), .int (M 13 0), .ref (ad γ 27), .ref (ad γ 28), .ref (ad γ 29)] : List Value).set 11 (.int v))) = gw γ (T, P, X, Y, E, B, us M 11 v, O) := gw_Ms (r := 11) (by decide) v
theorem gp_23_13 (v : Int32) : (gw γ (T, P, X, Y, E, B, M, O)).set 23 (ad γ 23, .inr (6, ([.int (M 0 0), .ref (ad γ 24), .int (M 2 0), .int (M 3 0), .ref (ad γ 25), .int (M 5 0), .int (M 6 0), .int (M 7 0), .int (M 8 0), .int (M 9 0), .int (M 10 0), .int (M 11 0), .ref (ad γ 26), .int (M 13 0), .ref (ad γ 27), .ref (ad γ 28), .ref (ad γ 29)] : List Value).set 13 (.int v))) = gw γ (T, P, X, Y, E, B, us M 13 v, O) := gw_Ms (r := 13) (by decide) v
end GE
theorem inX0 : ∀ w ∈ u_ws RX0 TX0 8, w ∈ UG := List.forall_mem_cons.mpr ⟨u_1_171, List.forall_mem_cons.mpr ⟨u_1_173, List.forall_mem_cons.mpr ⟨u_1_175, List.forall_mem_cons.mpr ⟨u_1_177, List.forall_mem_cons.mpr ⟨u_1_179, List.forall_mem_cons.mpr ⟨u_1_181, List.forall_mem_cons.mpr ⟨u_1_183, List.forall_mem_cons.mpr ⟨u_1_185, fun _ h => nomatch h⟩⟩⟩⟩⟩⟩⟩⟩
theorem inX1 : ∀ w ∈ u_ws RX1 TX1 3, w ∈ UG := List.forall_mem_cons.mpr ⟨u_1_144, List.forall_mem_cons.mpr ⟨u_1_146, List.forall_mem_cons.mpr ⟨u_1_148, fun _ h => nomatch h⟩⟩⟩
theorem inX2 : ∀ w ∈ u_ws RX2 TX2 5, w ∈ UG := List.forall_mem_cons.mpr ⟨u_1_120, List.forall_mem_cons.mpr ⟨u_1_122, List.forall_mem_cons.mpr ⟨u_1_124, List.forall_mem_cons.mpr ⟨u_1_126, List.forall_mem_cons.mpr ⟨u_1_128, fun _ h => nomatch h⟩⟩⟩⟩⟩
theorem inX3 : ∀ w ∈ u_ws RX3 TX3 14, w ∈ UG := List.forall_mem_cons.mpr ⟨u_1_78, List.forall_mem_cons.mpr ⟨u_1_80, List.forall_mem_cons.mpr ⟨u_1_82, List.forall_mem_cons.mpr ⟨u_1_84, List.forall_mem_cons.mpr ⟨u_1_86, List.forall_mem_cons.mpr ⟨u_1_88, List.forall_mem_cons.mpr ⟨u_1_90, List.forall_mem_cons.mpr ⟨u_1_92, List.forall_mem_cons.mpr ⟨u_1_94, List.forall_mem_cons.mpr ⟨u_1_96, List.forall_mem_cons.mpr ⟨u_1_98, List.forall_mem_cons.mpr ⟨u_1_100, List.forall_mem_cons.mpr ⟨u_1_102, List.forall_mem_cons.mpr ⟨u_1_104, fun _ h => nomatch h⟩⟩⟩⟩⟩⟩⟩⟩⟩⟩⟩⟩⟩⟩
theorem inX4 : ∀ w ∈ u_ws RX4 TX4 6, w ∈ UG := List.forall_mem_cons.mpr ⟨u_1_194, List.forall_mem_cons.mpr ⟨u_1_196, List.forall_mem_cons.mpr ⟨u_1_198, List.forall_mem_cons.mpr ⟨u_1_200, List.forall_mem_cons.mpr ⟨u_1_202, List.forall_mem_cons.mpr ⟨u_1_204, fun _ h => nomatch h⟩⟩⟩⟩⟩⟩
theorem inX5 : ∀ w ∈ u_ws RX5 TX5 17, w ∈ UG := List.forall_mem_cons.mpr ⟨u_5_171, List.forall_mem_cons.mpr ⟨u_5_173, List.forall_mem_cons.mpr ⟨u_5_175, List.forall_mem_cons.mpr ⟨u_5_177, List.forall_mem_cons.mpr ⟨u_5_179, List.forall_mem_cons.mpr ⟨u_5_181, List.forall_mem_cons.mpr ⟨u_5_183, List.forall_mem_cons.mpr ⟨u_5_185, List.forall_mem_cons.mpr ⟨u_5_187, List.forall_mem_cons.mpr ⟨u_5_189, List.forall_mem_cons.mpr ⟨u_5_191, List.forall_mem_cons.mpr ⟨u_5_193, List.forall_mem_cons.mpr ⟨u_5_195, List.forall_mem_cons.mpr ⟨u_5_197, List.forall_mem_cons.mpr ⟨u_5_199, List.forall_mem_cons.mpr ⟨u_5_201, List.forall_mem_cons.mpr ⟨u_5_203, fun _ h => nomatch h⟩⟩⟩⟩⟩⟩⟩⟩⟩⟩⟩⟩⟩⟩⟩⟩⟩
