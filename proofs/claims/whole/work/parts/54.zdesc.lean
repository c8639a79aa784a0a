/-! THE PURE LAYER: an event's text -/
section C8
variable {T Y B X M : OS} {E : Nat → OS} {n : Nat}
theorem ca_describe (hW : WF T n) (hR : RB (M 1) T n) (a b : Int32) : ∃ o v M', r4_describe T a b = some o ∧ r5_describe M a b = some (v, M') ∧ agr cdE o v (M' 0 0) ∧ RB (M' 1) T n ∧ KP M M' := by
  sorry
end C8
