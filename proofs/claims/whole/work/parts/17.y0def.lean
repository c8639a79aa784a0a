/-- the text of an event: its signs -/
def dgs (v : Int32) : Option (List Int32) := if 0 ≤ v then (if v < 10 then some [v + 48] else if v < 100 then some [v / 10 + 48, im v 10 + 48] else none) else none
def app (cs d : List Int32) : Option (List Int32) := if cs.length + d.length ≤ 34 then some (cs ++ d) else none
def chAt (cs : List Int32) (i : Int32) : Option Int32 := if i < 0 ∨ cs.length ≤ i.toNatClampNeg then none else some (cs.getD i.toNatClampNeg 0)
def r3_textOf_b25 (T : OS) (x1 : Int32) (cs : List Int32) (x3 x4 : Int32) : Option ((List Int32 × Int32 × Int32) ⊕ (List Int32)) :=
  (if 6 ≤ x4 then some (.inr cs)
  else (rd 14 (T 6) x1).bind fun v1 =>
  bd1 (r4_contains v1 x4) (fun v2 =>
  (if v2 = 0 then some (.inl (cs, x3, (x4 + 1)))
  else (app cs [x3]).bind fun c1 => (dgs x4).bind fun d => (app c1 d).bind fun c2 => some (.inl (c2, 44, (x4 + 1))))))
def r3_textOf_j91 (T : OS) (x1 : Int32) (cs : List Int32) : Option (List Int32) :=
  (rd 14 (T 8) x1).bind fun v1 =>
  (if v1 = 2 then (app cs [42]).bind fun c1 => (app c1 [50]).bind fun c2 => some c2
  else some cs)
def r3_textOf (T : OS) (x1 : Int32) : Option (List Int32) :=
  (rd 14 (T 5) x1).bind fun v1 => (dgs v1).bind fun d => (app [] d).bind fun c1 =>
  bd1 (it3 (r3_textOf_b25 T x1) 200 c1 58 0) (fun c2 =>
  (rd 14 (T 7) x1).bind fun v2 =>
  (if v2 = 0 then r3_textOf_j91 T x1 c2
  else (app c2 [47]).bind fun c3 => (dgs v2).bind fun d => (app c3 d).bind fun c4 => r3_textOf_j91 T x1 c4))
def r4_describe (T : OS) (x1 : Int32) (x2 : Int32) : Option (Nat ⊕ Int32) :=
  bd1 (r4_requireEvent T x1) (fun o1 => bx o1 (fun k2 => some (.inl k2)) (fun _ =>
  (r3_textOf T x1).bind fun cs =>
  (if x2 = (-1) then some (.inr (nI cs.length))
  else bd1 (r4_requireIndex x2 (nI cs.length)) (fun o3 => bx o3 (fun k4 => some (.inl k4)) (fun _ =>
  (chAt cs x2).bind fun v => some (.inr v))))))
