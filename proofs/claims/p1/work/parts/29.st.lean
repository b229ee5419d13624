/-! a table alone: its layout while it is made -/
def xST (D : va_G) (cA cB : ClassId) (tad : Nat → Nat) (h0 q1 q2 q3 q4 : Nat) : Xs := (D, fun k => match k with | 0 => h0 | 1 => q1 | 2 => q2 | 3 => q3 | 4 => q4 | k + 5 => tad k, cA, cB)
def lST (j : Nat) : La := (5, fun k => if k = 0 then 2 else 100, fun k => match k with | 4 => tln j | _ => 16, fun _ s => match s with | 0 => 5 + j | s => s)
def fST : Mem := fun _ _ => 0
theorem some_of {α : Type} {x : Option α} {d : α} (h : x.isSome = true) : x = some (x.getD d) := by
  cases x with
  | none => cases h
  | some y => rfl
