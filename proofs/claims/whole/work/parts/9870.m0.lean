/-! ===== the law's memory at the start ===== -/
def M0 (xs : Nat → Int32) : MM := fun o i => if o = 0 then (xs i).toInt else 0
def R0 (L : Nat) : RR := fun o i => if o = 0 ∧ i = 2 then L else 0
/-- what the clean machine is to do with every script -/
def LAWRUN : Prop := ∀ (L : Nat) (xs : Nat → Int32), L ≤ 3584 → ∃ (d : Nat) (M' : MM) (R' : RR), d ≤ 1390 ∧ run (call d) 261 0 [vX 2, vX 0, vX 0, vX 0] [] (M0 xs) (R0 L) = some (vI 1, M', R') ∧ R' 0 0 ≤ 600000 ∧ R' 0 1 ≤ 7302250
