/-! ===== the two ways in which parts of a set are gone through ===== -/
def enC (others : Nat) : Nat → Nat → List Nat
  | 0, _ => []
  | f + 1, x => x :: (if x = 0 then [] else enC others f ((x - 1) &&& others))
theorem enC_p : ∀ s : Fin 128, (enC s 128 s).Perm (subM s) := by decide +kernel
/-- the parts of a set among 0 .. s -/
def enM (s : Nat) : List Nat := (List.range (s + 1)).filter (fun on => on &&& (127 ^^^ s) == 0)
theorem enM_p : ∀ s : Fin 128, (enM s).Perm (subM s) := by decide +kernel
