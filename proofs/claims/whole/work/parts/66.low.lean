/-! ===== specs ===== -/
/-- the exponential, for lists of at most so many -/
def EL (g : List Nat → Nat → Int) : Nat → List Nat → Nat → Int
  | 0, _ => one
  | _ + 1, [] => one
  | k + 1, a :: l => cnv (fun m => g (a :: m)) (EL g k) l
theorem EL_s (g : List Nat → Nat → Int) : ∀ (k : Nat) (l : List Nat), l.length ≤ k → EL g (k + 1) l = EL g k l := by
  intro k
  induction k with
  | zero =>
    intro l hl
    cases l with
    | nil => rfl
    | cons a l => exact absurd hl (by simp)
  | succ k ih =>
    intro l hl
    cases l with
    | nil => rfl
    | cons a l =>
      show cnv (fun m => g (a :: m)) (EL g (k + 1)) l = cnv (fun m => g (a :: m)) (EL g k) l
      exact cv_g _ _ _ _ l (fun _ _ => rfl) (fun m hm => ih m (Nat.le_trans hm (by simpa using hl)))
theorem EL_e (g : List Nat → Nat → Int) (k : Nat) : isE (k + 1) g (EL g (k + 1)) := by
  refine ⟨rfl, ?_⟩
  intro a l hl
  show cnv (fun m => g (a :: m)) (EL g k) l = cnv (fun m => g (a :: m)) (EL g (k + 1)) l
  exact cv_g _ _ _ _ l (fun _ _ => rfl) (fun m hm => (EL_s g k m (by omega)).symm)
/-- the lowest of a set, and the others -/
def low (s : Nat) : Nat := 2 ^ ((bl s).headD 0)
theorem low_ok : ∀ s : Fin 128, 0 < (s : Nat) → bl s = (bl s).headD 0 :: bl ((s : Nat) ^^^ low s) ∧ c_and ((s : Nat) : Int) (w32 (-((s : Nat) : Int))) = (low s : Int) ∧ low s < 128 ∧ (s : Nat) ^^^ low s < 128 := by decide +kernel
theorem sub_ok : ∀ s : Fin 128, 0 < (s : Nat) → ∀ x ∈ subM ((s : Nat) ^^^ low s), x < 128 ∧ low s ||| x < 128 ∧ bl (low s ||| x) = (bl s).headD 0 :: bl x ∧ (s : Nat) ^^^ (low s ||| x) = ((s : Nat) ^^^ low s) ^^^ x ∧ ((s : Nat) ^^^ low s) ^^^ x < (s : Nat) ∧ (bl s).length = (bl (low s ||| x)).length + (bl (((s : Nat) ^^^ low s) ^^^ x)).length := by decide +kernel
