/-! ===== the product of polynomials as it is summed up in loops ===== -/
/-- of the first n of p: what they give at place q -/
def ps (p f : Nat → Int) : Nat → Nat → Int
  | 0, _ => 0
  | n + 1, q => ps p f n q + (if n ≤ q then p n * f (q - n) else 0)
theorem ps_sh (p f : Nat → Int) : ∀ n q, ps p f (n + 1) (q + 1) = p 0 * f (q + 1) + ps (fun i => p (i + 1)) f n q
  | 0, q => by
    show (0 : Int) + (if 0 ≤ q + 1 then p 0 * f (q + 1 - 0) else 0) = p 0 * f (q + 1) + 0
    rw [if_pos (by omega)]
    show (0 : Int) + p 0 * f (q + 1) = _
    omega
  | n + 1, q => by
    show ps p f (n + 1) (q + 1) + (if n + 1 ≤ q + 1 then p (n + 1) * f (q + 1 - (n + 1)) else 0) = p 0 * f (q + 1) + (ps (fun i => p (i + 1)) f n q + (if n ≤ q then p (n + 1) * f (q - n) else 0))
    rw [ps_sh p f n q, show q + 1 - (n + 1) = q - n by omega]
    by_cases h : n ≤ q
    · rw [if_pos h, if_pos (by omega)]; omega
    · rw [if_neg h, if_neg (by omega)]; omega
theorem ps_pm (p f : Nat → Int) : ∀ q, ps p f (q + 1) q = pm p f q := by
  intro q
  induction q generalizing p with
  | zero =>
    show (0 : Int) + (if 0 ≤ 0 then p 0 * f (0 - 0) else 0) = p 0 * f 0
    rw [if_pos (Nat.le_refl 0)]
    show (0 : Int) + p 0 * f 0 = _
    omega
  | succ q ih => rw [ps_sh, ih]; rfl
theorem ps_lo (p f : Nat → Int) {n q : Nat} (h : q < n) : ps p f n q = pm p f q := by
  obtain ⟨k, rfl⟩ : ∃ k, n = q + 1 + k := ⟨n - (q + 1), by omega⟩
  induction k with
  | zero => exact ps_pm p f q
  | succ k ih =>
    show ps p f (q + 1 + k) q + (if q + 1 + k ≤ q then _ else 0) = _
    rw [if_neg (by omega), ih (by omega)]
    omega
theorem ps_hi {p f : Nat → Int} {n : Nat} (hp : ∀ i, n ≤ i → p i = 0) : ∀ k q, ps p f (n + k) q = ps p f n q
  | 0, q => rfl
  | k + 1, q => by
    show ps p f (n + k) q + (if n + k ≤ q then p (n + k) * f (q - (n + k)) else 0) = _
    rw [ps_hi hp k q, hp (n + k) (by omega), Int.zero_mul]
    split <;> omega
/-- where p has no more than n numbers -/
theorem ps_all {p f : Nat → Int} {n : Nat} (hp : ∀ i, n ≤ i → p i = 0) (q : Nat) : ps p f n q = pm p f q := by
  rw [← ps_hi hp (q + 1) q, ps_lo p f (by omega)]
