/-! ===== a product over a mask is one over its list ===== -/
theorem wp_app (f : Nat → Int) : ∀ l l' : List Nat, wp f (l ++ l') = wp f l * wp f l'
  | [], l' => by show wp f l' = 1 * wp f l'; rw [Int.one_mul]
  | a :: l, l' => by
    show f a * wp f (l ++ l') = f a * wp f l * wp f l'
    rw [wp_app f l l', Int.mul_assoc]
theorem pr_wpn (f : Nat → Int) (s : Nat) : ∀ n, pr f s n = wp f ((List.range n).filter (fun k => s.testBit k))
  | 0 => rfl
  | n + 1 => by
    rw [List.range_succ, List.filter_append, wp_app, ← pr_wpn f s n]
    show (if s.testBit n then pr f s n * f n else pr f s n) = _
    by_cases h : s.testBit n = true
    · rw [if_pos h]
      simp [List.filter, h, wp]
    · rw [if_neg h]
      simp [List.filter, h, wp]
theorem pr_wp {f : Nat → Int} {s P : Nat} (hs : s < 2 ^ P) (hP : P ≤ 24) : pr f s P = wp f (bl s) := by
  rw [← pr_ext hs 24 hP, pr_wpn]
  rfl
theorem bl_mk {s : Nat} (hs : s < 128) : mk (bl s) = s := mk_bl ⟨s, hs⟩
theorem bl_len7 : ∀ s : Fin 128, (bl s).length ≤ 7 := by decide +kernel
