/-! ===== specs ===== -/
/-- the latest of so many; -1: none -/
def mx (f : Nat → Int) : Nat → Int
  | 0 => -1
  | n + 1 => max (mx f n) (f n)
theorem s_11 {d0 : Nat} (hd : 1 ≤ d0) {M : MM} {R : RR} (hL : Lay R) {P : Nat} (hP : M 4 0 = (P : Int)) (hP7 : P ≤ 7) : call d0 11 [vA 4] M R = some (vI (mx (M 7) P), M, R) := by
  obtain ⟨e, rfl⟩ := s_le hd
  refine call_of 3 [vA 4, vX 0, vX 0] (by decide) rfl (Nat.le_of_ble_eq_true rfl) rfl ?_ rfl
  have key := iter_eq (fun p : Nat => run (call e) 11 4 [vA 4, vI (mx (M 7) p), vI p] [] M R) P ?_
  · rw [b_11_0]
    refine Eq.trans key ?_
    show run (call e) 11 4 [vA 4, vI (mx (M 7) P), vI P] [] M R = _
    rw [b_11_4, if_pos (by omega), b_11_29]
  · intro p hp
    have e1 : w32 ((p : Int) + 1) = ((p + 1 : Nat) : Int) := by rw [w32_i (by omega)]; omega
    show run (call e) 11 4 [vA 4, vI (mx (M 7) p), vI p] [] M R = _
    rw [b_11_4, if_neg (by omega), b_11_12 hL, if_pos (by omega), e1, Int.toNat_natCast]
    rfl
theorem mx_iff {f : Nat → Int} {v : Int} (hv : 0 ≤ v) : ∀ n, v ≤ mx f n ↔ ∃ i, i < n ∧ v ≤ f i
  | 0 => by
    show v ≤ -1 ↔ _
    constructor
    · intro h; omega
    · rintro ⟨i, hi, _⟩; omega
  | n + 1 => by
    have ih := mx_iff (f := f) hv n
    show v ≤ max (mx f n) (f n) ↔ _
    constructor
    · intro h
      by_cases g : v ≤ mx f n
      · obtain ⟨i, hi, h'⟩ := ih.1 g
        exact ⟨i, by omega, h'⟩
      · exact ⟨n, by omega, by omega⟩
    · rintro ⟨i, hi, h'⟩
      by_cases g : i = n
      · subst g; omega
      · have := ih.2 ⟨i, by omega, h'⟩
        omega
