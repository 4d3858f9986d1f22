/-! ===== specs ===== -/
theorem t_168 {e : Nat} {M : MM} {R : RR} (hL : Lay R) {P : Nat} {v : Int} (hv : 0 ≤ v) (hP : M 57 2 = (P : Int)) (hP7 : P ≤ 7) : ∀ k i : Nat, i + k = P → (∀ j, j < i → M 61 j < v) → run (call e) 168 2 [vA 57, vI v, vI i] [] M R = some (vI (b2 (v ≤ mx (M 61) P)), M, R)
  | 0, i, h, hj => by
    have hn : ¬ v ≤ mx (M 61) P := by
      rw [mx_iff hv]
      rintro ⟨j, h1, h2⟩
      have := hj j (by omega)
      omega
    rw [b_168_2, if_pos (by omega), b_168_28, b2_f hn]
  | k + 1, i, h, hj => by
    have e1 : w32 ((i : Int) + 1) = ((i + 1 : Nat) : Int) := by rw [w32_i (by omega)]; omega
    rw [b_168_2, if_neg (by omega), b_168_10 hL, if_pos (by omega), Int.toNat_natCast]
    by_cases g : M 61 i < v
    · rw [if_pos g, b_168_22, e1]
      exact t_168 hL hv hP hP7 k (i + 1) (by omega) (fun j hj' => by
        by_cases q : j = i
        · subst q; exact g
        · exact hj j (by omega))
    · have hy : v ≤ mx (M 61) P := (mx_iff hv P).2 ⟨i, by omega, by omega⟩
      rw [if_neg g, b_168_20, b2_t hy]
theorem s_168 {d0 : Nat} (hd : 1 ≤ d0) {M : MM} {R : RR} (hL : Lay R) {P : Nat} {v : Int} (hv : 0 ≤ v) (hP : M 57 2 = (P : Int)) (hP7 : P ≤ 7) : call d0 168 [vA 57, vI v] M R = some (vI (b2 (v ≤ mx (M 61) P)), M, R) := by
  obtain ⟨e, rfl⟩ := s_le hd
  refine call_of 3 [vA 57, vI v, vX 0] (by decide) rfl (Nat.le_of_ble_eq_true rfl) rfl ?_ b2_ok
  rw [b_168_0]
  exact t_168 hL hv hP hP7 P 0 (by omega) (fun j hj => absurd hj (by omega))
