/-! ===== specs ===== -/
/-- what so many on one DAY add; the most for so many (0: PAIRS, 1: DAYS TAKEN, 2: nothing) -/
def wo (so k : Nat) : Nat := if so = 0 then k * (k - 1) / 2 else if so = 1 then (if 0 < k then 1 else 0) else 0
def mo (so k : Nat) : Nat := if so = 0 then k * (k - 1) / 2 else if so = 1 then k else 0
theorem half_8 : ∀ k : Fin 8, w32 (Int.tdiv (w32 (((k : Nat) : Int) * (w32 (((k : Nat) : Int) - 1)))) 2) = (((k : Nat) * ((k : Nat) - 1) / 2 : Nat) : Int) := by decide +kernel
theorem s_39 {d0 : Nat} (hd : 1 ≤ d0) {M : MM} {R : RR} {o so k : Nat} (hk : kindOf o = 5) (hs : M o 0 = (so : Int)) (hk7 : k < 8) : call d0 39 [vA o, vI k] M R = some (vI (wo so k : Nat), M, R) := by
  obtain ⟨e, rfl⟩ := s_le hd
  refine call_of 2 [vA o, vI k] (by decide) rfl (Nat.le_of_ble_eq_true rfl) rfl ?_ rfl
  rw [b_39_0 _ _ hk, b_39_4, hs]
  unfold wo
  by_cases h0 : so = 0
  · rw [if_pos (by omega), b_39_32, if_pos (by decide), if_pos h0]
    exact congrArg (fun v => some (vI v, M, R)) (half_8 ⟨k, hk7⟩)
  rw [if_neg (by omega), if_neg h0]
  by_cases h1 : so = 1
  · rw [if_pos (by omega), b_39_40, if_pos h1]
    by_cases h2 : 0 < k
    · rw [if_neg (by omega), b_39_44, b_39_49, if_pos h2]; rfl
    · rw [if_pos (by omega), b_39_48, b_39_49, if_neg h2]; rfl
  · rw [if_neg (by omega), b_39_50, if_neg h1]; rfl
theorem s_40 {d0 : Nat} (hd : 1 ≤ d0) {M : MM} {R : RR} {o so k : Nat} (hk : kindOf o = 5) (hs : M o 0 = (so : Int)) (hk7 : k < 8) : call d0 40 [vA o, vI k] M R = some (vI (mo so k : Nat), M, R) := by
  obtain ⟨e, rfl⟩ := s_le hd
  refine call_of 2 [vA o, vI k] (by decide) rfl (Nat.le_of_ble_eq_true rfl) rfl ?_ rfl
  rw [b_40_0 _ _ hk, b_40_4, hs]
  unfold mo
  by_cases h0 : so = 0
  · rw [if_pos (by omega), b_40_32, if_pos (by decide), if_pos h0]
    exact congrArg (fun v => some (vI v, M, R)) (half_8 ⟨k, hk7⟩)
  rw [if_neg (by omega), if_neg h0]
  by_cases h1 : so = 1
  · rw [if_pos (by omega), b_40_40, if_pos h1]
  · rw [if_neg (by omega), b_40_42, if_neg h1]; rfl
