/-! ===== specs ===== -/
theorem s_193 {d : Nat} (hd : 1 ≤ d) {M : MM} {R : RR} (hL : Lay R) (x1 : Int) (h1 : 0 ≤ x1 ∧ x1 < 7) : call d 193 [vA 57, vI x1] M R = some (vI (if M 59 x1.toNat = 2 then w32 (1 + M 60 x1.toNat) else if M 59 x1.toNat = 4 then w32 (2 * w32 (1 + M 60 x1.toNat)) else 1), M, R) := by
  obtain ⟨e, rfl⟩ := s_le hd
  refine call_of 2 [vA 57, vI x1] (by decide) rfl (Nat.le_of_ble_eq_true rfl) rfl ?_ (rfl)
  simp (disch := first | assumption | omega | rfl) only [b_193_0 hL, b_193_10 hL, b_193_21 hL, b_193_31 hL, b_193_44, b_193_45, Option.bind_some, pushv_I, pushv_J, pushv_A, pushv_X, b2_z, b2_o, ne_eq, Decidable.not_not]
  repeat' split
  all_goals first
    | rfl
    | (exfalso; omega)
    | (simp (disch := omega) only [b2_t, b2_f, if_pos, if_neg]; done)
theorem s_194 {d : Nat} (hd : 1 ≤ d) {M : MM} {R : RR} (hL : Lay R) (x1 : Int) (x2 : Int) (h1 : 0 ≤ x1 ∧ x1 < 7) : call d 194 [vA 57, vI x1, vI x2] M R = some (vI (b2 ((¬ M 59 x1.toNat = 3 ∨ x2 ≤ M 60 x1.toNat) ∧ (¬ M 59 x1.toNat = 5 ∨ x2 ≤ w32 (Int.tdiv (M 60 x1.toNat) 3)))), M, R) := by
  obtain ⟨e, rfl⟩ := s_le hd
  refine call_of 3 [vA 57, vI x1, vI x2] (by decide) rfl (Nat.le_of_ble_eq_true rfl) rfl ?_ (b2_ok)
  simp (disch := first | assumption | omega | rfl) only [b_194_0 hL, b_194_10 hL, b_194_20, b_194_24, b_194_28 hL, b_194_38 hL, b_194_50, b_194_54, b_194_55, Option.bind_some, pushv_I, pushv_J, pushv_A, pushv_X, b2_z, b2_o, ne_eq, Decidable.not_not]
  repeat' split
  all_goals first
    | rfl
    | (exfalso; omega)
    | (simp (disch := omega) only [b2_t, b2_f, if_pos, if_neg]; done)
theorem s_156 {d : Nat} (hd : 2 ≤ d) {M : MM} {R : RR} (hL : Lay R) (x1 : Int) (x2 : Int) (hY : M 2 0 ≤ 24) : call d 156 [vA 1, vI x1, vI x2] M R = some (vI (if 0 ≤ x1 ∧ x1 < M 2 0 ∧ ¬ M 3 x1.toNat = 0 then (if x2 = 6 then M 3 x1.toNat else -13) else -11), M, R) := by
  obtain ⟨e, rfl⟩ := s_le hd
  refine call_of 3 [vA 1, vI x1, vI x2] (by decide) rfl (Nat.le_of_ble_eq_true rfl) rfl ?_ (rfl)
  simp (disch := first | assumption | omega | rfl) only [b_156_0 hL, b_156_8, b_156_11 hL, b_156_23, b_156_26, b_156_32 hL, b_156_44, b_156_46, s_90, Option.bind_some, pushv_I, pushv_J, pushv_A, pushv_X, b2_z, b2_o, ne_eq, Decidable.not_not]
  repeat' split
  all_goals first
    | rfl
    | (exfalso; omega)
    | (simp (disch := omega) only [b2_t, b2_f, if_pos, if_neg]; done)
theorem s_150 {d : Nat} (hd : 2 ≤ d) {M : MM} {R : RR} (hL : Lay R) (x1 : Int) (hk : kindOf (R 45 x1.toNat) = 4) : call d 150 [vA 1, vI x1] M R = some (vI (if 0 ≤ x1 ∧ x1 < 4 then (if M (R 45 x1.toNat) 0 = -1 then -11 else 0) else -2), M, R) := by
  obtain ⟨e, rfl⟩ := s_le hd
  refine call_of 2 [vA 1, vI x1] (by decide) rfl (Nat.le_of_ble_eq_true rfl) rfl ?_ (rfl)
  simp (disch := first | assumption | omega | rfl) only [b_150_0, b_150_4, b_150_7, b_150_10 hL, b_150_19, b_150_22, b_150_27, b_150_28, s_34, s_149, Option.bind_some, pushv_I, pushv_J, pushv_A, pushv_X, b2_z, b2_o, ne_eq, Decidable.not_not]
  repeat' split
  all_goals first
    | rfl
    | (exfalso; omega)
    | (simp (disch := omega) only [b2_t, b2_f, if_pos, if_neg]; done)
