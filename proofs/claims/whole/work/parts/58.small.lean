/-! ===== specs ===== -/
theorem s_34 {d : Nat} (hd : 1 ≤ d) {M : MM} {R : RR} (o0 : Nat) (h1 : kindOf o0 = 4) : call d 34 [vA o0] M R = some (vI (b2 (M o0 0 = -1)), M, R) := by
  obtain ⟨e, rfl⟩ := s_le hd
  refine call_of 1 [vA o0] (by decide) rfl (Nat.le_of_ble_eq_true rfl) rfl ?_ (b2_ok)
  simp (disch := first | assumption | omega | rfl) only [b_34_0, b_34_8, b_34_12, b_34_13, Option.bind_some, pushv_I, pushv_J, pushv_A, pushv_X, b2_z, b2_o, ne_eq, Decidable.not_not]
  repeat' split
  all_goals first
    | rfl
    | (exfalso; omega)
    | (simp (disch := omega) only [b2_t, b2_f, if_pos, if_neg]; done)
theorem s_37 {d : Nat} (hd : 1 ≤ d) {M : MM} {R : RR} (o0 : Nat) (x1 : Int) (x2 : Int) (h1 : kindOf o0 = 4) : call d 37 [vA o0, vI x1, vI x2] M R = some (vI (b2 (0 ≤ x1 ∧ 0 ≤ x2 ∧ x1 ≤ w32 (M o0 1 - x2))), M, R) := by
  obtain ⟨e, rfl⟩ := s_le hd
  refine call_of 3 [vA o0, vI x1, vI x2] (by decide) rfl (Nat.le_of_ble_eq_true rfl) rfl ?_ (b2_ok)
  simp (disch := first | assumption | omega | rfl) only [b_37_0, b_37_4, b_37_8, b_37_18, b_37_22, b_37_23, Option.bind_some, pushv_I, pushv_J, pushv_A, pushv_X, b2_z, b2_o, ne_eq, Decidable.not_not]
  repeat' split
  all_goals first
    | rfl
    | (exfalso; omega)
    | (simp (disch := omega) only [b2_t, b2_f, if_pos, if_neg]; done)
theorem s_203 {d : Nat} (hd : 2 ≤ d) {M : MM} {R : RR} (x0 : Int) : call d 203 [vI x0] M R = some (vI (b2 (0 ≤ x0 ∧ x0 ≤ 1)), M, R) := by
  obtain ⟨e, rfl⟩ := s_le hd
  refine call_of 1 [vI x0] (by decide) rfl (Nat.le_of_ble_eq_true rfl) rfl ?_ (b2_ok)
  simp (disch := first | assumption | omega | rfl) only [b_203_0, b_203_6, s_162, Option.bind_some, pushv_I, pushv_J, pushv_A, pushv_X, b2_z, b2_o, ne_eq, Decidable.not_not]
  repeat' split
  all_goals first
    | rfl
    | (exfalso; omega)
    | (simp (disch := omega) only [b2_t, b2_f, if_pos, if_neg]; done)
theorem s_172 {d : Nat} (hd : 2 ≤ d) {M : MM} {R : RR} (x0 : Int) : call d 172 [vI x0] M R = some (vI (b2 (0 ≤ x0 ∧ x0 ≤ 255)), M, R) := by
  obtain ⟨e, rfl⟩ := s_le hd
  refine call_of 1 [vI x0] (by decide) rfl (Nat.le_of_ble_eq_true rfl) rfl ?_ (b2_ok)
  simp (disch := first | assumption | omega | rfl) only [b_172_0, b_172_8, s_162, Option.bind_some, pushv_I, pushv_J, pushv_A, pushv_X, b2_z, b2_o, ne_eq, Decidable.not_not]
  repeat' split
  all_goals first
    | rfl
    | (exfalso; omega)
    | (simp (disch := omega) only [b2_t, b2_f, if_pos, if_neg]; done)
theorem s_244 {d : Nat} (hd : 2 ≤ d) {M : MM} {R : RR} (x0 : Int) : call d 244 [vI x0] M R = some (vI (b2 (0 ≤ x0 ∧ x0 ≤ 99999)), M, R) := by
  obtain ⟨e, rfl⟩ := s_le hd
  refine call_of 1 [vI x0] (by decide) rfl (Nat.le_of_ble_eq_true rfl) rfl ?_ (b2_ok)
  simp (disch := first | assumption | omega | rfl) only [b_244_0, b_244_8, s_162, Option.bind_some, pushv_I, pushv_J, pushv_A, pushv_X, b2_z, b2_o, ne_eq, Decidable.not_not]
  repeat' split
  all_goals first
    | rfl
    | (exfalso; omega)
    | (simp (disch := omega) only [b2_t, b2_f, if_pos, if_neg]; done)
theorem s_165 {d : Nat} (hd : 2 ≤ d) {M : MM} {R : RR} (x1 : Int) : call d 165 [vA 57, vI x1] M R = some (vI (b2 (0 ≤ x1 ∧ x1 ≤ w32 (M 57 2 - 1))), M, R) := by
  obtain ⟨e, rfl⟩ := s_le hd
  refine call_of 2 [vA 57, vI x1] (by decide) rfl (Nat.le_of_ble_eq_true rfl) rfl ?_ (b2_ok)
  simp (disch := first | assumption | omega | rfl) only [b_165_0, b_165_11, s_162, Option.bind_some, pushv_I, pushv_J, pushv_A, pushv_X, b2_z, b2_o, ne_eq, Decidable.not_not]
  repeat' split
  all_goals first
    | rfl
    | (exfalso; omega)
    | (simp (disch := omega) only [b2_t, b2_f, if_pos, if_neg]; done)
theorem s_206 {d : Nat} (hd : 2 ≤ d) {M : MM} {R : RR} (x1 : Int) : call d 206 [vA 57, vI x1] M R = some (vI (b2 (0 ≤ x1 ∧ x1 ≤ w32 (c_shl 1 (M 57 2) - 1))), M, R) := by
  obtain ⟨e, rfl⟩ := s_le hd
  refine call_of 2 [vA 57, vI x1] (by decide) rfl (Nat.le_of_ble_eq_true rfl) rfl ?_ (b2_ok)
  simp (disch := first | assumption | omega | rfl) only [b_206_0, b_206_6, b_206_9, s_162, s_166, Option.bind_some, pushv_I, pushv_J, pushv_A, pushv_X, b2_z, b2_o, ne_eq, Decidable.not_not]
  repeat' split
  all_goals first
    | rfl
    | (exfalso; omega)
    | (simp (disch := omega) only [b2_t, b2_f, if_pos, if_neg]; done)
theorem s_218 {d : Nat} (hd : 1 ≤ d) {M : MM} {R : RR} (x0 : Int) : call d 218 [vI x0] M R = some (vI (w32 (c_shl 1 x0 - 1)), M, R) := by
  obtain ⟨e, rfl⟩ := s_le hd
  refine call_of 1 [vI x0] (by decide) rfl (Nat.le_of_ble_eq_true rfl) rfl ?_ (rfl)
  simp (disch := first | assumption | omega | rfl) only [b_218_0, Option.bind_some, pushv_I, pushv_J, pushv_A, pushv_X, b2_z, b2_o, ne_eq, Decidable.not_not]
  repeat' split
  all_goals first
    | rfl
    | (exfalso; omega)
    | (simp (disch := omega) only [b2_t, b2_f, if_pos, if_neg]; done)
theorem s_255 {d : Nat} (hd : 1 ≤ d) {M : MM} {R : RR} (x0 : Int) (x1 : Int) : call d 255 [vI x0, vI x1] M R = some (vI (b2 (x1 = 0 ∨ x0 = x1 ∨ (x1 = 1 ∧ x0 = 3) ∨ (x1 = 2 ∧ x0 = 4))), M, R) := by
  obtain ⟨e, rfl⟩ := s_le hd
  refine call_of 2 [vI x0, vI x1] (by decide) rfl (Nat.le_of_ble_eq_true rfl) rfl ?_ (b2_ok)
  simp (disch := first | assumption | omega | rfl) only [b_255_0, b_255_4, b_255_9, b_255_14, b_255_19, b_255_24, b_255_29, b_255_33, b_255_34, Option.bind_some, pushv_I, pushv_J, pushv_A, pushv_X, b2_z, b2_o, ne_eq, Decidable.not_not]
  repeat' split
  all_goals first
    | rfl
    | (exfalso; omega)
    | (simp (disch := omega) only [b2_t, b2_f, if_pos, if_neg]; done)
theorem s_95 {d : Nat} (hd : 1 ≤ d) {M : MM} {R : RR} (hL : Lay R) (x1 : Int) : call d 95 [vA 1, vI x1] M R = some (vI (if x1 = 0 then M 4 0 else if x1 = 1 then M 2 0 else if x1 = 2 then M 13 5 else if x1 = 3 then M 13 6 else if x1 = 4 then M 8 1 else -2), M, R) := by
  obtain ⟨e, rfl⟩ := s_le hd
  refine call_of 2 [vA 1, vI x1] (by decide) rfl (Nat.le_of_ble_eq_true rfl) rfl ?_ (rfl)
  simp (disch := first | assumption | omega | rfl) only [b_95_0, b_95_1, b_95_36 hL, b_95_44 hL, b_95_52 hL, b_95_60 hL, b_95_68 hL, b_95_76, Option.bind_some, pushv_I, pushv_J, pushv_A, pushv_X, b2_z, b2_o, ne_eq, Decidable.not_not]
  repeat' split
  all_goals first
    | rfl
    | (exfalso; omega)
    | (simp (disch := omega) only [b2_t, b2_f, if_pos, if_neg]; done)
theorem s_170 {d : Nat} (hd : 1 ≤ d) {M : MM} {R : RR} (x1 : Int) : call d 170 [vA 57, vI x1] M R = some (vI (if x1 = 0 then M 57 2 else if x1 = 1 then M 57 0 else if x1 = 2 then M 57 10 else if x1 = 3 then M 57 11 else if x1 = 4 then M 57 7 else -2), M, R) := by
  obtain ⟨e, rfl⟩ := s_le hd
  refine call_of 2 [vA 57, vI x1] (by decide) rfl (Nat.le_of_ble_eq_true rfl) rfl ?_ (rfl)
  simp (disch := first | assumption | omega | rfl) only [b_170_0, b_170_1, b_170_36, b_170_41, b_170_46, b_170_51, b_170_56, b_170_61, Option.bind_some, pushv_I, pushv_J, pushv_A, pushv_X, b2_z, b2_o, ne_eq, Decidable.not_not]
  repeat' split
  all_goals first
    | rfl
    | (exfalso; omega)
    | (simp (disch := omega) only [b2_t, b2_f, if_pos, if_neg]; done)
theorem s_96 {d : Nat} (hd : 2 ≤ d) {M : MM} {R : RR} (hL : Lay R) (x1 : Int) (hY : M 2 0 ≤ 24) : call d 96 [vA 1, vI x1] M R = some (vI (if 0 ≤ x1 ∧ x1 < M 2 0 then M 3 x1.toNat else -2), M, R) := by
  obtain ⟨e, rfl⟩ := s_le hd
  refine call_of 2 [vA 1, vI x1] (by decide) rfl (Nat.le_of_ble_eq_true rfl) rfl ?_ (rfl)
  simp (disch := first | assumption | omega | rfl) only [b_96_0 hL, b_96_8, b_96_11 hL, b_96_23, b_96_25, s_90, Option.bind_some, pushv_I, pushv_J, pushv_A, pushv_X, b2_z, b2_o, ne_eq, Decidable.not_not]
  repeat' split
  all_goals first
    | rfl
    | (exfalso; omega)
    | (simp (disch := omega) only [b2_t, b2_f, if_pos, if_neg]; done)
theorem s_171 {d : Nat} (hd : 3 ≤ d) {M : MM} {R : RR} (hL : Lay R) (x1 : Int) (hY : 1 ≤ M 57 0 ∧ M 57 0 ≤ 24) : call d 171 [vA 57, vI x1] M R = some (vI (if 0 ≤ x1 ∧ x1 < M 57 0 then M 58 x1.toNat else -2), M, R) := by
  obtain ⟨e, rfl⟩ := s_le hd
  refine call_of 2 [vA 57, vI x1] (by decide) rfl (Nat.le_of_ble_eq_true rfl) rfl ?_ (rfl)
  simp (disch := first | assumption | omega | rfl) only [b_171_0, b_171_5, b_171_8 hL, b_171_17, b_171_19, s_164, Option.bind_some, pushv_I, pushv_J, pushv_A, pushv_X, b2_z, b2_o, ne_eq, Decidable.not_not, w32_i]
  repeat' split
  all_goals first
    | rfl
    | (exfalso; omega)
    | (simp (disch := omega) only [b2_t, b2_f, if_pos, if_neg]; done)
