/-! ===== specs ===== -/
theorem s_9 {d : Nat} (hd : 1 ≤ d) {M : MM} {R : RR} (x1 : Int) : call d 9 [vA 4, vI x1] M R = some (vI (b2 (0 ≤ x1 ∧ x1 < M 4 0)), M, R) := by
  obtain ⟨e, rfl⟩ := s_le hd
  refine call_of 2 [vA 4, vI x1] (by decide) rfl (Nat.le_of_ble_eq_true rfl) rfl ?_ (b2_ok)
  simp (disch := first | assumption | omega | rfl) only [b_9_0, b_9_4, b_9_12, b_9_16, b_9_17, Option.bind_some, pushv_I, pushv_J, pushv_A, pushv_X, b2_z, b2_o, ne_eq, Decidable.not_not]
  repeat' split
  all_goals first
    | rfl
    | (exfalso; omega)
    | (simp (disch := omega) only [b2_t, b2_f, if_pos, if_neg]; done)
theorem s_90 {d : Nat} (hd : 1 ≤ d) {M : MM} {R : RR} (x1 : Int) : call d 90 [vA 2, vI x1] M R = some (vI (b2 (0 ≤ x1 ∧ x1 < M 2 0)), M, R) := by
  obtain ⟨e, rfl⟩ := s_le hd
  refine call_of 2 [vA 2, vI x1] (by decide) rfl (Nat.le_of_ble_eq_true rfl) rfl ?_ (b2_ok)
  simp (disch := first | assumption | omega | rfl) only [b_90_0, b_90_4, b_90_12, b_90_16, b_90_17, Option.bind_some, pushv_I, pushv_J, pushv_A, pushv_X, b2_z, b2_o, ne_eq, Decidable.not_not]
  repeat' split
  all_goals first
    | rfl
    | (exfalso; omega)
    | (simp (disch := omega) only [b2_t, b2_f, if_pos, if_neg]; done)
theorem s_15 {d : Nat} (hd : 1 ≤ d) {M : MM} {R : RR} (x0 : Int) : call d 15 [vI x0] M R = some (vI (b2 (0 ≤ x0 ∧ x0 < 6)), M, R) := by
  obtain ⟨e, rfl⟩ := s_le hd
  refine call_of 1 [vI x0] (by decide) rfl (Nat.le_of_ble_eq_true rfl) rfl ?_ (b2_ok)
  simp (disch := first | assumption | omega | rfl) only [b_15_0, b_15_4, b_15_10, b_15_14, b_15_15, Option.bind_some, pushv_I, pushv_J, pushv_A, pushv_X, b2_z, b2_o, ne_eq, Decidable.not_not]
  repeat' split
  all_goals first
    | rfl
    | (exfalso; omega)
    | (simp (disch := omega) only [b2_t, b2_f, if_pos, if_neg]; done)
theorem s_12 {d : Nat} (hd : 1 ≤ d) {M : MM} {R : RR} (x0 : Int) : call d 12 [vI x0] M R = some (vI (w32 (c_shl 1 x0 - 1)), M, R) := by
  obtain ⟨e, rfl⟩ := s_le hd
  refine call_of 1 [vI x0] (by decide) rfl (Nat.le_of_ble_eq_true rfl) rfl ?_ (rfl)
  simp (disch := first | assumption | omega | rfl) only [b_12_0, Option.bind_some, pushv_I, pushv_J, pushv_A, pushv_X, b2_z, b2_o, ne_eq, Decidable.not_not]
  repeat' split
  all_goals first
    | rfl
    | (exfalso; omega)
    | (simp (disch := omega) only [b2_t, b2_f, if_pos, if_neg]; done)
theorem s_13 {d : Nat} (hd : 2 ≤ d) {M : MM} {R : RR} : call d 13 [vA 4] M R = some (vI (w32 (c_shl 1 (M 4 0) - 1)), M, R) := by
  obtain ⟨e, rfl⟩ := s_le hd
  refine call_of 1 [vA 4] (by decide) rfl (Nat.le_of_ble_eq_true rfl) rfl ?_ (rfl)
  simp (disch := first | assumption | omega | rfl) only [b_13_0, b_13_7, s_12, Option.bind_some, pushv_I, pushv_J, pushv_A, pushv_X, b2_z, b2_o, ne_eq, Decidable.not_not]
  repeat' split
  all_goals first
    | rfl
    | (exfalso; omega)
    | (simp (disch := omega) only [b2_t, b2_f, if_pos, if_neg]; done)
theorem s_14 {d : Nat} (hd : 3 ≤ d) {M : MM} {R : RR} (x1 : Int) : call d 14 [vA 4, vI x1] M R = some (vI (b2 (0 ≤ x1 ∧ x1 ≤ w32 (c_shl 1 (M 4 0) - 1))), M, R) := by
  obtain ⟨e, rfl⟩ := s_le hd
  refine call_of 2 [vA 4, vI x1] (by decide) rfl (Nat.le_of_ble_eq_true rfl) rfl ?_ (b2_ok)
  simp (disch := first | assumption | omega | rfl) only [b_14_0, b_14_4, b_14_9, b_14_12, b_14_16, b_14_17, s_13, Option.bind_some, pushv_I, pushv_J, pushv_A, pushv_X, b2_z, b2_o, ne_eq, Decidable.not_not]
  repeat' split
  all_goals first
    | rfl
    | (exfalso; omega)
    | (simp (disch := omega) only [b2_t, b2_f, if_pos, if_neg]; done)
theorem s_16 {d : Nat} (hd : 1 ≤ d) {M : MM} {R : RR} (x0 : Int) : call d 16 [vI x0] M R = some (vI (if x0 = 1 ∨ x0 = 2 ∨ x0 = 5 then 0 else if x0 = 3 then 1 else if x0 = 4 then 2 else -1), M, R) := by
  obtain ⟨e, rfl⟩ := s_le hd
  refine call_of 1 [vI x0] (by decide) rfl (Nat.le_of_ble_eq_true rfl) rfl ?_ (rfl)
  simp (disch := first | assumption | omega | rfl) only [b_16_0, b_16_1, b_16_36, b_16_38, b_16_40, b_16_42, Option.bind_some, pushv_I, pushv_J, pushv_A, pushv_X, b2_z, b2_o, ne_eq, Decidable.not_not]
  repeat' split
  all_goals first
    | rfl
    | (exfalso; omega)
    | (simp (disch := omega) only [b2_t, b2_f, if_pos, if_neg]; done)
theorem s_18 {d : Nat} (hd : 1 ≤ d) {M : MM} {R : RR} (hL : Lay R) (x1 : Int) (h1 : 0 ≤ x1 ∧ x1 < 7) : call d 18 [vA 4, vI x1] M R = some (vI (if M 5 x1.toNat = 2 then w32 (1 + M 6 x1.toNat) else if M 5 x1.toNat = 4 then w32 (2 * w32 (1 + M 6 x1.toNat)) else 1), M, R) := by
  obtain ⟨e, rfl⟩ := s_le hd
  refine call_of 2 [vA 4, vI x1] (by decide) rfl (Nat.le_of_ble_eq_true rfl) rfl ?_ (rfl)
  simp (disch := first | assumption | omega | rfl) only [b_18_0 hL, b_18_6, b_18_32 hL, b_18_41 hL, b_18_52, Option.bind_some, pushv_I, pushv_J, pushv_A, pushv_X, b2_z, b2_o, ne_eq, Decidable.not_not]
  repeat' split
  all_goals first
    | rfl
    | (exfalso; omega)
    | (simp (disch := omega) only [b2_t, b2_f, if_pos, if_neg]; done)
theorem s_19 {d : Nat} (hd : 1 ≤ d) {M : MM} {R : RR} (hL : Lay R) (x1 : Int) (x2 : Int) (h1 : 0 ≤ x1 ∧ x1 < 7) : call d 19 [vA 4, vI x1, vI x2] M R = some (vI (b2 ((¬ M 5 x1.toNat = 3 ∨ x2 ≤ M 6 x1.toNat) ∧ (¬ M 5 x1.toNat = 5 ∨ x2 ≤ w32 (Int.tdiv (M 6 x1.toNat) 3)))), M, R) := by
  obtain ⟨e, rfl⟩ := s_le hd
  refine call_of 3 [vA 4, vI x1, vI x2] (by decide) rfl (Nat.le_of_ble_eq_true rfl) rfl ?_ (b2_ok)
  simp (disch := first | assumption | omega | rfl) only [b_19_0 hL, b_19_6, b_19_32 hL, b_19_42, b_19_46, b_19_47, b_19_48 hL, b_19_60, b_19_64, b_19_65, b_19_66, Option.bind_some, pushv_I, pushv_J, pushv_A, pushv_X, b2_z, b2_o, ne_eq, Decidable.not_not]
  repeat' split
  all_goals first
    | rfl
    | (exfalso; omega)
    | (simp (disch := omega) only [b2_t, b2_f, if_pos, if_neg]; done)
theorem s_98 {d : Nat} (hd : 1 ≤ d) {M : MM} {R : RR} (x0 : Int) : call d 98 [vI x0] M R = some (vI (b2 (0 ≤ x0 ∧ x0 ≤ 255)), M, R) := by
  obtain ⟨e, rfl⟩ := s_le hd
  refine call_of 1 [vI x0] (by decide) rfl (Nat.le_of_ble_eq_true rfl) rfl ?_ (b2_ok)
  simp (disch := first | assumption | omega | rfl) only [b_98_0, b_98_4, b_98_11, b_98_15, b_98_16, Option.bind_some, pushv_I, pushv_J, pushv_A, pushv_X, b2_z, b2_o, ne_eq, Decidable.not_not]
  repeat' split
  all_goals first
    | rfl
    | (exfalso; omega)
    | (simp (disch := omega) only [b2_t, b2_f, if_pos, if_neg]; done)
theorem s_113 {d : Nat} (hd : 1 ≤ d) {M : MM} {R : RR} (x0 : Int) : call d 113 [vI x0] M R = some (vI (b2 (0 ≤ x0 ∧ x0 < 2)), M, R) := by
  obtain ⟨e, rfl⟩ := s_le hd
  refine call_of 1 [vI x0] (by decide) rfl (Nat.le_of_ble_eq_true rfl) rfl ?_ (b2_ok)
  simp (disch := first | assumption | omega | rfl) only [b_113_0, b_113_4, b_113_9, b_113_13, b_113_14, Option.bind_some, pushv_I, pushv_J, pushv_A, pushv_X, b2_z, b2_o, ne_eq, Decidable.not_not]
  repeat' split
  all_goals first
    | rfl
    | (exfalso; omega)
    | (simp (disch := omega) only [b2_t, b2_f, if_pos, if_neg]; done)
theorem s_119 {d : Nat} (hd : 1 ≤ d) {M : MM} {R : RR} (x0 : Int) : call d 119 [vI x0] M R = some (vI (b2 (1 ≤ x0 ∧ x0 ≤ 100)), M, R) := by
  obtain ⟨e, rfl⟩ := s_le hd
  refine call_of 1 [vI x0] (by decide) rfl (Nat.le_of_ble_eq_true rfl) rfl ?_ (b2_ok)
  simp (disch := first | assumption | omega | rfl) only [b_119_0, b_119_5, b_119_11, b_119_15, b_119_16, Option.bind_some, pushv_I, pushv_J, pushv_A, pushv_X, b2_z, b2_o, ne_eq, Decidable.not_not]
  repeat' split
  all_goals first
    | rfl
    | (exfalso; omega)
    | (simp (disch := omega) only [b2_t, b2_f, if_pos, if_neg]; done)
theorem s_143 {d : Nat} (hd : 1 ≤ d) {M : MM} {R : RR} (x0 : Int) : call d 143 [vI x0] M R = some (vI (b2 (0 ≤ x0 ∧ x0 ≤ 99999)), M, R) := by
  obtain ⟨e, rfl⟩ := s_le hd
  refine call_of 1 [vI x0] (by decide) rfl (Nat.le_of_ble_eq_true rfl) rfl ?_ (b2_ok)
  simp (disch := first | assumption | omega | rfl) only [b_143_0, b_143_4, b_143_11, b_143_15, b_143_16, Option.bind_some, pushv_I, pushv_J, pushv_A, pushv_X, b2_z, b2_o, ne_eq, Decidable.not_not]
  repeat' split
  all_goals first
    | rfl
    | (exfalso; omega)
    | (simp (disch := omega) only [b2_t, b2_f, if_pos, if_neg]; done)
theorem s_149 {d : Nat} (hd : 1 ≤ d) {M : MM} {R : RR} (x0 : Int) : call d 149 [vI x0] M R = some (vI (b2 (0 ≤ x0 ∧ x0 < 4)), M, R) := by
  obtain ⟨e, rfl⟩ := s_le hd
  refine call_of 1 [vI x0] (by decide) rfl (Nat.le_of_ble_eq_true rfl) rfl ?_ (b2_ok)
  simp (disch := first | assumption | omega | rfl) only [b_149_0, b_149_4, b_149_9, b_149_13, b_149_14, Option.bind_some, pushv_I, pushv_J, pushv_A, pushv_X, b2_z, b2_o, ne_eq, Decidable.not_not]
  repeat' split
  all_goals first
    | rfl
    | (exfalso; omega)
    | (simp (disch := omega) only [b2_t, b2_f, if_pos, if_neg]; done)
theorem s_53 {d : Nat} (hd : 1 ≤ d) {M : MM} {R : RR} (x0 : Int) : call d 53 [vI x0] M R = some (vI (b2 (x0 = 32 ∨ x0 = 10)), M, R) := by
  obtain ⟨e, rfl⟩ := s_le hd
  refine call_of 1 [vI x0] (by decide) rfl (Nat.le_of_ble_eq_true rfl) rfl ?_ (b2_ok)
  simp (disch := first | assumption | omega | rfl) only [b_53_0, b_53_6, b_53_12, b_53_16, b_53_17, Option.bind_some, pushv_I, pushv_J, pushv_A, pushv_X, b2_z, b2_o, ne_eq, Decidable.not_not]
  repeat' split
  all_goals first
    | rfl
    | (exfalso; omega)
    | (simp (disch := omega) only [b2_t, b2_f, if_pos, if_neg]; done)
theorem s_54 {d : Nat} (hd : 1 ≤ d) {M : MM} {R : RR} (x0 : Int) : call d 54 [vI x0] M R = some (vI (b2 (97 ≤ x0 ∧ x0 ≤ 122)), M, R) := by
  obtain ⟨e, rfl⟩ := s_le hd
  refine call_of 1 [vI x0] (by decide) rfl (Nat.le_of_ble_eq_true rfl) rfl ?_ (b2_ok)
  simp (disch := first | assumption | omega | rfl) only [b_54_0, b_54_6, b_54_12, b_54_16, b_54_17, Option.bind_some, pushv_I, pushv_J, pushv_A, pushv_X, b2_z, b2_o, ne_eq, Decidable.not_not]
  repeat' split
  all_goals first
    | rfl
    | (exfalso; omega)
    | (simp (disch := omega) only [b2_t, b2_f, if_pos, if_neg]; done)
theorem s_55 {d : Nat} (hd : 1 ≤ d) {M : MM} {R : RR} (x0 : Int) : call d 55 [vI x0] M R = some (vI (b2 (48 ≤ x0 ∧ x0 ≤ 57)), M, R) := by
  obtain ⟨e, rfl⟩ := s_le hd
  refine call_of 1 [vI x0] (by decide) rfl (Nat.le_of_ble_eq_true rfl) rfl ?_ (b2_ok)
  simp (disch := first | assumption | omega | rfl) only [b_55_0, b_55_6, b_55_12, b_55_16, b_55_17, Option.bind_some, pushv_I, pushv_J, pushv_A, pushv_X, b2_z, b2_o, ne_eq, Decidable.not_not]
  repeat' split
  all_goals first
    | rfl
    | (exfalso; omega)
    | (simp (disch := omega) only [b2_t, b2_f, if_pos, if_neg]; done)
theorem s_56 {d : Nat} (hd : 1 ≤ d) {M : MM} {R : RR} (x0 : Int) : call d 56 [vI x0] M R = some (vI (b2 (x0 = 40 ∨ x0 = 41 ∨ x0 = 59 ∨ x0 = 43 ∨ x0 = 45 ∨ x0 = 42 ∨ x0 = 60 ∨ x0 = 61)), M, R) := by
  obtain ⟨e, rfl⟩ := s_le hd
  refine call_of 1 [vI x0] (by decide) rfl (Nat.le_of_ble_eq_true rfl) rfl ?_ (b2_ok)
  rw [b_56_0, b_56_1]
  by_cases h : x0 = 40 ∨ x0 = 41 ∨ x0 = 59 ∨ x0 = 43 ∨ x0 = 45 ∨ x0 = 42 ∨ x0 = 60 ∨ x0 = 61
  · rw [b2_t h]
    rcases h with rfl | rfl | rfl | rfl | rfl | rfl | rfl | rfl <;> exact b_56_104 _
  · rw [b2_f h]
    by_cases g44 : x0 = 44
    · subst g44; exact b_56_106 _
    by_cases g46 : x0 = 46
    · subst g46; exact b_56_106 _
    by_cases g47 : x0 = 47
    · subst g47; exact b_56_106 _
    by_cases g48 : x0 = 48
    · subst g48; exact b_56_106 _
    by_cases g49 : x0 = 49
    · subst g49; exact b_56_106 _
    by_cases g50 : x0 = 50
    · subst g50; exact b_56_106 _
    by_cases g51 : x0 = 51
    · subst g51; exact b_56_106 _
    by_cases g52 : x0 = 52
    · subst g52; exact b_56_106 _
    by_cases g53 : x0 = 53
    · subst g53; exact b_56_106 _
    by_cases g54 : x0 = 54
    · subst g54; exact b_56_106 _
    by_cases g55 : x0 = 55
    · subst g55; exact b_56_106 _
    by_cases g56 : x0 = 56
    · subst g56; exact b_56_106 _
    by_cases g57 : x0 = 57
    · subst g57; exact b_56_106 _
    by_cases g58 : x0 = 58
    · subst g58; exact b_56_106 _
    rw [if_neg (by omega), if_neg (by omega), if_neg (by omega), if_neg (by omega), if_neg (by omega), if_neg (by omega), if_neg (by omega), if_neg (by omega), if_neg (by omega), if_neg (by omega), if_neg (by omega), if_neg (by omega), if_neg (by omega), if_neg (by omega), if_neg (by omega), if_neg (by omega), if_neg (by omega), if_neg (by omega), if_neg (by omega), if_neg (by omega), if_neg (by omega), if_neg (by omega)]
    exact b_56_106 _
theorem s_162 {d : Nat} (hd : 1 ≤ d) {M : MM} {R : RR} (x0 : Int) (x1 : Int) (x2 : Int) : call d 162 [vI x0, vI x1, vI x2] M R = some (vI (b2 (x1 ≤ x0 ∧ x0 ≤ x2)), M, R) := by
  obtain ⟨e, rfl⟩ := s_le hd
  refine call_of 3 [vI x0, vI x1, vI x2] (by decide) rfl (Nat.le_of_ble_eq_true rfl) rfl ?_ (b2_ok)
  simp (disch := first | assumption | omega | rfl) only [b_162_0, b_162_5, b_162_10, b_162_14, b_162_15, Option.bind_some, pushv_I, pushv_J, pushv_A, pushv_X, b2_z, b2_o, ne_eq, Decidable.not_not]
  repeat' split
  all_goals first
    | rfl
    | (exfalso; omega)
    | (simp (disch := omega) only [b2_t, b2_f, if_pos, if_neg]; done)
theorem s_163 {d : Nat} (hd : 1 ≤ d) {M : MM} {R : RR} (x0 : Int) (x1 : Int) (x2 : Int) : call d 163 [vI x0, vI x1, vI x2] M R = some (vI (if x0 < x1 then x1 else if x2 < x0 then x2 else x0), M, R) := by
  obtain ⟨e, rfl⟩ := s_le hd
  refine call_of 3 [vI x0, vI x1, vI x2] (by decide) rfl (Nat.le_of_ble_eq_true rfl) rfl ?_ (rfl)
  simp (disch := first | assumption | omega | rfl) only [b_163_0, b_163_5, b_163_9, b_163_14, b_163_18, b_163_19, Option.bind_some, pushv_I, pushv_J, pushv_A, pushv_X, b2_z, b2_o, ne_eq, Decidable.not_not]
  repeat' split
  all_goals first
    | rfl
    | (exfalso; omega)
    | (simp (disch := omega) only [b2_t, b2_f, if_pos, if_neg]; done)
theorem s_164 {d : Nat} (hd : 2 ≤ d) {M : MM} {R : RR} (x1 : Int) : call d 164 [vA 57, vI x1] M R = some (vI (b2 (0 ≤ x1 ∧ x1 ≤ w32 (M 57 0 - 1))), M, R) := by
  obtain ⟨e, rfl⟩ := s_le hd
  refine call_of 2 [vA 57, vI x1] (by decide) rfl (Nat.le_of_ble_eq_true rfl) rfl ?_ (b2_ok)
  simp (disch := first | assumption | omega | rfl) only [b_164_0, b_164_11, s_162, Option.bind_some, pushv_I, pushv_J, pushv_A, pushv_X, b2_z, b2_o, ne_eq, Decidable.not_not]
  repeat' split
  all_goals first
    | rfl
    | (exfalso; omega)
    | (simp (disch := omega) only [b2_t, b2_f, if_pos, if_neg]; done)
