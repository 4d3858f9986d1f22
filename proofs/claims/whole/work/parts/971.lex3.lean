section
/-! ===== tokens: numbers ===== -/
/-- a number is read -/
theorem s_52 {d0 : Nat} (hd : 2 ≤ d0) {M : MM} {R : RR} (hL : Lay R) {B : Nat → Int} {Z s : Nat} (hB : BY M 9 B Z) (h1 : M 8 1 = (Z : Int)) (h4 : M 8 4 = (s : Int)) (h5 : M 8 5 = (s : Int)) (hs : s ≤ Z) : ∃ M', call d0 52 [vA 8] M R = some (vX 0, M', R) ∧ Fx [8] M M' ∧ (∀ i, ¬ i = 2 → ¬ i = 3 → ¬ i = 5 → M' 8 i = M 8 i) ∧ M' 8 5 = ((skp isDg B (Z - s) s : Nat) : Int) ∧ M' 8 2 = (if skp isDg B (Z - s) s - s ≤ 4 then 2 else 1) ∧ (skp isDg B (Z - s) s - s ≤ 4 → M' 8 3 = dv B s (skp isDg B (Z - s) s - s)) := by
  obtain ⟨e, rfl⟩ := s_le hd
  have hZ := hB.1
  have key : ∀ (k j : Nat) (N : MM), s + j + k = Z → Fx [8] M N → (∀ i, ¬ i = 2 → ¬ i = 3 → ¬ i = 5 → N 8 i = M 8 i) → N 8 5 = ((s + j : Nat) : Int) → (j ≤ 4 → N 8 3 = dv B s j) → (∀ i, i < j → isDg (B (s + i)) = true) → ∃ M', run (call (e + 1)) 52 5 [vA 8] [] N R = some (vX 0, M', R) ∧ Fx [8] M M' ∧ (∀ i, ¬ i = 2 → ¬ i = 3 → ¬ i = 5 → M' 8 i = M 8 i) ∧ M' 8 5 = ((skp isDg B k (s + j) : Nat) : Int) ∧ M' 8 2 = (if skp isDg B k (s + j) - s ≤ 4 then 2 else 1) ∧ (skp isDg B k (s + j) - s ≤ 4 → M' 8 3 = dv B s (skp isDg B k (s + j) - s)) := by
    have fin : ∀ (j : Nat) (N : MM), s + j ≤ Z → Fx [8] M N → (∀ i, ¬ i = 2 → ¬ i = 3 → ¬ i = 5 → N 8 i = M 8 i) → N 8 5 = ((s + j : Nat) : Int) → (j ≤ 4 → N 8 3 = dv B s j) → ∃ M', run (call (e + 1)) 52 68 [vA 8] [] N R = some (vX 0, M', R) ∧ Fx [8] M M' ∧ (∀ i, ¬ i = 2 → ¬ i = 3 → ¬ i = 5 → M' 8 i = M 8 i) ∧ M' 8 5 = ((s + j : Nat) : Int) ∧ M' 8 2 = (if s + j - s ≤ 4 then 2 else 1) ∧ (s + j - s ≤ 4 → M' 8 3 = dv B s (s + j - s)) := by
      intro j N hj F g n5 n3
      have n4 : N 8 4 = (s : Int) := by rw [g 4 (by decide) (by decide) (by decide)]; exact h4
      have ej : w32 (N 8 5 - N 8 4) = (j : Int) := by rw [n4, n5, w32_i (by omega)]; omega
      rw [show s + j - s = j by omega]
      by_cases h : j ≤ 4
      · refine ⟨up N 8 2 2, ?_, Fx_t F (Fx_p (by decide)), fun i i2 i3 i5 => by rw [up_i i2]; exact g i i2 i3 i5, by rw [up_i (by decide)]; exact n5, by rw [up_s, if_pos h], fun _ => by rw [up_i (by decide)]; exact n3 h⟩
        rw [b_52_68, ej, if_pos (by omega), b_52_86, b_52_87]
      · refine ⟨up N 8 2 1, ?_, Fx_t F (Fx_p (by decide)), fun i i2 i3 i5 => by rw [up_i i2]; exact g i i2 i3 i5, by rw [up_i (by decide)]; exact n5, by rw [up_s, if_neg h], fun q => absurd q h⟩
        rw [b_52_68, ej, if_neg (by omega), b_52_82, b_52_87]
    intro k
    induction k with
    | zero =>
      intro j N hk F g n5 n3 _
      have n1 : N 8 1 = (Z : Int) := by rw [g 1 (by decide) (by decide) (by decide)]; exact h1
      rw [b_52_5, n1, n5, if_pos (by omega)]
      exact fin j N (by omega) F g n5 n3
    | succ k ih =>
      intro j N hk F g n5 n3 hdg
      have n1 : N 8 1 = (Z : Int) := by rw [g 1 (by decide) (by decide) (by decide)]; exact h1
      have hp := hB.2 (s + j) (by omega)
      rw [← F 9 (by decide)] at hp
      have e1 : w32 (((s + j : Nat) : Int) + 1) = ((s + (j + 1) : Nat) : Int) := by rw [w32_i (by omega)]; omega
      rw [b_52_5, n1, n5, if_neg (by omega), b_52_16 hL, n5, if_pos (by omega), Int.toNat_natCast, hp.1, s_55 (by omega), bsI, b_52_28]
      unfold skp
      by_cases h : 48 ≤ B (s + j) ∧ B (s + j) ≤ 57
      · rw [b2_t h, if_neg (by decide), b_52_31 hL, n5, if_pos (by omega), Int.toNat_natCast, hp.1, if_pos (show isDg (B (s + j)) = true from decide_eq_true h), up_i (by decide), n5, e1]
        refine ih (j + 1) _ (by omega) (Fx_t F (Fx_t (Fx_p (by decide)) (Fx_p (by decide)))) (fun i i2 i3 i5 => by rw [up_i i5, up_i i3]; exact g i i2 i3 i5) up_s ?_ ?_
        · intro hj
          rw [up_i (by decide), up_s, n3 (by omega)]
          have hr := dv_r (B := B) (p := s) j (fun i hi => by
            have := hdg i hi
            unfold isDg at this
            rw [decide_eq_true_eq] at this
            exact this)
          have hb : 10 ^ j ≤ 1000 := Nat.pow_le_pow_right (n := 10) (by omega) (by omega : j ≤ 3)
          show w32 (w32 (w32 (dv B s j * 10) + B (s + j)) - 48) = 10 * dv B s j + B (s + j) - 48
          generalize 10 ^ j = z at *
          simp (disch := omega) only [w32_i]
          omega
        · intro i hi
          by_cases q : i = j
          · subst q; exact decide_eq_true h
          · exact hdg i (by omega)
      · rw [b2_f h, if_pos rfl, if_neg (show ¬ isDg (B (s + j)) = true from by unfold isDg; rw [decide_eq_true_eq]; exact h)]
        exact fin j N (by omega) F g n5 n3
  obtain ⟨M', q, r1, r2, r3, r4, r5⟩ := key (Z - s) 0 (up M 8 3 0) (by omega) (Fx_p (by decide)) (fun i i2 i3 i5 => by rw [up_i i3]) (by rw [up_i (by decide)]; exact h5) (fun _ => up_s) (fun i hi => absurd hi (by omega))
  rw [Nat.add_zero] at r3 r4 r5
  refine ⟨M', call_of 1 [vA 8] (by decide) rfl (Nat.le_of_ble_eq_true rfl) rfl ?_ rfl, r1, r2, r3, r4, r5⟩
  rw [b_52_0]
  exact q
end
