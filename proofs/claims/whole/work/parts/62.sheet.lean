/-! ===== specs ===== -/
/-- sheet s of the class: its object o, its numbers nb -/
def shO (R : RR) (o nb : Nat) : Prop := kindOf o = 4 ∧ R o 2 = nb ∧ kindOf nb = 13 ∧ R 0 (nb + 2) = 40 ∧ ¬ nb = o
theorem s_35 {d0 : Nat} (hd : 1 ≤ d0) {M : MM} {R : RR} {o nb : Nat} (so n : Int) (hs : shO R o nb) : ∃ M', call d0 35 [vA o, vI so, vI n] M R = some (vX 0, M', R) ∧ Fx [o, nb] M M' ∧ M' o = upf (upf (M o) 0 so) 1 n ∧ ∀ i, i < 40 → M' nb i = 0 := by
  obtain ⟨h1, h2, h3, h4, h5⟩ := hs
  obtain ⟨e, rfl⟩ := s_le hd
  have key := loop_nat (fun i (a : MM) => run (call e) 35 12 [vA o, vI so, vI n, vI i] [] a R) (fun i a => Fx [o, nb] M a ∧ a o = upf (upf (M o) 0 so) 1 n ∧ ∀ j, j < i → a nb j = 0) 40 ?_ (up (up M o 0 so) o 1 n) ?_
  · obtain ⟨M1, ⟨a1, a2, a3⟩, hq⟩ := key
    refine ⟨M1, ?_, a1, a2, a3⟩
    refine call_of 4 [vA o, vI so, vI n, vX 0] (by decide) rfl (Nat.le_of_ble_eq_true rfl) rfl ?_ rfl
    rw [b_35_0 _ _ _ h1]
    refine Eq.trans hq ?_
    show run (call e) 35 12 [vA o, vI so, vI n, vI ((40 : Nat) : Int)] [] M1 R = _
    rw [b_35_12 _ _ _ _ h1 (by rw [h2]; exact h3), h2, h4, if_pos (by omega), b_35_34]
  · rintro i M1 hi ⟨a1, a2, a3⟩
    have e1 : w32 ((i : Int) + 1) = ((i + 1 : Nat) : Int) := by rw [w32_i (by omega)]; omega
    refine ⟨up M1 nb i 0, ⟨Fx_t a1 (Fx_p (by simp)), ?_, ?_⟩, ?_⟩
    · rw [up_o (fun h => h5 h.symm)]; exact a2
    · intro j hj
      by_cases g : j = i
      · subst g; rw [up_s]
      · rw [up_i g]; exact a3 j (by omega)
    · show run (call e) 35 12 [vA o, vI so, vI n, vI i] [] M1 R = _
      rw [b_35_12 _ _ _ _ h1 (by rw [h2]; exact h3), h2, h4, if_neg (by omega), b_35_21 _ _ _ _ h1 (by rw [h2]; exact h3), h2, h4, if_pos (by omega), e1, Int.toNat_natCast]
  · refine ⟨Fx_t (Fx_p (by simp)) (Fx_p (by simp)), ?_, fun j hj => absurd hj (by omega)⟩
    rw [up_f, up_f]
/-- a number as a sheet of that sort keeps it -/
def fit (so v : Int) : Int := if so = 0 then c_i2b v else if so = 1 then c_i2s v else v
theorem s_36 {d0 : Nat} (hd : 1 ≤ d0) {M : MM} {R : RR} {o nb i : Nat} (v : Int) (hs : shO R o nb) (hi : (i : Int) < M o 1) (hi40 : i < 40) : call d0 36 [vA o, vI i, vI v] M R = some (vX 0, up M nb i (fit (M o 0) v), R) := by
  obtain ⟨h1, h2, h3, h4, h5⟩ := hs
  obtain ⟨e, rfl⟩ := s_le hd
  refine call_of 3 [vA o, vI i, vI v] (by decide) rfl (Nat.le_of_ble_eq_true rfl) rfl ?_ rfl
  have fin : ∀ x : Int, run (call e) 36 43 [vA o, vI i, vI v] [vI x, vI i, vA nb] M R = some (vX 0, up M nb i x, R) := by
    intro x
    rw [b_36_43 _ _ _ _ _ _ h3, h4, if_pos (by omega), b_36_44, Int.toNat_natCast]
  rw [b_36_0, if_neg (by omega), b_36_4 _ _ _ h1, if_neg (by omega), b_36_12 _ _ _ h1, h2]
  unfold fit
  by_cases g0 : M o 0 = 0
  · rw [if_neg (by omega), b_36_24, fin, if_pos g0]
  · rw [if_pos g0, b_36_29 _ _ _ _ _ h1, if_neg g0]
    by_cases g1 : M o 0 = 1
    · rw [if_neg (by omega), b_36_37, fin, if_pos g1]
    · rw [if_pos g1, b_36_42, fin, if_neg g1]
