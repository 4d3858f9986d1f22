section
/-! ===== tokens: words ===== -/
/-- a word is read -/
theorem s_50 {d0 : Nat} (hd : 2 ≤ d0) {M : MM} {R : RR} (hL : Lay R) {B : Nat → Int} {Z s : Nat} (hB : BY M 9 B Z) (h1 : M 8 1 = (Z : Int)) (h4 : M 8 4 = (s : Int)) (h5 : M 8 5 = (s : Int)) (hs : s ≤ Z) : ∃ M', call d0 50 [vA 8] M R = some (vX 0, M', R) ∧ Fx [8] M M' ∧ (∀ i, ¬ i = 2 → ¬ i = 3 → ¬ i = 5 → M' 8 i = M 8 i) ∧ M' 8 5 = ((skp isLt B (Z - s) s : Nat) : Int) ∧ M' 8 2 = (if wx B s (skp isLt B (Z - s) s - s) < 0 then 1 else if wx B s (skp isLt B (Z - s) s - s) < 6 then 4 + wx B s (skp isLt B (Z - s) s - s) else 3) ∧ (0 ≤ wx B s (skp isLt B (Z - s) s - s) → M' 8 3 = wx B s (skp isLt B (Z - s) s - s) - 6) := by
  obtain ⟨e, rfl⟩ := s_le hd
  have hZ := hB.1
  have hk := skp_ok isLt B (Z - s) s
  have q := t_50 (e := e + 1) (by omega) hL (Z - s) s M hB h1 (by omega) h5
  generalize skp isLt B (Z - s) s = z at hk q
  obtain ⟨n, hn⟩ : ∃ n, z = s + n := ⟨z - s, by omega⟩
  subst hn
  rw [show s + n - s = n by omega]
  obtain ⟨N, hN⟩ : ∃ N, N = up (up M 8 5 ((s + n : Nat) : Int)) 8 2 1 := ⟨_, rfl⟩
  have FN : Fx [8] M N := by rw [hN]; exact Fx_t (Fx_p (by decide)) (Fx_p (by decide))
  have n4 : N 8 4 = (s : Int) := by rw [hN, up_i (by decide), up_i (by decide)]; exact h4
  have n5 : N 8 5 = ((s + n : Nat) : Int) := by rw [hN, up_i (by decide), up_s]
  have nB : BY N 9 B Z := ⟨hZ, fun i hi => by rw [FN 9 (by decide)]; exact hB.2 i hi⟩
  have key : ∀ (k w : Nat), w + k = 12 → run (call (e + 1)) 50 46 [vA 8, vI w] [] N R = some (vX 0, (if fi (wmB B s n) k w < 0 then N else up (up N 8 2 (if fi (wmB B s n) k w < 6 then 4 + fi (wmB B s n) k w else 3)) 8 3 (fi (wmB B s n) k w - 6)), R) := by
    intro k
    induction k with
    | zero =>
      intro w hw
      have ew : w32 ((w : Int) * 6) = (w : Int) * 6 := w32_i (by omega)
      rw [b_50_46, ew, if_pos (by omega), b_50_98]
      rfl
    | succ k ih =>
      intro w hw
      have ew : w32 ((w : Int) * 6) = (w : Int) * 6 := w32_i (by omega)
      have e1 : w32 ((w : Int) + 1) = ((w + 1 : Nat) : Int) := by rw [w32_i (by omega)]; omega
      have e4 : w32 (4 + (w : Int)) = 4 + (w : Int) := w32_i (by omega)
      have e6 : w32 ((w : Int) - 6) = (w : Int) - 6 := w32_i (by omega)
      have hfi : fi (wmB B s n) (k + 1) w = if wmB B s n w = true then (w : Int) else fi (wmB B s n) k (w + 1) := rfl
      rw [b_50_46, ew, if_neg (by omega), b_50_58, s_51 (by omega) hL nB n4 n5 (by omega) (by omega), bsI, b_50_63, hfi]
      by_cases h : wmB B s n w = true
      · rw [b2_t h, if_neg (by decide), b_50_66, if_pos h, if_neg (show ¬ (w : Int) < 0 by omega)]
        by_cases g : w < 6
        · rw [if_neg (by omega), b_50_73, b_50_80, e4, e6, if_pos (show (w : Int) < 6 by omega)]
        · rw [if_pos (by omega), b_50_79, b_50_80, e6, if_neg (show ¬ (w : Int) < 6 by omega)]
      · rw [b2_f h, if_pos rfl, b_50_92, e1, if_neg h]
        exact ih (w + 1) (by omega)
  have hq := key 12 0 rfl
  have hw : fi (wmB B s n) 12 0 = wx B s n := rfl
  rw [hw] at hq
  have run0 : ∀ M', run (call (e + 1)) 50 46 [vA 8, vI 0] [] N R = some (vX 0, M', R) → call (e + 2) 50 [vA 8] M R = some (vX 0, M', R) := by
    intro M' h
    refine call_of 2 [vA 8, vX 0] (by decide) rfl (Nat.le_of_ble_eq_true rfl) rfl ?_ rfl
    rw [q, b_50_39, ← hN]
    exact h
  by_cases g : wx B s n < 0
  · rw [if_pos g] at hq
    refine ⟨N, run0 N hq, FN, ?_, n5, ?_, fun q => absurd q (by omega)⟩
    · intro i i2 i3 i5
      rw [hN, up_i i2, up_i i5]
    · rw [if_pos g, hN, up_s]
  · rw [if_neg g] at hq
    refine ⟨_, run0 _ hq, Fx_t FN (Fx_t (Fx_p (by decide)) (Fx_p (by decide))), ?_, ?_, ?_, fun _ => up_s⟩
    · intro i i2 i3 i5
      rw [up_i i3, up_i i2, hN, up_i i2, up_i i5]
    · rw [up_i (by decide), up_i (by decide)]; exact n5
    · rw [if_neg g, up_i (by decide), up_s]
end
