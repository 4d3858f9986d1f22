/-! ===== specs ===== -/
/-- a spread of the class: its object, its pieces, what it found; width w -/
def spO (R : RR) (o pi fo w : Nat) : Prop := kindOf o = 5 ∧ R o 2 = pi ∧ R o 3 = fo ∧ kindOf pi = 14 ∧ kindOf fo = 14 ∧ R 0 (pi + 2) = 8 * w ∧ R 0 (fo + 2) = 128 * w ∧ ¬ pi = fo ∧ ¬ o = fo ∧ ¬ o = pi
theorem row_ne {r s w m q : Nat} (h : ¬ r = s) (hm : m < w) (hq : q < w) : ¬ r * w + m = s * w + q := by
  intro e
  rcases Nat.lt_or_gt_of_ne h with g | g
  · have := Nat.mul_le_mul_right w (Nat.succ_le_of_lt g)
    rw [Nat.succ_mul] at this
    omega
  · have := Nat.mul_le_mul_right w (Nat.succ_le_of_lt g)
    rw [Nat.succ_mul] at this
    omega
theorem row_b {s w n : Nat} (hs : s < n) (m : Nat) (hm : m < w) : s * w + m < n * w := by
  have := Nat.mul_le_mul_right w (Nat.succ_le_of_lt hs)
  rw [Nat.succ_mul] at this
  omega
/-- a number of the piece times the rest's -/
theorem t_44 {e : Nat} {M : MM} {R : RR} {o pi fo w s A r n mr : Nat} {x5 : Int} {T fa : Int} {c : Int} {F G : Nat → Int} (hS : spO R o pi fo w) (hw : M o 1 = (w : Int)) (hw22 : w ≤ 22) (hs : s < 128) (hr : r < 128) (hrs : ¬ r = s) (hn : n + mr < w) (hF : ∀ m, m < w → M fo (r * w + m) = w64 (F m)) (hG : ∀ q, q < w → M fo (s * w + q) = w64 (G q)) (hfa : fa = w64 c) : ∃ M' : MM, run (call e) 44 79 [vA o, vI s, vI A, vJ T, vX 0, vI x5, vI ((r * w : Nat) : Int), vI mr, vI n, vJ fa, vX 0, vI 0] [] M R = run (call e) 44 79 [vA o, vI s, vI A, vJ T, vX 0, vI x5, vI ((r * w : Nat) : Int), vI mr, vI n, vJ fa, vX 0, vI ((mr + 1 : Nat) : Int)] [] M' R ∧ Fx [fo] M M' ∧ (∀ q, q < w → M' fo (s * w + q) = w64 (G q + (if n ≤ q ∧ q - n < mr + 1 then c * F (q - n) else 0))) ∧ ∀ j, ¬ (s * w ≤ j ∧ j < s * w + w) → M' fo j = M fo j := by
  obtain ⟨k1, k2, k3, k4, k5, k6, k7, k8, k9, k10⟩ := hS
  have key := loop_nat (fun m (a : MM) => run (call e) 44 79 [vA o, vI s, vI A, vJ T, vX 0, vI x5, vI ((r * w : Nat) : Int), vI mr, vI n, vJ fa, vX 0, vI m] [] a R) (fun i a => Fx [fo] M a ∧ (∀ q, q < w → a fo (s * w + q) = w64 (G q + (if n ≤ q ∧ q - n < i then c * F (q - n) else 0))) ∧ ∀ j, ¬ (s * w ≤ j ∧ j < s * w + w) → a fo j = M fo j) (mr + 1) ?_ M ?_
  · obtain ⟨M1, ⟨a1, a2, a3⟩, hq⟩ := key
    exact ⟨M1, hq, a1, a2, a3⟩
  · rintro m M1 hm ⟨a1, a2, a3⟩
    have e1 : w32 ((m : Int) + 1) = ((m + 1 : Nat) : Int) := by rw [w32_i (by omega)]; omega
    have sw : s * w ≤ 127 * 22 := Nat.mul_le_mul (by omega) hw22
    have rw' : r * w ≤ 127 * 22 := Nat.mul_le_mul (by omega) hw22
    have sb := row_b (w := w) hs (n + m) (by omega)
    have rb := row_b (w := w) hr m (by omega)
    have g1 : M1 o 1 = (w : Int) := by rw [a1 o (by simpa using k9)]; exact hw
    have ei : w32 (w32 (w32 ((s : Int) * (w : Int)) + (n : Int)) + (m : Int)) = ((s * w + (n + m) : Nat) : Int) := by
      rw [← Int.natCast_mul]
      simp (disch := omega) only [w32_i]
      omega
    have ej : w32 (((r * w : Nat) : Int) + (m : Int)) = ((r * w + m : Nat) : Int) := by rw [w32_i (by omega)]; omega
    have hr1 : M1 fo (r * w + m) = w64 (F m) := by
      rw [a3 (r * w + m) (fun h => row_ne (q := r * w + m - s * w) hrs (by omega : m < w) (by omega) (by omega)), hF m (by omega)]
    have hs1 := a2 (n + m) (by omega)
    rw [if_neg (by omega)] at hs1
    refine ⟨up M1 fo (s * w + (n + m)) (w64 (G (n + m) + c * F m)), ⟨Fx_t a1 (Fx_p (by simp)), ?_, ?_⟩, ?_⟩
    · intro q hq
      by_cases h : q = n + m
      · subst h
        rw [up_s, if_pos (by omega), show n + m - n = m by omega]
      · rw [up_i (by omega), a2 q hq]
        by_cases g : n ≤ q ∧ q - n < m
        · rw [if_pos g, if_pos (by omega)]
        · rw [if_neg g, if_neg (by omega)]
    · intro j hj
      rw [up_i (by omega)]
      exact a3 j hj
    · show run (call e) 44 79 [vA o, vI s, vI A, vJ T, vX 0, vI x5, vI ((r * w : Nat) : Int), vI mr, vI n, vJ fa, vX 0, vI m] [] M1 R = _
      rw [b_44_79, if_neg (by omega), b_44_86 _ _ _ _ _ _ _ _ _ _ k1 (by rw [k3]; exact k5), k3, k7, g1, ei, ej, if_pos (by omega), if_pos (by omega), if_pos (by omega), e1, Int.toNat_natCast, Int.toNat_natCast, hs1, hr1, hfa, Int.add_zero, w64_ml, w64_mr, w64_al, w64_ar]
  · refine ⟨Fx_r, ?_, fun _ _ => rfl⟩
    intro q hq
    rw [if_neg (by omega), Int.add_zero]
    exact hG q hq
