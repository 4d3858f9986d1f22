/-! ===== the law's loop ===== -/
theorem w7 {n j : Nat} (hn : n ≤ 511) (hj : j ≤ 7) : w32 (((7 * n : Nat) : Int) + (j : Int)) = ((7 * n + j : Nat) : Int) := by
  rw [w32_i (by omega)]; omega
/-- what one turn leaves -/
def LT (e n : Nat) (X : Option Res) (M : MM) (R : RR) : Prop := ∃ (M' : MM) (R' : RR), X = run (call e) 261 1645 [vX 2, vA 1, vA 57, vI ((7 * n : Nat) : Int)] [] M' R' ∧ INV (n + 1) M' R' ∧ M' 0 = M 0 ∧ R' 0 2 = R 0 2
def i32r (M : MM) : Prop := ∀ j, -2147483648 ≤ M 0 j ∧ M 0 j < 2147483648
theorem lc0 (x : Int) : (if x < x then (1 : Int) else if x = x then 0 else -1) = 0 := by
  rw [if_neg (by omega), if_pos rfl]
theorem lw_0 {e n : Nat} (he : 50 ≤ e) (hn : n ≤ 511) {M : MM} {R : RR} (hI : INV n M R) (hi : 7 * n + 7 ≤ R 0 2) (hr : i32r M) : LT e n (run (call e) 261 220 [vX 2, vA 1, vA 57, vI ((7 * n : Nat) : Int)] [] M R) M R := by
  obtain ⟨x, M1, R1, M2, q1, q2, hI2⟩ := st_92 (d := e) (by omega) (by omega) hI (M 0 (7 * n + 1)) (M 0 (7 * n + 2)) (M 0 (7 * n + 3))
  obtain ⟨a1, a2⟩ := call_kp e _ _ _ _ _ _ _ q1
  obtain ⟨b1, b2⟩ := call_kp e _ _ _ _ _ _ _ q2
  have w1 := w7 (n := n) (j := 1) hn (by decide)
  have w2 := w7 (n := n) (j := 2) hn (by decide)
  have w3 := w7 (n := n) (j := 3) hn (by decide)
  have w1 : w32 (((7 * n : Nat) : Int) + 1) = ((7 * n + 1 : Nat) : Int) := w1
  have w2 : w32 (((7 * n : Nat) : Int) + 2) = ((7 * n + 2 : Nat) : Int) := w2
  have w3 : w32 (((7 * n : Nat) : Int) + 3) = ((7 * n + 3 : Nat) : Int) := w3
  refine ⟨M2, R1, ?_, hI2, b1.trans a1, a2⟩
  rw [b_261_220 1 57 _ rfl]
  simp only [w1, w2, w3]
  rw [if_pos (by omega), if_pos (by omega), if_pos (by omega)]
  simp only [Int.toNat_natCast]
  rw [q1, bsI, b_261_239 1 57 _ _ rfl]
  simp only [w1, w2, w3, a1, a2]
  rw [if_pos (by omega), if_pos (by omega), if_pos (by omega)]
  simp only [Int.toNat_natCast]
  rw [q2, bsI, b_261_258, if_pos rfl]
theorem lw_1 {e n : Nat} (he : 50 ≤ e) (hn : n ≤ 511) {M : MM} {R : RR} (hI : INV n M R) (hi : 7 * n + 7 ≤ R 0 2) (hr : i32r M) : LT e n (run (call e) 261 263 [vX 2, vA 1, vA 57, vI ((7 * n : Nat) : Int)] [] M R) M R := by
  obtain ⟨x, M1, R1, M2, q1, q2, hI2⟩ := st_95 (d := e) (by omega)  hI (M 0 (7 * n + 1))
  obtain ⟨a1, a2⟩ := call_kp e _ _ _ _ _ _ _ q1
  obtain ⟨b1, b2⟩ := call_kp e _ _ _ _ _ _ _ q2
  have w1 := w7 (n := n) (j := 1) hn (by decide)
  have w1 : w32 (((7 * n : Nat) : Int) + 1) = ((7 * n + 1 : Nat) : Int) := w1
  refine ⟨M2, R1, ?_, hI2, b1.trans a1, a2⟩
  rw [b_261_263 1 57 _ rfl]
  simp only [w1]
  rw [if_pos (by omega)]
  simp only [Int.toNat_natCast]
  rw [q1, bsI, b_261_272 1 57 _ _ rfl]
  simp only [w1, a1, a2]
  rw [if_pos (by omega)]
  simp only [Int.toNat_natCast]
  rw [q2, bsI, b_261_281, if_pos rfl]
theorem lw_2 {e n : Nat} (he : 50 ≤ e) (hn : n ≤ 511) {M : MM} {R : RR} (hI : INV n M R) (hi : 7 * n + 7 ≤ R 0 2) (hr : i32r M) : LT e n (run (call e) 261 286 [vX 2, vA 1, vA 57, vI ((7 * n : Nat) : Int)] [] M R) M R := by
  obtain ⟨x, M1, R1, M2, q1, q2, hI2⟩ := st_96 (d := e) (by omega)  hI (M 0 (7 * n + 1))
  obtain ⟨a1, a2⟩ := call_kp e _ _ _ _ _ _ _ q1
  obtain ⟨b1, b2⟩ := call_kp e _ _ _ _ _ _ _ q2
  have w1 := w7 (n := n) (j := 1) hn (by decide)
  have w1 : w32 (((7 * n : Nat) : Int) + 1) = ((7 * n + 1 : Nat) : Int) := w1
  refine ⟨M2, R1, ?_, hI2, b1.trans a1, a2⟩
  rw [b_261_286 1 57 _ rfl]
  simp only [w1]
  rw [if_pos (by omega)]
  simp only [Int.toNat_natCast]
  rw [q1, bsI, b_261_295 1 57 _ _ rfl]
  simp only [w1, a1, a2]
  rw [if_pos (by omega)]
  simp only [Int.toNat_natCast]
  rw [q2, bsI, b_261_304, if_pos rfl]
theorem lw_3 {e n : Nat} (he : 50 ≤ e) (hn : n ≤ 511) {M : MM} {R : RR} (hI : INV n M R) (hi : 7 * n + 7 ≤ R 0 2) (hr : i32r M) : LT e n (run (call e) 261 309 [vX 2, vA 1, vA 57, vI ((7 * n : Nat) : Int)] [] M R) M R := by
  obtain ⟨x, M1, R1, M2, q1, q2, hI2⟩ := st_97 (d := e) (by omega)  hI (M 0 (7 * n + 1)) (M 0 (7 * n + 2)) (M 0 (7 * n + 3)) (M 0 (7 * n + 4)) (M 0 (7 * n + 5)) (M 0 (7 * n + 6))
  obtain ⟨a1, a2⟩ := call_kp e _ _ _ _ _ _ _ q1
  obtain ⟨b1, b2⟩ := call_kp e _ _ _ _ _ _ _ q2
  have w1 := w7 (n := n) (j := 1) hn (by decide)
  have w2 := w7 (n := n) (j := 2) hn (by decide)
  have w3 := w7 (n := n) (j := 3) hn (by decide)
  have w4 := w7 (n := n) (j := 4) hn (by decide)
  have w5 := w7 (n := n) (j := 5) hn (by decide)
  have w6 := w7 (n := n) (j := 6) hn (by decide)
  have w1 : w32 (((7 * n : Nat) : Int) + 1) = ((7 * n + 1 : Nat) : Int) := w1
  have w2 : w32 (((7 * n : Nat) : Int) + 2) = ((7 * n + 2 : Nat) : Int) := w2
  have w3 : w32 (((7 * n : Nat) : Int) + 3) = ((7 * n + 3 : Nat) : Int) := w3
  have w4 : w32 (((7 * n : Nat) : Int) + 4) = ((7 * n + 4 : Nat) : Int) := w4
  have w5 : w32 (((7 * n : Nat) : Int) + 5) = ((7 * n + 5 : Nat) : Int) := w5
  have w6 : w32 (((7 * n : Nat) : Int) + 6) = ((7 * n + 6 : Nat) : Int) := w6
  refine ⟨M2, R1, ?_, hI2, b1.trans a1, a2⟩
  rw [b_261_309 1 57 _ rfl]
  simp only [w1, w2, w3, w4, w5, w6]
  rw [if_pos (by omega), if_pos (by omega), if_pos (by omega), if_pos (by omega), if_pos (by omega), if_pos (by omega)]
  simp only [Int.toNat_natCast]
  rw [q1, bsI, b_261_344 1 57 _ _ rfl]
  simp only [w1, w2, w3, w4, w5, w6, a1, a2]
  rw [if_pos (by omega), if_pos (by omega), if_pos (by omega), if_pos (by omega), if_pos (by omega), if_pos (by omega)]
  simp only [Int.toNat_natCast]
  rw [q2, bsI, b_261_379, if_pos rfl]
theorem lw_4 {e n : Nat} (he : 50 ≤ e) (hn : n ≤ 511) {M : MM} {R : RR} (hI : INV n M R) (hi : 7 * n + 7 ≤ R 0 2) (hr : i32r M) : LT e n (run (call e) 261 384 [vX 2, vA 1, vA 57, vI ((7 * n : Nat) : Int)] [] M R) M R := by
  obtain ⟨x, M1, R1, M2, q1, q2, hI2⟩ := st_99 (d := e) (by omega)  hI 
  obtain ⟨a1, a2⟩ := call_kp e _ _ _ _ _ _ _ q1
  obtain ⟨b1, b2⟩ := call_kp e _ _ _ _ _ _ _ q2
  refine ⟨M2, R1, ?_, hI2, b1.trans a1, a2⟩
  rw [b_261_384 1 57 _ rfl, q1, bsI, b_261_388 1 57 _ _ rfl, q2, bsI, b_261_392, if_pos rfl]
theorem lw_5 {e n : Nat} (he : 50 ≤ e) (hn : n ≤ 511) {M : MM} {R : RR} (hI : INV n M R) (hi : 7 * n + 7 ≤ R 0 2) (hr : i32r M) : LT e n (run (call e) 261 397 [vX 2, vA 1, vA 57, vI ((7 * n : Nat) : Int)] [] M R) M R := by
  obtain ⟨x, M1, R1, M2, q1, q2, hI2⟩ := st_100 (d := e) (by omega) (by omega) hI (M 0 (7 * n + 1))
  obtain ⟨a1, a2⟩ := call_kp e _ _ _ _ _ _ _ q1
  obtain ⟨b1, b2⟩ := call_kp e _ _ _ _ _ _ _ q2
  have w1 := w7 (n := n) (j := 1) hn (by decide)
  have w1 : w32 (((7 * n : Nat) : Int) + 1) = ((7 * n + 1 : Nat) : Int) := w1
  refine ⟨M2, R1, ?_, hI2, b1.trans a1, a2⟩
  rw [b_261_397 1 57 _ rfl]
  simp only [w1]
  rw [if_pos (by omega)]
  simp only [Int.toNat_natCast]
  rw [q1, bsI, b_261_406 1 57 _ _ rfl]
  simp only [w1, a1, a2]
  rw [if_pos (by omega)]
  simp only [Int.toNat_natCast]
  rw [q2, bsI, b_261_415, if_pos rfl]
theorem lw_6 {e n : Nat} (he : 50 ≤ e) (hn : n ≤ 511) {M : MM} {R : RR} (hI : INV n M R) (hi : 7 * n + 7 ≤ R 0 2) (hr : i32r M) : LT e n (run (call e) 261 420 [vX 2, vA 1, vA 57, vI ((7 * n : Nat) : Int)] [] M R) M R := by
  obtain ⟨x, M1, R1, M2, q1, q2, hI2⟩ := st_101 (d := e) (by omega)  hI (M 0 (7 * n + 1)) (M 0 (7 * n + 2)) (M 0 (7 * n + 3))
  obtain ⟨a1, a2⟩ := call_kp e _ _ _ _ _ _ _ q1
  obtain ⟨b1, b2⟩ := call_kp e _ _ _ _ _ _ _ q2
  have w1 := w7 (n := n) (j := 1) hn (by decide)
  have w2 := w7 (n := n) (j := 2) hn (by decide)
  have w3 := w7 (n := n) (j := 3) hn (by decide)
  have w1 : w32 (((7 * n : Nat) : Int) + 1) = ((7 * n + 1 : Nat) : Int) := w1
  have w2 : w32 (((7 * n : Nat) : Int) + 2) = ((7 * n + 2 : Nat) : Int) := w2
  have w3 : w32 (((7 * n : Nat) : Int) + 3) = ((7 * n + 3 : Nat) : Int) := w3
  refine ⟨M2, R1, ?_, hI2, b1.trans a1, a2⟩
  rw [b_261_420 1 57 _ rfl]
  simp only [w1, w2, w3]
  rw [if_pos (by omega), if_pos (by omega), if_pos (by omega)]
  simp only [Int.toNat_natCast]
  rw [q1, bsI, b_261_439 1 57 _ _ rfl]
  simp only [w1, w2, w3, a1, a2]
  rw [if_pos (by omega), if_pos (by omega), if_pos (by omega)]
  simp only [Int.toNat_natCast]
  rw [q2, bsI, b_261_458, if_pos rfl]
theorem lw_7 {e n : Nat} (he : 50 ≤ e) (hn : n ≤ 511) {M : MM} {R : RR} (hI : INV n M R) (hi : 7 * n + 7 ≤ R 0 2) (hr : i32r M) : LT e n (run (call e) 261 463 [vX 2, vA 1, vA 57, vI ((7 * n : Nat) : Int)] [] M R) M R := by
  obtain ⟨x, M1, R1, M2, q1, q2, hI2⟩ := st_102 (d := e) (by omega) (by omega) hI (M 0 (7 * n + 1)) (M 0 (7 * n + 2)) (M 0 (7 * n + 3))
  obtain ⟨a1, a2⟩ := call_kp e _ _ _ _ _ _ _ q1
  obtain ⟨b1, b2⟩ := call_kp e _ _ _ _ _ _ _ q2
  have w1 := w7 (n := n) (j := 1) hn (by decide)
  have w2 := w7 (n := n) (j := 2) hn (by decide)
  have w3 := w7 (n := n) (j := 3) hn (by decide)
  have w1 : w32 (((7 * n : Nat) : Int) + 1) = ((7 * n + 1 : Nat) : Int) := w1
  have w2 : w32 (((7 * n : Nat) : Int) + 2) = ((7 * n + 2 : Nat) : Int) := w2
  have w3 : w32 (((7 * n : Nat) : Int) + 3) = ((7 * n + 3 : Nat) : Int) := w3
  refine ⟨M2, R1, ?_, hI2, b1.trans a1, a2⟩
  rw [b_261_463 1 57 _ rfl]
  simp only [w1, w2, w3]
  rw [if_pos (by omega), if_pos (by omega), if_pos (by omega)]
  simp only [Int.toNat_natCast]
  rw [q1, bsI, b_261_482 1 57 _ _ rfl]
  simp only [w1, w2, w3, a1, a2]
  rw [if_pos (by omega), if_pos (by omega), if_pos (by omega)]
  simp only [Int.toNat_natCast]
  rw [q2, bsI, b_261_501, if_pos rfl]
theorem lw_8 {e n : Nat} (he : 50 ≤ e) (hn : n ≤ 511) {M : MM} {R : RR} (hI : INV n M R) (hi : 7 * n + 7 ≤ R 0 2) (hr : i32r M) : LT e n (run (call e) 261 506 [vX 2, vA 1, vA 57, vI ((7 * n : Nat) : Int)] [] M R) M R := by
  obtain ⟨x, M1, R1, M2, q1, q2, hI2⟩ := st_104 (d := e) (by omega) (by omega) hI (M 0 (7 * n + 1)) (M 0 (7 * n + 2))
  obtain ⟨a1, a2⟩ := call_kp e _ _ _ _ _ _ _ q1
  obtain ⟨b1, b2⟩ := call_kp e _ _ _ _ _ _ _ q2
  have w1 := w7 (n := n) (j := 1) hn (by decide)
  have w2 := w7 (n := n) (j := 2) hn (by decide)
  have w1 : w32 (((7 * n : Nat) : Int) + 1) = ((7 * n + 1 : Nat) : Int) := w1
  have w2 : w32 (((7 * n : Nat) : Int) + 2) = ((7 * n + 2 : Nat) : Int) := w2
  refine ⟨M2, R1, ?_, hI2, b1.trans a1, a2⟩
  rw [b_261_506 1 57 _ rfl]
  simp only [w1, w2]
  rw [if_pos (by omega), if_pos (by omega)]
  simp only [Int.toNat_natCast]
  rw [q1, bsI, b_261_520 1 57 _ _ rfl]
  simp only [w1, w2, a1, a2]
  rw [if_pos (by omega), if_pos (by omega)]
  simp only [Int.toNat_natCast]
  rw [q2, bsI, b_261_534, if_pos rfl]
theorem lw_9 {e n : Nat} (he : 50 ≤ e) (hn : n ≤ 511) {M : MM} {R : RR} (hI : INV n M R) (hi : 7 * n + 7 ≤ R 0 2) (hr : i32r M) : LT e n (run (call e) 261 539 [vX 2, vA 1, vA 57, vI ((7 * n : Nat) : Int)] [] M R) M R := by
  obtain ⟨x, M1, R1, M2, q1, q2, hI2⟩ := st_105 (d := e) (by omega)  hI (M 0 (7 * n + 1)) (M 0 (7 * n + 2))
  obtain ⟨a1, a2⟩ := call_kp e _ _ _ _ _ _ _ q1
  obtain ⟨b1, b2⟩ := call_kp e _ _ _ _ _ _ _ q2
  have w1 := w7 (n := n) (j := 1) hn (by decide)
  have w2 := w7 (n := n) (j := 2) hn (by decide)
  have w1 : w32 (((7 * n : Nat) : Int) + 1) = ((7 * n + 1 : Nat) : Int) := w1
  have w2 : w32 (((7 * n : Nat) : Int) + 2) = ((7 * n + 2 : Nat) : Int) := w2
  refine ⟨M2, R1, ?_, hI2, b1.trans a1, a2⟩
  rw [b_261_539 1 57 _ rfl]
  simp only [w1, w2]
  rw [if_pos (by omega), if_pos (by omega)]
  simp only [Int.toNat_natCast]
  rw [q1, bsI, b_261_553 1 57 _ _ rfl]
  simp only [w1, w2, a1, a2]
  rw [if_pos (by omega), if_pos (by omega)]
  simp only [Int.toNat_natCast]
  rw [q2, bsI, b_261_567, if_pos rfl]
theorem lw_10 {e n : Nat} (he : 50 ≤ e) (hn : n ≤ 511) {M : MM} {R : RR} (hI : INV n M R) (hi : 7 * n + 7 ≤ R 0 2) (hr : i32r M) : LT e n (run (call e) 261 572 [vX 2, vA 1, vA 57, vI ((7 * n : Nat) : Int)] [] M R) M R := by
  obtain ⟨x, M1, R1, M2, q1, q2, hI2⟩ := st_107 (d := e) (by omega)  hI (M 0 (7 * n + 1)) (M 0 (7 * n + 2))
  obtain ⟨a1, a2⟩ := call_kp e _ _ _ _ _ _ _ q1
  obtain ⟨b1, b2⟩ := call_kp e _ _ _ _ _ _ _ q2
  have w1 := w7 (n := n) (j := 1) hn (by decide)
  have w2 := w7 (n := n) (j := 2) hn (by decide)
  have w1 : w32 (((7 * n : Nat) : Int) + 1) = ((7 * n + 1 : Nat) : Int) := w1
  have w2 : w32 (((7 * n : Nat) : Int) + 2) = ((7 * n + 2 : Nat) : Int) := w2
  refine ⟨M2, R1, ?_, hI2, b1.trans a1, a2⟩
  rw [b_261_572 1 57 _ rfl]
  simp only [w1, w2]
  rw [if_pos (by omega), if_pos (by omega)]
  simp only [Int.toNat_natCast]
  rw [q1, bsI, b_261_586 1 57 _ _ rfl]
  simp only [w1, w2, a1, a2]
  rw [if_pos (by omega), if_pos (by omega)]
  simp only [Int.toNat_natCast]
  rw [q2, bsI, b_261_600, if_pos rfl]
theorem lw_11 {e n : Nat} (he : 50 ≤ e) (hn : n ≤ 511) {M : MM} {R : RR} (hI : INV n M R) (hi : 7 * n + 7 ≤ R 0 2) (hr : i32r M) : LT e n (run (call e) 261 605 [vX 2, vA 1, vA 57, vI ((7 * n : Nat) : Int)] [] M R) M R := by
  obtain ⟨x, M1, R1, M2, q1, q2, hI2⟩ := st_108 (d := e) (by omega)  hI (M 0 (7 * n + 1)) (M 0 (7 * n + 2))
  obtain ⟨a1, a2⟩ := call_kp e _ _ _ _ _ _ _ q1
  obtain ⟨b1, b2⟩ := call_kp e _ _ _ _ _ _ _ q2
  have w1 := w7 (n := n) (j := 1) hn (by decide)
  have w2 := w7 (n := n) (j := 2) hn (by decide)
  have w1 : w32 (((7 * n : Nat) : Int) + 1) = ((7 * n + 1 : Nat) : Int) := w1
  have w2 : w32 (((7 * n : Nat) : Int) + 2) = ((7 * n + 2 : Nat) : Int) := w2
  refine ⟨M2, R1, ?_, hI2, b1.trans a1, a2⟩
  rw [b_261_605 1 57 _ rfl]
  simp only [w1, w2]
  rw [if_pos (by omega), if_pos (by omega)]
  simp only [Int.toNat_natCast]
  rw [q1, bsJ, b_261_619 1 57 _ _ rfl]
  simp only [w1, w2, a1, a2]
  rw [if_pos (by omega), if_pos (by omega)]
  simp only [Int.toNat_natCast]
  rw [q2, bsJ, b_261_633, if_pos (lc0 x)]
theorem lw_12 {e n : Nat} (he : 50 ≤ e) (hn : n ≤ 511) {M : MM} {R : RR} (hI : INV n M R) (hi : 7 * n + 7 ≤ R 0 2) (hr : i32r M) : LT e n (run (call e) 261 639 [vX 2, vA 1, vA 57, vI ((7 * n : Nat) : Int)] [] M R) M R := by
  obtain ⟨x, M1, R1, M2, q1, q2, hI2⟩ := st_109 (d := e) (by omega)  hI (M 0 (7 * n + 1)) (M 0 (7 * n + 2))
  obtain ⟨a1, a2⟩ := call_kp e _ _ _ _ _ _ _ q1
  obtain ⟨b1, b2⟩ := call_kp e _ _ _ _ _ _ _ q2
  have w1 := w7 (n := n) (j := 1) hn (by decide)
  have w2 := w7 (n := n) (j := 2) hn (by decide)
  have w1 : w32 (((7 * n : Nat) : Int) + 1) = ((7 * n + 1 : Nat) : Int) := w1
  have w2 : w32 (((7 * n : Nat) : Int) + 2) = ((7 * n + 2 : Nat) : Int) := w2
  refine ⟨M2, R1, ?_, hI2, b1.trans a1, a2⟩
  rw [b_261_639 1 57 _ rfl]
  simp only [w1, w2]
  rw [if_pos (by omega), if_pos (by omega)]
  simp only [Int.toNat_natCast]
  rw [q1, bsJ, b_261_653 1 57 _ _ rfl]
  simp only [w1, w2, a1, a2]
  rw [if_pos (by omega), if_pos (by omega)]
  simp only [Int.toNat_natCast]
  rw [q2, bsJ, b_261_667, if_pos (lc0 x)]
theorem lw_13 {e n : Nat} (he : 50 ≤ e) (hn : n ≤ 511) {M : MM} {R : RR} (hI : INV n M R) (hi : 7 * n + 7 ≤ R 0 2) (hr : i32r M) : LT e n (run (call e) 261 673 [vX 2, vA 1, vA 57, vI ((7 * n : Nat) : Int)] [] M R) M R := by
  obtain ⟨x, M1, R1, M2, q1, q2, hI2⟩ := st_110 (d := e) (by omega)  hI (M 0 (7 * n + 1)) (M 0 (7 * n + 2))
  obtain ⟨a1, a2⟩ := call_kp e _ _ _ _ _ _ _ q1
  obtain ⟨b1, b2⟩ := call_kp e _ _ _ _ _ _ _ q2
  have w1 := w7 (n := n) (j := 1) hn (by decide)
  have w2 := w7 (n := n) (j := 2) hn (by decide)
  have w1 : w32 (((7 * n : Nat) : Int) + 1) = ((7 * n + 1 : Nat) : Int) := w1
  have w2 : w32 (((7 * n : Nat) : Int) + 2) = ((7 * n + 2 : Nat) : Int) := w2
  refine ⟨M2, R1, ?_, hI2, b1.trans a1, a2⟩
  rw [b_261_673 1 57 _ rfl]
  simp only [w1, w2]
  rw [if_pos (by omega), if_pos (by omega)]
  simp only [Int.toNat_natCast]
  rw [q1, bsJ, b_261_687 1 57 _ _ rfl]
  simp only [w1, w2, a1, a2]
  rw [if_pos (by omega), if_pos (by omega)]
  simp only [Int.toNat_natCast]
  rw [q2, bsJ, b_261_701, if_pos (lc0 x)]
theorem lw_14 {e n : Nat} (he : 50 ≤ e) (hn : n ≤ 511) {M : MM} {R : RR} (hI : INV n M R) (hi : 7 * n + 7 ≤ R 0 2) (hr : i32r M) : LT e n (run (call e) 261 707 [vX 2, vA 1, vA 57, vI ((7 * n : Nat) : Int)] [] M R) M R := by
  obtain ⟨x, M1, R1, M2, q1, q2, hI2⟩ := st_111 (d := e) (by omega)  hI 
  obtain ⟨a1, a2⟩ := call_kp e _ _ _ _ _ _ _ q1
  obtain ⟨b1, b2⟩ := call_kp e _ _ _ _ _ _ _ q2
  refine ⟨M2, R1, ?_, hI2, b1.trans a1, a2⟩
  rw [b_261_707 1 57 _ rfl, q1, bsI, b_261_711 1 57 _ _ rfl, q2, bsI, b_261_715, if_pos rfl]
theorem lw_15 {e n : Nat} (he : 50 ≤ e) (hn : n ≤ 511) {M : MM} {R : RR} (hI : INV n M R) (hi : 7 * n + 7 ≤ R 0 2) (hr : i32r M) : LT e n (run (call e) 261 720 [vX 2, vA 1, vA 57, vI ((7 * n : Nat) : Int)] [] M R) M R := by
  obtain ⟨x, M1, R1, M2, q1, q2, hI2⟩ := st_112 (d := e) (by omega)  hI (M 0 (7 * n + 1)) (M 0 (7 * n + 2)) (M 0 (7 * n + 3))
  obtain ⟨a1, a2⟩ := call_kp e _ _ _ _ _ _ _ q1
  obtain ⟨b1, b2⟩ := call_kp e _ _ _ _ _ _ _ q2
  have w1 := w7 (n := n) (j := 1) hn (by decide)
  have w2 := w7 (n := n) (j := 2) hn (by decide)
  have w3 := w7 (n := n) (j := 3) hn (by decide)
  have w1 : w32 (((7 * n : Nat) : Int) + 1) = ((7 * n + 1 : Nat) : Int) := w1
  have w2 : w32 (((7 * n : Nat) : Int) + 2) = ((7 * n + 2 : Nat) : Int) := w2
  have w3 : w32 (((7 * n : Nat) : Int) + 3) = ((7 * n + 3 : Nat) : Int) := w3
  refine ⟨M2, R1, ?_, hI2, b1.trans a1, a2⟩
  rw [b_261_720 1 57 _ rfl]
  simp only [w1, w2, w3]
  rw [if_pos (by omega), if_pos (by omega), if_pos (by omega)]
  simp only [Int.toNat_natCast]
  rw [q1, bsJ, b_261_739 1 57 _ _ rfl]
  simp only [w1, w2, w3, a1, a2]
  rw [if_pos (by omega), if_pos (by omega), if_pos (by omega)]
  simp only [Int.toNat_natCast]
  rw [q2, bsJ, b_261_758, if_pos (lc0 x)]
theorem lw_16 {e n : Nat} (he : 50 ≤ e) (hn : n ≤ 511) {M : MM} {R : RR} (hI : INV n M R) (hi : 7 * n + 7 ≤ R 0 2) (hr : i32r M) : LT e n (run (call e) 261 764 [vX 2, vA 1, vA 57, vI ((7 * n : Nat) : Int)] [] M R) M R := by
  obtain ⟨x, M1, R1, M2, q1, q2, hI2⟩ := st_114 (d := e) (by omega)  hI (M 0 (7 * n + 1))
  obtain ⟨a1, a2⟩ := call_kp e _ _ _ _ _ _ _ q1
  obtain ⟨b1, b2⟩ := call_kp e _ _ _ _ _ _ _ q2
  have w1 := w7 (n := n) (j := 1) hn (by decide)
  have w1 : w32 (((7 * n : Nat) : Int) + 1) = ((7 * n + 1 : Nat) : Int) := w1
  refine ⟨M2, R1, ?_, hI2, b1.trans a1, a2⟩
  rw [b_261_764 1 57 _ rfl]
  simp only [w1]
  rw [if_pos (by omega)]
  simp only [Int.toNat_natCast]
  rw [q1, bsI, b_261_773 1 57 _ _ rfl]
  simp only [w1, a1, a2]
  rw [if_pos (by omega)]
  simp only [Int.toNat_natCast]
  rw [q2, bsI, b_261_782, if_pos rfl]
theorem lw_17 {e n : Nat} (he : 50 ≤ e) (hn : n ≤ 511) {M : MM} {R : RR} (hI : INV n M R) (hi : 7 * n + 7 ≤ R 0 2) (hr : i32r M) : LT e n (run (call e) 261 787 [vX 2, vA 1, vA 57, vI ((7 * n : Nat) : Int)] [] M R) M R := by
  obtain ⟨x, M1, R1, M2, q1, q2, hI2⟩ := st_115 (d := e) (by omega)  hI (M 0 (7 * n + 1)) (M 0 (7 * n + 2))
  obtain ⟨a1, a2⟩ := call_kp e _ _ _ _ _ _ _ q1
  obtain ⟨b1, b2⟩ := call_kp e _ _ _ _ _ _ _ q2
  have w1 := w7 (n := n) (j := 1) hn (by decide)
  have w2 := w7 (n := n) (j := 2) hn (by decide)
  have w1 : w32 (((7 * n : Nat) : Int) + 1) = ((7 * n + 1 : Nat) : Int) := w1
  have w2 : w32 (((7 * n : Nat) : Int) + 2) = ((7 * n + 2 : Nat) : Int) := w2
  refine ⟨M2, R1, ?_, hI2, b1.trans a1, a2⟩
  rw [b_261_787 1 57 _ rfl]
  simp only [w1, w2]
  rw [if_pos (by omega), if_pos (by omega)]
  simp only [Int.toNat_natCast]
  rw [q1, bsJ, b_261_801 1 57 _ _ rfl]
  simp only [w1, w2, a1, a2]
  rw [if_pos (by omega), if_pos (by omega)]
  simp only [Int.toNat_natCast]
  rw [q2, bsJ, b_261_815, if_pos (lc0 x)]
theorem lw_18 {e n : Nat} (he : 50 ≤ e) (hn : n ≤ 511) {M : MM} {R : RR} (hI : INV n M R) (hi : 7 * n + 7 ≤ R 0 2) (hr : i32r M) : LT e n (run (call e) 261 821 [vX 2, vA 1, vA 57, vI ((7 * n : Nat) : Int)] [] M R) M R := by
  obtain ⟨x, M1, R1, M2, q1, q2, hI2⟩ := st_116 (d := e) (by omega)  hI (M 0 (7 * n + 1)) (M 0 (7 * n + 2))
  obtain ⟨a1, a2⟩ := call_kp e _ _ _ _ _ _ _ q1
  obtain ⟨b1, b2⟩ := call_kp e _ _ _ _ _ _ _ q2
  have w1 := w7 (n := n) (j := 1) hn (by decide)
  have w2 := w7 (n := n) (j := 2) hn (by decide)
  have w1 : w32 (((7 * n : Nat) : Int) + 1) = ((7 * n + 1 : Nat) : Int) := w1
  have w2 : w32 (((7 * n : Nat) : Int) + 2) = ((7 * n + 2 : Nat) : Int) := w2
  refine ⟨M2, R1, ?_, hI2, b1.trans a1, a2⟩
  rw [b_261_821 1 57 _ rfl]
  simp only [w1, w2]
  rw [if_pos (by omega), if_pos (by omega)]
  simp only [Int.toNat_natCast]
  rw [q1, bsJ, b_261_835 1 57 _ _ rfl]
  simp only [w1, w2, a1, a2]
  rw [if_pos (by omega), if_pos (by omega)]
  simp only [Int.toNat_natCast]
  rw [q2, bsJ, b_261_849, if_pos (lc0 x)]
theorem lw_19 {e n : Nat} (he : 50 ≤ e) (hn : n ≤ 511) {M : MM} {R : RR} (hI : INV n M R) (hi : 7 * n + 7 ≤ R 0 2) (hr : i32r M) : LT e n (run (call e) 261 855 [vX 2, vA 1, vA 57, vI ((7 * n : Nat) : Int)] [] M R) M R := by
  obtain ⟨x, M1, R1, M2, q1, q2, hI2⟩ := st_117 (d := e) (by omega)  hI (M 0 (7 * n + 1)) (M 0 (7 * n + 2))
  obtain ⟨a1, a2⟩ := call_kp e _ _ _ _ _ _ _ q1
  obtain ⟨b1, b2⟩ := call_kp e _ _ _ _ _ _ _ q2
  have w1 := w7 (n := n) (j := 1) hn (by decide)
  have w2 := w7 (n := n) (j := 2) hn (by decide)
  have w1 : w32 (((7 * n : Nat) : Int) + 1) = ((7 * n + 1 : Nat) : Int) := w1
  have w2 : w32 (((7 * n : Nat) : Int) + 2) = ((7 * n + 2 : Nat) : Int) := w2
  refine ⟨M2, R1, ?_, hI2, b1.trans a1, a2⟩
  rw [b_261_855 1 57 _ rfl]
  simp only [w1, w2]
  rw [if_pos (by omega), if_pos (by omega)]
  simp only [Int.toNat_natCast]
  rw [q1, bsJ, b_261_869 1 57 _ _ rfl]
  simp only [w1, w2, a1, a2]
  rw [if_pos (by omega), if_pos (by omega)]
  simp only [Int.toNat_natCast]
  rw [q2, bsJ, b_261_883, if_pos (lc0 x)]
theorem lw_20 {e n : Nat} (he : 50 ≤ e) (hn : n ≤ 511) {M : MM} {R : RR} (hI : INV n M R) (hi : 7 * n + 7 ≤ R 0 2) (hr : i32r M) : LT e n (run (call e) 261 889 [vX 2, vA 1, vA 57, vI ((7 * n : Nat) : Int)] [] M R) M R := by
  obtain ⟨x, M1, R1, M2, q1, q2, hI2⟩ := st_118 (d := e) (by omega)  hI (M 0 (7 * n + 1))
  obtain ⟨a1, a2⟩ := call_kp e _ _ _ _ _ _ _ q1
  obtain ⟨b1, b2⟩ := call_kp e _ _ _ _ _ _ _ q2
  have w1 := w7 (n := n) (j := 1) hn (by decide)
  have w1 : w32 (((7 * n : Nat) : Int) + 1) = ((7 * n + 1 : Nat) : Int) := w1
  refine ⟨M2, R1, ?_, hI2, b1.trans a1, a2⟩
  rw [b_261_889 1 57 _ rfl]
  simp only [w1]
  rw [if_pos (by omega)]
  simp only [Int.toNat_natCast]
  rw [q1, bsI, b_261_898 1 57 _ _ rfl]
  simp only [w1, a1, a2]
  rw [if_pos (by omega)]
  simp only [Int.toNat_natCast]
  rw [q2, bsI, b_261_907, if_pos rfl]
theorem lw_21 {e n : Nat} (he : 50 ≤ e) (hn : n ≤ 511) {M : MM} {R : RR} (hI : INV n M R) (hi : 7 * n + 7 ≤ R 0 2) (hr : i32r M) : LT e n (run (call e) 261 912 [vX 2, vA 1, vA 57, vI ((7 * n : Nat) : Int)] [] M R) M R := by
  obtain ⟨x, M1, R1, M2, q1, q2, hI2⟩ := st_121 (d := e) (by omega)  hI (M 0 (7 * n + 1)) (M 0 (7 * n + 2))
  obtain ⟨a1, a2⟩ := call_kp e _ _ _ _ _ _ _ q1
  obtain ⟨b1, b2⟩ := call_kp e _ _ _ _ _ _ _ q2
  have w1 := w7 (n := n) (j := 1) hn (by decide)
  have w2 := w7 (n := n) (j := 2) hn (by decide)
  have w1 : w32 (((7 * n : Nat) : Int) + 1) = ((7 * n + 1 : Nat) : Int) := w1
  have w2 : w32 (((7 * n : Nat) : Int) + 2) = ((7 * n + 2 : Nat) : Int) := w2
  refine ⟨M2, R1, ?_, hI2, b1.trans a1, a2⟩
  rw [b_261_912 1 57 _ rfl]
  simp only [w1, w2]
  rw [if_pos (by omega), if_pos (by omega)]
  simp only [Int.toNat_natCast]
  rw [q1, bsJ, b_261_926 1 57 _ _ rfl]
  simp only [w1, w2, a1, a2]
  rw [if_pos (by omega), if_pos (by omega)]
  simp only [Int.toNat_natCast]
  rw [q2, bsJ, b_261_940, if_pos (lc0 x)]
theorem lw_22 {e n : Nat} (he : 50 ≤ e) (hn : n ≤ 511) {M : MM} {R : RR} (hI : INV n M R) (hi : 7 * n + 7 ≤ R 0 2) (hr : i32r M) : LT e n (run (call e) 261 946 [vX 2, vA 1, vA 57, vI ((7 * n : Nat) : Int)] [] M R) M R := by
  obtain ⟨x, M1, R1, M2, q1, q2, hI2⟩ := st_122 (d := e) (by omega)  hI 
  obtain ⟨a1, a2⟩ := call_kp e _ _ _ _ _ _ _ q1
  obtain ⟨b1, b2⟩ := call_kp e _ _ _ _ _ _ _ q2
  refine ⟨M2, R1, ?_, hI2, b1.trans a1, a2⟩
  rw [b_261_946 1 57 _ rfl, q1, bsI, b_261_950 1 57 _ _ rfl, q2, bsI, b_261_954, if_pos rfl]
theorem lw_23 {e n : Nat} (he : 50 ≤ e) (hn : n ≤ 511) {M : MM} {R : RR} (hI : INV n M R) (hi : 7 * n + 7 ≤ R 0 2) (hr : i32r M) : LT e n (run (call e) 261 959 [vX 2, vA 1, vA 57, vI ((7 * n : Nat) : Int)] [] M R) M R := by
  obtain ⟨x, M1, R1, M2, q1, q2, hI2⟩ := st_123 (d := e) (by omega)  hI (M 0 (7 * n + 1))
  obtain ⟨a1, a2⟩ := call_kp e _ _ _ _ _ _ _ q1
  obtain ⟨b1, b2⟩ := call_kp e _ _ _ _ _ _ _ q2
  have w1 := w7 (n := n) (j := 1) hn (by decide)
  have w1 : w32 (((7 * n : Nat) : Int) + 1) = ((7 * n + 1 : Nat) : Int) := w1
  refine ⟨M2, R1, ?_, hI2, b1.trans a1, a2⟩
  rw [b_261_959 1 57 _ rfl]
  simp only [w1]
  rw [if_pos (by omega)]
  simp only [Int.toNat_natCast]
  rw [q1, bsJ, b_261_968 1 57 _ _ rfl]
  simp only [w1, a1, a2]
  rw [if_pos (by omega)]
  simp only [Int.toNat_natCast]
  rw [q2, bsJ, b_261_977, if_pos (lc0 x)]
theorem lw_24 {e n : Nat} (he : 50 ≤ e) (hn : n ≤ 511) {M : MM} {R : RR} (hI : INV n M R) (hi : 7 * n + 7 ≤ R 0 2) (hr : i32r M) : LT e n (run (call e) 261 983 [vX 2, vA 1, vA 57, vI ((7 * n : Nat) : Int)] [] M R) M R := by
  obtain ⟨x, M1, R1, M2, q1, q2, hI2⟩ := st_124 (d := e) (by omega)  hI (M 0 (7 * n + 1)) (M 0 (7 * n + 2))
  obtain ⟨a1, a2⟩ := call_kp e _ _ _ _ _ _ _ q1
  obtain ⟨b1, b2⟩ := call_kp e _ _ _ _ _ _ _ q2
  have w1 := w7 (n := n) (j := 1) hn (by decide)
  have w2 := w7 (n := n) (j := 2) hn (by decide)
  have w1 : w32 (((7 * n : Nat) : Int) + 1) = ((7 * n + 1 : Nat) : Int) := w1
  have w2 : w32 (((7 * n : Nat) : Int) + 2) = ((7 * n + 2 : Nat) : Int) := w2
  refine ⟨M2, R1, ?_, hI2, b1.trans a1, a2⟩
  rw [b_261_983 1 57 _ rfl]
  simp only [w1, w2]
  rw [if_pos (by omega), if_pos (by omega)]
  simp only [Int.toNat_natCast]
  rw [q1, bsJ, b_261_997 1 57 _ _ rfl]
  simp only [w1, w2, a1, a2]
  rw [if_pos (by omega), if_pos (by omega)]
  simp only [Int.toNat_natCast]
  rw [q2, bsJ, b_261_1011, if_pos (lc0 x)]
theorem lw_25 {e n : Nat} (he : 50 ≤ e) (hn : n ≤ 511) {M : MM} {R : RR} (hI : INV n M R) (hi : 7 * n + 7 ≤ R 0 2) (hr : i32r M) : LT e n (run (call e) 261 1017 [vX 2, vA 1, vA 57, vI ((7 * n : Nat) : Int)] [] M R) M R := by
  obtain ⟨x, M1, R1, M2, q1, q2, hI2⟩ := st_127 (d := e) (by omega)  hI (M 0 (7 * n + 1)) (M 0 (7 * n + 2))
  obtain ⟨a1, a2⟩ := call_kp e _ _ _ _ _ _ _ q1
  obtain ⟨b1, b2⟩ := call_kp e _ _ _ _ _ _ _ q2
  have w1 := w7 (n := n) (j := 1) hn (by decide)
  have w2 := w7 (n := n) (j := 2) hn (by decide)
  have w1 : w32 (((7 * n : Nat) : Int) + 1) = ((7 * n + 1 : Nat) : Int) := w1
  have w2 : w32 (((7 * n : Nat) : Int) + 2) = ((7 * n + 2 : Nat) : Int) := w2
  refine ⟨M2, R1, ?_, hI2, b1.trans a1, a2⟩
  rw [b_261_1017 1 57 _ rfl]
  simp only [w1, w2]
  rw [if_pos (by omega), if_pos (by omega)]
  simp only [Int.toNat_natCast]
  rw [q1, bsI, b_261_1031 1 57 _ _ rfl]
  simp only [w1, w2, a1, a2]
  rw [if_pos (by omega), if_pos (by omega)]
  simp only [Int.toNat_natCast]
  rw [q2, bsI, b_261_1045, if_pos rfl]
theorem lw_26 {e n : Nat} (he : 50 ≤ e) (hn : n ≤ 511) {M : MM} {R : RR} (hI : INV n M R) (hi : 7 * n + 7 ≤ R 0 2) (hr : i32r M) : LT e n (run (call e) 261 1050 [vX 2, vA 1, vA 57, vI ((7 * n : Nat) : Int)] [] M R) M R := by
  obtain ⟨x, M1, R1, M2, q1, q2, hI2⟩ := st_128 (d := e) (by omega)  hI (M 0 (7 * n + 1)) (M 0 (7 * n + 2))
  obtain ⟨a1, a2⟩ := call_kp e _ _ _ _ _ _ _ q1
  obtain ⟨b1, b2⟩ := call_kp e _ _ _ _ _ _ _ q2
  have w1 := w7 (n := n) (j := 1) hn (by decide)
  have w2 := w7 (n := n) (j := 2) hn (by decide)
  have w1 : w32 (((7 * n : Nat) : Int) + 1) = ((7 * n + 1 : Nat) : Int) := w1
  have w2 : w32 (((7 * n : Nat) : Int) + 2) = ((7 * n + 2 : Nat) : Int) := w2
  refine ⟨M2, R1, ?_, hI2, b1.trans a1, a2⟩
  rw [b_261_1050 1 57 _ rfl]
  simp only [w1, w2]
  rw [if_pos (by omega), if_pos (by omega)]
  simp only [Int.toNat_natCast]
  rw [q1, bsJ, b_261_1064 1 57 _ _ rfl]
  simp only [w1, w2, a1, a2]
  rw [if_pos (by omega), if_pos (by omega)]
  simp only [Int.toNat_natCast]
  rw [q2, bsJ, b_261_1078, if_pos (lc0 x)]
theorem lw_27 {e n : Nat} (he : 50 ≤ e) (hn : n ≤ 511) {M : MM} {R : RR} (hI : INV n M R) (hi : 7 * n + 7 ≤ R 0 2) (hr : i32r M) : LT e n (run (call e) 261 1084 [vX 2, vA 1, vA 57, vI ((7 * n : Nat) : Int)] [] M R) M R := by
  obtain ⟨x, M1, R1, M2, q1, q2, hI2⟩ := st_130 (d := e) (by omega)  hI (M 0 (7 * n + 1))
  obtain ⟨a1, a2⟩ := call_kp e _ _ _ _ _ _ _ q1
  obtain ⟨b1, b2⟩ := call_kp e _ _ _ _ _ _ _ q2
  have w1 := w7 (n := n) (j := 1) hn (by decide)
  have w1 : w32 (((7 * n : Nat) : Int) + 1) = ((7 * n + 1 : Nat) : Int) := w1
  refine ⟨M2, R1, ?_, hI2, b1.trans a1, a2⟩
  rw [b_261_1084 1 57 _ rfl]
  simp only [w1]
  rw [if_pos (by omega)]
  simp only [Int.toNat_natCast]
  rw [q1, bsI, b_261_1093 1 57 _ _ rfl]
  simp only [w1, a1, a2]
  rw [if_pos (by omega)]
  simp only [Int.toNat_natCast]
  rw [q2, bsI, b_261_1102, if_pos rfl]
theorem lw_28 {e n : Nat} (he : 50 ≤ e) (hn : n ≤ 511) {M : MM} {R : RR} (hI : INV n M R) (hi : 7 * n + 7 ≤ R 0 2) (hr : i32r M) : LT e n (run (call e) 261 1107 [vX 2, vA 1, vA 57, vI ((7 * n : Nat) : Int)] [] M R) M R := by
  obtain ⟨x, M1, R1, M2, q1, q2, hI2⟩ := st_132 (d := e) (by omega)  hI (M 0 (7 * n + 1)) (M 0 (7 * n + 2))
  obtain ⟨a1, a2⟩ := call_kp e _ _ _ _ _ _ _ q1
  obtain ⟨b1, b2⟩ := call_kp e _ _ _ _ _ _ _ q2
  have w1 := w7 (n := n) (j := 1) hn (by decide)
  have w2 := w7 (n := n) (j := 2) hn (by decide)
  have w1 : w32 (((7 * n : Nat) : Int) + 1) = ((7 * n + 1 : Nat) : Int) := w1
  have w2 : w32 (((7 * n : Nat) : Int) + 2) = ((7 * n + 2 : Nat) : Int) := w2
  refine ⟨M2, R1, ?_, hI2, b1.trans a1, a2⟩
  rw [b_261_1107 1 57 _ rfl]
  simp only [w1, w2]
  rw [if_pos (by omega), if_pos (by omega)]
  simp only [Int.toNat_natCast]
  rw [q1, bsI, b_261_1121 1 57 _ _ rfl]
  simp only [w1, w2, a1, a2]
  rw [if_pos (by omega), if_pos (by omega)]
  simp only [Int.toNat_natCast]
  rw [q2, bsI, b_261_1135, if_pos rfl]
theorem lw_29 {e n : Nat} (he : 50 ≤ e) (hn : n ≤ 511) {M : MM} {R : RR} (hI : INV n M R) (hi : 7 * n + 7 ≤ R 0 2) (hr : i32r M) : LT e n (run (call e) 261 1140 [vX 2, vA 1, vA 57, vI ((7 * n : Nat) : Int)] [] M R) M R := by
  obtain ⟨x, M1, R1, M2, q1, q2, hI2⟩ := st_137 (d := e) (by omega)  hI (M 0 (7 * n + 1)) (M 0 (7 * n + 2))
  obtain ⟨a1, a2⟩ := call_kp e _ _ _ _ _ _ _ q1
  obtain ⟨b1, b2⟩ := call_kp e _ _ _ _ _ _ _ q2
  have w1 := w7 (n := n) (j := 1) hn (by decide)
  have w2 := w7 (n := n) (j := 2) hn (by decide)
  have w1 : w32 (((7 * n : Nat) : Int) + 1) = ((7 * n + 1 : Nat) : Int) := w1
  have w2 : w32 (((7 * n : Nat) : Int) + 2) = ((7 * n + 2 : Nat) : Int) := w2
  refine ⟨M2, R1, ?_, hI2, b1.trans a1, a2⟩
  rw [b_261_1140 1 57 _ rfl]
  simp only [w1, w2]
  rw [if_pos (by omega), if_pos (by omega)]
  simp only [Int.toNat_natCast]
  rw [q1, bsJ, b_261_1154 1 57 _ _ rfl]
  simp only [w1, w2, a1, a2]
  rw [if_pos (by omega), if_pos (by omega)]
  simp only [Int.toNat_natCast]
  rw [q2, bsJ, b_261_1168, if_pos (lc0 x)]
theorem lw_30 {e n : Nat} (he : 50 ≤ e) (hn : n ≤ 511) {M : MM} {R : RR} (hI : INV n M R) (hi : 7 * n + 7 ≤ R 0 2) (hr : i32r M) : LT e n (run (call e) 261 1174 [vX 2, vA 1, vA 57, vI ((7 * n : Nat) : Int)] [] M R) M R := by
  obtain ⟨x, M1, R1, M2, q1, q2, hI2⟩ := st_138 (d := e) (by omega)  hI (M 0 (7 * n + 1)) (M 0 (7 * n + 2))
  obtain ⟨a1, a2⟩ := call_kp e _ _ _ _ _ _ _ q1
  obtain ⟨b1, b2⟩ := call_kp e _ _ _ _ _ _ _ q2
  have w1 := w7 (n := n) (j := 1) hn (by decide)
  have w2 := w7 (n := n) (j := 2) hn (by decide)
  have w1 : w32 (((7 * n : Nat) : Int) + 1) = ((7 * n + 1 : Nat) : Int) := w1
  have w2 : w32 (((7 * n : Nat) : Int) + 2) = ((7 * n + 2 : Nat) : Int) := w2
  refine ⟨M2, R1, ?_, hI2, b1.trans a1, a2⟩
  rw [b_261_1174 1 57 _ rfl]
  simp only [w1, w2]
  rw [if_pos (by omega), if_pos (by omega)]
  simp only [Int.toNat_natCast]
  rw [q1, bsJ, b_261_1188 1 57 _ _ rfl]
  simp only [w1, w2, a1, a2]
  rw [if_pos (by omega), if_pos (by omega)]
  simp only [Int.toNat_natCast]
  rw [q2, bsJ, b_261_1202, if_pos (lc0 x)]
theorem lw_31 {e n : Nat} (he : 50 ≤ e) (hn : n ≤ 511) {M : MM} {R : RR} (hI : INV n M R) (hi : 7 * n + 7 ≤ R 0 2) (hr : i32r M) : LT e n (run (call e) 261 1208 [vX 2, vA 1, vA 57, vI ((7 * n : Nat) : Int)] [] M R) M R := by
  obtain ⟨x, M1, R1, M2, q1, q2, hI2⟩ := st_139 (d := e) (by omega)  hI (M 0 (7 * n + 1))
  obtain ⟨a1, a2⟩ := call_kp e _ _ _ _ _ _ _ q1
  obtain ⟨b1, b2⟩ := call_kp e _ _ _ _ _ _ _ q2
  have w1 := w7 (n := n) (j := 1) hn (by decide)
  have w1 : w32 (((7 * n : Nat) : Int) + 1) = ((7 * n + 1 : Nat) : Int) := w1
  refine ⟨M2, R1, ?_, hI2, b1.trans a1, a2⟩
  rw [b_261_1208 1 57 _ rfl]
  simp only [w1]
  rw [if_pos (by omega)]
  simp only [Int.toNat_natCast]
  rw [q1, bsI, b_261_1217 1 57 _ _ rfl]
  simp only [w1, a1, a2]
  rw [if_pos (by omega)]
  simp only [Int.toNat_natCast]
  rw [q2, bsI, b_261_1226, if_pos rfl]
theorem lw_32 {e n : Nat} (he : 50 ≤ e) (hn : n ≤ 511) {M : MM} {R : RR} (hI : INV n M R) (hi : 7 * n + 7 ≤ R 0 2) (hr : i32r M) : LT e n (run (call e) 261 1231 [vX 2, vA 1, vA 57, vI ((7 * n : Nat) : Int)] [] M R) M R := by
  obtain ⟨x, M1, R1, M2, q1, q2, hI2⟩ := st_140 (d := e) (by omega)  hI (M 0 (7 * n + 1)) (M 0 (7 * n + 2)) (M 0 (7 * n + 3))
  obtain ⟨a1, a2⟩ := call_kp e _ _ _ _ _ _ _ q1
  obtain ⟨b1, b2⟩ := call_kp e _ _ _ _ _ _ _ q2
  have w1 := w7 (n := n) (j := 1) hn (by decide)
  have w2 := w7 (n := n) (j := 2) hn (by decide)
  have w3 := w7 (n := n) (j := 3) hn (by decide)
  have w1 : w32 (((7 * n : Nat) : Int) + 1) = ((7 * n + 1 : Nat) : Int) := w1
  have w2 : w32 (((7 * n : Nat) : Int) + 2) = ((7 * n + 2 : Nat) : Int) := w2
  have w3 : w32 (((7 * n : Nat) : Int) + 3) = ((7 * n + 3 : Nat) : Int) := w3
  refine ⟨M2, R1, ?_, hI2, b1.trans a1, a2⟩
  rw [b_261_1231 1 57 _ rfl]
  simp only [w1, w2, w3]
  rw [if_pos (by omega), if_pos (by omega), if_pos (by omega)]
  simp only [Int.toNat_natCast]
  rw [q1, bsI, b_261_1250 1 57 _ _ rfl]
  simp only [w1, w2, w3, a1, a2]
  rw [if_pos (by omega), if_pos (by omega), if_pos (by omega)]
  simp only [Int.toNat_natCast]
  rw [q2, bsI, b_261_1269, if_pos rfl]
theorem lw_33 {e n : Nat} (he : 50 ≤ e) (hn : n ≤ 511) {M : MM} {R : RR} (hI : INV n M R) (hi : 7 * n + 7 ≤ R 0 2) (hr : i32r M) : LT e n (run (call e) 261 1274 [vX 2, vA 1, vA 57, vI ((7 * n : Nat) : Int)] [] M R) M R := by
  obtain ⟨x, M1, R1, M2, q1, q2, hI2⟩ := st_144 (d := e) (by omega)  hI (M 0 (7 * n + 1)) (M 0 (7 * n + 2))
  obtain ⟨a1, a2⟩ := call_kp e _ _ _ _ _ _ _ q1
  obtain ⟨b1, b2⟩ := call_kp e _ _ _ _ _ _ _ q2
  have w1 := w7 (n := n) (j := 1) hn (by decide)
  have w2 := w7 (n := n) (j := 2) hn (by decide)
  have w1 : w32 (((7 * n : Nat) : Int) + 1) = ((7 * n + 1 : Nat) : Int) := w1
  have w2 : w32 (((7 * n : Nat) : Int) + 2) = ((7 * n + 2 : Nat) : Int) := w2
  refine ⟨M2, R1, ?_, hI2, b1.trans a1, a2⟩
  rw [b_261_1274 1 57 _ rfl]
  simp only [w1, w2]
  rw [if_pos (by omega), if_pos (by omega)]
  simp only [Int.toNat_natCast]
  rw [q1, bsI, b_261_1288 1 57 _ _ rfl]
  simp only [w1, w2, a1, a2]
  rw [if_pos (by omega), if_pos (by omega)]
  simp only [Int.toNat_natCast]
  rw [q2, bsI, b_261_1302, if_pos rfl]
theorem lw_34 {e n : Nat} (he : 50 ≤ e) (hn : n ≤ 511) {M : MM} {R : RR} (hI : INV n M R) (hi : 7 * n + 7 ≤ R 0 2) (hr : i32r M) : LT e n (run (call e) 261 1307 [vX 2, vA 1, vA 57, vI ((7 * n : Nat) : Int)] [] M R) M R := by
  obtain ⟨x, M1, R1, M2, q1, q2, hI2⟩ := st_145 (d := e) (by omega)  hI (M 0 (7 * n + 1)) (M 0 (7 * n + 2))
  obtain ⟨a1, a2⟩ := call_kp e _ _ _ _ _ _ _ q1
  obtain ⟨b1, b2⟩ := call_kp e _ _ _ _ _ _ _ q2
  have w1 := w7 (n := n) (j := 1) hn (by decide)
  have w2 := w7 (n := n) (j := 2) hn (by decide)
  have w1 : w32 (((7 * n : Nat) : Int) + 1) = ((7 * n + 1 : Nat) : Int) := w1
  have w2 : w32 (((7 * n : Nat) : Int) + 2) = ((7 * n + 2 : Nat) : Int) := w2
  refine ⟨M2, R1, ?_, hI2, b1.trans a1, a2⟩
  rw [b_261_1307 1 57 _ rfl]
  simp only [w1, w2]
  rw [if_pos (by omega), if_pos (by omega)]
  simp only [Int.toNat_natCast]
  rw [q1, bsI, b_261_1321 1 57 _ _ rfl]
  simp only [w1, w2, a1, a2]
  rw [if_pos (by omega), if_pos (by omega)]
  simp only [Int.toNat_natCast]
  rw [q2, bsI, b_261_1335, if_pos rfl]
theorem lw_35 {e n : Nat} (he : 50 ≤ e) (hn : n ≤ 511) {M : MM} {R : RR} (hI : INV n M R) (hi : 7 * n + 7 ≤ R 0 2) (hr : i32r M) : LT e n (run (call e) 261 1340 [vX 2, vA 1, vA 57, vI ((7 * n : Nat) : Int)] [] M R) M R := by
  obtain ⟨x, M1, R1, M2, q1, q2, hI2⟩ := st_146 (d := e) (by omega)  hI (M 0 (7 * n + 1)) (M 0 (7 * n + 2)) (M 0 (7 * n + 3))
  obtain ⟨a1, a2⟩ := call_kp e _ _ _ _ _ _ _ q1
  obtain ⟨b1, b2⟩ := call_kp e _ _ _ _ _ _ _ q2
  have w1 := w7 (n := n) (j := 1) hn (by decide)
  have w2 := w7 (n := n) (j := 2) hn (by decide)
  have w3 := w7 (n := n) (j := 3) hn (by decide)
  have w1 : w32 (((7 * n : Nat) : Int) + 1) = ((7 * n + 1 : Nat) : Int) := w1
  have w2 : w32 (((7 * n : Nat) : Int) + 2) = ((7 * n + 2 : Nat) : Int) := w2
  have w3 : w32 (((7 * n : Nat) : Int) + 3) = ((7 * n + 3 : Nat) : Int) := w3
  refine ⟨M2, R1, ?_, hI2, b1.trans a1, a2⟩
  rw [b_261_1340 1 57 _ rfl]
  simp only [w1, w2, w3]
  rw [if_pos (by omega), if_pos (by omega), if_pos (by omega)]
  simp only [Int.toNat_natCast]
  rw [q1, bsJ, b_261_1359 1 57 _ _ rfl]
  simp only [w1, w2, w3, a1, a2]
  rw [if_pos (by omega), if_pos (by omega), if_pos (by omega)]
  simp only [Int.toNat_natCast]
  rw [q2, bsJ, b_261_1378, if_pos (lc0 x)]
theorem lw_36 {e n : Nat} (he : 50 ≤ e) (hn : n ≤ 511) {M : MM} {R : RR} (hI : INV n M R) (hi : 7 * n + 7 ≤ R 0 2) (hr : i32r M) : LT e n (run (call e) 261 1384 [vX 2, vA 1, vA 57, vI ((7 * n : Nat) : Int)] [] M R) M R := by
  obtain ⟨x, M1, R1, M2, q1, q2, hI2⟩ := st_147 (d := e) (by omega)  hI 
  obtain ⟨a1, a2⟩ := call_kp e _ _ _ _ _ _ _ q1
  obtain ⟨b1, b2⟩ := call_kp e _ _ _ _ _ _ _ q2
  refine ⟨M2, R1, ?_, hI2, b1.trans a1, a2⟩
  rw [b_261_1384 1 57 _ rfl, q1, bsI, b_261_1388 1 57 _ _ rfl, q2, bsI, b_261_1392, if_pos rfl]
theorem lw_37 {e n : Nat} (he : 50 ≤ e) (hn : n ≤ 511) {M : MM} {R : RR} (hI : INV n M R) (hi : 7 * n + 7 ≤ R 0 2) (hr : i32r M) : LT e n (run (call e) 261 1397 [vX 2, vA 1, vA 57, vI ((7 * n : Nat) : Int)] [] M R) M R := by
  obtain ⟨x, M1, R1, M2, q1, q2, hI2⟩ := st_148 (d := e) (by omega) (by omega) hI 
  obtain ⟨a1, a2⟩ := call_kp e _ _ _ _ _ _ _ q1
  obtain ⟨b1, b2⟩ := call_kp e _ _ _ _ _ _ _ q2
  refine ⟨M2, R1, ?_, hI2, b1.trans a1, a2⟩
  rw [b_261_1397 1 57 _ rfl, q1, bsI, b_261_1401 1 57 _ _ rfl, q2, bsI, b_261_1405, if_pos rfl]
theorem lw_38 {e n : Nat} (he : 50 ≤ e) (hn : n ≤ 511) {M : MM} {R : RR} (hI : INV n M R) (hi : 7 * n + 7 ≤ R 0 2) (hr : i32r M) : LT e n (run (call e) 261 1410 [vX 2, vA 1, vA 57, vI ((7 * n : Nat) : Int)] [] M R) M R := by
  obtain ⟨x, M1, R1, M2, q1, q2, hI2⟩ := st_151 (d := e) (by omega)  hI (M 0 (7 * n + 1)) (M 0 (7 * n + 2)) (M 0 (7 * n + 3))
  obtain ⟨a1, a2⟩ := call_kp e _ _ _ _ _ _ _ q1
  obtain ⟨b1, b2⟩ := call_kp e _ _ _ _ _ _ _ q2
  have w1 := w7 (n := n) (j := 1) hn (by decide)
  have w2 := w7 (n := n) (j := 2) hn (by decide)
  have w3 := w7 (n := n) (j := 3) hn (by decide)
  have w1 : w32 (((7 * n : Nat) : Int) + 1) = ((7 * n + 1 : Nat) : Int) := w1
  have w2 : w32 (((7 * n : Nat) : Int) + 2) = ((7 * n + 2 : Nat) : Int) := w2
  have w3 : w32 (((7 * n : Nat) : Int) + 3) = ((7 * n + 3 : Nat) : Int) := w3
  refine ⟨M2, R1, ?_, hI2, b1.trans a1, a2⟩
  rw [b_261_1410 1 57 _ rfl]
  simp only [w1, w2, w3]
  rw [if_pos (by omega), if_pos (by omega), if_pos (by omega)]
  simp only [Int.toNat_natCast]
  rw [q1, bsI, b_261_1429 1 57 _ _ rfl]
  simp only [w1, w2, w3, a1, a2]
  rw [if_pos (by omega), if_pos (by omega), if_pos (by omega)]
  simp only [Int.toNat_natCast]
  rw [q2, bsI, b_261_1448, if_pos rfl]
theorem lw_39 {e n : Nat} (he : 50 ≤ e) (hn : n ≤ 511) {M : MM} {R : RR} (hI : INV n M R) (hi : 7 * n + 7 ≤ R 0 2) (hr : i32r M) : LT e n (run (call e) 261 1453 [vX 2, vA 1, vA 57, vI ((7 * n : Nat) : Int)] [] M R) M R := by
  obtain ⟨x, M1, R1, M2, q1, q2, hI2⟩ := st_152 (d := e) (by omega)  hI (M 0 (7 * n + 1)) (M 0 (7 * n + 2)) (M 0 (7 * n + 3))
  obtain ⟨a1, a2⟩ := call_kp e _ _ _ _ _ _ _ q1
  obtain ⟨b1, b2⟩ := call_kp e _ _ _ _ _ _ _ q2
  have w1 := w7 (n := n) (j := 1) hn (by decide)
  have w2 := w7 (n := n) (j := 2) hn (by decide)
  have w3 := w7 (n := n) (j := 3) hn (by decide)
  have w1 : w32 (((7 * n : Nat) : Int) + 1) = ((7 * n + 1 : Nat) : Int) := w1
  have w2 : w32 (((7 * n : Nat) : Int) + 2) = ((7 * n + 2 : Nat) : Int) := w2
  have w3 : w32 (((7 * n : Nat) : Int) + 3) = ((7 * n + 3 : Nat) : Int) := w3
  refine ⟨M2, R1, ?_, hI2, b1.trans a1, a2⟩
  rw [b_261_1453 1 57 _ rfl]
  simp only [w1, w2, w3]
  rw [if_pos (by omega), if_pos (by omega), if_pos (by omega)]
  simp only [Int.toNat_natCast]
  rw [q1, bsI, b_261_1472 1 57 _ _ rfl]
  simp only [w1, w2, w3, a1, a2]
  rw [if_pos (by omega), if_pos (by omega), if_pos (by omega)]
  simp only [Int.toNat_natCast]
  rw [q2, bsI, b_261_1491, if_pos rfl]
theorem lw_40 {e n : Nat} (he : 50 ≤ e) (hn : n ≤ 511) {M : MM} {R : RR} (hI : INV n M R) (hi : 7 * n + 7 ≤ R 0 2) (hr : i32r M) : LT e n (run (call e) 261 1496 [vX 2, vA 1, vA 57, vI ((7 * n : Nat) : Int)] [] M R) M R := by
  obtain ⟨x, M1, R1, M2, q1, q2, hI2⟩ := st_153 (d := e) (by omega)  hI (M 0 (7 * n + 1)) (M 0 (7 * n + 2)) (M 0 (7 * n + 3)) (M 0 (7 * n + 4)) (M 0 (7 * n + 5)) (hr _).2
  obtain ⟨a1, a2⟩ := call_kp e _ _ _ _ _ _ _ q1
  obtain ⟨b1, b2⟩ := call_kp e _ _ _ _ _ _ _ q2
  have w1 := w7 (n := n) (j := 1) hn (by decide)
  have w2 := w7 (n := n) (j := 2) hn (by decide)
  have w3 := w7 (n := n) (j := 3) hn (by decide)
  have w4 := w7 (n := n) (j := 4) hn (by decide)
  have w5 := w7 (n := n) (j := 5) hn (by decide)
  have w1 : w32 (((7 * n : Nat) : Int) + 1) = ((7 * n + 1 : Nat) : Int) := w1
  have w2 : w32 (((7 * n : Nat) : Int) + 2) = ((7 * n + 2 : Nat) : Int) := w2
  have w3 : w32 (((7 * n : Nat) : Int) + 3) = ((7 * n + 3 : Nat) : Int) := w3
  have w4 : w32 (((7 * n : Nat) : Int) + 4) = ((7 * n + 4 : Nat) : Int) := w4
  have w5 : w32 (((7 * n : Nat) : Int) + 5) = ((7 * n + 5 : Nat) : Int) := w5
  refine ⟨M2, R1, ?_, hI2, b1.trans a1, a2⟩
  rw [b_261_1496 1 57 _ rfl]
  simp only [w1, w2, w3, w4, w5]
  rw [if_pos (by omega), if_pos (by omega), if_pos (by omega), if_pos (by omega), if_pos (by omega)]
  simp only [Int.toNat_natCast]
  rw [q1, bsI, b_261_1525 1 57 _ _ rfl]
  simp only [w1, w2, w3, w4, w5, a1, a2]
  rw [if_pos (by omega), if_pos (by omega), if_pos (by omega), if_pos (by omega), if_pos (by omega)]
  simp only [Int.toNat_natCast]
  rw [q2, bsI, b_261_1554, if_pos rfl]
theorem lw_41 {e n : Nat} (he : 50 ≤ e) (hn : n ≤ 511) {M : MM} {R : RR} (hI : INV n M R) (hi : 7 * n + 7 ≤ R 0 2) (hr : i32r M) : LT e n (run (call e) 261 1559 [vX 2, vA 1, vA 57, vI ((7 * n : Nat) : Int)] [] M R) M R := by
  obtain ⟨x, M1, R1, M2, q1, q2, hI2⟩ := st_154 (d := e) (by omega) (by omega) hI (M 0 (7 * n + 1)) (M 0 (7 * n + 2)) (M 0 (7 * n + 3)) (M 0 (7 * n + 4)) (hr _)
  obtain ⟨a1, a2⟩ := call_kp e _ _ _ _ _ _ _ q1
  obtain ⟨b1, b2⟩ := call_kp e _ _ _ _ _ _ _ q2
  have w1 := w7 (n := n) (j := 1) hn (by decide)
  have w2 := w7 (n := n) (j := 2) hn (by decide)
  have w3 := w7 (n := n) (j := 3) hn (by decide)
  have w4 := w7 (n := n) (j := 4) hn (by decide)
  have w1 : w32 (((7 * n : Nat) : Int) + 1) = ((7 * n + 1 : Nat) : Int) := w1
  have w2 : w32 (((7 * n : Nat) : Int) + 2) = ((7 * n + 2 : Nat) : Int) := w2
  have w3 : w32 (((7 * n : Nat) : Int) + 3) = ((7 * n + 3 : Nat) : Int) := w3
  have w4 : w32 (((7 * n : Nat) : Int) + 4) = ((7 * n + 4 : Nat) : Int) := w4
  refine ⟨M2, R1, ?_, hI2, b1.trans a1, a2⟩
  rw [b_261_1559 1 57 _ rfl]
  simp only [w1, w2, w3, w4]
  rw [if_pos (by omega), if_pos (by omega), if_pos (by omega), if_pos (by omega)]
  simp only [Int.toNat_natCast]
  rw [q1, bsI, b_261_1583 1 57 _ _ rfl]
  simp only [w1, w2, w3, w4, a1, a2]
  rw [if_pos (by omega), if_pos (by omega), if_pos (by omega), if_pos (by omega)]
  simp only [Int.toNat_natCast]
  rw [q2, bsI, b_261_1607, if_pos rfl]
theorem lw_42 {e n : Nat} (he : 50 ≤ e) (hn : n ≤ 511) {M : MM} {R : RR} (hI : INV n M R) (hi : 7 * n + 7 ≤ R 0 2) (hr : i32r M) : LT e n (run (call e) 261 1612 [vX 2, vA 1, vA 57, vI ((7 * n : Nat) : Int)] [] M R) M R := by
  obtain ⟨x, M1, R1, M2, q1, q2, hI2⟩ := st_155 (d := e) (by omega)  hI (M 0 (7 * n + 1)) (M 0 (7 * n + 2))
  obtain ⟨a1, a2⟩ := call_kp e _ _ _ _ _ _ _ q1
  obtain ⟨b1, b2⟩ := call_kp e _ _ _ _ _ _ _ q2
  have w1 := w7 (n := n) (j := 1) hn (by decide)
  have w2 := w7 (n := n) (j := 2) hn (by decide)
  have w1 : w32 (((7 * n : Nat) : Int) + 1) = ((7 * n + 1 : Nat) : Int) := w1
  have w2 : w32 (((7 * n : Nat) : Int) + 2) = ((7 * n + 2 : Nat) : Int) := w2
  refine ⟨M2, R1, ?_, hI2, b1.trans a1, a2⟩
  rw [b_261_1612 1 57 _ rfl]
  simp only [w1, w2]
  rw [if_pos (by omega), if_pos (by omega)]
  simp only [Int.toNat_natCast]
  rw [q1, bsI, b_261_1626 1 57 _ _ rfl]
  simp only [w1, w2, a1, a2]
  rw [if_pos (by omega), if_pos (by omega)]
  simp only [Int.toNat_natCast]
  rw [q2, bsI, b_261_1640, if_pos rfl]
theorem lw_sw {e n : Nat} (he : 50 ≤ e) (hn : n ≤ 511) {M : MM} {R : RR} (hI : INV n M R) (hi : 7 * n + 7 ≤ R 0 2) (hr : i32r M) (b : Int) : LT e n (run (call e) 261 33 [vX 2, vA 1, vA 57, vI ((7 * n : Nat) : Int)] [vI b] M R) M R := by
  rw [b_261_33]
  by_cases h0 : b = 0
  · rw [if_pos h0]; exact lw_0 he hn hI hi hr
  rw [if_neg h0]
  by_cases h1 : b = 1
  · rw [if_pos h1]; exact lw_1 he hn hI hi hr
  rw [if_neg h1]
  by_cases h2 : b = 2
  · rw [if_pos h2]; exact lw_2 he hn hI hi hr
  rw [if_neg h2]
  by_cases h3 : b = 3
  · rw [if_pos h3]; exact lw_3 he hn hI hi hr
  rw [if_neg h3]
  by_cases h4 : b = 4
  · rw [if_pos h4]; exact lw_4 he hn hI hi hr
  rw [if_neg h4]
  by_cases h5 : b = 5
  · rw [if_pos h5]; exact lw_5 he hn hI hi hr
  rw [if_neg h5]
  by_cases h6 : b = 6
  · rw [if_pos h6]; exact lw_6 he hn hI hi hr
  rw [if_neg h6]
  by_cases h7 : b = 7
  · rw [if_pos h7]; exact lw_7 he hn hI hi hr
  rw [if_neg h7]
  by_cases h8 : b = 8
  · rw [if_pos h8]; exact lw_8 he hn hI hi hr
  rw [if_neg h8]
  by_cases h9 : b = 9
  · rw [if_pos h9]; exact lw_9 he hn hI hi hr
  rw [if_neg h9]
  by_cases h10 : b = 10
  · rw [if_pos h10]; exact lw_10 he hn hI hi hr
  rw [if_neg h10]
  by_cases h11 : b = 11
  · rw [if_pos h11]; exact lw_11 he hn hI hi hr
  rw [if_neg h11]
  by_cases h12 : b = 12
  · rw [if_pos h12]; exact lw_12 he hn hI hi hr
  rw [if_neg h12]
  by_cases h13 : b = 13
  · rw [if_pos h13]; exact lw_13 he hn hI hi hr
  rw [if_neg h13]
  by_cases h14 : b = 14
  · rw [if_pos h14]; exact lw_14 he hn hI hi hr
  rw [if_neg h14]
  by_cases h15 : b = 15
  · rw [if_pos h15]; exact lw_15 he hn hI hi hr
  rw [if_neg h15]
  by_cases h16 : b = 16
  · rw [if_pos h16]; exact lw_16 he hn hI hi hr
  rw [if_neg h16]
  by_cases h17 : b = 17
  · rw [if_pos h17]; exact lw_17 he hn hI hi hr
  rw [if_neg h17]
  by_cases h18 : b = 18
  · rw [if_pos h18]; exact lw_18 he hn hI hi hr
  rw [if_neg h18]
  by_cases h19 : b = 19
  · rw [if_pos h19]; exact lw_19 he hn hI hi hr
  rw [if_neg h19]
  by_cases h20 : b = 20
  · rw [if_pos h20]; exact lw_20 he hn hI hi hr
  rw [if_neg h20]
  by_cases h21 : b = 21
  · rw [if_pos h21]; exact lw_21 he hn hI hi hr
  rw [if_neg h21]
  by_cases h22 : b = 22
  · rw [if_pos h22]; exact lw_22 he hn hI hi hr
  rw [if_neg h22]
  by_cases h23 : b = 23
  · rw [if_pos h23]; exact lw_23 he hn hI hi hr
  rw [if_neg h23]
  by_cases h24 : b = 24
  · rw [if_pos h24]; exact lw_24 he hn hI hi hr
  rw [if_neg h24]
  by_cases h25 : b = 25
  · rw [if_pos h25]; exact lw_25 he hn hI hi hr
  rw [if_neg h25]
  by_cases h26 : b = 26
  · rw [if_pos h26]; exact lw_26 he hn hI hi hr
  rw [if_neg h26]
  by_cases h27 : b = 27
  · rw [if_pos h27]; exact lw_27 he hn hI hi hr
  rw [if_neg h27]
  by_cases h28 : b = 28
  · rw [if_pos h28]; exact lw_28 he hn hI hi hr
  rw [if_neg h28]
  by_cases h29 : b = 29
  · rw [if_pos h29]; exact lw_29 he hn hI hi hr
  rw [if_neg h29]
  by_cases h30 : b = 30
  · rw [if_pos h30]; exact lw_30 he hn hI hi hr
  rw [if_neg h30]
  by_cases h31 : b = 31
  · rw [if_pos h31]; exact lw_31 he hn hI hi hr
  rw [if_neg h31]
  by_cases h32 : b = 32
  · rw [if_pos h32]; exact lw_32 he hn hI hi hr
  rw [if_neg h32]
  by_cases h33 : b = 33
  · rw [if_pos h33]; exact lw_33 he hn hI hi hr
  rw [if_neg h33]
  by_cases h34 : b = 34
  · rw [if_pos h34]; exact lw_34 he hn hI hi hr
  rw [if_neg h34]
  by_cases h35 : b = 35
  · rw [if_pos h35]; exact lw_35 he hn hI hi hr
  rw [if_neg h35]
  by_cases h36 : b = 36
  · rw [if_pos h36]; exact lw_36 he hn hI hi hr
  rw [if_neg h36]
  by_cases h37 : b = 37
  · rw [if_pos h37]; exact lw_37 he hn hI hi hr
  rw [if_neg h37]
  by_cases h38 : b = 38
  · rw [if_pos h38]; exact lw_38 he hn hI hi hr
  rw [if_neg h38]
  by_cases h39 : b = 39
  · rw [if_pos h39]; exact lw_39 he hn hI hi hr
  rw [if_neg h39]
  by_cases h40 : b = 40
  · rw [if_pos h40]; exact lw_40 he hn hI hi hr
  rw [if_neg h40]
  by_cases h41 : b = 41
  · rw [if_pos h41]; exact lw_41 he hn hI hi hr
  rw [if_neg h41]
  by_cases h42 : b = 42
  · rw [if_pos h42]; exact lw_42 he hn hI hi hr
  rw [if_neg h42]
  obtain ⟨P, Y, T, t, hV⟩ := hI
  exact ⟨M, R, rfl, ⟨P, Y, T, t, IV_k (fun _ _ => rfl) hV.2.2.2.2.2.2.2.1 hV⟩, rfl, rfl⟩
theorem lw_loop {e L : Nat} (he : 50 ≤ e) (hL : L ≤ 3584) : ∀ (k n : Nat) (M : MM) (R : RR), L - 7 * n ≤ k → n ≤ 512 → R 0 2 = L → INV n M R → i32r M → ∃ (M' : MM) (R' : RR) (m : Nat), run (call e) 261 18 [vX 2, vA 1, vA 57, vI ((7 * n : Nat) : Int)] [] M R = some (vI 1, M', R') ∧ INV m M' R' := by
  intro k
  induction k with
  | zero =>
    intro n M R hk hn h2 hI hr
    refine ⟨M, R, n, ?_, hI⟩
    rw [b_261_18, h2, w32_i (by omega), if_pos (by omega), b_261_1651]
  | succ k ih =>
    intro n M R hk hn h2 hI hr
    by_cases g : 7 * n + 7 ≤ L
    · obtain ⟨M1, R1, q, hI1, k1, k2⟩ := lw_sw (e := e) he (n := n) (by omega) hI (by omega) hr (c_and (M 0 (7 * n)) 63)
      obtain ⟨M', R', m, q', hm⟩ := ih (n + 1) M1 R1 (by omega) (by omega) (by rw [k2, h2]) hI1 (fun j => by rw [k1]; exact hr j)
      refine ⟨M', R', m, ?_, hm⟩
      have e7 : w32 (((7 * n : Nat) : Int) + 7) = ((7 * (n + 1) : Nat) : Int) := by rw [w32_i (by omega)]; omega
      rw [b_261_18, h2, w32_i (by omega), if_neg (by omega), b_261_27, h2, if_pos (by omega), Int.toNat_natCast, q, b_261_1645, e7]
      exact q'
    · refine ⟨M, R, n, ?_, hI⟩
      rw [b_261_18, h2, w32_i (by omega), if_pos (by omega), b_261_1651]
theorem law_run : LAWRUN := by
  intro L xs hL
  obtain ⟨M1, q1, hI, hk⟩ := start_I (d := 60) (by decide) L xs
  obtain ⟨M', R', m, q, P, Y, T, t, hV⟩ := lw_loop (e := 60) (by decide) hL L 0 M1 (rI L) (by omega) (by decide) (rI_2 L) hI (fun j => by
    rw [hk]
    have h := t32_ok (xs j)
    unfold i32 at h
    show -2147483648 ≤ (xs j).toInt ∧ (xs j).toInt < 2147483648
    omega)
  have hR := hV.2.2.2.2.2.2.2.2.2.1
  have hT : T ≤ 6 := hV.1.2.2.2.2.1
  refine ⟨60, M', R', by decide, ?_, ?_, ?_⟩
  · rw [q1]; exact q
  · rw [hR.1]; omega
  · have := hR.2.1
    omega
