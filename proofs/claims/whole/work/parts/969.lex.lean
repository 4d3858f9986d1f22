section
/-! ===== tokens ===== -/
def isBk (b : Int) : Bool := decide (b = 32 ∨ b = 10)
def isLt (b : Int) : Bool := decide (97 ≤ b ∧ b ≤ 122)
def isDg (b : Int) : Bool := decide (48 ≤ b ∧ b ≤ 57)
def isSg (b : Int) : Bool := decide (b = 40 ∨ b = 41 ∨ b = 59 ∨ b = 43 ∨ b = 45 ∨ b = 42 ∨ b = 60 ∨ b = 61)
/-- past all that are such, from p on -/
def skp (c : Int → Bool) (B : Nat → Int) : Nat → Nat → Nat
  | 0, p => p
  | n + 1, p => if c (B p) = true then skp c B n (p + 1) else p
theorem skp_ok (c : Int → Bool) (B : Nat → Int) : ∀ n p, p ≤ skp c B n p ∧ skp c B n p ≤ p + n ∧ (∀ i, p ≤ i → i < skp c B n p → c (B i) = true) ∧ (skp c B n p < p + n → ¬ c (B (skp c B n p)) = true)
  | 0, p => ⟨Nat.le_refl _, Nat.le_refl _, fun i h1 h2 => absurd h2 (by show ¬ i < p; omega), fun h => absurd h (by show ¬ p < p + 0; omega)⟩
  | n + 1, p => by
    unfold skp
    by_cases h : c (B p) = true
    · rw [if_pos h]
      obtain ⟨h1, h2, h3, h4⟩ := skp_ok c B n (p + 1)
      refine ⟨by omega, by omega, fun i g1 g2 => ?_, fun g => h4 (by omega)⟩
      by_cases e : i = p
      · subst e; exact h
      · exact h3 i (by omega) g2
    · rw [if_neg h]
      exact ⟨Nat.le_refl _, by omega, fun i g1 g2 => absurd g2 (by omega), fun _ => h⟩
/-- what a number is, of so many digits -/
def dv (B : Nat → Int) (p : Nat) : Nat → Int
  | 0 => 0
  | n + 1 => 10 * dv B p n + B (p + n) - 48
theorem dv_r {B : Nat → Int} {p : Nat} : ∀ n, (∀ i, i < n → 48 ≤ B (p + i) ∧ B (p + i) ≤ 57) → 0 ≤ dv B p n ∧ dv B p n < ((10 ^ n : Nat) : Int)
  | 0, _ => ⟨Int.le_refl 0, by show (0 : Int) < ((1 : Nat) : Int); decide⟩
  | n + 1, h => by
    have a := dv_r n (fun i hi => h i (by omega))
    have b := h n (by omega)
    show 0 ≤ 10 * dv B p n + B (p + n) - 48 ∧ 10 * dv B p n + B (p + n) - 48 < ((10 ^ (n + 1) : Nat) : Int)
    rw [Nat.pow_succ, Int.natCast_mul]
    generalize 10 ^ n = z at *
    omega
def pad (B : Nat → Int) (s n i : Nat) : Int := if i < n then B (s + i) else 32
def wmB (B : Nat → Int) (s n w : Nat) : Bool := decide (n ≤ 6) && fa (fun i => decide (pad B s n i = wordsC.getD (6 * w + i) 0)) 6 0
def wx (B : Nat → Int) (s n : Nat) : Int := fi (wmB B s n) 12 0
def tkS (B : Nat → Int) (Z q : Nat) : Nat := skp isBk B (Z - q) q
def tkE (B : Nat → Int) (Z q : Nat) : Nat := if Z ≤ tkS B Z q then tkS B Z q else if isLt (B (tkS B Z q)) = true then skp isLt B (Z - tkS B Z q) (tkS B Z q) else if isDg (B (tkS B Z q)) = true then skp isDg B (Z - tkS B Z q) (tkS B Z q) else tkS B Z q + 1
def tkN (B : Nat → Int) (Z q : Nat) : Nat := tkE B Z q - tkS B Z q
/-- the sort of a token, as the class has it -/
def tkK (B : Nat → Int) (Z q : Nat) : Int := if Z ≤ tkS B Z q then 0 else if isLt (B (tkS B Z q)) = true then (if wx B (tkS B Z q) (tkN B Z q) < 0 then 1 else if wx B (tkS B Z q) (tkN B Z q) < 6 then 4 + wx B (tkS B Z q) (tkN B Z q) else 3) else if isDg (B (tkS B Z q)) = true then (if tkN B Z q ≤ 4 then 2 else 1) else if isSg (B (tkS B Z q)) = true then B (tkS B Z q) else 1
def tkV (B : Nat → Int) (Z q : Nat) : Int := if isLt (B (tkS B Z q)) = true then wx B (tkS B Z q) (tkN B Z q) - 6 else dv B (tkS B Z q) (tkN B Z q)
theorem fi_b {c : Nat → Bool} : ∀ k n, (fi c k n = -1 ∨ ((n : Int) ≤ fi c k n ∧ fi c k n < n + k))
  | 0, n => .inl rfl
  | k + 1, n => by
    show ((if c n = true then (n : Int) else fi c k (n + 1)) = -1 ∨ ((n : Int) ≤ (if c n = true then (n : Int) else fi c k (n + 1)) ∧ (if c n = true then (n : Int) else fi c k (n + 1)) < n + (k + 1 : Nat)))
    by_cases h : c n = true
    · rw [if_pos h]; right; omega
    · rw [if_neg h]
      rcases fi_b (c := c) k (n + 1) with q | q
      · left; exact q
      · right; omega
theorem tk_b (B : Nat → Int) {Z q : Nat} (hq : q ≤ Z) : q ≤ tkS B Z q ∧ tkS B Z q ≤ Z ∧ tkS B Z q ≤ tkE B Z q ∧ tkE B Z q ≤ Z ∧ (¬ tkK B Z q = 0 → tkS B Z q < tkE B Z q) := by
  have h1 := skp_ok isBk B (Z - q) q
  have hs : q ≤ tkS B Z q ∧ tkS B Z q ≤ Z := ⟨h1.1, by have := h1.2.1; unfold tkS; omega⟩
  refine ⟨hs.1, hs.2, ?_⟩
  unfold tkE tkK
  generalize tkS B Z q = s at hs
  by_cases g : Z ≤ s
  · rw [if_pos g, if_pos g]
    exact ⟨Nat.le_refl _, hs.2, fun h => absurd rfl h⟩
  · rw [if_neg g, if_neg g]
    by_cases l : isLt (B s) = true
    · rw [if_pos l]
      have h := skp_ok isLt B (Z - s) s
      have hp : s < skp isLt B (Z - s) s := by
        apply Nat.lt_of_not_le
        intro hle
        have he : skp isLt B (Z - s) s = s := by omega
        have := h.2.2.2 (by omega)
        rw [he] at this
        exact this l
      exact ⟨h.1, by omega, fun _ => hp⟩
    · rw [if_neg l]
      by_cases d : isDg (B s) = true
      · rw [if_pos d]
        have h := skp_ok isDg B (Z - s) s
        have hp : s < skp isDg B (Z - s) s := by
          apply Nat.lt_of_not_le
          intro hle
          have he : skp isDg B (Z - s) s = s := by omega
          have := h.2.2.2 (by omega)
          rw [he] at this
          exact this d
        exact ⟨h.1, by omega, fun _ => hp⟩
      · rw [if_neg d]
        exact ⟨by omega, by omega, fun _ => by omega⟩
-- the class
/-- the bytes that were fed -/
def BY (M : MM) (o : Nat) (B : Nat → Int) (Z : Nat) : Prop := Z ≤ 160 ∧ ∀ i, i < Z → M o i = B i ∧ 0 ≤ B i ∧ B i ≤ 255
theorem t_49 {e : Nat} (he : 1 ≤ e) {R : RR} (hL : Lay R) {B : Nat → Int} {Z : Nat} : ∀ (k p : Nat) (M : MM), BY M 9 B Z → M 8 1 = (Z : Int) → p + k = Z → M 8 5 = (p : Int) → run (call e) 49 0 [vA 8] [] M R = run (call e) 49 39 [vA 8] [] (up M 8 5 ((skp isBk B k p : Nat) : Int)) R := by
  intro k
  induction k with
  | zero =>
    intro p M hB h1 hk h5
    rw [b_49_0, h1, h5, if_pos (by omega)]
    show _ = run (call e) 49 39 [vA 8] [] (up M 8 5 (p : Int)) R
    rw [← h5, up_self]
  | succ k ih =>
    intro p M hB h1 hk h5
    have hp := hB.2 p (by omega)
    have hZ := hB.1
    have e1 : w32 ((p : Int) + 1) = ((p + 1 : Nat) : Int) := by rw [w32_i (by omega)]; omega
    rw [b_49_0, h1, h5, if_neg (by omega), b_49_11 hL, h5, if_pos (by omega), Int.toNat_natCast, hp.1, s_53 he, bsI, b_49_23]
    unfold skp
    by_cases g : B p = 32 ∨ B p = 10
    · rw [b2_t g, if_neg (by decide), b_49_26, h5, e1, if_pos (show isBk (B p) = true from decide_eq_true g), ih (p + 1) _ ⟨hZ, fun i hi => by rw [up_o (by decide)]; exact hB.2 i hi⟩ (by rw [up_i (by decide)]; exact h1) (by omega) up_s, up_up]
    · rw [b2_f g, if_pos rfl, if_neg (show ¬ isBk (B p) = true from by unfold isBk; rw [decide_eq_true_eq]; exact g), ← h5, up_self]
theorem t_50 {e : Nat} (he : 1 ≤ e) {R : RR} (hL : Lay R) {B : Nat → Int} {Z : Nat} : ∀ (k p : Nat) (M : MM), BY M 9 B Z → M 8 1 = (Z : Int) → p + k = Z → M 8 5 = (p : Int) → run (call e) 50 0 [vA 8, vX 0] [] M R = run (call e) 50 39 [vA 8, vX 0] [] (up M 8 5 ((skp isLt B k p : Nat) : Int)) R := by
  intro k
  induction k with
  | zero =>
    intro p M hB h1 hk h5
    rw [b_50_0, h1, h5, if_pos (by omega)]
    show _ = run (call e) 50 39 [vA 8, vX 0] [] (up M 8 5 (p : Int)) R
    rw [← h5, up_self]
  | succ k ih =>
    intro p M hB h1 hk h5
    have hp := hB.2 p (by omega)
    have hZ := hB.1
    have e1 : w32 ((p : Int) + 1) = ((p + 1 : Nat) : Int) := by rw [w32_i (by omega)]; omega
    rw [b_50_0, h1, h5, if_neg (by omega), b_50_11 hL, h5, if_pos (by omega), Int.toNat_natCast, hp.1, s_54 he, bsI, b_50_23]
    unfold skp
    by_cases g : 97 ≤ B p ∧ B p ≤ 122
    · rw [b2_t g, if_neg (by decide), b_50_26, h5, e1, if_pos (show isLt (B p) = true from decide_eq_true g), ih (p + 1) _ ⟨hZ, fun i hi => by rw [up_o (by decide)]; exact hB.2 i hi⟩ (by rw [up_i (by decide)]; exact h1) (by omega) up_s, up_up]
    · rw [b2_f g, if_pos rfl, if_neg (show ¬ isLt (B p) = true from by unfold isLt; rw [decide_eq_true_eq]; exact g), ← h5, up_self]
/-- the WORD is that one -/
theorem s_51 {d0 : Nat} (hd : 1 ≤ d0) {M : MM} {R : RR} (hL : Lay R) {B : Nat → Int} {Z s n w : Nat} (hB : BY M 9 B Z) (h4 : M 8 4 = (s : Int)) (h5 : M 8 5 = ((s + n : Nat) : Int)) (hn : s + n ≤ Z) (hw : w < 12) : call d0 51 [vA 8, vI w] M R = some (vI (b2 (wmB B s n w = true)), M, R) := by
  obtain ⟨e, rfl⟩ := s_le hd
  have hZ := hB.1
  have en : w32 (M 8 5 - M 8 4) = (n : Int) := by rw [h4, h5, w32_i (by omega)]; omega
  refine call_of 5 [vA 8, vI w, vX 0, vX 0, vX 0] (by decide) rfl (Nat.le_of_ble_eq_true rfl) rfl ?_ b2_ok
  rw [b_51_0, en]
  by_cases hn6 : n ≤ 6
  · rw [if_pos (by omega), b_51_18]
    have key : ∀ (k i : Nat) (u : AV), i + k = 6 → run (call e) 51 20 [vA 8, vI w, vI n, vI i, u] [] M R = some (vI (b2 (fa (fun i => decide (pad B s n i = wordsC.getD (6 * w + i) 0)) k i = true)), M, R) := by
      intro k
      induction k with
      | zero =>
        intro i u hi
        rw [b_51_20, if_pos (by omega), b_51_73]
        rfl
      | succ k ih =>
        intro i u hi
        have e1 : w32 ((i : Int) + 1) = ((i + 1 : Nat) : Int) := by rw [w32_i (by omega)]; omega
        have e2 : w32 (w32 ((w : Int) * 6) + (i : Int)) = ((6 * w + i : Nat) : Int) := by
          simp (disch := omega) only [w32_i]; omega
        have hfa : fa (fun i => decide (pad B s n i = wordsC.getD (6 * w + i) 0)) (k + 1) i = if decide (pad B s n i = wordsC.getD (6 * w + i) 0) = true then fa (fun i => decide (pad B s n i = wordsC.getD (6 * w + i) 0)) k (i + 1) else false := rfl
        have hlet : run (call e) 51 20 [vA 8, vI w, vI n, vI i, u] [] M R = run (call e) 51 47 [vA 8, vI w, vI n, vI i, u] [vI (pad B s n i)] M R := by
          unfold pad
          rw [b_51_20, if_neg (by omega), b_51_26]
          by_cases h : i < n
          · have e3 : w32 ((s : Int) + (i : Int)) = ((s + i : Nat) : Int) := by rw [w32_i (by omega)]; omega
            rw [if_neg (by omega), b_51_31 hL, h4, e3, if_pos (by omega), Int.toNat_natCast, (hB.2 (s + i) (by omega)).1, if_pos h]
          · rw [if_pos (by omega), b_51_45, if_neg h]
        rw [hlet, b_51_47, e2, if_pos (by omega), Int.toNat_natCast, hfa]
        by_cases h : pad B s n i = wordsC.getD (6 * w + i) 0
        · rw [if_pos h, b_51_67, e1, if_pos (decide_eq_true h), ih (i + 1) _ (by omega)]
        · rw [if_neg h, b_51_65, if_neg (by rw [decide_eq_true_eq]; exact h), b2_f (by decide)]
    have hk := key 6 0 (vX 0) rfl
    unfold wmB
    rw [show decide (n ≤ 6) = true from decide_eq_true hn6, Bool.true_and]
    exact hk
  · rw [if_neg (by omega), b_51_16]
    unfold wmB
    rw [show decide (n ≤ 6) = false from decide_eq_false hn6, Bool.false_and, b2_f (by decide)]
end
