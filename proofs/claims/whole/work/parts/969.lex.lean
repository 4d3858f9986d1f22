section
/-! ===== tokens ===== -/
def isBk (b : Int) : Bool := decide (b = 32 ∨ b = 10)
def isLt (b : Int) : Bool := decide (97 ≤ b ∧ b ≤ 122)
def isDg (b : Int) : Bool := decide (48 ≤ b ∧ b ≤ 57)
def isSg (b : Int) : Bool := decide (b = 40 ∨ b = 41 ∨ b = 59 ∨ b = 43 ∨ b = 45 ∨ b = 42 ∨ b = 60 ∨ b = 61)
/-- past all that are such, from p on -/
def skp (c : Int → Bool) (B : Nat → Int) : Nat → Nat → Nat
  | 0, p => p
  | n + 1, p => if c (B p) = true then skp c B n (p + 1) else p
theorem skp_ok (c : Int → Bool) (B : Nat → Int) : ∀ n p, p ≤ skp c B n p ∧ skp c B n p ≤ p + n ∧ (∀ i, p ≤ i → i < skp c B n p → c (B i) = true) ∧ (skp c B n p < p + n → ¬ c (B (skp c B n p)) = true)
  | 0, p => ⟨Nat.le_refl _, Nat.le_refl _, fun i h1 h2 => absurd h2 (by show ¬ i < p; omega), fun h => absurd h (by show ¬ p < p + 0; omega)⟩
  | n + 1, p => by
    unfold skp
    by_cases h : c (B p) = true
    · rw [if_pos h]
      obtain ⟨h1, h2, h3, h4⟩ := skp_ok c B n (p + 1)
      refine ⟨by omega, by omega, fun i g1 g2 => ?_, fun g => h4 (by omega)⟩
      by_cases e : i = p
      · subst e; exact h
      · exact h3 i (by omega) g2
    · rw [if_neg h]
      exact ⟨Nat.le_refl _, by omega, fun i g1 g2 => absurd g2 (by omega), fun _ => h⟩
/-- what a number is, of so many digits -/
def dv (B : Nat → Int) (p : Nat) : Nat → Int
  | 0 => 0
  | n + 1 => 10 * dv B p n + B (p + n) - 48
theorem dv_r {B : Nat → Int} {p : Nat} : ∀ n, (∀ i, i < n → 48 ≤ B (p + i) ∧ B (p + i) ≤ 57) → 0 ≤ dv B p n ∧ dv B p n < ((10 ^ n : Nat) : Int)
  | 0, _ => ⟨Int.le_refl 0, by show (0 : Int) < ((1 : Nat) : Int); decide⟩
  | n + 1, h => by
    have a := dv_r n (fun i hi => h i (by omega))
    have b := h n (by omega)
    show 0 ≤ 10 * dv B p n + B (p + n) - 48 ∧ 10 * dv B p n + B (p + n) - 48 < ((10 ^ (n + 1) : Nat) : Int)
    rw [Nat.pow_succ, Int.natCast_mul]
    generalize 10 ^ n = z at *
    omega
def pad (B : Nat → Int) (s n i : Nat) : Int := if i < n then B (s + i) else 32
def wmB (B : Nat → Int) (s n w : Nat) : Bool := decide (n ≤ 6) && fa (fun i => decide (pad B s n i = wordsC.getD (6 * w + i) 0)) 6 0
def wx (B : Nat → Int) (s n : Nat) : Int := fi (wmB B s n) 12 0
def tkS (B : Nat → Int) (Z q : Nat) : Nat := skp isBk B (Z - q) q
def tkE (B : Nat → Int) (Z q : Nat) : Nat := if Z ≤ tkS B Z q then tkS B Z q else if isLt (B (tkS B Z q)) = true then skp isLt B (Z - tkS B Z q) (tkS B Z q) else if isDg (B (tkS B Z q)) = true then skp isDg B (Z - tkS B Z q) (tkS B Z q) else tkS B Z q + 1
def tkN (B : Nat → Int) (Z q : Nat) : Nat := tkE B Z q - tkS B Z q
/-- the sort of a token, as the class has it -/
def tkK (B : Nat → Int) (Z q : Nat) : Int := if Z ≤ tkS B Z q then 0 else if isLt (B (tkS B Z q)) = true then (if wx B (tkS B Z q) (tkN B Z q) < 0 then 1 else if wx B (tkS B Z q) (tkN B Z q) < 6 then 4 + wx B (tkS B Z q) (tkN B Z q) else 3) else if isDg (B (tkS B Z q)) = true then (if tkN B Z q ≤ 4 then 2 else 1) else if isSg (B (tkS B Z q)) = true then B (tkS B Z q) else 1
def tkV (B : Nat → Int) (Z q : Nat) : Int := if isLt (B (tkS B Z q)) = true then wx B (tkS B Z q) (tkN B Z q) - 6 else dv B (tkS B Z q) (tkN B Z q)
theorem fi_b {c : Nat → Bool} : ∀ k n, (fi c k n = -1 ∨ ((n : Int) ≤ fi c k n ∧ fi c k n < n + k))
  | 0, n => .inl rfl
  | k + 1, n => by
    show ((if c n = true then (n : Int) else fi c k (n + 1)) = -1 ∨ ((n : Int) ≤ (if c n = true then (n : Int) else fi c k (n + 1)) ∧ (if c n = true then (n : Int) else fi c k (n + 1)) < n + (k + 1 : Nat)))
    by_cases h : c n = true
    · rw [if_pos h]; right; omega
    · rw [if_neg h]
      rcases fi_b (c := c) k (n + 1) with q | q
      · left; exact q
      · right; omega
theorem tk_b (B : Nat → Int) {Z q : Nat} (hq : q ≤ Z) : q ≤ tkS B Z q ∧ tkS B Z q ≤ Z ∧ tkS B Z q ≤ tkE B Z q ∧ tkE B Z q ≤ Z ∧ (¬ tkK B Z q = 0 → tkS B Z q < tkE B Z q) := by
  have h1 := skp_ok isBk B (Z - q) q
  have hs : q ≤ tkS B Z q ∧ tkS B Z q ≤ Z := ⟨h1.1, by have := h1.2.1; unfold tkS; omega⟩
  refine ⟨hs.1, hs.2, ?_⟩
  unfold tkE tkK
  generalize tkS B Z q = s at hs
  by_cases g : Z ≤ s
  · rw [if_pos g, if_pos g]
    exact ⟨Nat.le_refl _, hs.2, fun h => absurd rfl h⟩
  · rw [if_neg g, if_neg g]
    by_cases l : isLt (B s) = true
    · rw [if_pos l]
      have h := skp_ok isLt B (Z - s) s
      have hp : s < skp isLt B (Z - s) s := by
        apply Nat.lt_of_not_le
        intro hle
        have he : skp isLt B (Z - s) s = s := by omega
        have := h.2.2.2 (by omega)
        rw [he] at this
        exact this l
      exact ⟨h.1, by omega, fun _ => hp⟩
    · rw [if_neg l]
      by_cases d : isDg (B s) = true
      · rw [if_pos d]
        have h := skp_ok isDg B (Z - s) s
        have hp : s < skp isDg B (Z - s) s := by
          apply Nat.lt_of_not_le
          intro hle
          have he : skp isDg B (Z - s) s = s := by omega
          have := h.2.2.2 (by omega)
          rw [he] at this
          exact this d
        exact ⟨h.1, by omega, fun _ => hp⟩
      · rw [if_neg d]
        exact ⟨by omega, by omega, fun _ => by omega⟩
-- the class
/-- the bytes that were fed -/
def BY (M : MM) (o : Nat) (B : Nat → Int) (Z : Nat) : Prop := Z ≤ 160 ∧ ∀ i, i < Z → M o i = B i ∧ 0 ≤ B i ∧ B i ≤ 255
theorem t_49 {e : Nat} (he : 1 ≤ e) {R : RR} (hL : Lay R) {B : Nat → Int} {Z : Nat} : ∀ (k p : Nat) (M : MM), BY M 9 B Z → M 8 1 = (Z : Int) → p + k = Z → M 8 5 = (p : Int) → run (call e) 49 0 [vA 8] [] M R = run (call e) 49 39 [vA 8] [] (up M 8 5 ((skp isBk B k p : Nat) : Int)) R := by
  intro k
  induction k with
  | zero =>
    intro p M hB h1 hk h5
    rw [b_49_0, h1, h5, if_pos (by omega)]
    show _ = run (call e) 49 39 [vA 8] [] (up M 8 5 (p : Int)) R
    rw [← h5, up_self]
  | succ k ih =>
    intro p M hB h1 hk h5
    have hp := hB.2 p (by omega)
    have hZ := hB.1
    have e1 : w32 ((p : Int) + 1) = ((p + 1 : Nat) : Int) := by rw [w32_i (by omega)]; omega
    rw [b_49_0, h1, h5, if_neg (by omega), b_49_11 hL, h5, if_pos (by omega), Int.toNat_natCast, hp.1, s_53 he, bsI, b_49_23]
    unfold skp
    by_cases g : B p = 32 ∨ B p = 10
    · rw [b2_t g, if_neg (by decide), b_49_26, h5, e1, if_pos (show isBk (B p) = true from decide_eq_true g), ih (p + 1) _ ⟨hZ, fun i hi => by rw [up_o (by decide)]; exact hB.2 i hi⟩ (by rw [up_i (by decide)]; exact h1) (by omega) up_s, up_up]
    · rw [b2_f g, if_pos rfl, if_neg (show ¬ isBk (B p) = true from by unfold isBk; rw [decide_eq_true_eq]; exact g), ← h5, up_self]
theorem t_50 {e : Nat} (he : 1 ≤ e) {R : RR} (hL : Lay R) {B : Nat → Int} {Z : Nat} : ∀ (k p : Nat) (M : MM), BY M 9 B Z → M 8 1 = (Z : Int) → p + k = Z → M 8 5 = (p : Int) → run (call e) 50 0 [vA 8, vX 0] [] M R = run (call e) 50 39 [vA 8, vX 0] [] (up M 8 5 ((skp isLt B k p : Nat) : Int)) R := by
  intro k
  induction k with
  | zero =>
    intro p M hB h1 hk h5
    rw [b_50_0, h1, h5, if_pos (by omega)]
    show _ = run (call e) 50 39 [vA 8, vX 0] [] (up M 8 5 (p : Int)) R
    rw [← h5, up_self]
  | succ k ih =>
    intro p M hB h1 hk h5
    have hp := hB.2 p (by omega)
    have hZ := hB.1
    have e1 : w32 ((p : Int) + 1) = ((p + 1 : Nat) : Int) := by rw [w32_i (by omega)]; omega
    rw [b_50_0, h1, h5, if_neg (by omega), b_50_11 hL, h5, if_pos (by omega), Int.toNat_natCast, hp.1, s_54 he, bsI, b_50_23]
    unfold skp
    by_cases g : 97 ≤ B p ∧ B p ≤ 122
    · rw [b2_t g, if_neg (by decide), b_50_26, h5, e1, if_pos (show isLt (B p) = true from decide_eq_true g), ih (p + 1) _ ⟨hZ, fun i hi => by rw [up_o (by decide)]; exact hB.2 i hi⟩ (by rw [up_i (by decide)]; exact h1) (by omega) up_s, up_up]
    · rw [b2_f g, if_pos rfl, if_neg (show ¬ isLt (B p) = true from by unfold isLt; rw [decide_eq_true_eq]; exact g), ← h5, up_self]
/-- the WORD is that one -/
theorem s_51 {d0 : Nat} (hd : 1 ≤ d0) {M : MM} {R : RR} (hL : Lay R) {B : Nat → Int} {Z s n w : Nat} (hB : BY M 9 B Z) (h4 : M 8 4 = (s : Int)) (h5 : M 8 5 = ((s + n : Nat) : Int)) (hn : s + n ≤ Z) (hw : w < 12) : call d0 51 [vA 8, vI w] M R = some (vI (b2 (wmB B s n w = true)), M, R) := by
  obtain ⟨e, rfl⟩ := s_le hd
  have hZ := hB.1
  have en : w32 (M 8 5 - M 8 4) = (n : Int) := by rw [h4, h5, w32_i (by omega)]; omega
  refine call_of 5 [vA 8, vI w, vX 0, vX 0, vX 0] (by decide) rfl (Nat.le_of_ble_eq_true rfl) rfl ?_ b2_ok
  rw [b_51_0, en]
  by_cases hn6 : n ≤ 6
  · rw [if_pos (by omega), b_51_18]
    have key : ∀ k i (u : AV), i + k = 6 → run (call e) 51 20 [vA 8, vI w, vI n, vI i, u] [] M R = some (vI (b2 (fa (fun i => decide (pad B s n i = wordsC.getD (6 * w + i) 0)) k i = true)), M, R) := by
      intro k
      induction k with
      | zero =>
        intro i u hi
        rw [b_51_20, if_pos (by omega), b_51_73]
        rfl
      | succ k ih =>
        intro i u hi
        have e1 : w32 ((i : Int) + 1) = ((i + 1 : Nat) : Int) := by rw [w32_i (by omega)]; omega
        have e2 : w32 (w32 ((w : Int) * 6) + (i : Int)) = ((6 * w + i : Nat) : Int) := by
          simp (disch := omega) only [w32_i]; omega
        have hfa : fa (fun i => decide (pad B s n i = wordsC.getD (6 * w + i) 0)) (k + 1) i = if decide (pad B s n i = wordsC.getD (6 * w + i) 0) = true then fa (fun i => decide (pad B s n i = wordsC.getD (6 * w + i) 0)) k (i + 1) else false := rfl
        have hlet : run (call e) 51 20 [vA 8, vI w, vI n, vI i, u] [] M R = run (call e) 51 47 [vA 8, vI w, vI n, vI i, u] [vI (pad B s n i)] M R := by
          unfold pad
          rw [b_51_20, if_neg (by omega), b_51_26]
          by_cases h : i < n
          · have e3 : w32 ((s : Int) + (i : Int)) = ((s + i : Nat) : Int) := by rw [w32_i (by omega)]; omega
            rw [if_neg (by omega), b_51_31 hL, h4, e3, if_pos (by omega), Int.toNat_natCast, (hB.2 (s + i) (by omega)).1, if_pos h]
          · rw [if_pos (by omega), b_51_45, if_neg h]
        rw [hlet, b_51_47, e2, if_pos (by omega), Int.toNat_natCast, hfa]
        by_cases h : pad B s n i = wordsC.getD (6 * w + i) 0
        · rw [if_pos h, b_51_67, e1, if_pos (decide_eq_true h), ih (i + 1) _ (by omega)]
        · rw [if_neg h, b_51_65, if_neg (by rw [decide_eq_true_eq]; exact h), b2_f (by decide)]
    have hk := key 6 0 (vX 0) rfl
    unfold wmB
    rw [show decide (n ≤ 6) = true from decide_eq_true hn6, Bool.true_and]
    exact hk
  · rw [if_neg (by omega), b_51_16]
    unfold wmB
    rw [show decide (n ≤ 6) = false from decide_eq_false hn6, Bool.false_and, b2_f (by decide)]
/-- a word is read -/
theorem s_50 {d0 : Nat} (hd : 2 ≤ d0) {M : MM} {R : RR} (hL : Lay R) {B : Nat → Int} {Z s : Nat} (hB : BY M 9 B Z) (h1 : M 8 1 = (Z : Int)) (h4 : M 8 4 = (s : Int)) (h5 : M 8 5 = (s : Int)) (hs : s ≤ Z) : ∃ M', call d0 50 [vA 8] M R = some (vX 0, M', R) ∧ Fx [8] M M' ∧ (∀ i, ¬ i = 2 → ¬ i = 3 → ¬ i = 5 → M' 8 i = M 8 i) ∧ M' 8 5 = ((skp isLt B (Z - s) s : Nat) : Int) ∧ M' 8 2 = (if wx B s (skp isLt B (Z - s) s - s) < 0 then 1 else if wx B s (skp isLt B (Z - s) s - s) < 6 then 4 + wx B s (skp isLt B (Z - s) s - s) else 3) ∧ (0 ≤ wx B s (skp isLt B (Z - s) s - s) → M' 8 3 = wx B s (skp isLt B (Z - s) s - s) - 6) := by
  obtain ⟨e, rfl⟩ := s_le hd
  have hZ := hB.1
  have hk := skp_ok isLt B (Z - s) s
  have q := t_50 (e := e + 1) (by omega) hL (Z - s) s M hB h1 (by omega) h5
  generalize skp isLt B (Z - s) s = z at hk q
  obtain ⟨n, hn⟩ : ∃ n, z = s + n := ⟨z - s, by omega⟩
  subst hn
  rw [show s + n - s = n by omega]
  obtain ⟨N, hN⟩ : ∃ N, N = up (up M 8 5 ((s + n : Nat) : Int)) 8 2 1 := ⟨_, rfl⟩
  have FN : Fx [8] M N := by rw [hN]; exact Fx_t (Fx_p (by decide)) (Fx_p (by decide))
  have n4 : N 8 4 = (s : Int) := by rw [hN, up_i (by decide), up_i (by decide)]; exact h4
  have n5 : N 8 5 = ((s + n : Nat) : Int) := by rw [hN, up_i (by decide), up_s]
  have nB : BY N 9 B Z := ⟨hZ, fun i hi => by rw [FN 9 (by decide)]; exact hB.2 i hi⟩
  have key : ∀ k w, w + k = 12 → run (call (e + 1)) 50 46 [vA 8, vI w] [] N R = some (vX 0, (if fi (wmB B s n) k w < 0 then N else up (up N 8 2 (if fi (wmB B s n) k w < 6 then 4 + fi (wmB B s n) k w else 3)) 8 3 (fi (wmB B s n) k w - 6)), R) := by
    intro k
    induction k with
    | zero =>
      intro w hw
      have ew : w32 ((w : Int) * 6) = (w : Int) * 6 := w32_i (by omega)
      rw [b_50_46, ew, if_pos (by omega), b_50_98]
      rfl
    | succ k ih =>
      intro w hw
      have ew : w32 ((w : Int) * 6) = (w : Int) * 6 := w32_i (by omega)
      have e1 : w32 ((w : Int) + 1) = ((w + 1 : Nat) : Int) := by rw [w32_i (by omega)]; omega
      have e4 : w32 (4 + (w : Int)) = 4 + (w : Int) := w32_i (by omega)
      have e6 : w32 ((w : Int) - 6) = (w : Int) - 6 := w32_i (by omega)
      have hfi : fi (wmB B s n) (k + 1) w = if wmB B s n w = true then (w : Int) else fi (wmB B s n) k (w + 1) := rfl
      rw [b_50_46, ew, if_neg (by omega), b_50_58, s_51 (by omega) hL nB n4 n5 (by omega) (by omega), bsI, b_50_63, hfi]
      by_cases h : wmB B s n w = true
      · rw [b2_t h, if_neg (by decide), b_50_66, if_pos h, if_neg (show ¬ (w : Int) < 0 by omega)]
        by_cases g : w < 6
        · rw [if_neg (by omega), b_50_73, b_50_80, e4, e6, if_pos (show (w : Int) < 6 by omega)]
        · rw [if_pos (by omega), b_50_79, b_50_80, e6, if_neg (show ¬ (w : Int) < 6 by omega)]
      · rw [b2_f h, if_pos rfl, b_50_92, e1, if_neg h]
        exact ih (w + 1) (by omega)
  have hq := key 12 0 rfl
  have hw : fi (wmB B s n) 12 0 = wx B s n := rfl
  rw [hw] at hq
  refine ⟨_, call_of 2 [vA 8, vX 0] (by decide) rfl (Nat.le_of_ble_eq_true rfl) rfl (q.trans ((b_50_39 ..).trans (by rw [← hN]; exact hq))) rfl, ?_, ?_, ?_, ?_, ?_⟩
  · split
    · exact FN
    · exact Fx_t FN (Fx_t (Fx_p (by decide)) (Fx_p (by decide)))
  · intro i i2 i3 i5
    split
    · rw [hN, up_i i2, up_i i5]
    · rw [up_i i3, up_i i2, hN, up_i i2, up_i i5]
  · split
    · exact n5
    · rw [up_i (by decide), up_i (by decide)]; exact n5
  · by_cases g : wx B s n < 0
    · rw [if_pos g, if_pos g, hN, up_s]
    · rw [if_neg g, if_neg g, up_i (by decide), up_s]
  · intro g
    rw [if_neg (by omega), up_s]
/-- a number is read -/
theorem s_52 {d0 : Nat} (hd : 2 ≤ d0) {M : MM} {R : RR} (hL : Lay R) {B : Nat → Int} {Z s : Nat} (hB : BY M 9 B Z) (h1 : M 8 1 = (Z : Int)) (h4 : M 8 4 = (s : Int)) (h5 : M 8 5 = (s : Int)) (hs : s ≤ Z) : ∃ M', call d0 52 [vA 8] M R = some (vX 0, M', R) ∧ Fx [8] M M' ∧ (∀ i, ¬ i = 2 → ¬ i = 3 → ¬ i = 5 → M' 8 i = M 8 i) ∧ M' 8 5 = ((skp isDg B (Z - s) s : Nat) : Int) ∧ M' 8 2 = (if skp isDg B (Z - s) s - s ≤ 4 then 2 else 1) ∧ (skp isDg B (Z - s) s - s ≤ 4 → M' 8 3 = dv B s (skp isDg B (Z - s) s - s)) := by
  obtain ⟨e, rfl⟩ := s_le hd
  have hZ := hB.1
  have key : ∀ (k j : Nat) (N : MM), s + j + k = Z → Fx [8] M N → (∀ i, ¬ i = 2 → ¬ i = 3 → ¬ i = 5 → N 8 i = M 8 i) → N 8 5 = ((s + j : Nat) : Int) → (j ≤ 4 → N 8 3 = dv B s j) → (∀ i, i < j → isDg (B (s + i)) = true) → ∃ M', run (call (e + 1)) 52 5 [vA 8] [] N R = some (vX 0, M', R) ∧ Fx [8] M M' ∧ (∀ i, ¬ i = 2 → ¬ i = 3 → ¬ i = 5 → M' 8 i = M 8 i) ∧ M' 8 5 = ((skp isDg B k (s + j) : Nat) : Int) ∧ M' 8 2 = (if skp isDg B k (s + j) - s ≤ 4 then 2 else 1) ∧ (skp isDg B k (s + j) - s ≤ 4 → M' 8 3 = dv B s (skp isDg B k (s + j) - s)) := by
    have fin : ∀ (j : Nat) (N : MM), s + j ≤ Z → Fx [8] M N → (∀ i, ¬ i = 2 → ¬ i = 3 → ¬ i = 5 → N 8 i = M 8 i) → N 8 5 = ((s + j : Nat) : Int) → (j ≤ 4 → N 8 3 = dv B s j) → ∃ M', run (call (e + 1)) 52 68 [vA 8] [] N R = some (vX 0, M', R) ∧ Fx [8] M M' ∧ (∀ i, ¬ i = 2 → ¬ i = 3 → ¬ i = 5 → M' 8 i = M 8 i) ∧ M' 8 5 = ((s + j : Nat) : Int) ∧ M' 8 2 = (if s + j - s ≤ 4 then 2 else 1) ∧ (s + j - s ≤ 4 → M' 8 3 = dv B s (s + j - s)) := by
      intro j N hj F g n5 n3
      have n4 : N 8 4 = (s : Int) := by rw [g 4 (by decide) (by decide) (by decide)]; exact h4
      have ej : w32 (N 8 5 - N 8 4) = (j : Int) := by rw [n4, n5, w32_i (by omega)]; omega
      rw [show s + j - s = j by omega]
      by_cases h : j ≤ 4
      · refine ⟨up N 8 2 2, ?_, Fx_t F (Fx_p (by decide)), fun i i2 i3 i5 => by rw [up_i i2]; exact g i i2 i3 i5, by rw [up_i (by decide)]; exact n5, by rw [up_s, if_pos h], fun _ => by rw [up_i (by decide)]; exact n3 h⟩
        rw [b_52_68, ej, if_pos (by omega), b_52_86, b_52_87]
      · refine ⟨up N 8 2 1, ?_, Fx_t F (Fx_p (by decide)), fun i i2 i3 i5 => by rw [up_i i2]; exact g i i2 i3 i5, by rw [up_i (by decide)]; exact n5, by rw [up_s, if_neg h], fun q => absurd q h⟩
        rw [b_52_68, ej, if_neg (by omega), b_52_82, b_52_87]
    intro k
    induction k with
    | zero =>
      intro j N hk F g n5 n3 _
      have n1 : N 8 1 = (Z : Int) := by rw [g 1 (by decide) (by decide) (by decide)]; exact h1
      rw [b_52_5, n1, n5, if_pos (by omega)]
      exact fin j N (by omega) F g n5 n3
    | succ k ih =>
      intro j N hk F g n5 n3 hdg
      have n1 : N 8 1 = (Z : Int) := by rw [g 1 (by decide) (by decide) (by decide)]; exact h1
      have hp := hB.2 (s + j) (by omega)
      rw [← F 9 (by decide)] at hp
      have e1 : w32 (((s + j : Nat) : Int) + 1) = ((s + (j + 1) : Nat) : Int) := by rw [w32_i (by omega)]; omega
      rw [b_52_5, n1, n5, if_neg (by omega), b_52_16 hL, n5, if_pos (by omega), Int.toNat_natCast, hp.1, s_55 (by omega), bsI, b_52_28]
      unfold skp
      by_cases h : 48 ≤ B (s + j) ∧ B (s + j) ≤ 57
      · rw [b2_t h, if_neg (by decide), b_52_31 hL, n5, if_pos (by omega), Int.toNat_natCast, hp.1, if_pos (show isDg (B (s + j)) = true from decide_eq_true h), up_i (by decide), n5, e1]
        refine ih (j + 1) _ (by omega) (Fx_t F (Fx_t (Fx_p (by decide)) (Fx_p (by decide)))) (fun i i2 i3 i5 => by rw [up_i i5, up_i i3]; exact g i i2 i3 i5) up_s ?_ ?_
        · intro hj
          rw [up_i (by decide), up_s, n3 (by omega)]
          have hr := dv_r (B := B) (p := s) j (fun i hi => by
            have := hdg i hi
            unfold isDg at this
            rw [decide_eq_true_eq] at this
            exact this)
          have hb : 10 ^ j ≤ 1000 := Nat.pow_le_pow_right (n := 10) (by omega) (by omega : j ≤ 3)
          show w32 (w32 (w32 (dv B s j * 10) + B (s + j)) - 48) = 10 * dv B s j + B (s + j) - 48
          generalize 10 ^ j = z at *
          simp (disch := omega) only [w32_i]
          omega
        · intro i hi
          by_cases q : i = j
          · subst q; exact decide_eq_true h
          · exact hdg i (by omega)
      · rw [b2_f h, if_pos rfl, if_neg (show ¬ isDg (B (s + j)) = true from by unfold isDg; rw [decide_eq_true_eq]; exact h)]
        exact fin j N (by omega) F g n5 n3
  obtain ⟨M', q, r1, r2, r3, r4, r5⟩ := key (Z - s) 0 (up M 8 3 0) (by omega) (Fx_p (by decide)) (fun i i2 i3 i5 => by rw [up_i i3]) (by rw [up_i (by decide)]; exact h5) (fun _ => up_s) (fun i hi => absurd hi (by omega))
  rw [Nat.add_zero] at r3 r4 r5
  refine ⟨M', call_of 1 [vA 8] (by decide) rfl (Nat.le_of_ble_eq_true rfl) rfl ?_ rfl, r1, r2, r3, r4, r5⟩
  rw [b_52_0]
  exact q
/-- the next token -/
theorem s_49 {d0 : Nat} (hd : 3 ≤ d0) {M : MM} {R : RR} (hL : Lay R) {B : Nat → Int} {Z q : Nat} (hB : BY M 9 B Z) (h1 : M 8 1 = (Z : Int)) (h5 : M 8 5 = (q : Int)) (hq : q ≤ Z) : ∃ M', call d0 49 [vA 8] M R = some (vX 0, M', R) ∧ Fx [8] M M' ∧ (∀ i, ¬ i = 2 → ¬ i = 3 → ¬ i = 4 → ¬ i = 5 → M' 8 i = M 8 i) ∧ M' 8 5 = ((tkE B Z q : Nat) : Int) ∧ M' 8 4 = ((tkS B Z q : Nat) : Int) ∧ M' 8 2 = tkK B Z q ∧ (tkK B Z q = 2 ∨ tkK B Z q = 3 → M' 8 3 = tkV B Z q) := by
  obtain ⟨e, rfl⟩ := s_le hd
  have hZ := hB.1
  have start : ∀ M', run (call (e + 2)) 49 0 [vA 8] [] M R = some (vX 0, M', R) → call (e + 3) 49 [vA 8] M R = some (vX 0, M', R) := fun M' h => call_of 1 [vA 8] (by decide) rfl (Nat.le_of_ble_eq_true rfl) rfl h rfl
  have qs := t_49 (e := e + 2) (by omega) hL (Z - q) q M hB h1 (by omega) h5
  have hsk := tk_b B hq
  unfold tkE tkK tkV tkN at *
  change _ = run (call (e + 2)) 49 39 [vA 8] [] (up M 8 5 ((tkS B Z q : Nat) : Int)) R at qs
  unfold tkE tkK at *
  generalize tkS B Z q = s at *
  obtain ⟨N, hN⟩ : ∃ N, N = up (up M 8 5 (s : Int)) 8 4 (s : Int) := ⟨_, rfl⟩
  have FN : Fx [8] M N := by rw [hN]; exact Fx_t (Fx_p (by decide)) (Fx_p (by decide))
  have nB : BY N 9 B Z := ⟨hZ, fun i hi => by rw [FN 9 (by decide)]; exact hB.2 i hi⟩
  have n1 : N 8 1 = (Z : Int) := by rw [hN, up_i (by decide), up_i (by decide)]; exact h1
  have n4 : N 8 4 = (s : Int) := by rw [hN, up_s]
  have n5 : N 8 5 = (s : Int) := by rw [hN, up_i (by decide), up_s]
  have n0 : ∀ i, ¬ i = 4 → ¬ i = 5 → N 8 i = M 8 i := fun i i4 i5 => by rw [hN, up_i i4, up_i i5]
  rw [b_49_39, up_s, ← hN, n1, n4] at qs
  by_cases g : Z ≤ s
  · rw [if_neg (by omega), b_49_58] at qs
    refine ⟨up N 8 2 0, start _ (qs.trans b_49_152), Fx_t FN (Fx_p (by decide)), fun i i2 i3 i4 i5 => by rw [up_i i2]; exact n0 i i4 i5, ?_, ?_, ?_, ?_⟩
    · rw [if_pos g, up_i (by decide)]; exact n5
    · rw [up_i (by decide)]; exact n4
    · rw [if_pos g, up_s]
    · rw [if_pos g]
      intro h
      omega
  · have hs : s ≤ Z := by omega
    have hp := nB.2 s (by omega)
    rw [if_pos (by omega), b_49_66 hL, n4, if_pos (by omega), Int.toNat_natCast, hp.1, s_54 (by omega), bsI, b_49_78] at qs
    rw [if_neg g] at *
    by_cases l : 97 ≤ B s ∧ B s ≤ 122
    · have l' : isLt (B s) = true := decide_eq_true l
      rw [b2_t l, if_neg (by decide), b_49_81] at qs
      obtain ⟨M', q50, F, m0, m5, m2, m3⟩ := s_50 (d0 := e + 2) (by omega) hL nB n1 n4 n5 hs
      rw [q50, bsX, b_49_85, b_49_152] at qs
      rw [if_pos l'] at *
      refine ⟨M', start _ qs, Fx_t FN F, fun i i2 i3 i4 i5 => by rw [m0 i i2 i3 i5]; exact n0 i i4 i5, m5, by rw [m0 4 (by decide) (by decide) (by decide)]; exact n4, m2, ?_⟩
      intro h
      refine m3 ?_
      by_cases w0 : wx B s (skp isLt B (Z - s) s - s) < 0
      · rw [if_pos w0] at h
        omega
      · omega
    · have l' : ¬ isLt (B s) = true := by unfold isLt; rw [decide_eq_true_eq]; exact l
      rw [b2_f l, if_pos rfl, b_49_88 hL, n4, if_pos (by omega), Int.toNat_natCast, hp.1, s_55 (by omega), bsI, b_49_100] at qs
      rw [if_neg l'] at *
      by_cases dg : 48 ≤ B s ∧ B s ≤ 57
      · have d' : isDg (B s) = true := decide_eq_true dg
        rw [b2_t dg, if_neg (by decide), b_49_103] at qs
        obtain ⟨M', q52, F, m0, m5, m2, m3⟩ := s_52 (d0 := e + 2) (by omega) hL nB n1 n4 n5 hs
        rw [q52, bsX, b_49_107, b_49_152] at qs
        rw [if_pos d'] at *
        refine ⟨M', start _ qs, Fx_t FN F, fun i i2 i3 i4 i5 => by rw [m0 i i2 i3 i5]; exact n0 i i4 i5, m5, by rw [m0 4 (by decide) (by decide) (by decide)]; exact n4, m2, ?_⟩
        intro h
        refine m3 ?_
        by_cases w0 : skp isDg B (Z - s) s - s ≤ 4
        · exact w0
        · rw [if_neg w0] at h
          omega
      · have d' : ¬ isDg (B s) = true := by unfold isDg; rw [decide_eq_true_eq]; exact dg
        rw [b2_f dg, if_pos rfl, b_49_110 hL, n4, if_pos (by omega), Int.toNat_natCast, hp.1, s_56 (by omega), bsI, b_49_123] at qs
        rw [if_neg d'] at *
        have e5 : ∀ v, w32 (up N 8 2 v 8 5 + 1) = ((s + 1 : Nat) : Int) := by
          intro v
          rw [up_i (by decide), n5, w32_i (by omega)]
          omega
        by_cases sg : B s = 40 ∨ B s = 41 ∨ B s = 59 ∨ B s = 43 ∨ B s = 45 ∨ B s = 42 ∨ B s = 60 ∨ B s = 61
        · have s' : isSg (B s) = true := decide_eq_true sg
          rw [b2_t sg, if_neg (by decide), b_49_126 hL, n4, if_pos (by omega), Int.toNat_natCast, hp.1, b_49_139, e5, b_49_152] at qs
          rw [if_pos s'] at *
          refine ⟨_, start _ qs, Fx_t FN (Fx_t (Fx_p (by decide)) (Fx_p (by decide))), fun i i2 i3 i4 i5 => by rw [up_i i5, up_i i2]; exact n0 i i4 i5, up_s, by rw [up_i (by decide), up_i (by decide)]; exact n4, by rw [up_i (by decide), up_s], ?_⟩
          intro h
          omega
        · have s' : ¬ isSg (B s) = true := by unfold isSg; rw [decide_eq_true_eq]; exact sg
          rw [b2_f sg, if_pos rfl, b_49_138, b_49_139, e5, b_49_152] at qs
          rw [if_neg s'] at *
          refine ⟨_, start _ qs, Fx_t FN (Fx_t (Fx_p (by decide)) (Fx_p (by decide))), fun i i2 i3 i4 i5 => by rw [up_i i5, up_i i2]; exact n0 i i4 i5, up_s, by rw [up_i (by decide), up_i (by decide)]; exact n4, by rw [up_i (by decide), up_s], ?_⟩
          intro h
          omega
end
