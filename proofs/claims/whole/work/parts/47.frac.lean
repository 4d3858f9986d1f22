/-! ===== specs ===== -/
theorem lc_le {a b : Int} : ((if b < a then (1 : Int) else if a = b then 0 else -1) ≤ 0) = (a ≤ b) := by
  apply propext; repeat' split
  all_goals omega
theorem lc_lt {a b : Int} : (0 < (if b < a then (1 : Int) else if a = b then 0 else -1)) = (b < a) := by
  apply propext; repeat' split
  all_goals omega
theorem lc_ge {a b : Int} : (0 ≤ (if b < a then (1 : Int) else if a = b then 0 else -1)) = (b ≤ a) := by
  apply propext; repeat' split
  all_goals omega
theorem lc_l0 {a b : Int} : ((if b < a then (1 : Int) else if a = b then 0 else -1) < 0) = (a < b) := by
  apply propext; repeat' split
  all_goals omega
theorem lc_eq {a b : Int} : ((if b < a then (1 : Int) else if a = b then 0 else -1) = 0) = (a = b) := by
  apply propext; repeat' split
  all_goals omega
theorem gcd_st (a b : Nat) : Nat.gcd a b = Nat.gcd b (a % b) := by
  rw [Nat.gcd_comm a b, Nat.gcd_rec b a, Nat.gcd_comm]
theorem half {a b : Nat} {k : Nat} (hb : b < 2 ^ (k + 1)) (hr : 0 < a % b) (h0 : 0 < b) : b % (a % b) < 2 ^ k := by
  have h1 := Nat.mod_lt a h0
  have h2 := Nat.mod_lt b hr
  have h3 := Nat.mod_add_div b (a % b)
  have h4 : 1 ≤ b / (a % b) := (Nat.le_div_iff_mul_le hr).2 (by omega)
  have h5 : a % b * 1 ≤ a % b * (b / (a % b)) := Nat.mul_le_mul_left _ h4
  rw [Nat.pow_succ] at hb
  omega
theorem u_159 {e : Nat} {M : MM} {R : RR} {a b i : Nat} (u : AV) (h0 : 0 < b) (hi : i < 200) : run (call e) 159 3 [vJ a, vX 0, vJ b, vX 0, vI i, u, vX 0] [] M R = run (call e) 159 3 [vJ b, vX 0, vJ ((a % b : Nat) : Int), vX 0, vI ((i + 1 : Nat) : Int), vJ ((a % b : Nat) : Int), vX 0] [] M R := by
  have e1 : w32 ((i : Int) + 1) = ((i + 1 : Nat) : Int) := by rw [w32_i (by omega)]; omega
  have hm : Int.tmod (a : Int) (b : Int) = ((a % b : Nat) : Int) := rfl
  rw [b_159_3, if_neg (by omega), b_159_11]
  simp only [lc_eq]
  rw [if_neg (by omega), b_159_17, if_pos (by omega), e1, hm]
theorem z_159 {e : Nat} {M : MM} {R : RR} {a i : Nat} (u : AV) : run (call e) 159 3 [vJ a, vX 0, vJ ((0 : Nat) : Int), vX 0, vI i, u, vX 0] [] M R = some (vJ a, M, R) := by
  rw [b_159_3]
  by_cases h : 200 ≤ (i : Int)
  · rw [if_pos h, b_159_33]
  · rw [if_neg h, b_159_11]
    simp only [lc_eq]
    rw [if_pos (by omega), b_159_33]
theorem t_159 {e : Nat} {M : MM} {R : RR} : ∀ (k a b i : Nat) (u : AV), b < 2 ^ k → i + 2 * k ≤ 199 → run (call e) 159 3 [vJ a, vX 0, vJ b, vX 0, vI i, u, vX 0] [] M R = some (vJ (Nat.gcd a b), M, R)
  | 0, a, b, i, u, hb, hi => by
    have : b = 0 := by omega
    subst this
    rw [z_159, Nat.gcd_zero_right]
  | k + 1, a, b, i, u, hb, hi => by
    by_cases h0 : b = 0
    · subst h0
      rw [z_159, Nat.gcd_zero_right]
    rw [u_159 u (by omega) (by omega), gcd_st]
    by_cases h1 : a % b = 0
    · rw [h1, z_159, Nat.gcd_zero_right]
    rw [u_159 _ (by omega) (by omega), gcd_st]
    exact t_159 k _ _ _ _ (half hb (by omega) (by omega)) (by omega)
theorem s_159 {d0 : Nat} (hd : 1 ≤ d0) {M : MM} {R : RR} (a b : Nat) (hb : b < 9223372036854775808) : call d0 159 [vJ a, vJ b] M R = some (vJ (Nat.gcd a b), M, R) := by
  obtain ⟨e, rfl⟩ := s_le hd
  refine call_of 7 [vJ a, vX 0, vJ b, vX 0, vX 0, vX 0, vX 0] (by decide) rfl (Nat.le_of_ble_eq_true rfl) rfl ?_ rfl
  rw [b_159_0]
  exact t_159 63 a b 0 _ hb (by omega)
theorem t_201 {e : Nat} {M : MM} {R : RR} (x y : Int) : ∀ (n a b : Nat) (u : AV), b ≤ n → run (call e) 201 17 [vJ x, vX 0, vJ y, vX 0, vJ a, vX 0, vJ b, vX 0, u, vX 0] [] M R = some (vJ (Nat.gcd a b), M, R)
  | 0, a, b, u, hb => by
    have : b = 0 := by omega
    subst this
    rw [b_201_17]
    simp only [lc_eq]
    rw [if_pos (by omega), b_201_42, Nat.gcd_zero_right]
  | n + 1, a, b, u, hb => by
    by_cases h0 : b = 0
    · subst h0
      rw [b_201_17]
      simp only [lc_eq]
      rw [if_pos (by omega), b_201_42, Nat.gcd_zero_right]
    have hm : Int.tmod (a : Int) (b : Int) = ((a % b : Nat) : Int) := rfl
    have := Nat.mod_lt a (Nat.pos_of_ne_zero h0)
    rw [b_201_17]
    simp only [lc_eq]
    rw [if_neg (by omega), b_201_24, if_pos (by omega), hm, gcd_st]
    exact t_201 x y n _ _ _ (by omega)
theorem s_201 {d0 : Nat} (hd : 1 ≤ d0) {M : MM} {R : RR} (a : Int) (b : Nat) (ha : -9223372036854775808 < a ∧ a < 9223372036854775808) : call d0 201 [vJ a, vJ b] M R = some (vJ (Nat.gcd a.natAbs b), M, R) := by
  obtain ⟨e, rfl⟩ := s_le hd
  refine call_of 10 [vJ a, vX 0, vJ b, vX 0, vX 0, vX 0, vX 0, vX 0, vX 0, vX 0] (by decide) rfl (Nat.le_of_ble_eq_true rfl) rfl ?_ rfl
  rw [b_201_0]
  simp only [lc_ge]
  by_cases h : 0 ≤ a
  · rw [if_pos h, b_201_11, b_201_12, show a = (a.natAbs : Int) by omega]
    exact t_201 _ _ b _ _ _ (Nat.le_refl b)
  · rw [if_neg h, b_201_6, b_201_12, w64_i (by omega), show -a = (a.natAbs : Int) by omega]
    exact t_201 _ _ b _ _ _ (Nat.le_refl b)
/-- a fraction's part in lowest terms -/
def frac (a : Int) (b : Nat) (part : Int) : Int := if b = 0 ∨ ¬ (part = 0 ∨ part = 1) then -4611686018427387904 else if part = 0 then Int.tdiv a (Nat.gcd a.natAbs b) else Int.tdiv b (Nat.gcd a.natAbs b)
theorem tdiv_b {a g : Int} (h : -9223372036854775808 < a ∧ a < 9223372036854775808) : -9223372036854775808 ≤ Int.tdiv a g ∧ Int.tdiv a g < 9223372036854775808 := by
  have := Int.natAbs_tdiv_le_natAbs a g
  omega
theorem s_158 {d0 : Nat} (hd : 2 ≤ d0) {M : MM} {R : RR} (a : Int) (b : Nat) (part : Int) (ha : -9223372036854775808 < a ∧ a < 9223372036854775808) (hb : b < 9223372036854775808) : call d0 158 [vJ a, vJ b, vI part] M R = some (vJ (frac a b part), M, R) := by
  obtain ⟨e, rfl⟩ := s_le hd
  refine call_of 7 [vJ a, vX 0, vJ b, vX 0, vI part, vX 0, vX 0] (by decide) rfl (Nat.le_of_ble_eq_true rfl) rfl ?_ rfl
  unfold frac
  rw [b_158_0]
  simp only [lc_le]
  by_cases h0 : b = 0
  · rw [if_pos (by omega), b_158_17, if_pos (.inl h0)]
  by_cases hp : part = 0 ∨ part = 1
  · have hg : 0 < Nat.gcd a.natAbs b := Nat.gcd_pos_of_pos_right _ (by omega)
    have habs : (if a < 0 then w64 (-a) else a) = (a.natAbs : Int) := by
      split
      · rw [w64_i (by omega)]; omega
      · omega
    rw [if_neg (by omega), if_neg (by omega), b_158_6, b_158_11]
    have e21 : run (call (e + 1)) 158 21 [vJ a, vX 0, vJ b, vX 0, vI part, vX 0, vX 0] [] M R = some (vJ (if part = 0 then Int.tdiv a (Nat.gcd a.natAbs b) else Int.tdiv b (Nat.gcd a.natAbs b)), M, R) := by
      rw [b_158_21, habs, s_159 (by omega) _ _ hb, Option.bind_some, pushv_J]
      dsimp only
      rw [b_158_29]
      simp only [lc_lt]
      rw [if_pos (by omega), b_158_42]
      by_cases h1 : part = 0
      · rw [if_neg (by omega), b_158_47, if_pos (by omega), b_158_58, w64_i (tdiv_b ha), if_pos h1]
      · rw [if_pos h1, b_158_54, if_pos (by omega), b_158_58, w64_i (tdiv_b (by omega)), if_neg h1]
    rw [e21]
    by_cases h1 : part = 0
    · rw [if_pos h1]
    · rw [if_neg h1, if_pos (by omega)]
  · rw [if_neg (by omega), b_158_6, if_neg (by omega), b_158_11, if_neg (by omega), b_158_17, if_pos (.inr hp)]
theorem s_202 {d0 : Nat} (hd : 2 ≤ d0) {M : MM} {R : RR} (a : Int) (b : Nat) (part : Int) (ha : -9223372036854775808 < a ∧ a < 9223372036854775808) (hb : b < 9223372036854775808) (hp : part = 0 ∨ part = 1) : call d0 202 [vJ a, vJ b, vI part] M R = some (vJ (frac a b part), M, R) := by
  obtain ⟨e, rfl⟩ := s_le hd
  refine call_of 7 [vJ a, vX 0, vJ b, vX 0, vI part, vX 0, vX 0] (by decide) rfl (Nat.le_of_ble_eq_true rfl) rfl ?_ rfl
  unfold frac
  rw [b_202_0]
  simp only [ne_eq, lc_eq]
  by_cases h0 : b = 0
  · rw [if_neg (by omega), b_202_6, if_pos (.inl h0)]
  · have hg : 0 < Nat.gcd a.natAbs b := Nat.gcd_pos_of_pos_right _ (by omega)
    rw [if_pos (by omega), b_202_10, s_201 (by omega) _ _ ha, Option.bind_some, pushv_J, if_neg (by omega)]
    dsimp only
    rw [b_202_15]
    by_cases h1 : part = 0
    · rw [if_neg (by omega), b_202_22, b_202_27, if_pos (by omega), w64_i (tdiv_b ha), if_pos h1]
    · rw [if_pos h1, b_202_26, b_202_27, if_pos (by omega), w64_i (tdiv_b (by omega)), if_neg h1]
