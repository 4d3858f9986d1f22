section
/-! ===== fractions compared ===== -/
theorem w64_n {x : Nat} (h : x < 9223372036854775808) : w64 (x : Int) = x := w64_i (by omega)
def sg (a b c d : Nat) : Int := if c * b < a * d then 1 else if a * d < c * b then -1 else 0
theorem sg_st {a b c d : Nat} (h : a / b = c / d) : sg a b c d = - sg b (a % b) d (c % d) := by
  have h1 : a * d = b * (a / b) * d + a % b * d := by rw [← Nat.add_mul, Nat.div_add_mod]
  have h2 : c * b = b * (a / b) * d + c % d * b := by
    have e : d * (c / d) * b = b * (a / b) * d := by rw [h, Nat.mul_comm (d * (c / d)) b, Nat.mul_comm d (c / d), ← Nat.mul_assoc]
    rw [← e, ← Nat.add_mul, Nat.div_add_mod]
  unfold sg
  rw [h1, h2, Nat.mul_comm d (a % b), Nat.mul_comm b (c % d)]
  generalize b * (a / b) * d = K
  generalize a % b * d = X
  generalize c % d * b = Z
  by_cases g : X < Z
  · rw [if_neg (by omega), if_pos (by omega), if_pos g]
  · rw [if_neg g]
    by_cases g2 : Z < X
    · rw [if_pos (by omega), if_pos g2]; rfl
    · rw [if_neg (by omega), if_neg (by omega), if_neg g2]; rfl
theorem sg_ne {a b c d : Nat} (hb : 0 < b) (hd : 0 < d) (h : ¬ a / b = c / d) : sg a b c d = if c / d < a / b then 1 else -1 := by
  have key : ∀ a b c d : Nat, 0 < b → 0 < d → c / d < a / b → c * b < a * d := by
    intro a b c d hb hd h
    have h1 : c < a / b * d := (Nat.div_lt_iff_lt_mul hd).1 h
    have h2 : a / b * b ≤ a := Nat.div_mul_le_self a b
    have h3 : c * b < a / b * d * b := Nat.mul_lt_mul_of_pos_right h1 hb
    have h4 : a / b * d * b = a / b * b * d := Nat.mul_right_comm _ _ _
    have h5 : a / b * b * d ≤ a * d := Nat.mul_le_mul_right d h2
    omega
  unfold sg
  by_cases g : c / d < a / b
  · rw [if_pos g, if_pos (key a b c d hb hd g)]
  · have := key c d a b hd hb (by omega)
    rw [if_neg g, if_neg (by omega), if_pos this]
theorem s_257 {d0 : Nat} (hd : 1 ≤ d0) {M : MM} {R : RR} (x y : Int) : call d0 257 [vI x, vI y] M R = some (vI (if x < y then -1 else if x = y then 0 else 1), M, R) := by
  obtain ⟨e, rfl⟩ := s_le hd
  refine call_of 2 [vI x, vI y] (by decide) rfl (Nat.le_of_ble_eq_true rfl) rfl ?_ rfl
  rw [b_257_0]
  by_cases h : x < y
  · rw [if_neg (by omega), b_257_5, b_257_19, if_pos h]
  · rw [if_pos (by omega), b_257_9, if_neg h]
    by_cases g : x = y
    · rw [if_neg (fun q => q g), b_257_14, b_257_19, if_pos g]
    · rw [if_pos g, b_257_18, b_257_19, if_neg g]
theorem s_259 {d0 : Nat} (hd : 1 ≤ d0) {M : MM} {R : RR} (x y : Int) : call d0 259 [vJ x, vJ y] M R = some (vI (if x < y then -1 else if x = y then 0 else 1), M, R) := by
  obtain ⟨e, rfl⟩ := s_le hd
  refine call_of 4 [vJ x, vX 0, vJ y, vX 0] (by decide) rfl (Nat.le_of_ble_eq_true rfl) rfl ?_ rfl
  rw [b_259_0]
  simp only [lc_ge]
  by_cases h : x < y
  · rw [if_neg (by omega), b_259_6, b_259_21, if_pos h]
  · rw [if_pos (by omega), b_259_10, if_neg h]
    simp only [ne_eq, lc_eq]
    by_cases g : x = y
    · rw [if_neg (fun q => q g), b_259_16, b_259_21, if_pos g]
    · rw [if_pos g, b_259_20, b_259_21, if_neg g]
theorem x_160 {e : Nat} (he : 1 ≤ e) {M : MM} {R : RR} {a b c d i : Nat} {sd : Int} (u v : AV) (hs : sd = 1 ∨ sd = -1) (h : b = 0 ∨ d = 0) (ha : b = 0 → 0 < a) (hc : d = 0 → 0 < c) : run (call e) 160 6 [vJ a, vX 0, vJ b, vX 0, vJ c, vX 0, vJ d, vX 0, vI sd, vI i, u, vX 0, v, vX 0] [] M R = some (vI (sd * sg a b c d), M, R) := by
  have h90 : run (call e) 160 6 [vJ a, vX 0, vJ b, vX 0, vJ c, vX 0, vJ d, vX 0, vI sd, vI i, u, vX 0, v, vX 0] [] M R = run (call e) 160 90 [vJ a, vX 0, vJ b, vX 0, vJ c, vX 0, vJ d, vX 0, vI sd, vI i, u, vX 0, v, vX 0] [] M R := by
    rw [b_160_6]
    by_cases g : (200 : Int) ≤ i
    · rw [if_pos g]
    rw [if_neg g, b_160_14]
    simp only [lc_le]
    by_cases g2 : b = 0
    · rw [if_pos (by omega)]
    rw [if_neg (by omega), b_160_20]
    simp only [lc_le]
    rw [if_pos (by omega)]
  have fin : ∀ k : Int, (k = 1 ∨ k = -1 ∨ k = 0) → w32 (sd * k) = sd * k := by
    intro k hk
    rcases hs with rfl | rfl <;> rcases hk with rfl | rfl | rfl <;> rfl
  rw [h90, b_160_90]
  simp only [ne_eq, lc_eq]
  by_cases g1 : b = 0
  · subst g1
    have ha' := ha rfl
    rw [if_neg (fun q => q rfl), b_160_98, b_160_103]
    simp only [ne_eq, lc_eq]
    by_cases g2 : d = 0
    · subst g2
      rw [if_neg (fun q => q rfl), b_160_110, b_160_115, s_257 he, bsI, b_160_118, if_neg (by decide), if_pos rfl, fin _ (by simp)]
      simp [sg]
    · rw [if_pos (by omega), b_160_114, b_160_115, s_257 he, bsI, b_160_118, if_neg (by decide), if_neg (by decide), fin _ (by simp)]
      have : 0 < a * d := Nat.mul_pos ha' (by omega)
      simp [sg, this]
  · have g2 : d = 0 := by omega
    subst g2
    have hc' := hc rfl
    rw [if_pos (by omega), b_160_102, b_160_103]
    simp only [ne_eq, lc_eq]
    rw [if_neg (fun q => q rfl), b_160_110, b_160_115, s_257 he, bsI, b_160_118, if_pos (by decide), fin _ (by simp)]
    have : 0 < c * b := Nat.mul_pos hc' (by omega)
    simp [sg, this]
theorem st_160 {e : Nat} (he : 1 ≤ e) {M : MM} {R : RR} {a b c d i : Nat} {sd : Int} (u v : AV) (hs : sd = 1 ∨ sd = -1) (hb : 0 < b) (hd : 0 < d) (hi : i < 200) (ha : a < 9223372036854775808) (hc : c < 9223372036854775808) : run (call e) 160 6 [vJ a, vX 0, vJ b, vX 0, vJ c, vX 0, vJ d, vX 0, vI sd, vI i, u, vX 0, v, vX 0] [] M R = some (vI (sd * sg a b c d), M, R) ∨ (a / b = c / d ∧ run (call e) 160 6 [vJ a, vX 0, vJ b, vX 0, vJ c, vX 0, vJ d, vX 0, vI sd, vI i, u, vX 0, v, vX 0] [] M R = run (call e) 160 6 [vJ b, vX 0, vJ ((a % b : Nat) : Int), vX 0, vJ d, vX 0, vJ ((c % d : Nat) : Int), vX 0, vI (-sd), vI ((i + 1 : Nat) : Int), vJ ((a % b : Nat) : Int), vX 0, vJ ((c % d : Nat) : Int), vX 0] [] M R) := by
  have e1 : w32 ((i : Int) + 1) = ((i + 1 : Nat) : Int) := by rw [w32_i (by omega)]; omega
  have hm1 : Int.tmod (a : Int) (b : Int) = ((a % b : Nat) : Int) := rfl
  have hm2 : Int.tmod (c : Int) (d : Int) = ((c % d : Nat) : Int) := rfl
  have hq1 : Int.tdiv (a : Int) (b : Int) = ((a / b : Nat) : Int) := rfl
  have hq2 : Int.tdiv (c : Int) (d : Int) = ((c / d : Nat) : Int) := rfl
  have hl1 : a / b ≤ a := Nat.div_le_self a b
  have hl2 : c / d ≤ c := Nat.div_le_self c d
  have h27 : run (call e) 160 6 [vJ a, vX 0, vJ b, vX 0, vJ c, vX 0, vJ d, vX 0, vI sd, vI i, u, vX 0, v, vX 0] [] M R = if ((a / b : Nat) : Int) = ((c / d : Nat) : Int) then run (call e) 160 54 [vJ a, vX 0, vJ b, vX 0, vJ c, vX 0, vJ d, vX 0, vI sd, vI i, u, vX 0, v, vX 0] [] M R else run (call e) 160 39 [vJ a, vX 0, vJ b, vX 0, vJ c, vX 0, vJ d, vX 0, vI sd, vI i, u, vX 0, v, vX 0] [] M R := by
    rw [b_160_6, if_neg (by omega), b_160_14]
    simp only [lc_le]
    rw [if_neg (by omega), b_160_20]
    simp only [lc_le]
    rw [if_neg (by omega), b_160_27]
    simp only [lc_eq]
    rw [if_pos (by omega), if_pos (by omega), hq1, hq2, w64_n (Nat.lt_of_le_of_lt hl1 ha), w64_n (Nat.lt_of_le_of_lt hl2 hc)]
  rw [h27]
  by_cases h : a / b = c / d
  · right
    refine ⟨h, ?_⟩
    rw [if_pos (by omega), b_160_54, if_pos (by omega), if_pos (by omega), e1, hm1, hm2]
    have : w32 (-sd) = -sd := by rcases hs with rfl | rfl <;> rfl
    rw [this]
  · left
    rw [if_neg (by omega), b_160_39, if_pos (by omega), if_pos (by omega), hq1, hq2, w64_n (Nat.lt_of_le_of_lt hl1 ha), w64_n (Nat.lt_of_le_of_lt hl2 hc), s_259 he, bsI, b_160_52, sg_ne hb hd h]
    by_cases g : c / d < a / b
    · rw [if_neg (by omega), if_neg (by omega), if_pos g]
      rcases hs with rfl | rfl <;> rfl
    · rw [if_pos (by omega), if_neg g]
      rcases hs with rfl | rfl <;> rfl
theorem t_160 {e : Nat} (he : 1 ≤ e) {M : MM} {R : RR} : ∀ (k a b c d i : Nat) (sd : Int) (u v : AV), (sd = 1 ∨ sd = -1) → b < 2 ^ k → i + 2 * k ≤ 199 → (b = 0 → 0 < a) → (d = 0 → 0 < c) → a < 9223372036854775808 → c < 9223372036854775808 → b < 9223372036854775808 → d < 9223372036854775808 → run (call e) 160 6 [vJ a, vX 0, vJ b, vX 0, vJ c, vX 0, vJ d, vX 0, vI sd, vI i, u, vX 0, v, vX 0] [] M R = some (vI (sd * sg a b c d), M, R)
  | 0, a, b, c, d, i, sd, u, v, hs, hb, hi, h1, h2, ha, hc, _, _ => x_160 he u v hs (by omega) h1 h2
  | k + 1, a, b, c, d, i, sd, u, v, hs, hb, hi, h1, h2, ha, hc, hb9, hd9 => by
    by_cases h0 : b = 0 ∨ d = 0
    · exact x_160 he u v hs h0 h1 h2
    rcases st_160 he (M := M) (R := R) (i := i) u v hs (a := a) (b := b) (c := c) (d := d) (by omega) (by omega) (by omega) ha hc with q | ⟨hq, q⟩
    · exact q
    have m1 := Nat.mod_lt a (show 0 < b by omega)
    have m2 := Nat.mod_lt c (show 0 < d by omega)
    have hs' : -sd = 1 ∨ -sd = -1 := by omega
    rw [q, sg_st hq, Int.mul_neg, ← Int.neg_mul]
    by_cases h3 : a % b = 0 ∨ c % d = 0
    · exact x_160 he _ _ hs' h3 (fun _ => by omega) (fun _ => by omega)
    rcases st_160 he (M := M) (R := R) (i := i + 1) (vJ ((a % b : Nat) : Int)) (vJ ((c % d : Nat) : Int)) hs' (a := b) (b := a % b) (c := d) (d := c % d) (by omega) (by omega) (by omega) hb9 hd9 with q2 | ⟨hq2, q2⟩
    · exact q2
    have m3 := Nat.mod_lt b (show 0 < a % b by omega)
    have m4 := Nat.mod_lt d (show 0 < c % d by omega)
    rw [q2, sg_st hq2, Int.mul_neg, ← Int.neg_mul]
    exact t_160 he k _ _ _ _ _ _ _ _ (by omega) (half hb (by omega) (by omega)) (by omega) (fun _ => by omega) (fun _ => by omega) (by omega) (by omega) (by omega) (by omega)
theorem s_160 {d0 : Nat} (hd : 2 ≤ d0) {M : MM} {R : RR} (a b c d : Int) (ha : 0 ≤ a ∧ a < 9223372036854775808) (hb : 0 < b ∧ b < 9223372036854775808) (hc : 0 ≤ c ∧ c < 9223372036854775808) (hdd : 0 < d ∧ d < 9223372036854775808) : call d0 160 [vJ a, vJ b, vJ c, vJ d] M R = some (vI (sg a.toNat b.toNat c.toNat d.toNat), M, R) := by
  obtain ⟨e, rfl⟩ := s_le hd
  obtain ⟨a, rfl⟩ : ∃ k : Nat, a = (k : Int) := ⟨a.toNat, by omega⟩
  obtain ⟨b, rfl⟩ : ∃ k : Nat, b = (k : Int) := ⟨b.toNat, by omega⟩
  obtain ⟨c, rfl⟩ : ∃ k : Nat, c = (k : Int) := ⟨c.toNat, by omega⟩
  obtain ⟨d, rfl⟩ : ∃ k : Nat, d = (k : Int) := ⟨d.toNat, by omega⟩
  refine call_of 14 [vJ a, vX 0, vJ b, vX 0, vJ c, vX 0, vJ d, vX 0, vX 0, vX 0, vX 0, vX 0, vX 0, vX 0] (by decide) rfl (Nat.le_of_ble_eq_true rfl) rfl ?_ rfl
  rw [b_160_0]
  have h := t_160 (e := e + 1) (by omega) (M := M) (R := R) 63 a b c d 0 1 (vX 0) (vX 0) (.inl rfl) (by omega) (by omega) (by omega) (by omega) (by omega) (by omega) (by omega) (by omega)
  rw [Int.one_mul] at h
  exact h
-- the reference
theorem t_222 {e : Nat} {M : MM} {R : RR} (x0 x2 x4 x6 : Int) : ∀ (n a b c d : Nat) (u v : AV), b + d ≤ n → 0 < b → 0 < d → a < 9223372036854775808 → c < 9223372036854775808 → b < 9223372036854775808 → d < 9223372036854775808 → run (call e) 222 14 [vJ x0, vX 0, vJ x2, vX 0, vJ x4, vX 0, vJ x6, vX 0, vJ a, vX 0, vJ b, vX 0, vJ c, vX 0, vJ d, vX 0, u, vX 0, v, vX 0] [] M R = some (vI (b2 (a * d < c * b)), M, R)
  | 0, a, b, c, d, u, v, hn, hb, _, _, _, _, _ => absurd hn (by omega)
  | n + 1, a, b, c, d, u, v, hn, hb, hd, ha9, hc9, hb9, hd9 => by
    have hm1 : Int.tmod (a : Int) (b : Int) = ((a % b : Nat) : Int) := rfl
    have hm2 : Int.tmod (c : Int) (d : Int) = ((c % d : Nat) : Int) := rfl
    have hq1 : Int.tdiv (a : Int) (b : Int) = ((a / b : Nat) : Int) := rfl
    have hq2 : Int.tdiv (c : Int) (d : Int) = ((c / d : Nat) : Int) := rfl
    have hl1 : a / b ≤ a := Nat.div_le_self a b
    have hl2 : c / d ≤ c := Nat.div_le_self c d
    have m1 := Nat.mod_lt a hb
    have m2 := Nat.mod_lt c hd
    rw [b_222_14]
    simp only [lc_eq]
    rw [if_pos (by omega), if_pos (by omega), hq1, hq2, w64_n (Nat.lt_of_le_of_lt hl1 ha9), w64_n (Nat.lt_of_le_of_lt hl2 hc9)]
    by_cases h : a / b = c / d
    · have e1 : (a * d < c * b) ↔ (a % b * d < c % d * b) := by
        have h1 : a * d = b * (a / b) * d + a % b * d := by rw [← Nat.add_mul, Nat.div_add_mod]
        have h2 : c * b = b * (a / b) * d + c % d * b := by
          have e : d * (c / d) * b = b * (a / b) * d := by rw [h, Nat.mul_comm (d * (c / d)) b, Nat.mul_comm d (c / d), ← Nat.mul_assoc]
          rw [← e, ← Nat.add_mul, Nat.div_add_mod]
        rw [h1, h2]
        omega
      rw [if_pos (by omega), b_222_48]
      simp only [lc_eq]
      rw [if_pos (by omega), if_pos (by omega), hm1, hm2, b2_c e1]
      by_cases g : c % d = 0
      · rw [if_pos (by omega), b_222_76]
        simp only [lc_eq]
        rw [if_pos (by omega), b_222_87, b_222_88, g, b2_f (by omega)]
      rw [if_neg (by omega), b_222_69]
      simp only [ne_eq, lc_eq]
      by_cases g2 : a % b = 0
      · rw [if_neg (by omega), b_222_76]
        simp only [lc_eq]
        rw [if_neg (by omega), b_222_83, b_222_88, g2, b2_t (by rw [Nat.zero_mul]; exact Nat.mul_pos (by omega) hb)]
      rw [if_pos (by omega), b_222_89]
      refine Eq.trans (t_222 x0 x2 x4 x6 n d (c % d) b (a % b) _ _ (by omega) (by omega) (by omega) (by omega) (by omega) (by omega) (by omega)) ?_
      rw [b2_c (show d * (a % b) < b * (c % d) ↔ a % b * d < c % d * b by rw [Nat.mul_comm d, Nat.mul_comm b])]
    · have hs := sg_ne hb hd h
      rw [if_neg (by omega), b_222_28]
      simp only [lc_ge]
      rw [if_pos (by omega), if_pos (by omega), hq1, hq2, w64_n (Nat.lt_of_le_of_lt hl1 ha9), w64_n (Nat.lt_of_le_of_lt hl2 hc9)]
      by_cases g : c / d < a / b
      · rw [if_pos g] at hs
        rw [if_pos (by omega), b_222_46, b_222_47, b2_f]
        intro q
        unfold sg at hs
        rw [if_neg (by omega), if_pos q] at hs
        exact absurd hs (by decide)
      · rw [if_neg g] at hs
        rw [if_neg (by omega), b_222_42, b_222_47, b2_t]
        apply Decidable.byContradiction
        intro q
        unfold sg at hs
        rw [if_neg q] at hs
        split at hs <;> exact absurd hs (by decide)
theorem s_222 {d0 : Nat} (hd : 1 ≤ d0) {M : MM} {R : RR} (a b c d : Int) (ha : 0 ≤ a ∧ a < 9223372036854775808) (hb : 0 < b ∧ b < 9223372036854775808) (hc : 0 ≤ c ∧ c < 9223372036854775808) (hdd : 0 < d ∧ d < 9223372036854775808) : call d0 222 [vJ a, vJ b, vJ c, vJ d] M R = some (vI (b2 (sg c.toNat d.toNat a.toNat b.toNat = 1)), M, R) := by
  obtain ⟨e, rfl⟩ := s_le hd
  obtain ⟨a, rfl⟩ : ∃ k : Nat, a = (k : Int) := ⟨a.toNat, by omega⟩
  obtain ⟨b, rfl⟩ : ∃ k : Nat, b = (k : Int) := ⟨b.toNat, by omega⟩
  obtain ⟨c, rfl⟩ : ∃ k : Nat, c = (k : Int) := ⟨c.toNat, by omega⟩
  obtain ⟨d, rfl⟩ : ∃ k : Nat, d = (k : Int) := ⟨d.toNat, by omega⟩
  refine call_of 20 [vJ a, vX 0, vJ b, vX 0, vJ c, vX 0, vJ d, vX 0, vX 0, vX 0, vX 0, vX 0, vX 0, vX 0, vX 0, vX 0, vX 0, vX 0, vX 0, vX 0] (by decide) rfl (Nat.le_of_ble_eq_true rfl) rfl ?_ b2_ok
  rw [b_222_0]
  refine Eq.trans (t_222 a b c d (b + d) a b c d _ _ (Nat.le_refl _) (by omega) (by omega) (by omega) (by omega) (by omega) (by omega)) ?_
  rw [b2_c (show a * d < c * b ↔ sg c d a b = 1 by
    unfold sg
    by_cases h : a * d < c * b
    · rw [if_pos h]; exact ⟨fun _ => rfl, fun _ => h⟩
    · rw [if_neg h]
      refine ⟨fun q => absurd q h, fun q => ?_⟩
      split at q <;> exact absurd q (by decide))]
  rfl
theorem sg_v (a b c d : Nat) : sg a b c d = 1 ∨ sg a b c d = -1 ∨ sg a b c d = 0 := by
  unfold sg
  split
  · exact .inl rfl
  · split
    · exact .inr (.inl rfl)
    · exact .inr (.inr rfl)
end
