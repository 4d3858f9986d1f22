/-! ===== specs ===== -/
theorem s_83 {d : Nat} (hd : 1 ≤ d) {M : MM} {R : RR} (hL : Lay R) : call d 83 [vA 22] M R = some (vI (M 4 0), M, R) := by
  obtain ⟨e, rfl⟩ := s_le hd
  refine call_of 1 [vA 22] (by decide) rfl (Nat.le_of_ble_eq_true rfl) rfl ?_ (rfl)
  simp (disch := first | assumption | omega | rfl) only [b_83_0 hL, Option.bind_some, pushv_I, pushv_J, pushv_A, pushv_X, b2_z, b2_o, ne_eq, Decidable.not_not]
  repeat' split
  all_goals first
    | rfl
    | (exfalso; omega)
    | (simp (disch := omega) only [b2_t, b2_f, if_pos, if_neg]; done)
theorem s_84 {d : Nat} (hd : 1 ≤ d) {M : MM} {R : RR} (hL : Lay R) : call d 84 [vA 22] M R = some (vI (M 2 0), M, R) := by
  obtain ⟨e, rfl⟩ := s_le hd
  refine call_of 1 [vA 22] (by decide) rfl (Nat.le_of_ble_eq_true rfl) rfl ?_ (rfl)
  simp (disch := first | assumption | omega | rfl) only [b_84_0 hL, Option.bind_some, pushv_I, pushv_J, pushv_A, pushv_X, b2_z, b2_o, ne_eq, Decidable.not_not]
  repeat' split
  all_goals first
    | rfl
    | (exfalso; omega)
    | (simp (disch := omega) only [b2_t, b2_f, if_pos, if_neg]; done)
theorem pr_bits {f : Nat → Int} {s s' : Nat} : ∀ n, (∀ i, i < n → s.testBit i = s'.testBit i) → pr f s n = pr f s' n
  | 0, _ => rfl
  | n + 1, h => by
    show (if s.testBit n then pr f s n * f n else pr f s n) = (if s'.testBit n then pr f s' n * f n else pr f s' n)
    rw [pr_bits n (fun i hi => h i (by omega)), h n (by omega)]
theorem pr_lo {f : Nat → Int} {s n : Nat} (h : s < 2 ^ n) : pr f s (n + 1) = pr f s n := by
  show (if s.testBit n then pr f s n * f n else pr f s n) = _
  rw [if_neg (by rw [Nat.testBit_lt_two_pow h]; decide)]
theorem tb_hi {s n : Nat} (h : s < 2 ^ n) : (s + 2 ^ n).testBit n = true := by
  rw [Nat.add_comm, Nat.testBit_two_pow_add_eq, Nat.testBit_lt_two_pow h]; rfl
theorem tb_lo {s n i : Nat} (hi : i < n) : (s + 2 ^ n).testBit i = s.testBit i := by
  rw [Nat.add_comm, Nat.testBit_two_pow_add_gt hi]
theorem pr_hi {f : Nat → Int} {s n : Nat} (h : s < 2 ^ n) : pr f (s + 2 ^ n) (n + 1) = pr f s n * f n := by
  show (if (s + 2 ^ n).testBit n then pr f (s + 2 ^ n) n * f n else pr f (s + 2 ^ n) n) = _
  rw [if_pos (tb_hi h), pr_bits n (fun i hi => tb_lo hi)]
theorem s_81 {d0 : Nat} (hd : 2 ≤ d0) {M : MM} {R : RR} (hL : Lay R) {p d : Nat} (hp : (p : Int) < M 4 0) (hp7 : p < 7) (hdd : (d : Int) < M 2 0) (hd24 : d < 24) : call d0 81 [vA 22, vI p, vI d] M R = some (vI (M 23 (24 * p + d)), M, R) := by
  obtain ⟨e, rfl⟩ := s_le hd
  refine call_of 3 [vA 22, vI p, vI d] (by decide) rfl (Nat.le_of_ble_eq_true rfl) rfl ?_ rfl
  have ei : w32 (w32 ((p : Int) * 24) + (d : Int)) = ((24 * p + d : Nat) : Int) := by
    simp (disch := omega) only [w32_i]; omega
  rw [b_81_0 hL, s_9 (by omega), Option.bind_some, pushv_I]
  dsimp only
  rw [b_81_8, b2_t (by omega), if_neg (by decide), b_81_11 hL, s_90 (by omega), Option.bind_some, pushv_I]
  dsimp only
  rw [b_81_19, b2_t (by omega), if_neg (by decide), b_81_22 hL, ei, if_pos (by omega), b_81_37, Int.toNat_natCast]
theorem s_82 {d0 : Nat} (hd : 2 ≤ d0) {M : MM} {R : RR} (hL : Lay R) {p : Nat} (hp : (p : Int) < M 4 0) (hp7 : p < 7) : call d0 82 [vA 22, vI p] M R = some (vI (M 24 p), M, R) := by
  obtain ⟨e, rfl⟩ := s_le hd
  refine call_of 2 [vA 22, vI p] (by decide) rfl (Nat.le_of_ble_eq_true rfl) rfl ?_ rfl
  rw [b_82_0 hL, s_9 (by omega), Option.bind_some, pushv_I]
  dsimp only
  rw [b_82_8, b2_t (by omega), if_neg (by decide), b_82_11 hL, if_pos (by omega), b_82_21, Int.toNat_natCast]
theorem t_200 {e : Nat} {M : MM} {R : RR} (hL : Lay R) {P s d : Nat} {f : Nat → Int} (hP : M 57 2 = (P : Int)) (hP7 : P ≤ 7) (hs : s < 128) (hd : d < 24) (hf : ∀ p, p < P → M 74 (24 * p + d) = f p ∧ 0 ≤ f p ∧ f p ≤ 216) : run (call e) 200 19 [vA 57, vI d, vI s, vI 0] [] (up M 78 s 1) R = run (call e) 200 19 [vA 57, vI d, vI s, vI P] [] (up M 78 s (pr f s P)) R := by
  have key := iter_eq (fun p : Nat => run (call e) 200 19 [vA 57, vI d, vI s, vI p] [] (up M 78 s (pr f s p)) R) P ?_
  · exact key
  · intro p hp
    have e1 : w32 ((p : Int) + 1) = ((p + 1 : Nat) : Int) := by rw [w32_i (by omega)]; omega
    have ei : w32 (w32 (24 * (p : Int)) + (d : Int)) = ((24 * p + d : Nat) : Int) := by
      simp (disch := omega) only [w32_i]; omega
    have hb := pr_r (f := f) (s := s) (b := 216) (by omega) p (fun i hi => (hf i (by omega)).2)
    have hb2 := pr_r (f := f) (s := s) (b := 216) (by omega) (p + 1) (fun i hi => (hf i (by omega)).2)
    have hc := p216 (n := p) (by omega)
    have hc2 := p216 (n := p + 1) (by omega)
    have hpr : pr f s (p + 1) = if s.testBit p then pr f s p * f p else pr f s p := rfl
    rw [b_200_19, up_o (by decide), hP, if_neg (by omega), b_200_27 hL, if_pos (by omega), c_bit (by omega) (by omega), Int.toNat_natCast, up_s]
    by_cases h : s.testBit p = true
    · rw [if_pos h] at hpr
      rw [b2_t h, if_neg (by decide), b_200_43 hL, ei, if_pos (by omega), b_200_59 hL, if_pos (by omega), e1, Int.toNat_natCast, Int.toNat_natCast, up_o (o' := 74) (by decide), (hf p hp).1, ← hpr, w64_i (by omega), up_up]
    · rw [if_neg h] at hpr
      rw [b2_f h, if_pos (by decide), b_200_58, b_200_59 hL, if_pos (by omega), e1, Int.toNat_natCast, Int.mul_one, w64_i (by omega), hpr, up_up]
/-- the reference: what each set weighs on a day, multiplied -/
theorem s_200 {d0 : Nat} (hd : 2 ≤ d0) {M : MM} {R : RR} (hL : Lay R) {P d : Nat} {f : Nat → Int} (hP : M 57 2 = (P : Int)) (hP7 : P ≤ 7) (hd24 : d < 24) (hf : ∀ p, p < P → M 74 (24 * p + d) = f p ∧ 0 ≤ f p ∧ f p ≤ 216) : ∃ M', call d0 200 [vA 57, vI d] M R = some (vX 0, M', R) ∧ Fx [78] M M' ∧ ∀ s, s < 2 ^ P → M' 78 s = pr f s P := by
  obtain ⟨e, rfl⟩ := s_le hd
  have hpw := p2_7 hP7
  have hpp : 0 < 2 ^ P := Nat.two_pow_pos P
  have key := loop_nat (fun s (a : AV × MM) => run (call (e + 1)) 200 2 [vA 57, vI d, vI s, a.1] [] a.2 R) (fun i a => Fx [78] M a.2 ∧ ∀ s, s < i → a.2 78 s = pr f s P) (2 ^ P) ?_ (vX 0, M) ?_
  · obtain ⟨⟨u2, M2⟩, ⟨a1, a2⟩, hq⟩ := key
    dsimp only at a1 a2
    refine ⟨M2, ?_, a1, a2⟩
    refine call_of 4 [vA 57, vI d, vX 0, vX 0] (by decide) rfl (Nat.le_of_ble_eq_true rfl) rfl ?_ rfl
    rw [b_200_0]
    refine hq.trans ?_
    show run (call (e + 1)) 200 2 [vA 57, vI d, vI ((2 ^ P : Nat) : Int), u2] [] M2 R = _
    rw [b_200_2, s_166 (by omega), Option.bind_some, pushv_I, a1 57 (by decide), hP, c_all (by omega), b_200_7, if_pos (by omega), b_200_73]
  · rintro s ⟨v, M2⟩ hs ⟨a1, a2⟩
    dsimp only at a1 a2
    have e1 : w32 ((s : Int) + 1) = ((s + 1 : Nat) : Int) := by rw [w32_i (by omega)]; omega
    have g57 : M2 57 = M 57 := a1 57 (by decide)
    have t3 := t_200 (e := e + 1) (M := M2) hL (P := P) (s := s) (d := d) (f := f) (by rw [g57]; exact hP) hP7 (by omega) hd24 (fun p hp => by rw [a1 74 (by decide)]; exact hf p hp)
    refine ⟨(vI P, up M2 78 s (pr f s P)), ⟨Fx_t a1 (Fx_p (by decide)), ?_⟩, ?_⟩
    · intro s' hs'
      dsimp only
      by_cases h : s' = s
      · subst h; rw [up_s]
      · rw [up_i h]; exact a2 s' (by omega)
    · show run (call (e + 1)) 200 2 [vA 57, vI d, vI s, v] [] M2 R = run (call (e + 1)) 200 2 [vA 57, vI d, vI ((s + 1 : Nat) : Int), vI P] [] _ R
      rw [b_200_2, s_166 (by omega), Option.bind_some, pushv_I, g57, hP, c_all (by omega), b_200_7, if_neg (by omega), b_200_10 hL, if_pos (by omega), Int.toNat_natCast]
      refine t3.trans ?_
      rw [b_200_19, up_o (by decide), g57, hP, if_pos (by omega), b_200_67, e1]
  · exact ⟨Fx_r, fun p hp => absurd hp (by omega)⟩
