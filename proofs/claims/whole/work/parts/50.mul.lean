/-! ===== specs ===== -/
theorem t_63 {e : Nat} (he : 2 ≤ e) {M : MM} {R : RR} (hL : Lay R) {p : Nat} {w : Nat → Int} (hp : (p : Int) < M 4 0) (hp7 : p < 7) (hw : M 24 p = w p ∧ 0 ≤ w p ∧ w p ≤ 216) (hpr : ∀ s, s < 2 ^ p → M 28 s = pr w s p ∧ 0 ≤ pr w s p ∧ pr w s p ≤ 101559956668416) : ∃ M1 : MM, run (call e) 63 26 [vA 27, vI p, vI ((2 ^ p : Nat) : Int), vI 0] [] M R = run (call e) 63 26 [vA 27, vI p, vI ((2 ^ p : Nat) : Int), vI ((2 ^ p : Nat) : Int)] [] M1 R ∧ Fx [28] M M1 ∧ (∀ s, s < 2 ^ p → M1 28 s = pr w s p) ∧ (∀ s, s < 2 ^ p → M1 28 (s + 2 ^ p) = pr w s p * w p) := by
  have hpw : 2 ^ p ≤ 64 := Nat.pow_le_pow_right (n := 2) (by omega) (by omega : p ≤ 6)
  have key := loop_nat (fun j (a : MM) => run (call e) 63 26 [vA 27, vI p, vI ((2 ^ p : Nat) : Int), vI j] [] a R) (fun i a => Fx [28] M a ∧ (∀ s, s < 2 ^ p → a 28 s = pr w s p) ∧ (∀ s, s < i → a 28 (s + 2 ^ p) = pr w s p * w p)) (2 ^ p) ?_ M ?_
  · obtain ⟨M1, hI, hq⟩ := key
    exact ⟨M1, hq, hI.1, hI.2.1, hI.2.2⟩
  · rintro j M1 hj ⟨a1, a2, a3⟩
    have e1 : w32 ((j : Int) + 1) = ((j + 1 : Nat) : Int) := by rw [w32_i (by omega)]; omega
    have ei : w32 ((j : Int) + ((2 ^ p : Nat) : Int)) = ((j + 2 ^ p : Nat) : Int) := by rw [w32_i (by omega)]; omega
    have hb := hpr j hj
    have hm : 0 ≤ pr w j p * w p ∧ pr w j p * w p ≤ 101559956668416 * 216 := ⟨Int.mul_nonneg hb.2.1 hw.2.1, Int.mul_le_mul hb.2.2 hw.2.2 hw.2.1 (by decide)⟩
    refine ⟨up M1 28 (j + 2 ^ p) (pr w j p * w p), ⟨Fx_t a1 (Fx_p (by decide)), ?_, ?_⟩, ?_⟩
    · intro s hs
      rw [up_i (by omega)]
      exact a2 s hs
    · intro s hs
      by_cases h : s = j
      · subst h; rw [up_s]
      · rw [up_i (by omega)]
        exact a3 s (by omega)
    · show run (call e) 63 26 [vA 27, vI p, vI ((2 ^ p : Nat) : Int), vI j] [] M1 R = _
      rw [b_63_26, if_neg (by omega), b_63_31 hL, ei, if_pos (by omega), s_82 he hL (by rw [a1 4 (by decide)]; exact hp) hp7, bsI, Int.toNat_natCast, a2 j hj, a1 24 (by decide), hw.1, b_63_52 hL, if_pos (by omega), e1, Int.toNat_natCast, w64_i (by omega)]
  · exact ⟨Fx_r, fun s hs => (hpr s hs).1, fun s hs => absurd hs (by omega)⟩
theorem s_63 {d0 : Nat} (hd : 3 ≤ d0) {M : MM} {R : RR} (hL : Lay R) {P : Nat} (hP : M 4 0 = (P : Int)) (hP7 : P ≤ 7) {w : Nat → Int} (hw : ∀ p, p < P → M 24 p = w p ∧ 0 ≤ w p ∧ w p ≤ 216) : ∃ M', call d0 63 [vA 27] M R = some (vX 0, M', R) ∧ Fx [28] M M' ∧ ∀ s, s < 2 ^ P → M' 28 s = pr w s P := by
  obtain ⟨e, rfl⟩ := s_le hd
  have hbd6 : ∀ s n, n < P → 0 ≤ pr w s n ∧ pr w s n ≤ 101559956668416 := by
    intro s n hn
    have h1 := pr_r (f := w) (s := s) (b := 216) (by omega) n (fun i hi => (hw i (by omega)).2)
    have h2 := Nat.pow_le_pow_right (n := 216) (by omega) (by omega : n ≤ 6)
    omega
  have key := loop_nat (fun p (a : (AV × AV) × MM) => run (call (e + 2)) 63 9 [vA 27, vI p, a.1.1, a.1.2] [] a.2 R) (fun i a => Fx [28] M a.2 ∧ (∀ s, s < 2 ^ i → a.2 28 s = pr w s i)) P ?_ ((vX 0, vX 0), up M 28 0 1) ?_
  · obtain ⟨⟨⟨u1, u2⟩, M2⟩, ⟨a1, a2⟩, hq⟩ := key
    dsimp only at a1 a2
    refine ⟨M2, ?_, a1, a2⟩
    refine call_of 4 [vA 27, vX 0, vX 0, vX 0] (by decide) rfl (Nat.le_of_ble_eq_true rfl) rfl ?_ rfl
    rw [b_63_0 hL, if_pos (by decide)]
    refine hq.trans ?_
    show run (call (e + 2)) 63 9 [vA 27, vI P, u1, u2] [] M2 R = _
    rw [b_63_9 hL, s_83 (by omega) (hL := hL), bsI, a1 4 (by decide), hP, b_63_17, if_pos (by omega), b_63_67]
  · rintro p ⟨⟨u1, u2⟩, M1⟩ hp ⟨a1, a2⟩
    dsimp only at a1 a2
    have e1 : w32 ((p : Int) + 1) = ((p + 1 : Nat) : Int) := by rw [w32_i (by omega)]; omega
    have hpw : 2 ^ p ≤ 64 := Nat.pow_le_pow_right (n := 2) (by omega) (by omega : p ≤ 6)
    have hp0 : 0 < 2 ^ p := Nat.two_pow_pos p
    have h2p : 2 ^ (p + 1) = 2 ^ p + 2 ^ p := by rw [Nat.pow_succ]; omega
    have g4 : M1 4 0 = (P : Int) := by rw [a1 4 (by decide)]; exact hP
    obtain ⟨M2, q, c1, c2, c3⟩ := t_63 (e := e + 2) (by omega) (M := M1) hL (p := p) (w := w) (by omega) (by omega) ⟨by rw [a1 24 (by decide)]; exact (hw p hp).1, (hw p hp).2⟩ (fun s hs => ⟨a2 s hs, hbd6 s p hp⟩)
    refine ⟨((vI ((2 ^ p : Nat) : Int), vI ((2 ^ p : Nat) : Int)), M2), ⟨Fx_t a1 c1, ?_⟩, ?_⟩
    · intro s hs
      dsimp only
      by_cases h : s < 2 ^ p
      · rw [c2 s h, pr_lo h]
      · obtain ⟨s', rfl⟩ : ∃ s', s = s' + 2 ^ p := ⟨s - 2 ^ p, by omega⟩
        rw [c3 s' (by omega), pr_hi (by omega)]
    · show run (call (e + 2)) 63 9 [vA 27, vI p, u1, u2] [] M1 R = run (call (e + 2)) 63 9 [vA 27, vI ((p + 1 : Nat) : Int), vI ((2 ^ p : Nat) : Int), vI ((2 ^ p : Nat) : Int)] [] M2 R
      rw [b_63_9 hL, s_83 (by omega) (hL := hL), bsI, g4, b_63_17, if_neg (by omega), b_63_20, c_one (by omega)]
      refine q.trans ?_
      rw [b_63_26, if_pos (by omega), b_63_61, e1]
  · refine ⟨Fx_p (by decide), ?_⟩
    intro s hs
    have : s = 0 := by omega
    subst this
    dsimp only
    rw [up_s]
    rfl
