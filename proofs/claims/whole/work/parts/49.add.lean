/-! ===== specs ===== -/
theorem bsI {cf : CF} {mi pc : Nat} {lv r : List AV} {M : MM} {R : RR} {a : Int} : (some (vI a, M, R) : Option Res).bind (fun q => run cf mi pc lv (pushv q.1 r) q.2.1 q.2.2) = run cf mi pc lv (vI a :: r) M R := rfl
theorem bsJ {cf : CF} {mi pc : Nat} {lv r : List AV} {M : MM} {R : RR} {a : Int} : (some (vJ a, M, R) : Option Res).bind (fun q => run cf mi pc lv (pushv q.1 r) q.2.1 q.2.2) = run cf mi pc lv (vJ a :: r) M R := rfl
theorem bsA {cf : CF} {mi pc : Nat} {lv r : List AV} {M : MM} {R : RR} {a : Nat} : (some (vA a, M, R) : Option Res).bind (fun q => run cf mi pc lv (pushv q.1 r) q.2.1 q.2.2) = run cf mi pc lv (vA a :: r) M R := rfl
theorem bsX {cf : CF} {mi pc : Nat} {lv r : List AV} {M : MM} {R : RR} {a : Nat} : (some (vX a, M, R) : Option Res).bind (fun q => run cf mi pc lv (pushv q.1 r) q.2.1 q.2.2) = run cf mi pc lv r M R := rfl
theorem pr_ext {f : Nat → Int} {s n : Nat} (h : s < 2 ^ n) : ∀ m, n ≤ m → pr f s m = pr f s n
  | 0, hm => by
    have : n = 0 := by omega
    rw [this]
  | m + 1, hm => by
    by_cases e : n = m + 1
    · rw [e]
    · have hle : 2 ^ n ≤ 2 ^ m := Nat.pow_le_pow_right (by omega) (by omega)
      rw [pr_lo (by omega), pr_ext h m (by omega)]
/-- one more of the PEOPLE: the sets with it -/
theorem t_62 {e : Nat} {M : MM} {R : RR} (hL : Lay R) {p d : Nat} {w : Nat → Int} (hp7 : p < 7) (hw : 0 ≤ w p ∧ w p ≤ 216) (hpr : ∀ s, s < 2 ^ p → M 30 s = pr w s p ∧ 0 ≤ pr w s p ∧ pr w s p ≤ 101559956668416) (h29 : ∀ s, s < 128 → 0 ≤ M 29 s ∧ M 29 s ≤ 1000000000000000000) : ∃ M1 : MM, run (call e) 62 38 [vA 27, vI d, vI p, vI (w p), vI ((2 ^ p : Nat) : Int), vI 0] [] M R = run (call e) 62 38 [vA 27, vI d, vI p, vI (w p), vI ((2 ^ p : Nat) : Int), vI ((2 ^ p : Nat) : Int)] [] M1 R ∧ Fx [29, 30] M M1 ∧ (∀ s, s < 2 ^ p → M1 30 s = pr w s p) ∧ (∀ s, s < 2 ^ p → M1 30 (s + 2 ^ p) = pr w s p * w p ∧ M1 29 (s + 2 ^ p) = M 29 (s + 2 ^ p) + pr w s p * w p) ∧ ∀ s, (s < 2 ^ p ∨ 2 ^ p + 2 ^ p ≤ s) → M1 29 s = M 29 s := by
  have hpw : 2 ^ p ≤ 64 := Nat.pow_le_pow_right (n := 2) (by omega) (by omega : p ≤ 6)
  have key := loop_nat (fun j (a : MM) => run (call e) 62 38 [vA 27, vI d, vI p, vI (w p), vI ((2 ^ p : Nat) : Int), vI j] [] a R) (fun i a => Fx [29, 30] M a ∧ (∀ s, s < 2 ^ p → a 30 s = pr w s p) ∧ (∀ s, s < i → a 30 (s + 2 ^ p) = pr w s p * w p ∧ a 29 (s + 2 ^ p) = M 29 (s + 2 ^ p) + pr w s p * w p) ∧ ∀ s, (s < 2 ^ p ∨ 2 ^ p + i ≤ s) → a 29 s = M 29 s) (2 ^ p) ?_ M ?_
  · obtain ⟨M1, hI, hq⟩ := key
    exact ⟨M1, hq, hI.1, hI.2.1, hI.2.2.1, hI.2.2.2⟩
  · rintro j M1 hj ⟨a1, a2, a3, a4⟩
    have e1 : w32 ((j : Int) + 1) = ((j + 1 : Nat) : Int) := by rw [w32_i (by omega)]; omega
    have ei : w32 ((j : Int) + ((2 ^ p : Nat) : Int)) = ((j + 2 ^ p : Nat) : Int) := by rw [w32_i (by omega)]; omega
    have hb := hpr j hj
    have hm : 0 ≤ pr w j p * w p ∧ pr w j p * w p ≤ 101559956668416 * 216 := ⟨Int.mul_nonneg hb.2.1 hw.1, Int.mul_le_mul hb.2.2 hw.2 hw.1 (by decide)⟩
    have h9 := h29 (j + 2 ^ p) (by omega)
    have h4 := a4 (j + 2 ^ p) (by omega)
    refine ⟨up (up M1 30 (j + 2 ^ p) (pr w j p * w p)) 29 (j + 2 ^ p) (M 29 (j + 2 ^ p) + pr w j p * w p), ⟨Fx_t a1 (Fx_t (Fx_p (by decide)) (Fx_p (by decide))), ?_, ?_, ?_⟩, ?_⟩
    · intro s hs
      rw [up_o (by decide), up_i (by omega)]
      exact a2 s hs
    · intro s hs
      rw [up_o (o' := 30) (by decide)]
      by_cases h : s = j
      · subst h; rw [up_s, up_s]; exact ⟨rfl, rfl⟩
      · rw [up_i (by omega), up_i (by omega), up_o (by decide)]
        exact a3 s (by omega)
    · intro s hs
      rw [up_i (by omega), up_o (by decide)]
      exact a4 s (by omega)
    · show run (call e) 62 38 [vA 27, vI d, vI p, vI (w p), vI ((2 ^ p : Nat) : Int), vI j] [] M1 R = _
      rw [b_62_38, if_neg (by omega), b_62_45 hL, ei, if_pos (by omega), if_pos (by omega), if_pos (by omega), if_pos (by omega), if_pos (by omega), e1, Int.toNat_natCast, Int.toNat_natCast, a2 j hj, w64_i (x := pr w j p * w p) (by omega), up_s, up_o (o' := 29) (by decide), h4, w64_i (by omega)]
  · exact ⟨Fx_r, fun s hs => (hpr s hs).1, fun s hs => absurd hs (by omega), fun _ _ => rfl⟩
theorem s_62 {d0 : Nat} (hd : 3 ≤ d0) {M : MM} {R : RR} (hL : Lay R) {P Y d : Nat} (hP : M 4 0 = (P : Int)) (hP7 : P ≤ 7) (hY : M 2 0 = (Y : Int)) (hdY : d < Y) (hY24 : Y ≤ 24) {w : Nat → Int} (hw : ∀ p, p < P → M 23 (24 * p + d) = w p ∧ 0 ≤ w p ∧ w p ≤ 216) (h29 : ∀ s, s < 128 → 0 ≤ M 29 s ∧ M 29 s ≤ 500000000000000000) : ∃ M', call d0 62 [vA 27, vI d] M R = some (vX 0, M', R) ∧ Fx [29, 30] M M' ∧ M' 29 0 = M 29 0 ∧ (∀ s, 2 ^ P ≤ s → M' 29 s = M 29 s) ∧ ∀ s, 1 ≤ s → s < 2 ^ P → M' 29 s = M 29 s + pr w s P := by
  obtain ⟨e, rfl⟩ := s_le hd
  have hbd : ∀ s n, n ≤ P → 0 ≤ pr w s n ∧ pr w s n ≤ 21936950640377856 := by
    intro s n hn
    have h1 := pr_r (f := w) (s := s) (b := 216) (by omega) n (fun i hi => (hw i (by omega)).2)
    have h2 := p216 (n := n) (by omega)
    omega
  have hbd6 : ∀ s n, n < P → 0 ≤ pr w s n ∧ pr w s n ≤ 101559956668416 := by
    intro s n hn
    have h1 := pr_r (f := w) (s := s) (b := 216) (by omega) n (fun i hi => (hw i (by omega)).2)
    have h2 := Nat.pow_le_pow_right (n := 216) (by omega) (by omega : n ≤ 6)
    omega
  have key := loop_nat (fun p (a : (AV × AV × AV) × MM) => run (call (e + 2)) 62 9 [vA 27, vI d, vI p, a.1.1, a.1.2.1, a.1.2.2] [] a.2 R) (fun i a => Fx [29, 30] M a.2 ∧ (∀ s, s < 2 ^ i → a.2 30 s = pr w s i) ∧ a.2 29 0 = M 29 0 ∧ (∀ s, 1 ≤ s → s < 2 ^ i → a.2 29 s = M 29 s + pr w s i) ∧ ∀ s, 2 ^ i ≤ s → a.2 29 s = M 29 s) P ?_ ((vX 0, vX 0, vX 0), up M 30 0 1) ?_
  · obtain ⟨⟨⟨u1, u2, u3⟩, M2⟩, ⟨a1, a2, a3, a4, a5⟩, hq⟩ := key
    dsimp only at a1 a2 a3 a4 a5
    refine ⟨M2, ?_, a1, a3, a5, a4⟩
    refine call_of 6 [vA 27, vI d, vX 0, vX 0, vX 0, vX 0] (by decide) rfl (Nat.le_of_ble_eq_true rfl) rfl ?_ rfl
    rw [b_62_0 hL, if_pos (by decide)]
    refine hq.trans ?_
    show run (call (e + 2)) 62 9 [vA 27, vI d, vI P, u1, u2, u3] [] M2 R = _
    rw [b_62_9 hL, s_83 (by omega) (hL := hL), bsI, a1 4 (by decide), hP, b_62_17, if_pos (by omega), b_62_100]
  · rintro p ⟨⟨u1, u2, u3⟩, M1⟩ hp ⟨a1, a2, a3, a4, a5⟩
    dsimp only at a1 a2 a3 a4 a5
    have e1 : w32 ((p : Int) + 1) = ((p + 1 : Nat) : Int) := by rw [w32_i (by omega)]; omega
    have hpw : 2 ^ p ≤ 64 := Nat.pow_le_pow_right (n := 2) (by omega) (by omega : p ≤ 6)
    have hp0 : 0 < 2 ^ p := Nat.two_pow_pos p
    have h2p : 2 ^ (p + 1) = 2 ^ p + 2 ^ p := by rw [Nat.pow_succ]; omega
    obtain ⟨M2, q, c1, c2, c3, c4⟩ := t_62 (e := e + 2) (M := M1) hL (p := p) (d := d) (w := w) (by omega) (hw p hp).2 (fun s hs => ⟨a2 s hs, hbd6 s p hp⟩) (fun s hs => by
      by_cases h0 : s = 0
      · subst h0; rw [a3]; have := h29 0 (by omega); omega
      by_cases h1 : s < 2 ^ p
      · rw [a4 s (by omega) h1]; have := h29 s hs; have := hbd s p (by omega); omega
      · rw [a5 s (by omega)]; have := h29 s hs; omega)
    have cF : Fx [29, 30] M M2 := Fx_t a1 c1
    refine ⟨((vI (w p), vI ((2 ^ p : Nat) : Int), vI ((2 ^ p : Nat) : Int)), M2), ⟨cF, ?_, ?_, ?_, ?_⟩, ?_⟩
    · intro s hs
      dsimp only
      by_cases h : s < 2 ^ p
      · rw [c2 s h, pr_lo h]
      · obtain ⟨s', rfl⟩ : ∃ s', s = s' + 2 ^ p := ⟨s - 2 ^ p, by omega⟩
        rw [(c3 s' (by omega)).1, pr_hi (by omega)]
    · exact (c4 0 (.inl hp0)).trans a3
    · intro s hs1 hs
      dsimp only
      by_cases h : s < 2 ^ p
      · rw [c4 s (.inl h), pr_lo h]; exact a4 s hs1 h
      · obtain ⟨s', rfl⟩ : ∃ s', s = s' + 2 ^ p := ⟨s - 2 ^ p, by omega⟩
        rw [(c3 s' (by omega)).2, pr_hi (by omega), a5 _ (by omega)]
    · intro s hs
      dsimp only
      rw [c4 s (.inr (by omega))]
      exact a5 s (by omega)
    · show run (call (e + 2)) 62 9 [vA 27, vI d, vI p, u1, u2, u3] [] M1 R = run (call (e + 2)) 62 9 [vA 27, vI d, vI ((p + 1 : Nat) : Int), vI (w p), vI ((2 ^ p : Nat) : Int), vI ((2 ^ p : Nat) : Int)] [] M2 R
      have g4 : M1 4 0 = (P : Int) := by rw [a1 4 (by decide)]; exact hP
      have g2 : M1 2 0 = (Y : Int) := by rw [a1 2 (by decide)]; exact hY
      have g23 : M1 23 (24 * p + d) = w p := by rw [a1 23 (by decide)]; exact (hw p hp).1
      rw [b_62_9 hL, s_83 (by omega) (hL := hL), bsI, g4, b_62_17, if_neg (by omega), b_62_20 hL, s_81 (by omega) hL (by omega) (by omega) (by omega) (by omega), bsI, g23, b_62_29, c_one (by omega)]
      refine q.trans ?_
      rw [b_62_38, if_pos (by omega), b_62_94, e1]
  · refine ⟨Fx_p (by decide), ?_, ?_, ?_, ?_⟩
    · intro s hs
      have : s = 0 := by omega
      subst this
      dsimp only
      rw [up_s]
      rfl
    · dsimp only
      rw [up_o (by decide)]
    · intro s h1 h2
      omega
    · intro s _
      dsimp only
      rw [up_o (by decide)]
