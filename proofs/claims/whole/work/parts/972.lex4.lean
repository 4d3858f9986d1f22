section
/-! ===== tokens: all ===== -/
theorem tk_end {B : Nat → Int} {Z q : Nat} (h : Z ≤ tkS B Z q) : tkE B Z q = tkS B Z q ∧ tkK B Z q = 0 := by
  unfold tkE tkK
  rw [if_pos h, if_pos h]
  exact ⟨rfl, rfl⟩
theorem tk_let {B : Nat → Int} {Z q : Nat} (h : ¬ Z ≤ tkS B Z q) (l : isLt (B (tkS B Z q)) = true) : tkE B Z q = skp isLt B (Z - tkS B Z q) (tkS B Z q) ∧ tkK B Z q = (if wx B (tkS B Z q) (tkN B Z q) < 0 then 1 else if wx B (tkS B Z q) (tkN B Z q) < 6 then 4 + wx B (tkS B Z q) (tkN B Z q) else 3) ∧ tkV B Z q = wx B (tkS B Z q) (tkN B Z q) - 6 := by
  refine ⟨?_, ?_, ?_⟩
  · unfold tkE
    rw [if_neg h, if_pos l]
  · unfold tkK
    rw [if_neg h, if_pos l]
  · unfold tkV
    rw [if_pos l]
theorem tk_dig {B : Nat → Int} {Z q : Nat} (h : ¬ Z ≤ tkS B Z q) (l : ¬ isLt (B (tkS B Z q)) = true) (d : isDg (B (tkS B Z q)) = true) : tkE B Z q = skp isDg B (Z - tkS B Z q) (tkS B Z q) ∧ tkK B Z q = (if tkN B Z q ≤ 4 then 2 else 1) ∧ tkV B Z q = dv B (tkS B Z q) (tkN B Z q) := by
  refine ⟨?_, ?_, ?_⟩
  · unfold tkE
    rw [if_neg h, if_neg l, if_pos d]
  · unfold tkK
    rw [if_neg h, if_neg l, if_pos d]
  · unfold tkV
    rw [if_neg l]
theorem tk_one {B : Nat → Int} {Z q : Nat} (h : ¬ Z ≤ tkS B Z q) (l : ¬ isLt (B (tkS B Z q)) = true) (d : ¬ isDg (B (tkS B Z q)) = true) : tkE B Z q = tkS B Z q + 1 ∧ tkK B Z q = (if isSg (B (tkS B Z q)) = true then B (tkS B Z q) else 1) := by
  refine ⟨?_, ?_⟩
  · unfold tkE
    rw [if_neg h, if_neg l, if_neg d]
  · unfold tkK
    rw [if_neg h, if_neg l, if_neg d]
theorem sg_n {b : Int} (h : isSg b = true) : ¬ b = 2 ∧ ¬ b = 3 := by
  unfold isSg at h
  rw [decide_eq_true_eq] at h
  omega
/-- the next token -/
theorem s_49 {d0 : Nat} (hd : 3 ≤ d0) {M : MM} {R : RR} (hL : Lay R) {B : Nat → Int} {Z q : Nat} (hB : BY M 9 B Z) (h1 : M 8 1 = (Z : Int)) (h5 : M 8 5 = (q : Int)) (hq : q ≤ Z) : ∃ M', call d0 49 [vA 8] M R = some (vX 0, M', R) ∧ Fx [8] M M' ∧ (∀ i, ¬ i = 2 → ¬ i = 3 → ¬ i = 4 → ¬ i = 5 → M' 8 i = M 8 i) ∧ M' 8 5 = ((tkE B Z q : Nat) : Int) ∧ M' 8 4 = ((tkS B Z q : Nat) : Int) ∧ M' 8 2 = tkK B Z q ∧ (tkK B Z q = 2 ∨ tkK B Z q = 3 → M' 8 3 = tkV B Z q) := by
  obtain ⟨e, rfl⟩ := s_le hd
  have hZ := hB.1
  have start : ∀ M', run (call (e + 2)) 49 0 [vA 8] [] M R = some (vX 0, M', R) → call (e + 3) 49 [vA 8] M R = some (vX 0, M', R) := fun M' h => call_of 1 [vA 8] (by decide) rfl (Nat.le_of_ble_eq_true rfl) rfl h rfl
  have qs : run (call (e + 2)) 49 0 [vA 8] [] M R = run (call (e + 2)) 49 39 [vA 8] [] (up M 8 5 ((tkS B Z q : Nat) : Int)) R := t_49 (e := e + 2) (by omega) hL (Z - q) q M hB h1 (by omega) h5
  have hb := tk_b B hq
  have c0 := @tk_end B Z q
  have c1 := @tk_let B Z q
  have c2 := @tk_dig B Z q
  have c3 := @tk_one B Z q
  have cn : tkN B Z q = tkE B Z q - tkS B Z q := rfl
  generalize tkE B Z q = ee at hb c0 c1 c2 c3 cn ⊢
  generalize tkK B Z q = kk at hb c0 c1 c2 c3 ⊢
  generalize tkV B Z q = vv at c1 c2 ⊢
  generalize tkN B Z q = nn at c1 c2 cn
  generalize tkS B Z q = s at hb c0 c1 c2 c3 cn qs ⊢
  obtain ⟨N, hN⟩ : ∃ N, N = up (up M 8 5 (s : Int)) 8 4 (s : Int) := ⟨_, rfl⟩
  have FN : Fx [8] M N := by rw [hN]; exact Fx_t (Fx_p (by decide)) (Fx_p (by decide))
  have nB : BY N 9 B Z := ⟨hZ, fun i hi => by rw [FN 9 (by decide)]; exact hB.2 i hi⟩
  have n1 : N 8 1 = (Z : Int) := by rw [hN, up_i (by decide), up_i (by decide)]; exact h1
  have n4 : N 8 4 = (s : Int) := by rw [hN, up_s]
  have n5 : N 8 5 = (s : Int) := by rw [hN, up_i (by decide), up_s]
  have n0 : ∀ i, ¬ i = 4 → ¬ i = 5 → N 8 i = M 8 i := fun i i4 i5 => by rw [hN, up_i i4, up_i i5]
  rw [b_49_39, up_s (i := 5), ← hN, n1, n4] at qs
  by_cases g : Z ≤ s
  · obtain ⟨k1, k2⟩ := c0 g
    subst k1 k2
    rw [if_neg (by omega), b_49_58, b_49_152] at qs
    exact ⟨up N 8 2 0, start _ qs, Fx_t FN (Fx_p (by decide)), fun i i2 i3 i4 i5 => by rw [up_i i2]; exact n0 i i4 i5, by rw [up_i (by decide)]; exact n5, by rw [up_i (by decide)]; exact n4, up_s, fun h => by omega⟩
  · have hs : s ≤ Z := by omega
    have hp := nB.2 s (by omega)
    rw [if_pos (by omega), b_49_66 hL, n4, if_pos (by omega), Int.toNat_natCast, hp.1, s_54 (by omega), bsI, b_49_78] at qs
    by_cases l : 97 ≤ B s ∧ B s ≤ 122
    · obtain ⟨k1, k2, k3⟩ := c1 g (decide_eq_true l)
      rw [b2_t l, if_neg (by decide), b_49_81] at qs
      obtain ⟨M', q50, F, m0, m5, m2, m3⟩ := s_50 (d0 := e + 2) (by omega) hL nB n1 n4 n5 hs
      rw [q50, bsX, b_49_85, b_49_152] at qs
      rw [← k1, ← cn] at m2 m3
      rw [← k1] at m5
      refine ⟨M', start _ qs, Fx_t FN F, fun i i2 i3 i4 i5 => by rw [m0 i i2 i3 i5]; exact n0 i i4 i5, m5, by rw [m0 4 (by decide) (by decide) (by decide)]; exact n4, by rw [m2, k2], ?_⟩
      intro h
      rw [k3]
      refine m3 ?_
      rw [k2] at h
      by_cases w0 : wx B s nn < 0
      · rw [if_pos w0] at h
        omega
      · omega
    · have l' : ¬ isLt (B s) = true := by unfold isLt; rw [decide_eq_true_eq]; exact l
      rw [b2_f l, if_pos rfl, b_49_88 hL, n4, if_pos (by omega), Int.toNat_natCast, hp.1, s_55 (by omega), bsI, b_49_100] at qs
      by_cases dg : 48 ≤ B s ∧ B s ≤ 57
      · obtain ⟨k1, k2, k3⟩ := c2 g l' (decide_eq_true dg)
        rw [b2_t dg, if_neg (by decide), b_49_103] at qs
        obtain ⟨M', q52, F, m0, m5, m2, m3⟩ := s_52 (d0 := e + 2) (by omega) hL nB n1 n4 n5 hs
        rw [q52, bsX, b_49_107, b_49_152] at qs
        rw [← k1, ← cn] at m2 m3
        rw [← k1] at m5
        refine ⟨M', start _ qs, Fx_t FN F, fun i i2 i3 i4 i5 => by rw [m0 i i2 i3 i5]; exact n0 i i4 i5, m5, by rw [m0 4 (by decide) (by decide) (by decide)]; exact n4, by rw [m2, k2], ?_⟩
        intro h
        rw [k3]
        refine m3 ?_
        rw [k2] at h
        by_cases w0 : nn ≤ 4
        · exact w0
        · rw [if_neg w0] at h
          omega
      · have d' : ¬ isDg (B s) = true := by unfold isDg; rw [decide_eq_true_eq]; exact dg
        obtain ⟨k1, k2⟩ := c3 g l' d'
        rw [b2_f dg, if_pos rfl, b_49_110 hL, n4, if_pos (by omega), Int.toNat_natCast, hp.1, s_56 (by omega), bsI, b_49_123] at qs
        have e5 : ∀ v, w32 (up N 8 2 v 8 5 + 1) = ((s + 1 : Nat) : Int) := by
          intro v
          rw [up_i (by decide), n5, w32_i (by omega)]
          omega
        by_cases sg : B s = 40 ∨ B s = 41 ∨ B s = 59 ∨ B s = 43 ∨ B s = 45 ∨ B s = 42 ∨ B s = 60 ∨ B s = 61
        · have s' : isSg (B s) = true := decide_eq_true sg
          rw [b2_t sg, if_neg (by decide), b_49_126 hL, n4, if_pos (by omega), Int.toNat_natCast, hp.1, b_49_139, e5, b_49_152] at qs
          rw [if_pos s'] at k2
          have hn := sg_n s'
          exact ⟨_, start _ qs, Fx_t FN (Fx_t (Fx_p (by decide)) (Fx_p (by decide))), fun i i2 i3 i4 i5 => by rw [up_i i5, up_i i2]; exact n0 i i4 i5, by rw [up_s, k1], by rw [up_i (by decide), up_i (by decide)]; exact n4, by rw [up_i (by decide), up_s, k2], fun h => by rw [k2] at h; exact absurd h (fun q => q.elim hn.1 hn.2)⟩
        · have s' : ¬ isSg (B s) = true := by unfold isSg; rw [decide_eq_true_eq]; exact sg
          rw [b2_f sg, if_pos rfl, b_49_138, b_49_139, e5, b_49_152] at qs
          rw [if_neg s'] at k2
          exact ⟨_, start _ qs, Fx_t FN (Fx_t (Fx_p (by decide)) (Fx_p (by decide))), fun i i2 i3 i4 i5 => by rw [up_i i5, up_i i2]; exact n0 i i4 i5, by rw [up_s, k1], by rw [up_i (by decide), up_i (by decide)]; exact n4, by rw [up_i (by decide), up_s, k2], fun h => by omega⟩
end
