section
/-! ===== near: the class ===== -/
theorem bit_2p : ∀ s : Fin 128, ∀ p : Fin 7, (((s : Nat) &&& 2 ^ (p : Nat) = 0) ↔ (s : Nat).testBit p = false) ∧ ((s : Nat).testBit p = true → (s : Nat) - 2 ^ (p : Nat) = (s : Nat) ^^^ 2 ^ (p : Nat) ∧ 2 ^ (p : Nat) ≤ (s : Nat)) ∧ ((s : Nat) < 2 ^ (p : Nat) → (s : Nat).testBit p = false) := by decide +kernel
/-- one person more, each set -/
theorem t_75 {e : Nat} {M : MM} {R : RR} (hL : Lay R) {P r h p : Nat} {d wv : Int} {G H : Nat → Int} (hev : M 27 13 = ((EV P : Nat) : Int)) (hP7 : P ≤ 7) (hp : p < P) (hr : r < 24) (hh : h ≤ r) (hG : ∀ s, s < 2 ^ P → M 44 (128 * (r + 1) + s) = w64 (G s)) (hH : ∀ s, s < 2 ^ P → M 44 (128 * h + s) = w64 (H s)) : ∃ (M' : MM) (u8 : AV), run (call e) 75 81 [vA 27, vI d, vI ((128 * r : Nat) : Int), vI ((128 * h : Nat) : Int), vI ((128 * (r + 1) : Nat) : Int), vI p, vI wv, vI ((2 ^ p : Nat) : Int), vI ((2 ^ p : Nat) : Int)] [] M R = run (call e) 75 47 [vA 27, vI d, vI ((128 * r : Nat) : Int), vI ((128 * h : Nat) : Int), vI ((128 * (r + 1) : Nat) : Int), vI ((p + 1 : Nat) : Int), vI wv, vI ((2 ^ p : Nat) : Int), u8] [] M' R ∧ Fx [44] M M' ∧ (∀ s, s < 2 ^ P → M' 44 (128 * (r + 1) + s) = w64 (G s + (if s.testBit p = true then wv * H (s ^^^ 2 ^ p) else 0))) ∧ ∀ x, ¬ (128 * (r + 1) ≤ x ∧ x < 128 * (r + 1) + 128) → M' 44 x = M 44 x := by
  have hpw := p2_7 hP7
  have hpp := Nat.two_pow_pos P
  have hevb := EV_b hP7
  have p2 : 2 ^ p < 2 ^ P := Nat.pow_lt_pow_right (by omega) hp
  have ep : w32 ((p : Int) + 1) = ((p + 1 : Nat) : Int) := by rw [w32_i (by omega)]; omega
  obtain ⟨M1, ⟨a1, a2, a3⟩, q1⟩ := loop_nat (fun i (a : MM) => run (call e) 75 81 [vA 27, vI d, vI ((128 * r : Nat) : Int), vI ((128 * h : Nat) : Int), vI ((128 * (r + 1) : Nat) : Int), vI p, vI wv, vI ((2 ^ p : Nat) : Int), vI ((2 ^ p + i : Nat) : Int)] [] a R) (fun i a => Fx [44] M a ∧ (∀ s, s < 2 ^ P → a 44 (128 * (r + 1) + s) = w64 (G s + (if s < 2 ^ p + i then (if s.testBit p = true then wv * H (s ^^^ 2 ^ p) else 0) else 0))) ∧ ∀ x, ¬ (128 * (r + 1) ≤ x ∧ x < 128 * (r + 1) + 128) → a 44 x = M 44 x) (2 ^ P - 2 ^ p) (by
    rintro i M1 hi ⟨a1, a2, a3⟩
    have hsd : ∃ s : Nat, s = 2 ^ p + i := ⟨_, rfl⟩
    obtain ⟨s, hs⟩ := hsd
    have hsP : s < 2 ^ P := by omega
    have e1 : w32 ((s : Int) + 1) = ((2 ^ p + (i + 1) : Nat) : Int) := by rw [w32_i (by omega)]; omega
    have hb := bit_2p ⟨s, by omega⟩ ⟨p, by omega⟩
    try dsimp only at hb
    have ai := a2 s hsP
    rw [if_neg (by omega), Int.add_zero] at ai
    have estep : ∀ v, v = w64 (G s + (if s.testBit p = true then wv * H (s ^^^ 2 ^ p) else 0)) → ∀ M', M' = up M1 44 (128 * (r + 1) + s) v → (Fx [44] M M' ∧ (∀ x, x < 2 ^ P → M' 44 (128 * (r + 1) + x) = w64 (G x + (if x < 2 ^ p + (i + 1) then (if x.testBit p = true then wv * H (x ^^^ 2 ^ p) else 0) else 0))) ∧ ∀ x, ¬ (128 * (r + 1) ≤ x ∧ x < 128 * (r + 1) + 128) → M' 44 x = M 44 x) := by
      intro v hv M' hM'
      subst hM'
      refine ⟨Fx_t a1 (Fx_p (by decide)), ?_, ?_⟩
      · intro x hx
        by_cases g : x = s
        · subst g
          rw [up_s, hv, if_pos (c := x < 2 ^ p + (i + 1)) (by omega)]
        · rw [up_i (by omega), a2 x hx]
          by_cases g2 : x < 2 ^ p + i
          · rw [if_pos g2, if_pos (c := x < 2 ^ p + (i + 1)) (by omega)]
          · rw [if_neg g2, if_neg (c := x < 2 ^ p + (i + 1)) (by omega)]
      · intro x hx
        rw [up_i (by omega)]
        exact a3 x hx
    have hs128 : s < 128 := by omega
    by_cases g : s.testBit p = true
    · have hx := (hb.2.1 g)
      have hxl : s ^^^ 2 ^ p ≤ s := by rw [← hx.1]; exact Nat.sub_le _ _
      have eH : M1 44 (128 * h + (s ^^^ 2 ^ p)) = w64 (H (s ^^^ 2 ^ p)) := by
        rw [a3 _ (by omega)]
        exact hH _ (Nat.lt_of_le_of_lt hxl hsP)
      refine ⟨_, estep _ rfl _ rfl, ?_⟩
      show run (call e) 75 81 [vA 27, vI d, vI ((128 * r : Nat) : Int), vI ((128 * h : Nat) : Int), vI ((128 * (r + 1) : Nat) : Int), vI p, vI wv, vI ((2 ^ p : Nat) : Int), vI ((2 ^ p + i : Nat) : Int)] [] M1 R = _
      have ei : w32 (((128 * (r + 1) : Nat) : Int) + (s : Int)) = ((128 * (r + 1) + s : Nat) : Int) := by rw [w32_i (by omega)]; omega
      have ej : w32 (w32 (((128 * h : Nat) : Int) + (s : Int)) - ((2 ^ p : Nat) : Int)) = ((128 * h + (s ^^^ 2 ^ p) : Nat) : Int) := by
        rw [← hx.1]
        generalize 2 ^ p = z at *
        simp (disch := omega) only [w32_i]; omega
      rw [← hs, b_75_81, a1 27 (by decide), hev, if_neg (by omega), b_75_90, c_and_n (by omega) (by omega), if_neg (fun q => by
        have := hb.1.1 (by omega)
        rw [g] at this
        exact absurd this (by decide)), b_75_98 hL, ei, ej, if_pos (by omega), if_pos (by omega), if_pos (by omega), b_75_127, e1, Int.toNat_natCast, Int.toNat_natCast, ai, eH, w64_mr, w64_al, w64_ar, if_pos g]
    · refine ⟨M1, ?_, ?_⟩
      · refine estep _ rfl M1 ?_
        rw [if_neg g, Int.add_zero, ← ai, up_self]
      · show run (call e) 75 81 [vA 27, vI d, vI ((128 * r : Nat) : Int), vI ((128 * h : Nat) : Int), vI ((128 * (r + 1) : Nat) : Int), vI p, vI wv, vI ((2 ^ p : Nat) : Int), vI ((2 ^ p + i : Nat) : Int)] [] M1 R = _
        have gf : s &&& 2 ^ p = 0 := hb.1.2 (by simpa using g)
        rw [← hs, b_75_81, a1 27 (by decide), hev, if_neg (by omega), b_75_90, c_and_n (by omega) (by omega), gf, if_pos (by omega), b_75_127, e1]) M ⟨Fx_r, by
      intro s hs
      have hb := bit_2p ⟨s, by omega⟩ ⟨p, by omega⟩
      try dsimp only at hb
      rw [hG s hs]
      by_cases g : s < 2 ^ p
      · rw [if_pos (by omega), hb.2.2 g, if_neg (by decide), Int.add_zero]
      · rw [if_neg (by omega), Int.add_zero], fun _ _ => rfl⟩
  refine ⟨M1, vI ((2 ^ P : Nat) : Int), ?_, a1, ?_, a3⟩
  · rw [Nat.add_zero, show 2 ^ p + (2 ^ P - 2 ^ p) = 2 ^ P by omega] at q1
    refine Eq.trans q1 ?_
    rw [b_75_81, a1 27 (by decide), hev, if_pos (by omega), b_75_133, ep]
  · intro s hs
    rw [a2 s hs, if_pos (by omega)]
/-- a row more -/
theorem s_75 {d0 : Nat} (hd : 3 ≤ d0) {M : MM} {R : RR} (hL : Lay R) {P Y r k f : Nat} {w : Nat → Nat → Int} (hP : M 4 0 = (P : Int)) (hP7 : P ≤ 7) (hY : M 2 0 = (Y : Int)) (hY24 : Y ≤ 24) (hev : M 27 13 = ((EV P : Nat) : Int)) (hr : r < 24) (hfr : f + r < Y) (hT : ∀ i, i ≤ r → ∀ s, s < 2 ^ P → M 44 (128 * i + s) = w64 (qs w k f i s)) (hw : ∀ p, p < P → M 23 (24 * p + (f + r)) = w (f + r) p) : ∃ M', call d0 75 [vA 27, vI ((f + r : Nat) : Int), vI ((128 * r : Nat) : Int), vI ((128 * (r - k) : Nat) : Int)] M R = some (vX 0, M', R) ∧ Fx [44] M M' ∧ ∀ i, i ≤ r + 1 → ∀ s, s < 2 ^ P → M' 44 (128 * i + s) = w64 (qs w k f i s) := by
  obtain ⟨e, rfl⟩ := s_le hd
  have hpw := p2_7 hP7
  have hpp := Nat.two_pow_pos P
  have hevb := EV_b hP7
  have e4 : w32 (((128 * r : Nat) : Int) + 128) = ((128 * (r + 1) : Nat) : Int) := by rw [w32_i (by omega)]; omega
  -- as before
  obtain ⟨M1, ⟨a1, a2, a3⟩, q1⟩ := loop_nat (fun i (a : MM) => run (call (e + 2)) 75 10 [vA 27, vI ((f + r : Nat) : Int), vI ((128 * r : Nat) : Int), vI ((128 * (r - k) : Nat) : Int), vI ((128 * (r + 1) : Nat) : Int), vI i, vX 0, vX 0, vX 0] [] a R) (fun i a => Fx [44] M a ∧ (∀ s, s < i → a 44 (128 * (r + 1) + s) = w64 (qs w k f r s)) ∧ ∀ x, ¬ (128 * (r + 1) ≤ x ∧ x < 128 * (r + 1) + 128) → a 44 x = M 44 x) (2 ^ P) (by
    rintro i M1 hi ⟨a1, a2, a3⟩
    have e1 : w32 ((i : Int) + 1) = ((i + 1 : Nat) : Int) := by rw [w32_i (by omega)]; omega
    have ei : w32 (((128 * r : Nat) : Int) + (i : Int)) = ((128 * r + i : Nat) : Int) := by rw [w32_i (by omega)]; omega
    have ej : w32 (((128 * (r + 1) : Nat) : Int) + (i : Int)) = ((128 * (r + 1) + i : Nat) : Int) := by rw [w32_i (by omega)]; omega
    refine ⟨up M1 44 (128 * (r + 1) + i) (w64 (qs w k f r i)), ⟨Fx_t a1 (Fx_p (by decide)), ?_, ?_⟩, ?_⟩
    · intro s hs
      by_cases h : s = i
      · subst h; rw [up_s]
      · rw [up_i (by omega)]; exact a2 s (by omega)
    · intro x hx
      rw [up_i (by omega)]
      exact a3 x hx
    · rw [b_75_10, a1 27 (by decide), hev, if_neg (by omega), b_75_19 hL, ei, ej, if_pos (by omega), if_pos (by omega), e1, Int.toNat_natCast, Int.toNat_natCast, a3 _ (by omega), hT r (Nat.le_refl r) i hi]) M ⟨Fx_r, fun s hs => absurd hs (by omega), fun _ _ => rfl⟩
  -- person by person
  obtain ⟨⟨⟨u6, u7, u8⟩, M2⟩, ⟨b1, b2', b3⟩, q2⟩ := loop_nat (fun p (a : (AV × AV × AV) × MM) => run (call (e + 2)) 75 47 [vA 27, vI ((f + r : Nat) : Int), vI ((128 * r : Nat) : Int), vI ((128 * (r - k) : Nat) : Int), vI ((128 * (r + 1) : Nat) : Int), vI p, a.1.1, a.1.2.1, a.1.2.2] [] a.2 R) (fun p a => Fx [44] M a.2 ∧ (∀ s, s < 2 ^ P → a.2 44 (128 * (r + 1) + s) = w64 (qs w k f r s + su (fun q => w (f + r) q * qs w k f (r - k) (s ^^^ 2 ^ q)) ((List.range p).filter (fun q => s.testBit q)))) ∧ ∀ x, ¬ (128 * (r + 1) ≤ x ∧ x < 128 * (r + 1) + 128) → a.2 44 x = M 44 x) P (by
    rintro p ⟨⟨u6, u7, u8⟩, M2⟩ hp ⟨b1, b2', b3⟩
    try dsimp only at b1 b2' b3
    obtain ⟨M3, v8, q3, c1, c2, c3⟩ := t_75 (e := e + 2) (M := M2) hL (P := P) (r := r) (h := r - k) (p := p) (d := ((f + r : Nat) : Int)) (wv := w (f + r) p) (G := fun s => qs w k f r s + su (fun q => w (f + r) q * qs w k f (r - k) (s ^^^ 2 ^ q)) ((List.range p).filter (fun q => s.testBit q))) (H := fun s => qs w k f (r - k) s) (by rw [b1 27 (by decide)]; exact hev) hP7 hp hr (by omega) b2' (fun s hs => by rw [b3 _ (by omega)]; exact hT (r - k) (by omega) s hs)
    refine ⟨((vI (w (f + r) p), vI ((2 ^ p : Nat) : Int), v8), M3), ⟨Fx_t b1 c1, ?_, ?_⟩, ?_⟩
    · intro s hs
      try dsimp only
      rw [c2 s hs, su_fr, Int.add_assoc]
    · intro x hx
      try dsimp only
      rw [c3 x hx]
      exact b3 x hx
    · show run (call (e + 2)) 75 47 [vA 27, vI ((f + r : Nat) : Int), vI ((128 * r : Nat) : Int), vI ((128 * (r - k) : Nat) : Int), vI ((128 * (r + 1) : Nat) : Int), vI p, u6, u7, u8] [] M2 R = _
      rw [b_75_47 hL, s_83 (by omega) hL, bsI, b1 4 (by decide), hP, b_75_56, if_neg (by omega), b_75_59 hL, s_81 (by omega) hL (by rw [b1 4 (by decide), hP]; omega) (by omega) (by rw [b1 2 (by decide), hY]; omega) (by omega), bsI, b1 23 (by decide), hw p hp, b_75_69, c_one (by omega)]
      exact q3) ((vX 0, vX 0, vX 0), M1) ⟨a1, by
    intro s hs
    show _ = w64 (qs w k f r s + 0)
    rw [Int.add_zero]
    exact a2 s hs, a3⟩
  try dsimp only at b1 b2' b3 q2
  refine ⟨M2, ?_, b1, ?_⟩
  · refine call_of 9 [vA 27, vI ((f + r : Nat) : Int), vI ((128 * r : Nat) : Int), vI ((128 * (r - k) : Nat) : Int), vX 0, vX 0, vX 0, vX 0, vX 0] (by decide) rfl (Nat.le_of_ble_eq_true rfl) rfl ?_ rfl
    rw [b_75_0, e4]
    refine Eq.trans q1 ?_
    rw [b_75_10, a1 27 (by decide), hev, if_pos (by omega), b_75_44]
    refine Eq.trans q2 ?_
    rw [b_75_47 hL, s_83 (by omega) hL, bsI, b1 4 (by decide), hP, b_75_56, if_pos (by omega), b_75_139]
  · intro i hi s hs
    by_cases h : i ≤ r
    · rw [b3 _ (by omega)]; exact hT i h s hs
    · have : i = r + 1 := by omega
      subst this
      have hb := bl_P ⟨P, by omega⟩ ⟨s, by omega⟩ hs
      try dsimp only at hb
      rw [b2' s hs, hb, qs_s]
/-- rows, day by day -/
theorem s_74 {d0 : Nat} (hd : 4 ≤ d0) {M : MM} {R : RR} (hL : Lay R) {P Y n k f : Nat} {to : Int} {w : Nat → Nat → Int} (hP : M 4 0 = (P : Int)) (hP7 : P ≤ 7) (hY : M 2 0 = (Y : Int)) (hY24 : Y ≤ 24) (hev : M 27 13 = ((EV P : Nat) : Int)) (hfn : f + n ≤ Y) (hk : k ≤ 24) (hto : to = (f : Int) + (n : Int) - 1) (hw : ∀ d p, d < Y → p < P → M 23 (24 * p + d) = w d p) : ∃ M', call d0 74 [vA 27, vI f, vI to, vI k] M R = some (vI n, M', R) ∧ Fx [44] M M' ∧ ∀ s, s < 2 ^ P → M' 44 (128 * n + s) = w64 (qs w k f n s) := by
  obtain ⟨e, rfl⟩ := s_le hd
  have hpw := p2_7 hP7
  have hpp := Nat.two_pow_pos P
  have hevb := EV_b hP7
  -- nobody, nothing
  obtain ⟨M1, ⟨a1, a2⟩, q1⟩ := loop_nat (fun i (a : MM) => run (call (e + 3)) 74 3 [vA 27, vI f, vI to, vI k, vI ((i + 1 : Nat) : Int), vX 0] [] a R) (fun i a => Fx [44] M a ∧ ∀ s, 1 ≤ s → s < i + 1 → a 44 s = 0) (2 ^ P - 1) (by
    rintro i M1 hi ⟨a1, a2⟩
    have e1 : w32 (((i + 1 : Nat) : Int) + 1) = ((i + 1 + 1 : Nat) : Int) := by rw [w32_i (by omega)]; omega
    refine ⟨up M1 44 (i + 1) 0, ⟨Fx_t a1 (Fx_p (by decide)), ?_⟩, ?_⟩
    · intro s h1 hs
      by_cases h : s = i + 1
      · subst h; rw [up_s]
      · rw [up_i h]; exact a2 s h1 (by omega)
    · rw [b_74_3, a1 27 (by decide), hev, if_neg (by omega), b_74_12 hL, if_pos (by omega), Int.toNat_natCast, e1]) M ⟨Fx_r, fun s h1 hs => absurd hs (by omega)⟩
  obtain ⟨M2, hM2⟩ : ∃ M2, M2 = up M1 44 0 1 := ⟨_, rfl⟩
  have F2 : Fx [44] M M2 := by rw [hM2]; exact Fx_t a1 (Fx_p (by decide))
  have hT0 : ∀ s, s < 2 ^ P → M2 44 (128 * 0 + s) = w64 (qs w k f 0 s) := by
    intro s hs
    rw [Nat.mul_zero, Nat.zero_add, hM2, qs_0]
    by_cases h : s = 0
    · subst h
      rw [up_s]
      rfl
    · rw [up_i h, a2 s (by omega) (by omega), if_neg h]
      rfl
  -- day by day
  obtain ⟨M3, ⟨b1, b2'⟩, q2⟩ := loop_nat (fun r (a : MM) => run (call (e + 3)) 74 39 [vA 27, vI f, vI to, vI k, vI r, vI ((f + r : Nat) : Int)] [] a R) (fun r a => Fx [44] M a ∧ ∀ i, i ≤ r → ∀ s, s < 2 ^ P → a 44 (128 * i + s) = w64 (qs w k f i s)) n (by
    rintro r M3 hr ⟨b1, b2'⟩
    have e1 : w32 ((r : Int) + 1) = ((r + 1 : Nat) : Int) := by rw [w32_i (by omega)]; omega
    have e2 : w32 (((f + r : Nat) : Int) + 1) = ((f + (r + 1) : Nat) : Int) := by rw [w32_i (by omega)]; omega
    have e3 : w32 ((r : Int) * 128) = ((128 * r : Nat) : Int) := by rw [w32_i (by omega)]; omega
    have e4 : w32 (max 0 (w32 ((r : Int) - (k : Int))) * 128) = ((128 * (r - k) : Nat) : Int) := by
      simp (disch := omega) only [w32_i]; omega
    obtain ⟨M4, q4, c1, c2⟩ := s_75 (d0 := e + 3) (by omega) (M := M3) hL (P := P) (Y := Y) (r := r) (k := k) (f := f) (w := w) (by rw [b1 4 (by decide)]; exact hP) hP7 (by rw [b1 2 (by decide)]; exact hY) hY24 (by rw [b1 27 (by decide)]; exact hev) (by omega) (by omega) b2' (fun p hp => by rw [b1 23 (by decide)]; exact hw _ p (by omega) hp)
    refine ⟨M4, ⟨Fx_t b1 c1, c2⟩, ?_⟩
    rw [b_74_39, if_neg (by omega), b_74_45, if_neg (by omega), b_74_52, e3, e4, q4, bsX, b_74_76, e1, e2]) M2 ⟨F2, by
    intro i hi s hs
    have : i = 0 := by omega
    subst this
    exact hT0 s hs⟩
  refine ⟨M3, ?_, b1, b2' n (Nat.le_refl n)⟩
  refine call_of 6 [vA 27, vI f, vI to, vI k, vX 0, vX 0] (by decide) rfl (Nat.le_of_ble_eq_true rfl) rfl ?_ rfl
  rw [b_74_0]
  refine Eq.trans q1 ?_
  rw [b_74_3, a1 27 (by decide), hev, if_pos (by omega), b_74_26 hL, if_pos (by omega), show (0 : Int).toNat = 0 from rfl, ← hM2]
  refine Eq.trans q2 ?_
  rw [b_74_39, if_pos (by omega), b_74_85]
theorem s_73 {d0 : Nat} (hd : 5 ≤ d0) {M : MM} {R : RR} (hL : Lay R) {P Y t k : Nat} (hX : XW M R P Y t) (hC : PP M P Y) (hk : k ≤ 24) : ∃ M', call d0 73 [vA 27, vI k] M R = some (vJ (if P ≤ 1 then AL (Wd M) Y (EV P) else far (Wd M) P Y k), M', R) ∧ Fx [44] M M' := by
  obtain ⟨e, rfl⟩ := s_le hd
  obtain ⟨hP, hP7, hY, hY1, hY24, _⟩ := id hX
  have hpw := p2_7 hP7
  have hpp := Nat.two_pow_pos P
  have hevb := EV_b hP7
  have hw9 : ∀ d p, p < P → 0 ≤ Wd M d p ∧ Wd M d p ≤ 9 := fun d p hp => Wx_r hX hp
  have hW : ∀ d p, d < Y → p < P → M 23 (24 * p + d) = Wd M d p := fun d p hd hp => (hC.2.1 p hp).2.1 d hd
  have hev : M 27 13 = ((EV P : Nat) : Int) := hC.2.2.1.1
  have start : ∀ v M', run (call (e + 4)) 73 0 [vA 27, vI k, vX 0, vX 0, vX 0, vX 0, vX 0, vX 0, vX 0] [] M R = some (vJ v, M', R) → call (e + 5) 73 [vA 27, vI k] M R = some (vJ v, M', R) := fun v M' h => call_of 9 [vA 27, vI k, vX 0, vX 0, vX 0, vX 0, vX 0, vX 0, vX 0] (by decide) rfl (Nat.le_of_ble_eq_true rfl) rfl h rfl
  by_cases hP1 : P ≤ 1
  · refine ⟨M, start _ _ ?_, Fx_r⟩
    rw [if_pos hP1, b_73_0 hL, s_84 (by omega) hL, bsI, b_73_7 hL, s_83 (by omega) hL, bsI, b_73_15, if_neg (by omega), b_73_21, s_65 (by omega) hL hP7 hC.2.2.1, bsJ, b_73_25]
  rw [if_neg hP1]
  have em : w32 ((P : Int) * w32 ((k : Int) + 1)) = ((P * (k + 1) : Nat) : Int) := by
    have h1 : P * (k + 1) ≤ 7 * 25 := Nat.mul_le_mul hP7 (by omega)
    rw [w32_i (x := (k : Int) + 1) (by omega), show (k : Int) + 1 = ((k + 1 : Nat) : Int) by omega, ← Int.natCast_mul, w32_i (by omega)]
  by_cases hz : P * (k + 1) ≤ Y
  · have hm : 2 * (k + 1) ≤ P * (k + 1) := Nat.mul_le_mul_right _ (by omega)
    have e1 : w32 ((Y : Int) - 1) = (k : Int) + ((Y - k : Nat) : Int) - 1 := by rw [w32_i (by omega)]; omega
    obtain ⟨M1, q1, f1, g1⟩ := s_74 (d0 := e + 4) (by omega) (M := M) hL (P := P) (Y := Y) (n := Y - k) (k := k) (f := k) (to := w32 ((Y : Int) - 1)) (w := Wd M) hP hP7 hY hY24 hev (by omega) hk e1 hW
    have ei : w32 (w32 (((Y - k : Nat) : Int) * 128) + ((EV P : Nat) : Int)) = ((128 * (Y - k) + EV P : Nat) : Int) := by
      simp (disch := omega) only [w32_i]; omega
    obtain ⟨⟨⟨u7, u8⟩, M2⟩, b1, q2⟩ := loop_nat (fun d (a : (AV × AV) × MM) => run (call (e + 4)) 73 65 [vA 27, vI k, vI Y, vI P, vJ (w64 (qs (Wd M) k k (Y - k) (EV P) + sm (fun d => su (fun p => Wd M d p * qs (Wd M) k (d + k + 1) (Y - k - 1 - k) (EV P ^^^ 2 ^ p)) (bl (EV P))) d)), vX 0, vI d, a.1.1, a.1.2] [] a.2 R) (fun d a => Fx [44] M a.2) k (by
      rintro d ⟨⟨u7, u8⟩, M2⟩ hdk b1
      try dsimp only at b1
      have ed : w32 ((d : Int) + 1) = ((d + 1 : Nat) : Int) := by rw [w32_i (by omega)]; omega
      have ef : w32 (w32 ((d : Int) + (k : Int)) + 1) = ((d + k + 1 : Nat) : Int) := by
        simp (disch := omega) only [w32_i]; omega
      have et : w32 (w32 (w32 ((d : Int) + (Y : Int)) - (k : Int)) - 1) = ((d + k + 1 : Nat) : Int) + ((Y - k - 1 - k : Nat) : Int) - 1 := by
        simp (disch := omega) only [w32_i]; omega
      obtain ⟨M3, q3, f3, g3⟩ := s_74 (d0 := e + 4) (by omega) (M := M2) hL (P := P) (Y := Y) (n := Y - k - 1 - k) (k := k) (f := d + k + 1) (to := w32 (w32 (w32 ((d : Int) + (Y : Int)) - (k : Int)) - 1)) (w := Wd M) (by rw [b1 4 (by decide)]; exact hP) hP7 (by rw [b1 2 (by decide)]; exact hY) hY24 (by rw [b1 27 (by decide)]; exact hev) (by omega) hk et (fun d p hd hp => by rw [b1 23 (by decide)]; exact hW d p hd hp)
      have F3 := Fx_t b1 f3
      have eo : w32 (((Y - k - 1 - k : Nat) : Int) * 128) = ((128 * (Y - k - 1 - k) : Nat) : Int) := by rw [w32_i (by omega)]; omega
      have q4 := iter_eq (fun p : Nat => run (call (e + 4)) 73 99 [vA 27, vI k, vI Y, vI P, vJ (w64 (qs (Wd M) k k (Y - k) (EV P) + sm (fun d => su (fun p => Wd M d p * qs (Wd M) k (d + k + 1) (Y - k - 1 - k) (EV P ^^^ 2 ^ p)) (bl (EV P))) d + su (fun p => Wd M d p * qs (Wd M) k (d + k + 1) (Y - k - 1 - k) (EV P ^^^ 2 ^ p)) ((List.range p).filter (fun q => (EV P).testBit q)))), vX 0, vI d, vI ((128 * (Y - k - 1 - k) : Nat) : Int), vI p] [] M3 R) P (by
        intro p hp
        have ep : w32 ((p : Int) + 1) = ((p + 1 : Nat) : Int) := by rw [w32_i (by omega)]; omega
        have hbit : (EV P).testBit p = true := by
          show (2 ^ P - 1).testBit p = true
          rw [Nat.testBit_two_pow_sub_one]
          exact decide_eq_true hp
        have p2 : 2 ^ p < 2 ^ P := Nat.pow_lt_pow_right (by omega) hp
        have hb := (bit_2p ⟨EV P, by omega⟩ ⟨p, by omega⟩).2.1 hbit
        try dsimp only at hb
        have ex : c_xor ((EV P : Nat) : Int) (c_shl 1 (p : Int)) = ((EV P ^^^ 2 ^ p : Nat) : Int) := by
          rw [c_one (by omega), c_xor_n (by omega) (by omega)]
        have hlt : EV P ^^^ 2 ^ p < 2 ^ P := by rw [← hb.1]; exact Nat.lt_of_le_of_lt (Nat.sub_le _ _) (EV_lt P)
        have eix : w32 (((128 * (Y - k - 1 - k) : Nat) : Int) + ((EV P ^^^ 2 ^ p : Nat) : Int)) = ((128 * (Y - k - 1 - k) + (EV P ^^^ 2 ^ p) : Nat) : Int) := by rw [w32_i (by omega)]; omega
        try dsimp only
        rw [b_73_99, if_neg (by omega), b_73_105 hL, s_81 (by omega) hL (by rw [F3 4 (by decide), hP]; omega) (by omega) (by rw [F3 2 (by decide), hY]; omega) (by omega), bsI, F3 23 (by decide), hW d p (by omega) hp, b_73_118 hL, F3 27 (by decide), hev, ex, eix, if_pos (by omega), ep, Int.toNat_natCast, g3 _ hlt, w64_mr, w64_al, w64_ar, su_fr, if_pos hbit, ← Int.add_assoc])
      try dsimp only at q4
      have hb := bl_P ⟨P, by omega⟩ ⟨EV P, by omega⟩ (EV_lt P)
      try dsimp only at hb
      rw [hb, show su (fun p => Wd M d p * qs (Wd M) k (d + k + 1) (Y - k - 1 - k) (EV P ^^^ 2 ^ p)) ((List.range 0).filter (fun q => (EV P).testBit q)) = 0 from rfl, Int.add_zero] at q4
      refine ⟨((vI ((128 * (Y - k - 1 - k) : Nat) : Int), vI P), M3), F3, ?_⟩
      show run (call (e + 4)) 73 65 [vA 27, vI k, vI Y, vI P, vJ _, vX 0, vI d, u7, u8] [] M2 R = _
      rw [b_73_65, if_neg (by omega), b_73_71, ef, q3, bsI, b_73_90, eo]
      refine Eq.trans q4 ?_
      rw [b_73_99, if_pos (by omega), b_73_146, ed, Int.add_assoc]
      rfl) ((vX 0, vX 0), M1) f1
    try dsimp only at b1 q2
    have r2 : 0 ≤ far (Wd M) P Y k ∧ far (Wd M) P Y k ≤ 153558654482644992 := far_r hP7 hY24 hw9 Y (Nat.le_refl Y)
    refine ⟨M2, start _ _ ?_, b1⟩
    rw [b_73_0 hL, s_84 (by omega) hL, bsI, b_73_7 hL, s_83 (by omega) hL, bsI, hY, hP, b_73_15, if_pos (by omega), b_73_26, em, if_pos (by omega), b_73_37 hL, q1, bsI, b_73_50 hL, f1 27 (by decide), hev, ei, if_pos (by omega), Int.toNat_natCast, g1 _ (EV_lt P)]
    have e0 : w64 (qs (Wd M) k k (Y - k) (EV P) + sm (fun d => su (fun p => Wd M d p * qs (Wd M) k (d + k + 1) (Y - k - 1 - k) (EV P ^^^ 2 ^ p)) (bl (EV P))) 0) = w64 (qs (Wd M) k k (Y - k) (EV P)) := by
      show w64 (_ + 0) = _
      rw [Int.add_zero]
    rw [e0] at q2
    refine Eq.trans q2 ?_
    rw [b_73_65, if_pos (by omega), b_73_152, ← far_n (by omega) hP7 hz, w64_i (by omega)]
  · refine ⟨M, start _ _ ?_, Fx_r⟩
    rw [far_z (by omega) hP7 (by omega), b_73_0 hL, s_84 (by omega) hL, bsI, b_73_7 hL, s_83 (by omega) hL, bsI, hY, hP, b_73_15, if_pos (by omega), b_73_26, em, if_neg (by omega), b_73_35]
theorem s_117 {d0 : Nat} (hd : 7 ≤ d0) {M : MM} {R : RR} (hL : Lay R) {P Y t : Nat} (hX : XW M R P Y t) (hC : CJ M P Y) (x y : Int) : ∃ M', call d0 117 [vA 1, vI x, vI y] M R = some (vJ (v_near (Wd M) P Y x y), M', R) ∧ Fx clsO M M' ∧ CJ M' P Y := by
  obtain ⟨e, rfl⟩ := s_le hd
  obtain ⟨hP, hP7, hY, hY1, hY24, _⟩ := id hX
  have start : ∀ v M', run (call (e + 6)) 117 0 [vA 1, vI x, vI y] [] M R = some (vJ v, M', R) → call (e + 7) 117 [vA 1, vI x, vI y] M R = some (vJ v, M', R) := fun v M' h => call_of 3 [vA 1, vI x, vI y] (by decide) rfl (Nat.le_of_ble_eq_true rfl) rfl h rfl
  unfold v_near
  by_cases h : 0 ≤ x ∧ x ≤ 24
  · obtain ⟨k, rfl⟩ : ∃ k : Nat, x = (k : Int) := ⟨x.toNat, by omega⟩
    have hw9 : ∀ d p, p < P → 0 ≤ Wd M d p ∧ Wd M d p ≤ 9 := fun d p hp => Wx_r hX hp
    obtain ⟨M1, q1, f1, p1⟩ := p_61 (d0 := e + 6) (by omega) hL hX hC
    have X1 := XW_f f1 hX
    have W1 : Wx M1 = Wx M := Wx_x f1
    have e65 := s_65 (d0 := e + 6) (by omega) hL hX.2.1 p1.2.2.1
    obtain ⟨M2, q2, f2⟩ := s_73 (d0 := e + 6) (by omega) hL X1 p1 (k := k) (by omega)
    have F2 : Fx clsO M1 M2 := Fx_s f2 (by decide)
    have P2 : PP M2 P Y := PP_f F2 (fun o ho => f2 o (by simp only [List.mem_cons, List.not_mem_nil, or_false] at ho ⊢; omega)) (by rw [f2 35 (by decide)]) (by rw [f2 35 (by decide)]) p1
    have W2 : Wx M2 = Wx M := by rw [Wx_x F2, W1]
    have e65' := s_65 (d0 := e + 6) (by omega) hL hX.2.1 P2.2.2.1
    rw [Wd_e W1] at e65 q2
    rw [Wd_e W2] at e65'
    have r1 := AL_r hX (EV_lt P)
    have r2 : 0 ≤ far (Wd M) P Y k ∧ far (Wd M) P Y k ≤ 153558654482644992 := far_r hP7 hY24 hw9 Y (Nat.le_refl Y)
    have e3 : w64 (AL (Wd M) Y (EV P) - (if P ≤ 1 then AL (Wd M) Y (EV P) else far (Wd M) P Y k)) = (if P ≤ 1 then 0 else AL (Wd M) Y (EV P) - far (Wd M) P Y k) := by
      by_cases hP1 : P ≤ 1
      · rw [if_pos hP1, if_pos hP1, Int.sub_self]; rfl
      · rw [if_neg hP1, if_neg hP1, w64_i (by omega)]
    have r3 : -9223372036854775808 < (if P ≤ 1 then 0 else AL (Wd M) Y (EV P) - far (Wd M) P Y k) ∧ (if P ≤ 1 then 0 else AL (Wd M) Y (EV P) - far (Wd M) P Y k) < 9223372036854775808 := by
      split <;> omega
    refine ⟨M2, start _ _ ?_, Fx_t f1 F2, P2.1⟩
    rw [if_pos h, b_117_0, if_neg (by omega), b_117_4, if_pos (by omega), b_117_14 hL, q1, bsX, b_117_21 hL, e65, bsJ, b_117_28 hL, q2, bsJ, b_117_36 hL, e65', bsJ, b_117_44, e3, p_158 (by omega) _ _ _ r3 (by omega), bsJ, b_117_48, Int.toNat_natCast]
  · refine ⟨M, start _ _ ?_, Fx_r, hC⟩
    rw [if_neg h, b_117_0]
    by_cases h1 : x < 0
    · rw [if_pos h1, b_117_10]; rfl
    · rw [if_neg h1, b_117_4, if_neg (by omega), b_117_10]; rfl
end
