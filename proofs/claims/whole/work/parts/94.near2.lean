section
/-! ===== near: the reference ===== -/
theorem su_fr (h : Nat → Int) (s i : Nat) : su h ((List.range (i + 1)).filter (fun k => s.testBit k)) = su h ((List.range i).filter (fun k => s.testBit k)) + (if s.testBit i = true then h i else 0) := by
  rw [List.range_succ, List.filter_append, su_app]
  congr 1
  by_cases g : s.testBit i = true
  · rw [if_pos g, List.filter_cons_of_pos (by simpa using g)]
    show h i + 0 = _
    omega
  · rw [if_neg g, List.filter_cons_of_neg (by simpa using g)]
    rfl
theorem ap_z (w : Nat → Nat → Int) (k f j : Nat) : ap w k f j 0 = 0 := by
  rw [ap_qs j 0 (by decide)]
  rfl
/-- one set, one day more -/
theorem t_216 {e : Nat} {M : MM} {R : RR} (hL : Lay R) {P f k j s : Nat} {L : Int} {w : Nat → Nat → Int} {u7 u9 : AV} (hP : M 57 2 = (P : Int)) (hP7 : P ≤ 7) (hs : s < 2 ^ P) (hfj : f + 1 + j < 24) (hk : k ≤ 24) (hT : ∀ i, i ≤ j → ∀ r, r < 2 ^ P → M 81 (128 * (f + 1 + i) + r) = w64 (ap w k f i r)) (hw : ∀ p, p < P → M 74 (24 * p + (f + 1 + j)) = w (f + 1 + j) p) : ∃ v7 v9 : AV, run (call e) 216 125 [vA 57, vI f, vI k, vI L, vI ((f + 1 + j : Nat) : Int), vI ((f : Int) + (j : Int) - (k : Int)), vI s, u7, vX 0, u9] [] M R = run (call e) 216 116 [vA 57, vI f, vI k, vI L, vI ((f + 1 + j : Nat) : Int), vI ((f : Int) + (j : Int) - (k : Int)), vI ((s + 1 : Nat) : Int), v7, vX 0, v9] [] (up M 81 (128 * (f + 1 + (j + 1)) + s) (w64 (ap w k f (j + 1) s))) R := by
  have hpw := p2_7 hP7
  have ea : w32 (w32 (128 * ((f + 1 + j : Nat) : Int)) + (s : Int)) = ((128 * (f + 1 + j) + s : Nat) : Int) := by
    simp (disch := omega) only [w32_i]; omega
  have eb : w32 (w32 (128 * w32 (((f + 1 + j : Nat) : Int) + 1)) + (s : Int)) = ((128 * (f + 1 + (j + 1)) + s : Nat) : Int) := by
    simp (disch := omega) only [w32_i]; omega
  have es1 : w32 ((s : Int) + 1) = ((s + 1 : Nat) : Int) := by rw [w32_i (by omega)]; omega
  rw [b_216_125 hL, ea, if_pos (by omega), Int.toNat_natCast, hT j (Nat.le_refl j) s hs]
  by_cases h : k ≤ j
  · have key := iter_eq (fun i : Nat => run (call e) 216 144 [vA 57, vI f, vI k, vI L, vI ((f + 1 + j : Nat) : Int), vI ((f : Int) + (j : Int) - (k : Int)), vI s, vJ (w64 (ap w k f j s + su (fun p => w (f + 1 + j) p * ap w k f (j - k) (s ^^^ 2 ^ p)) ((List.range i).filter (fun q => s.testBit q)))), vX 0, vI i] [] M R) P ?_
    · have e0 : w64 (ap w k f j s + su (fun p => w (f + 1 + j) p * ap w k f (j - k) (s ^^^ 2 ^ p)) ((List.range 0).filter (fun q => s.testBit q))) = w64 (ap w k f j s) := by
        show w64 (ap w k f j s + 0) = _
        rw [Int.add_zero]
      try dsimp only at key
      rw [e0] at key
      have hb := bl_P ⟨P, by omega⟩ ⟨s, by omega⟩ hs
      try dsimp only at hb
      refine ⟨vJ (w64 (ap w k f (j + 1) s)), vI P, Eq.trans key ?_⟩
      rw [hb, b_216_144, hP, if_pos (by omega), b_216_223 hL, eb, if_pos (by omega), Int.toNat_natCast, es1, ap_s, if_pos h]
    · intro i hi
      have e1 : w32 ((i : Int) + 1) = ((i + 1 : Nat) : Int) := by rw [w32_i (by omega)]; omega
      have ei : w32 (w32 (24 * (i : Int)) + ((f + 1 + j : Nat) : Int)) = ((24 * i + (f + 1 + j) : Nat) : Int) := by
        simp (disch := omega) only [w32_i]; omega
      have p2 : 2 ^ i < 128 := Nat.lt_of_lt_of_le (Nat.pow_lt_pow_right (by omega) hi) (by omega)
      try dsimp only
      rw [su_fr, b_216_144, hP, if_neg (by omega), b_216_153, if_neg (by omega), b_216_159, c_bit (by omega) (by omega)]
      by_cases g : s.testBit i = true
      · have c1 := bit_x ⟨s, by omega⟩ ⟨i, by omega⟩ g
        have c3 := sub_c ⟨2 ^ i, p2⟩ ⟨s, by omega⟩
        try dsimp only at c1 c3
        have c4 : c_and (s : Int) (c_xor (c_shl 1 (i : Int)) (-1)) = ((s ^^^ 2 ^ i : Nat) : Int) := by
          rw [c_one (by omega), c3, c1.1]
        have ec : w32 (w32 (128 * w32 ((f : Int) + (j : Int) - (k : Int) + 1)) + ((s ^^^ 2 ^ i : Nat) : Int)) = ((128 * (f + 1 + (j - k)) + (s ^^^ 2 ^ i) : Nat) : Int) := by
          have := c1.2
          simp (disch := omega) only [w32_i]; omega
        rw [b2_t g, if_neg (by decide), b_216_172 hL, c4, ei, ec, if_pos (by omega), if_pos (by omega), b_216_214, e1, Int.toNat_natCast, Int.toNat_natCast, hT (j - k) (by omega) _ (by omega), hw i hi, if_pos g, w64_ml, w64_al, w64_ar, ← Int.add_assoc, Int.mul_comm (ap w k f (j - k) _)]
      · rw [b2_f g, if_pos (by decide), b_216_213, b_216_214, e1, if_neg g, Int.add_zero, Int.add_zero, w64_b, w64_b, Int.bmod_bmod]
  · refine ⟨vJ (w64 (ap w k f j s)), vI 0, ?_⟩
    have hend : run (call e) 216 223 [vA 57, vI f, vI k, vI L, vI ((f + 1 + j : Nat) : Int), vI ((f : Int) + (j : Int) - (k : Int)), vI s, vJ (w64 (ap w k f j s)), vX 0, vI 0] [] M R = run (call e) 216 116 [vA 57, vI f, vI k, vI L, vI ((f + 1 + j : Nat) : Int), vI ((f : Int) + (j : Int) - (k : Int)), vI ((s + 1 : Nat) : Int), vJ (w64 (ap w k f j s)), vX 0, vI 0] [] (up M 81 (128 * (f + 1 + (j + 1)) + s) (w64 (ap w k f (j + 1) s))) R := by
      rw [b_216_223 hL, eb, if_pos (by omega), Int.toNat_natCast, es1, ap_s, if_neg h, Int.add_zero]
    rw [b_216_144]
    by_cases h0 : M 57 2 ≤ 0
    · rw [if_pos h0]; exact hend
    · rw [if_neg h0, b_216_153, if_pos (by omega)]; exact hend
/-- one day more -/
theorem t2_216 {e : Nat} (he : 1 ≤ e) {M : MM} {R : RR} (hL : Lay R) {P f k j : Nat} {L : Int} {w : Nat → Nat → Int} {u5 u6 u7 u9 : AV} (hP : M 57 2 = (P : Int)) (hP7 : P ≤ 7) (hfj : f + 1 + j < 24) (hk : k ≤ 24) (hLj : ((f + 1 + j : Nat) : Int) ≤ L) (hT : ∀ i, i ≤ j → ∀ r, r < 2 ^ P → M 81 (128 * (f + 1 + i) + r) = w64 (ap w k f i r)) (hw : ∀ p, p < P → M 74 (24 * p + (f + 1 + j)) = w (f + 1 + j) p) (hz : ∀ D, f + 1 + j < D → D < 25 → M 81 (128 * D) = 0) : ∃ (M' : MM) (v5 v6 v7 v9 : AV), run (call e) 216 99 [vA 57, vI f, vI k, vI L, vI ((f + 1 + j : Nat) : Int), u5, u6, u7, vX 0, u9] [] M R = run (call e) 216 99 [vA 57, vI f, vI k, vI L, vI ((f + 1 + (j + 1) : Nat) : Int), v5, v6, v7, vX 0, v9] [] M' R ∧ Fx [81] M M' ∧ (∀ i, i ≤ j + 1 → ∀ r, r < 2 ^ P → M' 81 (128 * (f + 1 + i) + r) = w64 (ap w k f i r)) ∧ (∀ D, f + 1 + (j + 1) < D → D < 25 → M' 81 (128 * D) = 0) := by
  have hpw := p2_7 hP7
  have hpp := Nat.two_pow_pos P
  have e5 : w32 (w32 (((f + 1 + j : Nat) : Int) - (k : Int)) - 1) = (f : Int) + (j : Int) - (k : Int) := by
    simp (disch := omega) only [w32_i]; omega
  have ed : w32 (((f + 1 + j : Nat) : Int) + 1) = ((f + 1 + (j + 1) : Nat) : Int) := by rw [w32_i (by omega)]; omega
  obtain ⟨⟨⟨v7, v9⟩, M1⟩, ⟨a1, a2, a3⟩, q1⟩ := loop_nat (fun i (a : (AV × AV) × MM) => run (call e) 216 116 [vA 57, vI f, vI k, vI L, vI ((f + 1 + j : Nat) : Int), vI ((f : Int) + (j : Int) - (k : Int)), vI ((i + 1 : Nat) : Int), a.1.1, vX 0, a.1.2] [] a.2 R) (fun i a => Fx [81] M a.2 ∧ (∀ r, 1 ≤ r → r < i + 1 → a.2 81 (128 * (f + 1 + (j + 1)) + r) = w64 (ap w k f (j + 1) r)) ∧ ∀ x, ¬ (128 * (f + 1 + (j + 1)) + 1 ≤ x ∧ x < 128 * (f + 1 + (j + 1)) + 128) → a.2 81 x = M 81 x) (2 ^ P - 1) (by
    rintro i ⟨⟨v7, v9⟩, M1⟩ hi ⟨a1, a2, a3⟩
    try dsimp only at a1 a2 a3
    obtain ⟨v7', v9', q⟩ := t_216 (e := e) (M := M1) hL (P := P) (f := f) (k := k) (j := j) (s := i + 1) (L := L) (w := w) (u7 := v7) (u9 := v9) (by rw [a1 57 (by decide)]; exact hP) hP7 (by omega) hfj hk (fun i' hi' r hr => by rw [a3 _ (by omega)]; exact hT i' hi' r hr) (fun p hp => by rw [a1 74 (by decide)]; exact hw p hp)
    refine ⟨((v7', v9'), up M1 81 (128 * (f + 1 + (j + 1)) + (i + 1)) (w64 (ap w k f (j + 1) (i + 1)))), ⟨Fx_t a1 (Fx_p (by decide)), ?_, ?_⟩, ?_⟩
    rotate_left 2
    · show run (call e) 216 116 [vA 57, vI f, vI k, vI L, vI ((f + 1 + j : Nat) : Int), vI ((f : Int) + (j : Int) - (k : Int)), vI ((i + 1 : Nat) : Int), v7, vX 0, v9] [] M1 R = _
      rw [b_216_116, s_166 (by omega), bsI, a1 57 (by decide), hP, c_all (by omega), b_216_122, if_neg (by omega)]
      exact q
    · intro r h1 hr
      try dsimp only
      by_cases h : r = i + 1
      · subst h; rw [up_s]
      · rw [up_i (by omega)]; exact a2 r h1 (by omega)
    · intro x hx
      try dsimp only
      rw [up_i (by omega)]
      exact a3 x hx) ((u7, u9), M) ⟨Fx_r, fun r h1 hr => absurd hr (by omega), fun _ _ => rfl⟩
  try dsimp only at a1 a2 a3 q1
  refine ⟨M1, vI ((f : Int) + (j : Int) - (k : Int)), vI ((2 ^ P - 1 + 1 : Nat) : Int), v7, v9, ?_, a1, ?_, ?_⟩
  · rw [b_216_99, if_neg (by omega), b_216_105, e5]
    refine Eq.trans q1 ?_
    rw [b_216_116, s_166 (by omega), bsI, a1 57 (by decide), hP, c_all (by omega), b_216_122, if_pos (by omega), b_216_247, ed]
  · intro i hi r hr
    by_cases h : i ≤ j
    · rw [a3 _ (by omega)]; exact hT i h r hr
    · have : i = j + 1 := by omega
      subst this
      by_cases h0 : r = 0
      · subst h0
        rw [a3 _ (by omega), Nat.add_zero, hz _ (by omega) (by omega), ap_z]
        rfl
      · exact a2 r (by omega) (by omega)
  · intro D h1 h2
    rw [a3 _ (by omega)]
    exact hz D (by omega) h2
theorem bl_2x : ∀ s : Fin 128, ∀ p ∈ bl s, (s : Nat) ^^^ 2 ^ p = 0 → (s : Nat) = 2 ^ p := by decide +kernel
theorem ap_01 {w : Nat → Nat → Int} {k f p : Nat} (hp : p < 7) : ap w k f 0 (2 ^ p) = w f p := by
  have := bl_2p ⟨p, hp⟩
  try dsimp only at this
  rw [ap_0, this]
  show w f p * (if 2 ^ p ^^^ 2 ^ p = 0 then 1 else 0) + 0 = _
  rw [Nat.xor_self, if_pos rfl, Int.mul_one, Int.add_zero]
theorem ap_00 {w : Nat → Nat → Int} {k f s : Nat} (hs : s < 128) (h : ∀ p, p ∈ bl s → ¬ s = 2 ^ p) : ap w k f 0 s = 0 := by
  rw [ap_0]
  refine su_z _ (fun p hp => ?_)
  rw [if_neg (fun e => h p hp (bl_2x ⟨s, hs⟩ p hp e)), Int.mul_zero]
theorem s_216 {d0 : Nat} (hd : 2 ≤ d0) {M : MM} {R : RR} (hL : Lay R) {P Y f k : Nat} {w : Nat → Nat → Int} (hP : M 57 2 = (P : Int)) (hP1 : 1 ≤ P) (hP7 : P ≤ 7) (hY : M 57 0 = (Y : Int)) (hY24 : Y ≤ 24) (hf : f < Y) (hk : k ≤ 24) (hw : ∀ d p, d < Y → p < P → M 74 (24 * p + d) = w d p ∧ 0 ≤ w d p ∧ w d p ≤ 9) : ∃ M', call d0 216 [vA 57, vI f, vI k] M R = some (vJ (w64 (ap w k f (if f < k then Y - k - 1 else Y - 1 - f) (EV P))), M', R) ∧ Fx [81] M M' := by
  obtain ⟨e, rfl⟩ := s_le hd
  have hpw := p2_7 hP7
  have hpp := Nat.two_pow_pos P
  have hev := EV_b hP7
  obtain ⟨L, hLd⟩ : ∃ L : Nat, L = min (f + Y - k - 1) (Y - 1) := ⟨_, rfl⟩
  have hLe : (if w32 (w32 (w32 ((f : Int) + M 57 0) - (k : Int)) - 1) < 0 then (0 : Int) else if w32 (M 57 0 - 1) < w32 (w32 (w32 ((f : Int) + M 57 0) - (k : Int)) - 1) then w32 (M 57 0 - 1) else w32 (w32 (w32 ((f : Int) + M 57 0) - (k : Int)) - 1)) = (L : Int) := by
    rw [hY]
    simp (disch := omega) only [w32_i]
    split
    · omega
    · split <;> omega
  obtain ⟨J, hJd⟩ : ∃ J : Nat, J = L - f := ⟨_, rfl⟩
  have hJe : (if f < k then Y - k - 1 else Y - 1 - f) = J := by split <;> omega
  -- nothing
  obtain ⟨M1, ⟨a1, a2⟩, q1⟩ := loop_nat (fun i (a : MM) => run (call (e + 1)) 216 24 [vA 57, vI f, vI k, vI L, vI i, vX 0, vX 0, vX 0, vX 0, vX 0] [] a R) (fun i a => Fx [81] M a ∧ ∀ j, j < i → a 81 j = 0) 3200 (by
    rintro i M1 hi ⟨a1, a2⟩
    have e1 : w32 ((i : Int) + 1) = ((i + 1 : Nat) : Int) := by rw [w32_i (by omega)]; omega
    refine ⟨up M1 81 i 0, ⟨Fx_t a1 (Fx_p (by decide)), ?_⟩, ?_⟩
    · intro j hj
      by_cases h : j = i
      · subst h; rw [up_s]
      · rw [up_i h]; exact a2 j (by omega)
    · rw [b_216_24, if_neg (by omega), b_216_32 hL, if_pos (by omega), Int.toNat_natCast, e1]) M ⟨Fx_r, fun j hj => absurd hj (by omega)⟩
  -- the first one alone
  obtain ⟨M2, ⟨b1, b2', b3⟩, q2⟩ := loop_nat (fun i (a : MM) => run (call (e + 1)) 216 49 [vA 57, vI f, vI k, vI L, vI i, vX 0, vX 0, vX 0, vX 0, vX 0] [] a R) (fun i a => Fx [81] M a ∧ (∀ p, p < i → a 81 (128 * (f + 1) + 2 ^ p) = w f p) ∧ ∀ x, x < 3200 → (∀ p, p < i → ¬ x = 128 * (f + 1) + 2 ^ p) → a 81 x = 0) P (by
    rintro p M2 hp ⟨b1, b2', b3⟩
    have e1 : w32 ((p : Int) + 1) = ((p + 1 : Nat) : Int) := by rw [w32_i (by omega)]; omega
    have p2 : 2 ^ p < 128 := Nat.lt_of_lt_of_le (Nat.pow_lt_pow_right (by omega) hp) (by omega)
    have ei : w32 (w32 (24 * (p : Int)) + (f : Int)) = ((24 * p + f : Nat) : Int) := by
      simp (disch := omega) only [w32_i]; omega
    have ej : w32 (w32 (128 * w32 ((f : Int) + 1)) + c_shl 1 (p : Int)) = ((128 * (f + 1) + 2 ^ p : Nat) : Int) := by
      rw [c_one (by omega)]
      generalize 2 ^ p = z at *
      simp (disch := omega) only [w32_i]; omega
    refine ⟨up M2 81 (128 * (f + 1) + 2 ^ p) (w f p), ⟨Fx_t b1 (Fx_p (by decide)), ?_, ?_⟩, ?_⟩
    · intro q hq
      by_cases h : q = p
      · subst h; rw [up_s]
      · have : 2 ^ q < 2 ^ p := Nat.pow_lt_pow_right (by omega) (by omega)
        rw [up_i (by omega)]; exact b2' q (by omega)
    · intro x hx hn
      rw [up_i (hn p (by omega))]
      exact b3 x hx (fun q hq => hn q (by omega))
    · show run (call (e + 1)) 216 49 [vA 57, vI f, vI k, vI L, vI p, vX 0, vX 0, vX 0, vX 0, vX 0] [] M2 R = _
      have hi1 : (0 : Int) ≤ ((128 * (f + 1) + 2 ^ p : Nat) : Int) ∧ ((128 * (f + 1) + 2 ^ p : Nat) : Int) < 3200 := by
        generalize 2 ^ p = z at *
        omega
      rw [b_216_49, b1 57 (by decide), hP, if_neg (by omega), b_216_58 hL, ei, ej, if_pos (by omega), if_pos hi1, e1, Int.toNat_natCast, Int.toNat_natCast, b1 74 (by decide), (hw f p hf hp).1]) M1 ⟨a1, fun p hp => absurd hp (by omega), fun x hx _ => a2 x hx⟩
  have hT0 : ∀ r, r < 2 ^ P → M2 81 (128 * (f + 1 + 0) + r) = w64 (ap w k f 0 r) := by
    intro r hr
    rw [Nat.add_zero]
    by_cases h : ∃ p, p < P ∧ r = 2 ^ p
    · obtain ⟨p, hp, rfl⟩ := h
      have hwp := (hw f p hf hp).2
      rw [b2' p hp, ap_01 (by omega), w64_i (by omega)]
    · rw [b3 _ (by omega) (fun p hp e => h ⟨p, hp, by omega⟩), ap_00 (by omega) (fun p hp e => h ⟨p, bl_lt hr hp, e⟩)]
      rfl
  have hz0 : ∀ D, f + 1 < D → D < 25 → M2 81 (128 * D) = 0 := by
    intro D h1 h2
    refine b3 _ (by omega) (fun p hp => ?_)
    have p2 : 2 ^ p < 128 := Nat.lt_of_lt_of_le (Nat.pow_lt_pow_right (by omega) hp) (by omega)
    omega
  -- day by day
  obtain ⟨⟨⟨⟨v5, v6⟩, ⟨v7, v9⟩⟩, M3⟩, ⟨c1, c2, c3⟩, q3⟩ := loop_nat (fun j (a : ((AV × AV) × (AV × AV)) × MM) => run (call (e + 1)) 216 99 [vA 57, vI f, vI k, vI L, vI ((f + 1 + j : Nat) : Int), a.1.1.1, a.1.1.2, a.1.2.1, vX 0, a.1.2.2] [] a.2 R) (fun j a => Fx [81] M a.2 ∧ (∀ i, i ≤ j → ∀ r, r < 2 ^ P → a.2 81 (128 * (f + 1 + i) + r) = w64 (ap w k f i r)) ∧ ∀ D, f + 1 + j < D → D < 25 → a.2 81 (128 * D) = 0) J (by
    rintro j ⟨⟨⟨v5, v6⟩, ⟨v7, v9⟩⟩, M3⟩ hj ⟨c1, c2, c3⟩
    try dsimp only at c1 c2 c3
    obtain ⟨M4, x5, x6, x7, x9, q4, f4, g4, h4⟩ := t2_216 (e := e + 1) (by omega) (M := M3) hL (P := P) (f := f) (k := k) (j := j) (L := L) (w := w) (u5 := v5) (u6 := v6) (u7 := v7) (u9 := v9) (by rw [c1 57 (by decide)]; exact hP) hP7 (by omega) hk (by omega) c2 (fun p hp => by rw [c1 74 (by decide)]; exact (hw _ p (by omega) hp).1) c3
    exact ⟨(((x5, x6), (x7, x9)), M4), ⟨Fx_t c1 f4, g4, h4⟩, q4⟩) (((vX 0, vX 0), (vX 0, vX 0)), M2) ⟨b1, by
      intro i hi r hr
      have : i = 0 := by omega
      subst this
      exact hT0 r hr, fun D h1 h2 => hz0 D (by omega) h2⟩
  try dsimp only at c1 c2 c3 q3
  refine ⟨M3, ?_, c1⟩
  refine call_of 10 [vA 57, vI f, vI k, vX 0, vX 0, vX 0, vX 0, vX 0, vX 0, vX 0] (by decide) rfl (Nat.le_of_ble_eq_true rfl) rfl ?_ rfl
  have e99 : w32 ((f : Int) + 1) = ((f + 1 + 0 : Nat) : Int) := by rw [w32_i (by omega)]; omega
  rw [b_216_0, s_163 (by omega), bsI, hLe, b_216_20]
  refine Eq.trans q1 ?_
  rw [b_216_24, if_pos (by omega), b_216_46]
  refine Eq.trans q2 ?_
  rw [b_216_49, b1 57 (by decide), hP, if_pos (by omega), b_216_94, e99]
  refine Eq.trans q3 ?_
  have hf2 : ∀ x : Int, x = ((f + J : Nat) : Int) → w32 (w32 (128 * w32 (x + 1)) + ((EV P : Nat) : Int)) = ((128 * (f + 1 + J) + EV P : Nat) : Int) := by
    intro x hx
    subst hx
    simp (disch := omega) only [w32_i]; omega
  rw [b_216_99, if_pos (by omega), b_216_253 hL]
  by_cases hl : (L : Int) ≤ (f : Int)
  · rw [if_pos hl, b_216_269, b_216_270, s_166 (by omega), bsI, c1 57 (by decide), hP, c_ev (by omega), b_216_277 hL, hf2 _ (by omega), if_pos (by omega), Int.toNat_natCast, c2 J (Nat.le_refl J) _ (EV_lt P), hJe]
  · rw [if_neg hl, b_216_265, b_216_270, s_166 (by omega), bsI, c1 57 (by decide), hP, c_ev (by omega), b_216_277 hL, hf2 _ (by omega), if_pos (by omega), Int.toNat_natCast, c2 J (Nat.le_refl J) _ (EV_lt P), hJe]
/-- near -/
def v_near (w : Nat → Nat → Int) (P Y : Nat) (x part : Int) : Int := if 0 ≤ x ∧ x ≤ 24 then fr (if P ≤ 1 then 0 else AL w Y (EV P) - far w P Y x.toNat) (AL w Y (EV P)) part else NO
theorem s_217 {d0 : Nat} (hd : 6 ≤ d0) {M : MM} {R : RR} (hL : Lay R) {P Y t : Nat} (hX : XM M R P Y t) (x y : Int) : ∃ M', call d0 217 [vA 57, vI x, vI y] M R = some (vJ (v_near (Wmd M) P Y x y), M', R) ∧ Fx modO M M' := by
  obtain ⟨e, rfl⟩ := s_le hd
  obtain ⟨hP, hP7, hY, hY1, hY24, _⟩ := id hX
  have hpw := p2_7 hP7
  have hpp := Nat.two_pow_pos P
  have start : ∀ v M', run (call (e + 5)) 217 0 [vA 57, vI x, vI y, vX 0, vX 0, vX 0, vX 0, vX 0] [] M R = some (vJ v, M', R) → call (e + 6) 217 [vA 57, vI x, vI y] M R = some (vJ v, M', R) := fun v M' h => call_of 8 [vA 57, vI x, vI y, vX 0, vX 0, vX 0, vX 0, vX 0] (by decide) rfl (Nat.le_of_ble_eq_true rfl) rfl h rfl
  unfold v_near
  by_cases h : 0 ≤ x ∧ x ≤ 24
  · by_cases hy : 0 ≤ y ∧ y ≤ 1
    · obtain ⟨k, rfl⟩ : ∃ k : Nat, x = (k : Int) := ⟨x.toNat, by omega⟩
      obtain ⟨M1, q1, f1, w1, y1⟩ := r_198 (d0 := e + 5) (by omega) hL hX
      have hw9 : ∀ d p, p < P → 0 ≤ Wmd M d p ∧ Wmd M d p ≤ 9 := fun d p hp => Wm_r hX hp
      have r1 := ALm_r hX (EV_lt P)
      have hev := EV_b hP7
      by_cases hP1 : P ≤ 1
      · refine ⟨M1, start _ _ ?_, Fx_s f1 (by decide)⟩
        rw [if_pos h, if_pos hP1, b_217_0, s_162 (by omega), bsI, b_217_7, b2_t (by omega), if_neg (by decide), b_217_10, s_203 (by omega), bsI, b2_t hy, b_217_14, if_pos (by decide), b_217_21, q1, bsX, b_217_25 hL, s_166 (by omega), bsI, f1 57 (by decide), hP, c_ev (by omega), b_217_33 hL, if_pos (by omega), Int.toNat_natCast, y1 _ (EV_lt P), b_217_41, f1 57 (by decide), hY, if_neg (by omega), b_217_50, f1 57 (by decide), hP, if_pos (by omega), b_217_76, f1 57 (by decide), hP, if_pos (by omega), b_217_91, b_217_92, p_202 (by omega) _ _ _ (by omega) (by omega) (by omega), bsJ, b_217_97]
      · obtain ⟨M2, b1, q2⟩ := loop_nat (fun i (a : MM) => run (call (e + 5)) 217 41 [vA 57, vI k, vI y, vJ (AL (Wmd M) Y (EV P)), vX 0, vJ (w64 (sm (fun f => ap (Wmd M) k f (if f < k then Y - k - 1 else Y - 1 - f) (EV P)) i)), vX 0, vI i] [] a R) (fun i a => Fx [81] M1 a) Y (by
          rintro i M2 hi b1
          have e1 : w32 ((i : Int) + 1) = ((i + 1 : Nat) : Int) := by rw [w32_i (by omega)]; omega
          obtain ⟨M3, q3, f3⟩ := s_216 (d0 := e + 5) (by omega) (M := M2) hL (P := P) (Y := Y) (f := i) (k := k) (w := Wmd M) (by rw [b1 57 (by decide), f1 57 (by decide)]; exact hP) (by omega) hP7 (by rw [b1 57 (by decide), f1 57 (by decide)]; exact hY) hY24 hi (by omega) (fun d p hd hp => by
            rw [b1 74 (by decide)]
            exact ⟨(w1 p hp).1 d hd, hw9 d p hp⟩)
          refine ⟨M3, Fx_t b1 f3, ?_⟩
          show run (call (e + 5)) 217 41 [vA 57, vI k, vI y, vJ (AL (Wmd M) Y (EV P)), vX 0, vJ (w64 (sm (fun f => ap (Wmd M) k f (if f < k then Y - k - 1 else Y - 1 - f) (EV P)) i)), vX 0, vI i] [] M2 R = _
          rw [b_217_41, b1 57 (by decide), f1 57 (by decide), hY, if_neg (by omega), b_217_50, b1 57 (by decide), f1 57 (by decide), hP, if_neg (by omega), b_217_58, q3, bsJ, b_217_67, e1, w64_al, w64_ar]
          rfl) M1 Fx_r
        have r2 : 0 ≤ far (Wmd M) P Y k ∧ far (Wmd M) P Y k ≤ 153558654482644992 := far_r hP7 hY24 hw9 Y (Nat.le_refl Y)
        refine ⟨M2, start _ _ ?_, Fx_t (Fx_s f1 (by decide)) (Fx_s b1 (by decide))⟩
        rw [if_pos h, if_neg hP1, b_217_0, s_162 (by omega), bsI, b_217_7, b2_t (by omega), if_neg (by decide), b_217_10, s_203 (by omega), bsI, b2_t hy, b_217_14, if_pos (by decide), b_217_21, q1, bsX, b_217_25 hL, s_166 (by omega), bsI, f1 57 (by decide), hP, c_ev (by omega), b_217_33 hL, if_pos (by omega), Int.toNat_natCast, y1 _ (EV_lt P)]
        refine Eq.trans q2 ?_
        have g57 : M2 57 = M 57 := by rw [b1 57 (by decide), f1 57 (by decide)]
        rw [b_217_41, g57, hY, if_pos (by omega), b_217_76, g57, hP, if_neg (by omega), b_217_84, b_217_92, show sm (fun f => ap (Wmd M) k f (if f < k then Y - k - 1 else Y - 1 - f) (EV P)) Y = far (Wmd M) P Y k from rfl, w64_sr, w64_i (by omega), p_202 (by omega) _ _ _ (by omega) (by omega) (by omega), bsJ, b_217_97, Int.toNat_natCast]
    · refine ⟨M, start _ _ ?_, Fx_r⟩
      rw [if_pos h, fr_no (by omega), b_217_0, s_162 (by omega), bsI, b_217_7, b2_t (by omega), if_neg (by decide), b_217_10, s_203 (by omega), bsI, b2_f hy, b_217_14, if_neg (by decide), b_217_17]
  · refine ⟨M, start _ _ ?_, Fx_r⟩
    rw [if_neg h, b_217_0, s_162 (by omega), bsI, b_217_7, b2_f (by omega), if_pos rfl, b_217_17]
    rfl
end
