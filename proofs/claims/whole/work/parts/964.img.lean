section
/-! ===== image, back, feed ===== -/
theorem s_1 {d0 : Nat} (hd : 1 ≤ d0) {M : MM} {R : RR} (hL : Lay R) : ∃ M', call d0 1 [vA 54, vA 2, vA 4, vA 13] M R = some (vX 0, M', R) ∧ Fx [54, 55, 56] M M' ∧ M' 54 0 = 1 ∧ M' 54 3 = M 2 0 ∧ M' 54 4 = M 4 0 ∧ M' 54 5 = M 13 6 ∧ (∀ d, d < 24 → M' 55 d = M 3 d) ∧ ∀ p, p < 7 → M' 56 p = M 7 p := by
  obtain ⟨e, rfl⟩ := s_le hd
  have q := (b_1_0 (cf := call e) (M := M) hL).trans ((if_pos (by decide)).trans (if_pos (by decide)))
  refine ⟨_, call_of 4 [vA 54, vA 2, vA 4, vA 13] (by decide) rfl (Nat.le_of_ble_eq_true rfl) rfl q rfl, ?_, ?_, ?_, ?_, ?_, ?_, ?_⟩
  · exact Fx_t (Fx_t (Fx_t (Fx_t (Fx_t (Fx_p (by decide)) (Fx_p (by decide))) (Fx_u (by decide))) (Fx_u (by decide))) (Fx_p (by decide))) (Fx_p (by decide))
  · simp (disch := decide) only [up_o, up_i, up_s, upf_n, upf_s]
  · simp (disch := decide) only [up_o, up_i, up_s, upf_n, upf_s]
  · simp (disch := decide) only [up_o, up_i, up_s, upf_n, upf_s]
  · simp (disch := decide) only [up_o, up_i, up_s, upf_n, upf_s]
  · intro d h
    simp (disch := decide) only [up_o, up_i, up_s, upf_n, upf_s, cpf]
    rw [if_pos (by show (0 : Nat) ≤ d ∧ d < 0 + 24; omega)]
    show M 3 (0 + (d - 0)) = _
    rw [Nat.zero_add, Nat.sub_zero]
  · intro p h
    simp (disch := decide) only [up_o, up_i, up_s, upf_n, upf_s, cpf]
    rw [if_pos (by show (0 : Nat) ≤ p ∧ p < 0 + 7; omega)]
    show M 7 (0 + (p - 0)) = _
    rw [Nat.zero_add, Nat.sub_zero]
theorem s_2 {d0 : Nat} (hd : 1 ≤ d0) {M : MM} {R : RR} (hL : Lay R) : ∃ M', call d0 2 [vA 54, vA 2, vA 4, vA 13] M R = some (vX 0, M', R) ∧ Fx [2, 3, 4, 7, 13] M M' ∧ M' 2 0 = M 54 3 ∧ M' 4 0 = M 54 4 ∧ M' 13 6 = M 54 5 ∧ (∀ i, ¬ i = 6 → M' 13 i = M 13 i) ∧ (∀ d, M' 3 d = if d < 24 then M 55 d else M 3 d) ∧ ∀ p, M' 7 p = if p < 7 then M 56 p else M 7 p := by
  obtain ⟨e, rfl⟩ := s_le hd
  have q := (b_2_0 (cf := call e) (M := M) hL).trans ((if_pos (by decide)).trans (if_pos (by decide)))
  refine ⟨_, call_of 4 [vA 54, vA 2, vA 4, vA 13] (by decide) rfl (Nat.le_of_ble_eq_true rfl) rfl q rfl, ?_, ?_, ?_, ?_, ?_, ?_, ?_⟩
  · exact Fx_t (Fx_t (Fx_t (Fx_t (Fx_p (by decide)) (Fx_u (by decide))) (Fx_u (by decide))) (Fx_p (by decide))) (Fx_p (by decide))
  · simp (disch := decide) only [up_o, up_i, up_s, upf_n, upf_s]
  · simp (disch := decide) only [up_o, up_i, up_s, upf_n, upf_s]
  · simp (disch := decide) only [up_o, up_i, up_s, upf_n, upf_s]
  · intro i hi
    rw [up_i hi, up_o (by decide), upf_n (by decide), upf_n (by decide), up_o (by decide)]
  · intro d
    simp (disch := decide) only [up_o, up_i, up_s, upf_n, upf_s, cpf]
    by_cases h : d < 24
    · rw [if_pos (by show (0 : Nat) ≤ d ∧ d < 0 + 24; omega), if_pos h]
      show M 55 (0 + (d - 0)) = _
      rw [Nat.zero_add, Nat.sub_zero]
    · rw [if_neg (by show ¬ ((0 : Nat) ≤ d ∧ d < 0 + 24); omega), if_neg h]
  · intro p
    simp (disch := decide) only [up_o, up_i, up_s, upf_n, upf_s, cpf]
    by_cases h : p < 7
    · rw [if_pos (by show (0 : Nat) ≤ p ∧ p < 0 + 7; omega), if_pos h]
      show M 56 (0 + (p - 0)) = _
      rw [Nat.zero_add, Nat.sub_zero]
    · rw [if_neg (by show ¬ ((0 : Nat) ≤ p ∧ p < 0 + 7); omega), if_neg h]
theorem s_249 {d0 : Nat} (hd : 1 ≤ d0) {M : MM} {R : RR} (hL : Lay R) : ∃ M', call d0 249 [vA 57] M R = some (vI (M 57 2), M', R) ∧ Fx [57, 65] M M' ∧ M' 57 12 = 1 ∧ M' 57 13 = M 57 2 ∧ M' 57 14 = M 57 0 ∧ M' 57 15 = M 57 11 ∧ (∀ i, i < 12 → M' 57 i = M 57 i) ∧ (∀ d, d < 24 → M' 65 d = M 58 d) ∧ ∀ p, p < 7 → M' 65 (24 + p) = M 61 p := by
  obtain ⟨e, rfl⟩ := s_le hd
  obtain ⟨N, hN⟩ : ∃ N, N = up (up (up (up M 57 12 1) 57 13 (M 57 2)) 57 14 (M 57 0)) 57 15 (M 57 11) := ⟨_, rfl⟩
  have FN : Fx [57] M N := by rw [hN]; exact Fx_t (Fx_t (Fx_t (Fx_p (by decide)) (Fx_p (by decide))) (Fx_p (by decide))) (Fx_p (by decide))
  obtain ⟨M1, ⟨a1, a2⟩, q1⟩ := loop_nat (fun i (a : MM) => run (call e) 249 31 [vA 57, vI i] [] a R) (fun i a => Fx [65] N a ∧ ∀ d, d < i → a 65 d = M 58 d) 24 (by
    rintro i M1 hi ⟨a1, a2⟩
    have e1 : w32 ((i : Int) + 1) = ((i + 1 : Nat) : Int) := by rw [w32_i (by omega)]; omega
    refine ⟨up M1 65 i (M1 58 i), ⟨Fx_t a1 (Fx_p (by decide)), ?_⟩, ?_⟩
    · intro d hd
      by_cases h : d = i
      · subst h; rw [up_s, a1 58 (by decide), FN 58 (by decide)]
      · rw [up_i h]; exact a2 d (by omega)
    · rw [b_249_31, if_neg (by omega), b_249_37 hL, if_pos (by omega), if_pos (by omega), Int.toNat_natCast, e1]) N ⟨Fx_r, fun p hp => absurd hp (by omega)⟩
  obtain ⟨M2, ⟨c1, c2, c3⟩, q2⟩ := loop_nat (fun i (a : MM) => run (call e) 249 57 [vA 57, vI i] [] a R) (fun i a => Fx [65] N a ∧ (∀ p, p < i → a 65 (24 + p) = M 61 p) ∧ ∀ d, d < 24 → a 65 d = M 58 d) 7 (by
    rintro i M1 hi ⟨a1, a2, a3⟩
    have e1 : w32 ((i : Int) + 1) = ((i + 1 : Nat) : Int) := by rw [w32_i (by omega)]; omega
    have e2 : w32 (24 + (i : Int)) = ((24 + i : Nat) : Int) := by rw [w32_i (by omega)]; omega
    refine ⟨up M1 65 (24 + i) (M1 61 i), ⟨Fx_t a1 (Fx_p (by decide)), ?_, ?_⟩, ?_⟩
    · intro d hd
      by_cases h : d = i
      · subst h; rw [up_s, a1 61 (by decide), FN 61 (by decide)]
      · rw [up_i (by omega)]; exact a2 d (by omega)
    · intro d hd
      rw [up_i (by omega)]; exact a3 d hd
    · rw [b_249_57, if_neg (by omega), b_249_63 hL, e2, if_pos (by omega), if_pos (by omega), Int.toNat_natCast, Int.toNat_natCast, e1]) M1 ⟨a1, fun p hp => absurd hp (by omega), a2⟩
  have g57 := c1 57 (by decide)
  refine ⟨M2, ?_, Fx_t (Fx_s FN (by decide)) (Fx_s c1 (by decide)), ?_, ?_, ?_, ?_, ?_, c3, c2⟩
  · refine call_of 2 [vA 57, vX 0] (by decide) rfl (Nat.le_of_ble_eq_true rfl) rfl ?_ rfl
    rw [b_249_0]
    have hN2 : (up (up (up (up M 57 12 1) 57 13 ((up M 57 12 1) 57 2)) 57 14 ((up (up M 57 12 1) 57 13 ((up M 57 12 1) 57 2)) 57 0)) 57 15 ((up (up (up M 57 12 1) 57 13 ((up M 57 12 1) 57 2)) 57 14 ((up (up M 57 12 1) 57 13 ((up M 57 12 1) 57 2)) 57 0)) 57 11)) = N := by
      rw [hN]
      simp (disch := decide) only [up_o, up_i, up_s]
    rw [hN2]
    refine Eq.trans q1 ?_
    rw [b_249_31, if_pos (by omega), b_249_55]
    refine Eq.trans q2 ?_
    rw [b_249_57, if_pos (by omega), b_249_84, g57, hN]
    simp (disch := decide) only [up_o, up_i, up_s]
  · rw [g57, hN]; simp (disch := decide) only [up_o, up_i, up_s]
  · rw [g57, hN]; simp (disch := decide) only [up_o, up_i, up_s]
  · rw [g57, hN]; simp (disch := decide) only [up_o, up_i, up_s]
  · rw [g57, hN]; simp (disch := decide) only [up_o, up_i, up_s]
  · intro i hi
    rw [g57, hN, up_i (by omega), up_i (by omega), up_i (by omega), up_i (by omega)]
theorem s_250 {d0 : Nat} (hd : 1 ≤ d0) {M : MM} {R : RR} (hL : Lay R) (hz : ¬ M 57 12 = 0) : ∃ M', call d0 250 [vA 57] M R = some (vI (M 57 13), M', R) ∧ Fx [57, 58, 61] M M' ∧ M' 57 2 = M 57 13 ∧ M' 57 0 = M 57 14 ∧ M' 57 11 = M 57 15 ∧ (∀ i, ¬ i = 2 → ¬ i = 0 → ¬ i = 11 → M' 57 i = M 57 i) ∧ (∀ d, M' 58 d = if d < 24 then M 65 d else M 58 d) ∧ ∀ p, M' 61 p = if p < 7 then M 65 (24 + p) else M 61 p := by
  obtain ⟨e, rfl⟩ := s_le hd
  obtain ⟨N, hN⟩ : ∃ N, N = up (up (up M 57 2 (M 57 13)) 57 0 (M 57 14)) 57 11 (M 57 15) := ⟨_, rfl⟩
  have FN : Fx [57] M N := by rw [hN]; exact Fx_t (Fx_t (Fx_p (by decide)) (Fx_p (by decide))) (Fx_p (by decide))
  obtain ⟨M1, ⟨a1, a2⟩, q1⟩ := loop_nat (fun i (a : MM) => run (call e) 250 36 [vA 57, vI i] [] a R) (fun i a => Fx [58] N a ∧ ∀ d, a 58 d = if d < i then M 65 d else M 58 d) 24 (by
    rintro i M1 hi ⟨a1, a2⟩
    have e1 : w32 ((i : Int) + 1) = ((i + 1 : Nat) : Int) := by rw [w32_i (by omega)]; omega
    refine ⟨up M1 58 i (M1 65 i), ⟨Fx_t a1 (Fx_p (by decide)), ?_⟩, ?_⟩
    · intro d
      by_cases h : d = i
      · subst h; rw [up_s, a1 65 (by decide), FN 65 (by decide), if_pos (by omega)]
      · rw [up_i h, a2 d]
        by_cases g : d < i
        · rw [if_pos g, if_pos (by omega)]
        · rw [if_neg g, if_neg (by omega)]
    · rw [b_250_36, if_neg (by omega), b_250_42 hL, if_pos (by omega), if_pos (by omega), Int.toNat_natCast, e1]) N ⟨Fx_r, fun d => by rw [if_neg (by omega), FN 58 (by decide)]⟩
  obtain ⟨M2, ⟨c1, c2⟩, q2⟩ := loop_nat (fun i (a : MM) => run (call e) 250 62 [vA 57, vI i] [] a R) (fun i a => Fx [61] M1 a ∧ ∀ p, a 61 p = if p < i then M 65 (24 + p) else M 61 p) 7 (by
    rintro i M2 hi ⟨c1, c2⟩
    have e1 : w32 ((i : Int) + 1) = ((i + 1 : Nat) : Int) := by rw [w32_i (by omega)]; omega
    have e2 : w32 (24 + (i : Int)) = ((24 + i : Nat) : Int) := by rw [w32_i (by omega)]; omega
    refine ⟨up M2 61 i (M2 65 (24 + i)), ⟨Fx_t c1 (Fx_p (by decide)), ?_⟩, ?_⟩
    · intro d
      by_cases h : d = i
      · subst h; rw [up_s, c1 65 (by decide), a1 65 (by decide), FN 65 (by decide), if_pos (by omega)]
      · rw [up_i h, c2 d]
        by_cases g : d < i
        · rw [if_pos g, if_pos (by omega)]
        · rw [if_neg g, if_neg (by omega)]
    · rw [b_250_62, if_neg (by omega), b_250_68 hL, e2, if_pos (by omega), if_pos (by omega), Int.toNat_natCast, Int.toNat_natCast, e1]) M1 ⟨Fx_r, fun d => by rw [if_neg (by omega), a1 61 (by decide), FN 61 (by decide)]⟩
  have g57 : M2 57 = N 57 := by rw [c1 57 (by decide), a1 57 (by decide)]
  refine ⟨M2, ?_, Fx_t (Fx_s FN (by decide)) (Fx_t (Fx_s a1 (by decide)) (Fx_s c1 (by decide))), ?_, ?_, ?_, ?_, ?_, c2⟩
  · refine call_of 2 [vA 57, vX 0] (by decide) rfl (Nat.le_of_ble_eq_true rfl) rfl ?_ rfl
    rw [b_250_0, if_pos hz, b_250_10]
    have hN2 : (up (up (up M 57 2 (M 57 13)) 57 0 ((up M 57 2 (M 57 13)) 57 14)) 57 11 ((up (up M 57 2 (M 57 13)) 57 0 ((up M 57 2 (M 57 13)) 57 14)) 57 15)) = N := by
      rw [hN]
      simp (disch := decide) only [up_o, up_i, up_s]
    rw [hN2]
    refine Eq.trans q1 ?_
    rw [b_250_36, if_pos (by omega), b_250_60]
    refine Eq.trans q2 ?_
    rw [b_250_62, if_pos (by omega), b_250_89, g57, hN]
    simp (disch := decide) only [up_o, up_i, up_s]
  · rw [g57, hN]; simp (disch := decide) only [up_o, up_i, up_s]
  · rw [g57, hN]; simp (disch := decide) only [up_o, up_i, up_s]
  · rw [g57, hN]; simp (disch := decide) only [up_o, up_i, up_s]
  · intro i h2 h0 h11
    rw [g57, hN, up_i h11, up_i h0, up_i h2]
  · intro d
    rw [c1 58 (by decide)]
    exact a2 d
theorem st_147 {d n : Nat} (hd : 7 ≤ d) {M : MM} {R : RR} (hI : INV n M R) : ST vI d n 147 249 [] M R := by
  obtain ⟨P, Y, T, t, hV⟩ := hI
  obtain ⟨e, rfl⟩ := s_le hd
  obtain ⟨⟨⟨b1, b2, b3⟩, ⟨b4, b5, b6, b7⟩, b8, b9, b10, b11, b12, b13⟩, ⟨p1, p2, p3, p4, p5⟩, _, _, _, hIM, hL, hC, hver, _⟩ := id hV
  obtain ⟨M1, q1, f1, m1, m2, m3, m4, m5, m6⟩ := s_1 (d0 := e + 6) (by omega) (M := M) hL
  obtain ⟨M2, q2, f2, n1, n2, n3, n4, n5, n6, n7⟩ := s_249 (d0 := e + 7) (by omega) (M := M1) hL
  have F : Fx [54, 55, 56, 57, 65] M M2 := Fx_t (Fx_s f1 (by decide)) (Fx_s f2 (by decide))
  have e57 : ∀ i, i < 12 → M2 57 i = M 57 i := fun i hi => by rw [n5 i hi, f1 57 (by decide)]
  rw [f1 57 (by decide)] at n2 n3 n4 q2
  rw [f1 58 (by decide)] at n6
  rw [f1 61 (by decide)] at n7
  rw [b2] at q2
  refine ⟨P, M1, R, M2, ?_, q2, P, Y, T, t, IV_mk hV ⟨⟨by rw [F 4 (by decide)]; exact b1, by rw [e57 2 (by decide)]; exact b2, b3⟩, ⟨by rw [F 2 (by decide)]; exact b4, by rw [e57 0 (by decide)]; exact b5, b6, b7⟩, by rw [F 13 (by decide)]; exact b8, by rw [e57 10 (by decide)]; exact b9, b10, by rw [F 13 (by decide)]; exact b11, by rw [e57 11 (by decide)]; exact b12, b13⟩ ⟨by rw [F 3 (by decide), F 58 (by decide)]; exact p1, by rw [F 5 (by decide), F 59 (by decide)]; exact p2, by rw [F 6 (by decide), F 60 (by decide)]; exact p3, by rw [F 7 (by decide), F 61 (by decide)]; exact p4, by rw [F 59 (by decide), F 60 (by decide), F 61 (by decide)]; exact p5⟩ (fun o ho => F o (by simp only [List.mem_cons, List.not_mem_nil, or_false]; omega)) ⟨F 8 (by decide), F 9 (by decide), F 62 (by decide), e57 7 (by decide)⟩ ?_ ?_ (CJ_g (fun o ho => F o (by simp only [List.mem_cons, List.not_mem_nil, or_false] at ho ⊢; omega)) hC) (by rw [F 22 (by decide)]; omega)⟩
  · refine call_of 1 [vA 1] (by decide) rfl (Nat.le_of_ble_eq_true rfl) rfl ?_ rfl
    rw [b_147_0 hL, q1, bsX, b_147_19 hL, f1 4 (by decide), b1]
  · intro o ho
    refine F o ?_
    simp only [List.mem_cons, List.not_mem_nil, or_false]
    omega
  · unfold IM
    rw [f2 54 (by decide), f2 55 (by decide), f2 56 (by decide), m1, m2, m3, m4, n1, n2, n3, n4, b1, b2, b4, b5, b11, b12]
    refine ⟨rfl, fun _ => ⟨rfl, rfl, rfl, fun d hd => by rw [m5 d hd, n6 d hd, p1], fun p hp => by rw [m6 p hp, n7 p hp, p4], by omega, by omega, by omega, ?_⟩⟩
    intro p hp
    rw [n7 p (by omega)]
    exact (p5 p (by omega)).2.2
theorem st_148 {d n : Nat} (hd : 7 ≤ d) (hn : n ≤ 1000) {M : MM} {R : RR} (hI : INV n M R) : ST vI d n 148 250 [] M R := by
  obtain ⟨P, Y, T, t, hV⟩ := hI
  obtain ⟨e, rfl⟩ := s_le hd
  obtain ⟨⟨⟨b1, b2, b3⟩, ⟨b4, b5, b6, b7⟩, b8, b9, b10, b11, b12, b13⟩, ⟨p1, p2, p3, p4, p5⟩, _, _, _, hIM, hL, hC, hver, _⟩ := id hV
  have hv : 0 < M 22 7 ∧ M 22 7 < 2000000000 := hC.1.2.2.2.2.2.2.1
  have c0 : ∀ v M', run (call (e + 6)) 148 0 [vA 1] [] M R = some (vI v, M', R) → call (e + 7) 148 [vA 1] M R = some (vI v, M', R) := fun v M' h => call_of 1 [vA 1] (by decide) rfl (Nat.le_of_ble_eq_true rfl) rfl h rfl
  by_cases hz : M 57 12 = 0
  · refine st_n hV (-3) (c0 _ _ ?_) ?_
    · rw [b_148_0 hL, hIM.1, if_neg (by omega), b_148_10]
    · refine call_of 2 [vA 57, vX 0] (by decide) rfl (Nat.le_of_ble_eq_true rfl) rfl ?_ rfl
      rw [b_250_0, if_neg (by omega), b_250_7]
  · obtain ⟨i1, i2, i3, i4, i5, i6, i7, i8, i9⟩ := hIM.2 hz
    obtain ⟨M1, q1, f1, m1, m2, m3, m4, m5, m6⟩ := s_2 (d0 := e + 6) (by omega) (M := M) hL
    obtain ⟨M3, q3, f3, v3, z3⟩ := s_78 (d0 := e + 6) (by omega) (M := M1) hL (by rw [f1 22 (by decide)]; exact hv)
    rw [f1 22 (by decide)] at v3
    have f13 : Fx [2, 3, 4, 7, 13, 22, 25] M M3 := Fx_t (Fx_s f1 (by decide)) (Fx_s f3 (by decide))
    have g57 : M3 57 = M 57 := f13 57 (by decide)
    obtain ⟨M2, q2, f2, n1, n2, n3, n4, n5, n6⟩ := s_250 (d0 := e + 7) (by omega) (M := M3) hL (by rw [g57]; exact hz)
    rw [g57] at n1 n2 n3 q2
    have F : Fx [2, 3, 4, 7, 13, 22, 25, 57, 58, 61] M M2 := Fx_t (Fx_s f13 (by decide)) (Fx_s f2 (by decide))
    have e57 : ∀ i, ¬ i = 2 → ¬ i = 0 → ¬ i = 11 → M2 57 i = M 57 i := fun i h1 h2 h3 => by rw [n4 i h1 h2 h3, g57]
    have e22 : M2 22 = M3 22 := f2 22 (by decide)
    have e25 : M2 25 = M3 25 := f2 25 (by decide)
    have k3 : M2 3 = M1 3 := by rw [f2 3 (by decide), f3 3 (by decide)]
    have k7 : M2 7 = M1 7 := by rw [f2 7 (by decide), f3 7 (by decide)]
    have k13 : M2 13 = M1 13 := by rw [f2 13 (by decide), f3 13 (by decide)]
    refine ⟨M 57 13, M3, R, M2, c0 _ _ ?_, q2, (M 57 13).toNat, (M 57 14).toNat, T, (M 57 15).toNat, IV_mk hV ⟨⟨by rw [f2 4 (by decide), f3 4 (by decide), m2, i2]; omega, by rw [n1]; omega, by omega⟩, ⟨by rw [f2 2 (by decide), f3 2 (by decide), m1, i1]; omega, by rw [n2]; omega, by omega, by omega⟩, by rw [k13, m4 5 (by decide)]; exact b8, by rw [e57 10 (by decide) (by decide) (by decide)]; exact b9, b10, by rw [k13, m3, i3]; omega, by rw [n3]; omega, by omega⟩ ⟨?_, by rw [F 5 (by decide), F 59 (by decide)]; exact p2, by rw [F 6 (by decide), F 60 (by decide)]; exact p3, ?_, ?_⟩ (fun o ho => F o (by simp only [List.mem_cons, List.not_mem_nil, or_false]; omega)) ⟨F 8 (by decide), F 9 (by decide), F 62 (by decide), e57 7 (by decide) (by decide) (by decide)⟩ (fun o ho => F o (by simp only [List.mem_cons, List.not_mem_nil, or_false]; omega)) ?_ ?_ (by rw [e22, v3]; omega)⟩
    · rw [b_148_0 hL, hIM.1, if_pos hz, b_148_13 hL, q1, bsX, b_148_32 hL, q3, bsX, b_148_39 hL, f3 4 (by decide), m2, i2]
    · funext d'
      rw [k3, m5 d', n5 d', f13 65 (by decide), f13 58 (by decide)]
      by_cases h : d' < 24
      · rw [if_pos h, if_pos h]; exact i4 d' h
      · rw [if_neg h, if_neg h, p1]
    · funext p
      rw [k7, m6 p, n6 p, f13 65 (by decide), f13 61 (by decide)]
      by_cases h : p < 7
      · rw [if_pos h, if_pos h]; exact i5 p h
      · rw [if_neg h, if_neg h, p4]
    · intro p hp
      have h := p5 p (by omega)
      have h2 := i9 p (by omega)
      rw [F 59 (by decide), F 60 (by decide), n6 p, if_pos (by omega), f13 65 (by decide)]
      exact ⟨h.1, h.2.1, h2.1, by omega⟩
    · unfold IM
      rw [F 54 (by decide), F 55 (by decide), F 56 (by decide), F 65 (by decide), e57 12 (by decide) (by decide) (by decide), e57 13 (by decide) (by decide) (by decide), e57 14 (by decide) (by decide) (by decide), e57 15 (by decide) (by decide) (by decide)]
      exact ⟨hIM.1, fun _ => ⟨i1, i2, i3, i4, i5, i6, by omega, i8, i9⟩⟩
    · exact cj_new hC (fun o ho => F o (by simp only [List.mem_cons, List.not_mem_nil, or_false] at ho ⊢; omega)) (by rw [e22, v3]) (by omega) (cw_none (by omega) (fun p hp => by rw [e25]; exact z3 p hp))
end
