section
/-! ===== text ===== -/
theorem lay_b : ∀ q ∈ layL, q.1 ≤ 82 ∧ ¬ q.1 = 14 ∧ (q.1 = 0 → 5 ≤ q.2.1 ∧ q.2.1 ≤ 84) := by decide +kernel
theorem Lay_g {R R' : RR} (h : Lay R) (h1 : ∀ o, ¬ o = 0 → ¬ o = 14 → o ≤ 82 → R' o = R o) (h0 : ∀ j, 5 ≤ j → j ≤ 84 → R' 0 j = R 0 j) : Lay R' := by
  intro q hq
  obtain ⟨a1, a2, a3⟩ := lay_b q hq
  rw [← h q hq]
  by_cases g : q.1 = 0
  · rw [g]
    exact h0 _ (a3 g).1 (a3 g).2
  · rw [h1 q.1 g a2 a1]
theorem seg_rng {g : Nat → Int} : ∀ {c : List Int} {a : Nat}, seg g a c → (List.range c.length).map (fun k => g (a + k)) = c
  | [], _, _ => rfl
  | x :: c, a, h => by
    have ih := seg_rng h.2
    have e : ((fun k => g (a + k)) ∘ Nat.succ) = (fun k => g (a + 1 + k)) := by
      funext k
      show g (a + (k + 1)) = g (a + 1 + k)
      congr 1
      omega
    rw [List.length_cons, List.range_succ_eq_map, List.map_cons, List.map_map, e, ih]
    show g a :: c = x :: c
    rw [h.1]
theorem seg_at {g : Nat → Int} {f : Int → Int} {g' : Nat → Int} : ∀ {c : List Int} {a : Nat}, seg g a c → seg g' a (c.map f) → ∀ k, a ≤ k → k < a + c.length → g' k = f (g k)
  | [], a, _, _, k, h1, h2 => absurd h2 (by rw [List.length_nil]; omega)
  | x :: c, a, h, h', k, h1, h2 => by
    rw [List.length_cons] at h2
    by_cases e : k = a
    · subst e
      rw [h.1]
      exact h'.1
    · exact seg_at h.2 h'.2 k (by omega) (by omega)
/-- an elder TEXT stays as it is -/
theorem txOk_t {M M' : MM} {R R' : RR} {i T z : Nat} (hiT : i < T) (h1 : ∀ o, o = 20 ∨ o = 21 ∨ (83 ≤ o ∧ o ≤ z) → M' o = M o) (h2 : ∀ k, k < 200 * T → M' 63 k = M 63 k) (h3 : ∀ k, k < 4 * T → M' 64 k = M 64 k) (h4 : R' 14 i = R 14 i) (h5 : ∀ o, ¬ o = 0 → ¬ o = 14 → o ≤ z → R' o = R o) (h6 : ∀ j, 5 ≤ j → j ≤ z + 2 → R' 0 j = R 0 j) (hb : R 14 i ≤ z ∧ R (R 14 i) 0 ≤ z ∧ R (R 14 i) 1 ≤ z) (hT : txOk M R i) : txOk M' R' i ∧ ∀ j, j < 3 → segm M' i j = segm M i j := by
  obtain ⟨T0, co, en, L, s, r1, r2, r3, r4, r5, r6, r7, r8, r9, r10, r11, r12, m1, m2, m3, r13, r14, r15⟩ := hT
  rw [r1, r3, r4] at hb
  have n14 : ¬ T0 = 14 := by intro e; subst e; revert r2; decide
  have n0 : ¬ T0 = 0 := by intro e; subst e; revert r2; decide
  have hT0 := h5 T0 n0 n14 hb.1
  have hsg : ∀ j, j < 3 → segm M' i j = segm M i j := by
    intro j hj
    obtain ⟨_, q1⟩ := r13 j (by omega)
    obtain ⟨_, q2⟩ := r13 (j + 1) (by omega)
    have q2' : M 64 (4 * i + j + 1) = (s (j + 1) : Int) := q2
    have mono : s j ≤ s (j + 1) ∧ s (j + 1) ≤ s 3 := by
      rcases (by omega : j = 0 ∨ j = 1 ∨ j = 2) with q | q | q <;> subst q <;> simp only [Nat.zero_add, Nat.reduceAdd] <;> omega
    unfold segm
    rw [h3 (4 * i + j + 1) (by omega), h3 (4 * i + j) (by omega), q1, q2']
    refine List.map_congr_left (fun k hk => ?_)
    have hk := List.mem_range.1 hk
    rw [h2 _ (by rw [Int.toNat_natCast]; omega)]
  refine ⟨⟨T0, co, en, L, s, by rw [h4]; exact r1, r2, by rw [hT0]; exact r3, by rw [hT0]; exact r4, r5, r6, by rw [h6 (co + 2) (by omega) (by omega)]; exact r7, by rw [h6 (en + 2) (by omega) (by omega)]; exact r8, r9, r10, r11, r12, m1, m2, m3, fun j hj => ?_, fun k hk => ?_, fun j hj => by rw [hsg j hj]; exact r15 j hj⟩, hsg⟩
  · rw [h1 en (by omega), h3 (4 * i + j) (by omega)]
    exact r13 j hj
  · rw [h1 co (by omega), h2 (200 * i + k) (by omega)]
    exact r14 k hk
theorem CJ_w {M M' : MM} {P Y : Nat} (hW : Wx M' = Wx M) (h : ∀ o, o ∈ [22, 23, 24, 25, 27, 28, 29, 32, 33, 34, 35, 38, 39, 40, 41, 42, 43] → M' o = M o) (hC : CJ M P Y) : CJ M' P Y := by
  unfold CJ CI CW spI aW fW Wd at *
  rw [hW, h 22 (by decide), h 23 (by decide), h 24 (by decide), h 25 (by decide), h 27 (by decide), h 28 (by decide), h 29 (by decide), h 32 (by decide), h 33 (by decide), h 34 (by decide), h 35 (by decide), h 38 (by decide), h 39 (by decide), h 40 (by decide), h 41 (by decide), h 42 (by decide), h 43 (by decide)]
  exact hC
theorem IM_t {M : MM} {P T T' : Nat} (hT : T ≤ T') (hI : IM M P T) : IM M P T' := by
  refine ⟨hI.1, fun hz => ?_⟩
  obtain ⟨a1, a2, a3, a4, a5, a6, a7, a8, a9⟩ := hI.2 hz
  exact ⟨a1, a2, a3, a4, a5, a6, a7, by omega, a9⟩
/-- all that text may change, and what it leaves -/
theorem iv_text {n P Y T t T' z : Nat} {M M' : MM} {R R' : RR} (hI : IV n P Y T t M R) (hTT : T ≤ T' ∧ T' ≤ 6) (hz : 82 ≤ z ∧ R 0 0 = z) (h1 : ∀ o, ¬ o = 8 → ¬ o = 10 → ¬ o = 11 → ¬ o = 12 → ¬ o = 13 → ¬ o = 57 → ¬ o = 63 → ¬ o = 64 → ¬ o = 71 → o ≤ z → M' o = M o) (h57 : ∀ i, i ≤ 20 → ¬ i = 7 → ¬ i = 10 → M' 57 i = M 57 i) (h13 : M' 13 6 = M 13 6) (h8 : M' 8 1 = 0 ∧ M' 57 7 = 0) (hT : M' 13 5 = (T' : Int) ∧ M' 57 10 = (T' : Int)) (h12 : M' 12 0 = 0) (h63 : ∀ k, k < 200 * T → M' 63 k = M 63 k) (h64 : ∀ k, k < 4 * T → M' 64 k = M 64 k) (r14 : ∀ i, i < T → R' 14 i = R 14 i) (r5 : ∀ o, ¬ o = 0 → ¬ o = 14 → o ≤ z → R' o = R o) (r6 : ∀ j, 5 ≤ j → j ≤ z + 2 → R' 0 j = R 0 j) (hnew : ∀ i, T ≤ i → i < T' → txOk M' R' i) (hRM : RM R' T') : IV (n + 1) P Y T' t M' R' := by
  obtain ⟨⟨⟨b1, b2, b3⟩, ⟨b4, b5, b6, b7⟩, b8, b9, b10, b11, b12, b13⟩, ⟨p1, p2, p3, p4, p5⟩, hTX, hTP, hSH, hIM, hL, hC, hver, hR, hWT, h120⟩ := hI
  have tx := fun i (hi : i < T) => txOk_t (M := M) (M' := M') (R := R) (R' := R') (z := z) hi (fun o ho => h1 o (by omega) (by omega) (by omega) (by omega) (by omega) (by omega) (by omega) (by omega) (by omega) (by omega)) h63 h64 (r14 i hi) r5 r6 (by rw [← hz.2]; exact hR.2.2 i hi) (hTX i hi)
  have hW : Wx M' = Wx M := by
    funext p d
    unfold Wx
    rw [h13, b11, Int.toNat_natCast, (tx t b13).2 0 (by omega), h1 5 (by omega) (by omega) (by omega) (by omega) (by omega) (by omega) (by omega) (by omega) (by omega) (by omega), h1 6 (by omega) (by omega) (by omega) (by omega) (by omega) (by omega) (by omega) (by omega) (by omega) (by omega), h1 7 (by omega) (by omega) (by omega) (by omega) (by omega) (by omega) (by omega) (by omega) (by omega) (by omega), h1 2 (by omega) (by omega) (by omega) (by omega) (by omega) (by omega) (by omega) (by omega) (by omega) (by omega), h1 3 (by omega) (by omega) (by omega) (by omega) (by omega) (by omega) (by omega) (by omega) (by omega) (by omega)]
  have g : ∀ o, ¬ o = 8 ∧ ¬ o = 10 ∧ ¬ o = 11 ∧ ¬ o = 12 ∧ ¬ o = 13 ∧ ¬ o = 57 ∧ ¬ o = 63 ∧ ¬ o = 64 ∧ ¬ o = 71 ∧ o ≤ z → M' o = M o := fun o ⟨a1, a2, a3, a4, a5, a6, a7, a8, a9, a10⟩ => h1 o a1 a2 a3 a4 a5 a6 a7 a8 a9 a10
  refine ⟨⟨⟨by rw [g 4 (by omega)]; exact b1, by rw [h57 2 (by omega) (by omega) (by omega)]; exact b2, b3⟩, ⟨by rw [g 2 (by omega)]; exact b4, by rw [h57 0 (by omega) (by omega) (by omega)]; exact b5, b6, b7⟩, hT.1, hT.2, hTT.2, by rw [h13]; exact b11, by rw [h57 11 (by omega) (by omega) (by omega)]; exact b12, by omega⟩, ⟨by rw [g 3 (by omega), g 58 (by omega)]; exact p1, by rw [g 5 (by omega), g 59 (by omega)]; exact p2, by rw [g 6 (by omega), g 60 (by omega)]; exact p3, by rw [g 7 (by omega), g 61 (by omega)]; exact p4, by rw [g 59 (by omega), g 60 (by omega), g 61 (by omega)]; exact p5⟩, fun i hi => ?_, ⟨by rw [h8.1, h8.2], by rw [h8.2]; omega, fun i hi => by rw [h8.2] at hi; omega⟩, ?_, ?_, Lay_g hL (fun o a1 a2 a3 => r5 o a1 a2 (by omega)) (fun j a1 a2 => r6 j a1 (by omega)), CJ_w hW (fun o ho => g o (by simp only [List.mem_cons, List.not_mem_nil, or_false] at ho; omega)) hC, by rw [g 22 (by omega)]; omega, hRM, by unfold WT; rw [g 70 (by omega)]; exact hWT, h12⟩
  · by_cases e : i < T
    · exact (tx i e).1
    · exact hnew i (by omega) hi
  · intro s hs
    have := hSH s hs
    rw [g (46 + 2 * s) (by omega), g (47 + 2 * s) (by omega), g 66 (by omega), g 67 (by omega), g 68 (by omega)]
    exact this
  · refine IM_t hTT.1 ?_
    unfold IM at *
    rw [g 54 (by omega), g 55 (by omega), g 56 (by omega), g 65 (by omega), h57 12 (by omega) (by omega) (by omega), h57 13 (by omega) (by omega) (by omega), h57 14 (by omega) (by omega) (by omega), h57 15 (by omega) (by omega) (by omega)]
    exact hIM
theorem kTx {T : Nat} (h1 : 1 ≤ T) (h6 : T < 6) : kindOf (80 + 3 * T) = 7 ∧ kindOf (80 + 3 * T + 1) = 13 ∧ kindOf (80 + 3 * T + 2) = 13 := by
  rcases (by omega : T = 1 ∨ T = 2 ∨ T = 3 ∨ T = 4 ∨ T = 5) with g | g | g | g | g <;> subst g <;> decide
theorem st_99 {d n : Nat} (hd : 50 ≤ d) {M : MM} {R : RR} (hI : INV n M R) : ST vI d n 99 184 [] M R := by
  obtain ⟨P, Y, T, t, hV⟩ := hI
  obtain ⟨e, rfl⟩ := s_le hd
  obtain ⟨⟨⟨b1, b2, b3⟩, ⟨b4, b5, b6, b7⟩, b8, b9, b10, b11, b12, b13⟩, ⟨p1, p2, p3, p4, p5⟩, hTX, ⟨t1, t2, t3⟩, hSH, hIM, hL, hC, hver, hR, hWT, h120⟩ := id hV
  have start : ∀ q, run (call (e + 49)) 99 0 [vA 1, vX 0] [] M R = some q → retOk 99 q.1 = true → call (e + 50) 99 [vA 1] M R = some q := fun q h g => call_of 2 [vA 1, vX 0] (by decide) rfl (Nat.le_of_ble_eq_true rfl) rfl h g
  by_cases hT6 : T = 6
  · refine ⟨-4, M, R, M, start _ ?_ rfl, ?_, P, Y, T, t, IV_k (fun _ _ => rfl) hC hV⟩
    · rw [b_99_0 hL, b8, if_neg (by omega), b_99_12]
    · refine call_of 3 [vA 57, vX 0, vX 0] (by decide) rfl (Nat.le_of_ble_eq_true rfl) rfl ?_ rfl
      rw [b_184_0, b9, if_neg (by omega), b_184_9]
  · obtain ⟨Z, hZ⟩ := Int.eq_ofNat_of_zero_le t2.1
    have hZ : M 57 7 = (Z : Int) := hZ
    rw [hZ] at t1 t2 t3
    have hZ2 : Z ≤ 160 := by omega
    have hB9 : BY M 9 (M 62) Z := ⟨hZ2, fun i hi => by have := t3 i (by omega); exact this⟩
    obtain ⟨kt, k1, k2⟩ := kTx (T := T) (by omega) (by omega)
    have hnu : nu R = 80 + 3 * T := by show R 0 0 + 1 = _; rw [hR.1]; omega
    have h00 : R 0 0 = 79 + 3 * T := hR.1
    rcases s_22 (d0 := e + 49) (by omega) hL hB9 t1 h120 hnu (by omega) kt k1 k2 with ⟨M', f, q1, F1, z0, hf, hTR⟩ | ⟨M', R', o, c1, c2, c3, q1, F1, z0, hen, hco, ho, w1, w2, w3, hl, hTR, hrT⟩
    · -- a fault
      have F2 : Fx [8, 10, 11, 12] M (up M' 8 1 0) := Fx_t F1 (Fx_p (by decide))
      have mb : mB (M 62) Z (up M' 8 1 0) := ⟨⟨hZ2, fun i hi => by rw [F2 62 (by decide)]; exact ⟨rfl, (t3 i (by omega)).2⟩⟩, fun i hi => by rw [F2 70 (by decide)]; exact hWT i hi, by rw [F2 57 (by decide)]; exact hZ⟩
      rcases s_184 (d0 := e + 50) (by omega) (R := R) hL mb (T := T) (by rw [F2 57 (by decide)]; exact b9) (by omega) with ⟨M2, o', e1, e2, e3, q2, hTR2, _⟩ | ⟨M2, f', q2, hTR2, G, m7, m10⟩
      · rw [hTR] at hTR2
        cases hTR2
      · rw [hTR] at hTR2
        cases hTR2
        refine ⟨w32 (-100 - (f : Int)), up M' 8 1 0, R, M2, start _ ?_ rfl, q2, P, Y, T, t, ?_⟩
        · rw [b_99_0 hL, b8, if_pos (by omega), b_99_15 hL, q1, bsA, b_99_22 hL, if_pos rfl, b_99_35 hL, up_o (by decide), hf]
        · have GF : ∀ i, ¬ i = 57 → ¬ i = 63 → ¬ i = 64 → ¬ i = 71 → M2 i = up M' 8 1 0 i := fun i i1 i2 i3 i4 => G.1 i (by simp only [List.mem_cons, List.not_mem_nil, or_false, not_or]; exact ⟨i1, i2, i3, i4⟩)
          have FF : ∀ i, ¬ i = 8 → ¬ i = 10 → ¬ i = 11 → ¬ i = 12 → up M' 8 1 0 i = M i := fun i i1 i2 i3 i4 => F2 i (by simp only [List.mem_cons, List.not_mem_nil, or_false, not_or]; exact ⟨i1, i2, i3, i4⟩)
          refine iv_text (z := 79 + 3 * T) hV ⟨Nat.le_refl T, b10⟩ ⟨by omega, h00⟩ (fun i i1 i2 i3 i4 i5 i6 i7 i8 i9 _ => by rw [GF i i6 i7 i8 i9, FF i i1 i2 i3 i4]) (fun i i1 i2 i3 => by rw [G.2.1 i (by omega) i2 i3, F2 57 (by decide)]) (by rw [GF 13 (by decide) (by decide) (by decide) (by decide), F2 13 (by decide)]) ⟨by rw [GF 8 (by decide) (by decide) (by decide) (by decide), up_s], m7⟩ ⟨by rw [GF 13 (by decide) (by decide) (by decide) (by decide), F2 13 (by decide)]; exact b8, m10⟩ (by rw [GF 12 (by decide) (by decide) (by decide) (by decide), up_o (by decide)]; exact z0) (fun k hk => by rw [G.2.2.1 k hk, F2 63 (by decide)]) (fun k hk => by rw [G.2.2.2 k hk, F2 64 (by decide)]) (fun _ _ => rfl) (fun _ _ _ _ => rfl) (fun _ _ _ => rfl) (fun i h1 h2 => absurd h2 (by omega)) hR
    · -- a TEXT
      obtain ⟨u1, u2, u3, u4, u5, u6, u7, u8⟩ := hrT
      have n0 : ∀ j, newR R 0 2 0 j = if j = 80 + 3 * T + 2 then 0 else if j = 1 then R 0 1 + 2 else if j = 0 then 80 + 3 * T else R 0 j := by
        intro j
        rw [newR_0, hnu]
      have no : ∀ i, ¬ i = 0 → ¬ i = 80 + 3 * T → newR R 0 2 i = R i := fun i i1 i2 => newR_o i1 (by rw [hnu]; exact i2)
      obtain ⟨M1, hM1⟩ : ∃ M1, M1 = up (up M' 8 1 0) 13 5 ((T + 1 : Nat) : Int) := ⟨_, rfl⟩
      obtain ⟨R1, hR1⟩ : ∃ R1, R1 = up R' 14 T (80 + 3 * T) := ⟨_, rfl⟩
      have eT : w32 ((T : Int) + 1) = ((T + 1 : Nat) : Int) := by rw [w32_i (by omega)]; omega
      have m13 : M' 13 = M 13 := F1 13 (by simp only [List.mem_cons, List.not_mem_nil, or_false]; omega)
      have FF : ∀ i, ¬ i = 8 → ¬ i = 10 → ¬ i = 11 → ¬ i = 12 → ¬ i = 13 → i ≤ 79 + 3 * T → M1 i = M i := fun i i1 i2 i3 i4 i5 i6 => by
        rw [hM1, up_o i5, up_o i1]
        exact F1 i (by simp only [List.mem_cons, List.not_mem_nil, or_false, not_or]; omega)
      have r0 : ∀ j, R1 0 j = if j = 83 + 3 * T then 4 else if j = 84 + 3 * T then o.length else if j = 0 then 82 + 3 * T else if j = 1 then R 0 1 + 2 + (4 + o.length) else if j = 82 + 3 * T then 0 else R 0 j := by
        intro j
        rw [hR1, up_o (by decide)]
        by_cases j1 : j = 83 + 3 * T
        · rw [if_pos j1, j1, show 83 + 3 * T = 80 + 3 * T + 3 by omega]; exact u3
        rw [if_neg j1]
        by_cases j2 : j = 84 + 3 * T
        · rw [if_pos j2, j2, show 84 + 3 * T = 80 + 3 * T + 4 by omega]; exact u4
        rw [if_neg j2]
        by_cases j3 : j = 0
        · rw [if_pos j3, j3, u5]; omega
        rw [if_neg j3]
        by_cases j4 : j = 1
        · rw [if_pos j4, j4, u6, n0, if_neg (by omega), if_pos rfl]
        rw [if_neg j4, u8 j j3 j4 (by omega) (by omega), n0]
        by_cases j5 : j = 82 + 3 * T
        · rw [if_pos j5, if_pos (by omega)]
        · rw [if_neg j5, if_neg (by omega), if_neg j4, if_neg j3]
      have ro : ∀ i, ¬ i = 0 → ¬ i = 14 → i ≤ 79 + 3 * T → R1 i = R i := fun i i1 i2 i3 => by
        rw [hR1, up_o i2, u7 i i1 (by omega) (by omega) (by omega), no i i1 (by omega)]
      have r14' : ∀ i, ¬ i = T → R1 14 i = R 14 i := fun i hi => by
        rw [hR1, up_i hi, u7 14 (by decide) (by omega) (by omega) (by omega), no 14 (by decide) (by omega)]
      have rt : ∀ i, R1 (80 + 3 * T) i = R' (80 + 3 * T) i := fun i => by rw [hR1, up_o (by omega)]
      have hL1 : Lay R1 := Lay_g hL (fun i i1 i2 i3 => ro i i1 i2 (by omega)) (fun j j1 j2 => by rw [r0, if_neg (by omega), if_neg (by omega), if_neg (by omega), if_neg (by omega), if_neg (by omega)])
      have hL' : Lay R' := Lay_g hL (fun i i1 i2 i3 => by rw [u7 i i1 (by omega) (by omega) (by omega), no i i1 (by omega)]) (fun j j1 j2 => by
        have := r0 j
        rw [hR1, up_o (by decide)] at this
        rw [this, if_neg (by omega), if_neg (by omega), if_neg (by omega), if_neg (by omega), if_neg (by omega)])
      have s5 : call (e + 49) 5 [vA 13, vA (80 + 3 * T)] (up M' 8 1 0) R' = some (vI T, M1, R1) := by
        refine call_of 3 [vA 13, vA (80 + 3 * T), vX 0] (by decide) rfl (Nat.le_of_ble_eq_true rfl) rfl ?_ rfl
        have h5 : up M' 8 1 0 13 5 = (T : Int) := by rw [up_o (by decide), m13]; exact b8
        rw [b_5_0, h5, if_neg (by omega), b_5_11 hL' _ _ kt, if_pos (by omega), h5, eT, Int.toNat_natCast, ← hM1, ← hR1, b_5_28]
      have mb : mB (M 62) Z M1 := ⟨⟨hZ2, fun i hi => by rw [FF 62 (by decide) (by decide) (by decide) (by decide) (by decide) (by omega)]; exact ⟨rfl, (t3 i (by omega)).2⟩⟩, fun i hi => by rw [FF 70 (by decide) (by decide) (by decide) (by decide) (by decide) (by omega)]; exact hWT i hi, by rw [FF 57 (by decide) (by decide) (by decide) (by decide) (by decide) (by omega)]; exact hZ⟩
      have f57 : M1 57 = M 57 := FF 57 (by decide) (by decide) (by decide) (by decide) (by decide) (by omega)
      rcases s_184 (d0 := e + 50) (by omega) (R := R1) hL1 mb (T := T) (by rw [f57]; exact b9) (by omega) with ⟨M2, o', e1, e2, e3, q2, hTR2, G, m7, m10, sg, v0, v1, v2, v3⟩ | ⟨M2, f', q2, hTR2, _⟩
      · rw [hTR] at hTR2
        cases hTR2
        have GF : ∀ i, ¬ i = 57 → ¬ i = 63 → ¬ i = 64 → ¬ i = 71 → M2 i = M1 i := fun i i1 i2 i3 i4 => G.1 i (by simp only [List.mem_cons, List.not_mem_nil, or_false, not_or]; exact ⟨i1, i2, i3, i4⟩)
        have hen' : M2 (80 + 3 * T + 1) = M' (80 + 3 * T + 1) := by rw [GF _ (by omega) (by omega) (by omega) (by omega), hM1, up_o (by omega), up_o (by omega)]
        have hco' : M2 (80 + 3 * T + 2) = M' (80 + 3 * T + 2) := by rw [GF _ (by omega) (by omega) (by omega) (by omega), hM1, up_o (by omega), up_o (by omega)]
        refine ⟨(T : Int), M1, R1, M2, start _ ?_ rfl, q2, P, Y, T + 1, t, ?_⟩
        · rw [b_99_0 hL, b8, if_pos (by omega), b_99_15 hL, q1, bsA, b_99_22 hL', if_neg (by omega), b_99_46 hL', s5, bsI, b_99_54]
        · have hlen : o.length = c1.length + c2.length + c3.length := by rw [ho, List.length_append, List.length_append]
          refine iv_text (z := 79 + 3 * T) hV ⟨by omega, by omega⟩ ⟨by omega, h00⟩ (fun i i1 i2 i3 i4 i5 i6 i7 i8 i9 i10 => by rw [GF i i6 i7 i8 i9, FF i i1 i2 i3 i4 i5 i10]) (fun i i1 i2 i3 => by rw [G.2.1 i (by omega) i2 i3, f57]) (by rw [GF 13 (by decide) (by decide) (by decide) (by decide), hM1, up_i (by decide), up_o (by decide), m13]) ⟨by rw [GF 8 (by decide) (by decide) (by decide) (by decide), hM1, up_o (by decide), up_s], m7⟩ ⟨by rw [GF 13 (by decide) (by decide) (by decide) (by decide), hM1, up_s], m10⟩ (by rw [GF 12 (by decide) (by decide) (by decide) (by decide), hM1, up_o (by decide), up_o (by decide)]; exact z0) (fun k hk => by rw [G.2.2.1 k hk, FF 63 (by decide) (by decide) (by decide) (by decide) (by decide) (by omega)]) (fun k hk => by rw [G.2.2.2 k hk, FF 64 (by decide) (by decide) (by decide) (by decide) (by decide) (by omega)]) (fun i hi => r14' i (by omega)) ro (fun j j1 j2 => by rw [r0, if_neg (by omega), if_neg (by omega), if_neg (by omega), if_neg (by omega), if_neg (by omega)]) (fun i h1 h2 => ?_) ?_
          · have : i = T := by omega
            subst this
            have hs := sg
            rw [ho] at hs
            obtain ⟨hs12, hs3⟩ := seg_a.1 hs
            obtain ⟨hs1, hs2⟩ := seg_a.1 hs12
            rw [List.length_append] at hs3
            have g1 : segm M2 i 0 = c1 := by
              unfold segm
              rw [show 4 * i + 0 = 4 * i by omega, v0, v1, show ((c1.length : Int) - 0).toNat = c1.length by omega]
              exact seg_rng hs1
            have g2 : segm M2 i 1 = c2 := by
              unfold segm
              rw [show 4 * i + 1 + 1 = 4 * i + 2 by omega, v1, v2, show (((c1.length + c2.length : Nat) : Int) - (c1.length : Int)).toNat = c2.length by omega, Int.toNat_natCast]
              have := seg_rng hs2
              rw [Nat.zero_add] at this
              exact this
            have g3 : segm M2 i 2 = c3 := by
              unfold segm
              rw [show 4 * i + 2 + 1 = 4 * i + 3 by omega, v2, v3, show ((o.length : Int) - ((c1.length + c2.length : Nat) : Int)).toNat = c3.length by omega, Int.toNat_natCast]
              have := seg_rng hs3
              rw [Nat.zero_add] at this
              exact this
            refine ⟨80 + 3 * i, 80 + 3 * i + 2, 80 + 3 * i + 1, o.length, fun j => [0, c1.length, c1.length + c2.length, o.length].getD j 0, by rw [hR1, up_s], kt, by rw [rt]; exact u1, by rw [rt]; exact u2, k2, k1, ?_, ?_, by omega, by omega, Nat.le_refl _, hl, Nat.zero_le _, Nat.le_add_right _ _, ?_, ?_, ?_, ?_⟩
            · rw [show 80 + 3 * i + 2 + 2 = 84 + 3 * i by omega, r0, if_neg (by omega), if_pos rfl]
            · rw [show 80 + 3 * i + 1 + 2 = 83 + 3 * i by omega, r0, if_pos rfl]
            · show c1.length + c2.length ≤ o.length
              omega
            · intro j hj
              rw [hen']
              rcases (by omega : j = 0 ∨ j = 1 ∨ j = 2 ∨ j = 3) with q | q | q | q <;> subst q
              · exact ⟨hen.1, v0⟩
              · exact ⟨hen.2.1, v1⟩
              · exact ⟨hen.2.2.1, v2⟩
              · exact ⟨hen.2.2.2, v3⟩
            · intro k hk
              rw [hco']
              exact seg_at sg hco k (Nat.zero_le _) (by rw [Nat.zero_add]; exact hk)
            · intro j hj
              rcases (by omega : j = 0 ∨ j = 1 ∨ j = 2) with q | q | q <;> subst q
              · rw [g1]; exact wfa_w w1
              · rw [g2]; exact wfa_w w2
              · rw [g3]; exact wfa_w w3
          · have h0 : R1 0 0 = 82 + 3 * T := by rw [r0, if_neg (by omega), if_neg (by omega), if_pos rfl]
            refine ⟨by rw [h0]; omega, ?_, fun i hi => ?_⟩
            · rw [r0, if_neg (by omega), if_neg (by omega), if_neg (by omega), if_pos rfl]
              have := hR.2.1
              omega
            · rw [h0]
              by_cases e : i = T
              · rw [e, hR1, up_s, ← hR1, rt, rt, u1, u2]
                omega
              · have hi' : i < T := by omega
                have hb := hR.2.2 i hi'
                rw [h00] at hb
                have hx := hTX i hi'
                obtain ⟨T0, co, en, L, s, x1, x2, _⟩ := hx
                rw [r14' i e, x1]
                rw [x1] at hb
                have n14 : ¬ T0 = 14 := by intro e; subst e; revert x2; decide
                have n0' : ¬ T0 = 0 := by intro e; subst e; revert x2; decide
                rw [ro T0 n0' n14 (by omega)]
                omega
      · rw [hTR] at hTR2
        cases hTR2
end
