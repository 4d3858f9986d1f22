section
/-! ===== set, force, person, move ===== -/
theorem s_78 {d0 : Nat} (hd : 1 ≤ d0) {M : MM} {R : RR} (hL : Lay R) (hv : 0 < M 22 7 ∧ M 22 7 < 2000000000) : ∃ M', call d0 78 [vA 22] M R = some (vX 0, M', R) ∧ Fx [22, 25] M M' ∧ M' 22 7 = M 22 7 + 1 ∧ ∀ p, p < 7 → M' 25 p = 0 := by
  obtain ⟨e, rfl⟩ := s_le hd
  obtain ⟨M1, ⟨a1, a2⟩, q1⟩ := loop_nat (fun i (a : MM) => run (call e) 78 2 [vA 22, vI i] [] a R) (fun i a => Fx [25] M a ∧ ∀ p, p < i → a 25 p = 0) 7 (by
    rintro i M1 hi ⟨a1, a2⟩
    have e1 : w32 ((i : Int) + 1) = ((i + 1 : Nat) : Int) := by rw [w32_i (by omega)]; omega
    refine ⟨up M1 25 i 0, ⟨Fx_t a1 (Fx_p (by decide)), ?_⟩, ?_⟩
    · intro p hp
      by_cases h : p = i
      · subst h; rw [up_s]
      · rw [up_i h]; exact a2 p (by omega)
    · rw [b_78_2 hL, if_neg (by omega), b_78_11 hL, if_pos (by omega), Int.toNat_natCast, e1]) M ⟨Fx_r, fun p hp => absurd hp (by omega)⟩
  refine ⟨up M1 22 7 (w32 (M1 22 7 + 1)), ?_, Fx_t (Fx_s a1 (by decide)) (Fx_p (by decide)), ?_, ?_⟩
  · refine call_of 2 [vA 22, vX 0] (by decide) rfl (Nat.le_of_ble_eq_true rfl) rfl ?_ rfl
    rw [b_78_0]
    refine Eq.trans q1 ?_
    rw [b_78_2 hL, if_pos (by omega), b_78_24]
  · rw [up_s, a1 22 (by decide), w32_i (by omega)]
  · intro p hp
    rw [up_o (by decide)]
    exact a2 p hp
theorem s_79 {d0 : Nat} (hd : 1 ≤ d0) {M : MM} {R : RR} (hL : Lay R) {p : Nat} (hp : p < 7) (hv : 0 < M 22 7 ∧ M 22 7 < 2000000000) : ∃ M', call d0 79 [vA 22, vI p] M R = some (vX 0, M', R) ∧ Fx [22, 25] M M' ∧ M' 22 7 = M 22 7 + 1 ∧ M' 25 p = 0 ∧ ∀ q, ¬ q = p → M' 25 q = M 25 q := by
  obtain ⟨e, rfl⟩ := s_le hd
  refine ⟨up (up M 25 p 0) 22 7 (w32 ((up M 25 p 0) 22 7 + 1)), ?_, Fx_t (Fx_p (by decide)) (Fx_p (by decide)), ?_, ?_, ?_⟩
  · refine call_of 2 [vA 22, vI p] (by decide) rfl (Nat.le_of_ble_eq_true rfl) rfl ?_ rfl
    rw [b_79_0, if_neg (by omega), b_79_4 hL, if_neg (by omega), b_79_13 hL, if_pos (by omega), Int.toNat_natCast, b_79_20]
  · rw [up_s, up_o (by decide), w32_i (by omega)]
  · rw [up_o (by decide), up_s]
  · intro q hq
    rw [up_o (by decide), up_i hq]
theorem cj_new {M M' : MM} {P Y P' Y' : Nat} (hC : CJ M P Y) (h : ∀ o, o ∈ [27, 29, 32, 33, 34, 35, 38, 39, 40, 41, 42, 43] → M' o = M o) (hv : M' 22 7 = M 22 7 + 1) (hv2 : M 22 7 + 1 < 2000000000) (hW : CW M' P' Y') : CJ M' P' Y' := by
  obtain ⟨⟨c1, c2, c3, c4, c5, c6, c7, c8, c9, c10, c11⟩, c12⟩ := hC
  have h27 := h 27 (by decide)
  refine ⟨⟨hW, spI_f (h 32 (by decide)) (h 33 (by decide)) (h 34 (by decide)) c2, spI_f (h 38 (by decide)) (h 39 (by decide)) (h 40 (by decide)) c3, spI_f (h 41 (by decide)) (h 42 (by decide)) (h 43 (by decide)) c4, by rw [h 35 (by decide)]; exact c5, by rw [h 35 (by decide)]; exact c6, by omega, ?_, ?_, ?_, ?_⟩, ?_⟩
  · rw [h27]; omega
  · rw [h27]; intro e; omega
  · rw [h27]; intro e; omega
  · rw [h27]; intro e; omega
  · rw [h 29 (by decide)]; exact c12
theorem cw_none {M : MM} {P Y : Nat} (hP : P ≤ 7) (h : ∀ p, p < 7 → M 25 p = 0) : CW M P Y := fun p hp hz => absurd (h p (by omega)) hz
theorem IM_g {M M' : MM} {P P' T : Nat} (hP : P ≤ P') (h : ∀ o, o ∈ [54, 55, 56, 65] → M' o = M o) (h12 : M' 57 12 = M 57 12) (h13 : M' 57 13 = M 57 13) (h14 : M' 57 14 = M 57 14) (h15 : M' 57 15 = M 57 15) (hI : IM M P T) : IM M' P' T := by
  unfold IM at *
  rw [h 54 (by decide), h 55 (by decide), h 56 (by decide), h 65 (by decide), h12, h13, h14, h15]
  refine ⟨hI.1, fun hz => ?_⟩
  obtain ⟨a1, a2, a3, a4, a5, a6, a7, a8, a9⟩ := hI.2 hz
  exact ⟨a1, a2, a3, a4, a5, a6, by omega, a8, a9⟩
theorem IV_mk {n P Y T t P' Y' t' : Nat} {M M' : MM} {R : RR} (hI : IV n P Y T t M R) (h1 : SCL M' P' Y' T t') (h2 : PE M' P' Y') (htx : ∀ o, o = 12 ∨ o = 20 ∨ o = 21 ∨ o = 63 ∨ o = 64 ∨ o = 70 ∨ 83 ≤ o → M' o = M o) (htp : M' 8 = M 8 ∧ M' 9 = M 9 ∧ M' 62 = M 62 ∧ M' 57 7 = M 57 7) (hsh : ∀ o, (45 ≤ o ∧ o ≤ 53) ∨ (66 ≤ o ∧ o ≤ 68) → M' o = M o) (him : IM M' P' T) (hC : CJ M' P' Y') (hv : M' 22 7 ≤ M 22 7 + 7) : IV (n + 1) P' Y' T t' M' R := by
  obtain ⟨a1, a2, a3, a4, a5, a6, a7, a8, a9, a10⟩ := hI
  refine ⟨h1, h2, fun i hi => txOk_f (fun o ho => htx o (by omega)) (a3 i hi), ?_, ?_, him, a7, hC, by omega, a10.1, by unfold WT; rw [htx 70 (by omega)]; exact a10.2.1, by rw [htx 12 (by omega)]; exact a10.2.2⟩
  · unfold TP at *
    rw [htp.1, htp.2.1, htp.2.2.1, htp.2.2.2]
    exact a4
  · intro s hs
    have := a5 s hs
    rw [hsh (46 + 2 * s) (by omega), hsh (47 + 2 * s) (by omega), hsh 66 (by omega), hsh 67 (by omega), hsh 68 (by omega)]
    exact this
theorem st_n {k : Int → AV} {d n mi mj : Nat} {as : List AV} {M : MM} {R : RR} {P Y T t : Nat} (hI : IV n P Y T t M R) (x : Int) (h1 : call d mi (vA 1 :: as) M R = some (k x, M, R)) (h2 : call d mj (vA 57 :: as) M R = some (k x, M, R)) : ST k d n mi mj as M R := st_p hI x h1 h2
theorem upf_e {f g : Nat → Int} {i : Nat} {v : Int} (h : f = g) : upf f i v = upf g i v := by rw [h]
theorem st_92 {d n : Nat} (hd : 7 ≤ d) (hn : n ≤ 1000) {M : MM} {R : RR} (hI : INV n M R) (x y z : Int) : ST vI d n 92 169 [vI x, vI y, vI z] M R := by
  obtain ⟨P, Y, T, t, hV⟩ := hI
  obtain ⟨e, rfl⟩ := s_le hd
  obtain ⟨⟨⟨b1, b2, b3⟩, ⟨b4, b5, b6, b7⟩, b8, b9, b10, b11, b12, b13⟩, ⟨p1, p2, p3, p4, p5⟩, _, _, _, hIM, hL, hC, hver, _⟩ := id hV
  have hv : 0 < M 22 7 ∧ M 22 7 < 2000000000 := hC.1.2.2.2.2.2.2.1
  have c0 : ∀ v M', run (call (e + 6)) 92 0 [vA 1, vI x, vI y, vI z] [] M R = some (vI v, M', R) → call (e + 7) 92 [vA 1, vI x, vI y, vI z] M R = some (vI v, M', R) := fun v M' h => call_of 4 [vA 1, vI x, vI y, vI z] (by decide) rfl (Nat.le_of_ble_eq_true rfl) rfl h rfl
  have r0 : ∀ v M1 M', run (call (e + 6)) 169 0 [vA 57, vI x, vI y, vI z, vX 0] [] M1 R = some (vI v, M', R) → call (e + 7) 169 [vA 57, vI x, vI y, vI z] M1 R = some (vI v, M', R) := fun v M1 M' h => call_of 5 [vA 57, vI x, vI y, vI z, vX 0] (by decide) rfl (Nat.le_of_ble_eq_true rfl) rfl h rfl
  by_cases hx : x = 0 ∨ x = 1
  · rcases hx with hx | hx
    · -- how many days
      subst hx
      have cr : ∀ v M', call (e + 6) 93 [vA 1, vI z] M R = some (vI v, M', R) → call (e + 7) 92 [vA 1, vI 0, vI y, vI z] M R = some (vI v, M', R) := by
        intro v M' h
        refine c0 v M' ?_
        rw [b_92_0, if_pos rfl, b_92_11, if_neg (by decide), b_92_15, h, bsI, b_92_20, b_92_29]
      have c93 : ∀ v M', run (call (e + 5)) 93 0 [vA 1, vI z, vX 0] [] M R = some (vI v, M', R) → call (e + 6) 93 [vA 1, vI z] M R = some (vI v, M', R) := fun v M' h => call_of 3 [vA 1, vI z, vX 0] (by decide) rfl (Nat.le_of_ble_eq_true rfl) rfl h rfl
      by_cases hz : 1 ≤ z ∧ z ≤ 24
      · by_cases hm : mx (M 7) P < z
        · obtain ⟨k, rfl⟩ : ∃ k : Nat, z = (k : Int) := ⟨z.toNat, by omega⟩
          obtain ⟨M1, q, f1, v1, m1⟩ := s_78 (d0 := e + 5) (by omega) (M := up M 2 0 k) hL (by rw [up_o (by decide)]; exact hv)
          rw [up_o (by decide)] at v1
          have F : Fx [2, 22, 25, 57] M (up M1 57 0 k) := Fx_t (Fx_p (by decide)) (Fx_t (Fx_s f1 (by decide)) (Fx_p (by decide)))
          have e57 : ∀ i, ¬ i = 0 → up M1 57 0 (k : Int) 57 i = M 57 i := fun i hi => by rw [up_i hi, f1 57 (by decide), up_o (by decide)]
          have e22 : up M1 57 0 (k : Int) 22 = M1 22 := up_o (by decide)
          have e25 : up M1 57 0 (k : Int) 25 = M1 25 := up_o (by decide)
          refine ⟨Y, M1, R, up M1 57 0 k, cr _ _ (c93 _ _ ?_), r0 _ _ _ ?_, P, k, T, t, IV_mk hV ⟨⟨by rw [F 4 (by decide)]; exact b1, by rw [e57 2 (by decide)]; exact b2, b3⟩, ⟨by rw [up_o (by decide), f1 2 (by decide), up_s], by rw [up_s], by omega, by omega⟩, by rw [F 13 (by decide)]; exact b8, by rw [e57 10 (by decide)]; exact b9, b10, by rw [F 13 (by decide)]; exact b11, by rw [e57 11 (by decide)]; exact b12, b13⟩ ⟨by rw [F 3 (by decide), F 58 (by decide)]; exact p1, by rw [F 5 (by decide), F 59 (by decide)]; exact p2, by rw [F 6 (by decide), F 60 (by decide)]; exact p3, by rw [F 7 (by decide), F 61 (by decide)]; exact p4, ?_⟩ (fun o ho => F o (by simp only [List.mem_cons, List.not_mem_nil, or_false]; omega)) ⟨F 8 (by decide), F 9 (by decide), F 62 (by decide), e57 7 (by decide)⟩ (fun o ho => F o (by simp only [List.mem_cons, List.not_mem_nil, or_false]; omega)) (IM_g (Nat.le_refl P) (fun o ho => F o (by simp only [List.mem_cons, List.not_mem_nil, or_false] at ho ⊢; omega)) (e57 12 (by decide)) (e57 13 (by decide)) (e57 14 (by decide)) (e57 15 (by decide)) hIM) ?_ (by rw [e22, v1]; omega)⟩
          · rw [b_93_0, if_neg (by omega), b_93_5, if_pos (by omega), b_93_14 hL, s_11 (by omega) hL b1 b3, bsI, b_93_21, if_pos hm, b_93_28 hL, q, bsX, b_93_51, b4]
          · have X1 : XM M1 R P Y t := by
              have hX := iv_m0 hV
              obtain ⟨h1, h2, h3, h4, h5, h6, h8, h9, h10⟩ := hX
              have g : ∀ o, ¬ o = 2 → ¬ o = 22 → ¬ o = 25 → M1 o = M o := fun o h1 h2 h3 => by rw [f1 o (by simp only [List.mem_cons, List.not_mem_nil, or_false]; omega), up_o h1]
              refine ⟨by rw [g 57 (by decide) (by decide) (by decide)]; exact h1, h2, by rw [g 57 (by decide) (by decide) (by decide)]; exact h3, h4, h5, by rw [g 57 (by decide) (by decide) (by decide)]; exact h6, h8, txOk_f (fun o ho => g o (by omega) (by omega) (by omega)) h9, ?_⟩
              rw [g 59 (by decide) (by decide) (by decide), g 60 (by decide) (by decide) (by decide), g 61 (by decide) (by decide) (by decide)]
              exact h10
            have e61 : M1 61 = M 7 := by rw [f1 61 (by decide), up_o (by decide), p4]
            rw [b_169_0, s_162 (by omega), bsI, b_169_6, b2_t (by decide), if_pos (by decide), b_169_11, if_neg (by decide), b_169_15, s_162 (by omega), bsI, b_169_22, b2_t (by omega), if_pos (by decide), b_169_49, if_neg (by decide), b_169_53, s_168 (by omega) hL (by omega) X1.1 b3, bsI, b_169_58, e61, b2_f (by omega), if_pos rfl, b_169_64, if_neg (by decide), b_169_68, b_169_81, if_neg (by decide), b_169_87, b_169_102, X1.2.2.1]
          · intro p hp
            rw [F 59 (by decide), F 60 (by decide), F 61 (by decide)]
            have h := p5 p hp
            refine ⟨h.1, h.2.1, h.2.2.1, ?_⟩
            have hk : ¬ (k : Int) ≤ mx (M 7) P := by omega
            rw [mx_iff (by omega)] at hk
            rw [← p4]
            exact Int.not_le.1 (fun g => hk ⟨p, hp, g⟩)
          · refine cj_new hC (fun o ho => F o (by simp only [List.mem_cons, List.not_mem_nil, or_false] at ho ⊢; omega)) (by rw [e22, v1]) (by omega) (cw_none b3 (fun p hp => by rw [e25]; exact m1 p hp))
        · refine st_n hV (-3) (cr _ _ (c93 _ _ ?_)) (r0 _ _ _ ?_)
          · rw [b_93_0, if_neg (by omega), b_93_5, if_pos (by omega), b_93_14 hL, s_11 (by omega) hL b1 b3, bsI, b_93_21, if_neg hm, b_93_25]
          · rw [b_169_0, s_162 (by omega), bsI, b_169_6, b2_t (by decide), if_pos (by decide), b_169_11, if_neg (by decide), b_169_15, s_162 (by omega), bsI, b_169_22, b2_t (by omega), if_pos (by decide), b_169_49, if_neg (by decide), b_169_53, s_168 (by omega) hL (by omega) b2 b3, bsI, b_169_58, ← p4, b2_t (by omega), if_neg (by decide), b_169_61]
      · refine st_n hV (-2) (cr _ _ (c93 _ _ ?_)) (r0 _ _ _ ?_)
        · rw [b_93_0]
          by_cases h1 : z < 1
          · rw [if_pos h1, b_93_11]
          · rw [if_neg h1, b_93_5, if_neg (by omega), b_93_11]
        · rw [b_169_0, s_162 (by omega), bsI, b_169_6, b2_t (by decide), if_pos (by decide), b_169_11, if_neg (by decide), b_169_15, s_162 (by omega), bsI, b_169_22, b2_f (by omega), if_neg (by decide), b_169_25, b_169_46]
    · -- a day's BORN
      subst hx
      have cr : ∀ v M', call (e + 6) 94 [vA 1, vI y, vI z] M R = some (vI v, M', R) → call (e + 7) 92 [vA 1, vI 1, vI y, vI z] M R = some (vI v, M', R) := by
        intro v M' h
        refine c0 v M' ?_
        rw [b_92_0, if_neg (by decide), b_92_4, if_pos rfl, b_92_11, if_pos (by decide), b_92_23, h, bsI, b_92_29]
      have c94 : ∀ v M', run (call (e + 5)) 94 0 [vA 1, vI y, vI z, vX 0] [] M R = some (vI v, M', R) → call (e + 6) 94 [vA 1, vI y, vI z] M R = some (vI v, M', R) := fun v M' h => call_of 4 [vA 1, vI y, vI z, vX 0] (by decide) rfl (Nat.le_of_ble_eq_true rfl) rfl h rfl
      have e2 : w32 (M 57 0 - 1) = (Y : Int) - 1 := by rw [w32_i (by omega)]; omega
      by_cases hy : 0 ≤ y ∧ y < (Y : Int)
      · obtain ⟨d', rfl⟩ : ∃ k : Nat, y = (k : Int) := ⟨y.toNat, by omega⟩
        by_cases hz : 0 ≤ z ∧ z ≤ 9
        · obtain ⟨M1, q, f1, v1, m1⟩ := s_78 (d0 := e + 5) (by omega) (M := up M 3 d' z) hL (by rw [up_o (by decide)]; exact hv)
          rw [up_o (by decide)] at v1
          have F : Fx [3, 22, 25, 58] M (up M1 58 d' z) := Fx_t (Fx_p (by decide)) (Fx_t (Fx_s f1 (by decide)) (Fx_p (by decide)))
          have e22 : up M1 58 d' z 22 = M1 22 := up_o (by decide)
          have e25 : up M1 58 d' z 25 = M1 25 := up_o (by decide)
          have f57 : M1 57 = M 57 := by rw [f1 57 (by decide), up_o (by decide)]
          have f58 : M1 58 = M 58 := by rw [f1 58 (by decide), up_o (by decide)]
          refine ⟨M 3 d', M1, R, up M1 58 d' z, cr _ _ (c94 _ _ ?_), r0 _ _ _ ?_, P, Y, T, t, IV_mk hV ⟨⟨by rw [F 4 (by decide)]; exact b1, by rw [F 57 (by decide)]; exact b2, b3⟩, ⟨by rw [F 2 (by decide)]; exact b4, by rw [F 57 (by decide)]; exact b5, b6, b7⟩, by rw [F 13 (by decide)]; exact b8, by rw [F 57 (by decide)]; exact b9, b10, by rw [F 13 (by decide)]; exact b11, by rw [F 57 (by decide)]; exact b12, b13⟩ ⟨?_, by rw [F 5 (by decide), F 59 (by decide)]; exact p2, by rw [F 6 (by decide), F 60 (by decide)]; exact p3, by rw [F 7 (by decide), F 61 (by decide)]; exact p4, ?_⟩ (fun o ho => F o (by simp only [List.mem_cons, List.not_mem_nil, or_false]; omega)) ⟨F 8 (by decide), F 9 (by decide), F 62 (by decide), by rw [F 57 (by decide)]⟩ (fun o ho => F o (by simp only [List.mem_cons, List.not_mem_nil, or_false]; omega)) (IM_g (Nat.le_refl P) (fun o ho => F o (by simp only [List.mem_cons, List.not_mem_nil, or_false] at ho ⊢; omega)) (by rw [F 57 (by decide)]) (by rw [F 57 (by decide)]) (by rw [F 57 (by decide)]) (by rw [F 57 (by decide)]) hIM) ?_ (by rw [e22, v1]; omega)⟩
          · rw [b_94_0 hL, s_90 (by omega), bsI, b_94_8, b2_t (by omega), if_neg (by decide), b_94_11, if_neg (by omega), b_94_15, if_pos (by omega), b_94_24 hL, if_pos (by omega), if_pos (by omega), Int.toNat_natCast, q, bsX, b_94_51]
          · rw [b_169_0, s_162 (by omega), bsI, b_169_6, b2_t (by decide), if_pos (by decide), b_169_11, if_pos (by decide), b_169_28, s_164 (by omega), bsI, b_169_33, f57, e2, b2_t (by omega), if_neg (by decide), b_169_36, s_162 (by omega), bsI, b_169_43, b2_t (by omega), if_pos (by decide), b_169_49, if_pos (by decide), b_169_64, if_pos (by decide), b_169_75 hL, if_pos (by omega), b_169_81, if_pos (by decide), b_169_95 hL, if_pos (by omega), Int.toNat_natCast, b_169_102, f58, p1]
          · rw [up_o (by decide), f1 3 (by decide), up_f, up_f, f58]
            exact upf_e p1
          · rw [F 59 (by decide), F 60 (by decide), F 61 (by decide)]
            exact p5
          · refine cj_new hC (fun o ho => F o (by simp only [List.mem_cons, List.not_mem_nil, or_false] at ho ⊢; omega)) (by rw [e22, v1]) (by omega) (cw_none b3 (fun p hp => by rw [e25]; exact m1 p hp))
        · refine st_n hV (-2) (cr _ _ (c94 _ _ ?_)) (r0 _ _ _ ?_)
          · rw [b_94_0 hL, s_90 (by omega), bsI, b_94_8, b2_t (by omega), if_neg (by decide), b_94_11]
            by_cases h1 : z < 0
            · rw [if_pos h1, b_94_21]
            · rw [if_neg h1, b_94_15, if_neg (by omega), b_94_21]
          · rw [b_169_0, s_162 (by omega), bsI, b_169_6, b2_t (by decide), if_pos (by decide), b_169_11, if_pos (by decide), b_169_28, s_164 (by omega), bsI, b_169_33, e2, b2_t (by omega), if_neg (by decide), b_169_36, s_162 (by omega), bsI, b_169_43, b2_f (by omega), if_neg (by decide), b_169_46]
      · refine st_n hV (-2) (cr _ _ (c94 _ _ ?_)) (r0 _ _ _ ?_)
        · rw [b_94_0 hL, s_90 (by omega), bsI, b_94_8, b2_f (by omega), if_pos rfl, b_94_21]
        · rw [b_169_0, s_162 (by omega), bsI, b_169_6, b2_t (by decide), if_pos (by decide), b_169_11, if_pos (by decide), b_169_28, s_164 (by omega), bsI, b_169_33, e2, b2_f (by omega), if_pos rfl, b_169_46]
  · refine st_n hV (-1) (c0 _ _ ?_) (r0 _ _ _ ?_)
    · rw [b_92_0, if_neg (by omega), b_92_4, if_neg (by omega), b_92_9]
    · rw [b_169_0, s_162 (by omega), bsI, b_169_6, b2_f (by omega), if_neg (by decide), b_169_9]
end
