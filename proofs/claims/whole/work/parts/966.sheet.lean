section
/-! ===== sheets: sheet, cell, copy ===== -/
theorem IV_sh {n P Y T t : Nat} {M M' : MM} {R : RR} (hI : IV n P Y T t M R) (h : ∀ o, keepO o → ¬ (46 ≤ o ∧ o ≤ 53) → ¬ (66 ≤ o ∧ o ≤ 68) → M' o = M o) (hS : SH M') (hC : CJ M' P Y) : IV (n + 1) P Y T t M' R := by
  obtain ⟨a1, a2, a3, a4, a5, a6, a7, a8, a9, a10⟩ := hI
  have g : ∀ o, (o ≤ 14 ∨ (17 ≤ o ∧ o ≤ 22) ∨ (45 ≤ o ∧ o ≤ 70) ∨ 83 ≤ o) → ¬ (46 ≤ o ∧ o ≤ 53) → ¬ (66 ≤ o ∧ o ≤ 68) → M' o = M o := fun o ho => h o ho
  refine ⟨?_, ?_, ?_, ?_, hS, ?_, a7, hC, ?_, a10.1, by unfold WT; rw [g 70 (by omega) (by omega) (by omega)]; exact a10.2.1, by rw [g 12 (by omega) (by omega) (by omega)]; exact a10.2.2⟩
  · unfold SCL at *
    rw [g 4 (by omega) (by omega) (by omega), g 57 (by omega) (by omega) (by omega), g 2 (by omega) (by omega) (by omega), g 13 (by omega) (by omega) (by omega)]
    exact a1
  · unfold PE at *
    rw [g 3 (by omega) (by omega) (by omega), g 58 (by omega) (by omega) (by omega), g 5 (by omega) (by omega) (by omega), g 59 (by omega) (by omega) (by omega), g 6 (by omega) (by omega) (by omega), g 60 (by omega) (by omega) (by omega), g 7 (by omega) (by omega) (by omega), g 61 (by omega) (by omega) (by omega)]
    exact a2
  · exact fun i hi => txOk_f (fun o ho => g o (by omega) (by omega) (by omega)) (a3 i hi)
  · unfold TP at *
    rw [g 8 (by omega) (by omega) (by omega), g 9 (by omega) (by omega) (by omega), g 57 (by omega) (by omega) (by omega), g 62 (by omega) (by omega) (by omega)]
    exact a4
  · unfold IM at *
    rw [g 54 (by omega) (by omega) (by omega), g 55 (by omega) (by omega) (by omega), g 56 (by omega) (by omega) (by omega), g 57 (by omega) (by omega) (by omega), g 65 (by omega) (by omega) (by omega)]
    exact a6
  · rw [g 22 (by omega) (by omega) (by omega)]
    omega
/-- one sheet is new -/
theorem SH_n {M M' : MM} {s : Nat} {so sz : Int} (hS : SH M) (hs : s < 4) (h1 : M' (46 + 2 * s) 0 = so ∧ M' (46 + 2 * s) 1 = sz ∧ M' 66 s = so ∧ M' 67 s = sz) (hso : -1 ≤ so ∧ so ≤ 2) (hsz : 0 ≤ sz ∧ sz ≤ 40) (hn : ∀ i, i < 40 → M' (47 + 2 * s) i = M' 68 (40 * s + i)) (ho : ∀ r, r < 4 → ¬ r = s → M' (46 + 2 * r) = M (46 + 2 * r) ∧ M' (47 + 2 * r) = M (47 + 2 * r) ∧ M' 66 r = M 66 r ∧ M' 67 r = M 67 r ∧ ∀ i, i < 40 → M' 68 (40 * r + i) = M 68 (40 * r + i)) : SH M' := by
  intro r hr
  by_cases e : r = s
  · subst e
    rw [h1.1, h1.2.1, h1.2.2.1, h1.2.2.2]
    exact ⟨rfl, rfl, hso, hsz, hn⟩
  · obtain ⟨o1, o2, o3, o4, o5⟩ := ho r hr e
    have h := hS r hr
    rw [o1, o2, o3, o4]
    exact ⟨h.1, h.2.1, h.2.2.1, h.2.2.2.1, fun i hi => by rw [o5 i hi]; exact h.2.2.2.2 i hi⟩
theorem r_251 {e : Nat} {M : MM} {R : RR} (hL : Lay R) {s : Nat} {y z : Int} (hs : s < 4) : ∃ M', run (call e) 251 44 [vA 57, vI s, vI y, vI z, vX 0] [] M R = some (vI 1, M', R) ∧ Fx [66, 67, 68] M M' ∧ M' 66 = upf (M 66) s y ∧ M' 67 = upf (M 67) s (if y = -1 then 0 else z) ∧ (∀ i, i < 40 → M' 68 (40 * s + i) = 0) ∧ ∀ j, ¬ (40 * s ≤ j ∧ j < 40 * s + 40) → M' 68 j = M 68 j := by
  obtain ⟨N, hN⟩ : ∃ N, N = up (up M 66 s y) 67 s (if y = -1 then 0 else z) := ⟨_, rfl⟩
  have FN : Fx [66, 67] M N := by rw [hN]; exact Fx_t (Fx_p (by decide)) (Fx_p (by decide))
  obtain ⟨M1, ⟨a1, a2, a3⟩, q1⟩ := loop_nat (fun i (a : MM) => run (call e) 251 70 [vA 57, vI s, vI y, vI z, vI i] [] a R) (fun i a => Fx [68] N a ∧ (∀ j, j < i → a 68 (40 * s + j) = 0) ∧ ∀ j, ¬ (40 * s ≤ j ∧ j < 40 * s + 40) → a 68 j = M 68 j) 40 (by
    rintro i M1 hi ⟨a1, a2, a3⟩
    have e1 : w32 ((i : Int) + 1) = ((i + 1 : Nat) : Int) := by rw [w32_i (by omega)]; omega
    have e2 : w32 (w32 (40 * (s : Int)) + (i : Int)) = ((40 * s + i : Nat) : Int) := by
      simp (disch := omega) only [w32_i]; omega
    refine ⟨up M1 68 (40 * s + i) 0, ⟨Fx_t a1 (Fx_p (by decide)), ?_, ?_⟩, ?_⟩
    · intro j hj
      by_cases h : j = i
      · subst h; rw [up_s]
      · rw [up_i (by omega)]; exact a2 j (by omega)
    · intro j hj
      rw [up_i (by omega)]; exact a3 j hj
    · rw [b_251_70, if_neg (by omega), b_251_77 hL, e2, if_pos (by omega), Int.toNat_natCast, e1]) N ⟨Fx_r, fun p hp => absurd hp (by omega), fun j _ => by rw [FN 68 (by decide)]⟩
  refine ⟨M1, ?_, Fx_t (Fx_s FN (by decide)) (Fx_s a1 (by decide)), ?_, ?_, a2, a3⟩
  · have go : run (call e) 251 70 [vA 57, vI s, vI y, vI z, vI 0] [] N R = some (vI 1, M1, R) := by
      refine Eq.trans q1 ?_
      rw [b_251_70, if_pos (by omega), b_251_96]
    rw [b_251_44 hL, if_pos (by omega), Int.toNat_natCast]
    by_cases h : y = -1
    · rw [if_pos h] at hN
      rw [if_neg (by omega), b_251_61, b_251_66 hL, if_pos (by omega), Int.toNat_natCast, ← hN]
      exact go
    · rw [if_neg h] at hN
      rw [if_pos h, b_251_65, b_251_66 hL, if_pos (by omega), Int.toNat_natCast, ← hN]
      exact go
  · rw [a1 66 (by decide), hN, up_o (by decide), up_f]
  · rw [a1 67 (by decide), hN, up_f, up_o (by decide)]
theorem shO_l {R : RR} (hL : Lay R) {s : Nat} (hs : s < 4) : shO R (46 + 2 * s) (47 + 2 * s) := by
  obtain ⟨l1, l2, l3, l4, l5⟩ := sh_l hL hs
  exact ⟨l4, l2, l5, l3, by omega⟩
theorem st_151 {d n : Nat} (hd : 7 ≤ d) {M : MM} {R : RR} (hI : INV n M R) (x y z : Int) : ST vI d n 151 251 [vI x, vI y, vI z] M R := by
  obtain ⟨P, Y, T, t, hV⟩ := hI
  obtain ⟨e, rfl⟩ := s_le hd
  obtain ⟨_, _, _, _, hS, _, hL, hC, _⟩ := id hV
  have c0 : ∀ v M', run (call (e + 6)) 151 0 [vA 1, vI x, vI y, vI z] [] M R = some (vI v, M', R) → call (e + 7) 151 [vA 1, vI x, vI y, vI z] M R = some (vI v, M', R) := fun v M' h => call_of 4 [vA 1, vI x, vI y, vI z] (by decide) rfl (Nat.le_of_ble_eq_true rfl) rfl h rfl
  have r0 : ∀ v M1 M', run (call (e + 6)) 251 0 [vA 57, vI x, vI y, vI z, vX 0] [] M1 R = some (vI v, M', R) → call (e + 7) 251 [vA 57, vI x, vI y, vI z] M1 R = some (vI v, M', R) := fun v M1 M' h => call_of 5 [vA 57, vI x, vI y, vI z, vX 0] (by decide) rfl (Nat.le_of_ble_eq_true rfl) rfl h rfl
  by_cases gx : 0 ≤ x ∧ x < 4
  · obtain ⟨s, rfl⟩ : ∃ k : Nat, x = (k : Int) := ⟨x.toNat, by omega⟩
    have hs : s < 4 := by omega
    obtain ⟨l1, l2, l3, l4, l5⟩ := sh_l hL hs
    by_cases gy : -1 ≤ y ∧ y ≤ 2
    · have cp : run (call (e + 6)) 151 0 [vA 1, vI s, vI y, vI z] [] M R = run (call (e + 6)) 151 20 [vA 1, vI s, vI y, vI z] [] M R := by
        rw [b_151_0, s_149 (by omega), bsI, b_151_4, b2_t gx, if_neg (by decide), b_151_7, if_neg (by omega), b_151_12, if_pos (by omega)]
      have rp : ∀ M1, run (call (e + 6)) 251 0 [vA 57, vI s, vI y, vI z, vX 0] [] M1 R = run (call (e + 6)) 251 18 [vA 57, vI s, vI y, vI z, vX 0] [] M1 R := by
        intro M1
        rw [b_251_0, s_162 (by omega), bsI, b_251_6, b2_t (by omega), if_neg (by decide), b_251_9, s_162 (by omega), bsI, b_251_15, b2_t gy, if_neg (by decide)]
      by_cases gz : y = -1 ∨ (0 ≤ z ∧ z ≤ 40)
      · obtain ⟨M1, q1, f1, h1, h2⟩ := s_35 (d0 := e + 6) (by omega) (M := M) y (if y = -1 then 0 else z) (shO_l hL hs)
        obtain ⟨M2, q2, f2, k1, k2, k3, k4⟩ := r_251 (e := e + 6) (M := M1) hL (s := s) (y := y) (z := z) hs
        have f1' : ∀ o, ¬ o = 46 + 2 * s → ¬ o = 47 + 2 * s → M1 o = M o := fun o g1 g2 => f1 o (by simp only [List.mem_cons, List.not_mem_nil, or_false]; omega)
        have f2' : ∀ o, ¬ (66 ≤ o ∧ o ≤ 68) → M2 o = M1 o := fun o g => f2 o (by simp only [List.mem_cons, List.not_mem_nil, or_false]; omega)
        refine ⟨1, M1, R, M2, c0 _ _ ?_, r0 _ _ _ ?_, P, Y, T, t, IV_sh hV (fun o ho g1 g2 => by rw [f2' o g2, f1' o (by omega) (by omega)]) ?_ ?_⟩
        · rw [cp, b_151_20]
          by_cases hy : y = -1
          · rw [if_pos hy] at q1
            rw [if_neg (by omega), b_151_25 hL _ _ _ (by rw [Int.toNat_natCast, l1]; exact l4), if_pos (by omega), Int.toNat_natCast, l1, q1, bsX, b_151_36]
          · rw [if_neg hy] at q1
            rw [if_pos hy, b_151_38, if_pos (by omega), b_151_47, if_pos (by omega), b_151_54 hL _ _ _ (by rw [Int.toNat_natCast, l1]; exact l4), if_pos (by omega), Int.toNat_natCast, l1, q1, bsX, b_151_65]
        · rw [rp, b_251_18]
          by_cases hy : y = -1
          · rw [if_pos hy, b_251_32, if_pos hy, q2]
          · rw [if_neg hy, b_251_23, if_pos (by omega), b_251_32, if_neg hy, b_251_37, if_pos (by omega), q2]
        · refine SH_n (so := y) (sz := if y = -1 then 0 else z) hS hs ⟨?_, ?_, ?_, ?_⟩ gy (by split <;> omega) ?_ ?_
          · rw [f2' _ (by omega), h1, upf_n (by decide), upf_s]
          · rw [f2' _ (by omega), h1, upf_s]
          · rw [k1, upf_s]
          · rw [k2, upf_s]
          · intro i hi
            rw [f2' _ (by omega), h2 i hi, k3 i hi]
          · intro r hr hne
            rw [f2' _ (by omega), f2' _ (by omega), f1' _ (by omega) (by omega), f1' _ (by omega) (by omega), k1, k2, upf_n hne, upf_n hne, f1' 66 (by omega) (by omega), f1' 67 (by omega) (by omega)]
            refine ⟨rfl, rfl, rfl, rfl, fun i hi => ?_⟩
            rw [k4 _ (by omega), f1' 68 (by omega) (by omega)]
        · exact CJ_g (fun o ho => by
            simp only [List.mem_cons, List.not_mem_nil, or_false] at ho
            rw [f2' o (by omega), f1' o (by omega) (by omega)]) hC
      · have hy : ¬ y = -1 := fun h => gz (.inl h)
        by_cases g40 : z ≤ 40
        · refine st_n hV (-14) (c0 _ _ ?_) (r0 _ _ _ ?_)
          · rw [cp, b_151_20, if_pos hy, b_151_38, if_pos g40, b_151_47, if_neg (by omega), b_151_51]
          · rw [rp, b_251_18, if_neg hy, b_251_23, if_pos g40, b_251_32, if_neg hy, b_251_37, if_neg (by omega), b_251_41]
        · refine st_n hV (-2) (c0 _ _ ?_) (r0 _ _ _ ?_)
          · rw [cp, b_151_20, if_pos hy, b_151_38, if_neg g40, b_151_44]
          · rw [rp, b_251_18, if_neg hy, b_251_23, if_neg g40, b_251_29]
    · refine st_n hV (-2) (c0 _ _ ?_) (r0 _ _ _ ?_)
      · rw [b_151_0, s_149 (by omega), bsI, b_151_4, b2_t gx, if_neg (by decide), b_151_7]
        by_cases h1 : y < -1
        · rw [if_pos h1, b_151_17]
        · rw [if_neg h1, b_151_12, if_neg (by omega), b_151_17]
      · rw [b_251_0, s_162 (by omega), bsI, b_251_6, b2_t (by omega), if_neg (by decide), b_251_9, s_162 (by omega), bsI, b_251_15, b2_f gy, if_pos rfl, b_251_29]
  · refine st_n hV (-2) (c0 _ _ ?_) (r0 _ _ _ ?_)
    · rw [b_151_0, s_149 (by omega), bsI, b_151_4, b2_f gx, if_pos rfl, b_151_17]
    · rw [b_251_0, s_162 (by omega), bsI, b_251_6, b2_f (by omega), if_pos rfl, b_251_29]
theorem st_152 {d n : Nat} (hd : 7 ≤ d) {M : MM} {R : RR} (hI : INV n M R) (x y z : Int) : ST vI d n 152 252 [vI x, vI y, vI z] M R := by
  obtain ⟨P, Y, T, t, hV⟩ := hI
  obtain ⟨e, rfl⟩ := s_le hd
  obtain ⟨_, _, _, _, hS, _, hL, hC, _⟩ := id hV
  have c0 : ∀ v M', run (call (e + 6)) 152 0 [vA 1, vI x, vI y, vI z, vX 0] [] M R = some (vI v, M', R) → call (e + 7) 152 [vA 1, vI x, vI y, vI z] M R = some (vI v, M', R) := fun v M' h => call_of 5 [vA 1, vI x, vI y, vI z, vX 0] (by decide) rfl (Nat.le_of_ble_eq_true rfl) rfl h rfl
  have r0 : ∀ v M1 M', run (call (e + 6)) 252 0 [vA 57, vI x, vI y, vI z] [] M1 R = some (vI v, M', R) → call (e + 7) 252 [vA 57, vI x, vI y, vI z] M1 R = some (vI v, M', R) := fun v M1 M' h => call_of 4 [vA 57, vI x, vI y, vI z] (by decide) rfl (Nat.le_of_ble_eq_true rfl) rfl h rfl
  by_cases gx : 0 ≤ x ∧ x < 4
  · obtain ⟨s, rfl⟩ : ∃ k : Nat, x = (k : Int) := ⟨x.toNat, by omega⟩
    have hs : s < 4 := by omega
    obtain ⟨l1, l2, l3, l4, l5⟩ := sh_l hL hs
    obtain ⟨s1, s2, s3, s4, s5⟩ := hS s hs
    have cS0 : cS M s = M 66 s := s1
    by_cases gm : M 66 s = -1
    · refine st_n hV (-11) (c0 _ _ ?_) (r0 _ _ _ ?_)
      · rw [b_152_0, p_150 (by omega) hL, if_pos gx, Int.toNat_natCast, if_pos (by rw [cS0]; exact gm), bsI, b_152_5, if_neg (by decide), b_152_12]
      · rw [b_252_0, s_162 (by omega), bsI, b_252_6, b2_t (by omega), if_pos (by decide), b_252_12 hL, if_pos gx, Int.toNat_natCast, if_neg (by omega), b_252_22]
    · have cp : run (call (e + 6)) 152 0 [vA 1, vI s, vI y, vI z, vX 0] [] M R = run (call (e + 6)) 152 15 [vA 1, vI s, vI y, vI z, vI 0] [] M R := by
        rw [b_152_0, p_150 (by omega) hL, if_pos gx, Int.toNat_natCast, if_neg (by rw [cS0]; exact gm), bsI, b_152_5, if_pos rfl]
      have rp : ∀ M1, M1 66 = M 66 → M1 67 = M 67 → run (call (e + 6)) 252 0 [vA 57, vI s, vI y, vI z] [] M1 R = run (call (e + 6)) 252 38 [vA 57, vI s, vI y, vI z] [vI (b2 (0 ≤ y ∧ y ≤ M 67 s - 1))] M1 R := by
        intro M1 g66 g67
        rw [b_252_0, s_162 (by omega), bsI, b_252_6, b2_t (by omega), if_pos (by decide), b_252_12 hL, if_pos gx, Int.toNat_natCast, g66, if_pos gm, b_252_25 hL, if_pos gx, s_162 (by omega), bsI, Int.toNat_natCast, g67, w32_i (by omega)]
      by_cases gy : 0 ≤ y ∧ y < M 67 s
      · obtain ⟨i, rfl⟩ : ∃ k : Nat, y = (k : Int) := ⟨y.toNat, by omega⟩
        have q36 := s_36 (d0 := e + 6) (by omega) (M := M) (i := i) z (shO_l hL hs) (by omega) (by omega)
        have ei : w32 (w32 (40 * (s : Int)) + (i : Int)) = ((40 * s + i : Nat) : Int) := by
          simp (disch := omega) only [w32_i]; omega
        obtain ⟨M1, hM1⟩ : ∃ M1, M1 = up M (47 + 2 * s) i (fit (M (46 + 2 * s) 0) z) := ⟨_, rfl⟩
        have f1' : ∀ o, ¬ o = 47 + 2 * s → M1 o = M o := fun o g => by rw [hM1, up_o g]
        rw [← hM1] at q36
        refine ⟨1, M1, R, up M1 68 (40 * s + i) (fit (M 66 s) z), c0 _ _ ?_, r0 _ _ _ ?_, P, Y, T, t, IV_sh hV (fun o ho g1 g2 => by rw [up_o (by omega), f1' o (by omega)]) ?_ ?_⟩
        · rw [cp, b_152_15, if_neg (by omega), b_152_19 hL _ _ _ _ (by rw [Int.toNat_natCast, l1]; exact l4), if_pos gx, Int.toNat_natCast, l1, if_pos (by omega), b_152_35 hL _ _ _ _ (by rw [Int.toNat_natCast, l1]; exact l4), if_pos gx, Int.toNat_natCast, l1, q36, bsX, b_152_46]
        · have g66 : M1 66 = M 66 := f1' 66 (by omega)
          have g67 : M1 67 = M 67 := f1' 67 (by omega)
          rw [rp M1 g66 g67, b_252_38, b2_t (by omega), if_pos (by decide), b_252_44 hL, if_pos gx, Int.toNat_natCast, g66]
          unfold fit
          by_cases h0 : M 66 s = 0
          · rw [if_neg (by omega), b_252_63, b_252_84 hL, ei, if_pos (by omega), Int.toNat_natCast, if_pos h0]
          · rw [if_pos h0, b_252_68 hL, if_pos gx, Int.toNat_natCast, g66, if_neg h0]
            by_cases h1 : M 66 s = 1
            · rw [if_neg (by omega), b_252_78, b_252_84 hL, ei, if_pos (by omega), Int.toNat_natCast, if_pos h1]
            · rw [if_pos h1, b_252_83, b_252_84 hL, ei, if_pos (by omega), Int.toNat_natCast, if_neg h1]
        · refine SH_n (so := M 66 s) (sz := M 67 s) hS hs ⟨?_, ?_, ?_, ?_⟩ s3 s4 ?_ ?_
          · rw [up_o (by omega), f1' _ (by omega)]; exact s1
          · rw [up_o (by omega), f1' _ (by omega)]; exact s2
          · rw [up_o (by omega), f1' _ (by omega)]
          · rw [up_o (by omega), f1' _ (by omega)]
          · intro j hj
            rw [up_o (by omega), hM1]
            by_cases h : j = i
            · subst h
              rw [up_s, up_s, s1]
            · rw [up_i h, up_i (by omega), up_o (by omega)]
              exact s5 j hj
          · intro r hr hne
            rw [up_o (by omega), up_o (by omega), up_o (by omega), up_o (by omega), f1' _ (by omega), f1' _ (by omega), f1' _ (by omega), f1' _ (by omega)]
            refine ⟨rfl, rfl, rfl, rfl, fun j hj => ?_⟩
            rw [up_i (by omega), f1' 68 (by omega)]
        · exact CJ_g (fun o ho => by
            simp only [List.mem_cons, List.not_mem_nil, or_false] at ho
            rw [up_o (by omega), f1' o (by omega)]) hC
      · refine st_n hV (-12) (c0 _ _ ?_) (r0 _ _ _ ?_)
        · rw [cp, b_152_15]
          by_cases h0 : y < 0
          · rw [if_pos h0, b_152_32]
          · rw [if_neg h0, b_152_19 hL _ _ _ _ (by rw [Int.toNat_natCast, l1]; exact l4), if_pos gx, Int.toNat_natCast, l1, if_neg (by omega), b_152_32]
        · rw [rp M rfl rfl, b_252_38, b2_f (by omega), if_neg (by decide), b_252_41]
  · refine st_n hV (-2) (c0 _ _ ?_) (r0 _ _ _ ?_)
    · rw [b_152_0, p_150 (by omega) hL, if_neg gx, bsI, b_152_5, if_neg (by decide), b_152_12]
    · rw [b_252_0, s_162 (by omega), bsI, b_252_6, b2_f (by omega), if_neg (by decide), b_252_9]
/-- so many cells, taken along -/
theorem r_253 {e : Nat} {M : MM} {R : RR} (hL : Lay R) {x1 x2 x3 x4 : Int} {a b m : Nat} (ha : a + m ≤ 160) (hb : b + m ≤ 160) : ∃ M', run (call e) 253 147 [vA 57, vI x1, vI x2, vI x3, vI x4, vI m, vI a, vI b, vI 0, vX 0] [] M R = some (vI m, M', R) ∧ Fx [68] M M' ∧ ∀ j, M' 68 j = if b ≤ j ∧ j < b + m then M 68 (a + (j - b)) else M 68 j := by
  by_cases hab : b ≤ a
  · obtain ⟨⟨u, M1⟩, ⟨f1, g1⟩, q1⟩ := loop_nat (fun i (s : AV × MM) => run (call e) 253 147 [vA 57, vI x1, vI x2, vI x3, vI x4, vI m, vI a, vI b, vI i, s.1] [] s.2 R) (fun i s => Fx [68] M s.2 ∧ ∀ j, s.2 68 j = if b ≤ j ∧ j < b + i then M 68 (a + (j - b)) else M 68 j) m (by
      rintro i ⟨u, M1⟩ hi ⟨f1, g1⟩
      try dsimp only at f1 g1
      have e1 : w32 ((i : Int) + 1) = ((i + 1 : Nat) : Int) := by rw [w32_i (by omega)]; omega
      have ea : w32 ((a : Int) + (i : Int)) = ((a + i : Nat) : Int) := by rw [w32_i (by omega)]; omega
      have eb : w32 ((b : Int) + (i : Int)) = ((b + i : Nat) : Int) := by rw [w32_i (by omega)]; omega
      refine ⟨(vI i, up M1 68 (b + i) (M1 68 (a + i))), ⟨Fx_t f1 (Fx_p (by decide)), ?_⟩, ?_⟩
      · intro j
        try dsimp only
        by_cases h : j = b + i
        · subst h
          rw [up_s, if_pos (by omega), g1, if_neg (by omega), show a + (b + i - b) = a + i by omega]
        · rw [up_i h, g1]
          by_cases g : b ≤ j ∧ j < b + i
          · rw [if_pos g, if_pos (by omega)]
          · rw [if_neg g, if_neg (by omega)]
      · show run (call e) 253 147 [vA 57, vI x1, vI x2, vI x3, vI x4, vI m, vI a, vI b, vI i, u] [] M1 R = _
        rw [b_253_147, if_neg (by omega), b_253_154, if_pos (by omega), b_253_171, b_253_173 hL, ea, eb, if_pos (by omega), if_pos (by omega), Int.toNat_natCast, Int.toNat_natCast, e1]) (vX 0, M) ⟨Fx_r, fun j => by rw [if_neg (by omega)]⟩
    refine ⟨M1, ?_, f1, g1⟩
    refine Eq.trans q1 ?_
    rw [b_253_147, if_pos (by omega), b_253_201]
  · obtain ⟨⟨u, M1⟩, ⟨f1, g1⟩, q1⟩ := loop_nat (fun i (s : AV × MM) => run (call e) 253 147 [vA 57, vI x1, vI x2, vI x3, vI x4, vI m, vI a, vI b, vI i, s.1] [] s.2 R) (fun i s => Fx [68] M s.2 ∧ ∀ j, s.2 68 j = if b + (m - i) ≤ j ∧ j < b + m then M 68 (a + (j - b)) else M 68 j) m (by
      rintro i ⟨u, M1⟩ hi ⟨f1, g1⟩
      try dsimp only at f1 g1
      have e1 : w32 ((i : Int) + 1) = ((i + 1 : Nat) : Int) := by rw [w32_i (by omega)]; omega
      have em : w32 (w32 ((m : Int) - 1) - (i : Int)) = ((m - 1 - i : Nat) : Int) := by
        simp (disch := omega) only [w32_i]; omega
      have ea : w32 ((a : Int) + ((m - 1 - i : Nat) : Int)) = ((a + (m - 1 - i) : Nat) : Int) := by rw [w32_i (by omega)]; omega
      have eb : w32 ((b : Int) + ((m - 1 - i : Nat) : Int)) = ((b + (m - 1 - i) : Nat) : Int) := by rw [w32_i (by omega)]; omega
      refine ⟨(vI ((m - 1 - i : Nat) : Int), up M1 68 (b + (m - 1 - i)) (M1 68 (a + (m - 1 - i)))), ⟨Fx_t f1 (Fx_p (by decide)), ?_⟩, ?_⟩
      · intro j
        try dsimp only
        by_cases h : j = b + (m - 1 - i)
        · subst h
          rw [up_s, if_pos (by omega), g1, if_neg (by omega), show a + (b + (m - 1 - i) - b) = a + (m - 1 - i) by omega]
        · rw [up_i h, g1]
          by_cases g : b + (m - i) ≤ j ∧ j < b + m
          · rw [if_pos g, if_pos (by omega)]
          · rw [if_neg g, if_neg (by omega)]
      · show run (call e) 253 147 [vA 57, vI x1, vI x2, vI x3, vI x4, vI m, vI a, vI b, vI i, u] [] M1 R = _
        rw [b_253_147, if_neg (by omega), b_253_154, if_neg (by omega), b_253_161, em, b_253_173 hL, ea, eb, if_pos (by omega), if_pos (by omega), Int.toNat_natCast, Int.toNat_natCast, e1]) (vX 0, M) ⟨Fx_r, fun j => by rw [if_neg (by omega)]⟩
    try dsimp only at f1 g1
    refine ⟨M1, ?_, f1, fun j => by rw [g1 j, Nat.sub_self, Nat.add_zero]⟩
    refine Eq.trans q1 ?_
    rw [b_253_147, if_pos (by omega), b_253_201]
end
