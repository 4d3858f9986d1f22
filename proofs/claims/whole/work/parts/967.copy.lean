section
/-! ===== sheets: copy, film, people by a sheet ===== -/
theorem st_153 {d n : Nat} (hd : 7 ≤ d) {M : MM} {R : RR} (hI : INV n M R) (x y z u v : Int) (hv : v < 2147483648) : ST vI d n 153 253 [vI x, vI y, vI z, vI u, vI v] M R := by
  obtain ⟨P, Y, T, t, hV⟩ := hI
  obtain ⟨e, rfl⟩ := s_le hd
  obtain ⟨_, _, _, _, hS, _, hL, hC, _⟩ := id hV
  have c0 : ∀ w M', run (call (e + 6)) 153 0 [vA 1, vI x, vI y, vI z, vI u, vI v, vX 0, vX 0] [] M R = some (vI w, M', R) → call (e + 7) 153 [vA 1, vI x, vI y, vI z, vI u, vI v] M R = some (vI w, M', R) := fun w M' h => call_of 8 [vA 1, vI x, vI y, vI z, vI u, vI v, vX 0, vX 0] (by decide) rfl (Nat.le_of_ble_eq_true rfl) rfl h rfl
  have r0 : ∀ w M1 M', run (call (e + 6)) 253 0 [vA 57, vI x, vI y, vI z, vI u, vI v, vX 0, vX 0, vX 0, vX 0] [] M1 R = some (vI w, M', R) → call (e + 7) 253 [vA 57, vI x, vI y, vI z, vI u, vI v] M1 R = some (vI w, M', R) := fun w M1 M' h => call_of 10 [vA 57, vI x, vI y, vI z, vI u, vI v, vX 0, vX 0, vX 0, vX 0] (by decide) rfl (Nat.le_of_ble_eq_true rfl) rfl h rfl
  by_cases gx : 0 ≤ x ∧ x < 4
  · by_cases gz : 0 ≤ z ∧ z < 4
    · obtain ⟨s, rfl⟩ : ∃ k : Nat, x = (k : Int) := ⟨x.toNat, by omega⟩
      obtain ⟨o, rfl⟩ : ∃ k : Nat, z = (k : Int) := ⟨z.toNat, by omega⟩
      have hs : s < 4 := by omega
      have ho : o < 4 := by omega
      obtain ⟨l1, l2, l3, l4, l5⟩ := sh_l hL hs
      obtain ⟨m1, m2, m3, m4, m5⟩ := sh_l hL ho
      obtain ⟨s1, s2, s3, s4, s5⟩ := hS s hs
      obtain ⟨o1, o2, o3, o4, o5⟩ := hS o ho
      have cp : run (call (e + 6)) 153 0 [vA 1, vI s, vI y, vI o, vI u, vI v, vX 0, vX 0] [] M R = run (call (e + 6)) 153 38 [vA 1, vI s, vI y, vI o, vI u, vI v, vA (46 + 2 * s), vA (46 + 2 * o)] [vI (b2 (M 66 s = -1))] M R := by
        rw [b_153_0, s_149 (by omega), bsI, b_153_4, b2_t gx, if_neg (by decide), b_153_7, s_149 (by omega), bsI, b_153_11, b2_t gz, if_pos (by decide), b_153_17 hL _ _ _ _ _ (by rw [Int.toNat_natCast, l1]; exact l4), if_pos gx, if_pos gz, Int.toNat_natCast, Int.toNat_natCast, l1, m1, s_34 (by omega) _ l4, bsI, s1]
      have rp : ∀ M1, run (call (e + 6)) 253 0 [vA 57, vI s, vI y, vI o, vI u, vI v, vX 0, vX 0, vX 0, vX 0] [] M1 R = run (call (e + 6)) 253 21 [vA 57, vI s, vI y, vI o, vI u, vI v, vX 0, vX 0, vX 0, vX 0] [] M1 R := by
        intro M1
        rw [b_253_0, s_162 (by omega), bsI, b_253_6, b2_t (by omega), if_neg (by decide), b_253_9, s_162 (by omega), bsI, b_253_15, b2_t (by omega), if_pos (by decide)]
      by_cases gs : M 66 s = -1
      · refine st_n hV (-11) (c0 _ _ ?_) (r0 _ _ _ ?_)
        · rw [cp, b_153_38, b2_t gs, if_pos (by decide), b_153_49]
        · rw [rp, b_253_21 hL, if_pos gx, Int.toNat_natCast, if_pos gs, b_253_41]
      by_cases go : M 66 o = -1
      · refine st_n hV (-11) (c0 _ _ ?_) (r0 _ _ _ ?_)
        · rw [cp, b_153_38, b2_f gs, if_neg (by decide), b_153_41 _ _ _ _ _ _ _ m4, s_34 (by omega) _ m4, bsI, o1, b_153_46, b2_t go, if_neg (by decide), b_153_49]
        · rw [rp, b_253_21 hL, if_pos gx, Int.toNat_natCast, if_neg gs, b_253_31 hL, if_pos gz, Int.toNat_natCast, if_neg (by omega), b_253_41]
      have cp2 : run (call (e + 6)) 153 0 [vA 1, vI s, vI y, vI o, vI u, vI v, vX 0, vX 0] [] M R = run (call (e + 6)) 153 52 [vA 1, vI s, vI y, vI o, vI u, vI v, vA (46 + 2 * s), vA (46 + 2 * o)] [] M R := by
        rw [cp, b_153_38, b2_f gs, if_neg (by decide), b_153_41 _ _ _ _ _ _ _ m4, s_34 (by omega) _ m4, bsI, o1, b_153_46, b2_f go, if_pos rfl]
      have rp2 : ∀ M1, M1 66 = M 66 → run (call (e + 6)) 253 0 [vA 57, vI s, vI y, vI o, vI u, vI v, vX 0, vX 0, vX 0, vX 0] [] M1 R = run (call (e + 6)) 253 44 [vA 57, vI s, vI y, vI o, vI u, vI v, vX 0, vX 0, vX 0, vX 0] [] M1 R := by
        intro M1 g66
        rw [rp, b_253_21 hL, if_pos gx, Int.toNat_natCast, g66, if_neg gs, b_253_31 hL, if_pos gz, Int.toNat_natCast, g66, if_pos go]
      by_cases ge : M 66 s = M 66 o
      · have cp3 : run (call (e + 6)) 153 0 [vA 1, vI s, vI y, vI o, vI u, vI v, vX 0, vX 0] [] M R = run (call (e + 6)) 153 76 [vA 1, vI s, vI y, vI o, vI u, vI v, vA (46 + 2 * s), vA (46 + 2 * o)] [vI (b2 (0 ≤ y ∧ 0 ≤ v ∧ y ≤ w32 (M 67 s - v)))] M R := by
          rw [cp2, b_153_52 _ _ _ _ _ _ _ l4 m4, s1, o1, if_pos ge, b_153_68 _ _ _ _ _ _ _ l4, s_37 (by omega) _ _ _ l4, bsI, s2]
        have rp3 : ∀ M1, M1 66 = M 66 → run (call (e + 6)) 253 0 [vA 57, vI s, vI y, vI o, vI u, vI v, vX 0, vX 0, vX 0, vX 0] [] M1 R = run (call (e + 6)) 253 62 [vA 57, vI s, vI y, vI o, vI u, vI v, vX 0, vX 0, vX 0, vX 0] [] M1 R := by
          intro M1 g66
          rw [rp2 M1 g66, b_253_44 hL, if_pos gx, if_pos gz, Int.toNat_natCast, Int.toNat_natCast, g66, if_pos ge]
        by_cases gr : (0 ≤ y ∧ 0 ≤ v ∧ y + v ≤ M 67 s) ∧ 0 ≤ u ∧ u + v ≤ M 67 o
        · obtain ⟨i, rfl⟩ : ∃ k : Nat, y = (k : Int) := ⟨y.toNat, by omega⟩
          obtain ⟨j, rfl⟩ : ∃ k : Nat, u = (k : Int) := ⟨u.toNat, by omega⟩
          obtain ⟨m, rfl⟩ : ∃ k : Nat, v = (k : Int) := ⟨v.toNat, by omega⟩
          obtain ⟨M1, hM1⟩ : ∃ M1, M1 = upf M (47 + 2 * o) (cpf (M (47 + 2 * s)) (M (47 + 2 * o)) i j m) := ⟨_, rfl⟩
          have f1' : ∀ q, ¬ q = 47 + 2 * o → M1 q = M q := fun q g => by rw [hM1, upf_n g]
          obtain ⟨M2, q2, f2, g2⟩ := r_253 (e := e + 6) (M := M1) hL (x1 := s) (x2 := i) (x3 := o) (x4 := j) (a := 40 * s + i) (b := 40 * o + j) (m := m) (by omega) (by omega)
          have f2' : ∀ q, ¬ q = 68 → M2 q = M1 q := fun q g => f2 q (by simp only [List.mem_cons, List.not_mem_nil, or_false]; omega)
          have g67 : M1 67 = M 67 := f1' 67 (by omega)
          refine ⟨m, M1, R, M2, c0 _ _ ?_, r0 _ _ _ ?_, P, Y, T, t, IV_sh hV (fun q hq k1 k2 => by rw [f2' q (by omega), f1' q (by omega)]) ?_ ?_⟩
          · rw [cp3, b_153_76, b2_t (by rw [w32_i (by omega)]; omega), if_neg (by decide), b_153_79 _ _ _ _ _ _ _ m4, s_37 (by omega) _ _ _ m4, bsI, o2, b_153_88, b2_t (by rw [w32_i (by omega)]; omega), if_pos (by decide), b_153_94 _ _ _ _ _ _ _ l4 m4 (by rw [l2]; exact l5) (by rw [m2]; exact m5), l2, m2, l3, m3, if_pos (by omega), Int.toNat_natCast, Int.toNat_natCast, Int.toNat_natCast, ← hM1]
          · have ea : w32 (w32 (40 * (s : Int)) + (i : Int)) = ((40 * s + i : Nat) : Int) := by
              simp (disch := omega) only [w32_i]; omega
            have eb : w32 (w32 (40 * (o : Int)) + (j : Int)) = ((40 * o + j : Nat) : Int) := by
              simp (disch := omega) only [w32_i]; omega
            rw [rp3 M1 (f1' 66 (by omega)), b_253_62, if_neg (by omega), b_253_67, if_neg (by omega), b_253_71, if_neg (by omega), b_253_76 hL, if_pos gx, Int.toNat_natCast, g67, if_neg (by omega), b_253_86 hL, if_pos gz, Int.toNat_natCast, g67, if_neg (by omega), b_253_97 hL, if_pos gx, Int.toNat_natCast, g67, if_neg (by rw [w32_i (by omega)]; omega), b_253_110 hL, if_pos gz, Int.toNat_natCast, g67, if_pos (by rw [w32_i (by omega)]; omega), b_253_127, ea, eb]
            exact q2
          · refine SH_n (so := M 66 o) (sz := M 67 o) hS ho ⟨?_, ?_, ?_, ?_⟩ o3 o4 ?_ ?_
            · rw [f2' _ (by omega), f1' _ (by omega)]; exact o1
            · rw [f2' _ (by omega), f1' _ (by omega)]; exact o2
            · rw [f2' _ (by omega), f1' _ (by omega)]
            · rw [f2' _ (by omega), f1' _ (by omega)]
            · intro k hk
              have g68 : M1 68 = M 68 := f1' 68 (by omega)
              rw [f2' _ (by omega), g2, g68, hM1, upf_s]
              unfold cpf
              by_cases h : j ≤ k ∧ k < j + m
              · rw [if_pos h, if_pos (by omega), s5 _ (by omega), show 40 * s + i + (40 * o + k - (40 * o + j)) = 40 * s + (i + (k - j)) by omega]
              · rw [if_neg h, if_neg (by omega)]
                exact o5 k hk
            · intro r hr hne
              rw [f2' _ (by omega), f2' _ (by omega), f2' _ (by omega), f2' _ (by omega), f1' _ (by omega), f1' _ (by omega), f1' _ (by omega), f1' _ (by omega)]
              refine ⟨rfl, rfl, rfl, rfl, fun k hk => ?_⟩
              rw [g2, if_neg (by omega), f1' 68 (by omega)]
          · exact CJ_g (fun q hq => by
              simp only [List.mem_cons, List.not_mem_nil, or_false] at hq
              rw [f2' q (by omega), f1' q (by omega)]) hC
        · refine st_n hV (-12) (c0 _ _ ?_) (r0 _ _ _ ?_)
          · rw [cp3, b_153_76]
            by_cases g1 : 0 ≤ y ∧ 0 ≤ v ∧ y ≤ w32 (M 67 s - v)
            · rw [w32_i (by omega)] at g1
              rw [b2_t (by rw [w32_i (by omega)]; exact g1), if_neg (by decide), b_153_79 _ _ _ _ _ _ _ m4, s_37 (by omega) _ _ _ m4, bsI, o2, b_153_88, b2_f (by rw [w32_i (by omega)]; omega), if_neg (by decide), b_153_91]
            · rw [b2_f g1, if_pos rfl, b_153_91]
          · rw [rp3 M rfl, b_253_62]
            by_cases h1 : v < 0
            · rw [if_pos h1, b_253_124]
            rw [if_neg h1, b_253_67]
            by_cases h2 : y < 0
            · rw [if_pos h2, b_253_124]
            rw [if_neg h2, b_253_71]
            by_cases h3 : u < 0
            · rw [if_pos h3, b_253_124]
            rw [if_neg h3, b_253_76 hL, if_pos gx, Int.toNat_natCast]
            by_cases h4 : M 67 s < y
            · rw [if_pos h4, b_253_124]
            rw [if_neg h4, b_253_86 hL, if_pos gz, Int.toNat_natCast]
            by_cases h5 : M 67 o < u
            · rw [if_pos h5, b_253_124]
            rw [if_neg h5, b_253_97 hL, if_pos gx, Int.toNat_natCast, w32_i (by omega)]
            by_cases h6 : M 67 s - y < v
            · rw [if_pos h6, b_253_124]
            rw [if_neg h6, b_253_110 hL, if_pos gz, Int.toNat_natCast, w32_i (by omega), if_neg (by omega), b_253_124]
      · refine st_n hV (-13) (c0 _ _ ?_) (r0 _ _ _ ?_)
        · rw [cp2, b_153_52 _ _ _ _ _ _ _ l4 m4, s1, o1, if_neg ge, b_153_65]
        · rw [rp2 M rfl, b_253_44 hL, if_pos gx, if_pos gz, Int.toNat_natCast, Int.toNat_natCast, if_neg ge, b_253_59]
    · refine st_n hV (-2) (c0 _ _ ?_) (r0 _ _ _ ?_)
      · rw [b_153_0, s_149 (by omega), bsI, b_153_4, b2_t gx, if_neg (by decide), b_153_7, s_149 (by omega), bsI, b_153_11, b2_f gz, if_neg (by decide), b_153_14]
      · rw [b_253_0, s_162 (by omega), bsI, b_253_6, b2_t (by omega), if_neg (by decide), b_253_9, s_162 (by omega), bsI, b_253_15, b2_f (by omega), if_neg (by decide), b_253_18]
  · refine st_n hV (-2) (c0 _ _ ?_) (r0 _ _ _ ?_)
    · rw [b_153_0, s_149 (by omega), bsI, b_153_4, b2_f gx, if_pos rfl, b_153_14]
    · rw [b_253_0, s_162 (by omega), bsI, b_253_6, b2_f (by omega), if_pos rfl, b_253_18]
theorem r_246 {e : Nat} {M : MM} {R : RR} (hL : Lay R) {s P : Nat} {y : Int} (hP : M 57 2 = (P : Int)) (hP7 : P ≤ 7) (hs : s < 4) : ∃ M', run (call e) 246 28 [vA 57, vI s, vI y, vX 0] [] M R = some (vI P, M', R) ∧ Fx [66, 67, 68] M M' ∧ M' 66 = upf (M 66) s 2 ∧ M' 67 = upf (M 67) s P ∧ (∀ i, i < 40 → M' 68 (40 * s + i) = if i < P then M 82 i else 0) ∧ ∀ j, ¬ (40 * s ≤ j ∧ j < 40 * s + 40) → M' 68 j = M 68 j := by
  obtain ⟨N, hN⟩ : ∃ N, N = up (up M 66 s 2) 67 s P := ⟨_, rfl⟩
  have FN : Fx [66, 67] M N := by rw [hN]; exact Fx_t (Fx_p (by decide)) (Fx_p (by decide))
  obtain ⟨M1, ⟨a1, a2, a3⟩, q1⟩ := loop_nat (fun i (a : MM) => run (call e) 246 47 [vA 57, vI s, vI y, vI i] [] a R) (fun i a => Fx [68] N a ∧ (∀ j, j < i → a 68 (40 * s + j) = if j < P then M 82 j else 0) ∧ ∀ j, ¬ (40 * s ≤ j ∧ j < 40 * s + 40) → a 68 j = M 68 j) 40 (by
    rintro i M1 hi ⟨a1, a2, a3⟩
    have e1 : w32 ((i : Int) + 1) = ((i + 1 : Nat) : Int) := by rw [w32_i (by omega)]; omega
    have e2 : w32 (w32 (40 * (s : Int)) + (i : Int)) = ((40 * s + i : Nat) : Int) := by
      simp (disch := omega) only [w32_i]; omega
    refine ⟨up M1 68 (40 * s + i) (if i < P then M 82 i else 0), ⟨Fx_t a1 (Fx_p (by decide)), ?_, ?_⟩, ?_⟩
    · intro j hj
      by_cases h : j = i
      · subst h; rw [up_s]
      · rw [up_i (by omega)]; exact a2 j (by omega)
    · intro j hj
      rw [up_i (by omega)]; exact a3 j hj
    · rw [b_246_47, if_neg (by omega), b_246_53 hL, e2, a1 57 (by decide), FN 57 (by decide), hP]
      by_cases h : i < P
      · rw [if_neg (by omega), b_246_71 hL, if_pos (by omega), b_246_81 hL, if_pos (by omega), Int.toNat_natCast, Int.toNat_natCast, e1, a1 82 (by decide), FN 82 (by decide), if_pos h]
      · rw [if_pos (by omega), b_246_80, b_246_81 hL, if_pos (by omega), Int.toNat_natCast, e1, if_neg h]) N ⟨Fx_r, fun p hp => absurd hp (by omega), fun j _ => by rw [FN 68 (by decide)]⟩
  refine ⟨M1, ?_, Fx_t (Fx_s FN (by decide)) (Fx_s a1 (by decide)), ?_, ?_, a2, a3⟩
  · rw [b_246_28 hL, if_pos (by omega), if_pos (by omega), Int.toNat_natCast, up_o (by decide), hP, ← hN]
    refine Eq.trans q1 ?_
    rw [b_246_47, if_pos (by omega), b_246_88, a1 57 (by decide), FN 57 (by decide), hP]
  · rw [a1 66 (by decide), hN, up_o (by decide), up_f]
  · rw [a1 67 (by decide), hN, up_f, up_o (by decide)]
theorem st_145 {d n : Nat} (hd : 7 ≤ d) {M : MM} {R : RR} (hI : INV n M R) (x y : Int) : ST vI d n 145 246 [vI x, vI y] M R := by
  obtain ⟨P, Y, T, t, hV⟩ := hI
  obtain ⟨e, rfl⟩ := s_le hd
  obtain ⟨⟨⟨b1, b2, b3⟩, _⟩, _, _, _, hS, _, hL, hC, _⟩ := id hV
  have c0 : ∀ w M', run (call (e + 6)) 145 0 [vA 1, vI x, vI y, vX 0] [] M R = some (vI w, M', R) → call (e + 7) 145 [vA 1, vI x, vI y] M R = some (vI w, M', R) := fun w M' h => call_of 4 [vA 1, vI x, vI y, vX 0] (by decide) rfl (Nat.le_of_ble_eq_true rfl) rfl h rfl
  have r0 : ∀ w M1 M', run (call (e + 6)) 246 0 [vA 57, vI x, vI y, vX 0] [] M1 R = some (vI w, M', R) → call (e + 7) 246 [vA 57, vI x, vI y] M1 R = some (vI w, M', R) := fun w M1 M' h => call_of 4 [vA 57, vI x, vI y, vX 0] (by decide) rfl (Nat.le_of_ble_eq_true rfl) rfl h rfl
  by_cases gx : 0 ≤ x ∧ x < 4
  · by_cases gy : 0 ≤ y ∧ y ≤ 99999
    · obtain ⟨s, rfl⟩ : ∃ k : Nat, x = (k : Int) := ⟨x.toNat, by omega⟩
      have hs : s < 4 := by omega
      obtain ⟨l1, l2, l3, l4, l5⟩ := sh_l hL hs
      -- the class
      obtain ⟨A1, qa, fa', ca, ra⟩ := p_80 (d0 := e + 6) (by omega) hL (iv_x hV) hC
      have XA := XW_f fa' (iv_x hV)
      obtain ⟨A2, qb, fb, cb, rb, hdr⟩ := p_86 (d0 := e + 6) (by omega) hL XA ca ra (seed := y) (by omega)
      obtain ⟨A3, qc, fc', h1, h2⟩ := s_35 (d0 := e + 6) (by omega) (M := A2) (R := R) 2 P (shO_l hL hs)
      have fA : Fx clsO M A2 := Fx_t fa' fb
      have fc1 : ∀ o, ¬ o = 46 + 2 * s → ¬ o = 47 + 2 * s → A3 o = A2 o := fun o g1 g2 => fc' o (by simp only [List.mem_cons, List.not_mem_nil, or_false]; omega)
      have A4 : A3 4 0 = (P : Int) := by rw [fc1 4 (by omega) (by omega), fA 4 (by decide), b1]
      have WA : Wd A1 = Wd M := Wd_e (Wx_x fa')
      rw [WA] at hdr
      obtain ⟨M1, ⟨f1, g1, k1⟩, q1⟩ := loop_nat (fun i (a : MM) => run (call (e + 6)) 145 51 [vA 1, vI s, vI y, vI i] [] a R) (fun i a => (∀ o, ¬ o = 47 + 2 * s → a o = A3 o) ∧ (∀ j, j < i → a (47 + 2 * s) j = dr (Wd M) Y y j) ∧ ∀ j, j < 40 → i ≤ j → a (47 + 2 * s) j = 0) P (by
        rintro i a hi ⟨f1, g1, k1⟩
        have e1 : w32 ((i : Int) + 1) = ((i + 1 : Nat) : Int) := by rw [w32_i (by omega)]; omega
        have h46 : a (46 + 2 * s) = upf (upf (A2 (46 + 2 * s)) 0 2) 1 P := by rw [f1 _ (by omega), h1]
        have q36 := s_36 (d0 := e + 6) (by omega) (M := a) (R := R) (o := 46 + 2 * s) (nb := 47 + 2 * s) (i := i) (a 26 i) (shO_l hL hs) (by rw [h46, upf_s]; omega) (by omega)
        rw [h46, upf_n (by decide), upf_s] at q36
        have h26 : a 26 i = dr (Wd M) Y y i := by rw [f1 26 (by omega), fc1 26 (by omega) (by omega)]; exact hdr i hi
        have hfit : fit 2 (a 26 i) = dr (Wd M) Y y i := by
          rw [h26]
          rfl
        rw [hfit] at q36
        refine ⟨up a (47 + 2 * s) i (dr (Wd M) Y y i), ⟨?_, ?_, ?_⟩, ?_⟩
        · intro o ho
          rw [up_o ho]; exact f1 o ho
        · intro j hj
          by_cases h : j = i
          · subst h; rw [up_s]
          · rw [up_i h]; exact g1 j (by omega)
        · intro j hj hij
          rw [up_i (by omega)]; exact k1 j hj (by omega)
        · rw [b_145_51 hL, f1 4 (by omega), A4, if_neg (by omega), b_145_62 hL _ _ _ (by rw [Int.toNat_natCast, l1]; exact l4), if_pos gx, if_pos (by omega), Int.toNat_natCast, Int.toNat_natCast, l1, q36, bsX, b_145_81, e1]) A3 ⟨fun _ _ => rfl, fun j hj => absurd hj (by omega), fun j hj _ => h2 j hj⟩
      have fM : ∀ o, ¬ o = 46 + 2 * s → ¬ o = 47 + 2 * s → M1 o = A2 o := fun o g g' => by rw [f1 o g', fc1 o g g']
      have fM2 : ∀ o, keepO o → ¬ (46 ≤ o ∧ o ≤ 53) → M1 o = M o := by
        intro o ho g
        rw [fM o (by omega) (by omega)]
        unfold keepO at ho
        by_cases h : o = 22
        · subst h; exact fA 22 (by decide)
        · exact fA o (clsO_n (by omega))
      -- the reference
      have XM1 : XM M1 R P Y t := by
        obtain ⟨x1, x2, x3, x4, x5, x6, x8, x9, x10⟩ := iv_m0 hV
        have g : ∀ o, 57 ≤ o ∧ o ≤ 70 ∨ 83 ≤ o ∨ o = 20 ∨ o = 21 → M1 o = M o := fun o ho => fM2 o (by unfold keepO; omega) (by omega)
        refine ⟨by rw [g 57 (by omega)]; exact x1, x2, by rw [g 57 (by omega)]; exact x3, x4, x5, by rw [g 57 (by omega)]; exact x6, x8, txOk_f (fun o ho => g o (by omega)) x9, ?_⟩
        rw [g 59 (by omega), g 60 (by omega), g 61 (by omega)]
        exact x10
      have Wm1 : Wmd M1 = Wd M := by
        have h := iv_w hV (Fx_r (S := clsO) (M := M))
        rw [← h]
        refine Wmd_e (Wm_f (fun o ho => fM2 o ?_ ?_))
        · simp only [List.mem_cons, List.not_mem_nil, or_false] at ho
          unfold keepO
          omega
        · simp only [List.mem_cons, List.not_mem_nil, or_false] at ho
          omega
      obtain ⟨B1, qd, fd, rd, _⟩ := r_198 (d0 := e + 6) (by omega) hL XM1
      obtain ⟨B2, qe, fe, hde⟩ := s_243 (d0 := e + 6) (by omega) (M := B1) (M0 := M1) hL (seed := y) XM1 (fd 57 (by decide)) rd (by omega)
      rw [Wm1] at hde
      have g57 : B2 57 = M 57 := by rw [fe 57 (by decide), fd 57 (by decide), fM2 57 (by unfold keepO; omega) (by omega)]
      obtain ⟨M2, qf, ff, u1, u2, u3, u4⟩ := r_246 (e := e + 6) (M := B2) hL (s := s) (P := P) (y := y) (by rw [g57]; exact b2) b3 hs
      have FB : Fx modO M1 B2 := Fx_t (Fx_s fd (by decide)) (Fx_s fe (by decide))
      have gB : ∀ o, keepO o → ¬ (66 ≤ o ∧ o ≤ 68) → M2 o = M1 o := by
        intro o ho g
        rw [ff o (by simp only [List.mem_cons, List.not_mem_nil, or_false]; omega)]
        unfold keepO at ho
        exact FB o (modO_n (by omega))
      refine ⟨P, M1, R, M2, c0 _ _ ?_, r0 _ _ _ ?_, P, Y, T, t, IV_sh hV (fun o ho g g' => by rw [gB o ho g', fM2 o ho g]) ?_ ?_⟩
      · rw [b_145_0, s_149 (by omega), bsI, b_145_4, b2_t gx, if_neg (by decide), b_145_7, s_143 (by omega), bsI, b_145_11, b2_t gy, if_pos (by decide), b_145_17 hL, qa, bsX, b_145_24 hL, qb, bsX, b_145_32 hL _ _ (by rw [Int.toNat_natCast, l1]; exact l4), if_pos gx, Int.toNat_natCast, l1, fA 4 (by decide), b1, qc, bsX, b_145_49]
        refine Eq.trans q1 ?_
        rw [b_145_51 hL, f1 4 (by omega), A4, if_pos (by omega), b_145_87 hL, f1 4 (by omega), A4]
      · rw [b_246_0, s_162 (by omega), bsI, b_246_6, b2_t (by omega), if_neg (by decide), b_246_9, s_244 (by omega), bsI, b_246_13, b2_t gy, if_pos (by decide), b_246_19, qd, bsX, b_246_23, qe, bsX]
        exact qf
      · have k2 : ∀ r, r < 4 → M2 (46 + 2 * r) = M1 (46 + 2 * r) ∧ M2 (47 + 2 * r) = M1 (47 + 2 * r) := fun r hr => ⟨gB _ (by unfold keepO; omega) (by omega), gB _ (by unfold keepO; omega) (by omega)⟩
        have B66 : B2 66 = M 66 := by rw [FB 66 (by decide), fM2 66 (by unfold keepO; omega) (by omega)]
        have B67 : B2 67 = M 67 := by rw [FB 67 (by decide), fM2 67 (by unfold keepO; omega) (by omega)]
        have B68 : B2 68 = M 68 := by rw [FB 68 (by decide), fM2 68 (by unfold keepO; omega) (by omega)]
        refine SH_n (so := 2) (sz := P) hS hs ⟨?_, ?_, ?_, ?_⟩ (by omega) (by omega) ?_ ?_
        · rw [(k2 s hs).1, f1 _ (by omega), h1, upf_n (by decide), upf_s]
        · rw [(k2 s hs).1, f1 _ (by omega), h1, upf_s]
        · rw [u1, upf_s]
        · rw [u2, upf_s]
        · intro i hi
          rw [(k2 s hs).2, u3 i hi]
          by_cases h : i < P
          · rw [if_pos h, g1 i h, hde i h]
          · rw [if_neg h, k1 i hi (by omega)]
        · intro r hr hne
          rw [(k2 r hr).1, (k2 r hr).2, fM _ (by omega) (by omega), fM _ (by omega) (by omega), fA _ (clsO_n (by omega)), fA _ (clsO_n (by omega)), u1, u2, upf_n hne, upf_n hne, B66, B67]
          refine ⟨rfl, rfl, rfl, rfl, fun i hi => ?_⟩
          rw [u4 _ (by omega), B68]
      · refine CJ_g (M := A2) (fun o ho => ?_) cb
        simp only [List.mem_cons, List.not_mem_nil, or_false] at ho
        rw [ff o (by simp only [List.mem_cons, List.not_mem_nil, or_false]; omega), FB o (modO_n (by omega)), fM o (by omega) (by omega)]
    · refine st_n hV (-2) (c0 _ _ ?_) (r0 _ _ _ ?_)
      · rw [b_145_0, s_149 (by omega), bsI, b_145_4, b2_t gx, if_neg (by decide), b_145_7, s_143 (by omega), bsI, b_145_11, b2_f gy, if_neg (by decide), b_145_14]
      · rw [b_246_0, s_162 (by omega), bsI, b_246_6, b2_t (by omega), if_neg (by decide), b_246_9, s_244 (by omega), bsI, b_246_13, b2_f gy, if_neg (by decide), b_246_16]
  · refine st_n hV (-2) (c0 _ _ ?_) (r0 _ _ _ ?_)
    · rw [b_145_0, s_149 (by omega), bsI, b_145_4, b2_f gx, if_pos rfl, b_145_14]
    · rw [b_246_0, s_162 (by omega), bsI, b_246_6, b2_f (by omega), if_pos rfl, b_246_16]
end
