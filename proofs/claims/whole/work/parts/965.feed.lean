section
/-! ===== feed ===== -/
/-- which of the numbers comes as the i-th -/
def pk (a b c d e : Int) (i : Nat) : Int := if i = 0 then a else if i = 1 then b else if i = 2 then c else if i = 3 then d else e
theorem s_47 {d0 : Nat} (hd : 1 ≤ d0) {M : MM} {R : RR} (hL : Lay R) {z : Nat} (hz : M 8 1 = (z : Int)) (h : z < 160) (v : Int) : call d0 47 [vA 8, vI v] M R = some (vX 0, up (up M 9 z v) 8 1 ((z + 1 : Nat) : Int), R) := by
  obtain ⟨e, rfl⟩ := s_le hd
  refine call_of 2 [vA 8, vI v] (by decide) rfl (Nat.le_of_ble_eq_true rfl) rfl ?_ rfl
  rw [b_47_0 hL, hz, if_neg (by omega), b_47_12 hL, hz, if_pos (by omega), Int.toNat_natCast, b_47_32, up_o (by decide), hz, w32_i (by omega)]
  rfl
theorem st_97 {d n : Nat} (hd : 7 ≤ d) {M : MM} {R : RR} (hI : INV n M R) (x a b c d' f : Int) : ST vI d n 97 173 [vI x, vI a, vI b, vI c, vI d', vI f] M R := by
  obtain ⟨P, Y, T, t, hV⟩ := hI
  obtain ⟨e, rfl⟩ := s_le hd
  obtain ⟨⟨⟨b1, b2, b3⟩, ⟨b4, b5, b6, b7⟩, b8, b9, b10, b11, b12, b13⟩, ⟨p1, p2, p3, p4, p5⟩, hT, ⟨t1, t2, t3⟩, hS, hIM, hL, hC, hver, hR⟩ := id hV
  have c0 : ∀ v M', run (call (e + 6)) 97 0 [vA 1, vI x, vI a, vI b, vI c, vI d', vI f, vX 0] [] M R = some (vI v, M', R) → call (e + 7) 97 [vA 1, vI x, vI a, vI b, vI c, vI d', vI f] M R = some (vI v, M', R) := fun v M' h => call_of 8 [vA 1, vI x, vI a, vI b, vI c, vI d', vI f, vX 0] (by decide) rfl (Nat.le_of_ble_eq_true rfl) rfl h rfl
  have r0 : ∀ v M1 M', run (call (e + 6)) 173 0 [vA 57, vI x, vI a, vI b, vI c, vI d', vI f, vX 0] [] M1 R = some (vI v, M', R) → call (e + 7) 173 [vA 57, vI x, vI a, vI b, vI c, vI d', vI f] M1 R = some (vI v, M', R) := fun v M1 M' h => call_of 8 [vA 57, vI x, vI a, vI b, vI c, vI d', vI f, vX 0] (by decide) rfl (Nat.le_of_ble_eq_true rfl) rfl h rfl
  by_cases g : (1 ≤ x ∧ x ≤ 5) ∧ (0 ≤ a ∧ a ≤ 255) ∧ (0 ≤ b ∧ b ≤ 255) ∧ (0 ≤ c ∧ c ≤ 255) ∧ (0 ≤ d' ∧ d' ≤ 255) ∧ (0 ≤ f ∧ f ≤ 255)
  · obtain ⟨g0, g1, g2, g3, g4, g5⟩ := g
    obtain ⟨m, rfl⟩ : ∃ k : Nat, x = (k : Int) := ⟨x.toNat, by omega⟩
    obtain ⟨z, hz⟩ : ∃ z : Nat, M 57 7 = (z : Int) := ⟨(M 57 7).toNat, by omega⟩
    have cp : run (call (e + 6)) 97 0 [vA 1, vI m, vI a, vI b, vI c, vI d', vI f, vX 0] [] M R = run (call (e + 6)) 97 51 [vA 1, vI m, vI a, vI b, vI c, vI d', vI f, vX 0] [] M R := by
      rw [b_97_0, if_neg (by omega), b_97_5, if_neg (by omega), b_97_10, s_98 (by omega), bsI, b_97_14, b2_t g1, if_neg (by decide), b_97_17, s_98 (by omega), bsI, b_97_21, b2_t g2, if_neg (by decide), b_97_24, s_98 (by omega), bsI, b_97_29, b2_t g3, if_neg (by decide), b_97_32, s_98 (by omega), bsI, b_97_37, b2_t g4, if_neg (by decide), b_97_40, s_98 (by omega), bsI, b_97_45, b2_t g5, if_pos (by decide)]
    have rp : ∀ M1, run (call (e + 6)) 173 0 [vA 57, vI m, vI a, vI b, vI c, vI d', vI f, vX 0] [] M1 R = run (call (e + 6)) 173 50 [vA 57, vI m, vI a, vI b, vI c, vI d', vI f, vX 0] [] M1 R := by
      intro M1
      rw [b_173_0, s_162 (by omega), bsI, b_173_6, b2_t g0, if_neg (by decide), b_173_9, s_172 (by omega), bsI, b_173_13, b2_t g1, if_neg (by decide), b_173_16, s_172 (by omega), bsI, b_173_20, b2_t g2, if_neg (by decide), b_173_23, s_172 (by omega), bsI, b_173_28, b2_t g3, if_neg (by decide), b_173_31, s_172 (by omega), bsI, b_173_36, b2_t g4, if_neg (by decide), b_173_39, s_172 (by omega), bsI, b_173_44, b2_t g5, if_pos (by decide)]
    by_cases hs : z + m ≤ 160
    · obtain ⟨M1, ⟨a1, a2, a3, a4⟩, q1⟩ := loop_nat (fun i (s : MM) => run (call (e + 6)) 97 72 [vA 1, vI m, vI a, vI b, vI c, vI d', vI f, vI i] [] s R) (fun i s => Fx [8, 9] M s ∧ s 8 1 = ((z + i : Nat) : Int) ∧ (∀ j, j < i → s 9 (z + j) = pk a b c d' f j) ∧ ∀ j, j < z → s 9 j = M 9 j) m (by
        rintro i M1 hi ⟨a1, a2, a3, a4⟩
        have e1 : w32 ((i : Int) + 1) = ((i + 1 : Nat) : Int) := by rw [w32_i (by omega)]; omega
        have hstep : run (call (e + 6)) 97 72 [vA 1, vI m, vI a, vI b, vI c, vI d', vI f, vI i] [] M1 R = run (call (e + 6)) 97 125 [vA 1, vI m, vI a, vI b, vI c, vI d', vI f, vI i] [vI (pk a b c d' f i), vA 8] M1 R := by
          unfold pk
          rw [b_97_72, if_neg (by omega), b_97_78 hL]
          by_cases h0 : i = 0
          · rw [if_neg (by omega), if_pos h0, b_97_87]
          rw [if_pos (by omega), if_neg h0, b_97_91]
          by_cases h1 : i = 1
          · rw [if_neg (by omega), if_pos h1, b_97_97]
          rw [if_pos (by omega), if_neg h1, b_97_101]
          by_cases h2 : i = 2
          · rw [if_neg (by omega), if_pos h2, b_97_107]
          rw [if_pos (by omega), if_neg h2, b_97_112]
          by_cases h3 : i = 3
          · rw [if_neg (by omega), if_pos h3, b_97_118]
          rw [if_pos (by omega), if_neg h3, b_97_123]
        refine ⟨up (up M1 9 (z + i) (pk a b c d' f i)) 8 1 ((z + i + 1 : Nat) : Int), ⟨Fx_t a1 (Fx_t (Fx_p (by decide)) (Fx_p (by decide))), ?_, ?_, ?_⟩, ?_⟩
        · rw [up_s]; rfl
        · intro j hj
          rw [up_o (by decide)]
          by_cases h : j = i
          · subst h; rw [up_s]
          · rw [up_i (by omega)]; exact a3 j (by omega)
        · intro j hj
          rw [up_o (by decide), up_i (by omega)]; exact a4 j hj
        · show run (call (e + 6)) 97 72 [vA 1, vI m, vI a, vI b, vI c, vI d', vI f, vI i] [] M1 R = _
          rw [hstep, b_97_125, s_47 (by omega) hL a2 (by omega), bsX, b_97_128, e1]) M ⟨Fx_r, by rw [t1, hz]; rfl, fun j hj => absurd hj (by omega), fun _ _ => rfl⟩
      obtain ⟨M2, ⟨d1, d2, d3, d4, d5⟩, q2⟩ := loop_nat (fun i (s : MM) => run (call (e + 6)) 173 68 [vA 57, vI m, vI a, vI b, vI c, vI d', vI f, vI i] [] s R) (fun i s => Fx [57, 62] M1 s ∧ s 57 7 = ((z + i : Nat) : Int) ∧ (∀ j, j < i → s 62 (z + j) = pk a b c d' f j) ∧ (∀ j, j < z → s 62 j = M1 62 j) ∧ ∀ j, ¬ j = 7 → s 57 j = M1 57 j) m (by
        rintro i M2 hi ⟨d1, d2, d3, d4, d5⟩
        have e1 : w32 ((i : Int) + 1) = ((i + 1 : Nat) : Int) := by rw [w32_i (by omega)]; omega
        have hstep : run (call (e + 6)) 173 68 [vA 57, vI m, vI a, vI b, vI c, vI d', vI f, vI i] [] M2 R = run (call (e + 6)) 173 125 [vA 57, vI m, vI a, vI b, vI c, vI d', vI f, vI i] [vI (pk a b c d' f i), vI (M2 57 7), vA 62] M2 R := by
          unfold pk
          rw [b_173_68, if_neg (by omega), b_173_74 hL]
          by_cases h0 : i = 0
          · rw [if_neg (by omega), if_pos h0, b_173_87]
          rw [if_pos (by omega), if_neg h0, b_173_91]
          by_cases h1 : i = 1
          · rw [if_neg (by omega), if_pos h1, b_173_97]
          rw [if_pos (by omega), if_neg h1, b_173_101]
          by_cases h2 : i = 2
          · rw [if_neg (by omega), if_pos h2, b_173_107]
          rw [if_pos (by omega), if_neg h2, b_173_112]
          by_cases h3 : i = 3
          · rw [if_neg (by omega), if_pos h3, b_173_118]
          rw [if_pos (by omega), if_neg h3, b_173_123]
        refine ⟨up (up M2 62 (z + i) (pk a b c d' f i)) 57 7 ((z + (i + 1) : Nat) : Int), ⟨Fx_t d1 (Fx_t (Fx_p (by decide)) (Fx_p (by decide))), ?_, ?_, ?_, ?_⟩, ?_⟩
        · rw [up_s]
        · intro j hj
          rw [up_o (by decide)]
          by_cases h : j = i
          · subst h; rw [up_s]
          · rw [up_i (by omega)]; exact d3 j (by omega)
        · intro j hj
          rw [up_o (by decide), up_i (by omega)]; exact d4 j hj
        · intro j hj
          rw [up_i hj, up_o (by decide)]; exact d5 j hj
        · show run (call (e + 6)) 173 68 [vA 57, vI m, vI a, vI b, vI c, vI d', vI f, vI i] [] M2 R = _
          have ez : w32 ((up M2 62 (z + i) (pk a b c d' f i)) 57 7 + 1) = ((z + (i + 1) : Nat) : Int) := by
            rw [up_o (by decide), d2, w32_i (by omega)]; omega
          rw [hstep, d2, b_173_125 hL, if_pos (by omega), Int.toNat_natCast, ez, e1]) M1 ⟨Fx_r, by rw [a1 57 (by decide), hz]; rfl, fun j hj => absurd hj (by omega), fun _ _ => rfl, fun _ _ => rfl⟩
      have F : Fx [8, 9, 57, 62] M M2 := Fx_t (Fx_s a1 (by decide)) (Fx_s d1 (by decide))
      have e57 : ∀ i, ¬ i = 7 → M2 57 i = M 57 i := fun i h => by rw [d5 i h, a1 57 (by decide)]
      have ew : w32 (M 57 7 + (m : Int)) = ((z + m : Nat) : Int) := by rw [w32_i (by omega)]; omega
      refine ⟨((z + m : Nat) : Int), M1, R, M2, c0 _ _ ?_, r0 _ _ _ ?_, P, Y, T, t, ⟨⟨by rw [F 4 (by decide)]; exact b1, by rw [e57 2 (by decide)]; exact b2, b3⟩, ⟨by rw [F 2 (by decide)]; exact b4, by rw [e57 0 (by decide)]; exact b5, b6, b7⟩, by rw [F 13 (by decide)]; exact b8, by rw [e57 10 (by decide)]; exact b9, b10, by rw [F 13 (by decide)]; exact b11, by rw [e57 11 (by decide)]; exact b12, b13⟩, ⟨by rw [F 3 (by decide), F 58 (by decide)]; exact p1, by rw [F 5 (by decide), F 59 (by decide)]; exact p2, by rw [F 6 (by decide), F 60 (by decide)]; exact p3, by rw [F 7 (by decide), F 61 (by decide)]; exact p4, by rw [F 59 (by decide), F 60 (by decide), F 61 (by decide)]; exact p5⟩, fun i hi => txOk_f (fun o ho => F o (by simp only [List.mem_cons, List.not_mem_nil, or_false]; omega)) (hT i hi), ⟨?_, ?_, ?_⟩, ?_, IM_g (Nat.le_refl P) (fun o ho => F o (by simp only [List.mem_cons, List.not_mem_nil, or_false] at ho ⊢; omega)) (e57 12 (by decide)) (e57 13 (by decide)) (e57 14 (by decide)) (e57 15 (by decide)) hIM, hL, CJ_g (fun o ho => F o (by simp only [List.mem_cons, List.not_mem_nil, or_false] at ho ⊢; omega)) hC, ?_, hR.1, by unfold WT; rw [F 70 (by decide)]; exact hR.2.1, by rw [F 12 (by decide)]; exact hR.2.2⟩
      · rw [cp, b_97_51 hL, t1, ew, if_pos (by omega), b_97_69]
        refine Eq.trans q1 ?_
        rw [b_97_72, if_pos (by omega), b_97_134 hL, a2]
      · rw [rp, b_173_50, a1 57 (by decide), ew, if_pos (by omega), b_173_65]
        refine Eq.trans q2 ?_
        rw [b_173_68, if_pos (by omega), b_173_142, d2]
      · rw [d1 8 (by decide), a2, d2]
      · rw [d2]; omega
      · intro i hi
        rw [d2] at hi
        rw [d1 9 (by decide)]
        by_cases h : i < z
        · rw [a4 i h, d4 i h, a1 62 (by decide)]
          exact t3 i (by omega)
        · obtain ⟨j, rfl⟩ : ∃ j, i = z + j := ⟨i - z, by omega⟩
          rw [a3 j (by omega), d3 j (by omega)]
          refine ⟨rfl, ?_⟩
          unfold pk
          repeat' split
          all_goals omega
      · intro s hs'
        have := hS s hs'
        rw [F (46 + 2 * s) (by simp only [List.mem_cons, List.not_mem_nil, or_false]; omega), F (47 + 2 * s) (by simp only [List.mem_cons, List.not_mem_nil, or_false]; omega), F 66 (by decide), F 67 (by decide), F 68 (by decide)]
        exact this
      · rw [F 22 (by decide)]; omega
    · have ew : w32 (M 57 7 + (m : Int)) = ((z + m : Nat) : Int) := by rw [w32_i (by omega)]; omega
      refine st_n hV (-4) (c0 _ _ ?_) (r0 _ _ _ ?_)
      · rw [cp, b_97_51 hL, t1, ew, if_neg (by omega), b_97_66]
      · rw [rp, b_173_50, ew, if_neg (by omega), b_173_62]
  · refine st_n hV (-2) (c0 _ _ ?_) (r0 _ _ _ ?_)
    · rw [b_97_0]
      by_cases h0 : x < 1
      · rw [if_pos h0, b_97_48]
      rw [if_neg h0, b_97_5]
      by_cases h1 : 5 < x
      · rw [if_pos h1, b_97_48]
      rw [if_neg h1, b_97_10, s_98 (by omega), bsI, b_97_14]
      by_cases g1 : 0 ≤ a ∧ a ≤ 255
      · rw [b2_t g1, if_neg (by decide), b_97_17, s_98 (by omega), bsI, b_97_21]
        by_cases g2 : 0 ≤ b ∧ b ≤ 255
        · rw [b2_t g2, if_neg (by decide), b_97_24, s_98 (by omega), bsI, b_97_29]
          by_cases g3 : 0 ≤ c ∧ c ≤ 255
          · rw [b2_t g3, if_neg (by decide), b_97_32, s_98 (by omega), bsI, b_97_37]
            by_cases g4 : 0 ≤ d' ∧ d' ≤ 255
            · rw [b2_t g4, if_neg (by decide), b_97_40, s_98 (by omega), bsI, b_97_45, b2_f (by omega), if_neg (by decide), b_97_48]
            · rw [b2_f g4, if_pos rfl, b_97_48]
          · rw [b2_f g3, if_pos rfl, b_97_48]
        · rw [b2_f g2, if_pos rfl, b_97_48]
      · rw [b2_f g1, if_pos rfl, b_97_48]
    · rw [b_173_0, s_162 (by omega), bsI, b_173_6]
      by_cases g0 : 1 ≤ x ∧ x ≤ 5
      · rw [b2_t g0, if_neg (by decide), b_173_9, s_172 (by omega), bsI, b_173_13]
        by_cases g1 : 0 ≤ a ∧ a ≤ 255
        · rw [b2_t g1, if_neg (by decide), b_173_16, s_172 (by omega), bsI, b_173_20]
          by_cases g2 : 0 ≤ b ∧ b ≤ 255
          · rw [b2_t g2, if_neg (by decide), b_173_23, s_172 (by omega), bsI, b_173_28]
            by_cases g3 : 0 ≤ c ∧ c ≤ 255
            · rw [b2_t g3, if_neg (by decide), b_173_31, s_172 (by omega), bsI, b_173_36]
              by_cases g4 : 0 ≤ d' ∧ d' ≤ 255
              · rw [b2_t g4, if_neg (by decide), b_173_39, s_172 (by omega), bsI, b_173_44, b2_f (by omega), if_neg (by decide), b_173_47]
              · rw [b2_f g4, if_pos rfl, b_173_47]
            · rw [b2_f g3, if_pos rfl, b_173_47]
          · rw [b2_f g2, if_pos rfl, b_173_47]
        · rw [b2_f g1, if_pos rfl, b_173_47]
      · rw [b2_f g0, if_pos rfl, b_173_47]
end
