section
/-! ===== people by a sheet ===== -/
theorem w32_b (x : Int) : w32 x = Int.bmod x (2 ^ 32) := Int32.toInt_ofInt
theorem w32_w {x : Int} (h : 2147483648 ≤ x ∧ x < 4294967296) : w32 x = x - 4294967296 := by
  rw [w32_b]
  show (if x % 4294967296 < ((4294967296 : Int) + 1) / 2 then x % 4294967296 else x % 4294967296 - 4294967296) = _
  split <;> omega
def pb (Y : Nat) (nu : Nat → Int) (sz at' : Int) : Nat → Nat → Nat → PS → Int × PS
  | 0, _, came, σ => ((came : Int), σ)
  | k + 1, i, came, σ => if 0 ≤ w32 (at' + w32 (3 * (i : Int))) ∧ w32 (at' + w32 (3 * (i : Int))) ≤ sz - 3 then pb Y nu sz at' k (i + 1) (if JV Y σ.1 (nu (w32 (at' + w32 (3 * (i : Int)))).toNat) (nu ((w32 (at' + w32 (3 * (i : Int)))).toNat + 1)) (nu ((w32 (at' + w32 (3 * (i : Int)))).toNat + 2)) < 0 then came else came + 1) (JS Y (nu (w32 (at' + w32 (3 * (i : Int)))).toNat) (nu ((w32 (at' + w32 (3 * (i : Int)))).toNat + 1)) (nu ((w32 (at' + w32 (3 * (i : Int)))).toNat + 2)) σ) else (-12, σ)
theorem pb_r {Y : Nat} {nu : Nat → Int} {sz at' : Int} : ∀ (k i came : Nat) (σ : PS), RG Y σ → RG Y (pb Y nu sz at' k i came σ).2 ∧ σ.1 ≤ (pb Y nu sz at' k i came σ).2.1
  | 0, _, _, σ, h => ⟨h, Nat.le_refl _⟩
  | k + 1, i, came, σ, h => by
    unfold pb
    split
    · obtain ⟨h1, h2⟩ := JS_r (k := nu (w32 (at' + w32 (3 * (i : Int)))).toNat) (m := nu ((w32 (at' + w32 (3 * (i : Int)))).toNat + 1)) (d := nu ((w32 (at' + w32 (3 * (i : Int)))).toNat + 2)) h
      obtain ⟨h3, h4⟩ := pb_r k (i + 1) (if JV Y σ.1 (nu (w32 (at' + w32 (3 * (i : Int)))).toNat) (nu ((w32 (at' + w32 (3 * (i : Int)))).toNat + 1)) (nu ((w32 (at' + w32 (3 * (i : Int)))).toNat + 2)) < 0 then came else came + 1) _ h1
      exact ⟨h3, Nat.le_trans h2 h4⟩
    · exact ⟨h, Nat.le_refl _⟩
theorem t_154 {e : Nat} (he : 3 ≤ e) {R : RR} (hL : Lay R) {Y s n : Nat} {nu : Nat → Int} {so sz at' : Int} (hs : s < 4) (hn : n ≤ 7) (hsz : 0 ≤ sz ∧ sz ≤ 40) : ∀ (k i came : Nat) (σ : PS) (M : MM) (u : AV), i + k = n → came ≤ i → M 2 0 = (Y : Int) → CP M σ → RG Y σ → CJ M σ.1 Y → M 22 7 + k ≤ 900000 → M (46 + 2 * s) 1 = sz → (∀ j, j < 40 → M (47 + 2 * s) j = nu j) → ∃ M', run (call e) 154 68 [vA 1, vI s, vI so, vI at', vI n, vA (46 + 2 * s), vI came, vI i, u] [] M R = some (vI (pb Y nu sz at' k i came σ).1, M', R) ∧ Fx [4, 5, 6, 7, 22, 25] M M' ∧ CP M' (pb Y nu sz at' k i came σ).2 ∧ CJ M' (pb Y nu sz at' k i came σ).2.1 Y ∧ M' 22 7 ≤ M 22 7 + k := by
  obtain ⟨l1, l2, l3, l4, l5⟩ := sh_l hL hs
  intro k
  induction k with
  | zero =>
    intro i came σ M u h1 h2 h3 h4 h5 h6 h7 h8 h9
    refine ⟨M, ?_, Fx_r, h4, h6, by omega⟩
    rw [b_154_68, if_pos (by omega), b_154_141]
    rfl
  | succ k ih =>
    intro i came σ M u h1 h2 h3 h4 h5 h6 h7 h8 h9
    have e1 : w32 ((i : Int) + 1) = ((i + 1 : Nat) : Int) := by rw [w32_i (by omega)]; omega
    have ec : w32 ((came : Int) + 1) = ((came + 1 : Nat) : Int) := by rw [w32_i (by omega)]; omega
    have e75 : ∀ v, run (call e) 154 75 [vA 1, vI s, vI so, vI at', vI n, vA (46 + 2 * s), vI came, vI i, v] [] M R = run (call e) 154 91 [vA 1, vI s, vI so, vI at', vI n, vA (46 + 2 * s), vI came, vI i, vI (w32 (at' + w32 (3 * (i : Int))))] [vI (b2 (0 ≤ w32 (at' + w32 (3 * (i : Int))) ∧ w32 (at' + w32 (3 * (i : Int))) ≤ sz - 3))] M R := by
      intro v
      have hb : (0 ≤ w32 (at' + w32 (3 * (i : Int))) ∧ (0 : Int) ≤ 3 ∧ w32 (at' + w32 (3 * (i : Int))) ≤ w32 (sz - 3)) = (0 ≤ w32 (at' + w32 (3 * (i : Int))) ∧ w32 (at' + w32 (3 * (i : Int))) ≤ sz - 3) := by
        rw [w32_i (x := sz - 3) (by omega)]
        exact propext ⟨fun q => ⟨q.1, q.2.2⟩, fun q => ⟨q.1, by decide, q.2⟩⟩
      rw [b_154_75 _ _ _ _ _ _ _ _ l4, s_37 (by omega) _ _ _ l4, bsI, h8]
      congr 2
      unfold b2
      simp only [hb]
    have go : run (call e) 154 68 [vA 1, vI s, vI so, vI at', vI n, vA (46 + 2 * s), vI came, vI i, u] [] M R = run (call e) 154 91 [vA 1, vI s, vI so, vI at', vI n, vA (46 + 2 * s), vI came, vI i, vI (w32 (at' + w32 (3 * (i : Int))))] [vI (b2 (0 ≤ w32 (at' + w32 (3 * (i : Int))) ∧ w32 (at' + w32 (3 * (i : Int))) ≤ sz - 3))] M R := by
      rw [b_154_68, if_neg (by omega), e75]
    clear e75
    unfold pb
    rw [go]
    clear go
    generalize w32 (at' + w32 (3 * (i : Int))) = h
    by_cases g : 0 ≤ h ∧ h ≤ sz - 3
    · obtain ⟨j, rfl⟩ : ∃ j : Nat, h = (j : Int) := ⟨h.toNat, by omega⟩
      rw [if_pos g, Int.toNat_natCast]
      have f1 : w32 ((j : Int) + 1) = ((j + 1 : Nat) : Int) := by rw [w32_i (by omega)]; omega
      have f2 : w32 ((j : Int) + 2) = ((j + 2 : Nat) : Int) := by rw [w32_i (by omega)]; omega
      obtain ⟨M1, q1, F1, c1, j1, v1⟩ := s_103 (d0 := e) he hL h3 h4 h5.1 h6 (by omega) (nu j) (nu (j + 1)) (nu (j + 2))
      have hr := JS_r (k := nu j) (m := nu (j + 1)) (d := nu (j + 2)) h5
      obtain ⟨M2, q2, F2, c2, j2, v2⟩ := ih (i + 1) (if JV Y σ.1 (nu j) (nu (j + 1)) (nu (j + 2)) < 0 then came else came + 1) (JS Y (nu j) (nu (j + 1)) (nu (j + 2)) σ) M1 (vI (j : Int)) (by omega) (by split <;> omega) (by rw [F1 2 (by decide)]; exact h3) c1 hr.1 j1 (by omega) (by rw [F1 (46 + 2 * s) (by simp only [List.mem_cons, List.not_mem_nil, or_false]; omega)]; exact h8) (by rw [F1 (47 + 2 * s) (by simp only [List.mem_cons, List.not_mem_nil, or_false]; omega)]; exact h9)
      refine ⟨M2, ?_, Fx_t F1 F2, c2, j2, by omega⟩
      rw [b_154_91, b2_t g, if_pos (by decide), b_154_97 _ _ _ _ _ _ _ _ l4 (by rw [l2]; exact l5), l2, l3, f1, f2, if_pos (by omega), if_pos (by omega), if_pos (by omega), Int.toNat_natCast, Int.toNat_natCast, Int.toNat_natCast, h9 j (by omega), h9 (j + 1) (by omega), h9 (j + 2) (by omega), q1, bsI, b_154_129]
      by_cases gv : JV Y σ.1 (nu j) (nu (j + 1)) (nu (j + 2)) < 0
      · rw [if_pos gv] at q2
        rw [if_pos gv, if_pos gv, b_154_135, e1]
        exact q2
      · rw [if_neg gv] at q2
        rw [if_neg gv, if_neg gv, b_154_132, b_154_135, e1, ec]
        exact q2
    · rw [if_neg g, b_154_91, b2_f g, if_neg (by decide), b_154_94]
      exact ⟨M, rfl, Fx_r, h4, h6, by omega⟩
theorem t_254 {e : Nat} (he : 3 ≤ e) {R : RR} (hL : Lay R) {Y s n : Nat} {nu : Nat → Int} {so sz at' : Int} (hY24 : Y ≤ 24) (hs : s < 4) (hn : n ≤ 7) (hsz : 0 ≤ sz ∧ sz ≤ 40) (hat : -2147483648 ≤ at' ∧ at' < 2147483648) : ∀ (k i came : Nat) (σ : PS) (M : MM) (u v : AV), i + k = n → came ≤ i → (0 ≤ at' ∨ i = 0) → M 57 0 = (Y : Int) → RP M σ → RG Y σ → M 67 s = sz → (∀ j, j < 40 → M 68 (40 * s + j) = nu j) → ∃ M', run (call e) 254 64 [vA 57, vI s, vI so, vI at', vI n, vI came, vI i, u, v] [] M R = some (vI (pb Y nu sz at' k i came σ).1, M', R) ∧ Fx [57, 59, 60, 61] M M' ∧ RP M' (pb Y nu sz at' k i came σ).2 ∧ ∀ j, ¬ j = 2 → M' 57 j = M 57 j := by
  intro k
  induction k with
  | zero =>
    intro i came σ M u v h1 h2 h0 h3 h4 h5 h8 h9
    refine ⟨M, ?_, Fx_r, h4, fun _ _ => rfl⟩
    rw [b_254_64, if_pos (by omega), b_254_162]
    rfl
  | succ k ih =>
    intro i came σ M u v h1 h2 h0 h3 h4 h5 h8 h9
    have e1 : w32 ((i : Int) + 1) = ((i + 1 : Nat) : Int) := by rw [w32_i (by omega)]; omega
    have e3 : w32 (3 * (i : Int)) = 3 * (i : Int) := w32_i (by omega)
    have ec : w32 ((came : Int) + 1) = ((came + 1 : Nat) : Int) := by rw [w32_i (by omega)]; omega
    have ec0 : w32 ((came : Int) + 0) = (came : Int) := by rw [w32_i (by omega)]; omega
    have hh : (at' + 3 * (i : Int) < 2147483648 ∧ w32 (at' + w32 (3 * (i : Int))) = at' + 3 * (i : Int)) ∨ (2147483648 ≤ at' + 3 * (i : Int) ∧ w32 (at' + w32 (3 * (i : Int))) < 0) := by
      rw [e3]
      by_cases q : at' + 3 * (i : Int) < 2147483648
      · exact .inl ⟨q, w32_i (by omega)⟩
      · exact .inr ⟨by omega, by rw [w32_w (by omega)]; omega⟩
    rw [b_254_64, if_neg (by omega), b_254_71]
    unfold pb
    generalize w32 (at' + w32 (3 * (i : Int))) = h at hh
    by_cases g : 0 ≤ h ∧ h ≤ sz - 3
    · obtain ⟨j, rfl⟩ : ∃ j : Nat, h = (j : Int) := ⟨h.toNat, by omega⟩
      rw [if_pos g, Int.toNat_natCast]
      have f0 : w32 (w32 (40 * (s : Int)) + (j : Int)) = ((40 * s + j : Nat) : Int) := by
        simp (disch := omega) only [w32_i]; omega
      have f1 : w32 (((40 * s + j : Nat) : Int) + 1) = ((40 * s + (j + 1) : Nat) : Int) := by rw [w32_i (by omega)]; omega
      have f2 : w32 (((40 * s + j : Nat) : Int) + 2) = ((40 * s + (j + 2) : Nat) : Int) := by rw [w32_i (by omega)]; omega
      obtain ⟨M1, q1, F1, c1, v1⟩ := s_190 (d0 := e) he hL h3 hY24 h4 h5.1 (nu j) (nu (j + 1)) (nu (j + 2))
      have hr := JS_r (k := nu j) (m := nu (j + 1)) (d := nu (j + 2)) h5
      obtain ⟨M2, q2, F2, c2, v2⟩ := ih (i + 1) (if JV Y σ.1 (nu j) (nu (j + 1)) (nu (j + 2)) < 0 then came else came + 1) (JS Y (nu j) (nu (j + 1)) (nu (j + 2)) σ) M1 (vI (j : Int)) (vI ((40 * s + j : Nat) : Int)) (by omega) (by split <;> omega) (.inl (by omega)) (by rw [v1 0 (by decide)]; exact h3) c1 hr.1 (by rw [F1 67 (by decide)]; exact h8) (by rw [F1 68 (by decide)]; exact h9)
      refine ⟨M2, ?_, Fx_t F1 F2, c2, fun j' hj' => by rw [v2 j' hj', v1 j' hj']⟩
      rw [if_neg (by omega), b_254_83, if_neg (by omega), b_254_89 hL, if_pos (by omega), Int.toNat_natCast, h8, w32_i (x := sz - 3) (by omega), if_pos (by omega), b_254_105 hL, f0, f1, f2, if_pos (by omega), if_pos (by omega), if_pos (by omega), Int.toNat_natCast, Int.toNat_natCast, Int.toNat_natCast, h9 j (by omega), h9 (j + 1) (by omega), h9 (j + 2) (by omega), q1, bsI, b_254_145]
      by_cases gv : JV Y σ.1 (nu j) (nu (j + 1)) (nu (j + 2)) < 0
      · rw [if_pos gv] at q2
        rw [if_pos gv, if_pos gv, b_254_152, b_254_153, e1, ec0]
        exact q2
      · rw [if_neg gv] at q2
        rw [if_neg gv, if_neg gv, b_254_148, b_254_153, e1, ec]
        exact q2
    · rw [if_neg g]
      refine ⟨M, ?_, Fx_r, h4, fun _ _ => rfl⟩
      by_cases a0 : at' < 0
      · rw [if_pos a0, b_254_102]
      rw [if_neg a0, b_254_83]
      by_cases a1 : h < at'
      · rw [if_pos a1, b_254_102]
      rw [if_neg a1, b_254_89 hL, if_pos (by omega), Int.toNat_natCast, h8, w32_i (x := sz - 3) (by omega), if_neg (by omega), b_254_102]
theorem st_154 {d n : Nat} (hd : 7 ≤ d) (hn : n ≤ 1000) {M : MM} {R : RR} (hI : INV n M R) (x y z v : Int) (hz : -2147483648 ≤ z ∧ z < 2147483648) : ST vI d n 154 254 [vI x, vI y, vI z, vI v] M R := by
  obtain ⟨P, Y, T, t, hV⟩ := hI
  obtain ⟨e, rfl⟩ := s_le hd
  obtain ⟨⟨⟨b1, b2x, b3⟩, ⟨b4, b5, b6, b7⟩, _⟩, _, _, _, hS, _, hL, hC, hver, _⟩ := id hV
  have c0 : ∀ w M', run (call (e + 6)) 154 0 [vA 1, vI x, vI y, vI z, vI v, vX 0, vX 0, vX 0, vX 0] [] M R = some (vI w, M', R) → call (e + 7) 154 [vA 1, vI x, vI y, vI z, vI v] M R = some (vI w, M', R) := fun w M' h => call_of 9 [vA 1, vI x, vI y, vI z, vI v, vX 0, vX 0, vX 0, vX 0] (by decide) rfl (Nat.le_of_ble_eq_true rfl) rfl h rfl
  have r0 : ∀ w M1 M', run (call (e + 6)) 254 0 [vA 57, vI x, vI y, vI z, vI v, vX 0, vX 0, vX 0, vX 0] [] M1 R = some (vI w, M', R) → call (e + 7) 254 [vA 57, vI x, vI y, vI z, vI v] M1 R = some (vI w, M', R) := fun w M1 M' h => call_of 9 [vA 57, vI x, vI y, vI z, vI v, vX 0, vX 0, vX 0, vX 0] (by decide) rfl (Nat.le_of_ble_eq_true rfl) rfl h rfl
  by_cases gx : 0 ≤ x ∧ x < 4
  · by_cases gy : 0 ≤ y ∧ y ≤ 2
    · by_cases gv : 0 ≤ v ∧ v ≤ 7
      · obtain ⟨s, rfl⟩ : ∃ k : Nat, x = (k : Int) := ⟨x.toNat, by omega⟩
        obtain ⟨m, rfl⟩ : ∃ k : Nat, v = (k : Int) := ⟨v.toNat, by omega⟩
        have hs : s < 4 := by omega
        obtain ⟨l1, l2, l3, l4, l5⟩ := sh_l hL hs
        obtain ⟨s1, s2, s3, s4, s5⟩ := hS s hs
        have cp : run (call (e + 6)) 154 0 [vA 1, vI s, vI y, vI z, vI m, vX 0, vX 0, vX 0, vX 0] [] M R = run (call (e + 6)) 154 44 [vA 1, vI s, vI y, vI z, vI m, vA (46 + 2 * s), vX 0, vX 0, vX 0] [vI (b2 (M 66 s = -1))] M R := by
          rw [b_154_0, s_149 (by omega), bsI, b_154_4, b2_t gx, if_neg (by decide), b_154_7, if_neg (by omega), b_154_11, if_neg (by omega), b_154_16, if_neg (by omega), b_154_21, if_pos (by omega), b_154_31 hL _ _ _ _ (by rw [Int.toNat_natCast, l1]; exact l4), if_pos gx, Int.toNat_natCast, l1, s_34 (by omega) _ l4, bsI, s1]
        have rp : ∀ M1, M1 66 = M 66 → run (call (e + 6)) 254 0 [vA 57, vI s, vI y, vI z, vI m, vX 0, vX 0, vX 0, vX 0] [] M1 R = run (call (e + 6)) 254 32 [vA 57, vI s, vI y, vI z, vI m, vX 0, vX 0, vX 0, vX 0] [] M1 R := by
          intro M1 g66
          rw [b_254_0, s_162 (by omega), bsI, b_254_6, b2_t (by omega), if_neg (by decide), b_254_9, s_162 (by omega), bsI, b_254_15, b2_t (by omega), if_neg (by decide), b_254_18, s_162 (by omega), bsI, b_254_26, b2_t (by omega), if_pos (by decide)]
        by_cases gm : M 66 s = -1
        · refine st_n hV (-11) (c0 _ _ ?_) (r0 _ _ _ ?_)
          · rw [cp, b_154_44, b2_t gm, if_neg (by decide), b_154_47]
          · rw [rp M rfl, b_254_32 hL, if_pos gx, Int.toNat_natCast, if_neg (by omega), b_254_42]
        by_cases gs : M 66 s = y
        · obtain ⟨c, r, g⟩ := iv_cp hV
          obtain ⟨M1, q1, F1, k1, j1, v1⟩ := t_154 (e := e + 6) (by omega) hL (Y := Y) (s := s) (n := m) (nu := fun j => M 68 (40 * s + j)) (so := y) (sz := M 67 s) (at' := z) hs (by omega) s4 m 0 0 (P, M 59, M 60, M 61) M (vX 0) (by omega) (by omega) b4 c g hC (by omega) s2 s5
          have r' : RP M1 (P, M 59, M 60, M 61) := by
            unfold RP
            rw [F1 57 (by decide), F1 59 (by decide), F1 60 (by decide), F1 61 (by decide)]
            exact r
          obtain ⟨M2, q2, F2, k2, v2⟩ := t_254 (e := e + 6) (by omega) hL (Y := Y) (s := s) (n := m) (nu := fun j => M 68 (40 * s + j)) (so := y) (sz := M 67 s) (at' := z) b7 hs (by omega) s4 hz m 0 0 (P, M 59, M 60, M 61) M1 (vX 0) (vX 0) (by omega) (by omega) (.inr rfl) (by rw [F1 57 (by decide)]; exact b5) r' g (by rw [F1 67 (by decide)]) (fun j _ => by rw [F1 68 (by decide)])
          obtain ⟨g1, g2⟩ := pb_r (nu := fun j => M 68 (40 * s + j)) (sz := M 67 s) (at' := z) m 0 0 _ g
          refine ⟨(pb Y (fun j => M 68 (40 * s + j)) (M 67 s) z m 0 0 (P, M 59, M 60, M 61)).1, M1, R, M2, c0 _ _ ?_, r0 _ _ _ ?_, _, Y, T, t, IV_j hV (Fx_t (Fx_s F1 (by decide)) (Fx_s F2 (by decide))) (fun i hi => by rw [v2 i hi, F1 57 (by decide)]) ?_ k2 g1 g2 ?_ (by rw [F2 22 (by decide)]; omega)⟩
          · rw [cp, b_154_44, b2_f gm, if_pos rfl, b_154_50 _ _ _ _ _ l4, s1, if_pos gs, b_154_62]
            exact q1
          · have g66 : M1 66 = M 66 := F1 66 (by decide)
            rw [rp M1 g66, b_254_32 hL, if_pos gx, Int.toNat_natCast, g66, if_pos gm, b_254_45 hL, if_pos gx, Int.toNat_natCast, g66, if_pos gs, b_254_58]
            exact q2
          · unfold CP
            rw [F2 4 (by decide), F2 5 (by decide), F2 6 (by decide), F2 7 (by decide)]
            exact k1
          · exact CJ_g (fun o ho => F2 o (by simp only [List.mem_cons, List.not_mem_nil, or_false] at ho ⊢; omega)) j1
        · refine st_n hV (-13) (c0 _ _ ?_) (r0 _ _ _ ?_)
          · rw [cp, b_154_44, b2_f gm, if_pos rfl, b_154_50 _ _ _ _ _ l4, s1, if_neg gs, b_154_59]
          · rw [rp M rfl, b_254_32 hL, if_pos gx, Int.toNat_natCast, if_pos gm, b_254_45 hL, if_pos gx, Int.toNat_natCast, if_neg gs, b_254_55]
      · refine st_n hV (-2) (c0 _ _ ?_) (r0 _ _ _ ?_)
        · rw [b_154_0, s_149 (by omega), bsI, b_154_4, b2_t gx, if_neg (by decide), b_154_7, if_neg (by omega), b_154_11, if_neg (by omega), b_154_16]
          by_cases h1 : v < 0
          · rw [if_pos h1, b_154_28]
          · rw [if_neg h1, b_154_21, if_neg (by omega), b_154_28]
        · rw [b_254_0, s_162 (by omega), bsI, b_254_6, b2_t (by omega), if_neg (by decide), b_254_9, s_162 (by omega), bsI, b_254_15, b2_t (by omega), if_neg (by decide), b_254_18, s_162 (by omega), bsI, b_254_26, b2_f (by omega), if_neg (by decide), b_254_29]
    · refine st_n hV (-2) (c0 _ _ ?_) (r0 _ _ _ ?_)
      · rw [b_154_0, s_149 (by omega), bsI, b_154_4, b2_t gx, if_neg (by decide), b_154_7]
        by_cases h1 : y < 0
        · rw [if_pos h1, b_154_28]
        · rw [if_neg h1, b_154_11, if_pos (by omega), b_154_28]
      · rw [b_254_0, s_162 (by omega), bsI, b_254_6, b2_t (by omega), if_neg (by decide), b_254_9, s_162 (by omega), bsI, b_254_15, b2_f (by omega), if_pos rfl, b_254_29]
  · refine st_n hV (-2) (c0 _ _ ?_) (r0 _ _ _ ?_)
    · rw [b_154_0, s_149 (by omega), bsI, b_154_4, b2_f gx, if_pos rfl, b_154_28]
    · rw [b_254_0, s_162 (by omega), bsI, b_254_6, b2_f (by omega), if_pos rfl, b_254_29]
end
