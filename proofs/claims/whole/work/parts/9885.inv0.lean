section
/-! ===== at the law's loop for the first time ===== -/
theorem n91_f {N : MM} {o : Nat} (h : o < 45) : m91_8' N o = N o := by
  unfold m91_8' m91_8 m91s_3' m91s_3 m91s_2' m91s_2 m91s_1' m91s_1 m91s_0' m91s_0 m91_7
  simp (disch := omega) only [up_o, upf_n]
theorem n91_s {N : MM} : m91_8' N 46 = upf (fun _ => 0) 0 (-1) ∧ m91_8' N 47 = (fun _ => 0) ∧ m91_8' N 48 = upf (fun _ => 0) 0 (-1) ∧ m91_8' N 49 = (fun _ => 0) ∧ m91_8' N 50 = upf (fun _ => 0) 0 (-1) ∧ m91_8' N 51 = (fun _ => 0) ∧ m91_8' N 52 = upf (fun _ => 0) 0 (-1) ∧ m91_8' N 53 = (fun _ => 0) ∧ m91_8' N 54 = (fun _ => 0) := by
  unfold m91_8' m91_8 m91s_3' m91s_3 m91s_2' m91s_2 m91s_1' m91s_1 m91s_0' m91s_0 m91_7
  refine ⟨?_, ?_, ?_, ?_, ?_, ?_, ?_, ?_, ?_⟩ <;> simp (disch := decide) only [up_f, up_o, upf_n, upf_s]
theorem n6 {M : MM} : m91_6 M 0 = M 0 ∧ m91_6 M 2 = upf (fun _ => 0) 0 12 ∧ m91_6 M 3 = (fun _ => 0) ∧ m91_6 M 4 = (fun _ => 0) ∧ m91_6 M 5 = (fun _ => 0) ∧ m91_6 M 6 = (fun _ => 0) ∧ m91_6 M 7 = (fun _ => 0) ∧ m91_6 M 8 = (fun _ => 0) ∧ m91_6 M 12 = (fun _ => 0) ∧ m91_6 M 13 = upf (fun _ => 0) 5 1 ∧ m91_6 M 20 = upf (upf (upf (upf (fun _ => 0) 0 0) 1 1) 2 2) 3 3 ∧ m91_6 M 21 = upf (upf (upf (fun _ => 0) 0 1) 1 2) 2 1 ∧ m91_6 M 22 = upf (fun _ => 0) 7 1 ∧ m91_6 M 25 = (fun _ => 0) ∧ m91_6 M 27 = (fun _ => 0) := by
  unfold m91_6 m91_5' m91_5 m91_4' m91_4 m3 m3_1 m3_0 m91_3' m91_3 m91_2' m91_2 m91_1' m91_1 m91_0' m91_0
  refine ⟨?_, ?_, ?_, ?_, ?_, ?_, ?_, ?_, ?_, ?_, ?_, ?_, ?_, ?_, ?_⟩ <;> simp (disch := decide) only [up_f, up_o, upf_n, upf_s]
theorem m161_f {M : MM} {o : Nat} (h : o < 57) : m161 M o = M o := by
  unfold m161
  rw [m161_f3 (by omega), m161_f2 (by omega), m161_f1 (by omega), m161_f0 (by omega)]
theorem m161_x {M : MM} : m161 M 57 = upf (M 57) 0 12 ∧ m161 M 58 = (fun _ => 0) ∧ m161 M 59 = (fun _ => 0) ∧ m161 M 60 = (fun _ => 0) ∧ m161 M 61 = (fun _ => 0) ∧ m161 M 66 = F66 ∧ m161 M 67 = (fun _ => 0) ∧ m161 M 68 = (fun _ => 0) ∧ m161 M 69 = F69 ∧ m161 M 70 = F70 := by
  unfold m161
  refine ⟨?_, ?_, ?_, ?_, ?_, ?_, ?_, ?_, ?_, ?_⟩
  · rw [m161_3_57, m161_2_57, m161_1_57, m161_0_57]
  · rw [m161_f3 (by decide), m161_f2 (by decide), m161_f1 (by decide), m161_0_58]
  · rw [m161_f3 (by decide), m161_f2 (by decide), m161_f1 (by decide), m161_0_59]
  · rw [m161_f3 (by decide), m161_f2 (by decide), m161_f1 (by decide), m161_0_60]
  · rw [m161_f3 (by decide), m161_f2 (by decide), m161_f1 (by decide), m161_0_61]
  · rw [m161_f3 (by decide), m161_f2 (by decide), m161_f1 (by decide), m161_0_66]
  · rw [m161_f3 (by decide), m161_f2 (by decide), m161_1_67]
  · rw [m161_f3 (by decide), m161_f2 (by decide), m161_1_68]
  · rw [m161_f3 (by decide), m161_f2 (by decide), m161_1_69]
  · rw [m161_f3 (by decide), m161_2_70]
theorem F70_e : ∀ i : Fin 96, F70 (i : Nat) = wordsR.getD (i : Nat) 0 := by decide +kernel
theorem F69_b : ∀ i : Fin 28, 0 ≤ F69 (i : Nat) ∧ F69 (i : Nat) ≤ 255 := by decide +kernel
theorem F66_e : ∀ i : Fin 4, F66 (i : Nat) = -1 := by decide +kernel
theorem TR_0 : TR F69 28 = .inr ([100001, 100002, 100001], 1, 2, 3) := by decide +kernel
theorem t_161 {e : Nat} {R : RR} (hL : Lay R) : ∀ (k i : Nat) (N : MM), i + k = 28 → ∃ N' : MM, run (call e) 161 970 [vA 57, vI i] [] N R = run (call e) 161 994 [vA 57, vI 28] [] N' R ∧ Fx [62] N N' ∧ ∀ j, j < 28 → N' 62 j = if i ≤ j then N 69 j else N 62 j := by
  intro k
  induction k with
  | zero =>
    intro i N hi
    have : i = 28 := by omega
    subst this
    refine ⟨N, ?_, Fx_r, fun j hj => by rw [if_neg (by omega)]⟩
    rw [b_161_970, if_pos (by decide)]
    rfl
  | succ k ih =>
    intro i N hi
    have e1 : w32 ((i : Int) + 1) = ((i + 1 : Nat) : Int) := by rw [w32_i (by omega)]; omega
    obtain ⟨N', q, F, h⟩ := ih (i + 1) (up N 62 i (N 69 i)) (by omega)
    refine ⟨N', ?_, Fx_t (Fx_p (by decide)) F, fun j hj => ?_⟩
    · rw [b_161_970, if_neg (by omega), b_161_976 hL, if_pos (by omega), if_pos (by omega), e1, Int.toNat_natCast]
      exact q
    · rw [h j hj, up_o (by decide)]
      by_cases e : j = i
      · subst e
        rw [if_neg (by omega), if_pos (Nat.le_refl _), up_s]
      · rw [up_i e]
        by_cases g : i + 1 ≤ j
        · rw [if_pos g, if_pos (by omega)]
        · rw [if_neg g, if_neg (by omega)]
theorem xop_1 : xop 100001 = 1 ∧ xop 100002 = 2 := by decide
/-- the first text is alike on both sides -/
theorem tx_0 {M : MM} {R : RR} (hL : Lay R) (hR : R 14 0 = 19 ∧ R 19 0 = 21 ∧ R 19 1 = 20) (h20 : M 20 = upf (upf (upf (upf (fun _ => 0) 0 0) 1 1) 2 2) 3 3) (h21 : M 21 = upf (upf (upf (fun _ => 0) 0 1) 1 2) 2 1) (hs : seg (fun k => M 63 (200 * 0 + k)) 0 [100001, 100002, 100001]) (g0 : M 64 (4 * 0) = 0) (g1 : M 64 (4 * 0 + 1) = 1) (g2 : M 64 (4 * 0 + 2) = 2) (g3 : M 64 (4 * 0 + 3) = 3) : txOk M R 0 := by
  obtain ⟨x0, x1, x2, _⟩ := hs
  have x0 : M 63 0 = 100001 := x0
  have x1 : M 63 1 = 100002 := x1
  have x2 : M 63 2 = 100001 := x2
  have g0 : M 64 0 = 0 := g0
  have g1 : M 64 1 = 1 := g1
  have g2 : M 64 2 = 2 := g2
  have g3 : M 64 3 = 3 := g3
  have sg : ∀ j, j < 3 → segm M 0 j = [M 63 j] := by
    intro j hj
    unfold segm
    rcases (by omega : j = 0 ∨ j = 1 ∨ j = 2) with q | q | q <;> subst q
    · show (List.range (M 64 1 - M 64 0).toNat).map (fun k => M 63 (200 * 0 + ((M 64 0).toNat + k))) = [M 63 0]
      rw [g0, g1]; rfl
    · show (List.range (M 64 2 - M 64 1).toNat).map (fun k => M 63 (200 * 0 + ((M 64 1).toNat + k))) = [M 63 1]
      rw [g1, g2]; rfl
    · show (List.range (M 64 3 - M 64 2).toNat).map (fun k => M 63 (200 * 0 + ((M 64 2).toNat + k))) = [M 63 2]
      rw [g2, g3]; rfl
  refine ⟨19, 21, 20, 3, fun j => j, hR.1, rfl, hR.2.1, hR.2.2, rfl, rfl, lay_at hL 97 rfl, lay_at hL 96 rfl, .inl rfl, .inl rfl, Nat.le_refl _, by decide, by decide, by decide, by decide, ?_, ?_, ?_⟩
  · intro j hj
    rw [h20]
    rcases (by omega : j = 0 ∨ j = 1 ∨ j = 2 ∨ j = 3) with q | q | q | q <;> subst q
    · exact ⟨rfl, g0⟩
    · exact ⟨rfl, g1⟩
    · exact ⟨rfl, g2⟩
    · exact ⟨rfl, g3⟩
  · intro k hk
    have hk : k < 3 := hk
    rw [h21]
    rcases (by omega : k = 0 ∨ k = 1 ∨ k = 2) with q | q | q <;> subst q
    · show _ = xop (M 63 0); rw [x0]; rfl
    · show _ = xop (M 63 1); rw [x1]; rfl
    · show _ = xop (M 63 2); rw [x2]; rfl
  · intro j hj
    rw [sg j hj]
    refine wfa_w (wfa_v ?_)
    unfold isV
    rcases (by omega : j = 0 ∨ j = 1 ∨ j = 2) with q | q | q <;> subst q
    · rw [x0]; decide
    · rw [x1]; decide
    · rw [x2]; decide
/-- both objects are made, and are alike -/
theorem start_I {d : Nat} (hd : 20 ≤ d) (L : Nat) (xs : Nat → Int32) : ∃ M' : MM, run (call d) 261 0 [vX 2, vX 0, vX 0, vX 0] [] (M0 xs) (R0 L) = run (call d) 261 18 [vX 2, vA 1, vA 57, vI 0] [] M' (rI L) ∧ INV 0 M' (rI L) ∧ M' 0 = M0 xs 0 := by
  obtain ⟨e, rfl⟩ := s_le hd
  obtain ⟨N, q91, hN, n29, sp1, sp2, sp3, n35, n35'⟩ := c_91 (d := e + 20) (by omega) (M := upf (M0 xs) 1 (fun _ => 0)) (R := rI0 L) rfl
  have hL := lay_I L
  obtain ⟨NA, hNA⟩ : ∃ NA, NA = m91_8' N := ⟨_, rfl⟩
  rw [← hNA] at q91
  have a1 : ∀ o, o < 45 → NA o = N o := fun o h => by rw [hNA]; exact n91_f h
  have a2 : ∀ o, o < 28 → NA o = m91_6 (upf (M0 xs) 1 (fun _ => 0)) o := fun o h => by rw [a1 o (by omega), hN o (by omega)]
  obtain ⟨y0, y2, y3, y4, y5, y6, y7, y8, y12, y13, y20, y21, y22, y25, y27⟩ := n6 (M := upf (M0 xs) 1 (fun _ => 0))
  obtain ⟨z46, z47, z48, z49, z50, z51, z52, z53, z54⟩ := n91_s (N := N)
  rw [← hNA] at z46 z47 z48 z49 z50 z51 z52 z53 z54
  obtain ⟨X, hX⟩ : ∃ X, X = upf NA 57 (fun _ => 0) := ⟨_, rfl⟩
  have x57 : X 57 = (fun _ => 0) := by rw [hX, upf_s]
  have xo : ∀ o, ¬ o = 57 → X o = NA o := fun o h => by rw [hX, upf_n h]
  obtain ⟨w57, w58, w59, w60, w61, w66, w67, w68, w69, w70⟩ := m161_x (M := X)
  obtain ⟨MB, hMB⟩ : ∃ MB, MB = m161 X := ⟨_, rfl⟩
  have bo : ∀ o, o < 57 → MB o = NA o := fun o h => by rw [hMB, m161_f h, xo o (by omega)]
  rw [← hMB, x57] at w57
  rw [← hMB] at w58 w59 w60 w61 w66 w67 w68 w69 w70
  obtain ⟨MC, qC, FC, hC⟩ := t_161 (e := e + 19) hL 28 0 MB rfl
  obtain ⟨MD, hMD⟩ : ∃ MD, MD = up MC 57 7 28 := ⟨_, rfl⟩
  have dO : ∀ o, ¬ o = 57 → ¬ o = 62 → MD o = MB o := fun o h g => by rw [hMD, up_o h, FC o (by simpa using g)]
  have d57 : MD 57 = upf (upf (fun _ => 0) 0 12) 7 28 := by rw [hMD, up_f, FC 57 (by decide), w57]
  have mb : mB F69 28 MD := by
    refine ⟨⟨by decide, fun i hi => ?_⟩, fun i hi => ?_, by rw [d57]; rfl⟩
    · rw [hMD, up_o (by decide), hC i hi, if_pos (Nat.zero_le _), w69]
      exact ⟨rfl, F69_b ⟨i, hi⟩⟩
    · rw [dO 70 (by decide) (by decide), w70]
      exact F70_e ⟨i, hi⟩
  rcases s_184 (d0 := e + 19) (by omega) (R := rI L) hL mb (T := 0) (by rw [d57]; rfl) (by decide) with ⟨M2, o, e1, e2, e3, q184, hT, G, m7, m10, sg, v0, v1, v2, v3⟩ | ⟨M2, f, q184, hT, _⟩
  · rw [TR_0] at hT
    cases hT
    have gO : ∀ o, ¬ o = 57 → ¬ o = 62 → ¬ o = 63 → ¬ o = 64 → ¬ o = 71 → M2 o = MB o := fun o h1 h2 h3 h4 h5 => by
      rw [G.1 o (by simp only [List.mem_cons, List.not_mem_nil, or_false, not_or]; exact ⟨h1, h3, h4, h5⟩), dO o h1 h2]
    have gN : ∀ o, o < 57 → M2 o = NA o := fun o h => by rw [gO o (by omega) (by omega) (by omega) (by omega) (by omega), bo o h]
    have g57 : ∀ i, i ≤ 20 → ¬ i = 7 → ¬ i = 10 → M2 57 i = upf (upf (fun _ => 0) 0 12) 7 28 i := fun i h1 h2 h3 => by rw [G.2.1 i (by omega) h2 h3, d57]
    have g6 : ∀ o, o < 28 → M2 o = m91_6 (upf (M0 xs) 1 (fun _ => 0)) o := fun o h => by rw [gN o (by omega), a2 o h]
    have c161 : call (e + 20) 161 [vA 57] X (rI1 L) = some (vX 0, M2, rI L) := by
      refine call_of 2 [vA 57, vX 0] (by decide) rfl (Nat.le_of_ble_eq_true rfl) rfl ?_ rfl
      refine (z_161 (d := e + 19) (M := X) (R := rI1 L) rfl).trans ?_
      rw [← hMB]
      refine qC.trans ?_
      rw [b_161_994, ← hMD]
      show (call (e + 19) 184 [vA 57] MD (rI L)).bind _ = _
      rw [q184, bsI, b_161_1004]
    refine ⟨M2, ?_, ⟨0, 12, 1, 0, ?_⟩, by rw [g6 0 (by decide), y0]; exact upf_n (by decide)⟩
    · refine (k_261_0 (cf := call (e + 20)) (M := M0 xs) (R := R0 L) rfl).trans ?_
      show (call (e + 20) 91 [vA 1] (upf (M0 xs) 1 (fun _ => 0)) (rI0 L)).bind _ = _
      rw [q91]
      refine (k_261_7 (cf := call (e + 20)) (M := NA) (R := r91 (rI0 L)) rfl).trans ?_
      rw [← hX]
      show (call (e + 20) 161 [vA 57] X (rI1 L)).bind _ = _
      rw [c161]
      exact k_261_15
    · refine ⟨⟨⟨by rw [g6 4 (by decide), y4]; rfl, by rw [g57 2 (by decide) (by decide) (by decide)]; rfl, by decide⟩, ⟨by rw [g6 2 (by decide), y2]; rfl, by rw [g57 0 (by decide) (by decide) (by decide)]; rfl, by decide, by decide⟩, by rw [g6 13 (by decide), y13]; rfl, m10, by decide, by rw [g6 13 (by decide), y13]; rfl, by rw [g57 11 (by decide) (by decide) (by decide)]; rfl, by decide⟩, ⟨?_, ?_, ?_, ?_, fun p hp => absurd hp (by omega)⟩, fun i hi => ?_, ⟨?_, ?_, fun i hi => ?_⟩, ?_, ⟨?_, ?_⟩, hL, ⟨⟨fun p hp => absurd hp (by omega), ?_, ?_, ?_, ?_, ?_, ?_, ?_, ?_, ?_, ?_⟩, fun s _ => ?_⟩, ?_, ⟨rI_0 L, ?_, fun i hi => ?_⟩, ?_, ?_⟩
      · rw [g6 3 (by decide), y3, gO 58 (by decide) (by decide) (by decide) (by decide) (by decide), w58]
      · rw [g6 5 (by decide), y5, gO 59 (by decide) (by decide) (by decide) (by decide) (by decide), w59]
      · rw [g6 6 (by decide), y6, gO 60 (by decide) (by decide) (by decide) (by decide) (by decide), w60]
      · rw [g6 7 (by decide), y7, gO 61 (by decide) (by decide) (by decide) (by decide) (by decide), w61]
      · have : i = 0 := by omega
        subst this
        exact tx_0 hL (rI_x L) (by rw [g6 20 (by decide), y20]) (by rw [g6 21 (by decide), y21]) sg v0 v1 v2 v3
      · rw [g6 8 (by decide), y8, m7]
      · rw [m7]; decide
      · rw [m7] at hi; omega
      · intro s hs
        have h66 : M2 66 s = -1 := by
          rw [gO 66 (by decide) (by decide) (by decide) (by decide) (by decide), w66]
          exact F66_e ⟨s, hs⟩
        have h67 : M2 67 = (fun _ => 0) := by rw [gO 67 (by decide) (by decide) (by decide) (by decide) (by decide), w67]
        have h68 : M2 68 = (fun _ => 0) := by rw [gO 68 (by decide) (by decide) (by decide) (by decide) (by decide), w68]
        rw [h66, h67, h68]
        have hk : M2 (46 + 2 * s) = upf (fun _ => 0) 0 (-1) ∧ M2 (47 + 2 * s) = (fun _ => 0) := by
          rcases (by omega : s = 0 ∨ s = 1 ∨ s = 2 ∨ s = 3) with q | q | q | q <;> subst q
          · exact ⟨by rw [gN _ (by decide)]; exact z46, by rw [gN _ (by decide)]; exact z47⟩
          · exact ⟨by rw [gN _ (by decide)]; exact z48, by rw [gN _ (by decide)]; exact z49⟩
          · exact ⟨by rw [gN _ (by decide)]; exact z50, by rw [gN _ (by decide)]; exact z51⟩
          · exact ⟨by rw [gN _ (by decide)]; exact z52, by rw [gN _ (by decide)]; exact z53⟩
        rw [hk.1, hk.2]
        exact ⟨rfl, rfl, by decide, ⟨Int.le_refl 0, (by decide : (0 : Int) ≤ 40)⟩, fun _ _ => rfl⟩
      · rw [gN 54 (by decide), z54, g57 12 (by decide) (by decide) (by decide)]
        rfl
      · intro h
        rw [g57 12 (by decide) (by decide) (by decide)] at h
        exact absurd rfl h
      · unfold spI at *
        rw [gN 32 (by decide), gN 33 (by decide), gN 34 (by decide), a1 32 (by decide), a1 33 (by decide), a1 34 (by decide)]
        exact sp1
      · unfold spI at *
        rw [gN 38 (by decide), gN 39 (by decide), gN 40 (by decide), a1 38 (by decide), a1 39 (by decide), a1 40 (by decide)]
        exact sp2
      · unfold spI at *
        rw [gN 41 (by decide), gN 42 (by decide), gN 43 (by decide), a1 41 (by decide), a1 42 (by decide), a1 43 (by decide)]
        exact sp3
      · rw [gN 35 (by decide), a1 35 (by decide)]; exact n35
      · rw [gN 35 (by decide), a1 35 (by decide)]; exact n35'
      · rw [g6 22 (by decide), y22]; decide
      · rw [g6 22 (by decide), y22, g6 27 (by decide), y27]; decide
      · rw [g6 22 (by decide), y22, g6 27 (by decide), y27]
        intro h
        exact absurd h (by decide)
      · rw [g6 22 (by decide), y22, g6 27 (by decide), y27]
        intro h
        exact absurd h (by decide)
      · rw [g6 22 (by decide), y22, g6 27 (by decide), y27]
        intro h
        exact absurd h (by decide)
      · rw [gN 29 (by decide), a1 29 (by decide), n29]
        exact ⟨Int.le_refl 0, (by decide : (0 : Int) ≤ 400000000000000000)⟩
      · rw [g6 22 (by decide), y22]; decide
      · have := rI_1 L
        omega
      · have : i = 0 := by omega
        subst this
        obtain ⟨r1, r2, r3⟩ := rI_x L
        rw [r1, r2, r3, rI_0]
        decide
      · intro i hi
        rw [gO 70 (by decide) (by decide) (by decide) (by decide) (by decide), w70]
        exact F70_e ⟨i, hi⟩
      · rw [g6 12 (by decide), y12]
  · rw [TR_0] at hT
    cases hT
end
