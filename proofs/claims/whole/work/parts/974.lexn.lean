section
/-! ===== tokens of the reference: all ===== -/
/-- a sort of token, as the reference has it -/
def mK (k : Int) : Int := if k = 1 then -1 else if k = 2 then 1 else if k = 3 then 2 else if k = 4 ∨ k = 5 ∨ k = 6 then 3 else if k = 7 then 4 else if k = 8 then 5 else if k = 9 then 6 else k
theorem t_175b {e : Nat} {R : RR} (hL : Lay R) {B : Nat → Int} {Z : Nat} : ∀ (k p : Nat) (M : MM), BY M 62 B Z → M 57 7 = (Z : Int) → p + k = Z → M 57 21 = (p : Int) → run (call e) 175 0 [vA 57, vX 0, vX 0] [] M R = run (call e) 175 52 [vA 57, vX 0, vX 0] [] (up M 57 21 ((skp isBk B k p : Nat) : Int)) R := by
  intro k
  induction k with
  | zero =>
    intro p M hB h1 hk h5
    rw [b_175_0, h1, h5, if_pos (by omega)]
    show _ = run (call e) 175 52 [vA 57, vX 0, vX 0] [] (up M 57 21 (p : Int)) R
    rw [← h5, up_self]
  | succ k ih =>
    intro p M hB h1 hk h5
    have hp := hB.2 p (by omega)
    have hZ := hB.1
    have e1 : w32 ((p : Int) + 1) = ((p + 1 : Nat) : Int) := by rw [w32_i (by omega)]; omega
    have go : B p = 32 ∨ B p = 10 → run (call e) 175 39 [vA 57, vX 0, vX 0] [] M R = run (call e) 175 52 [vA 57, vX 0, vX 0] [] (up M 57 21 ((skp isBk B (k + 1) p : Nat) : Int)) R := by
      intro g
      unfold skp
      rw [b_175_39, h5, e1, if_pos (show isBk (B p) = true from decide_eq_true g), ih (p + 1) _ ⟨hZ, fun i hi => by rw [up_o (by decide)]; exact hB.2 i hi⟩ (by rw [up_i (by decide)]; exact h1) (by omega) up_s, up_up]
    rw [b_175_0, h1, h5, if_neg (by omega), b_175_11 hL, h5, if_pos (by omega), Int.toNat_natCast, hp.1]
    by_cases g1 : B p = 32
    · rw [if_pos g1]
      exact go (.inl g1)
    · rw [if_neg g1, b_175_25 hL, h5, if_pos (by omega), Int.toNat_natCast, hp.1]
      by_cases g2 : B p = 10
      · rw [if_neg (not_not_intro g2)]
        exact go (.inr g2)
      · rw [if_pos g2]
        unfold skp
        rw [if_neg (show ¬ isBk (B p) = true from by unfold isBk; rw [decide_eq_true_eq]; omega), ← h5, up_self]
theorem t_175l {e : Nat} (he : 1 ≤ e) {R : RR} (hL : Lay R) {B : Nat → Int} {Z : Nat} {c : Int} : ∀ (k p : Nat) (M : MM), BY M 62 B Z → M 57 7 = (Z : Int) → p + k = Z → M 57 21 = (p : Int) → run (call e) 175 103 [vA 57, vI c, vX 0] [] M R = run (call e) 175 146 [vA 57, vI c, vX 0] [] (up M 57 21 ((skp isLt B k p : Nat) : Int)) R := by
  intro k
  induction k with
  | zero =>
    intro p M hB h1 hk h5
    rw [b_175_103, h1, h5, if_pos (by omega)]
    show _ = run (call e) 175 146 [vA 57, vI c, vX 0] [] (up M 57 21 (p : Int)) R
    rw [← h5, up_self]
  | succ k ih =>
    intro p M hB h1 hk h5
    have hp := hB.2 p (by omega)
    have hZ := hB.1
    have e1 : w32 ((p : Int) + 1) = ((p + 1 : Nat) : Int) := by rw [w32_i (by omega)]; omega
    rw [b_175_103, h1, h5, if_neg (by omega), b_175_114 hL, h5, if_pos (by omega), Int.toNat_natCast, hp.1, s_162 he, bsI, b_175_130]
    unfold skp
    by_cases g : 97 ≤ B p ∧ B p ≤ 122
    · rw [b2_t g, if_neg (by decide), b_175_133, h5, e1, if_pos (show isLt (B p) = true from decide_eq_true g), ih (p + 1) _ ⟨hZ, fun i hi => by rw [up_o (by decide)]; exact hB.2 i hi⟩ (by rw [up_i (by decide)]; exact h1) (by omega) up_s, up_up]
    · rw [b2_f g, if_pos rfl, if_neg (show ¬ isLt (B p) = true from by unfold isLt; rw [decide_eq_true_eq]; exact g), ← h5, up_self]
theorem t_175d {e : Nat} (he : 1 ≤ e) {M : MM} {R : RR} (hL : Lay R) {B : Nat → Int} {Z s : Nat} {c : Int} (hB : BY M 62 B Z) (h7 : M 57 7 = (Z : Int)) (h21 : M 57 21 = (s : Int)) (h24 : M 57 24 = 0) (hs : s ≤ Z) : ∃ M', run (call e) 175 230 [vA 57, vI c, vI 0] [] M R = some (vX 0, M', R) ∧ Fx [57] M M' ∧ (∀ i, ¬ i = 21 → ¬ i = 23 → ¬ i = 24 → M' 57 i = M 57 i) ∧ M' 57 21 = ((skp isDg B (Z - s) s : Nat) : Int) ∧ M' 57 23 = (if skp isDg B (Z - s) s - s ≤ 4 then 1 else -1) ∧ (skp isDg B (Z - s) s - s ≤ 4 → M' 57 24 = dv B s (skp isDg B (Z - s) s - s)) := by
  have hZ := hB.1
  have key : ∀ (k j : Nat) (N : MM), s + j + k = Z → Fx [57] M N → (∀ i, ¬ i = 21 → ¬ i = 23 → ¬ i = 24 → N 57 i = M 57 i) → N 57 21 = ((s + j : Nat) : Int) → (j ≤ 4 → N 57 24 = dv B s j) → (∀ i, i < j → isDg (B (s + i)) = true) → ∃ M', run (call e) 175 230 [vA 57, vI c, vI j] [] N R = some (vX 0, M', R) ∧ Fx [57] M M' ∧ (∀ i, ¬ i = 21 → ¬ i = 23 → ¬ i = 24 → M' 57 i = M 57 i) ∧ M' 57 21 = ((skp isDg B k (s + j) : Nat) : Int) ∧ M' 57 23 = (if skp isDg B k (s + j) - s ≤ 4 then 1 else -1) ∧ (skp isDg B k (s + j) - s ≤ 4 → M' 57 24 = dv B s (skp isDg B k (s + j) - s)) := by
    have fin : ∀ (j : Nat) (N : MM), s + j ≤ Z → Fx [57] M N → (∀ i, ¬ i = 21 → ¬ i = 23 → ¬ i = 24 → N 57 i = M 57 i) → N 57 21 = ((s + j : Nat) : Int) → (j ≤ 4 → N 57 24 = dv B s j) → ∃ M', run (call e) 175 309 [vA 57, vI c, vI j] [] N R = some (vX 0, M', R) ∧ Fx [57] M M' ∧ (∀ i, ¬ i = 21 → ¬ i = 23 → ¬ i = 24 → M' 57 i = M 57 i) ∧ M' 57 21 = ((s + j : Nat) : Int) ∧ M' 57 23 = (if s + j - s ≤ 4 then 1 else -1) ∧ (s + j - s ≤ 4 → M' 57 24 = dv B s (s + j - s)) := by
      intro j N hj F g n5 n3
      rw [show s + j - s = j by omega]
      by_cases h : j ≤ 4
      · refine ⟨up N 57 23 1, ?_, Fx_t F (Fx_p (by decide)), fun i i2 i3 i5 => by rw [up_i i3]; exact g i i2 i3 i5, by rw [up_i (by decide)]; exact n5, by rw [up_s, if_pos h], fun _ => by rw [up_i (by decide)]; exact n3 h⟩
        rw [b_175_309, if_pos (by omega), b_175_319, b_175_320, b_175_403]
      · refine ⟨up N 57 23 (-1), ?_, Fx_t F (Fx_p (by decide)), fun i i2 i3 i5 => by rw [up_i i3]; exact g i i2 i3 i5, by rw [up_i (by decide)]; exact n5, by rw [up_s, if_neg h], fun q => absurd q h⟩
        rw [b_175_309, if_neg (by omega), b_175_315, b_175_320, b_175_403]
    intro k
    induction k with
    | zero =>
      intro j N hk F g n5 n3 _
      have n1 : N 57 7 = (Z : Int) := by rw [g 7 (by decide) (by decide) (by decide)]; exact h7
      rw [b_175_230, n1, n5, if_pos (by omega)]
      exact fin j N (by omega) F g n5 n3
    | succ k ih =>
      intro j N hk F g n5 n3 hdg
      have n1 : N 57 7 = (Z : Int) := by rw [g 7 (by decide) (by decide) (by decide)]; exact h7
      have hp := hB.2 (s + j) (by omega)
      rw [← F 62 (by decide)] at hp
      have e1 : w32 (((s + j : Nat) : Int) + 1) = ((s + (j + 1) : Nat) : Int) := by rw [w32_i (by omega)]; omega
      have e2 : w32 ((j : Int) + 1) = ((j + 1 : Nat) : Int) := by rw [w32_i (by omega)]; omega
      rw [b_175_230, n1, n5, if_neg (by omega), b_175_241 hL, n5, if_pos (by omega), Int.toNat_natCast, hp.1, s_162 he, bsI, b_175_257]
      unfold skp
      by_cases h : 48 ≤ B (s + j) ∧ B (s + j) ≤ 57
      · have step : ∀ v, (j + 1 ≤ 4 → v = dv B s (j + 1)) → ∃ M', run (call e) 175 290 [vA 57, vI c, vI j] [vI v, vA 57] N R = some (vX 0, M', R) ∧ Fx [57] M M' ∧ (∀ i, ¬ i = 21 → ¬ i = 23 → ¬ i = 24 → M' 57 i = M 57 i) ∧ M' 57 21 = ((skp isDg B k (s + j + 1) : Nat) : Int) ∧ M' 57 23 = (if skp isDg B k (s + j + 1) - s ≤ 4 then 1 else -1) ∧ (skp isDg B k (s + j + 1) - s ≤ 4 → M' 57 24 = dv B s (skp isDg B k (s + j + 1) - s)) := by
          intro v hv
          rw [b_175_290, up_i (by decide), n5, e1, e2]
          refine ih (j + 1) _ (by omega) (Fx_t F (Fx_t (Fx_p (by decide)) (Fx_p (by decide)))) (fun i i2 i3 i5 => by rw [up_i i2, up_i i5]; exact g i i2 i3 i5) up_s ?_ ?_
          · intro hj
            rw [up_i (by decide), up_s]
            exact hv hj
          · intro i hi
            by_cases q : i = j
            · subst q; exact decide_eq_true h
            · exact hdg i (by omega)
        rw [b2_t h, if_neg (by decide), b_175_260, if_pos (show isDg (B (s + j)) = true from decide_eq_true h)]
        by_cases j4 : j < 4
        · rw [if_neg (by omega), b_175_266 hL, n5, if_pos (by omega), Int.toNat_natCast, hp.1]
          refine step _ (fun _ => ?_)
          rw [n3 (by omega)]
          have hr := dv_r (B := B) (p := s) j (fun i hi => by
            have := hdg i hi
            unfold isDg at this
            rw [decide_eq_true_eq] at this
            exact this)
          have hb : 10 ^ j ≤ 1000 := Nat.pow_le_pow_right (n := 10) (by omega) (by omega : j ≤ 3)
          show w32 (w32 (w32 (10 * dv B s j) + B (s + j)) - 48) = 10 * dv B s j + B (s + j) - 48
          generalize 10 ^ j = z at *
          simp (disch := omega) only [w32_i]
        · rw [if_pos (by omega), b_175_289]
          exact step 0 (fun q => absurd q (by omega))
      · rw [b2_f h, if_pos rfl, if_neg (show ¬ isDg (B (s + j)) = true from by unfold isDg; rw [decide_eq_true_eq]; exact h)]
        exact fin j N (by omega) F g n5 n3
  have q := key (Z - s) 0 M (by omega) Fx_r (fun _ _ _ _ => rfl) (by rw [Nat.add_zero]; exact h21) (fun _ => h24) (fun i hi => absurd hi (by omega))
  rw [Nat.add_zero] at q
  exact q
/-- the next token -/
theorem s_175 {d0 : Nat} (hd : 2 ≤ d0) {M : MM} {R : RR} (hL : Lay R) {B : Nat → Int} {Z q : Nat} (hB : BY M 62 B Z) (hW : WT M) (h7 : M 57 7 = (Z : Int)) (h21 : M 57 21 = (q : Int)) (hq : q ≤ Z) : ∃ M', call d0 175 [vA 57] M R = some (vX 0, M', R) ∧ Fx [57] M M' ∧ (∀ i, ¬ i = 21 → ¬ i = 22 → ¬ i = 23 → ¬ i = 24 → M' 57 i = M 57 i) ∧ M' 57 21 = ((tkE B Z q : Nat) : Int) ∧ M' 57 22 = ((tkS B Z q : Nat) : Int) ∧ M' 57 23 = mK (tkK B Z q) ∧ (tkK B Z q = 2 ∨ tkK B Z q = 3 → M' 57 24 = tkV B Z q) ∧ (tkK B Z q = 4 ∨ tkK B Z q = 5 ∨ tkK B Z q = 6 → M' 57 24 = tkK B Z q - 4) := by
  obtain ⟨e, rfl⟩ := s_le hd
  have hZ := hB.1
  have start : ∀ M', run (call (e + 1)) 175 0 [vA 57, vX 0, vX 0] [] M R = some (vX 0, M', R) → call (e + 2) 175 [vA 57] M R = some (vX 0, M', R) := fun M' h => call_of 3 [vA 57, vX 0, vX 0] (by decide) rfl (Nat.le_of_ble_eq_true rfl) rfl h rfl
  have qs : run (call (e + 1)) 175 0 [vA 57, vX 0, vX 0] [] M R = run (call (e + 1)) 175 52 [vA 57, vX 0, vX 0] [] (up M 57 21 ((tkS B Z q : Nat) : Int)) R := t_175b hL (Z - q) q M hB h7 (by omega) h21
  have hb := tk_b B hq
  have c0 := @tk_end B Z q
  have c1 := @tk_let B Z q
  have c2 := @tk_dig B Z q
  have c3 := @tk_one B Z q
  have cn : tkN B Z q = tkE B Z q - tkS B Z q := rfl
  generalize tkE B Z q = ee at hb c0 c1 c2 c3 cn ⊢
  generalize tkK B Z q = kk at hb c0 c1 c2 c3 ⊢
  generalize tkV B Z q = vv at c1 c2 ⊢
  generalize tkN B Z q = nn at c1 c2 cn
  generalize tkS B Z q = s at hb c0 c1 c2 c3 cn qs ⊢
  obtain ⟨N, hN⟩ : ∃ N, N = up (up (up (up M 57 21 (s : Int)) 57 22 (s : Int)) 57 23 0) 57 24 0 := ⟨_, rfl⟩
  have FN : Fx [57] M N := by rw [hN]; exact Fx_t (Fx_t (Fx_t (Fx_p (by decide)) (Fx_p (by decide))) (Fx_p (by decide))) (Fx_p (by decide))
  have nB : BY N 62 B Z := ⟨hZ, fun i hi => by rw [FN 62 (by decide)]; exact hB.2 i hi⟩
  have n0 : ∀ i, ¬ i = 21 → ¬ i = 22 → ¬ i = 23 → ¬ i = 24 → N 57 i = M 57 i := fun i i1 i2 i3 i4 => by rw [hN, up_i i4, up_i i3, up_i i2, up_i i1]
  have n7 : N 57 7 = (Z : Int) := by rw [n0 7 (by decide) (by decide) (by decide) (by decide)]; exact h7
  have n21 : N 57 21 = (s : Int) := by rw [hN, up_i (by decide), up_i (by decide), up_i (by decide), up_s]
  have n22 : N 57 22 = (s : Int) := by rw [hN, up_i (by decide), up_i (by decide), up_s]
  have n23 : N 57 23 = 0 := by rw [hN, up_i (by decide), up_s]
  have n24 : N 57 24 = 0 := by rw [hN, up_s]
  rw [b_175_52, up_s (i := 21), ← hN, n21, n7] at qs
  by_cases g : Z ≤ s
  · obtain ⟨k1, k2⟩ := c0 g
    subst k1 k2
    rw [if_neg (by omega), b_175_81] at qs
    exact ⟨N, start _ qs, FN, n0, n21, n22, n23, fun h => by omega, fun h => by omega⟩
  · have hs : s ≤ Z := by omega
    have hp := nB.2 s (by omega)
    rw [if_pos (by omega), b_175_82 hL, n21, if_pos (by omega), Int.toNat_natCast, hp.1, s_162 (by omega), bsI, b_175_100] at qs
    by_cases l : 97 ≤ B s ∧ B s ≤ 122
    · obtain ⟨k1, k2, k3⟩ := c1 g (decide_eq_true l)
      have hk := skp_ok isLt B (Z - s) s
      rw [← k1] at hk
      obtain ⟨n, hn⟩ : ∃ n, ee = s + n := ⟨ee - s, by omega⟩
      have hnn : nn = n := by omega
      subst hnn
      rw [b2_t l, if_neg (by decide), t_175l (by omega) hL (Z - s) s N nB n7 (by omega) n21, ← k1, b_175_146, up_i (by decide), n22, up_s, hn, s_174 (by omega) hL ⟨hZ, fun i hi => by rw [up_o (by decide)]; exact nB.2 i hi⟩ (fun i hi => by rw [up_o (by decide), FN 70 (by decide)]; exact hW i hi) (by omega), bsI, b_175_158] at qs
      have hw := wx_rx (B := B) (s := s) (n := nn) (fun i hi => hk.2.2.1 (s + i) (by omega) (by omega))
      obtain ⟨V, hV⟩ : ∃ V, V = up N 57 21 ((s + nn : Nat) : Int) := ⟨_, rfl⟩
      rw [← hV] at qs
      have FV : Fx [57] M V := by rw [hV]; exact Fx_t FN (Fx_p (by decide))
      have v0 : ∀ i, ¬ i = 21 → ¬ i = 22 → ¬ i = 23 → ¬ i = 24 → V 57 i = M 57 i := fun i i1 i2 i3 i4 => by rw [hV, up_i i1]; exact n0 i i1 i2 i3 i4
      have v21 : V 57 21 = ((ee : Nat) : Int) := by rw [hV, up_s, hn]
      have v22 : V 57 22 = (s : Int) := by rw [hV, up_i (by decide)]; exact n22
      have done : ∀ (x v : Int) (r : Int), (if 3 ≤ r then w32 (r - 3) else r) = v → run (call (e + 1)) 175 195 [vA 57, vI (B s), vI r] [vI x, vA 57] V R = some (vX 0, up (up V 57 23 x) 57 24 v, R) := by
        intro x v r h
        rw [b_175_195]
        by_cases r3 : 3 ≤ r
        · rw [if_pos r3] at h
          rw [if_pos r3, b_175_208, b_175_211, b_175_403, h]
        · rw [if_neg r3] at h
          rw [if_neg r3, b_175_204, b_175_211, b_175_403, h]
      have fin : ∀ (x v : Int), run (call (e + 1)) 175 0 [vA 57, vX 0, vX 0] [] M R = some (vX 0, up (up V 57 23 x) 57 24 v, R) → x = mK kk → (kk = 2 ∨ kk = 3 → v = vv) → (kk = 4 ∨ kk = 5 ∨ kk = 6 → v = kk - 4) → ∃ M', call (e + 2) 175 [vA 57] M R = some (vX 0, M', R) ∧ Fx [57] M M' ∧ (∀ i, ¬ i = 21 → ¬ i = 22 → ¬ i = 23 → ¬ i = 24 → M' 57 i = M 57 i) ∧ M' 57 21 = ((ee : Nat) : Int) ∧ M' 57 22 = (s : Int) ∧ M' 57 23 = mK kk ∧ (kk = 2 ∨ kk = 3 → M' 57 24 = vv) ∧ (kk = 4 ∨ kk = 5 ∨ kk = 6 → M' 57 24 = kk - 4) := by
        intro x v q1 q2 q3 q4
        refine ⟨_, start _ q1, Fx_t FV (Fx_t (Fx_p (by decide)) (Fx_p (by decide))), fun i i1 i2 i3 i4 => by rw [up_i i4, up_i i3]; exact v0 i i1 i2 i3 i4, by rw [up_i (by decide), up_i (by decide)]; exact v21, by rw [up_i (by decide), up_i (by decide)]; exact v22, by rw [up_i (by decide), up_s]; exact q2, fun h => by rw [up_s]; exact q3 h, fun h => by rw [up_s]; exact q4 h⟩
      rcases hw with ⟨w1, w2⟩ | ⟨w, hw12, w1, w2⟩
      · rw [w1, if_pos (by decide)] at k2
        subst k2
        rw [w2, if_pos rfl, if_pos (by decide), b_175_169, if_pos (by decide), b_175_179, if_neg (by decide), b_175_185, done (-1) 9 12 (by decide)] at qs
        exact fin _ _ qs (by decide) (fun h => by omega) (fun h => by omega)
      · rw [w1] at k2 k3
        have hne : ¬ ((prm w : Nat) : Int) = -1 := by omega
        rw [w2, if_neg hne] at qs
        have hw' : w = 0 ∨ w = 1 ∨ w = 2 ∨ w = 3 ∨ w = 4 ∨ w = 5 ∨ (6 ≤ w ∧ prm w = w - 3) := by
          rcases (by omega : w = 0 ∨ w = 1 ∨ w = 2 ∨ w = 3 ∨ w = 4 ∨ w = 5 ∨ w = 6 ∨ w = 7 ∨ w = 8 ∨ w = 9 ∨ w = 10 ∨ w = 11) with q | q | q | q | q | q | q | q | q | q | q | q <;> subst q <;> simp [prm]
        rcases hw' with q | q | q | q | q | q | ⟨q, q'⟩
        · subst q
          rw [if_neg (by decide), if_pos (by decide)] at k2
          subst k2
          rw [show ((prm 0 : Nat) : Int) = 0 from rfl, if_neg (by decide), b_175_165, done 3 0 0 (by decide)] at qs
          exact fin _ _ qs (by decide) (fun h => absurd h (by decide)) (fun h => by decide)
        · subst q
          rw [if_neg (by decide), if_pos (by decide)] at k2
          subst k2
          rw [show ((prm 1 : Nat) : Int) = 1 from rfl, if_neg (by decide), b_175_165, done 3 1 1 (by decide)] at qs
          exact fin _ _ qs (by decide) (fun h => absurd h (by decide)) (fun h => by decide)
        · subst q
          rw [if_neg (by decide), if_pos (by decide)] at k2
          subst k2
          rw [show ((prm 2 : Nat) : Int) = 2 from rfl, if_neg (by decide), b_175_165, done 3 2 2 (by decide)] at qs
          exact fin _ _ qs (by decide) (fun h => absurd h (by decide)) (fun h => by decide)
        · subst q
          rw [if_neg (by decide), if_pos (by decide)] at k2
          subst k2
          rw [show ((prm 3 : Nat) : Int) = 9 from rfl, if_pos (by decide), b_175_169, if_pos (by decide), b_175_179, if_pos (by decide), b_175_189, done _ 6 9 (by decide)] at qs
          exact fin _ _ qs (by decide) (fun h => absurd h (by decide)) (fun h => absurd h (by decide))
        · subst q
          rw [if_neg (by decide), if_pos (by decide)] at k2
          subst k2
          rw [show ((prm 4 : Nat) : Int) = 10 from rfl, if_pos (by decide), b_175_169, if_pos (by decide), b_175_179, if_pos (by decide), b_175_189, done _ 7 10 (by decide)] at qs
          exact fin _ _ qs (by decide) (fun h => absurd h (by decide)) (fun h => absurd h (by decide))
        · subst q
          rw [if_neg (by decide), if_pos (by decide)] at k2
          subst k2
          rw [show ((prm 5 : Nat) : Int) = 11 from rfl, if_pos (by decide), b_175_169, if_pos (by decide), b_175_179, if_pos (by decide), b_175_189, done _ 8 11 (by decide)] at qs
          exact fin _ _ qs (by decide) (fun h => absurd h (by decide)) (fun h => absurd h (by decide))
        · rw [if_neg (by omega), if_neg (by omega)] at k2
          subst k2
          rw [q', if_pos (by omega), b_175_169, if_neg (by omega), b_175_175, done 2 ((w : Int) - 6) ((w - 3 : Nat) : Int) (by rw [if_pos (by omega), w32_i (by omega)]; omega)] at qs
          exact fin _ _ qs (by decide) (fun h => k3.symm) (fun h => absurd h (by decide))
    · have l' : ¬ isLt (B s) = true := by unfold isLt; rw [decide_eq_true_eq]; exact l
      rw [b2_f l, if_pos rfl, b_175_217, s_162 (by omega), bsI, b_175_225] at qs
      by_cases dg : 48 ≤ B s ∧ B s ≤ 57
      · obtain ⟨k1, k2, k3⟩ := c2 g l' (decide_eq_true dg)
        rw [b2_t dg, if_neg (by decide), b_175_228] at qs
        obtain ⟨M', q52, F, m0, m5, m2, m3⟩ := t_175d (e := e + 1) (by omega) hL (c := B s) nB n7 n21 n24 hs
        rw [q52] at qs
        rw [← k1, ← cn] at m2 m3
        rw [← k1] at m5
        refine ⟨M', start _ qs, Fx_t FN F, fun i i1 i2 i3 i4 => by rw [m0 i i1 i3 i4]; exact n0 i i1 i2 i3 i4, m5, by rw [m0 22 (by decide) (by decide) (by decide)]; exact n22, ?_, ?_, ?_⟩
        · rw [m2, k2]
          by_cases h4 : nn ≤ 4
          · rw [if_pos h4, if_pos h4]; decide
          · rw [if_neg h4, if_neg h4]; decide
        · intro h
          rw [k3]
          refine m3 ?_
          rw [k2] at h
          by_cases w0 : nn ≤ 4
          · exact w0
          · rw [if_neg w0] at h
            omega
        · intro h
          rw [k2] at h
          by_cases w0 : nn ≤ 4
          · rw [if_pos w0] at h; omega
          · rw [if_neg w0] at h; omega
      · have d' : ¬ isDg (B s) = true := by unfold isDg; rw [decide_eq_true_eq]; exact dg
        obtain ⟨k1, k2⟩ := c3 g l' d'
        rw [b2_f dg, if_pos rfl] at qs
        have e5 : ∀ v, w32 (up N 57 23 v 57 21 + 1) = ((s + 1 : Nat) : Int) := by
          intro v
          rw [up_i (by decide), n21, w32_i (by omega)]
          omega
        have fin : ∀ (b x : Int), (if b = 0 then -1 else B s) = x → run (call (e + 1)) 175 379 [vA 57, vI (B s), vX 0] [vI b] N R = some (vX 0, up (up N 57 23 x) 57 21 ((s + 1 : Nat) : Int), R) := by
          intro b x h
          rw [b_175_379]
          by_cases b0 : b = 0
          · rw [if_pos b0] at h
            rw [if_pos b0, b_175_389, b_175_390, e5, b_175_403, h]
          · rw [if_neg b0] at h
            rw [if_neg b0, b_175_385, b_175_390, e5, b_175_403, h]
        by_cases sg : B s = 40 ∨ B s = 41 ∨ B s = 59 ∨ B s = 43 ∨ B s = 45 ∨ B s = 42 ∨ B s = 60 ∨ B s = 61
        · have s' : isSg (B s) = true := decide_eq_true sg
          rw [if_pos s'] at k2
          have q374 : run (call (e + 1)) 175 326 [vA 57, vI (B s), vX 0] [] N R = run (call (e + 1)) 175 374 [vA 57, vI (B s), vX 0] [] N R := by
            rw [b_175_326]
            by_cases x1 : B s = 40
            · rw [if_pos x1]
            rw [if_neg x1, b_175_332]
            by_cases x2 : B s = 41
            · rw [if_pos x2]
            rw [if_neg x2, b_175_338]
            by_cases x3 : B s = 59
            · rw [if_pos x3]
            rw [if_neg x3, b_175_344]
            by_cases x4 : B s = 43
            · rw [if_pos x4]
            rw [if_neg x4, b_175_350]
            by_cases x5 : B s = 45
            · rw [if_pos x5]
            rw [if_neg x5, b_175_356]
            by_cases x6 : B s = 42
            · rw [if_pos x6]
            rw [if_neg x6, b_175_362]
            by_cases x7 : B s = 60
            · rw [if_pos x7]
            rw [if_neg x7, b_175_368, if_neg (by omega)]
          rw [q374, b_175_374, fin 1 (B s) (if_neg (by decide))] at qs
          have hkk : 40 ≤ kk := by omega
          refine ⟨_, start _ qs, Fx_t FN (Fx_t (Fx_p (by decide)) (Fx_p (by decide))), fun i i1 i2 i3 i4 => by rw [up_i i1, up_i i3]; exact n0 i i1 i2 i3 i4, by rw [up_s, k1], by rw [up_i (by decide), up_i (by decide)]; exact n22, ?_, fun h => by omega, fun h => by omega⟩
          rw [up_i (by decide), up_s, k2]
          unfold mK
          simp (disch := omega) only [if_neg]
        · have s' : ¬ isSg (B s) = true := by unfold isSg; rw [decide_eq_true_eq]; exact sg
          rw [if_neg s'] at k2
          rw [b_175_326, if_neg (by omega), b_175_332, if_neg (by omega), b_175_338, if_neg (by omega), b_175_344, if_neg (by omega), b_175_350, if_neg (by omega), b_175_356, if_neg (by omega), b_175_362, if_neg (by omega), b_175_368, if_pos (by omega), b_175_378, fin 0 (-1) (if_pos rfl)] at qs
          refine ⟨_, start _ qs, Fx_t FN (Fx_t (Fx_p (by decide)) (Fx_p (by decide))), fun i i1 i2 i3 i4 => by rw [up_i i1, up_i i3]; exact n0 i i1 i2 i3 i4, by rw [up_s, k1], by rw [up_i (by decide), up_i (by decide)]; exact n22, ?_, fun h => by omega, fun h => by omega⟩
          rw [up_i (by decide), up_s, k2]
          decide
end
