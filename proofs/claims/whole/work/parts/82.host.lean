section
/-! ===== whom to ask: host, cheap, wager ===== -/
abbrev comeP (k mo o : Int) : Prop := (¬ k = 3 ∨ o ≤ mo) ∧ (¬ k = 5 ∨ o ≤ w32 (Int.tdiv mo 3))
def fa (c : Nat → Bool) : Nat → Nat → Bool
  | 0, _ => true
  | k + 1, n => if c n = true then fa c k (n + 1) else false
def cmB (kd mo : Nat → Int) (s p : Nat) : Bool := !s.testBit p || decide (comeP (kd p) (mo p) (((bl s).length : Nat) - 1))
/-- a set that comes -/
abbrev GD (w : Nat → Nat → Int) (kd mo : Nat → Int) (P Y s : Nat) : Prop := fa (cmB kd mo s) P 0 = true ∧ 0 < AL w Y s
theorem s_20 {d0 : Nat} (hd : 2 ≤ d0) {M : MM} {R : RR} (hL : Lay R) {P s : Nat} (hP : M 4 0 = (P : Int)) (hP7 : P ≤ 7) (hs : s < 128) : call d0 20 [vA 4, vI s] M R = some (vI (b2 (fa (cmB (M 5) (M 6) s) P 0 = true)), M, R) := by
  obtain ⟨e, rfl⟩ := s_le hd
  have l7 := bl_len7 ⟨s, hs⟩
  dsimp only at l7
  have eo : w32 (((bl s).length : Nat) - 1) = (((bl s).length : Nat) : Int) - 1 := by rw [w32_i (by omega)]
  have key : ∀ k n : Nat, n + k = P → run (call (e + 1)) 20 9 [vA 4, vI s, vI ((((bl s).length : Nat) : Int) - 1), vI n] [] M R = some (vI (b2 (fa (cmB (M 5) (M 6) s) k n = true)), M, R) := by
    intro k
    induction k with
    | zero =>
      intro n hn
      rw [b_20_9, hP, if_pos (by omega), b_20_42, b2_t (show fa (cmB (M 5) (M 6) s) 0 n = true from rfl)]
    | succ k ih =>
      intro n hn
      have e1 : w32 ((n : Int) + 1) = ((n + 1 : Nat) : Int) := by rw [w32_i (by omega)]; omega
      have ef : fa (cmB (M 5) (M 6) s) (k + 1) n = if cmB (M 5) (M 6) s n = true then fa (cmB (M 5) (M 6) s) k (n + 1) else false := rfl
      rw [b_20_9, hP, if_neg (by omega), b_20_17, c_bit (by omega) (by omega), ef]
      by_cases h : s.testBit n = true
      · rw [b2_t h, if_neg (by decide), b_20_25, s_19 (by omega) hL _ _ (by omega), bsI, b_20_31, Int.toNat_natCast]
        by_cases g : comeP (M 5 n) (M 6 n) ((((bl s).length : Nat) : Int) - 1)
        · rw [b2_t g, if_pos (by decide), b_20_36, e1, ih (n + 1) (by omega), if_pos (by simp [cmB, g])]
        · rw [b2_f g, if_neg (by decide), b_20_34, if_neg (by simp only [cmB, h]; simpa using g), b2_f (by decide)]
      · rw [b2_f h, if_pos rfl, b_20_36, e1, ih (n + 1) (by omega), if_pos (by simp [cmB, h])]
  refine call_of 4 [vA 4, vI s, vX 0, vX 0] (by decide) rfl (Nat.le_of_ble_eq_true rfl) rfl ?_ b2_ok
  rw [b_20_0, s_258 (by omega) hs, bsI, b_20_4, eo]
  exact key P 0 (by omega)
theorem s_126 {d0 : Nat} (hd : 3 ≤ d0) {M : MM} {R : RR} (hL : Lay R) {P Y t s : Nat} (hX : XW M R P Y t) (hA : aW M P Y) (hs : s < 2 ^ P) : call d0 126 [vA 1, vI s] M R = some (vI (b2 (GD (Wd M) (M 5) (M 6) P Y s)), M, R) := by
  obtain ⟨e, rfl⟩ := s_le hd
  have hev := EV_b hX.2.1
  refine call_of 2 [vA 1, vI s] (by decide) rfl (Nat.le_of_ble_eq_true rfl) rfl ?_ b2_ok
  rw [b_126_0 hL, s_20 (by omega) hL hX.1 hX.2.1 (by omega), bsI, b_126_8]
  by_cases h : fa (cmB (M 5) (M 6) s) P 0 = true
  · rw [b2_t h, if_neg (by decide), b_126_11 hL, s_64 (by omega) hL hX.2.1 hA hs, bsJ, b_126_19]
    simp only [lc_le]
    by_cases g : 0 < AL (Wd M) Y s
    · rw [if_neg (by omega), b_126_24, b_126_29, b2_t ⟨h, g⟩]
    · rw [if_pos (by omega), b_126_28, b_126_29, b2_f (fun q => g q.2)]
  · rw [b2_f h, if_pos rfl, b_126_28, b_126_29, b2_f (fun q => h q.1)]
theorem s_225 {d0 : Nat} (hd : 2 ≤ d0) {M : MM} {R : RR} (hL : Lay R) {w : Nat → Nat → Int} {P Y s : Nat} (hP : M 57 2 = (P : Int)) (hP7 : P ≤ 7) (hA : M 76 s = AL w Y s) (hs : s < 128) : call d0 225 [vA 57, vI s] M R = some (vI (b2 (GD w (M 59) (M 60) P Y s)), M, R) := by
  obtain ⟨e, rfl⟩ := s_le hd
  have l7 := bl_len7 ⟨s, hs⟩
  dsimp only at l7
  have eo : w32 (((bl s).length : Nat) - 1) = (((bl s).length : Nat) : Int) - 1 := by rw [w32_i (by omega)]
  have key : ∀ k n : Nat, n + k = P → run (call (e + 1)) 225 2 [vA 57, vI s, vI n] [] M R = some (vI (b2 (fa (cmB (M 59) (M 60) s) k n = true ∧ 0 < AL w Y s)), M, R) := by
    intro k
    induction k with
    | zero =>
      intro n hn
      rw [b_225_2, hP, if_pos (by omega), b_225_41 hL, if_pos (by omega), Int.toNat_natCast, hA]
      simp only [lc_le]
      by_cases g : 0 < AL w Y s
      · rw [if_neg (by omega), b_225_52, b_225_57, b2_t ⟨rfl, g⟩]
      · rw [if_pos (by omega), b_225_56, b_225_57, b2_f (fun q => g q.2)]
    | succ k ih =>
      intro n hn
      have e1 : w32 ((n : Int) + 1) = ((n + 1 : Nat) : Int) := by rw [w32_i (by omega)]; omega
      have ef : fa (cmB (M 59) (M 60) s) (k + 1) n = if cmB (M 59) (M 60) s n = true then fa (cmB (M 59) (M 60) s) k (n + 1) else false := rfl
      rw [b_225_2, hP, if_neg (by omega), b_225_10, c_bit (by omega) (by omega), ef]
      by_cases h : s.testBit n = true
      · rw [b2_t h, if_neg (by decide), b_225_19, s_167 (by omega) (by omega), bsI, b_225_25, eo, s_194 (by omega) hL _ _ (by omega), bsI, b_225_30, Int.toNat_natCast]
        by_cases g : comeP (M 59 n) (M 60 n) ((((bl s).length : Nat) : Int) - 1)
        · rw [b2_t g, if_pos (by decide), b_225_35, e1, ih (n + 1) (by omega), if_pos (by simp [cmB, g])]
        · rw [b2_f g, if_neg (by decide), b_225_33, if_neg (by simp only [cmB, h]; simpa using g), b2_f (fun q => absurd q.1 (by decide))]
      · rw [b2_f h, if_pos (by decide), b_225_35, e1, ih (n + 1) (by omega), if_pos (by simp [cmB, h])]
  refine call_of 3 [vA 57, vI s, vX 0] (by decide) rfl (Nat.le_of_ble_eq_true rfl) rfl ?_ b2_ok
  rw [b_225_0]
  exact key P 0 (by omega)
/-- the best of the first sets, 0: none -/
def hN (g : Nat → Bool) (bt : Nat → Nat → Bool) : Nat → Nat
  | 0 => 0
  | n + 1 => if g (n + 1) = true ∧ (hN g bt n = 0 ∨ bt (n + 1) (hN g bt n) = true) then n + 1 else hN g bt n
theorem hN_le (g : Nat → Bool) (bt : Nat → Nat → Bool) : ∀ n, hN g bt n ≤ n
  | 0 => Nat.le_refl 0
  | n + 1 => by
    have := hN_le g bt n
    show (if g (n + 1) = true ∧ (hN g bt n = 0 ∨ bt (n + 1) (hN g bt n) = true) then n + 1 else hN g bt n) ≤ n + 1
    split
    · exact Nat.le_refl _
    · omega
theorem hN_g (g : Nat → Bool) (bt : Nat → Nat → Bool) : ∀ n, 0 < hN g bt n → g (hN g bt n) = true
  | 0, h => absurd h (by show ¬ 0 < 0; omega)
  | n + 1, h => by
    have ih := hN_g g bt n
    have e : hN g bt (n + 1) = if g (n + 1) = true ∧ (hN g bt n = 0 ∨ bt (n + 1) (hN g bt n) = true) then n + 1 else hN g bt n := rfl
    rw [e] at h ⊢
    by_cases k : g (n + 1) = true ∧ (hN g bt n = 0 ∨ bt (n + 1) (hN g bt n) = true)
    · rw [if_pos k]; exact k.1
    · rw [if_neg k] at h ⊢; exact ih h
def btF (w : Nat → Nat → Int) (Y s b : Nat) : Bool := decide (sg (AL w Y s - UN w Y s).toNat (AL w Y s).toNat (AL w Y b - UN w Y b).toNat (AL w Y b).toNat = 1)
def gdF (w : Nat → Nat → Int) (kd mo : Nat → Int) (P Y : Nat) (many : Int) (s : Nat) : Bool := decide ((((bl s).length : Nat) : Int) = many ∧ GD w kd mo P Y s)
/-- the number told for a set, or for none -/
def nb (b : Nat) : Int := if b = 0 then -1 else (b : Int)
def hB (w : Nat → Nat → Int) (kd mo : Nat → Int) (P Y : Nat) (many : Int) (n : Nat) : Nat := hN (gdF w kd mo P Y many) (btF w Y) n
def v_host (w : Nat → Nat → Int) (kd mo : Nat → Int) (P Y : Nat) (many what : Int) : Int := if (1 ≤ many ∧ many ≤ 7) ∧ 0 ≤ what ∧ what ≤ 2 then (if what = 0 then nb (hB w kd mo P Y many (EV P)) else if hB w kd mo P Y many (EV P) = 0 then NO else fr (AL w Y (hB w kd mo P Y many (EV P)) - UN w Y (hB w kd mo P Y many (EV P))) (AL w Y (hB w kd mo P Y many (EV P))) (what - 1)) else NO
theorem s_125 {d0 : Nat} (hd : 4 ≤ d0) {M : MM} {R : RR} (hL : Lay R) {P Y t : Nat} (hX : XW M R P Y t) (hC : PP M P Y) (x : Int) : call d0 125 [vA 1, vI x] M R = some (vI (nb (hB (Wd M) (M 5) (M 6) P Y x (EV P))), M, R) := by
  obtain ⟨e, rfl⟩ := s_le hd
  obtain ⟨hP, hP7, hY, hY1, hY24, _⟩ := id hX
  have hev := EV_b hP7
  have q2 := iter_eq (fun n : Nat => run (call (e + 3)) 125 4 [vA 1, vI x, vI (nb (hB (Wd M) (M 5) (M 6) P Y x n)), vI ((n + 1 : Nat) : Int)] [] M R) (EV P) (by
    intro n hn
    have e1 : w32 (((n + 1 : Nat) : Int) + 1) = ((n + 1 + 1 : Nat) : Int) := by rw [w32_i (by omega)]; omega
    have hs : n + 1 < 2 ^ P := by omega
    have hle := hN_le (gdF (Wd M) (M 5) (M 6) P Y x) (btF (Wd M) Y) n
    have hg := hN_g (gdF (Wd M) (M 5) (M 6) P Y x) (btF (Wd M) Y) n
    have eh : hB (Wd M) (M 5) (M 6) P Y x (n + 1) = if gdF (Wd M) (M 5) (M 6) P Y x (n + 1) = true ∧ (hB (Wd M) (M 5) (M 6) P Y x n = 0 ∨ btF (Wd M) Y (n + 1) (hB (Wd M) (M 5) (M 6) P Y x n) = true) then n + 1 else hB (Wd M) (M 5) (M 6) P Y x n := rfl
    rw [show hN (gdF (Wd M) (M 5) (M 6) P Y x) (btF (Wd M) Y) n = hB (Wd M) (M 5) (M 6) P Y x n from rfl] at hle hg
    generalize hB (Wd M) (M 5) (M 6) P Y x n = b at *
    have nbn : nb (n + 1) = ((n + 1 : Nat) : Int) := if_neg (by omega)
    have keep : run (call (e + 3)) 125 78 [vA 1, vI x, vI (nb b), vI ((n + 1 : Nat) : Int)] [] M R = run (call (e + 3)) 125 4 [vA 1, vI x, vI (nb b), vI ((n + 1 + 1 : Nat) : Int)] [] M R := by
      rw [b_125_78, e1]
    have take : run (call (e + 3)) 125 76 [vA 1, vI x, vI (nb b), vI ((n + 1 : Nat) : Int)] [] M R = run (call (e + 3)) 125 4 [vA 1, vI x, vI (nb (n + 1)), vI ((n + 1 + 1 : Nat) : Int)] [] M R := by
      rw [b_125_76, b_125_78, e1, nbn]
    show run (call (e + 3)) 125 4 [vA 1, vI x, vI (nb b), vI ((n + 1 : Nat) : Int)] [] M R = run (call (e + 3)) 125 4 [vA 1, vI x, vI (nb (hB (Wd M) (M 5) (M 6) P Y x (n + 1))), vI ((n + 1 + 1 : Nat) : Int)] [] M R
    rw [eh, b_125_4 hL, s_13 (by omega), bsI, hP, c_ev (by omega), b_125_12, if_neg (by omega), b_125_15, s_258 (by omega) (by omega), bsI, b_125_19]
    by_cases g1 : (((bl (n + 1)).length : Nat) : Int) = x
    · rw [if_neg (fun q => q g1), b_125_23, s_126 (by omega) hL hX hC.2.2.1 hs, bsI, b_125_28]
      by_cases g2 : GD (Wd M) (M 5) (M 6) P Y (n + 1)
      · have gt : gdF (Wd M) (M 5) (M 6) P Y x (n + 1) = true := decide_eq_true ⟨g1, g2⟩
        rw [b2_t g2, if_pos (by decide), b_125_34]
        by_cases g3 : b = 0
        · rw [if_pos (by unfold nb; rw [if_pos g3]; decide), take, if_pos ⟨gt, .inl g3⟩]
        · have eb : nb b = (b : Int) := if_neg g3
          have hb : b < 2 ^ P := by omega
          have gb := (of_decide_eq_true (hg (by omega))).2
          have r1 := AL_r hX hs
          have r2 : 0 ≤ UN (Wd M) Y (n + 1) ∧ UN (Wd M) Y (n + 1) ≤ AL (Wd M) Y (n + 1) := Dl_ok hX hs 2 1 0
          have r3 := AL_r hX hb
          have r4 : 0 ≤ UN (Wd M) Y b ∧ UN (Wd M) Y b ≤ AL (Wd M) Y b := Dl_ok hX hb 2 1 0
          have gn := g2.2
          have gb2 := gb.2
          rw [if_neg (by rw [eb]; omega), b_125_38 hL, s_67 (by omega) hL hX hC.1 hC.2.2.1 hs, bsJ, b_125_46 hL, s_64 (by omega) hL hP7 hC.2.2.1 hs, bsJ, b_125_54 hL, eb, s_67 (by omega) hL hX hC.1 hC.2.2.1 hb, bsJ, b_125_62 hL, s_64 (by omega) hL hP7 hC.2.2.1 hb, bsJ, b_125_70, s_160 (by omega) _ _ _ _ (by omega) (by omega) (by omega) (by omega), bsI, b_125_73, ← eb]
          have hv := sg_v (AL (Wd M) Y (n + 1) - UN (Wd M) Y (n + 1)).toNat (AL (Wd M) Y (n + 1)).toNat (AL (Wd M) Y b - UN (Wd M) Y b).toNat (AL (Wd M) Y b).toNat
          by_cases g4 : sg (AL (Wd M) Y (n + 1) - UN (Wd M) Y (n + 1)).toNat (AL (Wd M) Y (n + 1)).toNat (AL (Wd M) Y b - UN (Wd M) Y b).toNat (AL (Wd M) Y b).toNat = 1
          · rw [if_neg (by omega), take, if_pos ⟨gt, .inr (decide_eq_true g4)⟩]
          · rw [if_pos (by omega), keep, if_neg (fun q => q.2.elim g3 (fun z => g4 (of_decide_eq_true z)))]
      · rw [b2_f g2, if_neg (by decide), b_125_31, keep, if_neg (fun q => g2 (of_decide_eq_true q.1).2)]
    · rw [if_pos g1, keep, if_neg (fun q => g1 (of_decide_eq_true q.1).1)])
  refine call_of 4 [vA 1, vI x, vX 0, vX 0] (by decide) rfl (Nat.le_of_ble_eq_true rfl) rfl ?_ rfl
  rw [b_125_0]
  refine Eq.trans q2 ?_
  rw [b_125_4 hL, s_13 (by omega), bsI, hP, c_ev (by omega), b_125_12, if_pos (by omega), b_125_84]
theorem s_124 {d0 : Nat} (hd : 7 ≤ d0) {M : MM} {R : RR} (hL : Lay R) {P Y t : Nat} (hX : XW M R P Y t) (hC : CJ M P Y) (x y : Int) : ∃ M', call d0 124 [vA 1, vI x, vI y] M R = some (vJ (v_host (Wd M) (M 5) (M 6) P Y x y), M', R) ∧ Fx clsO M M' ∧ CJ M' P Y := by
  obtain ⟨e, rfl⟩ := s_le hd
  obtain ⟨hP, hP7, hY, hY1, hY24, _⟩ := id hX
  have hev := EV_b hP7
  have start : ∀ v M', run (call (e + 6)) 124 0 [vA 1, vI x, vI y, vX 0] [] M R = some (vJ v, M', R) → call (e + 7) 124 [vA 1, vI x, vI y] M R = some (vJ v, M', R) := fun v M' h => call_of 4 [vA 1, vI x, vI y, vX 0] (by decide) rfl (Nat.le_of_ble_eq_true rfl) rfl h rfl
  unfold v_host
  by_cases h : (1 ≤ x ∧ x ≤ 7) ∧ 0 ≤ y ∧ y ≤ 2
  · obtain ⟨M1, q1, f1, p1⟩ := p_61 (d0 := e + 6) (by omega) hL hX hC
    have X1 := XW_f f1 hX
    have W1 := Wd_e (Wx_x f1)
    have q2 := s_125 (d0 := e + 6) (by omega) hL X1 p1 x
    have hle : hB (Wd M) (M 5) (M 6) P Y x (EV P) ≤ EV P := hN_le _ _ _
    rw [W1, f1 5 (by decide), f1 6 (by decide)] at q2
    generalize hB (Wd M) (M 5) (M 6) P Y x (EV P) = b at *
    refine ⟨M1, start _ _ ?_, f1, p1.1⟩
    rw [if_pos h, b_124_0, if_neg (by omega), b_124_5, if_neg (by omega), b_124_11, if_neg (by omega), b_124_15, if_pos (by omega), b_124_24 hL, q1, bsX, b_124_31, q2, bsI, b_124_36]
    by_cases g : y = 0
    · rw [if_neg (fun q => q g), b_124_41, if_pos g]
    · rw [if_pos g, b_124_44, if_neg g]
      by_cases g2 : b = 0
      · rw [if_neg (by unfold nb; rw [if_pos g2]; decide), b_124_48, b_124_76, if_pos g2]
        rfl
      · have eb : nb b = (b : Int) := if_neg g2
        have hb : b < 2 ^ P := by omega
        have e67 := s_67 (d0 := e + 6) (by omega) hL X1 p1.1 p1.2.2.1 hb
        have e64 := s_64 (d0 := e + 6) (by omega) hL hP7 p1.2.2.1 hb
        rw [W1] at e67 e64
        have r3 := AL_r hX hb
        have r4 : 0 ≤ UN (Wd M) Y b ∧ UN (Wd M) Y b ≤ AL (Wd M) Y b := Dl_ok hX hb 2 1 0
        rw [eb, if_pos (by omega), b_124_54 hL, e67, bsJ, b_124_62 hL, e64, bsJ, b_124_70, w32_i (by omega), p_158 (by omega) _ _ _ (by omega) (by omega), bsJ, b_124_76, if_neg g2]
  · refine ⟨M, start _ _ ?_, Fx_r, hC⟩
    rw [if_neg h, b_124_0]
    by_cases h1 : x < 1
    · rw [if_pos h1, b_124_20]; rfl
    rw [if_neg h1, b_124_5]
    by_cases h2 : 7 < x
    · rw [if_pos h2, b_124_20]; rfl
    rw [if_neg h2, b_124_11]
    by_cases h3 : y < 0
    · rw [if_pos h3, b_124_20]; rfl
    rw [if_neg h3, b_124_15, if_neg (by omega), b_124_20]; rfl
theorem s_226 {d0 : Nat} (hd : 7 ≤ d0) {M : MM} {R : RR} (hL : Lay R) {P Y t : Nat} (hX : XM M R P Y t) (x y : Int) : ∃ M', call d0 226 [vA 57, vI x, vI y] M R = some (vJ (v_host (Wmd M) (M 59) (M 60) P Y x y), M', R) ∧ Fx modO M M' := by
  obtain ⟨e, rfl⟩ := s_le hd
  obtain ⟨hP, hP7, hY, hY1, hY24, _⟩ := id hX
  have hev := EV_b hP7
  have start : ∀ v M', run (call (e + 6)) 226 0 [vA 57, vI x, vI y, vX 0, vX 0, vX 0] [] M R = some (vJ v, M', R) → call (e + 7) 226 [vA 57, vI x, vI y] M R = some (vJ v, M', R) := fun v M' h => call_of 6 [vA 57, vI x, vI y, vX 0, vX 0, vX 0] (by decide) rfl (Nat.le_of_ble_eq_true rfl) rfl h rfl
  unfold v_host
  by_cases h1 : 1 ≤ x ∧ x ≤ 7
  · by_cases h2 : 0 ≤ y ∧ y ≤ 2
    · obtain ⟨M1, q1, f1, w1, y1, z1⟩ := r_199 (d0 := e + 6) (by omega) hL hX
      have g57 : M1 57 2 = (P : Int) := by rw [f1 57 (by decide)]; exact hP
      have g59 : M1 59 = M 59 := f1 59 (by decide)
      have g60 : M1 60 = M 60 := f1 60 (by decide)
      obtain ⟨u, _, q2⟩ := loop_nat (fun n (u : AV) => run (call (e + 6)) 226 32 [vA 57, vI x, vI y, vI (hB (Wmd M) (M 59) (M 60) P Y x n : Nat), vI ((n + 1 : Nat) : Int), u] [] M1 R) (fun _ _ => True) (EV P) (by
        rintro n u hn _
        have e1 : w32 (((n + 1 : Nat) : Int) + 1) = ((n + 1 + 1 : Nat) : Int) := by rw [w32_i (by omega)]; omega
        have hs : n + 1 < 2 ^ P := by omega
        have hle := hN_le (gdF (Wmd M) (M 59) (M 60) P Y x) (btF (Wmd M) Y) n
        have hg := hN_g (gdF (Wmd M) (M 59) (M 60) P Y x) (btF (Wmd M) Y) n
        have eh : hB (Wmd M) (M 59) (M 60) P Y x (n + 1) = if gdF (Wmd M) (M 59) (M 60) P Y x (n + 1) = true ∧ (hB (Wmd M) (M 59) (M 60) P Y x n = 0 ∨ btF (Wmd M) Y (n + 1) (hB (Wmd M) (M 59) (M 60) P Y x n) = true) then n + 1 else hB (Wmd M) (M 59) (M 60) P Y x n := rfl
        rw [show hN (gdF (Wmd M) (M 59) (M 60) P Y x) (btF (Wmd M) Y) n = hB (Wmd M) (M 59) (M 60) P Y x n from rfl] at hle hg
        generalize hB (Wmd M) (M 59) (M 60) P Y x n = b at *
        have keep : ∀ k : Int, run (call (e + 6)) 226 127 [vA 57, vI x, vI y, vI b, vI ((n + 1 : Nat) : Int), vI k] [] M1 R = run (call (e + 6)) 226 32 [vA 57, vI x, vI y, vI b, vI ((n + 1 + 1 : Nat) : Int), vI k] [] M1 R := by
          intro k
          rw [b_226_127, b_226_128, e1]
        have take : ∀ k : Int, run (call (e + 6)) 226 122 [vA 57, vI x, vI y, vI b, vI ((n + 1 : Nat) : Int), vI k] [] M1 R = run (call (e + 6)) 226 32 [vA 57, vI x, vI y, vI ((n + 1 : Nat) : Int), vI ((n + 1 + 1 : Nat) : Int), vI k] [] M1 R := by
          intro k
          rw [b_226_122, b_226_128, e1]
        show ∃ a' : AV, True ∧ run (call (e + 6)) 226 32 [vA 57, vI x, vI y, vI b, vI ((n + 1 : Nat) : Int), u] [] M1 R = run (call (e + 6)) 226 32 [vA 57, vI x, vI y, vI (hB (Wmd M) (M 59) (M 60) P Y x (n + 1) : Nat), vI ((n + 1 + 1 : Nat) : Int), a'] [] M1 R
        rw [eh, b_226_32, s_166 (by omega), bsI, g57, c_ev (by omega), b_226_38, if_neg (by omega), b_226_41, s_167 (by omega) (by omega), bsI, b_226_46]
        by_cases g1 : (((bl (n + 1)).length : Nat) : Int) = x
        · have e225 := s_225 (d0 := e + 6) (by omega) hL (M := M1) (w := Wmd M) (Y := Y) g57 hP7 (y1 _ hs) (by omega)
          rw [g59, g60] at e225
          rw [if_neg (fun q => q g1), b_226_50, e225, bsI, b_226_56]
          by_cases g2 : GD (Wmd M) (M 59) (M 60) P Y (n + 1)
          · have gt : gdF (Wmd M) (M 59) (M 60) P Y x (n + 1) = true := decide_eq_true ⟨g1, g2⟩
            rw [b2_t g2, if_neg (by decide), b_226_59, b_226_64, if_neg (by decide), b_226_71]
            by_cases g3 : b = 0
            · rw [if_pos (by omega), take, if_pos ⟨gt, .inl g3⟩]
              exact ⟨_, trivial, rfl⟩
            · have hb : b < 2 ^ P := by omega
              have gb := (of_decide_eq_true (hg (by omega))).2
              have r1 := ALm_r hX hs
              have r2 : 0 ≤ UN (Wmd M) Y (n + 1) ∧ UN (Wmd M) Y (n + 1) ≤ AL (Wmd M) Y (n + 1) := Dlm_ok hX hs 2 1 0
              have r3 := ALm_r hX hb
              have r4 : 0 ≤ UN (Wmd M) Y b ∧ UN (Wmd M) Y b ≤ AL (Wmd M) Y b := Dlm_ok hX hb 2 1 0
              have gn := g2.2
              have gb2 := gb.2
              rw [if_neg (by omega), b_226_75 hL, if_pos (by omega), if_pos (by omega), if_pos (by omega), if_pos (by omega), if_pos (by omega), if_pos (by omega), Int.toNat_natCast, Int.toNat_natCast, y1 _ hb, z1 _ hb, y1 _ hs, z1 _ hs, w64_i (x := AL (Wmd M) Y b - UN (Wmd M) Y b) (by omega), w64_i (by omega), s_222 (by omega) _ _ _ _ (by omega) (by omega) (by omega) (by omega), bsI, b_226_119]
              by_cases g4 : sg (AL (Wmd M) Y (n + 1) - UN (Wmd M) Y (n + 1)).toNat (AL (Wmd M) Y (n + 1)).toNat (AL (Wmd M) Y b - UN (Wmd M) Y b).toNat (AL (Wmd M) Y b).toNat = 1
              · rw [b2_t g4, if_neg (by decide), take, if_pos ⟨gt, .inr (decide_eq_true g4)⟩]
                exact ⟨_, trivial, rfl⟩
              · rw [b2_f g4, if_pos rfl, keep, if_neg (fun q => q.2.elim g3 (fun z => g4 (of_decide_eq_true z)))]
                exact ⟨_, trivial, rfl⟩
          · rw [b2_f g2, if_pos rfl, b_226_63, b_226_64, if_pos rfl, keep, if_neg (fun q => g2 (of_decide_eq_true q.1).2)]
            exact ⟨_, trivial, rfl⟩
        · rw [if_pos g1, b_226_63, b_226_64, if_pos rfl, keep, if_neg (fun q => g1 (of_decide_eq_true q.1).1)]
          exact ⟨_, trivial, rfl⟩) (vX 0) trivial
      have hle : hB (Wmd M) (M 59) (M 60) P Y x (EV P) ≤ EV P := hN_le _ _ _
      have h0 : hB (Wmd M) (M 59) (M 60) P Y x 0 = 0 := rfl
      rw [h0] at q2
      generalize hB (Wmd M) (M 59) (M 60) P Y x (EV P) = b at *
      refine ⟨M1, start _ _ ?_, Fx_s f1 (by decide)⟩
      rw [if_pos ⟨h1, h2⟩, b_226_0, s_162 (by omega), bsI, b_226_7, b2_t h1, if_neg (by decide), b_226_10, s_162 (by omega), bsI, b_226_16, b2_t h2, if_pos (by decide), b_226_23, q1, bsX, b_226_27]
      refine Eq.trans q2 ?_
      rw [b_226_32, s_166 (by omega), bsI, g57, c_ev (by omega), b_226_38, if_pos (by omega), b_226_135]
      by_cases g : y = 0
      · rw [if_neg (fun q => q g), b_226_139, if_pos g]
        by_cases g2 : b = 0
        · rw [if_neg (by omega), b_226_143, b_226_151]
          unfold nb
          rw [if_pos g2]
        · rw [if_pos (by omega), b_226_149, b_226_151]
          unfold nb
          rw [if_neg g2]
      · rw [if_pos g, b_226_152, if_neg g]
        by_cases g2 : b = 0
        · rw [if_neg (by omega), b_226_156, b_226_187, if_pos g2]
          rfl
        · have hb : b < 2 ^ P := by omega
          have r3 := ALm_r hX hb
          have r4 : 0 ≤ UN (Wmd M) Y b ∧ UN (Wmd M) Y b ≤ AL (Wmd M) Y b := Dlm_ok hX hb 2 1 0
          rw [if_pos (by omega), b_226_162 hL, if_pos (by omega), if_pos (by omega), if_pos (by omega), Int.toNat_natCast, y1 _ hb, z1 _ hb, w64_i (by omega), w32_i (by omega), p_202 (by omega) _ _ _ (by omega) (by omega) (by omega), bsJ, b_226_187, if_neg g2]
    · refine ⟨M, start _ _ ?_, Fx_r⟩
      rw [if_neg (fun q => h2 q.2), b_226_0, s_162 (by omega), bsI, b_226_7, b2_t h1, if_neg (by decide), b_226_10, s_162 (by omega), bsI, b_226_16, b2_f h2, if_neg (by decide), b_226_19]
      rfl
  · refine ⟨M, start _ _ ?_, Fx_r⟩
    rw [if_neg (fun q => h1 q.1), b_226_0, s_162 (by omega), bsI, b_226_7, b2_f h1, if_pos rfl, b_226_19]
    rfl
end
