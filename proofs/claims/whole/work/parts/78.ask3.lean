section
/-! ===== questions: likely, mean; among, mine, likeliest ===== -/
/-- the first of the largest, if above nothing -/
def cB (f : Nat → Int) : Nat → Nat × Int
  | 0 => (0, 0)
  | n + 1 => if (cB f n).2 < f n then (n, f n) else cB f n
def rL (f : Nat → Int) : Nat → Nat
  | 0 => 0
  | n + 1 => if f (rL f n) < f n then n else rL f n
theorem rL_lt (f : Nat → Int) : ∀ n, 0 < n → rL f n < n
  | 0, h => absurd h (by omega)
  | n + 1, _ => by
    show (if f (rL f n) < f n then n else rL f n) < n + 1
    split
    · omega
    · rcases Nat.eq_zero_or_pos n with rfl | h
      · show 0 < 1; omega
      · have := rL_lt f n h; omega
theorem cB_rL {f : Nat → Int} : ∀ n, (∀ i, i < n → 0 ≤ f i) → 0 < n → cB f n = (rL f n, f (rL f n))
  | 0, _, h => absurd h (by omega)
  | n + 1, hf, _ => by
    show (if (cB f n).2 < f n then (n, f n) else cB f n) = ((if f (rL f n) < f n then n else rL f n), f (if f (rL f n) < f n then n else rL f n))
    rcases Nat.eq_zero_or_pos n with rfl | h
    · show (if (0 : Int) < f 0 then (0, f 0) else (0, 0)) = ((if f 0 < f 0 then 0 else 0), f (if f 0 < f 0 then 0 else 0))
      have h0 := hf 0 (by omega)
      rw [if_neg (by omega : ¬ f 0 < f 0)]
      by_cases g : 0 < f 0
      · rw [if_pos g]
      · rw [if_neg g, show f 0 = 0 by omega]
    · rw [cB_rL n (fun i hi => hf i (by omega)) h]
      dsimp only
      by_cases g : f (rL f n) < f n
      · rw [if_pos g, if_pos g]
      · rw [if_neg g, if_neg g]
def v_likely (w : Nat → Nat → Int) (P Y : Nat) (so : Int) : Int := if 0 ≤ so ∧ so < 2 then (rL (NU w P Y so.toNat) 22 : Nat) else -2
theorem s_114 {d0 : Nat} (hd : 7 ≤ d0) {M : MM} {R : RR} (hL : Lay R) {P Y t : Nat} (hX : XW M R P Y t) (hC : CJ M P Y) (x : Int) : ∃ M', call d0 114 [vA 1, vI x] M R = some (vI (v_likely (Wd M) P Y x), M', R) ∧ Fx clsO M M' ∧ CJ M' P Y := by
  obtain ⟨e, rfl⟩ := s_le hd
  have start : ∀ v M', run (call (e + 6)) 114 0 [vA 1, vI x, vX 0, vX 0, vX 0, vX 0, vX 0, vX 0] [] M R = some (vI v, M', R) → call (e + 7) 114 [vA 1, vI x] M R = some (vI v, M', R) := fun v M' h => call_of 8 [vA 1, vI x, vX 0, vX 0, vX 0, vX 0, vX 0, vX 0] (by decide) rfl (Nat.le_of_ble_eq_true rfl) rfl h rfl
  unfold v_likely
  by_cases h : 0 ≤ x ∧ x < 2
  · obtain ⟨so, rfl⟩ : ∃ k : Nat, x = (k : Int) := ⟨x.toNat, by omega⟩
    obtain ⟨M1, q1, f1, p1⟩ := p_61 (d0 := e + 6) (by omega) hL hX hC
    have X1 := XW_f f1 hX
    have W1 := Wd_e (Wx_x f1)
    obtain ⟨⟨u, M2⟩, ⟨a1, a2⟩, q2⟩ := loop_nat (fun n (a : AV × MM) => run (call (e + 6)) 114 24 [vA 1, vI so, vI ((cB (NU (Wd M) P Y so) n).1 : Nat), vJ (cB (NU (Wd M) P Y so) n).2, vX 0, vI n, a.1, vX 0] [] a.2 R) (fun i a => Fx clsO M1 a.2 ∧ PP a.2 P Y) 22 (by
      rintro n ⟨u, M2⟩ hn ⟨a1, a2⟩
      dsimp only at a1 a2
      have e1 : w32 ((n : Int) + 1) = ((n + 1 : Nat) : Int) := by rw [w32_i (by omega)]; omega
      obtain ⟨M3, q3, f3, p3⟩ := s_69 (d0 := e + 6) (by omega) hL (XW_f a1 X1) a2 (so := so) (n := n) (by omega) (by omega)
      rw [Wd_e (Wx_x a1), W1] at q3
      refine ⟨(vJ (NU (Wd M) P Y so n), M3), ⟨Fx_t a1 f3, p3⟩, ?_⟩
      show run (call (e + 6)) 114 24 [vA 1, vI so, vI ((cB (NU (Wd M) P Y so) n).1 : Nat), vJ (cB (NU (Wd M) P Y so) n).2, vX 0, vI n, u, vX 0] [] M2 R = run (call (e + 6)) 114 24 [vA 1, vI so, vI ((if (cB (NU (Wd M) P Y so) n).2 < NU (Wd M) P Y so n then (n, NU (Wd M) P Y so n) else cB (NU (Wd M) P Y so) n).1 : Nat), vJ (if (cB (NU (Wd M) P Y so) n).2 < NU (Wd M) P Y so n then (n, NU (Wd M) P Y so n) else cB (NU (Wd M) P Y so) n).2, vX 0, vI ((n + 1 : Nat) : Int), vJ (NU (Wd M) P Y so n), vX 0] [] M3 R
      rw [b_114_24, if_neg (by omega), b_114_31 hL, q3, bsJ, b_114_41]
      simp only [lc_le]
      by_cases g : (cB (NU (Wd M) P Y so) n).2 < NU (Wd M) P Y so n
      · rw [if_neg (by omega), b_114_50, b_114_56, e1, if_pos g]
      · rw [if_pos (by omega), b_114_56, e1, if_neg g]) (vX 0, M1) ⟨Fx_r, p1⟩
    dsimp only at a1 a2 q2
    refine ⟨M2, start _ _ ?_, Fx_t f1 a1, a2.1⟩
    rw [if_pos h, b_114_0, s_113 (by omega), bsI, b_114_4, b2_t (by omega), if_pos (by decide), b_114_10 hL, q1, bsX, b_114_17]
    refine Eq.trans q2 ?_
    rw [b_114_24, if_pos (by omega), b_114_62, Int.toNat_natCast, cB_rL 22 (fun i _ => (NU_ok hX so i).1) (by decide)]
  · refine ⟨M, start _ _ ?_, Fx_r, hC⟩
    rw [if_neg h, b_114_0, s_113 (by omega), bsI, b_114_4, b2_f h, if_neg (by decide), b_114_7]
theorem s_213 {d0 : Nat} (hd : 7 ≤ d0) {M : MM} {R : RR} (hL : Lay R) {P Y t : Nat} (hX : XM M R P Y t) (x : Int) : ∃ M', call d0 213 [vA 57, vI x] M R = some (vI (v_likely (Wmd M) P Y x), M', R) ∧ Fx modO M M' := by
  obtain ⟨e, rfl⟩ := s_le hd
  obtain ⟨hP, hP7, hY, hY1, hY24, _⟩ := id hX
  have hev := EV_b hP7
  have start : ∀ v M', run (call (e + 6)) 213 0 [vA 57, vI x, vX 0, vX 0] [] M R = some (vI v, M', R) → call (e + 7) 213 [vA 57, vI x] M R = some (vI v, M', R) := fun v M' h => call_of 4 [vA 57, vI x, vX 0, vX 0] (by decide) rfl (Nat.le_of_ble_eq_true rfl) rfl h rfl
  unfold v_likely
  by_cases h1 : 0 ≤ x ∧ x ≤ 1
  · obtain ⟨so, rfl⟩ : ∃ k : Nat, x = (k : Int) := ⟨x.toNat, by omega⟩
    obtain ⟨M1, q1, f1, w1, y1, c1⟩ := s_211 (d0 := e + 6) (by omega) hL hX (so := so) (by omega)
    have hc : ∀ n, n < 22 → M1 80 (22 * EV P + n) = NU (Wmd M) P Y so n := fun n hn => by
      have := c1 (EV P) (EV_lt P) n hn
      rw [show w64 (Dl (fac (fun d p => Wm M p d) (es so 7)) Y (bl (EV P)) n) = NU (Wmd M) P Y so n from Dlm_64 hX (EV_lt P) so 7 n] at this
      exact this
    have g57 : M1 57 2 = (P : Int) := by rw [f1 57 (by decide)]; exact hP
    have ei : ∀ n : Nat, n < 22 → w32 (w32 (22 * ((EV P : Nat) : Int)) + (n : Int)) = ((22 * EV P + n : Nat) : Int) := fun n hn => by
      simp (disch := omega) only [w32_i]; omega
    have q2 := iter_eq (fun n : Nat => run (call (e + 6)) 213 21 [vA 57, vI so, vI (rL (NU (Wmd M) P Y so) (n + 1) : Nat), vI ((n + 1 : Nat) : Int)] [] M1 R) 21 (by
      intro n hn
      have e1 : w32 (((n + 1 : Nat) : Int) + 1) = ((n + 1 + 1 : Nat) : Int) := by rw [w32_i (by omega)]; omega
      have hr := rL_lt (NU (Wmd M) P Y so) (n + 1) (by omega)
      show run (call (e + 6)) 213 21 [vA 57, vI so, vI (rL (NU (Wmd M) P Y so) (n + 1) : Nat), vI ((n + 1 : Nat) : Int)] [] M1 R = run (call (e + 6)) 213 21 [vA 57, vI so, vI ((if NU (Wmd M) P Y so (rL (NU (Wmd M) P Y so) (n + 1)) < NU (Wmd M) P Y so (n + 1) then n + 1 else rL (NU (Wmd M) P Y so) (n + 1) : Nat) : Int), vI ((n + 1 + 1 : Nat) : Int)] [] M1 R
      rw [b_213_21, if_neg (by omega), b_213_27 hL, s_166 (by omega), bsI, g57, c_ev (by omega), b_213_37 hL, ei _ (by omega), if_pos (by omega), s_166 (by omega), bsI, g57, c_ev (by omega), b_213_51 hL, ei _ (by omega), if_pos (by omega), Int.toNat_natCast, Int.toNat_natCast, hc _ (by omega), hc _ (by omega)]
      simp only [lc_le]
      by_cases g : NU (Wmd M) P Y so (rL (NU (Wmd M) P Y so) (n + 1)) < NU (Wmd M) P Y so (n + 1)
      · rw [if_neg (by omega), b_213_59, b_213_64, e1, if_pos g]
      · rw [if_pos (by omega), b_213_63, b_213_64, e1, if_neg g])
    refine ⟨M1, start _ _ ?_, Fx_s f1 (by decide)⟩
    rw [if_pos (by omega), b_213_0, s_162 (by omega), bsI, b_213_6, b2_t h1, if_pos (by decide), b_213_12, q1, bsX, b_213_17]
    have h0 : rL (NU (Wmd M) P Y so) (0 + 1) = 0 := by
      show (if NU (Wmd M) P Y so 0 < NU (Wmd M) P Y so 0 then 0 else 0) = 0
      rw [ite_self]
    rw [h0] at q2
    refine Eq.trans q2 ?_
    rw [b_213_21, if_pos (by omega), b_213_71, Int.toNat_natCast]
  · refine ⟨M, start _ _ ?_, Fx_r⟩
    rw [if_neg (by omega), b_213_0, s_162 (by omega), bsI, b_213_6, b2_f h1, if_neg (by decide), b_213_9]
/-- mean -/
def v_mean (w : Nat → Nat → Int) (P Y : Nat) (so part : Int) : Int := if 0 ≤ so ∧ so < 2 then fr (sm (fun n => (n : Int) * NU w P Y so.toNat n) 22) (AL w Y (EV P)) part else NO
theorem sm_m {f g : Nat → Int} : ∀ n, (∀ i, i < n → f i ≤ g i) → sm f n ≤ sm g n
  | 0, _ => Int.le_refl 0
  | n + 1, h => by
    have a := sm_m n (fun i hi => h i (by omega))
    have b := h n (by omega)
    show sm f n + f n ≤ sm g n + g n
    omega
theorem sm_tri : ∀ n : Fin 23, sm (fun i => (i : Int) * 21936950640377856) n ≤ 5067435597927284736 := by decide +kernel
theorem mean_r {f : Nat → Int} (hf : ∀ i, 0 ≤ f i ∧ f i ≤ 21936950640377856) (n : Nat) (hn : n ≤ 22) : 0 ≤ sm (fun n => (n : Int) * f n) n ∧ sm (fun n => (n : Int) * f n) n ≤ 5067435597927284736 := by
  have h1 := sm_tri ⟨n, by omega⟩
  have h2 := sm_m (f := fun n => (n : Int) * f n) (g := fun i => (i : Int) * 21936950640377856) n (fun i _ => Int.mul_le_mul_of_nonneg_left (hf i).2 (by omega))
  exact ⟨sm_nn n (fun i _ => Int.mul_nonneg (by omega) (hf i).1), Int.le_trans h2 h1⟩
theorem s_115 {d0 : Nat} (hd : 7 ≤ d0) {M : MM} {R : RR} (hL : Lay R) {P Y t : Nat} (hX : XW M R P Y t) (hC : CJ M P Y) (x y : Int) : ∃ M', call d0 115 [vA 1, vI x, vI y] M R = some (vJ (v_mean (Wd M) P Y x y), M', R) ∧ Fx clsO M M' ∧ CJ M' P Y := by
  obtain ⟨e, rfl⟩ := s_le hd
  have start : ∀ v M', run (call (e + 6)) 115 0 [vA 1, vI x, vI y, vX 0, vX 0, vX 0] [] M R = some (vJ v, M', R) → call (e + 7) 115 [vA 1, vI x, vI y] M R = some (vJ v, M', R) := fun v M' h => call_of 6 [vA 1, vI x, vI y, vX 0, vX 0, vX 0] (by decide) rfl (Nat.le_of_ble_eq_true rfl) rfl h rfl
  unfold v_mean
  by_cases h : 0 ≤ x ∧ x < 2
  · obtain ⟨so, rfl⟩ : ∃ k : Nat, x = (k : Int) := ⟨x.toNat, by omega⟩
    obtain ⟨M1, q1, f1, p1⟩ := p_61 (d0 := e + 6) (by omega) hL hX hC
    have X1 := XW_f f1 hX
    have W1 := Wd_e (Wx_x f1)
    have hb : ∀ i, 0 ≤ NU (Wd M) P Y so i ∧ NU (Wd M) P Y so i ≤ 21936950640377856 := fun i => by
      have h1 := NU_ok hX so i
      have h2 := AL_r hX (EV_lt P)
      exact ⟨h1.1, by omega⟩
    obtain ⟨M2, ⟨a1, a2⟩, q2⟩ := loop_nat (fun n (a : MM) => run (call (e + 6)) 115 23 [vA 1, vI so, vI y, vJ (sm (fun n => (n : Int) * NU (Wd M) P Y so n) (n + 1)), vX 0, vI ((n + 1 : Nat) : Int)] [] a R) (fun i a => Fx clsO M1 a ∧ PP a P Y) 21 (by
      rintro n M2 hn ⟨a1, a2⟩
      have e1 : w32 (((n + 1 : Nat) : Int) + 1) = ((n + 1 + 1 : Nat) : Int) := by rw [w32_i (by omega)]; omega
      obtain ⟨M3, q3, f3, p3⟩ := s_69 (d0 := e + 6) (by omega) hL (XW_f a1 X1) a2 (so := so) (n := n + 1) (by omega) (by omega)
      rw [Wd_e (Wx_x a1), W1] at q3
      have r2 := mean_r hb (n + 1 + 1) (by omega)
      have r3 := hb (n + 1)
      have r4 : 0 ≤ ((n + 1 : Nat) : Int) * NU (Wd M) P Y so (n + 1) ∧ ((n + 1 : Nat) : Int) * NU (Wd M) P Y so (n + 1) ≤ 21 * 21936950640377856 := ⟨Int.mul_nonneg (by omega) r3.1, Int.mul_le_mul (by omega) r3.2 r3.1 (by omega)⟩
      refine ⟨M3, ⟨Fx_t a1 f3, p3⟩, ?_⟩
      have hs : sm (fun n => (n : Int) * NU (Wd M) P Y so n) (n + 1 + 1) = sm (fun n => (n : Int) * NU (Wd M) P Y so n) (n + 1) + ((n + 1 : Nat) : Int) * NU (Wd M) P Y so (n + 1) := rfl
      rw [b_115_23, if_neg (by omega), b_115_30 hL, q3, bsJ, b_115_44, e1, w64_ar, ← hs, w64_i (by omega)]) M1 ⟨Fx_r, p1⟩
    have W2 : Wd M2 = Wd M := by rw [Wd_e (Wx_x a1), W1]
    have e65 := s_65 (d0 := e + 6) (by omega) hL hX.2.1 a2.2.2.1
    rw [W2] at e65
    have r1 := AL_r hX (EV_lt P)
    have r2 := mean_r hb 22 (by omega)
    refine ⟨M2, start _ _ ?_, Fx_t f1 a1, a2.1⟩
    rw [if_pos h, b_115_0, s_113 (by omega), bsI, b_115_4, b2_t (by omega), if_pos (by decide), b_115_11 hL, q1, bsX, b_115_18]
    have h0 : sm (fun n => (n : Int) * NU (Wd M) P Y so n) (0 + 1) = 0 := by
      show (0 : Int) + ((0 : Nat) : Int) * _ = 0
      rw [Int.natCast_zero, Int.zero_mul]; rfl
    rw [h0] at q2
    simp only [Nat.reduceAdd] at q2
    refine Eq.trans q2 ?_
    rw [b_115_23, if_pos (by omega), b_115_53 hL, e65, bsJ, b_115_61, p_158 (by omega) _ _ _ (by omega) (by omega), bsJ, b_115_65, Int.toNat_natCast]
  · refine ⟨M, start _ _ ?_, Fx_r, hC⟩
    rw [if_neg h, b_115_0, s_113 (by omega), bsI, b_115_4, b2_f h, if_neg (by decide), b_115_7]
    rfl
theorem s_214 {d0 : Nat} (hd : 7 ≤ d0) {M : MM} {R : RR} (hL : Lay R) {P Y t : Nat} (hX : XM M R P Y t) (x y : Int) : ∃ M', call d0 214 [vA 57, vI x, vI y] M R = some (vJ (v_mean (Wmd M) P Y x y), M', R) ∧ Fx modO M M' := by
  obtain ⟨e, rfl⟩ := s_le hd
  obtain ⟨hP, hP7, hY, hY1, hY24, _⟩ := id hX
  have hev := EV_b hP7
  have start : ∀ v M', run (call (e + 6)) 214 0 [vA 57, vI x, vI y, vX 0, vX 0, vX 0] [] M R = some (vJ v, M', R) → call (e + 7) 214 [vA 57, vI x, vI y] M R = some (vJ v, M', R) := fun v M' h => call_of 6 [vA 57, vI x, vI y, vX 0, vX 0, vX 0] (by decide) rfl (Nat.le_of_ble_eq_true rfl) rfl h rfl
  unfold v_mean
  by_cases h1 : 0 ≤ x ∧ x ≤ 1
  · rw [if_pos (by omega)]
    by_cases h3 : 0 ≤ y ∧ y ≤ 1
    · obtain ⟨so, rfl⟩ : ∃ k : Nat, x = (k : Int) := ⟨x.toNat, by omega⟩
      obtain ⟨M1, q1, f1, w1, y1, c1⟩ := s_211 (d0 := e + 6) (by omega) hL hX (so := so) (by omega)
      have hc : ∀ n, n < 22 → M1 80 (22 * EV P + n) = NU (Wmd M) P Y so n := fun n hn => by
        have := c1 (EV P) (EV_lt P) n hn
        rw [show w64 (Dl (fac (fun d p => Wm M p d) (es so 7)) Y (bl (EV P)) n) = NU (Wmd M) P Y so n from Dlm_64 hX (EV_lt P) so 7 n] at this
        exact this
      have ha := y1 (EV P) (EV_lt P)
      rw [show pr (fun p => sm (Wm M p) Y) (EV P) P = AL (Wmd M) Y (EV P) from pr_wp (EV_lt P) (by omega)] at ha
      have hb : ∀ i, 0 ≤ NU (Wmd M) P Y so i ∧ NU (Wmd M) P Y so i ≤ 21936950640377856 := fun i => by
        have h1 := NUm_ok hX so i
        have h2 := ALm_r hX (EV_lt P)
        exact ⟨h1.1, by omega⟩
      have g57 : M1 57 2 = (P : Int) := by rw [f1 57 (by decide)]; exact hP
      have ei : ∀ n : Nat, n < 22 → w32 (w32 (22 * ((EV P : Nat) : Int)) + (n : Int)) = ((22 * EV P + n : Nat) : Int) := fun n hn => by
        simp (disch := omega) only [w32_i]; omega
      have q2 := iter_eq (fun n : Nat => run (call (e + 6)) 214 30 [vA 57, vI so, vI y, vJ (sm (fun n => (n : Int) * NU (Wmd M) P Y so n) n), vX 0, vI n] [] M1 R) 22 (by
        intro n hn
        have e1 : w32 ((n : Int) + 1) = ((n + 1 : Nat) : Int) := by rw [w32_i (by omega)]; omega
        have r2 := mean_r hb (n + 1) (by omega)
        have r3 := hb n
        have r4 : 0 ≤ (n : Int) * NU (Wmd M) P Y so n ∧ (n : Int) * NU (Wmd M) P Y so n ≤ 21 * 21936950640377856 := ⟨Int.mul_nonneg (by omega) r3.1, Int.mul_le_mul (by omega) r3.2 r3.1 (by omega)⟩
        have hs : sm (fun n => (n : Int) * NU (Wmd M) P Y so n) (n + 1) = sm (fun n => (n : Int) * NU (Wmd M) P Y so n) n + (n : Int) * NU (Wmd M) P Y so n := rfl
        rw [b_214_30, if_neg (by omega), b_214_37 hL, s_166 (by omega), bsI, g57, c_ev (by omega), b_214_51 hL, ei _ hn, if_pos (by omega), e1, Int.toNat_natCast, hc n hn, w64_ar, ← hs, w64_i (by omega)])
      have r1 := ALm_r hX (EV_lt P)
      have r2 := mean_r hb 22 (by omega)
      refine ⟨M1, start _ _ ?_, Fx_s f1 (by decide)⟩
      rw [b_214_0, s_162 (by omega), bsI, b_214_6, b2_t h1, if_neg (by decide), b_214_9, s_203 (by omega), bsI, b2_t h3, b_214_13, if_pos (by decide), b_214_20, q1, bsX, b_214_25]
      refine Eq.trans q2 ?_
      rw [b_214_30, if_pos (by omega), b_214_65 hL, s_166 (by omega), bsI, g57, c_ev (by omega), b_214_74 hL, if_pos (by omega), Int.toNat_natCast, ha, p_202 (by omega) _ _ _ (by omega) (by omega) (by omega), bsJ, b_214_79, Int.toNat_natCast]
    · refine ⟨M, start _ _ ?_, Fx_r⟩
      rw [fr_no (by omega), b_214_0, s_162 (by omega), bsI, b_214_6, b2_t h1, if_neg (by decide), b_214_9, s_203 (by omega), bsI, b2_f h3, b_214_13, if_neg (by decide), b_214_16]
  · refine ⟨M, start _ _ ?_, Fx_r⟩
    rw [if_neg (by omega), b_214_0, s_162 (by omega), bsI, b_214_6, b2_f h1, if_pos rfl, b_214_16]
    rfl
/-- among -/
def v_among (w : Nat → Nat → Int) (P Y : Nat) (s part : Int) : Int := if 0 ≤ s ∧ s ≤ EV P then fr (AL w Y s.toNat - UN w Y s.toNat) (AL w Y s.toNat) part else NO
theorem s_109 {d0 : Nat} (hd : 7 ≤ d0) {M : MM} {R : RR} (hL : Lay R) {P Y t : Nat} (hX : XW M R P Y t) (hC : CJ M P Y) (x y : Int) : ∃ M', call d0 109 [vA 1, vI x, vI y] M R = some (vJ (v_among (Wd M) P Y x y), M', R) ∧ Fx clsO M M' ∧ CJ M' P Y := by
  obtain ⟨e, rfl⟩ := s_le hd
  obtain ⟨hP, hP7, hY, hY1, hY24, _⟩ := id hX
  have hev := EV_b hP7
  have start : ∀ v M', run (call (e + 6)) 109 0 [vA 1, vI x, vI y] [] M R = some (vJ v, M', R) → call (e + 7) 109 [vA 1, vI x, vI y] M R = some (vJ v, M', R) := fun v M' h => call_of 3 [vA 1, vI x, vI y] (by decide) rfl (Nat.le_of_ble_eq_true rfl) rfl h rfl
  unfold v_among
  have ev : w32 (c_shl 1 (M 4 0) - 1) = ((EV P : Nat) : Int) := by rw [hP, c_ev (by omega)]
  by_cases h : 0 ≤ x ∧ x ≤ EV P
  · obtain ⟨s, rfl⟩ : ∃ k : Nat, x = (k : Int) := ⟨x.toNat, by omega⟩
    obtain ⟨M1, q1, f1, p1⟩ := p_61 (d0 := e + 6) (by omega) hL hX hC
    have X1 := XW_f f1 hX
    have W1 := Wd_e (Wx_x f1)
    have hs : s < 2 ^ P := by omega
    have e67 := s_67 (d0 := e + 6) (by omega) hL X1 p1.1 p1.2.2.1 hs
    have e64 := s_64 (d0 := e + 6) (by omega) hL hP7 p1.2.2.1 hs
    rw [W1] at e67 e64
    have r1 := AL_r hX hs
    have r2 : 0 ≤ UN (Wd M) Y s ∧ UN (Wd M) Y s ≤ AL (Wd M) Y s := Dl_ok hX hs 2 1 0
    refine ⟨M1, start _ _ ?_, f1, p1.1⟩
    rw [if_pos h, b_109_0 hL, s_14 (by omega), bsI, b_109_8, ev, b2_t h, if_pos (by decide), b_109_15 hL, q1, bsX, b_109_22 hL, e67, bsJ, b_109_30 hL, e64, bsJ, b_109_38, p_158 (by omega) _ _ _ (by omega) (by omega), bsJ, b_109_42, Int.toNat_natCast]
  · refine ⟨M, start _ _ ?_, Fx_r, hC⟩
    rw [if_neg h, b_109_0 hL, s_14 (by omega), bsI, b_109_8, ev, b2_f h, if_neg (by decide), b_109_11]
    rfl
/-- what the reference has read, with the ways of no two -/
theorem r_199 {d0 : Nat} (hd : 6 ≤ d0) {M : MM} {R : RR} (hL : Lay R) {P Y t : Nat} (hX : XM M R P Y t) : ∃ M', call d0 199 [vA 57] M R = some (vX 0, M', R) ∧ Fx [72, 73, 74, 75, 76, 77] M M' ∧ RW M M' P Y ∧ (∀ s, s < 2 ^ P → M' 76 s = AL (Wmd M) Y s) ∧ ∀ s, s < 2 ^ P → M' 77 s = UN (Wmd M) Y s := by
  obtain ⟨M', q, f, w, y, z⟩ := s_199 hd hL hX
  refine ⟨M', q, f, w, fun s hs => by rw [y s hs, pr_wp hs (by have := hX.2.1; omega)]; rfl, fun s hs => ?_⟩
  rw [z s hs]
  exact Dlm_64 hX hs 2 1 0
theorem s_207 {d0 : Nat} (hd : 7 ≤ d0) {M : MM} {R : RR} (hL : Lay R) {P Y t : Nat} (hX : XM M R P Y t) (x y : Int) : ∃ M', call d0 207 [vA 57, vI x, vI y] M R = some (vJ (v_among (Wmd M) P Y x y), M', R) ∧ Fx modO M M' := by
  obtain ⟨e, rfl⟩ := s_le hd
  obtain ⟨hP, hP7, hY, hY1, hY24, _⟩ := id hX
  have hev := EV_b hP7
  have start : ∀ v M', run (call (e + 6)) 207 0 [vA 57, vI x, vI y] [] M R = some (vJ v, M', R) → call (e + 7) 207 [vA 57, vI x, vI y] M R = some (vJ v, M', R) := fun v M' h => call_of 3 [vA 57, vI x, vI y] (by decide) rfl (Nat.le_of_ble_eq_true rfl) rfl h rfl
  unfold v_among
  have ev : w32 (c_shl 1 (M 57 2) - 1) = ((EV P : Nat) : Int) := by rw [hP, c_ev (by omega)]
  by_cases h : 0 ≤ x ∧ x ≤ EV P
  · rw [if_pos h]
    by_cases hy : 0 ≤ y ∧ y ≤ 1
    · obtain ⟨s, rfl⟩ : ∃ k : Nat, x = (k : Int) := ⟨x.toNat, by omega⟩
      have hs : s < 2 ^ P := by omega
      obtain ⟨M1, q1, f1, w1, y1, z1⟩ := r_199 (d0 := e + 6) (by omega) hL hX
      have r1 := ALm_r hX hs
      have r2 : 0 ≤ UN (Wmd M) Y s ∧ UN (Wmd M) Y s ≤ AL (Wmd M) Y s := Dlm_ok hX hs 2 1 0
      refine ⟨M1, start _ _ ?_, Fx_s f1 (by decide)⟩
      rw [b_207_0, s_206 (by omega), bsI, b_207_5, ev, b2_t h, if_neg (by decide), b_207_8, s_203 (by omega), bsI, b2_t hy, b_207_12, if_pos (by decide), b_207_19, q1, bsX, b_207_23 hL, if_pos (by omega), if_pos (by omega), if_pos (by omega), Int.toNat_natCast, y1 s hs, z1 s hs, w64_i (by omega), p_202 (by omega) _ _ _ (by omega) (by omega) (by omega), bsJ, b_207_46]
    · refine ⟨M, start _ _ ?_, Fx_r⟩
      rw [fr_no (by omega), b_207_0, s_206 (by omega), bsI, b_207_5, ev, b2_t h, if_neg (by decide), b_207_8, s_203 (by omega), bsI, b2_f hy, b_207_12, if_neg (by decide), b_207_15]
  · refine ⟨M, start _ _ ?_, Fx_r⟩
    rw [if_neg h, b_207_0, s_206 (by omega), bsI, b_207_5, ev, b2_f h, if_pos rfl, b_207_15]
    rfl
end
