section
/-! ===== comes, luck ===== -/
theorem ct_or {a k : Nat} : ∀ n, ct (a ||| 2 ^ k) n ≤ ct a n + (if k < n then 1 else 0)
  | 0 => by show 0 ≤ _; omega
  | n + 1 => by
    have ih := ct_or (a := a) (k := k) n
    show ct (a ||| 2 ^ k) n + (if (a ||| 2 ^ k).testBit n = true then 1 else 0) ≤ ct a n + (if a.testBit n = true then 1 else 0) + (if k < n + 1 then 1 else 0)
    rw [Nat.testBit_or, Nat.testBit_two_pow]
    by_cases h : k = n
    · subst h
      rw [if_neg (by omega)] at ih
      rw [if_pos (by omega : k < k + 1)]
      split <;> split <;> omega
    · simp only [h, decide_false, Bool.or_false]
      by_cases g : k < n
      · rw [if_pos g] at ih
        rw [if_pos (by omega : k < n + 1)]
        omega
      · rw [if_neg g] at ih
        rw [if_neg (by omega : ¬ k < n + 1)]
        omega
theorem had_n {f : Nat → Int} : ∀ n, (bl (had f n)).length ≤ n
  | 0 => (by decide : (bl 0).length ≤ 0)
  | n + 1 => by
    have ih := had_n (f := f) n
    rw [show (bl (had f n)).length = ct (had f n) 24 from ct_f _ 24] at ih
    rw [show (bl (had f (n + 1))).length = ct (had f n ||| 2 ^ (f n).toNat) 24 from ct_f _ 24]
    have := ct_or (a := had f n) (k := (f n).toNat) 24
    split at this <;> omega
def v_comes (w : Nat → Nat → Int) (P Y : Nat) (so sz : Nat → Int) (nu : Nat → Nat → Int) (x part : Int) : Int := if rfs P Y x so sz nu = 0 then fr (pn (fun p => w (nu x.toNat p).toNat p) P) (AL w Y (EV P)) part else NO
theorem s_137 {d0 : Nat} (hd : 7 ≤ d0) {M : MM} {R : RR} (hL : Lay R) {P Y t : Nat} (hX : XW M R P Y t) (hC : CJ M P Y) (x y : Int) : ∃ M', call d0 137 [vA 1, vI x, vI y] M R = some (vJ (v_comes (Wd M) P Y (cS M) (cZ M) (cU M) x y), M', R) ∧ Fx clsO M M' ∧ CJ M' P Y := by
  obtain ⟨e, rfl⟩ := s_le hd
  obtain ⟨hP, hP7, hY, hY1, hY24, ht, ht5, ht6, hT, hr⟩ := id hX
  have start : ∀ v M', run (call (e + 6)) 137 0 [vA 1, vI x, vI y, vX 0, vX 0, vX 0] [] M R = some (vJ v, M', R) → call (e + 7) 137 [vA 1, vI x, vI y] M R = some (vJ v, M', R) := fun v M' h => call_of 6 [vA 1, vI x, vI y, vX 0, vX 0, vX 0] (by decide) rfl (Nat.le_of_ble_eq_true rfl) rfl h rfl
  have q0 := s_129 (d0 := e + 6) (by omega) (M := M) hL hP hP7 hY x
  unfold v_comes
  by_cases h : rfs P Y x (cS M) (cZ M) (cU M) = 0
  · obtain ⟨s, rfl, hs, hf⟩ := rfs_0 h
    obtain ⟨l1, l2, l3, l4, l5⟩ := sh_l hL (s := s) hs
    obtain ⟨M1, q1, f1, p1⟩ := p_61 (d0 := e + 6) (by omega) hL hX hC
    have X1 := XW_f f1 hX
    have W1 := Wd_e (Wx_x f1)
    have ko : M1 (47 + 2 * s) = M (47 + 2 * s) := f1 _ (clsO_n (by omega))
    have q2 := iter_eq (fun n : Nat => run (call (e + 6)) 137 24 [vA 1, vI s, vI y, vJ (pn (fun p => Wd M (cU M s p).toNat p) n), vX 0, vI n] [] M1 R) P (by
      intro n hn
      have e1 : w32 ((n : Int) + 1) = ((n + 1 : Nat) : Int) := by rw [w32_i (by omega)]; omega
      have hfn : 0 ≤ M (47 + 2 * s) n ∧ M (47 + 2 * s) n < (Y : Int) := hf n hn
      obtain ⟨dd, hdd⟩ : ∃ dd : Nat, M (47 + 2 * s) n = (dd : Int) := ⟨(M (47 + 2 * s) n).toNat, by omega⟩
      have hp := pn_b (f := fun p => Wd M (cU M s p).toNat p) (b := 9) (n + 1) (fun i hi => Wx_r hX (by omega))
      have h9 : (9 : Nat) ^ (n + 1) ≤ 9 ^ 7 := Nat.pow_le_pow_right (by omega) (by omega)
      have ep : pn (fun p => Wd M (cU M s p).toNat p) (n + 1) = pn (fun p => Wd M (cU M s p).toNat p) n * Wd M dd n := by
        show _ * Wd M (M (47 + 2 * s) n).toNat n = _
        rw [hdd, Int.toNat_natCast]
      have g23 : M1 23 (24 * n + dd) = Wd M dd n := by rw [(p1.2.1 n hn).2.1 dd (by omega), ← W1]; rfl
      rw [b_137_24 hL, X1.1, if_neg (by omega), b_137_36 hL _ _ _ _ (by rw [Int.toNat_natCast, l1]; exact l4) (by rw [Int.toNat_natCast, l1, l2]; exact l5), if_pos (by omega), Int.toNat_natCast, l1, l2, l3, if_pos (by omega), Int.toNat_natCast, ko, hdd, s_81 (by omega) hL (by have := X1.1; omega) (by omega) (by have := X1.2.2.1; omega) (by omega), bsI, b_137_58, e1, g23, ← ep, w64_i (by omega)])
    have e65 := s_65 (d0 := e + 6) (by omega) hL hP7 p1.2.2.1
    rw [W1] at e65
    have r1 := AL_r hX (EV_lt P)
    have hp := pn_b (f := fun p => Wd M (cU M s p).toNat p) (b := 9) P (fun i hi => Wx_r hX hi)
    have h9 : (9 : Nat) ^ P ≤ 9 ^ 7 := Nat.pow_le_pow_right (by omega) (by omega)
    refine ⟨M1, start _ _ ?_, f1, p1.1⟩
    rw [if_pos h, Int.toNat_natCast, b_137_0, q0, bsI, h, b_137_5, if_pos rfl, b_137_12 hL, q1, bsX, b_137_19]
    refine Eq.trans q2 ?_
    rw [b_137_24 hL, X1.1, if_pos (by omega), b_137_67 hL, e65, bsJ, b_137_75, p_158 (by omega) _ _ _ (by omega) (by omega), bsJ, b_137_79]
  · refine ⟨M, start _ _ ?_, Fx_r, hC⟩
    rw [if_neg h, b_137_0, q0, bsI, b_137_5, if_neg h, b_137_8]
    rfl
theorem s_238 {d0 : Nat} (hd : 7 ≤ d0) {M : MM} {R : RR} (hL : Lay R) {P Y t : Nat} (hX : XM M R P Y t) (x y : Int) : ∃ M', call d0 238 [vA 57, vI x, vI y] M R = some (vJ (v_comes (Wmd M) P Y (M 66) (M 67) (mU M) x y), M', R) ∧ Fx modO M M' := by
  obtain ⟨e, rfl⟩ := s_le hd
  obtain ⟨hP, hP7, hY, hY1, hY24, ht, ht6, hT, hr⟩ := id hX
  have hev := EV_b hP7
  have start : ∀ v M', run (call (e + 6)) 238 0 [vA 57, vI x, vI y, vX 0, vX 0, vX 0] [] M R = some (vJ v, M', R) → call (e + 7) 238 [vA 57, vI x, vI y] M R = some (vJ v, M', R) := fun v M' h => call_of 6 [vA 57, vI x, vI y, vX 0, vX 0, vX 0] (by decide) rfl (Nat.le_of_ble_eq_true rfl) rfl h rfl
  have q0 := s_230 (d0 := e + 6) (by omega) (M := M) hL hP hP7 hY ⟨hY1, hY24⟩ x
  unfold v_comes
  by_cases h : rfs P Y x (M 66) (M 67) (mU M) = 0
  · obtain ⟨s, rfl, hs, hf⟩ := rfs_0 h
    rw [if_pos h, Int.toNat_natCast]
    by_cases hy : 0 ≤ y ∧ y ≤ 1
    · obtain ⟨M1, q1, f1, w1, y1⟩ := r_198 (d0 := e + 6) (by omega) hL hX
      have g57 : M1 57 2 = (P : Int) := by rw [f1 57 (by decide)]; exact hP
      have q2 := iter_eq (fun n : Nat => run (call (e + 6)) 238 28 [vA 57, vI s, vI y, vJ (pn (fun p => Wmd M (mU M s p).toNat p) n), vX 0, vI n] [] M1 R) P (by
        intro n hn
        have e1 : w32 ((n : Int) + 1) = ((n + 1 : Nat) : Int) := by rw [w32_i (by omega)]; omega
        have ei : w32 (w32 (40 * (s : Int)) + (n : Int)) = ((40 * s + n : Nat) : Int) := by
          simp (disch := omega) only [w32_i]; omega
        have hfn : 0 ≤ M 68 (40 * s + n) ∧ M 68 (40 * s + n) < (Y : Int) := hf n hn
        obtain ⟨dd, hdd⟩ : ∃ dd : Nat, M 68 (40 * s + n) = (dd : Int) := ⟨(M 68 (40 * s + n)).toNat, by omega⟩
        have ej : w32 (w32 (24 * (n : Int)) + (dd : Int)) = ((24 * n + dd : Nat) : Int) := by
          simp (disch := omega) only [w32_i]; omega
        have hp := pn_b (f := fun p => Wmd M (mU M s p).toNat p) (b := 9) (n + 1) (fun i hi => Wm_r hX (by omega))
        have h9 : (9 : Nat) ^ (n + 1) ≤ 9 ^ 7 := Nat.pow_le_pow_right (by omega) (by omega)
        have ep : pn (fun p => Wmd M (mU M s p).toNat p) (n + 1) = pn (fun p => Wmd M (mU M s p).toNat p) n * Wmd M dd n := by
          show _ * Wmd M (M 68 (40 * s + n)).toNat n = _
          rw [hdd, Int.toNat_natCast]
        have g74 : M1 74 (24 * n + dd) = Wmd M dd n := (w1 n hn).1 dd (by omega)
        rw [b_238_28, g57, if_neg (by omega), b_238_37 hL, ei, if_pos (by omega), Int.toNat_natCast, f1 68 (by decide), hdd, ej, if_pos (by omega), e1, Int.toNat_natCast, g74, ← ep, w64_i (by omega)])
      have r1 := ALm_r hX (EV_lt P)
      have hp := pn_b (f := fun p => Wmd M (mU M s p).toNat p) (b := 9) P (fun i hi => Wm_r hX hi)
      have h9 : (9 : Nat) ^ P ≤ 9 ^ 7 := Nat.pow_le_pow_right (by omega) (by omega)
      refine ⟨M1, start _ _ ?_, Fx_s f1 (by decide)⟩
      rw [b_238_0, q0, bsI, h, b_238_5, if_neg (by decide), b_238_8, s_203 (by omega), bsI, b2_t hy, b_238_12, if_pos (by decide), b_238_19, q1, bsX, b_238_23]
      refine Eq.trans q2 ?_
      rw [b_238_28, g57, if_pos (by omega), b_238_70 hL, s_166 (by omega), bsI, g57, c_ev (by omega), b_238_79 hL, if_pos (by omega), Int.toNat_natCast, y1 _ (EV_lt P), p_202 (by omega) _ _ _ (by omega) (by omega) (by omega), bsJ, b_238_84]
    · refine ⟨M, start _ _ ?_, Fx_r⟩
      rw [fr_no (by omega), b_238_0, q0, bsI, h, b_238_5, if_neg (by decide), b_238_8, s_203 (by omega), bsI, b2_f hy, b_238_12, if_neg (by decide), b_238_15]
  · refine ⟨M, start _ _ ?_, Fx_r⟩
    rw [if_neg h, b_238_0, q0, bsI, b_238_5, if_pos h, b_238_15]
    rfl
def v_luck (w : Nat → Nat → Int) (P Y : Nat) (so sz : Nat → Int) (nu : Nat → Nat → Int) (x part : Int) : Int := if rfs P Y x so sz nu = 0 then fr (sm (fun n => NU w P Y 1 n) ((bl (had (nu x.toNat) P)).length + 1)) (AL w Y (EV P)) part else NO
theorem s_138 {d0 : Nat} (hd : 7 ≤ d0) {M : MM} {R : RR} (hL : Lay R) {P Y t : Nat} (hX : XW M R P Y t) (hC : CJ M P Y) (x y : Int) : ∃ M', call d0 138 [vA 1, vI x, vI y] M R = some (vJ (v_luck (Wd M) P Y (cS M) (cZ M) (cU M) x y), M', R) ∧ Fx clsO M M' ∧ CJ M' P Y := by
  obtain ⟨e, rfl⟩ := s_le hd
  obtain ⟨hP, hP7, hY, hY1, hY24, ht, ht5, ht6, hT, hr⟩ := id hX
  have start : ∀ v M', run (call (e + 6)) 138 0 [vA 1, vI x, vI y, vX 0, vX 0, vX 0, vX 0] [] M R = some (vJ v, M', R) → call (e + 7) 138 [vA 1, vI x, vI y] M R = some (vJ v, M', R) := fun v M' h => call_of 7 [vA 1, vI x, vI y, vX 0, vX 0, vX 0, vX 0] (by decide) rfl (Nat.le_of_ble_eq_true rfl) rfl h rfl
  have q0 := s_129 (d0 := e + 6) (by omega) (M := M) hL hP hP7 hY x
  unfold v_luck
  by_cases h : rfs P Y x (cS M) (cZ M) (cU M) = 0
  · obtain ⟨s, rfl, hs, hf⟩ := rfs_0 h
    obtain ⟨l1, l2, l3, l4, l5⟩ := sh_l hL (s := s) hs
    obtain ⟨M1, q1, f1, p1⟩ := p_61 (d0 := e + 6) (by omega) hL hX hC
    have X1 := XW_f f1 hX
    have W1 := Wd_e (Wx_x f1)
    have ko : M1 (47 + 2 * s) = M (47 + 2 * s) := f1 _ (clsO_n (by omega))
    have hf24 : ∀ p, p < P → 0 ≤ M1 (47 + 2 * s) p ∧ M1 (47 + 2 * s) p < 24 := fun p hp => by
      have h : 0 ≤ M (47 + 2 * s) p ∧ M (47 + 2 * s) p < (Y : Int) := hf p hp
      rw [ko]
      omega
    have e135 := s_135 (d0 := e + 6) (by omega) (M := M1) hL X1.1 hP7 l5 l3 hf24
    have hlt := had_lt P hf24
    have hn7 := had_n (f := M1 (47 + 2 * s)) P
    rw [ko] at e135 hlt hn7
    have hcu : M (47 + 2 * s) = cU M s := rfl
    rw [hcu] at e135 hlt hn7
    generalize hm : (bl (had (cU M s) P)).length = m at *
    have hsm : ∀ n, n ≤ 8 → 0 ≤ sm (fun n => NU (Wd M) P Y 1 n) n ∧ sm (fun n => NU (Wd M) P Y 1 n) n ≤ n * 21936950640377856 := fun n _ => sm_r n (fun i _ => by
      have h1 := NU_ok hX 1 i
      have h2 := AL_r hX (EV_lt P)
      exact ⟨h1.1, by omega⟩)
    obtain ⟨M2, ⟨a1, a2⟩, q2⟩ := loop_nat (fun n (a : MM) => run (call (e + 6)) 138 42 [vA 1, vI s, vI y, vI m, vJ (sm (fun n => NU (Wd M) P Y 1 n) n), vX 0, vI n] [] a R) (fun _ a => Fx clsO M a ∧ PP a P Y) (m + 1) (by
      rintro n M2 hn ⟨a1, a2⟩
      have e1 : w32 ((n : Int) + 1) = ((n + 1 : Nat) : Int) := by rw [w32_i (by omega)]; omega
      obtain ⟨M3, q3, f3, p3⟩ := s_69 (d0 := e + 6) (by omega) hL (XW_f a1 hX) a2 (so := 1) (n := n) (by omega) (by omega)
      rw [Wd_e (Wx_x a1)] at q3
      have r4 := hsm (n + 1) (by omega)
      have es : sm (fun n => NU (Wd M) P Y 1 n) (n + 1) = sm (fun n => NU (Wd M) P Y 1 n) n + NU (Wd M) P Y 1 n := rfl
      refine ⟨M3, ⟨Fx_t a1 f3, p3⟩, ?_⟩
      rw [b_138_42, if_neg (by omega), b_138_48 hL]
      rw [show (1 : Int) = ((1 : Nat) : Int) from rfl, q3, bsJ, b_138_60, ← es, w64_i (by omega)]
      rw [e1]) M1 ⟨f1, p1⟩
    have W2 := Wd_e (Wx_x a1)
    have e65 := s_65 (d0 := e + 6) (by omega) hL hP7 a2.2.2.1
    rw [W2] at e65
    have r1 := AL_r hX (EV_lt P)
    have r4 := hsm (m + 1) (by omega)
    refine ⟨M2, start _ _ ?_, a1, a2.1⟩
    rw [if_pos h, Int.toNat_natCast, hm, b_138_0, q0, bsI, h, b_138_5, if_pos rfl, b_138_12 hL, q1, bsX, b_138_19 hL _ _ (by rw [Int.toNat_natCast, l1]; exact l4), if_pos (by omega), Int.toNat_natCast, l1, l2, e135, bsI, b_138_32, p_258 (by omega) hlt, bsI, b_138_35, hm]
    refine Eq.trans q2 ?_
    rw [b_138_42, if_pos (by omega), b_138_69 hL, e65, bsJ, b_138_78, p_158 (by omega) _ _ _ (by omega) (by omega), bsJ, b_138_82]
  · refine ⟨M, start _ _ ?_, Fx_r, hC⟩
    rw [if_neg h, b_138_0, q0, bsI, b_138_5, if_neg h, b_138_8]
    rfl
theorem s_239 {d0 : Nat} (hd : 7 ≤ d0) {M : MM} {R : RR} (hL : Lay R) {P Y t : Nat} (hX : XM M R P Y t) (x y : Int) : ∃ M', call d0 239 [vA 57, vI x, vI y] M R = some (vJ (v_luck (Wmd M) P Y (M 66) (M 67) (mU M) x y), M', R) ∧ Fx modO M M' := by
  obtain ⟨e, rfl⟩ := s_le hd
  obtain ⟨hP, hP7, hY, hY1, hY24, ht, ht6, hT, hr⟩ := id hX
  have hev := EV_b hP7
  have start : ∀ v M', run (call (e + 6)) 239 0 [vA 57, vI x, vI y, vX 0, vX 0, vX 0] [] M R = some (vJ v, M', R) → call (e + 7) 239 [vA 57, vI x, vI y] M R = some (vJ v, M', R) := fun v M' h => call_of 6 [vA 57, vI x, vI y, vX 0, vX 0, vX 0] (by decide) rfl (Nat.le_of_ble_eq_true rfl) rfl h rfl
  have q0 := s_230 (d0 := e + 6) (by omega) (M := M) hL hP hP7 hY ⟨hY1, hY24⟩ x
  unfold v_luck
  by_cases h : rfs P Y x (M 66) (M 67) (mU M) = 0
  · obtain ⟨s, rfl, hs, hf⟩ := rfs_0 h
    rw [if_pos h, Int.toNat_natCast]
    by_cases hy : 0 ≤ y ∧ y ≤ 1
    · obtain ⟨M1, q1, f1, w1, y1, c1⟩ := s_211 (d0 := e + 6) (by omega) hL hX (so := 1) (by omega)
      have hc : ∀ n, n < 22 → M1 80 (22 * EV P + n) = NU (Wmd M) P Y 1 n := fun n hn => by
        have := c1 (EV P) (EV_lt P) n hn
        rw [show w64 (Dl (fac (fun d p => Wm M p d) (es 1 7)) Y (bl (EV P)) n) = NU (Wmd M) P Y 1 n from Dlm_64 hX (EV_lt P) 1 7 n] at this
        exact this
      have ha := y1 (EV P) (EV_lt P)
      rw [show pr (fun p => sm (Wm M p) Y) (EV P) P = AL (Wmd M) Y (EV P) from pr_wp (EV_lt P) (by omega)] at ha
      have g57 : M1 57 2 = (P : Int) := by rw [f1 57 (by decide)]; exact hP
      have hmu : mU M1 = mU M := by unfold mU; rw [f1 68 (by decide)]
      have hf24 : ∀ p, p < P → 0 ≤ mU M1 s p ∧ mU M1 s p < 24 := fun p hp => by
        have h := hf p hp
        rw [hmu]
        omega
      have e235 := s_235 (d0 := e + 6) (by omega) (M := M1) hL g57 hP7 hs hf24
      have hlt := had_lt P hf24
      have hn7 := had_n (f := mU M1 s) P
      rw [hmu] at e235 hlt hn7
      generalize hm : (bl (had (mU M s) P)).length = m at *
      have hsm : ∀ n, n ≤ 8 → 0 ≤ sm (fun n => NU (Wmd M) P Y 1 n) n ∧ sm (fun n => NU (Wmd M) P Y 1 n) n ≤ n * 21936950640377856 := fun n _ => sm_r n (fun i _ => by
        have h1 := NUm_ok hX 1 i
        have h2 := ALm_r hX (EV_lt P)
        exact ⟨h1.1, by omega⟩)
      have q2 := iter_eq (fun n : Nat => run (call (e + 6)) 239 29 [vA 57, vI s, vI y, vJ (sm (fun n => NU (Wmd M) P Y 1 n) n), vX 0, vI n] [] M1 R) (m + 1) (by
        intro n hn
        have e1 : w32 ((n : Int) + 1) = ((n + 1 : Nat) : Int) := by rw [w32_i (by omega)]; omega
        have ei : w32 (w32 (22 * ((EV P : Nat) : Int)) + (n : Int)) = ((22 * EV P + n : Nat) : Int) := by
          simp (disch := omega) only [w32_i]; omega
        have r4 := hsm (n + 1) (by omega)
        have es : sm (fun n => NU (Wmd M) P Y 1 n) (n + 1) = sm (fun n => NU (Wmd M) P Y 1 n) n + NU (Wmd M) P Y 1 n := rfl
        rw [b_239_29, e235, bsI, b_239_36, s_167 (by omega) (by omega), bsI, hm, b_239_39, if_neg (by omega), b_239_42 hL, s_166 (by omega), bsI, g57, c_ev (by omega), b_239_53 hL, ei, if_pos (by omega), e1, Int.toNat_natCast, hc n (by omega), ← es, w64_i (by omega)])
      have r1 := ALm_r hX (EV_lt P)
      have r4 := hsm (m + 1) (by omega)
      refine ⟨M1, start _ _ ?_, Fx_s f1 (by decide)⟩
      rw [b_239_0, q0, bsI, h, b_239_5, if_neg (by decide), b_239_8, s_203 (by omega), bsI, b2_t hy, b_239_12, if_pos (by decide), b_239_19]
      rw [show (1 : Int) = ((1 : Nat) : Int) from rfl, q1, bsX, b_239_24]
      refine Eq.trans q2 ?_
      rw [b_239_29, e235, bsI, b_239_36, s_167 (by omega) (by omega), bsI, hm, b_239_39, if_pos (by omega), b_239_66 hL, s_166 (by omega), bsI, g57, c_ev (by omega), b_239_75 hL, if_pos (by omega), Int.toNat_natCast, ha, p_202 (by omega) _ _ _ (by omega) (by omega) (by omega), bsJ, b_239_80]
    · refine ⟨M, start _ _ ?_, Fx_r⟩
      rw [fr_no (by omega), b_239_0, q0, bsI, h, b_239_5, if_neg (by decide), b_239_8, s_203 (by omega), bsI, b2_f hy, b_239_12, if_neg (by decide), b_239_15]
  · refine ⟨M, start _ _ ?_, Fx_r⟩
    rw [if_neg h, b_239_0, q0, bsI, b_239_5, if_pos h, b_239_15]
    rfl
end
