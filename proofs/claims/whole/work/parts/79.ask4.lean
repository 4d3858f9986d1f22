section
/-! ===== questions: mine, likeliest ===== -/
theorem tot_r {M : MM} {R : RR} {P Y t p : Nat} (hX : XW M R P Y t) (hp : p < P) : 0 ≤ sm (fun d => Wd M d p) Y ∧ sm (fun d => Wd M d p) Y ≤ 216 := by
  have h := sm_r (f := fun d => Wd M d p) (b := 9) Y (fun i _ => Wx_r hX hp)
  have := hX.2.2.2.2.1
  omega
theorem totm_r {M : MM} {R : RR} {P Y t p : Nat} (hX : XM M R P Y t) (hp : p < P) : 0 ≤ sm (fun d => Wmd M d p) Y ∧ sm (fun d => Wmd M d p) Y ≤ 216 := by
  have h := sm_r (f := fun d => Wmd M d p) (b := 9) Y (fun i _ => Wm_r hX hp)
  have := hX.2.2.2.2.1
  omega
theorem bu_r {M : MM} {R : RR} {P Y t p d : Nat} (hX : XW M R P Y t) (hp : p < P) (hd : d < Y) : 0 ≤ sm (fun d => Wd M d p) Y - Wd M d p ∧ sm (fun d => Wd M d p) Y - Wd M d p ≤ 216 := by
  have h1 := sm_le (f := fun d => Wd M d p) Y (fun i _ => (Wx_r hX hp).1) d hd
  have h2 : 0 ≤ Wd M d p ∧ Wd M d p ≤ 9 := Wx_r hX hp
  have h3 := tot_r hX hp
  omega
theorem bum_r {M : MM} {R : RR} {P Y t p d : Nat} (hX : XM M R P Y t) (hp : p < P) (hd : d < Y) : 0 ≤ sm (fun d => Wmd M d p) Y - Wmd M d p ∧ sm (fun d => Wmd M d p) Y - Wmd M d p ≤ 216 := by
  have h1 := sm_le (f := fun d => Wmd M d p) Y (fun i _ => (Wm_r hX hp).1) d hd
  have h2 : 0 ≤ Wmd M d p ∧ Wmd M d p ≤ 9 := Wm_r hX hp
  have h3 := totm_r hX hp
  omega
theorem p216' {n : Nat} (h : n ≤ 7) : (((216 : Nat) ^ n : Nat) : Int) ≤ 21936950640377856 := p216 h
/-- ways in which a day is taken -/
def TK (w : Nat → Nat → Int) (P Y d : Nat) : Int := AL w Y (EV P) - BU w P Y d
theorem s_70 {d0 : Nat} (hd : 3 ≤ d0) {M : MM} {R : RR} (hL : Lay R) {P Y t d : Nat} (hX : XW M R P Y t) (hA : aW M P Y) (hF : FR M P Y) (hdY : d < Y) : call d0 70 [vA 27, vI d] M R = some (vJ (TK (Wd M) P Y d), M, R) := by
  obtain ⟨e, rfl⟩ := s_le hd
  obtain ⟨hP, hP7, hY, hY1, hY24, _⟩ := id hX
  refine call_of 5 [vA 27, vI d, vX 0, vX 0, vX 0] (by decide) rfl (Nat.le_of_ble_eq_true rfl) rfl ?_ rfl
  have q2 := iter_eq (fun n : Nat => run (call (e + 2)) 70 5 [vA 27, vI d, vJ (pn (fun p => sm (fun d => Wd M d p) Y - Wd M d p) n), vX 0, vI n] [] M R) P (by
    intro n hn
    have e1 : w32 ((n : Int) + 1) = ((n + 1 : Nat) : Int) := by rw [w32_i (by omega)]; omega
    have hb := bu_r hX hn hdY
    have hp := pn_b (f := fun p => sm (fun d => Wd M d p) Y - Wd M d p) (b := 216) (n + 1) (fun i hi => bu_r hX (by omega) hdY)
    have h6 := p216' (n := n + 1) (by omega)
    have hs : pn (fun p => sm (fun d => Wd M d p) Y - Wd M d p) (n + 1) = pn (fun p => sm (fun d => Wd M d p) Y - Wd M d p) n * (sm (fun d => Wd M d n) Y - Wd M d n) := rfl
    have g1 : M 24 n = sm (fun d => Wd M d n) Y := (hF n hn).2.2
    have g2 : M 23 (24 * n + d) = Wd M d n := (hF n hn).2.1 d hdY
    rw [b_70_5 hL, s_83 (by omega) hL, bsI, hP, b_70_14, if_neg (by omega), b_70_17 hL, s_82 (by omega) hL (by omega) (by omega), bsI, b_70_27 hL, s_81 (by omega) hL (by omega) (by omega) (by omega) (by omega), bsI, b_70_37, e1, g1, g2, w32_i (by omega), ← hs, w64_i (by omega)])
  rw [b_70_0]
  refine Eq.trans q2 ?_
  have r1 := AL_r hX (EV_lt P)
  have hp := pn_b (f := fun p => sm (fun d => Wd M d p) Y - Wd M d p) (b := 216) P (fun i hi => bu_r hX hi hdY)
  have h6 := p216' hP7
  rw [b_70_5 hL, s_83 (by omega) hL, bsI, hP, b_70_14, if_pos (by omega), b_70_47, s_65 (by omega) hL hP7 hA, bsJ, b_70_51, w64_i (by omega)]
  rfl
theorem TK_r {M : MM} {R : RR} {P Y t d : Nat} (hX : XW M R P Y t) (hdY : d < Y) : 0 ≤ TK (Wd M) P Y d ∧ TK (Wd M) P Y d ≤ AL (Wd M) Y (EV P) := by
  have h := BU_r (w := Wd M) (P := P) (Y := Y) (d := d) hX.2.1 (fun d p hp => (Wx_r hX hp).1) hdY
  show 0 ≤ AL (Wd M) Y (EV P) - BU (Wd M) P Y d ∧ AL (Wd M) Y (EV P) - BU (Wd M) P Y d ≤ AL (Wd M) Y (EV P)
  omega
theorem TKm_r {M : MM} {R : RR} {P Y t d : Nat} (hX : XM M R P Y t) (hdY : d < Y) : 0 ≤ TK (Wmd M) P Y d ∧ TK (Wmd M) P Y d ≤ AL (Wmd M) Y (EV P) := by
  have h := BU_r (w := Wmd M) (P := P) (Y := Y) (d := d) hX.2.1 (fun d p hp => (Wm_r hX hp).1) hdY
  show 0 ≤ AL (Wmd M) Y (EV P) - BU (Wmd M) P Y d ∧ AL (Wmd M) Y (EV P) - BU (Wmd M) P Y d ≤ AL (Wmd M) Y (EV P)
  omega
def v_mine (w : Nat → Nat → Int) (P Y : Nat) (d part : Int) : Int := if 0 ≤ d ∧ d < Y then fr (TK w P Y d.toNat) (AL w Y (EV P)) part else NO
theorem s_110 {d0 : Nat} (hd : 7 ≤ d0) {M : MM} {R : RR} (hL : Lay R) {P Y t : Nat} (hX : XW M R P Y t) (hC : CJ M P Y) (x y : Int) : ∃ M', call d0 110 [vA 1, vI x, vI y] M R = some (vJ (v_mine (Wd M) P Y x y), M', R) ∧ Fx clsO M M' ∧ CJ M' P Y := by
  obtain ⟨e, rfl⟩ := s_le hd
  obtain ⟨hP, hP7, hY, hY1, hY24, _⟩ := id hX
  have start : ∀ v M', run (call (e + 6)) 110 0 [vA 1, vI x, vI y] [] M R = some (vJ v, M', R) → call (e + 7) 110 [vA 1, vI x, vI y] M R = some (vJ v, M', R) := fun v M' h => call_of 3 [vA 1, vI x, vI y] (by decide) rfl (Nat.le_of_ble_eq_true rfl) rfl h rfl
  unfold v_mine
  by_cases h : 0 ≤ x ∧ x < Y
  · obtain ⟨d, rfl⟩ : ∃ k : Nat, x = (k : Int) := ⟨x.toNat, by omega⟩
    obtain ⟨M1, q1, f1, p1⟩ := p_61 (d0 := e + 6) (by omega) hL hX hC
    have X1 := XW_f f1 hX
    have W1 := Wd_e (Wx_x f1)
    have q2 := s_70 (d0 := e + 6) (by omega) hL X1 p1.2.2.1 p1.2.1 (d := d) (by omega)
    have e65 := s_65 (d0 := e + 6) (by omega) hL hP7 p1.2.2.1
    rw [W1] at q2 e65
    have r1 := AL_r hX (EV_lt P)
    have r2 := TK_r hX (d := d) (by omega)
    refine ⟨M1, start _ _ ?_, f1, p1.1⟩
    rw [if_pos h, b_110_0 hL, s_90 (by omega), bsI, b_110_8, hY, b2_t h, if_pos (by decide), b_110_15 hL, q1, bsX, b_110_22 hL, q2, bsJ, b_110_30 hL, e65, bsJ, b_110_37, p_158 (by omega) _ _ _ (by omega) (by omega), bsJ, b_110_41, Int.toNat_natCast]
  · refine ⟨M, start _ _ ?_, Fx_r, hC⟩
    rw [if_neg h, b_110_0 hL, s_90 (by omega), bsI, b_110_8, hY, b2_f h, if_neg (by decide), b_110_11]
    rfl
theorem s_208 {d0 : Nat} (hd : 1 ≤ d0) {M M0 : MM} {R : RR} (hL : Lay R) {P Y t d : Nat} (hX : XM M0 R P Y t) (h57 : M 57 2 = (P : Int)) (hF : RW M0 M P Y) (hdY : d < Y) : call d0 208 [vA 57, vI d] M R = some (vJ (BU (Wmd M0) P Y d), M, R) := by
  obtain ⟨e, rfl⟩ := s_le hd
  obtain ⟨hP, hP7, hY, hY1, hY24, _⟩ := id hX
  refine call_of 5 [vA 57, vI d, vX 0, vX 0, vX 0] (by decide) rfl (Nat.le_of_ble_eq_true rfl) rfl ?_ rfl
  have q2 := iter_eq (fun n : Nat => run (call e) 208 5 [vA 57, vI d, vJ (pn (fun p => sm (fun d => Wmd M0 d p) Y - Wmd M0 d p) n), vX 0, vI n] [] M R) P (by
    intro n hn
    have e1 : w32 ((n : Int) + 1) = ((n + 1 : Nat) : Int) := by rw [w32_i (by omega)]; omega
    have ei : w32 (w32 (24 * (n : Int)) + (d : Int)) = ((24 * n + d : Nat) : Int) := by
      simp (disch := omega) only [w32_i]; omega
    have hb := bum_r hX hn hdY
    have hp := pn_b (f := fun p => sm (fun d => Wmd M0 d p) Y - Wmd M0 d p) (b := 216) (n + 1) (fun i hi => bum_r hX (by omega) hdY)
    have h6 := p216' (n := n + 1) (by omega)
    have hs : pn (fun p => sm (fun d => Wmd M0 d p) Y - Wmd M0 d p) (n + 1) = pn (fun p => sm (fun d => Wmd M0 d p) Y - Wmd M0 d p) n * (sm (fun d => Wmd M0 d n) Y - Wmd M0 d n) := rfl
    have g1 : M 75 n = sm (fun d => Wmd M0 d n) Y := (hF n hn).2
    have g2 : M 74 (24 * n + d) = Wmd M0 d n := (hF n hn).1 d hdY
    rw [b_208_5, h57, if_neg (by omega), b_208_14 hL, ei, if_pos (by omega), if_pos (by omega), e1, Int.toNat_natCast, Int.toNat_natCast, g1, g2, w64_mr, ← hs, w64_i (by omega)])
  rw [b_208_0]
  refine Eq.trans q2 ?_
  rw [b_208_5, h57, if_pos (by omega), b_208_44]
theorem s_209 {d0 : Nat} (hd : 6 ≤ d0) {M : MM} {R : RR} (hL : Lay R) {P Y t : Nat} (hX : XM M R P Y t) (x y : Int) : ∃ M', call d0 209 [vA 57, vI x, vI y] M R = some (vJ (v_mine (Wmd M) P Y x y), M', R) ∧ Fx modO M M' := by
  obtain ⟨e, rfl⟩ := s_le hd
  obtain ⟨hP, hP7, hY, hY1, hY24, _⟩ := id hX
  have hev := EV_b hP7
  have start : ∀ v M', run (call (e + 5)) 209 0 [vA 57, vI x, vI y, vX 0, vX 0] [] M R = some (vJ v, M', R) → call (e + 6) 209 [vA 57, vI x, vI y] M R = some (vJ v, M', R) := fun v M' h => call_of 5 [vA 57, vI x, vI y, vX 0, vX 0] (by decide) rfl (Nat.le_of_ble_eq_true rfl) rfl h rfl
  unfold v_mine
  have ey : w32 (M 57 0 - 1) = (Y : Int) - 1 := by rw [hY, w32_i (by omega)]
  by_cases h : 0 ≤ x ∧ x ≤ (Y : Int) - 1
  · rw [if_pos (by omega)]
    by_cases hy : 0 ≤ y ∧ y ≤ 1
    · obtain ⟨d, rfl⟩ : ∃ k : Nat, x = (k : Int) := ⟨x.toNat, by omega⟩
      obtain ⟨M1, q1, f1, w1, y1⟩ := r_198 (d0 := e + 5) (by omega) hL hX
      have q2 := s_208 (d0 := e + 5) (by omega) (M := M1) hL hX (by rw [f1 57 (by decide)]; exact hP) w1 (d := d) (by omega)
      have r1 := ALm_r hX (EV_lt P)
      have r2 := TKm_r hX (d := d) (by omega)
      refine ⟨M1, start _ _ ?_, Fx_s f1 (by decide)⟩
      rw [b_209_0, s_164 (by omega), bsI, ey, b2_t h, b_209_5, if_neg (by decide), b_209_8, s_203 (by omega), bsI, b2_t hy, b_209_12, if_pos (by decide), b_209_19, q1, bsX, b_209_23 hL, s_166 (by omega), bsI, f1 57 (by decide), hP, c_ev (by omega), b_209_31 hL, if_pos (by omega), Int.toNat_natCast, y1 _ (EV_lt P), q2, bsJ, b_209_39, Int.toNat_natCast]
      rw [show w64 (AL (Wmd M) Y (EV P) - BU (Wmd M) P Y d) = TK (Wmd M) P Y d from w64_i (by show _ ≤ TK (Wmd M) P Y d ∧ TK (Wmd M) P Y d < _; omega), p_202 (by omega) _ _ _ (by omega) (by omega) (by omega), bsJ, b_209_45]
    · refine ⟨M, start _ _ ?_, Fx_r⟩
      rw [fr_no (by omega), b_209_0, s_164 (by omega), bsI, ey, b2_t h, b_209_5, if_neg (by decide), b_209_8, s_203 (by omega), bsI, b2_f hy, b_209_12, if_neg (by decide), b_209_15]
  · refine ⟨M, start _ _ ?_, Fx_r⟩
    rw [if_neg (by omega), b_209_0, s_164 (by omega), bsI, ey, b2_f h, b_209_5, if_pos rfl, b_209_15]
    rfl
def v_likeliest (w : Nat → Nat → Int) (P Y : Nat) : Nat := (cB (TK w P Y) Y).1
/-- the first of the smallest, if any is -/
def rB (g : Nat → Int) (ok : Prop) [Decidable ok] : Nat → Nat
  | 0 => 0
  | n + 1 => if g n < g (rB g ok n) ∧ ok then n else rB g ok n
theorem rB_lt (g : Nat → Int) (ok : Prop) [Decidable ok] : ∀ n, 0 < n → rB g ok n < n
  | 0, h => absurd h (by omega)
  | n + 1, _ => by
    show (if g n < g (rB g ok n) ∧ ok then n else rB g ok n) < n + 1
    split
    · omega
    · rcases Nat.eq_zero_or_pos n with rfl | h
      · show 0 < 1; omega
      · have := rB_lt g ok n h; omega
theorem rB_cB {f g : Nat → Int} {a : Int} {Y : Nat} (hf : ∀ i, i < Y → f i = a - g i ∧ 0 ≤ f i ∧ f i ≤ a) : ∀ n, n ≤ Y → rB g (0 < a) n = (cB f n).1 ∧ (cB f n).2 = (if n = 0 then 0 else f (rB g (0 < a) n))
  | 0, _ => ⟨rfl, rfl⟩
  | n + 1, hn => by
    obtain ⟨h1, h2⟩ := rB_cB hf n (by omega)
    have hfn := hf n (by omega)
    show (if g n < g (rB g (0 < a) n) ∧ 0 < a then n else rB g (0 < a) n) = (if (cB f n).2 < f n then (n, f n) else cB f n).1 ∧ (if (cB f n).2 < f n then (n, f n) else cB f n).2 = (if n + 1 = 0 then 0 else f (if g n < g (rB g (0 < a) n) ∧ 0 < a then n else rB g (0 < a) n))
    rw [if_neg (by omega : ¬ n + 1 = 0)]
    rcases Nat.eq_zero_or_pos n with rfl | h0
    · show (if g 0 < g 0 ∧ 0 < a then 0 else 0) = (if (0 : Int) < f 0 then (0, f 0) else (0, 0)).1 ∧ (if (0 : Int) < f 0 then (0, f 0) else (0, 0)).2 = f (if g 0 < g 0 ∧ 0 < a then 0 else 0)
      rw [ite_self]
      by_cases k : 0 < f 0
      · rw [if_pos k]; exact ⟨rfl, rfl⟩
      · rw [if_neg k]; exact ⟨rfl, by show (0 : Int) = f 0; omega⟩
    · have hr := hf _ (show rB g (0 < a) n < Y by have := rB_lt g (0 < a) n h0; omega)
      rw [if_neg (by omega)] at h2
      rw [h2]
      by_cases k : g n < g (rB g (0 < a) n) ∧ 0 < a
      · rw [if_pos k, if_pos (by omega)]; exact ⟨rfl, rfl⟩
      · rw [if_neg k, if_neg (by omega)]; exact ⟨h1, h2⟩
theorem s_111 {d0 : Nat} (hd : 7 ≤ d0) {M : MM} {R : RR} (hL : Lay R) {P Y t : Nat} (hX : XW M R P Y t) (hC : CJ M P Y) : ∃ M', call d0 111 [vA 1] M R = some (vI (v_likeliest (Wd M) P Y : Nat), M', R) ∧ Fx clsO M M' ∧ CJ M' P Y := by
  obtain ⟨e, rfl⟩ := s_le hd
  obtain ⟨M1, q1, f1, p1⟩ := p_61 (d0 := e + 6) (by omega) hL hX hC
  have X1 := XW_f f1 hX
  have W1 := Wd_e (Wx_x f1)
  obtain ⟨u, _, q2⟩ := loop_nat (fun n (u : AV) => run (call (e + 6)) 111 14 [vA 1, vI ((cB (TK (Wd M) P Y) n).1 : Nat), vJ (cB (TK (Wd M) P Y) n).2, vX 0, vI n, u, vX 0] [] M1 R) (fun _ _ => True) Y (by
    intro n u hn _
    have e1 : w32 ((n : Int) + 1) = ((n + 1 : Nat) : Int) := by have := X1.2.2.2.2.1; rw [w32_i (by omega)]; omega
    have q3 := s_70 (d0 := e + 6) (by omega) hL X1 p1.2.2.1 p1.2.1 hn
    rw [W1] at q3
    refine ⟨vJ (TK (Wd M) P Y n), trivial, ?_⟩
    show run (call (e + 6)) 111 14 [vA 1, vI ((cB (TK (Wd M) P Y) n).1 : Nat), vJ (cB (TK (Wd M) P Y) n).2, vX 0, vI n, u, vX 0] [] M1 R = run (call (e + 6)) 111 14 [vA 1, vI ((if (cB (TK (Wd M) P Y) n).2 < TK (Wd M) P Y n then (n, TK (Wd M) P Y n) else cB (TK (Wd M) P Y) n).1 : Nat), vJ (if (cB (TK (Wd M) P Y) n).2 < TK (Wd M) P Y n then (n, TK (Wd M) P Y n) else cB (TK (Wd M) P Y) n).2, vX 0, vI ((n + 1 : Nat) : Int), vJ (TK (Wd M) P Y n), vX 0] [] M1 R
    rw [b_111_14 hL, X1.2.2.1, if_neg (by omega), b_111_26 hL, q3, bsJ, b_111_35]
    simp only [lc_le]
    by_cases g : (cB (TK (Wd M) P Y) n).2 < TK (Wd M) P Y n
    · rw [if_neg (by omega), b_111_44, b_111_50, e1, if_pos g]
    · rw [if_pos (by omega), b_111_50, e1, if_neg g]) (vX 0) trivial
  refine ⟨M1, ?_, f1, p1.1⟩
  refine call_of 7 [vA 1, vX 0, vX 0, vX 0, vX 0, vX 0, vX 0] (by decide) rfl (Nat.le_of_ble_eq_true rfl) rfl ?_ rfl
  rw [b_111_0 hL, q1, bsX, b_111_7]
  refine Eq.trans q2 ?_
  try dsimp only
  rw [b_111_14 hL, X1.2.2.1, if_pos (by omega), b_111_56]
  rfl
theorem s_210 {d0 : Nat} (hd : 6 ≤ d0) {M : MM} {R : RR} (hL : Lay R) {P Y t : Nat} (hX : XM M R P Y t) : ∃ M', call d0 210 [vA 57] M R = some (vI (v_likeliest (Wmd M) P Y : Nat), M', R) ∧ Fx modO M M' := by
  obtain ⟨e, rfl⟩ := s_le hd
  obtain ⟨hP, hP7, hY, hY1, hY24, _⟩ := id hX
  have hev := EV_b hP7
  obtain ⟨M1, q1, f1, w1, y1⟩ := r_198 (d0 := e + 5) (by omega) hL hX
  have g57 : M1 57 2 = (P : Int) := by rw [f1 57 (by decide)]; exact hP
  have q2 := iter_eq (fun n : Nat => run (call (e + 5)) 210 8 [vA 57, vI (rB (BU (Wmd M) P Y) (0 < AL (Wmd M) Y (EV P)) (n + 1) : Nat), vI ((n + 1 : Nat) : Int)] [] M1 R) (Y - 1) (by
    intro n hn
    have e1 : w32 (((n + 1 : Nat) : Int) + 1) = ((n + 1 + 1 : Nat) : Int) := by rw [w32_i (by omega)]; omega
    have hr := rB_lt (BU (Wmd M) P Y) (0 < AL (Wmd M) Y (EV P)) (n + 1) (by omega)
    show run (call (e + 5)) 210 8 [vA 57, vI (rB (BU (Wmd M) P Y) (0 < AL (Wmd M) Y (EV P)) (n + 1) : Nat), vI ((n + 1 : Nat) : Int)] [] M1 R = run (call (e + 5)) 210 8 [vA 57, vI ((if BU (Wmd M) P Y (n + 1) < BU (Wmd M) P Y (rB (BU (Wmd M) P Y) (0 < AL (Wmd M) Y (EV P)) (n + 1)) ∧ 0 < AL (Wmd M) Y (EV P) then n + 1 else rB (BU (Wmd M) P Y) (0 < AL (Wmd M) Y (EV P)) (n + 1) : Nat) : Int), vI ((n + 1 + 1 : Nat) : Int)] [] M1 R
    rw [b_210_8, f1 57 (by decide), hY, if_neg (by omega), b_210_16, s_208 (by omega) hL hX g57 w1 (by omega), bsJ, b_210_21, s_208 (by omega) hL hX g57 w1 (by omega), bsJ, b_210_26]
    simp only [lc_ge]
    by_cases g : BU (Wmd M) P Y (n + 1) < BU (Wmd M) P Y (rB (BU (Wmd M) P Y) (0 < AL (Wmd M) Y (EV P)) (n + 1))
    · rw [if_neg (by omega), b_210_30 hL, s_166 (by omega), bsI, g57, c_ev (by omega), b_210_38 hL, if_pos (by omega), Int.toNat_natCast, y1 _ (EV_lt P)]
      simp only [lc_le]
      by_cases k : 0 < AL (Wmd M) Y (EV P)
      · rw [if_neg (by omega), b_210_44, b_210_49, e1, if_pos ⟨g, k⟩]
      · rw [if_pos (by omega), b_210_48, b_210_49, e1, if_neg (fun h => k h.2)]
    · rw [if_pos (by omega), b_210_48, b_210_49, e1, if_neg (fun h => g h.1)])
  refine ⟨M1, ?_, Fx_s f1 (by decide)⟩
  refine call_of 3 [vA 57, vX 0, vX 0] (by decide) rfl (Nat.le_of_ble_eq_true rfl) rfl ?_ rfl
  rw [b_210_0, q1, bsX, b_210_4]
  have h0 : rB (BU (Wmd M) P Y) (0 < AL (Wmd M) Y (EV P)) (0 + 1) = 0 := by
    show (if BU (Wmd M) P Y 0 < BU (Wmd M) P Y 0 ∧ 0 < AL (Wmd M) Y (EV P) then 0 else 0) = 0
    rw [ite_self]
  rw [h0, show Y - 1 + 1 = Y by omega] at q2
  refine Eq.trans q2 ?_
  have hq := (rB_cB (f := TK (Wmd M) P Y) (g := BU (Wmd M) P Y) (a := AL (Wmd M) Y (EV P)) (Y := Y) (fun i hi => ⟨rfl, (TKm_r hX hi).1, (TKm_r hX hi).2⟩) Y (Nat.le_refl Y)).1
  rw [b_210_8, f1 57 (by decide), hY, if_pos (by omega), b_210_56, hq]
  rfl
end
