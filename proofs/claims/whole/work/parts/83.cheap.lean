section
/-! ===== cheap, wager ===== -/
/-- what one pays or is asked for on its told day: the class, the reference -/
def Ax (M : MM) (part p : Nat) : Int := lvw (segm M (M 13 6).toNat part) part (M 7 p) (M 3 (M 7 p).toNat) (M 2 0) (M 6 p) (M 7 p) p
def Am (M : MM) (part p : Nat) : Int := lvw (segm M (M 57 11).toNat part) part (M 61 p) (M 58 (M 61 p).toNat) (M 57 0) (M 60 p) (M 61 p) p
theorem Ax_x {M M' : MM} (h : Fx clsO M M') : Ax M' = Ax M := by
  funext part p
  have g := fun o (ho : o ≤ 14 ∨ (17 ≤ o ∧ o ≤ 21) ∨ 45 ≤ o) => h o (clsO_n ho)
  unfold Ax segm
  rw [g 2 (by omega), g 3 (by omega), g 6 (by omega), g 7 (by omega), g 13 (by omega), g 63 (by omega), g 64 (by omega)]
theorem Am_x {M M' : MM} (h : Fx modO M M') : Am M' = Am M := by
  funext part p
  have g := fun o (ho : o ≤ 70 ∨ 83 ≤ o) => h o (modO_n ho)
  unfold Am segm
  rw [g 57 (by omega), g 58 (by omega), g 60 (by omega), g 61 (by omega), g 63 (by omega), g 64 (by omega)]
theorem Ax_r (M : MM) (part p : Nat) : 0 ≤ Ax M part p ∧ Ax M part p ≤ 40 := by
  have h := @lvw_r (segm M (M 13 6).toNat part) part (M 7 p) (M 3 (M 7 p).toNat) (M 2 0) (M 6 p) (M 7 p) p
  unfold Ax
  split at h <;> omega
theorem Am_r (M : MM) (part p : Nat) : 0 ≤ Am M part p ∧ Am M part p ≤ 40 := by
  have h := @lvw_r (segm M (M 57 11).toNat part) part (M 61 p) (M 58 (M 61 p).toNat) (M 57 0) (M 60 p) (M 61 p) p
  unfold Am
  split at h <;> omega
/-- of all of a set, together -/
def sB (f : Nat → Int) (s : Nat) : Nat → Int
  | 0 => 0
  | n + 1 => sB f s n + (if s.testBit n = true then f n else 0)
theorem sB_r {f : Nat → Int} {s : Nat} (h : ∀ p, 0 ≤ f p ∧ f p ≤ 40) : ∀ n : Nat, 0 ≤ sB f s n ∧ sB f s n ≤ n * 40
  | 0 => ⟨Int.le_refl 0, by show (0 : Int) ≤ 0 * 40; decide⟩
  | n + 1 => by
    have a := sB_r (s := s) h n
    have b := h n
    show 0 ≤ sB f s n + (if s.testBit n = true then f n else 0) ∧ sB f s n + (if s.testBit n = true then f n else 0) ≤ ((n + 1 : Nat) : Int) * 40
    split <;> omega
theorem s_7 {d0 : Nat} (hd : 4 ≤ d0) {M : MM} {R : RR} (hL : Lay R) {P Y t part s : Nat} (hX : XW M R P Y t) (hpt : part < 3) (hs : s < 128) : ∃ M', call d0 7 [vA 13, vI part, vI s] M R = some (vI (sB (Ax M part) s P), M', R) ∧ Fx [15, 16] M M' := by
  obtain ⟨e, rfl⟩ := s_le hd
  obtain ⟨hP, hP7, _⟩ := id hX
  obtain ⟨M1, a1, q1⟩ := loop_nat (fun n (a : MM) => run (call (e + 3)) 7 5 [vA 13, vI part, vI s, vI (sB (Ax M part) s n), vI n] [] a R) (fun _ a => Fx [15, 16] M a) P (by
    rintro n M1 hn a1
    have aF : Fx clsO M M1 := Fx_s a1 (by decide)
    obtain ⟨gP, _, gY, gY1, gY24, gt, gt5, gt6, gT, gr⟩ := XW_f aF hX
    have hr := gr n hn
    obtain ⟨dd, hdd⟩ : ∃ dd : Nat, M1 7 n = (dd : Int) := ⟨(M1 7 n).toNat, by omega⟩
    have hA := congrFun (congrFun (Ax_x aF) part) n
    have e1 : w32 ((n : Int) + 1) = ((n + 1 : Nat) : Int) := by rw [w32_i (by omega)]; omega
    have hb := Ax_r M part n
    have hsb := sB_r (f := Ax M part) (s := s) (fun p => Ax_r M part p) n
    have es : sB (Ax M part) s (n + 1) = sB (Ax M part) s n + (if s.testBit n = true then Ax M part n else 0) := rfl
    by_cases h : s.testBit n = true
    · obtain ⟨f, g, q⟩ := s_6 (d0 := e + 3) (by omega) (M := M1) hL (t := t) (part := part) (p := n) (d := dd) (told := (dd : Int)) gT gt5 gt6 hpt (by omega) (by omega) (by omega) (by omega)
      have ev : lvw (segm M1 t part) part dd (M1 3 dd) (M1 2 0) (M1 6 n) (dd : Int) n = Ax M part n := by
        rw [← hA]
        unfold Ax
        rw [gt, hdd, Int.toNat_natCast, Int.toNat_natCast]
      rw [ev] at q
      refine ⟨upf (upf M1 15 f) 16 g, Fx_t a1 (Fx_t (Fx_u (by decide)) (Fx_u (by decide))), ?_⟩
      rw [b_7_5 hL, gP, if_neg (by omega), b_7_17, c_bit (by omega) (by omega), b2_t h, if_neg (by decide), b_7_26 hL, if_pos (by omega), if_pos (by omega), Int.toNat_natCast, gt, hdd, q, bsI, b_7_58, b_7_60, e1, es, if_pos h, w32_i (by omega)]
    · refine ⟨M1, a1, ?_⟩
      rw [b_7_5 hL, gP, if_neg (by omega), b_7_17, c_bit (by omega) (by omega), b2_f h, if_pos rfl, b_7_60, e1, es, if_neg h, Int.add_zero]) M Fx_r
  refine ⟨M1, ?_, a1⟩
  refine call_of 5 [vA 13, vI part, vI s, vX 0, vX 0] (by decide) rfl (Nat.le_of_ble_eq_true rfl) rfl ?_ rfl
  rw [b_7_0]
  refine Eq.trans q1 ?_
  rw [b_7_5 hL, a1 4 (by decide), hP, if_pos (by omega), b_7_66]
theorem s_227 {d0 : Nat} (hd : 4 ≤ d0) {M : MM} {R : RR} (hL : Lay R) {P Y t part s : Nat} (hX : XM M R P Y t) (hpt : part < 3) (hs : s < 128) : ∃ M', call d0 227 [vA 57, vI part, vI s] M R = some (vI (sB (Am M part) s P), M', R) ∧ Fx [72, 73] M M' := by
  obtain ⟨e, rfl⟩ := s_le hd
  obtain ⟨hP, hP7, _⟩ := id hX
  obtain ⟨M1, a1, q1⟩ := loop_nat (fun n (a : MM) => run (call (e + 3)) 227 5 [vA 57, vI part, vI s, vI (sB (Am M part) s n), vI n] [] a R) (fun _ a => Fx [72, 73] M a) P (by
    rintro n M1 hn a1
    have aF : Fx modO M M1 := Fx_s a1 (by decide)
    obtain ⟨gP, _, gY, gY1, gY24, gt, gt6, gT, gr⟩ := XM_f aF hX
    have hr := gr n hn
    obtain ⟨dd, hdd⟩ : ∃ dd : Nat, M1 61 n = (dd : Int) := ⟨(M1 61 n).toNat, by omega⟩
    have hA := congrFun (congrFun (Am_x aF) part) n
    have e1 : w32 ((n : Int) + 1) = ((n + 1 : Nat) : Int) := by rw [w32_i (by omega)]; omega
    have hb := Am_r M part n
    have hsb := sB_r (f := Am M part) (s := s) (fun p => Am_r M part p) n
    have es : sB (Am M part) s (n + 1) = sB (Am M part) s n + (if s.testBit n = true then Am M part n else 0) := rfl
    by_cases h : s.testBit n = true
    · obtain ⟨f, g, q⟩ := s_188 (d0 := e + 3) (by omega) (M := M1) hL (t := t) (part := part) (p := n) (d := dd) gT gt gt6 hpt (by omega) (by omega)
      have ev : lvw (segm M1 t part) part dd (M1 58 dd) (M1 57 0) (M1 60 n) (M1 61 n) n = Am M part n := by
        rw [← hA]
        unfold Am
        rw [gt, hdd, Int.toNat_natCast, Int.toNat_natCast]
      rw [ev] at q
      refine ⟨_, Fx_t a1 (Fx_t (Fx_u (o := 73) (f := f) (by decide)) (Fx_u (o := 72) (f := g) (by decide))), ?_⟩
      rw [b_227_5, gP, if_neg (by omega), b_227_14, c_bit (by omega) (by omega), b2_t h, if_neg (by decide), b_227_25 hL, if_pos (by omega), Int.toNat_natCast, hdd, q, bsI, b_227_39, b_227_43, e1, es, if_pos h, w32_i (by omega)]
    · refine ⟨M1, a1, ?_⟩
      rw [b_227_5, gP, if_neg (by omega), b_227_14, c_bit (by omega) (by omega), b2_f h, if_pos (by decide), b_227_42, b_227_43, e1, es, if_neg h, Int.add_zero, w32_i (by omega)]) M Fx_r
  refine ⟨M1, ?_, a1⟩
  refine call_of 5 [vA 57, vI part, vI s, vX 0, vX 0] (by decide) rfl (Nat.le_of_ble_eq_true rfl) rfl ?_ rfl
  rw [b_227_0]
  refine Eq.trans q1 ?_
  rw [b_227_5, a1 57 (by decide), hP, if_pos (by omega), b_227_51]
theorem p_7 {d0 : Nat} (hd : 4 ≤ d0) {M : MM} {R : RR} (hL : Lay R) {P Y t part s : Nat} (hX : XW M R P Y t) (hC : PP M P Y) (hpt : part < 3) (hs : s < 128) : ∃ M', call d0 7 [vA 13, vI part, vI s] M R = some (vI (sB (Ax M part) s P), M', R) ∧ Fx clsO M M' ∧ PP M' P Y := by
  obtain ⟨M', q, f⟩ := s_7 hd hL hX hpt hs
  exact ⟨M', q, Fx_s f (by decide), PP_f (Fx_s f (by decide)) (fun o ho => f o (by simp only [List.mem_cons, List.not_mem_nil, or_false] at ho ⊢; omega)) (by rw [f 35 (by decide)]) (by rw [f 35 (by decide)]) hC⟩
def v_wager (w : Nat → Nat → Int) (a1 a2 : Nat → Int) (P Y : Nat) (s part : Int) : Int := if 0 ≤ s ∧ s ≤ EV P then fr (sB a1 s.toNat P * (AL w Y s.toNat - UN w Y s.toNat) - sB a2 s.toNat P * AL w Y s.toNat) (AL w Y s.toNat) part else NO
theorem s_128 {d0 : Nat} (hd : 7 ≤ d0) {M : MM} {R : RR} (hL : Lay R) {P Y t : Nat} (hX : XW M R P Y t) (hC : CJ M P Y) (x y : Int) : ∃ M', call d0 128 [vA 1, vI x, vI y] M R = some (vJ (v_wager (Wd M) (Ax M 1) (Ax M 2) P Y x y), M', R) ∧ Fx clsO M M' ∧ CJ M' P Y := by
  obtain ⟨e, rfl⟩ := s_le hd
  obtain ⟨hP, hP7, hY, hY1, hY24, _⟩ := id hX
  have hev := EV_b hP7
  have start : ∀ v M', run (call (e + 6)) 128 0 [vA 1, vI x, vI y, vX 0, vX 0, vX 0, vX 0] [] M R = some (vJ v, M', R) → call (e + 7) 128 [vA 1, vI x, vI y] M R = some (vJ v, M', R) := fun v M' h => call_of 7 [vA 1, vI x, vI y, vX 0, vX 0, vX 0, vX 0] (by decide) rfl (Nat.le_of_ble_eq_true rfl) rfl h rfl
  unfold v_wager
  have ev : w32 (c_shl 1 (M 4 0) - 1) = ((EV P : Nat) : Int) := by rw [hP, c_ev (by omega)]
  by_cases h : 0 ≤ x ∧ x ≤ EV P
  · obtain ⟨s, rfl⟩ : ∃ k : Nat, x = (k : Int) := ⟨x.toNat, by omega⟩
    have hs : s < 2 ^ P := by omega
    obtain ⟨M1, q1, f1, p1⟩ := p_61 (d0 := e + 6) (by omega) hL hX hC
    have X1 := XW_f f1 hX
    obtain ⟨M2, q2, f2, p2⟩ := p_7 (d0 := e + 6) (by omega) hL X1 p1 (part := 1) (s := s) (by omega) (by omega)
    have X2 := XW_f f2 X1
    obtain ⟨M3, q3, f3, p3⟩ := p_7 (d0 := e + 6) (by omega) hL X2 p2 (part := 2) (s := s) (by omega) (by omega)
    have X3 := XW_f f3 X2
    have W1 := Wd_e (Wx_x f1)
    have W2 := (Wd_e (Wx_x f2)).trans W1
    have W3 := (Wd_e (Wx_x f3)).trans W2
    rw [Ax_x f1] at q2
    rw [Ax_x f2, Ax_x f1] at q3
    have e67 := s_67 (d0 := e + 6) (by omega) hL X2 p2.1 p2.2.2.1 hs
    have e64 := s_64 (d0 := e + 6) (by omega) hL hP7 p3.2.2.1 hs
    rw [W2] at e67
    rw [W3] at e64
    have r1 := AL_r hX hs
    have r2 : 0 ≤ UN (Wd M) Y s ∧ UN (Wd M) Y s ≤ AL (Wd M) Y s := Dl_ok hX hs 2 1 0
    have b1 := sB_r (f := Ax M 1) (s := s) (fun p => Ax_r M 1 p) P
    have b2 := sB_r (f := Ax M 2) (s := s) (fun p => Ax_r M 2 p) P
    have m1 : 0 ≤ sB (Ax M 1) s P * (AL (Wd M) Y s - UN (Wd M) Y s) ∧ sB (Ax M 1) s P * (AL (Wd M) Y s - UN (Wd M) Y s) ≤ 280 * 21936950640377856 := ⟨Int.mul_nonneg b1.1 (by omega), Int.mul_le_mul (by omega) (by omega) (by omega) (by omega)⟩
    have m2 : 0 ≤ sB (Ax M 2) s P * AL (Wd M) Y s ∧ sB (Ax M 2) s P * AL (Wd M) Y s ≤ 280 * 21936950640377856 := ⟨Int.mul_nonneg b2.1 (by omega), Int.mul_le_mul (by omega) (by omega) (by omega) (by omega)⟩
    refine ⟨M3, start _ _ ?_, Fx_t f1 (Fx_t f2 f3), p3.1⟩
    rw [if_pos h, b_128_0 hL, s_14 (by omega), bsI, b_128_8, ev, b2_t h, if_pos (by decide), b_128_15 hL, q1, bsX, b_128_22 hL]
    rw [show (1 : Int) = ((1 : Nat) : Int) from rfl, q2, bsI, b_128_31 hL, e67, bsJ, b_128_40 hL]
    rw [show (2 : Int) = ((2 : Nat) : Int) from rfl, q3, bsI, b_128_51 hL, e64, bsJ, b_128_60 hL, e64, bsJ, b_128_75, w64_i (x := sB (Ax M 1) s P * (AL (Wd M) Y s - UN (Wd M) Y s)) (by omega), w64_i (x := sB (Ax M 2) s P * AL (Wd M) Y s) (by omega), w64_i (by omega), p_158 (by omega) _ _ _ (by omega) (by omega), bsJ, b_128_79, Int.toNat_natCast]
  · refine ⟨M, start _ _ ?_, Fx_r, hC⟩
    rw [if_neg h, b_128_0 hL, s_14 (by omega), bsI, b_128_8, ev, b2_f h, if_neg (by decide), b_128_11]
    rfl
theorem s_229 {d0 : Nat} (hd : 7 ≤ d0) {M : MM} {R : RR} (hL : Lay R) {P Y t : Nat} (hX : XM M R P Y t) (x y : Int) : ∃ M', call d0 229 [vA 57, vI x, vI y] M R = some (vJ (v_wager (Wmd M) (Am M 1) (Am M 2) P Y x y), M', R) ∧ Fx modO M M' := by
  obtain ⟨e, rfl⟩ := s_le hd
  obtain ⟨hP, hP7, hY, hY1, hY24, _⟩ := id hX
  have hev := EV_b hP7
  have start : ∀ v M', run (call (e + 6)) 229 0 [vA 57, vI x, vI y] [] M R = some (vJ v, M', R) → call (e + 7) 229 [vA 57, vI x, vI y] M R = some (vJ v, M', R) := fun v M' h => call_of 3 [vA 57, vI x, vI y] (by decide) rfl (Nat.le_of_ble_eq_true rfl) rfl h rfl
  unfold v_wager
  have ev : w32 (c_shl 1 (M 57 2) - 1) = ((EV P : Nat) : Int) := by rw [hP, c_ev (by omega)]
  by_cases h : 0 ≤ x ∧ x ≤ EV P
  · rw [if_pos h]
    by_cases hy : 0 ≤ y ∧ y ≤ 1
    · obtain ⟨s, rfl⟩ : ∃ k : Nat, x = (k : Int) := ⟨x.toNat, by omega⟩
      have hs : s < 2 ^ P := by omega
      obtain ⟨M1, q1, f1, w1, y1, z1⟩ := r_199 (d0 := e + 6) (by omega) hL hX
      have F1 : Fx modO M M1 := Fx_s f1 (by decide)
      have X1 := XM_f F1 hX
      obtain ⟨M2, q2, f2⟩ := s_227 (d0 := e + 6) (by omega) hL X1 (part := 1) (s := s) (by omega) (by omega)
      have F2 : Fx modO M1 M2 := Fx_s f2 (by decide)
      have X2 := XM_f F2 X1
      obtain ⟨M3, q3, f3⟩ := s_227 (d0 := e + 6) (by omega) hL X2 (part := 2) (s := s) (by omega) (by omega)
      have F3 : Fx modO M2 M3 := Fx_s f3 (by decide)
      rw [Am_x F1] at q2
      rw [Am_x F2, Am_x F1] at q3
      have r1 := ALm_r hX hs
      have r2 : 0 ≤ UN (Wmd M) Y s ∧ UN (Wmd M) Y s ≤ AL (Wmd M) Y s := Dlm_ok hX hs 2 1 0
      have b1 := sB_r (f := Am M 1) (s := s) (fun p => Am_r M 1 p) P
      have b2 := sB_r (f := Am M 2) (s := s) (fun p => Am_r M 2 p) P
      have m1 : 0 ≤ sB (Am M 1) s P * (AL (Wmd M) Y s - UN (Wmd M) Y s) ∧ sB (Am M 1) s P * (AL (Wmd M) Y s - UN (Wmd M) Y s) ≤ 280 * 21936950640377856 := ⟨Int.mul_nonneg b1.1 (by omega), Int.mul_le_mul (by omega) (by omega) (by omega) (by omega)⟩
      have m2 : 0 ≤ sB (Am M 2) s P * AL (Wmd M) Y s ∧ sB (Am M 2) s P * AL (Wmd M) Y s ≤ 280 * 21936950640377856 := ⟨Int.mul_nonneg b2.1 (by omega), Int.mul_le_mul (by omega) (by omega) (by omega) (by omega)⟩
      refine ⟨M3, start _ _ ?_, Fx_t F1 (Fx_t F2 F3)⟩
      rw [b_229_0, s_206 (by omega), bsI, b_229_5, ev, b2_t h, if_neg (by decide), b_229_8, s_203 (by omega), bsI, b2_t hy, b_229_12, if_pos (by decide), b_229_19, q1, bsX, b_229_23]
      rw [show (1 : Int) = ((1 : Nat) : Int) from rfl, q2, bsI, b_229_29 hL, if_pos (by omega), if_pos (by omega)]
      rw [show (2 : Int) = ((2 : Nat) : Int) from rfl, q3, bsI, b_229_50 hL, if_pos (by omega), if_pos (by omega), Int.toNat_natCast, f3 76 (by decide), f2 76 (by decide), f2 77 (by decide), y1 s hs, z1 s hs, w64_i (x := AL (Wmd M) Y s - UN (Wmd M) Y s) (by omega), w64_i (x := sB (Am M 1) s P * (AL (Wmd M) Y s - UN (Wmd M) Y s)) (by omega), w64_i (x := sB (Am M 2) s P * AL (Wmd M) Y s) (by omega), w64_i (by omega), p_202 (by omega) _ _ _ (by omega) (by omega) (by omega), bsJ, b_229_69]
    · refine ⟨M, start _ _ ?_, Fx_r⟩
      rw [fr_no (by omega), b_229_0, s_206 (by omega), bsI, b_229_5, ev, b2_t h, if_neg (by decide), b_229_8, s_203 (by omega), bsI, b2_f hy, b_229_12, if_neg (by decide), b_229_15]
  · refine ⟨M, start _ _ ?_, Fx_r⟩
    rw [if_neg h, b_229_0, s_206 (by omega), bsI, b_229_5, ev, b2_f h, if_pos rfl, b_229_15]
    rfl
/-- the cheapest of the first sets (0: none), and what it costs -/
def cN (g : Nat → Bool) (pc : Nat → Int) : Nat → Nat × Int
  | 0 => (0, -1)
  | n + 1 => if g (n + 1) = true ∧ ((cN g pc n).1 = 0 ∨ pc (n + 1) < (cN g pc n).2) then (n + 1, pc (n + 1)) else cN g pc n
theorem cN_le (g : Nat → Bool) (pc : Nat → Int) : ∀ n, (cN g pc n).1 ≤ n
  | 0 => Nat.le_refl 0
  | n + 1 => by
    have := cN_le g pc n
    show (if g (n + 1) = true ∧ ((cN g pc n).1 = 0 ∨ pc (n + 1) < (cN g pc n).2) then (n + 1, pc (n + 1)) else cN g pc n).1 ≤ n + 1
    split
    · exact Nat.le_refl _
    · omega
def gcF (w : Nat → Nat → Int) (kd mo : Nat → Int) (P Y : Nat) (h : Int) (s : Nat) : Bool := decide (GD w kd mo P Y s ∧ AK w Y h s)
def cH (w : Nat → Nat → Int) (kd mo a2 : Nat → Int) (P Y : Nat) (h : Int) (n : Nat) : Nat × Int := cN (gcF w kd mo P Y h) (fun s => sB a2 s P) n
def v_cheap (w : Nat → Nat → Int) (kd mo a2 : Nat → Int) (P Y : Nat) (h what : Int) : Int := if (1 ≤ h ∧ h ≤ 100) ∧ 0 ≤ what ∧ what ≤ 1 then (if what = 0 then nb (cH w kd mo a2 P Y h (EV P)).1 else (cH w kd mo a2 P Y h (EV P)).2) else -2
theorem s_127 {d0 : Nat} (hd : 7 ≤ d0) {M : MM} {R : RR} (hL : Lay R) {P Y t : Nat} (hX : XW M R P Y t) (hC : CJ M P Y) (x y : Int) : ∃ M', call d0 127 [vA 1, vI x, vI y] M R = some (vI (v_cheap (Wd M) (M 5) (M 6) (Ax M 2) P Y x y), M', R) ∧ Fx clsO M M' ∧ CJ M' P Y := by
  obtain ⟨e, rfl⟩ := s_le hd
  obtain ⟨hP, hP7, hY, hY1, hY24, _⟩ := id hX
  have hev := EV_b hP7
  have start : ∀ v M', run (call (e + 6)) 127 0 [vA 1, vI x, vI y, vX 0, vX 0, vX 0, vX 0] [] M R = some (vI v, M', R) → call (e + 7) 127 [vA 1, vI x, vI y] M R = some (vI v, M', R) := fun v M' h => call_of 7 [vA 1, vI x, vI y, vX 0, vX 0, vX 0, vX 0] (by decide) rfl (Nat.le_of_ble_eq_true rfl) rfl h rfl
  unfold v_cheap
  by_cases h : (1 ≤ x ∧ x ≤ 100) ∧ 0 ≤ y ∧ y ≤ 1
  · obtain ⟨M1, q1, f1, p1⟩ := p_61 (d0 := e + 6) (by omega) hL hX hC
    have X1 := XW_f f1 hX
    obtain ⟨⟨u, M2⟩, ⟨a1, a2⟩, q2⟩ := loop_nat (fun n (a : AV × MM) => run (call (e + 6)) 127 34 [vA 1, vI x, vI y, vI (nb (cH (Wd M) (M 5) (M 6) (Ax M 2) P Y x n).1), vI (cH (Wd M) (M 5) (M 6) (Ax M 2) P Y x n).2, vI ((n + 1 : Nat) : Int), a.1] [] a.2 R) (fun _ a => Fx clsO M a.2 ∧ PP a.2 P Y) (EV P) (by
      rintro n ⟨u, M2⟩ hn ⟨a1, a2⟩
      dsimp only at a1 a2
      have X2 := XW_f a1 hX
      have W2 := Wd_e (Wx_x a1)
      have e1 : w32 (((n + 1 : Nat) : Int) + 1) = ((n + 1 + 1 : Nat) : Int) := by rw [w32_i (by omega)]; omega
      have hs : n + 1 < 2 ^ P := by omega
      have eh : cH (Wd M) (M 5) (M 6) (Ax M 2) P Y x (n + 1) = if gcF (Wd M) (M 5) (M 6) P Y x (n + 1) = true ∧ ((cH (Wd M) (M 5) (M 6) (Ax M 2) P Y x n).1 = 0 ∨ sB (Ax M 2) (n + 1) P < (cH (Wd M) (M 5) (M 6) (Ax M 2) P Y x n).2) then (n + 1, sB (Ax M 2) (n + 1) P) else cH (Wd M) (M 5) (M 6) (Ax M 2) P Y x n := rfl
      generalize cH (Wd M) (M 5) (M 6) (Ax M 2) P Y x n = c at *
      have nbn : nb (n + 1) = ((n + 1 : Nat) : Int) := if_neg (by omega)
      have e126 := s_126 (d0 := e + 6) (by omega) hL X2 a2.2.2.1 hs
      have e120 := s_120 (d0 := e + 6) (by omega) hL X2 a2 hs h.1
      rw [W2, a1 5 (by decide), a1 6 (by decide)] at e126
      rw [W2] at e120
      have keep : ∀ (v : AV) (N : MM), run (call (e + 6)) 127 98 [vA 1, vI x, vI y, vI (nb c.1), vI c.2, vI ((n + 1 : Nat) : Int), v] [] N R = run (call (e + 6)) 127 34 [vA 1, vI x, vI y, vI (nb c.1), vI c.2, vI ((n + 1 + 1 : Nat) : Int), v] [] N R := by
        intro v N
        rw [b_127_98, e1]
      show ∃ a' : AV × MM, (Fx clsO M a'.2 ∧ PP a'.2 P Y) ∧ run (call (e + 6)) 127 34 [vA 1, vI x, vI y, vI (nb c.1), vI c.2, vI ((n + 1 : Nat) : Int), u] [] M2 R = run (call (e + 6)) 127 34 [vA 1, vI x, vI y, vI (nb (cH (Wd M) (M 5) (M 6) (Ax M 2) P Y x (n + 1)).1), vI (cH (Wd M) (M 5) (M 6) (Ax M 2) P Y x (n + 1)).2, vI ((n + 1 + 1 : Nat) : Int), a'.1] [] a'.2 R
      rw [eh, b_127_34 hL, s_13 (by omega), bsI, X2.1, c_ev (by omega), b_127_43, if_neg (by omega), b_127_46, e126, bsI, b_127_52]
      by_cases g1 : GD (Wd M) (M 5) (M 6) P Y (n + 1)
      · rw [b2_t g1, if_neg (by decide), b_127_55, e120, bsI, b_127_62]
        by_cases g2 : AK (Wd M) Y x (n + 1)
        · have gt : gcF (Wd M) (M 5) (M 6) P Y x (n + 1) = true := decide_eq_true ⟨g1, g2⟩
          obtain ⟨M3, q3, f3, p3⟩ := p_7 (d0 := e + 6) (by omega) hL X2 a2 (part := 2) (s := n + 1) (by omega) (by omega)
          rw [Ax_x a1] at q3
          rw [b2_t g2, if_pos (by decide), b_127_68 hL]
          rw [show (2 : Int) = ((2 : Nat) : Int) from rfl, q3, bsI, b_127_78]
          have take : run (call (e + 6)) 127 91 [vA 1, vI x, vI y, vI (nb c.1), vI c.2, vI ((n + 1 : Nat) : Int), vI (sB (Ax M 2) (n + 1) P)] [] M3 R = run (call (e + 6)) 127 34 [vA 1, vI x, vI y, vI (nb (n + 1)), vI (sB (Ax M 2) (n + 1) P), vI ((n + 1 + 1 : Nat) : Int), vI (sB (Ax M 2) (n + 1) P)] [] M3 R := by
            rw [b_127_91, b_127_98, e1, nbn]
          by_cases g3 : c.1 = 0
          · rw [if_pos (by unfold nb; rw [if_pos g3]; decide), take, if_pos ⟨gt, .inl g3⟩]
            exact ⟨(_, M3), ⟨Fx_t a1 f3, p3⟩, rfl⟩
          · have eb : nb c.1 = (c.1 : Int) := if_neg g3
            rw [if_neg (by rw [eb]; omega), b_127_84]
            by_cases g4 : sB (Ax M 2) (n + 1) P < c.2
            · rw [if_neg (by omega), take, if_pos ⟨gt, .inr g4⟩]
              exact ⟨(_, M3), ⟨Fx_t a1 f3, p3⟩, rfl⟩
            · rw [if_pos (by omega), keep, if_neg (fun q => q.2.elim g3 g4)]
              exact ⟨(_, M3), ⟨Fx_t a1 f3, p3⟩, rfl⟩
        · rw [b2_f g2, if_neg (by decide), b_127_65, keep, if_neg (fun q => g2 (of_decide_eq_true q.1).2)]
          exact ⟨(_, M2), ⟨a1, a2⟩, rfl⟩
      · rw [b2_f g1, if_pos rfl, keep, if_neg (fun q => g1 (of_decide_eq_true q.1).1)]
        exact ⟨(_, M2), ⟨a1, a2⟩, rfl⟩) (vX 0, M1) ⟨f1, p1⟩
    dsimp only at a1 a2 q2
    have h0 : cH (Wd M) (M 5) (M 6) (Ax M 2) P Y x 0 = (0, -1) := rfl
    rw [h0] at q2
    generalize cH (Wd M) (M 5) (M 6) (Ax M 2) P Y x (EV P) = c at *
    refine ⟨M2, start _ _ ?_, a1, a2.1⟩
    rw [if_pos h, b_127_0, s_119 (by omega), bsI, b_127_4, b2_t h.1, if_neg (by decide), b_127_7, if_neg (by omega), b_127_11, if_pos (by omega), b_127_19 hL, q1, bsX, b_127_26]
    refine Eq.trans q2 ?_
    rw [b_127_34 hL, s_13 (by omega), bsI, (XW_f a1 hX).1, c_ev (by omega), b_127_43, if_pos (by omega), b_127_104]
    by_cases g : y = 0
    · rw [if_neg (fun q => q g), b_127_108, b_127_114, if_pos g]
    · rw [if_pos g, b_127_112, b_127_114, if_neg g]
  · refine ⟨M, start _ _ ?_, Fx_r, hC⟩
    rw [if_neg h, b_127_0, s_119 (by omega), bsI, b_127_4]
    by_cases h1 : 1 ≤ x ∧ x ≤ 100
    · rw [b2_t h1, if_neg (by decide), b_127_7]
      by_cases h2 : y < 0
      · rw [if_pos h2, b_127_16]
      · rw [if_neg h2, b_127_11, if_neg (by omega), b_127_16]
    · rw [b2_f h1, if_pos rfl, b_127_16]
theorem s_228 {d0 : Nat} (hd : 7 ≤ d0) {M : MM} {R : RR} (hL : Lay R) {P Y t : Nat} (hX : XM M R P Y t) (x y : Int) : ∃ M', call d0 228 [vA 57, vI x, vI y] M R = some (vI (v_cheap (Wmd M) (M 59) (M 60) (Am M 2) P Y x y), M', R) ∧ Fx modO M M' := by
  obtain ⟨e, rfl⟩ := s_le hd
  obtain ⟨hP, hP7, hY, hY1, hY24, _⟩ := id hX
  have hev := EV_b hP7
  have start : ∀ v M', run (call (e + 6)) 228 0 [vA 57, vI x, vI y, vX 0, vX 0, vX 0, vX 0, vX 0, vX 0] [] M R = some (vI v, M', R) → call (e + 7) 228 [vA 57, vI x, vI y] M R = some (vI v, M', R) := fun v M' h => call_of 9 [vA 57, vI x, vI y, vX 0, vX 0, vX 0, vX 0, vX 0, vX 0] (by decide) rfl (Nat.le_of_ble_eq_true rfl) rfl h rfl
  unfold v_cheap
  by_cases h1 : 1 ≤ x ∧ x ≤ 100
  · by_cases h2 : 0 ≤ y ∧ y ≤ 1
    · obtain ⟨M1, q1, f1, w1, y1, z1⟩ := r_199 (d0 := e + 6) (by omega) hL hX
      have F1 : Fx modO M M1 := Fx_s f1 (by decide)
      obtain ⟨⟨⟨u6, u7, u8⟩, M2⟩, a1, q2⟩ := loop_nat (fun n (a : (AV × AV × AV) × MM) => run (call (e + 6)) 228 34 [vA 57, vI x, vI y, vI (nb (cH (Wmd M) (M 59) (M 60) (Am M 2) P Y x n).1), vI (cH (Wmd M) (M 59) (M 60) (Am M 2) P Y x n).2, vI ((n + 1 : Nat) : Int), a.1.1, a.1.2.1, a.1.2.2] [] a.2 R) (fun _ a => Fx [72, 73] M1 a.2) (EV P) (by
        rintro n ⟨⟨u6, u7, u8⟩, M2⟩ hn a1
        dsimp only at a1
        have F2 : Fx modO M M2 := Fx_t F1 (Fx_s a1 (by decide))
        have X2 := XM_f F2 hX
        have e1 : w32 (((n + 1 : Nat) : Int) + 1) = ((n + 1 + 1 : Nat) : Int) := by rw [w32_i (by omega)]; omega
        have hs : n + 1 < 2 ^ P := by omega
        have eh : cH (Wmd M) (M 59) (M 60) (Am M 2) P Y x (n + 1) = if gcF (Wmd M) (M 59) (M 60) P Y x (n + 1) = true ∧ ((cH (Wmd M) (M 59) (M 60) (Am M 2) P Y x n).1 = 0 ∨ sB (Am M 2) (n + 1) P < (cH (Wmd M) (M 59) (M 60) (Am M 2) P Y x n).2) then (n + 1, sB (Am M 2) (n + 1) P) else cH (Wmd M) (M 59) (M 60) (Am M 2) P Y x n := rfl
        generalize cH (Wmd M) (M 59) (M 60) (Am M 2) P Y x n = c at *
        have nbn : nb (n + 1) = ((n + 1 : Nat) : Int) := if_neg (by omega)
        have g76 : M2 76 (n + 1) = AL (Wmd M) Y (n + 1) := by rw [a1 76 (by decide)]; exact y1 _ hs
        have g77 : M2 77 (n + 1) = UN (Wmd M) Y (n + 1) := by rw [a1 77 (by decide)]; exact z1 _ hs
        have e225 := s_225 (d0 := e + 6) (by omega) hL (M := M2) (w := Wmd M) (Y := Y) X2.1 hP7 g76 (by omega)
        rw [F2 59 (by decide), F2 60 (by decide)] at e225
        have r1 := ALm_r hX hs
        have r2 : 0 ≤ UN (Wmd M) Y (n + 1) ∧ UN (Wmd M) Y (n + 1) ≤ AL (Wmd M) Y (n + 1) := Dlm_ok hX hs 2 1 0
        have r3 : 0 ≤ x * AL (Wmd M) Y (n + 1) ∧ x * AL (Wmd M) Y (n + 1) ≤ 100 * 21936950640377856 := ⟨Int.mul_nonneg (by omega) r1.1, Int.mul_le_mul h1.2 r1.2 r1.1 (by omega)⟩
        -- what follows a set that is not taken, and one that is
        have keep : ∀ (i6 i7 : Int) (v8 : AV) (N : MM), run (call (e + 6)) 228 131 [vA 57, vI x, vI y, vI (nb c.1), vI c.2, vI ((n + 1 : Nat) : Int), vI i6, vI i7, v8] [] N R = run (call (e + 6)) 228 34 [vA 57, vI x, vI y, vI (nb c.1), vI c.2, vI ((n + 1 + 1 : Nat) : Int), vI i6, vI i7, vI 0] [] N R := by
          intro i6 i7 v8 N
          rw [b_228_131, b_228_132, if_pos rfl, b_228_144, b_228_145, if_pos rfl, b_228_156, b_228_158, e1]
        have take : ∀ (i6 i7 : Int) (v8 : AV) (N : MM), run (call (e + 6)) 228 127 [vA 57, vI x, vI y, vI (nb c.1), vI c.2, vI ((n + 1 : Nat) : Int), vI i6, vI i7, v8] [] N R = run (call (e + 6)) 228 34 [vA 57, vI x, vI y, vI (nb (n + 1)), vI i7, vI ((n + 1 + 1 : Nat) : Int), vI i6, vI i7, vI 1] [] N R := by
          intro i6 i7 v8 N
          rw [b_228_127, b_228_132, if_neg (by decide), b_228_139, b_228_145, if_neg (by decide), b_228_151, b_228_158, e1, nbn]
        have no : ∀ (v6 v7 v8 : AV) (N : MM), run (call (e + 6)) 228 89 [vA 57, vI x, vI y, vI (nb c.1), vI c.2, vI ((n + 1 : Nat) : Int), v6, v7, v8] [] N R = run (call (e + 6)) 228 34 [vA 57, vI x, vI y, vI (nb c.1), vI c.2, vI ((n + 1 + 1 : Nat) : Int), vI 0, vI 0, vI 0] [] N R := by
          intro v6 v7 v8 N
          rw [b_228_89, b_228_90, if_pos rfl, b_228_107, b_228_108, if_pos rfl]
          exact keep 0 0 v8 N
        show ∃ a' : (AV × AV × AV) × MM, Fx [72, 73] M1 a'.2 ∧ run (call (e + 6)) 228 34 [vA 57, vI x, vI y, vI (nb c.1), vI c.2, vI ((n + 1 : Nat) : Int), u6, u7, u8] [] M2 R = run (call (e + 6)) 228 34 [vA 57, vI x, vI y, vI (nb (cH (Wmd M) (M 59) (M 60) (Am M 2) P Y x (n + 1)).1), vI (cH (Wmd M) (M 59) (M 60) (Am M 2) P Y x (n + 1)).2, vI ((n + 1 + 1 : Nat) : Int), a'.1.1, a'.1.2.1, a'.1.2.2] [] a'.2 R
        rw [eh, b_228_34, s_166 (by omega), bsI, X2.1, c_ev (by omega), b_228_40, if_neg (by omega), b_228_43, e225, bsI, b_228_49]
        by_cases g1 : GD (Wmd M) (M 59) (M 60) P Y (n + 1)
        · rw [b2_t g1, if_neg (by decide), b_228_52 hL, if_pos (by omega), if_pos (by omega), if_pos (by omega), Int.toNat_natCast, g76, g77, w64_i (x := AL (Wmd M) Y (n + 1) - UN (Wmd M) Y (n + 1)) (by omega), w64_i (by omega), w64_i (by omega)]
          simp only [lc_l0]
          by_cases g2 : x * AL (Wmd M) Y (n + 1) ≤ (AL (Wmd M) Y (n + 1) - UN (Wmd M) Y (n + 1)) * 100
          · have gt : gcF (Wmd M) (M 59) (M 60) P Y x (n + 1) = true := decide_eq_true ⟨g1, g1.2, g2⟩
            obtain ⟨M3, q3, f3⟩ := s_227 (d0 := e + 6) (by omega) hL X2 (part := 2) (s := n + 1) (by omega) (by omega)
            rw [Am_x F2] at q3
            rw [if_neg (by omega), b_228_85, b_228_90, if_neg (by decide), b_228_97]
            rw [show (2 : Int) = ((2 : Nat) : Int) from rfl, q3, bsI, b_228_104, b_228_108, if_neg (by decide), b_228_115]
            by_cases g3 : c.1 = 0
            · rw [if_pos (by unfold nb; rw [if_pos g3]), take, if_pos ⟨gt, .inl g3⟩]
              exact ⟨((_, _, _), M3), Fx_t a1 f3, rfl⟩
            · have eb : nb c.1 = (c.1 : Int) := if_neg g3
              rw [if_neg (by rw [eb]; omega), b_228_120]
              by_cases g4 : sB (Am M 2) (n + 1) P < c.2
              · rw [if_neg (by omega), take, if_pos ⟨gt, .inr g4⟩]
                exact ⟨((_, _, _), M3), Fx_t a1 f3, rfl⟩
              · rw [if_pos (by omega), keep, if_neg (fun q => q.2.elim g3 g4)]
                exact ⟨((_, _, _), M3), Fx_t a1 f3, rfl⟩
          · rw [if_pos (by omega), no, if_neg (fun q => g2 (of_decide_eq_true q.1).2.2)]
            exact ⟨((_, _, _), M2), a1, rfl⟩
        · rw [b2_f g1, if_pos rfl, no, if_neg (fun q => g1 (of_decide_eq_true q.1).1)]
          exact ⟨((_, _, _), M2), a1, rfl⟩) ((vX 0, vX 0, vX 0), M1) Fx_r
      dsimp only at a1 q2
      have F2 : Fx modO M M2 := Fx_t F1 (Fx_s a1 (by decide))
      have h0 : cH (Wmd M) (M 59) (M 60) (Am M 2) P Y x 0 = (0, -1) := rfl
      rw [h0] at q2
      generalize cH (Wmd M) (M 59) (M 60) (Am M 2) P Y x (EV P) = c at *
      refine ⟨M2, start _ _ ?_, F2⟩
      rw [if_pos ⟨h1, h2⟩, b_228_0, s_162 (by omega), bsI, b_228_7, b2_t h1, if_neg (by decide), b_228_10, s_162 (by omega), bsI, b_228_16, b2_t h2, if_pos (by decide), b_228_22, q1, bsX, b_228_26]
      refine Eq.trans q2 ?_
      rw [b_228_34, s_166 (by omega), bsI, (XM_f F2 hX).1, c_ev (by omega), b_228_40, if_pos (by omega), b_228_166]
      by_cases g : y = 0
      · rw [if_neg (fun q => q g), b_228_170, b_228_176, if_pos g]
      · rw [if_pos g, b_228_174, b_228_176, if_neg g]
    · refine ⟨M, start _ _ ?_, Fx_r⟩
      rw [if_neg (fun q => h2 q.2), b_228_0, s_162 (by omega), bsI, b_228_7, b2_t h1, if_neg (by decide), b_228_10, s_162 (by omega), bsI, b_228_16, b2_f h2, if_neg (by decide), b_228_19]
  · refine ⟨M, start _ _ ?_, Fx_r⟩
    rw [if_neg (fun q => h1 q.1), b_228_0, s_162 (by omega), bsI, b_228_7, b2_f h1, if_pos rfl, b_228_19]
end
