section
/-! ===== one by one: first, needs, place, asked ===== -/
theorem hi_ok : ∀ q : Fin 7, ∀ s : Fin 64, (s : Nat) < 2 ^ (q : Nat) → bl ((s : Nat) + 2 ^ (q : Nat)) = bl (s : Nat) ++ [(q : Nat)] ∧ (s : Nat) + 2 ^ (q : Nat) < 128 ∧ ((s : Nat) + 2 ^ (q : Nat)) ^^^ 2 ^ (q : Nat) = (s : Nat) := by decide +kernel
theorem hi_ok2 : ∀ q : Fin 7, ∀ s : Fin 64, (s : Nat) < 2 ^ (q : Nat) → ∀ i ∈ bl (s : Nat), i < (q : Nat) ∧ ((s : Nat) + 2 ^ (q : Nat)) ^^^ 2 ^ i = ((s : Nat) ^^^ 2 ^ i) + 2 ^ (q : Nat) ∧ (s : Nat) ^^^ 2 ^ i < 2 ^ (q : Nat) := by decide +kernel
theorem su_mm {α : Type} {f g : α → Int} : ∀ l : List α, (∀ a, a ∈ l → f a ≤ g a) → su f l ≤ su g l
  | [], _ => Int.le_refl 0
  | a :: l, h => by
    have h1 := h a (List.mem_cons_self ..)
    have h2 := su_mm l (fun b hb => h b (List.mem_cons_of_mem _ hb))
    show f a + su f l ≤ g a + su g l
    omega
theorem su_nn {α : Type} {f : α → Int} : ∀ l : List α, (∀ a, a ∈ l → 0 ≤ f a) → 0 ≤ su f l
  | [], _ => Int.le_refl 0
  | a :: l, h => by
    have h1 := h a (List.mem_cons_self ..)
    have h2 := su_nn l (fun b hb => h b (List.mem_cons_of_mem _ hb))
    show 0 ≤ f a + su f l
    omega
theorem UN_hi {w : Nat → Nat → Int} {q : Nat} (hq : q < 7) (hw : ∀ d p, p ≤ q → 0 ≤ w d p) : ∀ D s, s < 2 ^ q → UN w D (s + 2 ^ q) ≤ UN w D s * sm (fun d => w d q) D
  | 0, s, hs => by
    have h64 : 2 ^ q ≤ 2 ^ 6 := Nat.pow_le_pow_right (by omega) (by omega)
    have h0 := Nat.two_pow_pos q
    have k := hi_ok ⟨q, hq⟩ ⟨s, by omega⟩ hs
    dsimp only at k
    show Dl _ 0 (bl (s + 2 ^ q)) 0 ≤ _ * 0
    rw [Int.mul_zero, Dl_0 k.2.1, if_neg (by omega)]
    exact Int.le_refl 0
  | D + 1, s, hs => by
    have h64 : 2 ^ q ≤ 2 ^ 6 := Nat.pow_le_pow_right (by omega) (by omega)
    have h0 := Nat.two_pow_pos q
    have k := hi_ok ⟨q, hq⟩ ⟨s, by omega⟩ hs
    have k2 := hi_ok2 ⟨q, hq⟩ ⟨s, by omega⟩ hs
    dsimp only at k k2
    have nn : ∀ r, r < 2 ^ q → 0 ≤ UN w D r := fun r hr => (Dl_r D (bl r) 0 (fun d p _ hp => hw d p (by have := bl_lt hr hp; omega))).1
    have tn : 0 ≤ sm (fun d => w d q) D := sm_nn D (fun d _ => hw d q (Nat.le_refl q))
    have e1 : UN w (D + 1) (s + 2 ^ q) = UN w D (s + 2 ^ q) + (su (fun p => UN w D ((s + 2 ^ q) ^^^ 2 ^ p) * w D p) (bl s) + UN w D s * w D q) := by
      have e0 : su (fun p => UN w D ((s + 2 ^ q) ^^^ 2 ^ p) * w D p) (bl (s + 2 ^ q)) = su (fun p => UN w D ((s + 2 ^ q) ^^^ 2 ^ p) * w D p) (bl s) + UN w D s * w D q := by
        rw [k.1, su_app]
        congr 1
        show UN w D ((s + 2 ^ q) ^^^ 2 ^ q) * w D q + 0 = _
        rw [k.2.2, Int.add_zero]
      rw [← e0]
      exact Dl_1 k.2.1
    have e2 : UN w (D + 1) s = UN w D s + su (fun p => UN w D (s ^^^ 2 ^ p) * w D p) (bl s) := Dl_1 (by omega)
    have i1 := UN_hi hq hw D s hs
    have i2 : su (fun p => UN w D ((s + 2 ^ q) ^^^ 2 ^ p) * w D p) (bl s) ≤ sm (fun d => w d q) D * su (fun p => UN w D (s ^^^ 2 ^ p) * w D p) (bl s) := by
      rw [← su_k]
      refine su_mm _ (fun p hp => ?_)
      obtain ⟨k3, k4, k5⟩ := k2 p hp
      rw [k4, ← Int.mul_assoc, Int.mul_comm (sm _ D)]
      exact Int.mul_le_mul_of_nonneg_right (UN_hi hq hw D _ k5) (hw D p (by omega))
    have i3 : 0 ≤ su (fun p => UN w D (s ^^^ 2 ^ p) * w D p) (bl s) := su_nn _ (fun p hp => Int.mul_nonneg (nn _ (k2 p hp).2.2) (hw D p (by have := (k2 p hp).1; omega)))
    have i4 := Int.mul_nonneg i3 (hw D q (Nat.le_refl q))
    rw [e1, e2]
    show _ ≤ (UN w D s + _) * (sm (fun d => w d q) D + w D q)
    rw [Int.add_mul, Int.mul_add, Int.mul_add, Int.mul_comm (su _ _) (sm _ D)]
    omega
/-- two first meet when one is asked -/
def FM (w : Nat → Nat → Int) (Y p : Nat) : Int := UN w Y (EV p) * sm (fun d => w d p) Y - UN w Y (EV (p + 1))
theorem EV_s (p : Nat) : EV (p + 1) = EV p + 2 ^ p := by
  have := Nat.two_pow_pos p
  show 2 ^ p * 2 - 1 = 2 ^ p - 1 + 2 ^ p
  omega
theorem AL_s {w : Nat → Nat → Int} {Y p : Nat} (hp : p < 7) : AL w Y (EV (p + 1)) = AL w Y (EV p) * sm (fun d => w d p) Y := by
  rw [AL_pn (by omega), AL_pn (by omega)]
  rfl
theorem EV_le {p P : Nat} (h : p ≤ P) : EV p < 2 ^ P := by
  have := Nat.pow_le_pow_right (n := 2) (by omega) h
  have := EV_lt p
  omega
theorem FM_r {M : MM} {R : RR} {P Y t p : Nat} (hX : XW M R P Y t) (hp : p < P) : 0 ≤ FM (Wd M) Y p ∧ FM (Wd M) Y p ≤ AL (Wd M) Y (EV (p + 1)) ∧ 0 ≤ UN (Wd M) Y (EV p) * sm (fun d => Wd M d p) Y ∧ UN (Wd M) Y (EV p) * sm (fun d => Wd M d p) Y ≤ AL (Wd M) Y (EV (p + 1)) := by
  have hP7 := hX.2.1
  have h1 := UN_hi (w := Wd M) (q := p) (by omega) (fun d i hi => (Wx_r hX (by omega)).1) Y (EV p) (EV_lt p)
  rw [← EV_s] at h1
  have h2 : 0 ≤ UN (Wd M) Y (EV p) ∧ UN (Wd M) Y (EV p) ≤ AL (Wd M) Y (EV p) := Dl_ok hX (EV_le (by omega)) 2 1 0
  have h3 : 0 ≤ UN (Wd M) Y (EV (p + 1)) ∧ UN (Wd M) Y (EV (p + 1)) ≤ AL (Wd M) Y (EV (p + 1)) := Dl_ok hX (EV_le (by omega)) 2 1 0
  have h4 := tot_r hX hp
  have h5 := Int.mul_le_mul_of_nonneg_right h2.2 h4.1
  have h6 := Int.mul_nonneg h2.1 h4.1
  rw [← AL_s (by omega)] at h5
  unfold FM
  omega
theorem FMm_r {M : MM} {R : RR} {P Y t p : Nat} (hX : XM M R P Y t) (hp : p < P) : 0 ≤ FM (Wmd M) Y p ∧ FM (Wmd M) Y p ≤ AL (Wmd M) Y (EV (p + 1)) ∧ 0 ≤ UN (Wmd M) Y (EV p) * sm (fun d => Wmd M d p) Y ∧ UN (Wmd M) Y (EV p) * sm (fun d => Wmd M d p) Y ≤ AL (Wmd M) Y (EV (p + 1)) := by
  have hP7 := hX.2.1
  have h1 := UN_hi (w := Wmd M) (q := p) (by omega) (fun d i hi => (Wm_r hX (by omega)).1) Y (EV p) (EV_lt p)
  rw [← EV_s] at h1
  have h2 : 0 ≤ UN (Wmd M) Y (EV p) ∧ UN (Wmd M) Y (EV p) ≤ AL (Wmd M) Y (EV p) := Dlm_ok hX (EV_le (by omega)) 2 1 0
  have h3 : 0 ≤ UN (Wmd M) Y (EV (p + 1)) ∧ UN (Wmd M) Y (EV (p + 1)) ≤ AL (Wmd M) Y (EV (p + 1)) := Dlm_ok hX (EV_le (by omega)) 2 1 0
  have h4 := totm_r hX hp
  have h5 := Int.mul_le_mul_of_nonneg_right h2.2 h4.1
  have h6 := Int.mul_nonneg h2.1 h4.1
  rw [← AL_s (by omega)] at h5
  unfold FM
  omega
theorem c_ev1 {p : Nat} (hp : p < 30) : w32 (c_shl 1 ((p : Int) + 1) - 1) = ((EV (p + 1) : Nat) : Int) := by
  rw [show (p : Int) + 1 = ((p + 1 : Nat) : Int) by omega]
  exact c_ev (by omega)
theorem s_76 {d0 : Nat} (hd : 3 ≤ d0) {M : MM} {R : RR} (hL : Lay R) {P Y t p : Nat} (hX : XW M R P Y t) (hC : PP M P Y) (hp : p < P) : call d0 76 [vA 27, vI p] M R = some (vJ (FM (Wd M) Y p), M, R) := by
  obtain ⟨e, rfl⟩ := s_le hd
  obtain ⟨hP, hP7, hY, hY1, hY24, _⟩ := id hX
  have h1 := FM_r hX hp
  have h2 := AL_r hX (EV_le (p := p + 1) (by omega))
  have e1 : w32 ((p : Int) + 1) = (p : Int) + 1 := by rw [w32_i (by omega)]
  have g : M 24 p = sm (fun d => Wd M d p) Y := (hC.2.1 p hp).2.2
  refine call_of 2 [vA 27, vI p] (by decide) rfl (Nat.le_of_ble_eq_true rfl) rfl ?_ rfl
  rw [b_76_0, s_12 (by omega), bsI, c_ev (by omega), b_76_5, s_66 (by omega) hL hX hC.1 hC.2.2.1 (EV_le (by omega)), bsJ, b_76_8 hL, s_82 (by omega) hL (by omega) (by omega), bsI, b_76_16, e1, s_12 (by omega), bsI, c_ev1 (by omega), b_76_25, s_66 (by omega) hL hX hC.1 hC.2.2.1 (EV_le (by omega)), bsJ, b_76_28, g, w64_i (x := UN (Wd M) Y (EV p) * sm (fun d => Wd M d p) Y) (by omega), show UN (Wd M) Y (EV p) * sm (fun d => Wd M d p) Y - UN (Wd M) Y (EV (p + 1)) = FM (Wd M) Y p from rfl, w64_i (by omega)]
theorem s_220 {d0 : Nat} (hd : 2 ≤ d0) {M M0 : MM} {R : RR} (hL : Lay R) {P Y t p : Nat} (hX : XM M0 R P Y t) (hF : RW M0 M P Y) (hU : ∀ s, s < 2 ^ P → M 77 s = UN (Wmd M0) Y s) (hp : p < P) : call d0 220 [vA 57, vI p] M R = some (vJ (FM (Wmd M0) Y p), M, R) := by
  obtain ⟨e, rfl⟩ := s_le hd
  obtain ⟨hP, hP7, hY, hY1, hY24, _⟩ := id hX
  have h1 := FMm_r hX hp
  have h2 := ALm_r hX (EV_le (p := p + 1) (by omega))
  have e1 : w32 ((p : Int) + 1) = (p : Int) + 1 := by rw [w32_i (by omega)]
  have g : M 75 p = sm (fun d => Wmd M0 d p) Y := (hF p hp).2
  have b1 := EV_b (P := p) (by omega)
  have b2 := EV_b (P := p + 1) (by omega)
  refine call_of 2 [vA 57, vI p] (by decide) rfl (Nat.le_of_ble_eq_true rfl) rfl ?_ rfl
  rw [b_220_0 hL, s_218 (by omega), bsI, c_ev (by omega), b_220_8 hL, if_pos (by omega), if_pos (by omega), e1, s_218 (by omega), bsI, c_ev1 (by omega), b_220_26 hL, if_pos (by omega), Int.toNat_natCast, Int.toNat_natCast, Int.toNat_natCast, hU _ (EV_le (by omega)), hU _ (EV_le (by omega)), g, w64_i (x := UN (Wmd M0) Y (EV p) * sm (fun d => Wmd M0 d p) Y) (by omega), show UN (Wmd M0) Y (EV p) * sm (fun d => Wmd M0 d p) Y - UN (Wmd M0) Y (EV (p + 1)) = FM (Wmd M0) Y p from rfl, w64_i (by omega)]
def v_first (w : Nat → Nat → Int) (P Y : Nat) (p part : Int) : Int := if 0 ≤ p ∧ p < P then fr (FM w Y p.toNat) (AL w Y (EV (p.toNat + 1))) part else NO
theorem s_121 {d0 : Nat} (hd : 7 ≤ d0) {M : MM} {R : RR} (hL : Lay R) {P Y t : Nat} (hX : XW M R P Y t) (hC : CJ M P Y) (x y : Int) : ∃ M', call d0 121 [vA 1, vI x, vI y] M R = some (vJ (v_first (Wd M) P Y x y), M', R) ∧ Fx clsO M M' ∧ CJ M' P Y := by
  obtain ⟨e, rfl⟩ := s_le hd
  obtain ⟨hP, hP7, hY, hY1, hY24, _⟩ := id hX
  have start : ∀ v M', run (call (e + 6)) 121 0 [vA 1, vI x, vI y] [] M R = some (vJ v, M', R) → call (e + 7) 121 [vA 1, vI x, vI y] M R = some (vJ v, M', R) := fun v M' h => call_of 3 [vA 1, vI x, vI y] (by decide) rfl (Nat.le_of_ble_eq_true rfl) rfl h rfl
  unfold v_first
  by_cases h : 0 ≤ x ∧ x < P
  · obtain ⟨p, rfl⟩ : ∃ k : Nat, x = (k : Int) := ⟨x.toNat, by omega⟩
    obtain ⟨M1, q1, f1, p1⟩ := p_61 (d0 := e + 6) (by omega) hL hX hC
    have X1 := XW_f f1 hX
    have W1 := Wd_e (Wx_x f1)
    have q2 := s_76 (d0 := e + 6) (by omega) hL X1 p1 (p := p) (by omega)
    have e64 := s_64 (d0 := e + 6) (by omega) hL hP7 p1.2.2.1 (EV_le (p := p + 1) (by omega))
    rw [W1] at q2 e64
    have r1 := AL_r hX (EV_le (p := p + 1) (by omega))
    have r2 := FM_r hX (p := p) (by omega)
    have e1 : w32 ((p : Int) + 1) = (p : Int) + 1 := by rw [w32_i (by omega)]
    refine ⟨M1, start _ _ ?_, f1, p1.1⟩
    rw [if_pos h, b_121_0 hL, s_9 (by omega), bsI, b_121_8, hP, b2_t h, if_pos (by decide), b_121_15 hL, q1, bsX, b_121_22 hL, q2, bsJ, b_121_30 hL, e1, s_12 (by omega), bsI, c_ev1 (by omega), b_121_40, e64, bsJ, b_121_43, p_158 (by omega) _ _ _ (by omega) (by omega), bsJ, b_121_47, Int.toNat_natCast]
  · refine ⟨M, start _ _ ?_, Fx_r, hC⟩
    rw [if_neg h, b_121_0 hL, s_9 (by omega), bsI, b_121_8, hP, b2_f h, if_neg (by decide), b_121_11]
    rfl
theorem s_221 {d0 : Nat} (hd : 7 ≤ d0) {M : MM} {R : RR} (hL : Lay R) {P Y t : Nat} (hX : XM M R P Y t) (x y : Int) : ∃ M', call d0 221 [vA 57, vI x, vI y] M R = some (vJ (v_first (Wmd M) P Y x y), M', R) ∧ Fx modO M M' := by
  obtain ⟨e, rfl⟩ := s_le hd
  obtain ⟨hP, hP7, hY, hY1, hY24, _⟩ := id hX
  have start : ∀ v M', run (call (e + 6)) 221 0 [vA 57, vI x, vI y] [] M R = some (vJ v, M', R) → call (e + 7) 221 [vA 57, vI x, vI y] M R = some (vJ v, M', R) := fun v M' h => call_of 3 [vA 57, vI x, vI y] (by decide) rfl (Nat.le_of_ble_eq_true rfl) rfl h rfl
  unfold v_first
  have ep : w32 (M 57 2 - 1) = (P : Int) - 1 := by rw [hP, w32_i (by omega)]
  by_cases h : 0 ≤ x ∧ x ≤ (P : Int) - 1
  · rw [if_pos (by omega)]
    by_cases hy : 0 ≤ y ∧ y ≤ 1
    · obtain ⟨p, rfl⟩ : ∃ k : Nat, x = (k : Int) := ⟨x.toNat, by omega⟩
      obtain ⟨M1, q1, f1, w1, y1, z1⟩ := r_199 (d0 := e + 6) (by omega) hL hX
      have q2 := s_220 (d0 := e + 6) (by omega) hL hX w1 z1 (p := p) (by omega)
      have r1 := ALm_r hX (EV_le (p := p + 1) (by omega))
      have r2 := FMm_r hX (p := p) (by omega)
      have e1 : w32 ((p : Int) + 1) = (p : Int) + 1 := by rw [w32_i (by omega)]
      have b2 := EV_b (P := p + 1) (by omega)
      refine ⟨M1, start _ _ ?_, Fx_s f1 (by decide)⟩
      rw [b_221_0, s_165 (by omega), bsI, ep, b2_t h, b_221_5, if_neg (by decide), b_221_8, s_203 (by omega), bsI, b2_t hy, b_221_12, if_pos (by decide), b_221_19, q1, bsX, b_221_23, q2, bsJ, b_221_28 hL, e1, s_218 (by omega), bsI, c_ev1 (by omega), b_221_38 hL, if_pos (by omega), Int.toNat_natCast, Int.toNat_natCast, y1 _ (EV_le (by omega)), p_202 (by omega) _ _ _ (by omega) (by omega) (by omega), bsJ, b_221_43]
    · refine ⟨M, start _ _ ?_, Fx_r⟩
      rw [fr_no (by omega), b_221_0, s_165 (by omega), bsI, ep, b2_t h, b_221_5, if_neg (by decide), b_221_8, s_203 (by omega), bsI, b2_f hy, b_221_12, if_neg (by decide), b_221_15]
  · refine ⟨M, start _ _ ?_, Fx_r⟩
    rw [if_neg (by omega), b_221_0, s_165 (by omega), bsI, ep, b2_f h, b_221_5, if_pos rfl, b_221_15]
    rfl
/-- as likely as so many of a hundred -/
abbrev AK (w : Nat → Nat → Int) (Y : Nat) (h : Int) (s : Nat) : Prop := 0 < AL w Y s ∧ h * AL w Y s ≤ (AL w Y s - UN w Y s) * 100
def fi (c : Nat → Bool) : Nat → Nat → Int
  | 0, _ => -1
  | k + 1, n => if c n = true then (n : Int) else fi c k (n + 1)
theorem s_120 {d0 : Nat} (hd : 4 ≤ d0) {M : MM} {R : RR} (hL : Lay R) {P Y t s : Nat} {h : Int} (hX : XW M R P Y t) (hC : PP M P Y) (hs : s < 2 ^ P) (hh : 1 ≤ h ∧ h ≤ 100) : call d0 120 [vA 1, vI s, vI h] M R = some (vI (b2 (AK (Wd M) Y h s)), M, R) := by
  obtain ⟨e, rfl⟩ := s_le hd
  have h1 := AL_r hX hs
  have h2 : 0 ≤ UN (Wd M) Y s ∧ UN (Wd M) Y s ≤ AL (Wd M) Y s := Dl_ok hX hs 2 1 0
  have h3 : 0 ≤ h * AL (Wd M) Y s ∧ h * AL (Wd M) Y s ≤ 100 * 21936950640377856 := ⟨Int.mul_nonneg (by omega) h1.1, Int.mul_le_mul hh.2 h1.2 h1.1 (by omega)⟩
  refine call_of 3 [vA 1, vI s, vI h] (by decide) rfl (Nat.le_of_ble_eq_true rfl) rfl ?_ b2_ok
  rw [b_120_0 hL, s_64 (by omega) hL hX.2.1 hC.2.2.1 hs, bsJ, b_120_8]
  simp only [lc_le]
  by_cases g : 0 < AL (Wd M) Y s
  · rw [if_neg (by omega), b_120_13 hL, s_67 (by omega) hL hX hC.1 hC.2.2.1 hs, bsJ, b_120_24 hL, s_64 (by omega) hL hX.2.1 hC.2.2.1 hs, bsJ, b_120_35, w64_i (by omega), w64_i (by omega)]
    simp only [lc_l0]
    by_cases k : h * AL (Wd M) Y s ≤ (AL (Wd M) Y s - UN (Wd M) Y s) * 100
    · rw [if_neg (by omega), b_120_40, b_120_45, b2_t ⟨g, k⟩]
    · rw [if_pos (by omega), b_120_44, b_120_45, b2_f (fun q => k q.2)]
  · rw [if_pos (by omega), b_120_44, b_120_45, b2_f (fun q => g q.1)]
def v_needs (w : Nat → Nat → Int) (P Y : Nat) (h : Int) : Int := if 1 ≤ h ∧ h ≤ 100 then fi (fun n => decide (AK w Y h (EV n))) P 1 else -2
theorem s_118 {d0 : Nat} (hd : 7 ≤ d0) {M : MM} {R : RR} (hL : Lay R) {P Y t : Nat} (hX : XW M R P Y t) (hC : CJ M P Y) (x : Int) : ∃ M', call d0 118 [vA 1, vI x] M R = some (vI (v_needs (Wd M) P Y x), M', R) ∧ Fx clsO M M' ∧ CJ M' P Y := by
  obtain ⟨e, rfl⟩ := s_le hd
  have start : ∀ v M', run (call (e + 6)) 118 0 [vA 1, vI x, vX 0] [] M R = some (vI v, M', R) → call (e + 7) 118 [vA 1, vI x] M R = some (vI v, M', R) := fun v M' h => call_of 3 [vA 1, vI x, vX 0] (by decide) rfl (Nat.le_of_ble_eq_true rfl) rfl h rfl
  unfold v_needs
  by_cases h : 1 ≤ x ∧ x ≤ 100
  · obtain ⟨M1, q1, f1, p1⟩ := p_61 (d0 := e + 6) (by omega) hL hX hC
    have X1 := XW_f f1 hX
    obtain ⟨hP, hP7, hY, hY1, hY24, _⟩ := id X1
    have W1 := Wd_e (Wx_x f1)
    have key : ∀ k n : Nat, n + k = P + 1 → 1 ≤ n → run (call (e + 6)) 118 19 [vA 1, vI x, vI n] [] M1 R = some (vI (fi (fun n => decide (AK (Wd M) Y x (EV n))) k n), M1, R) := by
      intro k
      induction k with
      | zero =>
        intro n hn h1
        rw [b_118_19 hL, hP, if_pos (by omega), b_118_50]
        rfl
      | succ k ih =>
        intro n hn h1
        have e1 : w32 ((n : Int) + 1) = ((n + 1 : Nat) : Int) := by rw [w32_i (by omega)]; omega
        have q := s_120 (d0 := e + 6) (by omega) hL X1 p1 (s := EV n) (EV_le (by omega)) h
        rw [W1] at q
        rw [b_118_19 hL, hP, if_neg (by omega), b_118_30, s_12 (by omega), bsI, c_ev (by omega), b_118_35, q, bsI, b_118_39]
        show _ = some (vI (if decide (AK (Wd M) Y x (EV n)) = true then (n : Int) else fi _ k (n + 1)), M1, R)
        by_cases g : AK (Wd M) Y x (EV n)
        · rw [b2_t g, if_neg (by decide), b_118_42, if_pos (decide_eq_true g)]
        · rw [b2_f g, if_pos rfl, b_118_44, e1, ih (n + 1) (by omega) (by omega), if_neg (by simpa using g)]
    refine ⟨M1, start _ _ ?_, f1, p1.1⟩
    rw [if_pos h, b_118_0, s_119 (by omega), bsI, b_118_4, b2_t h, if_pos (by decide), b_118_10 hL, q1, bsX, b_118_17]
    exact key P 1 (by omega) (by omega)
  · refine ⟨M, start _ _ ?_, Fx_r, hC⟩
    rw [if_neg h, b_118_0, s_119 (by omega), bsI, b_118_4, b2_f h, if_neg (by decide), b_118_7]
theorem s_219 {d0 : Nat} (hd : 7 ≤ d0) {M : MM} {R : RR} (hL : Lay R) {P Y t : Nat} (hX : XM M R P Y t) (x : Int) : ∃ M', call d0 219 [vA 57, vI x] M R = some (vI (v_needs (Wmd M) P Y x), M', R) ∧ Fx modO M M' := by
  obtain ⟨e, rfl⟩ := s_le hd
  obtain ⟨hP, hP7, hY, hY1, hY24, _⟩ := id hX
  have start : ∀ v M', run (call (e + 6)) 219 0 [vA 57, vI x, vX 0, vX 0, vX 0] [] M R = some (vI v, M', R) → call (e + 7) 219 [vA 57, vI x] M R = some (vI v, M', R) := fun v M' h => call_of 5 [vA 57, vI x, vX 0, vX 0, vX 0] (by decide) rfl (Nat.le_of_ble_eq_true rfl) rfl h rfl
  unfold v_needs
  by_cases h : 1 ≤ x ∧ x ≤ 100
  · obtain ⟨M1, q1, f1, w1, y1, z1⟩ := r_199 (d0 := e + 6) (by omega) hL hX
    have g57 : M1 57 2 = (P : Int) := by rw [f1 57 (by decide)]; exact hP
    have key : ∀ (k n : Nat) (u : AV), n + k = P + 1 → 1 ≤ n → run (call (e + 6)) 219 19 [vA 57, vI x, vI n, u, vX 0] [] M1 R = some (vI (fi (fun n => decide (AK (Wmd M) Y x (EV n))) k n), M1, R) := by
      intro k
      induction k with
      | zero =>
        intro n u hn h1
        rw [b_219_19, g57, if_pos (by omega), b_219_74]
        rfl
      | succ k ih =>
        intro n u hn h1
        have e1 : w32 ((n : Int) + 1) = ((n + 1 : Nat) : Int) := by rw [w32_i (by omega)]; omega
        have hb := EV_b (P := n) (by omega)
        have hle := EV_le (p := n) (P := P) (by omega)
        have r1 := ALm_r hX hle
        have r2 : 0 ≤ UN (Wmd M) Y (EV n) ∧ UN (Wmd M) Y (EV n) ≤ AL (Wmd M) Y (EV n) := Dlm_ok hX hle 2 1 0
        have r3 : 0 ≤ x * AL (Wmd M) Y (EV n) ∧ x * AL (Wmd M) Y (EV n) ≤ 100 * 21936950640377856 := ⟨Int.mul_nonneg (by omega) r1.1, Int.mul_le_mul h.2 r1.2 r1.1 (by omega)⟩
        rw [b_219_19, g57, if_neg (by omega), b_219_27 hL, s_218 (by omega), bsI, c_ev (by omega), b_219_35 hL, if_pos (by omega), Int.toNat_natCast, y1 _ hle]
        simp only [lc_le]
        show _ = some (vI (if decide (AK (Wmd M) Y x (EV n)) = true then (n : Int) else fi _ k (n + 1)), M1, R)
        by_cases g : 0 < AL (Wmd M) Y (EV n)
        · rw [if_neg (by omega), b_219_43 hL, s_218 (by omega), bsI, c_ev (by omega), b_219_52 hL, if_pos (by omega), Int.toNat_natCast, z1 _ hle, w64_i (x := AL (Wmd M) Y (EV n) - UN (Wmd M) Y (EV n)) (by omega), w64_i (by omega), w64_i (by omega)]
          simp only [lc_l0]
          by_cases g2 : x * AL (Wmd M) Y (EV n) ≤ (AL (Wmd M) Y (EV n) - UN (Wmd M) Y (EV n)) * 100
          · rw [if_neg (by omega), b_219_66, if_pos (decide_eq_true ⟨g, g2⟩)]
          · rw [if_pos (by omega), b_219_68, e1, ih (n + 1) _ (by omega) (by omega), if_neg (fun q => g2 (of_decide_eq_true q).2)]
        · rw [if_pos (by omega), b_219_68, e1, ih (n + 1) _ (by omega) (by omega), if_neg (fun q => g (of_decide_eq_true q).1)]
    refine ⟨M1, start _ _ ?_, Fx_s f1 (by decide)⟩
    rw [if_pos h, b_219_0, s_162 (by omega), bsI, b_219_7, b2_t h, if_pos (by decide), b_219_13, q1, bsX, b_219_17]
    exact key P 1 _ (by omega) (by omega)
  · refine ⟨M, start _ _ ?_, Fx_r⟩
    rw [if_neg h, b_219_0, s_162 (by omega), bsI, b_219_7, b2_f h, if_neg (by decide), b_219_10]
/-- in which place to stand -/
def pC (w : Nat → Nat → Int) (Y : Nat) : Nat → Int × Int × Int
  | 0 => (-1, 0, 1)
  | n + 1 => if 0 < AL w Y (EV (n + 1)) ∧ sg (FM w Y n).toNat (AL w Y (EV (n + 1))).toNat (pC w Y n).2.1.toNat (pC w Y n).2.2.toNat = 1 then ((n : Int), FM w Y n, AL w Y (EV (n + 1))) else pC w Y n
def pR (w : Nat → Nat → Int) (Y : Nat) : Nat → Int
  | 0 => -1
  | n + 1 => if 0 < AL w Y (EV (n + 1)) ∧ 0 < FM w Y n ∧ (pR w Y n = -1 ∨ sg (FM w Y n).toNat (AL w Y (EV (n + 1))).toNat (FM w Y (pR w Y n).toNat).toNat (AL w Y (EV ((pR w Y n).toNat + 1))).toNat = 1) then (n : Int) else pR w Y n
theorem sg_1 {a b c d : Nat} : sg a b c d = 1 ↔ c * b < a * d := by
  unfold sg
  by_cases h : c * b < a * d
  · rw [if_pos h]; exact ⟨fun _ => h, fun _ => rfl⟩
  · rw [if_neg h]
    refine ⟨fun q => ?_, fun q => absurd q h⟩
    split at q <;> exact absurd q (by decide)
theorem pC_pR {w : Nat → Nat → Int} {Y : Nat} : ∀ n : Nat, (pC w Y n).1 = pR w Y n ∧ ((pR w Y n = -1 ∧ (pC w Y n).2 = (0, 1)) ∨ (0 ≤ pR w Y n ∧ pR w Y n < n ∧ (pC w Y n).2 = (FM w Y (pR w Y n).toNat, AL w Y (EV ((pR w Y n).toNat + 1))) ∧ 0 < AL w Y (EV ((pR w Y n).toNat + 1)) ∧ 0 < FM w Y (pR w Y n).toNat))
  | 0 => ⟨rfl, .inl ⟨rfl, rfl⟩⟩
  | n + 1 => by
    obtain ⟨h1, h2⟩ := pC_pR (w := w) (Y := Y) n
    have ec : pC w Y (n + 1) = if 0 < AL w Y (EV (n + 1)) ∧ sg (FM w Y n).toNat (AL w Y (EV (n + 1))).toNat (pC w Y n).2.1.toNat (pC w Y n).2.2.toNat = 1 then ((n : Int), FM w Y n, AL w Y (EV (n + 1))) else pC w Y n := rfl
    have er : pR w Y (n + 1) = if 0 < AL w Y (EV (n + 1)) ∧ 0 < FM w Y n ∧ (pR w Y n = -1 ∨ sg (FM w Y n).toNat (AL w Y (EV (n + 1))).toNat (FM w Y (pR w Y n).toNat).toNat (AL w Y (EV ((pR w Y n).toNat + 1))).toNat = 1) then (n : Int) else pR w Y n := rfl
    have hit : ∀ k : 0 < FM w Y n, 0 < AL w Y (EV (n + 1)) → ((n : Int) = (n : Int) ∧ (((n : Int) = -1 ∧ (FM w Y n, AL w Y (EV (n + 1))) = ((0 : Int), (1 : Int))) ∨ (0 ≤ (n : Int) ∧ (n : Int) < ((n + 1 : Nat) : Int) ∧ (FM w Y n, AL w Y (EV (n + 1))) = (FM w Y ((n : Int)).toNat, AL w Y (EV (((n : Int)).toNat + 1))) ∧ 0 < AL w Y (EV (((n : Int)).toNat + 1)) ∧ 0 < FM w Y ((n : Int)).toNat))) := by
      intro k1 k2
      refine ⟨rfl, .inr ⟨by omega, by omega, ?_, ?_, ?_⟩⟩
      · rw [Int.toNat_natCast]
      · rw [Int.toNat_natCast]; exact k2
      · rw [Int.toNat_natCast]; exact k1
    rcases h2 with ⟨a1, a2⟩ | ⟨a1, a2, a3, a4, a5⟩
    · rw [ec, er, a2]
      dsimp only
      by_cases g : 0 < AL w Y (EV (n + 1)) ∧ 0 < FM w Y n
      · rw [if_pos ⟨g.1, by rw [sg_1]; show 0 * _ < _ * 1; omega⟩, if_pos ⟨g.1, g.2, .inl a1⟩]
        exact hit g.2 g.1
      · rw [if_neg (fun q => g ⟨q.1, by have := sg_1.1 q.2; have h0 : (0 : Int).toNat * (AL w Y (EV (n + 1))).toNat = 0 := Nat.zero_mul _; have h3 : (FM w Y n).toNat * (1 : Int).toNat = (FM w Y n).toNat := Nat.mul_one _; omega⟩), if_neg (fun q => g ⟨q.1, q.2.1⟩)]
        exact ⟨h1, .inl ⟨a1, a2⟩⟩
    · rw [ec, er, a3]
      dsimp only
      by_cases g : 0 < AL w Y (EV (n + 1)) ∧ sg (FM w Y n).toNat (AL w Y (EV (n + 1))).toNat (FM w Y (pR w Y n).toNat).toNat (AL w Y (EV ((pR w Y n).toNat + 1))).toNat = 1
      · have gf : 0 < FM w Y n := by
          have k := sg_1.1 g.2
          have k2 : 0 < (FM w Y n).toNat := by
            rcases Nat.eq_zero_or_pos (FM w Y n).toNat with z | z
            · rw [z, Nat.zero_mul] at k; omega
            · exact z
          omega
        rw [if_pos g, if_pos ⟨g.1, gf, .inr g.2⟩]
        exact hit gf g.1
      · rw [if_neg g, if_neg (fun q => g ⟨q.1, q.2.2.elim (fun z => absurd z (by omega)) id⟩)]
        exact ⟨h1, .inr ⟨a1, by omega, a3, a4, a5⟩⟩
theorem s_122 {d0 : Nat} (hd : 7 ≤ d0) {M : MM} {R : RR} (hL : Lay R) {P Y t : Nat} (hX : XW M R P Y t) (hC : CJ M P Y) : ∃ M', call d0 122 [vA 1] M R = some (vI (pR (Wd M) Y P), M', R) ∧ Fx clsO M M' ∧ CJ M' P Y := by
  obtain ⟨e, rfl⟩ := s_le hd
  obtain ⟨hP, hP7, hY, hY1, hY24, _⟩ := id hX
  obtain ⟨M1, q1, f1, p1⟩ := p_61 (d0 := e + 6) (by omega) hL hX hC
  have X1 := XW_f f1 hX
  have W1 := Wd_e (Wx_x f1)
  obtain ⟨⟨u, v⟩, _, q2⟩ := loop_nat (fun n (a : AV × AV) => run (call (e + 6)) 122 17 [vA 1, vI (pC (Wd M) Y n).1, vJ (pC (Wd M) Y n).2.1, vX 0, vJ (pC (Wd M) Y n).2.2, vX 0, vI n, a.1, vX 0, a.2, vX 0] [] M1 R) (fun _ _ => True) P (by
    rintro n ⟨u, v⟩ hn _
    have e1 : w32 ((n : Int) + 1) = ((n + 1 : Nat) : Int) := by rw [w32_i (by omega)]; omega
    have e1' : w32 ((n : Int) + 1) = (n : Int) + 1 := by rw [w32_i (by omega)]
    have q3 := s_76 (d0 := e + 6) (by omega) hL X1 p1 hn
    have e64 := s_64 (d0 := e + 6) (by omega) hL hP7 p1.2.2.1 (EV_le (p := n + 1) (by omega))
    rw [W1] at q3 e64
    have r1 := AL_r hX (EV_le (p := n + 1) (P := P) (by omega))
    have r2 := FM_r hX hn
    refine ⟨(vJ (FM (Wd M) Y n), vJ (AL (Wd M) Y (EV (n + 1)))), trivial, ?_⟩
    have ec : pC (Wd M) Y (n + 1) = if 0 < AL (Wd M) Y (EV (n + 1)) ∧ sg (FM (Wd M) Y n).toNat (AL (Wd M) Y (EV (n + 1))).toNat (pC (Wd M) Y n).2.1.toNat (pC (Wd M) Y n).2.2.toNat = 1 then ((n : Int), FM (Wd M) Y n, AL (Wd M) Y (EV (n + 1))) else pC (Wd M) Y n := rfl
    have hcr : (0 ≤ (pC (Wd M) Y n).2.1 ∧ (pC (Wd M) Y n).2.1 < 9223372036854775808) ∧ 0 < (pC (Wd M) Y n).2.2 ∧ (pC (Wd M) Y n).2.2 < 9223372036854775808 := by
      rcases (pC_pR (w := Wd M) (Y := Y) n).2 with ⟨_, a2⟩ | ⟨a1, a2, a3, a4, a5⟩
      · rw [a2]; dsimp only; omega
      · rw [a3]
        have s1 := AL_r hX (EV_le (p := (pR (Wd M) Y n).toNat + 1) (P := P) (by omega))
        have s2 := FM_r hX (p := (pR (Wd M) Y n).toNat) (by omega)
        dsimp only
        omega
    show run (call (e + 6)) 122 17 [vA 1, vI (pC (Wd M) Y n).1, vJ (pC (Wd M) Y n).2.1, vX 0, vJ (pC (Wd M) Y n).2.2, vX 0, vI n, u, vX 0, v, vX 0] [] M1 R = run (call (e + 6)) 122 17 [vA 1, vI (pC (Wd M) Y (n + 1)).1, vJ (pC (Wd M) Y (n + 1)).2.1, vX 0, vJ (pC (Wd M) Y (n + 1)).2.2, vX 0, vI ((n + 1 : Nat) : Int), vJ (FM (Wd M) Y n), vX 0, vJ (AL (Wd M) Y (EV (n + 1))), vX 0] [] M1 R
    rw [ec, b_122_17 hL, X1.1, if_neg (by omega), b_122_29 hL, q3, bsJ, b_122_38 hL, e1', s_12 (by omega), bsI, c_ev1 (by omega), b_122_51, e64, bsJ, b_122_54]
    simp only [lc_le]
    by_cases g : 0 < AL (Wd M) Y (EV (n + 1))
    · rw [if_neg (by omega), b_122_63, s_160 (by omega) _ _ _ _ (by omega) (by omega) hcr.1 hcr.2, bsI, b_122_73]
      have hv := sg_v (FM (Wd M) Y n).toNat (AL (Wd M) Y (EV (n + 1))).toNat (pC (Wd M) Y n).2.1.toNat (pC (Wd M) Y n).2.2.toNat
      by_cases g2 : sg (FM (Wd M) Y n).toNat (AL (Wd M) Y (EV (n + 1))).toNat (pC (Wd M) Y n).2.1.toNat (pC (Wd M) Y n).2.2.toNat = 1
      · rw [if_neg (by omega), b_122_76, b_122_86, e1, if_pos ⟨g, g2⟩]
      · rw [if_pos (by omega), b_122_86, e1, if_neg (fun q => g2 q.2)]
    · rw [if_pos (by omega), b_122_86, e1, if_neg (fun q => g q.1)]) (vX 0, vX 0) trivial
  refine ⟨M1, ?_, f1, p1.1⟩
  refine call_of 11 [vA 1, vX 0, vX 0, vX 0, vX 0, vX 0, vX 0, vX 0, vX 0, vX 0, vX 0] (by decide) rfl (Nat.le_of_ble_eq_true rfl) rfl ?_ rfl
  rw [b_122_0 hL, q1, bsX, b_122_7]
  refine Eq.trans q2 ?_
  dsimp only
  rw [b_122_17 hL, X1.1, if_pos (by omega), b_122_92, (pC_pR (w := Wd M) (Y := Y) P).1]
theorem s_223 {d0 : Nat} (hd : 7 ≤ d0) {M : MM} {R : RR} (hL : Lay R) {P Y t : Nat} (hX : XM M R P Y t) : ∃ M', call d0 223 [vA 57] M R = some (vI (pR (Wmd M) Y P), M', R) ∧ Fx modO M M' := by
  obtain ⟨e, rfl⟩ := s_le hd
  obtain ⟨hP, hP7, hY, hY1, hY24, _⟩ := id hX
  obtain ⟨M1, q1, f1, w1, y1, z1⟩ := r_199 (d0 := e + 6) (by omega) hL hX
  have g57 : M1 57 2 = (P : Int) := by rw [f1 57 (by decide)]; exact hP
  obtain ⟨⟨u, v⟩, _, q2⟩ := loop_nat (fun n (a : AV × AV) => run (call (e + 6)) 223 8 [vA 57, vI (pR (Wmd M) Y n), vI n, a.1, vX 0, a.2] [] M1 R) (fun _ _ => True) P (by
    rintro n ⟨u, v⟩ hn _
    have e1 : w32 ((n : Int) + 1) = ((n + 1 : Nat) : Int) := by rw [w32_i (by omega)]; omega
    have e1' : w32 ((n : Int) + 1) = (n : Int) + 1 := by rw [w32_i (by omega)]
    have q3 := s_220 (d0 := e + 6) (by omega) hL hX w1 z1 hn
    have hb := EV_b (P := n + 1) (by omega)
    have hle := EV_le (p := n + 1) (P := P) (by omega)
    have r1 := ALm_r hX hle
    have r2 := FMm_r hX hn
    have er : pR (Wmd M) Y (n + 1) = if 0 < AL (Wmd M) Y (EV (n + 1)) ∧ 0 < FM (Wmd M) Y n ∧ (pR (Wmd M) Y n = -1 ∨ sg (FM (Wmd M) Y n).toNat (AL (Wmd M) Y (EV (n + 1))).toNat (FM (Wmd M) Y (pR (Wmd M) Y n).toNat).toNat (AL (Wmd M) Y (EV ((pR (Wmd M) Y n).toNat + 1))).toNat = 1) then (n : Int) else pR (Wmd M) Y n := rfl
    have h81 : ∀ u v : AV, ∀ x3 : Int, run (call (e + 6)) 223 81 [vA 57, vI (pR (Wmd M) Y n), vI n, vJ x3, vX 0, v] [] M1 R = run (call (e + 6)) 223 8 [vA 57, vI (pR (Wmd M) Y n), vI ((n + 1 : Nat) : Int), vJ x3, vX 0, vI 0] [] M1 R := by
      intro u v x3
      rw [b_223_81, b_223_82, if_pos rfl, b_223_93, b_223_94, e1]
    have h77 : ∀ u v : AV, ∀ x3 : Int, run (call (e + 6)) 223 77 [vA 57, vI (pR (Wmd M) Y n), vI n, vJ x3, vX 0, v] [] M1 R = run (call (e + 6)) 223 8 [vA 57, vI n, vI ((n + 1 : Nat) : Int), vJ x3, vX 0, vI 1] [] M1 R := by
      intro u v x3
      rw [b_223_77, b_223_82, if_neg (by decide), b_223_89, b_223_94, e1]
    have hstart : run (call (e + 6)) 223 8 [vA 57, vI (pR (Wmd M) Y n), vI n, u, vX 0, v] [] M1 R = if AL (Wmd M) Y (EV (n + 1)) ≤ 0 then run (call (e + 6)) 223 81 [vA 57, vI (pR (Wmd M) Y n), vI n, vJ (AL (Wmd M) Y (EV (n + 1))), vX 0, v] [] M1 R else run (call (e + 6)) 223 34 [vA 57, vI (pR (Wmd M) Y n), vI n, vJ (AL (Wmd M) Y (EV (n + 1))), vX 0, v] [] M1 R := by
      rw [b_223_8, g57, if_neg (by omega), b_223_16 hL, e1', s_218 (by omega), bsI, c_ev1 (by omega), b_223_26 hL, if_pos (by omega), Int.toNat_natCast, y1 _ hle]
      simp only [lc_le]
    show ∃ a' : AV × AV, True ∧ run (call (e + 6)) 223 8 [vA 57, vI (pR (Wmd M) Y n), vI n, u, vX 0, v] [] M1 R = run (call (e + 6)) 223 8 [vA 57, vI (pR (Wmd M) Y (n + 1)), vI ((n + 1 : Nat) : Int), a'.1, vX 0, a'.2] [] M1 R
    rw [hstart, er]
    by_cases g : 0 < AL (Wmd M) Y (EV (n + 1))
    · rw [if_neg (by omega), b_223_34, q3, bsJ, b_223_39]
      simp only [lc_le]
      by_cases g2 : 0 < FM (Wmd M) Y n
      · rw [if_neg (by omega), b_223_44]
        rcases (pC_pR (w := Wmd M) (Y := Y) n).2 with ⟨a1, _⟩ | ⟨a1, a2, a3, a4, a5⟩
        · rw [if_pos a1, h77 u v, if_pos ⟨g, g2, .inl a1⟩]
          exact ⟨(_, _), trivial, rfl⟩
        · obtain ⟨b, hb'⟩ : ∃ b : Nat, pR (Wmd M) Y n = (b : Int) := ⟨(pR (Wmd M) Y n).toNat, by omega⟩
          rw [hb'] at a2 a4 a5 h81 h77 ⊢
          rw [Int.toNat_natCast] at a4 a5 ⊢
          have q4 := s_220 (d0 := e + 6) (by omega) hL hX w1 z1 (p := b) (by omega)
          have hb2 := EV_b (P := b + 1) (by omega)
          have hle2 := EV_le (p := b + 1) (P := P) (by omega)
          have e2 : w32 ((b : Int) + 1) = (b : Int) + 1 := by rw [w32_i (by omega)]
          have s1 := ALm_r hX hle2
          have s2 := FMm_r hX (p := b) (by omega)
          rw [if_neg (by omega), b_223_49, q4, bsJ, b_223_54 hL, e2, s_218 (by omega), bsI, c_ev1 (by omega), b_223_64 hL, if_pos (by omega), q3, bsJ, b_223_70, Int.toNat_natCast, y1 _ hle2, s_222 (by omega) _ _ _ _ (by omega) (by omega) (by omega) (by omega), bsI, b_223_74]
          by_cases g3 : sg (FM (Wmd M) Y n).toNat (AL (Wmd M) Y (EV (n + 1))).toNat (FM (Wmd M) Y b).toNat (AL (Wmd M) Y (EV (b + 1))).toNat = 1
          · rw [b2_t g3, if_neg (by decide), h77 u v, if_pos ⟨g, g2, .inr g3⟩]
            exact ⟨(_, _), trivial, rfl⟩
          · rw [b2_f g3, if_pos rfl, h81 u v, if_neg (fun q => q.2.2.elim (fun z => absurd z (by omega)) g3)]
            exact ⟨(_, _), trivial, rfl⟩
      · rw [if_pos (by omega), h81 u v, if_neg (fun q => g2 q.2.1)]
        exact ⟨(_, _), trivial, rfl⟩
    · rw [if_pos (by omega), h81 u v, if_neg (fun q => g q.1)]
      exact ⟨(_, _), trivial, rfl⟩) (vX 0, vX 0) trivial
  refine ⟨M1, ?_, Fx_s f1 (by decide)⟩
  refine call_of 6 [vA 57, vX 0, vX 0, vX 0, vX 0, vX 0] (by decide) rfl (Nat.le_of_ble_eq_true rfl) rfl ?_ rfl
  rw [b_223_0, q1, bsX, b_223_4]
  refine Eq.trans q2 ?_
  dsimp only
  rw [b_223_8, g57, if_pos (by omega), b_223_101]
/-- one by one: how many are asked -/
theorem rest_ok : ∀ P : Fin 8, ∀ p : Fin 8, (p : Nat) ≤ P → bl (EV P) = bl (EV p) ++ bl (EV P ^^^ EV p) ∧ EV P ^^^ EV p < 2 ^ (P : Nat) := by decide +kernel
theorem rest_ok2 : ∀ P : Fin 8, ∀ p : Fin 8, (p : Nat) ≤ P → EV P &&& (127 ^^^ EV p) = EV P ^^^ EV p := by decide +kernel
def v_asked (w : Nat → Nat → Int) (P Y : Nat) (part : Int) : Int := fr (sm (fun p => UN w Y (EV p) * AL w Y (EV P ^^^ EV p)) P) (AL w Y (EV P)) part
theorem s_123 {d0 : Nat} (hd : 7 ≤ d0) {M : MM} {R : RR} (hL : Lay R) {P Y t : Nat} (hX : XW M R P Y t) (hC : CJ M P Y) (x : Int) : ∃ M', call d0 123 [vA 1, vI x] M R = some (vJ (v_asked (Wd M) P Y x), M', R) ∧ Fx clsO M M' ∧ CJ M' P Y := by
  obtain ⟨e, rfl⟩ := s_le hd
  obtain ⟨hP, hP7, hY, hY1, hY24, _⟩ := id hX
  obtain ⟨M1, q1, f1, p1⟩ := p_61 (d0 := e + 6) (by omega) hL hX hC
  have X1 := XW_f f1 hX
  have W1 := Wd_e (Wx_x f1)
  have hev := EV_b hP7
  have r1 := AL_r hX (EV_lt P)
  have hr : ∀ p, p < P → 0 ≤ UN (Wd M) Y (EV p) * AL (Wd M) Y (EV P ^^^ EV p) ∧ UN (Wd M) Y (EV p) * AL (Wd M) Y (EV P ^^^ EV p) ≤ 21936950640377856 := by
    intro p hp
    have k := rest_ok ⟨P, by omega⟩ ⟨p, by omega⟩ (by show p ≤ P; omega)
    dsimp only at k
    have h2 : 0 ≤ UN (Wd M) Y (EV p) ∧ UN (Wd M) Y (EV p) ≤ AL (Wd M) Y (EV p) := Dl_ok hX (EV_le (by omega)) 2 1 0
    have h3 := AL_r hX k.2
    have h4 : AL (Wd M) Y (EV P) = AL (Wd M) Y (EV p) * AL (Wd M) Y (EV P ^^^ EV p) := by
      unfold AL
      rw [k.1, wp_app]
    have h5 := Int.mul_le_mul_of_nonneg_right h2.2 h3.1
    exact ⟨Int.mul_nonneg h2.1 h3.1, by omega⟩
  have hsm : ∀ n, n ≤ P → 0 ≤ sm (fun p => UN (Wd M) Y (EV p) * AL (Wd M) Y (EV P ^^^ EV p)) n ∧ sm (fun p => UN (Wd M) Y (EV p) * AL (Wd M) Y (EV P ^^^ EV p)) n ≤ n * 21936950640377856 := fun n hn => sm_r n (fun i hi => hr i (by omega))
  obtain ⟨u, _, q2⟩ := loop_nat (fun n (u : AV) => run (call (e + 6)) 123 12 [vA 1, vI x, vJ (sm (fun p => UN (Wd M) Y (EV p) * AL (Wd M) Y (EV P ^^^ EV p)) n), vX 0, vI n, u] [] M1 R) (fun _ _ => True) P (by
    rintro n u hn _
    have e1 : w32 ((n : Int) + 1) = ((n + 1 : Nat) : Int) := by rw [w32_i (by omega)]; omega
    have k := rest_ok ⟨P, by omega⟩ ⟨n, by omega⟩ (by show n ≤ P; omega)
    dsimp only at k
    have hbn := EV_b (P := n) (by omega)
    have e66 := s_66 (d0 := e + 6) (by omega) hL X1 p1.1 p1.2.2.1 (EV_le (p := n) (by omega))
    have e64 := s_64 (d0 := e + 6) (by omega) hL hP7 p1.2.2.1 k.2
    rw [W1] at e66 e64
    have r3 := hr n hn
    have r4 := hsm (n + 1) (by omega)
    have hs : sm (fun p => UN (Wd M) Y (EV p) * AL (Wd M) Y (EV P ^^^ EV p)) (n + 1) = sm (fun p => UN (Wd M) Y (EV p) * AL (Wd M) Y (EV P ^^^ EV p)) n + UN (Wd M) Y (EV n) * AL (Wd M) Y (EV P ^^^ EV n) := rfl
    refine ⟨vI ((EV n : Nat) : Int), trivial, ?_⟩
    rw [b_123_12 hL, X1.1, if_neg (by omega), b_123_24, s_12 (by omega), bsI, c_ev (by omega), b_123_29 hL, e66, bsJ, b_123_41 hL, s_13 (by omega), bsI, X1.1, c_ev (by omega), b_123_52, c_xor_n (by omega) (by omega), e64, bsJ, b_123_58, e1, w64_ar, ← hs, w64_i (by omega)]) (vX 0) trivial
  have r4 := hsm P (Nat.le_refl P)
  have e65 := s_65 (d0 := e + 6) (by omega) hL hP7 p1.2.2.1
  rw [W1] at e65
  refine ⟨M1, ?_, f1, p1.1⟩
  refine call_of 6 [vA 1, vI x, vX 0, vX 0, vX 0, vX 0] (by decide) rfl (Nat.le_of_ble_eq_true rfl) rfl ?_ rfl
  rw [b_123_0 hL, q1, bsX, b_123_7]
  refine Eq.trans q2 ?_
  rw [b_123_12 hL, X1.1, if_pos (by omega), b_123_67 hL, e65, bsJ, b_123_75, p_158 (by omega) _ _ _ (by omega) (by omega), bsJ, b_123_79]
  rfl
theorem s_224 {d0 : Nat} (hd : 7 ≤ d0) {M : MM} {R : RR} (hL : Lay R) {P Y t : Nat} (hX : XM M R P Y t) (x : Int) : ∃ M', call d0 224 [vA 57, vI x] M R = some (vJ (v_asked (Wmd M) P Y x), M', R) ∧ Fx modO M M' := by
  obtain ⟨e, rfl⟩ := s_le hd
  obtain ⟨hP, hP7, hY, hY1, hY24, _⟩ := id hX
  have hev := EV_b hP7
  have start : ∀ v M', run (call (e + 6)) 224 0 [vA 57, vI x, vX 0, vX 0, vX 0] [] M R = some (vJ v, M', R) → call (e + 7) 224 [vA 57, vI x] M R = some (vJ v, M', R) := fun v M' h => call_of 5 [vA 57, vI x, vX 0, vX 0, vX 0] (by decide) rfl (Nat.le_of_ble_eq_true rfl) rfl h rfl
  by_cases hy : 0 ≤ x ∧ x ≤ 1
  · obtain ⟨M1, q1, f1, w1, y1, z1⟩ := r_199 (d0 := e + 6) (by omega) hL hX
    have g57 : M1 57 2 = (P : Int) := by rw [f1 57 (by decide)]; exact hP
    have r1 := ALm_r hX (EV_lt P)
    have hr : ∀ p, p < P → 0 ≤ UN (Wmd M) Y (EV p) * AL (Wmd M) Y (EV P ^^^ EV p) ∧ UN (Wmd M) Y (EV p) * AL (Wmd M) Y (EV P ^^^ EV p) ≤ 21936950640377856 := by
      intro p hp
      have k := rest_ok ⟨P, by omega⟩ ⟨p, by omega⟩ (by show p ≤ P; omega)
      dsimp only at k
      have h2 : 0 ≤ UN (Wmd M) Y (EV p) ∧ UN (Wmd M) Y (EV p) ≤ AL (Wmd M) Y (EV p) := Dlm_ok hX (EV_le (by omega)) 2 1 0
      have h3 := ALm_r hX k.2
      have h4 : AL (Wmd M) Y (EV P) = AL (Wmd M) Y (EV p) * AL (Wmd M) Y (EV P ^^^ EV p) := by
        unfold AL
        rw [k.1, wp_app]
      have h5 := Int.mul_le_mul_of_nonneg_right h2.2 h3.1
      exact ⟨Int.mul_nonneg h2.1 h3.1, by omega⟩
    have hsm : ∀ n, n ≤ P → 0 ≤ sm (fun p => UN (Wmd M) Y (EV p) * AL (Wmd M) Y (EV P ^^^ EV p)) n ∧ sm (fun p => UN (Wmd M) Y (EV p) * AL (Wmd M) Y (EV P ^^^ EV p)) n ≤ n * 21936950640377856 := fun n hn => sm_r n (fun i hi => hr i (by omega))
    have q2 := iter_eq (fun n : Nat => run (call (e + 6)) 224 20 [vA 57, vI x, vJ (sm (fun p => UN (Wmd M) Y (EV p) * AL (Wmd M) Y (EV P ^^^ EV p)) n), vX 0, vI n] [] M1 R) P (by
      intro n hn
      have e1 : w32 ((n : Int) + 1) = ((n + 1 : Nat) : Int) := by rw [w32_i (by omega)]; omega
      have k := rest_ok ⟨P, by omega⟩ ⟨n, by omega⟩ (by show n ≤ P; omega)
      have k2 := rest_ok2 ⟨P, by omega⟩ ⟨n, by omega⟩ (by show n ≤ P; omega)
      dsimp only at k k2
      have hbn := EV_b (P := n) (by omega)
      have k3 := sub_c ⟨EV n, hbn.2⟩ ⟨EV P, hev.2⟩
      dsimp only at k3
      rw [k2] at k3
      have r3 := hr n hn
      have r4 := hsm (n + 1) (by omega)
      have hs : sm (fun p => UN (Wmd M) Y (EV p) * AL (Wmd M) Y (EV P ^^^ EV p)) (n + 1) = sm (fun p => UN (Wmd M) Y (EV p) * AL (Wmd M) Y (EV P ^^^ EV p)) n + UN (Wmd M) Y (EV n) * AL (Wmd M) Y (EV P ^^^ EV n) := rfl
      rw [b_224_20, g57, if_neg (by omega), b_224_29 hL, s_218 (by omega), bsI, c_ev (by omega), b_224_39 hL, if_pos (by omega), s_166 (by omega), bsI, g57, c_ev (by omega), b_224_48, s_218 (by omega), bsI, c_ev (by omega), b_224_53 hL, k3, if_pos (by omega), e1, Int.toNat_natCast, Int.toNat_natCast, z1 _ (EV_le (by omega)), y1 _ k.2, w64_ar, ← hs, w64_i (by omega)])
    have r4 := hsm P (Nat.le_refl P)
    refine ⟨M1, start _ _ ?_, Fx_s f1 (by decide)⟩
    rw [b_224_0, s_203 (by omega), bsI, b2_t hy, b_224_4, if_pos (by decide), b_224_11, q1, bsX, b_224_15]
    refine Eq.trans q2 ?_
    rw [b_224_20, g57, if_pos (by omega), b_224_66 hL, s_166 (by omega), bsI, g57, c_ev (by omega), b_224_75 hL, if_pos (by omega), Int.toNat_natCast, y1 _ (EV_lt P), p_202 (by omega) _ _ _ (by omega) (by omega) (by omega), bsJ, b_224_80]
    rfl
  · refine ⟨M, start _ _ ?_, Fx_r⟩
    unfold v_asked
    rw [fr_no (by omega), b_224_0, s_203 (by omega), bsI, b2_f hy, b_224_4, if_neg (by decide), b_224_7]
end
