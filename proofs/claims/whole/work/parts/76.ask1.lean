section
/-! ===== questions: meets, among, mine, likeliest ===== -/
def CJ (M : MM) (P Y : Nat) : Prop := CI M P Y ∧ ∀ s, s < 128 → 0 ≤ M 29 s ∧ M 29 s ≤ 400000000000000000
/-- all is prepared -/
def PP (M : MM) (P Y : Nat) : Prop := CJ M P Y ∧ FR M P Y ∧ aW M P Y ∧ M 27 10 = M 22 7
theorem CJ_f {M M' : MM} {P Y : Nat} (hF : Fx clsO M M') (h : ∀ o, o ∈ [22, 23, 24, 25, 27, 28, 29, 32, 33, 34, 38, 39, 40, 41, 42, 43] → M' o = M o) (h0 : M' 35 0 = M 35 0) (h1 : M' 35 1 = M 35 1) (hC : CJ M P Y) : CJ M' P Y := by
  refine ⟨CI_f hF h h0 h1 hC.1, ?_⟩
  rw [h 29 (by decide)]
  exact hC.2
theorem PP_f {M M' : MM} {P Y : Nat} (hF : Fx clsO M M') (h : ∀ o, o ∈ [22, 23, 24, 25, 27, 28, 29, 32, 33, 34, 38, 39, 40, 41, 42, 43] → M' o = M o) (h0 : M' 35 0 = M 35 0) (h1 : M' 35 1 = M 35 1) (hC : PP M P Y) : PP M' P Y := by
  refine ⟨CJ_f hF h h0 h1 hC.1, FR_f hF (fun o ho => h o (by simp only [List.mem_cons, List.not_mem_nil, or_false] at ho; rcases ho with rfl | rfl | rfl <;> decide)) hC.2.1, aW_f (Wx_x hF) (by rw [h 27 (by decide)]) (fun o ho => h o (by rcases ho with rfl | rfl | rfl <;> decide)) hC.2.2.1, ?_⟩
  rw [h 22 (by decide), h 27 (by decide)]
  exact hC.2.2.2
theorem p_61 {d0 : Nat} (hd : 6 ≤ d0) {M : MM} {R : RR} (hL : Lay R) {P Y t : Nat} (hX : XW M R P Y t) (hC : CJ M P Y) : ∃ M', call d0 61 [vA 27] M R = some (vX 0, M', R) ∧ Fx clsO M M' ∧ PP M' P Y := by
  obtain ⟨M', q, f, c1, c2, c3, c4, c5⟩ := s_61 hd hL hX hC.1 hC.2
  exact ⟨M', q, f, ⟨c1, c5⟩, c2, c3, c4⟩
theorem p_80 {d0 : Nat} (hd : 5 ≤ d0) {M : MM} {R : RR} (hL : Lay R) {P Y t : Nat} (hX : XW M R P Y t) (hC : CJ M P Y) : ∃ M', call d0 80 [vA 22] M R = some (vX 0, M', R) ∧ Fx clsO M M' ∧ CJ M' P Y ∧ FR M' P Y := by
  obtain ⟨M', q, f, c1, c2⟩ := ci_80 hd hL hX hC.1
  exact ⟨M', q, Fx_s f (by decide), ⟨c1, by rw [f 29 (by decide)]; exact hC.2⟩, c2⟩
/-- the fraction, of whole numbers -/
def fr (a b part : Int) : Int := frac a b.toNat part
theorem p_158 {d0 : Nat} (hd : 2 ≤ d0) {M : MM} {R : RR} (a b part : Int) (ha : -9223372036854775808 < a ∧ a < 9223372036854775808) (hb : 0 ≤ b ∧ b < 9223372036854775808) : call d0 158 [vJ a, vJ b, vI part] M R = some (vJ (fr a b part), M, R) := by
  have h := s_158 hd (M := M) (R := R) a b.toNat part ha (by omega)
  rw [Int.toNat_of_nonneg hb.1] at h
  exact h
theorem p_202 {d0 : Nat} (hd : 2 ≤ d0) {M : MM} {R : RR} (a b part : Int) (ha : -9223372036854775808 < a ∧ a < 9223372036854775808) (hb : 0 ≤ b ∧ b < 9223372036854775808) (hp : part = 0 ∨ part = 1) : call d0 202 [vJ a, vJ b, vI part] M R = some (vJ (fr a b part), M, R) := by
  have h := s_202 hd (M := M) (R := R) a b.toNat part ha (by omega) hp
  rw [Int.toNat_of_nonneg hb.1] at h
  exact h
theorem fr_no {a b part : Int} (h : ¬ (part = 0 ∨ part = 1)) : fr a b part = -4611686018427387904 := by
  unfold fr frac
  rw [if_pos (.inr h)]
def Wmd (M : MM) : Nat → Nat → Int := fun d p => Wm M p d
theorem Wmd_e {M M' : MM} (h : Wm M' = Wm M) : Wmd M' = Wmd M := by unfold Wmd; rw [h]
/-- a product over the first ones -/
def pn (f : Nat → Int) : Nat → Int
  | 0 => 1
  | n + 1 => pn f n * f n
theorem pn_pr (f : Nat → Int) (P : Nat) : ∀ n, n ≤ P → pr f (2 ^ P - 1) n = pn f n
  | 0, _ => rfl
  | n + 1, h => by
    show (if (2 ^ P - 1).testBit n then pr f (2 ^ P - 1) n * f n else pr f (2 ^ P - 1) n) = pn f n * f n
    rw [Nat.testBit_two_pow_sub_one, if_pos (decide_eq_true (by omega)), pn_pr f P n (by omega)]
theorem pn_wp {f : Nat → Int} {P : Nat} (hP : P ≤ 7) : wp f (bl (EV P)) = pn f P := by
  rw [← pr_wp (EV_lt P) (by omega)]
  exact pn_pr f P P (Nat.le_refl P)
theorem pn_m {f g : Nat → Int} : ∀ n, (∀ i, i < n → 0 ≤ f i ∧ f i ≤ g i) → 0 ≤ pn f n ∧ pn f n ≤ pn g n
  | 0, _ => ⟨by show (0 : Int) ≤ 1; decide, Int.le_refl 1⟩
  | n + 1, h => by
    have a := pn_m n (fun i hi => h i (by omega))
    have b := h n (by omega)
    exact ⟨Int.mul_nonneg a.1 b.1, Int.mul_le_mul a.2 b.2 b.1 (Int.le_trans a.1 a.2)⟩
theorem pn_b {f : Nat → Int} {b : Nat} : ∀ n, (∀ i, i < n → 0 ≤ f i ∧ f i ≤ (b : Int)) → 0 ≤ pn f n ∧ pn f n ≤ ((b ^ n : Nat) : Int)
  | 0, _ => ⟨by show (0 : Int) ≤ 1; decide, Int.le_refl 1⟩
  | n + 1, h => by
    have a := pn_b n (fun i hi => h i (by omega))
    have c := h n (by omega)
    refine ⟨Int.mul_nonneg a.1 c.1, ?_⟩
    show pn f n * f n ≤ ((b ^ n * b : Nat) : Int)
    rw [Int.natCast_mul]
    exact Int.mul_le_mul a.2 c.2 c.1 (Int.natCast_nonneg _)
/-- ways in which nobody has a day -/
abbrev BU (w : Nat → Nat → Int) (P Y d : Nat) : Int := pn (fun p => sm (fun d => w d p) Y - w d p) P
theorem AL_pn {w : Nat → Nat → Int} {P Y : Nat} (hP : P ≤ 7) : AL w Y (EV P) = pn (fun p => sm (fun d => w d p) Y) P := pn_wp hP
theorem sm_nn {f : Nat → Int} : ∀ n, (∀ i, i < n → 0 ≤ f i) → 0 ≤ sm f n
  | 0, _ => Int.le_refl 0
  | n + 1, h => by
    have a := sm_nn n (fun i hi => h i (by omega))
    have b := h n (by omega)
    show 0 ≤ sm f n + f n
    omega
theorem sm_le {f : Nat → Int} : ∀ n, (∀ i, i < n → 0 ≤ f i) → ∀ d, d < n → f d ≤ sm f n
  | 0, _, d, h => absurd h (by omega)
  | n + 1, h, d, hd => by
    have a : 0 ≤ sm f n := (sm_nn n (fun i hi => h i (by omega)))
    have b := h n (by omega)
    show f d ≤ sm f n + f n
    by_cases g : d = n
    · subst g; omega
    · have := sm_le n (fun i hi => h i (by omega)) d (by omega)
      omega
theorem BU_r {w : Nat → Nat → Int} {P Y d : Nat} (hP : P ≤ 7) (hw : ∀ d p, p < P → 0 ≤ w d p) (hd : d < Y) : 0 ≤ BU w P Y d ∧ BU w P Y d ≤ AL w Y (EV P) := by
  rw [AL_pn hP]
  refine pn_m P (fun p hp => ?_)
  have h1 := sm_le (f := fun d => w d p) Y (fun i _ => hw i p hp) d hd
  have h2 := hw d p hp
  try dsimp only at h1 ⊢
  omega
-- the class
theorem s_45 {d0 : Nat} (hd : 1 ≤ d0) {M : MM} {R : RR} {o pi fo w s : Nat} (n : Int) (hS : spO R o pi fo w) (hw : M o 1 = (w : Int)) (hw22 : w ≤ 22) (hs : s < 128) : call d0 45 [vA o, vI s, vI n] M R = some (vJ (if 0 ≤ n ∧ n < (w : Int) then M fo (s * w + n.toNat) else 0), M, R) := by
  obtain ⟨e, rfl⟩ := s_le hd
  obtain ⟨k1, k2, k3, k4, k5, k6, k7, k8, k9, k10⟩ := id hS
  refine call_of 3 [vA o, vI s, vI n] (by decide) rfl (Nat.le_of_ble_eq_true rfl) rfl ?_ rfl
  rw [b_45_0]
  by_cases h0 : n < 0
  · rw [if_pos h0, b_45_28, b_45_29, if_neg (by omega)]
  rw [if_neg h0, b_45_4 _ _ _ k1, hw]
  by_cases h1 : (w : Int) ≤ n
  · rw [if_pos h1, b_45_28, b_45_29, if_neg (by omega)]
  obtain ⟨m, rfl⟩ : ∃ m : Nat, n = (m : Int) := ⟨n.toNat, by omega⟩
  have sb := row_b (w := w) hs m (by omega)
  have sw : s * w ≤ 127 * 22 := Nat.mul_le_mul (by omega) hw22
  have ei : w32 (w32 ((s : Int) * (w : Int)) + (m : Int)) = ((s * w + m : Nat) : Int) := by
    rw [← Int.natCast_mul]
    simp (disch := omega) only [w32_i]
    omega
  rw [if_neg h1, b_45_12 _ _ _ k1 (by rw [k3]; exact k5), k3, k7, hw, ei, if_pos (by omega), Int.toNat_natCast, b_45_29, if_pos (by omega), Int.toNat_natCast]
theorem s_64 {d0 : Nat} (hd : 1 ≤ d0) {M : MM} {R : RR} (hL : Lay R) {P Y s : Nat} (hP7 : P ≤ 7) (hA : aW M P Y) (hs : s < 2 ^ P) : call d0 64 [vA 27, vI s] M R = some (vJ (AL (Wd M) Y s), M, R) := by
  obtain ⟨e, rfl⟩ := s_le hd
  have hpw := p2_7 hP7
  have hev := EV_b hP7
  refine call_of 2 [vA 27, vI s] (by decide) rfl (Nat.le_of_ble_eq_true rfl) rfl ?_ rfl
  rw [b_64_0, if_neg (by omega), b_64_4, hA.1, if_neg (by omega), b_64_12 hL, if_pos (by omega), b_64_22, Int.toNat_natCast, hA.2.1 s hs]
theorem s_65 {d0 : Nat} (hd : 1 ≤ d0) {M : MM} {R : RR} (hL : Lay R) {P Y : Nat} (hP7 : P ≤ 7) (hA : aW M P Y) : call d0 65 [vA 27] M R = some (vJ (AL (Wd M) Y (EV P)), M, R) := by
  obtain ⟨e, rfl⟩ := s_le hd
  have hpw := p2_7 hP7
  have hev := EV_b hP7
  refine call_of 1 [vA 27] (by decide) rfl (Nat.le_of_ble_eq_true rfl) rfl ?_ rfl
  rw [b_65_0 hL, hA.1, if_pos (by omega), Int.toNat_natCast, hA.2.1 _ (EV_lt P)]
theorem s_66 {d0 : Nat} (hd : 2 ≤ d0) {M : MM} {R : RR} (hL : Lay R) {P Y t s : Nat} (hX : XW M R P Y t) (hC : CJ M P Y) (hA : aW M P Y) (hs : s < 2 ^ P) : call d0 66 [vA 27, vI s] M R = some (vJ (UN (Wd M) Y s), M, R) := by
  obtain ⟨e, rfl⟩ := s_le hd
  have hpw := p2_7 hX.2.1
  have hev := EV_b hX.2.1
  refine call_of 2 [vA 27, vI s] (by decide) rfl (Nat.le_of_ble_eq_true rfl) rfl ?_ rfl
  have h := hA.2.2.2.2 s hs
  rw [Dl_64 hX hs] at h
  rw [b_66_0, if_neg (by omega), b_66_4, hA.1, if_neg (by omega), b_66_12 hL, s_45 (by omega) 0 (sp_32 hL) hC.1.2.1.2.1 (by decide) (by omega), bsJ, b_66_21, b_66_25, if_pos (by decide), Nat.mul_one]
  rw [show s + (0 : Int).toNat = s from rfl, h]
theorem s_67 {d0 : Nat} (hd : 3 ≤ d0) {M : MM} {R : RR} (hL : Lay R) {P Y t s : Nat} (hX : XW M R P Y t) (hC : CJ M P Y) (hA : aW M P Y) (hs : s < 2 ^ P) : call d0 67 [vA 27, vI s] M R = some (vJ (AL (Wd M) Y s - UN (Wd M) Y s), M, R) := by
  obtain ⟨e, rfl⟩ := s_le hd
  have h1 := AL_r hX hs
  have h2 : 0 ≤ UN (Wd M) Y s ∧ UN (Wd M) Y s ≤ AL (Wd M) Y s := Dl_ok hX hs 2 1 0
  refine call_of 2 [vA 27, vI s] (by decide) rfl (Nat.le_of_ble_eq_true rfl) rfl ?_ rfl
  rw [b_67_0, s_64 (by omega) hL hX.2.1 hA hs, bsJ, b_67_5, s_66 (by omega) hL hX hC hA hs, bsJ, b_67_10, w64_i (by omega)]
/-- so many or more have one day -/
theorem s_68 {d0 : Nat} (hd : 4 ≤ d0) {M : MM} {R : RR} (hL : Lay R) {P Y t k : Nat} (hX : XW M R P Y t) (hC : PP M P Y) (hk1 : 1 ≤ k) (hk7 : k ≤ 7) : ∃ M', call d0 68 [vA 27, vI k] M R = some (vJ (AL (Wd M) Y (EV P) - Dl (fac (Wd M) (es 2 (k - 1))) Y (bl (EV P)) 0), M', R) ∧ Fx clsO M M' ∧ PP M' P Y := by
  obtain ⟨e, rfl⟩ := s_le hd
  obtain ⟨hP, hP7, hY, hY1, hY24, _⟩ := id hX
  obtain ⟨⟨c, c29⟩, cF, cA, cv⟩ := id hC
  have hpw := p2_7 hP7
  have hev := EV_b hP7
  have hpp := Nat.two_pow_pos P
  obtain ⟨M1, q1, f1, g1, y1⟩ := s_41 (d0 := e + 3) (by omega) (M := M) (so := 2) (lim := k - 1) (sp_35 hL) (by decide) rfl (by decide) c.2.2.2.2.1 c.2.2.2.2.2.1 (by omega)
  have F1 : Fx clsO M M1 := Fx_s f1 (by decide)
  have P1 : PP M1 P Y := PP_f F1 (fun o ho => f1 o (by simp only [List.mem_cons, List.not_mem_nil, or_false] at ho ⊢; omega)) (by rw [g1, upf_n (by decide)]) (by rw [g1, upf_n (by decide)]) hC
  have X1 := XW_f F1 hX
  obtain ⟨M2, q2, f2, y2⟩ := s_43 (d0 := e + 3) (by omega) (M := M1) (o := 35) (pi := 36) (fo := 37) (so := 2) (w := 1) (E := EV P) (oo := M1 29) (c := cc (es 2 (k - 1))) (sp_35 hL) (lay_31 hL) (by decide) (by decide) rfl (by decide) (by have := EV_lt P; omega) (fun A hA => by have := P1.1.2 A (by have := EV_lt P; omega); rw [w64_i (by omega)]) (fun k n hk hn => cc_z (by decide) 8 k n (by omega) hk hn) P1.1.1.2.2.2.2.1 P1.1.1.2.2.2.2.2.1 (fun _ _ => rfl) y1 (fun n h1 h2 => absurd h2 (by omega))
  have F2 : Fx clsO M1 M2 := Fx_s f2 (by decide)
  have P2 : PP M2 P Y := PP_f F2 (fun o ho => f2 o (by simp only [List.mem_cons, List.not_mem_nil, or_false] at ho ⊢; omega)) (by rw [f2 35 (by decide)]) (by rw [f2 35 (by decide)]) P1
  have X2 := XW_f F2 X1
  have W1 : Wx M1 = Wx M := Wx_x F1
  have W2 : Wx M2 = Wx M := by rw [Wx_x F2, W1]
  have r1 := AL_r hX (EV_lt P)
  have r2 := Dl_ok hX (EV_lt P) 2 (k - 1) 0
  refine ⟨M2, ?_, Fx_t F1 F2, P2⟩
  refine call_of 2 [vA 27, vI k] (by decide) rfl (Nat.le_of_ble_eq_true rfl) rfl ?_ rfl
  have hv := y2 (EV P) (Nat.le_refl _) 0 (by decide)
  rw [FS_D (w := Wd M1) (D := Y) (e := es 2 (k - 1)) (by have := EV_lt P; omega) (es_0 2 _) (cc_b (es_0 2 _)) (fun A h1 h2 => P1.2.2.1.2.2.2.1 A h1 (by have := EV_lt P; omega)), Nat.mul_one, Nat.add_zero] at hv
  rw [Wd_e W1] at hv
  have e1 : w32 ((k : Int) - 1) = ((k - 1 : Nat) : Int) := by rw [w32_i (by omega)]; omega
  have e65 := s_65 (d0 := e + 3) (by omega) hL hP7 P2.2.2.1
  rw [Wd_e W2] at e65
  rw [b_68_0 hL, e1, q1, bsX, b_68_10 hL, P1.2.2.1.1, q2, bsX, b_68_25, e65, bsJ, b_68_29 hL, P2.2.2.1.1, s_45 (by omega) 0 (sp_35 hL) P2.1.1.2.2.2.2.2.1 (by decide) (by have := EV_lt P; omega), bsJ, b_68_41, if_pos (by decide), Nat.mul_one]
  rw [show EV P + (0 : Int).toNat = EV P from rfl, hv, w64_sr, w64_i (by omega)]
def NO : Int := -4611686018427387904
/-- meets -/
def v_meets (w : Nat → Nat → Int) (P Y : Nat) (many part : Int) : Int := if 1 ≤ many ∧ many ≤ 7 then fr (AL w Y (EV P) - Dl (fac w (es 2 (many.toNat - 1))) Y (bl (EV P)) 0) (AL w Y (EV P)) part else NO
theorem s_108 {d0 : Nat} (hd : 7 ≤ d0) {M : MM} {R : RR} (hL : Lay R) {P Y t : Nat} (hX : XW M R P Y t) (hC : CJ M P Y) (x y : Int) : ∃ M', call d0 108 [vA 1, vI x, vI y] M R = some (vJ (v_meets (Wd M) P Y x y), M', R) ∧ Fx clsO M M' ∧ CJ M' P Y := by
  obtain ⟨e, rfl⟩ := s_le hd
  have start : ∀ v M', run (call (e + 6)) 108 0 [vA 1, vI x, vI y] [] M R = some (vJ v, M', R) → call (e + 7) 108 [vA 1, vI x, vI y] M R = some (vJ v, M', R) := fun v M' h => call_of 3 [vA 1, vI x, vI y] (by decide) rfl (Nat.le_of_ble_eq_true rfl) rfl h rfl
  unfold v_meets
  by_cases h : 1 ≤ x ∧ x ≤ 7
  · obtain ⟨k, rfl⟩ : ∃ k : Nat, x = (k : Int) := ⟨x.toNat, by omega⟩
    obtain ⟨M1, q1, f1, p1⟩ := p_61 (d0 := e + 6) (by omega) hL hX hC
    have X1 := XW_f f1 hX
    obtain ⟨M2, q2, f2, p2⟩ := s_68 (d0 := e + 6) (by omega) hL X1 p1 (k := k) (by omega) (by omega)
    have W1 : Wx M1 = Wx M := Wx_x f1
    have W2 : Wx M2 = Wx M := by rw [Wx_x f2, W1]
    have e65 := s_65 (d0 := e + 6) (by omega) hL hX.2.1 p2.2.2.1
    rw [Wd_e W2] at e65
    rw [Wd_e W1] at q2
    have r1 := AL_r hX (EV_lt P)
    have r2 := Dl_ok hX (EV_lt P) 2 (k - 1) 0
    refine ⟨M2, start _ _ ?_, Fx_t f1 f2, p2.1⟩
    rw [if_pos h, b_108_0, if_neg (by omega), b_108_5, if_pos (by omega), b_108_15 hL, q1, bsX, b_108_22 hL, q2, bsJ, b_108_30 hL, e65, bsJ, b_108_37, p_158 (by omega) _ _ _ (by omega) (by omega), bsJ, b_108_41, Int.toNat_natCast]
  · refine ⟨M, start _ _ ?_, Fx_r, hC⟩
    rw [if_neg h, b_108_0]
    by_cases h1 : x < 1
    · rw [if_pos h1, b_108_11]; rfl
    · rw [if_neg h1, b_108_5, if_neg (by omega), b_108_11]; rfl
-- the reference
theorem mod_s {o : Nat} {S : List Nat} (hS : ∀ o ∈ S, o ∈ modO) {M M' : MM} (h : Fx S M M') : Fx modO M M' := Fx_s h hS
theorem r_198 {d0 : Nat} (hd : 5 ≤ d0) {M : MM} {R : RR} (hL : Lay R) {P Y t : Nat} (hX : XM M R P Y t) : ∃ M', call d0 198 [vA 57] M R = some (vX 0, M', R) ∧ Fx [72, 73, 74, 75, 76] M M' ∧ RW M M' P Y ∧ ∀ s, s < 2 ^ P → M' 76 s = AL (Wmd M) Y s := by
  obtain ⟨M', q, f, w, y⟩ := s_198 hd hL hX
  exact ⟨M', q, f, w, fun s hs => by rw [y s hs, pr_wp hs (by have := hX.2.1; omega)]; rfl⟩
theorem ALm_r {M : MM} {R : RR} {P Y t s : Nat} (hX : XM M R P Y t) (hs : s < 2 ^ P) : 0 ≤ AL (Wmd M) Y s ∧ AL (Wmd M) Y s ≤ 21936950640377856 := by
  obtain ⟨hP, hP7, hY, hY1, hY24, _⟩ := id hX
  rw [show AL (Wmd M) Y s = pr (fun p => sm (Wm M p) Y) s P from (pr_wp hs (by omega)).symm]
  have h := pr_r (f := fun p => sm (Wm M p) Y) (s := s) (b := 216) (by omega) P (fun p hp => by
    have h := sm_r (f := Wm M p) (b := 9) Y (fun d _ => Wm_r hX hp)
    try dsimp only
    omega)
  have := p216 hP7
  omega
theorem Dlm_ok {M : MM} {R : RR} {P Y t s : Nat} (hX : XM M R P Y t) (hs : s < 2 ^ P) (so lim n : Nat) : 0 ≤ Dl (fac (Wmd M) (es so lim)) Y (bl s) n ∧ Dl (fac (Wmd M) (es so lim)) Y (bl s) n ≤ AL (Wmd M) Y s :=
  Dl_r Y (bl s) n (fun d p _ hp => (Wm_r hX (bl_lt hs hp)).1)
theorem Dlm_64 {M : MM} {R : RR} {P Y t s : Nat} (hX : XM M R P Y t) (hs : s < 2 ^ P) (so lim n : Nat) : w64 (Dl (fac (Wmd M) (es so lim)) Y (bl s) n) = Dl (fac (Wmd M) (es so lim)) Y (bl s) n := by
  have h1 := Dlm_ok hX hs so lim n
  have h2 := ALm_r hX hs
  rw [w64_i (by omega)]
theorem s_205 {d0 : Nat} (hd : 6 ≤ d0) {M : MM} {R : RR} (hL : Lay R) {P Y t : Nat} (hX : XM M R P Y t) (x y : Int) : ∃ M', call d0 205 [vA 57, vI x, vI y] M R = some (vJ (v_meets (Wmd M) P Y x y), M', R) ∧ Fx modO M M' := by
  obtain ⟨e, rfl⟩ := s_le hd
  obtain ⟨hP, hP7, hY, hY1, hY24, _⟩ := id hX
  have hpw := p2_7 hP7
  have hev := EV_b hP7
  have hpp := Nat.two_pow_pos P
  have start : ∀ v M', run (call (e + 5)) 205 0 [vA 57, vI x, vI y, vX 0, vX 0] [] M R = some (vJ v, M', R) → call (e + 6) 205 [vA 57, vI x, vI y] M R = some (vJ v, M', R) := fun v M' h => call_of 5 [vA 57, vI x, vI y, vX 0, vX 0] (by decide) rfl (Nat.le_of_ble_eq_true rfl) rfl h rfl
  unfold v_meets
  by_cases h : 1 ≤ x ∧ x ≤ 7
  · by_cases hy : 0 ≤ y ∧ y ≤ 1
    · obtain ⟨k, rfl⟩ : ∃ k : Nat, x = (k : Int) := ⟨x.toNat, by omega⟩
      obtain ⟨M1, q1, f1, w1, y1⟩ := r_198 (d0 := e + 5) (by omega) hL hX
      have e1 : w32 ((k : Int) - 1) = ((k - 1 : Nat) : Int) := by rw [w32_i (by omega)]; omega
      obtain ⟨M2, q2, f2⟩ := s_204 (d0 := e + 5) (by omega) (M := M1) hL (P := P) (Y := Y) (most := k - 1) (w := Wmd M) (by rw [f1 57 (by decide)]; exact hP) hP7 (by rw [f1 57 (by decide)]; exact hY) hY24 (fun d p hd hp => by
        have h : 0 ≤ Wmd M d p ∧ Wmd M d p ≤ 9 := Wm_r hX hp
        exact ⟨(w1 p hp).1 d hd, h.1, by omega⟩)
      have r1 := ALm_r hX (EV_lt P)
      have r2 := Dlm_ok hX (EV_lt P) 2 (k - 1) 0
      have hlt := EV_lt P
      rw [show 2 ^ P - 1 = EV P from rfl] at q2
      refine ⟨M2, start _ _ ?_, Fx_t (Fx_s f1 (by decide)) (Fx_s f2 (by decide))⟩
      rw [if_pos h, b_205_0, s_162 (by omega), bsI, b_205_7, b2_t (by omega), if_neg (by decide), b_205_10, s_203 (by omega), bsI, b2_t hy, b_205_14, if_pos (by decide), b_205_21, q1, bsX, b_205_25 hL, s_166 (by omega), bsI, f1 57 (by decide), hP, c_ev (by omega), b_205_33 hL, if_pos (by omega), e1, q2, bsJ, b_205_43, Int.toNat_natCast, y1 _ (EV_lt P), w64_sr, w64_i (by omega), p_202 (by omega) _ _ _ (by omega) (by omega) (by omega), bsJ, b_205_49, Int.toNat_natCast]
    · refine ⟨M, start _ _ ?_, Fx_r⟩
      rw [if_pos h, fr_no (by omega), b_205_0, s_162 (by omega), bsI, b_205_7, b2_t (by omega), if_neg (by decide), b_205_10, s_203 (by omega), bsI, b2_f hy, b_205_14, if_neg (by decide), b_205_17]
  · refine ⟨M, start _ _ ?_, Fx_r⟩
    rw [if_neg h, b_205_0, s_162 (by omega), bsI, b_205_7, b2_f h, if_pos rfl, b_205_17]
    rfl
end
