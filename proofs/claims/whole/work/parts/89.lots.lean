section
/-! ===== lots: drawn, odds, film ===== -/
/-- the lot before one's turn, and the day by a lot -/
def lt (seed : Int) : Nat → Int
  | 0 => seed + 1
  | n + 1 => Int.tmod (lt seed n * 48271) 2147483647
def dB (w : Nat → Nat → Int) (Y p : Nat) (lot : Int) : Int := if 0 < sm (fun d => w d p) Y then fi (fun d => decide (Int.tmod lot (sm (fun d => w d p) Y) < sm (fun d => w d p) (d + 1))) Y 0 else -1
def dr (w : Nat → Nat → Int) (Y : Nat) (seed : Int) (p : Nat) : Int := dB w Y p (lt seed (p + 1))
theorem fi_lt (c : Nat → Bool) : ∀ k n, fi c k n < ((n + k : Nat) : Int) ∨ fi c k n = -1
  | 0, _ => .inr rfl
  | k + 1, n => by
    have ih := fi_lt c k (n + 1)
    show (if c n = true then (n : Int) else fi c k (n + 1)) < _ ∨ (if c n = true then (n : Int) else fi c k (n + 1)) = -1
    split <;> omega
theorem dr_r (w : Nat → Nat → Int) (Y : Nat) (seed : Int) (p : Nat) : -1 ≤ dr w Y seed p ∧ dr w Y seed p < (Y : Int) ∨ dr w Y seed p = -1 := by
  unfold dr dB
  split
  · have h1 := fi_lt (fun d => decide (Int.tmod (lt seed (p + 1)) (sm (fun d => w d p) Y) < sm (fun d => w d p) (d + 1))) Y 0
    have h2 := fi_v (fun d => decide (Int.tmod (lt seed (p + 1)) (sm (fun d => w d p) Y) < sm (fun d => w d p) (d + 1))) Y 0
    omega
  · exact .inr rfl
theorem lt_r {seed : Int} (h : 0 ≤ seed ∧ seed ≤ 200000) : ∀ n, 0 ≤ lt seed n ∧ lt seed n < 2147483647
  | 0 => by show 0 ≤ seed + 1 ∧ seed + 1 < 2147483647; omega
  | n + 1 => by
    have ih := lt_r h n
    have e : lt seed (n + 1) = Int.tmod (lt seed n * 48271) 2147483647 := rfl
    rw [e, Int.tmod_eq_emod_of_nonneg (Int.mul_nonneg ih.1 (by decide))]
    exact ⟨Int.emod_nonneg _ (by decide), Int.emod_lt_of_pos _ (by decide)⟩
theorem s_87 {d0 : Nat} (hd : 1 ≤ d0) {M : MM} {R : RR} (hL : Lay R) {P Y t p : Nat} {lot : Int} (hX : XW M R P Y t) (hF : FR M P Y) (hp : p < P) (hl : 0 ≤ lot ∧ lot < 2147483647) : call d0 87 [vA 22, vI p, vJ lot] M R = some (vI (dB (Wd M) Y p lot), M, R) := by
  obtain ⟨e, rfl⟩ := s_le hd
  obtain ⟨hP, hP7, hY, hY1, hY24, _⟩ := id hX
  have g24 : M 24 p = sm (fun d => Wd M d p) Y := (hF p hp).2.2
  have ht := tot_r hX hp
  refine call_of 7 [vA 22, vI p, vJ lot, vX 0, vX 0, vX 0, vX 0] (by decide) rfl (Nat.le_of_ble_eq_true rfl) rfl ?_ rfl
  unfold dB
  rw [b_87_0 hL, if_pos (by omega), Int.toNat_natCast, g24]
  by_cases h : 0 < sm (fun d => Wd M d p) Y
  · have hr : 0 ≤ Int.tmod lot (sm (fun d => Wd M d p) Y) ∧ Int.tmod lot (sm (fun d => Wd M d p) Y) < sm (fun d => Wd M d p) Y := by
      rw [Int.tmod_eq_emod_of_nonneg hl.1]
      exact ⟨Int.emod_nonneg _ (by omega), Int.emod_lt_of_pos _ h⟩
    rw [if_pos h, b_87_11 hL, if_pos (by omega), Int.toNat_natCast, g24, if_pos (by omega), if_pos h]
    generalize Int.tmod lot (sm (fun d => Wd M d p) Y) = r at *
    have key : ∀ k n : Nat, n + k = Y → run (call e) 87 25 [vA 22, vI p, vJ lot, vX 0, vJ (r - sm (fun d => Wd M d p) n), vX 0, vI n] [] M R = some (vI (fi (fun d => decide (r < sm (fun d => Wd M d p) (d + 1))) k n), M, R) := by
      intro k
      induction k with
      | zero =>
        intro n hn
        rw [b_87_25 hL, hY, if_pos (by omega), b_87_71]
        rfl
      | succ k ih =>
        intro n hn
        have e1 : w32 ((n : Int) + 1) = ((n + 1 : Nat) : Int) := by rw [w32_i (by omega)]; omega
        have ei : w32 (w32 ((p : Int) * 24) + (n : Int)) = ((24 * p + n : Nat) : Int) := by
          simp (disch := omega) only [w32_i]; omega
        have g23 : M 23 (24 * p + n) = Wd M n p := (hF p hp).2.1 n (by omega)
        have hs := sm_r (f := fun d => Wd M d p) (b := 9) (n + 1) (fun i _ => Wx_r hX hp)
        have es : sm (fun d => Wd M d p) (n + 1) = sm (fun d => Wd M d p) n + Wd M n p := rfl
        have ef : fi (fun d => decide (r < sm (fun d => Wd M d p) (d + 1))) (k + 1) n = if decide (r < sm (fun d => Wd M d p) (n + 1)) = true then (n : Int) else fi (fun d => decide (r < sm (fun d => Wd M d p) (d + 1))) k (n + 1) := rfl
        have el : r - sm (fun d => Wd M d p) n - Wd M n p = r - sm (fun d => Wd M d p) (n + 1) := by omega
        rw [b_87_25 hL, hY, if_neg (by omega), b_87_37 hL, ei, if_pos (by omega), Int.toNat_natCast, g23, el, w64_i (by omega), ef]
        simp only [lc_ge]
        by_cases g : r < sm (fun d => Wd M d p) (n + 1)
        · rw [if_neg (by omega), b_87_62, if_pos (decide_eq_true g)]
        · rw [if_pos (by omega), b_87_65, e1, ih (n + 1) (by omega), if_neg (fun q => g (of_decide_eq_true q))]
    have k0 := key Y 0 (by omega)
    have e0 : r - sm (fun d => Wd M d p) 0 = r := Int.sub_zero r
    rw [e0] at k0
    exact k0
  · rw [if_neg h, b_87_9, if_neg h]
theorem s_242 {d0 : Nat} (hd : 1 ≤ d0) {M M0 : MM} {R : RR} (hL : Lay R) {P Y t p : Nat} {lot : Int} (hX : XM M0 R P Y t) (h57 : M 57 0 = (Y : Int)) (hF : RW M0 M P Y) (hp : p < P) (hl : 0 ≤ lot ∧ lot < 2147483647) : call d0 242 [vA 57, vI p, vJ lot] M R = some (vI (dB (Wmd M0) Y p lot), M, R) := by
  obtain ⟨e, rfl⟩ := s_le hd
  obtain ⟨hP, hP7, hY, hY1, hY24, _⟩ := id hX
  have g24 : M 75 p = sm (fun d => Wmd M0 d p) Y := (hF p hp).2
  have ht := totm_r hX hp
  refine call_of 9 [vA 57, vI p, vJ lot, vX 0, vX 0, vX 0, vX 0, vX 0, vX 0] (by decide) rfl (Nat.le_of_ble_eq_true rfl) rfl ?_ rfl
  unfold dB
  rw [b_242_0 hL, if_pos (by omega), Int.toNat_natCast, g24]
  simp only [ne_eq, lc_eq]
  by_cases h : 0 < sm (fun d => Wmd M0 d p) Y
  · have hr : 0 ≤ Int.tmod lot (sm (fun d => Wmd M0 d p) Y) ∧ Int.tmod lot (sm (fun d => Wmd M0 d p) Y) < sm (fun d => Wmd M0 d p) Y := by
      rw [Int.tmod_eq_emod_of_nonneg hl.1]
      exact ⟨Int.emod_nonneg _ (by omega), Int.emod_lt_of_pos _ h⟩
    rw [if_pos (by omega), b_242_13 hL, if_pos (by omega), Int.toNat_natCast, g24, if_pos (by omega), if_pos h]
    generalize Int.tmod lot (sm (fun d => Wmd M0 d p) Y) = r at *
    have key : ∀ k n : Nat, n + k = Y → run (call e) 242 29 [vA 57, vI p, vJ lot, vX 0, vJ r, vX 0, vJ (sm (fun d => Wmd M0 d p) n), vX 0, vI n] [] M R = some (vI (fi (fun d => decide (r < sm (fun d => Wmd M0 d p) (d + 1))) k n), M, R) := by
      intro k
      induction k with
      | zero =>
        intro n hn
        rw [b_242_29, h57, if_pos (by omega), b_242_73]
        rfl
      | succ k ih =>
        intro n hn
        have e1 : w32 ((n : Int) + 1) = ((n + 1 : Nat) : Int) := by rw [w32_i (by omega)]; omega
        have ei : w32 (w32 (24 * (p : Int)) + (n : Int)) = ((24 * p + n : Nat) : Int) := by
          simp (disch := omega) only [w32_i]; omega
        have g23 : M 74 (24 * p + n) = Wmd M0 n p := (hF p hp).1 n (by omega)
        have hs := sm_r (f := fun d => Wmd M0 d p) (b := 9) (n + 1) (fun i _ => Wm_r hX hp)
        have es : sm (fun d => Wmd M0 d p) (n + 1) = sm (fun d => Wmd M0 d p) n + Wmd M0 n p := rfl
        have ef : fi (fun d => decide (r < sm (fun d => Wmd M0 d p) (d + 1))) (k + 1) n = if decide (r < sm (fun d => Wmd M0 d p) (n + 1)) = true then (n : Int) else fi (fun d => decide (r < sm (fun d => Wmd M0 d p) (d + 1))) k (n + 1) := rfl
        rw [b_242_29, h57, if_neg (by omega), b_242_38 hL, ei, if_pos (by omega), Int.toNat_natCast, g23, ← es, w64_i (by omega), ef]
        simp only [lc_le]
        by_cases g : r < sm (fun d => Wmd M0 d p) (n + 1)
        · rw [if_neg (by omega), b_242_64, if_pos (decide_eq_true g)]
        · rw [if_pos (by omega), b_242_67, e1, ih (n + 1) (by omega), if_neg (fun q => g (of_decide_eq_true q))]
    exact key Y 0 (by omega)
  · rw [if_neg (by omega), b_242_11, if_neg h]
theorem s_86 {d0 : Nat} (hd : 2 ≤ d0) {M : MM} {R : RR} (hL : Lay R) {P Y t : Nat} {seed : Int} (hX : XW M R P Y t) (hF : FR M P Y) (hs : 0 ≤ seed ∧ seed ≤ 200000) : ∃ M', call d0 86 [vA 22, vI seed] M R = some (vX 0, M', R) ∧ Fx [26] M M' ∧ ∀ p, p < P → M' 26 p = dr (Wd M) Y seed p := by
  obtain ⟨e, rfl⟩ := s_le hd
  obtain ⟨hP, hP7, hY, hY1, hY24, _⟩ := id hX
  obtain ⟨M1, ⟨f1, g1⟩, q⟩ := loop_nat (fun n (a : MM) => run (call (e + 1)) 86 8 [vA 22, vI seed, vJ (lt seed n), vX 0, vI n] [] a R) (fun n a => Fx [26] M a ∧ ∀ p, p < n → a 26 p = dr (Wd M) Y seed p) P (by
    rintro n M1 hn ⟨f1, g1⟩
    have aF : Fx clsO M M1 := Fx_s f1 (by decide)
    have X1 := XW_f aF hX
    have e1 : w32 ((n : Int) + 1) = ((n + 1 : Nat) : Int) := by rw [w32_i (by omega)]; omega
    have hl := lt_r hs n
    have hl1 := lt_r hs (n + 1)
    have el : Int.tmod (w64 (lt seed n * 48271)) 2147483647 = lt seed (n + 1) := by rw [w64_i (by omega)]; rfl
    have q87 := s_87 (d0 := e + 1) (by omega) hL (lot := lt seed (n + 1)) X1 (FR_f aF (fun o ho => f1 o (by simp only [List.mem_cons, List.not_mem_nil, or_false] at ho ⊢; omega)) hF) hn hl1
    rw [Wd_e (Wx_x aF)] at q87
    refine ⟨up M1 26 n (dr (Wd M) Y seed n), ⟨Fx_t f1 (Fx_p (by decide)), fun p hp => ?_⟩, ?_⟩
    · by_cases h : p = n
      · subst h; rw [up_s]
      · rw [up_i h]; exact g1 p (by omega)
    · rw [b_86_8 hL, X1.1, if_neg (by omega), b_86_20 hL, if_pos (by decide), el, q87, bsI, b_86_43 hL, if_pos (by omega), e1, Int.toNat_natCast]
      rfl) M ⟨Fx_r, fun p hp => absurd hp (by omega)⟩
  refine ⟨M1, ?_, f1, g1⟩
  refine call_of 5 [vA 22, vI seed, vX 0, vX 0, vX 0] (by decide) rfl (Nat.le_of_ble_eq_true rfl) rfl ?_ rfl
  rw [b_86_0, w32_i (by omega)]
  refine Eq.trans q ?_
  rw [b_86_8 hL, f1 4 (by decide), hP, if_pos (by omega), b_86_50]
theorem s_243 {d0 : Nat} (hd : 2 ≤ d0) {M M0 : MM} {R : RR} (hL : Lay R) {P Y t : Nat} {seed : Int} (hX : XM M0 R P Y t) (h57 : M 57 = M0 57) (hF : RW M0 M P Y) (hs : 0 ≤ seed ∧ seed ≤ 200000) : ∃ M', call d0 243 [vA 57, vI seed] M R = some (vX 0, M', R) ∧ Fx [82] M M' ∧ ∀ p, p < P → M' 82 p = dr (Wmd M0) Y seed p := by
  obtain ⟨e, rfl⟩ := s_le hd
  obtain ⟨hP, hP7, hY, hY1, hY24, _⟩ := id hX
  obtain ⟨M1, ⟨f1, g1⟩, q⟩ := loop_nat (fun n (a : MM) => run (call (e + 1)) 243 8 [vA 57, vI seed, vJ (lt seed n), vX 0, vI n] [] a R) (fun n a => Fx [82] M a ∧ ∀ p, p < n → a 82 p = dr (Wmd M0) Y seed p) P (by
    rintro n M1 hn ⟨f1, g1⟩
    have g57 : M1 57 = M0 57 := by rw [f1 57 (by decide), h57]
    have e1 : w32 ((n : Int) + 1) = ((n + 1 : Nat) : Int) := by rw [w32_i (by omega)]; omega
    have hl := lt_r hs n
    have hl1 := lt_r hs (n + 1)
    have el : Int.tmod (w64 (lt seed n * 48271)) 2147483647 = lt seed (n + 1) := by rw [w64_i (by omega)]; rfl
    have q87 := s_242 (d0 := e + 1) (by omega) (M := M1) hL (lot := lt seed (n + 1)) hX (by rw [g57]; exact hY) (fun p hp => by rw [f1 74 (by decide), f1 75 (by decide)]; exact hF p hp) hn hl1
    refine ⟨up M1 82 n (dr (Wmd M0) Y seed n), ⟨Fx_t f1 (Fx_p (by decide)), fun p hp => ?_⟩, ?_⟩
    · by_cases h : p = n
      · subst h; rw [up_s]
      · rw [up_i h]; exact g1 p (by omega)
    · rw [b_243_8, g57, hP, if_neg (by omega), b_243_17 hL, if_pos (by decide), el, q87, bsI, b_243_40 hL, if_pos (by omega), e1, Int.toNat_natCast]
      rfl) M ⟨Fx_r, fun p hp => absurd hp (by omega)⟩
  refine ⟨M1, ?_, f1, g1⟩
  refine call_of 5 [vA 57, vI seed, vX 0, vX 0, vX 0] (by decide) rfl (Nat.le_of_ble_eq_true rfl) rfl ?_ rfl
  rw [b_243_0, w64_i (by omega)]
  refine Eq.trans q ?_
  rw [b_243_8, f1 57 (by decide), h57, hP, if_pos (by omega), b_243_47]
theorem p_86 {d0 : Nat} (hd : 2 ≤ d0) {M : MM} {R : RR} (hL : Lay R) {P Y t : Nat} {seed : Int} (hX : XW M R P Y t) (hC : CJ M P Y) (hF : FR M P Y) (hs : 0 ≤ seed ∧ seed ≤ 200000) : ∃ M', call d0 86 [vA 22, vI seed] M R = some (vX 0, M', R) ∧ Fx clsO M M' ∧ CJ M' P Y ∧ FR M' P Y ∧ ∀ p, p < P → M' 26 p = dr (Wd M) Y seed p := by
  obtain ⟨M', q, f, g⟩ := s_86 hd hL hX hF hs
  have F : Fx clsO M M' := Fx_s f (by decide)
  exact ⟨M', q, F, CJ_f F (fun o ho => f o (by simp only [List.mem_cons, List.not_mem_nil, or_false] at ho ⊢; omega)) (by rw [f 35 (by decide)]) (by rw [f 35 (by decide)]) hC, FR_f F (fun o ho => f o (by simp only [List.mem_cons, List.not_mem_nil, or_false] at ho ⊢; omega)) hF, g⟩
def v_drawn (w : Nat → Nat → Int) (P Y : Nat) (seed p : Int) : Int := if 0 ≤ p ∧ p < P then (if 0 ≤ seed ∧ seed ≤ 99999 then dr w Y seed p.toNat else -7) else -5
theorem s_144 {d0 : Nat} (hd : 6 ≤ d0) {M : MM} {R : RR} (hL : Lay R) {P Y t : Nat} (hX : XW M R P Y t) (hC : CJ M P Y) (x y : Int) : ∃ M', call d0 144 [vA 1, vI x, vI y] M R = some (vI (v_drawn (Wd M) P Y x y), M', R) ∧ Fx clsO M M' ∧ CJ M' P Y := by
  obtain ⟨e, rfl⟩ := s_le hd
  obtain ⟨hP, hP7, hY, hY1, hY24, _⟩ := id hX
  have start : ∀ v M', run (call (e + 5)) 144 0 [vA 1, vI x, vI y] [] M R = some (vI v, M', R) → call (e + 6) 144 [vA 1, vI x, vI y] M R = some (vI v, M', R) := fun v M' h => call_of 3 [vA 1, vI x, vI y] (by decide) rfl (Nat.le_of_ble_eq_true rfl) rfl h rfl
  unfold v_drawn
  by_cases h : 0 ≤ y ∧ y < (P : Int)
  · by_cases h2 : 0 ≤ x ∧ x ≤ 99999
    · obtain ⟨p, rfl⟩ : ∃ k : Nat, y = (k : Int) := ⟨y.toNat, by omega⟩
      obtain ⟨M1, q1, f1, c1, r1⟩ := p_80 (d0 := e + 5) (by omega) hL hX hC
      obtain ⟨M2, q2, f2, c2, r2, g2⟩ := p_86 (d0 := e + 5) (by omega) hL (seed := x) (XW_f f1 hX) c1 r1 (by omega)
      rw [Wd_e (Wx_x f1)] at g2
      refine ⟨M2, start _ _ ?_, Fx_t f1 f2, c2⟩
      rw [if_pos h, if_pos h2, b_144_0 hL, s_9 (by omega), bsI, b_144_8, hP, b2_t h, if_pos (by decide), b_144_14, s_143 (by omega), bsI, b_144_18, b2_t h2, if_pos (by decide), b_144_24 hL, q1, bsX, b_144_31 hL, q2, bsX, b_144_39 hL, if_pos (by omega), Int.toNat_natCast, g2 p (by omega)]
    · refine ⟨M, start _ _ ?_, Fx_r, hC⟩
      rw [if_pos h, if_neg h2, b_144_0 hL, s_9 (by omega), bsI, b_144_8, hP, b2_t h, if_pos (by decide), b_144_14, s_143 (by omega), bsI, b_144_18, b2_f h2, if_neg (by decide), b_144_21]
  · refine ⟨M, start _ _ ?_, Fx_r, hC⟩
    rw [if_neg h, b_144_0 hL, s_9 (by omega), bsI, b_144_8, hP, b2_f h, if_neg (by decide), b_144_11]
theorem s_245 {d0 : Nat} (hd : 6 ≤ d0) {M : MM} {R : RR} (hL : Lay R) {P Y t : Nat} (hX : XM M R P Y t) (x y : Int) : ∃ M', call d0 245 [vA 57, vI x, vI y] M R = some (vI (v_drawn (Wmd M) P Y x y), M', R) ∧ Fx modO M M' := by
  obtain ⟨e, rfl⟩ := s_le hd
  obtain ⟨hP, hP7, hY, hY1, hY24, _⟩ := id hX
  have start : ∀ v M', run (call (e + 5)) 245 0 [vA 57, vI x, vI y] [] M R = some (vI v, M', R) → call (e + 6) 245 [vA 57, vI x, vI y] M R = some (vI v, M', R) := fun v M' h => call_of 3 [vA 57, vI x, vI y] (by decide) rfl (Nat.le_of_ble_eq_true rfl) rfl h rfl
  have ep : w32 (M 57 2 - 1) = (P : Int) - 1 := by rw [hP, w32_i (by omega)]
  unfold v_drawn
  by_cases h : 0 ≤ y ∧ y ≤ (P : Int) - 1
  · rw [if_pos (by omega)]
    by_cases h2 : 0 ≤ x ∧ x ≤ 99999
    · obtain ⟨p, rfl⟩ : ∃ k : Nat, y = (k : Int) := ⟨y.toNat, by omega⟩
      obtain ⟨M1, q1, f1, w1, y1⟩ := r_198 (d0 := e + 5) (by omega) hL hX
      obtain ⟨M2, q2, f2, g2⟩ := s_243 (d0 := e + 5) (by omega) (M := M1) hL (seed := x) hX (f1 57 (by decide)) w1 (by omega)
      refine ⟨M2, start _ _ ?_, Fx_t (Fx_s f1 (by decide)) (Fx_s f2 (by decide))⟩
      rw [if_pos h2, b_245_0, s_165 (by omega), bsI, ep, b2_t h, b_245_5, if_pos (by decide), b_245_11, s_244 (by omega), bsI, b2_t h2, b_245_15, if_pos (by decide), b_245_21, q1, bsX, b_245_25, q2, bsX, b_245_30 hL, if_pos (by omega), Int.toNat_natCast, g2 p (by omega)]
    · refine ⟨M, start _ _ ?_, Fx_r⟩
      rw [if_neg h2, b_245_0, s_165 (by omega), bsI, ep, b2_t h, b_245_5, if_pos (by decide), b_245_11, s_244 (by omega), bsI, b2_f h2, b_245_15, if_neg (by decide), b_245_18]
  · refine ⟨M, start _ _ ?_, Fx_r⟩
    rw [if_neg (by omega), b_245_0, s_165 (by omega), bsI, ep, b2_f h, b_245_5, if_neg (by decide), b_245_8]
/-- any two of the drawn have one day -/
def hd2 (f : Nat → Int) : Nat → Nat
  | 0 => 0
  | n + 1 => if 0 ≤ f n then hd2 f n ||| 2 ^ (f n).toNat else hd2 f n
theorem hd2_lt {f : Nat → Int} : ∀ n, (∀ i, i < n → f i < 24) → hd2 f n < 16777216
  | 0, _ => by show 0 < 16777216; decide
  | n + 1, h => by
    have a := hd2_lt n (fun i hi => h i (by omega))
    have b := h n (by omega)
    show (if 0 ≤ f n then hd2 f n ||| 2 ^ (f n).toNat else hd2 f n) < 16777216
    split
    · exact Nat.or_lt_two_pow (n := 24) a (Nat.pow_lt_pow_right (by omega) (by omega))
    · exact a
theorem hd2_t {f : Nat → Int} {j : Nat} : ∀ n, (hd2 f n).testBit j = true ↔ ∃ i, i < n ∧ f i = (j : Int)
  | 0 => by
    show (0 : Nat).testBit j = true ↔ _
    rw [Nat.zero_testBit]
    exact ⟨fun h => absurd h (by decide), fun ⟨i, hi, _⟩ => absurd hi (by omega)⟩
  | n + 1 => by
    show (if 0 ≤ f n then hd2 f n ||| 2 ^ (f n).toNat else hd2 f n).testBit j = true ↔ _
    by_cases h0 : 0 ≤ f n
    · rw [if_pos h0, Nat.testBit_or, Bool.or_eq_true, hd2_t n, Nat.testBit_two_pow, decide_eq_true_eq]
      constructor
      · rintro (⟨i, hi, h⟩ | h)
        · exact ⟨i, by omega, h⟩
        · exact ⟨n, by omega, by omega⟩
      · rintro ⟨i, hi, h⟩
        by_cases g : i = n
        · subst g; exact .inr (by omega)
        · exact .inl ⟨i, by omega, h⟩
    · rw [if_neg h0, hd2_t n]
      constructor
      · rintro ⟨i, hi, h⟩
        exact ⟨i, by omega, h⟩
      · rintro ⟨i, hi, h⟩
        by_cases g : i = n
        · subst g; exact absurd h (by omega)
        · exact ⟨i, by omega, h⟩
def an (c : Nat → Bool) : Nat → Nat → Bool
  | 0, _ => false
  | k + 1, n => if c n = true then true else an c k (n + 1)
def m2 (f : Nat → Int) (p : Nat) : Bool := decide (0 ≤ f p) && (hd2 f p).testBit (f p).toNat
theorem m2_ex {f : Nat → Int} {p : Nat} (h : -1 ≤ f p) : m2 f p = (decide (f p ≠ -1) && ex f p p 0) := by
  unfold m2
  rw [Bool.eq_iff_iff, Bool.and_eq_true, Bool.and_eq_true, decide_eq_true_eq, decide_eq_true_eq, hd2_t, ex_t]
  constructor
  · rintro ⟨h1, i, h2, h3⟩
    exact ⟨by omega, i, by omega, by omega, by omega⟩
  · rintro ⟨h1, i, h2, h3, h4⟩
    exact ⟨by omega, i, by omega, by omega⟩
theorem and_2p (a j : Nat) : a &&& 2 ^ j = if a.testBit j = true then 2 ^ j else 0 := by
  apply Nat.eq_of_testBit_eq
  intro i
  rw [Nat.testBit_and, Nat.testBit_two_pow]
  by_cases g : a.testBit j = true
  · rw [if_pos g, Nat.testBit_two_pow]
    by_cases h : j = i
    · subst h; simp [g]
    · simp [h]
  · rw [if_neg g, Nat.zero_testBit]
    by_cases h : j = i
    · subst h; simp [g]
    · simp [h]
theorem s_88 {d0 : Nat} (hd : 1 ≤ d0) {M : MM} {R : RR} (hL : Lay R) {P : Nat} {f : Nat → Int} (hP : M 4 0 = (P : Int)) (hP7 : P ≤ 7) (hf : ∀ p, p < P → M 26 p = f p ∧ f p < 24) : call d0 88 [vA 22] M R = some (vI (b2 (an (m2 f) P 0 = true)), M, R) := by
  obtain ⟨e, rfl⟩ := s_le hd
  have key : ∀ (k n : Nat) (u : AV), n + k = P → run (call e) 88 4 [vA 22, vI (hd2 f n : Nat), vI n, u] [] M R = some (vI (b2 (an (m2 f) k n = true)), M, R) := by
    intro k
    induction k with
    | zero =>
      intro n u hn
      rw [b_88_4 hL, hP, if_pos (by omega), b_88_55, b2_f (show ¬ an (m2 f) 0 n = true from by show ¬ false = true; decide)]
    | succ k ih =>
      intro n u hn
      have e1 : w32 ((n : Int) + 1) = ((n + 1 : Nat) : Int) := by rw [w32_i (by omega)]; omega
      have hh := hd2_lt n (fun i hi => (hf i (by omega)).2)
      have hfn := hf n (by omega)
      have ea : an (m2 f) (k + 1) n = if m2 f n = true then true else an (m2 f) k (n + 1) := rfl
      have eh : hd2 f (n + 1) = if 0 ≤ f n then hd2 f n ||| 2 ^ (f n).toNat else hd2 f n := rfl
      rw [b_88_4 hL, hP, if_neg (by omega), b_88_15 hL, if_pos (by omega), Int.toNat_natCast, hfn.1, ea]
      by_cases h0 : 0 ≤ f n
      · obtain ⟨j, hj⟩ : ∃ j : Nat, f n = (j : Int) := ⟨(f n).toNat, by omega⟩
        have p2 : 2 ^ j < 2 ^ 24 := Nat.pow_lt_pow_right (by omega) (by omega)
        have em : m2 f n = (hd2 f n).testBit j := by unfold m2; rw [hj, Int.toNat_natCast, decide_eq_true (by omega : (0 : Int) ≤ (j : Int)), Bool.true_and]
        rw [if_pos h0, hj, Int.toNat_natCast] at eh
        rw [if_neg (by omega), b_88_24 hL, if_pos (by omega), Int.toNat_natCast, hfn.1, hj, c_one (by omega), b_88_36, c_and_n (by omega) (by omega), and_2p, em]
        by_cases g : (hd2 f n).testBit j = true
        · rw [if_pos g, if_neg (by have := Nat.two_pow_pos j; omega), b_88_43, if_pos g, b2_t rfl]
        · rw [if_neg g, if_pos (show ((0 : Nat) : Int) = 0 from rfl), b_88_45, c_or_n (by omega) (by omega), ← eh, e1, if_neg g]
          exact ih (n + 1) _ (by omega)
      · rw [if_neg h0] at eh
        have em : ¬ m2 f n = true := by unfold m2; rw [decide_eq_false h0, Bool.false_and]; decide
        rw [if_pos (by omega), b_88_35, b_88_36, show (0 : Int) = ((0 : Nat) : Int) from rfl, c_and_n (by omega) (by omega), Nat.and_zero, if_pos rfl, b_88_45, c_or_n (by omega) (by omega), Nat.or_zero, if_neg em, ← eh]
        rw [show w32 ((n : Int) + 1) = ((n + 1 : Nat) : Int) from e1]
        exact ih (n + 1) _ (by omega)
  refine call_of 4 [vA 22, vX 0, vX 0, vX 0] (by decide) rfl (Nat.le_of_ble_eq_true rfl) rfl ?_ b2_ok
  rw [b_88_0]
  exact key P 0 _ (by omega)
theorem s_247 {d0 : Nat} (hd : 1 ≤ d0) {M : MM} {R : RR} (hL : Lay R) {P : Nat} {f : Nat → Int} (hP : M 57 2 = (P : Int)) (hP7 : P ≤ 7) (hf : ∀ p, p < P → M 82 p = f p ∧ -1 ≤ f p) : call d0 247 [vA 57] M R = some (vI (b2 (an (m2 f) P 0 = true)), M, R) := by
  obtain ⟨e, rfl⟩ := s_le hd
  have inner : ∀ k p o : Nat, o + k = p → p < P → run (call e) 247 12 [vA 57, vI p, vI o] [] M R = if (decide (f p ≠ -1) && ex f p k o) = true then some (vI 1, M, R) else run (call e) 247 50 [vA 57, vI p, vI p] [] M R := by
    intro k
    induction k with
    | zero =>
      intro p o ho hp
      have : o = p := by omega
      subst this
      rw [b_247_12, if_pos (by omega), if_neg (show ¬ (decide (f o ≠ -1) && ex f o 0 o) = true from by show ¬ (decide (f o ≠ -1) && false) = true; rw [Bool.and_false]; decide)]
    | succ k ih =>
      intro p o ho hp
      have e1 : w32 ((o : Int) + 1) = ((o + 1 : Nat) : Int) := by rw [w32_i (by omega)]; omega
      have ee : ex f p (k + 1) o = if f o = f p then true else ex f p k (o + 1) := rfl
      rw [b_247_12, if_neg (by omega), b_247_17 hL, if_pos (by omega), Int.toNat_natCast, (hf p hp).1, ee]
      by_cases g1 : f p = -1
      · rw [if_pos g1, b_247_44, e1, ih p (o + 1) (by omega) hp]
        simp [g1]
      · rw [if_neg g1, b_247_27 hL, if_pos (by omega), if_pos (by omega), Int.toNat_natCast, Int.toNat_natCast, (hf p hp).1, (hf o (by omega)).1]
        by_cases g : f o = f p
        · rw [if_neg (fun q => q g.symm), b_247_42, if_pos g, if_pos (by rw [decide_eq_true g1]; rfl)]
        · rw [if_pos (fun q => g q.symm), b_247_44, e1, ih p (o + 1) (by omega) hp, if_neg g]
  have key : ∀ (k n : Nat) (u : AV), n + k = P → run (call e) 247 2 [vA 57, vI n, u] [] M R = some (vI (b2 (an (m2 f) k n = true)), M, R) := by
    intro k
    induction k with
    | zero =>
      intro n u hn
      rw [b_247_2, hP, if_pos (by omega), b_247_56, b2_f (show ¬ an (m2 f) 0 n = true from by show ¬ false = true; decide)]
    | succ k ih =>
      intro n u hn
      have e1 : w32 ((n : Int) + 1) = ((n + 1 : Nat) : Int) := by rw [w32_i (by omega)]; omega
      have ea : an (m2 f) (k + 1) n = if m2 f n = true then true else an (m2 f) k (n + 1) := rfl
      have h0 := inner n n 0 (by omega) (by omega)
      rw [← m2_ex (hf n (by omega)).2] at h0
      rw [b_247_2, hP, if_neg (by omega), b_247_10]
      refine Eq.trans h0 ?_
      rw [ea]
      by_cases g : m2 f n = true
      · rw [if_pos g, if_pos g, b2_t rfl]
      · rw [if_neg g, if_neg g, b_247_50, e1]
        exact ih (n + 1) _ (by omega)
  refine call_of 3 [vA 57, vX 0, vX 0] (by decide) rfl (Nat.le_of_ble_eq_true rfl) rfl ?_ b2_ok
  rw [b_247_0]
  exact key P 0 _ (by omega)
def mt (w : Nat → Nat → Int) (P Y : Nat) (seed : Int) : Int := b2 (an (m2 (dr w Y seed)) P 0 = true)
def v_odds (w : Nat → Nat → Int) (P Y : Nat) (seed n part : Int) : Int := if (0 ≤ seed ∧ seed ≤ 99999) ∧ 1 ≤ n ∧ n ≤ 50 then fr (sm (fun k => mt w P Y (seed + k)) n.toNat) n part else NO
theorem mt_r (w : Nat → Nat → Int) (P Y : Nat) (s : Int) : 0 ≤ mt w P Y s ∧ mt w P Y s ≤ 1 := by
  unfold mt b2
  split <;> omega
theorem s_146 {d0 : Nat} (hd : 6 ≤ d0) {M : MM} {R : RR} (hL : Lay R) {P Y t : Nat} (hX : XW M R P Y t) (hC : CJ M P Y) (x y z : Int) : ∃ M', call d0 146 [vA 1, vI x, vI y, vI z] M R = some (vJ (v_odds (Wd M) P Y x y z), M', R) ∧ Fx clsO M M' ∧ CJ M' P Y := by
  obtain ⟨e, rfl⟩ := s_le hd
  obtain ⟨hP, hP7, hY, hY1, hY24, _⟩ := id hX
  have start : ∀ v M', run (call (e + 5)) 146 0 [vA 1, vI x, vI y, vI z, vX 0, vX 0] [] M R = some (vJ v, M', R) → call (e + 6) 146 [vA 1, vI x, vI y, vI z] M R = some (vJ v, M', R) := fun v M' h => call_of 6 [vA 1, vI x, vI y, vI z, vX 0, vX 0] (by decide) rfl (Nat.le_of_ble_eq_true rfl) rfl h rfl
  unfold v_odds
  by_cases h : (0 ≤ x ∧ x ≤ 99999) ∧ 1 ≤ y ∧ y ≤ 50
  · obtain ⟨m, rfl⟩ : ∃ k : Nat, y = (k : Int) := ⟨y.toNat, by omega⟩
    obtain ⟨M1, q1, f1, c1, r1⟩ := p_80 (d0 := e + 5) (by omega) hL hX hC
    have W1 := Wd_e (Wx_x f1)
    have hsm : ∀ n : Nat, 0 ≤ sm (fun k => mt (Wd M) P Y (x + k)) n ∧ sm (fun k => mt (Wd M) P Y (x + k)) n ≤ n * 1 := fun n => sm_r n (fun i _ => mt_r _ _ _ _)
    obtain ⟨M2, ⟨a1, a2, a3⟩, q2⟩ := loop_nat (fun n (a : MM) => run (call (e + 5)) 146 35 [vA 1, vI x, vI m, vI z, vI (sm (fun k => mt (Wd M) P Y (x + k)) n), vI n] [] a R) (fun _ a => Fx clsO M a ∧ CJ a P Y ∧ FR a P Y) m (by
      rintro n M2 hn ⟨a1, a2, a3⟩
      have X2 := XW_f a1 hX
      have e1 : w32 ((n : Int) + 1) = ((n + 1 : Nat) : Int) := by rw [w32_i (by omega)]; omega
      have ex1 : w32 (x + (n : Int)) = x + (n : Int) := w32_i (by omega)
      obtain ⟨M3, q3, f3, c3, r3, g3⟩ := p_86 (d0 := e + 5) (by omega) hL (seed := x + n) X2 a2 a3 (by omega)
      rw [Wd_e (Wx_x a1)] at g3
      have X3 := XW_f f3 X2
      have q88 := s_88 (d0 := e + 5) (by omega) (M := M3) hL (f := dr (Wd M) Y (x + n)) X3.1 hP7 (fun p hp => ⟨g3 p hp, by have := dr_r (Wd M) Y (x + n) p; omega⟩)
      have hs := hsm (n + 1)
      have es : sm (fun k => mt (Wd M) P Y (x + k)) (n + 1) = sm (fun k => mt (Wd M) P Y (x + k)) n + mt (Wd M) P Y (x + n) := rfl
      have hsn := hsm n
      refine ⟨M3, ⟨Fx_t a1 f3, c3, r3⟩, ?_⟩
      rw [b_146_35, if_neg (by omega), b_146_41 hL, ex1, q3, bsX, b_146_52 hL, q88, bsI, b_146_59, es]
      unfold mt at hsn es ⊢
      by_cases g : an (m2 (dr (Wd M) Y (x + n))) P 0 = true
      · rw [b2_t g, if_neg (by decide), b_146_62, b_146_65, e1, w32_i (by omega)]
      · rw [b2_f g, if_pos rfl, b_146_65, e1, Int.add_zero]) M1 ⟨f1, c1, r1⟩
    have hs := hsm m
    refine ⟨M2, start _ _ ?_, a1, a2⟩
    rw [if_pos h, Int.toNat_natCast, b_146_0, s_143 (by omega), bsI, b_146_4, b2_t h.1, if_neg (by decide), b_146_7, if_neg (by omega), b_146_12, if_pos (by omega), b_146_22 hL, q1, bsX, b_146_29]
    refine Eq.trans q2 ?_
    rw [b_146_35, if_pos (by omega), b_146_71, p_158 (by omega) _ _ _ (by omega) (by omega), bsJ, b_146_80]
  · refine ⟨M, start _ _ ?_, Fx_r, hC⟩
    rw [if_neg h, b_146_0, s_143 (by omega), bsI, b_146_4]
    by_cases h1 : 0 ≤ x ∧ x ≤ 99999
    · rw [b2_t h1, if_neg (by decide), b_146_7]
      by_cases h2 : y < 1
      · rw [if_pos h2, b_146_18]; rfl
      · rw [if_neg h2, b_146_12, if_neg (by omega), b_146_18]; rfl
    · rw [b2_f h1, if_pos rfl, b_146_18]; rfl
theorem s_248 {d0 : Nat} (hd : 6 ≤ d0) {M : MM} {R : RR} (hL : Lay R) {P Y t : Nat} (hX : XM M R P Y t) (x y z : Int) : ∃ M', call d0 248 [vA 57, vI x, vI y, vI z] M R = some (vJ (v_odds (Wmd M) P Y x y z), M', R) ∧ Fx modO M M' := by
  obtain ⟨e, rfl⟩ := s_le hd
  obtain ⟨hP, hP7, hY, hY1, hY24, _⟩ := id hX
  have start : ∀ v M', run (call (e + 5)) 248 0 [vA 57, vI x, vI y, vI z, vX 0, vX 0, vX 0] [] M R = some (vJ v, M', R) → call (e + 6) 248 [vA 57, vI x, vI y, vI z] M R = some (vJ v, M', R) := fun v M' h => call_of 7 [vA 57, vI x, vI y, vI z, vX 0, vX 0, vX 0] (by decide) rfl (Nat.le_of_ble_eq_true rfl) rfl h rfl
  unfold v_odds
  by_cases h1 : 0 ≤ x ∧ x ≤ 99999
  · by_cases h2 : 1 ≤ y ∧ y ≤ 50
    · rw [if_pos ⟨h1, h2⟩]
      by_cases h3 : 0 ≤ z ∧ z ≤ 1
      · obtain ⟨m, rfl⟩ : ∃ k : Nat, y = (k : Int) := ⟨y.toNat, by omega⟩
        obtain ⟨M1, q1, f1, w1, y1⟩ := r_198 (d0 := e + 5) (by omega) hL hX
        have hsm : ∀ n : Nat, 0 ≤ sm (fun k => mt (Wmd M) P Y (x + k)) n ∧ sm (fun k => mt (Wmd M) P Y (x + k)) n ≤ n * 1 := fun n => sm_r n (fun i _ => mt_r _ _ _ _)
        obtain ⟨M2, a1, q2⟩ := loop_nat (fun n (a : MM) => run (call (e + 5)) 248 38 [vA 57, vI x, vI m, vI z, vJ (sm (fun k => mt (Wmd M) P Y (x + k)) n), vX 0, vI n] [] a R) (fun _ a => Fx [82] M1 a) m (by
          rintro n M2 hn a1
          have e1 : w32 ((n : Int) + 1) = ((n + 1 : Nat) : Int) := by rw [w32_i (by omega)]; omega
          have ex1 : w32 (x + (n : Int)) = x + (n : Int) := w32_i (by omega)
          have g57 : M2 57 = M 57 := by rw [a1 57 (by decide), f1 57 (by decide)]
          obtain ⟨M3, q3, f3, g3⟩ := s_243 (d0 := e + 5) (by omega) (M := M2) hL (seed := x + n) hX g57 (fun p hp => by rw [a1 74 (by decide), a1 75 (by decide)]; exact w1 p hp) (by omega)
          have q88 := s_247 (d0 := e + 5) (by omega) (M := M3) hL (f := dr (Wmd M) Y (x + n)) (by rw [f3 57 (by decide), g57]; exact hP) hP7 (fun p hp => ⟨g3 p hp, by have := dr_r (Wmd M) Y (x + n) p; omega⟩)
          have hs := hsm (n + 1)
          have es : sm (fun k => mt (Wmd M) P Y (x + k)) (n + 1) = sm (fun k => mt (Wmd M) P Y (x + k)) n + mt (Wmd M) P Y (x + n) := rfl
          have hsn := hsm n
          refine ⟨M3, Fx_t a1 f3, ?_⟩
          rw [b_248_38, if_neg (by omega), b_248_44, ex1, q3, bsX, b_248_52, q88, bsI, b_248_58, es]
          unfold mt at hsn es ⊢
          by_cases g : an (m2 (dr (Wmd M) Y (x + n))) P 0 = true
          · rw [b2_t g, if_neg (by decide), b_248_61, b_248_66, e1, w64_i (by omega)]
          · rw [b2_f g, if_pos rfl, b_248_65, b_248_66, e1, Int.add_zero, w64_i (by omega)]) M1 Fx_r
        have hs := hsm m
        refine ⟨M2, start _ _ ?_, Fx_t (Fx_s f1 (by decide)) (Fx_s a1 (by decide))⟩
        rw [Int.toNat_natCast, b_248_0, s_244 (by omega), bsI, b2_t h1, b_248_4, if_neg (by decide), b_248_7, s_162 (by omega), bsI, b2_t h2, b_248_14, if_neg (by decide), b_248_17, s_203 (by omega), bsI, b2_t h3, b_248_21, if_pos (by decide), b_248_28, q1, bsX, b_248_32]
        refine Eq.trans q2 ?_
        rw [b_248_38, if_pos (by omega), b_248_75, p_202 (by omega) _ _ _ (by omega) (by omega) (by omega), bsJ, b_248_83]
      · refine ⟨M, start _ _ ?_, Fx_r⟩
        rw [fr_no (by omega), b_248_0, s_244 (by omega), bsI, b2_t h1, b_248_4, if_neg (by decide), b_248_7, s_162 (by omega), bsI, b2_t h2, b_248_14, if_neg (by decide), b_248_17, s_203 (by omega), bsI, b2_f h3, b_248_21, if_neg (by decide), b_248_24]
    · refine ⟨M, start _ _ ?_, Fx_r⟩
      rw [if_neg (fun q => h2 q.2), b_248_0, s_244 (by omega), bsI, b2_t h1, b_248_4, if_neg (by decide), b_248_7, s_162 (by omega), bsI, b2_f h2, b_248_14, if_pos rfl, b_248_24]
      rfl
  · refine ⟨M, start _ _ ?_, Fx_r⟩
    rw [if_neg (fun q => h1 q.1), b_248_0, s_244 (by omega), bsI, b2_f h1, b_248_4, if_pos rfl, b_248_24]
    rfl
end
