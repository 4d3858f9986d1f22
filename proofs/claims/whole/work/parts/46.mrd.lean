/-! ===== specs ===== -/
theorem s_166 {d : Nat} (hd : 1 ≤ d) {M : MM} {R : RR} : call d 166 [vA 57] M R = some (vI (w32 (c_shl 1 (M 57 2) - 1)), M, R) := by
  obtain ⟨e, rfl⟩ := s_le hd
  refine call_of 1 [vA 57] (by decide) rfl (Nat.le_of_ble_eq_true rfl) rfl ?_ (rfl)
  simp (disch := first | assumption | omega | rfl) only [b_166_0, Option.bind_some, pushv_I, pushv_J, pushv_A, pushv_X, b2_z, b2_o, ne_eq, Decidable.not_not]
  repeat' split
  all_goals first
    | rfl
    | (exfalso; omega)
    | (simp (disch := omega) only [b2_t, b2_f, if_pos, if_neg]; done)
/-- WEIGHT as the reference tells it -/
def Wm (M : MM) (p d : Nat) : Int := wgt (M 59 p) (M 60 p) (M 61 p) (M 57 0) d (lvw (segm M (M 57 11).toNat 0) 0 d (M 58 d) (M 57 0) (M 60 p) (M 61 p) p)
theorem Wm_f {M M' : MM} (h : ∀ o, o ∈ [57, 58, 59, 60, 61, 63, 64] → M' o = M o) : Wm M' = Wm M := by
  funext p d
  unfold Wm segm
  rw [h 57 (by decide), h 58 (by decide), h 59 (by decide), h 60 (by decide), h 61 (by decide), h 63 (by decide), h 64 (by decide)]
/-- the reference, where its weights can be told -/
def XM (M : MM) (R : RR) (P Y t : Nat) : Prop := M 57 2 = (P : Int) ∧ P ≤ 7 ∧ M 57 0 = (Y : Int) ∧ 1 ≤ Y ∧ Y ≤ 24 ∧ M 57 11 = (t : Int) ∧ t < 6 ∧ txOk M R t ∧ ∀ p, p < P → (0 ≤ M 59 p ∧ M 59 p < 6) ∧ (0 ≤ M 60 p ∧ M 60 p ≤ 9) ∧ (0 ≤ M 61 p ∧ M 61 p < (Y : Int))
def modO : List Nat := [71, 72, 73, 74, 75, 76, 77, 78, 79, 80, 81, 82]
theorem modO_n {o : Nat} (h : o ≤ 70 ∨ 83 ≤ o) : o ∉ modO := by
  intro e
  simp only [modO, List.mem_cons, List.not_mem_nil, or_false] at e
  omega
theorem XM_f {M M' : MM} {R : RR} {P Y t : Nat} (h : Fx modO M M') (hX : XM M R P Y t) : XM M' R P Y t := by
  obtain ⟨h1, h2, h3, h4, h5, h6, h8, h9, h10⟩ := hX
  have g := fun o (ho : o ≤ 70 ∨ 83 ≤ o) => h o (modO_n ho)
  refine ⟨by rw [g 57 (by omega)]; exact h1, h2, by rw [g 57 (by omega)]; exact h3, h4, h5, by rw [g 57 (by omega)]; exact h6, h8, txOk_f (fun o ho => g o (by omega)) h9, ?_⟩
  rw [g 59 (by omega), g 60 (by omega), g 61 (by omega)]
  exact h10
theorem Wm_x {M M' : MM} (h : Fx modO M M') : Wm M' = Wm M := Wm_f (fun o ho => h o (modO_n (by
  simp only [List.mem_cons, List.not_mem_nil, or_false] at ho
  omega)))
theorem Wm_r {M : MM} {R : RR} {P Y t p d : Nat} (hX : XM M R P Y t) (hp : p < P) : 0 ≤ Wm M p d ∧ Wm M p d ≤ 9 := by
  obtain ⟨h1, h2, h3, h4, h5, h6, h8, h9, h10⟩ := hX
  have q := @lvw_r (segm M (M 57 11).toNat 0) 0 d (M 58 d) (M 57 0) (M 60 p) (M 61 p) p
  rw [if_pos rfl] at q
  exact wgt_r (h10 p hp).2.1.1 q
/-- a product over those of a set -/
def pr (f : Nat → Int) (s : Nat) : Nat → Int
  | 0 => 1
  | n + 1 => if s.testBit n then pr f s n * f n else pr f s n
theorem pr_c {f f' : Nat → Int} {s : Nat} : ∀ n, (∀ i, i < n → f i = f' i) → pr f s n = pr f' s n
  | 0, _ => rfl
  | n + 1, h => by
    show (if s.testBit n then pr f s n * f n else pr f s n) = (if s.testBit n then pr f' s n * f' n else pr f' s n)
    rw [pr_c n (fun i hi => h i (by omega)), h n (by omega)]
theorem pr_r {f : Nat → Int} {s b : Nat} (hb : 1 ≤ b) : ∀ n : Nat, (∀ i, i < n → 0 ≤ f i ∧ f i ≤ b) → 0 ≤ pr f s n ∧ pr f s n ≤ ((b ^ n : Nat) : Int)
  | 0, _ => ⟨by show (0 : Int) ≤ 1; decide, Int.le_refl 1⟩
  | n + 1, h => by
    have a := pr_r (s := s) hb n (fun i hi => h i (by omega))
    have c := h n (by omega)
    show 0 ≤ (if s.testBit n then pr f s n * f n else pr f s n) ∧ (if s.testBit n then pr f s n * f n else pr f s n) ≤ ((b ^ n * b : Nat) : Int)
    have k : ((b ^ n : Nat) : Int) ≤ ((b ^ n * b : Nat) : Int) := Int.ofNat_le.2 (Nat.le_mul_of_pos_right _ hb)
    split
    · refine ⟨Int.mul_nonneg a.1 c.1, ?_⟩
      rw [Int.natCast_mul]
      exact Int.mul_le_mul a.2 c.2 c.1 (Int.natCast_nonneg _)
    · omega
theorem up_up {α : Type} {M : Nat → Nat → α} {o i : Nat} {v w : α} : up (up M o i v) o i w = up M o i w := by
  simp only [up, upf_upf, upf_s]
theorem p216 {n : Nat} (h : n ≤ 7) : ((216 ^ n : Nat) : Int) ≤ 21936950640377856 := by
  have := Nat.pow_le_pow_right (n := 216) (by omega) h
  omega
theorem p2_7 {n : Nat} (h : n ≤ 7) : 2 ^ n ≤ 128 := Nat.pow_le_pow_right (n := 2) (by omega) h
/-- one's weights, day by day -/
theorem t_198 {e : Nat} (he : 4 ≤ e) {M : MM} {R : RR} (hL : Lay R) {P Y t p : Nat} (hX : XM M R P Y t) (hp : p < P) (M0 : MM) (h0 : Fx [72, 73, 74, 75] M M0) (h1 : M0 75 p = 0) : ∃ M1 : MM, run (call e) 198 19 [vA 57, vI p, vI 0] [] M0 R = run (call e) 198 19 [vA 57, vI p, vI Y] [] M1 R ∧ Fx [72, 73, 74, 75] M0 M1 ∧ (∀ d, d < Y → M1 74 (24 * p + d) = Wm M p d) ∧ M1 75 p = sm (Wm M p) Y ∧ (∀ j, ¬ (24 * p ≤ j ∧ j < 24 * p + 24) → M1 74 j = M0 74 j) ∧ (∀ j, ¬ j = p → M1 75 j = M0 75 j) := by
  have hXs := hX
  obtain ⟨hP, hP7, hY, hY1, hY2, ht, ht6, hT, hr⟩ := hXs
  have key := loop_nat (fun d (a : MM) => run (call e) 198 19 [vA 57, vI p, vI d] [] a R) (fun i a => Fx [72, 73, 74, 75] M0 a ∧ (∀ d, d < i → a 74 (24 * p + d) = Wm M p d) ∧ a 75 p = sm (Wm M p) i ∧ (∀ j, ¬ (24 * p ≤ j ∧ j < 24 * p + 24) → a 74 j = M0 74 j) ∧ (∀ j, ¬ j = p → a 75 j = M0 75 j)) Y ?_ M0 ?_
  · obtain ⟨M1, hI, hq⟩ := key
    exact ⟨M1, hq, hI⟩
  · rintro d M1 hd ⟨a1, a2, a3, a4, a5⟩
    have aF : Fx modO M M1 := Fx_t (Fx_s h0 (by decide)) (Fx_s a1 (by decide))
    have hX1 := XM_f aF hX
    obtain ⟨gP, _, gY, _, _, gt, _, gT, gr⟩ := hX1
    have hW := Wm_x aF
    obtain ⟨f, g, q⟩ := s_192 (d0 := e) he (M := M1) hL (t := t) (p := p) (d := d) gT gt ht6 (by omega) (by omega) (by omega) (gr p hp).1 (by have := (gr p hp).2.2; omega) (gr p hp).2.1
    have hw : wgt (M1 59 p) (M1 60 p) (M1 61 p) (M1 57 0) d (lvw (segm M1 t 0) 0 d (M1 58 d) (M1 57 0) (M1 60 p) (M1 61 p) p) = Wm M p d := by
      rw [← hW]
      unfold Wm
      rw [gt, Int.toNat_natCast]
    have hwr := Wm_r (d := d) hX hp
    have hsr := sm_r (f := Wm M p) (b := 9) d (fun i _ => Wm_r hX hp)
    rw [hw] at q
    have ei : w32 (w32 (24 * (p : Int)) + (d : Int)) = ((24 * p + d : Nat) : Int) := by
      simp (disch := omega) only [w32_i]; omega
    have ed : w32 ((d : Int) + 1) = ((d + 1 : Nat) : Int) := by rw [w32_i (by omega)]; omega
    refine ⟨up (up (upf (upf M1 73 f) 72 g) 74 (24 * p + d) (Wm M p d)) 75 p (sm (Wm M p) (d + 1)), ⟨?_, ?_, ?_, ?_, ?_⟩, ?_⟩
    · exact Fx_t a1 (Fx_t (Fx_t (Fx_t (Fx_u (by decide)) (Fx_u (by decide))) (Fx_p (by decide))) (Fx_p (by decide)))
    · intro d' hd'
      rw [up_o (by decide)]
      by_cases h : d' = d
      · subst h; rw [up_s]
      · rw [up_i (by omega), upf_n (by decide), upf_n (by decide)]; exact a2 d' (by omega)
    · rw [up_s]
    · intro j hj
      rw [up_o (by decide), up_i (by omega), upf_n (by decide), upf_n (by decide)]; exact a4 j hj
    · intro j hj
      rw [up_i hj, up_o (by decide), upf_n (by decide), upf_n (by decide)]; exact a5 j hj
    · show run (call e) 198 19 [vA 57, vI p, vI d] [] M1 R = _
      rw [b_198_19, gY, if_neg (by omega), b_198_27 hL, q, Option.bind_some, pushv_I, ei]
      dsimp only
      rw [b_198_43 hL, ei, if_pos (by omega), if_pos (by omega), if_pos (by omega), if_pos (by omega), ed, Int.toNat_natCast, Int.toNat_natCast, up_o (o' := 75) (by decide), upf_n (by decide), upf_n (by decide), a3, up_s, w64_i (by omega)]
      rfl
  · exact ⟨Fx_r, fun d hd => absurd hd (by omega), h1, fun _ _ => rfl, fun _ _ => rfl⟩
/-- all the reference's weights and totals -/
def RW (M M' : MM) (P Y : Nat) : Prop := ∀ p, p < P → (∀ d, d < Y → M' 74 (24 * p + d) = Wm M p d) ∧ M' 75 p = sm (Wm M p) Y
theorem t2_198 {e : Nat} (he : 4 ≤ e) {M : MM} {R : RR} (hL : Lay R) {P Y t : Nat} (hX : XM M R P Y t) (u : AV) : ∃ (u' : AV) (M1 : MM), run (call e) 198 2 [vA 57, vI 0, u] [] M R = run (call e) 198 2 [vA 57, vI P, u'] [] M1 R ∧ Fx [72, 73, 74, 75] M M1 ∧ RW M M1 P Y := by
  have hXs := hX
  obtain ⟨hP, hP7, hY, hY1, hY2, ht, ht6, hT, hr⟩ := hXs
  have key := loop_nat (fun p (a : AV × MM) => run (call e) 198 2 [vA 57, vI p, a.1] [] a.2 R) (fun i a => Fx [72, 73, 74, 75] M a.2 ∧ ∀ p, p < i → (∀ d, d < Y → a.2 74 (24 * p + d) = Wm M p d) ∧ a.2 75 p = sm (Wm M p) Y) P ?_ (u, M) ?_
  · obtain ⟨⟨u', M1⟩, hI, hq⟩ := key
    exact ⟨u', M1, hq, hI⟩
  · rintro p ⟨v, M1⟩ hp ⟨a1, a2⟩
    dsimp only at a1 a2
    have e1 : w32 ((p : Int) + 1) = ((p + 1 : Nat) : Int) := by rw [w32_i (by omega)]; omega
    obtain ⟨M2, q, c1, c2, c3, c4, c5⟩ := t_198 (e := e) he hL hX hp (up M1 75 p 0) (Fx_t a1 (Fx_p (by decide))) up_s
    have cF : Fx [72, 73, 74, 75] M M2 := Fx_t (Fx_t a1 (Fx_p (by decide))) c1
    refine ⟨(vI Y, M2), ⟨cF, ?_⟩, ?_⟩
    · intro p' hp'
      dsimp only
      by_cases h : p' = p
      · subst h
        exact ⟨c2, c3⟩
      · have b2' := a2 p' (by omega)
        rw [c5 p' h, up_i h]
        refine ⟨?_, b2'.2⟩
        intro d hd
        rw [c4 _ (by omega), up_o (by decide)]
        exact b2'.1 d hd
    · show run (call e) 198 2 [vA 57, vI p, v] [] M1 R = run (call e) 198 2 [vA 57, vI ((p + 1 : Nat) : Int), vI Y] [] M2 R
      rw [b_198_2, a1 57 (by decide), hP, if_neg (by omega), b_198_10 hL, if_pos (by omega), Int.toNat_natCast]
      refine q.trans ?_
      rw [b_198_19, cF 57 (by decide), hY, if_pos (by omega), b_198_71, e1]
  · exact ⟨Fx_r, fun p hp => absurd hp (by omega)⟩
/-- one set's product -/
theorem t3_198 {e : Nat} {M : MM} {R : RR} (hL : Lay R) {P s : Nat} {f : Nat → Int} (hP : M 57 2 = (P : Int)) (hP7 : P ≤ 7) (hs : s < 128) (hf : ∀ p, p < P → M 75 p = f p ∧ 0 ≤ f p ∧ f p ≤ 216) : run (call e) 198 96 [vA 57, vI s, vI 0] [] (up M 76 s 1) R = run (call e) 198 96 [vA 57, vI s, vI P] [] (up M 76 s (pr f s P)) R := by
  have key := iter_eq (fun p : Nat => run (call e) 198 96 [vA 57, vI s, vI p] [] (up M 76 s (pr f s p)) R) P ?_
  · exact key
  · intro p hp
    have e1 : w32 ((p : Int) + 1) = ((p + 1 : Nat) : Int) := by rw [w32_i (by omega)]; omega
    have hb := pr_r (f := f) (s := s) (b := 216) (by omega) p (fun i hi => (hf i (by omega)).2)
    have hb2 := pr_r (f := f) (s := s) (b := 216) (by omega) (p + 1) (fun i hi => (hf i (by omega)).2)
    have hc := p216 (n := p) (by omega)
    have hc2 := p216 (n := p + 1) (by omega)
    have hpr : pr f s (p + 1) = if s.testBit p then pr f s p * f p else pr f s p := rfl
    rw [b_198_96, up_o (by decide), hP, if_neg (by omega), b_198_104 hL, if_pos (by omega), c_bit (by omega) (by omega), Int.toNat_natCast, up_s]
    by_cases h : s.testBit p = true
    · rw [if_pos h] at hpr
      rw [b2_t h, if_neg (by decide), b_198_120 hL, if_pos (by omega), b_198_130 hL, if_pos (by omega), e1, Int.toNat_natCast, Int.toNat_natCast, up_o (o' := 75) (by decide), (hf p hp).1, ← hpr, w64_i (by omega), up_up]
    · rw [if_neg h] at hpr
      rw [b2_f h, if_pos (by decide), b_198_129, b_198_130 hL, if_pos (by omega), e1, Int.toNat_natCast, Int.mul_one, w64_i (by omega), hpr, up_up]
theorem s_198 {d0 : Nat} (hd : 5 ≤ d0) {M : MM} {R : RR} (hL : Lay R) {P Y t : Nat} (hX : XM M R P Y t) : ∃ M', call d0 198 [vA 57] M R = some (vX 0, M', R) ∧ Fx [72, 73, 74, 75, 76] M M' ∧ RW M M' P Y ∧ ∀ s, s < 2 ^ P → M' 76 s = pr (fun p => sm (Wm M p) Y) s P := by
  obtain ⟨e, rfl⟩ := s_le hd
  obtain ⟨u', M1, q1, f1, w1⟩ := t2_198 (e := e + 4) (by omega) hL hX (vX 0)
  have hXs := hX
  obtain ⟨hP, hP7, hY, hY1, hY2, ht, ht6, hT, hr⟩ := hXs
  have hpw := p2_7 hP7
  have hpp : 0 < 2 ^ P := Nat.two_pow_pos P
  have key := loop_nat (fun s (a : AV × MM) => run (call (e + 4)) 198 79 [vA 57, vI s, a.1] [] a.2 R) (fun i a => Fx [76] M1 a.2 ∧ ∀ s, s < i → a.2 76 s = pr (fun p => sm (Wm M p) Y) s P) (2 ^ P) ?_ (u', M1) ?_
  · obtain ⟨⟨u2, M2⟩, ⟨a1, a2⟩, hq⟩ := key
    dsimp only at a1 a2
    refine ⟨M2, ?_, Fx_t (Fx_s f1 (by decide)) (Fx_s a1 (by decide)), ?_, a2⟩
    · refine call_of 3 [vA 57, vX 0, vX 0] (by decide) rfl (Nat.le_of_ble_eq_true rfl) rfl ?_ rfl
      rw [b_198_0]
      refine q1.trans ?_
      rw [b_198_2, f1 57 (by decide), hP, if_pos (by omega), b_198_77]
      refine hq.trans ?_
      show run (call (e + 4)) 198 79 [vA 57, vI ((2 ^ P : Nat) : Int), u2] [] M2 R = _
      rw [b_198_79, s_166 (by omega), Option.bind_some, pushv_I, a1 57 (by decide), f1 57 (by decide), hP, c_all (by omega), b_198_84, if_pos (by omega), b_198_144]
    · intro p hp
      rw [a1 74 (by decide), a1 75 (by decide)]
      exact w1 p hp
  · rintro s ⟨v, M2⟩ hs ⟨a1, a2⟩
    dsimp only at a1 a2
    have e1 : w32 ((s : Int) + 1) = ((s + 1 : Nat) : Int) := by rw [w32_i (by omega)]; omega
    have g57 : M2 57 = M 57 := by rw [a1 57 (by decide), f1 57 (by decide)]
    have t3 := t3_198 (e := e + 4) (M := M2) hL (P := P) (s := s) (f := fun p => sm (Wm M p) Y) (by rw [g57]; exact hP) hP7 (by omega) (fun p hp => by
      have h1 := sm_r (f := Wm M p) (b := 9) Y (fun i _ => Wm_r hX hp)
      refine ⟨?_, h1.1, ?_⟩
      · rw [a1 75 (by decide)]; exact (w1 p hp).2
      · have := h1.2
        show sm (Wm M p) Y ≤ 216
        omega)
    refine ⟨(vI P, up M2 76 s (pr (fun p => sm (Wm M p) Y) s P)), ⟨Fx_t a1 (Fx_p (by decide)), ?_⟩, ?_⟩
    · intro s' hs'
      dsimp only
      by_cases h : s' = s
      · subst h; rw [up_s]
      · rw [up_i h]; exact a2 s' (by omega)
    · show run (call (e + 4)) 198 79 [vA 57, vI s, v] [] M2 R = run (call (e + 4)) 198 79 [vA 57, vI ((s + 1 : Nat) : Int), vI P] [] _ R
      rw [b_198_79, s_166 (by omega), Option.bind_some, pushv_I, g57, hP, c_all (by omega), b_198_84, if_neg (by omega), b_198_87 hL, if_pos (by omega), Int.toNat_natCast]
      refine t3.trans ?_
      rw [b_198_96, up_o (by decide), g57, hP, if_pos (by omega), b_198_138, e1]
  · exact ⟨Fx_r, fun p hp => absurd hp (by omega)⟩
