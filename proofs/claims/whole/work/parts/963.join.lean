section
/-! ===== force, person, move ===== -/
abbrev PS := Nat × (Nat → Int) × (Nat → Int) × (Nat → Int)
def JV (Y P : Nat) (k m d : Int) : Int := if (0 ≤ k ∧ k < 6) ∧ (0 ≤ m ∧ m ≤ 9) ∧ (0 ≤ d ∧ d < (Y : Int)) then (if P < 7 then (P : Int) else -4) else -2
def JS (Y : Nat) (k m d : Int) (σ : PS) : PS := if ((0 ≤ k ∧ k < 6) ∧ (0 ≤ m ∧ m ≤ 9) ∧ (0 ≤ d ∧ d < (Y : Int))) ∧ σ.1 < 7 then (σ.1 + 1, upf σ.2.1 σ.1 k, upf σ.2.2.1 σ.1 m, upf σ.2.2.2 σ.1 d) else σ
def CP (M : MM) (σ : PS) : Prop := M 4 0 = (σ.1 : Int) ∧ M 5 = σ.2.1 ∧ M 6 = σ.2.2.1 ∧ M 7 = σ.2.2.2
def RP (M : MM) (σ : PS) : Prop := M 57 2 = (σ.1 : Int) ∧ M 59 = σ.2.1 ∧ M 60 = σ.2.2.1 ∧ M 61 = σ.2.2.2
def RG (Y : Nat) (σ : PS) : Prop := σ.1 ≤ 7 ∧ ∀ p, p < σ.1 → (0 ≤ σ.2.1 p ∧ σ.2.1 p < 6) ∧ (0 ≤ σ.2.2.1 p ∧ σ.2.2.1 p ≤ 9) ∧ (0 ≤ σ.2.2.2 p ∧ σ.2.2.2 p < (Y : Int))
theorem JS_r {Y : Nat} {k m d : Int} {σ : PS} (h : RG Y σ) : RG Y (JS Y k m d σ) ∧ σ.1 ≤ (JS Y k m d σ).1 := by
  unfold JS
  by_cases g : ((0 ≤ k ∧ k < 6) ∧ (0 ≤ m ∧ m ≤ 9) ∧ (0 ≤ d ∧ d < (Y : Int))) ∧ σ.1 < 7
  · rw [if_pos g]
    refine ⟨⟨by show σ.1 + 1 ≤ 7; omega, ?_⟩, by show σ.1 ≤ σ.1 + 1; omega⟩
    intro p hp
    have hp' : p < σ.1 + 1 := hp
    by_cases e : p = σ.1
    · subst e
      show (0 ≤ upf σ.2.1 σ.1 k σ.1 ∧ upf σ.2.1 σ.1 k σ.1 < 6) ∧ (0 ≤ upf σ.2.2.1 σ.1 m σ.1 ∧ upf σ.2.2.1 σ.1 m σ.1 ≤ 9) ∧ (0 ≤ upf σ.2.2.2 σ.1 d σ.1 ∧ upf σ.2.2.2 σ.1 d σ.1 < (Y : Int))
      rw [upf_s, upf_s, upf_s]
      exact g.1
    · show (0 ≤ upf σ.2.1 σ.1 k p ∧ upf σ.2.1 σ.1 k p < 6) ∧ (0 ≤ upf σ.2.2.1 σ.1 m p ∧ upf σ.2.2.1 σ.1 m p ≤ 9) ∧ (0 ≤ upf σ.2.2.2 σ.1 d p ∧ upf σ.2.2.2 σ.1 d p < (Y : Int))
      rw [upf_n e, upf_n e, upf_n e]
      exact h.2 p (by omega)
  · rw [if_neg g]
    exact ⟨h, Nat.le_refl _⟩
theorem cj_one {M M' : MM} {P Y P' p : Nat} (hC : CJ M P Y) (h : ∀ o, o ∈ [23, 24, 27, 29, 32, 33, 34, 35, 38, 39, 40, 41, 42, 43] → M' o = M o) (hv : M' 22 7 = M 22 7 + 1) (hv2 : M 22 7 + 1 < 2000000000) (h0 : M' 25 p = 0) (hq : ∀ q, q < P' → ¬ q = p → q < P ∧ M' 25 q = M 25 q ∧ Wx M' q = Wx M q) : CJ M' P' Y := by
  refine cj_new hC (fun o ho => h o (by simp only [List.mem_cons, List.not_mem_nil, or_false] at ho ⊢; omega)) hv hv2 ?_
  intro q hqP hz
  by_cases e : q = p
  · subst e; exact absurd h0 hz
  · obtain ⟨a1, a2, a3⟩ := hq q hqP e
    rw [a2] at hz
    rw [h 23 (by decide), h 24 (by decide), a3]
    exact hC.1.1 q a1 hz
/-- one comes, to the class -/
theorem s_103 {d0 : Nat} (hd : 3 ≤ d0) {M : MM} {R : RR} (hL : Lay R) {Y : Nat} {σ : PS} (hY : M 2 0 = (Y : Int)) (hP : CP M σ) (hP7 : σ.1 ≤ 7) (hC : CJ M σ.1 Y) (hv : M 22 7 < 1000000) (k m d : Int) : ∃ M', call d0 103 [vA 1, vI k, vI m, vI d] M R = some (vI (JV Y σ.1 k m d), M', R) ∧ Fx [4, 5, 6, 7, 22, 25] M M' ∧ CP M' (JS Y k m d σ) ∧ CJ M' (JS Y k m d σ).1 Y ∧ M' 22 7 ≤ M 22 7 + 1 := by
  obtain ⟨e, rfl⟩ := s_le hd
  have hv0 : 0 < M 22 7 ∧ M 22 7 < 2000000000 := hC.1.2.2.2.2.2.2.1
  obtain ⟨P, kd, mo, tl⟩ := σ
  obtain ⟨h1, h2, h3, h4⟩ := hP
  dsimp only at h1 h2 h3 h4 hP7 hC
  have start : ∀ v M', run (call (e + 2)) 103 0 [vA 1, vI k, vI m, vI d, vX 0] [] M R = some (vI v, M', R) → call (e + 3) 103 [vA 1, vI k, vI m, vI d] M R = some (vI v, M', R) := fun v M' h => call_of 5 [vA 1, vI k, vI m, vI d, vX 0] (by decide) rfl (Nat.le_of_ble_eq_true rfl) rfl h rfl
  unfold JV JS
  dsimp only
  have bad : ¬ ((0 ≤ k ∧ k < 6) ∧ (0 ≤ m ∧ m ≤ 9) ∧ (0 ≤ d ∧ d < (Y : Int))) → run (call (e + 2)) 103 0 [vA 1, vI k, vI m, vI d, vX 0] [] M R = some (vI (-2), M, R) := by
    intro g
    rw [b_103_0, s_15 (by omega), bsI, b_103_4]
    by_cases g1 : 0 ≤ k ∧ k < 6
    · rw [b2_t g1, if_neg (by decide), b_103_7]
      by_cases g2 : m < 0
      · rw [if_pos g2, b_103_28]
      rw [if_neg g2, b_103_11]
      by_cases g3 : 9 < m
      · rw [if_pos g3, b_103_28]
      rw [if_neg g3, b_103_17 hL, s_90 (by omega), bsI, b_103_25, b2_f (by omega), if_neg (by decide), b_103_28]
    · rw [b2_f g1, if_pos rfl, b_103_28]
  by_cases g : (0 ≤ k ∧ k < 6) ∧ (0 ≤ m ∧ m ≤ 9) ∧ (0 ≤ d ∧ d < (Y : Int))
  · have pre : run (call (e + 2)) 103 0 [vA 1, vI k, vI m, vI d, vX 0] [] M R = run (call (e + 2)) 103 31 [vA 1, vI k, vI m, vI d, vX 0] [] M R := by
      rw [b_103_0, s_15 (by omega), bsI, b_103_4, b2_t g.1, if_neg (by decide), b_103_7, if_neg (by omega), b_103_11, if_neg (by omega), b_103_17 hL, s_90 (by omega), bsI, b_103_25, b2_t (by omega), if_pos (by decide)]
    by_cases gP : P < 7
    · rw [if_pos g, if_pos gP, if_pos ⟨g, gP⟩]
      try dsimp only
      obtain ⟨N, hN⟩ : ∃ N, N = up (up (up (up M 5 P k) 6 P m) 7 P d) 4 0 ((P + 1 : Nat) : Int) := ⟨_, rfl⟩
      have FN : Fx [4, 5, 6, 7] M N := by
        rw [hN]
        exact Fx_t (Fx_t (Fx_t (Fx_p (by decide)) (Fx_p (by decide))) (Fx_p (by decide))) (Fx_p (by decide))
      have q10 : call (e + 2) 10 [vA 4, vI k, vI m, vI d] M R = some (vI P, N, R) := by
        refine call_of 5 [vA 4, vI k, vI m, vI d, vX 0] (by decide) rfl (Nat.le_of_ble_eq_true rfl) rfl ?_ rfl
        have e4 : w32 ((up (up (up M 5 P k) 6 P m) 7 P d) 4 0 + 1) = ((P + 1 : Nat) : Int) := by
          rw [up_o (by decide), up_o (by decide), up_o (by decide), h1, w32_i (by omega)]
          omega
        rw [b_10_0, h1, if_neg (by omega), b_10_13 hL, if_pos (by omega), if_pos (by omega), if_pos (by omega), Int.toNat_natCast, b_10_47, e4, hN]
      obtain ⟨M1, q, f1, v1, m1, m2⟩ := s_79 (d0 := e + 2) (by omega) (M := N) hL (p := P) gP (by rw [FN 22 (by decide)]; exact hv0)
      have F : Fx [4, 5, 6, 7, 22, 25] M M1 := Fx_t (Fx_s FN (by decide)) (Fx_s f1 (by decide))
      rw [FN 22 (by decide)] at v1
      rw [FN 25 (by decide)] at m2
      have n4 : M1 4 0 = ((P + 1 : Nat) : Int) := by rw [f1 4 (by decide), hN, up_s]
      have n5 : M1 5 = upf kd P k := by rw [f1 5 (by decide), hN, up_o (by decide), up_o (by decide), up_o (by decide), up_f, h2]
      have n6 : M1 6 = upf mo P m := by rw [f1 6 (by decide), hN, up_o (by decide), up_o (by decide), up_f, up_o (by decide), h3]
      have n7 : M1 7 = upf tl P d := by rw [f1 7 (by decide), hN, up_o (by decide), up_f, up_o (by decide), up_o (by decide), h4]
      refine ⟨M1, start _ _ ?_, F, ⟨n4, n5, n6, n7⟩, ?_, by omega⟩
      · rw [pre, b_103_31 hL, h1, if_pos (by omega), b_103_46 hL, q10, bsI, b_103_56 hL, q, bsX, b_103_67]
      · refine cj_one hC (fun o ho => F o (by simp only [List.mem_cons, List.not_mem_nil, or_false] at ho ⊢; omega)) v1 (by omega) m1 (fun q hq hne => ⟨by omega, m2 q hne, ?_⟩)
        funext d'
        unfold Wx segm
        rw [n5, n6, n7, upf_n hne, upf_n hne, upf_n hne, F 2 (by decide), F 3 (by decide), F 13 (by decide), F 63 (by decide), F 64 (by decide), h2, h3, h4]
    · rw [if_pos g, if_neg gP, if_neg (fun q => gP q.2)]
      refine ⟨M, start _ _ ?_, Fx_r, ⟨h1, h2, h3, h4⟩, hC, by omega⟩
      rw [pre, b_103_31 hL, h1, if_neg (by omega), b_103_43]
  · rw [if_neg g, if_neg (fun q => g q.1)]
    exact ⟨M, start _ _ (bad g), Fx_r, ⟨h1, h2, h3, h4⟩, hC, by omega⟩
/-- one comes, to the reference -/
theorem s_190 {d0 : Nat} (hd : 3 ≤ d0) {M : MM} {R : RR} (hL : Lay R) {Y : Nat} {σ : PS} (hY : M 57 0 = (Y : Int)) (hY24 : Y ≤ 24) (hP : RP M σ) (hP7 : σ.1 ≤ 7) (k m d : Int) : ∃ M', call d0 190 [vA 57, vI k, vI m, vI d] M R = some (vI (JV Y σ.1 k m d), M', R) ∧ Fx [57, 59, 60, 61] M M' ∧ RP M' (JS Y k m d σ) ∧ ∀ i, ¬ i = 2 → M' 57 i = M 57 i := by
  obtain ⟨e, rfl⟩ := s_le hd
  obtain ⟨P, kd, mo, tl⟩ := σ
  obtain ⟨h1, h2, h3, h4⟩ := hP
  dsimp only at h1 h2 h3 h4 hP7
  have start : ∀ v M', run (call (e + 2)) 190 0 [vA 57, vI k, vI m, vI d] [] M R = some (vI v, M', R) → call (e + 3) 190 [vA 57, vI k, vI m, vI d] M R = some (vI v, M', R) := fun v M' h => call_of 4 [vA 57, vI k, vI m, vI d] (by decide) rfl (Nat.le_of_ble_eq_true rfl) rfl h rfl
  have e2 : w32 (M 57 0 - 1) = (Y : Int) - 1 := by rw [w32_i (by omega)]; omega
  unfold JV JS
  dsimp only
  have bad : ¬ ((0 ≤ k ∧ k < 6) ∧ (0 ≤ m ∧ m ≤ 9) ∧ (0 ≤ d ∧ d < (Y : Int))) → run (call (e + 2)) 190 0 [vA 57, vI k, vI m, vI d] [] M R = some (vI (-2), M, R) := by
    intro g
    rw [b_190_0, s_162 (by omega), bsI, b_190_6]
    by_cases g1 : 0 ≤ k ∧ k ≤ 5
    · rw [b2_t g1, if_neg (by decide), b_190_9, s_162 (by omega), bsI, b_190_16]
      by_cases g2 : 0 ≤ m ∧ m ≤ 9
      · rw [b2_t g2, if_neg (by decide), b_190_19, s_164 (by omega), bsI, b_190_24, e2, b2_f (by omega), if_neg (by decide), b_190_27]
      · rw [b2_f g2, if_pos rfl, b_190_27]
    · rw [b2_f g1, if_pos rfl, b_190_27]
  by_cases g : (0 ≤ k ∧ k < 6) ∧ (0 ≤ m ∧ m ≤ 9) ∧ (0 ≤ d ∧ d < (Y : Int))
  · have pre : run (call (e + 2)) 190 0 [vA 57, vI k, vI m, vI d] [] M R = run (call (e + 2)) 190 30 [vA 57, vI k, vI m, vI d] [] M R := by
      rw [b_190_0, s_162 (by omega), bsI, b_190_6, b2_t (by omega), if_neg (by decide), b_190_9, s_162 (by omega), bsI, b_190_16, b2_t (by omega), if_neg (by decide), b_190_19, s_164 (by omega), bsI, b_190_24, e2, b2_t (by omega), if_pos (by decide)]
    by_cases gP : P < 7
    · rw [if_pos g, if_pos gP, if_pos ⟨g, gP⟩]
      try dsimp only
      refine ⟨up (up (up (up M 59 P k) 60 P m) 61 P d) 57 2 ((P + 1 : Nat) : Int), start _ _ ?_, Fx_t (Fx_t (Fx_t (Fx_p (by decide)) (Fx_p (by decide))) (Fx_p (by decide))) (Fx_p (by decide)), ⟨up_s, ?_, ?_, ?_⟩, ?_⟩
      · have e57 : w32 ((P : Int) + 1) = ((P + 1 : Nat) : Int) := by rw [w32_i (by omega)]; omega
        have er : w32 (((P + 1 : Nat) : Int) - 1) = (P : Int) := by rw [w32_i (by omega)]; omega
        rw [pre, b_190_30, h1, if_pos (by omega), b_190_42 hL]
        simp (disch := decide) only [up_o, up_s]
        rw [h1, if_pos (by omega), if_pos (by omega), if_pos (by omega), Int.toNat_natCast, e57, er]
      · show up _ 57 2 _ 59 = _
        rw [up_o (by decide), up_o (by decide), up_o (by decide), up_f, h2]
      · show up _ 57 2 _ 60 = _
        rw [up_o (by decide), up_o (by decide), up_f, up_o (by decide), h3]
      · show up _ 57 2 _ 61 = _
        rw [up_o (by decide), up_f, up_o (by decide), up_o (by decide), h4]
      · intro i hi
        rw [up_i hi, up_o (by decide), up_o (by decide), up_o (by decide)]
    · rw [if_pos g, if_neg gP, if_neg (fun q => gP q.2)]
      refine ⟨M, start _ _ ?_, Fx_r, ⟨h1, h2, h3, h4⟩, fun _ _ => rfl⟩
      rw [pre, b_190_30, h1, if_neg (by omega), b_190_39]
  · rw [if_neg g, if_neg (fun q => g q.1)]
    exact ⟨M, start _ _ (bad g), Fx_r, ⟨h1, h2, h3, h4⟩, fun _ _ => rfl⟩
theorem iv_cp {n P Y T t : Nat} {M : MM} {R : RR} (hI : IV n P Y T t M R) : CP M (P, M 59, M 60, M 61) ∧ RP M (P, M 59, M 60, M 61) ∧ RG Y (P, M 59, M 60, M 61) := by
  obtain ⟨⟨⟨b1, b2, b3⟩, ⟨b4, b5, b6, b7⟩, b8, b9, b10, b11, b12, b13⟩, ⟨p1, p2, p3, p4, p5⟩, _⟩ := id hI
  exact ⟨⟨b1, p2, p3, p4⟩, ⟨b2, rfl, rfl, rfl⟩, b3, p5⟩
/-- after some have come -/
theorem IV_j {n P Y T t : Nat} {M M2 : MM} {R : RR} {σ : PS} (hV : IV n P Y T t M R) (F : Fx [4, 5, 6, 7, 22, 25, 57, 59, 60, 61] M M2) (h57 : ∀ i, ¬ i = 2 → M2 57 i = M 57 i) (hc : CP M2 σ) (hr : RP M2 σ) (hg : RG Y σ) (hP : P ≤ σ.1) (hC : CJ M2 σ.1 Y) (hv : M2 22 7 ≤ M 22 7 + 7) : IV (n + 1) σ.1 Y T t M2 R := by
  obtain ⟨⟨⟨b1, b2, b3⟩, ⟨b4, b5, b6, b7⟩, b8, b9, b10, b11, b12, b13⟩, ⟨p1, p2, p3, p4, p5⟩, _, _, _, hIM, hL, _, hver, _⟩ := id hV
  obtain ⟨c1, c2, c3, c4⟩ := hc
  obtain ⟨r1, r2, r3, r4⟩ := hr
  refine IV_mk hV ⟨⟨c1, r1, hg.1⟩, ⟨by rw [F 2 (by decide)]; exact b4, by rw [h57 0 (by decide)]; exact b5, b6, b7⟩, by rw [F 13 (by decide)]; exact b8, by rw [h57 10 (by decide)]; exact b9, b10, by rw [F 13 (by decide)]; exact b11, by rw [h57 11 (by decide)]; exact b12, b13⟩ ⟨by rw [F 3 (by decide), F 58 (by decide)]; exact p1, by rw [c2, r2], by rw [c3, r3], by rw [c4, r4], by rw [r2, r3, r4]; exact hg.2⟩ (fun o ho => F o (by simp only [List.mem_cons, List.not_mem_nil, or_false]; omega)) ⟨F 8 (by decide), F 9 (by decide), F 62 (by decide), h57 7 (by decide)⟩ (fun o ho => F o (by simp only [List.mem_cons, List.not_mem_nil, or_false]; omega)) (IM_g hP (fun o ho => F o (by simp only [List.mem_cons, List.not_mem_nil, or_false] at ho ⊢; omega)) (h57 12 (by decide)) (h57 13 (by decide)) (h57 14 (by decide)) (h57 15 (by decide)) hIM) hC hv
theorem st_102 {d n : Nat} (hd : 7 ≤ d) (hn : n ≤ 1000) {M : MM} {R : RR} (hI : INV n M R) (x y z : Int) : ST vI d n 102 190 [vI x, vI y, vI z] M R := by
  obtain ⟨P, Y, T, t, hV⟩ := hI
  obtain ⟨e, rfl⟩ := s_le hd
  obtain ⟨⟨⟨b1, b2, b3⟩, ⟨b4, b5, b6, b7⟩, _⟩, _, _, _, _, hIM, hL, hC, hver, _⟩ := id hV
  obtain ⟨c, r, g⟩ := iv_cp hV
  obtain ⟨M1, q1, f1, c1, j1, v1⟩ := s_103 (d0 := e + 6) (by omega) hL b4 c b3 hC (by omega) x y z
  have r' : RP M1 (P, M 59, M 60, M 61) := by
    unfold RP
    rw [f1 57 (by decide), f1 59 (by decide), f1 60 (by decide), f1 61 (by decide)]
    exact r
  obtain ⟨M2, q2, f2, r2, h57⟩ := s_190 (d0 := e + 7) (by omega) hL (by rw [f1 57 (by decide)]; exact b5) b7 r' b3 x y z
  obtain ⟨g1, g2⟩ := JS_r (k := x) (m := y) (d := z) g
  refine ⟨_, M1, R, M2, ?_, q2, _, Y, T, t, IV_j hV (Fx_t (Fx_s f1 (by decide)) (Fx_s f2 (by decide))) (fun i hi => by rw [h57 i hi, f1 57 (by decide)]) ?_ r2 g1 g2 ?_ (by rw [f2 22 (by decide)]; omega)⟩
  · refine call_of 4 [vA 1, vI x, vI y, vI z] (by decide) rfl (Nat.le_of_ble_eq_true rfl) rfl ?_ rfl
    rw [b_102_0, q1, bsI, b_102_7]
  · unfold CP
    rw [f2 4 (by decide), f2 5 (by decide), f2 6 (by decide), f2 7 (by decide)]
    exact c1
  · exact CJ_g (fun o ho => f2 o (by simp only [List.mem_cons, List.not_mem_nil, or_false] at ho ⊢; omega)) j1
theorem st_100 {d n : Nat} (hd : 7 ≤ d) (hn : n ≤ 1000) {M : MM} {R : RR} (hI : INV n M R) (x : Int) : ST vI d n 100 187 [vI x] M R := by
  obtain ⟨P, Y, T, t, hV⟩ := hI
  obtain ⟨e, rfl⟩ := s_le hd
  obtain ⟨⟨⟨b1, b2, b3⟩, ⟨b4, b5, b6, b7⟩, b8, b9, b10, b11, b12, b13⟩, ⟨p1, p2, p3, p4, p5⟩, _, _, _, hIM, hL, hC, hver, _⟩ := id hV
  have hv : 0 < M 22 7 ∧ M 22 7 < 2000000000 := hC.1.2.2.2.2.2.2.1
  have c0 : ∀ v M', run (call (e + 6)) 100 0 [vA 1, vI x, vX 0] [] M R = some (vI v, M', R) → call (e + 7) 100 [vA 1, vI x] M R = some (vI v, M', R) := fun v M' h => call_of 3 [vA 1, vI x, vX 0] (by decide) rfl (Nat.le_of_ble_eq_true rfl) rfl h rfl
  have r0 : ∀ v M1 M', run (call (e + 6)) 187 0 [vA 57, vI x, vX 0] [] M1 R = some (vI v, M', R) → call (e + 7) 187 [vA 57, vI x] M1 R = some (vI v, M', R) := fun v M1 M' h => call_of 3 [vA 57, vI x, vX 0] (by decide) rfl (Nat.le_of_ble_eq_true rfl) rfl h rfl
  have e1 : w32 (M 57 10 - 1) = (T : Int) - 1 := by rw [w32_i (by omega)]; omega
  by_cases hx : 0 ≤ x ∧ x < (T : Int)
  · obtain ⟨k, rfl⟩ : ∃ k : Nat, x = (k : Int) := ⟨x.toNat, by omega⟩
    obtain ⟨M1, q, f1, v1, m1⟩ := s_78 (d0 := e + 6) (by omega) (M := up M 13 6 k) hL (by rw [up_o (by decide)]; exact hv)
    rw [up_o (by decide)] at v1
    have F : Fx [13, 22, 25, 57] M (up M1 57 11 k) := Fx_t (Fx_p (by decide)) (Fx_t (Fx_s f1 (by decide)) (Fx_p (by decide)))
    have e57 : ∀ i, ¬ i = 11 → up M1 57 11 (k : Int) 57 i = M 57 i := fun i hi => by rw [up_i hi, f1 57 (by decide), up_o (by decide)]
    have e13 : ∀ i, ¬ i = 6 → up M1 57 11 (k : Int) 13 i = M 13 i := fun i hi => by rw [up_o (by decide), f1 13 (by decide), up_i hi]
    have e22 : up M1 57 11 (k : Int) 22 = M1 22 := up_o (by decide)
    have e25 : up M1 57 11 (k : Int) 25 = M1 25 := up_o (by decide)
    refine ⟨t, M1, R, up M1 57 11 k, c0 _ _ ?_, r0 _ _ _ ?_, P, Y, T, k, IV_mk hV ⟨⟨by rw [F 4 (by decide)]; exact b1, by rw [e57 2 (by decide)]; exact b2, b3⟩, ⟨by rw [F 2 (by decide)]; exact b4, by rw [e57 0 (by decide)]; exact b5, b6, b7⟩, by rw [e13 5 (by decide)]; exact b8, by rw [e57 10 (by decide)]; exact b9, b10, by rw [up_o (by decide), f1 13 (by decide), up_s], by rw [up_s], by omega⟩ ⟨by rw [F 3 (by decide), F 58 (by decide)]; exact p1, by rw [F 5 (by decide), F 59 (by decide)]; exact p2, by rw [F 6 (by decide), F 60 (by decide)]; exact p3, by rw [F 7 (by decide), F 61 (by decide)]; exact p4, by rw [F 59 (by decide), F 60 (by decide), F 61 (by decide)]; exact p5⟩ (fun o ho => F o (by simp only [List.mem_cons, List.not_mem_nil, or_false]; omega)) ⟨F 8 (by decide), F 9 (by decide), F 62 (by decide), e57 7 (by decide)⟩ (fun o ho => F o (by simp only [List.mem_cons, List.not_mem_nil, or_false]; omega)) (IM_g (Nat.le_refl P) (fun o ho => F o (by simp only [List.mem_cons, List.not_mem_nil, or_false] at ho ⊢; omega)) (e57 12 (by decide)) (e57 13 (by decide)) (e57 14 (by decide)) (e57 15 (by decide)) hIM) ?_ (by rw [e22, v1]; omega)⟩
    · rw [b_100_0 hL, s_4 (by omega), bsI, b_100_8, b2_t (by omega), if_pos (by decide), b_100_14 hL, q, bsX, b_100_37, b11]
    · have g57 : M1 57 = M 57 := by rw [f1 57 (by decide), up_o (by decide)]
      rw [b_187_0, g57, e1, s_162 (by omega), bsI, b_187_11, b2_t (by omega), if_pos (by decide), b_187_17, g57, b12]
    · exact cj_new hC (fun o ho => F o (by simp only [List.mem_cons, List.not_mem_nil, or_false] at ho ⊢; omega)) (by rw [e22, v1]) (by omega) (cw_none b3 (fun p hp => by rw [e25]; exact m1 p hp))
  · refine st_n hV (-2) (c0 _ _ ?_) (r0 _ _ _ ?_)
    · rw [b_100_0 hL, s_4 (by omega), bsI, b_100_8, b2_f (by omega), if_neg (by decide), b_100_11]
    · rw [b_187_0, e1, s_162 (by omega), bsI, b_187_11, b2_f (by omega), if_neg (by decide), b_187_14]
theorem st_104 {d n : Nat} (hd : 7 ≤ d) (hn : n ≤ 1000) {M : MM} {R : RR} (hI : INV n M R) (x y : Int) : ST vI d n 104 191 [vI x, vI y] M R := by
  obtain ⟨P, Y, T, t, hV⟩ := hI
  obtain ⟨e, rfl⟩ := s_le hd
  obtain ⟨⟨⟨b1, b2, b3⟩, ⟨b4, b5, b6, b7⟩, b8, b9, b10, b11, b12, b13⟩, ⟨p1, p2, p3, p4, p5⟩, _, _, _, hIM, hL, hC, hver, _⟩ := id hV
  have hv : 0 < M 22 7 ∧ M 22 7 < 2000000000 := hC.1.2.2.2.2.2.2.1
  have c0 : ∀ v M', run (call (e + 6)) 104 0 [vA 1, vI x, vI y, vX 0] [] M R = some (vI v, M', R) → call (e + 7) 104 [vA 1, vI x, vI y] M R = some (vI v, M', R) := fun v M' h => call_of 4 [vA 1, vI x, vI y, vX 0] (by decide) rfl (Nat.le_of_ble_eq_true rfl) rfl h rfl
  have r0 : ∀ v M1 M', run (call (e + 6)) 191 0 [vA 57, vI x, vI y, vX 0] [] M1 R = some (vI v, M', R) → call (e + 7) 191 [vA 57, vI x, vI y] M1 R = some (vI v, M', R) := fun v M1 M' h => call_of 4 [vA 57, vI x, vI y, vX 0] (by decide) rfl (Nat.le_of_ble_eq_true rfl) rfl h rfl
  have e1 : w32 (M 57 2 - 1) = (P : Int) - 1 := by rw [w32_i (by omega)]; omega
  have e2 : w32 (M 57 0 - 1) = (Y : Int) - 1 := by rw [w32_i (by omega)]; omega
  by_cases hx : 0 ≤ x ∧ x < (P : Int)
  · by_cases hy : 0 ≤ y ∧ y < (Y : Int)
    · obtain ⟨p, rfl⟩ : ∃ k : Nat, x = (k : Int) := ⟨x.toNat, by omega⟩
      obtain ⟨M1, q, f1, v1, m1, m2⟩ := s_79 (d0 := e + 6) (by omega) (M := up M 7 p y) hL (p := p) (by omega) (by rw [up_o (by decide)]; exact hv)
      rw [up_o (by decide)] at v1
      rw [up_o (by decide)] at m2
      have F : Fx [7, 22, 25, 61] M (up M1 61 p y) := Fx_t (Fx_p (by decide)) (Fx_t (Fx_s f1 (by decide)) (Fx_p (by decide)))
      have e22 : up M1 61 p y 22 = M1 22 := up_o (by decide)
      have e25 : up M1 61 p y 25 = M1 25 := up_o (by decide)
      have g57 : M1 57 = M 57 := by rw [f1 57 (by decide), up_o (by decide)]
      have g61 : M1 61 = M 61 := by rw [f1 61 (by decide), up_o (by decide)]
      refine ⟨M 7 p, M1, R, up M1 61 p y, c0 _ _ ?_, r0 _ _ _ ?_, P, Y, T, t, IV_mk hV ⟨⟨by rw [F 4 (by decide)]; exact b1, by rw [F 57 (by decide)]; exact b2, b3⟩, ⟨by rw [F 2 (by decide)]; exact b4, by rw [F 57 (by decide)]; exact b5, b6, b7⟩, by rw [F 13 (by decide)]; exact b8, by rw [F 57 (by decide)]; exact b9, b10, by rw [F 13 (by decide)]; exact b11, by rw [F 57 (by decide)]; exact b12, b13⟩ ⟨by rw [F 3 (by decide), F 58 (by decide)]; exact p1, by rw [F 5 (by decide), F 59 (by decide)]; exact p2, by rw [F 6 (by decide), F 60 (by decide)]; exact p3, ?_, ?_⟩ (fun o ho => F o (by simp only [List.mem_cons, List.not_mem_nil, or_false]; omega)) ⟨F 8 (by decide), F 9 (by decide), F 62 (by decide), by rw [F 57 (by decide)]⟩ (fun o ho => F o (by simp only [List.mem_cons, List.not_mem_nil, or_false]; omega)) (IM_g (Nat.le_refl P) (fun o ho => F o (by simp only [List.mem_cons, List.not_mem_nil, or_false] at ho ⊢; omega)) (by rw [F 57 (by decide)]) (by rw [F 57 (by decide)]) (by rw [F 57 (by decide)]) (by rw [F 57 (by decide)]) hIM) ?_ (by rw [e22, v1]; omega)⟩
      · rw [b_104_0 hL, s_9 (by omega), bsI, b_104_8, b2_t (by omega), if_pos (by decide), b_104_14 hL, s_90 (by omega), bsI, b_104_22, b2_t (by omega), if_pos (by decide), b_104_28 hL, if_pos (by omega), if_pos (by omega), Int.toNat_natCast, q, bsX, b_104_56]
      · rw [b_191_0, s_165 (by omega), bsI, b_191_5, g57, e1, b2_t (by omega), if_pos (by decide), b_191_11, s_164 (by omega), bsI, b_191_16, g57, e2, b2_t (by omega), if_pos (by decide), b_191_22 hL, if_pos (by omega), if_pos (by omega), Int.toNat_natCast, g61, ← p4]
      · rw [up_o (by decide), f1 7 (by decide), up_f, up_f, g61]
        exact upf_e p4
      · intro q' hq'
        rw [F 59 (by decide), F 60 (by decide), up_f, g61]
        have h := p5 q' hq'
        by_cases e : q' = p
        · subst e
          rw [upf_s]
          exact ⟨h.1, h.2.1, hy⟩
        · rw [upf_n e]
          exact h
      · refine cj_one hC (fun o ho => F o (by simp only [List.mem_cons, List.not_mem_nil, or_false] at ho ⊢; omega)) (by rw [e22, v1]) (by omega) (by rw [e25]; exact m1) (fun q' hq' hne => ⟨hq', by rw [e25]; exact m2 q' hne, ?_⟩)
        funext d'
        have e7 : up M1 61 p y 7 q' = M 7 q' := by rw [up_o (by decide), f1 7 (by decide), up_i hne]
        unfold Wx segm
        rw [e7, F 2 (by decide), F 3 (by decide), F 5 (by decide), F 6 (by decide), F 13 (by decide), F 63 (by decide), F 64 (by decide)]
    · refine st_n hV (-7) (c0 _ _ ?_) (r0 _ _ _ ?_)
      · rw [b_104_0 hL, s_9 (by omega), bsI, b_104_8, b2_t (by omega), if_pos (by decide), b_104_14 hL, s_90 (by omega), bsI, b_104_22, b2_f (by omega), if_neg (by decide), b_104_25]
      · rw [b_191_0, s_165 (by omega), bsI, b_191_5, e1, b2_t (by omega), if_pos (by decide), b_191_11, s_164 (by omega), bsI, b_191_16, e2, b2_f (by omega), if_neg (by decide), b_191_19]
  · refine st_n hV (-5) (c0 _ _ ?_) (r0 _ _ _ ?_)
    · rw [b_104_0 hL, s_9 (by omega), bsI, b_104_8, b2_f (by omega), if_neg (by decide), b_104_11]
    · rw [b_191_0, s_165 (by omega), bsI, b_191_5, e1, b2_f (by omega), if_neg (by decide), b_191_8]
end
