section
/-! ===== the reference's reader is the yard ===== -/
theorem tk_r (B : Nat → Int) {Z q : Nat} (hq : q ≤ Z) : (0 ≤ tkK B Z q ∧ tkK B Z q ≤ 9) ∨ 40 ≤ tkK B Z q := by
  have hb := tk_b B hq
  have c0 := @tk_end B Z q
  have c1 := @tk_let B Z q
  have c2 := @tk_dig B Z q
  have c3 := @tk_one B Z q
  generalize tkE B Z q = ee at hb c0 c1 c2 c3
  generalize tkK B Z q = kk at hb c0 c1 c2 c3 ⊢
  generalize tkV B Z q = vv at c1 c2
  generalize tkN B Z q = nn at c1 c2
  generalize tkS B Z q = s at hb c0 c1 c2 c3
  by_cases g : Z ≤ s
  · obtain ⟨k1, k2⟩ := c0 g
    omega
  · by_cases l : isLt (B s) = true
    · obtain ⟨k1, k2, k3⟩ := c1 g l
      by_cases w0 : wx B s nn < 0
      · rw [if_pos w0] at k2; omega
      · rw [if_neg w0] at k2
        by_cases w6 : wx B s nn < 6
        · rw [if_pos w6] at k2; omega
        · rw [if_neg w6] at k2; omega
    · by_cases dg : isDg (B s) = true
      · obtain ⟨k1, k2, k3⟩ := c2 g l dg
        by_cases h4 : nn ≤ 4
        · rw [if_pos h4] at k2; omega
        · rw [if_neg h4] at k2; omega
      · obtain ⟨k1, k2⟩ := c3 g l dg
        by_cases s' : isSg (B s) = true
        · rw [if_pos s'] at k2
          unfold isSg at s'
          rw [decide_eq_true_eq] at s'
          omega
        · rw [if_neg s'] at k2; omega
theorem s_176 {d : Nat} (hd : 1 ≤ d) {M : MM} {R : RR} (x : Int) : call d 176 [vI x] M R = some (vI (rk x), M, R) := by
  obtain ⟨e, rfl⟩ := s_le hd
  refine call_of 1 [vI x] (by decide) rfl (Nat.le_of_ble_eq_true rfl) rfl ?_ rfl
  unfold rk
  rw [b_176_0]
  by_cases h0 : x = 0
  · rw [if_neg (not_not_intro h0), b_176_4, b_176_71, if_pos h0]
  rw [if_pos h0, b_176_8, if_neg h0]
  by_cases h1 : x = 11
  · rw [if_neg (not_not_intro h1), b_176_14, b_176_71, if_pos h1]
  rw [if_pos h1, b_176_18, if_neg h1]
  by_cases h2 : x = 12
  · rw [if_neg (not_not_intro h2), b_176_24, b_176_71, if_pos h2]
  rw [if_pos h2, b_176_28, if_neg h2]
  by_cases h3 : x = 13
  · rw [if_neg (not_not_intro h3), b_176_34, b_176_71, if_pos h3]
  rw [if_pos h3, b_176_38, if_neg h3]
  by_cases h4 : x ≤ 15
  · rw [if_neg (by omega), b_176_44, b_176_71, if_pos h4]
  rw [if_pos (by omega), b_176_48, if_neg h4]
  by_cases h5 : x ≤ 17
  · rw [if_neg (by omega), b_176_54, b_176_71, if_pos h5]
  rw [if_pos (by omega), b_176_58, if_neg h5]
  by_cases h6 : x = 18
  · rw [if_neg (not_not_intro h6), b_176_64, b_176_71, if_pos h6]
  rw [if_pos h6, b_176_69, b_176_71, if_neg h6]
/-- the reference reads: the signs that wait, the codes that came, of text T -/
def mOk (T : Nat) (H o : List Int) (M : MM) : Prop := (M 57 10 = (T : Int) ∧ T < 6) ∧ M 57 27 = (H.length : Int) ∧ stk (M 71) H.length = H ∧ M 57 28 = opn H ∧ M 57 29 = (o.length : Int) ∧ seg (fun k => M 63 (200 * T + k)) 0 o
/-- what the reading writes -/
def mF (a T : Nat) (M M' : MM) : Prop := Fx [57, 63, 71] M M' ∧ (∀ i, ¬ (a ≤ i ∧ i ≤ 29) → M' 57 i = M 57 i) ∧ ∀ k, k < 200 * T → M' 63 k = M 63 k
theorem mF_r {a T : Nat} {M : MM} : mF a T M M := ⟨Fx_r, fun _ _ => rfl, fun _ _ => rfl⟩
theorem mF_t {a T : Nat} {M M' M'' : MM} (h : mF a T M M') (h' : mF a T M' M'') : mF a T M M'' := ⟨Fx_t h.1 h'.1, fun i hi => (h'.2.1 i hi).trans (h.2.1 i hi), fun k hk => (h'.2.2 k hk).trans (h.2.2 k hk)⟩
theorem mF_m {a b T : Nat} {M M' : MM} (h : mF a T M M') (hb : b ≤ a) : mF b T M M' := ⟨h.1, fun i hi => h.2.1 i (by omega), h.2.2⟩
theorem mF_5 {a T i : Nat} {M : MM} {v : Int} (h : a ≤ i ∧ i ≤ 29) : mF a T M (up M 57 i v) := ⟨Fx_p (by decide), fun j hj => by rw [up_i (by omega)], fun k _ => by rw [up_o (by decide)]⟩
theorem mF_7 {a T i : Nat} {M : MM} {v : Int} : mF a T M (up M 71 i v) := ⟨Fx_p (by decide), fun j hj => by rw [up_o (by decide)], fun k _ => by rw [up_o (by decide)]⟩
theorem mF_6 {a T i : Nat} {M : MM} {v : Int} (h : 200 * T ≤ i) : mF a T M (up M 63 i v) := ⟨Fx_p (by decide), fun j hj => by rw [up_o (by decide)], fun k hk => by rw [up_i (by omega)]⟩
theorem s_177 {d0 : Nat} (hd : 1 ≤ d0) {M : MM} {R : RR} (hL : Lay R) {T : Nat} {H o : List Int} (h : mOk T H o M) (hl : o.length < 200) (x : Int) : ∃ M', call d0 177 [vA 57, vI x] M R = some (vX 0, M', R) ∧ mF 27 T M M' ∧ mOk T H (o ++ [x]) M' := by
  obtain ⟨e, rfl⟩ := s_le hd
  obtain ⟨⟨h0, hT⟩, h1, h2, h3, h4, h5⟩ := h
  have e1 : w32 (w32 (200 * (T : Int)) + (o.length : Int)) = ((200 * T + o.length : Nat) : Int) := by
    simp (disch := omega) only [w32_i]; omega
  have e2 : w32 ((o.length : Int) + 1) = ((o.length + 1 : Nat) : Int) := by rw [w32_i (by omega)]; omega
  refine ⟨up (up M 63 (200 * T + o.length) x) 57 29 ((o.length + 1 : Nat) : Int), ?_, mF_t (mF_6 (by omega)) (mF_5 (by omega)), ⟨?_, hT⟩, ?_, ?_, ?_, ?_, ?_⟩
  · refine call_of 2 [vA 57, vI x] (by decide) rfl (Nat.le_of_ble_eq_true rfl) rfl ?_ rfl
    rw [b_177_0 hL, h0, h4, e1, if_pos (by omega), Int.toNat_natCast, up_o (by decide), h4, e2]
  · rw [up_i (by decide), up_o (by decide)]; exact h0
  · rw [up_i (by decide), up_o (by decide)]; exact h1
  · rw [up_o (by decide), up_o (by decide)]; exact h2
  · rw [up_i (by decide), up_o (by decide)]; exact h3
  · rw [up_s, List.length_append]; rfl
  · rw [up_o (by decide), up_f]
    refine seg_a.2 ⟨seg_c (fun j _ hj => ?_) h5, ?_, trivial⟩
    · show upf (M 63) (200 * T + o.length) x (200 * T + j) = M 63 (200 * T + j)
      rw [upf_n (by omega)]
    · show upf (M 63) (200 * T + o.length) x (200 * T + (0 + o.length)) = x
      rw [Nat.zero_add, upf_s]
theorem s_179 {d0 : Nat} (hd : 1 ≤ d0) {M : MM} {R : RR} (hL : Lay R) {n : Nat} (h : M 57 27 = (n : Int)) (hn : n < 200) (x : Int) : call d0 179 [vA 57, vI x] M R = some (vX 0, up (up M 71 n x) 57 27 ((n + 1 : Nat) : Int), R) := by
  obtain ⟨e, rfl⟩ := s_le hd
  have e2 : w32 ((n : Int) + 1) = ((n + 1 : Nat) : Int) := by rw [w32_i (by omega)]; omega
  refine call_of 2 [vA 57, vI x] (by decide) rfl (Nat.le_of_ble_eq_true rfl) rfl ?_ rfl
  rw [b_179_0 hL, h, if_pos (by omega), Int.toNat_natCast, up_o (by decide), h, e2]
theorem stk_h {f : Nat → Int} {x : Int} {H : List Int} (h : stk f (x :: H).length = x :: H) : f H.length = x ∧ stk f H.length = H := by
  have h : f H.length :: stk f H.length = x :: H := h
  exact ⟨(List.cons.inj h).1, (List.cons.inj h).2⟩
theorem opn_l : ∀ {H : List Int}, opn H ≤ (H.length : Int)
  | [] => Int.le_refl 0
  | x :: H => by
    have := opn_l (H := H)
    show opn H + b2 (x = 0 ∨ x = 13 ∨ x = 19) ≤ ((H.length + 1 : Nat) : Int)
    unfold b2
    split <;> omega
theorem t_178 {e : Nat} (he : 1 ≤ e) {R : RR} (hL : Lay R) {T : Nat} {r : Int} (hr : 0 < r) : ∀ (H o : List Int) (M : MM) (u : AV), mOk T H o M → H.length + o.length < 200 → ∃ M', run (call e) 178 0 [vA 57, vI r, u] [] M R = some (vX 0, M', R) ∧ mF 27 T M M' ∧ mOk T (un r H o).1 (un r H o).2 M'
  | [], o, M, u, h, _ => by
    refine ⟨M, ?_, mF_r, h⟩
    rw [b_178_0, h.2.1, if_pos (by decide), b_178_79]
  | x :: H, o, M, u, h, hl => by
    obtain ⟨h0, h1, h2, h3, h4, h5⟩ := h
    rw [List.length_cons] at hl h1
    obtain ⟨g1, g2⟩ := stk_h h2
    have e1 : w32 (((H.length + 1 : Nat) : Int) - 1) = (H.length : Int) := by rw [w32_i (by omega)]; omega
    have hun : un r (x :: H) o = if r ≤ rk x then un r H (o ++ [x]) else (x :: H, o) := rfl
    rw [b_178_0, h1, if_neg (by omega), b_178_7 hL, h1, e1, if_pos (by omega), Int.toNat_natCast, g1, s_176 he, bsI, b_178_21, hun]
    by_cases g : r ≤ rk x
    · rw [if_neg (by omega), if_pos g, b_178_25 hL, h1, e1]
      simp only [up_s]
      rw [if_pos (by omega), Int.toNat_natCast, up_o (by decide), g1, up_i (by decide), h3]
      have hx0 : ¬ x = 0 := by
        intro hx
        subst hx
        have : rk 0 = 0 := rfl
        omega
      have q67 : ∃ y : Int, (if x = 13 then run (call e) 178 62 [vA 57, vI r, vI x] [vI (opn (x :: H)), vA 57] (up M 57 27 (H.length : Int)) R else run (call e) 178 56 [vA 57, vI r, vI x] [vI (opn (x :: H)), vA 57] (up M 57 27 (H.length : Int)) R) = run (call e) 178 67 [vA 57, vI r, vI x] [vI y, vI (opn (x :: H)), vA 57] (up M 57 27 (H.length : Int)) R ∧ opn H = opn (x :: H) - y := by
        by_cases x13 : x = 13
        · exact ⟨1, by rw [if_pos x13, b_178_62], by rw [opn_o (by omega)]; omega⟩
        · by_cases x19 : x = 19
          · exact ⟨1, by rw [if_neg x13, b_178_56, if_neg (not_not_intro x19), b_178_62], by rw [opn_o (by omega)]; omega⟩
          · exact ⟨0, by rw [if_neg x13, b_178_56, if_pos x19, b_178_66], by rw [opn_n (by omega)]; omega⟩
      obtain ⟨y, q1, q2⟩ := q67
      have ho := opn_0 (H := H)
      have hol := opn_l (H := H)
      rw [q1, b_178_67, ← q2, w32_i (by omega)]
      have m1 : mOk T H o (up (up M 57 27 (H.length : Int)) 57 28 (opn H)) := by
        refine ⟨⟨by rw [up_i (by decide), up_i (by decide)]; exact h0.1, h0.2⟩, by rw [up_i (by decide), up_s], by rw [up_o (by decide), up_o (by decide)]; exact g2, up_s, by rw [up_i (by decide), up_i (by decide)]; exact h4, by rw [up_o (by decide), up_o (by decide)]; exact h5⟩
      obtain ⟨M2, r2, F2, k2⟩ := s_177 (d0 := e) he hL m1 (by omega) x
      obtain ⟨M3, r3, F3, k3⟩ := t_178 he hL hr H (o ++ [x]) M2 (vI x) k2 (by rw [List.length_append, List.length_singleton]; omega)
      refine ⟨M3, ?_, mF_t (mF_t (mF_5 (by omega)) (mF_5 (by omega))) (mF_t F2 F3), k3⟩
      rw [r2, bsX, b_178_76, r3]
    · rw [if_pos (by omega), if_neg g, b_178_79]
      exact ⟨M, rfl, mF_r, h0, by rw [List.length_cons]; exact h1, h2, h3, h4, h5⟩
theorem s_178 {d0 : Nat} (hd : 2 ≤ d0) {M : MM} {R : RR} (hL : Lay R) {T : Nat} {r : Int} (hr : 0 < r) {H o : List Int} (h : mOk T H o M) (hl : H.length + o.length < 200) : ∃ M', call d0 178 [vA 57, vI r] M R = some (vX 0, M', R) ∧ mF 27 T M M' ∧ mOk T (un r H o).1 (un r H o).2 M' := by
  obtain ⟨e, rfl⟩ := s_le hd
  obtain ⟨M', q, F, k⟩ := t_178 (e := e + 1) (by omega) hL hr H o M (vX 0) h hl
  exact ⟨M', call_of 3 [vA 57, vI r, vX 0] (by decide) rfl (Nat.le_of_ble_eq_true rfl) rfl q rfl, F, k⟩
theorem p_hold {d0 : Nat} (hd : 1 ≤ d0) {M : MM} {R : RR} (hL : Lay R) {T : Nat} {H o : List Int} (h : mOk T H o M) (hl : H.length < 200) (x y : Int) (hy : y = opn (x :: H)) : ∃ M', call d0 179 [vA 57, vI x] (up M 57 28 y) R = some (vX 0, M', R) ∧ mF 27 T M M' ∧ mOk T (x :: H) o M' := by
  obtain ⟨h0, h1, h2, h3, h4, h5⟩ := h
  refine ⟨_, s_179 hd hL (by rw [up_i (by decide)]; exact h1) hl x, mF_t (mF_5 (by omega)) (mF_t mF_7 (mF_5 (by omega))), ⟨⟨by rw [up_i (by decide), up_o (by decide), up_i (by decide)]; exact h0.1, h0.2⟩, by rw [up_s, List.length_cons], ?_, ?_, ?_, ?_⟩⟩
  · rw [up_o (by decide), up_f]
    show upf (up M 57 28 y 71) H.length x H.length :: stk (upf (up M 57 28 y 71) H.length x) H.length = x :: H
    rw [upf_s, stk_up _ (Nat.le_refl _), up_o (by decide), h2]
  · rw [up_i (by decide), up_o (by decide), up_s]; exact hy
  · rw [up_i (by decide), up_o (by decide), up_i (by decide)]; exact h4
  · rw [up_o (by decide), up_o (by decide), up_o (by decide)]; exact h5
/-- one more is open -/
theorem s_180 {d0 : Nat} (hd : 2 ≤ d0) {M : MM} {R : RR} (hL : Lay R) {T : Nat} {H o : List Int} (h : mOk T H o M) (hl : H.length < 200) (x : Int) (hx : x = 0 ∨ x = 13 ∨ x = 19) : (opn H = 5 ∧ call d0 180 [vA 57, vI x] M R = some (vI 0, M, R)) ∨ (¬ opn H = 5 ∧ ∃ M', call d0 180 [vA 57, vI x] M R = some (vI 1, M', R) ∧ mF 27 T M M' ∧ mOk T (x :: H) o M') := by
  obtain ⟨e, rfl⟩ := s_le hd
  have h3 := h.2.2.2.1
  have ho := opn_0 (H := H)
  have hol := opn_l (H := H)
  by_cases g : opn H = 5
  · refine .inl ⟨g, ?_⟩
    refine call_of 2 [vA 57, vI x] (by decide) rfl (Nat.le_of_ble_eq_true rfl) rfl ?_ rfl
    rw [b_180_0, h3, if_neg (not_not_intro g), b_180_8]
  · obtain ⟨M', q, F, k⟩ := p_hold (d0 := e + 1) (by omega) hL h hl x (opn H + 1) (opn_o hx).symm
    refine .inr ⟨g, M', ?_, F, k⟩
    refine call_of 2 [vA 57, vI x] (by decide) rfl (Nat.le_of_ble_eq_true rfl) rfl ?_ rfl
    rw [b_180_0, h3, if_pos g, b_180_10, h3, w32_i (by omega), q, bsX, b_180_25]
/-- a sign between two -/
theorem s_181 {d0 : Nat} (hd : 3 ≤ d0) {M : MM} {R : RR} (hL : Lay R) {T : Nat} {H o : List Int} (h : mOk T H o M) (hl : H.length + o.length < 200) (c : Int) (hc : isB c) : (rk c = 4 ∧ (un 5 H o).1 ≠ [] ∧ rk ((un 5 H o).1.headD 0) = 4 ∧ ∃ M', call d0 181 [vA 57, vI c] M R = some (vI 0, M', R) ∧ mF 27 T M M') ∨ (¬ (rk c = 4 ∧ (un 5 H o).1 ≠ [] ∧ rk ((un 5 H o).1.headD 0) = 4) ∧ ∃ M', call d0 181 [vA 57, vI c] M R = some (vI 1, M', R) ∧ mF 27 T M M' ∧ mOk T (c :: (un (if rk c = 4 then 5 else rk c) H o).1) (un (if rk c = 4 then 5 else rk c) H o).2 M') := by
  obtain ⟨e, rfl⟩ := s_le hd
  have hr0 : 0 < (if rk c = 4 then 5 else rk c) := by
    unfold isB at hc
    have : c = 11 ∨ c = 12 ∨ c = 14 ∨ c = 15 ∨ c = 16 ∨ c = 17 ∨ c = 18 := by omega
    rcases this with g | g | g | g | g | g | g <;> subst g <;> decide
  have hno : ¬ (c = 0 ∨ c = 13 ∨ c = 19) := by unfold isB at hc; omega
  obtain ⟨M1, q1, F1, k1⟩ := s_178 (d0 := e + 2) (by omega) hL hr0 h hl
  have hlen := un_len (r := if rk c = 4 then 5 else rk c) (H := H) (o := o)
  have start : ∀ q, run (call (e + 2)) 181 0 [vA 57, vI c] [] M R = some q → (retOk 181 q.1 = true) → call (e + 3) 181 [vA 57, vI c] M R = some q := fun q h g => call_of 2 [vA 57, vI c] (by decide) rfl (Nat.le_of_ble_eq_true rfl) rfl h g
  have q24 : run (call (e + 2)) 181 0 [vA 57, vI c] [] M R = run (call (e + 2)) 181 24 [vA 57, vI c] [vI (rk c)] M1 R := by
    have q17 : run (call (e + 2)) 181 0 [vA 57, vI c] [] M R = run (call (e + 2)) 181 17 [vA 57, vI c] [vI (if rk c = 4 then 5 else rk c), vA 57] M R := by
      rw [b_181_0, s_176 (by omega), bsI, b_181_5]
      by_cases g : rk c = 4
      · rw [if_neg (not_not_intro g), b_181_9, if_pos g]
      · rw [if_pos g, b_181_13, s_176 (by omega), bsI, if_neg g]
    rw [q17, b_181_17, q1, bsX, b_181_20, s_176 (by omega), bsI]
  have hold : run (call (e + 2)) 181 0 [vA 57, vI c] [] M R = run (call (e + 2)) 181 55 [vA 57, vI c] [] M1 R → ∃ M', call (e + 3) 181 [vA 57, vI c] M R = some (vI 1, M', R) ∧ mF 27 T M M' ∧ mOk T (c :: (un (if rk c = 4 then 5 else rk c) H o).1) (un (if rk c = 4 then 5 else rk c) H o).2 M' := by
    intro hq
    obtain ⟨M2, q2, F2, k2⟩ := p_hold (d0 := e + 2) (by omega) hL k1 (by omega) c (opn (un (if rk c = 4 then 5 else rk c) H o).1) (opn_n hno).symm
    have hs : up M1 57 28 (opn (un (if rk c = 4 then 5 else rk c) H o).1) = M1 := by rw [← k1.2.2.2.1, up_self]
    rw [hs] at q2
    refine ⟨M2, start _ ?_ rfl, mF_t F1 F2, k2⟩
    rw [hq, b_181_55, q2, bsX, b_181_60]
  by_cases g : rk c = 4
  · rw [if_pos g] at k1 hlen hold ⊢
    generalize un 5 H o = u at k1 hlen hold ⊢
    obtain ⟨S, o'⟩ := u
    cases S with
    | nil =>
      refine .inr ⟨fun q => q.2.1 rfl, hold ?_⟩
      rw [q24, b_181_24, if_neg (not_not_intro g), b_181_28, k1.2.1, if_pos (by show ((0 : Nat) : Int) ≤ 0; decide)]
    | cons x S =>
      have hlen : (S.length + 1) + o'.length = H.length + o.length := hlen
      have k11 : M1 57 27 = ((S.length + 1 : Nat) : Int) := k1.2.1
      obtain ⟨s1, s2⟩ := stk_h k1.2.2.1
      have e1 : w32 (((S.length + 1 : Nat) : Int) - 1) = (S.length : Int) := by rw [w32_i (by omega)]; omega
      have q49 : run (call (e + 2)) 181 0 [vA 57, vI c] [] M R = run (call (e + 2)) 181 49 [vA 57, vI c] [vI (rk x)] M1 R := by
        rw [q24, b_181_24, if_neg (not_not_intro g), b_181_28, k11, if_neg (by omega), b_181_35 hL, k11, e1, if_pos (by omega), Int.toNat_natCast, s1, s_176 (by omega), bsI]
      by_cases gx : rk x = 4
      · refine .inl ⟨g, List.cons_ne_nil _ _, gx, M1, start _ ?_ rfl, F1⟩
        rw [q49, b_181_49, if_neg (not_not_intro gx), b_181_53]
      · refine .inr ⟨fun q => gx q.2.2, hold ?_⟩
        rw [q49, b_181_49, if_pos gx]
  · refine .inr ⟨fun q => g q.1, hold ?_⟩
    rw [q24, b_181_24, if_pos g]
theorem s_182 {d0 : Nat} (hd : 1 ≤ d0) {M : MM} {R : RR} {k : Int} (hk : M 57 23 = mK k) (hr : (0 ≤ k ∧ k ≤ 9) ∨ 40 ≤ k) : call d0 182 [vA 57] M R = some (vI (so k), M, R) := by
  obtain ⟨e, rfl⟩ := s_le hd
  refine call_of 1 [vA 57] (by decide) rfl (Nat.le_of_ble_eq_true rfl) rfl ?_ rfl
  by_cases g : k = 7 ∨ k = 8 ∨ k = 60 ∨ k = 61 ∨ k = 43 ∨ k = 45 ∨ k = 42
  · rcases g with g | g | g | g | g | g | g
    · subst g
      have hk : M 57 23 = 4 := hk
      rw [b_182_0, hk, if_neg (by decide), b_182_8, b_182_97]; rfl
    · subst g
      have hk : M 57 23 = 5 := hk
      rw [b_182_0, hk, if_pos (by decide), b_182_13, hk, if_neg (by decide), b_182_21, b_182_97]; rfl
    · subst g
      have hk : M 57 23 = 60 := hk
      rw [b_182_0, hk, if_pos (by decide), b_182_13, hk, if_pos (by decide), b_182_26, hk, if_neg (by decide), b_182_35, b_182_97]; rfl
    · subst g
      have hk : M 57 23 = 61 := hk
      rw [b_182_0, hk, if_pos (by decide), b_182_13, hk, if_pos (by decide), b_182_26, hk, if_pos (by decide), b_182_40, hk, if_neg (by decide), b_182_49, b_182_97]; rfl
    · subst g
      have hk : M 57 23 = 43 := hk
      rw [b_182_0, hk, if_pos (by decide), b_182_13, hk, if_pos (by decide), b_182_26, hk, if_pos (by decide), b_182_40, hk, if_pos (by decide), b_182_54, hk, if_neg (by decide), b_182_63, b_182_97]; rfl
    · subst g
      have hk : M 57 23 = 45 := hk
      rw [b_182_0, hk, if_pos (by decide), b_182_13, hk, if_pos (by decide), b_182_26, hk, if_pos (by decide), b_182_40, hk, if_pos (by decide), b_182_54, hk, if_pos (by decide), b_182_68, hk, if_neg (by decide), b_182_77, b_182_97]; rfl
    · subst g
      have hk : M 57 23 = 42 := hk
      rw [b_182_0, hk, if_pos (by decide), b_182_13, hk, if_pos (by decide), b_182_26, hk, if_pos (by decide), b_182_40, hk, if_pos (by decide), b_182_54, hk, if_pos (by decide), b_182_68, hk, if_pos (by decide), b_182_82, hk, if_neg (by decide), b_182_91, b_182_97]; rfl
  · have hm : ¬ mK k = 4 ∧ ¬ mK k = 5 ∧ ¬ mK k = 60 ∧ ¬ mK k = 61 ∧ ¬ mK k = 43 ∧ ¬ mK k = 45 ∧ ¬ mK k = 42 := by
      unfold mK
      refine ⟨?_, ?_, ?_, ?_, ?_, ?_, ?_⟩ <;> (repeat' split) <;> omega
    have hs : so k = -1 := by
      unfold so
      simp (disch := omega) only [if_neg]
    rw [b_182_0, hk, if_pos hm.1, b_182_13, hk, if_pos hm.2.1, b_182_26, hk, if_pos hm.2.2.1, b_182_40, hk, if_pos hm.2.2.2.1, b_182_54, hk, if_pos hm.2.2.2.2.1, b_182_68, hk, if_pos hm.2.2.2.2.2.1, b_182_82, hk, if_pos hm.2.2.2.2.2.2, b_182_96, b_182_97, hs]
end
