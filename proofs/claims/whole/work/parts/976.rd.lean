section
/-! ===== the class's reader: states, single steps ===== -/
theorem tk_v (B : Nat → Int) {Z q : Nat} (hq : q ≤ Z) : (tkK B Z q = 2 → 0 ≤ tkV B Z q ∧ tkV B Z q < 10000) ∧ (tkK B Z q = 3 → 0 ≤ tkV B Z q ∧ tkV B Z q < 6) := by
  have hb := tk_b B hq
  have c0 := @tk_end B Z q
  have c1 := @tk_let B Z q
  have c2 := @tk_dig B Z q
  have c3 := @tk_one B Z q
  have cn : tkN B Z q = tkE B Z q - tkS B Z q := rfl
  generalize tkE B Z q = ee at hb c0 c1 c2 c3 cn
  generalize tkK B Z q = kk at hb c0 c1 c2 c3 ⊢
  generalize tkV B Z q = vv at c1 c2 ⊢
  generalize tkN B Z q = nn at c1 c2 cn
  generalize tkS B Z q = s at hb c0 c1 c2 c3 cn
  by_cases g : Z ≤ s
  · obtain ⟨k1, k2⟩ := c0 g
    exact ⟨fun h => by omega, fun h => by omega⟩
  · by_cases l : isLt (B s) = true
    · obtain ⟨k1, k2, k3⟩ := c1 g l
      have hw := fi_b (c := wmB B s nn) 12 0
      have hw : wx B s nn = -1 ∨ ((0 : Nat) : Int) ≤ wx B s nn ∧ wx B s nn < ((0 : Nat) : Int) + (12 : Nat) := hw
      by_cases w0 : wx B s nn < 0
      · rw [if_pos w0] at k2
        exact ⟨fun h => by omega, fun h => by omega⟩
      · rw [if_neg w0] at k2
        by_cases w6 : wx B s nn < 6
        · rw [if_pos w6] at k2
          exact ⟨fun h => by omega, fun h => by omega⟩
        · rw [if_neg w6] at k2
          exact ⟨fun h => by omega, fun h => by omega⟩
    · by_cases dg : isDg (B s) = true
      · obtain ⟨k1, k2, k3⟩ := c2 g l dg
        by_cases h4 : nn ≤ 4
        · rw [if_pos h4] at k2
          have hk := skp_ok isDg B (Z - s) s
          rw [← k1] at hk
          have hr := dv_r (B := B) (p := s) nn (fun i hi => by
            have := hk.2.2.1 (s + i) (by omega) (by omega)
            unfold isDg at this
            rw [decide_eq_true_eq] at this
            exact this)
          have hp : 10 ^ nn ≤ 10000 := Nat.pow_le_pow_right (n := 10) (by omega) (by omega : nn ≤ 4)
          generalize 10 ^ nn = z at *
          exact ⟨fun h => by omega, fun h => by omega⟩
        · rw [if_neg h4] at k2
          exact ⟨fun h => by omega, fun h => by omega⟩
      · obtain ⟨k1, k2⟩ := c3 g l dg
        by_cases s' : isSg (B s) = true
        · have := sg_n s'
          rw [if_pos s'] at k2
          exact ⟨fun h => by omega, fun h => by omega⟩
        · rw [if_neg s'] at k2
          exact ⟨fun h => by omega, fun h => by omega⟩
abbrev rdO : List Nat := [8, 10, 11]
/-- the class reads on: the token at q comes, these are the codes so far -/
def cOk (B : Nat → Int) (Z q : Nat) (oc : List Int) (M : MM) : Prop := BY M 9 B Z ∧ M 8 1 = (Z : Int) ∧ M 8 5 = ((tkE B Z q : Nat) : Int) ∧ M 8 4 = ((tkS B Z q : Nat) : Int) ∧ M 8 2 = tkK B Z q ∧ (tkK B Z q = 2 ∨ tkK B Z q = 3 → M 8 3 = tkV B Z q) ∧ M 10 4 = -1 ∧ M 10 3 = (oc.length : Int) ∧ seg (M 11) 0 (oc.map xop)
/-- a fault was there -/
def cNo (f : Nat) (M : MM) : Prop := M 8 2 = 1 ∧ M 10 4 = (f : Int) ∧ 0 ≤ M 10 3 ∧ M 10 3 ≤ 160
theorem p_next {d0 : Nat} (hd : 3 ≤ d0) {M : MM} {R : RR} (hL : Lay R) {B : Nat → Int} {Z q : Nat} {oc : List Int} (hq : q ≤ Z) (h : cOk B Z q oc M) : ∃ M', call d0 49 [vA 8] M R = some (vX 0, M', R) ∧ Fx rdO M M' ∧ cOk B Z (tkE B Z q) oc M' := by
  obtain ⟨h0, h1, h2, h3, h4, h5, h6, h7, h8⟩ := h
  have hb := tk_b B hq
  obtain ⟨M', q1, F, m0, m5, m4, m2, m3⟩ := s_49 hd hL h0 h1 h2 (by omega)
  refine ⟨M', q1, Fx_s F (by decide), ⟨h0.1, fun i hi => by rw [F 9 (by decide)]; exact h0.2 i hi⟩, by rw [m0 1 (by decide) (by decide) (by decide) (by decide)]; exact h1, m5, m4, m2, m3, by rw [F 10 (by decide)]; exact h6, by rw [F 10 (by decide)]; exact h7, by rw [F 11 (by decide)]; exact h8⟩
theorem s_25 {d0 : Nat} (hd : 1 ≤ d0) {M : MM} {R : RR} (hL : Lay R) {n : Nat} (h3 : M 10 3 = (n : Int)) (hn : n < 160) (x : Int) : call d0 25 [vA 10, vI x] M R = some (vX 0, up (up M 11 n x) 10 3 ((n + 1 : Nat) : Int), R) := by
  obtain ⟨e, rfl⟩ := s_le hd
  have e1 : w32 ((n : Int) + 1) = ((n + 1 : Nat) : Int) := by rw [w32_i (by omega)]; omega
  refine call_of 2 [vA 10, vI x] (by decide) rfl (Nat.le_of_ble_eq_true rfl) rfl ?_ rfl
  rw [b_25_0 hL, h3, if_neg (by omega), b_25_12 hL, h3, if_pos (by omega), Int.toNat_natCast, up_o (by decide), h3, e1, b_25_32]
theorem p_put {d0 : Nat} (hd : 1 ≤ d0) {M : MM} {R : RR} (hL : Lay R) {B : Nat → Int} {Z q : Nat} {oc : List Int} (h : cOk B Z q oc M) (hl : oc.length < 160) (c x : Int) (hx : x = xop c) : ∃ M', call d0 25 [vA 10, vI x] M R = some (vX 0, M', R) ∧ Fx rdO M M' ∧ cOk B Z q (oc ++ [c]) M' := by
  obtain ⟨h0, h1, h2, h3, h4, h5, h6, h7, h8⟩ := h
  refine ⟨_, s_25 hd hL h7 hl x, Fx_t (Fx_p (by decide)) (Fx_p (by decide)), ⟨h0.1, fun i hi => by rw [up_o (by decide), up_o (by decide)]; exact h0.2 i hi⟩, ?_, ?_, ?_, ?_, ?_, ?_, ?_, ?_⟩
  · rw [up_o (by decide), up_o (by decide)]; exact h1
  · rw [up_o (by decide), up_o (by decide)]; exact h2
  · rw [up_o (by decide), up_o (by decide)]; exact h3
  · rw [up_o (by decide), up_o (by decide)]; exact h4
  · rw [up_o (by decide), up_o (by decide)]; exact h5
  · rw [up_i (by decide), up_o (by decide)]; exact h6
  · rw [up_s, List.length_append]; rfl
  · rw [up_o (by decide), up_f, List.map_append]
    refine seg_a.2 ⟨seg_c (fun j _ hj => ?_) h8, ?_, trivial⟩
    · rw [List.length_map] at hj
      rw [upf_n (by omega)]
    · rw [List.length_map, Nat.zero_add, upf_s, hx]
theorem s_23 {d0 : Nat} (hd : 1 ≤ d0) {M : MM} {R : RR} (hL : Lay R) : call d0 23 [vA 10] M R = some (vX 0, up (if 0 ≤ M 10 4 then M else up M 10 4 (M 8 4)) 8 2 1, R) := by
  obtain ⟨e, rfl⟩ := s_le hd
  refine call_of 1 [vA 10] (by decide) rfl (Nat.le_of_ble_eq_true rfl) rfl ?_ rfl
  rw [b_23_0]
  by_cases h : 0 ≤ M 10 4
  · rw [if_pos h, if_pos h, b_23_18 hL]
  · rw [if_neg h, if_neg h, b_23_7 hL, b_23_18 hL]
theorem p_fail {d0 : Nat} (hd : 1 ≤ d0) {M : MM} {R : RR} (hL : Lay R) {B : Nat → Int} {Z q : Nat} {oc : List Int} (hl : oc.length ≤ 160) (h : cOk B Z q oc M) : ∃ M', call d0 23 [vA 10] M R = some (vX 0, M', R) ∧ Fx rdO M M' ∧ cNo (tkS B Z q) M' := by
  obtain ⟨h0, h1, h2, h3, h4, h5, h6, h7, h8⟩ := h
  have q := s_23 hd (M := M) hL
  rw [if_neg (by omega), h3] at q
  refine ⟨_, q, Fx_t (Fx_p (by decide)) (Fx_p (by decide)), up_s, ?_, ?_, ?_⟩
  · rw [up_o (by decide), up_s]
  · rw [up_o (by decide), up_i (by decide), h7]; omega
  · rw [up_o (by decide), up_i (by decide), h7]; omega
theorem f_23 {d0 : Nat} (hd : 1 ≤ d0) {M : MM} {R : RR} (hL : Lay R) {f : Nat} (h : cNo f M) : ∃ M', call d0 23 [vA 10] M R = some (vX 0, M', R) ∧ Fx rdO M M' ∧ cNo f M' := by
  obtain ⟨h1, h2, h3, h4⟩ := h
  have q := s_23 hd (M := M) hL
  rw [if_pos (by omega)] at q
  exact ⟨_, q, Fx_p (by decide), up_s, by rw [up_o (by decide)]; exact h2, by rw [up_o (by decide)]; exact h3, by rw [up_o (by decide)]; exact h4⟩
theorem f_25 {d0 : Nat} (hd : 1 ≤ d0) {M : MM} {R : RR} (hL : Lay R) {f : Nat} (h : cNo f M) (x : Int) : ∃ M', call d0 25 [vA 10, vI x] M R = some (vX 0, M', R) ∧ Fx rdO M M' ∧ cNo f M' := by
  obtain ⟨h1, h2, h3, h4⟩ := h
  by_cases g : M 10 3 < 160
  · obtain ⟨n, hn⟩ := Int.eq_ofNat_of_zero_le h3
    refine ⟨_, s_25 hd hL hn (by omega) x, Fx_t (Fx_p (by decide)) (Fx_p (by decide)), ?_, ?_, ?_, ?_⟩
    · rw [up_o (by decide), up_o (by decide)]; exact h1
    · rw [up_i (by decide), up_o (by decide)]; exact h2
    · rw [up_s]; omega
    · rw [up_s]; omega
  · obtain ⟨e, rfl⟩ := s_le hd
    refine ⟨M, ?_, Fx_r, h1, h2, h3, h4⟩
    refine call_of 2 [vA 10, vI x] (by decide) rfl (Nat.le_of_ble_eq_true rfl) rfl ?_ rfl
    rw [b_25_0 hL, if_pos (by omega), b_25_32]
theorem f_24 {d0 : Nat} (hd : 2 ≤ d0) {M : MM} {R : RR} (hL : Lay R) {f : Nat} (h : cNo f M) (x : Int) (hx : ¬ x = 1) : ∃ M', call d0 24 [vA 10, vI x] M R = some (vX 0, M', R) ∧ Fx rdO M M' ∧ cNo f M' := by
  obtain ⟨e, rfl⟩ := s_le hd
  obtain ⟨M', q, F, h'⟩ := f_23 (d0 := e + 1) (by omega) hL h
  refine ⟨M', ?_, F, h'⟩
  refine call_of 2 [vA 10, vI x] (by decide) rfl (Nat.le_of_ble_eq_true rfl) rfl ?_ rfl
  rw [b_24_0 hL, h.1, if_pos (by omega), b_24_21, q, bsX, b_24_25]
/-- a told token is taken -/
theorem p_take {d0 : Nat} (hd : 4 ≤ d0) {M : MM} {R : RR} (hL : Lay R) {B : Nat → Int} {Z q : Nat} {oc : List Int} (hq : q ≤ Z) (h : cOk B Z q oc M) (x : Int) (hx : tkK B Z q = x) : ∃ M', call d0 24 [vA 10, vI x] M R = some (vX 0, M', R) ∧ Fx rdO M M' ∧ cOk B Z (tkE B Z q) oc M' := by
  obtain ⟨e, rfl⟩ := s_le hd
  obtain ⟨M', q, F, h'⟩ := p_next (d0 := e + 3) (by omega) hL hq h
  refine ⟨M', ?_, F, h'⟩
  refine call_of 2 [vA 10, vI x] (by decide) rfl (Nat.le_of_ble_eq_true rfl) rfl ?_ rfl
  rw [b_24_0 hL, h.2.2.2.2.1, if_neg (not_not_intro hx), b_24_11 hL, q, bsX, b_24_18, b_24_25]
theorem p_notake {d0 : Nat} (hd : 2 ≤ d0) {M : MM} {R : RR} (hL : Lay R) {B : Nat → Int} {Z q : Nat} {oc : List Int} (hl : oc.length ≤ 160) (h : cOk B Z q oc M) (x : Int) (hx : ¬ tkK B Z q = x) : ∃ M', call d0 24 [vA 10, vI x] M R = some (vX 0, M', R) ∧ Fx rdO M M' ∧ cNo (tkS B Z q) M' := by
  obtain ⟨e, rfl⟩ := s_le hd
  obtain ⟨M', q, F, h'⟩ := p_fail (d0 := e + 1) (by omega) hL hl h
  refine ⟨M', ?_, F, h'⟩
  refine call_of 2 [vA 10, vI x] (by decide) rfl (Nat.le_of_ble_eq_true rfl) rfl ?_ rfl
  rw [b_24_0 hL, h.2.2.2.2.1, if_pos hx, b_24_21, q, bsX, b_24_25]
-- behind a fault
theorem f_32 {d0 : Nat} (hd : 2 ≤ d0) {M : MM} {R : RR} (hL : Lay R) {f : Nat} (h : cNo f M) (x : Int) : ∃ M', call d0 32 [vA 10, vI x] M R = some (vX 0, M', R) ∧ Fx rdO M M' ∧ cNo f M' := by
  obtain ⟨e, rfl⟩ := s_le hd
  obtain ⟨M', q, F, h'⟩ := f_23 (d0 := e + 1) (by omega) hL h
  refine ⟨M', ?_, F, h'⟩
  refine call_of 3 [vA 10, vI x, vX 0] (by decide) rfl (Nat.le_of_ble_eq_true rfl) rfl ?_ rfl
  rw [b_32_0 hL, h.1, if_pos (by decide), b_32_34, if_pos (by decide), b_32_64, if_pos (by decide), b_32_99, if_pos (by decide), b_32_133, q, bsX, b_32_137]
theorem f_31 {d0 : Nat} (hd : 3 ≤ d0) {M : MM} {R : RR} (hL : Lay R) {f : Nat} (h : cNo f M) (x : Int) : ∃ M', call d0 31 [vA 10, vI x] M R = some (vX 0, M', R) ∧ Fx rdO M M' ∧ cNo f M' := by
  obtain ⟨e, rfl⟩ := s_le hd
  obtain ⟨M', q, F, h'⟩ := f_32 (d0 := e + 2) (by omega) hL h x
  refine ⟨M', ?_, F, h'⟩
  refine call_of 3 [vA 10, vI x, vX 0] (by decide) rfl (Nat.le_of_ble_eq_true rfl) rfl ?_ rfl
  rw [b_31_0, q, bsX, b_31_5, b_31_7, if_neg (by decide), b_31_14 hL, h'.1, if_pos (by decide), b_31_51]
theorem f_30 {d0 : Nat} (hd : 4 ≤ d0) {M : MM} {R : RR} (hL : Lay R) {f : Nat} (h : cNo f M) (x : Int) : ∃ M', call d0 30 [vA 10, vI x] M R = some (vX 0, M', R) ∧ Fx rdO M M' ∧ cNo f M' := by
  obtain ⟨e, rfl⟩ := s_le hd
  obtain ⟨M', q, F, h'⟩ := f_31 (d0 := e + 3) (by omega) hL h x
  refine ⟨M', ?_, F, h'⟩
  refine call_of 4 [vA 10, vI x, vX 0, vX 0] (by decide) rfl (Nat.le_of_ble_eq_true rfl) rfl ?_ rfl
  rw [b_30_0, q, bsX, b_30_5, b_30_7, if_neg (by decide), b_30_14 hL, h'.1, if_neg (by decide), b_30_26 hL, h'.1, if_pos (by decide), b_30_83]
theorem f_29 {d0 : Nat} (hd : 5 ≤ d0) {M : MM} {R : RR} (hL : Lay R) {f : Nat} (h : cNo f M) (x : Int) : ∃ M', call d0 29 [vA 10, vI x] M R = some (vX 0, M', R) ∧ Fx rdO M M' ∧ cNo f M' := by
  obtain ⟨e, rfl⟩ := s_le hd
  obtain ⟨M', q, F, h'⟩ := f_30 (d0 := e + 4) (by omega) hL h x
  refine ⟨M', ?_, F, h'⟩
  refine call_of 3 [vA 10, vI x, vX 0] (by decide) rfl (Nat.le_of_ble_eq_true rfl) rfl ?_ rfl
  rw [b_29_0, q, bsX, b_29_5 hL, h'.1, if_neg (by decide), b_29_19, if_pos (by decide), b_29_56]
theorem f_28 {d0 : Nat} (hd : 6 ≤ d0) {M : MM} {R : RR} (hL : Lay R) {f : Nat} (h : cNo f M) (x : Int) : ∃ M', call d0 28 [vA 10, vI x] M R = some (vX 0, M', R) ∧ Fx rdO M M' ∧ cNo f M' := by
  obtain ⟨e, rfl⟩ := s_le hd
  obtain ⟨M', q, F, h'⟩ := f_29 (d0 := e + 5) (by omega) hL h x
  refine ⟨M', ?_, F, h'⟩
  refine call_of 2 [vA 10, vI x] (by decide) rfl (Nat.le_of_ble_eq_true rfl) rfl ?_ rfl
  rw [b_28_0 hL, h.1, if_neg (by decide), b_28_12, q, bsX, b_28_17, b_28_53]
theorem f_27 {d0 : Nat} (hd : 7 ≤ d0) {M : MM} {R : RR} (hL : Lay R) {f : Nat} (h : cNo f M) (x : Int) : ∃ M', call d0 27 [vA 10, vI x] M R = some (vX 0, M', R) ∧ Fx rdO M M' ∧ cNo f M' := by
  obtain ⟨e, rfl⟩ := s_le hd
  obtain ⟨M', q, F, h'⟩ := f_28 (d0 := e + 6) (by omega) hL h x
  refine ⟨M', ?_, F, h'⟩
  refine call_of 3 [vA 10, vI x, vX 0] (by decide) rfl (Nat.le_of_ble_eq_true rfl) rfl ?_ rfl
  rw [b_27_0, q, bsX, b_27_5, b_27_7, if_neg (by decide), b_27_14 hL, h'.1, if_pos (by decide), b_27_51]
theorem f_26 {d0 : Nat} (hd : 8 ≤ d0) {M : MM} {R : RR} (hL : Lay R) {f : Nat} (h : cNo f M) (x : Int) : ∃ M', call d0 26 [vA 10, vI x] M R = some (vX 0, M', R) ∧ Fx rdO M M' ∧ cNo f M' := by
  obtain ⟨e, rfl⟩ := s_le hd
  obtain ⟨M', q, F, h'⟩ := f_27 (d0 := e + 7) (by omega) hL h x
  refine ⟨M', ?_, F, h'⟩
  refine call_of 3 [vA 10, vI x, vX 0] (by decide) rfl (Nat.le_of_ble_eq_true rfl) rfl ?_ rfl
  rw [b_26_0, q, bsX, b_26_5, b_26_7, if_neg (by decide), b_26_14 hL, h'.1, if_pos (by decide), b_26_51]
end
