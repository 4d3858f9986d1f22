section
/-! ===== the reference: in how many ways no two have one day ===== -/
theorem bl_P : ∀ P : Fin 8, ∀ s : Fin 128, (s : Nat) < 2 ^ (P : Nat) → (List.range P).filter (fun k => (s : Nat).testBit k) = bl s := by decide +kernel
theorem one_p : ∀ s : Fin 128, ((subM s).filter (fun a => decide ((bl a).length ≤ 1))).Perm (0 :: (bl s).map (fun p => 2 ^ p)) := by decide +kernel
theorem bl_2p : ∀ p : Fin 7, bl (2 ^ (p : Nat)) = [(p : Nat)] := by decide +kernel
theorem bl_7 : ∀ s : Fin 128, ∀ p ∈ bl s, p < 7 := by decide +kernel
theorem bit_x : ∀ s : Fin 128, ∀ p : Fin 7, (s : Nat).testBit p = true → (s : Nat) &&& (127 ^^^ 2 ^ (p : Nat)) = (s : Nat) ^^^ 2 ^ (p : Nat) ∧ (s : Nat) ^^^ 2 ^ (p : Nat) < (s : Nat) := by decide +kernel
theorem su_flt {α : Type} (f : α → Int) (P : α → Bool) : ∀ l : List α, (∀ a, a ∈ l → P a = false → f a = 0) → su f (l.filter P) = su f l
  | [], _ => rfl
  | a :: l, h => by
    have ih := su_flt f P l (fun b hb => h b (List.mem_cons_of_mem _ hb))
    show su f (List.filter P (a :: l)) = f a + su f l
    cases hP : P a with
    | true => rw [List.filter_cons_of_pos hP]; show f a + su f (l.filter P) = _; rw [ih]
    | false => rw [List.filter_cons_of_neg (by rw [hP]; decide), ih, h a (List.mem_cons_self ..) hP]; omega
theorem Dl_1 {w : Nat → Nat → Int} {d s : Nat} (hs : s < 128) : Dl (fac w (es 2 1)) (d + 1) (bl s) 0 = Dl (fac w (es 2 1)) d (bl s) 0 + su (fun p => Dl (fac w (es 2 1)) d (bl (s ^^^ 2 ^ p)) 0 * w d p) (bl s) := by
  rw [Dl_s hs, ← su_flt _ (fun a => decide ((bl a).length ≤ 1)) (subM s) (fun a _ ha => ?_), su_perm _ (one_p ⟨s, hs⟩)]
  · show pm (fac w (es 2 1) d (bl 0)) (Dl (fac w (es 2 1)) d (bl (s ^^^ 0))) 0 + su _ ((bl s).map (fun p => 2 ^ p)) = _
    rw [fac_0 _ _ _ (es_0 2 1), pm_1, Nat.xor_zero, su_map]
    congr 1
    refine su_c _ (fun p hp => ?_)
    have hp7 : p < 7 := bl_7 ⟨s, hs⟩ p hp
    have := bl_2p ⟨p, hp7⟩
    try dsimp only at this
    show fac w (es 2 1) d (bl (2 ^ p)) 0 * Dl (fac w (es 2 1)) d (bl (s ^^^ 2 ^ p)) 0 = _
    rw [this]
    show w d p * 1 * 1 * _ = _
    rw [Int.mul_one, Int.mul_one, Int.mul_comm]
  · have h : ¬ (bl a).length ≤ 1 := of_decide_eq_false ha
    show fac w (es 2 1) d (bl a) 0 * _ = 0
    show wp (w d) (bl a) * (if decide ((bl a).length ≤ 1) = true ∧ 0 = wo 2 (bl a).length then 1 else 0) * _ = 0
    rw [if_neg (fun z => h (by simpa using z.1)), Int.mul_zero, Int.zero_mul]
theorem t_199 {e : Nat} {M : MM} {R : RR} (hL : Lay R) {d s P : Nat} {C w : Nat → Int} (hP : M 57 2 = (P : Int)) (hP7 : P ≤ 7) (hd24 : d < 24) (hs : s < 2 ^ P) (hC : ∀ r, r ≤ s → M 77 r = w64 (C r)) (hw : ∀ p, p < P → M 74 (24 * p + d) = w p) : run (call e) 199 56 [vA 57, vI d, vI s, vI 0] [] M R = run (call e) 199 117 [vA 57, vI d, vI s, vI P] [] (up M 77 s (w64 (C s + su (fun p => C (s ^^^ 2 ^ p) * w p) (bl s)))) R := by
  have hpw := p2_7 hP7
  have key := iter_eq (fun i : Nat => run (call e) 199 56 [vA 57, vI d, vI s, vI i] [] (up M 77 s (w64 (C s + su (fun p => C (s ^^^ 2 ^ p) * w p) ((List.range i).filter (fun k => s.testBit k))))) R) P ?_
  · have e0 : up M 77 s (w64 (C s + su (fun p => C (s ^^^ 2 ^ p) * w p) ((List.range 0).filter (fun k => s.testBit k)))) = M := by
      show up M 77 s (w64 (C s + 0)) = M
      rw [Int.add_zero, ← hC s (Nat.le_refl s)]
      exact up_self
    try dsimp only at key
    rw [e0] at key
    refine Eq.trans key ?_
    have := bl_P ⟨P, by omega⟩ ⟨s, by omega⟩ hs
    try dsimp only at this
    rw [this, b_199_56, up_o (by decide), hP, if_pos (by omega)]
  · intro i hi
    have e1 : w32 ((i : Int) + 1) = ((i + 1 : Nat) : Int) := by rw [w32_i (by omega)]; omega
    have ei : w32 (w32 (24 * (i : Int)) + (d : Int)) = ((24 * i + d : Nat) : Int) := by
      simp (disch := omega) only [w32_i]; omega
    have hst : su (fun p => C (s ^^^ 2 ^ p) * w p) ((List.range (i + 1)).filter (fun k => s.testBit k)) = su (fun p => C (s ^^^ 2 ^ p) * w p) ((List.range i).filter (fun k => s.testBit k)) + (if s.testBit i = true then C (s ^^^ 2 ^ i) * w i else 0) := by
      rw [List.range_succ, List.filter_append, su_app]
      congr 1
      by_cases h : s.testBit i = true
      · rw [if_pos h, List.filter_cons_of_pos (by simpa using h)]
        show C (s ^^^ 2 ^ i) * w i + 0 = _
        omega
      · rw [if_neg h, List.filter_cons_of_neg (by simpa using h)]
        rfl
    have p2 : 2 ^ i < 128 := Nat.lt_of_lt_of_le (Nat.pow_lt_pow_right (by omega) hi) (by omega)
    try dsimp only
    rw [hst, b_199_56, up_o (by decide), hP, if_neg (by omega), b_199_64 hL, if_pos (by omega), c_bit (by omega) (by omega), Int.toNat_natCast, up_s]
    by_cases h : s.testBit i = true
    · have c1 := bit_x ⟨s, by omega⟩ ⟨i, by omega⟩ h
      have c3 := sub_c ⟨2 ^ i, p2⟩ ⟨s, by omega⟩
      try dsimp only at c1 c3
      have c4 : c_and (s : Int) (c_xor (c_shl 1 (i : Int)) (-1)) = ((s ^^^ 2 ^ i : Nat) : Int) := by
        rw [c_one (by omega), c3, c1.1]
      rw [b2_t h, if_neg (by decide), b_199_80 hL, c4, ei, if_pos (by omega), if_pos (by omega), Int.toNat_natCast, Int.toNat_natCast, b_199_109 hL, if_pos (by omega), e1, Int.toNat_natCast, up_i (by omega), up_o (o' := 74) (by decide), hC _ (by omega), hw i hi, if_pos h, w64_ml, w64_al, w64_ar, up_up, Int.add_assoc]
    · rw [b2_f h, if_pos (by decide), b_199_108, b_199_109 hL, if_pos (by omega), e1, Int.toNat_natCast, if_neg h, Int.add_zero, Int.add_zero, up_up]
      congr 2
      rw [w64_b, w64_b, Int.bmod_bmod]
theorem t2_199 {e : Nat} {M : MM} {R : RR} (hL : Lay R) {d P : Nat} {C w : Nat → Int} {u : AV} (hP : M 57 2 = (P : Int)) (hP7 : P ≤ 7) (hd24 : d < 24) (hC : ∀ r, r < 2 ^ P → M 77 r = w64 (C r)) (hw : ∀ p, p < P → M 74 (24 * p + d) = w p) : ∃ (M' : MM) (v : AV), run (call e) 199 50 [vA 57, vI d, vI ((2 ^ P - 1 : Nat) : Int), u] [] M R = run (call e) 199 123 [vA 57, vI d, vI 0, v] [] M' R ∧ Fx [77] M M' ∧ ∀ r, r < 2 ^ P → M' 77 r = w64 (C r + su (fun p => C (r ^^^ 2 ^ p) * w p) (bl r)) := by
  have hpw := p2_7 hP7
  have hpp : 0 < 2 ^ P := Nat.two_pow_pos P
  have key := loop_nat (fun j (a : AV × MM) => run (call e) 199 50 [vA 57, vI d, vI ((2 ^ P - 1 - j : Nat) : Int), a.1] [] a.2 R) (fun j a => Fx [77] M a.2 ∧ ∀ r, r < 2 ^ P → a.2 77 r = w64 (if 2 ^ P - 1 - j < r then C r + su (fun p => C (r ^^^ 2 ^ p) * w p) (bl r) else C r)) (2 ^ P - 1) ?_ (u, M) ?_
  · obtain ⟨⟨v, M1⟩, ⟨a1, a2⟩, hq⟩ := key
    try dsimp only at a1 a2
    refine ⟨M1, v, ?_, a1, ?_⟩
    · refine Eq.trans hq ?_
      try dsimp only
      rw [Nat.sub_self, b_199_50, if_pos (by omega)]
      rfl
    · intro r hr
      rw [a2 r hr]
      by_cases h : r = 0
      · subst h
        rw [if_neg (by omega)]
        show _ = w64 (C 0 + 0)
        rw [Int.add_zero]
      · rw [if_pos (by omega)]
  · rintro j ⟨v, M1⟩ hj ⟨a1, a2⟩
    try dsimp only at a1 a2
    have e1 : w32 (((2 ^ P - 1 - j : Nat) : Int) + (-1)) = ((2 ^ P - 1 - (j + 1) : Nat) : Int) := by rw [w32_i (by omega)]; omega
    have q1 := t_199 (e := e) (M := M1) hL (d := d) (s := 2 ^ P - 1 - j) (C := C) (w := w) (by rw [a1 57 (by decide)]; exact hP) hP7 hd24 (by omega) (fun r hr => by rw [a2 r (by omega), if_neg (by omega)]) (fun p hp => by rw [a1 74 (by decide)]; exact hw p hp)
    refine ⟨(vI P, up M1 77 (2 ^ P - 1 - j) (w64 (C (2 ^ P - 1 - j) + su (fun p => C ((2 ^ P - 1 - j) ^^^ 2 ^ p) * w p) (bl (2 ^ P - 1 - j))))), ⟨Fx_t a1 (Fx_p (by decide)), ?_⟩, ?_⟩
    rotate_left
    · show run (call e) 199 50 [vA 57, vI d, vI ((2 ^ P - 1 - j : Nat) : Int), v] [] M1 R = _
      rw [b_199_50, if_neg (by omega), b_199_54]
      refine Eq.trans q1 ?_
      rw [b_199_117, e1]
    · intro r hr
      try dsimp only
      by_cases h : r = 2 ^ P - 1 - j
      · subst h
        rw [up_s, if_pos (by omega)]
      · rw [up_i h, a2 r hr]
        by_cases g : 2 ^ P - 1 - j < r
        · rw [if_pos g, if_pos (by omega)]
        · rw [if_neg g, if_neg (by omega)]
  · refine ⟨Fx_r, ?_⟩
    intro r hr
    rw [if_neg (by omega)]
    exact hC r hr
theorem s_199 {d0 : Nat} (hd : 6 ≤ d0) {M : MM} {R : RR} (hL : Lay R) {P Y t : Nat} (hX : XM M R P Y t) : ∃ M', call d0 199 [vA 57] M R = some (vX 0, M', R) ∧ Fx [72, 73, 74, 75, 76, 77] M M' ∧ RW M M' P Y ∧ (∀ s, s < 2 ^ P → M' 76 s = pr (fun p => sm (Wm M p) Y) s P) ∧ ∀ r, r < 2 ^ P → M' 77 r = w64 (Dl (fac (fun d p => Wm M p d) (es 2 1)) Y (bl r) 0) := by
  obtain ⟨e, rfl⟩ := s_le hd
  obtain ⟨hP, hP7, hY, hY1, hY24, ht, ht6, hT, hr⟩ := id hX
  have hpw := p2_7 hP7
  have hpp : 0 < 2 ^ P := Nat.two_pow_pos P
  obtain ⟨M0, q0, f0, w0, y0⟩ := s_198 (d0 := e + 5) (by omega) hL hX
  obtain ⟨M1, ⟨a1, a2⟩, q1⟩ := loop_nat (fun s (a : MM) => run (call (e + 5)) 199 6 [vA 57, vI s, vX 0, vX 0] [] a R) (fun i a => Fx [77] M0 a ∧ ∀ s, s < i → a 77 s = if s = 0 then 1 else 0) (2 ^ P) (by
    rintro s M1 hs ⟨a1, a2⟩
    have e1 : w32 ((s : Int) + 1) = ((s + 1 : Nat) : Int) := by rw [w32_i (by omega)]; omega
    refine ⟨up M1 77 s (if s = 0 then 1 else 0), ⟨Fx_t a1 (Fx_p (by decide)), ?_⟩, ?_⟩
    · intro r hr
      by_cases h : r = s
      · subst h; rw [up_s]
      · rw [up_i h]; exact a2 r (by omega)
    · show run (call (e + 5)) 199 6 [vA 57, vI s, vX 0, vX 0] [] M1 R = _
      rw [b_199_6, s_166 (by omega), bsI, a1 57 (by decide), f0 57 (by decide), hP, c_all (by omega), b_199_11, if_neg (by omega), b_199_14 hL]
      by_cases h : s = 0
      · subst h
        rw [if_neg (by omega), b_199_23, b_199_28 hL, if_pos (by omega), e1, Int.toNat_natCast, if_pos rfl]
      · rw [if_pos (by omega), b_199_27, b_199_28 hL, if_pos (by omega), e1, Int.toNat_natCast, if_neg h]) M0 ⟨Fx_r, fun s hs => absurd hs (by omega)⟩
  have F1 : Fx [72, 73, 74, 75, 76, 77] M M1 := Fx_t (Fx_s f0 (by decide)) (Fx_s a1 (by decide))
  obtain ⟨⟨⟨u1, u2⟩, M2⟩, ⟨b1, b2'⟩, q2⟩ := loop_nat (fun d (a : (AV × AV) × MM) => run (call (e + 5)) 199 37 [vA 57, vI d, a.1.1, a.1.2] [] a.2 R) (fun i a => Fx [77] M1 a.2 ∧ ∀ r, r < 2 ^ P → a.2 77 r = w64 (Dl (fac (fun d p => Wm M p d) (es 2 1)) i (bl r) 0)) Y (by
    rintro d ⟨⟨u1, u2⟩, M2⟩ hd' ⟨b1, b2'⟩
    try dsimp only at b1 b2'
    have e1 : w32 ((d : Int) + 1) = ((d + 1 : Nat) : Int) := by rw [w32_i (by omega)]; omega
    have g57 : M2 57 = M 57 := by rw [b1 57 (by decide), F1 57 (by decide)]
    obtain ⟨M4, v, q4, f1, f2⟩ := t2_199 (e := e + 5) (M := M2) hL (d := d) (P := P) (C := fun r => Dl (fac (fun d p => Wm M p d) (es 2 1)) d (bl r) 0) (w := fun p => Wm M p d) (u := u2) (by rw [g57]; exact hP) hP7 (by omega) b2' (fun p hp => by
      rw [b1 74 (by decide), a1 74 (by decide)]
      exact (w0 p hp).1 d hd')
    refine ⟨((vI 0, v), M4), ⟨Fx_t b1 f1, ?_⟩, ?_⟩
    · intro r hr
      try dsimp only
      rw [f2 r hr, Dl_1 (by omega)]
    · show run (call (e + 5)) 199 37 [vA 57, vI d, u1, u2] [] M2 R = run (call (e + 5)) 199 37 [vA 57, vI ((d + 1 : Nat) : Int), vI 0, v] [] M4 R
      rw [b_199_37, g57, hY, if_neg (by omega), b_199_45, s_166 (by omega), bsI, g57, hP, c_all (by omega), b_199_49]
      refine Eq.trans q4 ?_
      rw [b_199_123, e1]) ((vX 0, vX 0), M1) ⟨Fx_r, by
    intro r hr
    try dsimp only
    rw [a2 _ hr, Dl_0 (by omega)]
    by_cases h : r = 0
    · subst h; rfl
    · rw [if_neg h, if_neg h]; rfl⟩
  try dsimp only at b1 b2' q2
  have F2 : Fx [72, 73, 74, 75, 76, 77] M M2 := Fx_t F1 (Fx_s b1 (by decide))
  refine ⟨M2, ?_, F2, ?_, ?_, b2'⟩
  · refine call_of 4 [vA 57, vX 0, vX 0, vX 0] (by decide) rfl (Nat.le_of_ble_eq_true rfl) rfl ?_ rfl
    rw [b_199_0, q0, bsX, b_199_4]
    refine Eq.trans q1 ?_
    rw [b_199_6, s_166 (by omega), bsI, a1 57 (by decide), f0 57 (by decide), hP, c_all (by omega), b_199_11, if_pos (by omega), b_199_35]
    refine Eq.trans q2 ?_
    rw [b_199_37, F2 57 (by decide), hY, if_pos (by omega), b_199_129]
  · intro p hp
    rw [b1 74 (by decide), b1 75 (by decide), a1 74 (by decide), a1 75 (by decide)]
    exact w0 p hp
  · intro s hs
    rw [b1 76 (by decide), a1 76 (by decide)]
    exact y0 s hs
end
