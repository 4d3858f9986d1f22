section
/-! ===== the reference counts PAIRS and DAYS TAKEN ===== -/
theorem bl_pos : ∀ s : Fin 128, 0 < (s : Nat) → 0 < (bl s).length := by decide +kernel
theorem wo_21 : ∀ so : Fin 2, ∀ k : Fin 8, wo so k ≤ 21 := by decide +kernel
theorem t_211 {e : Nat} {M : MM} {R : RR} (hL : Lay R) {d s on mr r : Nat} {so : Int} {F G : Nat → Int} {f : Int} (hs : s < 128) (hon : on < 128) (hr : r < 128) (hrs : ¬ r = s) (hx : c_and (s : Int) (c_xor (on : Int) (-1)) = (r : Int)) (hmr : mr ≤ 21) (hF : ∀ q, q < 22 → M 80 (22 * r + q) = w64 (F q)) (hG : ∀ q, q < 22 → M 80 (22 * s + q) = w64 (G q)) (hf : M 78 on = f) : ∃ M' : MM, run (call e) 211 117 [vA 57, vI so, vI d, vI s, vI on, vI mr, vI mr] [] M R = run (call e) 211 173 [vA 57, vI so, vI d, vI s, vI on, vI mr, vI 22] [] M' R ∧ Fx [80] M M' ∧ (∀ q, q < 22 → M' 80 (22 * s + q) = w64 (G q + (if mr ≤ q then F (q - mr) * f else 0))) ∧ ∀ j, ¬ (22 * s ≤ j ∧ j < 22 * s + 22) → M' 80 j = M 80 j := by
  have key := loop_nat (fun i (a : MM) => run (call e) 211 117 [vA 57, vI so, vI d, vI s, vI on, vI mr, vI ((mr + i : Nat) : Int)] [] a R) (fun i a => Fx [80] M a ∧ (∀ q, q < 22 → a 80 (22 * s + q) = w64 (G q + (if mr ≤ q ∧ q < mr + i then F (q - mr) * f else 0))) ∧ ∀ j, ¬ (22 * s ≤ j ∧ j < 22 * s + 22) → a 80 j = M 80 j) (22 - mr) ?_ M ?_
  · obtain ⟨M1, ⟨a1, a2, a3⟩, hq⟩ := key
    refine ⟨M1, ?_, a1, ?_, a3⟩
    · refine Eq.trans hq ?_
      rw [b_211_117, if_pos (by omega), show mr + (22 - mr) = 22 by omega]
      rfl
    · intro q hq
      rw [a2 q hq]
      by_cases h : mr ≤ q
      · rw [if_pos h, if_pos (by omega)]
      · rw [if_neg h, if_neg (by omega)]
  · rintro i M1 hi ⟨a1, a2, a3⟩
    have e1 : w32 (((mr + i : Nat) : Int) + 1) = ((mr + (i + 1) : Nat) : Int) := by rw [w32_i (by omega)]; omega
    have ei : w32 (w32 (22 * (s : Int)) + ((mr + i : Nat) : Int)) = ((22 * s + (mr + i) : Nat) : Int) := by
      simp (disch := omega) only [w32_i]; omega
    have ej : w32 (w32 (w32 (22 * (r : Int)) + ((mr + i : Nat) : Int)) - (mr : Int)) = ((22 * r + i : Nat) : Int) := by
      simp (disch := omega) only [w32_i]; omega
    have gs := a2 (mr + i) (by omega)
    rw [if_neg (by omega), Int.add_zero] at gs
    refine ⟨up M1 80 (22 * s + (mr + i)) (w64 (G (mr + i) + F i * f)), ⟨Fx_t a1 (Fx_p (by decide)), ?_, ?_⟩, ?_⟩
    · intro q hq
      by_cases h : q = mr + i
      · subst h
        rw [up_s, if_pos (by omega), show mr + i - mr = i by omega]
      · rw [up_i (by omega), a2 q hq]
        by_cases g : mr ≤ q ∧ q < mr + i
        · rw [if_pos g, if_pos (by omega)]
        · rw [if_neg g, if_neg (by omega)]
    · intro j hj
      rw [up_i (by omega)]
      exact a3 j hj
    · show run (call e) 211 117 [vA 57, vI so, vI d, vI s, vI on, vI mr, vI ((mr + i : Nat) : Int)] [] M1 R = _
      rw [b_211_117, if_neg (by omega), b_211_124 hL, hx, ei, ej, if_pos (by omega), if_pos (by omega), if_pos (by omega), if_pos (by omega), e1, Int.toNat_natCast, Int.toNat_natCast, Int.toNat_natCast, gs, a3 (22 * r + i) (by omega), hF i (by omega), a1 78 (by decide), hf, w64_ml, w64_al, w64_ar]
  · refine ⟨Fx_r, ?_, fun _ _ => rfl⟩
    intro q hq
    rw [if_neg (by omega), Int.add_zero]
    exact hG q hq
/-- what a part of a set gives -/
def hm (so s : Nat) (C : Nat → Nat → Int) (f : Nat → Int) (on q : Nat) : Int := if wo so (bl on).length ≤ q then C (s ^^^ on) (q - wo so (bl on).length) * f on else 0
theorem hm_0 (so s : Nat) (C : Nat → Nat → Int) (f : Nat → Int) (q : Nat) (hf0 : f 0 = 1) : hm so s C f 0 q = C s q := by
  have h : wo so (bl 0).length = 0 := by
    show wo so 0 = 0
    unfold wo
    split
    · rfl
    · split
      · rfl
      · rfl
  unfold hm
  rw [h, if_pos (Nat.zero_le _), hf0, Int.mul_one, Nat.xor_zero, Nat.sub_zero]
theorem t2_211 {e : Nat} (he : 1 ≤ e) {M : MM} {R : RR} (hL : Lay R) {so d s : Nat} {C : Nat → Nat → Int} {f : Nat → Int} {u5 u6 : AV} (hso : so < 2) (hs : s < 128) (hC : ∀ r, r ≤ s → ∀ q, q < 22 → M 80 (22 * r + q) = w64 (C r q)) (hf : ∀ on, on ≤ s → M 78 on = f on) (hf0 : f 0 = 1) : ∃ (M' : MM) (v5 v6 : AV), run (call e) 211 61 [vA 57, vI so, vI d, vI s, vI 1, u5, u6] [] M R = run (call e) 211 179 [vA 57, vI so, vI d, vI s, vI ((s + 1 : Nat) : Int), v5, v6] [] M' R ∧ Fx [80] M M' ∧ (∀ q, q < 22 → M' 80 (22 * s + q) = w64 (su (fun on => hm so s C f on q) (filt s (s + 1)))) ∧ ∀ j, ¬ (22 * s ≤ j ∧ j < 22 * s + 22) → M' 80 j = M 80 j := by
  have key := loop_nat (fun i (a : (AV × AV) × MM) => run (call e) 211 61 [vA 57, vI so, vI d, vI s, vI ((i + 1 : Nat) : Int), a.1.1, a.1.2] [] a.2 R) (fun i a => Fx [80] M a.2 ∧ (∀ q, q < 22 → a.2 80 (22 * s + q) = w64 (su (fun on => hm so s C f on q) (filt s (i + 1)))) ∧ ∀ j, ¬ (22 * s ≤ j ∧ j < 22 * s + 22) → a.2 80 j = M 80 j) s ?_ ((u5, u6), M) ?_
  · obtain ⟨⟨⟨v5, v6⟩, M1⟩, ⟨a1, a2, a3⟩, hq⟩ := key
    try dsimp only at a1 a2 a3
    refine ⟨M1, v5, v6, ?_, a1, a2, a3⟩
    refine Eq.trans hq ?_
    try dsimp only
    rw [b_211_61, if_pos (by omega)]
  · rintro i ⟨⟨v5, v6⟩, M1⟩ hi ⟨a1, a2, a3⟩
    try dsimp only at a1 a2 a3
    have e1 : w32 (((i + 1 : Nat) : Int) + 1) = ((i + 1 + 1 : Nat) : Int) := by rw [w32_i (by omega)]; omega
    have c1 := sub_c ⟨s, hs⟩ ⟨i + 1, by omega⟩
    have c2 := sub_x ⟨s, hs⟩ ⟨i + 1, by omega⟩
    have c3 := sub_c ⟨i + 1, by omega⟩ ⟨s, hs⟩
    have hst : ∀ q, su (fun on => hm so s C f on q) (filt s (i + 1 + 1)) = _ := fun q => su_fs (fun on => hm so s C f on q) s (i + 1)
    have l7 := bl_len7 ⟨i + 1, by omega⟩
    have lp := bl_pos ⟨i + 1, by omega⟩ (by show 0 < i + 1; omega)
    have w21 := wo_21 ⟨so, hso⟩ ⟨(bl (i + 1)).length, by dsimp only at l7; omega⟩
    try dsimp only at c1 c2 c3 hst l7 lp w21
    have skip : (∀ q, q < 22 → (if (i + 1) &&& (127 ^^^ s) = 0 then hm so s C f (i + 1) q else 0) = 0) → ∀ q, q < 22 → M1 80 (22 * s + q) = w64 (su (fun on => hm so s C f on q) (filt s (i + 1 + 1))) := by
      intro hz q hq
      rw [hst q, hz q hq, Int.add_zero]
      exact a2 q hq
    by_cases hz : (i + 1) &&& (127 ^^^ s) = 0
    · obtain ⟨c4, c5⟩ := c2 hz
      have c6 := c5 (by omega)
      have gf : M1 78 (i + 1) = f (i + 1) := by rw [a1 78 (by decide)]; exact hf _ (by omega)
      by_cases hf1 : f (i + 1) = 0
      · refine ⟨((v5, v6), M1), ⟨a1, skip (fun q _ => ?_), a3⟩, ?_⟩
        · rw [if_pos hz]
          unfold hm
          rw [hf1, Int.mul_zero]
          split <;> rfl
        · show run (call e) 211 61 [vA 57, vI so, vI d, vI s, vI ((i + 1 : Nat) : Int), v5, v6] [] M1 R = _
          rw [b_211_61, if_neg (by omega), b_211_67, c1, hz, if_neg (by decide), b_211_76 hL, if_pos (by omega), Int.toNat_natCast, gf]
          simp only [lc_eq]
          rw [if_pos hf1, b_211_173, e1]
      · obtain ⟨M2, q2, f1, f2, f3⟩ := t_211 (e := e) (M := M1) hL (d := d) (s := s) (on := i + 1) (mr := wo so (bl (i + 1)).length) (r := s ^^^ (i + 1)) (so := (so : Int)) (F := C (s ^^^ (i + 1))) (G := fun q => su (fun on => hm so s C f on q) (filt s (i + 1))) (f := f (i + 1)) hs (by omega) (by omega) (by omega) (by rw [c3, c4]) w21 (fun q hq => by rw [a3 _ (by omega)]; exact hC _ (by omega) q hq) a2 gf
        refine ⟨((vI (wo so (bl (i + 1)).length : Nat), vI 22), M2), ⟨Fx_t a1 f1, ?_, ?_⟩, ?_⟩
        · intro q hq
          try dsimp only
          rw [f2 q hq, hst q, if_pos hz]
          rfl
        · intro j hj
          try dsimp only
          rw [f3 j hj]
          exact a3 j hj
        · show run (call e) 211 61 [vA 57, vI so, vI d, vI s, vI ((i + 1 : Nat) : Int), v5, v6] [] M1 R = run (call e) 211 61 [vA 57, vI so, vI d, vI s, vI ((i + 1 + 1 : Nat) : Int), vI (wo so (bl (i + 1)).length : Nat), vI 22] [] M2 R
          rw [b_211_61, if_neg (by omega), b_211_67, c1, hz, if_neg (by decide), b_211_76 hL, if_pos (by omega), Int.toNat_natCast, gf]
          simp only [lc_eq]
          rw [if_neg hf1, b_211_88]
          have hgo : run (call e) 211 111 [vA 57, vI so, vI d, vI s, vI ((i + 1 : Nat) : Int), v5, v6] [vI (wo so (bl (i + 1)).length : Nat)] M1 R = run (call e) 211 61 [vA 57, vI so, vI d, vI s, vI ((i + 1 + 1 : Nat) : Int), vI (wo so (bl (i + 1)).length : Nat), vI 22] [] M2 R := by
            rw [b_211_111]
            refine Eq.trans q2 ?_
            rw [b_211_173, e1]
          by_cases h0 : so = 0
          · subst h0
            rw [if_neg (by omega), b_211_92, s_167 (by omega) (by omega), bsI, b_211_97, s_167 (by omega) (by omega), bsI, b_211_102, if_pos (by decide)]
            have := half_8 ⟨(bl (i + 1)).length, by omega⟩
            try dsimp only at this
            rw [this]
            exact hgo
          · have : so = 1 := by omega
            subst this
            rw [if_pos (by decide), b_211_110]
            have hw1 : wo 1 (bl (i + 1)).length = 1 := by
              unfold wo
              rw [if_neg (by decide), if_pos rfl, if_pos lp]
            rw [hw1] at hgo ⊢
            exact hgo
    · refine ⟨((v5, v6), M1), ⟨a1, skip (fun q _ => if_neg hz), a3⟩, ?_⟩
      show run (call e) 211 61 [vA 57, vI so, vI d, vI s, vI ((i + 1 : Nat) : Int), v5, v6] [] M1 R = _
      rw [b_211_61, if_neg (by omega), b_211_67, c1, if_pos (by omega), b_211_173, e1]
  · refine ⟨Fx_r, ?_, fun _ _ => rfl⟩
    intro q hq
    try dsimp only
    rw [su_f1, hm_0 _ _ _ _ _ hf0]
    exact hC s (Nat.le_refl s) q hq
theorem t3_211 {e : Nat} (he : 1 ≤ e) {M : MM} {R : RR} (hL : Lay R) {so d P : Nat} {C : Nat → Nat → Int} {f : Nat → Int} {u4 u5 u6 : AV} (hso : so < 2) (hP7 : P ≤ 7) (hC : ∀ r, r < 2 ^ P → ∀ q, q < 22 → M 80 (22 * r + q) = w64 (C r q)) (hf : ∀ on, on < 2 ^ P → M 78 on = f on) (hf0 : f 0 = 1) : ∃ (M' : MM) (v4 v5 v6 : AV), run (call e) 211 54 [vA 57, vI so, vI d, vI ((2 ^ P - 1 : Nat) : Int), u4, u5, u6] [] M R = run (call e) 211 185 [vA 57, vI so, vI d, vI 0, v4, v5, v6] [] M' R ∧ Fx [80] M M' ∧ ∀ r, r < 2 ^ P → ∀ q, q < 22 → M' 80 (22 * r + q) = w64 (su (fun on => hm so r C f on q) (filt r (r + 1))) := by
  have hpw := p2_7 hP7
  have hpp : 0 < 2 ^ P := Nat.two_pow_pos P
  have key := loop_nat (fun j (a : (AV × AV × AV) × MM) => run (call e) 211 54 [vA 57, vI so, vI d, vI ((2 ^ P - 1 - j : Nat) : Int), a.1.1, a.1.2.1, a.1.2.2] [] a.2 R) (fun j a => Fx [80] M a.2 ∧ ∀ r, r < 2 ^ P → ∀ q, q < 22 → a.2 80 (22 * r + q) = w64 (if 2 ^ P - 1 - j < r then su (fun on => hm so r C f on q) (filt r (r + 1)) else C r q)) (2 ^ P - 1) ?_ ((u4, u5, u6), M) ?_
  · obtain ⟨⟨⟨v4, v5, v6⟩, M1⟩, ⟨a1, a2⟩, hq⟩ := key
    try dsimp only at a1 a2
    refine ⟨M1, v4, v5, v6, ?_, a1, ?_⟩
    · refine Eq.trans hq ?_
      try dsimp only
      rw [Nat.sub_self, b_211_54, if_pos (by omega)]
      rfl
    · intro r hr q hq'
      rw [a2 r hr q hq']
      by_cases h : r = 0
      · subst h
        rw [if_neg (by omega), su_f1, hm_0 _ _ _ _ _ hf0]
      · rw [if_pos (by omega)]
  · rintro j ⟨⟨v4, v5, v6⟩, M1⟩ hj ⟨a1, a2⟩
    try dsimp only at a1 a2
    have e1 : w32 (((2 ^ P - 1 - j : Nat) : Int) + (-1)) = ((2 ^ P - 1 - (j + 1) : Nat) : Int) := by rw [w32_i (by omega)]; omega
    obtain ⟨M2, w5, w6, q1, f1, f2, f3⟩ := t2_211 (e := e) he (M := M1) hL (so := so) (d := d) (s := 2 ^ P - 1 - j) (C := C) (f := f) (u5 := v5) (u6 := v6) hso (by omega) (fun r hr q hq => by rw [a2 r (by omega) q hq, if_neg (by omega)]) (fun on ho => by rw [a1 78 (by decide)]; exact hf on (by omega)) hf0
    refine ⟨((vI ((2 ^ P - 1 - j + 1 : Nat) : Int), w5, w6), M2), ⟨Fx_t a1 f1, ?_⟩, ?_⟩
    rotate_left
    · show run (call e) 211 54 [vA 57, vI so, vI d, vI ((2 ^ P - 1 - j : Nat) : Int), v4, v5, v6] [] M1 R = _
      rw [b_211_54, if_neg (by omega), b_211_58]
      refine Eq.trans q1 ?_
      rw [b_211_179, e1]
    · intro r hr q hq
      try dsimp only
      by_cases h : r = 2 ^ P - 1 - j
      · subst h
        rw [f2 q hq, if_pos (by omega)]
      · rw [f3 _ (by omega), a2 r hr q hq]
        by_cases g : 2 ^ P - 1 - j < r
        · rw [if_pos g, if_pos (by omega)]
        · rw [if_neg g, if_neg (by omega)]
  · refine ⟨Fx_r, ?_⟩
    intro r hr q hq
    rw [if_neg (by omega)]
    exact hC r hr q hq
/-- in how many ways there are so many PAIRS, or DAYS TAKEN -/
theorem s_211 {d0 : Nat} (hd : 6 ≤ d0) {M : MM} {R : RR} (hL : Lay R) {P Y t so : Nat} (hX : XM M R P Y t) (hso : so < 2) : ∃ M', call d0 211 [vA 57, vI so] M R = some (vX 0, M', R) ∧ Fx [72, 73, 74, 75, 76, 78, 80] M M' ∧ RW M M' P Y ∧ (∀ s, s < 2 ^ P → M' 76 s = pr (fun p => sm (Wm M p) Y) s P) ∧ ∀ r, r < 2 ^ P → ∀ q, q < 22 → M' 80 (22 * r + q) = w64 (Dl (fac (fun d p => Wm M p d) (es so 7)) Y (bl r) q) := by
  obtain ⟨e, rfl⟩ := s_le hd
  obtain ⟨hP, hP7, hY, hY1, hY24, ht, ht6, hT, hr⟩ := id hX
  have hpw := p2_7 hP7
  have hpp : 0 < 2 ^ P := Nat.two_pow_pos P
  obtain ⟨M0, q0, f0, w0, y0⟩ := s_198 (d0 := e + 5) (by omega) hL hX
  obtain ⟨M1, ⟨a1, a2⟩, q1⟩ := loop_nat (fun s (a : MM) => run (call (e + 5)) 211 6 [vA 57, vI so, vI s, vX 0, vX 0, vX 0, vX 0] [] a R) (fun i a => Fx [80] M0 a ∧ ∀ s, s < i → a 80 s = if s = 0 then 1 else 0) 2816 (by
    rintro s M1 hs ⟨a1, a2⟩
    have e1 : w32 ((s : Int) + 1) = ((s + 1 : Nat) : Int) := by rw [w32_i (by omega)]; omega
    refine ⟨up M1 80 s (if s = 0 then 1 else 0), ⟨Fx_t a1 (Fx_p (by decide)), ?_⟩, ?_⟩
    · intro r hr
      by_cases h : r = s
      · subst h; rw [up_s]
      · rw [up_i h]; exact a2 r (by omega)
    · show run (call (e + 5)) 211 6 [vA 57, vI so, vI s, vX 0, vX 0, vX 0, vX 0] [] M1 R = _
      rw [b_211_6, if_neg (by omega), b_211_13 hL]
      by_cases h : s = 0
      · subst h
        rw [if_neg (by omega), b_211_22, b_211_27 hL, if_pos (by omega), e1, Int.toNat_natCast, if_pos rfl]
      · rw [if_pos (by omega), b_211_26, b_211_27 hL, if_pos (by omega), e1, Int.toNat_natCast, if_neg h]) M0 ⟨Fx_r, fun s hs => absurd hs (by omega)⟩
  have F1 : Fx [72, 73, 74, 75, 76, 78, 80] M M1 := Fx_t (Fx_s f0 (by decide)) (Fx_s a1 (by decide))
  obtain ⟨⟨⟨u1, u2, u3, u4⟩, M2⟩, ⟨b1, b2'⟩, q2⟩ := loop_nat (fun d (a : (AV × AV × AV × AV) × MM) => run (call (e + 5)) 211 36 [vA 57, vI so, vI d, a.1.1, a.1.2.1, a.1.2.2.1, a.1.2.2.2] [] a.2 R) (fun i a => Fx [78, 80] M1 a.2 ∧ ∀ r, r < 2 ^ P → ∀ q, q < 22 → a.2 80 (22 * r + q) = w64 (Dl (fac (fun d p => Wm M p d) (es so 7)) i (bl r) q)) Y (by
    rintro d ⟨⟨u1, u2, u3, u4⟩, M2⟩ hd' ⟨b1, b2'⟩
    try dsimp only at b1 b2'
    have e1 : w32 ((d : Int) + 1) = ((d + 1 : Nat) : Int) := by rw [w32_i (by omega)]; omega
    have g57 : M2 57 = M 57 := by rw [b1 57 (by decide), F1 57 (by decide)]
    obtain ⟨M3, q3, c1, c2⟩ := s_200 (d0 := e + 5) (by omega) (M := M2) hL (P := P) (d := d) (f := fun p => Wm M p d) (by rw [g57]; exact hP) hP7 (by omega) (fun p hp => by
      have h := Wm_r (d := d) hX hp
      rw [b1 74 (by decide), a1 74 (by decide)]
      exact ⟨(w0 p hp).1 d hd', h.1, by omega⟩)
    obtain ⟨M4, v4, v5, v6, q4, f1, f2⟩ := t3_211 (e := e + 5) (by omega) (M := M3) hL (so := so) (d := d) (P := P) (C := fun r => Dl (fac (fun d p => Wm M p d) (es so 7)) d (bl r)) (f := fun on => wp (fun p => Wm M p d) (bl on)) (u4 := u2) (u5 := u3) (u6 := u4) hso hP7 (fun r hr q hq => by rw [c1 80 (by decide)]; exact b2' r hr q hq) (fun on ho => by rw [c2 on ho]; exact pr_wp ho (by omega)) rfl
    refine ⟨((vI 0, v4, v5, v6), M4), ⟨Fx_t b1 (Fx_t (Fx_s c1 (by decide)) (Fx_s f1 (by decide))), ?_⟩, ?_⟩
    · intro r hr q hq
      try dsimp only
      rw [f2 r hr q hq, ← Dl_f (φ := fac (fun d p => Wm M p d) (es so 7)) (d := d) (s := r) (by omega) q]
      congr 1
      refine su_c _ (fun on hon => ?_)
      have honr : on < 128 := by
        have := List.mem_range.1 (List.mem_filter.1 hon).1
        omega
      have l7 := bl_len7 ⟨on, honr⟩
      try dsimp only at l7
      show _ = pm (fun n => wp (fun p => Wm M p d) (bl on) * (if decide ((bl on).length ≤ 7) = true ∧ n = wo so (bl on).length then 1 else 0)) (Dl (fac (fun d p => Wm M p d) (es so 7)) d (bl (r ^^^ on))) q
      rw [pm_mn]
      unfold hm
      by_cases h : wo so (bl on).length ≤ q
      · rw [if_pos h, if_pos ⟨by simpa using l7, h⟩, Int.mul_comm]
      · rw [if_neg h, if_neg (fun z => h z.2)]
    · show run (call (e + 5)) 211 36 [vA 57, vI so, vI d, u1, u2, u3, u4] [] M2 R = run (call (e + 5)) 211 36 [vA 57, vI so, vI ((d + 1 : Nat) : Int), vI 0, v4, v5, v6] [] M4 R
      have g57' : M3 57 = M 57 := by rw [c1 57 (by decide), g57]
      rw [b_211_36, g57, hY, if_neg (by omega), b_211_44, q3, bsX, b_211_49, s_166 (by omega), bsI, g57', hP, c_all (by omega), b_211_53]
      refine Eq.trans q4 ?_
      rw [b_211_185, e1]) ((vX 0, vX 0, vX 0, vX 0), M1) ⟨Fx_r, by
    intro r hr q hq
    try dsimp only
    rw [a2 _ (by omega), Dl_0 (by omega)]
    by_cases h : r = 0
    · subst h
      rw [if_pos rfl]
      cases q with
      | zero => rfl
      | succ q => rw [if_neg (by omega)]; rfl
    · rw [if_neg (by omega), if_neg h]; rfl⟩
  try dsimp only at b1 b2' q2
  have F2 : Fx [72, 73, 74, 75, 76, 78, 80] M M2 := Fx_t F1 (Fx_s b1 (by decide))
  refine ⟨M2, ?_, F2, ?_, ?_, b2'⟩
  · refine call_of 7 [vA 57, vI so, vX 0, vX 0, vX 0, vX 0, vX 0] (by decide) rfl (Nat.le_of_ble_eq_true rfl) rfl ?_ rfl
    rw [b_211_0, q0, bsX, b_211_4]
    refine Eq.trans q1 ?_
    rw [b_211_6, if_pos (by omega), b_211_34]
    refine Eq.trans q2 ?_
    rw [b_211_36, F2 57 (by decide), hY, if_pos (by omega), b_211_191]
  · intro p hp
    rw [b1 74 (by decide), b1 75 (by decide), a1 74 (by decide), a1 75 (by decide)]
    exact w0 p hp
  · intro s hs
    rw [b1 76 (by decide), a1 76 (by decide)]
    exact y0 s hs
end
