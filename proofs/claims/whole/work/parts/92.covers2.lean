section
/-! ===== covers, both sides ===== -/
theorem Dl_fm {φ : Nat → List Nat → Nat → Int} {d s : Nat} {h : Nat → Int} (hs : s < 128) (hh : ∀ a, a ≤ s → h a = φ d (bl a) 0 * Dl φ d (bl (s ^^^ a)) 0) : su h (filt s (s + 1)) = Dl φ (d + 1) (bl s) 0 := by
  rw [← Dl_f hs 0]
  refine su_c _ (fun a ha => ?_)
  have h1 := List.mem_range.1 (List.mem_filter.1 ha).1
  exact hh a (by omega)
theorem w32_d {q : Nat} (hq : q ≤ 64) : w32 ((q : Int) * 2) = ((q * 2 : Nat) : Int) := by rw [w32_i (by omega)]; omega
theorem bl_ev8 : ∀ p : Fin 8, (bl (EV (p : Nat))).length = (p : Nat) := by decide +kernel
theorem bl_evl {P : Nat} (h : P ≤ 7) : (bl (EV P)).length = P := bl_ev8 ⟨P, by omega⟩
theorem s_215 {d0 : Nat} (hd : 6 ≤ d0) {M : MM} {R : RR} (hL : Lay R) {P Y t : Nat} (hX : XM M R P Y t) (x y : Int) : ∃ M', call d0 215 [vA 57, vI x, vI y] M R = some (vJ (v_cov (Wmd M) P Y x y), M', R) ∧ Fx modO M M' := by
  obtain ⟨e, rfl⟩ := s_le hd
  obtain ⟨hP, hP7, hY, hY1, hY24, _⟩ := id hX
  have hpw := p2_7 hP7
  have hpp := Nat.two_pow_pos P
  have hyy := Nat.two_pow_pos Y
  have hy24 : 2 ^ Y ≤ 16777216 := Nat.pow_le_pow_right (n := 2) (by omega) hY24
  have start : ∀ v M', run (call (e + 5)) 215 0 [vA 57, vI x, vI y, vX 0, vX 0, vX 0, vX 0, vX 0, vX 0] [] M R = some (vJ v, M', R) → call (e + 6) 215 [vA 57, vI x, vI y] M R = some (vJ v, M', R) := fun v M' h => call_of 9 [vA 57, vI x, vI y, vX 0, vX 0, vX 0, vX 0, vX 0, vX 0] (by decide) rfl (Nat.le_of_ble_eq_true rfl) rfl h rfl
  have ey : w32 (c_shl 1 (M 57 0) - 1) = ((2 ^ Y - 1 : Nat) : Int) := by rw [hY, c_all (by omega)]
  unfold v_cov
  by_cases h : 0 ≤ x ∧ x < ((2 ^ Y : Nat) : Int)
  · by_cases hy : 0 ≤ y ∧ y ≤ 1
    · obtain ⟨k, rfl⟩ : ∃ k : Nat, x = (k : Int) := ⟨x.toNat, by omega⟩
      obtain ⟨M1, q1, f1, w1, y1⟩ := r_198 (d0 := e + 5) (by omega) hL hX
      have hw9 : ∀ d p, p < P → 0 ≤ Wmd M d p ∧ Wmd M d p ≤ 9 := fun d p hp => Wm_r hX hp
      -- nothing yet
      obtain ⟨M2, ⟨a1, a2⟩, q2⟩ := loop_nat (fun s (a : MM) => run (call (e + 5)) 215 33 [vA 57, vI k, vI y, vI s, vX 0, vX 0, vX 0, vX 0, vX 0] [] a R) (fun i a => Fx [79] M1 a ∧ ∀ s, s < i → a 79 s = if s = 0 then 1 else 0) (2 ^ P) (by
        rintro s M2 hs ⟨a1, a2⟩
        have e1 : w32 ((s : Int) + 1) = ((s + 1 : Nat) : Int) := by rw [w32_i (by omega)]; omega
        refine ⟨up M2 79 s (if s = 0 then 1 else 0), ⟨Fx_t a1 (Fx_p (by decide)), ?_⟩, ?_⟩
        · intro r hr
          by_cases h : r = s
          · subst h; rw [up_s]
          · rw [up_i h]; exact a2 r (by omega)
        · show run (call (e + 5)) 215 33 [vA 57, vI k, vI y, vI s, vX 0, vX 0, vX 0, vX 0, vX 0] [] M2 R = _
          rw [b_215_33, s_166 (by omega), bsI, a1 57 (by decide), f1 57 (by decide), hP, c_all (by omega), b_215_38, if_neg (by omega), b_215_41 hL]
          by_cases h : s = 0
          · subst h
            rw [if_neg (by omega), b_215_50, b_215_55 hL, if_pos (by omega), e1, Int.toNat_natCast, if_pos rfl]
          · rw [if_pos (by omega), b_215_54, b_215_55 hL, if_pos (by omega), e1, Int.toNat_natCast, if_neg h]) M1 ⟨Fx_r, fun s hs => absurd hs (by omega)⟩
      -- day by day
      obtain ⟨⟨⟨⟨u4, u5⟩, ⟨u6, u8⟩⟩, M3⟩, ⟨b1, b2'⟩, q3⟩ := loop_nat (fun d (a : ((AV × AV) × (AV × AV)) × MM) => run (call (e + 5)) 215 64 [vA 57, vI k, vI y, vI d, a.1.1.1, a.1.1.2, a.1.2.1, vX 0, a.1.2.2] [] a.2 R) (fun i a => Fx [78, 79] M1 a.2 ∧ ∀ r, r < 2 ^ P → a.2 79 r = w64 (Dl (fc (Wmd M) k) i (bl r) 0)) Y (by
        rintro d ⟨⟨⟨u4, u5⟩, ⟨u6, u8⟩⟩, M2⟩ hd' ⟨b1, b2'⟩
        try dsimp only at b1 b2'
        have e1 : w32 ((d : Int) + 1) = ((d + 1 : Nat) : Int) := by rw [w32_i (by omega)]; omega
        obtain ⟨M3, q3, c1, c2⟩ := s_200 (d0 := e + 5) (by omega) (M := M2) hL (P := P) (d := d) (f := Wmd M d) (by rw [b1 57 (by decide), f1 57 (by decide)]; exact hP) hP7 (by omega) (fun p hp => by
          rw [b1 74 (by decide)]
          have := hw9 d p hp
          exact ⟨(w1 p hp).1 d hd', this.1, by omega⟩)
        obtain ⟨M4, v6, v8, q4, f4, f5⟩ := t2_215 (e := e + 5) (M := M3) hL (x1 := k) (x2 := y) (x3 := d) (mu := if k.testBit d = true then 1 else 0) (P := P) (C := fun r => Dl (fc (Wmd M) k) d (bl r) 0) (f := fun on => wp (Wmd M d) (bl on)) (u6 := u6) (u8 := u8) hP7 (fun r hr => by rw [c1 79 (by decide)]; exact b2' r hr) (fun on ho => by rw [c2 on ho]; exact pr_wp ho (by omega)) rfl
        refine ⟨(((vI ((if k.testBit d = true then 1 else 0 : Nat) : Int), vI (-1)), (v6, v8)), M4), ⟨Fx_t b1 (Fx_t (Fx_s c1 (by decide)) (Fx_s f4 (by decide))), ?_⟩, ?_⟩
        · intro r hr
          try dsimp only
          rw [f5 r hr, Dl_fm (φ := fc (Wmd M) k) (d := d) (by omega)]
          intro on ho
          unfold fc
          by_cases h : k.testBit d = true
          · rw [if_pos h]
            by_cases g : on = 0
            · subst g
              rw [if_pos ⟨rfl, by decide⟩, if_pos ⟨h, rfl⟩, Int.zero_mul]
            · have g' : ¬ bl on = [] := by
                have := bl_pos ⟨on, by omega⟩ (by show 0 < on; omega)
                exact List.length_pos_iff.1 this
              rw [if_neg (fun q => g q.1), if_neg (fun q => g' q.2), show one 0 = 1 from rfl, Int.mul_one, Int.mul_comm]
          · rw [if_neg h, if_neg (fun q => q.2 rfl), if_neg (fun q => h q.1), show one 0 = 1 from rfl, Int.mul_one, Int.mul_comm]
        · show run (call (e + 5)) 215 64 [vA 57, vI k, vI y, vI d, u4, u5, u6, vX 0, u8] [] M2 R = run (call (e + 5)) 215 64 [vA 57, vI k, vI y, vI ((d + 1 : Nat) : Int), _, _, v6, vX 0, v8] [] M4 R
          have g57 : M3 57 = M 57 := by rw [c1 57 (by decide), b1 57 (by decide), f1 57 (by decide)]
          have e4 : ((2 ^ P - 1 : Nat) : Int) = ((2 ^ P : Nat) : Int) - 1 := by omega
          rw [b_215_64, b1 57 (by decide), f1 57 (by decide), hY, if_neg (by omega), b_215_72, q3, bsX, b_215_77, c_bit (by omega) (by omega)]
          by_cases h : k.testBit d = true
          · rw [if_pos h] at q4
            rw [b2_t h, if_neg (by decide), b_215_86, b_215_91, s_166 (by omega), bsI, g57, hP, c_all (by omega), b_215_97, e4]
            refine Eq.trans q4 ?_
            rw [b_215_192, e1, if_pos h]
          · rw [if_neg h] at q4
            rw [b2_f h, if_pos (by decide), b_215_90, b_215_91, s_166 (by omega), bsI, g57, hP, c_all (by omega), b_215_97, e4]
            refine Eq.trans q4 ?_
            rw [b_215_192, e1, if_neg h]) (((vX 0, vX 0), (vX 0, vX 0)), M2) ⟨Fx_s a1 (by decide), by
        intro r hr
        try dsimp only
        rw [a2 r hr, Dl_0 (by omega)]
        by_cases h : r = 0
        · subst h; rfl
        · rw [if_neg h, if_neg h]; rfl⟩
      try dsimp only at b1 b2' q3
      have r1 := ALm_r hX (EV_lt P)
      have r2 : 0 ≤ Dl (fc (Wmd M) k) Y (bl (EV P)) 0 ∧ Dl (fc (Wmd M) k) Y (bl (EV P)) 0 ≤ AL (Wmd M) Y (EV P) := Dl_cr Y _ (fun d p _ hp => (hw9 d p (bl_lt (EV_lt P) hp)).1)
      have hev := EV_b hP7
      refine ⟨M3, start _ _ ?_, Fx_t (Fx_s f1 (by decide)) (Fx_s b1 (by decide))⟩
      rw [if_pos h, b_215_0, ey, s_162 (by omega), bsI, b_215_13, b2_t (by omega), if_neg (by decide), b_215_16, s_203 (by omega), bsI, b2_t hy, b_215_20, if_pos (by decide), b_215_27, q1, bsX, b_215_31]
      refine Eq.trans q2 ?_
      rw [b_215_33, s_166 (by omega), bsI, a1 57 (by decide), f1 57 (by decide), hP, c_all (by omega), b_215_38, if_pos (by omega), b_215_62]
      refine Eq.trans q3 ?_
      have g57 : M3 57 = M 57 := by rw [b1 57 (by decide), f1 57 (by decide)]
      rw [b_215_64, g57, hY, if_pos (by omega), b_215_198 hL, s_166 (by omega), bsI, g57, hP, c_ev (by omega), b_215_206 hL, if_pos (by omega), s_166 (by omega), bsI, g57, hP, c_ev (by omega), b_215_215 hL, if_pos (by omega), Int.toNat_natCast, b2' _ (by have := EV_lt P; omega), b1 76 (by decide), y1 _ (EV_lt P), w64_i (by omega), p_202 (by omega) _ _ _ (by omega) (by omega) (by omega), bsJ, b_215_220, Int.toNat_natCast]
    · refine ⟨M, start _ _ ?_, Fx_r⟩
      rw [if_pos h, fr_no (by omega), b_215_0, ey, s_162 (by omega), bsI, b_215_13, b2_t (by omega), if_neg (by decide), b_215_16, s_203 (by omega), bsI, b2_f hy, b_215_20, if_neg (by decide), b_215_23]
  · refine ⟨M, start _ _ ?_, Fx_r⟩
    rw [if_neg h, b_215_0, ey, s_162 (by omega), bsI, b_215_13, b2_f (by omega), if_pos rfl, b_215_23]
    rfl
-- the class
theorem t_72 {e : Nat} (he : 2 ≤ e) {M : MM} {R : RR} (hL : Lay R) {P Y p D c x1 : Nat} {F : Nat → Int} {g : Int} (hP : M 4 0 = (P : Int)) (hP7 : P ≤ 7) (hY : M 2 0 = (Y : Int)) (hY24 : Y ≤ 24) (hp : p < P) (hD : D < Y) (hc : c ≤ 6) (hF : ∀ i, i < 2 ^ c → M 31 i = F i ∧ 0 ≤ F i ∧ F i ≤ 216) (hg : M 23 (24 * p + D) = g ∧ 0 ≤ g ∧ g ≤ 9) : ∃ M', run (call e) 72 43 [vA 27, vI p, vI x1, vI ((2 ^ c : Nat) : Int), vI D, vI 0] [] M R = run (call e) 72 43 [vA 27, vI p, vI x1, vI ((2 ^ c : Nat) : Int), vI D, vI ((2 ^ c : Nat) : Int)] [] M' R ∧ Fx [31] M M' ∧ ∀ i, i < 2 ^ c → M' 31 i = F i ∧ M' 31 (i + 2 ^ c) = F i + g := by
  have hpc : 2 ^ c ≤ 64 := Nat.pow_le_pow_right (n := 2) (by omega) hc
  have hpp := Nat.two_pow_pos c
  obtain ⟨M1, ⟨a1, a2⟩, q1⟩ := loop_nat (fun i (a : MM) => run (call e) 72 43 [vA 27, vI p, vI x1, vI ((2 ^ c : Nat) : Int), vI D, vI i] [] a R) (fun i a => Fx [31] M a ∧ ∀ j, j < 2 ^ c → a 31 j = F j ∧ (j < i → a 31 (j + 2 ^ c) = F j + g)) (2 ^ c) (by
    rintro i M1 hi ⟨a1, a2⟩
    have e1 : w32 ((i : Int) + 1) = ((i + 1 : Nat) : Int) := by rw [w32_i (by omega)]; omega
    have e2 : w32 ((i : Int) + ((2 ^ c : Nat) : Int)) = ((i + 2 ^ c : Nat) : Int) := by rw [w32_i (by omega)]; omega
    have hFi := hF i hi
    refine ⟨up M1 31 (i + 2 ^ c) (F i + g), ⟨Fx_t a1 (Fx_p (by decide)), ?_⟩, ?_⟩
    · intro j hj
      rw [up_i (by omega)]
      refine ⟨(a2 j hj).1, fun hj' => ?_⟩
      by_cases h : j = i
      · subst h; rw [up_s]
      · rw [up_i (by omega)]; exact (a2 j hj).2 (by omega)
    · show run (call e) 72 43 [vA 27, vI p, vI x1, vI ((2 ^ c : Nat) : Int), vI D, vI i] [] M1 R = _
      rw [b_72_43, if_neg (by omega), b_72_49 hL, if_pos (by omega), s_81 (by omega) hL (by rw [a1 4 (by decide), hP]; omega) (by omega) (by rw [a1 2 (by decide), hY]; omega) (by omega), bsI, b_72_74 hL, e2, if_pos (by omega), e1, Int.toNat_natCast, Int.toNat_natCast, (a2 i hi).1, a1 23 (by decide), hg.1, w32_i (by omega)]) M ⟨Fx_r, fun j hj => ⟨(hF j hj).1, fun h => absurd h (by omega)⟩⟩
  exact ⟨M1, q1, a1, fun i hi => ⟨(a2 i hi).1, (a2 i hi).2 hi⟩⟩
theorem s_72 {d0 : Nat} (hd : 3 ≤ d0) {M : MM} {R : RR} (hL : Lay R) {P Y p x : Nat} {w : Nat → Nat → Int} (hP : M 4 0 = (P : Int)) (hP7 : P ≤ 7) (hY : M 2 0 = (Y : Int)) (hY24 : Y ≤ 24) (hp : p < P) (hx : x < 2147483648) (hn : nm x Y ≤ 7) (hg : ∀ d, d < Y → M 23 (24 * p + d) = w d p ∧ 0 ≤ w d p ∧ w d p ≤ 9) : ∃ M', call d0 72 [vA 27, vI p, vI x] M R = some (vX 0, M', R) ∧ Fx [31] M M' ∧ ∀ i, i < 2 ^ nm x Y → M' 31 i = xE w x p Y i := by
  obtain ⟨e, rfl⟩ := s_le hd
  have main : ∀ k D (M1 : MM) (u : AV), D + k = Y → Fx [31] M M1 → (∀ i, i < 2 ^ nm x D → M1 31 i = xE w x p D i) → ∃ M', run (call (e + 2)) 72 12 [vA 27, vI p, vI x, vI ((2 ^ nm x D : Nat) : Int), vI D, u] [] M1 R = some (vX 0, M', R) ∧ Fx [31] M M' ∧ ∀ i, i < 2 ^ nm x Y → M' 31 i = xE w x p Y i := by
    intro k
    induction k with
    | zero =>
      intro D M1 u hk f a
      have hDY : D = Y := by omega
      subst hDY
      refine ⟨M1, ?_, f, a⟩
      rw [b_72_12 hL, s_84 (by omega) hL, bsI, f 2 (by decide), hY, b_72_21, if_pos (by omega), b_72_92]
    | succ k ih =>
      intro D M1 u hk f a
      have hmn := nm_m x D (k + 1)
      have hs := nm_s x D
      rw [hk] at hmn
      have e0 : w32 ((D : Int) + 1) = ((D + 1 : Nat) : Int) := by rw [w32_i (by omega)]; omega
      by_cases h7 : nm x D = 7
      · refine ⟨M1, ?_, f, ?_⟩
        · rw [b_72_12 hL, s_84 (by omega) hL, bsI, f 2 (by decide), hY, b_72_21, if_neg (by omega), b_72_24, h7, if_pos (by decide), b_72_92]
        · intro i hi
          have hq := xE_k w x p D i (k + 1) (by rw [hk]; omega)
          rw [hk] at hq
          rw [hq]
          exact a i (by rw [show nm x D = nm x Y by omega]; exact hi)
      · have h6 : nm x D ≤ 6 := by omega
        have hp64 : 2 ^ nm x D ≤ 64 := Nat.pow_le_pow_right (n := 2) (by omega) h6
        by_cases hb : x.testBit D = true
        · rw [if_pos hb] at hs
          obtain ⟨M2, q2, f2, a2⟩ := t_72 (e := e + 2) (by omega) (M := M1) hL (P := P) (Y := Y) (p := p) (D := D) (c := nm x D) (x1 := x) (F := xE w x p D) (g := w D p) (by rw [f 4 (by decide)]; exact hP) hP7 (by rw [f 2 (by decide)]; exact hY) hY24 hp (by omega) h6 (fun i hi => by
            have hr := xE_r (w := w) (x := x) (p := p) D i (fun d hd => (hg d (by omega)).2.1)
            have hr2 := sm_r (f := fun d => w d p) (b := 9) D (fun d hd => (hg d (by omega)).2)
            exact ⟨a i hi, hr.1, by omega⟩) (by rw [f 23 (by decide)]; exact hg D (by omega))
          obtain ⟨M3, q3, f3, a3⟩ := ih (D + 1) M2 (vI ((2 ^ nm x D : Nat) : Int)) (by omega) (Fx_t f f2) (by
            intro i hi
            rw [hs, Nat.pow_succ] at hi
            show _ = if x.testBit D = true then (if i < 2 ^ nm x D then xE w x p D i else xE w x p D (i - 2 ^ nm x D) + w D p) else xE w x p D i
            rw [if_pos hb]
            by_cases hlt : i < 2 ^ nm x D
            · rw [if_pos hlt]; exact (a2 i hlt).1
            · rw [if_neg hlt]
              have := (a2 (i - 2 ^ nm x D) (by omega)).2
              rw [Nat.sub_add_cancel (by omega)] at this
              exact this)
          refine ⟨M3, ?_, f3, a3⟩
          have e1 : w32 (((2 ^ nm x D : Nat) : Int) * 2) = ((2 ^ nm x (D + 1) : Nat) : Int) := by rw [hs, Nat.pow_succ]; exact w32_d hp64
          rw [b_72_12 hL, s_84 (by omega) hL, bsI, f 2 (by decide), hY, b_72_21, if_neg (by omega), b_72_24, if_neg (by omega), b_72_31, c_bit (by omega) hx, b2_t hb, if_neg (by decide), b_72_40]
          refine Eq.trans q2 ?_
          rw [b_72_43, if_pos (by omega), b_72_82, b_72_86, e0, e1]
          exact q3
        · rw [if_neg hb] at hs
          have hs' : nm x (D + 1) = nm x D := hs
          obtain ⟨M3, q3, f3, a3⟩ := ih (D + 1) M1 u (by omega) f (by
            intro i hi
            rw [hs'] at hi
            show _ = if x.testBit D = true then (if i < 2 ^ nm x D then xE w x p D i else xE w x p D (i - 2 ^ nm x D) + w D p) else xE w x p D i
            rw [if_neg hb]
            exact a i hi)
          refine ⟨M3, ?_, f3, a3⟩
          rw [hs'] at q3
          rw [b_72_12 hL, s_84 (by omega) hL, bsI, f 2 (by decide), hY, b_72_21, if_neg (by omega), b_72_24, if_neg (by omega), b_72_31, c_bit (by omega) hx, b2_f hb, if_pos rfl, b_72_86, e0]
          exact q3
  obtain ⟨M', q, f, a⟩ := main Y 0 (up M 31 0 0) (vX 0) (by omega) (Fx_p (by decide)) (by
    intro i hi
    have : i = 0 := by
      have h1 : 2 ^ nm x 0 = 1 := rfl
      omega
    subst this
    rw [up_s]
    rfl)
  refine ⟨M', ?_, f, a⟩
  refine call_of 6 [vA 27, vI p, vI x, vX 0, vX 0, vX 0] (by decide) rfl (Nat.le_of_ble_eq_true rfl) rfl ?_ rfl
  rw [b_72_0 hL, if_pos (by omega)]
  exact q
theorem nm_24 {x Y : Nat} (hY : Y ≤ 24) (hx : x < 2 ^ Y) : nm x Y = (bl x).length := by
  have h : ∀ k, Y + k ≤ 24 → nm x (Y + k) = nm x Y := by
    intro k
    induction k with
    | zero => intro _; rfl
    | succ k ih =>
      intro hk
      have h1 := nm_s x (Y + k)
      have h2 : ¬ x.testBit (Y + k) = true := by
        rw [Nat.testBit_lt_two_pow (Nat.lt_of_lt_of_le hx (Nat.pow_le_pow_right (by omega) (by omega)))]
        decide
      rw [if_neg h2] at h1
      rw [show Y + (k + 1) = Y + k + 1 from rfl, h1]
      exact ih (by omega)
  have := h (24 - Y) (by omega)
  rw [show Y + (24 - Y) = 24 by omega] at this
  rw [← this]
  rfl
/-- of all the people -/
theorem s_71 {d0 : Nat} (hd : 5 ≤ d0) {M : MM} {R : RR} (hL : Lay R) {P Y t x : Nat} (hX : XW M R P Y t) (hF : FR M P Y) (hx : x < 2 ^ Y) : ∃ M', call d0 71 [vA 27, vI x] M R = some (vJ (Dl (fc (Wd M) x) Y (bl (EV P)) 0), M', R) ∧ Fx [30, 31] M M' := by
  obtain ⟨e, rfl⟩ := s_le hd
  obtain ⟨hP, hP7, hY, hY1, hY24, _⟩ := id hX
  have hx24 : 2 ^ Y ≤ 16777216 := Nat.pow_le_pow_right (n := 2) (by omega) hY24
  have hlen : (bl (EV P)).length = P := bl_evl hP7
  have hc := nm_24 hY24 hx
  have start : ∀ v M', run (call (e + 4)) 71 0 [vA 27, vI x, vX 0, vX 0, vX 0, vX 0, vX 0] [] M R = some (vJ v, M', R) → call (e + 5) 71 [vA 27, vI x] M R = some (vJ v, M', R) := fun v M' h => call_of 7 [vA 27, vI x, vX 0, vX 0, vX 0, vX 0, vX 0] (by decide) rfl (Nat.le_of_ble_eq_true rfl) rfl h rfl
  by_cases hm : nm x Y ≤ P
  · have hp7 : 2 ^ nm x Y ≤ 128 := p2_7 (by omega)
    have hpp := Nat.two_pow_pos (nm x Y)
    have hw9 : ∀ d p, p < P → 0 ≤ Wd M d p ∧ Wd M d p ≤ 9 := fun d p hp => Wx_r hX hp
    -- all and none, in turn
    obtain ⟨M1, ⟨a1, a2⟩, q1⟩ := loop_nat (fun i (a : MM) => run (call (e + 4)) 71 25 [vA 27, vI x, vI (nm x Y : Nat), vI ((2 ^ nm x Y : Nat) : Int), vI i, vX 0, vX 0] [] a R) (fun i a => Fx [30, 31] M a ∧ ∀ j, j < i → a 30 j = sgn j) (2 ^ nm x Y) (by
      rintro i M1 hi ⟨a1, a2⟩
      have e1 : w32 ((i : Int) + 1) = ((i + 1 : Nat) : Int) := by rw [w32_i (by omega)]; omega
      have em : Int.tmod ((bl i).length : Int) 2 = (((bl i).length % 2 : Nat) : Int) := rfl
      refine ⟨up M1 30 i (sgn i), ⟨Fx_t a1 (Fx_p (by decide)), ?_⟩, ?_⟩
      · intro j hj
        by_cases h : j = i
        · subst h; rw [up_s]
        · rw [up_i h]; exact a2 j (by omega)
      · show run (call (e + 4)) 71 25 [vA 27, vI x, vI (nm x Y : Nat), vI ((2 ^ nm x Y : Nat) : Int), vI i, vX 0, vX 0] [] M1 R = _
        rw [b_71_25, if_neg (by omega), b_71_31 hL, s_258 (by omega) (by omega), bsI, b_71_42, if_pos (by decide), em]
        unfold sgn
        by_cases h : (bl i).length % 2 = 0
        · rw [if_neg (by omega), b_71_47, b_71_54 hL, if_pos (by omega), e1, Int.toNat_natCast, if_pos h]
        · rw [if_pos (by omega), b_71_51, b_71_54 hL, if_pos (by omega), e1, Int.toNat_natCast, if_neg h]) M ⟨Fx_r, fun j hj => absurd hj (by omega)⟩
    -- person by person
    obtain ⟨⟨u, M2⟩, ⟨b1, b2'⟩, q2⟩ := loop_nat (fun p (a : AV × MM) => run (call (e + 4)) 71 64 [vA 27, vI x, vI (nm x Y : Nat), vI ((2 ^ nm x Y : Nat) : Int), vI p, a.1, vX 0] [] a.2 R) (fun p a => Fx [30, 31] M a.2 ∧ ∀ i, i < 2 ^ nm x Y → a.2 30 i = w64 (sgn i * pn (fun p => sm (fun d => Wd M d p) Y - xE (Wd M) x p Y i) p)) P (by
      rintro p ⟨u, M2⟩ hp ⟨b1, b2'⟩
      try dsimp only at b1 b2'
      have e1 : w32 ((p : Int) + 1) = ((p + 1 : Nat) : Int) := by rw [w32_i (by omega)]; omega
      obtain ⟨M3, q3, f3, a3⟩ := s_72 (d0 := e + 4) (by omega) (M := M2) hL (P := P) (Y := Y) (p := p) (x := x) (w := Wd M) (by rw [b1 4 (by decide)]; exact hP) hP7 (by rw [b1 2 (by decide)]; exact hY) hY24 hp (by omega) (by omega) (fun d hd => by rw [b1 23 (by decide)]; exact ⟨(hF p hp).2.1 d hd, hw9 d p hp⟩)
      have hr2 := sm_r (f := fun d => Wd M d p) (b := 9) Y (fun d _ => hw9 d p hp)
      obtain ⟨M4, ⟨c1, c2⟩, q4⟩ := loop_nat (fun i (a : MM) => run (call (e + 4)) 71 86 [vA 27, vI x, vI (nm x Y : Nat), vI ((2 ^ nm x Y : Nat) : Int), vI p, vI i, vX 0] [] a R) (fun i a => Fx [30] M3 a ∧ ∀ j, j < 2 ^ nm x Y → a 30 j = w64 (sgn j * pn (fun p => sm (fun d => Wd M d p) Y - xE (Wd M) x p Y j) (if j < i then p + 1 else p))) (2 ^ nm x Y) (by
        rintro i M4 hi ⟨c1, c2⟩
        have e2 : w32 ((i : Int) + 1) = ((i + 1 : Nat) : Int) := by rw [w32_i (by omega)]; omega
        have hr := xE_r (w := Wd M) (x := x) (p := p) Y i (fun d hd => (hw9 d p hp).1)
        have hc2 := c2 i hi
        rw [if_neg (by omega)] at hc2
        refine ⟨up M4 30 i (w64 (sgn i * pn (fun p => sm (fun d => Wd M d p) Y - xE (Wd M) x p Y i) (p + 1))), ⟨Fx_t c1 (Fx_p (by decide)), ?_⟩, ?_⟩
        · intro j hj
          by_cases h : j = i
          · subst h; rw [up_s, if_pos (by omega)]
          · rw [up_i h, c2 j hj]
            by_cases g : j < i
            · rw [if_pos g, if_pos (by omega)]
            · rw [if_neg g, if_neg (by omega)]
        · show run (call (e + 4)) 71 86 [vA 27, vI x, vI (nm x Y : Nat), vI ((2 ^ nm x Y : Nat) : Int), vI p, vI i, vX 0] [] M4 R = _
          have g24 : M4 24 p = sm (fun d => Wd M d p) Y := by rw [c1 24 (by decide), f3 24 (by decide), b1 24 (by decide)]; exact (hF p hp).2.2
          rw [b_71_86, if_neg (by omega), b_71_92 hL, if_pos (by omega), s_82 (by omega) hL (by rw [c1 4 (by decide), f3 4 (by decide), b1 4 (by decide), hP]; omega) (by omega), bsI, b_71_109 hL, if_pos (by omega), if_pos (by omega), e2, Int.toNat_natCast, g24, c1 31 (by decide), a3 i hi, hc2, w32_i (by omega), w64_ml, Int.mul_assoc]
          rfl) M3 ⟨Fx_r, fun j hj => by rw [if_neg (by omega), f3 30 (by decide)]; exact b2' j hj⟩
      refine ⟨(vI ((2 ^ nm x Y : Nat) : Int), M4), ⟨Fx_t b1 (Fx_t (Fx_s f3 (by decide)) (Fx_s c1 (by decide))), ?_⟩, ?_⟩
      · intro i hi
        try dsimp only
        rw [c2 i hi, if_pos hi]
      · show run (call (e + 4)) 71 64 [vA 27, vI x, vI (nm x Y : Nat), vI ((2 ^ nm x Y : Nat) : Int), vI p, u, vX 0] [] M2 R = run (call (e + 4)) 71 64 [vA 27, vI x, vI (nm x Y : Nat), vI ((2 ^ nm x Y : Nat) : Int), vI ((p + 1 : Nat) : Int), vI ((2 ^ nm x Y : Nat) : Int), vX 0] [] M4 R
        rw [b_71_64 hL, s_83 (by omega) hL, bsI, b1 4 (by decide), hP, b_71_73, if_neg (by omega), b_71_76, q3, bsX, b_71_83]
        refine Eq.trans q4 ?_
        rw [b_71_86, if_pos (by omega), b_71_126, e1]) (vX 0, M1) ⟨a1, fun i hi => by
      show M1 30 i = w64 (sgn i * 1)
      rw [a2 i hi, Int.mul_one]
      unfold sgn
      split <;> rfl⟩
    try dsimp only at b1 b2' q2
    -- together
    have q3 := iter_eq (fun i : Nat => run (call (e + 4)) 71 138 [vA 27, vI x, vI (nm x Y : Nat), vI ((2 ^ nm x Y : Nat) : Int), vJ (w64 (sm (fun i => sgn i * wp (fun p => sm (fun d => Wd M d p) Y - xE (Wd M) x p Y i) (bl (EV P))) i)), vX 0, vI i] [] M2 R) (2 ^ nm x Y) (by
      intro i hi
      have e1 : w32 ((i : Int) + 1) = ((i + 1 : Nat) : Int) := by rw [w32_i (by omega)]; omega
      try dsimp only
      rw [b_71_138, if_neg (by omega), b_71_144 hL, if_pos (by omega), e1, Int.toNat_natCast, b2' i hi, w64_al, w64_ar, ← pn_wp hP7]
      rfl)
    have r1 := AL_r hX (EV_lt P)
    have r2 : 0 ≤ Dl (fc (Wd M) x) Y (bl (EV P)) 0 ∧ Dl (fc (Wd M) x) Y (bl (EV P)) 0 ≤ AL (Wd M) Y (EV P) := Dl_cr Y _ (fun d p _ hp => (hw9 d p (bl_lt (EV_lt P) hp)).1)
    refine ⟨M2, start _ _ ?_, b1⟩
    have e0 : w64 (sm (fun i => sgn i * wp (fun p => sm (fun d => Wd M d p) Y - xE (Wd M) x p Y i) (bl (EV P))) 0) = 0 := rfl
    try dsimp only at q3
    rw [e0] at q3
    rw [b_71_0, p_258 (by omega) (by omega), bsI, ← hc, b_71_4 hL, s_83 (by omega) hL, bsI, hP, b_71_13, if_pos (by omega), b_71_18, c_one (by omega)]
    refine Eq.trans q1 ?_
    rw [b_71_25, if_pos (by omega), b_71_61]
    refine Eq.trans q2 ?_
    rw [b_71_64 hL, s_83 (by omega) hL, bsI, b1 4 (by decide), hP, b_71_73, if_pos (by omega), b_71_132]
    refine Eq.trans q3 ?_
    rw [b_71_138, if_pos (by omega), b_71_162, ← Dl_cov (Wd M) x Y (bl (EV P)) (by omega), w64_i (by omega)]
  · refine ⟨M, start _ _ ?_, Fx_r⟩
    rw [Dl_few (Wd M) x Y _ (by omega), b_71_0, p_258 (by omega) (by omega), bsI, ← hc, b_71_4 hL, s_83 (by omega) hL, bsI, hP, b_71_13, if_neg (by omega), b_71_16]
theorem s_116 {d0 : Nat} (hd : 7 ≤ d0) {M : MM} {R : RR} (hL : Lay R) {P Y t : Nat} (hX : XW M R P Y t) (hC : CJ M P Y) (x y : Int) : ∃ M', call d0 116 [vA 1, vI x, vI y] M R = some (vJ (v_cov (Wd M) P Y x y), M', R) ∧ Fx clsO M M' ∧ CJ M' P Y := by
  obtain ⟨e, rfl⟩ := s_le hd
  obtain ⟨hP, hP7, hY, hY1, hY24, _⟩ := id hX
  have hy24 : 2 ^ Y ≤ 16777216 := Nat.pow_le_pow_right (n := 2) (by omega) hY24
  have start : ∀ v M', run (call (e + 6)) 116 0 [vA 1, vI x, vI y] [] M R = some (vJ v, M', R) → call (e + 7) 116 [vA 1, vI x, vI y] M R = some (vJ v, M', R) := fun v M' h => call_of 3 [vA 1, vI x, vI y] (by decide) rfl (Nat.le_of_ble_eq_true rfl) rfl h rfl
  unfold v_cov
  by_cases h : 0 ≤ x ∧ x < ((2 ^ Y : Nat) : Int)
  · obtain ⟨k, rfl⟩ : ∃ k : Nat, x = (k : Int) := ⟨x.toNat, by omega⟩
    obtain ⟨M1, q1, f1, p1⟩ := p_61 (d0 := e + 6) (by omega) hL hX hC
    have X1 := XW_f f1 hX
    obtain ⟨M2, q2, f2⟩ := s_71 (d0 := e + 6) (by omega) hL X1 p1.2.1 (x := k) (by omega)
    have W1 : Wx M1 = Wx M := Wx_x f1
    have F2 : Fx clsO M1 M2 := Fx_s f2 (by decide)
    have P2 : PP M2 P Y := PP_f F2 (fun o ho => f2 o (by simp only [List.mem_cons, List.not_mem_nil, or_false] at ho ⊢; omega)) (by rw [f2 35 (by decide)]) (by rw [f2 35 (by decide)]) p1
    have W2 : Wx M2 = Wx M := by rw [Wx_x F2, W1]
    have e65 := s_65 (d0 := e + 6) (by omega) hL hX.2.1 P2.2.2.1
    rw [Wd_e W2] at e65
    rw [Wd_e W1] at q2
    have r1 := AL_r hX (EV_lt P)
    have r2 : 0 ≤ Dl (fc (Wd M) k) Y (bl (EV P)) 0 ∧ Dl (fc (Wd M) k) Y (bl (EV P)) 0 ≤ AL (Wd M) Y (EV P) := Dl_cr Y _ (fun d p _ hp => (Wx_r hX (bl_lt (EV_lt P) hp)).1)
    refine ⟨M2, start _ _ ?_, Fx_t f1 F2, P2.1⟩
    rw [if_pos h, b_116_0, if_neg (by omega), b_116_4 hL, hY, c_one (by omega), if_pos (by omega), b_116_21 hL, q1, bsX, b_116_28 hL, q2, bsJ, b_116_36 hL, e65, bsJ, b_116_43, p_158 (by omega) _ _ _ (by omega) (by omega), bsJ, b_116_47, Int.toNat_natCast]
  · refine ⟨M, start _ _ ?_, Fx_r, hC⟩
    rw [if_neg h, b_116_0]
    by_cases h1 : x < 0
    · rw [if_pos h1, b_116_17]; rfl
    · rw [if_neg h1, b_116_4 hL, hY, c_one (by omega), if_neg (by omega), b_116_17]; rfl
end
