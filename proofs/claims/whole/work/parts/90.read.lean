section
/-! ===== questions: asks, told, weight, taken ===== -/
def v_asks (sg : Nat → List Int) (B mo tl : Nat → Int) (P Y : Nat) (x y z : Int) : Int := if (0 ≤ x ∧ x ≤ 2) ∧ (0 ≤ y ∧ y < (P : Int)) ∧ (0 ≤ z ∧ z < (Y : Int)) then lvw (sg x.toNat) x.toNat z.toNat (B z.toNat) Y (mo y.toNat) (tl y.toNat) y.toNat else -2
theorem s_101 {d0 : Nat} (hd : 4 ≤ d0) {M : MM} {R : RR} (hL : Lay R) {P Y t : Nat} (hX : XW M R P Y t) (hC : CJ M P Y) (x y z : Int) : ∃ M', call d0 101 [vA 1, vI x, vI y, vI z] M R = some (vI (v_asks (segm M t) (M 3) (M 6) (M 7) P Y x y z), M', R) ∧ Fx clsO M M' ∧ CJ M' P Y := by
  obtain ⟨e, rfl⟩ := s_le hd
  obtain ⟨hP, hP7, hY, hY1, hY24, ht, ht5, ht6, hT, hr⟩ := id hX
  have start : ∀ v M', run (call (e + 3)) 101 0 [vA 1, vI x, vI y, vI z] [] M R = some (vI v, M', R) → call (e + 4) 101 [vA 1, vI x, vI y, vI z] M R = some (vI v, M', R) := fun v M' h => call_of 4 [vA 1, vI x, vI y, vI z] (by decide) rfl (Nat.le_of_ble_eq_true rfl) rfl h rfl
  unfold v_asks
  by_cases h : (0 ≤ x ∧ x ≤ 2) ∧ (0 ≤ y ∧ y < (P : Int)) ∧ (0 ≤ z ∧ z < (Y : Int))
  · obtain ⟨k, rfl⟩ : ∃ k : Nat, x = (k : Int) := ⟨x.toNat, by omega⟩
    obtain ⟨p, rfl⟩ : ∃ k : Nat, y = (k : Int) := ⟨y.toNat, by omega⟩
    obtain ⟨d, rfl⟩ : ∃ k : Nat, z = (k : Int) := ⟨z.toNat, by omega⟩
    obtain ⟨f, g, q⟩ := s_6 (d0 := e + 3) (by omega) (M := M) hL (t := t) (part := k) (p := p) (d := d) (told := M 7 p) hT ht5 ht6 (by omega) (by omega) (by omega) (by omega) (by omega)
    have hF : Fx [15, 16] M (upf (upf M 15 f) 16 g) := Fx_t (Fx_u (by decide)) (Fx_u (by decide))
    refine ⟨upf (upf M 15 f) 16 g, start _ _ ?_, Fx_s hF (by decide), CJ_f (Fx_s hF (by decide)) (fun o ho => hF o (by simp only [List.mem_cons, List.not_mem_nil, or_false] at ho ⊢; omega)) (by rw [hF 35 (by decide)]) (by rw [hF 35 (by decide)]) hC⟩
    rw [if_pos h, b_101_0, if_neg (by omega), b_101_4, if_neg (by omega), b_101_9 hL, s_9 (by omega), bsI, b_101_17, b2_t (by omega), if_neg (by decide), b_101_20 hL, s_90 (by omega), bsI, b_101_28, b2_t (by omega), if_pos (by decide), b_101_34 hL, if_pos (by omega), ht, Int.toNat_natCast, q, bsI, b_101_60, Int.toNat_natCast, Int.toNat_natCast, hY]
  · refine ⟨M, start _ _ ?_, Fx_r, hC⟩
    rw [if_neg h, b_101_0]
    by_cases h1 : x < 0
    · rw [if_pos h1, b_101_31]
    rw [if_neg h1, b_101_4]
    by_cases h2 : 2 < x
    · rw [if_pos h2, b_101_31]
    rw [if_neg h2, b_101_9 hL, s_9 (by omega), bsI, b_101_17]
    by_cases h3 : 0 ≤ y ∧ y < M 4 0
    · rw [b2_t h3, if_neg (by decide), b_101_20 hL, s_90 (by omega), bsI, b_101_28, b2_f (by omega), if_neg (by decide), b_101_31]
    · rw [b2_f h3, if_pos rfl, b_101_31]
theorem s_189 {d0 : Nat} (hd : 4 ≤ d0) {M : MM} {R : RR} (hL : Lay R) {P Y t : Nat} (hX : XM M R P Y t) (x y z : Int) : ∃ M', call d0 189 [vA 57, vI x, vI y, vI z] M R = some (vI (v_asks (segm M t) (M 58) (M 60) (M 61) P Y x y z), M', R) ∧ Fx modO M M' := by
  obtain ⟨e, rfl⟩ := s_le hd
  obtain ⟨hP, hP7, hY, hY1, hY24, ht, ht6, hT, hr⟩ := id hX
  have start : ∀ v M', run (call (e + 3)) 189 0 [vA 57, vI x, vI y, vI z] [] M R = some (vI v, M', R) → call (e + 4) 189 [vA 57, vI x, vI y, vI z] M R = some (vI v, M', R) := fun v M' h => call_of 4 [vA 57, vI x, vI y, vI z] (by decide) rfl (Nat.le_of_ble_eq_true rfl) rfl h rfl
  have e1 : w32 (M 57 2 - 1) = (P : Int) - 1 := by rw [w32_i (by omega)]; omega
  have e2 : w32 (M 57 0 - 1) = (Y : Int) - 1 := by rw [w32_i (by omega)]; omega
  unfold v_asks
  by_cases h : (0 ≤ x ∧ x ≤ 2) ∧ (0 ≤ y ∧ y < (P : Int)) ∧ (0 ≤ z ∧ z < (Y : Int))
  · obtain ⟨k, rfl⟩ : ∃ k : Nat, x = (k : Int) := ⟨x.toNat, by omega⟩
    obtain ⟨p, rfl⟩ : ∃ k : Nat, y = (k : Int) := ⟨y.toNat, by omega⟩
    obtain ⟨d, rfl⟩ : ∃ k : Nat, z = (k : Int) := ⟨z.toNat, by omega⟩
    obtain ⟨f, g, q⟩ := s_188 (d0 := e + 3) (by omega) (M := M) hL (t := t) (part := k) (p := p) (d := d) hT ht ht6 (by omega) (by omega) (by omega)
    have hF : Fx [73, 72] M (upf (upf M 73 f) 72 g) := Fx_t (Fx_u (by decide)) (Fx_u (by decide))
    refine ⟨upf (upf M 73 f) 72 g, start _ _ ?_, Fx_s hF (by decide)⟩
    rw [if_pos h, b_189_0, s_162 (by omega), bsI, b_189_6, b2_t (by omega), if_neg (by decide), b_189_9, s_165 (by omega), bsI, b_189_14, b2_t (by omega), if_neg (by decide), b_189_17, s_164 (by omega), bsI, b_189_22, b2_t (by omega), if_neg (by decide), b_189_25, q, bsI, b_189_32, b_189_37, Int.toNat_natCast, Int.toNat_natCast, Int.toNat_natCast, hY]
  · refine ⟨M, start _ _ ?_, Fx_r⟩
    rw [if_neg h, b_189_0, s_162 (by omega), bsI, b_189_6]
    by_cases h1 : 0 ≤ x ∧ x ≤ 2
    · rw [b2_t h1, if_neg (by decide), b_189_9, s_165 (by omega), bsI, b_189_14]
      by_cases h2 : 0 ≤ y ∧ y ≤ w32 (M 57 2 - 1)
      · rw [b2_t h2, if_neg (by decide), b_189_17, s_164 (by omega), bsI, b_189_22, b2_f (by omega), if_pos rfl, b_189_35, b_189_37]
      · rw [b2_f h2, if_pos rfl, b_189_35, b_189_37]
    · rw [b2_f h1, if_pos rfl, b_189_35, b_189_37]
def v_told (kd mo tl : Nat → Int) (w : Nat → Nat → Int) (P Y : Nat) (x y : Int) : Int := if ¬ (0 ≤ x ∧ x < (P : Int)) then -5 else if y = 0 then kd x.toNat else if y = 1 then mo x.toNat else if y = 2 then tl x.toNat else if y = 3 then (if kd x.toNat = 2 then w32 (1 + mo x.toNat) else if kd x.toNat = 4 then w32 (2 * w32 (1 + mo x.toNat)) else 1) else if y = 4 then sm (fun d => w d x.toNat) Y else -7
theorem s_105 {d0 : Nat} (hd : 7 ≤ d0) {M : MM} {R : RR} (hL : Lay R) {P Y t : Nat} (hX : XW M R P Y t) (hC : CJ M P Y) (x y : Int) : ∃ M', call d0 105 [vA 1, vI x, vI y] M R = some (vI (v_told (M 5) (M 6) (M 7) (Wd M) P Y x y), M', R) ∧ Fx clsO M M' ∧ CJ M' P Y := by
  obtain ⟨e, rfl⟩ := s_le hd
  obtain ⟨hP, hP7, hY, hY1, hY24, ht, ht5, ht6, hT, hr⟩ := id hX
  have start : ∀ v M', run (call (e + 6)) 105 0 [vA 1, vI x, vI y] [] M R = some (vI v, M', R) → call (e + 7) 105 [vA 1, vI x, vI y] M R = some (vI v, M', R) := fun v M' h => call_of 3 [vA 1, vI x, vI y] (by decide) rfl (Nat.le_of_ble_eq_true rfl) rfl h rfl
  unfold v_told
  by_cases h : 0 ≤ x ∧ x < (P : Int)
  · rw [if_neg (not_not_intro h)]
    obtain ⟨p, rfl⟩ : ∃ k : Nat, x = (k : Int) := ⟨x.toNat, by omega⟩
    by_cases h4 : y = 4
    · subst h4
      obtain ⟨M1, q, f1, c1, c2⟩ := p_80 (d0 := e + 5) (by omega) hL hX hC
      have q6 : call (e + 6) 106 [vA 1, vI p] M R = some (vI (sm (fun d => Wd M d p) Y), M1, R) := by
        refine call_of 2 [vA 1, vI p] (by decide) rfl (Nat.le_of_ble_eq_true rfl) rfl ?_ rfl
        rw [b_106_0 hL, q, bsX, b_106_7 hL, s_82 (by omega) hL (by rw [f1 4 (by decide)]; omega) (by omega), bsI, b_106_15, (c2 p (by omega)).2.2, Wx_x f1]
        rfl
      refine ⟨M1, start _ _ ?_, f1, c1⟩
      rw [if_neg (by decide), if_neg (by decide), if_neg (by decide), if_neg (by decide), if_pos rfl, b_105_0 hL, s_9 (by omega), bsI, b_105_8, b2_t (by omega), if_pos (by decide), b_105_14, b_105_15, if_neg (by decide), if_neg (by decide), if_neg (by decide), if_neg (by decide), if_pos rfl, b_105_87, q6, bsI, b_105_92, Int.toNat_natCast]
    · refine ⟨M, start _ _ ?_, Fx_r, hC⟩
      rw [b_105_0 hL, s_9 (by omega), bsI, b_105_8, b2_t (by omega), if_pos (by decide), b_105_14, b_105_15]
      by_cases h0 : y = 0
      · rw [if_pos h0, if_pos h0, b_105_48 hL, if_pos (by omega)]
      by_cases h1 : y = 1
      · rw [if_neg h0, if_neg h0, if_pos h1, if_pos h1, b_105_58 hL, if_pos (by omega)]
      by_cases h2 : y = 2
      · rw [if_neg h0, if_neg h0, if_neg h1, if_neg h1, if_pos h2, if_pos h2, b_105_68 hL, if_pos (by omega)]
      by_cases h3 : y = 3
      · rw [if_neg h0, if_neg h0, if_neg h1, if_neg h1, if_neg h2, if_neg h2, if_pos h3, if_pos h3, b_105_78 hL, s_18 (by omega) hL _ (by omega), bsI, b_105_86]
      rw [if_neg h0, if_neg h0, if_neg h1, if_neg h1, if_neg h2, if_neg h2, if_neg h3, if_neg h3, if_neg h4, if_neg h4, b_105_93]
  · refine ⟨M, start _ _ ?_, Fx_r, hC⟩
    rw [if_pos h, b_105_0 hL, s_9 (by omega), bsI, b_105_8, b2_f (by omega), if_neg (by decide), b_105_11]
theorem s_195 {d0 : Nat} (hd : 5 ≤ d0) {M : MM} {R : RR} (hL : Lay R) {P Y t p : Nat} (hX : XM M R P Y t) (hp : p < P) : ∃ M', call d0 195 [vA 57, vI p] M R = some (vI (sm (fun d => Wmd M d p) Y), M', R) ∧ Fx [72, 73] M M' := by
  obtain ⟨e, rfl⟩ := s_le hd
  obtain ⟨hP, hP7, hY, hY1, hY24, ht, ht6, hT, hr⟩ := id hX
  have key := loop_nat (fun d (a : MM) => run (call (e + 4)) 195 4 [vA 57, vI p, vI (sm (fun d => Wmd M d p) d), vI d] [] a R) (fun i a => Fx [72, 73] M a) Y ?_ M Fx_r
  · obtain ⟨M1, hI, hq⟩ := key
    refine ⟨M1, ?_, hI⟩
    refine call_of 4 [vA 57, vI p, vX 0, vX 0] (by decide) rfl (Nat.le_of_ble_eq_true rfl) rfl ?_ rfl
    rw [b_195_0]
    refine hq.trans ?_
    rw [b_195_4, hI 57 (by decide), hY, if_pos (by omega), b_195_27]
  · rintro d M1 hdd a1
    have aF : Fx modO M M1 := Fx_s a1 (by decide)
    have hX1 := XM_f aF hX
    obtain ⟨gP, _, gY, _, _, gt, _, gT, gr⟩ := hX1
    have hW := Wm_x aF
    obtain ⟨f, g, q⟩ := s_192 (d0 := e + 4) (by omega) (M := M1) hL (t := t) (p := p) (d := d) gT gt ht6 (by omega) (by omega) (by omega) (gr p hp).1 (by have := (gr p hp).2.2; omega) (gr p hp).2.1
    have hw : wgt (M1 59 p) (M1 60 p) (M1 61 p) (M1 57 0) d (lvw (segm M1 t 0) 0 d (M1 58 d) (M1 57 0) (M1 60 p) (M1 61 p) p) = Wmd M d p := by
      show _ = Wm M p d
      rw [← hW]
      unfold Wm
      rw [gt, Int.toNat_natCast]
    rw [hw] at q
    have hwr : 0 ≤ Wmd M d p ∧ Wmd M d p ≤ 9 := Wm_r (d := d) hX hp
    have hsr := sm_r (f := fun d => Wmd M d p) (b := 9) d (fun i _ => Wm_r (d := i) hX hp)
    have ed : w32 ((d : Int) + 1) = ((d + 1 : Nat) : Int) := by rw [w32_i (by omega)]; omega
    refine ⟨upf (upf M1 73 f) 72 g, Fx_t a1 (Fx_t (Fx_u (by decide)) (Fx_u (by decide))), ?_⟩
    rw [b_195_4, gY, if_neg (by omega), b_195_12, q, bsI, b_195_19, ed, w32_i (by omega), show sm (fun d => Wmd M d p) (d + 1) = sm (fun d => Wmd M d p) d + Wmd M d p from rfl]
theorem s_196 {d0 : Nat} (hd : 6 ≤ d0) {M : MM} {R : RR} (hL : Lay R) {P Y t : Nat} (hX : XM M R P Y t) (x y : Int) : ∃ M', call d0 196 [vA 57, vI x, vI y] M R = some (vI (v_told (M 59) (M 60) (M 61) (Wmd M) P Y x y), M', R) ∧ Fx modO M M' := by
  obtain ⟨e, rfl⟩ := s_le hd
  obtain ⟨hP, hP7, hY, hY1, hY24, ht, ht6, hT, hr⟩ := id hX
  have start : ∀ v M', run (call (e + 5)) 196 0 [vA 57, vI x, vI y] [] M R = some (vI v, M', R) → call (e + 6) 196 [vA 57, vI x, vI y] M R = some (vI v, M', R) := fun v M' h => call_of 3 [vA 57, vI x, vI y] (by decide) rfl (Nat.le_of_ble_eq_true rfl) rfl h rfl
  have e1 : w32 (M 57 2 - 1) = (P : Int) - 1 := by rw [w32_i (by omega)]; omega
  unfold v_told
  by_cases h : 0 ≤ x ∧ x < (P : Int)
  · rw [if_neg (not_not_intro h)]
    obtain ⟨p, rfl⟩ : ∃ k : Nat, x = (k : Int) := ⟨x.toNat, by omega⟩
    by_cases h4 : y = 4
    · subst h4
      obtain ⟨M1, q, f1⟩ := s_195 (d0 := e + 5) (by omega) hL hX (p := p) (by omega)
      refine ⟨M1, start _ _ ?_, Fx_s f1 (by decide)⟩
      rw [if_neg (by decide), if_neg (by decide), if_neg (by decide), if_neg (by decide), if_pos rfl, b_196_0, s_165 (by omega), bsI, b_196_5, b2_t (by omega), if_pos (by decide), b_196_11, b_196_12, if_neg (by decide), if_neg (by decide), if_neg (by decide), if_neg (by decide), if_pos rfl, b_196_75, q, bsI, b_196_80, Int.toNat_natCast]
    · refine ⟨M, start _ _ ?_, Fx_r⟩
      rw [b_196_0, s_165 (by omega), bsI, b_196_5, b2_t (by omega), if_pos (by decide), b_196_11, b_196_12]
      by_cases h0 : y = 0
      · rw [if_pos h0, if_pos h0, b_196_48 hL, if_pos (by omega)]
      by_cases h1 : y = 1
      · rw [if_neg h0, if_neg h0, if_pos h1, if_pos h1, b_196_55 hL, if_pos (by omega)]
      by_cases h2 : y = 2
      · rw [if_neg h0, if_neg h0, if_neg h1, if_neg h1, if_pos h2, if_pos h2, b_196_62 hL, if_pos (by omega)]
      by_cases h3 : y = 3
      · rw [if_neg h0, if_neg h0, if_neg h1, if_neg h1, if_neg h2, if_neg h2, if_pos h3, if_pos h3, b_196_69, s_193 (by omega) hL _ (by omega), bsI, b_196_74]
      rw [if_neg h0, if_neg h0, if_neg h1, if_neg h1, if_neg h2, if_neg h2, if_neg h3, if_neg h3, if_neg h4, if_neg h4, b_196_81]
  · refine ⟨M, start _ _ ?_, Fx_r⟩
    rw [if_pos h, b_196_0, s_165 (by omega), bsI, b_196_5, b2_f (by omega), if_neg (by decide), b_196_8]
def v_wgt (w : Nat → Nat → Int) (P Y : Nat) (x y : Int) : Int := if (0 ≤ x ∧ x < (P : Int)) ∧ (0 ≤ y ∧ y < (Y : Int)) then w y.toNat x.toNat else -2
theorem s_107 {d0 : Nat} (hd : 6 ≤ d0) {M : MM} {R : RR} (hL : Lay R) {P Y t : Nat} (hX : XW M R P Y t) (hC : CJ M P Y) (x y : Int) : ∃ M', call d0 107 [vA 1, vI x, vI y] M R = some (vI (v_wgt (Wd M) P Y x y), M', R) ∧ Fx clsO M M' ∧ CJ M' P Y := by
  obtain ⟨e, rfl⟩ := s_le hd
  obtain ⟨hP, hP7, hY, hY1, hY24, ht, ht5, ht6, hT, hr⟩ := id hX
  have start : ∀ v M', run (call (e + 5)) 107 0 [vA 1, vI x, vI y] [] M R = some (vI v, M', R) → call (e + 6) 107 [vA 1, vI x, vI y] M R = some (vI v, M', R) := fun v M' h => call_of 3 [vA 1, vI x, vI y] (by decide) rfl (Nat.le_of_ble_eq_true rfl) rfl h rfl
  unfold v_wgt
  by_cases h : (0 ≤ x ∧ x < (P : Int)) ∧ (0 ≤ y ∧ y < (Y : Int))
  · obtain ⟨p, rfl⟩ : ∃ k : Nat, x = (k : Int) := ⟨x.toNat, by omega⟩
    obtain ⟨d, rfl⟩ : ∃ k : Nat, y = (k : Int) := ⟨y.toNat, by omega⟩
    obtain ⟨M1, q, f1, c1, c2⟩ := p_80 (d0 := e + 5) (by omega) hL hX hC
    refine ⟨M1, start _ _ ?_, f1, c1⟩
    rw [if_pos h, b_107_0 hL, s_9 (by omega), bsI, b_107_8, b2_t (by omega), if_neg (by decide), b_107_11 hL, s_90 (by omega), bsI, b_107_19, b2_t (by omega), if_pos (by decide), b_107_25 hL, q, bsX, b_107_32 hL, s_81 (by omega) hL (by rw [f1 4 (by decide)]; omega) (by omega) (by rw [f1 2 (by decide)]; omega) (by omega), bsI, b_107_41, (c2 p (by omega)).2.1 d (by omega), Wx_x f1]
    rfl
  · refine ⟨M, start _ _ ?_, Fx_r, hC⟩
    rw [if_neg h, b_107_0 hL, s_9 (by omega), bsI, b_107_8]
    by_cases h1 : 0 ≤ x ∧ x < M 4 0
    · rw [b2_t h1, if_neg (by decide), b_107_11 hL, s_90 (by omega), bsI, b_107_19, b2_f (by omega), if_neg (by decide), b_107_22]
    · rw [b2_f h1, if_pos rfl, b_107_22]
theorem s_197 {d0 : Nat} (hd : 5 ≤ d0) {M : MM} {R : RR} (hL : Lay R) {P Y t : Nat} (hX : XM M R P Y t) (x y : Int) : ∃ M', call d0 197 [vA 57, vI x, vI y] M R = some (vI (v_wgt (Wmd M) P Y x y), M', R) ∧ Fx modO M M' := by
  obtain ⟨e, rfl⟩ := s_le hd
  obtain ⟨hP, hP7, hY, hY1, hY24, ht, ht6, hT, hr⟩ := id hX
  have start : ∀ v M', run (call (e + 4)) 197 0 [vA 57, vI x, vI y] [] M R = some (vI v, M', R) → call (e + 5) 197 [vA 57, vI x, vI y] M R = some (vI v, M', R) := fun v M' h => call_of 3 [vA 57, vI x, vI y] (by decide) rfl (Nat.le_of_ble_eq_true rfl) rfl h rfl
  have e1 : w32 (M 57 2 - 1) = (P : Int) - 1 := by rw [w32_i (by omega)]; omega
  have e2 : w32 (M 57 0 - 1) = (Y : Int) - 1 := by rw [w32_i (by omega)]; omega
  unfold v_wgt
  by_cases h : (0 ≤ x ∧ x < (P : Int)) ∧ (0 ≤ y ∧ y < (Y : Int))
  · obtain ⟨p, rfl⟩ : ∃ k : Nat, x = (k : Int) := ⟨x.toNat, by omega⟩
    obtain ⟨d, rfl⟩ : ∃ k : Nat, y = (k : Int) := ⟨y.toNat, by omega⟩
    have hp : p < P := by omega
    obtain ⟨f, g, q⟩ := s_192 (d0 := e + 4) (by omega) (M := M) hL (t := t) (p := p) (d := d) hT ht ht6 (by omega) (by omega) (by omega) (hr p hp).1 (by have := (hr p hp).2.2; omega) (hr p hp).2.1
    refine ⟨upf (upf M 73 f) 72 g, start _ _ ?_, Fx_t (Fx_u (by decide)) (Fx_u (by decide))⟩
    have hw : wgt (M 59 p) (M 60 p) (M 61 p) (M 57 0) d (lvw (segm M t 0) 0 d (M 58 d) (M 57 0) (M 60 p) (M 61 p) p) = Wmd M d p := by
      show _ = Wm M p d
      unfold Wm
      rw [ht, Int.toNat_natCast]
    rw [hw] at q
    rw [if_pos h, b_197_0, s_165 (by omega), bsI, b_197_5, b2_t (by omega), if_neg (by decide), b_197_8, s_164 (by omega), bsI, b_197_13, b2_t (by omega), if_neg (by decide), b_197_16, q, bsI, b_197_22, b_197_27, Int.toNat_natCast, Int.toNat_natCast]
  · refine ⟨M, start _ _ ?_, Fx_r⟩
    rw [if_neg h, b_197_0, s_165 (by omega), bsI, b_197_5]
    by_cases h1 : 0 ≤ x ∧ x ≤ w32 (M 57 2 - 1)
    · rw [b2_t h1, if_neg (by decide), b_197_8, s_164 (by omega), bsI, b_197_13, b2_f (by omega), if_pos rfl, b_197_25, b_197_27]
    · rw [b2_f h1, if_pos rfl, b_197_25, b_197_27]
def v_taken (kd B : Nat → Int) (P Y : Nat) (x y : Int) : Int := if ¬ (0 ≤ y ∧ y ≤ 6) then -2 else if ¬ (0 ≤ x ∧ x ≤ 30) then -12 else if x < 24 then (if x < (Y : Int) ∧ ¬ B x.toNat = 0 then (if y = 6 then B x.toNat else -13) else -11) else if x - 24 < (P : Int) then (if y < 6 ∧ (y = 0 ∨ kd (x - 24).toNat = y ∨ (y = 1 ∧ kd (x - 24).toNat = 3) ∨ (y = 2 ∧ kd (x - 24).toNat = 4)) then x - 24 else -13) else -11
theorem s_155 {d0 : Nat} (hd : 4 ≤ d0) {M : MM} {R : RR} (hL : Lay R) {P Y t : Nat} (hX : XW M R P Y t) (x y : Int) : call d0 155 [vA 1, vI x, vI y] M R = some (vI (v_taken (M 5) (M 3) P Y x y), M, R) := by
  obtain ⟨e, rfl⟩ := s_le hd
  obtain ⟨hP, hP7, hY, hY1, hY24, ht, ht5, ht6, hT, hr⟩ := id hX
  have h157 : ∀ p : Nat, p < 7 → call (e + 3) 157 [vA 1, vI p, vI y] M R = some (vI (if p < P then (if (y = 0 ∨ M 5 p = y ∨ (y = 1 ∧ M 5 p = 3) ∨ (y = 2 ∧ M 5 p = 4)) then (p : Int) else -13) else -11), M, R) := by
    intro p hp
    refine call_of 3 [vA 1, vI p, vI y] (by decide) rfl (Nat.le_of_ble_eq_true rfl) rfl ?_ rfl
    rw [b_157_0 hL, s_9 (by omega), bsI, b_157_8]
    by_cases h : p < P
    · rw [b2_t (by omega), if_pos (by decide), b_157_14 hL, if_pos (by omega), Int.toNat_natCast, s_17 (by omega) _ _ (hr p h).1, bsI, b_157_27, if_pos h]
      by_cases g : y = M 5 p ∨ y = 0 ∨ (y = 1 ∧ M 5 p = 3) ∨ (y = 2 ∧ M 5 p = 4)
      · rw [b2_t g, if_neg (by decide), b_157_30, b_157_36, if_pos (by omega)]
      · rw [b2_f g, if_pos rfl, b_157_34, b_157_36, if_neg (by omega)]
    · rw [b2_f (by omega), if_neg (by decide), b_157_11, if_neg h]
  refine call_of 3 [vA 1, vI x, vI y] (by decide) rfl (Nat.le_of_ble_eq_true rfl) rfl ?_ rfl
  unfold v_taken
  have main : 0 ≤ y ∧ y ≤ 6 → run (call (e + 3)) 155 16 [vA 1, vI x, vI y] [] M R = some (vI (if ¬ (0 ≤ x ∧ x ≤ 30) then -12 else if x < 24 then (if x < (Y : Int) ∧ ¬ M 3 x.toNat = 0 then (if y = 6 then M 3 x.toNat else -13) else -11) else if x - 24 < (P : Int) then (if y < 6 ∧ (y = 0 ∨ M 5 (x - 24).toNat = y ∨ (y = 1 ∧ M 5 (x - 24).toNat = 3) ∨ (y = 2 ∧ M 5 (x - 24).toNat = 4)) then x - 24 else -13) else -11), M, R) := by
    intro hy
    rw [b_155_16]
    by_cases h1 : x < 0
    · rw [if_pos h1, b_155_26, if_pos (by omega)]
    rw [if_neg h1, b_155_20]
    by_cases h2 : x < 31
    · rw [if_pos h2, if_neg (by omega), b_155_29]
      by_cases h3 : 24 ≤ x
      · obtain ⟨p, hp⟩ : ∃ p : Nat, x - 24 = (p : Int) := ⟨(x - 24).toNat, by omega⟩
        rw [if_pos h3, if_neg (by omega), b_155_44, w32_i (by omega), hp, h157 p (by omega), bsI, b_155_53, Int.toNat_natCast]
        by_cases h4 : p < P
        · have hk := (hr p h4).1
          have h4' : (p : Int) < (P : Int) := by omega
          rw [if_pos h4, if_pos h4']
          by_cases h5 : (y = 0 ∨ M 5 p = y ∨ (y = 1 ∧ M 5 p = 3) ∨ (y = 2 ∧ M 5 p = 4))
          · rw [if_pos h5, if_pos ⟨by omega, h5⟩]
          · rw [if_neg h5, if_neg (fun h => h5 h.2)]
        · rw [if_neg h4, if_neg (by omega)]
      · rw [if_neg h3, if_pos (by omega), b_155_35, s_156 (by omega) hL _ _ (by omega), bsI, b_155_41, b_155_53, hY]
        by_cases h6 : x < (Y : Int) ∧ ¬ M 3 x.toNat = 0
        · rw [if_pos ⟨by omega, h6⟩, if_pos h6]
        · rw [if_neg (fun h => h6 h.2), if_neg h6]
    · rw [if_neg h2, b_155_26, if_pos (by omega)]
  rw [b_155_0, s_15 (by omega), bsI, b_155_4]
  by_cases h0 : 0 ≤ y ∧ y < 6
  · rw [b2_t h0, if_pos (by decide), main (by omega), if_neg (c := ¬ (0 ≤ y ∧ y ≤ 6)) (by omega)]
  rw [b2_f h0, if_neg (by decide), b_155_7]
  by_cases h6 : y = 6
  · rw [if_pos h6, main (by omega), if_neg (c := ¬ (0 ≤ y ∧ y ≤ 6)) (by omega)]
  · rw [if_neg h6, b_155_13, if_pos (by omega)]
theorem s_256 {d0 : Nat} (hd : 3 ≤ d0) {M : MM} {R : RR} (hL : Lay R) {P Y t : Nat} (hX : XM M R P Y t) (x y : Int) : call d0 256 [vA 57, vI x, vI y] M R = some (vI (v_taken (M 59) (M 58) P Y x y), M, R) := by
  obtain ⟨e, rfl⟩ := s_le hd
  obtain ⟨hP, hP7, hY, hY1, hY24, ht, ht6, hT, hr⟩ := id hX
  have e2 : w32 (M 57 0 - 1) = (Y : Int) - 1 := by rw [w32_i (by omega)]; omega
  refine call_of 3 [vA 57, vI x, vI y] (by decide) rfl (Nat.le_of_ble_eq_true rfl) rfl ?_ rfl
  unfold v_taken
  rw [b_256_0, s_162 (by omega), bsI, b_256_7]
  by_cases h0 : 0 ≤ y ∧ y ≤ 6
  · rw [b2_t h0, if_pos (by decide), if_neg (not_not_intro h0), b_256_13, s_162 (by omega), bsI, b_256_20]
    by_cases h1 : 0 ≤ x ∧ x ≤ 30
    · rw [b2_t h1, if_pos (by decide), if_neg (not_not_intro h1), b_256_26]
      by_cases h3 : 24 ≤ x
      · have e3 : w32 (x - 24) = x - 24 := w32_i (by omega)
        rw [if_pos h3, if_neg (by omega), b_256_72, e3, hP]
        by_cases h4 : x - 24 < (P : Int)
        · rw [if_pos h4, if_pos h4, b_256_88]
          by_cases h5 : 6 ≤ y
          · rw [if_pos h5, if_neg (fun h => by omega), b_256_117, b_256_119]
          · rw [if_neg h5, b_256_94 hL, e3, if_pos (by omega), s_255 (by omega), bsI, b_256_107]
            by_cases h6 : (y = 0 ∨ M 59 (x - 24).toNat = y ∨ (y = 1 ∧ M 59 (x - 24).toNat = 3) ∨ (y = 2 ∧ M 59 (x - 24).toNat = 4))
            · rw [b2_t h6, if_neg (by decide), if_pos ⟨by omega, h6⟩, b_256_110, b_256_119, e3]
            · rw [b2_f h6, if_pos rfl, if_neg (fun h => h6 h.2), b_256_117, b_256_119]
        · rw [if_neg h4, if_neg h4, b_256_83, b_256_119]
      · rw [if_neg h3, if_pos (by omega), b_256_32, s_164 (by omega), bsI, b_256_37]
        by_cases h4 : x < (Y : Int)
        · rw [b2_t (by omega), if_neg (by decide), b_256_40 hL, if_pos (by omega)]
          by_cases h5 : M 58 x.toNat = 0
          · rw [if_neg (not_not_intro h5), if_neg (fun h => h.2 h5), b_256_49, b_256_71]
          · rw [if_pos h5, if_pos ⟨h4, h5⟩, b_256_54]
            by_cases h6 : y = 6
            · rw [if_neg (not_not_intro h6), if_pos h6, b_256_60 hL, if_pos (by omega), b_256_71]
            · rw [if_pos h6, if_neg h6, b_256_69, b_256_71]
        · rw [b2_f (by omega), if_pos rfl, if_neg (fun h => h4 h.1), b_256_49, b_256_71]
    · rw [b2_f h1, if_neg (by decide), if_pos h1, b_256_23]
  · rw [b2_f h0, if_neg (by decide), if_pos h0, b_256_10]
end
