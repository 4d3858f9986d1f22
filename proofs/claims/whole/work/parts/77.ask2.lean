section
/-! ===== questions: many, likely, mean; among, mine, likeliest ===== -/
theorem Dl_z {w : Nat → Nat → Int} {so D s n : Nat} (hso : so < 3) (hs : s < 128) (hn : mo so (bl s).length < n) : Dl (fac w (es so 7)) D (bl s) n = 0 := by
  rw [← FS_D (oo := fun A => sm (fun d => wp (w d) (bl A)) D) (c := cc (es so 7)) hs (es_0 so 7) (cc_b (es_0 so 7)) (fun A _ _ => rfl)]
  exact FS_z hso (fun k n hk hn => cc_z hso 8 k n (by omega) hk hn) 128 s hs hs n hn
theorem fill_ok {d0 : Nat} (hd : 3 ≤ d0) {M : MM} {R : RR} (hL : Lay R) {P Y t o pi fo so w : Nat} (hX : XW M R P Y t) (hC : PP M P Y) (hS : spO R o pi fo w) (hne : ¬ fo = 29) (hcl : fo ∈ clsO) (hso3 : so < 3) (hwe : w = mo so 7 + 1) (hw22 : w ≤ 22) (hI : spI M o pi fo w so 7) : ∃ M', call d0 43 [vA o, vA 29, vI ((EV P : Nat) : Int)] M R = some (vX 0, M', R) ∧ Fx [fo] M M' ∧ fW M' fo w so P Y ∧ spI M' o pi fo w so 7 := by
  obtain ⟨hP, hP7, hY, hY1, hY24, _⟩ := id hX
  have hev := EV_b hP7
  obtain ⟨k1, k2, k3, k4, k5, k6, k7, k8, k9, k10⟩ := id hS
  obtain ⟨M', q, f, y⟩ := s_43 (d0 := d0) hd (M := M) (E := EV P) (oo := M 29) (c := cc (es so 7)) hS (lay_31 hL) hne hso3 hwe hw22 hev.2 (fun A hA => by have := hC.1.2 A (by omega); rw [w64_i (by omega)]) (fun k n hk hn => cc_z hso3 8 k n (by omega) hk hn) hI.1 hI.2.1 (fun _ _ => rfl) hI.2.2.1 hI.2.2.2
  have hF : Fx clsO M M' := Fx_s f (fun o ho => by rw [List.mem_singleton.1 ho]; exact hcl)
  have hW := Wd_e (Wx_x hF)
  refine ⟨M', q, f, ?_, ?_⟩
  · intro s hs n hn
    rw [y s (by omega) n hn, hW, FS_D (w := Wd M) (D := Y) (e := es so 7) (by omega) (es_0 so 7) (cc_b (es_0 so 7)) (fun A h1 h2 => hC.2.2.1.2.2.2.1 A h1 (by omega))]
  · refine ⟨by rw [f o (by simpa using k9)]; exact hI.1, by rw [f o (by simpa using k9)]; exact hI.2.1, by rw [f pi (by simpa using k8)]; exact hI.2.2.1, fun n h1 h2 => ?_⟩
    have h := y 0 (by omega) n h2
    rw [FS_0, Nat.zero_mul, Nat.zero_add] at h
    rw [h]
    cases n with
    | zero => omega
    | succ n => rfl
/-- so many PAIRS, DAYS TAKEN: in how many ways -/
def NU (w : Nat → Nat → Int) (P Y so n : Nat) : Int := Dl (fac w (es so 7)) Y (bl (EV P)) n
theorem NU_ok {M : MM} {R : RR} {P Y t : Nat} (hX : XW M R P Y t) (so n : Nat) : 0 ≤ NU (Wd M) P Y so n ∧ NU (Wd M) P Y so n ≤ AL (Wd M) Y (EV P) := Dl_ok hX (EV_lt P) so 7 n
theorem NUm_ok {M : MM} {R : RR} {P Y t : Nat} (hX : XM M R P Y t) (so n : Nat) : 0 ≤ NU (Wmd M) P Y so n ∧ NU (Wmd M) P Y so n ≤ AL (Wmd M) Y (EV P) := Dlm_ok hX (EV_lt P) so 7 n
theorem s_69 {d0 : Nat} (hd : 4 ≤ d0) {M : MM} {R : RR} (hL : Lay R) {P Y t so n : Nat} (hX : XW M R P Y t) (hC : PP M P Y) (hso : so < 2) (hn : n ≤ 21) : ∃ M', call d0 69 [vA 27, vI so, vI n] M R = some (vJ (NU (Wd M) P Y so n), M', R) ∧ Fx clsO M M' ∧ PP M' P Y := by
  obtain ⟨e, rfl⟩ := s_le hd
  obtain ⟨hP, hP7, hY, hY1, hY24, _⟩ := id hX
  have hev := EV_b hP7
  obtain ⟨⟨⟨c1, c2, c3, c4, c5, c6, c7, c8, c9, c10, c11⟩, c29⟩, cF, cA, cv⟩ := id hC
  have start : ∀ v M', run (call (e + 3)) 69 0 [vA 27, vI so, vI n] [] M R = some (vJ v, M', R) → call (e + 4) 69 [vA 27, vI so, vI n] M R = some (vJ v, M', R) := fun v M' h => call_of 3 [vA 27, vI so, vI n] (by decide) rfl (Nat.le_of_ble_eq_true rfl) rfl h rfl
  have h64 := Dl_64 hX (EV_lt P) so 7 n
  by_cases h0 : so = 0
  · subst h0
    have fin : ∀ M1 : MM, Fx clsO M M1 → spI M1 38 39 40 22 0 7 → fW M1 40 22 0 P Y → M1 27 13 = ((EV P : Nat) : Int) → run (call (e + 3)) 69 38 [vA 27, vI ((0 : Nat) : Int), vI n] [] M1 R = some (vJ (Dl (fac (Wd M) (es 0 7)) Y (bl (EV P)) n), M1, R) := by
      intro M1 f1 i1 w1 g1
      have h := w1 (EV P) (EV_lt P) n (by omega)
      rw [Wd_e (Wx_x f1), h64] at h
      rw [b_69_38 hL, g1, s_45 (by omega) (n : Int) (sp_38 hL) i1.2.1 (by decide) hev.2, bsJ, b_69_50, if_pos (by omega), Int.toNat_natCast, h]
    by_cases hv : M 27 11 = M 27 10
    · refine ⟨M, start _ _ ?_, Fx_r, hC⟩
      rw [b_69_0, if_neg (by decide), b_69_4, if_pos hv]
      exact fin M Fx_r c3 (c10 (hv.trans cv)) cA.1
    · obtain ⟨M1, q1, f1, w1, i1⟩ := fill_ok (d0 := e + 3) (by omega) hL hX hC (sp_38 hL) (by decide) (by decide) (by decide) rfl (by decide) c3
      have F1 : Fx clsO M M1 := Fx_s f1 (by decide)
      have F2 : Fx clsO M (up M1 27 11 (M1 27 10)) := Fx_t F1 (Fx_p (by decide))
      have hW := Wx_x F1
      have hW2 : Wx (up M1 27 11 (M1 27 10)) = Wx M := Wx_x F2
      have k : ∀ o, o ∉ [27, 40] → up M1 27 11 (M1 27 10) o = M o := fun o ho => by
        rw [up_o (fun h => ho (by simp [h])), f1 o (fun h => ho (by simp at h; simp [h]))]
      have g : ∀ i, ¬ i = 11 → up M1 27 11 (M1 27 10) 27 i = M 27 i := fun i hi => by rw [up_i hi, f1 27 (by decide)]
      have gA : aW (up M1 27 11 (M1 27 10)) P Y := aW_f hW2 (g 13 (by decide)) (fun o ho => k o (by rcases ho with rfl | rfl | rfl <;> decide)) cA
      have gi : spI (up M1 27 11 (M1 27 10)) 38 39 40 22 0 7 := spI_f (up_o (by decide)) (up_o (by decide)) (up_o (by decide)) i1
      have gw : fW (up M1 27 11 (M1 27 10)) 40 22 0 P Y := fW_f (hW2.trans hW.symm) (up_o (by decide)) w1
      have g11 : up M1 27 11 (M1 27 10) 27 11 = M 22 7 := by rw [up_s, f1 27 (by decide)]; exact cv
      refine ⟨up M1 27 11 (M1 27 10), start _ _ ?_, F2, ⟨⟨⟨?_, spI_f (k 32 (by decide)) (k 33 (by decide)) (k 34 (by decide)) c2, gi, spI_f (k 41 (by decide)) (k 42 (by decide)) (k 43 (by decide)) c4, by rw [k 35 (by decide)]; exact c5, by rw [k 35 (by decide)]; exact c6, by rw [k 22 (by decide)]; exact c7, ?_, fun _ => gA, fun _ => gw, ?_⟩, by rw [k 29 (by decide)]; exact c29⟩, ?_, gA, ?_⟩⟩
      · rw [b_69_0, if_neg (by decide), b_69_4, if_neg hv, b_69_15 hL, cA.1, q1, bsX, b_69_30]
        exact fin _ F2 gi gw (by rw [g 13 (by decide)]; exact cA.1)
      · unfold CW
        rw [hW2, k 23 (by decide), k 24 (by decide), k 25 (by decide)]
        exact c1
      · rw [g11, g 10 (by decide), g 12 (by decide), k 22 (by decide)]
        exact ⟨c8.1, Int.le_refl _, c8.2.2⟩
      · rw [g 12 (by decide), k 22 (by decide)]
        exact fun h => fW_f hW2 (k 43 (by decide)) (c11 h)
      · exact FR_f F2 (fun o ho => k o (by simp only [List.mem_cons, List.not_mem_nil, or_false] at ho; rcases ho with rfl | rfl | rfl <;> decide)) cF
      · rw [g 10 (by decide), k 22 (by decide)]; exact cv
  · have h1 : so = 1 := by omega
    subst h1
    have fin : ∀ M1 : MM, Fx clsO M M1 → spI M1 41 42 43 8 1 7 → fW M1 43 8 1 P Y → M1 27 13 = ((EV P : Nat) : Int) → run (call (e + 3)) 69 85 [vA 27, vI ((1 : Nat) : Int), vI n] [] M1 R = some (vJ (Dl (fac (Wd M) (es 1 7)) Y (bl (EV P)) n), M1, R) := by
      intro M1 f1 i1 w1 g1
      rw [b_69_85 hL, g1, s_45 (by omega) (n : Int) (sp_41 hL) i1.2.1 (by decide) hev.2, bsJ, b_69_97]
      by_cases h8 : n < 8
      · have h := w1 (EV P) (EV_lt P) n h8
        rw [Wd_e (Wx_x f1), h64] at h
        rw [if_pos (by omega), Int.toNat_natCast, h]
      · have l7 := bl_len7 ⟨EV P, hev.2⟩
        try dsimp only at l7
        rw [if_neg (by omega), Dl_z (by decide) hev.2 (by show (bl (EV P)).length < n; omega)]
    by_cases hv : M 27 12 = M 27 10
    · refine ⟨M, start _ _ ?_, Fx_r, hC⟩
      rw [b_69_0, if_pos (by decide), b_69_51, if_pos hv]
      exact fin M Fx_r c4 (c11 (hv.trans cv)) cA.1
    · obtain ⟨M1, q1, f1, w1, i1⟩ := fill_ok (d0 := e + 3) (by omega) hL hX hC (sp_41 hL) (by decide) (by decide) (by decide) rfl (by decide) c4
      have F1 : Fx clsO M M1 := Fx_s f1 (by decide)
      have F2 : Fx clsO M (up M1 27 12 (M1 27 10)) := Fx_t F1 (Fx_p (by decide))
      have hW := Wx_x F1
      have hW2 : Wx (up M1 27 12 (M1 27 10)) = Wx M := Wx_x F2
      have k : ∀ o, o ∉ [27, 43] → up M1 27 12 (M1 27 10) o = M o := fun o ho => by
        rw [up_o (fun h => ho (by simp [h])), f1 o (fun h => ho (by simp at h; simp [h]))]
      have g : ∀ i, ¬ i = 12 → up M1 27 12 (M1 27 10) 27 i = M 27 i := fun i hi => by rw [up_i hi, f1 27 (by decide)]
      have gA : aW (up M1 27 12 (M1 27 10)) P Y := aW_f hW2 (g 13 (by decide)) (fun o ho => k o (by rcases ho with rfl | rfl | rfl <;> decide)) cA
      have gi : spI (up M1 27 12 (M1 27 10)) 41 42 43 8 1 7 := spI_f (up_o (by decide)) (up_o (by decide)) (up_o (by decide)) i1
      have gw : fW (up M1 27 12 (M1 27 10)) 43 8 1 P Y := fW_f (hW2.trans hW.symm) (up_o (by decide)) w1
      have g11 : up M1 27 12 (M1 27 10) 27 12 = M 22 7 := by rw [up_s, f1 27 (by decide)]; exact cv
      refine ⟨up M1 27 12 (M1 27 10), start _ _ ?_, F2, ⟨⟨⟨?_, spI_f (k 32 (by decide)) (k 33 (by decide)) (k 34 (by decide)) c2, spI_f (k 38 (by decide)) (k 39 (by decide)) (k 40 (by decide)) c3, gi, by rw [k 35 (by decide)]; exact c5, by rw [k 35 (by decide)]; exact c6, by rw [k 22 (by decide)]; exact c7, ?_, fun _ => gA, ?_, fun _ => gw⟩, by rw [k 29 (by decide)]; exact c29⟩, ?_, gA, ?_⟩⟩
      · rw [b_69_0, if_pos (by decide), b_69_51, if_neg hv, b_69_62 hL, cA.1, q1, bsX, b_69_77]
        exact fin _ F2 gi gw (by rw [g 13 (by decide)]; exact cA.1)
      · unfold CW
        rw [hW2, k 23 (by decide), k 24 (by decide), k 25 (by decide)]
        exact c1
      · rw [g11, g 10 (by decide), g 11 (by decide), k 22 (by decide)]
        exact ⟨c8.1, c8.2.1, Int.le_refl _⟩
      · rw [g 11 (by decide), k 22 (by decide)]
        exact fun h => fW_f hW2 (k 40 (by decide)) (c10 h)
      · exact FR_f F2 (fun o ho => k o (by simp only [List.mem_cons, List.not_mem_nil, or_false] at ho; rcases ho with rfl | rfl | rfl <;> decide)) cF
      · rw [g 10 (by decide), k 22 (by decide)]; exact cv
def v_many (w : Nat → Nat → Int) (P Y : Nat) (so n part : Int) : Int := if (0 ≤ so ∧ so < 2) ∧ 0 ≤ n ∧ n ≤ 21 then fr (NU w P Y so.toNat n.toNat) (AL w Y (EV P)) part else NO
theorem s_112 {d0 : Nat} (hd : 7 ≤ d0) {M : MM} {R : RR} (hL : Lay R) {P Y t : Nat} (hX : XW M R P Y t) (hC : CJ M P Y) (x y z : Int) : ∃ M', call d0 112 [vA 1, vI x, vI y, vI z] M R = some (vJ (v_many (Wd M) P Y x y z), M', R) ∧ Fx clsO M M' ∧ CJ M' P Y := by
  obtain ⟨e, rfl⟩ := s_le hd
  have start : ∀ v M', run (call (e + 6)) 112 0 [vA 1, vI x, vI y, vI z] [] M R = some (vJ v, M', R) → call (e + 7) 112 [vA 1, vI x, vI y, vI z] M R = some (vJ v, M', R) := fun v M' h => call_of 4 [vA 1, vI x, vI y, vI z] (by decide) rfl (Nat.le_of_ble_eq_true rfl) rfl h rfl
  unfold v_many
  by_cases h : (0 ≤ x ∧ x < 2) ∧ 0 ≤ y ∧ y ≤ 21
  · obtain ⟨so, rfl⟩ : ∃ k : Nat, x = (k : Int) := ⟨x.toNat, by omega⟩
    obtain ⟨n, rfl⟩ : ∃ k : Nat, y = (k : Int) := ⟨y.toNat, by omega⟩
    obtain ⟨M1, q1, f1, p1⟩ := p_61 (d0 := e + 6) (by omega) hL hX hC
    have X1 := XW_f f1 hX
    obtain ⟨M2, q2, f2, p2⟩ := s_69 (d0 := e + 6) (by omega) hL X1 p1 (so := so) (n := n) (by omega) (by omega)
    have W1 : Wx M1 = Wx M := Wx_x f1
    have W2 : Wx M2 = Wx M := by rw [Wx_x f2, W1]
    have e65 := s_65 (d0 := e + 6) (by omega) hL hX.2.1 p2.2.2.1
    rw [Wd_e W2] at e65
    rw [Wd_e W1] at q2
    have r1 := AL_r hX (EV_lt P)
    have r2 := NU_ok hX so n
    refine ⟨M2, start _ _ ?_, Fx_t f1 f2, p2.1⟩
    rw [if_pos h, b_112_0, s_113 (by omega), bsI, b_112_4, b2_t (by omega), if_neg (by decide), b_112_7, if_neg (by omega), b_112_11, if_pos (by omega), b_112_21 hL, q1, bsX, b_112_28 hL, q2, bsJ, b_112_37 hL, e65, bsJ, b_112_44, p_158 (by omega) _ _ _ (by omega) (by omega), bsJ, b_112_48, Int.toNat_natCast, Int.toNat_natCast]
  · refine ⟨M, start _ _ ?_, Fx_r, hC⟩
    rw [if_neg h, b_112_0, s_113 (by omega), bsI, b_112_4]
    by_cases h1 : 0 ≤ x ∧ x < 2
    · rw [b2_t h1, if_neg (by decide), b_112_7]
      by_cases h2 : y < 0
      · rw [if_pos h2, b_112_17]; rfl
      · rw [if_neg h2, b_112_11, if_neg (by omega), b_112_17]; rfl
    · rw [b2_f h1, if_pos rfl, b_112_17]; rfl
theorem s_212 {d0 : Nat} (hd : 7 ≤ d0) {M : MM} {R : RR} (hL : Lay R) {P Y t : Nat} (hX : XM M R P Y t) (x y z : Int) : ∃ M', call d0 212 [vA 57, vI x, vI y, vI z] M R = some (vJ (v_many (Wmd M) P Y x y z), M', R) ∧ Fx modO M M' := by
  obtain ⟨e, rfl⟩ := s_le hd
  obtain ⟨hP, hP7, hY, hY1, hY24, _⟩ := id hX
  have hev := EV_b hP7
  have start : ∀ v M', run (call (e + 6)) 212 0 [vA 57, vI x, vI y, vI z] [] M R = some (vJ v, M', R) → call (e + 7) 212 [vA 57, vI x, vI y, vI z] M R = some (vJ v, M', R) := fun v M' h => call_of 4 [vA 57, vI x, vI y, vI z] (by decide) rfl (Nat.le_of_ble_eq_true rfl) rfl h rfl
  unfold v_many
  by_cases h1 : 0 ≤ x ∧ x ≤ 1
  · by_cases h2 : 0 ≤ y ∧ y ≤ 21
    · rw [if_pos (by omega)]
      by_cases h3 : 0 ≤ z ∧ z ≤ 1
      · obtain ⟨so, rfl⟩ : ∃ k : Nat, x = (k : Int) := ⟨x.toNat, by omega⟩
        obtain ⟨n, rfl⟩ : ∃ k : Nat, y = (k : Int) := ⟨y.toNat, by omega⟩
        obtain ⟨M1, q1, f1, w1, y1, c1⟩ := s_211 (d0 := e + 6) (by omega) hL hX (so := so) (by omega)
        have hc := c1 (EV P) (EV_lt P) n (by omega)
        rw [show w64 (Dl (fac (fun d p => Wm M p d) (es so 7)) Y (bl (EV P)) n) = NU (Wmd M) P Y so n from Dlm_64 hX (EV_lt P) so 7 n] at hc
        have ha := y1 (EV P) (EV_lt P)
        rw [show pr (fun p => sm (Wm M p) Y) (EV P) P = AL (Wmd M) Y (EV P) from pr_wp (EV_lt P) (by omega)] at ha
        have r1 := ALm_r hX (EV_lt P)
        have r2 := NUm_ok hX so n
        have ei : w32 (w32 (22 * ((EV P : Nat) : Int)) + (n : Int)) = ((22 * EV P + n : Nat) : Int) := by
          simp (disch := omega) only [w32_i]; omega
        refine ⟨M1, start _ _ ?_, Fx_s f1 (by decide)⟩
        rw [b_212_0, s_162 (by omega), bsI, b_212_6, b2_t h1, if_neg (by decide), b_212_9, s_162 (by omega), bsI, b_212_16, b2_t h2, if_neg (by decide), b_212_19, s_203 (by omega), bsI, b_212_23, b2_t h3, if_pos (by decide), b_212_30, q1, bsX, b_212_35 hL, s_166 (by omega), bsI, f1 57 (by decide), hP, c_ev (by omega), b_212_45 hL, ei, if_pos (by omega), s_166 (by omega), bsI, f1 57 (by decide), hP, c_ev (by omega), b_212_57 hL, if_pos (by omega), Int.toNat_natCast, Int.toNat_natCast, hc, ha, p_202 (by omega) _ _ _ (by omega) (by omega) (by omega), bsJ, b_212_62, Int.toNat_natCast, Int.toNat_natCast]
      · refine ⟨M, start _ _ ?_, Fx_r⟩
        rw [fr_no (by omega), b_212_0, s_162 (by omega), bsI, b_212_6, b2_t h1, if_neg (by decide), b_212_9, s_162 (by omega), bsI, b_212_16, b2_t h2, if_neg (by decide), b_212_19, s_203 (by omega), bsI, b_212_23, b2_f h3, if_neg (by decide), b_212_26]
    · refine ⟨M, start _ _ ?_, Fx_r⟩
      rw [if_neg (by omega), b_212_0, s_162 (by omega), bsI, b_212_6, b2_t h1, if_neg (by decide), b_212_9, s_162 (by omega), bsI, b_212_16, b2_f h2, if_pos rfl, b_212_26]
      rfl
  · refine ⟨M, start _ _ ?_, Fx_r⟩
    rw [if_neg (by omega), b_212_0, s_162 (by omega), bsI, b_212_6, b2_f h1, if_pos rfl, b_212_26]
    rfl
end
