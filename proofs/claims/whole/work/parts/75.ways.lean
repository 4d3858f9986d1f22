section
/-! ===== Ways: what is kept, and when it is right ===== -/
def Wd (M : MM) : Nat → Nat → Int := fun d p => Wx M p d
theorem Wd_e {M M' : MM} (h : Wx M' = Wx M) : Wd M' = Wd M := by unfold Wd; rw [h]
/-- all -/
def EV (P : Nat) : Nat := 2 ^ P - 1
theorem EV_lt (P : Nat) : EV P < 2 ^ P := by have := Nat.two_pow_pos P; show 2 ^ P - 1 < 2 ^ P; omega
theorem EV_b {P : Nat} (h : P ≤ 7) : 2 ^ P = EV P + 1 ∧ EV P < 128 := by
  have h1 := p2_7 h
  have h2 := Nat.two_pow_pos P
  show 2 ^ P = 2 ^ P - 1 + 1 ∧ 2 ^ P - 1 < 128
  omega
theorem c_ev {P : Nat} (hP : P < 31) : w32 (c_shl 1 (P : Int) - 1) = ((EV P : Nat) : Int) := c_all hP
/-- all ways of a set -/
abbrev AL (w : Nat → Nat → Int) (Y s : Nat) : Int := wp (fun p => sm (fun d => w d p) Y) (bl s)
/-- ways in which none of a set have one day -/
abbrev UN (w : Nat → Nat → Int) (Y s : Nat) : Int := Dl (fac w (es 2 1)) Y (bl s) 0
def aW (M : MM) (P Y : Nat) : Prop := M 27 13 = ((EV P : Nat) : Int) ∧ (∀ s, s < 2 ^ P → M 28 s = AL (Wd M) Y s) ∧ M 29 0 = 0 ∧ (∀ A, 1 ≤ A → A < 2 ^ P → M 29 A = sm (fun d => wp (Wd M d) (bl A)) Y) ∧ ∀ s, s < 2 ^ P → M 34 s = w64 (UN (Wd M) Y s)
def fW (M : MM) (fo w so P Y : Nat) : Prop := ∀ s, s < 2 ^ P → ∀ n, n < w → M fo (s * w + n) = w64 (Dl (fac (Wd M) (es so 7)) Y (bl s) n)
def spI (M : MM) (o pi fo w so lim : Nat) : Prop := M o 0 = (so : Int) ∧ M o 1 = (w : Int) ∧ (∀ k, 1 ≤ k → k ≤ 7 → ∀ n, n < w → M pi (k * w + n) = w64 (cc (es so lim) k n)) ∧ ∀ n, 1 ≤ n → n < w → M fo n = 0
/-- the class's caches -/
def CI (M : MM) (P Y : Nat) : Prop := CW M P Y ∧ spI M 32 33 34 1 2 1 ∧ spI M 38 39 40 22 0 7 ∧ spI M 41 42 43 8 1 7 ∧ M 35 0 = 2 ∧ M 35 1 = 1 ∧ (0 < M 22 7 ∧ M 22 7 < 2000000000) ∧ (M 27 10 ≤ M 22 7 ∧ M 27 11 ≤ M 22 7 ∧ M 27 12 ≤ M 22 7) ∧ (M 27 10 = M 22 7 → aW M P Y) ∧ (M 27 11 = M 22 7 → fW M 40 22 0 P Y) ∧ (M 27 12 = M 22 7 → fW M 43 8 1 P Y)
theorem sp_32 {R : RR} (h : Lay R) : spO R 32 33 34 1 := ⟨rfl, lay_at h 41 rfl, lay_at h 42 rfl, rfl, rfl, lay_at h 106 rfl, lay_at h 107 rfl, by decide, by decide, by decide⟩
theorem sp_35 {R : RR} (h : Lay R) : spO R 35 36 37 1 := ⟨rfl, lay_at h 43 rfl, lay_at h 44 rfl, rfl, rfl, lay_at h 108 rfl, lay_at h 109 rfl, by decide, by decide, by decide⟩
theorem sp_38 {R : RR} (h : Lay R) : spO R 38 39 40 22 := ⟨rfl, lay_at h 45 rfl, lay_at h 46 rfl, rfl, rfl, lay_at h 110 rfl, lay_at h 111 rfl, by decide, by decide, by decide⟩
theorem sp_41 {R : RR} (h : Lay R) : spO R 41 42 43 8 := ⟨rfl, lay_at h 47 rfl, lay_at h 48 rfl, rfl, rfl, lay_at h 112 rfl, lay_at h 113 rfl, by decide, by decide, by decide⟩
theorem lay_31 {R : RR} (h : Lay R) : R 0 31 = 128 := lay_at h 103 rfl
theorem aW_f {M M' : MM} {P Y : Nat} (hW : Wx M' = Wx M) (h27 : M' 27 13 = M 27 13) (h : ∀ o, o = 28 ∨ o = 29 ∨ o = 34 → M' o = M o) (hA : aW M P Y) : aW M' P Y := by
  unfold aW Wd at *
  rw [hW, h27, h 28 (by omega), h 29 (by omega), h 34 (by omega)]
  exact hA
theorem fW_f {M M' : MM} {fo w so P Y : Nat} (hW : Wx M' = Wx M) (h : M' fo = M fo) (hA : fW M fo w so P Y) : fW M' fo w so P Y := by
  unfold fW Wd at *
  rw [hW, h]
  exact hA
theorem spI_f {M M' : MM} {o pi fo w so lim : Nat} (h1 : M' o = M o) (h2 : M' pi = M pi) (h3 : M' fo = M fo) (hA : spI M o pi fo w so lim) : spI M' o pi fo w so lim := by
  unfold spI at *
  rw [h1, h2, h3]
  exact hA
/-- a question that writes neither weights nor what is kept of ways -/
theorem CI_f {M M' : MM} {P Y : Nat} (hF : Fx clsO M M') (h : ∀ o, o ∈ [22, 23, 24, 25, 27, 28, 29, 32, 33, 34, 38, 39, 40, 41, 42, 43] → M' o = M o) (h0 : M' 35 0 = M 35 0) (h1 : M' 35 1 = M 35 1) (hC : CI M P Y) : CI M' P Y := by
  obtain ⟨c1, c2, c3, c4, c5, c6, c7, c8, c9, c10, c11⟩ := hC
  have hW := Wx_x hF
  refine ⟨?_, spI_f (h 32 (by decide)) (h 33 (by decide)) (h 34 (by decide)) c2, spI_f (h 38 (by decide)) (h 39 (by decide)) (h 40 (by decide)) c3, spI_f (h 41 (by decide)) (h 42 (by decide)) (h 43 (by decide)) c4, by rw [h0]; exact c5, by rw [h1]; exact c6, by rw [h 22 (by decide)]; exact c7, by rw [h 22 (by decide), h 27 (by decide)]; exact c8, ?_, ?_, ?_⟩
  · unfold CW at *
    rw [hW, h 23 (by decide), h 24 (by decide), h 25 (by decide)]
    exact c1
  · rw [h 22 (by decide), h 27 (by decide)]
    exact fun e => aW_f hW (by rw [h 27 (by decide)]) (fun o ho => h o (by rcases ho with rfl | rfl | rfl <;> decide)) (c9 e)
  · rw [h 22 (by decide), h 27 (by decide)]
    exact fun e => fW_f hW (h 40 (by decide)) (c10 e)
  · rw [h 22 (by decide), h 27 (by decide)]
    exact fun e => fW_f hW (h 43 (by decide)) (c11 e)
/-- the weights are all told -/
def FR (M : MM) (P Y : Nat) : Prop := ∀ p, p < P → M 25 p ≠ 0 ∧ (∀ d, d < Y → M 23 (24 * p + d) = Wx M p d) ∧ M 24 p = sm (Wx M p) Y
theorem FR_f {M M' : MM} {P Y : Nat} (hF : Fx clsO M M') (h : ∀ o, o ∈ [23, 24, 25] → M' o = M o) (hA : FR M P Y) : FR M' P Y := by
  unfold FR at *
  rw [Wx_x hF, h 23 (by decide), h 24 (by decide), h 25 (by decide)]
  exact hA
theorem ci_80 {d0 : Nat} (hd : 5 ≤ d0) {M : MM} {R : RR} (hL : Lay R) {P Y t : Nat} (hX : XW M R P Y t) (hC : CI M P Y) : ∃ M', call d0 80 [vA 22] M R = some (vX 0, M', R) ∧ Fx [15, 16, 23, 24, 25] M M' ∧ CI M' P Y ∧ FR M' P Y := by
  obtain ⟨c1, c2, c3, c4, c5, c6, c7, c8, c9, c10, c11⟩ := hC
  obtain ⟨M', q, f, g, g'⟩ := s_80 hd hL hX c1
  have hF : Fx clsO M M' := Fx_s f (by decide)
  have hW := Wx_x hF
  have hFR : FR M' P Y := by
    intro p hp
    rw [hW]
    exact g p hp
  refine ⟨M', q, f, ⟨fun p hp _ => ⟨(hFR p hp).2.1, (hFR p hp).2.2⟩, spI_f (f 32 (by decide)) (f 33 (by decide)) (f 34 (by decide)) c2, spI_f (f 38 (by decide)) (f 39 (by decide)) (f 40 (by decide)) c3, spI_f (f 41 (by decide)) (f 42 (by decide)) (f 43 (by decide)) c4, by rw [f 35 (by decide)]; exact c5, by rw [f 35 (by decide)]; exact c6, by rw [f 22 (by decide)]; exact c7, by rw [f 22 (by decide), f 27 (by decide)]; exact c8, ?_, ?_, ?_⟩, hFR⟩
  · rw [f 22 (by decide), f 27 (by decide)]
    exact fun e => aW_f hW (by rw [f 27 (by decide)]) (fun o ho => f o (by rcases ho with rfl | rfl | rfl <;> decide)) (c9 e)
  · rw [f 22 (by decide), f 27 (by decide)]
    exact fun e => fW_f hW (f 40 (by decide)) (c10 e)
  · rw [f 22 (by decide), f 27 (by decide)]
    exact fun e => fW_f hW (f 43 (by decide)) (c11 e)
theorem AL_r {M : MM} {R : RR} {P Y t s : Nat} (hX : XW M R P Y t) (hs : s < 2 ^ P) : 0 ≤ AL (Wd M) Y s ∧ AL (Wd M) Y s ≤ 21936950640377856 := by
  obtain ⟨hP, hP7, hY, hY1, hY24, _⟩ := id hX
  rw [show AL (Wd M) Y s = pr (fun p => sm (Wx M p) Y) s P from (pr_wp hs (by omega)).symm]
  have h := pr_r (f := fun p => sm (Wx M p) Y) (s := s) (b := 216) (by omega) P (fun p hp => by
    have h := sm_r (f := Wx M p) (b := 9) Y (fun d _ => Wx_r hX hp)
    try dsimp only
    omega)
  have := p216 hP7
  omega
theorem bl_lt {s P : Nat} (hs : s < 2 ^ P) {p : Nat} (hp : p ∈ bl s) : p < P := by
  have h1 := (List.mem_filter.1 hp).2
  have h2 := Nat.ge_two_pow_of_testBit h1
  exact Nat.lt_of_not_le (fun h => by
    have := Nat.pow_le_pow_right (n := 2) (by omega) h
    omega)
theorem Dl_ok {M : MM} {R : RR} {P Y t s : Nat} (hX : XW M R P Y t) (hs : s < 2 ^ P) (so lim n : Nat) : 0 ≤ Dl (fac (Wd M) (es so lim)) Y (bl s) n ∧ Dl (fac (Wd M) (es so lim)) Y (bl s) n ≤ AL (Wd M) Y s :=
  Dl_r Y (bl s) n (fun d p _ hp => (Wx_r hX (bl_lt hs hp)).1)
theorem Dl_64 {M : MM} {R : RR} {P Y t s : Nat} (hX : XW M R P Y t) (hs : s < 2 ^ P) (so lim n : Nat) : w64 (Dl (fac (Wd M) (es so lim)) Y (bl s) n) = Dl (fac (Wd M) (es so lim)) Y (bl s) n := by
  have h1 := Dl_ok hX hs so lim n
  have h2 := AL_r hX hs
  rw [w64_i (by omega)]
/-- days added one by one -/
theorem t_61 {e : Nat} (he : 4 ≤ e) {M : MM} {R : RR} (hL : Lay R) {P Y t : Nat} (hX : XW M R P Y t) (hF : FR M P Y) (h0 : ∀ s, s < 128 → 0 ≤ M 29 s ∧ M 29 s ≤ 400000000000000000) (hz : ∀ s, s < 2 ^ P → M 29 s = 0) (hh : ∀ s, 2 ^ P ≤ s → s < 128 → M 29 s ≤ 400000000000000000) : ∃ M', run (call e) 61 72 [vA 27, vI 0] [] M R = run (call e) 61 72 [vA 27, vI Y] [] M' R ∧ Fx [29, 30] M M' ∧ M' 29 0 = 0 ∧ (∀ s, 2 ^ P ≤ s → M' 29 s = M 29 s) ∧ ∀ s, 1 ≤ s → s < 2 ^ P → M' 29 s = sm (fun d => wp (Wd M d) (bl s)) Y := by
  obtain ⟨hP, hP7, hY, hY1, hY24, _⟩ := id hX
  have hpw := p2_7 hP7
  have hpp : 0 < 2 ^ P := Nat.two_pow_pos P
  have hb : ∀ s d, s < 2 ^ P → 0 ≤ wp (Wd M d) (bl s) ∧ wp (Wd M d) (bl s) ≤ 10000000000000000 := by
    intro s d hs
    rw [← pr_wp hs (by omega)]
    have h := pr_r (f := Wd M d) (s := s) (b := 9) (by omega) P (fun p hp => Wx_r hX hp)
    have h9 := Nat.pow_le_pow_right (n := 9) (by omega) hP7
    omega
  have key := loop_nat (fun d (a : MM) => run (call e) 61 72 [vA 27, vI d] [] a R) (fun i a => Fx [29, 30] M a ∧ a 29 0 = 0 ∧ (∀ s, 2 ^ P ≤ s → a 29 s = M 29 s) ∧ ∀ s, 1 ≤ s → s < 2 ^ P → a 29 s = sm (fun d => wp (Wd M d) (bl s)) i) Y ?_ M ?_
  · obtain ⟨M1, ⟨a1, a2, a3, a4⟩, hq⟩ := key
    exact ⟨M1, hq, a1, a2, a3, a4⟩
  · rintro d M1 hd ⟨a1, a2, a3, a4⟩
    have e1 : w32 ((d : Int) + 1) = ((d + 1 : Nat) : Int) := by rw [w32_i (by omega)]; omega
    obtain ⟨M2, q, c1, c2, c3, c4⟩ := s_62 (d0 := e) (by omega) (M := M1) hL (P := P) (Y := Y) (d := d) (w := Wd M d) (by rw [a1 4 (by decide)]; exact hP) hP7 (by rw [a1 2 (by decide)]; exact hY) hd hY24 (fun p hp => by
      have h : 0 ≤ Wd M d p ∧ Wd M d p ≤ 9 := Wx_r (d := d) hX hp
      rw [a1 23 (by decide)]
      exact ⟨(hF p hp).2.1 d hd, h.1, by omega⟩) (fun s hs => by
      rcases Nat.eq_zero_or_pos s with rfl | hs0
      · rw [a2]; omega
      · by_cases g : s < 2 ^ P
        · rw [a4 s hs0 g]
          have h := sm_r (f := fun d => wp (Wd M d) (bl s)) (b := 10000000000000000) d (fun i _ => hb s i g)
          omega
        · rw [a3 s (by omega)]
          have := h0 s hs
          omega)
    refine ⟨M2, ⟨Fx_t a1 c1, by rw [c2]; exact a2, fun s hs => by rw [c3 s hs]; exact a3 s hs, ?_⟩, ?_⟩
    · intro s h1 h2
      rw [c4 s h1 h2, a4 s h1 h2, pr_wp h2 (by omega)]
      rfl
    · show run (call e) 61 72 [vA 27, vI d] [] M1 R = _
      rw [b_61_72 hL, s_84 (by omega) hL, bsI, a1 2 (by decide), hY, b_61_80, if_neg (by omega), b_61_83, q, bsX, b_61_88, e1]
  · exact ⟨Fx_r, hz 0 hpp, fun _ _ => rfl, fun s _ hs => hz s hs⟩
/-- Ways.prepare -/
theorem s_61 {d0 : Nat} (hd : 6 ≤ d0) {M : MM} {R : RR} (hL : Lay R) {P Y t : Nat} (hX : XW M R P Y t) (hC : CI M P Y) (h29 : ∀ s, s < 128 → 0 ≤ M 29 s ∧ M 29 s ≤ 400000000000000000) : ∃ M', call d0 61 [vA 27] M R = some (vX 0, M', R) ∧ Fx clsO M M' ∧ CI M' P Y ∧ FR M' P Y ∧ aW M' P Y ∧ M' 27 10 = M' 22 7 ∧ ∀ s, s < 128 → 0 ≤ M' 29 s ∧ M' 29 s ≤ 400000000000000000 := by
  obtain ⟨e, rfl⟩ := s_le hd
  obtain ⟨hP, hP7, hY, hY1, hY24, _⟩ := id hX
  have hpw := p2_7 hP7
  have hpp : 0 < 2 ^ P := Nat.two_pow_pos P
  obtain ⟨M0, q0, f0, C0, R0⟩ := ci_80 (d0 := e + 5) (by omega) hL hX hC
  have F0 : Fx clsO M M0 := Fx_s f0 (by decide)
  have X0 := XW_f F0 hX
  have start : ∀ M', run (call (e + 5)) 61 7 [vA 27, vX 0] [] M0 R = some (vX 0, M', R) → call (e + 6) 61 [vA 27] M R = some (vX 0, M', R) := by
    intro M' h
    refine call_of 2 [vA 27, vX 0] (by decide) rfl (Nat.le_of_ble_eq_true rfl) rfl ?_ rfl
    rw [b_61_0 hL, q0, bsX]
    exact h
  by_cases hv : M0 27 10 = M0 22 7
  · refine ⟨M0, start M0 ?_, F0, C0, R0, C0.2.2.2.2.2.2.2.2.1 hv, hv, fun s hs => by rw [f0 29 (by decide)]; exact h29 s hs⟩
    rw [b_61_7 hL, if_neg (fun h => h hv), b_61_21]
  obtain ⟨c1, c2, c3, c4, c5, c6, c7, c8, c9, c10, c11⟩ := id C0
  have g4 : M0 4 0 = (P : Int) := by rw [f0 4 (by decide)]; exact hP
  -- the sets emptied
  obtain ⟨M1, ⟨a1, a2, a3, a4⟩, q1⟩ := loop_nat (fun s (a : MM) => run (call (e + 5)) 61 49 [vA 27, vI s] [] a R) (fun i a => Fx [29] (up (up M0 27 10 (M0 22 7)) 27 13 ((2 ^ P - 1 : Nat) : Int)) a ∧ (∀ s, s < i → a 29 s = 0) ∧ (∀ s, i ≤ s → a 29 s = M0 29 s) ∧ True) (2 ^ P) (by
    rintro s M1 hs ⟨a1, a2, a3, _⟩
    have e1 : w32 ((s : Int) + 1) = ((s + 1 : Nat) : Int) := by rw [w32_i (by omega)]; omega
    refine ⟨up M1 29 s 0, ⟨Fx_t a1 (Fx_p (by decide)), ?_, ?_, trivial⟩, ?_⟩
    · intro r hr
      by_cases h : r = s
      · subst h; rw [up_s]
      · rw [up_i h]; exact a2 r (by omega)
    · intro r hr
      rw [up_i (by omega)]; exact a3 r (by omega)
    · show run (call (e + 5)) 61 49 [vA 27, vI s] [] M1 R = _
      rw [b_61_49, a1 27 (by decide), up_s, if_neg (by omega), b_61_57 hL, if_pos (by omega), e1, Int.toNat_natCast]) (up (up M0 27 10 (M0 22 7)) 27 13 ((2 ^ P - 1 : Nat) : Int)) ⟨Fx_r, fun s hs => absurd hs (by omega), fun s _ => by rw [up_o (by decide), up_o (by decide)], trivial⟩
  have F1' : Fx [27, 29] M0 M1 := Fx_t (Fx_t (Fx_p (by decide)) (Fx_p (by decide))) (Fx_s a1 (by decide))
  have F1 : Fx clsO M0 M1 := Fx_s F1' (by decide)
  have X1 := XW_f F1 X0
  have R1 : FR M1 P Y := FR_f F1 (fun o ho => F1' o (by
    simp only [List.mem_cons, List.not_mem_nil, or_false] at ho
    rcases ho with rfl | rfl | rfl <;> decide)) R0
  have b29 : ∀ s, s < 128 → 0 ≤ M1 29 s ∧ M1 29 s ≤ 400000000000000000 := by
    intro s hs
    by_cases g : s < 2 ^ P
    · rw [a2 s g]; omega
    · rw [a3 s (by omega), f0 29 (by decide)]; exact h29 s hs
  obtain ⟨M2, q2, f2, z2, h2, y2⟩ := t_61 (e := e + 5) (by omega) hL X1 R1 b29 a2 (fun s _ hs => (b29 s hs).2)
  have F2 : Fx clsO M1 M2 := Fx_s f2 (by decide)
  have X2 := XW_f F2 X1
  obtain ⟨M3, q3, f3, y3⟩ := s_63 (d0 := e + 5) (by omega) (M := M2) hL (P := P) (w := fun p => sm (Wx M1 p) Y) X2.1 hP7 (fun p hp => by
    have h := sm_r (f := Wx M1 p) (b := 9) Y (fun d _ => Wx_r X1 hp)
    rw [f2 24 (by decide)]
    try dsimp only
    refine ⟨(R1 p hp).2.2, h.1, by omega⟩)
  have F3 : Fx clsO M2 M3 := Fx_s f3 (by decide)
  have W0 : Wx M0 = Wx M := Wx_x F0
  have W1 : Wx M1 = Wx M0 := Wx_x F1
  have W2 : Wx M2 = Wx M1 := Wx_x F2
  have W3 : Wx M3 = Wx M2 := Wx_x F3
  have k32 : ∀ o, o ∉ [27, 28, 29, 30] → M3 o = M0 o := by
    intro o ho
    rw [f3 o (fun h => ho (by simp only [List.mem_cons, List.not_mem_nil, or_false] at h ⊢; omega)), f2 o (fun h => ho (by simp only [List.mem_cons, List.not_mem_nil, or_false] at h ⊢; omega)), F1' o (fun h => ho (by simp only [List.mem_cons, List.not_mem_nil, or_false] at h ⊢; omega))]
  have k27 : M3 27 = upf (upf (M0 27) 10 (M0 22 7)) 13 ((2 ^ P - 1 : Nat) : Int) := by
    rw [f3 27 (by decide), f2 27 (by decide), a1 27 (by decide), up_f, up_f]
  have k29 : M3 29 = M2 29 := f3 29 (by decide)
  have s32 : spI M3 32 33 34 1 2 1 := spI_f (k32 32 (by decide)) (k32 33 (by decide)) (k32 34 (by decide)) c2
  have o29 : ∀ A, A ≤ 2 ^ P - 1 → w64 (M3 29 A) = M3 29 A := by
    intro A hA
    rcases Nat.eq_zero_or_pos A with rfl | h0
    · rw [k29, z2]; rfl
    · rw [k29, y2 A h0 (by omega)]
      have h := sm_r (f := fun d => wp (Wd M1 d) (bl A)) (b := 10000000000000000) Y (fun d _ => by
        try dsimp only
        rw [← pr_wp (P := P) (by omega) (by omega)]
        have h := pr_r (f := Wd M1 d) (s := A) (b := 9) (by omega) P (fun p hp => Wx_r X1 hp)
        have h9 := Nat.pow_le_pow_right (n := 9) (by omega) hP7
        omega)
      rw [w64_i (by omega)]
  obtain ⟨M4, q4, f4, y4⟩ := s_43 (d0 := e + 5) (by omega) (M := M3) (o := 32) (pi := 33) (fo := 34) (so := 2) (w := 1) (E := 2 ^ P - 1) (oo := M3 29) (c := cc (es 2 1)) (sp_32 hL) (lay_31 hL) (by decide) (by decide) rfl (by decide) (by omega) o29 (fun k n hk hn => cc_z (by decide) 8 k n (by omega) hk hn) s32.1 s32.2.1 (fun _ _ => rfl) s32.2.2.1 (fun n h1 h2 => absurd h2 (by omega))
  have F4 : Fx clsO M3 M4 := Fx_s f4 (by decide)
  have W4 : Wx M4 = Wx M1 := by rw [Wx_x F4, W3, W2]
  have FF : Fx clsO M0 M4 := Fx_t F1 (Fx_t F2 (Fx_t F3 F4))
  have k4 : ∀ o, o ∉ [27, 28, 29, 30, 34] → M4 o = M0 o := by
    intro o ho
    rw [f4 o (fun h => ho (by simp only [List.mem_cons, List.not_mem_nil, or_false] at h ⊢; omega)), k32 o (fun h => ho (by simp only [List.mem_cons, List.not_mem_nil, or_false] at h ⊢; omega))]
  have g27 : M4 27 = upf (upf (M0 27) 10 (M0 22 7)) 13 ((2 ^ P - 1 : Nat) : Int) := by rw [f4 27 (by decide), k27]
  have hA : aW M4 P Y := by
    refine ⟨by rw [g27, upf_s]; rfl, ?_, ?_, ?_, ?_⟩
    · intro s hs
      rw [f4 28 (by decide), y3 s hs, pr_wp hs (by omega)]
      unfold AL Wd
      rw [W4]
    · rw [f4 29 (by decide), k29]; exact z2
    · intro A h1 h2'
      rw [f4 29 (by decide), k29, y2 A h1 h2']
      unfold Wd
      rw [W4]
    · intro s hs
      have := y4 s (by omega) 0 (by omega)
      rw [Nat.mul_one, Nat.add_zero] at this
      rw [this, FS_D (w := Wd M1) (D := Y) (e := es 2 1) (by omega) (es_0 2 1) (cc_b (es_0 2 1)) (fun A h1 h2' => by rw [k29]; exact y2 A h1 (by omega))]
      unfold UN Wd
      rw [W4]
  have gv : M4 27 10 = M4 22 7 := by
    rw [g27, upf_n (by decide), upf_s, k4 22 (by decide)]
  refine ⟨M4, start M4 ?_, Fx_t F0 FF, ⟨?_, ?_, ?_, ?_, ?_, ?_, ?_, ?_, fun _ => hA, ?_, ?_⟩, ?_, hA, gv, ?_⟩
  · rw [b_61_7 hL, if_pos hv, b_61_22 hL, s_83 (by omega) hL, bsI, up_o (by decide), g4, b_61_41, s_12 (by omega), bsI, c_all (by omega), b_61_44]
    refine Eq.trans q1 ?_
    rw [b_61_49, a1 27 (by decide), up_s, if_pos (by omega), b_61_70]
    refine Eq.trans q2 ?_
    rw [b_61_72 hL, s_84 (by omega) hL, bsI, X2.2.2.1, b_61_80, if_pos (by omega), b_61_94, q3, bsX, b_61_98 hL, k27, upf_s, q4, bsX, b_61_113]
  · intro p hp _
    have h := R1 p hp
    rw [W4, k4 23 (by decide), k4 24 (by decide), ← F1' 23 (by decide), ← F1' 24 (by decide)]
    exact ⟨h.2.1, h.2.2⟩
  · exact ⟨by rw [k4 32 (by decide)]; exact c2.1, by rw [k4 32 (by decide)]; exact c2.2.1, by rw [k4 33 (by decide)]; exact c2.2.2.1, fun n h1 h2 => absurd h2 (by omega)⟩
  · exact spI_f (k4 38 (by decide)) (k4 39 (by decide)) (k4 40 (by decide)) c3
  · exact spI_f (k4 41 (by decide)) (k4 42 (by decide)) (k4 43 (by decide)) c4
  · rw [k4 35 (by decide)]; exact c5
  · rw [k4 35 (by decide)]; exact c6
  · rw [k4 22 (by decide)]; exact c7
  · rw [g27, k4 22 (by decide), upf_n (by decide), upf_s, upf_n (by decide), upf_n (by decide), upf_n (by decide), upf_n (by decide)]
    exact ⟨Int.le_refl _, c8.2.1, c8.2.2⟩
  · rw [g27, k4 22 (by decide), upf_n (by decide), upf_n (by decide)]
    exact fun h => fW_f (by rw [W4, W1]) (k4 40 (by decide)) (c10 h)
  · rw [g27, k4 22 (by decide), upf_n (by decide), upf_n (by decide)]
    exact fun h => fW_f (by rw [W4, W1]) (k4 43 (by decide)) (c11 h)
  · intro p hp
    have h := R1 p hp
    rw [W4, k4 23 (by decide), k4 24 (by decide), k4 25 (by decide), ← F1' 23 (by decide), ← F1' 24 (by decide), ← F1' 25 (by decide)]
    exact h
  · intro s hs
    rw [f4 29 (by decide), k29]
    by_cases g : s < 2 ^ P
    · rcases Nat.eq_zero_or_pos s with rfl | h0
      · rw [z2]; omega
      · rw [y2 s h0 g]
        have h := sm_r (f := fun d => wp (Wd M1 d) (bl s)) (b := 10000000000000000) Y (fun d _ => by
          try dsimp only
          rw [← pr_wp g (by omega)]
          have h := pr_r (f := Wd M1 d) (s := s) (b := 9) (by omega) P (fun p hp => Wx_r X1 hp)
          have h9 := Nat.pow_le_pow_right (n := 9) (by omega) hP7
          omega)
        omega
    · rw [h2 s (by omega)]; exact b29 s hs
end
