/-! ===== constructors, together ===== -/
theorem c_57 {d : Nat} (hd : 2 ≤ d) {M : MM} {R : RR} (h0 : nu R = 20) (l18 : R 0 20 = 4) (l17 : R 0 19 = 3) (hz : M 18 3 = 3) : call d 57 [vA 19, vA 17, vA 18] M R = some (vX 0, upf (upf M 20 (M 18)) 21 (M 17), up (aR (up (aR R 20 4 4) 19 1 20) 21 3 3) 19 0 21) := by
  obtain ⟨e, rfl⟩ := s_le hd
  refine call_of 3 [vA 19, vA 17, vA 18] (by decide) rfl (Nat.le_of_ble_eq_true rfl) rfl ?_ rfl
  have hM : upf M 20 (M 18) 17 = M 17 := upf_n (by decide)
  have hz2 : upf M 20 (M 18) 20 3 = 3 := by rw [upf_s]; exact hz
  have hup : up (aR R 20 4 4) 19 1 20 19 1 = 20 := up_s
  have q1 := c_260_18 (d := e + 1) (by omega) (M := M) (R := R) (by rw [l18]; rfl) h0 l18
  have q2 := c_260_17 (d := e + 1) (by omega) (M := upf M 20 (M 18)) (R := up (aR R 20 4 4) 19 1 20) (by show ((R 0 19 : Nat) : Int) = 3; rw [l17]; rfl) rfl l17
  rw [hM] at q2
  rw [b_57_0 _ _ _ (by decide), q1, bsA, b_57_10 _ _ _ _ rfl (by rw [hup]; rfl), hup, show Int.toNat 3 = 3 from rfl, hz2]
  refine (if_pos ⟨by decide, by show (3 : Int) < ((4 : Nat) : Int); decide⟩).trans ?_
  rw [q2, bsA, b_57_24 _ _ _ _ rfl]
def m3_0 (M : MM) : MM := upf (up (up (up (up (upf (up (up (up (upf (upf (upf (upf M 14 (fun _ => 0)) 15 (fun _ => 0)) 16 (fun _ => 0)) 17 (fun _ => 0)) 17 0 1) 17 1 2) 17 2 1) 18 (fun _ => 0)) 18 0 0) 18 1 1) 18 2 2) 18 3 3) 19 (fun _ => 0)
def r3_0 (R : RR) : RR := aR (aR (aR (up (aR (up (aR (up (aR (up (up R 13 0 2) 13 1 4) 14 6 6) 13 2 14) 15 6 6) 13 3 15) 16 160 160) 13 4 16) 17 3 3) 18 4 4) 19 0 2
def m3_1 (M : MM) : MM := upf (upf (m3_0 M) 20 (m3_0 M 18)) 21 (m3_0 M 17)
def r3_1 (R : RR) : RR := up (aR (up (aR (r3_0 R) 20 4 4) 19 1 20) 21 3 3) 19 0 21
def m3 (M : MM) : MM := up (m3_1 M) 13 5 1
def r3 (R : RR) : RR := up (r3_1 R) 14 0 19
theorem c_3 {d : Nat} (hd : 3 ≤ d) {M : MM} {R : RR} (h0 : nu R = 14) : call d 3 [vA 13, vA 2, vA 4] M R = some (vX 0, m3 M, r3 R) := by
  obtain ⟨e, rfl⟩ := s_le hd
  refine call_of 5 [vA 13, vA 2, vA 4, vX 0, vX 0] (by decide) rfl (Nat.le_of_ble_eq_true rfl) rfl ?_ rfl
  refine (k_3_0 h0).trans ?_
  have q : call (e + 2) 57 [vA 19, vA 17, vA 18] (m3_0 M) (r3_0 R) = some (vX 0, m3_1 M, r3_1 R) := c_57 (by omega) rfl rfl rfl rfl
  show (call (e + 2) 57 [vA 19, vA 17, vA 18] (m3_0 M) (r3_0 R)).bind _ = _
  rw [q]
  exact k_3_92 (cf := call (e + 2)) (M := m3_1 M) (R := r3_1 R) rfl
def r38_32 (R : RR) : RR := up (aR (up (aR R 33 8 8) 32 2 33) 34 128 128) 32 3 34
theorem c_38_32 {d : Nat} (hd : 5 ≤ d) {M : MM} {R : RR} (h0 : nu R = 33) : ∃ M', call d 38 [vA 32, vI 2, vI 1] M R = some (vX 0, M', r38_32 R) ∧ Fx [32, 33, 34] M M' ∧ M' 32 0 = ((2 : Nat) : Int) ∧ M' 32 1 = ((1 : Nat) : Int) ∧ (∀ k, 1 ≤ k → k ≤ 7 → ∀ n, n < 1 → M' 33 (k * 1 + n) = w64 (cc (es 2 1) k n)) ∧ M' 34 = fun _ => 0 := by
  obtain ⟨e, rfl⟩ := s_le hd
  have q40 : call (e + 4) 40 [vA 32, vI 7] (up M 32 0 2) R = some (vI ((mo 2 7 : Nat) : Int), up M 32 0 2, R) := s_40 (k := 7) (by omega) rfl (so := 2) (by rw [up_s]; rfl) (by omega)
  obtain ⟨N, hN⟩ : ∃ N, N = up (up M 32 0 2) 32 1 (w32 (((mo 2 7 : Nat) : Int) + 1)) := ⟨_, rfl⟩
  have hw : N 32 1 = 1 := by rw [hN, up_s]; decide
  have hs : N 32 0 = 2 := by rw [hN, up_i (by decide), up_s]
  have FN : Fx [32, 33, 34] M N := by rw [hN]; exact Fx_t (Fx_p (by decide)) (Fx_p (by decide))
  obtain ⟨M2, hM2⟩ : ∃ M2, M2 = upf (upf N 33 (fun _ => 0)) 34 (fun _ => 0) := ⟨_, rfl⟩
  have hw2 : upf N 33 (fun _ => 0) 32 1 = 1 := by rw [upf_n (by decide)]; exact hw
  have F2 : Fx [32, 33, 34] N M2 := by rw [hM2]; exact Fx_t (Fx_u (by decide)) (Fx_u (by decide))
  have m2 : M2 32 = N 32 := by rw [hM2, upf_n (by decide), upf_n (by decide)]
  obtain ⟨M', q41, F, e4, hc⟩ := s_41 (d0 := e + 4) (by omega) (R := r38_32 R) (o := 32) (pi := 33) (fo := 34) (w := 1) (so := 2) (lim := 1) ⟨rfl, rfl, rfl, rfl, rfl, rfl, rfl, by decide, by decide, by decide⟩ (by decide) (by decide) (by decide) (M := M2) (by rw [m2]; exact hs) (by rw [m2]; exact hw) (by decide)
  refine ⟨M', call_of 3 [vA 32, vI 2, vI 1] (by decide) rfl (Nat.le_of_ble_eq_true rfl) rfl ?_ rfl, Fx_t FN (Fx_t F2 (Fx_s F (by decide))), ?_, ?_, hc, ?_⟩
  · refine k_38_32_0.trans ?_
    rw [q40, bsI]
    refine (k_38_32_16 _).trans ?_
    rw [← hN]
    refine (k_38_32_21 hw h0 hw2).trans ?_
    rw [← hM2]
    show (call (e + 4) 41 [vA 32, vI 1] M2 (r38_32 R)).bind _ = _
    have q41' : call (e + 4) 41 [vA 32, vI 1] M2 (r38_32 R) = some (vX 0, M', r38_32 R) := q41
    rw [q41']
    exact k_38_32_53
  · rw [e4, upf_n (by decide), m2]; exact hs
  · rw [e4, upf_n (by decide), m2]; exact hw
  · rw [F 34 (by decide), hM2, upf_s]
def r38_35 (R : RR) : RR := up (aR (up (aR R 36 8 8) 35 2 36) 37 128 128) 35 3 37
theorem c_38_35 {d : Nat} (hd : 5 ≤ d) {M : MM} {R : RR} (h0 : nu R = 36) : ∃ M', call d 38 [vA 35, vI 2, vI 7] M R = some (vX 0, M', r38_35 R) ∧ Fx [35, 36, 37] M M' ∧ M' 35 0 = ((2 : Nat) : Int) ∧ M' 35 1 = ((1 : Nat) : Int) ∧ (∀ k, 1 ≤ k → k ≤ 7 → ∀ n, n < 1 → M' 36 (k * 1 + n) = w64 (cc (es 2 7) k n)) ∧ M' 37 = fun _ => 0 := by
  obtain ⟨e, rfl⟩ := s_le hd
  have q40 : call (e + 4) 40 [vA 35, vI 7] (up M 35 0 2) R = some (vI ((mo 2 7 : Nat) : Int), up M 35 0 2, R) := s_40 (k := 7) (by omega) rfl (so := 2) (by rw [up_s]; rfl) (by omega)
  obtain ⟨N, hN⟩ : ∃ N, N = up (up M 35 0 2) 35 1 (w32 (((mo 2 7 : Nat) : Int) + 1)) := ⟨_, rfl⟩
  have hw : N 35 1 = 1 := by rw [hN, up_s]; decide
  have hs : N 35 0 = 2 := by rw [hN, up_i (by decide), up_s]
  have FN : Fx [35, 36, 37] M N := by rw [hN]; exact Fx_t (Fx_p (by decide)) (Fx_p (by decide))
  obtain ⟨M2, hM2⟩ : ∃ M2, M2 = upf (upf N 36 (fun _ => 0)) 37 (fun _ => 0) := ⟨_, rfl⟩
  have hw2 : upf N 36 (fun _ => 0) 35 1 = 1 := by rw [upf_n (by decide)]; exact hw
  have F2 : Fx [35, 36, 37] N M2 := by rw [hM2]; exact Fx_t (Fx_u (by decide)) (Fx_u (by decide))
  have m2 : M2 35 = N 35 := by rw [hM2, upf_n (by decide), upf_n (by decide)]
  obtain ⟨M', q41, F, e4, hc⟩ := s_41 (d0 := e + 4) (by omega) (R := r38_35 R) (o := 35) (pi := 36) (fo := 37) (w := 1) (so := 2) (lim := 7) ⟨rfl, rfl, rfl, rfl, rfl, rfl, rfl, by decide, by decide, by decide⟩ (by decide) (by decide) (by decide) (M := M2) (by rw [m2]; exact hs) (by rw [m2]; exact hw) (by decide)
  refine ⟨M', call_of 3 [vA 35, vI 2, vI 7] (by decide) rfl (Nat.le_of_ble_eq_true rfl) rfl ?_ rfl, Fx_t FN (Fx_t F2 (Fx_s F (by decide))), ?_, ?_, hc, ?_⟩
  · refine k_38_35_0.trans ?_
    rw [q40, bsI]
    refine (k_38_35_16 _).trans ?_
    rw [← hN]
    refine (k_38_35_21 hw h0 hw2).trans ?_
    rw [← hM2]
    show (call (e + 4) 41 [vA 35, vI 7] M2 (r38_35 R)).bind _ = _
    have q41' : call (e + 4) 41 [vA 35, vI 7] M2 (r38_35 R) = some (vX 0, M', r38_35 R) := q41
    rw [q41']
    exact k_38_35_53
  · rw [e4, upf_n (by decide), m2]; exact hs
  · rw [e4, upf_n (by decide), m2]; exact hw
  · rw [F 37 (by decide), hM2, upf_s]
def r38_38 (R : RR) : RR := up (aR (up (aR R 39 176 176) 38 2 39) 40 2816 2816) 38 3 40
theorem c_38_38 {d : Nat} (hd : 5 ≤ d) {M : MM} {R : RR} (h0 : nu R = 39) : ∃ M', call d 38 [vA 38, vI 0, vI 7] M R = some (vX 0, M', r38_38 R) ∧ Fx [38, 39, 40] M M' ∧ M' 38 0 = ((0 : Nat) : Int) ∧ M' 38 1 = ((22 : Nat) : Int) ∧ (∀ k, 1 ≤ k → k ≤ 7 → ∀ n, n < 22 → M' 39 (k * 22 + n) = w64 (cc (es 0 7) k n)) ∧ M' 40 = fun _ => 0 := by
  obtain ⟨e, rfl⟩ := s_le hd
  have q40 : call (e + 4) 40 [vA 38, vI 7] (up M 38 0 0) R = some (vI ((mo 0 7 : Nat) : Int), up M 38 0 0, R) := s_40 (k := 7) (by omega) rfl (so := 0) (by rw [up_s]; rfl) (by omega)
  obtain ⟨N, hN⟩ : ∃ N, N = up (up M 38 0 0) 38 1 (w32 (((mo 0 7 : Nat) : Int) + 1)) := ⟨_, rfl⟩
  have hw : N 38 1 = 22 := by rw [hN, up_s]; decide
  have hs : N 38 0 = 0 := by rw [hN, up_i (by decide), up_s]
  have FN : Fx [38, 39, 40] M N := by rw [hN]; exact Fx_t (Fx_p (by decide)) (Fx_p (by decide))
  obtain ⟨M2, hM2⟩ : ∃ M2, M2 = upf (upf N 39 (fun _ => 0)) 40 (fun _ => 0) := ⟨_, rfl⟩
  have hw2 : upf N 39 (fun _ => 0) 38 1 = 22 := by rw [upf_n (by decide)]; exact hw
  have F2 : Fx [38, 39, 40] N M2 := by rw [hM2]; exact Fx_t (Fx_u (by decide)) (Fx_u (by decide))
  have m2 : M2 38 = N 38 := by rw [hM2, upf_n (by decide), upf_n (by decide)]
  obtain ⟨M', q41, F, e4, hc⟩ := s_41 (d0 := e + 4) (by omega) (R := r38_38 R) (o := 38) (pi := 39) (fo := 40) (w := 22) (so := 0) (lim := 7) ⟨rfl, rfl, rfl, rfl, rfl, rfl, rfl, by decide, by decide, by decide⟩ (by decide) (by decide) (by decide) (M := M2) (by rw [m2]; exact hs) (by rw [m2]; exact hw) (by decide)
  refine ⟨M', call_of 3 [vA 38, vI 0, vI 7] (by decide) rfl (Nat.le_of_ble_eq_true rfl) rfl ?_ rfl, Fx_t FN (Fx_t F2 (Fx_s F (by decide))), ?_, ?_, hc, ?_⟩
  · refine k_38_38_0.trans ?_
    rw [q40, bsI]
    refine (k_38_38_16 _).trans ?_
    rw [← hN]
    refine (k_38_38_21 hw h0 hw2).trans ?_
    rw [← hM2]
    show (call (e + 4) 41 [vA 38, vI 7] M2 (r38_38 R)).bind _ = _
    have q41' : call (e + 4) 41 [vA 38, vI 7] M2 (r38_38 R) = some (vX 0, M', r38_38 R) := q41
    rw [q41']
    exact k_38_38_53
  · rw [e4, upf_n (by decide), m2]; exact hs
  · rw [e4, upf_n (by decide), m2]; exact hw
  · rw [F 40 (by decide), hM2, upf_s]
def r38_41 (R : RR) : RR := up (aR (up (aR R 42 64 64) 41 2 42) 43 1024 1024) 41 3 43
theorem c_38_41 {d : Nat} (hd : 5 ≤ d) {M : MM} {R : RR} (h0 : nu R = 42) : ∃ M', call d 38 [vA 41, vI 1, vI 7] M R = some (vX 0, M', r38_41 R) ∧ Fx [41, 42, 43] M M' ∧ M' 41 0 = ((1 : Nat) : Int) ∧ M' 41 1 = ((8 : Nat) : Int) ∧ (∀ k, 1 ≤ k → k ≤ 7 → ∀ n, n < 8 → M' 42 (k * 8 + n) = w64 (cc (es 1 7) k n)) ∧ M' 43 = fun _ => 0 := by
  obtain ⟨e, rfl⟩ := s_le hd
  have q40 : call (e + 4) 40 [vA 41, vI 7] (up M 41 0 1) R = some (vI ((mo 1 7 : Nat) : Int), up M 41 0 1, R) := s_40 (k := 7) (by omega) rfl (so := 1) (by rw [up_s]; rfl) (by omega)
  obtain ⟨N, hN⟩ : ∃ N, N = up (up M 41 0 1) 41 1 (w32 (((mo 1 7 : Nat) : Int) + 1)) := ⟨_, rfl⟩
  have hw : N 41 1 = 8 := by rw [hN, up_s]; decide
  have hs : N 41 0 = 1 := by rw [hN, up_i (by decide), up_s]
  have FN : Fx [41, 42, 43] M N := by rw [hN]; exact Fx_t (Fx_p (by decide)) (Fx_p (by decide))
  obtain ⟨M2, hM2⟩ : ∃ M2, M2 = upf (upf N 42 (fun _ => 0)) 43 (fun _ => 0) := ⟨_, rfl⟩
  have hw2 : upf N 42 (fun _ => 0) 41 1 = 8 := by rw [upf_n (by decide)]; exact hw
  have F2 : Fx [41, 42, 43] N M2 := by rw [hM2]; exact Fx_t (Fx_u (by decide)) (Fx_u (by decide))
  have m2 : M2 41 = N 41 := by rw [hM2, upf_n (by decide), upf_n (by decide)]
  obtain ⟨M', q41, F, e4, hc⟩ := s_41 (d0 := e + 4) (by omega) (R := r38_41 R) (o := 41) (pi := 42) (fo := 43) (w := 8) (so := 1) (lim := 7) ⟨rfl, rfl, rfl, rfl, rfl, rfl, rfl, by decide, by decide, by decide⟩ (by decide) (by decide) (by decide) (M := M2) (by rw [m2]; exact hs) (by rw [m2]; exact hw) (by decide)
  refine ⟨M', call_of 3 [vA 41, vI 1, vI 7] (by decide) rfl (Nat.le_of_ble_eq_true rfl) rfl ?_ rfl, Fx_t FN (Fx_t F2 (Fx_s F (by decide))), ?_, ?_, hc, ?_⟩
  · refine k_38_41_0.trans ?_
    rw [q40, bsI]
    refine (k_38_41_16 _).trans ?_
    rw [← hN]
    refine (k_38_41_21 hw h0 hw2).trans ?_
    rw [← hM2]
    show (call (e + 4) 41 [vA 41, vI 7] M2 (r38_41 R)).bind _ = _
    have q41' : call (e + 4) 41 [vA 41, vI 7] M2 (r38_41 R) = some (vX 0, M', r38_41 R) := q41
    rw [q41']
    exact k_38_41_53
  · rw [e4, upf_n (by decide), m2]; exact hs
  · rw [e4, upf_n (by decide), m2]; exact hw
  · rw [F 43 (by decide), hM2, upf_s]
def m60_0 (M : MM) : MM := upf (upf (upf (upf (upf M 28 (fun _ => 0)) 29 (fun _ => 0)) 30 (fun _ => 0)) 31 (fun _ => 0)) 32 (fun _ => 0)
def r60_0 (R : RR) : RR := aR (up (aR (up (aR (up (aR (up (aR (up R 27 0 22) 28 128 128) 27 1 28) 29 128 128) 27 2 29) 30 128 128) 27 3 30) 31 128 128) 27 4 31) 32 0 5
def r60_0' (R : RR) : RR := r38_32 (r60_0 R)
def m60_1 (M : MM) : MM := upf M 35 (fun _ => 0)
def r60_1 (R : RR) : RR := aR (up (r60_0' R) 27 5 32) 35 0 5
def r60_1' (R : RR) : RR := r38_35 (r60_1 R)
def m60_2 (M : MM) : MM := upf M 38 (fun _ => 0)
def r60_2 (R : RR) : RR := aR (up (r60_1' R) 27 6 35) 38 0 5
def r60_2' (R : RR) : RR := r38_38 (r60_2 R)
def m60_3 (M : MM) : MM := upf M 41 (fun _ => 0)
def r60_3 (R : RR) : RR := aR (up (r60_2' R) 27 7 38) 41 0 5
def r60_3' (R : RR) : RR := r38_41 (r60_3 R)
def m60 (M : MM) : MM := upf M 44 (fun _ => 0)
def r60 (R : RR) : RR := up (aR (up (r60_3' R) 27 8 41) 44 3200 3200) 27 9 44
theorem c_60 {d : Nat} (hd : 6 ≤ d) {M : MM} {R : RR} (h0 : nu R = 28) : ∃ M', call d 60 [vA 27, vA 22] M R = some (vX 0, M', r60 R) ∧ (∀ o, ¬ (28 ≤ o ∧ o ≤ 44) → M' o = M o) ∧ M' 29 = (fun _ => 0) ∧ spI M' 32 33 34 1 2 1 ∧ spI M' 38 39 40 22 0 7 ∧ spI M' 41 42 43 8 1 7 ∧ M' 35 0 = 2 ∧ M' 35 1 = 1 := by
  obtain ⟨e, rfl⟩ := s_le hd
  obtain ⟨N0, q0, F0, a0, b0, c0, z0⟩ := c_38_32 (d := e + 5) (by omega) (M := m60_0 M) (R := r60_0 R) rfl
  obtain ⟨N1, q1, F1, a1, b1, c1, z1⟩ := c_38_35 (d := e + 5) (by omega) (M := m60_1 N0) (R := r60_1 R) rfl
  obtain ⟨N2, q2, F2, a2, b2, c2, z2⟩ := c_38_38 (d := e + 5) (by omega) (M := m60_2 N1) (R := r60_2 R) rfl
  obtain ⟨N3, q3, F3, a3, b3, c3, z3⟩ := c_38_41 (d := e + 5) (by omega) (M := m60_3 N2) (R := r60_3 R) rfl
  have f0 : ∀ o, ¬ (28 ≤ o ∧ o ≤ 32) → m60_0 M o = M o := fun o h => by unfold m60_0; simp (disch := omega) only [upf_n]
  have f1 : ∀ o, ¬ o = 35 → m60_1 N0 o = N0 o := fun o h => by unfold m60_1; rw [upf_n h]
  have f2 : ∀ o, ¬ o = 38 → m60_2 N1 o = N1 o := fun o h => by unfold m60_2; rw [upf_n h]
  have f3 : ∀ o, ¬ o = 41 → m60_3 N2 o = N2 o := fun o h => by unfold m60_3; rw [upf_n h]
  have f4 : ∀ o, ¬ o = 44 → m60 N3 o = N3 o := fun o h => by unfold m60; rw [upf_n h]
  have g3 : ∀ o, ¬ (41 ≤ o ∧ o ≤ 44) → m60 N3 o = N2 o := fun o h => by rw [f4 o (by omega), F3 o (by simp only [List.mem_cons, List.not_mem_nil, or_false]; omega), f3 o (by omega)]
  have g2 : ∀ o, ¬ (38 ≤ o ∧ o ≤ 44) → m60 N3 o = N1 o := fun o h => by rw [g3 o (by omega), F2 o (by simp only [List.mem_cons, List.not_mem_nil, or_false]; omega), f2 o (by omega)]
  have g1 : ∀ o, ¬ (35 ≤ o ∧ o ≤ 44) → m60 N3 o = N0 o := fun o h => by rw [g2 o (by omega), F1 o (by simp only [List.mem_cons, List.not_mem_nil, or_false]; omega), f1 o (by omega)]
  have g0 : ∀ o, ¬ (32 ≤ o ∧ o ≤ 44) → m60 N3 o = m60_0 M o := fun o h => by rw [g1 o (by omega), F0 o (by simp only [List.mem_cons, List.not_mem_nil, or_false]; omega)]
  refine ⟨m60 N3, call_of 2 [vA 27, vA 22] (by decide) rfl (Nat.le_of_ble_eq_true rfl) rfl ?_ rfl, fun o h => by rw [g0 o (by omega), f0 o (by omega)], ?_, ?_, ?_, ?_, ?_, ?_⟩
  · refine (k_60_0 h0).trans ?_
    show (call (e + 5) 38 [vA 32, vI 2, vI 1] (m60_0 M) (r60_0 R)).bind _ = _
    rw [q0]
    refine (k_60_55 (cf := call (e + 5)) (M := N0) (R := r38_32 (r60_0 R)) rfl).trans ?_
    show (call (e + 5) 38 [vA 35, vI 2, vI 7] (m60_1 N0) (r60_1 R)).bind _ = _
    rw [q1]
    refine (k_60_69 (cf := call (e + 5)) (M := N1) (R := r38_35 (r60_1 R)) rfl).trans ?_
    show (call (e + 5) 38 [vA 38, vI 0, vI 7] (m60_2 N1) (r60_2 R)).bind _ = _
    rw [q2]
    refine (k_60_83 (cf := call (e + 5)) (M := N2) (R := r38_38 (r60_2 R)) rfl).trans ?_
    show (call (e + 5) 38 [vA 41, vI 1, vI 7] (m60_3 N2) (r60_3 R)).bind _ = _
    rw [q3]
    exact k_60_97 (cf := call (e + 5)) (M := N3) (R := r38_41 (r60_3 R)) rfl
  · rw [g0 29 (by decide)]
    unfold m60_0
    simp (disch := decide) only [upf_n, upf_s]
  · unfold spI
    rw [g1 32 (by decide), g1 33 (by decide), g1 34 (by decide), z0]
    exact ⟨a0, b0, c0, fun _ _ _ => rfl⟩
  · unfold spI
    rw [g3 38 (by decide), g3 39 (by decide), g3 40 (by decide), z2]
    exact ⟨a2, b2, c2, fun _ _ _ => rfl⟩
  · unfold spI
    rw [f4 41 (by decide), f4 42 (by decide), f4 43 (by decide), z3]
    exact ⟨a3, b3, c3, fun _ _ _ => rfl⟩
  · rw [g2 35 (by decide)]; exact a1
  · rw [g2 35 (by decide)]; exact b1
def m91_0 (M : MM) : MM := upf M 2 (fun _ => 0)
def r91_0 (R : RR) : RR := aR R 2 0 2
def m91_0' (M : MM) : MM := upf (up (m91_0 M) 2 0 12) 3 (fun _ => 0)
def r91_0' (R : RR) : RR := up (aR (r91_0 R) 3 24 24) 2 1 3
def m91_1 (M : MM) : MM := upf (m91_0' M) 4 (fun _ => 0)
def r91_1 (R : RR) : RR := aR (up (r91_0' R) 1 0 2) 4 0 4
def m91_1' (M : MM) : MM := upf (upf (upf (m91_1 M) 5 (fun _ => 0)) 6 (fun _ => 0)) 7 (fun _ => 0)
def r91_1' (R : RR) : RR := up (aR (up (aR (up (aR (r91_1 R) 5 7 7) 4 1 5) 6 7 7) 4 2 6) 7 7 7) 4 3 7
def m91_2 (M : MM) : MM := upf (m91_1' M) 8 (fun _ => 0)
def r91_2 (R : RR) : RR := aR (up (r91_1' R) 1 1 4) 8 0 6
def m91_2' (M : MM) : MM := upf (m91_2 M) 9 (fun _ => 0)
def r91_2' (R : RR) : RR := up (aR (r91_2 R) 9 160 160) 8 0 9
def m91_3 (M : MM) : MM := upf (m91_2' M) 10 (fun _ => 0)
def r91_3 (R : RR) : RR := aR (up (r91_2' R) 1 2 8) 10 0 5
def m91_3' (M : MM) : MM := upf (upf (m91_3 M) 11 (fun _ => 0)) 12 (fun _ => 0)
def r91_3' (R : RR) : RR := up (aR (up (aR (up (r91_3 R) 10 0 8) 11 160 160) 10 1 11) 12 4 4) 10 2 12
def m91_4 (M : MM) : MM := upf (m91_3' M) 13 (fun _ => 0)
def r91_4 (R : RR) : RR := aR (up (r91_3' R) 1 3 10) 13 0 7
def m91_4' (M : MM) : MM := m3 (m91_4 M)
def r91_4' (R : RR) : RR := r3 (r91_4 R)
def m91_5 (M : MM) : MM := upf (m91_4' M) 22 (fun _ => 0)
def r91_5 (R : RR) : RR := aR (up (r91_4' R) 1 4 13) 22 0 8
def m91_5' (M : MM) : MM := up (upf (upf (upf (upf (m91_5 M) 23 (fun _ => 0)) 24 (fun _ => 0)) 25 (fun _ => 0)) 26 (fun _ => 0)) 22 7 1
def r91_5' (R : RR) : RR := up (aR (up (aR (up (aR (up (aR (up (up (up (r91_5 R) 22 0 2) 22 1 4) 22 2 13) 23 168 168) 22 3 23) 24 7 7) 22 4 24) 25 7 7) 22 5 25) 26 7 7) 22 6 26
def m91_6 (M : MM) : MM := upf (m91_5' M) 27 (fun _ => 0)
def r91_6 (R : RR) : RR := aR (up (r91_5' R) 1 5 22) 27 0 14
def m91_7 (M : MM) : MM := upf M 45 (fun _ => 0)
def r91_7 (R : RR) : RR := up (aR (up (r60 (r91_6 R)) 1 6 27) 45 4 4) 1 7 45
def m91s_0 (M : MM) : MM := upf (m91_7 M) 46 (fun _ => 0)
def r91s_0 (R : RR) : RR := aR (r91_7 R) 46 0 3
def m91s_0' (M : MM) : MM := upf (up (m91s_0 M) 46 0 (-1)) 47 (fun _ => 0)
def r91s_0' (R : RR) : RR := up (aR (r91s_0 R) 47 40 40) 46 2 47
def r91t_0 (R : RR) : RR := up (r91s_0' R) 45 0 46
def m91s_1 (M : MM) : MM := upf (m91s_0' M) 48 (fun _ => 0)
def r91s_1 (R : RR) : RR := aR (r91t_0 R) 48 0 3
def m91s_1' (M : MM) : MM := upf (up (m91s_1 M) 48 0 (-1)) 49 (fun _ => 0)
def r91s_1' (R : RR) : RR := up (aR (r91s_1 R) 49 40 40) 48 2 49
def r91t_1 (R : RR) : RR := up (r91s_1' R) 45 1 48
def m91s_2 (M : MM) : MM := upf (m91s_1' M) 50 (fun _ => 0)
def r91s_2 (R : RR) : RR := aR (r91t_1 R) 50 0 3
def m91s_2' (M : MM) : MM := upf (up (m91s_2 M) 50 0 (-1)) 51 (fun _ => 0)
def r91s_2' (R : RR) : RR := up (aR (r91s_2 R) 51 40 40) 50 2 51
def r91t_2 (R : RR) : RR := up (r91s_2' R) 45 2 50
def m91s_3 (M : MM) : MM := upf (m91s_2' M) 52 (fun _ => 0)
def r91s_3 (R : RR) : RR := aR (r91t_2 R) 52 0 3
def m91s_3' (M : MM) : MM := upf (up (m91s_3 M) 52 0 (-1)) 53 (fun _ => 0)
def r91s_3' (R : RR) : RR := up (aR (r91s_3 R) 53 40 40) 52 2 53
def r91t_3 (R : RR) : RR := up (r91s_3' R) 45 3 52
def m91_8 (M : MM) : MM := upf (m91s_3' M) 54 (fun _ => 0)
def r91_8 (R : RR) : RR := aR (r91t_3 R) 54 0 6
def m91_8' (M : MM) : MM := upf (upf (m91_8 M) 55 (fun _ => 0)) 56 (fun _ => 0)
def r91_8' (R : RR) : RR := up (aR (up (aR (r91_8 R) 55 24 24) 54 1 55) 56 7 7) 54 2 56
def r91 (R : RR) : RR := up (r91_8' R) 1 8 54
theorem c_91 {d : Nat} (hd : 8 ≤ d) {M : MM} {R : RR} (h0 : nu R = 2) : ∃ N, call d 91 [vA 1] M R = some (vX 0, m91_8' N, r91 R) ∧ (∀ o, ¬ (28 ≤ o ∧ o ≤ 44) → N o = m91_6 M o) ∧ N 29 = (fun _ => 0) ∧ spI N 32 33 34 1 2 1 ∧ spI N 38 39 40 22 0 7 ∧ spI N 41 42 43 8 1 7 ∧ N 35 0 = 2 ∧ N 35 1 = 1 := by
  obtain ⟨e, rfl⟩ := s_le hd
  obtain ⟨N, q60, hN⟩ := c_60 (d := e + 7) (by omega) (M := m91_6 M) (R := r91_6 R) rfl
  refine ⟨N, call_of 2 [vA 1, vX 0] (by decide) rfl (Nat.le_of_ble_eq_true rfl) rfl ?_ rfl, hN⟩
  refine (k_91_0 (cf := call (e + 7)) (M := M) (R := R) h0).trans ?_
  show (call (e + 7) 89 [vA 2] (m91_0 M) (r91_0 R)).bind _ = _
  have q0 : call (e + 7) 89 [vA 2] (m91_0 M) (r91_0 R) = some (vX 0, m91_0' M, r91_0' R) := c_89 (by omega) rfl
  rw [q0]
  refine (k_91_12 (cf := call (e + 7)) (M := (m91_0' M)) (R := (r91_0' R)) rfl).trans ?_
  show (call (e + 7) 8 [vA 4] (m91_1 M) (r91_1 R)).bind _ = _
  have q1 : call (e + 7) 8 [vA 4] (m91_1 M) (r91_1 R) = some (vX 0, m91_1' M, r91_1' R) := c_8 (by omega) rfl
  rw [q1]
  refine (k_91_23 (cf := call (e + 7)) (M := (m91_1' M)) (R := (r91_1' R)) rfl).trans ?_
  show (call (e + 7) 46 [vA 8] (m91_2 M) (r91_2 R)).bind _ = _
  have q2 : call (e + 7) 46 [vA 8] (m91_2 M) (r91_2 R) = some (vX 0, m91_2' M, r91_2' R) := c_46 (by omega) rfl
  rw [q2]
  refine (k_91_34 (cf := call (e + 7)) (M := (m91_2' M)) (R := (r91_2' R)) rfl).trans ?_
  show (call (e + 7) 21 [vA 10, vA 8] (m91_3 M) (r91_3 R)).bind _ = _
  have q3 : call (e + 7) 21 [vA 10, vA 8] (m91_3 M) (r91_3 R) = some (vX 0, m91_3' M, r91_3' R) := c_21 (by omega) rfl
  rw [q3]
  refine (k_91_49 (cf := call (e + 7)) (M := (m91_3' M)) (R := (r91_3' R)) rfl rfl rfl).trans ?_
  show (call (e + 7) 3 [vA 13, vA 2, vA 4] (m91_4 M) (r91_4 R)).bind _ = _
  have q4 : call (e + 7) 3 [vA 13, vA 2, vA 4] (m91_4 M) (r91_4 R) = some (vX 0, m91_4' M, r91_4' R) := c_3 (by omega) rfl
  rw [q4]
  refine (k_91_68 (cf := call (e + 7)) (M := (m91_4' M)) (R := (r91_4' R)) rfl rfl rfl).trans ?_
  show (call (e + 7) 77 [vA 22, vA 2, vA 4, vA 13] (m91_5 M) (r91_5 R)).bind _ = _
  have q5 : call (e + 7) 77 [vA 22, vA 2, vA 4, vA 13] (m91_5 M) (r91_5 R) = some (vX 0, m91_5' M, r91_5' R) := c_77 (by omega) rfl
  rw [q5]
  refine (k_91_91 (cf := call (e + 7)) (M := (m91_5' M)) (R := (r91_5' R)) rfl).trans ?_
  show (call (e + 7) 60 [vA 27, vA 22] (m91_6 M) (r91_6 R)).bind _ = _
  rw [q60]
  refine (k_91_106 (cf := call (e + 7)) (M := N) (R := r60 (r91_6 R)) rfl).trans ?_
  refine (k_91_119_0 (cf := call (e + 7)) (M := (m91_7 N)) (R := (r91_7 R)) rfl rfl).trans ?_
  refine (k_91_128_0 (cf := call (e + 7)) (M := (m91_7 N)) (R := (r91_7 R)) rfl rfl).trans ?_
  show (call (e + 7) 33 [vA 46] (m91s_0 N) (r91s_0 R)).bind _ = _
  have s0 : call (e + 7) 33 [vA 46] (m91s_0 N) (r91s_0 R) = some (vX 0, m91s_0' N, r91s_0' R) := c_33_46 (by omega) rfl
  rw [s0]
  refine (k_91_140_0 (cf := call (e + 7)) (M := m91s_0' N) (R := r91s_0' R) rfl).trans ?_
  rw [show w32 (0 + 1) = (1 : Int) from by decide]
  refine (k_91_119_1 (cf := call (e + 7)) (M := (m91s_0' N)) (R := (r91t_0 R)) rfl rfl).trans ?_
  refine (k_91_128_1 (cf := call (e + 7)) (M := (m91s_0' N)) (R := (r91t_0 R)) rfl rfl).trans ?_
  show (call (e + 7) 33 [vA 48] (m91s_1 N) (r91s_1 R)).bind _ = _
  have s1 : call (e + 7) 33 [vA 48] (m91s_1 N) (r91s_1 R) = some (vX 0, m91s_1' N, r91s_1' R) := c_33_48 (by omega) rfl
  rw [s1]
  refine (k_91_140_1 (cf := call (e + 7)) (M := m91s_1' N) (R := r91s_1' R) rfl).trans ?_
  rw [show w32 (1 + 1) = (2 : Int) from by decide]
  refine (k_91_119_2 (cf := call (e + 7)) (M := (m91s_1' N)) (R := (r91t_1 R)) rfl rfl).trans ?_
  refine (k_91_128_2 (cf := call (e + 7)) (M := (m91s_1' N)) (R := (r91t_1 R)) rfl rfl).trans ?_
  show (call (e + 7) 33 [vA 50] (m91s_2 N) (r91s_2 R)).bind _ = _
  have s2 : call (e + 7) 33 [vA 50] (m91s_2 N) (r91s_2 R) = some (vX 0, m91s_2' N, r91s_2' R) := c_33_50 (by omega) rfl
  rw [s2]
  refine (k_91_140_2 (cf := call (e + 7)) (M := m91s_2' N) (R := r91s_2' R) rfl).trans ?_
  rw [show w32 (2 + 1) = (3 : Int) from by decide]
  refine (k_91_119_3 (cf := call (e + 7)) (M := (m91s_2' N)) (R := (r91t_2 R)) rfl rfl).trans ?_
  refine (k_91_128_3 (cf := call (e + 7)) (M := (m91s_2' N)) (R := (r91t_2 R)) rfl rfl).trans ?_
  show (call (e + 7) 33 [vA 52] (m91s_3 N) (r91s_3 R)).bind _ = _
  have s3 : call (e + 7) 33 [vA 52] (m91s_3 N) (r91s_3 R) = some (vX 0, m91s_3' N, r91s_3' R) := c_33_52 (by omega) rfl
  rw [s3]
  refine (k_91_140_3 (cf := call (e + 7)) (M := m91s_3' N) (R := r91s_3' R) rfl).trans ?_
  rw [show w32 (3 + 1) = (4 : Int) from by decide]
  refine (k_91_119_4 (cf := call (e + 7)) (M := (m91s_3' N)) (R := (r91t_3 R)) rfl rfl).trans ?_
  refine (k_91_147 (cf := call (e + 7)) (M := (m91s_3' N)) (R := (r91t_3 R)) rfl).trans ?_
  show (call (e + 7) 0 [vA 54] (m91_8 N) (r91_8 R)).bind _ = _
  have t0 : call (e + 7) 0 [vA 54] (m91_8 N) (r91_8 R) = some (vX 0, m91_8' N, r91_8' R) := c_0 (by omega) rfl
  rw [t0]
  exact k_91_155 (cf := call (e + 7)) (M := m91_8' N) (R := r91_8' R)

