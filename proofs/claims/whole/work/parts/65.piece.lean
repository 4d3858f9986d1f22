/-! ===== specs ===== -/
/-- a spread of the class: its object, its pieces, what it found; width w -/
def spO (R : RR) (o pi fo w : Nat) : Prop := kindOf o = 5 ∧ R o 2 = pi ∧ R o 3 = fo ∧ kindOf pi = 14 ∧ kindOf fo = 14 ∧ R 0 (pi + 2) = 8 * w ∧ R 0 (fo + 2) = 128 * w ∧ ¬ pi = fo ∧ ¬ o = fo ∧ ¬ o = pi
theorem row_ne {r s w m q : Nat} (h : ¬ r = s) (hm : m < w) (hq : q < w) : ¬ r * w + m = s * w + q := by
  intro e
  rcases Nat.lt_or_gt_of_ne h with g | g
  · have := Nat.mul_le_mul_right w (Nat.succ_le_of_lt g)
    rw [Nat.succ_mul] at this
    omega
  · have := Nat.mul_le_mul_right w (Nat.succ_le_of_lt g)
    rw [Nat.succ_mul] at this
    omega
theorem row_b {s w n : Nat} (hs : s < n) (m : Nat) (hm : m < w) : s * w + m < n * w := by
  have := Nat.mul_le_mul_right w (Nat.succ_le_of_lt hs)
  rw [Nat.succ_mul] at this
  omega
/-- a number of the piece times the rest's -/
theorem t_44 {e : Nat} {M : MM} {R : RR} {o pi fo w s A r n mr : Nat} {x5 : Int} {T fa : Int} {c : Int} {F G : Nat → Int} (hS : spO R o pi fo w) (hw : M o 1 = (w : Int)) (hw22 : w ≤ 22) (hs : s < 128) (hr : r < 128) (hrs : ¬ r = s) (hn : n + mr < w) (hF : ∀ m, m < w → M fo (r * w + m) = w64 (F m)) (hG : ∀ q, q < w → M fo (s * w + q) = w64 (G q)) (hfa : fa = w64 c) : ∃ M' : MM, run (call e) 44 79 [vA o, vI s, vI A, vJ T, vX 0, vI x5, vI ((r * w : Nat) : Int), vI mr, vI n, vJ fa, vX 0, vI 0] [] M R = run (call e) 44 79 [vA o, vI s, vI A, vJ T, vX 0, vI x5, vI ((r * w : Nat) : Int), vI mr, vI n, vJ fa, vX 0, vI ((mr + 1 : Nat) : Int)] [] M' R ∧ Fx [fo] M M' ∧ (∀ q, q < w → M' fo (s * w + q) = w64 (G q + (if n ≤ q ∧ q - n < mr + 1 then c * F (q - n) else 0))) ∧ ∀ j, ¬ (s * w ≤ j ∧ j < s * w + w) → M' fo j = M fo j := by
  obtain ⟨k1, k2, k3, k4, k5, k6, k7, k8, k9, k10⟩ := hS
  have key := loop_nat (fun m (a : MM) => run (call e) 44 79 [vA o, vI s, vI A, vJ T, vX 0, vI x5, vI ((r * w : Nat) : Int), vI mr, vI n, vJ fa, vX 0, vI m] [] a R) (fun i a => Fx [fo] M a ∧ (∀ q, q < w → a fo (s * w + q) = w64 (G q + (if n ≤ q ∧ q - n < i then c * F (q - n) else 0))) ∧ ∀ j, ¬ (s * w ≤ j ∧ j < s * w + w) → a fo j = M fo j) (mr + 1) ?_ M ?_
  · obtain ⟨M1, ⟨a1, a2, a3⟩, hq⟩ := key
    exact ⟨M1, hq, a1, a2, a3⟩
  · rintro m M1 hm ⟨a1, a2, a3⟩
    have e1 : w32 ((m : Int) + 1) = ((m + 1 : Nat) : Int) := by rw [w32_i (by omega)]; omega
    have sw : s * w ≤ 127 * 22 := Nat.mul_le_mul (by omega) hw22
    have rw' : r * w ≤ 127 * 22 := Nat.mul_le_mul (by omega) hw22
    have sb := row_b (w := w) hs (n + m) (by omega)
    have rb := row_b (w := w) hr m (by omega)
    have g1 : M1 o 1 = (w : Int) := by rw [a1 o (by simpa using k9)]; exact hw
    have ei : w32 (w32 (w32 ((s : Int) * (w : Int)) + (n : Int)) + (m : Int)) = ((s * w + (n + m) : Nat) : Int) := by
      rw [← Int.natCast_mul]
      simp (disch := omega) only [w32_i]
      omega
    have ej : w32 (((r * w : Nat) : Int) + (m : Int)) = ((r * w + m : Nat) : Int) := by rw [w32_i (by omega)]; omega
    have hr1 : M1 fo (r * w + m) = w64 (F m) := by
      rw [a3 (r * w + m) (fun h => row_ne (q := r * w + m - s * w) hrs (by omega : m < w) (by omega) (by omega)), hF m (by omega)]
    have hs1 := a2 (n + m) (by omega)
    rw [if_neg (by omega)] at hs1
    refine ⟨up M1 fo (s * w + (n + m)) (w64 (G (n + m) + c * F m)), ⟨Fx_t a1 (Fx_p (by simp)), ?_, ?_⟩, ?_⟩
    · intro q hq
      by_cases h : q = n + m
      · subst h
        rw [up_s, if_pos (by omega), show n + m - n = m by omega]
      · rw [up_i (by omega), a2 q hq]
        by_cases g : n ≤ q ∧ q - n < m
        · rw [if_pos g, if_pos (by omega)]
        · rw [if_neg g, if_neg (by omega)]
    · intro j hj
      rw [up_i (by omega)]
      exact a3 j hj
    · show run (call e) 44 79 [vA o, vI s, vI A, vJ T, vX 0, vI x5, vI ((r * w : Nat) : Int), vI mr, vI n, vJ fa, vX 0, vI m] [] M1 R = _
      rw [b_44_79, if_neg (by omega), b_44_86 _ _ _ _ _ _ _ _ _ _ k1 (by rw [k3]; exact k5), k3, k7, g1, ei, ej, if_pos (by omega), if_pos (by omega), if_pos (by omega), e1, Int.toNat_natCast, Int.toNat_natCast, hs1, hr1, hfa, Int.add_zero, w64_ml, w64_mr, w64_al, w64_ar]
  · refine ⟨Fx_r, ?_, fun _ _ => rfl⟩
    intro q hq
    rw [if_neg (by omega), Int.add_zero]
    exact hG q hq
theorem mo_add : ∀ so : Fin 3, ∀ a : Fin 8, ∀ b : Fin 8, (a : Nat) + b ≤ 7 → mo so a + mo so b ≤ mo so 7 := by decide +kernel
/-- Spread.addPiece: a piece times all of the rest -/
theorem s_44 {d0 : Nat} (hd : 2 ≤ d0) {M : MM} {R : RR} {o pi fo so w s A r k kr : Nat} {T : Int} {c F G : Nat → Int} (hS : spO R o pi fo w) (hso : M o 0 = (so : Int)) (hso3 : so < 3) (hwe : w = mo so 7 + 1) (hw : M o 1 = (w : Int)) (hw22 : w ≤ 22) (hs : s < 128) (hA : A < 128) (hr : r < 128) (hx : s ^^^ A = r) (hrs : ¬ r = s) (hk : (bl A).length = k) (hkr : (bl s).length = k + kr) (hk7 : k + kr ≤ 7) (hT : w64 T = T) (hc : ∀ n, n < w → M pi (k * w + n) = w64 (c n)) (hc0 : ∀ n, mo so k < n → c n = 0) (hF : ∀ m, m < w → M fo (r * w + m) = w64 (F m)) (hF0 : ∀ m, mo so kr < m → F m = 0) (hG : ∀ q, q < w → M fo (s * w + q) = w64 (G q)) : ∃ M' : MM, call d0 44 [vA o, vI s, vI A, vJ T] M R = some (vX 0, M', R) ∧ Fx [fo] M M' ∧ (∀ q, q < w → M' fo (s * w + q) = w64 (G q + T * pm c F q)) ∧ ∀ j, ¬ (s * w ≤ j ∧ j < s * w + w) → M' fo j = M fo j := by
  have hSs := hS
  obtain ⟨k1, k2, k3, k4, k5, k6, k7, k8, k9, k10⟩ := hSs
  obtain ⟨e, rfl⟩ := s_le hd
  have hmo := mo_add ⟨so, hso3⟩ ⟨k, by omega⟩ ⟨kr, by omega⟩ hk7
  dsimp only at hmo
  have start : ∀ M', run (call (e + 1)) 44 0 [vA o, vI s, vI A, vJ T, vX 0, vX 0, vX 0, vX 0, vX 0, vX 0, vX 0, vX 0] [] M R = some (vX 0, M', R) → call (e + 2) 44 [vA o, vI s, vI A, vJ T] M R = some (vX 0, M', R) := fun M' h => call_of 12 [vA o, vI s, vI A, vJ T, vX 0, vX 0, vX 0, vX 0, vX 0, vX 0, vX 0, vX 0] (by decide) rfl (Nat.le_of_ble_eq_true rfl) rfl h rfl
  by_cases hT0 : T = 0
  · refine ⟨M, start M ?_, Fx_r, ?_, fun _ _ => rfl⟩
    · rw [b_44_0]
      simp only [ne_eq, lc_eq]
      rw [if_neg (fun h => h hT0), b_44_6]
    · intro q hq
      rw [hT0, Int.zero_mul, Int.add_zero]
      exact hG q hq
  have key := loop_nat (fun n (a : (AV × AV) × MM) => run (call (e + 1)) 44 39 [vA o, vI s, vI A, vJ T, vX 0, vI k, vI ((r * w : Nat) : Int), vI (mo so kr : Nat), vI n, a.1.1, vX 0, a.1.2] [] a.2 R) (fun i a => Fx [fo] M a.2 ∧ (∀ q, q < w → a.2 fo (s * w + q) = w64 (G q + T * ps c F i q)) ∧ ∀ j, ¬ (s * w ≤ j ∧ j < s * w + w) → a.2 fo j = M fo j) (mo so k + 1) ?_ ((vX 0, vX 0), M) ?_
  · obtain ⟨⟨⟨u1, u2⟩, M1⟩, ⟨a1, a2, a3⟩, hq⟩ := key
    dsimp only at a1 a2 a3
    refine ⟨M1, start M1 ?_, a1, ?_, a3⟩
    · have rw' : r * w ≤ 127 * 22 := Nat.mul_le_mul (by omega) hw22
      rw [b_44_0]
      simp only [ne_eq, lc_eq]
      rw [if_pos hT0, b_44_7, s_258 (by omega) hA, bsI, hk, b_44_11 _ _ _ _ _ k1, s_258 (by omega) hs, bsI, hkr, b_44_28 _ _ _ _ _ _ _ _ k1, show ((k + kr : Nat) : Int) - (k : Int) = (kr : Int) by omega, w32_i (x := (kr : Int)) (by omega), s_40 (by omega) k1 hso (by omega), bsI, b_44_34, c_xor_n (by omega) (by omega), hx, hw, ← Int.natCast_mul, w32_i (by omega)]
      refine Eq.trans hq ?_
      show run (call (e + 1)) 44 39 [vA o, vI s, vI A, vJ T, vX 0, vI k, vI ((r * w : Nat) : Int), vI (mo so kr : Nat), vI ((mo so k + 1 : Nat) : Int), u1, vX 0, u2] [] M1 R = _
      rw [b_44_39 _ _ _ _ _ _ _ _ _ _ k1, s_40 (by omega) k1 (by rw [a1 o (by simpa using k9)]; exact hso) (by omega), bsI, b_44_47, if_pos (by omega), b_44_131]
    · intro q hq
      rw [a2 q hq, ps_all (fun i hi => hc0 i (by omega))]
  · rintro n ⟨⟨u1, u2⟩, M1⟩ hn ⟨a1, a2, a3⟩
    dsimp only at a1 a2 a3
    have e1 : w32 ((n : Int) + 1) = ((n + 1 : Nat) : Int) := by rw [w32_i (by omega)]; omega
    have kw : k * w ≤ 7 * 22 := Nat.mul_le_mul (by omega) hw22
    have kb := row_b (s := k) (n := 8) (w := w) (by omega) n (by omega)
    have g0 : M1 o 0 = (so : Int) := by rw [a1 o (by simpa using k9)]; exact hso
    have g1 : M1 o 1 = (w : Int) := by rw [a1 o (by simpa using k9)]; exact hw
    have gp : M1 pi (k * w + n) = w64 (c n) := by rw [a1 pi (by simpa using k8)]; exact hc n (by omega)
    have ei : w32 (w32 ((k : Int) * (w : Int)) + (n : Int)) = ((k * w + n : Nat) : Int) := by
      rw [← Int.natCast_mul]
      simp (disch := omega) only [w32_i]
      omega
    have hFr : ∀ m, m < w → M1 fo (r * w + m) = w64 (F m) := by
      intro m hm
      rw [a3 _ (fun h => row_ne (q := r * w + m - s * w) hrs hm (by omega) (by omega)), hF m hm]
    have st : run (call (e + 1)) 44 39 [vA o, vI s, vI A, vJ T, vX 0, vI k, vI ((r * w : Nat) : Int), vI (mo so kr : Nat), vI n, u1, vX 0, u2] [] M1 R = if w64 (c n * T) = 0 then run (call (e + 1)) 44 125 [vA o, vI s, vI A, vJ T, vX 0, vI k, vI ((r * w : Nat) : Int), vI (mo so kr : Nat), vI n, vJ (w64 (c n * T)), vX 0, u2] [] M1 R else run (call (e + 1)) 44 76 [vA o, vI s, vI A, vJ T, vX 0, vI k, vI ((r * w : Nat) : Int), vI (mo so kr : Nat), vI n, vJ (w64 (c n * T)), vX 0, u2] [] M1 R := by
      rw [b_44_39 _ _ _ _ _ _ _ _ _ _ k1, s_40 (by omega) k1 g0 (by omega), bsI, b_44_47, if_neg (by omega), b_44_50 _ _ _ _ _ _ _ _ _ _ k1 (by rw [k2]; exact k4), k2, k6, g1, ei, if_pos (by omega), Int.toNat_natCast, gp, w64_ml]
      simp only [lc_eq]
    have up1 : ∀ q, ps c F (n + 1) q = ps c F n q + (if n ≤ q then c n * F (q - n) else 0) := fun _ => rfl
    by_cases hz : w64 (c n * T) = 0
    · refine ⟨((vJ (w64 (c n * T)), u2), M1), ⟨a1, ?_, a3⟩, ?_⟩
      · intro q hq
        dsimp only
        rw [a2 q hq, up1]
        by_cases g : n ≤ q
        · rw [if_pos g, Int.mul_add, ← Int.add_assoc, ← w64_ar (G q + T * ps c F n q), ← Int.mul_assoc, Int.mul_comm T (c n), ← w64_ml, hz, Int.zero_mul]
          rw [show w64 0 = 0 from rfl, Int.add_zero]
        · rw [if_neg g, Int.add_zero]
      · show run (call (e + 1)) 44 39 [vA o, vI s, vI A, vJ T, vX 0, vI k, vI ((r * w : Nat) : Int), vI (mo so kr : Nat), vI n, u1, vX 0, u2] [] M1 R = _
        rw [st, if_pos hz, b_44_125, e1]
    · obtain ⟨M2, q1, f1, f2, f3⟩ := t_44 (e := e + 1) (M := M1) (A := A) (x5 := (k : Int)) (T := T) (n := n) (mr := mo so kr) (c := c n * T) (F := F) (G := fun q => G q + T * ps c F n q) hS g1 hw22 hs hr hrs (by omega) hFr a2 rfl
      refine ⟨((vJ (w64 (c n * T)), vI ((mo so kr + 1 : Nat) : Int)), M2), ⟨Fx_t a1 f1, ?_, ?_⟩, ?_⟩
      · intro q hq
        dsimp only
        rw [f2 q hq, up1]
        by_cases g : n ≤ q
        · rw [if_pos g]
          by_cases g2 : q - n < mo so kr + 1
          · rw [if_pos ⟨g, g2⟩, Int.mul_add, ← Int.add_assoc, ← Int.mul_assoc, Int.mul_comm T (c n)]
          · rw [if_neg (fun h => g2 h.2), hF0 (q - n) (by omega), Int.mul_zero, Int.add_zero, Int.add_zero]
        · rw [if_neg (fun h => g h.1), if_neg g, Int.add_zero, Int.add_zero]
      · intro j hj
        dsimp only
        rw [f3 j hj]
        exact a3 j hj
      · show run (call (e + 1)) 44 39 [vA o, vI s, vI A, vJ T, vX 0, vI k, vI ((r * w : Nat) : Int), vI (mo so kr : Nat), vI n, u1, vX 0, u2] [] M1 R = _
        rw [st, if_neg hz, b_44_76]
        refine Eq.trans q1 ?_
        rw [b_44_79, if_pos (by omega), b_44_125, e1]
  · refine ⟨Fx_r, ?_, fun _ _ => rfl⟩
    intro q hq
    show M fo (s * w + q) = w64 (G q + T * 0)
    rw [Int.mul_zero, Int.add_zero]
    exact hG q hq
