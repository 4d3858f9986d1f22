section
/-! ===== Spread.allow: what a piece's size gives ===== -/
def cho (n k : Nat) : Int := ([[1], [1, 1], [1, 2, 1], [1, 3, 3, 1], [1, 4, 6, 4, 1], [1, 5, 10, 10, 5, 1], [1, 6, 15, 20, 15, 6, 1]].getD n []).getD k 0
/-- sizes up to m told -/
def cs (e : Nat → Nat → Int) : Nat → Nat → Nat → Int
  | 0, _ => fun _ => 0
  | m + 1, k => if k = m + 1 then fun n => e (m + 1) n - sm (fun j => cho m j * pm (cs e m (j + 1)) (e (m - j)) n) m else cs e m k
def cc (e : Nat → Nat → Int) (k : Nat) : Nat → Int := cs e k k
theorem cs_le (e : Nat → Nat → Int) {k : Nat} : ∀ m, k ≤ m → cs e m k = cc e k
  | 0, h => by
    have : k = 0 := by omega
    subst this
    rfl
  | m + 1, h => by
    by_cases g : k = m + 1
    · subst g; rfl
    · show (if k = m + 1 then _ else cs e m k) = _
      rw [if_neg g]
      exact cs_le e m (by omega)
theorem cc_s (e : Nat → Nat → Int) (m n : Nat) : cc e (m + 1) n = e (m + 1) n - sm (fun j => cho m j * pm (cc e (j + 1)) (e (m - j)) n) m := by
  show (if m + 1 = m + 1 then fun n => e (m + 1) n - sm (fun j => cho m j * pm (cs e m (j + 1)) (e (m - j)) n) m else cs e m (m + 1)) n = _
  rw [if_pos rfl]
  rw [sm_c m (fun j hj => by rw [cs_le e m (by omega)])]
theorem cc_b {e : Nat → Nat → Int} (h0 : e 0 = one) : ∀ k, k < 7 → e (k + 1) = bin (fun j => cc e (j + 1)) e k := by
  intro k hk
  funext n
  have h := cc_s e k n
  have hz : ∀ p : Nat → Int, pm p (e 0) n = p n := fun p => by rw [h0, pm_c, pm_1]
  match k, hk with
  | 0, _ =>
    simp only [sm, bin] at h ⊢
    rw [hz]; omega
  | 1, _ =>
    simp only [sm, bin, cho, List.getD_cons_zero, List.getD_cons_succ, Nat.reduceAdd, Nat.reduceSub] at h ⊢
    rw [hz]; omega
  | 2, _ =>
    simp only [sm, bin, cho, List.getD_cons_zero, List.getD_cons_succ, Nat.reduceAdd, Nat.reduceSub] at h ⊢
    rw [hz]; omega
  | 3, _ =>
    simp only [sm, bin, cho, List.getD_cons_zero, List.getD_cons_succ, Nat.reduceAdd, Nat.reduceSub] at h ⊢
    rw [hz]; omega
  | 4, _ =>
    simp only [sm, bin, cho, List.getD_cons_zero, List.getD_cons_succ, Nat.reduceAdd, Nat.reduceSub] at h ⊢
    rw [hz]; omega
  | 5, _ =>
    simp only [sm, bin, cho, List.getD_cons_zero, List.getD_cons_succ, Nat.reduceAdd, Nat.reduceSub] at h ⊢
    rw [hz]; omega
  | 6, _ =>
    simp only [sm, bin, cho, List.getD_cons_zero, List.getD_cons_succ, Nat.reduceAdd, Nat.reduceSub] at h ⊢
    rw [hz]; omega
  | k + 7, h => exact absurd h (by omega)
/-- the sizes of a spread: so many at most have one day, each adds its worth -/
abbrev es (so lim : Nat) : Nat → Nat → Int := ez (fun k => decide (k ≤ lim)) (wo so)
theorem es_0 (so lim : Nat) : es so lim 0 = one := by
  funext n
  show (if decide (0 ≤ lim) = true ∧ n = wo so 0 then (1 : Int) else 0) = one n
  have h : wo so 0 = 0 := by
    unfold wo
    split
    · rfl
    · split
      · rfl
      · rfl
  rw [h]
  cases n with
  | zero => rw [if_pos ⟨by simp, rfl⟩]; rfl
  | succ n => rw [if_neg (by omega)]; rfl
theorem wo_mo : ∀ so : Fin 3, ∀ k : Fin 8, wo so k ≤ mo so k := by decide +kernel
theorem su_sm0 {f : Nat → Int} : ∀ n, (∀ i, i < n → f i = 0) → sm f n = 0
  | 0, _ => rfl
  | n + 1, h => by
    show sm f n + f n = 0
    rw [su_sm0 n (fun i hi => h i (by omega)), h n (by omega)]; rfl
theorem cc_z {so lim : Nat} (hso : so < 3) : ∀ b k n, k < b → k ≤ 7 → mo so k < n → cc (es so lim) k n = 0
  | 0, k, _, h, _, _ => absurd h (by omega)
  | b + 1, 0, n, hb, hk, hn => rfl
  | b + 1, k + 1, n, hb, hk, hn => by
    rw [cc_s]
    have h1 : es so lim (k + 1) n = 0 := by
      show (if decide (k + 1 ≤ lim) = true ∧ n = wo so (k + 1) then (1 : Int) else 0) = 0
      have := wo_mo ⟨so, hso⟩ ⟨k + 1, by omega⟩
      dsimp only at this
      rw [if_neg (by omega)]
    rw [h1, su_sm0 k (fun j hj => ?_)]
    · rfl
    · have m2 := mo_add2 ⟨so, hso⟩ ⟨j + 1, by omega⟩ ⟨k - j, by omega⟩ (by dsimp only; omega)
      dsimp only at m2
      rw [show j + 1 + (k - j) = k + 1 by omega] at m2
      have w2 := wo_mo ⟨so, hso⟩ ⟨k - j, by omega⟩
      dsimp only at w2
      rw [pm_z2 (a := mo so (j + 1)) (b := mo so (k - j)) (fun i hi => cc_z hso b (j + 1) i (by omega) (by omega) hi) (fun i hi => ?_) (by omega), Int.mul_zero]
      show (if decide (k - j ≤ lim) = true ∧ i = wo so (k - j) then (1 : Int) else 0) = 0
      rw [if_neg (by omega)]
theorem pm_es (p : Nat → Int) (so lim k n : Nat) : pm p (es so lim k) n = if k ≤ lim ∧ wo so k ≤ n then p (n - wo so k) else 0 := by
  rw [pm_c]
  have h := pm_mn 1 (k ≤ lim) (wo so k) p n
  simp only [Int.one_mul] at h
  rw [← h]
  congr 1
  funext i
  show (if decide (k ≤ lim) = true ∧ i = wo so k then (1 : Int) else 0) = _
  simp only [decide_eq_true_eq]
theorem row_out {r s w m : Nat} (h : ¬ r = s) (hm : m < w) : ¬ (s * w ≤ r * w + m ∧ r * w + m < s * w + w) := fun hh => row_ne (q := r * w + m - s * w) h hm (by omega) (by omega)
/-- one smaller piece taken off -/
theorem t_42 {e : Nat} (he : 1 ≤ e) {R : RR} {o pi fo w so k a r : Nat} {T : Int} {v1 : AV} (hS : spO R o pi fo w) (hso3 : so < 3) (hwe : w = mo so 7 + 1) (hw22 : w ≤ 22) (hk7 : k ≤ 7) (ha1 : 1 ≤ a) (hak : a + r = k) (hr1 : 1 ≤ r) {M : MM} (hso : M o 0 = (so : Int)) (hw : M o 1 = (w : Int)) {c G : Nat → Int} (hc : ∀ n, n < w → M pi (a * w + n) = w64 (c n)) (hG : ∀ n, n < w → M pi (k * w + n) = w64 (G n)) : ∃ M' : MM, run (call e) 42 29 [vA o, vI k, vJ T, vX 0, vI a, vI r, vI 0] [] M R = run (call e) 42 87 [vA o, vI k, vJ T, vX 0, vI a, vI r, vI ((mo so a + 1 : Nat) : Int)] [] M' R ∧ Fx [pi] M M' ∧ (∀ q, q < w → M' pi (k * w + q) = w64 (G q - (if wo so r ≤ q ∧ q - wo so r < mo so a + 1 then T * c (q - wo so r) else 0))) ∧ ∀ j, ¬ (k * w ≤ j ∧ j < k * w + w) → M' pi j = M pi j := by
  obtain ⟨k1, k2, k3, k4, k5, k6, k7, k8, k9, k10⟩ := id hS
  have nO : o ∉ [pi] := by simpa using k10
  have m2 := mo_add2 ⟨so, hso3⟩ ⟨a, by omega⟩ ⟨r, by omega⟩ (by show a + r ≤ 7; omega)
  have m3 := mo_add ⟨so, hso3⟩ ⟨k, by omega⟩ ⟨7 - k, by omega⟩ (by dsimp only; omega)
  have w2 := wo_mo ⟨so, hso3⟩ ⟨r, by omega⟩
  dsimp only at m2 m3 w2
  rw [hak] at m2
  have kw : k * w ≤ 7 * 22 := Nat.mul_le_mul (by omega) hw22
  have aw : a * w ≤ 7 * 22 := Nat.mul_le_mul (by omega) hw22
  have key := loop_nat (fun n (M1 : MM) => run (call e) 42 29 [vA o, vI k, vJ T, vX 0, vI a, vI r, vI n] [] M1 R) (fun i M1 => Fx [pi] M M1 ∧ (∀ q, q < w → M1 pi (k * w + q) = w64 (G q - (if wo so r ≤ q ∧ q - wo so r < i then T * c (q - wo so r) else 0))) ∧ ∀ j, ¬ (k * w ≤ j ∧ j < k * w + w) → M1 pi j = M pi j) (mo so a + 1) ?_ M ?_
  · obtain ⟨M1, ⟨a1, a2, a3⟩, hq⟩ := key
    refine ⟨M1, ?_, a1, a2, a3⟩
    refine Eq.trans hq ?_
    rw [b_42_29 _ _ _ _ _ _ k1, s_40 (by omega) k1 (by rw [a1 o nO]; exact hso) (by omega), bsI, b_42_37, if_pos (by omega)]
  · rintro n M1 hn ⟨a1, a2, a3⟩
    have e1 : w32 ((n : Int) + 1) = ((n + 1 : Nat) : Int) := by rw [w32_i (by omega)]; omega
    have kb := row_b (s := k) (n := 8) (w := w) (by omega) (n + wo so r) (by omega)
    have ab := row_b (s := a) (n := 8) (w := w) (by omega) n (by omega)
    have g0 : M1 o 0 = (so : Int) := by rw [a1 o nO]; exact hso
    have g1 : M1 o 1 = (w : Int) := by rw [a1 o nO]; exact hw
    have ei : w32 (w32 (w32 ((k : Int) * (w : Int)) + (n : Int)) + ((wo so r : Nat) : Int)) = ((k * w + (n + wo so r) : Nat) : Int) := by
      rw [← Int.natCast_mul]
      simp (disch := omega) only [w32_i]
      omega
    have ej : w32 (w32 ((a : Int) * (w : Int)) + (n : Int)) = ((a * w + n : Nat) : Int) := by
      rw [← Int.natCast_mul]
      simp (disch := omega) only [w32_i]
      omega
    have ga : M1 pi (a * w + n) = w64 (c n) := by
      rw [a3 _ (fun h => row_ne (r := a) (s := k) (w := w) (m := n) (q := a * w + n - k * w) (by omega) (by omega) (by omega) (by omega)), hc n (by omega)]
    have gs := a2 (n + wo so r) (by omega)
    rw [if_neg (by omega), Int.sub_zero] at gs
    refine ⟨up M1 pi (k * w + (n + wo so r)) (w64 (G (n + wo so r) - T * c n)), ⟨Fx_t a1 (Fx_p (by simp)), ?_, ?_⟩, ?_⟩
    · intro q hq
      by_cases h : q = n + wo so r
      · subst h
        rw [up_s, if_pos (by omega), show n + wo so r - wo so r = n by omega]
      · rw [up_i (by omega), a2 q hq]
        by_cases g : wo so r ≤ q ∧ q - wo so r < n
        · rw [if_pos g, if_pos (by omega)]
        · rw [if_neg g, if_neg (by omega)]
    · intro j hj
      rw [up_i (by omega)]
      exact a3 j hj
    · show run (call e) 42 29 [vA o, vI k, vJ T, vX 0, vI a, vI r, vI n] [] M1 R = _
      rw [b_42_29 _ _ _ _ _ _ k1, s_40 (by omega) k1 g0 (by omega), bsI, b_42_37, if_neg (by omega), b_42_40 _ _ _ _ _ _ k1, s_39 (by omega) k1 g0 (by omega), bsI, k2, b_42_59 _ _ _ _ _ _ _ _ _ k4 k1 (by rw [k2]; exact k4), k2, k6, g1, ei, ej, if_pos (by omega), if_pos (by omega), if_pos (by omega), e1, Int.toNat_natCast, Int.toNat_natCast, gs, ga, w64_mr, w64_sl, w64_sr]
  · refine ⟨Fx_r, ?_, fun _ _ => rfl⟩
    intro q hq
    rw [if_neg (by omega), Int.sub_zero]
    exact hG q hq
theorem cho_st : ∀ m : Fin 7, ∀ j : Fin 7, (j : Nat) < m → w64 (Int.tdiv (w64 (cho m j * w32 ((((m : Nat) + 1 : Nat) : Int) - (((j : Nat) + 1 : Nat) : Int)))) (((j : Nat) + 1 : Nat) : Int)) = cho m (j + 1) := by decide +kernel
/-- Spread.takeOffSmaller -/
theorem s_42 {d0 : Nat} (hd : 2 ≤ d0) {R : RR} {o pi fo w so lim m : Nat} (hS : spO R o pi fo w) (hso3 : so < 3) (hwe : w = mo so 7 + 1) (hw22 : w ≤ 22) (hm : m < 7) {M : MM} (hso : M o 0 = (so : Int)) (hw : M o 1 = (w : Int)) (hl : M o 4 = (lim : Int)) (hc : ∀ k, 1 ≤ k → k ≤ m → ∀ n, n < w → M pi (k * w + n) = w64 (cc (es so lim) k n)) (hG : ∀ n, n < w → M pi ((m + 1) * w + n) = w64 (es so lim (m + 1) n)) : ∃ M' : MM, call d0 42 [vA o, vI ((m + 1 : Nat) : Int)] M R = some (vX 0, M', R) ∧ Fx [pi] M M' ∧ (∀ q, q < w → M' pi ((m + 1) * w + q) = w64 (cc (es so lim) (m + 1) q)) ∧ ∀ j, ¬ ((m + 1) * w ≤ j ∧ j < (m + 1) * w + w) → M' pi j = M pi j := by
  obtain ⟨e, rfl⟩ := s_le hd
  obtain ⟨k1, k2, k3, k4, k5, k6, k7, k8, k9, k10⟩ := id hS
  have nO : o ∉ [pi] := by simpa using k10
  have key := loop_nat (fun j (a : (AV × AV) × MM) => run (call (e + 1)) 42 5 [vA o, vI ((m + 1 : Nat) : Int), vJ (cho m j), vX 0, vI ((j + 1 : Nat) : Int), a.1.1, a.1.2] [] a.2 R) (fun i a => Fx [pi] M a.2 ∧ (∀ q, q < w → a.2 pi ((m + 1) * w + q) = w64 (es so lim (m + 1) q - sm (fun j => cho m j * pm (cc (es so lim) (j + 1)) (es so lim (m - j)) q) i)) ∧ ∀ j, ¬ ((m + 1) * w ≤ j ∧ j < (m + 1) * w + w) → a.2 pi j = M pi j) m ?_ ((vX 0, vX 0), M) ?_
  · obtain ⟨⟨⟨u1, u2⟩, M1⟩, ⟨a1, a2, a3⟩, hq⟩ := key
    dsimp only at a1 a2 a3
    refine ⟨M1, ?_, a1, ?_, a3⟩
    · refine call_of 7 [vA o, vI ((m + 1 : Nat) : Int), vX 0, vX 0, vX 0, vX 0, vX 0] (by decide) rfl (Nat.le_of_ble_eq_true rfl) rfl ?_ rfl
      rw [b_42_0]
      refine Eq.trans (Eq.trans ?_ hq) ?_
      · have : cho m 0 = 1 := by
          match m, hm with
          | 0, _ => rfl
          | 1, _ => rfl
          | 2, _ => rfl
          | 3, _ => rfl
          | 4, _ => rfl
          | 5, _ => rfl
          | 6, _ => rfl
          | m + 7, h => exact absurd h (by omega)
        rw [this]
        rfl
      · dsimp only
        rw [b_42_5, if_pos (by omega), b_42_105]
    · intro q hq
      rw [a2 q hq, cc_s]
  · rintro j ⟨⟨u1, u2⟩, M1⟩ hj ⟨a1, a2, a3⟩
    dsimp only at a1 a2 a3
    have e1 : w32 (((j + 1 : Nat) : Int) + 1) = ((j + 1 + 1 : Nat) : Int) := by rw [w32_i (by omega)]; omega
    have er : w32 (((m + 1 : Nat) : Int) - ((j + 1 : Nat) : Int)) = ((m - j : Nat) : Int) := by rw [w32_i (by omega)]; omega
    have g4 : M1 o 4 = (lim : Int) := by rw [a1 o nO]; exact hl
    have gc := cho_st ⟨m, hm⟩ ⟨j, by omega⟩ hj
    dsimp only at gc
    have hcz : ∀ q, q < w → (if m - j ≤ lim ∧ wo so (m - j) ≤ q then cho m j * cc (es so lim) (j + 1) (q - wo so (m - j)) else 0) = cho m j * pm (cc (es so lim) (j + 1)) (es so lim (m - j)) q := by
      intro q hq
      rw [pm_es]
      split
      · rfl
      · rw [Int.mul_zero]
    by_cases hL : m - j ≤ lim
    · obtain ⟨M2, q2, f1, f2, f3⟩ := t_42 (e := e + 1) (by omega) (k := m + 1) (a := j + 1) (r := m - j) (T := cho m j) (v1 := vX 0) hS hso3 hwe hw22 (by omega) (by omega) (by omega) (by omega) (M := M1) (by rw [a1 o nO]; exact hso) (by rw [a1 o nO]; exact hw) (c := cc (es so lim) (j + 1)) (G := fun q => es so lim (m + 1) q - sm (fun j => cho m j * pm (cc (es so lim) (j + 1)) (es so lim (m - j)) q) j) (fun n hn => by
        rw [a3 _ (fun h => row_ne (r := j + 1) (s := m + 1) (w := w) (m := n) (q := (j + 1) * w + n - (m + 1) * w) (by omega) (by omega) (by omega) (by omega))]
        exact hc (j + 1) (by omega) (by omega) n hn) a2
      refine ⟨((vI (m - j : Nat), vI ((mo so (j + 1) + 1 : Nat) : Int)), M2), ⟨Fx_t a1 f1, ?_, ?_⟩, ?_⟩
      · intro q hq
        dsimp only
        rw [f2 q hq]
        show _ = w64 (es so lim (m + 1) q - (sm _ j + cho m j * pm (cc (es so lim) (j + 1)) (es so lim (m - j)) q))
        rw [← hcz q hq]
        have hz : ∀ z, mo so (j + 1) < z → cc (es so lim) (j + 1) z = 0 := fun z hz => cc_z hso3 8 (j + 1) z (by omega) (by omega) hz
        congr 1
        by_cases g : wo so (m - j) ≤ q
        · by_cases g2 : q - wo so (m - j) < mo so (j + 1) + 1
          · rw [if_pos ⟨g, g2⟩, if_pos ⟨hL, g⟩]; omega
          · rw [if_neg (fun h => g2 h.2), if_pos ⟨hL, g⟩, hz _ (by omega), Int.mul_zero]; omega
        · rw [if_neg (fun h => g h.1), if_neg (fun h => g h.2)]; omega
      · intro i hi
        dsimp only
        rw [f3 i hi]
        exact a3 i hi
      · show run (call (e + 1)) 42 5 [vA o, vI ((m + 1 : Nat) : Int), vJ (cho m j), vX 0, vI ((j + 1 : Nat) : Int), u1, u2] [] M1 R = _
        rw [b_42_5, if_neg (by omega), b_42_11 _ _ _ _ _ _ k1, g4, er, if_neg (by omega), b_42_26]
        refine Eq.trans q2 ?_
        rw [b_42_87, if_pos (by omega), gc, e1]
    · refine ⟨((vI (m - j : Nat), u2), M1), ⟨a1, ?_, a3⟩, ?_⟩
      · intro q hq
        dsimp only
        rw [a2 q hq]
        show _ = w64 (es so lim (m + 1) q - (sm _ j + cho m j * pm (cc (es so lim) (j + 1)) (es so lim (m - j)) q))
        rw [← hcz q hq, if_neg (fun h => hL h.1), Int.add_zero]
      · show run (call (e + 1)) 42 5 [vA o, vI ((m + 1 : Nat) : Int), vJ (cho m j), vX 0, vI ((j + 1 : Nat) : Int), u1, u2] [] M1 R = _
        rw [b_42_5, if_neg (by omega), b_42_11 _ _ _ _ _ _ k1, g4, er, if_pos (by omega), b_42_87, if_pos (by omega), gc, e1]
  · refine ⟨Fx_r, ?_, fun _ _ => rfl⟩
    intro q hq
    show M pi ((m + 1) * w + q) = w64 (es so lim (m + 1) q - 0)
    rw [Int.sub_zero]
    exact hG q hq
/-- Spread.allow -/
theorem s_41 {d0 : Nat} (hd : 3 ≤ d0) {R : RR} {o pi fo w so lim : Nat} (hS : spO R o pi fo w) (hso3 : so < 3) (hwe : w = mo so 7 + 1) (hw22 : w ≤ 22) {M : MM} (hso : M o 0 = (so : Int)) (hw : M o 1 = (w : Int)) (hlim : lim ≤ 7) : ∃ M' : MM, call d0 41 [vA o, vI lim] M R = some (vX 0, M', R) ∧ Fx [o, pi] M M' ∧ M' o = upf (M o) 4 lim ∧ ∀ k, 1 ≤ k → k ≤ 7 → ∀ n, n < w → M' pi (k * w + n) = w64 (cc (es so lim) k n) := by
  obtain ⟨e, rfl⟩ := s_le hd
  obtain ⟨k1, k2, k3, k4, k5, k6, k7, k8, k9, k10⟩ := id hS
  have nO : o ∉ [pi] := by simpa using k10
  have m7 := wo_mo ⟨so, hso3⟩
  have key := loop_nat (fun j (a : AV × MM) => run (call (e + 2)) 41 7 [vA o, vI lim, vI ((j + 1 : Nat) : Int), a.1] [] a.2 R) (fun i a => Fx [pi] (up M o 4 lim) a.2 ∧ ∀ k, 1 ≤ k → k ≤ i → ∀ n, n < w → a.2 pi (k * w + n) = w64 (cc (es so lim) k n)) 7 ?_ (vX 0, up M o 4 lim) ?_
  · obtain ⟨⟨u, M1⟩, ⟨a1, a2⟩, hq⟩ := key
    dsimp only at a1 a2
    refine ⟨M1, ?_, ?_, ?_, a2⟩
    · refine call_of 4 [vA o, vI lim, vX 0, vX 0] (by decide) rfl (Nat.le_of_ble_eq_true rfl) rfl ?_ rfl
      rw [b_41_0 _ _ k1]
      refine Eq.trans hq ?_
      dsimp only
      rw [b_41_7, if_pos (by omega), b_41_80]
    · exact Fx_t (Fx_p (by simp)) (Fx_s a1 (by simp))
    · rw [a1 o nO, up_f]
  · rintro j ⟨u, M1⟩ hj ⟨a1, a2⟩
    dsimp only at a1 a2
    have e1 : w32 (((j + 1 : Nat) : Int) + 1) = ((j + 1 + 1 : Nat) : Int) := by rw [w32_i (by omega)]; omega
    have kw : (j + 1) * w ≤ 7 * 22 := Nat.mul_le_mul (by omega) hw22
    have ub : ∀ i, ¬ i = 4 → up M o 4 (lim : Int) o i = M o i := fun i hi => up_i hi
    -- the row is emptied
    obtain ⟨M2, ⟨c1, c2, c3⟩, q2⟩ := loop_nat (fun n (a : MM) => run (call (e + 2)) 41 15 [vA o, vI lim, vI ((j + 1 : Nat) : Int), vI n] [] a R) (fun i a => Fx [pi] M1 a ∧ (∀ q, q < i → a pi ((j + 1) * w + q) = 0) ∧ ∀ z, ¬ ((j + 1) * w ≤ z ∧ z < (j + 1) * w + w) → a pi z = M1 pi z) w (by
      rintro n M2 hn ⟨c1, c2, c3⟩
      have e2 : w32 ((n : Int) + 1) = ((n + 1 : Nat) : Int) := by rw [w32_i (by omega)]; omega
      have kb := row_b (s := j + 1) (n := 8) (w := w) (by omega) n hn
      have g1 : M2 o 1 = (w : Int) := by rw [c1 o nO, a1 o nO, ub 1 (by decide)]; exact hw
      have ei : w32 (w32 (((j + 1 : Nat) : Int) * (w : Int)) + (n : Int)) = (((j + 1) * w + n : Nat) : Int) := by
        rw [← Int.natCast_mul]
        simp (disch := omega) only [w32_i]
        omega
      refine ⟨up M2 pi ((j + 1) * w + n) 0, ⟨Fx_t c1 (Fx_p (by simp)), ?_, ?_⟩, ?_⟩
      · intro q hq
        by_cases h : q = n
        · subst h; rw [up_s]
        · rw [up_i (by omega)]; exact c2 q (by omega)
      · intro z hz
        rw [up_i (by omega)]
        exact c3 z hz
      · show run (call (e + 2)) 41 15 [vA o, vI lim, vI ((j + 1 : Nat) : Int), vI n] [] M2 R = _
        rw [b_41_15 _ _ _ _ k1, g1, if_neg (by omega), b_41_23 _ _ _ _ k1 (by rw [k2]; exact k4), k2, k6, g1, ei, if_pos (by omega), e2, Int.toNat_natCast]) M1 ⟨Fx_r, fun q hq => absurd hq (by omega), fun _ _ => rfl⟩
    have F2 : Fx [pi] (up M o 4 lim) M2 := Fx_t a1 c1
    have g0 : M2 o 0 = (so : Int) := by rw [F2 o nO, ub 0 (by decide)]; exact hso
    have g1 : M2 o 1 = (w : Int) := by rw [F2 o nO, ub 1 (by decide)]; exact hw
    have g4 : M2 o 4 = (lim : Int) := by rw [F2 o nO, up_s]
    have wj := wo_mo ⟨so, hso3⟩ ⟨j + 1, by omega⟩
    have m3 := mo_add ⟨so, hso3⟩ ⟨j + 1, by omega⟩ ⟨7 - (j + 1), by omega⟩ (by dsimp only; omega)
    dsimp only at wj m3
    have ks := row_b (s := j + 1) (n := 8) (w := w) (by omega) (wo so (j + 1)) (by omega)
    -- the own one
    obtain ⟨M3, q3, d1, d2, d3⟩ : ∃ M3 : MM, run (call (e + 2)) 41 43 [vA o, vI lim, vI ((j + 1 : Nat) : Int), vI w] [] M2 R = run (call (e + 2)) 41 69 [vA o, vI lim, vI ((j + 1 : Nat) : Int), vI w] [] M3 R ∧ Fx [pi] M2 M3 ∧ (∀ q, q < w → M3 pi ((j + 1) * w + q) = w64 (es so lim (j + 1) q)) ∧ ∀ z, ¬ ((j + 1) * w ≤ z ∧ z < (j + 1) * w + w) → M3 pi z = M2 pi z := by
      by_cases hL : j + 1 ≤ lim
      · refine ⟨up M2 pi ((j + 1) * w + wo so (j + 1)) 1, ?_, Fx_p (by simp), ?_, ?_⟩
        · have ei : w32 (w32 (((j + 1 : Nat) : Int) * (w : Int)) + ((wo so (j + 1) : Nat) : Int)) = (((j + 1) * w + wo so (j + 1) : Nat) : Int) := by
            rw [← Int.natCast_mul]
            simp (disch := omega) only [w32_i]
            omega
          rw [b_41_43 _ _ _ _ k1, g4, if_neg (by omega), b_41_51 _ _ _ _ k1, s_39 (by omega) k1 g0 (by omega), bsI, k2, g1, b_41_66 _ _ _ _ _ _ _ k4, k6, ei, if_pos (by omega), Int.toNat_natCast]
        · intro q hq
          show _ = w64 (if decide (j + 1 ≤ lim) = true ∧ q = wo so (j + 1) then 1 else 0)
          by_cases h : q = wo so (j + 1)
          · subst h
            rw [up_s, if_pos ⟨by simpa using hL, rfl⟩]; rfl
          · rw [up_i (by omega), if_neg (fun z => h z.2), c2 q hq]; rfl
        · intro z hz
          rw [up_i (by omega)]
      · refine ⟨M2, ?_, Fx_r, ?_, fun _ _ => rfl⟩
        · rw [b_41_43 _ _ _ _ k1, g4, if_pos (by omega)]
        · intro q hq
          show _ = w64 (if decide (j + 1 ≤ lim) = true ∧ q = wo so (j + 1) then 1 else 0)
          rw [if_neg (fun z => hL (by simpa using z.1)), c2 q hq]; rfl
    have F3 := Fx_t F2 d1
    obtain ⟨M4, q4, f1, f2, f3⟩ := s_42 (d0 := e + 2) (by omega) (lim := lim) (m := j) hS hso3 hwe hw22 (by omega) (M := M3) (by rw [d1 o nO]; exact g0) (by rw [d1 o nO]; exact g1) (by rw [d1 o nO]; exact g4) (fun k h1 h2 n hn => by
      have hne := row_out (r := k) (s := j + 1) (w := w) (m := n) (by omega) hn
      rw [d3 _ hne, c3 _ hne]
      exact a2 k h1 h2 n hn) d2
    refine ⟨(vI w, M4), ⟨Fx_t F3 f1, ?_⟩, ?_⟩
    · intro k h1 h2 n hn
      dsimp only
      by_cases h : k = j + 1
      · subst h
        exact f2 n hn
      · have hne := row_out (r := k) (s := j + 1) (w := w) (m := n) h hn
        rw [f3 _ hne, d3 _ hne, c3 _ hne]
        exact a2 k h1 (by omega) n hn
    · show run (call (e + 2)) 41 7 [vA o, vI lim, vI ((j + 1 : Nat) : Int), u] [] M1 R = _
      rw [b_41_7, if_neg (by omega), b_41_13]
      refine Eq.trans q2 ?_
      rw [b_41_15 _ _ _ _ k1, g1, if_pos (by omega)]
      refine Eq.trans q3 ?_
      rw [b_41_69 _ _ _ _ k1, q4, bsX, b_41_74, e1]
  · exact ⟨Fx_r, fun k h1 h2 => absurd h1 (by omega)⟩
end
