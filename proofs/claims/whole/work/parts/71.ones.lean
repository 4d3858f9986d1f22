section
/-! ===== the reference counts day by day: no more than so many on one day ===== -/
theorem s_167 {d0 : Nat} (hd : 1 ≤ d0) {M : MM} {R : RR} {s : Nat} (hs : s < 2147483648) : call d0 167 [vI s] M R = some (vI ((bl s).length : Nat), M, R) := by
  obtain ⟨e, rfl⟩ := s_le hd
  refine call_of 3 [vI s, vX 0, vX 0] (by decide) rfl (Nat.le_of_ble_eq_true rfl) rfl ?_ rfl
  have hlen : ∀ n, ((List.range n).filter (fun k => s.testBit k)).length ≤ n := fun n => by
    have := List.length_filter_le (fun k => s.testBit k) (List.range n)
    rw [List.length_range] at this
    exact this
  have key := iter_eq (fun n : Nat => run (call e) 167 4 [vI s, vI (((List.range n).filter (fun k => s.testBit k)).length : Nat), vI n] [] M R) 24 ?_
  · rw [b_167_0]
    refine Eq.trans key ?_
    try dsimp only
    rw [b_167_4, if_pos (by omega), b_167_24]
    rfl
  · intro n hn
    have e1 : w32 ((n : Int) + 1) = ((n + 1 : Nat) : Int) := by rw [w32_i (by omega)]; omega
    have hl := hlen n
    try dsimp only
    rw [b_167_4, if_neg (by omega), b_167_10, e1, c_bit (by omega) hs, List.range_succ, List.filter_append, List.length_append]
    by_cases h : s.testBit n = true
    · rw [b2_t h, w32_i (by omega)]
      simp [List.filter, h]
    · rw [b2_f h, w32_i (by omega)]
      simp [List.filter, h]
/-- the parts of s among the first n -/
def filt (s n : Nat) : List Nat := (List.range n).filter (fun on => on &&& (127 ^^^ s) == 0)
theorem filt_s (s n : Nat) : filt s (n + 1) = filt s n ++ (if n &&& (127 ^^^ s) = 0 then [n] else []) := by
  unfold filt
  rw [List.range_succ, List.filter_append]
  by_cases h : n &&& (127 ^^^ s) = 0
  · rw [if_pos h, List.filter_cons_of_pos (by simpa using h)]
    rfl
  · rw [if_neg h, List.filter_cons_of_neg (by simpa using h)]
    rfl
theorem sub_c : ∀ s : Fin 128, ∀ a : Fin 128, c_and ((a : Nat) : Int) (c_xor ((s : Nat) : Int) (-1)) = (((a : Nat) &&& (127 ^^^ (s : Nat)) : Nat) : Int) := by decide +kernel
theorem sub_x : ∀ s : Fin 128, ∀ a : Fin 128, (a : Nat) &&& (127 ^^^ (s : Nat)) = 0 → (s : Nat) &&& (127 ^^^ (a : Nat)) = (s : Nat) ^^^ (a : Nat) ∧ (0 < (a : Nat) → (s : Nat) ^^^ (a : Nat) < (s : Nat)) := by decide +kernel
theorem su_fs (h : Nat → Int) (s n : Nat) : su h (filt s (n + 1)) = su h (filt s n) + (if n &&& (127 ^^^ s) = 0 then h n else 0) := by
  rw [filt_s, su_app]
  split
  · show su h (filt s n) + (h n + 0) = _; omega
  · rfl
theorem su_f1 (h : Nat → Int) (s : Nat) : su h (filt s 1) = h 0 := by
  rw [su_fs, show (0 : Nat) &&& (127 ^^^ s) = 0 from Nat.zero_and _, if_pos rfl]
  show (0 : Int) + h 0 = h 0
  omega
theorem Dl_f {φ : Nat → List Nat → Nat → Int} {d s : Nat} (hs : s < 128) (n : Nat) : su (fun a => pm (φ d (bl a)) (Dl φ d (bl (s ^^^ a))) n) (filt s (s + 1)) = Dl φ (d + 1) (bl s) n := by
  rw [Dl_s hs]
  exact su_perm _ (enM_p ⟨s, hs⟩)
theorem fac_0 (w e : Nat → Nat → Int) (d : Nat) (h : e 0 = one) : fac w e d (bl 0) = one := by
  funext n
  show 1 * e 0 n = one n
  rw [h, Int.one_mul]
theorem up_self {α : Type} {M : Nat → Nat → α} {o i : Nat} : up M o i (M o i) = M := by
  funext a b
  unfold up upf
  try dsimp only
  split
  · rename_i h
    subst h
    show (if b = i then M a i else M a b) = M a b
    split
    · rename_i h; subst h; rfl
    · rfl
  · rfl
/-- one set: all that may be on the day -/
theorem t_204 {e : Nat} (he : 1 ≤ e) {M : MM} {R : RR} (hL : Lay R) {most d s : Nat} {C f : Nat → Int} (hs : s < 128) (hC : ∀ r, r ≤ s → M 79 r = w64 (C r)) (hf : ∀ on, on ≤ s → M 78 on = f on) (hf0 : f 0 = 1) : run (call e) 204 58 [vA 57, vI most, vI d, vI s, vI 1] [] M R = run (call e) 204 116 [vA 57, vI most, vI d, vI s, vI ((s + 1 : Nat) : Int)] [] (up M 79 s (w64 (su (fun on => if (bl on).length ≤ most then C (s ^^^ on) * f on else 0) (filt s (s + 1))))) R := by
  have h0 : su (fun on => if (bl on).length ≤ most then C (s ^^^ on) * f on else 0) (filt s 1) = C s := by
    rw [su_f1]
    show (if (bl 0).length ≤ most then C (s ^^^ 0) * f 0 else 0) = C s
    rw [if_pos (by show (0 : Nat) ≤ most; omega), hf0, Int.mul_one, Nat.xor_zero]
  have key := iter_eq (fun i : Nat => run (call e) 204 58 [vA 57, vI most, vI d, vI s, vI ((i + 1 : Nat) : Int)] [] (up M 79 s (w64 (su (fun on => if (bl on).length ≤ most then C (s ^^^ on) * f on else 0) (filt s (i + 1))))) R) s ?_
  · have e0 : up M 79 s (w64 (su (fun on => if (bl on).length ≤ most then C (s ^^^ on) * f on else 0) (filt s (0 + 1)))) = M := by
      rw [show 0 + 1 = 1 from rfl, h0, ← hC s (Nat.le_refl s)]
      exact up_self
    try dsimp only at key
    rw [e0] at key
    refine Eq.trans key ?_
    rw [b_204_58, if_pos (by omega)]
  · intro i hi
    have e1 : w32 (((i + 1 : Nat) : Int) + 1) = ((i + 1 + 1 : Nat) : Int) := by rw [w32_i (by omega)]; omega
    have c1 := sub_c ⟨s, hs⟩ ⟨i + 1, by omega⟩
    have c2 := sub_x ⟨s, hs⟩ ⟨i + 1, by omega⟩
    have c3 := sub_c ⟨i + 1, by omega⟩ ⟨s, hs⟩
    have hst := su_fs (fun on => if (bl on).length ≤ most then C (s ^^^ on) * f on else 0) s (i + 1)
    try dsimp only at c1 c2 c3 hst ⊢
    rw [b_204_58, if_neg (by omega), b_204_64, c1]
    by_cases hz : (i + 1) &&& (127 ^^^ s) = 0
    · obtain ⟨c4, c5⟩ := c2 hz
      have c6 := c5 (by omega)
      rw [if_pos hz] at hst
      rw [hz, if_neg (by decide), b_204_73, s_167 (by omega) (by omega), bsI, b_204_78]
      by_cases hm : (bl (i + 1)).length ≤ most
      · rw [if_pos hm] at hst
        rw [if_neg (by omega), b_204_82 hL, c3, c4, if_pos (by omega), if_pos (by omega), if_pos (by omega), if_pos (by omega), b_204_110, e1, Int.toNat_natCast, Int.toNat_natCast, Int.toNat_natCast, up_s, up_i (by omega), up_o (o' := 78) (by decide), hC _ (by omega), hf _ (by omega), w64_ml, w64_al, w64_ar, up_up, hst]
      · rw [if_neg hm, Int.add_zero] at hst
        rw [if_pos (by omega), b_204_110, e1, hst]
    · rw [if_neg hz, Int.add_zero] at hst
      rw [if_pos (by omega), b_204_110, e1, hst]
/-- all sets on a day, the last first -/
theorem t2_204 {e : Nat} (he : 1 ≤ e) {M : MM} {R : RR} (hL : Lay R) {most d P : Nat} {C f : Nat → Int} {u : AV} (hP7 : P ≤ 7) (hC : ∀ r, r < 2 ^ P → M 79 r = w64 (C r)) (hf : ∀ on, on < 2 ^ P → M 78 on = f on) (hf0 : f 0 = 1) : ∃ (M' : MM) (v : AV), run (call e) 204 51 [vA 57, vI most, vI d, vI ((2 ^ P - 1 : Nat) : Int), u] [] M R = run (call e) 204 122 [vA 57, vI most, vI d, vI 0, v] [] M' R ∧ Fx [79] M M' ∧ ∀ r, r < 2 ^ P → M' 79 r = w64 (su (fun on => if (bl on).length ≤ most then C (r ^^^ on) * f on else 0) (filt r (r + 1))) := by
  have hpw := p2_7 hP7
  have hpp : 0 < 2 ^ P := Nat.two_pow_pos P
  have key := loop_nat (fun j (a : AV × MM) => run (call e) 204 51 [vA 57, vI most, vI d, vI ((2 ^ P - 1 - j : Nat) : Int), a.1] [] a.2 R) (fun j a => Fx [79] M a.2 ∧ ∀ r, r < 2 ^ P → a.2 79 r = w64 (if 2 ^ P - 1 - j < r then su (fun on => if (bl on).length ≤ most then C (r ^^^ on) * f on else 0) (filt r (r + 1)) else C r)) (2 ^ P - 1) ?_ (u, M) ?_
  · obtain ⟨⟨v, M1⟩, ⟨a1, a2⟩, hq⟩ := key
    try dsimp only at a1 a2
    refine ⟨M1, v, ?_, a1, ?_⟩
    · refine Eq.trans hq ?_
      try dsimp only
      rw [Nat.sub_self, b_204_51, if_pos (by omega)]
      rfl
    · intro r hr
      rw [a2 r hr]
      by_cases h : r = 0
      · subst h
        rw [if_neg (by omega), su_f1]
        try dsimp only
        rw [if_pos (by show (0 : Nat) ≤ most; omega), hf0, Int.mul_one]
        rfl
      · rw [if_pos (by omega)]
  · rintro j ⟨v, M1⟩ hj ⟨a1, a2⟩
    try dsimp only at a1 a2
    have e1 : w32 (((2 ^ P - 1 - j : Nat) : Int) + (-1)) = ((2 ^ P - 1 - (j + 1) : Nat) : Int) := by rw [w32_i (by omega)]; omega
    have q1 := t_204 (e := e) he (M := M1) hL (most := most) (d := d) (s := 2 ^ P - 1 - j) (C := C) (f := f) (by omega) (fun r hr => by rw [a2 r (by omega), if_neg (by omega)]) (fun on ho => by rw [a1 78 (by decide)]; exact hf on (by omega)) hf0
    refine ⟨(vI ((2 ^ P - 1 - j + 1 : Nat) : Int), up M1 79 (2 ^ P - 1 - j) (w64 (su (fun on => if (bl on).length ≤ most then C ((2 ^ P - 1 - j) ^^^ on) * f on else 0) (filt (2 ^ P - 1 - j) (2 ^ P - 1 - j + 1))))), ⟨Fx_t a1 (Fx_p (by decide)), ?_⟩, ?_⟩
    rotate_left
    · show run (call e) 204 51 [vA 57, vI most, vI d, vI ((2 ^ P - 1 - j : Nat) : Int), v] [] M1 R = _
      rw [b_204_51, if_neg (by omega), b_204_55]
      refine Eq.trans q1 ?_
      rw [b_204_116, e1]
    · intro r hr
      try dsimp only
      by_cases h : r = 2 ^ P - 1 - j
      · subst h
        rw [up_s, if_pos (by omega)]
      · rw [up_i h, a2 r hr]
        by_cases g : 2 ^ P - 1 - j < r
        · rw [if_pos g, if_pos (by omega)]
        · rw [if_neg g, if_neg (by omega)]
  · refine ⟨Fx_r, ?_⟩
    intro r hr
    rw [if_neg (by omega)]
    exact hC r hr
/-- in how many ways no more than so many have one day -/
theorem s_204 {d0 : Nat} (hd : 3 ≤ d0) {M : MM} {R : RR} (hL : Lay R) {P Y most : Nat} {w : Nat → Nat → Int} (hP : M 57 2 = (P : Int)) (hP7 : P ≤ 7) (hY : M 57 0 = (Y : Int)) (hY24 : Y ≤ 24) (hw : ∀ d p, d < Y → p < P → M 74 (24 * p + d) = w d p ∧ 0 ≤ w d p ∧ w d p ≤ 216) : ∃ M', call d0 204 [vA 57, vI most] M R = some (vJ (w64 (Dl (fac w (es 2 most)) Y (bl (2 ^ P - 1)) 0)), M', R) ∧ Fx [78, 79] M M' := by
  obtain ⟨e, rfl⟩ := s_le hd
  have hpw := p2_7 hP7
  have hpp : 0 < 2 ^ P := Nat.two_pow_pos P
  -- nothing yet
  obtain ⟨M1, ⟨a1, a2⟩, q1⟩ := loop_nat (fun s (a : MM) => run (call (e + 2)) 204 2 [vA 57, vI most, vI s, vX 0, vX 0] [] a R) (fun i a => Fx [79] M a ∧ ∀ s, s < i → a 79 s = if s = 0 then 1 else 0) (2 ^ P) (by
    rintro s M1 hs ⟨a1, a2⟩
    have e1 : w32 ((s : Int) + 1) = ((s + 1 : Nat) : Int) := by rw [w32_i (by omega)]; omega
    refine ⟨up M1 79 s (if s = 0 then 1 else 0), ⟨Fx_t a1 (Fx_p (by decide)), ?_⟩, ?_⟩
    · intro r hr
      by_cases h : r = s
      · subst h; rw [up_s]
      · rw [up_i h]; exact a2 r (by omega)
    · show run (call (e + 2)) 204 2 [vA 57, vI most, vI s, vX 0, vX 0] [] M1 R = _
      rw [b_204_2, s_166 (by omega), bsI, a1 57 (by decide), hP, c_all (by omega), b_204_7, if_neg (by omega), b_204_10 hL]
      by_cases h : s = 0
      · subst h
        rw [if_neg (by omega), b_204_19, b_204_24 hL, if_pos (by omega), e1, Int.toNat_natCast, if_pos rfl]
      · rw [if_pos (by omega), b_204_23, b_204_24 hL, if_pos (by omega), e1, Int.toNat_natCast, if_neg h]) M ⟨Fx_r, fun s hs => absurd hs (by omega)⟩
  -- day by day
  obtain ⟨⟨⟨u1, u2⟩, M2⟩, ⟨b1, b2'⟩, q2⟩ := loop_nat (fun d (a : (AV × AV) × MM) => run (call (e + 2)) 204 33 [vA 57, vI most, vI d, a.1.1, a.1.2] [] a.2 R) (fun i a => Fx [78, 79] M a.2 ∧ ∀ r, r < 2 ^ P → a.2 79 r = w64 (Dl (fac w (es 2 most)) i (bl r) 0)) Y (by
    rintro d ⟨⟨u1, u2⟩, M2⟩ hd' ⟨b1, b2'⟩
    try dsimp only at b1 b2'
    have e1 : w32 ((d : Int) + 1) = ((d + 1 : Nat) : Int) := by rw [w32_i (by omega)]; omega
    obtain ⟨M3, q3, c1, c2⟩ := s_200 (d0 := e + 2) (by omega) (M := M2) hL (P := P) (d := d) (f := w d) (by rw [b1 57 (by decide)]; exact hP) hP7 (by omega) (fun p hp => by rw [b1 74 (by decide)]; exact hw d p hd' hp)
    obtain ⟨M4, v, q4, f1, f2⟩ := t2_204 (e := e + 2) (by omega) (M := M3) hL (most := most) (d := d) (P := P) (C := fun r => Dl (fac w (es 2 most)) d (bl r) 0) (f := fun on => wp (w d) (bl on)) (u := u2) hP7 (fun r hr => by rw [c1 79 (by decide)]; exact b2' r hr) (fun on ho => by rw [c2 on ho]; exact pr_wp ho (by omega)) rfl
    refine ⟨((vI 0, v), M4), ⟨Fx_t b1 (Fx_t (Fx_s c1 (by decide)) (Fx_s f1 (by decide))), ?_⟩, ?_⟩
    · intro r hr
      try dsimp only
      rw [f2 r hr, ← Dl_f (φ := fac w (es 2 most)) (d := d) (s := r) (by omega) 0]
      congr 1
      refine su_c _ (fun on _ => ?_)
      show _ = wp (w d) (bl on) * (if decide ((bl on).length ≤ most) = true ∧ 0 = wo 2 (bl on).length then 1 else 0) * Dl (fac w (es 2 most)) d (bl (r ^^^ on)) 0
      by_cases h : (bl on).length ≤ most
      · rw [if_pos h, if_pos ⟨by simpa using h, rfl⟩, Int.mul_one, Int.mul_comm]
      · rw [if_neg h, if_neg (fun z => h (by simpa using z.1)), Int.mul_zero, Int.zero_mul]
    · show run (call (e + 2)) 204 33 [vA 57, vI most, vI d, u1, u2] [] M2 R = run (call (e + 2)) 204 33 [vA 57, vI most, vI ((d + 1 : Nat) : Int), vI 0, v] [] M4 R
      have g57 : M3 57 = M 57 := by rw [c1 57 (by decide), b1 57 (by decide)]
      rw [b_204_33, b1 57 (by decide), hY, if_neg (by omega), b_204_41, q3, bsX, b_204_46, s_166 (by omega), bsI, g57, hP, c_all (by omega), b_204_50]
      refine Eq.trans q4 ?_
      rw [b_204_122, e1]) ((vX 0, vX 0), M1) ⟨Fx_s a1 (by decide), by
    intro r hr
    try dsimp only
    rw [a2 r hr, Dl_0 (by omega)]
    by_cases h : r = 0
    · subst h; rfl
    · rw [if_neg h, if_neg h]; rfl⟩
  try dsimp only at b1 b2' q2
  refine ⟨M2, ?_, b1⟩
  refine call_of 5 [vA 57, vI most, vX 0, vX 0, vX 0] (by decide) rfl (Nat.le_of_ble_eq_true rfl) rfl ?_ rfl
  rw [b_204_0]
  refine Eq.trans q1 ?_
  rw [b_204_2, s_166 (by omega), bsI, a1 57 (by decide), hP, c_all (by omega), b_204_7, if_pos (by omega), b_204_31]
  refine Eq.trans q2 ?_
  rw [b_204_33, b1 57 (by decide), hY, if_pos (by omega), b_204_128 hL, s_166 (by omega), bsI, b1 57 (by decide), hP, c_all (by omega), b_204_136 hL, if_pos (by omega), Int.toNat_natCast, b2' _ (by omega)]
end
