section
/-! ===== bits counted, of numbers below 2^24 ===== -/
theorem and_dg {u p : Nat} (v q : Nat) (hu : u < 256) (hp : p < 256) : (u + 256 * v) &&& (p + 256 * q) = (u &&& p) + 256 * (v &&& q) := by
  have h1 : ((u + 256 * v) &&& (p + 256 * q)) % 2 ^ 8 = u &&& p := by
    rw [Nat.and_mod_two_pow]
    have e1 : (u + 256 * v) % 2 ^ 8 = u := by omega
    have e2 : (p + 256 * q) % 2 ^ 8 = p := by omega
    rw [e1, e2]
  have h2 : ((u + 256 * v) &&& (p + 256 * q)) / 2 ^ 8 = v &&& q := by
    rw [Nat.and_div_two_pow]
    have e1 : (u + 256 * v) / 2 ^ 8 = v := by omega
    have e2 : (p + 256 * q) / 2 ^ 8 = q := by omega
    rw [e1, e2]
  have h3 := Nat.mod_add_div ((u + 256 * v) &&& (p + 256 * q)) (2 ^ 8)
  rw [h1, h2] at h3
  omega
def ct (x : Nat) : Nat → Nat
  | 0 => 0
  | n + 1 => ct x n + (if x.testBit n = true then 1 else 0)
theorem ct_f (x : Nat) : ∀ n, ((List.range n).filter (fun k => x.testBit k)).length = ct x n
  | 0 => rfl
  | n + 1 => by
    rw [List.range_succ, List.filter_append, List.length_append, ct_f x n]
    show _ = ct x n + (if x.testBit n = true then 1 else 0)
    by_cases h : x.testBit n = true
    · rw [if_pos h, List.filter_cons_of_pos (by simpa using h)]; rfl
    · rw [if_neg h, List.filter_cons_of_neg (by simpa using h)]; rfl
theorem ct_8 (x : Nat) : ∀ n, ct x (8 + n) = ct (x % 256) 8 + ct (x / 256) n
  | 0 => by
    show ct x 8 = ct (x % 256) 8 + 0
    have h : ∀ i, i < 8 → x.testBit i = (x % 256).testBit i := by
      intro i hi
      rw [show (256 : Nat) = 2 ^ 8 from rfl, Nat.testBit_mod_two_pow]
      simp [hi]
    have k : ∀ n, n ≤ 8 → ct x n = ct (x % 256) n := by
      intro n
      induction n with
      | zero => intro _; rfl
      | succ n ih =>
        intro hn
        show ct x n + (if x.testBit n = true then 1 else 0) = ct (x % 256) n + (if (x % 256).testBit n = true then 1 else 0)
        rw [ih (by omega), h n (by omega)]
    rw [k 8 (Nat.le_refl 8)]
    rfl
  | n + 1 => by
    show ct x (8 + n) + (if x.testBit (8 + n) = true then 1 else 0) = ct (x % 256) 8 + (ct (x / 256) n + (if (x / 256).testBit n = true then 1 else 0))
    rw [ct_8 x n, show (x / 256).testBit n = x.testBit (8 + n) from by rw [show (256 : Nat) = 2 ^ 8 from rfl, Nat.testBit_div_two_pow, Nat.add_comm]]
    omega
def b1 (x : Nat) : Nat := x - (x / 2 &&& 1431655765)
def b2' (x : Nat) : Nat := (x &&& 858993459) + (x / 4 &&& 858993459)
def b3 (x : Nat) : Nat := (x + x / 16) &&& 252645135
theorem b1_8 : ∀ a : Fin 256, ∀ k : Fin 2, ((a : Nat) / 2 + 128 * (k : Nat)) &&& 85 = (a : Nat) / 2 &&& 85 := by decide +kernel
theorem b1_l : ∀ a : Fin 256, b1 a = (a : Nat) - ((a : Nat) / 2 &&& 85) ∧ (a : Nat) / 2 &&& 85 ≤ (a : Nat) ∧ b1 a < 256 := by decide +kernel
theorem b1_s {a : Nat} (r : Nat) (ha : a < 256) (hr : r < 65536) (m : Nat) (hm : (r / 2 &&& m) ≤ r) (hM : (r / 2 &&& 5592405) = (r / 2 &&& m)) : b1 (a + 256 * r) = b1 a + 256 * (r - (r / 2 &&& m)) := by
  have e : (a + 256 * r) / 2 = (a / 2 + 128 * (r % 2)) + 256 * (r / 2) := by omega
  have k := b1_8 ⟨a, ha⟩ ⟨r % 2, by omega⟩
  have l := b1_l ⟨a, ha⟩
  dsimp only at k l
  unfold b1 at l ⊢
  rw [e, show 1431655765 = 85 + 256 * 5592405 from rfl, and_dg _ _ (by omega) (by omega), k, hM]
  rw [show 1431655765 = 85 + 256 * 5592405 from rfl] at l
  omega
theorem b2_8 : ∀ a : Fin 256, ∀ k : Fin 4, ((a : Nat) / 4 + 64 * (k : Nat)) &&& 51 = (a : Nat) / 4 &&& 51 := by decide +kernel
def q1 (a : Nat) : Nat := a - (a / 2 &&& 85)
def q2 (a : Nat) : Nat := (a &&& 51) + (a / 4 &&& 51)
def q3 (a : Nat) : Nat := (a + a / 16) &&& 15
theorem q_ok : ∀ a : Fin 256, q1 a < 256 ∧ q2 (q1 a) < 256 ∧ q2 (q1 a) % 16 ≤ 4 ∧ q2 (q1 a) / 16 ≤ 4 ∧ q3 (q2 (q1 a)) = ct a 8 ∧ ct a 8 ≤ 8 ∧ (a : Nat) / 2 &&& 85 ≤ (a : Nat) := by decide +kernel
theorem b3_8 : ∀ a : Fin 69, ∀ k : Fin 5, ((a : Nat) + (a : Nat) / 16 + 16 * (k : Nat)) &&& 15 = q3 a := by decide +kernel
theorem m1_8 : ∀ a : Fin 256, ((a : Nat) / 2 &&& 21845) = ((a : Nat) / 2 &&& 85) ∧ ((a : Nat) / 2 &&& 5592405) = ((a : Nat) / 2 &&& 85) := by decide +kernel
theorem m2_8 : ∀ a : Fin 256, ((a : Nat) &&& 13107) + ((a : Nat) / 4 &&& 13107) = q2 a ∧ ((a : Nat) &&& 3355443) + ((a : Nat) / 4 &&& 3355443) = q2 a := by decide +kernel
theorem m3_8 : ∀ a : Fin 69, (((a : Nat) + (a : Nat) / 16) &&& 3855) = q3 a := by decide +kernel
theorem st1 {a b c : Nat} (ha : a < 256) (hb : b < 256) (hc : c < 256) : b1 (a + 256 * (b + 256 * c)) = q1 a + 256 * (q1 b + 256 * q1 c) := by
  have ka := b1_8 ⟨a, ha⟩ ⟨(b + 256 * c) % 2, by omega⟩
  have kb := b1_8 ⟨b, hb⟩ ⟨c % 2, by omega⟩
  have kc := m1_8 ⟨c, hc⟩
  have la := q_ok ⟨a, ha⟩
  have lb := q_ok ⟨b, hb⟩
  have lc := q_ok ⟨c, hc⟩
  dsimp only at ka kb kc la lb lc
  unfold b1
  rw [show (a + 256 * (b + 256 * c)) / 2 = (a / 2 + 128 * ((b + 256 * c) % 2)) + 256 * ((b + 256 * c) / 2) by omega, show 1431655765 = 85 + 256 * (85 + 256 * 21845) from rfl, and_dg _ _ (by omega) (by omega), ka, show (b + 256 * c) / 2 = (b / 2 + 128 * (c % 2)) + 256 * (c / 2) by omega, and_dg _ _ (by omega) (by omega), kb, kc.1]
  unfold q1
  omega
theorem st2 {a b c : Nat} (ha : a < 256) (hb : b < 256) (hc : c < 256) : b2' (a + 256 * (b + 256 * c)) = q2 a + 256 * (q2 b + 256 * q2 c) := by
  have ka := b2_8 ⟨a, ha⟩ ⟨(b + 256 * c) % 4, by omega⟩
  have kb := b2_8 ⟨b, hb⟩ ⟨c % 4, by omega⟩
  have kc := m2_8 ⟨c, hc⟩
  dsimp only at ka kb kc
  unfold b2'
  rw [show (a + 256 * (b + 256 * c)) / 4 = (a / 4 + 64 * ((b + 256 * c) % 4)) + 256 * ((b + 256 * c) / 4) by omega, show 858993459 = 51 + 256 * (51 + 256 * 13107) from rfl, and_dg _ _ ha (by omega), and_dg _ _ hb (by omega), and_dg _ _ (show a / 4 + 64 * ((b + 256 * c) % 4) < 256 by omega) (by omega), ka, show (b + 256 * c) / 4 = (b / 4 + 64 * (c % 4)) + 256 * (c / 4) by omega, and_dg _ _ (show b / 4 + 64 * (c % 4) < 256 by omega) (by omega), kb, ← kc.1]
  unfold q2
  omega
theorem st3 {a b c : Nat} (ha : a % 16 ≤ 4 ∧ a / 16 ≤ 4) (hb : b % 16 ≤ 4 ∧ b / 16 ≤ 4) (hc : c % 16 ≤ 4 ∧ c / 16 ≤ 4) : b3 (a + 256 * (b + 256 * c)) = q3 a + 256 * (q3 b + 256 * q3 c) := by
  have ka := b3_8 ⟨a, by omega⟩ ⟨(b + 256 * c) % 16, by omega⟩
  have kb := b3_8 ⟨b, by omega⟩ ⟨c % 16, by omega⟩
  have kc := m3_8 ⟨c, by omega⟩
  dsimp only at ka kb kc
  unfold b3
  rw [show a + 256 * (b + 256 * c) + (a + 256 * (b + 256 * c)) / 16 = (a + a / 16 + 16 * ((b + 256 * c) % 16)) + 256 * ((b + 256 * c) + (b + 256 * c) / 16) by omega, show 252645135 = 15 + 256 * (15 + 256 * 3855) from rfl, and_dg _ _ (by omega) (by omega), ka, show (b + 256 * c) + (b + 256 * c) / 16 = (b + b / 16 + 16 * (c % 16)) + 256 * (c + c / 16) by omega, and_dg _ _ (by omega) (by omega), kb, kc]
theorem c_ush {a p : Nat} (hp : p < 31) (ha : a < 2147483648) : c_ushr (a : Int) (p : Int) = ((a / 2 ^ p : Nat) : Int) := by
  have e : c_ushr (a : Int) (p : Int) = ((BitVec.ofInt 32 (a : Int)) >>> ((Int32.ofInt (p : Int)).toUInt32 &&& 31).toBitVec.umod 32).toInt := rfl
  have hm : ∀ p : Fin 31, (((Int32.ofInt ((p : Nat) : Int)).toUInt32 &&& 31).toBitVec.umod 32).toNat = (p : Nat) := by decide +kernel
  have q : ((BitVec.ofInt 32 (a : Int)) >>> ((Int32.ofInt (p : Int)).toUInt32 &&& 31).toBitVec.umod 32).toNat = a / 2 ^ p := by
    rw [BitVec.ushiftRight_eq', BitVec.toNat_ushiftRight, c_ofn ha, hm ⟨p, hp⟩, Nat.shiftRight_eq_div_pow]
  rw [e, c_nat _ (by rw [q]; exact Nat.lt_of_le_of_lt (Nat.div_le_self _ _) ha), q]
theorem bc_24 {x : Nat} (hx : x < 16777216) : bcF (x : Int) = ((bl x).length : Int) := by
  have hA : x % 256 < 256 := Nat.mod_lt _ (by omega)
  have hB : x / 256 % 256 < 256 := Nat.mod_lt _ (by omega)
  have hC : x / 65536 < 256 := by omega
  have hx' : x = x % 256 + 256 * (x / 256 % 256 + 256 * (x / 65536)) := by omega
  have la := q_ok ⟨x % 256, hA⟩
  have lb := q_ok ⟨x / 256 % 256, hB⟩
  have lc := q_ok ⟨x / 65536, hC⟩
  dsimp only at la lb lc
  have s1 := st1 hA hB hC
  have s2 := st2 la.1 lb.1 lc.1
  have s3 := st3 (a := q2 (q1 (x % 256))) (b := q2 (q1 (x / 256 % 256))) (c := q2 (q1 (x / 65536))) ⟨la.2.2.1, la.2.2.2.1⟩ ⟨lb.2.2.1, lb.2.2.2.1⟩ ⟨lc.2.2.1, lc.2.2.2.1⟩
  rw [la.2.2.2.2.1, lb.2.2.2.2.1, lc.2.2.2.2.1] at s3
  rw [← hx'] at s1
  rw [← s1] at s2
  rw [← s2] at s3
  have hl : (bl x).length = ct (x % 256) 8 + (ct (x / 256 % 256) 8 + ct (x / 65536) 8) := by
    rw [show (bl x).length = ct x 24 from ct_f x 24, show (24 : Nat) = 8 + 16 from rfl, ct_8, show (16 : Nat) = 8 + 8 from rfl, ct_8, show x / 256 / 256 = x / 65536 by omega]
  have hle : x / 2 &&& 1431655765 ≤ x := Nat.le_trans Nat.and_le_left (Nat.div_le_self _ _)
  have eA : w32 ((x : Int) - c_and (c_ushr (x : Int) 1) 1431655765) = ((b1 x : Nat) : Int) := by
    rw [show c_ushr (x : Int) 1 = ((x / 2 : Nat) : Int) from c_ush (p := 1) (by omega) (by omega), show c_and ((x / 2 : Nat) : Int) 1431655765 = ((x / 2 &&& 1431655765 : Nat) : Int) from c_and_n (b := 1431655765) (by omega) (by omega), w32_i (by omega)]
    unfold b1
    omega
  have k1 : b1 x < 16777216 := by omega
  generalize b1 x = y at *
  have n1 : y &&& 858993459 ≤ y := Nat.and_le_left
  have n2 : y / 4 &&& 858993459 ≤ y := Nat.le_trans Nat.and_le_left (Nat.div_le_self _ _)
  have eB : w32 (c_and (y : Int) 858993459 + c_and (c_ushr (y : Int) 2) 858993459) = ((b2' y : Nat) : Int) := by
    rw [show c_ushr (y : Int) 2 = ((y / 4 : Nat) : Int) from c_ush (p := 2) (by omega) (by omega), show c_and ((y / 4 : Nat) : Int) 858993459 = ((y / 4 &&& 858993459 : Nat) : Int) from c_and_n (b := 858993459) (by omega) (by omega), show c_and (y : Int) 858993459 = ((y &&& 858993459 : Nat) : Int) from c_and_n (b := 858993459) (by omega) (by omega), w32_i (by omega)]
    unfold b2'
    omega
  have k2 : b2' y < 16777216 := by omega
  generalize b2' y = z at *
  have eC : c_and (w32 ((z : Int) + c_ushr (z : Int) 4)) 252645135 = ((b3 z : Nat) : Int) := by
    rw [show c_ushr (z : Int) 4 = ((z / 16 : Nat) : Int) from c_ush (p := 4) (by omega) (by omega), w32_i (by omega), show (z : Int) + ((z / 16 : Nat) : Int) = ((z + z / 16 : Nat) : Int) by omega]
    exact c_and_n (b := 252645135) (by omega) (by omega)
  have k3 : b3 z < 16777216 := by omega
  generalize b3 z = v at *
  have eD : w32 ((v : Int) + c_ushr (v : Int) 8) = ((v + v / 256 : Nat) : Int) := by
    rw [show c_ushr (v : Int) 8 = ((v / 256 : Nat) : Int) from c_ush (p := 8) (by omega) (by omega), w32_i (by omega)]
    omega
  have eE : w32 (((v + v / 256 : Nat) : Int) + c_ushr ((v + v / 256 : Nat) : Int) 16) = ((v + v / 256 + (v + v / 256) / 65536 : Nat) : Int) := by
    rw [show c_ushr ((v + v / 256 : Nat) : Int) 16 = (((v + v / 256) / 65536 : Nat) : Int) from c_ush (p := 16) (by omega) (by omega), w32_i (by omega)]
    omega
  unfold bcF
  rw [eA, eB, eC, eD, eE, show c_and ((v + v / 256 + (v + v / 256) / 65536 : Nat) : Int) 63 = ((v + v / 256 + (v + v / 256) / 65536 &&& 63 : Nat) : Int) from c_and_n (b := 63) (by omega) (by omega), show (63 : Nat) = 2 ^ 6 - 1 from rfl, Nat.and_two_pow_sub_one_eq_mod, hl]
  have kA : ct (x % 256) 8 ≤ 8 := la.2.2.2.2.2.1
  have kB : ct (x / 256 % 256) 8 ≤ 8 := lb.2.2.2.2.2.1
  have kC : ct (x / 65536) 8 ≤ 8 := lc.2.2.2.2.2.1
  have fin : ∀ A B C : Nat, A ≤ 8 → B ≤ 8 → C ≤ 8 → v = A + 256 * (B + 256 * C) → (v + v / 256 + (v + v / 256) / 65536) % 2 ^ 6 = A + (B + C) := by
    intro A B C h1 h2 h3 h4
    have e1 : v / 256 = B + 256 * C := by omega
    have e2 : (v + v / 256) / 65536 = C := by omega
    rw [e2, e1]
    omega
  rw [fin _ _ _ kA kB kC s3]
theorem p_258 {d0 : Nat} (hd : 1 ≤ d0) {M : MM} {R : RR} {s : Nat} (hs : s < 16777216) : call d0 258 [vI s] M R = some (vI ((bl s).length : Nat), M, R) := by
  obtain ⟨e, rfl⟩ := s_le hd
  refine call_of 1 [vI s] (by decide) rfl (Nat.le_of_ble_eq_true rfl) rfl ?_ rfl
  rw [b_258_0]
  exact congrArg (fun v => some (vI v, M, R)) (bc_24 hs)
end
