/-! ===== SUPPORT: truth values, memory, numbers in range, bits ===== -/
theorem w32_i {x : Int} (h : -2147483648 ≤ x ∧ x < 2147483648) : w32 x = x := w32_id h
theorem w64_i {x : Int} (h : -9223372036854775808 ≤ x ∧ x < 9223372036854775808) : w64 x = x := w64_id h
/-- a truth value -/
def b2 (p : Prop) [Decidable p] : Int := if p then 1 else 0
theorem b2_t {p : Prop} [Decidable p] (h : p) : b2 p = 1 := if_pos h
theorem b2_f {p : Prop} [Decidable p] (h : ¬ p) : b2 p = 0 := if_neg h
theorem b2_z {p : Prop} [Decidable p] : (b2 p = 0) = ¬ p := by
  by_cases h : p <;> simp [b2, h]
theorem b2_o {p : Prop} [Decidable p] : (b2 p = 1) = p := by
  by_cases h : p <;> simp [b2, h]
theorem b2_c {p q : Prop} [Decidable p] [Decidable q] (h : p ↔ q) : b2 p = b2 q := by
  by_cases g : p
  · rw [b2_t g, b2_t (h.1 g)]
  · rw [b2_f g, b2_f (fun e => g (h.2 e))]
theorem b2_ok {p : Prop} [Decidable p] : (b2 p == 0 || b2 p == 1) = true := by
  by_cases h : p <;> simp [b2, h]
theorem pushv_I (a : Int) (r : List AV) : pushv (vI a) r = vI a :: r := rfl
theorem pushv_J (a : Int) (r : List AV) : pushv (vJ a) r = vJ a :: r := rfl
theorem pushv_A (a : Nat) (r : List AV) : pushv (vA a) r = vA a :: r := rfl
theorem pushv_X (a : Nat) (r : List AV) : pushv (vX a) r = r := rfl
theorem up_s {α : Type} {M : Nat → Nat → α} {o i : Nat} {v : α} : up M o i v o i = v := by simp [up, upf]
theorem up_o {α : Type} {M : Nat → Nat → α} {o i o' : Nat} {v : α} (h : ¬ o' = o) : up M o i v o' = M o' := by simp [up, upf, h]
theorem up_i {α : Type} {M : Nat → Nat → α} {o i i' : Nat} {v : α} (h : ¬ i' = i) : up M o i v o i' = M o i' := by simp [up, upf, h]
theorem up_f {α : Type} {M : Nat → Nat → α} {o i : Nat} {v : α} : up M o i v o = upf (M o) i v := by simp [up, upf]
theorem upf_s {α : Type} {f : Nat → α} {i : Nat} {v : α} : upf f i v i = v := by simp [upf]
theorem upf_n {α : Type} {f : Nat → α} {i j : Nat} {v : α} (h : ¬ j = i) : upf f i v j = f j := by simp [upf, h]
theorem s_le {a b : Nat} (h : a ≤ b) : ∃ e, b = e + a := Nat.exists_eq_add_of_le' h
-- bits of naturals below 2^31
theorem c_nat (x : BitVec 32) (h : x.toNat < 2147483648) : x.toInt = (x.toNat : Int) := by
  rw [BitVec.toInt_eq_toNat_of_lt (by omega)]
theorem c_ofn {a : Nat} (ha : a < 2147483648) : (BitVec.ofInt 32 (a : Int)).toNat = a := by
  rw [BitVec.ofInt_natCast, BitVec.toNat_ofNat]; omega
theorem c_and_n {a b : Nat} (ha : a < 2147483648) (hb : b < 2147483648) : c_and (a : Int) (b : Int) = ((a &&& b : Nat) : Int) := by
  have e : c_and (a : Int) (b : Int) = (BitVec.ofInt 32 (a : Int) &&& BitVec.ofInt 32 (b : Int)).toInt := rfl
  have h := Nat.and_le_left (n := a) (m := b)
  rw [e, c_nat _ (by rw [BitVec.toNat_and, c_ofn ha, c_ofn hb]; omega), BitVec.toNat_and, c_ofn ha, c_ofn hb]
theorem c_or_n {a b : Nat} (ha : a < 2147483648) (hb : b < 2147483648) : c_or (a : Int) (b : Int) = ((a ||| b : Nat) : Int) := by
  have e : c_or (a : Int) (b : Int) = (BitVec.ofInt 32 (a : Int) ||| BitVec.ofInt 32 (b : Int)).toInt := rfl
  have h : a ||| b < 2 ^ 31 := Nat.or_lt_two_pow ha hb
  rw [e, c_nat _ (by rw [BitVec.toNat_or, c_ofn ha, c_ofn hb]; omega), BitVec.toNat_or, c_ofn ha, c_ofn hb]
theorem c_xor_n {a b : Nat} (ha : a < 2147483648) (hb : b < 2147483648) : c_xor (a : Int) (b : Int) = ((a ^^^ b : Nat) : Int) := by
  have e : c_xor (a : Int) (b : Int) = (BitVec.ofInt 32 (a : Int) ^^^ BitVec.ofInt 32 (b : Int)).toInt := rfl
  have h : a ^^^ b < 2 ^ 31 := Nat.xor_lt_two_pow ha hb
  rw [e, c_nat _ (by rw [BitVec.toNat_xor, c_ofn ha, c_ofn hb]; omega), BitVec.toNat_xor, c_ofn ha, c_ofn hb]
theorem c_amt : ∀ p : Fin 31, ((Int32.ofInt ((p : Nat) : Int) &&& 31).toBitVec.smod 32).toNat = (p : Nat) := by decide +kernel
theorem c_shl_n {a p : Nat} (hp : p < 31) (h : a * 2 ^ p < 2147483648) : c_shl (a : Int) (p : Int) = ((a * 2 ^ p : Nat) : Int) := by
  have e : c_shl (a : Int) (p : Int) = (BitVec.ofInt 32 (a : Int) <<< ((Int32.ofInt (p : Int) &&& 31).toBitVec.smod 32)).toInt := rfl
  have ha : a < 2147483648 := Nat.lt_of_le_of_lt (Nat.le_mul_of_pos_right a (Nat.two_pow_pos p)) h
  have q : (BitVec.ofInt 32 (a : Int) <<< ((Int32.ofInt (p : Int) &&& 31).toBitVec.smod 32)).toNat = a * 2 ^ p := by
    rw [BitVec.shiftLeft_eq', BitVec.toNat_shiftLeft, c_ofn ha, c_amt ⟨p, hp⟩, Nat.shiftLeft_eq]
    show a * 2 ^ p % 2 ^ 32 = a * 2 ^ p
    exact Nat.mod_eq_of_lt (by omega)
  rw [e, c_nat _ (by rw [q]; exact h), q]
theorem c_shr_n {a p : Nat} (hp : p < 31) (ha : a < 2147483648) : c_shr (a : Int) (p : Int) = ((a / 2 ^ p : Nat) : Int) := by
  have e : c_shr (a : Int) (p : Int) = (BitVec.sshiftRight' (BitVec.ofInt 32 (a : Int)) ((Int32.ofInt (p : Int) &&& 31).toBitVec.smod 32)).toInt := rfl
  have q : (BitVec.ofInt 32 (a : Int)).toInt = (a : Int) := by rw [c_nat _ (by rw [c_ofn ha]; exact ha), c_ofn ha]
  rw [e, BitVec.sshiftRight_eq', BitVec.toInt_sshiftRight, q, c_amt ⟨p, hp⟩, Int.shiftRight_eq_div_pow]
  simp
theorem c_bit {s p : Nat} (hp : p < 31) (hs : s < 2147483648) : c_and (c_shr (s : Int) (p : Int)) 1 = b2 (s.testBit p = true) := by
  have h : s / 2 ^ p < 2147483648 := Nat.lt_of_le_of_lt (Nat.div_le_self _ _) hs
  rw [c_shr_n hp hs, show (1 : Int) = ((1 : Nat) : Int) from rfl, c_and_n h (by omega), Nat.and_one_is_mod]
  rw [Nat.testBit_eq_decide_div_mod_eq]
  rcases Nat.mod_two_eq_zero_or_one (s / 2 ^ p) with e | e <;> simp [e, b2]
theorem c_one {p : Nat} (hp : p < 31) : c_shl 1 (p : Int) = ((2 ^ p : Nat) : Int) := by
  have h : 2 ^ p ≤ 2 ^ 30 := Nat.pow_le_pow_right (by omega) (by omega)
  have := c_shl_n (a := 1) hp (by omega)
  simpa using this
/-- all of n -/
theorem c_all {n : Nat} (hn : n < 31) : w32 (c_shl 1 (n : Int) - 1) = ((2 ^ n - 1 : Nat) : Int) := by
  have h : 2 ^ n ≤ 2 ^ 30 := Nat.pow_le_pow_right (by omega) (by omega)
  have h1 : 0 < 2 ^ n := Nat.two_pow_pos n
  rw [c_one hn, w32_i (by omega)]
  omega
