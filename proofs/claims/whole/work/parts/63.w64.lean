/-! ===== numbers modulo 2^64 ===== -/
theorem w64_b (x : Int) : w64 x = Int.bmod x (2 ^ 64) := Int64.toInt_ofInt
theorem w64_al (a b : Int) : w64 (w64 a + b) = w64 (a + b) := by rw [w64_b, w64_b, w64_b, Int.bmod_add_bmod]
theorem w64_ar (a b : Int) : w64 (a + w64 b) = w64 (a + b) := by rw [w64_b, w64_b, w64_b, Int.add_bmod_bmod]
theorem w64_ml (a b : Int) : w64 (w64 a * b) = w64 (a * b) := by rw [w64_b, w64_b, w64_b, Int.bmod_mul_bmod]
theorem w64_mr (a b : Int) : w64 (a * w64 b) = w64 (a * b) := by rw [w64_b, w64_b, w64_b, Int.mul_bmod_bmod]
theorem w64_sl (a b : Int) : w64 (w64 a - b) = w64 (a - b) := by rw [w64_b, w64_b, w64_b, Int.bmod_sub_bmod]
theorem w64_sr (a b : Int) : w64 (a - w64 b) = w64 (a - b) := by rw [w64_b, w64_b, w64_b, Int.sub_bmod_bmod]
