/-! ===== the start (f) ===== -/
set_option maxRecDepth 100000 in
theorem m161_f0 {M : MM} {o : Nat} (h : ¬ (o = 57 ∨ (58 ≤ o ∧ o ≤ 66))) : m161_0 M o = M o := by
  unfold m161_0
  simp (disch := omega) only [up_o, upf_n]
set_option maxRecDepth 100000 in
theorem m161_f1 {M : MM} {o : Nat} (h : ¬ (o = 57 ∨ (67 ≤ o ∧ o ≤ 69))) : m161_1 M o = M o := by
  unfold m161_1
  simp (disch := omega) only [up_o, upf_n]
set_option maxRecDepth 100000 in
theorem m161_f2 {M : MM} {o : Nat} (h : ¬ (o = 57 ∨ (70 ≤ o ∧ o ≤ 70))) : m161_2 M o = M o := by
  unfold m161_2
  simp (disch := omega) only [up_o, upf_n]
set_option maxRecDepth 100000 in
theorem m161_f3 {M : MM} {o : Nat} (h : ¬ (o = 57 ∨ (71 ≤ o ∧ o ≤ 82))) : m161_3 M o = M o := by
  unfold m161_3
  simp (disch := omega) only [up_o, upf_n]
