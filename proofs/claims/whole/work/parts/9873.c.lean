/-! ===== the start (c) ===== -/
set_option maxRecDepth 100000 in
theorem m161_0_57 {M : MM} : m161_0 M 57 = (upf (M 57) 0 12) := by
  unfold m161_0
  simp (disch := decide) only [up_f, up_o, upf_n, upf_s]
set_option maxRecDepth 100000 in
theorem m161_0_58 {M : MM} : m161_0 M 58 = (fun _ => 0) := by
  unfold m161_0
  simp (disch := decide) only [up_f, up_o, upf_n, upf_s]
set_option maxRecDepth 100000 in
theorem m161_0_59 {M : MM} : m161_0 M 59 = (fun _ => 0) := by
  unfold m161_0
  simp (disch := decide) only [up_f, up_o, upf_n, upf_s]
set_option maxRecDepth 100000 in
theorem m161_0_60 {M : MM} : m161_0 M 60 = (fun _ => 0) := by
  unfold m161_0
  simp (disch := decide) only [up_f, up_o, upf_n, upf_s]
set_option maxRecDepth 100000 in
theorem m161_0_61 {M : MM} : m161_0 M 61 = (fun _ => 0) := by
  unfold m161_0
  simp (disch := decide) only [up_f, up_o, upf_n, upf_s]
set_option maxRecDepth 100000 in
theorem m161_0_62 {M : MM} : m161_0 M 62 = (fun _ => 0) := by
  unfold m161_0
  simp (disch := decide) only [up_f, up_o, upf_n, upf_s]
set_option maxRecDepth 100000 in
theorem m161_0_63 {M : MM} : m161_0 M 63 = (fun _ => 0) := by
  unfold m161_0
  simp (disch := decide) only [up_f, up_o, upf_n, upf_s]
set_option maxRecDepth 100000 in
theorem m161_0_64 {M : MM} : m161_0 M 64 = (fun _ => 0) := by
  unfold m161_0
  simp (disch := decide) only [up_f, up_o, upf_n, upf_s]
set_option maxRecDepth 100000 in
theorem m161_0_65 {M : MM} : m161_0 M 65 = (fun _ => 0) := by
  unfold m161_0
  simp (disch := decide) only [up_f, up_o, upf_n, upf_s]
noncomputable def F66 : Nat → Int := (upf (upf (upf (upf (fun _ => 0) 0 (-1)) 1 (-1)) 2 (-1)) 3 (-1))
set_option maxRecDepth 100000 in
theorem m161_0_66 {M : MM} : m161_0 M 66 = F66 := by
  unfold m161_0 F66
  simp (disch := decide) only [up_f, up_o, upf_n, upf_s]
set_option maxRecDepth 100000 in
theorem m161_1_57 {M : MM} : m161_1 M 57 = (M 57) := by
  unfold m161_1
  simp (disch := decide) only [up_f, up_o, upf_n, upf_s]
set_option maxRecDepth 100000 in
theorem m161_1_67 {M : MM} : m161_1 M 67 = (fun _ => 0) := by
  unfold m161_1
  simp (disch := decide) only [up_f, up_o, upf_n, upf_s]
set_option maxRecDepth 100000 in
theorem m161_1_68 {M : MM} : m161_1 M 68 = (fun _ => 0) := by
  unfold m161_1
  simp (disch := decide) only [up_f, up_o, upf_n, upf_s]
noncomputable def F69 : Nat → Int := (upf (upf (upf (upf (upf (upf (upf (upf (upf (upf (upf (upf (upf (upf (upf (upf (upf (upf (upf (upf (upf (upf (upf (upf (upf (upf (upf (upf (fun _ => 0) 0 119) 1 101) 2 105) 3 103) 4 104) 5 115) 6 32) 7 49) 8 32) 9 59) 10 32) 11 112) 12 97) 13 121) 14 115) 15 32) 16 50) 17 32) 18 59) 19 32) 20 97) 21 115) 22 107) 23 115) 24 32) 25 49) 26 32) 27 59)
set_option maxRecDepth 100000 in
theorem m161_1_69 {M : MM} : m161_1 M 69 = F69 := by
  unfold m161_1 F69
  simp (disch := decide) only [up_f, up_o, upf_n, upf_s]
set_option maxRecDepth 100000 in
theorem m161_2_57 {M : MM} : m161_2 M 57 = (M 57) := by
  unfold m161_2
  simp (disch := decide) only [up_f, up_o, upf_n, upf_s]
noncomputable def F70 : Nat → Int := (upf (upf (upf (upf (upf (upf (upf (upf (upf (upf (upf (upf (upf (upf (upf (upf (upf (upf (upf (upf (upf (upf (upf (upf (upf (upf (upf (upf (upf (upf (upf (upf (upf (upf (upf (upf (upf (upf (upf (upf (upf (upf (upf (upf (upf (upf (upf (upf (upf (upf (upf (upf (upf (upf (upf (upf (upf (upf (upf (upf (upf (upf (upf (upf (upf (upf (upf (upf (upf (upf (upf (upf (upf (upf (upf (upf (upf (upf (upf (upf (upf (upf (upf (upf (upf (upf (upf (upf (upf (upf (upf (upf (upf (upf (upf (upf (fun _ => 0) 0 119) 1 101) 2 105) 3 103) 4 104) 5 115) 6 32) 7 32) 8 112) 9 97) 10 121) 11 115) 12 32) 13 32) 14 32) 15 32) 16 97) 17 115) 18 107) 19 115) 20 32) 21 32) 22 32) 23 32) 24 100) 25 97) 26 121) 27 32) 28 32) 29 32) 30 32) 31 32) 32 98) 33 111) 34 114) 35 110) 36 32) 37 32) 38 32) 39 32) 40 121) 41 101) 42 97) 43 114) 44 32) 45 32) 46 32) 47 32) 48 109) 49 111) 50 114) 51 101) 52 32) 53 32) 54 32) 55 32) 56 116) 57 111) 58 108) 59 100) 60 32) 61 32) 62 32) 63 32) 64 119) 65 104) 66 111) 67 32) 68 32) 69 32) 70 32) 71 32) 72 111) 73 114) 74 32) 75 32) 76 32) 77 32) 78 32) 79 32) 80 97) 81 110) 82 100) 83 32) 84 32) 85 32) 86 32) 87 32) 88 110) 89 111) 90 116) 91 32) 92 32) 93 32) 94 32) 95 32)
set_option maxRecDepth 100000 in
theorem m161_2_70 {M : MM} : m161_2 M 70 = F70 := by
  unfold m161_2 F70
  simp (disch := decide) only [up_f, up_o, upf_n, upf_s]
set_option maxRecDepth 100000 in
theorem m161_3_57 {M : MM} : m161_3 M 57 = (M 57) := by
  unfold m161_3
  simp (disch := decide) only [up_f, up_o, upf_n, upf_s]
set_option maxRecDepth 100000 in
theorem m161_3_71 {M : MM} : m161_3 M 71 = (fun _ => 0) := by
  unfold m161_3
  simp (disch := decide) only [up_f, up_o, upf_n, upf_s]
set_option maxRecDepth 100000 in
theorem m161_3_72 {M : MM} : m161_3 M 72 = (fun _ => 0) := by
  unfold m161_3
  simp (disch := decide) only [up_f, up_o, upf_n, upf_s]
set_option maxRecDepth 100000 in
theorem m161_3_73 {M : MM} : m161_3 M 73 = (fun _ => 0) := by
  unfold m161_3
  simp (disch := decide) only [up_f, up_o, upf_n, upf_s]
set_option maxRecDepth 100000 in
theorem m161_3_74 {M : MM} : m161_3 M 74 = (fun _ => 0) := by
  unfold m161_3
  simp (disch := decide) only [up_f, up_o, upf_n, upf_s]
set_option maxRecDepth 100000 in
theorem m161_3_75 {M : MM} : m161_3 M 75 = (fun _ => 0) := by
  unfold m161_3
  simp (disch := decide) only [up_f, up_o, upf_n, upf_s]
set_option maxRecDepth 100000 in
theorem m161_3_76 {M : MM} : m161_3 M 76 = (fun _ => 0) := by
  unfold m161_3
  simp (disch := decide) only [up_f, up_o, upf_n, upf_s]
set_option maxRecDepth 100000 in
theorem m161_3_77 {M : MM} : m161_3 M 77 = (fun _ => 0) := by
  unfold m161_3
  simp (disch := decide) only [up_f, up_o, upf_n, upf_s]
set_option maxRecDepth 100000 in
theorem m161_3_78 {M : MM} : m161_3 M 78 = (fun _ => 0) := by
  unfold m161_3
  simp (disch := decide) only [up_f, up_o, upf_n, upf_s]
set_option maxRecDepth 100000 in
theorem m161_3_79 {M : MM} : m161_3 M 79 = (fun _ => 0) := by
  unfold m161_3
  simp (disch := decide) only [up_f, up_o, upf_n, upf_s]
set_option maxRecDepth 100000 in
theorem m161_3_80 {M : MM} : m161_3 M 80 = (fun _ => 0) := by
  unfold m161_3
  simp (disch := decide) only [up_f, up_o, upf_n, upf_s]
set_option maxRecDepth 100000 in
theorem m161_3_81 {M : MM} : m161_3 M 81 = (fun _ => 0) := by
  unfold m161_3
  simp (disch := decide) only [up_f, up_o, upf_n, upf_s]
set_option maxRecDepth 100000 in
theorem m161_3_82 {M : MM} : m161_3 M 82 = (fun _ => 0) := by
  unfold m161_3
  simp (disch := decide) only [up_f, up_o, upf_n, upf_s]
