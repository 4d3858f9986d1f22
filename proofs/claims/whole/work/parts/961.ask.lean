section
/-! ===== each question, on both sides ===== -/
theorem st_108 {d n : Nat} (hd : 7 ≤ d) {M : MM} {R : RR} (hI : INV n M R) (x y : Int) : ST vJ d n 108 205 [vI x, vI y] M R := by
  obtain ⟨P, Y, T, t, hV⟩ := hI
  have hL : Lay R := hV.2.2.2.2.2.2.1
  have hC : CJ M P Y := hV.2.2.2.2.2.2.2.1
  have hP7 : P ≤ 7 := hV.1.1.2.2
  refine st_q hV (v_meets (Wd M) P Y x y) (s_108 (d0 := d) (by omega) hL (iv_x hV) hC x y) (fun M1 f => ?_)
  obtain ⟨e1, e2, e3, e4, e5, e6, e7, e8, e9⟩ := iv_f hV f
  have h := s_205 (d0 := d) (by omega) hL (iv_m hV f) x y
  rw [iv_w hV f] at h
  exact h
theorem st_109 {d n : Nat} (hd : 7 ≤ d) {M : MM} {R : RR} (hI : INV n M R) (x y : Int) : ST vJ d n 109 207 [vI x, vI y] M R := by
  obtain ⟨P, Y, T, t, hV⟩ := hI
  have hL : Lay R := hV.2.2.2.2.2.2.1
  have hC : CJ M P Y := hV.2.2.2.2.2.2.2.1
  have hP7 : P ≤ 7 := hV.1.1.2.2
  refine st_q hV (v_among (Wd M) P Y x y) (s_109 (d0 := d) (by omega) hL (iv_x hV) hC x y) (fun M1 f => ?_)
  obtain ⟨e1, e2, e3, e4, e5, e6, e7, e8, e9⟩ := iv_f hV f
  have h := s_207 (d0 := d) (by omega) hL (iv_m hV f) x y
  rw [iv_w hV f] at h
  exact h
theorem st_110 {d n : Nat} (hd : 7 ≤ d) {M : MM} {R : RR} (hI : INV n M R) (x y : Int) : ST vJ d n 110 209 [vI x, vI y] M R := by
  obtain ⟨P, Y, T, t, hV⟩ := hI
  have hL : Lay R := hV.2.2.2.2.2.2.1
  have hC : CJ M P Y := hV.2.2.2.2.2.2.2.1
  have hP7 : P ≤ 7 := hV.1.1.2.2
  refine st_q hV (v_mine (Wd M) P Y x y) (s_110 (d0 := d) (by omega) hL (iv_x hV) hC x y) (fun M1 f => ?_)
  obtain ⟨e1, e2, e3, e4, e5, e6, e7, e8, e9⟩ := iv_f hV f
  have h := s_209 (d0 := d) (by omega) hL (iv_m hV f) x y
  rw [iv_w hV f] at h
  exact h
theorem st_111 {d n : Nat} (hd : 7 ≤ d) {M : MM} {R : RR} (hI : INV n M R) : ST vI d n 111 210 [] M R := by
  obtain ⟨P, Y, T, t, hV⟩ := hI
  have hL : Lay R := hV.2.2.2.2.2.2.1
  have hC : CJ M P Y := hV.2.2.2.2.2.2.2.1
  have hP7 : P ≤ 7 := hV.1.1.2.2
  refine st_q hV (((v_likeliest (Wd M) P Y : Nat) : Int)) (s_111 (d0 := d) (by omega) hL (iv_x hV) hC) (fun M1 f => ?_)
  obtain ⟨e1, e2, e3, e4, e5, e6, e7, e8, e9⟩ := iv_f hV f
  have h := s_210 (d0 := d) (by omega) hL (iv_m hV f)
  rw [iv_w hV f] at h
  exact h
theorem st_112 {d n : Nat} (hd : 7 ≤ d) {M : MM} {R : RR} (hI : INV n M R) (x y z : Int) : ST vJ d n 112 212 [vI x, vI y, vI z] M R := by
  obtain ⟨P, Y, T, t, hV⟩ := hI
  have hL : Lay R := hV.2.2.2.2.2.2.1
  have hC : CJ M P Y := hV.2.2.2.2.2.2.2.1
  have hP7 : P ≤ 7 := hV.1.1.2.2
  refine st_q hV (v_many (Wd M) P Y x y z) (s_112 (d0 := d) (by omega) hL (iv_x hV) hC x y z) (fun M1 f => ?_)
  obtain ⟨e1, e2, e3, e4, e5, e6, e7, e8, e9⟩ := iv_f hV f
  have h := s_212 (d0 := d) (by omega) hL (iv_m hV f) x y z
  rw [iv_w hV f] at h
  exact h
theorem st_114 {d n : Nat} (hd : 7 ≤ d) {M : MM} {R : RR} (hI : INV n M R) (x : Int) : ST vI d n 114 213 [vI x] M R := by
  obtain ⟨P, Y, T, t, hV⟩ := hI
  have hL : Lay R := hV.2.2.2.2.2.2.1
  have hC : CJ M P Y := hV.2.2.2.2.2.2.2.1
  have hP7 : P ≤ 7 := hV.1.1.2.2
  refine st_q hV (v_likely (Wd M) P Y x) (s_114 (d0 := d) (by omega) hL (iv_x hV) hC x) (fun M1 f => ?_)
  obtain ⟨e1, e2, e3, e4, e5, e6, e7, e8, e9⟩ := iv_f hV f
  have h := s_213 (d0 := d) (by omega) hL (iv_m hV f) x
  rw [iv_w hV f] at h
  exact h
theorem st_115 {d n : Nat} (hd : 7 ≤ d) {M : MM} {R : RR} (hI : INV n M R) (x y : Int) : ST vJ d n 115 214 [vI x, vI y] M R := by
  obtain ⟨P, Y, T, t, hV⟩ := hI
  have hL : Lay R := hV.2.2.2.2.2.2.1
  have hC : CJ M P Y := hV.2.2.2.2.2.2.2.1
  have hP7 : P ≤ 7 := hV.1.1.2.2
  refine st_q hV (v_mean (Wd M) P Y x y) (s_115 (d0 := d) (by omega) hL (iv_x hV) hC x y) (fun M1 f => ?_)
  obtain ⟨e1, e2, e3, e4, e5, e6, e7, e8, e9⟩ := iv_f hV f
  have h := s_214 (d0 := d) (by omega) hL (iv_m hV f) x y
  rw [iv_w hV f] at h
  exact h
theorem st_116 {d n : Nat} (hd : 7 ≤ d) {M : MM} {R : RR} (hI : INV n M R) (x y : Int) : ST vJ d n 116 215 [vI x, vI y] M R := by
  obtain ⟨P, Y, T, t, hV⟩ := hI
  have hL : Lay R := hV.2.2.2.2.2.2.1
  have hC : CJ M P Y := hV.2.2.2.2.2.2.2.1
  have hP7 : P ≤ 7 := hV.1.1.2.2
  refine st_q hV (v_cov (Wd M) P Y x y) (s_116 (d0 := d) (by omega) hL (iv_x hV) hC x y) (fun M1 f => ?_)
  obtain ⟨e1, e2, e3, e4, e5, e6, e7, e8, e9⟩ := iv_f hV f
  have h := s_215 (d0 := d) (by omega) hL (iv_m hV f) x y
  rw [iv_w hV f] at h
  exact h
theorem st_117 {d n : Nat} (hd : 7 ≤ d) {M : MM} {R : RR} (hI : INV n M R) (x y : Int) : ST vJ d n 117 217 [vI x, vI y] M R := by
  obtain ⟨P, Y, T, t, hV⟩ := hI
  have hL : Lay R := hV.2.2.2.2.2.2.1
  have hC : CJ M P Y := hV.2.2.2.2.2.2.2.1
  have hP7 : P ≤ 7 := hV.1.1.2.2
  refine st_q hV (v_near (Wd M) P Y x y) (s_117 (d0 := d) (by omega) hL (iv_x hV) hC x y) (fun M1 f => ?_)
  obtain ⟨e1, e2, e3, e4, e5, e6, e7, e8, e9⟩ := iv_f hV f
  have h := s_217 (d0 := d) (by omega) hL (iv_m hV f) x y
  rw [iv_w hV f] at h
  exact h
theorem st_118 {d n : Nat} (hd : 7 ≤ d) {M : MM} {R : RR} (hI : INV n M R) (x : Int) : ST vI d n 118 219 [vI x] M R := by
  obtain ⟨P, Y, T, t, hV⟩ := hI
  have hL : Lay R := hV.2.2.2.2.2.2.1
  have hC : CJ M P Y := hV.2.2.2.2.2.2.2.1
  have hP7 : P ≤ 7 := hV.1.1.2.2
  refine st_q hV (v_needs (Wd M) P Y x) (s_118 (d0 := d) (by omega) hL (iv_x hV) hC x) (fun M1 f => ?_)
  obtain ⟨e1, e2, e3, e4, e5, e6, e7, e8, e9⟩ := iv_f hV f
  have h := s_219 (d0 := d) (by omega) hL (iv_m hV f) x
  rw [iv_w hV f] at h
  exact h
theorem st_121 {d n : Nat} (hd : 7 ≤ d) {M : MM} {R : RR} (hI : INV n M R) (x y : Int) : ST vJ d n 121 221 [vI x, vI y] M R := by
  obtain ⟨P, Y, T, t, hV⟩ := hI
  have hL : Lay R := hV.2.2.2.2.2.2.1
  have hC : CJ M P Y := hV.2.2.2.2.2.2.2.1
  have hP7 : P ≤ 7 := hV.1.1.2.2
  refine st_q hV (v_first (Wd M) P Y x y) (s_121 (d0 := d) (by omega) hL (iv_x hV) hC x y) (fun M1 f => ?_)
  obtain ⟨e1, e2, e3, e4, e5, e6, e7, e8, e9⟩ := iv_f hV f
  have h := s_221 (d0 := d) (by omega) hL (iv_m hV f) x y
  rw [iv_w hV f] at h
  exact h
theorem st_122 {d n : Nat} (hd : 7 ≤ d) {M : MM} {R : RR} (hI : INV n M R) : ST vI d n 122 223 [] M R := by
  obtain ⟨P, Y, T, t, hV⟩ := hI
  have hL : Lay R := hV.2.2.2.2.2.2.1
  have hC : CJ M P Y := hV.2.2.2.2.2.2.2.1
  have hP7 : P ≤ 7 := hV.1.1.2.2
  refine st_q hV (pR (Wd M) Y P) (s_122 (d0 := d) (by omega) hL (iv_x hV) hC) (fun M1 f => ?_)
  obtain ⟨e1, e2, e3, e4, e5, e6, e7, e8, e9⟩ := iv_f hV f
  have h := s_223 (d0 := d) (by omega) hL (iv_m hV f)
  rw [iv_w hV f] at h
  exact h
theorem st_123 {d n : Nat} (hd : 7 ≤ d) {M : MM} {R : RR} (hI : INV n M R) (x : Int) : ST vJ d n 123 224 [vI x] M R := by
  obtain ⟨P, Y, T, t, hV⟩ := hI
  have hL : Lay R := hV.2.2.2.2.2.2.1
  have hC : CJ M P Y := hV.2.2.2.2.2.2.2.1
  have hP7 : P ≤ 7 := hV.1.1.2.2
  refine st_q hV (v_asked (Wd M) P Y x) (s_123 (d0 := d) (by omega) hL (iv_x hV) hC x) (fun M1 f => ?_)
  obtain ⟨e1, e2, e3, e4, e5, e6, e7, e8, e9⟩ := iv_f hV f
  have h := s_224 (d0 := d) (by omega) hL (iv_m hV f) x
  rw [iv_w hV f] at h
  exact h
theorem st_124 {d n : Nat} (hd : 7 ≤ d) {M : MM} {R : RR} (hI : INV n M R) (x y : Int) : ST vJ d n 124 226 [vI x, vI y] M R := by
  obtain ⟨P, Y, T, t, hV⟩ := hI
  have hL : Lay R := hV.2.2.2.2.2.2.1
  have hC : CJ M P Y := hV.2.2.2.2.2.2.2.1
  have hP7 : P ≤ 7 := hV.1.1.2.2
  refine st_q hV (v_host (Wd M) (M 5) (M 6) P Y x y) (s_124 (d0 := d) (by omega) hL (iv_x hV) hC x y) (fun M1 f => ?_)
  obtain ⟨e1, e2, e3, e4, e5, e6, e7, e8, e9⟩ := iv_f hV f
  have h := s_226 (d0 := d) (by omega) hL (iv_m hV f) x y
  rw [iv_w hV f, e2, e3] at h
  exact h
theorem st_127 {d n : Nat} (hd : 7 ≤ d) {M : MM} {R : RR} (hI : INV n M R) (x y : Int) : ST vI d n 127 228 [vI x, vI y] M R := by
  obtain ⟨P, Y, T, t, hV⟩ := hI
  have hL : Lay R := hV.2.2.2.2.2.2.1
  have hC : CJ M P Y := hV.2.2.2.2.2.2.2.1
  have hP7 : P ≤ 7 := hV.1.1.2.2
  refine st_q hV (v_cheap (Wd M) (M 5) (M 6) (Ax M 2) P Y x y) (s_127 (d0 := d) (by omega) hL (iv_x hV) hC x y) (fun M1 f => ?_)
  obtain ⟨e1, e2, e3, e4, e5, e6, e7, e8, e9⟩ := iv_f hV f
  have h := s_228 (d0 := d) (by omega) hL (iv_m hV f) x y
  rw [iv_w hV f, iv_a hV f, e2, e3] at h
  exact h
theorem st_128 {d n : Nat} (hd : 7 ≤ d) {M : MM} {R : RR} (hI : INV n M R) (x y : Int) : ST vJ d n 128 229 [vI x, vI y] M R := by
  obtain ⟨P, Y, T, t, hV⟩ := hI
  have hL : Lay R := hV.2.2.2.2.2.2.1
  have hC : CJ M P Y := hV.2.2.2.2.2.2.2.1
  have hP7 : P ≤ 7 := hV.1.1.2.2
  refine st_q hV (v_wager (Wd M) (Ax M 1) (Ax M 2) P Y x y) (s_128 (d0 := d) (by omega) hL (iv_x hV) hC x y) (fun M1 f => ?_)
  obtain ⟨e1, e2, e3, e4, e5, e6, e7, e8, e9⟩ := iv_f hV f
  have h := s_229 (d0 := d) (by omega) hL (iv_m hV f) x y
  rw [iv_w hV f, iv_a hV f] at h
  exact h
theorem st_130 {d n : Nat} (hd : 7 ≤ d) {M : MM} {R : RR} (hI : INV n M R) (x : Int) : ST vI d n 130 232 [vI x] M R := by
  obtain ⟨P, Y, T, t, hV⟩ := hI
  have hL : Lay R := hV.2.2.2.2.2.2.1
  have hC : CJ M P Y := hV.2.2.2.2.2.2.2.1
  have hP7 : P ≤ 7 := hV.1.1.2.2
  refine st_q hV (v_judge (Wd M) P Y (cS M) (cZ M) (cU M) x) (s_130 (d0 := d) (by omega) hL (iv_x hV) hC x) (fun M1 f => ?_)
  obtain ⟨e1, e2, e3, e4, e5, e6, e7, e8, e9⟩ := iv_f hV f
  have h := s_232 (d0 := d) (by omega) hL (iv_m hV f) x
  rw [iv_w hV f, e_judge (iv_s hV f) hP7 Y (Wd M) x] at h
  exact h
theorem st_132 {d n : Nat} (hd : 7 ≤ d) {M : MM} {R : RR} (hI : INV n M R) (x y : Int) : ST vI d n 132 237 [vI x, vI y] M R := by
  obtain ⟨P, Y, T, t, hV⟩ := hI
  have hL : Lay R := hV.2.2.2.2.2.2.1
  have hC : CJ M P Y := hV.2.2.2.2.2.2.2.1
  have hP7 : P ≤ 7 := hV.1.1.2.2
  refine st_q hV (v_list (Wd M) (M 5) (M 6) P Y (cS M) (cZ M) (cU M) x y) (s_132 (d0 := d) (by omega) hL (iv_x hV) hC x y) (fun M1 f => ?_)
  obtain ⟨e1, e2, e3, e4, e5, e6, e7, e8, e9⟩ := iv_f hV f
  have h := s_237 (d0 := d) (by omega) hL (iv_m hV f) x y
  rw [iv_w hV f, e2, e3, e_list (iv_s hV f) hP7 Y (Wd M) (M 5) (M 6) x y] at h
  exact h
theorem st_137 {d n : Nat} (hd : 7 ≤ d) {M : MM} {R : RR} (hI : INV n M R) (x y : Int) : ST vJ d n 137 238 [vI x, vI y] M R := by
  obtain ⟨P, Y, T, t, hV⟩ := hI
  have hL : Lay R := hV.2.2.2.2.2.2.1
  have hC : CJ M P Y := hV.2.2.2.2.2.2.2.1
  have hP7 : P ≤ 7 := hV.1.1.2.2
  refine st_q hV (v_comes (Wd M) P Y (cS M) (cZ M) (cU M) x y) (s_137 (d0 := d) (by omega) hL (iv_x hV) hC x y) (fun M1 f => ?_)
  obtain ⟨e1, e2, e3, e4, e5, e6, e7, e8, e9⟩ := iv_f hV f
  have h := s_238 (d0 := d) (by omega) hL (iv_m hV f) x y
  rw [iv_w hV f, e_comes (iv_s hV f) hP7 Y (Wd M) x y] at h
  exact h
theorem st_138 {d n : Nat} (hd : 7 ≤ d) {M : MM} {R : RR} (hI : INV n M R) (x y : Int) : ST vJ d n 138 239 [vI x, vI y] M R := by
  obtain ⟨P, Y, T, t, hV⟩ := hI
  have hL : Lay R := hV.2.2.2.2.2.2.1
  have hC : CJ M P Y := hV.2.2.2.2.2.2.2.1
  have hP7 : P ≤ 7 := hV.1.1.2.2
  refine st_q hV (v_luck (Wd M) P Y (cS M) (cZ M) (cU M) x y) (s_138 (d0 := d) (by omega) hL (iv_x hV) hC x y) (fun M1 f => ?_)
  obtain ⟨e1, e2, e3, e4, e5, e6, e7, e8, e9⟩ := iv_f hV f
  have h := s_239 (d0 := d) (by omega) hL (iv_m hV f) x y
  rw [iv_w hV f, e_luck (iv_s hV f) hP7 Y (Wd M) x y] at h
  exact h
theorem st_139 {d n : Nat} (hd : 7 ≤ d) {M : MM} {R : RR} (hI : INV n M R) (x : Int) : ST vI d n 139 240 [vI x] M R := by
  obtain ⟨P, Y, T, t, hV⟩ := hI
  have hL : Lay R := hV.2.2.2.2.2.2.1
  have hC : CJ M P Y := hV.2.2.2.2.2.2.2.1
  have hP7 : P ≤ 7 := hV.1.1.2.2
  refine st_q hV (v_laws (Wt M) P Y T (cS M) (cZ M) (cU M) x) (s_139 (d0 := d) (by omega) hL (iv_x hV) hC (T := T) hV.1.2.2.1 hV.1.2.2.2.2.1 hV.2.2.1 x) (fun M1 f => ?_)
  obtain ⟨e1, e2, e3, e4, e5, e6, e7, e8, e9⟩ := iv_f hV f
  have h := s_240 (d0 := d) (by omega) hL (iv_m hV f) (T := T) (by rw [(iv_f hV f).2.2.2.2.1]; exact hV.1.2.2.2.1) hV.1.2.2.2.2.1 (fun i hi => txOk_f (fun o ho => f o (clsO_n (by omega))) (hV.2.2.1 i hi)) x
  rw [iv_t hV f, e_laws (iv_s hV f) hP7 Y T (Wt M) x] at h
  exact h
theorem st_140 {d n : Nat} (hd : 7 ≤ d) {M : MM} {R : RR} (hI : INV n M R) (x y z : Int) : ST vI d n 140 241 [vI x, vI y, vI z] M R := by
  obtain ⟨P, Y, T, t, hV⟩ := hI
  have hL : Lay R := hV.2.2.2.2.2.2.1
  have hC : CJ M P Y := hV.2.2.2.2.2.2.2.1
  have hP7 : P ≤ 7 := hV.1.1.2.2
  refine st_q hV (v_can (Wv M) (M 5) (M 7) P Y (cS M) (cZ M) (cU M) x y z) (s_140 (d0 := d) (by omega) hL (iv_x hV) hC x y z) (fun M1 f => ?_)
  obtain ⟨e1, e2, e3, e4, e5, e6, e7, e8, e9⟩ := iv_f hV f
  have h := s_241 (d0 := d) (by omega) hL (iv_m hV f) x y z
  rw [iv_v hV f, e2, e4, e_can (iv_s hV f) hP7 Y (Wv M) (M 5) (M 7) x y z] at h
  exact h
theorem st_144 {d n : Nat} (hd : 7 ≤ d) {M : MM} {R : RR} (hI : INV n M R) (x y : Int) : ST vI d n 144 245 [vI x, vI y] M R := by
  obtain ⟨P, Y, T, t, hV⟩ := hI
  have hL : Lay R := hV.2.2.2.2.2.2.1
  have hC : CJ M P Y := hV.2.2.2.2.2.2.2.1
  have hP7 : P ≤ 7 := hV.1.1.2.2
  refine st_q hV (v_drawn (Wd M) P Y x y) (s_144 (d0 := d) (by omega) hL (iv_x hV) hC x y) (fun M1 f => ?_)
  obtain ⟨e1, e2, e3, e4, e5, e6, e7, e8, e9⟩ := iv_f hV f
  have h := s_245 (d0 := d) (by omega) hL (iv_m hV f) x y
  rw [iv_w hV f] at h
  exact h
theorem st_146 {d n : Nat} (hd : 7 ≤ d) {M : MM} {R : RR} (hI : INV n M R) (x y z : Int) : ST vJ d n 146 248 [vI x, vI y, vI z] M R := by
  obtain ⟨P, Y, T, t, hV⟩ := hI
  have hL : Lay R := hV.2.2.2.2.2.2.1
  have hC : CJ M P Y := hV.2.2.2.2.2.2.2.1
  have hP7 : P ≤ 7 := hV.1.1.2.2
  refine st_q hV (v_odds (Wd M) P Y x y z) (s_146 (d0 := d) (by omega) hL (iv_x hV) hC x y z) (fun M1 f => ?_)
  obtain ⟨e1, e2, e3, e4, e5, e6, e7, e8, e9⟩ := iv_f hV f
  have h := s_248 (d0 := d) (by omega) hL (iv_m hV f) x y z
  rw [iv_w hV f] at h
  exact h
theorem st_101 {d n : Nat} (hd : 7 ≤ d) {M : MM} {R : RR} (hI : INV n M R) (x y z : Int) : ST vI d n 101 189 [vI x, vI y, vI z] M R := by
  obtain ⟨P, Y, T, t, hV⟩ := hI
  have hL : Lay R := hV.2.2.2.2.2.2.1
  have hC : CJ M P Y := hV.2.2.2.2.2.2.2.1
  have hP7 : P ≤ 7 := hV.1.1.2.2
  refine st_q hV (v_asks (segm M t) (M 3) (M 6) (M 7) P Y x y z) (s_101 (d0 := d) (by omega) hL (iv_x hV) hC x y z) (fun M1 f => ?_)
  obtain ⟨e1, e2, e3, e4, e5, e6, e7, e8, e9⟩ := iv_f hV f
  have h := s_189 (d0 := d) (by omega) hL (iv_m hV f) x y z
  rw [e1, e3, e4, e6] at h
  exact h
theorem st_105 {d n : Nat} (hd : 7 ≤ d) {M : MM} {R : RR} (hI : INV n M R) (x y : Int) : ST vI d n 105 196 [vI x, vI y] M R := by
  obtain ⟨P, Y, T, t, hV⟩ := hI
  have hL : Lay R := hV.2.2.2.2.2.2.1
  have hC : CJ M P Y := hV.2.2.2.2.2.2.2.1
  have hP7 : P ≤ 7 := hV.1.1.2.2
  refine st_q hV (v_told (M 5) (M 6) (M 7) (Wd M) P Y x y) (s_105 (d0 := d) (by omega) hL (iv_x hV) hC x y) (fun M1 f => ?_)
  obtain ⟨e1, e2, e3, e4, e5, e6, e7, e8, e9⟩ := iv_f hV f
  have h := s_196 (d0 := d) (by omega) hL (iv_m hV f) x y
  rw [iv_w hV f, e2, e3, e4] at h
  exact h
theorem st_107 {d n : Nat} (hd : 7 ≤ d) {M : MM} {R : RR} (hI : INV n M R) (x y : Int) : ST vI d n 107 197 [vI x, vI y] M R := by
  obtain ⟨P, Y, T, t, hV⟩ := hI
  have hL : Lay R := hV.2.2.2.2.2.2.1
  have hC : CJ M P Y := hV.2.2.2.2.2.2.2.1
  have hP7 : P ≤ 7 := hV.1.1.2.2
  refine st_q hV (v_wgt (Wd M) P Y x y) (s_107 (d0 := d) (by omega) hL (iv_x hV) hC x y) (fun M1 f => ?_)
  obtain ⟨e1, e2, e3, e4, e5, e6, e7, e8, e9⟩ := iv_f hV f
  have h := s_197 (d0 := d) (by omega) hL (iv_m hV f) x y
  rw [iv_w hV f] at h
  exact h
theorem st_p {k : Int → AV} {d n mi mj : Nat} {as : List AV} {M : MM} {R : RR} {P Y T t : Nat} (hI : IV n P Y T t M R) (x : Int) (h1 : call d mi (vA 1 :: as) M R = some (k x, M, R)) (h2 : call d mj (vA 57 :: as) M R = some (k x, M, R)) : ST k d n mi mj as M R :=
  ⟨x, M, R, M, h1, h2, P, Y, T, t, IV_k (fun _ _ => rfl) hI.2.2.2.2.2.2.2.1 hI⟩
theorem st_155 {d n : Nat} (hd : 7 ≤ d) {M : MM} {R : RR} (hI : INV n M R) (x y : Int) : ST vI d n 155 256 [vI x, vI y] M R := by
  obtain ⟨P, Y, T, t, hV⟩ := hI
  have hL : Lay R := hV.2.2.2.2.2.2.1
  have h2 := s_256 (d0 := d) (by omega) hL (iv_m0 hV) x y
  obtain ⟨c1, c2, c3, c4, c5⟩ := hV.2.1
  rw [← c1, ← c2] at h2
  exact st_p hV _ (s_155 (by omega) hL (iv_x hV) x y) h2
theorem st_95 {d n : Nat} (hd : 7 ≤ d) {M : MM} {R : RR} (hI : INV n M R) (x : Int) : ST vI d n 95 170 [vI x] M R := by
  obtain ⟨P, Y, T, t, hV⟩ := hI
  have hL : Lay R := hV.2.2.2.2.2.2.1
  obtain ⟨⟨b1, b2, b3⟩, ⟨b4, b5, b6, b7⟩, b8, b9, b10, b11, b12, b13⟩ := hV.1
  have h1 := s_95 (d := d) (by omega) (M := M) hL x
  have h2 := s_170 (d := d) (by omega) (M := M) (R := R) x
  rw [b1, b4, b8, b11, hV.2.2.2.1.1] at h1
  rw [b2, b5, b9, b12] at h2
  exact st_p hV _ h1 h2
theorem st_96 {d n : Nat} (hd : 7 ≤ d) {M : MM} {R : RR} (hI : INV n M R) (x : Int) : ST vI d n 96 171 [vI x] M R := by
  obtain ⟨P, Y, T, t, hV⟩ := hI
  have hL : Lay R := hV.2.2.2.2.2.2.1
  obtain ⟨⟨b1, b2, b3⟩, ⟨b4, b5, b6, b7⟩, b8, b9, b10, b11, b12, b13⟩ := hV.1
  obtain ⟨c1, c2, c3, c4, c5⟩ := hV.2.1
  have h1 := s_96 (d := d) (by omega) (M := M) hL x (by omega)
  have h2 := s_171 (d := d) (by omega) (M := M) hL x (by omega)
  rw [b4] at h1
  rw [b5, ← c1] at h2
  exact st_p hV _ h1 h2
end
