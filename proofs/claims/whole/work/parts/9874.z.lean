/-! ===== the start (z) ===== -/
noncomputable def m161 (M : MM) : MM := m161_3 (m161_2 (m161_1 (m161_0 M)))
noncomputable def r161 (R : RR) : RR := r161_3 (r161_2 (r161_1 (r161_0 R)))
theorem z_161 {d : Nat} {M : MM} {R : RR} (h0 : nu R = 58) : run (call d) 161 0 [vA 57, vX 0] [] M R = run (call d) 161 970 [vA 57, vI 0] [] (m161 M) (r161 R) := by
  refine (k_161_0 (cf := call d) (M := M) (R := R) h0).trans ?_
  refine (k_161_99 (cf := call d) (M := (m161_0 M)) (R := (r161_0 R)) rfl).trans ?_
  refine (k_161_285 (cf := call d) (M := (m161_1 (m161_0 M))) (R := (r161_1 (r161_0 R))) rfl).trans ?_
  refine (k_161_863 (cf := call d) (M := (m161_2 (m161_1 (m161_0 M)))) (R := (r161_2 (r161_1 (r161_0 R)))) rfl).trans ?_
  rfl
theorem k_261_0 {cf : CF} {M : MM} {R : RR} (h1 : nu R = 1) : run cf 261 0 [vX 2, vX 0, vX 0, vX 0] [] M R = (cf 91 [vA 1] (upf M 1 (fun _ => 0)) (aR R 1 0 9)).bind (fun q => run cf 261 7 [vX 2, vX 0, vX 0, vX 0] (pushv q.1 [vA 1]) q.2.1 q.2.2) := (e_new1 (dec_at dec_261_0 0 rfl) pw_13_7 h1 rfl).trans ((e_n 4 [vX 2, vX 0, vX 0, vX 0] [vA 1, vA 1] (upf M 1 (fun _ => 0)) (aR R 1 0 9) (dec_at dec_261_0 1 rfl) (.inl rfl) rfl).trans (e_callI (as := []) (r := [vA 1]) (dec_at dec_261_0 2 rfl) pn_13_9 pm_13_9 rfl rfl rfl rfl (Nat.le_of_ble_eq_true rfl)))
theorem k_261_7 {cf : CF} {M : MM} {R : RR} (h1 : nu R = 57) : run cf 261 7 [vX 2, vX 0, vX 0, vX 0] [vA 1] M R = (cf 161 [vA 57] (upf M 57 (fun _ => 0)) (aR R 57 0 41)).bind (fun q => run cf 261 15 [vX 2, vA 1, vX 0, vX 0] (pushv q.1 [vA 57]) q.2.1 q.2.2) := (e_n 8 [vX 2, vA 1, vX 0, vX 0] [] M R (dec_at dec_261_0 3 rfl) (.inl rfl) rfl).trans ((e_new1 (dec_at dec_261_0 4 rfl) pw_13_10 h1 rfl).trans ((e_n 12 [vX 2, vA 1, vX 0, vX 0] [vA 57, vA 57] (upf M 57 (fun _ => 0)) (aR R 57 0 41) (dec_at dec_261_0 5 rfl) (.inl rfl) rfl).trans (e_callI (as := []) (r := [vA 57]) (dec_at dec_261_0 6 rfl) pn_13_12 pm_13_12 rfl rfl rfl rfl (Nat.le_of_ble_eq_true rfl))))
theorem k_261_15 {cf : CF} {M : MM} {R : RR} : run cf 261 15 [vX 2, vA 1, vX 0, vX 0] [vA 57] M R = run cf 261 18 [vX 2, vA 1, vA 57, vI 0] [] M R := (e_n 16 [vX 2, vA 1, vA 57, vX 0] [] M R (dec_at dec_261_0 7 rfl) (.inl rfl) rfl).trans ((e_n 17 [vX 2, vA 1, vA 57, vX 0] [vI 0] M R (dec_at dec_261_0 8 rfl) (.inl rfl) rfl).trans ((e_n 18 [vX 2, vA 1, vA 57, vI 0] [] M R (dec_at dec_261_0 9 rfl) (.inl rfl) rfl).trans (rfl)))
noncomputable def rI0 (L : Nat) : RR := aR (R0 L) 1 0 9
noncomputable def rI1 (L : Nat) : RR := aR (r91 (rI0 L)) 57 0 41
noncomputable def rI (L : Nat) : RR := r161 (rI1 L)
