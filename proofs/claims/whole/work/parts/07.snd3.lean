/-! ===== SOUNDNESS: what is made; the library's own ===== -/
theorem tb_cast : Cond.classLink RJ7 317 "[I" ∈ TB := (tb1 158 rfl rfl)
theorem nu_pos (R : RR) : 0 < nu R := Nat.succ_pos _
theorem newR_00 (R : RR) (n w : Nat) : newR R n w 0 0 = R 0 0 + 1 := by simp [newR, upf, nu]
theorem newR_01 (R : RR) (n w : Nat) : newR R n w 0 1 = R 0 1 + w := by simp [newR, upf, nu]
theorem newR_len (R : RR) (n w o : Nat) (h : o ≠ nu R) : newR R n w 0 (o + 2) = R 0 (o + 2) := by simp [newR, upf, h]
theorem newR_own (R : RR) (n w : Nat) : newR R n w 0 (nu R + 2) = n := by simp [newR, upf]
theorem newR_ne (R : RR) (n w o : Nat) (h0 : 0 < o) (h : o ≠ nu R) : newR R n w o = R o := by simp [newR, upf, h, Nat.ne_of_gt h0]
theorem newR_nu (R : RR) (n w : Nat) : newR R n w (nu R) = fun _ => 0 := by
  have := nu_pos R
  simp [newR, upf, Nat.ne_of_gt this]
theorem newM_ne (M : MM) (R : RR) (o : Nat) (h : o ≠ nu R) : newM M R o = M o := upf_ne _ _ h
theorem newM_nu (M : MM) (R : RR) : newM M R (nu R) = fun _ => 0 := upf_same _ _ _
theorem okM_new {sc : Nat → Int} {Ls : Nat} {M : MM} {R : RR} {n w : Nat} {f : Nat → Int} (h : okM sc Ls M R) (hn : n ≤ 100000) (hf : ∀ i, i32 (f i)) : okM sc Ls (upf M (nu R) f) (newR R n w) := by
  refine ⟨⟨fun o i => ?_, fun o i ho => ?_, fun o => ?_⟩, ?_, ?_⟩
  · by_cases hq : o = nu R
    · subst hq; rw [upf_same]; exact ⟨fun _ => hf i, i32_i64 (hf i)⟩
    · rw [upf_ne _ _ hq]; exact h.1.1 o i
  · by_cases hq : o = nu R
    · subst hq; rw [newR_nu]; exact Nat.zero_le _
    · rw [newR_ne _ _ _ _ ho hq, newR_00]; have := h.1.2.1 o i ho; omega
  · by_cases hq : o = nu R
    · subst hq; rw [newR_own]; exact hn
    · rw [newR_len _ _ _ _ hq]; exact h.1.2.2 o
  · rw [upf_ne _ _ (by have := nu_pos R; omega)]; exact h.2.1
  · rw [newR_len R n w 0 (by have := nu_pos R; omega)]; exact h.2.2
theorem def_ok : ∀ k, k < 13 → ∀ j, j < nF k → defaultValue (tyXs k j) = if ftyp k j = 1 then .null else .int 0 := by decide +kernel
theorem cv_up {ad xa : Nat → Nat} {R : RR} {q : Nat} {v : AV} (h : okV R v) : cv (upf ad (nu R) q) xa v = cv ad xa v := by
  rcases v with x | x | o | k
  · rfl
  · rfl
  · have ho : o ≤ R 0 0 := h
    simp only [cv, rfo]
    rw [upf_ne _ _ (by unfold nu; omega)]
  · rfl
section SND3
variable {p : Program} {l : Launch} {e : Env} {Rm : Room} {s : State} {m : MethodId} {args : Array Value} {below : List Frame} {meth : Method} {c : Code} {D : va_G} {cy : Nat → ClassId} {xa : Nat → Nat} {A : Nat → Prop} {sc : Nat → Int} {Ls mi d : Nat} {ad0 : Nat → Nat} {n0 s0 : Nat} {Q : State → Prop} {pc : Nat} {lv st r : List AV} {M : MM} {R : RR}
theorem K_new {n wd pc' q : Nat} {f : Nat → Int} {ee : va_E} {ad : Nat → Nat} {H H1 : Heap} {locs locs1 : List Loc} {cells slots : Nat} {ls : Array Slot} (K : GW p l e Rm s m args below meth c D cy xa A sc Ls mi ad0 n0 s0 Q pc' lv (vA (nu R) :: r) (upf M (nu R) f) (newR R n wd)) (X : SR s D cy xa A sc Ls mi ad0 n0 s0 lv st M R ad H locs cells slots ls) (hr : ∀ v ∈ r, okV R v) (hn : n ≤ 100000) (hf : ∀ i, i32 (f i)) (he : ctt cy (upf ad (nu R) q) (upf M (nu R) f) (newR R n wd) (nu R) = ee) (hP : va_P D vwCl (wsOf cy ad M R ++ [(q, ee)]) H1) (hD : va_D A (wsOf cy ad M R ++ [(q, ee)])) (hS : va_S A s.heap H1 locs1) : W p l e Rm s m args below meth c H1 locs1 (cells + 1) (slots + wd) Q (F0 m pc' ls (.ref q :: r.map (cv ad xa))) := by
  have hw : wsOf cy ad M R ++ [(q, ee)] = wsOf cy (upf ad (nu R) q) (upf M (nu R) f) (newR R n wd) := by
    refine ws_push (newR_00 R n wd) (upf_same _ _ _) he (fun o ho => upf_ne _ _ (by unfold nu; omega)) (fun o h0 ho => ?_)
    have hne : o ≠ nu R := by unfold nu; omega
    rw [ctt_same (M := M) (R := R) (upf_ne _ _ hne) (newR_ne _ _ _ _ h0 hne) (newR_len _ _ _ _ hne)]
    refine ctt_ad (fun i => ?_)
    have := X.2.1.1.2.1 o i h0
    unfold rfo
    rw [upf_ne _ _ (by unfold nu; omega)]
  rw [hw] at hP hD
  have hk := K (upf ad (nu R) q) H1 locs1 (cells + 1) (slots + wd) ls ⟨⟨hP, hD, hS⟩, okM_new X.2.1 hn hf, ⟨X.2.2.1.1.ad (fun v hv => cv_up (X.2.2.1.2.2 v hv)), X.2.2.1.2.1, fun v hv => okV_le (by rw [newR_00]; omega) (X.2.2.1.2.2 v hv)⟩, ok_cons (show nu R ≤ newR R n wd 0 0 by rw [newR_00]; exact Nat.le_refl _) (fun v hv => okV_le (by rw [newR_00]; omega) (hr v hv)), ?_, fun o ho => ?_⟩
  · rw [List.map_cons, cv_A _ _ (nu_pos R), upf_same, List.map_congr_left (fun v hv => cv_up (hr v hv))] at hk
    exact hk
  · obtain ⟨g1, g2, g3, g4⟩ := X.2.2.2.2.1
    rw [newR_00, newR_01]
    omega
  · rw [upf_ne _ _ (by have := X.2.2.2.2.1.1; unfold nu; omega)]
    exact X.2.2.2.2.2 o ho
theorem G_newa_int {n : Int} (C : CX p Rm s m args meth c D cy xa A sc Ls mi d) (hd : decode (codeOf mi) pc = .ok (.newarray .int, 2)) (h0 : 0 ≤ n) (h1 : n ≤ 100000) (hk : kindOf (nu R) = 13) (hc : R 0 0 + 1 ≤ n0 + Rm.cells) (hs : R 0 1 + n.toNat ≤ s0 + Rm.slots) (K : GW p l e Rm s m args below meth c D cy xa A sc Ls mi ad0 n0 s0 Q (pc + 2) lv (vA (nu R) :: r) (newM M R) (newR R n.toNat n.toNat)) : GW p l e Rm s m args below meth c D cy xa A sc Ls mi ad0 n0 s0 Q pc lv (vI n :: r) M R := by
  intro ad H locs cells slots ls X
  have hn : i32 n := ok_hd X.2.2.2.1
  obtain ⟨g1, g2, g3, g4⟩ := X.2.2.2.2.1
  refine va_newa (atype := .int) (ty := .int) (N' := n.toNat) (a0 := (n.toNat, .inl (fun _ => 0))) C.1 C.2.1 (C.2.2.2.2.1 _ tb_arr.1) rfl C.2.2.2.2.2.1 X.1.1 X.1.2.1 X.1.2.2 C.2.2.2.2.2.2.1 (fun _ => rfl) (ge0_32 hn h0) (cl32 hn) (by show n.toNat * 4 ≤ _; omega) (by omega) (by omega) hd (fun q cA H1 hK1 hP hD hS => ?_)
  have hcA : cA = cy 0 := by
    have e1 := (hK1.2 5 (cA, .int) rfl).2
    have e2 := (C.2.2.2.2.2.1.2 0 (cy 0, .int) rfl).2
    exact Option.some.inj (e1.symm.trans e2)
  subst hcA
  exact K_new (f := fun _ => 0) (pc' := pc + 2) K X (ok_tl X.2.2.2.1) (by omega) (fun _ => z32) (by rw [ctt_13 hk, newR_own, upf_same]; rfl) hP hD hS
theorem G_newa_long {n : Int} (C : CX p Rm s m args meth c D cy xa A sc Ls mi d) (hd : decode (codeOf mi) pc = .ok (.newarray .long, 2)) (h0 : 0 ≤ n) (h1 : n ≤ 100000) (hk : kindOf (nu R) = 14) (hc : R 0 0 + 1 ≤ n0 + Rm.cells) (hs : R 0 1 + n.toNat ≤ s0 + Rm.slots) (K : GW p l e Rm s m args below meth c D cy xa A sc Ls mi ad0 n0 s0 Q (pc + 2) lv (vA (nu R) :: r) (newM M R) (newR R n.toNat n.toNat)) : GW p l e Rm s m args below meth c D cy xa A sc Ls mi ad0 n0 s0 Q pc lv (vI n :: r) M R := by
  intro ad H locs cells slots ls X
  have hn : i32 n := ok_hd X.2.2.2.1
  obtain ⟨g1, g2, g3, g4⟩ := X.2.2.2.2.1
  refine va_newa (atype := .long) (ty := .long) (N' := n.toNat) (a0 := (n.toNat, .inr (.inl (fun _ => 0)))) C.1 C.2.1 (C.2.2.2.2.1 _ tb_arr.2.1) rfl C.2.2.2.2.2.1 X.1.1 X.1.2.1 X.1.2.2 C.2.2.2.2.2.2.1 (fun _ => rfl) (ge0_32 hn h0) (cl32 hn) (by show n.toNat * 8 ≤ _; omega) (by omega) (by omega) hd (fun q cA H1 hK1 hP hD hS => ?_)
  have hcA : cA = cy 1 := by
    have e1 := (hK1.2 5 (cA, .long) rfl).2
    have e2 := (C.2.2.2.2.2.1.2 1 (cy 1, .long) rfl).2
    exact Option.some.inj (e1.symm.trans e2)
  subst hcA
  exact K_new (f := fun _ => 0) (pc' := pc + 2) K X (ok_tl X.2.2.2.1) (by omega) (fun _ => z32) (by rw [ctt_14 hk, newR_own, upf_same]; rfl) hP hD hS
theorem G_newa_boolean {n : Int} (C : CX p Rm s m args meth c D cy xa A sc Ls mi d) (hd : decode (codeOf mi) pc = .ok (.newarray .boolean, 2)) (h0 : 0 ≤ n) (h1 : n ≤ 100000) (hk : kindOf (nu R) = 15) (hc : R 0 0 + 1 ≤ n0 + Rm.cells) (hs : R 0 1 + n.toNat ≤ s0 + Rm.slots) (K : GW p l e Rm s m args below meth c D cy xa A sc Ls mi ad0 n0 s0 Q (pc + 2) lv (vA (nu R) :: r) (newM M R) (newR R n.toNat n.toNat)) : GW p l e Rm s m args below meth c D cy xa A sc Ls mi ad0 n0 s0 Q pc lv (vI n :: r) M R := by
  intro ad H locs cells slots ls X
  have hn : i32 n := ok_hd X.2.2.2.1
  obtain ⟨g1, g2, g3, g4⟩ := X.2.2.2.2.1
  refine va_newa (atype := .boolean) (ty := .boolean) (N' := n.toNat) (a0 := (n.toNat, .inl (fun _ => 0))) C.1 C.2.1 (C.2.2.2.2.1 _ tb_arr.2.2) rfl C.2.2.2.2.2.1 X.1.1 X.1.2.1 X.1.2.2 C.2.2.2.2.2.2.1 (fun _ => rfl) (ge0_32 hn h0) (cl32 hn) (by show n.toNat * 1 ≤ _; omega) (by omega) (by omega) hd (fun q cA H1 hK1 hP hD hS => ?_)
  have hcA : cA = cy 2 := by
    have e1 := (hK1.2 5 (cA, .boolean) rfl).2
    have e2 := (C.2.2.2.2.2.1.2 2 (cy 2, .boolean) rfl).2
    exact Option.some.inj (e1.symm.trans e2)
  subst hcA
  exact K_new (f := fun _ => 0) (pc' := pc + 2) K X (ok_tl X.2.2.2.1) (by omega) (fun _ => z32) (by rw [ctt_15 hk, newR_own, upf_same]; rfl) hP hD hS
theorem G_anew_16 {i : Nat} {n : Int} (C : CX p Rm s m args meth c D cy xa A sc Ls mi d) (hd : decode (codeOf mi) pc = .ok (.anewarray i, 3)) (ha : anwT (clsOf mi) i = some 16) (h0 : 0 ≤ n) (h1 : n ≤ 100000) (hk : kindOf (nu R) = 16) (hc : R 0 0 + 1 ≤ n0 + Rm.cells) (hs : R 0 1 + n.toNat ≤ s0 + Rm.slots) (K : GW p l e Rm s m args below meth c D cy xa A sc Ls mi ad0 n0 s0 Q (pc + 3) lv (vA (nu R) :: r) (newM M R) (newR R n.toNat n.toNat)) : GW p l e Rm s m args below meth c D cy xa A sc Ls mi ad0 n0 s0 Q pc lv (vI n :: r) M R := by
  intro ad H locs cells slots ls X
  have hn : i32 n := ok_hd X.2.2.2.1
  obtain ⟨g1, g2, g3, g4⟩ := X.2.2.2.2.1
  obtain ⟨CC, a1, a2⟩ := aok _ (lk_mem ha)
  have hCC : CC = RX4 := by rcases a2 with ⟨h, e⟩ | ⟨h, e⟩ <;> first | exact e | (simp at h)
  subst hCC
  refine va_newq (N' := n.toNat) C.1 C.2.1 C.2.2.2.1 (C.2.2.2.2.1 _ a1) C.2.2.2.2.2.2.2.1.1 C.2.2.2.2.2.1 X.1.1 X.1.2.1 X.1.2.2 C.2.2.2.2.2.2.1 (ge0_32 hn h0) (cl32 hn) (by omega) (by omega) (by omega) hd (fun q cA H1 hK1 hP hD hS => ?_)
  have hcA : cA = cy 3 := by
    obtain ⟨-, -, -, -, -, e1⟩ := (hK1.2 5 (cA, .object RX4) rfl).2
    obtain ⟨-, -, -, -, -, e2⟩ := (C.2.2.2.2.2.1.2 3 (cy 3, .object RX4) rfl).2
    exact Option.some.inj (e1.symm.trans e2)
  subst hcA
  exact K_new (f := fun _ => 0) (pc' := pc + 3) K X (ok_tl X.2.2.2.1) (by omega) (fun _ => z32) (by rw [ctt_16 hk, newR_own, newR_nu]; rfl) hP hD hS
theorem G_anew_17 {i : Nat} {n : Int} (C : CX p Rm s m args meth c D cy xa A sc Ls mi d) (hd : decode (codeOf mi) pc = .ok (.anewarray i, 3)) (ha : anwT (clsOf mi) i = some 17) (h0 : 0 ≤ n) (h1 : n ≤ 100000) (hk : kindOf (nu R) = 17) (hc : R 0 0 + 1 ≤ n0 + Rm.cells) (hs : R 0 1 + n.toNat ≤ s0 + Rm.slots) (K : GW p l e Rm s m args below meth c D cy xa A sc Ls mi ad0 n0 s0 Q (pc + 3) lv (vA (nu R) :: r) (newM M R) (newR R n.toNat n.toNat)) : GW p l e Rm s m args below meth c D cy xa A sc Ls mi ad0 n0 s0 Q pc lv (vI n :: r) M R := by
  intro ad H locs cells slots ls X
  have hn : i32 n := ok_hd X.2.2.2.1
  obtain ⟨g1, g2, g3, g4⟩ := X.2.2.2.2.1
  obtain ⟨CC, a1, a2⟩ := aok _ (lk_mem ha)
  have hCC : CC = RX7 := by rcases a2 with ⟨h, e⟩ | ⟨h, e⟩ <;> first | exact e | (simp at h)
  subst hCC
  refine va_newq (N' := n.toNat) C.1 C.2.1 C.2.2.2.1 (C.2.2.2.2.1 _ a1) C.2.2.2.2.2.2.2.1.2.1 C.2.2.2.2.2.1 X.1.1 X.1.2.1 X.1.2.2 C.2.2.2.2.2.2.1 (ge0_32 hn h0) (cl32 hn) (by omega) (by omega) (by omega) hd (fun q cA H1 hK1 hP hD hS => ?_)
  have hcA : cA = cy 4 := by
    obtain ⟨-, -, -, -, -, e1⟩ := (hK1.2 5 (cA, .object RX7) rfl).2
    obtain ⟨-, -, -, -, -, e2⟩ := (C.2.2.2.2.2.1.2 4 (cy 4, .object RX7) rfl).2
    exact Option.some.inj (e1.symm.trans e2)
  subst hcA
  exact K_new (f := fun _ => 0) (pc' := pc + 3) K X (ok_tl X.2.2.2.1) (by omega) (fun _ => z32) (by rw [ctt_17 hk, newR_own, newR_nu]; rfl) hP hD hS
theorem G_new {i k : Nat} (C : CX p Rm s m args meth c D cy xa A sc Ls mi d) (hd : decode (codeOf mi) pc = .ok (.new i, 3)) (ha : newT (clsOf mi) i = some k) (hk : kindOf (nu R) = k) (hc : R 0 0 + 1 ≤ n0 + Rm.cells) (hs : R 0 1 + nF k ≤ s0 + Rm.slots) (K : GW p l e Rm s m args below meth c D cy xa A sc Ls mi ad0 n0 s0 Q (pc + 3) lv (vA (nu R) :: st) (newM M R) (newR R 0 (nF k))) : GW p l e Rm s m args below meth c D cy xa A sc Ls mi ad0 n0 s0 Q pc lv st M R := by
  intro ad H locs cells slots ls X
  obtain ⟨g1, g2, g3, g4⟩ := X.2.2.2.2.1
  obtain ⟨a1, a2, a3, a4⟩ := nok _ (lk_mem ha)
  simp only at a1 a2 a3 a4
  refine va_new (fs := (List.range (nF k)).map (fun j => if ftyp k j = 1 then .null else .int 0)) C.1 C.2.1 C.2.2.2.2.1 (inF a4) (tyXs k) (tyF a4) C.2.2.2.1 (C.2.2.2.2.1 _ a1) (C.2.2.2.2.1 _ a2) (C.2.2.2.2.1 _ a3) C.2.2.2.2.2.1 X.1.1 X.1.2.1 X.1.2.2 C.2.2.2.2.2.2.1 (cl_at a4) (fun j hj => ?_) (by omega) (by omega) hd (fun q H1 hP hD hS => ?_)
  · rw [def_ok k a4 j hj]
    unfold vp_V
    rw [List.getD_eq_getElem?_getD, List.getElem?_map, List.getElem?_range hj]
    rfl
  · refine K_new (f := fun _ => 0) (pc' := pc + 3) K X X.2.2.2.1 (by omega) (fun _ => z32) ?_ hP hD hS
    rw [ctt_o (by omega), hk]
    congr 2
    apply List.map_congr_left
    intro j _
    unfold fv
    rw [newR_nu, upf_same]
    rfl
theorem G_clone {i o : Nat} (C : CX p Rm s m args meth c D cy xa A sc Ls mi d) (hd : decode (codeOf mi) pc = .ok (.invokevirtual i, 3)) (hb : bltT (clsOf mi) i = some 3) (ho1 : kindOf o = 13) (hk : kindOf (nu R) = 13) (hcat : catS r ≤ 8) (hc : R 0 0 + 1 ≤ n0 + Rm.cells) (hs : R 0 1 + R 0 (o + 2) ≤ s0 + Rm.slots) (K : GW p l e Rm s m args below meth c D cy xa A sc Ls mi ad0 n0 s0 Q (pc + 3) lv (vA (nu R) :: r) (upf M (nu R) (M o)) (newR R (R 0 (o + 2)) (R 0 (o + 2)))) : GW p l e Rm s m args below meth c D cy xa A sc Ls mi ad0 n0 s0 Q pc lv (vA o :: r) M R := by
  intro ad H locs cells slots ls X
  obtain ⟨g1, g2, g3, g4⟩ := X.2.2.2.2.1
  obtain ⟨b1, b2, b3, b4, b5⟩ := bok _ (lk_mem hb)
  have ho : 0 < o := k_pos ho1 (by omega)
  have hn : o ≤ R 0 0 := ok_hd X.2.2.2.1
  have hTB := C.2.2.2.2.1
  rw [List.map_cons, cv_A ad xa ho]
  refine va_clone (x := (R 0 (o + 2), .inl (fun j => Int32.ofInt (M o j)))) C.1 C.2.1 (by rw [X.2.2.1.1.1, X.2.2.1.2.1]; exact C.2.2.1) C.2.2.2.1 (hTB _ b1) (hTB _ b2) (hTB _ b3) (hTB _ b4) (hTB _ b5) C.2.2.2.2.2.2.2.1.2.2.1 C.2.2.2.2.2.1 X.1.1 X.1.2.1 X.1.2.2 C.2.2.2.2.2.2.1 (o - 1) 0 ((ws_get ho hn).trans (by rw [ctt_13 ho1])) rfl (va_nm_int (C.2.2.2.2.2.1.2 0 (cy 0, .int) rfl).2) (va_fit (F := fun j => .int (Int32.ofInt (M o j))) (fun _ _ => rfl)) (by have := C.2.2.2.2.2.2.2.2.2.1; omega) (by rw [catS_map]; have := C.2.2.2.2.2.2.2.2.2.2; omega) (by omega) (by show slots + R 0 (o + 2) ≤ _; omega) hd (fun q H1 hK1 hP hD hS => ?_)
  exact K_new (f := M o) (pc' := pc + 3) K X (ok_tl X.2.2.2.1) (X.2.1.1.2.2 o) (fun i => (X.2.1.1.1 o i).1 (by omega)) (by rw [ctt_13 hk, newR_own, upf_same]) hP hD hS
theorem G_cast {o : Nat} (C : CX p Rm s m args meth c D cy xa A sc Ls mi d) (hd : decode (codeOf mi) pc = .ok (.checkcast 317, 3)) (hm : clsOf mi = 16) (hk : kindOf o = 13) (K : GW p l e Rm s m args below meth c D cy xa A sc Ls mi ad0 n0 s0 Q (pc + 3) lv (vA o :: r) M R) : GW p l e Rm s m args below meth c D cy xa A sc Ls mi ad0 n0 s0 Q pc lv (vA o :: r) M R := by
  intro ad H locs cells slots ls X
  have ho : 0 < o := k_pos hk (by omega)
  have hn : o ≤ R 0 0 := ok_hd X.2.2.2.1
  have hw := C.2.2.2.1
  rw [hm] at hw
  have k := K ad H locs cells slots ls X
  rw [List.map_cons, cv_A ad xa ho] at k ⊢
  exact va_castA C.1 C.2.1 hw (C.2.2.2.2.1 _ tb_cast) X.1.1 (o - 1) ((ws_get ho hn).trans (by rw [ctt_13 hk])) (va_nm_int (C.2.2.2.2.2.1.2 0 (cy 0, .int) rfl).2) hd k
theorem G_objInit {i o : Nat} (C : CX p Rm s m args meth c D cy xa A sc Ls mi d) (hd : decode (codeOf mi) pc = .ok (.invokespecial i, 3)) (hb : bltT (clsOf mi) i = some 1) (ho : 0 < o) (hcat : catS r ≤ 8) (K : GW p l e Rm s m args below meth c D cy xa A sc Ls mi ad0 n0 s0 Q (pc + 3) lv r M R) : GW p l e Rm s m args below meth c D cy xa A sc Ls mi ad0 n0 s0 Q pc lv (vA o :: r) M R := by
  intro ad H locs cells slots ls X
  obtain ⟨b1, b2, b3⟩ := bok _ (lk_mem hb)
  have hTB := C.2.2.2.2.1
  rw [List.map_cons, cv_A ad xa ho]
  exact W.objInit C.1 C.2.1 C.2.2.2.1 (hTB _ b1) (hTB _ b2) (hTB _ b3) rfl (by show ls.size = _; rw [X.2.2.1.1.1, X.2.2.1.2.1]; exact C.2.2.1.symm) rfl hd (by have := C.2.2.2.2.2.2.2.2.2.1; omega) (by rw [catS_map]; show 2 * 0 + _ + 12 ≤ _; have := C.2.2.2.2.2.2.2.2.2.2; omega) (K ad H locs cells slots ls (X.stk (ok_tl X.2.2.2.1)))
theorem G_acopy {i a b : Nat} {n dp sp : Int} (C : CX p Rm s m args meth c D cy xa A sc Ls mi d) (hd : decode (codeOf mi) pc = .ok (.invokestatic i, 3)) (hb : bltT (clsOf mi) i = some 2) (ha1 : kindOf a = 13) (hb1 : kindOf b = 13) (h1 : 0 ≤ sp) (h2 : 0 ≤ dp) (h3 : 0 ≤ n) (h4 : sp + n ≤ (R 0 (a + 2) : Int)) (h5 : dp + n ≤ (R 0 (b + 2) : Int)) (hcat : catS r ≤ 8) (K : GW p l e Rm s m args below meth c D cy xa A sc Ls mi ad0 n0 s0 Q (pc + 3) lv r (upf M b (cpf (M a) (M b) sp.toNat dp.toNat n.toNat)) R) : GW p l e Rm s m args below meth c D cy xa A sc Ls mi ad0 n0 s0 Q pc lv (vI n :: vI dp :: vA b :: vI sp :: vA a :: r) M R := by
  intro ad H locs cells slots ls X
  obtain ⟨b1, b2, b3, b4⟩ := bok _ (lk_mem hb)
  have hTB := C.2.2.2.2.1
  have hok := X.2.2.2.1
  have hn : i32 n := ok_hd hok
  have hdp : i32 dp := ok_hd (ok_tl hok)
  have hbn : b ≤ R 0 0 := ok_hd (ok_tl (ok_tl hok))
  have hsp : i32 sp := ok_hd (ok_tl (ok_tl (ok_tl hok)))
  have han : a ≤ R 0 0 := ok_hd (ok_tl (ok_tl (ok_tl (ok_tl hok))))
  have ha0 : 0 < a := k_pos ha1 (by omega)
  have hb0 : 0 < b := k_pos hb1 (by omega)
  simp only [List.map_cons, cv_A ad xa ha0, cv_A ad xa hb0]
  refine va_copyi (ty := .int) C.1 C.2.1 (by rw [X.2.2.1.1.1, X.2.2.1.2.1]; exact C.2.2.1) C.2.2.2.1 (hTB _ b1) (hTB _ b2) (hTB _ b3) (hTB _ b4) C.2.2.2.2.2.1 X.1.1 X.1.2.1 X.1.2.2 (a - 1) (b - 1) 0 0 ((ws_get ha0 han).trans (by rw [ctt_13 ha1])) ((ws_get hb0 hbn).trans (by rw [ctt_13 hb1])) rfl rfl rfl (ge0_32 hsp h1) (ge0_32 hdp h2) (ge0_32 hn h3) (by rw [cl32 hsp, cl32 hn]; omega) (by rw [cl32 hdp, cl32 hn]; omega) (fun _ _ => rfl) (by have := C.2.2.2.2.2.2.2.2.2.1; omega) (by rw [catS_map]; have := C.2.2.2.2.2.2.2.2.2.2; show catS r + (7 + 11) ≤ _; omega) hd (fun H1 locs1 hP hD hS => ?_)
  rw [ws_set (M' := upf M b (cpf (M a) (M b) sp.toNat dp.toNat n.toNat)) (R' := R) hb0 rfl (by
    rw [ctt_13 hb1, upf_same, cl32 hsp, cl32 hdp, cl32 hn]
    congr 4
    funext j
    unfold va_cpy cpf
    split <;> rfl) (fun q hq _ => ctt_same (upf_ne _ _ hq) rfl rfl)] at hP hD
  refine K ad H1 locs1 cells slots ls (X.mem rfl hP hD hS ⟨⟨fun o j => ?_, X.2.1.1.2⟩, by rw [upf_ne _ _ (by omega)]; exact X.2.1.2.1, X.2.1.2.2⟩ (ok_tl (ok_tl (ok_tl (ok_tl (ok_tl hok))))))
  by_cases hq : o = b
  · subst hq
    rw [upf_same]
    unfold cpf
    split
    · have := (X.2.1.1.1 a (sp.toNat + (j - dp.toNat))).1 (by omega)
      exact ⟨fun _ => this, i32_i64 this⟩
    · exact X.2.1.1.1 o j
  · rw [upf_ne _ _ hq]; exact X.2.1.1.1 o j
theorem G_mmax {i : Nat} {a b : Int} (C : CX p Rm s m args meth c D cy xa A sc Ls mi d) (hd : decode (codeOf mi) pc = .ok (.invokestatic i, 3)) (hb : bltT (clsOf mi) i = some 4) (hcat : catS r ≤ 8) (hc : R 0 0 ≤ n0 + Rm.cells) (hs : R 0 1 ≤ s0 + Rm.slots) (K : GW p l e Rm s m args below meth c D cy xa A sc Ls mi ad0 n0 s0 Q (pc + 3) lv (vI (max a b) :: r) M R) : GW p l e Rm s m args below meth c D cy xa A sc Ls mi ad0 n0 s0 Q pc lv (vI b :: vI a :: r) M R := by
  intro ad H locs cells slots ls X
  obtain ⟨g1, g2, g3, g4⟩ := X.2.2.2.2.1
  obtain ⟨b1, b2, b3, b4⟩ := bok _ (lk_mem hb)
  have hTB := C.2.2.2.2.1
  have ha : i32 a := ok_hd (ok_tl X.2.2.2.1)
  have hb : i32 b := ok_hd X.2.2.2.1
  refine va_mmax C.1 C.2.1 (by rw [X.2.2.1.1.1, X.2.2.1.2.1]; exact C.2.2.1) C.2.2.2.1 (hTB _ b1) (hTB _ b2) (hTB _ b3) (hTB _ b4) (by have := C.2.2.2.2.2.2.2.2.2.1; omega) (by rw [catS_map]; have := C.2.2.2.2.2.2.2.2.2.2; omega) (by omega) (by omega) hd ?_
  rw [show (if Int32.ofInt a < Int32.ofInt b then Int32.ofInt b else Int32.ofInt a) = Int32.ofInt (max a b) by
    simp only [lt32 ha hb]
    split <;> (congr 1; omega)]
  exact K ad H locs cells slots ls (X.stk (ok_cons (show i32 (max a b) by unfold i32 at *; omega) (ok_tl (ok_tl X.2.2.2.1))))
theorem G_mmin {i : Nat} {a b : Int} (C : CX p Rm s m args meth c D cy xa A sc Ls mi d) (hd : decode (codeOf mi) pc = .ok (.invokestatic i, 3)) (hb : bltT (clsOf mi) i = some 5) (hcat : catS r ≤ 8) (hc : R 0 0 ≤ n0 + Rm.cells) (hs : R 0 1 ≤ s0 + Rm.slots) (K : GW p l e Rm s m args below meth c D cy xa A sc Ls mi ad0 n0 s0 Q (pc + 3) lv (vI (min a b) :: r) M R) : GW p l e Rm s m args below meth c D cy xa A sc Ls mi ad0 n0 s0 Q pc lv (vI b :: vI a :: r) M R := by
  intro ad H locs cells slots ls X
  obtain ⟨g1, g2, g3, g4⟩ := X.2.2.2.2.1
  obtain ⟨b1, b2, b3, b4⟩ := bok _ (lk_mem hb)
  have hTB := C.2.2.2.2.1
  have ha : i32 a := ok_hd (ok_tl X.2.2.2.1)
  have hb : i32 b := ok_hd X.2.2.2.1
  refine va_mmin C.1 C.2.1 (by rw [X.2.2.1.1.1, X.2.2.1.2.1]; exact C.2.2.1) C.2.2.2.1 (hTB _ b1) (hTB _ b2) (hTB _ b3) (hTB _ b4) (by have := C.2.2.2.2.2.2.2.2.2.1; omega) (by rw [catS_map]; have := C.2.2.2.2.2.2.2.2.2.2; omega) (by omega) (by omega) hd ?_
  rw [show (if Int32.ofInt b < Int32.ofInt a then Int32.ofInt b else Int32.ofInt a) = Int32.ofInt (min a b) by
    simp only [lt32 hb ha]
    split <;> (congr 1; omega)]
  exact K ad H locs cells slots ls (X.stk (ok_cons (show i32 (min a b) by unfold i32 at *; omega) (ok_tl (ok_tl X.2.2.2.1))))
theorem G_mabs {i : Nat} {a : Int} (C : CX p Rm s m args meth c D cy xa A sc Ls mi d) (hd : decode (codeOf mi) pc = .ok (.invokestatic i, 3)) (hb : bltT (clsOf mi) i = some 6) (hcat : catS r ≤ 8) (hc : R 0 0 ≤ n0 + Rm.cells) (hs : R 0 1 ≤ s0 + Rm.slots) (K : GW p l e Rm s m args below meth c D cy xa A sc Ls mi ad0 n0 s0 Q (pc + 3) lv (vJ (if a < 0 then w64 (-a) else a) :: r) M R) : GW p l e Rm s m args below meth c D cy xa A sc Ls mi ad0 n0 s0 Q pc lv (vJ a :: r) M R := by
  intro ad H locs cells slots ls X
  obtain ⟨g1, g2, g3, g4⟩ := X.2.2.2.2.1
  obtain ⟨b1, b2, b3, b4⟩ := bok _ (lk_mem hb)
  have hTB := C.2.2.2.2.1
  have ha : i64 a := ok_hd X.2.2.2.1
  refine va_mabs_long C.1 C.2.1 (by rw [X.2.2.1.1.1, X.2.2.1.2.1]; exact C.2.2.1) C.2.2.2.1 (hTB _ b1) (hTB _ b2) (hTB _ b3) (hTB _ b4) (by have := C.2.2.2.2.2.2.2.2.2.1; omega) (by rw [catS_map]; have := C.2.2.2.2.2.2.2.2.2.2; omega) (by omega) (by omega) hd ?_
  rw [show (if 0 < Int64.ofInt a then Int64.ofInt a else -Int64.ofInt a) = Int64.ofInt (if a < 0 then w64 (-a) else a) by
    have h0 : (0 < Int64.ofInt a) ↔ 0 < a := lt64 (i32_i64 z32) ha
    simp only [h0]
    split
    · rw [if_neg (by omega)]
    · split
      · exact neg64 a
      · have : a = 0 := by omega
        subst this; rfl]
  exact K ad H locs cells slots ls (X.stk (ok_cons (show i64 _ by split; exact w64_ok _; exact ha) (ok_tl X.2.2.2.1)))
end SND3
