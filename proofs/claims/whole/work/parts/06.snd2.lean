/-! ===== SOUNDNESS: fields, arrays, new objects ===== -/
theorem cl_at {k : Nat} (h : k < 13) : vwCl[k]? = some (cname k, TXs k, nF k) := by
  match k, h with
  | 0, _ => rfl
  | 1, _ => rfl
  | 2, _ => rfl
  | 3, _ => rfl
  | 4, _ => rfl
  | 5, _ => rfl
  | 6, _ => rfl
  | 7, _ => rfl
  | 8, _ => rfl
  | 9, _ => rfl
  | 10, _ => rfl
  | 11, _ => rfl
  | 12, _ => rfl
  | k + 13, h => omega
theorem inF {k : Nat} (h : k < 13) : ∀ w ∈ u_ws (cname k) (TXs k) (nF k), w ∈ TB := by
  match k, h with
  | 0, _ => exact ux0
  | 1, _ => exact ux1
  | 2, _ => exact ux2
  | 3, _ => exact ux3
  | 4, _ => exact ux4
  | 5, _ => exact ux5
  | 6, _ => exact ux6
  | 7, _ => exact ux7
  | 8, _ => exact ux8
  | 9, _ => exact ux9
  | 10, _ => exact ux10
  | 11, _ => exact ux11
  | 12, _ => exact ux12
  | k + 13, h => omega
theorem tyF {k : Nat} (h : k < 13) : ∀ j, j < nF k → parseFieldDescriptor (TXs k j).2.2.1 = some (tyXs k j) := by
  match k, h with
  | 0, _ => exact tyX0_ok
  | 1, _ => exact tyX1_ok
  | 2, _ => exact tyX2_ok
  | 3, _ => exact tyX3_ok
  | 4, _ => exact tyX4_ok
  | 5, _ => exact tyX5_ok
  | 6, _ => exact tyX6_ok
  | 7, _ => exact tyX7_ok
  | 8, _ => exact tyX8_ok
  | 9, _ => exact tyX9_ok
  | 10, _ => exact tyX10_ok
  | 11, _ => exact tyX11_ok
  | 12, _ => exact tyX12_ok
  | k + 13, h => omega
theorem nmF {k : Nat} (h : k < 13) : ∀ a, a < nF k → ∀ b, b < nF k → a ≠ b → (TXs k a).2.1 ≠ (TXs k b).2.1 := by
  match k, h with
  | 0, _ => exact nmX0
  | 1, _ => exact nmX1
  | 2, _ => exact nmX2
  | 3, _ => exact nmX3
  | 4, _ => exact nmX4
  | 5, _ => exact nmX5
  | 6, _ => exact nmX6
  | 7, _ => exact nmX7
  | 8, _ => exact nmX8
  | 9, _ => exact nmX9
  | 10, _ => exact nmX10
  | 11, _ => exact nmX11
  | 12, _ => exact nmX12
  | k + 13, h => omega
theorem ftyp_ok : ∀ k, k < 13 → ∀ j, j < nF k → (ftyp k j = 0 ∧ tyXs k j = .int) ∨ (ftyp k j = 2 ∧ tyXs k j = .boolean) ∨ (ftyp k j = 1 ∧ fits (tyXs k j) .null = true ∧ fits (tyXs k j) (.ref 0) = true) := by decide +kernel
theorem fit_ref {ty : FieldType} (h : fits ty (.ref 0) = true) (r : Nat) : fits ty (.ref r) = true := by cases ty <;> first | exact h | rfl
theorem nar_ref {ty : FieldType} (r : Nat) : narrow ty (.ref r) = .ref r := by cases ty <;> rfl
theorem nar_null {ty : FieldType} : narrow ty .null = .null := by cases ty <;> rfl
theorem k0 : kindOf 0 = 99 := rfl
theorem k_pos {o k : Nat} (h : kindOf o = k) (hk : k ≠ 99) : 0 < o := by
  rcases Nat.eq_zero_or_pos o with rfl | h0
  · exact absurd (h.symm.trans k0) hk
  · exact h0
theorem up_same {α : Type} (M : Nat → Nat → α) (o i : Nat) (v : α) : up M o i v o = upf (M o) i v := by simp [up, upf]
theorem up_ne {α : Type} (M : Nat → Nat → α) {o q : Nat} (i : Nat) (v : α) (h : q ≠ o) : up M o i v q = M q := by simp [up, upf, h]
theorem upf_same {α : Type} (f : Nat → α) (i : Nat) (v : α) : upf f i v i = v := by simp [upf]
theorem upf_ne {α : Type} (f : Nat → α) {i j : Nat} (v : α) (h : j ≠ i) : upf f i v j = f j := by simp [upf, h]
theorem okM.sc {sc : Nat → Int} {Ls : Nat} {M : MM} {R : RR} (h : okM sc Ls M R) : okS M R := h.1
theorem okM_up {sc : Nat → Int} {Ls : Nat} {M : MM} {R : RR} (h : okM sc Ls M R) {o i : Nat} {x : Int} (ho : 0 < o) (h1 : kindOf o ≠ 14 → i32 x) (h2 : i64 x) : okM sc Ls (up M o i x) R := by
  refine ⟨⟨fun q j => ?_, h.1.2⟩, by rw [up_ne _ _ _ (by omega)]; exact h.2.1, h.2.2⟩
  by_cases hq : q = o
  · subst hq
    rw [up_same]
    by_cases hj : j = i
    · subst hj; rw [upf_same]; exact ⟨h1, h2⟩
    · rw [upf_ne _ _ hj]; exact h.1.1 q j
  · rw [up_ne _ _ _ hq]; exact h.1.1 q j
theorem okM_upR {sc : Nat → Int} {Ls : Nat} {M : MM} {R : RR} (h : okM sc Ls M R) {o i q : Nat} (ho : 0 < o) (hq : q ≤ R 0 0) : okM sc Ls M (up R o i q) := by
  have e : up R o i q 0 = R 0 := up_ne _ _ _ (by omega)
  refine ⟨⟨h.1.1, fun a j ha => ?_, fun a => by rw [e]; exact h.1.2.2 a⟩, h.2.1, by rw [e]; exact h.2.2⟩
  rw [e]
  by_cases hq' : a = o
  · subst hq'
    rw [up_same]
    by_cases hj : j = i
    · subst hj; rw [upf_same]; exact hq
    · rw [upf_ne _ _ hj]; exact h.1.2.1 a j ha
  · rw [up_ne _ _ _ hq']; exact h.1.2.1 a j ha
theorem okV_R {R R' : RR} (h : R' 0 0 = R 0 0) {v : AV} (hv : okV R v) : okV R' v := by
  rcases v with x | x | o | k
  · exact hv
  · exact hv
  · show o ≤ R' 0 0; rw [h]; exact hv
  · trivial
theorem okV_le {R R' : RR} (h : R 0 0 ≤ R' 0 0) {v : AV} (hv : okV R v) : okV R' v := by
  rcases v with x | x | o | k
  · exact hv
  · exact hv
  · exact Nat.le_trans hv h
  · trivial
section SND2
variable {p : Program} {l : Launch} {e : Env} {Rm : Room} {s : State} {m : MethodId} {args : Array Value} {below : List Frame} {meth : Method} {c : Code} {D : va_G} {cy : Nat → ClassId} {xa : Nat → Nat} {A : Nat → Prop} {sc : Nat → Int} {Ls mi d : Nat} {ad0 : Nat → Nat} {n0 s0 : Nat} {Q : State → Prop} {pc : Nat} {lv st r : List AV} {M : MM} {R : RR}
/-- memory written, no object new -/
theorem SR.mem {st' : List AV} {M' : MM} {R' : RR} {ad : Nat → Nat} {H H1 : Heap} {locs locs1 : List Loc} {cells slots : Nat} {ls : Array Slot} (X : SR s D cy xa A sc Ls mi ad0 n0 s0 lv st M R ad H locs cells slots ls) (hR : R' 0 = R 0) (hP : va_P D vwCl (wsOf cy ad M' R') H1) (hD : va_D A (wsOf cy ad M' R')) (hS : va_S A s.heap H1 locs1) (hM : okM sc Ls M' R') (hs : ∀ v ∈ st', okV R v) : SR s D cy xa A sc Ls mi ad0 n0 s0 lv st' M' R' ad H1 locs1 cells slots ls :=
  ⟨⟨hP, hD, hS⟩, hM, ⟨X.2.2.1.1, X.2.2.1.2.1, fun v hv => okV_R (by rw [hR]) (X.2.2.1.2.2 v hv)⟩, fun v hv => okV_R (by rw [hR]) (hs v hv), by rw [hR]; exact X.2.2.2.2.1, X.2.2.2.2.2⟩
theorem fv_at {ad : Nat → Nat} {k o j : Nat} (hj : j < nF k) : ((List.range (nF k)).map (fun j => fv ad k M R o j))[j]? = some (fv ad k M R o j) := by rw [List.getElem?_map, List.getElem?_range hj]; rfl
theorem fv_set {ad : Nat → Nat} {k o i : Nat} {M' : MM} {R' : RR} {v : Value} (hi : fv ad k M' R' o i = v) (hs : ∀ j, j ≠ i → fv ad k M' R' o j = fv ad k M R o j) : ((List.range (nF k)).map (fun j => fv ad k M R o j)).set i v = (List.range (nF k)).map (fun j => fv ad k M' R' o j) := by
  apply List.ext_getElem?
  intro j
  by_cases hj : j < nF k
  · by_cases hji : j = i
    · subst hji
      rw [List.getElem?_set_self (by simpa using hj), List.getElem?_map, List.getElem?_range hj, Option.map_some, hi]
    · rw [List.getElem?_set_ne (by omega), List.getElem?_map, List.getElem?_map, List.getElem?_range hj, Option.map_some, Option.map_some, hs j hji]
  · rw [List.getElem?_eq_none (by simp; omega), List.getElem?_eq_none (by simp; omega)]
theorem G_getfield {i k sl o : Nat} (C : CX p Rm s m args meth c D cy xa A sc Ls mi d) (hd : decode (codeOf mi) pc = .ok (.getfield i, 3)) (hf : fldT (clsOf mi) i = some (k, sl)) (hk : kindOf o = k) (K : GW p l e Rm s m args below meth c D cy xa A sc Ls mi ad0 n0 s0 Q (pc + 3) lv ((if ftyp k sl = 1 then vA (R o sl) else vI (M o sl)) :: r) M R) : GW p l e Rm s m args below meth c D cy xa A sc Ls mi ad0 n0 s0 Q pc lv (vA o :: r) M R := by
  intro ad H locs cells slots ls X
  obtain ⟨f1, f2, f3⟩ := fok _ (lk_mem hf)
  simp only at f1 f2 f3
  have ho : 0 < o := k_pos hk (by omega)
  have hn : o ≤ R 0 0 := ok_hd X.2.2.2.1
  rw [List.map_cons, cv_A ad xa ho]
  refine va_get C.1 C.2.1 C.2.2.2.2.1 (inF f3) C.2.2.2.1 C.2.2.2.2.2.1 X.1.1 (o - 1) ((ws_get ho hn).trans (by rw [ctt_o (by omega), hk])) (cl_at f3) sl f2 (C.2.2.2.2.1 _ f1) (fun _ h => h) (fv_at f2) hd ?_
  have h := K ad H locs cells slots ls (X.stk (ok_cons (by split; exact X.2.1.1.2.1 o sl ho; exact (X.2.1.1.1 o sl).1 (by omega)) (ok_tl X.2.2.2.1)))
  rw [List.map_cons] at h
  unfold fv
  split
  · rename_i h1; rw [if_pos h1] at h; exact h
  · rename_i h1; rw [if_neg h1] at h; exact h
theorem fin_or {k sl : Nat} (hF : finOk mi k sl = true) : (TXs k sl).2.2.2 = false ∨ ((TXs k sl).2.2.2 = true ∧ (nmOf mi).name = "<init>" ∧ (TXs k sl).1 = cname (clsOf mi)) := by
  unfold finOk at hF
  cases h : (TXs k sl).2.2.2 with
  | false => exact .inl rfl
  | true =>
    rw [h] at hF
    simp only [Bool.not_true, Bool.false_or, Bool.and_eq_true, beq_iff_eq] at hF
    exact .inr ⟨rfl, hF.1, hF.2⟩
theorem G_putI {i k sl o : Nat} {x : Int} (C : CX p Rm s m args meth c D cy xa A sc Ls mi d) (hd : decode (codeOf mi) pc = .ok (.putfield i, 3)) (hf : fldT (clsOf mi) i = some (k, sl)) (hk : kindOf o = k) (hF : finOk mi k sl = true) (ht : ftyp k sl = 0 ∨ (ftyp k sl = 2 ∧ (x = 0 ∨ x = 1))) (K : GW p l e Rm s m args below meth c D cy xa A sc Ls mi ad0 n0 s0 Q (pc + 3) lv r (up M o sl x) R) : GW p l e Rm s m args below meth c D cy xa A sc Ls mi ad0 n0 s0 Q pc lv (vI x :: vA o :: r) M R := by
  intro ad H locs cells slots ls X
  obtain ⟨f1, f2, f3⟩ := fok _ (lk_mem hf)
  simp only at f1 f2 f3
  have ho : 0 < o := k_pos hk (by omega)
  have hn : o ≤ R 0 0 := ok_hd (ok_tl X.2.2.2.1)
  have hx : i32 x := ok_hd X.2.2.2.1
  have hnar : narrow (tyXs k sl) (.int (Int32.ofInt x)) = .int (Int32.ofInt x) ∧ fits (tyXs k sl) (.int (Int32.ofInt x)) = true := by
    rcases ftyp_ok k f3 sl f2 with ⟨-, e⟩ | ⟨h2, e⟩ | ⟨h2, -⟩
    · rw [e]; exact ⟨rfl, rfl⟩
    · rw [e]
      rcases ht with h | ⟨-, rfl | rfl⟩
      · omega
      · exact ⟨rfl, rfl⟩
      · exact ⟨rfl, rfl⟩
    · omega
  rw [List.map_cons, List.map_cons, cv_A ad xa ho]
  have hw : (wsOf cy ad M R)[o - 1]? = some (ad o, .inr (k, (List.range (nF k)).map (fun j => fv ad k M R o j))) := (ws_get ho hn).trans (by rw [ctt_o (by omega), hk])
  have hs : (wsOf cy ad M R).set (o - 1) (ad o, .inr (k, ((List.range (nF k)).map (fun j => fv ad k M R o j)).set sl (.int (Int32.ofInt x)))) = wsOf cy ad (up M o sl x) R := by
    refine ws_set ho rfl ?_ (fun q hq _ => ctt_same (up_ne _ _ _ hq) rfl rfl)
    rw [ctt_o (by omega), hk, fv_set (M' := up M o sl x) (R' := R)]
    · unfold fv; rw [if_neg (by omega), up_same, upf_same]
    · intro j hj; unfold fv; rw [up_same, upf_ne _ _ hj]
  have kk : ∀ (H1 : Heap) (locs1 : List Loc), va_P D vwCl ((wsOf cy ad M R).set (o - 1) (ad o, .inr (k, ((List.range (nF k)).map (fun j => fv ad k M R o j)).set sl (.int (Int32.ofInt x))))) H1 → va_D A ((wsOf cy ad M R).set (o - 1) (ad o, .inr (k, ((List.range (nF k)).map (fun j => fv ad k M R o j)).set sl (.int (Int32.ofInt x))))) → va_S A s.heap H1 locs1 → W p l e Rm s m args below meth c H1 locs1 cells slots Q (F0 m (pc + 3) ls (r.map (cv ad xa))) := by
    intro H1 locs1 hP hD hS
    rw [hs] at hP hD
    exact K ad H1 locs1 cells slots ls (X.mem rfl hP hD hS (okM_up X.2.1 ho (fun _ => hx) (i32_i64 hx)) (ok_tl (ok_tl X.2.2.2.1)))
  rcases fin_or hF with h | ⟨h, h1, h2⟩
  · exact va_put C.1 C.2.1 C.2.2.2.2.1 (inF f3) (tyXs k) (tyF f3) (nmF f3) C.2.2.2.1 C.2.2.2.2.2.1 X.1.1 X.1.2.1 X.1.2.2 (o - 1) hw (cl_at f3) sl f2 (C.2.2.2.2.1 _ f1) (fun _ h => h) h (tyF f3 sl f2) hnar.1 hnar.2 (by simpa using f2) hd kk
  · exact va_putF C.1 C.2.1 C.2.2.2.2.1 (inF f3) (tyXs k) (tyF f3) (nmF f3) C.2.2.2.1 C.2.2.2.2.2.1 X.1.1 X.1.2.1 X.1.2.2 (o - 1) hw (cl_at f3) sl f2 (C.2.2.2.2.1 _ f1) (fun _ h => h) h (C.2.2.2.2.2.2.2.2.1 h1) h2 (tyF f3 sl f2) hnar.1 hnar.2 (by simpa using f2) hd kk
theorem G_putA {i k sl o q : Nat} (C : CX p Rm s m args meth c D cy xa A sc Ls mi d) (hd : decode (codeOf mi) pc = .ok (.putfield i, 3)) (hf : fldT (clsOf mi) i = some (k, sl)) (hk : kindOf o = k) (hF : finOk mi k sl = true) (ht : ftyp k sl = 1) (K : GW p l e Rm s m args below meth c D cy xa A sc Ls mi ad0 n0 s0 Q (pc + 3) lv r M (up R o sl q)) : GW p l e Rm s m args below meth c D cy xa A sc Ls mi ad0 n0 s0 Q pc lv (vA q :: vA o :: r) M R := by
  intro ad H locs cells slots ls X
  obtain ⟨f1, f2, f3⟩ := fok _ (lk_mem hf)
  simp only at f1 f2 f3
  have ho : 0 < o := k_pos hk (by omega)
  have hn : o ≤ R 0 0 := ok_hd (ok_tl X.2.2.2.1)
  have hq : q ≤ R 0 0 := ok_hd X.2.2.2.1
  have hnar : narrow (tyXs k sl) (va_rf (rfo ad q)) = va_rf (rfo ad q) ∧ fits (tyXs k sl) (va_rf (rfo ad q)) = true := by
    rcases ftyp_ok k f3 sl f2 with ⟨e, -⟩ | ⟨e, -⟩ | ⟨-, e1, e2⟩
    · omega
    · omega
    · unfold rfo
      split
      · exact ⟨nar_null, e1⟩
      · exact ⟨nar_ref _, fit_ref e2 _⟩
  rw [List.map_cons, List.map_cons, cv_A ad xa ho]
  have hw : (wsOf cy ad M R)[o - 1]? = some (ad o, .inr (k, (List.range (nF k)).map (fun j => fv ad k M R o j))) := (ws_get ho hn).trans (by rw [ctt_o (by omega), hk])
  have e0 : up R o sl q 0 = R 0 := up_ne _ _ _ (by omega)
  have hs : (wsOf cy ad M R).set (o - 1) (ad o, .inr (k, ((List.range (nF k)).map (fun j => fv ad k M R o j)).set sl (va_rf (rfo ad q)))) = wsOf cy ad M (up R o sl q) := by
    refine ws_set ho (by rw [e0]) ?_ (fun a ha _ => ctt_same rfl (up_ne _ _ _ ha) (by rw [e0]))
    rw [ctt_o (by omega), hk, fv_set (M' := M) (R' := up R o sl q)]
    · unfold fv; rw [if_pos ht, up_same, upf_same]
    · intro j hj; unfold fv; rw [up_same, upf_ne _ _ hj]
  have kk : ∀ (H1 : Heap) (locs1 : List Loc), va_P D vwCl ((wsOf cy ad M R).set (o - 1) (ad o, .inr (k, ((List.range (nF k)).map (fun j => fv ad k M R o j)).set sl (va_rf (rfo ad q))))) H1 → va_D A ((wsOf cy ad M R).set (o - 1) (ad o, .inr (k, ((List.range (nF k)).map (fun j => fv ad k M R o j)).set sl (va_rf (rfo ad q))))) → va_S A s.heap H1 locs1 → W p l e Rm s m args below meth c H1 locs1 cells slots Q (F0 m (pc + 3) ls (r.map (cv ad xa))) := by
    intro H1 locs1 hP hD hS
    rw [hs] at hP hD
    exact K ad H1 locs1 cells slots ls (X.mem e0 hP hD hS (okM_upR X.2.1 ho hq) (ok_tl (ok_tl X.2.2.2.1)))
  rcases fin_or hF with h | ⟨h, h1, h2⟩
  · exact va_put C.1 C.2.1 C.2.2.2.2.1 (inF f3) (tyXs k) (tyF f3) (nmF f3) C.2.2.2.1 C.2.2.2.2.2.1 X.1.1 X.1.2.1 X.1.2.2 (o - 1) hw (cl_at f3) sl f2 (C.2.2.2.2.1 _ f1) (fun _ h => h) h (tyF f3 sl f2) hnar.1 hnar.2 (by simpa using f2) hd kk
  · exact va_putF C.1 C.2.1 C.2.2.2.2.1 (inF f3) (tyXs k) (tyF f3) (nmF f3) C.2.2.2.1 C.2.2.2.2.2.1 X.1.1 X.1.2.1 X.1.2.2 (o - 1) hw (cl_at f3) sl f2 (C.2.2.2.2.1 _ f1) (fun _ h => h) h (C.2.2.2.2.2.2.2.2.1 h1) h2 (tyF f3 sl f2) hnar.1 hnar.2 (by simpa using f2) hd kk
theorem G_iaload {i : Int} {o : Nat} (C : CX p Rm s m args meth c D cy xa A sc Ls mi d) (hd : decode (codeOf mi) pc = .ok (.iaload, 1)) (hk : kindOf o = 13) (h0 : 0 ≤ i) (h1 : i < (R 0 (o + 2) : Int)) (K : GW p l e Rm s m args below meth c D cy xa A sc Ls mi ad0 n0 s0 Q (pc + 1) lv (vI (M o i.toNat) :: r) M R) : GW p l e Rm s m args below meth c D cy xa A sc Ls mi ad0 n0 s0 Q pc lv (vI i :: vA o :: r) M R := by
  intro ad H locs cells slots ls X
  have ho : 0 < o := k_pos hk (by omega)
  have hn : o ≤ R 0 0 := ok_hd (ok_tl X.2.2.2.1)
  have hi : i32 i := ok_hd X.2.2.2.1
  rw [List.map_cons, List.map_cons, cv_A ad xa ho]
  refine va_iald C.1 C.2.1 C.2.2.2.2.2.1 X.1.1 (o - 1) 0 ((ws_get ho hn).trans (by rw [ctt_13 hk])) rfl (vp_in32 hi h0 h1) hd ?_
  rw [cl32 hi]
  exact K ad H locs cells slots ls (X.stk (ok_cons ((X.2.1.1.1 o i.toNat).1 (by omega)) (ok_tl (ok_tl X.2.2.2.1))))
theorem G_baload {i : Int} {o : Nat} (C : CX p Rm s m args meth c D cy xa A sc Ls mi d) (hd : decode (codeOf mi) pc = .ok (.baload, 1)) (hk : kindOf o = 15) (h0 : 0 ≤ i) (h1 : i < (R 0 (o + 2) : Int)) (K : GW p l e Rm s m args below meth c D cy xa A sc Ls mi ad0 n0 s0 Q (pc + 1) lv (vI (M o i.toNat) :: r) M R) : GW p l e Rm s m args below meth c D cy xa A sc Ls mi ad0 n0 s0 Q pc lv (vI i :: vA o :: r) M R := by
  intro ad H locs cells slots ls X
  have ho : 0 < o := k_pos hk (by omega)
  have hn : o ≤ R 0 0 := ok_hd (ok_tl X.2.2.2.1)
  have hi : i32 i := ok_hd X.2.2.2.1
  rw [List.map_cons, List.map_cons, cv_A ad xa ho]
  refine va_zald C.1 C.2.1 C.2.2.2.2.2.1 X.1.1 (o - 1) 2 ((ws_get ho hn).trans (by rw [ctt_15 hk])) rfl (vp_in32 hi h0 h1) hd ?_
  rw [cl32 hi]
  exact K ad H locs cells slots ls (X.stk (ok_cons ((X.2.1.1.1 o i.toNat).1 (by omega)) (ok_tl (ok_tl X.2.2.2.1))))
theorem G_laload {i : Int} {o : Nat} (C : CX p Rm s m args meth c D cy xa A sc Ls mi d) (hd : decode (codeOf mi) pc = .ok (.laload, 1)) (hk : kindOf o = 14) (h0 : 0 ≤ i) (h1 : i < (R 0 (o + 2) : Int)) (K : GW p l e Rm s m args below meth c D cy xa A sc Ls mi ad0 n0 s0 Q (pc + 1) lv (vJ (M o i.toNat) :: r) M R) : GW p l e Rm s m args below meth c D cy xa A sc Ls mi ad0 n0 s0 Q pc lv (vI i :: vA o :: r) M R := by
  intro ad H locs cells slots ls X
  have ho : 0 < o := k_pos hk (by omega)
  have hn : o ≤ R 0 0 := ok_hd (ok_tl X.2.2.2.1)
  have hi : i32 i := ok_hd X.2.2.2.1
  rw [List.map_cons, List.map_cons, cv_A ad xa ho]
  refine va_lald C.1 C.2.1 C.2.2.2.2.2.1 X.1.1 (o - 1) 1 ((ws_get ho hn).trans (by rw [ctt_14 hk])) rfl (vp_in32 hi h0 h1) hd ?_
  rw [cl32 hi]
  exact K ad H locs cells slots ls (X.stk (ok_cons ((X.2.1.1.1 o i.toNat).2) (ok_tl (ok_tl X.2.2.2.1))))
theorem G_aaload {i : Int} {o : Nat} (C : CX p Rm s m args meth c D cy xa A sc Ls mi d) (hd : decode (codeOf mi) pc = .ok (.aaload, 1)) (hk : kindOf o = 16 ∨ kindOf o = 17) (h0 : 0 ≤ i) (h1 : i < (R 0 (o + 2) : Int)) (K : GW p l e Rm s m args below meth c D cy xa A sc Ls mi ad0 n0 s0 Q (pc + 1) lv (vA (R o i.toNat) :: r) M R) : GW p l e Rm s m args below meth c D cy xa A sc Ls mi ad0 n0 s0 Q pc lv (vI i :: vA o :: r) M R := by
  intro ad H locs cells slots ls X
  have ho : 0 < o := by rcases hk with hk | hk <;> exact k_pos hk (by omega)
  have hn : o ≤ R 0 0 := ok_hd (ok_tl X.2.2.2.1)
  have hi : i32 i := ok_hd X.2.2.2.1
  rw [List.map_cons, List.map_cons, cv_A ad xa ho]
  have k := K ad H locs cells slots ls (X.stk (ok_cons (X.2.1.1.2.1 o i.toNat ho) (ok_tl (ok_tl X.2.2.2.1))))
  rcases hk with hk | hk
  · exact va_aldq (C := RX4) C.1 C.2.1 C.2.2.2.2.2.1 X.1.1 (o - 1) 3 ((ws_get ho hn).trans (by rw [ctt_16 hk])) rfl (vp_in32 hi h0 h1) hd (by rw [cl32 hi]; exact k)
  · exact va_aldq (C := RX7) C.1 C.2.1 C.2.2.2.2.2.1 X.1.1 (o - 1) 4 ((ws_get ho hn).trans (by rw [ctt_17 hk])) rfl (vp_in32 hi h0 h1) hd (by rw [cl32 hi]; exact k)
theorem G_sload {i : Int} (C : CX p Rm s m args meth c D cy xa A sc Ls mi d) (hd : decode (codeOf mi) pc = .ok (.iaload, 1)) (h0 : 0 ≤ i) (h1 : i < (R 0 2 : Int)) (K : GW p l e Rm s m args below meth c D cy xa A sc Ls mi ad0 n0 s0 Q (pc + 1) lv (vI (M 0 i.toNat) :: r) M R) : GW p l e Rm s m args below meth c D cy xa A sc Ls mi ad0 n0 s0 Q pc lv (vI i :: vX 2 :: r) M R := by
  intro ad H locs cells slots ls X
  have hi : i32 i := ok_hd X.2.2.2.1
  obtain ⟨g1, g2, g3⟩ := C.2.2.2.2.2.2.2.1.2.2.2.2
  refine va_sld C.1 C.2.1 g1 g2 g3 X.1.2.2 (vp_in32 hi h0 (by rw [← X.2.1.2.2]; exact h1)) hd ?_
  rw [cl32 hi, ← X.2.1.2.1]
  exact K ad H locs cells slots ls (X.stk (ok_cons ((X.2.1.1.1 0 i.toNat).1 (by rw [k0]; omega)) (ok_tl (ok_tl X.2.2.2.1))))
theorem G_slen  (C : CX p Rm s m args meth c D cy xa A sc Ls mi d) (hd : decode (codeOf mi) pc = .ok (.arraylength, 1)) (K : GW p l e Rm s m args below meth c D cy xa A sc Ls mi ad0 n0 s0 Q (pc + 1) lv (vI (R 0 2) :: r) M R) : GW p l e Rm s m args below meth c D cy xa A sc Ls mi ad0 n0 s0 Q pc lv (vX 2 :: r) M R := by
  intro ad H locs cells slots ls X
  obtain ⟨g1, g2, g3⟩ := C.2.2.2.2.2.2.2.1.2.2.2.2
  refine va_slen C.1 C.2.1 g1 g2 g3 X.1.2.2 hd ?_
  have hl := X.2.1.1.2.2 0
  rw [← X.2.1.2.2]
  exact K ad H locs cells slots ls (X.stk (ok_cons (show i32 _ by unfold i32; simp only [Nat.zero_add] at hl; omega) (ok_tl X.2.2.2.1)))
theorem G_alen {o : Nat} (C : CX p Rm s m args meth c D cy xa A sc Ls mi d) (hd : decode (codeOf mi) pc = .ok (.arraylength, 1)) (hk : 13 ≤ kindOf o ∧ kindOf o ≤ 17) (K : GW p l e Rm s m args below meth c D cy xa A sc Ls mi ad0 n0 s0 Q (pc + 1) lv (vI (R 0 (o + 2)) :: r) M R) : GW p l e Rm s m args below meth c D cy xa A sc Ls mi ad0 n0 s0 Q pc lv (vA o :: r) M R := by
  intro ad H locs cells slots ls X
  have ho : 0 < o := by rcases Nat.eq_zero_or_pos o with rfl | h; (have := k0; omega); exact h
  have hn : o ≤ R 0 0 := ok_hd X.2.2.2.1
  have hl := X.2.1.1.2.2 o
  have k := K ad H locs cells slots ls (X.stk (ok_cons (show i32 _ by unfold i32; omega) (ok_tl X.2.2.2.1)))
  rw [List.map_cons, cv_A ad xa ho]
  have hc : kindOf o = 13 ∨ kindOf o = 14 ∨ kindOf o = 15 ∨ kindOf o = 16 ∨ kindOf o = 17 := by omega
  rcases hc with hc | hc | hc | hc | hc
  · exact va_alen (v := Int32.ofInt (R 0 (o + 2) : Int)) C.1 C.2.1 C.2.2.2.2.2.1 X.1.1 (o - 1) 0 ((ws_get ho hn).trans (by rw [ctt_13 hc])) rfl rfl hd k
  · exact va_alen (v := Int32.ofInt (R 0 (o + 2) : Int)) C.1 C.2.1 C.2.2.2.2.2.1 X.1.1 (o - 1) 1 ((ws_get ho hn).trans (by rw [ctt_14 hc])) rfl rfl hd k
  · exact va_alen (v := Int32.ofInt (R 0 (o + 2) : Int)) C.1 C.2.1 C.2.2.2.2.2.1 X.1.1 (o - 1) 2 ((ws_get ho hn).trans (by rw [ctt_15 hc])) rfl rfl hd k
  · exact va_alen (v := Int32.ofInt (R 0 (o + 2) : Int)) C.1 C.2.1 C.2.2.2.2.2.1 X.1.1 (o - 1) 3 ((ws_get ho hn).trans (by rw [ctt_16 hc])) rfl rfl hd k
  · exact va_alen (v := Int32.ofInt (R 0 (o + 2) : Int)) C.1 C.2.1 C.2.2.2.2.2.1 X.1.1 (o - 1) 4 ((ws_get ho hn).trans (by rw [ctt_17 hc])) rfl rfl hd k
theorem G_iastore {i x : Int} {o : Nat} (C : CX p Rm s m args meth c D cy xa A sc Ls mi d) (hd : decode (codeOf mi) pc = .ok (.iastore, 1)) (hk : kindOf o = 13) (h0 : 0 ≤ i) (h1 : i < (R 0 (o + 2) : Int)) (K : GW p l e Rm s m args below meth c D cy xa A sc Ls mi ad0 n0 s0 Q (pc + 1) lv r (up M o i.toNat x) R) : GW p l e Rm s m args below meth c D cy xa A sc Ls mi ad0 n0 s0 Q pc lv (vI x :: vI i :: vA o :: r) M R := by
  intro ad H locs cells slots ls X
  have ho : 0 < o := k_pos hk (by omega)
  have hn : o ≤ R 0 0 := ok_hd (ok_tl (ok_tl X.2.2.2.1))
  have hi : i32 i := ok_hd (ok_tl X.2.2.2.1)
  have hx : i32 x := ok_hd X.2.2.2.1
  rw [List.map_cons, List.map_cons, List.map_cons, cv_A ad xa ho]
  refine va_iast C.1 C.2.1 C.2.2.2.2.2.1 X.1.1 X.1.2.1 X.1.2.2 (o - 1) 0 ((ws_get ho hn).trans (by rw [ctt_13 hk])) rfl (vp_in32 hi h0 h1) hd (fun H1 locs1 hP hD hS => ?_)
  have hs := fun (F : Nat → Int32) (hF : F = fun j => Int32.ofInt (up M o i.toNat x o j)) => ws_set (cy := cy) (ad := ad) (M := M) (R := R) (M' := up M o i.toNat x) (R' := R) (o := o) (e := .inl (cy 0, (R 0 (o + 2), .inl F))) ho rfl (by rw [ctt_13 hk, hF]) (fun q hq _ => ctt_same (up_ne _ _ _ hq) rfl rfl)
  rw [hs _ (by
    funext j
    rw [cl32 hi, up_same]
    unfold upd upf
    split
    · rfl
    · rfl)] at hP hD
  exact K ad H1 locs1 cells slots ls (X.mem rfl hP hD hS (okM_up X.2.1 ho (fun h => hx) (i32_i64 hx)) (ok_tl (ok_tl (ok_tl X.2.2.2.1))))
theorem G_lastore {i x : Int} {o : Nat} (C : CX p Rm s m args meth c D cy xa A sc Ls mi d) (hd : decode (codeOf mi) pc = .ok (.lastore, 1)) (hk : kindOf o = 14) (h0 : 0 ≤ i) (h1 : i < (R 0 (o + 2) : Int)) (K : GW p l e Rm s m args below meth c D cy xa A sc Ls mi ad0 n0 s0 Q (pc + 1) lv r (up M o i.toNat x) R) : GW p l e Rm s m args below meth c D cy xa A sc Ls mi ad0 n0 s0 Q pc lv (vJ x :: vI i :: vA o :: r) M R := by
  intro ad H locs cells slots ls X
  have ho : 0 < o := k_pos hk (by omega)
  have hn : o ≤ R 0 0 := ok_hd (ok_tl (ok_tl X.2.2.2.1))
  have hi : i32 i := ok_hd (ok_tl X.2.2.2.1)
  have hx : i64 x := ok_hd X.2.2.2.1
  rw [List.map_cons, List.map_cons, List.map_cons, cv_A ad xa ho]
  refine va_last C.1 C.2.1 C.2.2.2.2.2.1 X.1.1 X.1.2.1 X.1.2.2 (o - 1) 1 ((ws_get ho hn).trans (by rw [ctt_14 hk])) rfl (vp_in32 hi h0 h1) hd (fun H1 locs1 hP hD hS => ?_)
  have hs := fun (F : Nat → Int64) (hF : F = fun j => Int64.ofInt (up M o i.toNat x o j)) => ws_set (cy := cy) (ad := ad) (M := M) (R := R) (M' := up M o i.toNat x) (R' := R) (o := o) (e := .inl (cy 1, (R 0 (o + 2), .inr (.inl F)))) ho rfl (by rw [ctt_14 hk, hF]) (fun q hq _ => ctt_same (up_ne _ _ _ hq) rfl rfl)
  rw [hs _ (by
    funext j
    rw [cl32 hi, up_same]
    unfold vp_updL upf
    split
    · rfl
    · rfl)] at hP hD
  exact K ad H1 locs1 cells slots ls (X.mem rfl hP hD hS (okM_up X.2.1 ho (fun h => absurd hk h) (hx)) (ok_tl (ok_tl (ok_tl X.2.2.2.1))))
theorem G_bastore {i x : Int} {o : Nat} (C : CX p Rm s m args meth c D cy xa A sc Ls mi d) (hd : decode (codeOf mi) pc = .ok (.bastore, 1)) (hk : kindOf o = 15) (hx01 : x = 0 ∨ x = 1) (h0 : 0 ≤ i) (h1 : i < (R 0 (o + 2) : Int)) (K : GW p l e Rm s m args below meth c D cy xa A sc Ls mi ad0 n0 s0 Q (pc + 1) lv r (up M o i.toNat x) R) : GW p l e Rm s m args below meth c D cy xa A sc Ls mi ad0 n0 s0 Q pc lv (vI x :: vI i :: vA o :: r) M R := by
  intro ad H locs cells slots ls X
  have ho : 0 < o := k_pos hk (by omega)
  have hn : o ≤ R 0 0 := ok_hd (ok_tl (ok_tl X.2.2.2.1))
  have hi : i32 i := ok_hd (ok_tl X.2.2.2.1)
  have hx : i32 x := ok_hd X.2.2.2.1
  rw [List.map_cons, List.map_cons, List.map_cons, cv_A ad xa ho]
  refine va_zast C.1 C.2.1 C.2.2.2.2.2.1 X.1.1 X.1.2.1 X.1.2.2 (o - 1) 2 ((ws_get ho hn).trans (by rw [ctt_15 hk])) rfl (vp_in32 hi h0 h1) hd (fun H1 locs1 hP hD hS => ?_)
  have hs := fun (F : Nat → Int32) (hF : F = fun j => Int32.ofInt (up M o i.toNat x o j)) => ws_set (cy := cy) (ad := ad) (M := M) (R := R) (M' := up M o i.toNat x) (R' := R) (o := o) (e := .inl (cy 2, (R 0 (o + 2), .inl F))) ho rfl (by rw [ctt_15 hk, hF]) (fun q hq _ => ctt_same (up_ne _ _ _ hq) rfl rfl)
  rw [hs _ (by
    funext j
    rw [cl32 hi, up_same]
    unfold upd upf
    split
    · rcases hx01 with rfl | rfl <;> rfl
    · rfl)] at hP hD
  exact K ad H1 locs1 cells slots ls (X.mem rfl hP hD hS (okM_up X.2.1 ho (fun h => hx) (i32_i64 hx)) (ok_tl (ok_tl (ok_tl X.2.2.2.1))))
theorem G_aastore {i : Int} {o q : Nat} (C : CX p Rm s m args meth c D cy xa A sc Ls mi d) (hd : decode (codeOf mi) pc = .ok (.aastore, 1)) (hk : (kindOf o = 16 ∧ kindOf q = 4) ∨ (kindOf o = 17 ∧ kindOf q = 7)) (h0 : 0 ≤ i) (h1 : i < (R 0 (o + 2) : Int)) (K : GW p l e Rm s m args below meth c D cy xa A sc Ls mi ad0 n0 s0 Q (pc + 1) lv r M (up R o i.toNat q)) : GW p l e Rm s m args below meth c D cy xa A sc Ls mi ad0 n0 s0 Q pc lv (vA q :: vI i :: vA o :: r) M R := by
  intro ad H locs cells slots ls X
  have ho : 0 < o := by rcases hk with hk | hk <;> exact k_pos hk.1 (by omega)
  have hq : 0 < q := by rcases hk with hk | hk <;> exact k_pos hk.2 (by omega)
  have hn : o ≤ R 0 0 := ok_hd (ok_tl (ok_tl X.2.2.2.1))
  have hi : i32 i := ok_hd (ok_tl X.2.2.2.1)
  have hqn : q ≤ R 0 0 := ok_hd X.2.2.2.1
  rw [List.map_cons, List.map_cons, List.map_cons, cv_A ad xa ho, cv_A ad xa hq]
  have e0 : up R o i.toNat q 0 = R 0 := up_ne _ _ _ (by omega)
  have eF : va_up (fun j => rfo ad (R o j)) (Int32.ofInt i).toNatClampNeg (some (ad q)) = fun j => rfo ad (up R o i.toNat q o j) := by
    funext j
    rw [cl32 hi, up_same]
    unfold va_up upf
    split
    · unfold rfo; rw [if_neg (by omega)]
    · rfl
  rcases hk with ⟨hk, hk2⟩ | ⟨hk, hk2⟩
  · refine va_astq (r := (RX4, TX4, nF 4)) C.1 C.2.1 C.2.2.2.2.2.1 X.1.1 X.1.2.1 X.1.2.2 (o - 1) 3 (q - 1) 4 ((ws_get ho hn).trans (by rw [ctt_16 hk])) rfl ((ws_get hq hqn).trans (by rw [ctt_o (by omega), hk2])) (cl_at (by omega)) (vp_in32 hi h0 h1) hd (fun H1 locs1 hP hD hS => ?_)
    rw [eF, ws_set (M' := M) (R' := up R o i.toNat q) ho (by rw [e0]) (by rw [ctt_16 hk, e0]) (fun a ha _ => ctt_same rfl (up_ne _ _ _ ha) (by rw [e0]))] at hP hD
    exact K ad H1 locs1 cells slots ls (X.mem e0 hP hD hS (okM_upR X.2.1 ho hqn) (ok_tl (ok_tl (ok_tl X.2.2.2.1))))
  · refine va_astq (r := (RX7, TX7, nF 7)) C.1 C.2.1 C.2.2.2.2.2.1 X.1.1 X.1.2.1 X.1.2.2 (o - 1) 4 (q - 1) 7 ((ws_get ho hn).trans (by rw [ctt_17 hk])) rfl ((ws_get hq hqn).trans (by rw [ctt_o (by omega), hk2])) (cl_at (by omega)) (vp_in32 hi h0 h1) hd (fun H1 locs1 hP hD hS => ?_)
    rw [eF, ws_set (M' := M) (R' := up R o i.toNat q) ho (by rw [e0]) (by rw [ctt_17 hk, e0]) (fun a ha _ => ctt_same rfl (up_ne _ _ _ ha) (by rw [e0]))] at hP hD
    exact K ad H1 locs1 cells slots ls (X.mem e0 hP hD hS (okM_upR X.2.1 ho hqn) (ok_tl (ok_tl (ok_tl X.2.2.2.1))))
end SND2
