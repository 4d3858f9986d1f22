/-! ===== SOUNDNESS: calls, a run, a method's contract ===== -/
def Qg (D : va_G) (cy : Nat → ClassId) (xa : Nat → Nat) (A : Nat → Prop) (sc : Nat → Int) (Ls n0 : Nat) (ad0 : Nat → Nat) (v : AV) (M' : MM) (R' : RR) : Array Value → State → Outcome → State → Prop := fun _ st oc t =>
  (∃ ad : Nat → Nat, oc = .returned ((pushv v []).head?.map (cv ad xa)) ∧ (∀ o, o ≤ n0 → ad o = ad0 o) ∧ va_P D vwCl (wsOf cy ad M' R') t.heap ∧ va_D A (wsOf cy ad M' R') ∧ okM sc Ls M' R' ∧ okV R' v) ∧ va_F A st t
def Pg (D : va_G) (cy : Nat → ClassId) (xa : Nat → Nat) (A : Nat → Prop) (sc : Nat → Int) (Ls : Nat) (ad : Nat → Nat) (av : List AV) (M : MM) (R : RR) : Array Value → State → Prop :=
  va_Pc (av.map (cv ad xa)) (fun U => va_P D vwCl (wsOf cy ad M R) U.heap ∧ va_D A (wsOf cy ad M R) ∧ va_K D vwCl (tys cy) U ∧ EX A xa sc Ls U ∧ ∀ q, U.heap.size ≤ q → A q)
def wsF (mi : Nat) : List Cond := Cond.code (nmOf mi) (codeOf mi) (maxLOf mi) (retOf mi) :: TB
def rmF (d : Nat) (R R' : RR) : Room := { frames := d + 4, cells := R' 0 0 - R 0 0, slots := R' 0 1 - R 0 1, locals := 60 * d + 100 }
def SC (l : Launch) (D : va_G) (cy : Nat → ClassId) (xa : Nat → Nat) (A : Nat → Prop) (sc : Nat → Int) (Ls d : Nat) (cf : CF) : Prop := ∀ (mi : Nat) (av : List AV) (M : MM) (R : RR) (v : AV) (M' : MM) (R' : RR), cf mi av M R = some (v, M', R') → okM sc Ls M R → (∀ a ∈ av, okV R a) →
  mi < 261 ∧ retOk mi v = true ∧ ∀ ad : Nat → Nat, Met l (nmOf mi) (wsF mi) (rmF d R R') (Pg D cy xa A sc Ls ad av M R) (Qg D cy xa A sc Ls (R 0 0) ad v M' R') (R' 0 0 - R 0 0) (R' 0 1 - R 0 1) A
def mono (R R' : RR) : Prop := R 0 0 ≤ R' 0 0 ∧ R 0 1 ≤ R' 0 1
theorem mono.rf {R : RR} : mono R R := ⟨Nat.le_refl _, Nat.le_refl _⟩
def CM (cf : CF) : Prop := ∀ (mi : Nat) (av : List AV) (M : MM) (R : RR) (v : AV) (M' : MM) (R' : RR), cf mi av M R = some (v, M', R') → mono R R'
theorem EX.same {A : Nat → Prop} {xa : Nat → Nat} {sc : Nat → Int} {Ls : Nat} {u U : State} (h : EX A xa sc Ls u) (hv : U.vm = u.vm) (hh : U.heap = u.heap) : EX A xa sc Ls U := by
  have hvm : u.vm.Alike U.vm := by rw [hv]; exact Vm.Alike.refl _
  obtain ⟨h1, h2, h3, ⟨g1, ⟨aV, g2⟩, g3, g4⟩, h5, h6⟩ := h
  rw [← hh] at g2 g3 g4 h5 h6
  exact ⟨h1.moved hvm, h2.moved hvm, h3.same rfl hv.symm, ⟨g1.same hv, ⟨aV, g2.moved hvm⟩, g3.moved hvm, g4.moved hvm⟩, h5.moved hvm, h6⟩
theorem Pg.blind {D : va_G} {cy : Nat → ClassId} {xa : Nat → Nat} {A : Nat → Prop} {sc : Nat → Int} {Ls : Nat} {ad : Nat → Nat} {av : List AV} {M : MM} {R : RR} : FrameBlind (Pg D cy xa A sc Ls ad av M R) := fun a U g mk h => by
  obtain ⟨h1, hP, hD, hK, hE, hA⟩ := h
  exact ⟨h1, hP, hD, va_K.moved (u := U) (U := U.calling g mk a) (Vm.Alike.refl U.vm) hK, EX.same (u := U) hE rfl rfl, hA⟩
theorem good_l {ws : List Cond} (h : ∀ w ∈ ws, w ∈ TB) : GoodIn TB ws := fun w hw => tb_good w (h w hw)
theorem wsF_in {mi : Nat} (h : mi < 261) : ∀ w ∈ wsF mi, w ∈ TB := fun w hw => (List.mem_cons.mp hw).elim (fun e => e ▸ (mok h).1) (fun h => h)
section SND4
variable {p : Program} {l : Launch} {e : Env} {Rm : Room} {s : State} {m : MethodId} {args : Array Value} {below : List Frame} {meth : Method} {c : Code} {D : va_G} {cy : Nat → ClassId} {xa : Nat → Nat} {A : Nat → Prop} {sc : Nat → Int} {Ls mi d : Nat} {ad0 : Nat → Nat} {n0 s0 : Nat} {Q : State → Prop} {pc : Nat} {lv st r : List AV} {M : MM} {R : RR}
theorem cm_call {v : AV} {M' : MM} {R' : RR} {n mc ms : Nat} {ad : Nat → Nat} {a : Array Value} {H : Heap} {locs : List Loc} {cells slots : Nat} {ls : Array Slot} {st0 rest : List Value} (hr : va_Run p l e Rm s m args below meth c H locs cells slots mc ms (F0 m pc ls st0) rest (Qg D cy xa A sc Ls n ad v M' R' a) A) (hS : va_S A s.heap H locs)
    (kk : ∀ (ad' : Nat → Nat) (H1 : Heap) (locs1 : List Loc), (∀ o, o ≤ n → ad' o = ad o) → va_P D vwCl (wsOf cy ad' M' R') H1 → va_D A (wsOf cy ad' M' R') → okM sc Ls M' R' → okV R' v → va_S A s.heap H1 locs1 → W p l e Rm s m args below meth c H1 locs1 (cells + mc) (slots + ms) Q (F0 m (pc + 3) ls (((pushv v []).head?.map (cv ad' xa)).toList ++ rest))) : W p l e Rm s m args below meth c H locs cells slots Q (F0 m pc ls st0) := by
  intro T hT X
  obtain ⟨rv, st₀, t, T', L, h0, X', hL, e1, e2, ⟨⟨ad', hv, g1, g2, g3, g4, g5⟩, hz, hk⟩, stp⟩ := hr T hT X
  cases hv
  rw [h0] at hz hk
  obtain ⟨t2, a1, b1⟩ := kk ad' T'.heap (locs ++ L) g1 (by rw [e1]; exact g2) g3 g4 g5
    ⟨Nat.le_trans hS.1 (by rw [e1]; exact hz), fun q h1 h2 => by rw [e1, hk q (Nat.lt_of_lt_of_le h1 hS.1) h2]; exact hS.2.1 q h1 h2, fun q hq => by
      rcases List.mem_append.mp hq with h | h
      · exact hS.2.2 q h
      · exact hL q h⟩ T' rfl X'
  exact ⟨t2, stp t2 a1, b1⟩
theorem pushv_ok {v : AV} {R : RR} (h : okV R v) (hr : ∀ w ∈ r, okV R w) : ∀ w ∈ pushv v r, okV R w := by
  rcases v with x | x | o | k
  · exact ok_cons h hr
  · exact ok_cons h hr
  · exact ok_cons h hr
  · exact hr
theorem pushv_map {v : AV} {ad : Nat → Nat} : (pushv v r).map (cv ad xa) = ((pushv v []).head?.map (cv ad xa)).toList ++ r.map (cv ad xa) := by
  rcases v with x | x | o | k <;> rfl
theorem cv_eq {ad ad' : Nat → Nat} {v : AV} (h : okV R v) (ha : ∀ o, o ≤ R 0 0 → ad' o = ad o) : cv ad' xa v = cv ad xa v := by
  rcases v with x | x | o | k
  · rfl
  · rfl
  · simp only [cv, rfo]; rw [ha o h]
  · rfl
/-- behind a call -/
theorem SR.back {v : AV} {M' : MM} {R' : RR} {ad ad' : Nat → Nat} {H H1 : Heap} {locs locs1 : List Loc} {cells slots : Nat} {ls : Array Slot} (X : SR s D cy xa A sc Ls mi ad0 n0 s0 lv st M R ad H locs cells slots ls) (hr : ∀ w ∈ r, okV R w) (hm : mono R R') (ha : ∀ o, o ≤ R 0 0 → ad' o = ad o) (hP : va_P D vwCl (wsOf cy ad' M' R') H1) (hD : va_D A (wsOf cy ad' M' R')) (hM : okM sc Ls M' R') (hv : okV R' v) (hS : va_S A s.heap H1 locs1) : SR s D cy xa A sc Ls mi ad0 n0 s0 lv (pushv v r) M' R' ad' H1 locs1 (cells + (R' 0 0 - R 0 0)) (slots + (R' 0 1 - R 0 1)) ls := by
  obtain ⟨g1, g2, g3, g4⟩ := X.2.2.2.2.1
  obtain ⟨m1, m2⟩ := hm
  refine ⟨⟨hP, hD, hS⟩, hM, ⟨X.2.2.1.1.ad (fun w hw => cv_eq (X.2.2.1.2.2 w hw) ha), X.2.2.1.2.1, fun w hw => okV_le m1 (X.2.2.1.2.2 w hw)⟩, pushv_ok hv (fun w hw => okV_le m1 (hr w hw)), ⟨by omega, by omega, by omega, by omega⟩, fun o ho => ?_⟩
  rw [ha o (by omega)]
  exact X.2.2.2.2.2 o ho
theorem G_callS {cf : CF} {i mi' : Nat} {as : List AV} {v : AV} {M' : MM} {R' : RR} (C : CX p Rm s m args meth c D cy xa A sc Ls mi d) (hcf : SC l D cy xa A sc Ls d cf) (hd : decode (codeOf mi) pc = .ok (.invokestatic i, 3)) (hl : mthT (clsOf mi) i = some (1, mi')) (hc : cf mi' as M R = some (v, M', R')) (hm : mono R R') (hb1 : R' 0 0 ≤ n0 + Rm.cells) (hb2 : R' 0 1 ≤ s0 + Rm.slots) (hcat : catS r ≤ 8) (hn : as.length = narOf mi') (K : GW p l e Rm s m args below meth c D cy xa A sc Ls mi ad0 n0 s0 Q (pc + 3) lv (pushv v r) M' R') : GW p l e Rm s m args below meth c D cy xa A sc Ls mi ad0 n0 s0 Q pc lv (as.reverse ++ r) M R := by
  intro ad H locs cells slots ls X
  obtain ⟨l1, l2, l3, l4⟩ := lok _ (lk_mem hl)
  simp only at l1 l2 l3 l4
  have hok := X.2.2.2.1
  have has : ∀ w ∈ as, okV R w := fun w hw => hok w (List.mem_append_left _ (List.mem_reverse.mpr hw))
  have hr : ∀ w ∈ r, okV R w := fun w hw => hok w (List.mem_append_right _ hw)
  obtain ⟨c1, c2, c3⟩ := hcf _ _ _ _ _ _ _ hc X.2.1 has
  obtain ⟨m1, ⟨m2, m3, m4⟩, m5, m6, m7⟩ := mok c1
  obtain ⟨g1, g2, g3, g4⟩ := X.2.2.2.2.1
  have hTB := C.2.2.2.2.1
  have hF1 := C.2.2.2.2.2.2.2.2.2.1
  have hF2 := C.2.2.2.2.2.2.2.2.2.2
  have hfix : CallFix p m c (codeOf mi) (maxLOf mi) s args TB (cname (clsOf mi)) := ⟨C.1, C.2.1, C.2.2.1, C.2.2.2.1, hTB⟩
  have hRm : (rmF d R R').frames + 1 ≤ Rm.frames ∧ 8 + (maxLOf mi' + 11) + (rmF d R R').locals ≤ Rm.locals := ⟨hF1, by show 8 + (maxLOf mi' + 11) + (60 * d + 100) ≤ _; omega⟩
  have hsz : (F0 m pc ls (List.map (cv ad xa) (as.reverse ++ r))).locals.size = maxLOf mi := by show ls.size = _; rw [X.2.2.1.1.1, X.2.2.1.2.1]
  have hpre : ∀ U : State, U.heap = H → s.WarmedH U.vm → Pg D cy xa A sc Ls ad as M R (as.map (cv ad xa)).toArray U := fun U hU hW => ⟨rfl, by rw [hU]; exact X.1.1, X.1.2.1, C.2.2.2.2.2.1.moved hW.alike, C.2.2.2.2.2.2.2.1.go X.1.2.2 hU hW, fun q hq => C.2.2.2.2.2.2.1 q (by rw [hU] at hq; exact Nat.le_trans X.1.2.2.1 hq)⟩
  have hst : List.map (cv ad xa) (as.reverse ++ r) = (as.map (cv ad xa)).reverse ++ r.map (cv ad xa) := by simp
  have kk : ∀ (ad' : Nat → Nat) (H1 : Heap) (locs1 : List Loc), (∀ o, o ≤ R 0 0 → ad' o = ad o) → va_P D vwCl (wsOf cy ad' M' R') H1 → va_D A (wsOf cy ad' M' R') → okM sc Ls M' R' → okV R' v → va_S A s.heap H1 locs1 → W p l e Rm s m args below meth c H1 locs1 (cells + (R' 0 0 - R 0 0)) (slots + (R' 0 1 - R 0 1)) Q (F0 m (pc + 3) ls (((pushv v []).head?.map (cv ad' xa)).toList ++ r.map (cv ad xa))) := by
    intro ad' H1 locs1 h1 h2 h3 h4 h5 h6
    have k := K ad' H1 locs1 _ _ ls (X.back (v := v) hr hm h1 h2 h3 h4 h5 h6)
    rw [pushv_map, List.map_congr_left (fun w hw => cv_eq (hr w hw) h1)] at k
    exact k
  have hbd : cells + (R' 0 0 - R 0 0) ≤ Rm.cells ∧ slots + (R' 0 1 - R 0 1) ≤ Rm.slots := by obtain ⟨q1, q2⟩ := hm; omega
  have hs : Cond.static (nmOf mi') ∈ TB := by rcases l4 with ⟨-, h⟩ | ⟨h, -⟩ | ⟨h, -⟩ <;> first | exact h | omega
  have cw := va_cwS (R := Rm) (s := s) (args := args) (own := cname (clsOf mi)) (index := i) (y := nmOf mi') (bytes := codeOf mi') (maxL := maxLOf mi') (ret := retOf mi') (rm := rmF d R R') (ws := wsF mi') (narOf mi') hTB (good_l (fun w hw => by
    rcases List.mem_append.mp hw with h | h
    · simp only [List.mem_cons, List.not_mem_nil, or_false] at h
      rcases h with rfl | rfl | rfl
      · exact l1
      · exact hs
      · exact l2
    · exact wsF_in c1 w h)) rfl rfl rfl ⟨m3, m4, m5⟩ hRm
  exact cm_call (va_runS (As := as.map (cv ad xa)) (rest := r.map (cv ad xa)) hfix (c3 ad) cw ⟨Pg.blind, hpre⟩ rfl (by simpa using hn) hsz hst (lv_room (by rw [catS_map]; exact hcat)) hd hbd) X.1.2.2 kk
theorem G_callV {cf : CF} {i mi' o : Nat} {as : List AV} {v : AV} {M' : MM} {R' : RR} (C : CX p Rm s m args meth c D cy xa A sc Ls mi d) (hcf : SC l D cy xa A sc Ls d cf) (hd : decode (codeOf mi) pc = .ok (.invokevirtual i, 3)) (hl : mthT (clsOf mi) i = some (2, mi')) (hc : cf mi' (vA o :: as) M R = some (v, M', R')) (hm : mono R R') (hb1 : R' 0 0 ≤ n0 + Rm.cells) (hb2 : R' 0 1 ≤ s0 + Rm.slots) (hcat : catS r ≤ 8) (hn : as.length = narOf mi') (hk : kindOf o = clsOf mi') (K : GW p l e Rm s m args below meth c D cy xa A sc Ls mi ad0 n0 s0 Q (pc + 3) lv (pushv v r) M' R') : GW p l e Rm s m args below meth c D cy xa A sc Ls mi ad0 n0 s0 Q pc lv (as.reverse ++ vA o :: r) M R := by
  intro ad H locs cells slots ls X
  obtain ⟨l1, l2, l3, l4⟩ := lok _ (lk_mem hl)
  simp only at l1 l2 l3 l4
  have hok := X.2.2.2.1
  have has : ∀ w ∈ as, okV R w := fun w hw => hok w (List.mem_append_left _ (List.mem_reverse.mpr hw))
  have hoR : okV R (vA o) := hok _ (List.mem_append_right _ List.mem_cons_self)
  have hr : ∀ w ∈ r, okV R w := fun w hw => hok w (List.mem_append_right _ (List.mem_cons_of_mem _ hw))
  obtain ⟨c1, c2, c3⟩ := hcf _ _ _ _ _ _ _ hc X.2.1 (ok_cons hoR has)
  obtain ⟨m1, ⟨m2, m3, m4⟩, m5, m6, m7⟩ := mok c1
  obtain ⟨g1, g2, g3, g4⟩ := X.2.2.2.2.1
  have hTB := C.2.2.2.2.1
  have hF1 := C.2.2.2.2.2.2.2.2.2.1
  have hF2 := C.2.2.2.2.2.2.2.2.2.2
  have hfix : CallFix p m c (codeOf mi) (maxLOf mi) s args TB (cname (clsOf mi)) := ⟨C.1, C.2.1, C.2.2.1, C.2.2.2.1, hTB⟩
  have hRm : (rmF d R R').frames + 1 ≤ Rm.frames ∧ 8 + (maxLOf mi' + 11) + (rmF d R R').locals ≤ Rm.locals := ⟨hF1, by show 8 + (maxLOf mi' + 11) + (60 * d + 100) ≤ _; omega⟩
  have hsz : (F0 m pc ls (List.map (cv ad xa) (as.reverse ++ vA o :: r))).locals.size = maxLOf mi := by show ls.size = _; rw [X.2.2.1.1.1, X.2.2.1.2.1]
  have hpre : ∀ U : State, U.heap = H → s.WarmedH U.vm → Pg D cy xa A sc Ls ad (vA o :: as) M R (cv ad xa (vA o) :: as.map (cv ad xa)).toArray U := fun U hU hW => ⟨rfl, by rw [hU]; exact X.1.1, X.1.2.1, C.2.2.2.2.2.1.moved hW.alike, C.2.2.2.2.2.2.2.1.go X.1.2.2 hU hW, fun q hq => C.2.2.2.2.2.2.1 q (by rw [hU] at hq; exact Nat.le_trans X.1.2.2.1 hq)⟩
  have hst : List.map (cv ad xa) (as.reverse ++ vA o :: r) = (as.map (cv ad xa)).reverse ++ cv ad xa (vA o) :: r.map (cv ad xa) := by simp
  have kk : ∀ (ad' : Nat → Nat) (H1 : Heap) (locs1 : List Loc), (∀ o, o ≤ R 0 0 → ad' o = ad o) → va_P D vwCl (wsOf cy ad' M' R') H1 → va_D A (wsOf cy ad' M' R') → okM sc Ls M' R' → okV R' v → va_S A s.heap H1 locs1 → W p l e Rm s m args below meth c H1 locs1 (cells + (R' 0 0 - R 0 0)) (slots + (R' 0 1 - R 0 1)) Q (F0 m (pc + 3) ls (((pushv v []).head?.map (cv ad' xa)).toList ++ r.map (cv ad xa))) := by
    intro ad' H1 locs1 h1 h2 h3 h4 h5 h6
    have k := K ad' H1 locs1 _ _ ls (X.back (v := v) hr hm h1 h2 h3 h4 h5 h6)
    rw [pushv_map, List.map_congr_left (fun w hw => cv_eq (hr w hw) h1)] at k
    exact k
  have hbd : cells + (R' 0 0 - R 0 0) ≤ Rm.cells ∧ slots + (R' 0 1 - R 0 1) ≤ Rm.slots := by obtain ⟨q1, q2⟩ := hm; omega
  have hs : Cond.instanceMethod (nmOf mi') ∈ TB ∧ Cond.selects (nmOf mi').cls (nmOf mi') (nmOf mi') ∈ TB ∧ clsOf mi' < 13 := by rcases l4 with ⟨h, -⟩ | ⟨-, h⟩ | ⟨h, -⟩ <;> first | exact h | omega
  have cw := cwV (R := Rm) (s := s) (args := args) (own := cname (clsOf mi)) (index := i) (C := (nmOf mi').cls) (y := nmOf mi') (bytes := codeOf mi') (maxL := maxLOf mi') (ret := retOf mi') (rm := rmF d R R') (ws := wsF mi') (narOf mi') hTB (good_l (fun w hw => by
    rcases List.mem_append.mp hw with h | h
    · simp only [List.mem_cons, List.not_mem_nil, or_false] at h
      rcases h with rfl | rfl | rfl | rfl
      · exact l1
      · exact hs.1
      · exact hs.2.1
      · exact l2
    · exact wsF_in c1 w h)) rfl rfl rfl ⟨rfl, m3, m4, m5⟩ hRm
  have ho : 0 < o := k_pos hk (by omega)
  have hn' : o ≤ R 0 0 := hoR
  have hrc := va_recv C.2.2.2.2.2.1 X.1.1 (cl_at hs.2.2) ((ws_get ho hn').trans (by rw [ctt_o (by omega), hk]))
  rw [l3] at cw
  rw [cv_A ad xa ho] at hst hpre
  exact cm_call (va_runV (As := as.map (cv ad xa)) (rest := r.map (cv ad xa)) hfix (c3 ad) cw ⟨Pg.blind, hrc, hpre⟩ rfl (by simpa using hn) hsz hst (lv_room (by rw [catS_map]; exact hcat)) hd hbd) X.1.2.2 kk
theorem G_callI {cf : CF} {i mi' o : Nat} {as : List AV} {v : AV} {M' : MM} {R' : RR} (C : CX p Rm s m args meth c D cy xa A sc Ls mi d) (hcf : SC l D cy xa A sc Ls d cf) (hd : decode (codeOf mi) pc = .ok (.invokespecial i, 3)) (hl : mthT (clsOf mi) i = some (3, mi')) (hc : cf mi' (vA o :: as) M R = some (v, M', R')) (hm : mono R R') (hb1 : R' 0 0 ≤ n0 + Rm.cells) (hb2 : R' 0 1 ≤ s0 + Rm.slots) (hcat : catS r ≤ 8) (hn : as.length = narOf mi') (hk : kindOf o = clsOf mi') (K : GW p l e Rm s m args below meth c D cy xa A sc Ls mi ad0 n0 s0 Q (pc + 3) lv (pushv v r) M' R') : GW p l e Rm s m args below meth c D cy xa A sc Ls mi ad0 n0 s0 Q pc lv (as.reverse ++ vA o :: r) M R := by
  intro ad H locs cells slots ls X
  obtain ⟨l1, l2, l3, l4⟩ := lok _ (lk_mem hl)
  simp only at l1 l2 l3 l4
  have hok := X.2.2.2.1
  have has : ∀ w ∈ as, okV R w := fun w hw => hok w (List.mem_append_left _ (List.mem_reverse.mpr hw))
  have hoR : okV R (vA o) := hok _ (List.mem_append_right _ List.mem_cons_self)
  have hr : ∀ w ∈ r, okV R w := fun w hw => hok w (List.mem_append_right _ (List.mem_cons_of_mem _ hw))
  obtain ⟨c1, c2, c3⟩ := hcf _ _ _ _ _ _ _ hc X.2.1 (ok_cons hoR has)
  obtain ⟨m1, ⟨m2, m3, m4⟩, m5, m6, m7⟩ := mok c1
  obtain ⟨g1, g2, g3, g4⟩ := X.2.2.2.2.1
  have hTB := C.2.2.2.2.1
  have hF1 := C.2.2.2.2.2.2.2.2.2.1
  have hF2 := C.2.2.2.2.2.2.2.2.2.2
  have hfix : CallFix p m c (codeOf mi) (maxLOf mi) s args TB (cname (clsOf mi)) := ⟨C.1, C.2.1, C.2.2.1, C.2.2.2.1, hTB⟩
  have hRm : (rmF d R R').frames + 1 ≤ Rm.frames ∧ 8 + (maxLOf mi' + 11) + (rmF d R R').locals ≤ Rm.locals := ⟨hF1, by show 8 + (maxLOf mi' + 11) + (60 * d + 100) ≤ _; omega⟩
  have hsz : (F0 m pc ls (List.map (cv ad xa) (as.reverse ++ vA o :: r))).locals.size = maxLOf mi := by show ls.size = _; rw [X.2.2.1.1.1, X.2.2.1.2.1]
  have hpre : ∀ U : State, U.heap = H → s.WarmedH U.vm → Pg D cy xa A sc Ls ad (vA o :: as) M R (cv ad xa (vA o) :: as.map (cv ad xa)).toArray U := fun U hU hW => ⟨rfl, by rw [hU]; exact X.1.1, X.1.2.1, C.2.2.2.2.2.1.moved hW.alike, C.2.2.2.2.2.2.2.1.go X.1.2.2 hU hW, fun q hq => C.2.2.2.2.2.2.1 q (by rw [hU] at hq; exact Nat.le_trans X.1.2.2.1 hq)⟩
  have hst : List.map (cv ad xa) (as.reverse ++ vA o :: r) = (as.map (cv ad xa)).reverse ++ cv ad xa (vA o) :: r.map (cv ad xa) := by simp
  have kk : ∀ (ad' : Nat → Nat) (H1 : Heap) (locs1 : List Loc), (∀ o, o ≤ R 0 0 → ad' o = ad o) → va_P D vwCl (wsOf cy ad' M' R') H1 → va_D A (wsOf cy ad' M' R') → okM sc Ls M' R' → okV R' v → va_S A s.heap H1 locs1 → W p l e Rm s m args below meth c H1 locs1 (cells + (R' 0 0 - R 0 0)) (slots + (R' 0 1 - R 0 1)) Q (F0 m (pc + 3) ls (((pushv v []).head?.map (cv ad' xa)).toList ++ r.map (cv ad xa))) := by
    intro ad' H1 locs1 h1 h2 h3 h4 h5 h6
    have k := K ad' H1 locs1 _ _ ls (X.back (v := v) hr hm h1 h2 h3 h4 h5 h6)
    rw [pushv_map, List.map_congr_left (fun w hw => cv_eq (hr w hw) h1)] at k
    exact k
  have hbd : cells + (R' 0 0 - R 0 0) ≤ Rm.cells ∧ slots + (R' 0 1 - R 0 1) ≤ Rm.slots := by obtain ⟨q1, q2⟩ := hm; omega
  have hs : Cond.instanceMethod (nmOf mi') ∈ TB ∧ (nmOf mi').name = "<init>" ∧ clsOf mi' < 13 ∧ retOf mi' = none := by rcases l4 with ⟨h, -⟩ | ⟨h, -⟩ | ⟨-, h⟩ <;> first | exact h | omega
  have cw := cwI (R := Rm) (s := s) (args := args) (own := cname (clsOf mi)) (index := i) (y := nmOf mi') (bytes := codeOf mi') (maxL := maxLOf mi') (rm := rmF d R R') (ws := wsF mi') (narOf mi') hTB (good_l (wsF_in c1)) (by unfold wsF; rw [hs.2.2.2]) rfl rfl (hTB _ l2) (hTB _ l1) (hTB _ hs.1) hs.2.1 ⟨m3, m4, m5⟩ hRm
  have ho : 0 < o := k_pos hk (by omega)
  rw [cv_A ad xa ho] at hst hpre
  exact cm_call (va_runI (As := as.map (cv ad xa)) (rest := r.map (cv ad xa)) hfix (c3 ad) cw ⟨Pg.blind, hpre⟩ rfl (by simpa using hn) hsz hst (lv_room (by rw [catS_map]; exact hcat)) hd hbd) X.1.2.2 kk
end SND4
