-- ===== end of PART A; then your names; then what follows =====
/-! THE CLAIM OUT OF ONE WALK OF THE LAW'S BODY. Your part is whole_start (and what it stands on); all else here is the same for every law, but numbers. -/
def R_law : String := "TwoOnOneDayLaw"
def lw_P (b : Addr) (xs : List Int32) (args : Array Value) (s : State) : Prop := args = #[.ref b] ∧ s.IntsAt b xs ∧ xs.length ≤ 3584 ∧ (Jvm.Cond.and given_1 narrow_1).before args s = true
def lw_Q (_ : Array Value) (s : State) (o : Outcome) (t : State) : Prop := o = .returned (some (.int 1)) ∧ Framed s o t [] 600000 7302250
def lw_Z (below : List Frame) (a : Array Value) (s : State) : State → Prop := fun t => ∃ o, t.status = .running ∧ Ended t below o ∧ lw_Q a s o t
/-- the law's own end, with 1 on the stack, nothing written that was there before, its room as the claim has it -/
theorem lw_ret {p : Program} {l : Launch} {e : Env} {s : State} {m : MethodId} {below : List Frame} {meth : Method} {c : Code} {b : Nat} (hx : p.tables.exec = Jvm.exec) (hb : c.code = code) (hr : meth.sig.returnType = ret) (hlocks : meth.locks = false) {pc : Nat} {H : Heap} {ls : Array Slot} (hdg : decode code pc = .ok (.ireturn, 1)) : W p l e room_1 s m #[Value.ref b] below meth c H [] 600000 7302250 (lw_Z below #[Value.ref b] s) (F0 m pc ls [.int 1]) := by
  intro T hT X
  obtain ⟨fs, hret, hrun, hended, hW, hframe⟩ := X.leave (v := some (.int 1)) (hlocks := hlocks) (fun h => by rw [hr] at h; cases h)
  have hmeth' : T.vm.method? m = some meth := X.method'
  refine ⟨T.setFrames fs, ?_, .returned (some (.int 1)), hrun, hended, rfl, ⟨_, rfl⟩, hW, hframe⟩
  jvm_step X.here [X.here.top, hx, hb, hdg, hmeth', hr, ret, narrow_b1]
  (try refine ⟨rfl, ?_⟩); (try refine ⟨rfl, ?_⟩)
  first | (intro acts; rw [hret _ acts rfl rfl rfl]) | rw [hret _ _ rfl rfl rfl]
  exact Steps.refl _
/-- what holds at the law's entry: the machine, the code, the tables' words (any of lw_tbl by 'hts w (by decide +kernel)'), the script of L ints xs at the cell b, what the Statement gives of the start (any of its parts by flat_of_before) -/
def lw_At (p : Program) (s : State) (m : MethodId) (meth : Method) (c : Code) (b L : Nat) (xs : Nat → Int32) : Prop :=
  p.tables.exec = Jvm.exec ∧ c.code = code ∧ meth.sig.returnType = ret ∧ c.maxLocals = 4 ∧ s.vm.findClass R_law = some m.cls ∧ (∀ w ∈ lw_tbl, w.before #[Value.ref b] s = true) ∧ va_X b L xs s s.heap ∧ b < s.heap.size ∧ meth.locks = false ∧ (Jvm.Cond.and given_1 narrow_1).before #[Value.ref b] s = true
/-! ===== THE LAW out of a run of the clean machine ===== -/
theorem tb_tbl : ∀ w ∈ TB, w ∈ lw_tbl := fun w h => (List.mem_filter.mp h).1
theorem inst_ok {k : Nat} (h : k < 13) : Cond.instantiable (cname k) (nF k) ∈ TB := by
  match k, h with
  | 0, _ => exact nok_11.2.1
  | 1, _ => exact nok_7.2.1
  | 2, _ => exact nok_4.2.1
  | 3, _ => exact nok_6.2.1
  | 4, _ => exact nok_10.2.1
  | 5, _ => exact nok_2.2.1
  | 6, _ => exact nok_5.2.1
  | 7, _ => exact nok_0.2.1
  | 8, _ => exact nok_9.2.1
  | 9, _ => exact nok_8.2.1
  | 10, _ => exact nok_3.2.1
  | 11, _ => exact nok_12.2.1
  | 12, _ => exact nok_13.2.1
  | k + 13, h => omega
def tmS : Nat → Term := fun _ => .string RX6 50
def fS (j : Nat) : Cond := .eq (.elem (.field (.string RX6 50) "java/lang/String" "value" "[B") (.int (Int32.ofNat j))) (.int ((wordsC.map Int32.ofInt).getD j 0))
set_option maxRecDepth 100000 in
theorem fS_in : ∀ j, j < 72 → fS j ∈ flatC (Jvm.Cond.and given_1 narrow_1) := fun j hj => va_run (N := 72) (p := 39) (by decide +kernel) j hj
theorem str_of {args : Array Value} {s : State} (hts : ∀ w ∈ lw_tbl, w.before args s = true) (hg : (Jvm.Cond.and given_1 narrow_1).before args s = true) : ∃ xa : Nat, ∀ A : Nat → Prop, (∀ a : Nat, a < s.heap.size → ¬ A a) → ∀ f : Nat → Nat, f 1 = xa → STR A f s s.heap := by
  have hf := flat_of_before _ hg
  have hA0 : ∀ a : Nat, a < s.heap.size → ¬ (fun q : Nat => s.heap.size ≤ q) a := fun a h => Nat.not_le.mpr h
  obtain ⟨adK, adV, h1, h2⟩ := vk_Sof (args := args) (s := s) (N := 1) (tm := tmS) (len := [72]) (byt := [wordsC.map Int32.ofInt]) (A := fun q : Nat => s.heap.size ≤ q)
    (fun i hi => by have : i = 0 := by omega
                    subst this; decide)
    (fun i hi => hf (.exactly (.string RX6 50) "java/lang/String") (by decide +kernel))
    (fun i hi => hf (.eq (.field (.string RX6 50) "java/lang/String" "coder" "B") (.int 0)) (by decide +kernel))
    (fun i hi => hf (.arrayOf (.field (.string RX6 50) "java/lang/String" "value" "[B") .byte) (by decide +kernel))
    (fun i hi => by have : i = 0 := by omega
                    subst this
                    exact hf (.eq (.length (.field (.string RX6 50) "java/lang/String" "value" "[B")) (.int 72)) (by decide +kernel))
    (fun i hi j hj => by have : i = 0 := by omega
                         subst this
                         exact hf (fS j) (fS_in j hj))
    (fun i j hi hj hne => by omega)
    hA0
  refine ⟨adK 0, fun A hA f hf1 => ?_⟩
  have hR : vk_R RX6 50 wTx (adK 0) s := vk_R.of (A := args) (hts _ (List.mem_append_right _ (List.mem_append_right _ (List.mem_append_left _ (List.mem_of_getElem? (i := 226) rfl))))) (h2 0 (by decide))
  have hZ : va_Z RJ0 "COMPACT_STRINGS" "Z" (.int 1) A s s.heap := va_Zof (args := args) (hts _ (List.mem_append_right _ (List.mem_append_right _ (List.mem_append_left _ (List.mem_of_getElem? (i := 236) rfl))))) (hts _ (List.mem_append_right _ (List.mem_append_left _ (List.mem_of_getElem? (i := 17) rfl)))) (va_eqi (hf _ (by decide +kernel))) hA
  have hQ : va_Zq RJ3 "SIOOBE_FORMATTER" "Ljava/util/function/BiFunction;" A s s.heap := va_Zqof (args := args) (hts _ (List.mem_append_right _ (List.mem_append_right _ (List.mem_append_right _ (List.mem_append_left _ (List.mem_of_getElem? (i := 16) rfl)))))) (hts _ (List.mem_append_right _ (List.mem_append_left _ (List.mem_of_getElem? (i := 19) rfl)))) (hf _ (by decide +kernel)) hA
  have hcell : ∀ t : Nat, s.heap.size ≤ t → False ∨ True := fun _ _ => .inr trivial
  unfold STR
  rw [hf1]
  refine ⟨hR, ⟨adV 0, ?_⟩, hZ, hQ⟩
  obtain ⟨k1, k2, k3, k4⟩ := h1.1 0 (by decide)
  have nA : ∀ t : Nat, ¬ (fun q : Nat => s.heap.size ≤ q) t → ¬ A t := fun t ht => hA t (Nat.not_le.mp ht)
  have e1 : va_O "java/lang/String" (adK 0) A s s.heap := by
    obtain ⟨cell, q1, q2, q3, q4⟩ := k1
    exact ⟨cell, q1, q2, q3, nA _ q4⟩
  have e2 : va_OF "java/lang/String" "coder" "B" (.int 0) (adK 0) A s s.heap := by
    obtain ⟨cf, k, i, f, cell, q1, q2, q3, q4, q5, q6⟩ := k2
    exact ⟨cf, k, i, f, cell, q1, q2, q3, q4, q5, nA _ q6⟩
  have e3 : va_OF "java/lang/String" "value" "[B" (.ref (adV 0)) (adK 0) A s s.heap := by
    obtain ⟨cf, k, i, f, cell, q1, q2, q3, q4, q5, q6⟩ := k3
    exact ⟨cf, k, i, f, cell, q1, q2, q3, q4, q5, nA _ q6⟩
  have e4 : va_T .byte (adV 0) 72 (fun j => .int ((wordsC.map Int32.ofInt).getD j 0)) A s s.heap := by
    obtain ⟨cell, q1, q2, q3, q4, q5, q6, q7⟩ := k4
    exact ⟨cell, q1, q2, q3, q4, q5, q6, nA _ q7⟩
  refine ⟨fun i hi => ?_, fun i j hi hj _ => by omega⟩
  have : i = 0 := by omega
  subst this
  exact ⟨e1, e2, e3, e4⟩
theorem arr_of {args : Array Value} {s : State} {ty : FieldType} (hp : ty = .int ∨ ty = .long ∨ ty = .boolean) (h : (Cond.arrayClass ty).before args s = true) : ∃ cA : ClassId, ArrOfT s cA ty ∧ va_RA s cA ty := by
  obtain ⟨cc, k, comp, h1, h2, h3⟩ := Cond.arrayClass_spec h
  refine ⟨cc, fun N z => ⟨fun k h => (by cases h), k, h2, comp, h3⟩, ?_⟩
  rcases hp with rfl | rfl | rfl <;> exact h1
theorem arr_ofO {args : Array Value} {s : State} {C : String} (h : (Cond.arrayOver (.object C)).before args s = true) : ∃ cA : ClassId, ArrOfT s cA (.object C) ∧ va_RA s cA (.object C) := by
  obtain ⟨comp, cc, k, h1, h2, h3, h4, h5⟩ := Cond.arrayOver_spec h
  exact ⟨cc, fun N z => ⟨fun k h => (by cases h), k, h3, comp, h4⟩, k, comp, h3, h4, h1, h5⟩
theorem m261 : nmOf 261 = yL_law ∧ clsOf 261 = 13 ∧ maxLOf 261 = 4 ∧ codeOf 261 = code := ⟨rfl, rfl, rfl, rfl⟩
set_option maxHeartbeats 4000000 in
theorem whole_of_run (hrun : LAWRUN) {p : Program} {e : Env} {s : State} {m : MethodId} {below : List Frame} {meth : Method} {c : Code} (l : Launch) {b L : Nat} {xs : Nat → Int32} (hL : L ≤ 3584) (C0 : lw_At p s m meth c b L xs) : W p l e room_1 s m #[Value.ref b] below meth c s.heap [] 0 0 (lw_Z below #[Value.ref b] s) (entryFrame m ([Value.ref b] : List Value).toArray 4) := by
  obtain ⟨hx, hb, hr, hml, hown, hts, hX, hbl, hlocks, hgv⟩ := id C0
  obtain ⟨x1, hstr⟩ := str_of hts hgv
  have hTB : ∀ w ∈ TB, w.before #[Value.ref b] s = true := fun w hw => hts w (tb_tbl w hw)
  have hA0 : ∀ a : Nat, a < s.heap.size → ¬ (fun q : Nat => s.heap.size ≤ q) a := fun a h => Nat.not_le.mpr h
  obtain ⟨f, hf⟩ : ∃ f : Nat → ClassId × (Nat → Nat), ∀ k, k < 13 → u_Kn s (cname k) (TXs k) (nF k) (f k).1 (f k).2 := by
    have h : ∀ k : Nat, ∃ q : ClassId × (Nat → Nat), k < 13 → u_Kn s (cname k) (TXs k) (nF k) q.1 q.2 := by
      intro k
      by_cases hk : k < 13
      · obtain ⟨cC, iS, h⟩ := u_known (ws := TB) hTB (inF hk) (hTB _ (inst_ok hk))
        exact ⟨(cC, iS), fun _ => h⟩
      · exact ⟨(0, fun _ => 0), fun h => absurd h hk⟩
    exact ⟨fun k => Classical.choose (h k), fun k hk => Classical.choose_spec (h k) hk⟩
  obtain ⟨c0, a0⟩ := arr_of (.inl rfl) (hTB _ tb_arr.1)
  obtain ⟨c1, a1⟩ := arr_of (.inr (.inl rfl)) (hTB _ tb_arr.2.1)
  obtain ⟨c2, a2⟩ := arr_of (.inr (.inr rfl)) (hTB _ tb_arr.2.2)
  obtain ⟨c3, a3⟩ := arr_ofO (C := RX4) (hts _ (List.mem_append_right _ (List.mem_append_right _ (List.mem_append_left _ (List.mem_of_getElem? (i := 81) rfl)))))
  obtain ⟨c4, a4⟩ := arr_ofO (C := RX7) (hts _ (List.mem_append_right _ (List.mem_append_left _ (List.mem_of_getElem? (i := 143) rfl))))
  obtain ⟨d, M', R', hd, hR, hz1, hz2⟩ := hrun L xs hL
  obtain ⟨n, hn⟩ := run_iff.mp hR
  have hcm := call_mono p l e room_1 s m meth c d
  have hsc := sc_all l (fun k => (f k).1, fun k => (f k).2) (fun k => [c0, c1, c2, c3, c4].getD k 0) (fun k => if k = 1 then x1 else b) (fun q : Nat => s.heap.size ≤ q) (fun j => (xs j).toInt) L d
  have hK : va_K (fun k => (f k).1, fun k => (f k).2) vwCl (tys (fun k => [c0, c1, c2, c3, c4].getD k 0)) s := by
    refine ⟨fun k q hq => ?_, fun k q hq => ?_⟩
    · by_cases hk : k < 13
      · have := (cl_at hk).symm.trans hq
        cases this
        exact hf k hk
      · have : vwCl[k]? = none := List.getElem?_eq_none (by show 13 ≤ k; omega)
        rw [this] at hq
        cases hq
    · match k, hq with
      | 0, hq => cases hq; exact a0
      | 1, hq => cases hq; exact a1
      | 2, hq => cases hq; exact a2
      | 3, hq => cases hq; exact a3
      | 4, hq => cases hq; exact a4
      | k + 5, hq => cases hq
  have hEX : EX (fun q : Nat => s.heap.size ≤ q) (fun k => if k = 1 then x1 else b) (fun j => (xs j).toInt) L s := by
    refine ⟨va_AO.of (hts _ (List.mem_append_right _ (List.mem_append_right _ (List.mem_append_left _ (List.mem_of_getElem? (i := 81) rfl))))), va_AO.of (hts _ (List.mem_append_right _ (List.mem_append_left _ (List.mem_of_getElem? (i := 143) rfl)))), va_Nw.of rfl (hts _ (List.mem_append_right _ (List.mem_append_left _ (List.mem_of_getElem? (i := 157) rfl)))), hstr _ hA0 _ rfl, ?_, hbl, hA0 b hbl⟩
    show va_X b L (fun j => Int32.ofInt (xs j).toInt) s s.heap
    simp only [Int32.ofInt_toInt]
    exact hX
  have C : CX p room_1 s m #[Value.ref b] meth c (fun k => (f k).1, fun k => (f k).2) (fun k => [c0, c1, c2, c3, c4].getD k 0) (fun k => if k = 1 then x1 else b) (fun q : Nat => s.heap.size ≤ q) (fun j => (xs j).toInt) L 261 d := by
    refine ⟨hx, hb, hml, hown, hTB, hK, fun _ h => h, hEX, fun h => absurd h (by decide +kernel), ?_, ?_⟩
    · show d + 5 ≤ 2048; omega
    · show 60 * (d + 1) + 100 ≤ 84000; omega
  have hM : okM (fun j => (xs j).toInt) L (M0 xs) (R0 L) := by
    refine ⟨⟨fun o i => ?_, fun o i ho => ?_, fun o => ?_⟩, rfl, rfl⟩
    · unfold M0
      split
      · exact ⟨fun _ => t32_ok _, i32_i64 (t32_ok _)⟩
      · exact ⟨fun _ => z32, i32_i64 z32⟩
    · unfold R0
      rw [if_neg (by omega)]
      exact Nat.zero_le _
    · unfold R0
      split <;> omega
  have hLV : LV id (fun k => if k = 1 then x1 else b) ((lg_sl ([.ref b]) ++ List.replicate (4 - (lg_sl ([.ref b])).length) Slot.unset).toArray) [vX 2, vX 0, vX 0, vX 0] := by
    have h := LV_entry (ad := id) (xa := fun k => if k = 1 then x1 else b) (av := [vX 2]) (n := 4) (by decide)
    exact h
  rw [lg_entry_eq]
  refine rn_sound (n0 := 0) (s0 := 0) (ad0 := id) hcm hsc C (v := vI 1) (M' := M') (R' := R') (by show _ ≤ 0 + 600000; omega) (by show _ ≤ 0 + 7302250; omega) ?_ n hn id s.heap [] 0 0 _ ⟨⟨fun k q h => (by cases h), ⟨fun i j p q h => (by cases h), fun k q h => (by cases h)⟩, va_S.rf⟩, hM, ⟨hLV, rfl, fun v hv => ?_⟩, fun v hv => (by cases hv), ⟨Nat.zero_le _, Nat.zero_le _, rfl, rfl⟩, fun o _ => rfl⟩
  · intro pc lv st ins hdec hret ad1 H locs cells slots ls X
    obtain ⟨g1, g2, g3, g4⟩ := X.2.2.2.2.1
    refine va_forget (fun q hq => X.1.2.2.2.2 q hq) (W.widen (k := 600000) (n := 7302250) (by omega) (by omega) ?_)
    rcases hret with ⟨x, rfl, hv, rfl⟩ | ⟨x, rfl, hv, rfl⟩ | ⟨x, rfl, hv, rfl⟩ | ⟨rfl, hv, rfl⟩
    · cases hv
      exact lw_ret hx hb hr hlocks hdec
    · cases hv
    · cases hv
    · cases hv
  · simp only [List.mem_cons, List.not_mem_nil, or_false] at hv
    rcases hv with rfl | rfl | rfl | rfl <;> trivial
