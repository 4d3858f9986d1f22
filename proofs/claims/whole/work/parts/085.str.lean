/-! ===== the text constant: its length, its letters (contracts of the library's own methods) ===== -/
theorem dS_cJ0_length_8abf5_0 : decode cJ0_length_8abf5 0 = .ok (.aload_n 0, 1) := by decide +kernel
theorem dS_cJ0_length_8abf5_1 : decode cJ0_length_8abf5 1 = .ok (.getfield 9, 3) := by decide +kernel
theorem dS_cJ0_length_8abf5_4 : decode cJ0_length_8abf5 4 = .ok (.arraylength, 1) := by decide +kernel
theorem dS_cJ0_length_8abf5_5 : decode cJ0_length_8abf5 5 = .ok (.aload_n 0, 1) := by decide +kernel
theorem dS_cJ0_length_8abf5_6 : decode cJ0_length_8abf5 6 = .ok (.invokevirtual 335, 3) := by decide +kernel
theorem dS_cJ0_length_8abf5_9 : decode cJ0_length_8abf5 9 = .ok (.ishr, 1) := by decide +kernel
theorem dS_cJ0_length_8abf5_10 : decode cJ0_length_8abf5 10 = .ok (.ireturn, 1) := by decide +kernel
theorem dS_cJ0_coder_7d493_0 : decode cJ0_coder_7d493 0 = .ok (.getstatic 38, 3) := by decide +kernel
theorem dS_cJ0_coder_7d493_3 : decode cJ0_coder_7d493 3 = .ok (.ifCond .eq 10, 3) := by decide +kernel
theorem dS_cJ0_coder_7d493_6 : decode cJ0_coder_7d493 6 = .ok (.aload_n 0, 1) := by decide +kernel
theorem dS_cJ0_coder_7d493_7 : decode cJ0_coder_7d493 7 = .ok (.getfield 15, 3) := by decide +kernel
theorem dS_cJ0_coder_7d493_10 : decode cJ0_coder_7d493 10 = .ok (.goto 4, 3) := by decide +kernel
theorem dS_cJ0_coder_7d493_13 : decode cJ0_coder_7d493 13 = .ok (.iconst 1, 1) := by decide +kernel
theorem dS_cJ0_coder_7d493_14 : decode cJ0_coder_7d493 14 = .ok (.ireturn, 1) := by decide +kernel
theorem dS_cJ0_isLatin1_aae02_0 : decode cJ0_isLatin1_aae02 0 = .ok (.getstatic 38, 3) := by decide +kernel
theorem dS_cJ0_isLatin1_aae02_3 : decode cJ0_isLatin1_aae02 3 = .ok (.ifCond .eq 14, 3) := by decide +kernel
theorem dS_cJ0_isLatin1_aae02_6 : decode cJ0_isLatin1_aae02 6 = .ok (.aload_n 0, 1) := by decide +kernel
theorem dS_cJ0_isLatin1_aae02_7 : decode cJ0_isLatin1_aae02 7 = .ok (.getfield 15, 3) := by decide +kernel
theorem dS_cJ0_isLatin1_aae02_10 : decode cJ0_isLatin1_aae02 10 = .ok (.ifCond .ne 7, 3) := by decide +kernel
theorem dS_cJ0_isLatin1_aae02_13 : decode cJ0_isLatin1_aae02 13 = .ok (.iconst 1, 1) := by decide +kernel
theorem dS_cJ0_isLatin1_aae02_14 : decode cJ0_isLatin1_aae02 14 = .ok (.goto 4, 3) := by decide +kernel
theorem dS_cJ0_isLatin1_aae02_17 : decode cJ0_isLatin1_aae02 17 = .ok (.iconst 0, 1) := by decide +kernel
theorem dS_cJ0_isLatin1_aae02_18 : decode cJ0_isLatin1_aae02 18 = .ok (.ireturn, 1) := by decide +kernel
theorem dS_cJ0_checkIndex_df160_0 : decode cJ0_checkIndex_df160 0 = .ok (.iload_n 0, 1) := by decide +kernel
theorem dS_cJ0_checkIndex_df160_1 : decode cJ0_checkIndex_df160 1 = .ok (.iload_n 1, 1) := by decide +kernel
theorem dS_cJ0_checkIndex_df160_2 : decode cJ0_checkIndex_df160 2 = .ok (.getstatic 1053, 3) := by decide +kernel
theorem dS_cJ0_checkIndex_df160_5 : decode cJ0_checkIndex_df160 5 = .ok (.invokestatic 1059, 3) := by decide +kernel
theorem dS_cJ0_checkIndex_df160_8 : decode cJ0_checkIndex_df160 8 = .ok (.pop, 1) := by decide +kernel
theorem dS_cJ0_checkIndex_df160_9 : decode cJ0_checkIndex_df160 9 = .ok (.return_, 1) := by decide +kernel
theorem dS_cJ1_charAt_3b067_0 : decode cJ1_charAt_3b067 0 = .ok (.iload_n 1, 1) := by decide +kernel
theorem dS_cJ1_charAt_3b067_1 : decode cJ1_charAt_3b067 1 = .ok (.aload_n 0, 1) := by decide +kernel
theorem dS_cJ1_charAt_3b067_2 : decode cJ1_charAt_3b067 2 = .ok (.arraylength, 1) := by decide +kernel
theorem dS_cJ1_charAt_3b067_3 : decode cJ1_charAt_3b067 3 = .ok (.invokestatic 9, 3) := by decide +kernel
theorem dS_cJ1_charAt_3b067_6 : decode cJ1_charAt_3b067 6 = .ok (.aload_n 0, 1) := by decide +kernel
theorem dS_cJ1_charAt_3b067_7 : decode cJ1_charAt_3b067 7 = .ok (.iload_n 1, 1) := by decide +kernel
theorem dS_cJ1_charAt_3b067_8 : decode cJ1_charAt_3b067 8 = .ok (.baload, 1) := by decide +kernel
theorem dS_cJ1_charAt_3b067_9 : decode cJ1_charAt_3b067 9 = .ok (.sipush 255, 3) := by decide +kernel
theorem dS_cJ1_charAt_3b067_12 : decode cJ1_charAt_3b067 12 = .ok (.iand, 1) := by decide +kernel
theorem dS_cJ1_charAt_3b067_13 : decode cJ1_charAt_3b067 13 = .ok (.i2c, 1) := by decide +kernel
theorem dS_cJ1_charAt_3b067_14 : decode cJ1_charAt_3b067 14 = .ok (.ireturn, 1) := by decide +kernel
theorem dS_cJ3_checkIndex_8e157_0 : decode cJ3_checkIndex_8e157 0 = .ok (.iload_n 0, 1) := by decide +kernel
theorem dS_cJ3_checkIndex_8e157_1 : decode cJ3_checkIndex_8e157 1 = .ok (.ifCond .lt 8, 3) := by decide +kernel
theorem dS_cJ3_checkIndex_8e157_4 : decode cJ3_checkIndex_8e157 4 = .ok (.iload_n 0, 1) := by decide +kernel
theorem dS_cJ3_checkIndex_8e157_5 : decode cJ3_checkIndex_8e157 5 = .ok (.iload_n 1, 1) := by decide +kernel
theorem dS_cJ3_checkIndex_8e157_6 : decode cJ3_checkIndex_8e157 6 = .ok (.if_icmp .lt 10, 3) := by decide +kernel
theorem dS_cJ3_checkIndex_8e157_16 : decode cJ3_checkIndex_8e157 16 = .ok (.iload_n 0, 1) := by decide +kernel
theorem dS_cJ3_checkIndex_8e157_17 : decode cJ3_checkIndex_8e157 17 = .ok (.ireturn, 1) := by decide +kernel
theorem dS_cJ0_charAt_5068e_0 : decode cJ0_charAt_5068e 0 = .ok (.aload_n 0, 1) := by decide +kernel
theorem dS_cJ0_charAt_5068e_1 : decode cJ0_charAt_5068e 1 = .ok (.invokevirtual 492, 3) := by decide +kernel
theorem dS_cJ0_charAt_5068e_4 : decode cJ0_charAt_5068e 4 = .ok (.ifCond .eq 12, 3) := by decide +kernel
theorem dS_cJ0_charAt_5068e_7 : decode cJ0_charAt_5068e 7 = .ok (.aload_n 0, 1) := by decide +kernel
theorem dS_cJ0_charAt_5068e_8 : decode cJ0_charAt_5068e 8 = .ok (.getfield 9, 3) := by decide +kernel
theorem dS_cJ0_charAt_5068e_11 : decode cJ0_charAt_5068e 11 = .ok (.iload_n 1, 1) := by decide +kernel
theorem dS_cJ0_charAt_5068e_12 : decode cJ0_charAt_5068e 12 = .ok (.invokestatic 495, 3) := by decide +kernel
theorem dS_cJ0_charAt_5068e_15 : decode cJ0_charAt_5068e 15 = .ok (.ireturn, 1) := by decide +kernel
theorem vci (x : Int32) : (Value.int x).category = 1 := rfl
def Qs (v : Option Value) : Array Value → State → Outcome → State → Prop := fun _ st oc t => oc = .returned v ∧ t.heap = st.heap
def Ps (A : Nat → Prop) (xa : Nat → Nat) (av : List Value) : Array Value → State → Prop := va_Pc av (fun U => STR A xa U U.heap)
def rmS (f n : Nat) : Room := { frames := f, cells := 0, slots := 0, locals := n }
theorem STR.go {A : Nat → Prop} {xa : Nat → Nat} {s U : State} {H : Heap} {locs : List Loc} (h : STR A xa s s.heap) (hS : va_S A s.heap H locs) (hU : U.heap = H) (hW : s.WarmedH U.vm) : STR A xa U U.heap := by
  obtain ⟨g1, ⟨aV, g2⟩, g3, g4⟩ := h
  subst hU
  have hk : ∀ a : Nat, a < s.heap.size → ¬ A a → U.heap[a]? = s.heap[a]? := fun a q1 q2 => hS.2.1 a q1 q2
  exact ⟨g1.warm hW, ⟨aV, (g2.moved hW.alike).kept hk⟩, (g3.moved hW.alike).kept hk, (g4.moved hW.alike).kept hk⟩
theorem STR.same {A : Nat → Prop} {xa : Nat → Nat} {u U : State} (h : STR A xa u u.heap) (hv : U.vm = u.vm) (hh : U.heap = u.heap) : STR A xa U U.heap := by
  have hvm : u.vm.Alike U.vm := by rw [hv]; exact Vm.Alike.refl _
  obtain ⟨g1, ⟨aV, g2⟩, g3, g4⟩ := h
  rw [← hh] at g2 g3 g4
  exact ⟨g1.same hv, ⟨aV, g2.moved hvm⟩, g3.moved hvm, g4.moved hvm⟩
theorem Ps.blind {A : Nat → Prop} {xa : Nat → Nat} {av : List Value} : FrameBlind (Ps A xa av) := fun a U g mk h => ⟨h.1, STR.same (u := U) h.2 rfl rfl⟩
theorem good_s {ws : List Cond} (h : ∀ w ∈ ws, w ∈ TB) : GoodIn TB ws := fun w hw => tb_good w (h w hw)
theorem in_c {w c : Cond} (hc : c ∈ TB) : w ∈ c :: TB → w ∈ TB := fun h => (List.mem_cons.mp h).elim (fun e => e ▸ hc) id
section SNDC
variable {p : Program} {l : Launch} {e : Env} {Rm : Room} {s : State} {m : MethodId} {args : Array Value} {below : List Frame} {meth : Method} {c : Code} {A : Nat → Prop} {Q : State → Prop} {pc : Nat}
theorem cs_call {v : Option Value} {a : Array Value} {H : Heap} {locs : List Loc} {cells slots : Nat} {ls : Array Slot} {st0 rest : List Value} (hr : va_Run p l e Rm s m args below meth c H locs cells slots 0 0 (F0 m pc ls st0) rest (Qs v a) A) (hS : va_S A s.heap H locs)
    (kk : ∀ (locs1 : List Loc), va_S A s.heap H locs1 → W p l e Rm s m args below meth c H locs1 cells slots Q (F0 m (pc + 3) ls (v.toList ++ rest))) : W p l e Rm s m args below meth c H locs cells slots Q (F0 m pc ls st0) := by
  intro T hT X
  obtain ⟨rv, st₀, t, T', L, h0, X', hL, e1, e2, ⟨hv, hh⟩, stp⟩ := hr T hT X
  cases hv
  obtain ⟨t2, a1, b1⟩ := kk (locs ++ L) ⟨hS.1, hS.2.1, fun q hq => by
      rcases List.mem_append.mp hq with h | h
      · exact hS.2.2 q h
      · exact hL q h⟩ T' (by rw [e1, hh, h0]) X'
  exact ⟨t2, stp t2 a1, b1⟩
end SNDC
theorem tbc_yJ0_length_8abf5 : Cond.code yJ0_length_8abf5 cJ0_length_8abf5 1 (some .int) ∈ TB := (tb2 230 rfl rfl)
theorem tbc_yJ0_coder_7d493 : Cond.code yJ0_coder_7d493 cJ0_coder_7d493 1 (some .byte) ∈ TB := (tb2 234 rfl rfl)
theorem tbc_yJ0_charAt_5068e : Cond.code yJ0_charAt_5068e cJ0_charAt_5068e 2 (some .char) ∈ TB := (tb3 4 rfl rfl)
theorem tbc_yJ0_isLatin1_aae02 : Cond.code yJ0_isLatin1_aae02 cJ0_isLatin1_aae02 1 (some .boolean) ∈ TB := (tb3 8 rfl rfl)
theorem tbc_yJ0_checkIndex_df160 : Cond.code yJ0_checkIndex_df160 cJ0_checkIndex_df160 2 (none) ∈ TB := (tb3 14 rfl rfl)
theorem tbc_yJ1_charAt_3b067 : Cond.code yJ1_charAt_3b067 cJ1_charAt_3b067 2 (some .char) ∈ TB := (tb3 11 rfl rfl)
theorem tbc_yJ3_checkIndex_8e157 : Cond.code yJ3_checkIndex_8e157 cJ3_checkIndex_8e157 3 (some .int) ∈ TB := (tb3 19 rfl rfl)
theorem c_coder (l : Launch) (A : Nat → Prop) (xa : Nat → Nat) : Met l yJ0_coder_7d493 (Cond.code yJ0_coder_7d493 cJ0_coder_7d493 1 (some .byte) :: TB) (rmS 0 0) (Ps A xa [.ref (xa 1)]) (Qs (some (.int 0))) 0 0 A := by
  refine Met.ofW (cc := cJ0_coder_7d493) (maxL := 1) (ret := some .byte) (by decide +kernel) rfl ?_
  intro p e s m args below meth c s₁ B hml hv
  obtain ⟨rfl, hE⟩ := hv
  have hx := B.exec
  have hb := B.bytes
  have hr := B.returns
  have hts0 := atoms_spec (ws := Cond.code yJ0_coder_7d493 cJ0_coder_7d493 1 (some .byte) :: TB) B.pre
  have hts : ∀ w ∈ TB, w.before ([.ref (xa 1)] : List Value).toArray s = true := fun w hw => hts0 w (List.mem_cons_of_mem _ hw)
  have hown : s.vm.findClass yJ0_coder_7d493.cls = some m.cls := findClass_of_methodNamed B.named
  have hlocks := B.notSynchronized
  obtain ⟨g1, ⟨aV', g2⟩, g3, g4⟩ := id hE
  obtain ⟨k1, k2, k3, k4⟩ := g2.1 0 (by decide)
  have hS : va_S A s.heap s.heap [] := va_S.rf
  have hl := lv_entry ([.ref (xa 1)]) (n := 1) (Nat.le_of_ble_eq_true rfl)
  rw [lg_entry_eq]
  generalize (lg_sl ([.ref (xa 1)]) ++ List.replicate (1 - (lg_sl ([.ref (xa 1)])).length) Slot.unset).toArray = ls at hl ⊢
  refine va_gets hx hb g3 hS hown (hts _ (tb2 235 rfl rfl)) (fun _ h => h) dS_cJ0_coder_7d493_0 ?_
  refine lv_if_eq (tgt := 13) hx hb dS_cJ0_coder_7d493_3 (by decide) (fun h => absurd h (by decide)) (fun _ => ?_)
  refine lv_aload_n hx hb dS_cJ0_coder_7d493_6 rfl (lv_at hl 0 rfl) ?_
  refine vk_getf hx hb k2 hS hown (hts _ (tb7 129 rfl rfl)) (fun _ h => h) dS_cJ0_coder_7d493_7 ?_
  refine lv_goto (tgt := 14) hx hb dS_cJ0_coder_7d493_10 (by decide) ?_
  exact W.zret hx hb hr rfl (fun t ht _ => ⟨rfl, ht⟩) hS.2.2 dS_cJ0_coder_7d493_14
theorem c_isLatin1 (l : Launch) (A : Nat → Prop) (xa : Nat → Nat) : Met l yJ0_isLatin1_aae02 (Cond.code yJ0_isLatin1_aae02 cJ0_isLatin1_aae02 1 (some .boolean) :: TB) (rmS 0 0) (Ps A xa [.ref (xa 1)]) (Qs (some (.int 1))) 0 0 A := by
  refine Met.ofW (cc := cJ0_isLatin1_aae02) (maxL := 1) (ret := some .boolean) (by decide +kernel) rfl ?_
  intro p e s m args below meth c s₁ B hml hv
  obtain ⟨rfl, hE⟩ := hv
  have hx := B.exec
  have hb := B.bytes
  have hr := B.returns
  have hts0 := atoms_spec (ws := Cond.code yJ0_isLatin1_aae02 cJ0_isLatin1_aae02 1 (some .boolean) :: TB) B.pre
  have hts : ∀ w ∈ TB, w.before ([.ref (xa 1)] : List Value).toArray s = true := fun w hw => hts0 w (List.mem_cons_of_mem _ hw)
  have hown : s.vm.findClass yJ0_isLatin1_aae02.cls = some m.cls := findClass_of_methodNamed B.named
  have hlocks := B.notSynchronized
  obtain ⟨g1, ⟨aV', g2⟩, g3, g4⟩ := id hE
  obtain ⟨k1, k2, k3, k4⟩ := g2.1 0 (by decide)
  have hS : va_S A s.heap s.heap [] := va_S.rf
  have hl := lv_entry ([.ref (xa 1)]) (n := 1) (Nat.le_of_ble_eq_true rfl)
  rw [lg_entry_eq]
  generalize (lg_sl ([.ref (xa 1)]) ++ List.replicate (1 - (lg_sl ([.ref (xa 1)])).length) Slot.unset).toArray = ls at hl ⊢
  refine va_gets hx hb g3 hS hown (hts _ (tb2 235 rfl rfl)) (fun _ h => h) dS_cJ0_isLatin1_aae02_0 ?_
  refine lv_if_eq (tgt := 17) hx hb dS_cJ0_isLatin1_aae02_3 (by decide) (fun h => absurd h (by decide)) (fun _ => ?_)
  refine lv_aload_n hx hb dS_cJ0_isLatin1_aae02_6 rfl (lv_at hl 0 rfl) ?_
  refine vk_getf hx hb k2 hS hown (hts _ (tb7 129 rfl rfl)) (fun _ h => h) dS_cJ0_isLatin1_aae02_7 ?_
  refine lv_if_ne (tgt := 17) hx hb dS_cJ0_isLatin1_aae02_10 (by decide) (fun h => absurd rfl h) (fun _ => ?_)
  refine lv_iconst (v := 1) hx hb dS_cJ0_isLatin1_aae02_13 (by decide) ?_
  refine lv_goto (tgt := 18) hx hb dS_cJ0_isLatin1_aae02_14 (by decide) ?_
  exact W.zret hx hb hr rfl (fun t ht _ => ⟨rfl, ht⟩) hS.2.2 dS_cJ0_isLatin1_aae02_18
theorem c_length (l : Launch) (A : Nat → Prop) (xa : Nat → Nat) : Met l yJ0_length_8abf5 (Cond.code yJ0_length_8abf5 cJ0_length_8abf5 1 (some .int) :: TB) (rmS 1 20) (Ps A xa [.ref (xa 1)]) (Qs (some (.int 72))) 0 0 A := by
  refine Met.ofW (cc := cJ0_length_8abf5) (maxL := 1) (ret := some .int) (by decide +kernel) rfl ?_
  intro p e s m args below meth c s₁ B hml hv
  obtain ⟨rfl, hE⟩ := hv
  have hx := B.exec
  have hb := B.bytes
  have hr := B.returns
  have hts0 := atoms_spec (ws := Cond.code yJ0_length_8abf5 cJ0_length_8abf5 1 (some .int) :: TB) B.pre
  have hts : ∀ w ∈ TB, w.before ([.ref (xa 1)] : List Value).toArray s = true := fun w hw => hts0 w (List.mem_cons_of_mem _ hw)
  have hown : s.vm.findClass yJ0_length_8abf5.cls = some m.cls := findClass_of_methodNamed B.named
  have hlocks := B.notSynchronized
  obtain ⟨g1, ⟨aV', g2⟩, g3, g4⟩ := id hE
  obtain ⟨k1, k2, k3, k4⟩ := g2.1 0 (by decide)
  have hS : va_S A s.heap s.heap [] := va_S.rf
  have hl := lv_entry ([.ref (xa 1)]) (n := 1) (Nat.le_of_ble_eq_true rfl)
  rw [lg_entry_eq]
  generalize (lg_sl ([.ref (xa 1)]) ++ List.replicate (1 - (lg_sl ([.ref (xa 1)])).length) Slot.unset).toArray = ls at hl ⊢
  refine lv_aload_n hx hb dS_cJ0_length_8abf5_0 rfl (lv_at hl 0 rfl) ?_
  refine vk_getf hx hb k3 hS hown (hts _ (tb7 128 rfl rfl)) (fun _ h => h) dS_cJ0_length_8abf5_1 ?_
  refine va_tlen (v := 72) hx hb k4 hS rfl dS_cJ0_length_8abf5_4 ?_
  refine lv_aload_n hx hb dS_cJ0_length_8abf5_5 rfl (lv_at hl 0 rfl) ?_
  refine cs_call (va_runV (As := []) (rest := [.int 72]) ⟨hx, hb, hml, hown, hts⟩ (c_coder l A xa) (cwV (own := RJ0) (index := 335) (C := yJ0_coder_7d493.cls) (y := yJ0_coder_7d493) (bytes := cJ0_coder_7d493) (maxL := 1) (ret := some .byte) (rm := rmS 0 0) (ws := Cond.code yJ0_coder_7d493 cJ0_coder_7d493 1 (some .byte) :: TB) 0 hts (good_s (fun w hw => by
    rcases List.mem_append.mp hw with h | h
    · simp only [List.mem_cons, List.not_mem_nil, or_false] at h
      rcases h with rfl | rfl | rfl | rfl
      · exact (tb2 231 rfl rfl)
      · exact (tb2 232 rfl rfl)
      · exact (tb2 233 rfl rfl)
      · exact (tb1 17 rfl rfl)
    · exact in_c tbc_yJ0_coder_7d493 h)) rfl rfl rfl ⟨rfl, by decide +kernel, by decide +kernel, by decide +kernel⟩ ⟨by decide, by decide⟩) ⟨Ps.blind, vk_recv (i := 0) g2 (by decide) hS, fun U hU hW => ⟨rfl, hE.go hS hU hW⟩⟩ rfl rfl hl.1 rfl (lv_room (Nat.le_of_ble_eq_true rfl)) dS_cJ0_length_8abf5_6 ⟨by decide, by decide⟩) hS (fun locs hS => ?_)
  refine lv_ishr hx hb dS_cJ0_length_8abf5_9 ?_
  exact W.iret hx hb hr (fun t ht _ => ⟨rfl, ht⟩) hS.2.2 dS_cJ0_length_8abf5_10
theorem c_pcheck (l : Launch) (A : Nat → Prop) (xa : Nat → Nat) {i n : Int} (hi : i32 i) (hn : i32 n) (h0 : 0 ≤ i) (h1 : i < n) (z : Value) (hz : z.category = 1): Met l yJ3_checkIndex_8e157 (Cond.code yJ3_checkIndex_8e157 cJ3_checkIndex_8e157 3 (some .int) :: TB) (rmS 0 0) (Ps A xa [.int (Int32.ofInt i), .int (Int32.ofInt n), z]) (Qs (some (.int (Int32.ofInt i)))) 0 0 A := by
  refine Met.ofW (cc := cJ3_checkIndex_8e157) (maxL := 3) (ret := some .int) (by decide +kernel) rfl ?_
  intro p e s m args below meth c s₁ B hml hv
  obtain ⟨rfl, hE⟩ := hv
  have hx := B.exec
  have hb := B.bytes
  have hr := B.returns
  have hts0 := atoms_spec (ws := Cond.code yJ3_checkIndex_8e157 cJ3_checkIndex_8e157 3 (some .int) :: TB) B.pre
  have hts : ∀ w ∈ TB, w.before ([.int (Int32.ofInt i), .int (Int32.ofInt n), z] : List Value).toArray s = true := fun w hw => hts0 w (List.mem_cons_of_mem _ hw)
  have hown : s.vm.findClass yJ3_checkIndex_8e157.cls = some m.cls := findClass_of_methodNamed B.named
  have hlocks := B.notSynchronized
  obtain ⟨g1, ⟨aV', g2⟩, g3, g4⟩ := id hE
  obtain ⟨k1, k2, k3, k4⟩ := g2.1 0 (by decide)
  have hS : va_S A s.heap s.heap [] := va_S.rf
  have hl := lv_entry ([.int (Int32.ofInt i), .int (Int32.ofInt n), z]) (n := 3) (by simp [lg_sl, hz, vci])
  rw [lg_entry_eq]
  generalize (lg_sl ([.int (Int32.ofInt i), .int (Int32.ofInt n), z]) ++ List.replicate (3 - (lg_sl ([.int (Int32.ofInt i), .int (Int32.ofInt n), z])).length) Slot.unset).toArray = ls at hl ⊢
  have hl : lv_has ls 3 [(0, .int (Int32.ofInt i)), (1, .int (Int32.ofInt n))] := lv_weak hl (fun q hq => by
    simp only [List.mem_cons, List.not_mem_nil, or_false] at hq
    simp only [lv_args, Value.category, List.mem_cons]
    rcases hq with rfl | rfl
    · exact .inl rfl
    · exact .inr (.inl rfl))
  refine lv_iload_n hx hb dS_cJ3_checkIndex_8e157_0 rfl (lv_at hl 0 rfl) ?_
  refine lv_if_lt (tgt := 9) hx hb dS_cJ3_checkIndex_8e157_1 (by decide) (fun h => absurd h (ge0_32 hi h0)) (fun _ => ?_)
  refine lv_iload_n hx hb dS_cJ3_checkIndex_8e157_4 rfl (lv_at hl 0 rfl) ?_
  refine lv_iload_n hx hb dS_cJ3_checkIndex_8e157_5 rfl (lv_at hl 1 rfl) ?_
  refine lv_icmp_lt (tgt := 16) hx hb dS_cJ3_checkIndex_8e157_6 (by decide) (fun _ => ?_) (fun h => absurd ((lt32 hi hn).mpr h1) h)
  refine lv_iload_n hx hb dS_cJ3_checkIndex_8e157_16 rfl (lv_at hl 0 rfl) ?_
  exact W.iret hx hb hr (fun t ht _ => ⟨rfl, ht⟩) hS.2.2 dS_cJ3_checkIndex_8e157_17
theorem c_check (l : Launch) (A : Nat → Prop) (xa : Nat → Nat) {i n : Int} (hi : i32 i) (hn : i32 n) (h0 : 0 ≤ i) (h1 : i < n) : Met l yJ0_checkIndex_df160 (Cond.code yJ0_checkIndex_df160 cJ0_checkIndex_df160 2 (none) :: TB) (rmS 1 22) (Ps A xa [.int (Int32.ofInt i), .int (Int32.ofInt n)]) (Qs (none)) 0 0 A := by
  refine Met.ofW (cc := cJ0_checkIndex_df160) (maxL := 2) (ret := none) (by decide +kernel) rfl ?_
  intro p e s m args below meth c s₁ B hml hv
  obtain ⟨rfl, hE⟩ := hv
  have hx := B.exec
  have hb := B.bytes
  have hr := B.returns
  have hts0 := atoms_spec (ws := Cond.code yJ0_checkIndex_df160 cJ0_checkIndex_df160 2 (none) :: TB) B.pre
  have hts : ∀ w ∈ TB, w.before ([.int (Int32.ofInt i), .int (Int32.ofInt n)] : List Value).toArray s = true := fun w hw => hts0 w (List.mem_cons_of_mem _ hw)
  have hown : s.vm.findClass yJ0_checkIndex_df160.cls = some m.cls := findClass_of_methodNamed B.named
  have hlocks := B.notSynchronized
  obtain ⟨g1, ⟨aV', g2⟩, g3, g4⟩ := id hE
  obtain ⟨k1, k2, k3, k4⟩ := g2.1 0 (by decide)
  have hS : va_S A s.heap s.heap [] := va_S.rf
  have hl := lv_entry ([.int (Int32.ofInt i), .int (Int32.ofInt n)]) (n := 2) (Nat.le_of_ble_eq_true rfl)
  rw [lg_entry_eq]
  generalize (lg_sl ([.int (Int32.ofInt i), .int (Int32.ofInt n)]) ++ List.replicate (2 - (lg_sl ([.int (Int32.ofInt i), .int (Int32.ofInt n)])).length) Slot.unset).toArray = ls at hl ⊢
  refine lv_iload_n hx hb dS_cJ0_checkIndex_df160_0 rfl (lv_at hl 0 rfl) ?_
  refine lv_iload_n hx hb dS_cJ0_checkIndex_df160_1 rfl (lv_at hl 1 rfl) ?_
  obtain ⟨z, hz, hZ⟩ : ∃ z : Value, z.category = 1 ∧ va_Z RJ3 "SIOOBE_FORMATTER" "Ljava/util/function/BiFunction;" z A s s.heap := by
    rcases g4 with h | ⟨t, h⟩
    · exact ⟨.null, rfl, h⟩
    · exact ⟨.ref t, rfl, h⟩
  refine va_gets hx hb hZ hS hown (hts _ (tb3 15 rfl rfl)) (fun _ h => h) dS_cJ0_checkIndex_df160_2 ?_
  refine cs_call (va_runS (As := [.int (Int32.ofInt i), .int (Int32.ofInt n), z]) (rest := []) ⟨hx, hb, hml, hown, hts⟩ (c_pcheck l A xa hi hn h0 h1 z hz) (va_cwS (own := RJ0) (index := 1059) (y := yJ3_checkIndex_8e157) (bytes := cJ3_checkIndex_8e157) (maxL := 3) (ret := some .int) (rm := rmS 0 0) (ws := Cond.code yJ3_checkIndex_8e157 cJ3_checkIndex_8e157 3 (some .int) :: TB) 3 hts (good_s (fun w hw => by
    rcases List.mem_append.mp hw with h | h
    · simp only [List.mem_cons, List.not_mem_nil, or_false] at h
      rcases h with rfl | rfl | rfl
      · exact (tb3 17 rfl rfl)
      · exact (tb3 18 rfl rfl)
      · exact (tb1 19 rfl rfl)
    · exact in_c tbc_yJ3_checkIndex_8e157 h)) rfl rfl rfl ⟨by decide +kernel, by decide +kernel, by decide +kernel⟩ ⟨by decide, by decide⟩) ⟨Ps.blind, fun U hU hW => ⟨rfl, hE.go hS hU hW⟩⟩ rfl rfl hl.1 rfl (lv_room (Nat.le_of_ble_eq_true rfl)) dS_cJ0_checkIndex_df160_5 ⟨by decide, by decide⟩) hS (fun locs hS => ?_)
  refine lv_pop hx hb dS_cJ0_checkIndex_df160_8 rfl ?_
  exact W.vret hx hb hr (fun t ht _ => ⟨rfl, ht⟩) hS.2.2 dS_cJ0_checkIndex_df160_9
theorem ch_all : ∀ j, j < 72 → (((((wordsC.map Int32.ofInt).getD j 0) &&& 255).toUInt32 % 65536).toInt32 = Int32.ofInt (wordsC.getD j 0) ∧ narrow .char (.int (Int32.ofInt (wordsC.getD j 0))) = .int (Int32.ofInt (wordsC.getD j 0)) ∧ i32 (wordsC.getD j 0)) := by
  unfold i32
  decide +kernel
theorem i72 : i32 72 := by unfold i32; omega
def Pv (A : Nat → Prop) (xa : Nat → Nat) (av : List Value) (aV : Nat) : Array Value → State → Prop := va_Pc av (fun U => STR A xa U U.heap ∧ va_T .byte aV 72 (fun j => .int ((wordsC.map Int32.ofInt).getD j 0)) A U U.heap)
theorem Pv.blind {A : Nat → Prop} {xa : Nat → Nat} {av : List Value} {aV : Nat} : FrameBlind (Pv A xa av aV) := fun a U g mk h => ⟨h.1, STR.same (u := U) h.2.1 rfl rfl, h.2.2⟩
theorem c_lchar (l : Launch) (A : Nat → Prop) (xa : Nat → Nat) {j : Int} (h0 : 0 ≤ j) (h1 : j < 72) (aV : Nat) : Met l yJ1_charAt_3b067 (Cond.code yJ1_charAt_3b067 cJ1_charAt_3b067 2 (some .char) :: TB) (rmS 2 43) (Pv A xa [.ref aV, .int (Int32.ofInt j)] aV) (Qs (some (.int (Int32.ofInt (wordsC.getD j.toNat 0))))) 0 0 A := by
  refine Met.ofW (cc := cJ1_charAt_3b067) (maxL := 2) (ret := some .char) (by decide +kernel) rfl ?_
  intro p e s m args below meth c s₁ B hml hv
  obtain ⟨rfl, hE, hT⟩ := hv
  have hx := B.exec
  have hb := B.bytes
  have hr := B.returns
  have hts0 := atoms_spec (ws := Cond.code yJ1_charAt_3b067 cJ1_charAt_3b067 2 (some .char) :: TB) B.pre
  have hts : ∀ w ∈ TB, w.before ([.ref aV, .int (Int32.ofInt j)] : List Value).toArray s = true := fun w hw => hts0 w (List.mem_cons_of_mem _ hw)
  have hown : s.vm.findClass yJ1_charAt_3b067.cls = some m.cls := findClass_of_methodNamed B.named
  have hlocks := B.notSynchronized
  obtain ⟨g1, ⟨aV', g2⟩, g3, g4⟩ := id hE
  obtain ⟨k1, k2, k3, k4⟩ := g2.1 0 (by decide)
  have hS : va_S A s.heap s.heap [] := va_S.rf
  have hl := lv_entry ([.ref aV, .int (Int32.ofInt j)]) (n := 2) (Nat.le_of_ble_eq_true rfl)
  rw [lg_entry_eq]
  generalize (lg_sl ([.ref aV, .int (Int32.ofInt j)]) ++ List.replicate (2 - (lg_sl ([.ref aV, .int (Int32.ofInt j)])).length) Slot.unset).toArray = ls at hl ⊢
  have hj : i32 j := by unfold i32; omega
  refine lv_iload_n hx hb dS_cJ1_charAt_3b067_0 rfl (lv_at hl 1 rfl) ?_
  refine lv_aload_n hx hb dS_cJ1_charAt_3b067_1 rfl (lv_at hl 0 rfl) ?_
  refine va_tlen (v := Int32.ofInt 72) hx hb hT hS rfl dS_cJ1_charAt_3b067_2 ?_
  refine cs_call (va_runS (As := [.int (Int32.ofInt j), .int (Int32.ofInt 72)]) (rest := []) ⟨hx, hb, hml, hown, hts⟩ (c_check l A xa hj i72 h0 h1) (va_cwS (own := RJ1) (index := 9) (y := yJ0_checkIndex_df160) (bytes := cJ0_checkIndex_df160) (maxL := 2) (ret := none) (rm := rmS 1 22) (ws := Cond.code yJ0_checkIndex_df160 cJ0_checkIndex_df160 2 (none) :: TB) 2 hts (good_s (fun w hw => by
    rcases List.mem_append.mp hw with h | h
    · simp only [List.mem_cons, List.not_mem_nil, or_false] at h
      rcases h with rfl | rfl | rfl
      · exact (tb3 12 rfl rfl)
      · exact (tb3 13 rfl rfl)
      · exact (tb1 17 rfl rfl)
    · exact in_c tbc_yJ0_checkIndex_df160 h)) rfl rfl rfl ⟨by decide +kernel, by decide +kernel, by decide +kernel⟩ ⟨by decide, by decide⟩) ⟨Ps.blind, fun U hU hW => ⟨rfl, hE.go hS hU hW⟩⟩ rfl rfl hl.1 rfl (lv_room (Nat.le_of_ble_eq_true rfl)) dS_cJ1_charAt_3b067_3 ⟨by decide, by decide⟩) hS (fun locs hS => ?_)
  refine lv_aload_n hx hb dS_cJ1_charAt_3b067_6 rfl (lv_at hl 0 rfl) ?_
  refine lv_iload_n hx hb dS_cJ1_charAt_3b067_7 rfl (lv_at hl 1 rfl) ?_
  refine va_tb (v := .int ((wordsC.map Int32.ofInt).getD j.toNat 0)) hx hb hT hS (vp_in32 hj h0 h1) (by rw [cl32 hj]) dS_cJ1_charAt_3b067_8 ?_
  refine lv_sipush (v := 255) hx hb dS_cJ1_charAt_3b067_9 (by decide) ?_
  refine lv_iand hx hb dS_cJ1_charAt_3b067_12 ?_
  obtain ⟨c1, c2, -⟩ := ch_all j.toNat (by omega)
  refine lv_i2c (v := Int32.ofInt (wordsC.getD j.toNat 0)) hx hb dS_cJ1_charAt_3b067_13 c1 ?_
  exact W.zret hx hb hr c2 (fun t ht _ => ⟨rfl, ht⟩) hS.2.2 dS_cJ1_charAt_3b067_14
theorem TGO {A : Nat → Prop} {aV : Nat} {f : Nat → Value} {s U : State} {H : Heap} {locs : List Loc} (h : va_T .byte aV 72 f A s s.heap) (hS : va_S A s.heap H locs) (hU : U.heap = H) (hW : s.WarmedH U.vm) : va_T .byte aV 72 f A U U.heap := by
  subst hU
  exact (h.moved hW.alike).kept (fun a q1 q2 => hS.2.1 a q1 q2)
theorem c_charAt (l : Launch) (A : Nat → Prop) (xa : Nat → Nat) {j : Int} (h0 : 0 ≤ j) (h1 : j < 72) : Met l yJ0_charAt_5068e (Cond.code yJ0_charAt_5068e cJ0_charAt_5068e 2 (some .char) :: TB) (rmS 3 64) (Ps A xa [.ref (xa 1), .int (Int32.ofInt j)]) (Qs (some (.int (Int32.ofInt (wordsC.getD j.toNat 0))))) 0 0 A := by
  refine Met.ofW (cc := cJ0_charAt_5068e) (maxL := 2) (ret := some .char) (by decide +kernel) rfl ?_
  intro p e s m args below meth c s₁ B hml hv
  obtain ⟨rfl, hE⟩ := hv
  have hx := B.exec
  have hb := B.bytes
  have hr := B.returns
  have hts0 := atoms_spec (ws := Cond.code yJ0_charAt_5068e cJ0_charAt_5068e 2 (some .char) :: TB) B.pre
  have hts : ∀ w ∈ TB, w.before ([.ref (xa 1), .int (Int32.ofInt j)] : List Value).toArray s = true := fun w hw => hts0 w (List.mem_cons_of_mem _ hw)
  have hown : s.vm.findClass yJ0_charAt_5068e.cls = some m.cls := findClass_of_methodNamed B.named
  have hlocks := B.notSynchronized
  obtain ⟨g1, ⟨aV', g2⟩, g3, g4⟩ := id hE
  obtain ⟨k1, k2, k3, k4⟩ := g2.1 0 (by decide)
  have hS : va_S A s.heap s.heap [] := va_S.rf
  have hl := lv_entry ([.ref (xa 1), .int (Int32.ofInt j)]) (n := 2) (Nat.le_of_ble_eq_true rfl)
  rw [lg_entry_eq]
  generalize (lg_sl ([.ref (xa 1), .int (Int32.ofInt j)]) ++ List.replicate (2 - (lg_sl ([.ref (xa 1), .int (Int32.ofInt j)])).length) Slot.unset).toArray = ls at hl ⊢
  refine lv_aload_n hx hb dS_cJ0_charAt_5068e_0 rfl (lv_at hl 0 rfl) ?_
  refine cs_call (va_runV (As := []) (rest := []) ⟨hx, hb, hml, hown, hts⟩ (c_isLatin1 l A xa) (cwV (own := RJ0) (index := 492) (C := yJ0_isLatin1_aae02.cls) (y := yJ0_isLatin1_aae02) (bytes := cJ0_isLatin1_aae02) (maxL := 1) (ret := some .boolean) (rm := rmS 0 0) (ws := Cond.code yJ0_isLatin1_aae02 cJ0_isLatin1_aae02 1 (some .boolean) :: TB) 0 hts (good_s (fun w hw => by
    rcases List.mem_append.mp hw with h | h
    · simp only [List.mem_cons, List.not_mem_nil, or_false] at h
      rcases h with rfl | rfl | rfl | rfl
      · exact (tb3 5 rfl rfl)
      · exact (tb3 6 rfl rfl)
      · exact (tb3 7 rfl rfl)
      · exact (tb1 17 rfl rfl)
    · exact in_c tbc_yJ0_isLatin1_aae02 h)) rfl rfl rfl ⟨rfl, by decide +kernel, by decide +kernel, by decide +kernel⟩ ⟨by decide, by decide⟩) ⟨Ps.blind, vk_recv (i := 0) g2 (by decide) hS, fun U hU hW => ⟨rfl, hE.go hS hU hW⟩⟩ rfl rfl hl.1 rfl (lv_room (Nat.le_of_ble_eq_true rfl)) dS_cJ0_charAt_5068e_1 ⟨by decide, by decide⟩) hS (fun locs hS => ?_)
  refine lv_if_eq (tgt := 16) hx hb dS_cJ0_charAt_5068e_4 (by decide) (fun h => absurd h (by decide)) (fun _ => ?_)
  refine lv_aload_n hx hb dS_cJ0_charAt_5068e_7 rfl (lv_at hl 0 rfl) ?_
  refine vk_getf hx hb k3 hS hown (hts _ (tb7 128 rfl rfl)) (fun _ h => h) dS_cJ0_charAt_5068e_8 ?_
  refine lv_iload_n hx hb dS_cJ0_charAt_5068e_11 rfl (lv_at hl 1 rfl) ?_
  refine cs_call (va_runS (As := [.ref aV', .int (Int32.ofInt j)]) (rest := []) ⟨hx, hb, hml, hown, hts⟩ (c_lchar l A xa h0 h1 aV') (va_cwS (own := RJ0) (index := 495) (y := yJ1_charAt_3b067) (bytes := cJ1_charAt_3b067) (maxL := 2) (ret := some .char) (rm := rmS 2 43) (ws := Cond.code yJ1_charAt_3b067 cJ1_charAt_3b067 2 (some .char) :: TB) 2 hts (good_s (fun w hw => by
    rcases List.mem_append.mp hw with h | h
    · simp only [List.mem_cons, List.not_mem_nil, or_false] at h
      rcases h with rfl | rfl | rfl
      · exact (tb3 9 rfl rfl)
      · exact (tb3 10 rfl rfl)
      · exact (tb1 18 rfl rfl)
    · exact in_c tbc_yJ1_charAt_3b067 h)) rfl rfl rfl ⟨by decide +kernel, by decide +kernel, by decide +kernel⟩ ⟨by decide, by decide⟩) ⟨Pv.blind, fun U hU hW => ⟨rfl, hE.go hS hU hW, TGO k4 hS hU hW⟩⟩ rfl rfl hl.1 rfl (lv_room (Nat.le_of_ble_eq_true rfl)) dS_cJ0_charAt_5068e_12 ⟨by decide, by decide⟩) hS (fun locs hS => ?_)
  exact W.zret hx hb hr (ch_all j.toNat (by omega)).2.1 (fun t ht _ => ⟨rfl, ht⟩) hS.2.2 dS_cJ0_charAt_5068e_15
section SNDS
variable {p : Program} {l : Launch} {e : Env} {Rm : Room} {s : State} {m : MethodId} {args : Array Value} {below : List Frame} {meth : Method} {c : Code} {D : va_G} {cy : Nat → ClassId} {xa : Nat → Nat} {A : Nat → Prop} {sc : Nat → Int} {Ls mi d : Nat} {ad0 : Nat → Nat} {n0 s0 : Nat} {Q : State → Prop} {pc : Nat} {lv st r : List AV} {M : MM} {R : RR}
theorem G_strlen {i : Nat} (C : CX p Rm s m args meth c D cy xa A sc Ls mi d) (hd : decode (codeOf mi) pc = .ok (.invokevirtual i, 3)) (hb : bltT (clsOf mi) i = some 7) (hcat : catS r ≤ 8) (hc : R 0 0 ≤ n0 + Rm.cells) (hs : R 0 1 ≤ s0 + Rm.slots) (K : GW p l e Rm s m args below meth c D cy xa A sc Ls mi ad0 n0 s0 Q (pc + 3) lv (vI 72 :: r) M R) : GW p l e Rm s m args below meth c D cy xa A sc Ls mi ad0 n0 s0 Q pc lv (vX 1 :: r) M R := by
  intro ad H locs cells slots ls X
  obtain ⟨b1, b2, b3, b4, b5⟩ := bok _ (lk_mem hb)
  have hts := C.2.2.2.2.1
  have hE : STR A xa s s.heap := C.2.2.2.2.2.2.2.1.2.2.2.1
  obtain ⟨g1, ⟨aV', g2⟩, g3, g4⟩ := id hE
  obtain ⟨z1, z2, z3, z4⟩ := X.2.2.2.2.1
  have hF1 := C.2.2.2.2.2.2.2.2.2.1
  have hF2 := C.2.2.2.2.2.2.2.2.2.2
  have hsz : (F0 m pc ls (List.map (cv ad xa) (vX 1 :: r))).locals.size = maxLOf mi := by show ls.size = _; rw [X.2.2.1.1.1, X.2.2.1.2.1]
  have cw := cwV (R := Rm) (s := s) (args := args) (own := cname (clsOf mi)) (index := i) (C := yJ0_length_8abf5.cls) (y := yJ0_length_8abf5) (bytes := cJ0_length_8abf5) (maxL := 1) (ret := some .int) (rm := rmS 1 20) (ws := Cond.code yJ0_length_8abf5 cJ0_length_8abf5 1 (some .int) :: TB) 0 hts (good_s (fun w hw => by
    rcases List.mem_append.mp hw with h | h
    · simp only [List.mem_cons, List.not_mem_nil, or_false] at h
      rcases h with rfl | rfl | rfl | rfl
      · exact b1
      · exact b2
      · exact b3
      · exact b4
    · exact in_c tbc_yJ0_length_8abf5 h)) rfl rfl rfl ⟨rfl, by decide +kernel, by decide +kernel, by decide +kernel⟩ ⟨by show 1 + 1 ≤ _; omega, by show 8 + (1 + 11) + 20 ≤ _; omega⟩
  refine cs_call (va_runV (As := ([] : List Value)) (rest := r.map (cv ad xa)) ⟨C.1, C.2.1, C.2.2.1, C.2.2.2.1, hts⟩ (c_length l A xa) cw ⟨Ps.blind, vk_recv (i := 0) g2 (by decide) X.1.2.2, fun U hU hW => ⟨rfl, hE.go X.1.2.2 hU hW⟩⟩ rfl rfl hsz rfl (lv_room (by rw [catS_map]; exact hcat)) hd ⟨by omega, by omega⟩) X.1.2.2 (fun locs1 hS => ?_)
  exact K ad H locs1 cells slots ls ⟨⟨X.1.1, X.1.2.1, hS⟩, X.2.1, X.2.2.1, ok_cons (show i32 72 from i72) (ok_tl X.2.2.2.1), X.2.2.2.2⟩
theorem G_charAt {i : Nat} {j : Int} (C : CX p Rm s m args meth c D cy xa A sc Ls mi d) (hd : decode (codeOf mi) pc = .ok (.invokevirtual i, 3)) (hb : bltT (clsOf mi) i = some 8) (hcat : catS r ≤ 8) (h0 : 0 ≤ j) (h1 : j < 72) (hc : R 0 0 ≤ n0 + Rm.cells) (hs : R 0 1 ≤ s0 + Rm.slots) (K : GW p l e Rm s m args below meth c D cy xa A sc Ls mi ad0 n0 s0 Q (pc + 3) lv (vI (wordsC.getD j.toNat 0) :: r) M R) : GW p l e Rm s m args below meth c D cy xa A sc Ls mi ad0 n0 s0 Q pc lv (vI j :: vX 1 :: r) M R := by
  intro ad H locs cells slots ls X
  obtain ⟨b1, b2, b3, b4, b5⟩ := bok _ (lk_mem hb)
  have hts := C.2.2.2.2.1
  have hE : STR A xa s s.heap := C.2.2.2.2.2.2.2.1.2.2.2.1
  obtain ⟨g1, ⟨aV', g2⟩, g3, g4⟩ := id hE
  obtain ⟨z1, z2, z3, z4⟩ := X.2.2.2.2.1
  have hF1 := C.2.2.2.2.2.2.2.2.2.1
  have hF2 := C.2.2.2.2.2.2.2.2.2.2
  have hsz : (F0 m pc ls (List.map (cv ad xa) (vI j :: vX 1 :: r))).locals.size = maxLOf mi := by show ls.size = _; rw [X.2.2.1.1.1, X.2.2.1.2.1]
  have cw := cwV (R := Rm) (s := s) (args := args) (own := cname (clsOf mi)) (index := i) (C := yJ0_charAt_5068e.cls) (y := yJ0_charAt_5068e) (bytes := cJ0_charAt_5068e) (maxL := 2) (ret := some .char) (rm := rmS 3 64) (ws := Cond.code yJ0_charAt_5068e cJ0_charAt_5068e 2 (some .char) :: TB) 1 hts (good_s (fun w hw => by
    rcases List.mem_append.mp hw with h | h
    · simp only [List.mem_cons, List.not_mem_nil, or_false] at h
      rcases h with rfl | rfl | rfl | rfl
      · exact b1
      · exact b2
      · exact b3
      · exact b4
    · exact in_c tbc_yJ0_charAt_5068e h)) rfl rfl rfl ⟨rfl, by decide +kernel, by decide +kernel, by decide +kernel⟩ ⟨by show 3 + 1 ≤ _; omega, by show 8 + (2 + 11) + 64 ≤ _; omega⟩
  refine cs_call (va_runV (As := [.int (Int32.ofInt j)]) (rest := r.map (cv ad xa)) ⟨C.1, C.2.1, C.2.2.1, C.2.2.2.1, hts⟩ (c_charAt l A xa h0 h1) cw ⟨Ps.blind, vk_recv (i := 0) g2 (by decide) X.1.2.2, fun U hU hW => ⟨rfl, hE.go X.1.2.2 hU hW⟩⟩ rfl rfl hsz rfl (lv_room (by rw [catS_map]; exact hcat)) hd ⟨by omega, by omega⟩) X.1.2.2 (fun locs1 hS => ?_)
  exact K ad H locs1 cells slots ls ⟨⟨X.1.1, X.1.2.1, hS⟩, X.2.1, X.2.2.1, ok_cons ((ch_all j.toNat (by omega)).2.2) (ok_tl (ok_tl X.2.2.2.1)), X.2.2.2.2⟩
end SNDS
