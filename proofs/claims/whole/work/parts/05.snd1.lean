/-! ===== SOUNDNESS, an instruction a row: what the clean machine does, the machine does ===== -/
def wTx : String := "weighspays  asks  or    and   not   day   born  year  more  told  who   "
def STR (A : Nat → Prop) (xa : Nat → Nat) (U : State) (H : Heap) : Prop :=
  vk_R RX6 50 wTx (xa 1) U ∧ (∃ aV : Nat, vk_S 1 [72] [wordsC.map Int32.ofInt] (fun _ => xa 1) (fun _ => aV) A U H) ∧ va_Z RJ0 "COMPACT_STRINGS" "Z" (.int 1) A U H ∧ va_Zq RJ3 "SIOOBE_FORMATTER" "Ljava/util/function/BiFunction;" A U H
def EX (A : Nat → Prop) (xa : Nat → Nat) (sc : Nat → Int) (Ls : Nat) (U : State) : Prop :=
  va_AO RX4 U ∧ va_AO RX7 U ∧ va_Nw (.castable "[I" "java/lang/Cloneable") U ∧ STR A xa U U.heap ∧ va_X (xa 2) Ls (fun j => Int32.ofInt (sc j)) U U.heap ∧ xa 2 < U.heap.size ∧ ¬ A (xa 2)
theorem EX.go {A : Nat → Prop} {xa : Nat → Nat} {sc : Nat → Int} {Ls : Nat} {s U : State} {H : Heap} {locs : List Loc} (h : EX A xa sc Ls s) (hS : va_S A s.heap H locs) (hU : U.heap = H) (hW : s.WarmedH U.vm) : EX A xa sc Ls U := by
  obtain ⟨h1, h2, h3, ⟨g1, ⟨aV, g2⟩, g3, g4⟩, h5, h6, h7⟩ := h
  subst hU
  have hk : ∀ a : Nat, a < s.heap.size → ¬ A a → U.heap[a]? = s.heap[a]? := fun a q1 q2 => hS.2.1 a q1 q2
  refine ⟨h1.moved hW.alike, h2.moved hW.alike, h3.warmC hW, ⟨g1.warm hW, ⟨aV, (g2.moved hW.alike).kept hk⟩, (g3.moved hW.alike).kept hk, (g4.moved hW.alike).kept hk⟩, ?_, Nat.lt_of_lt_of_le h6 hS.1, h7⟩
  obtain ⟨scr, q1, q2⟩ := h5.moved hW.alike
  exact ⟨scr, by rw [hk _ h6 h7]; exact q1, q2⟩
def tys (cy : Nat → ClassId) : List (ClassId × FieldType) := [(cy 0, .int), (cy 1, .long), (cy 2, .boolean), (cy 3, .object RX4), (cy 4, .object RX7)]
def okM (sc : Nat → Int) (Ls : Nat) (M : MM) (R : RR) : Prop := okS M R ∧ M 0 = sc ∧ R 0 2 = Ls
def CX (p : Program) (Rm : Room) (s : State) (m : MethodId) (args : Array Value) (meth : Method) (c : Code) (D : va_G) (cy : Nat → ClassId) (xa : Nat → Nat) (A : Nat → Prop) (sc : Nat → Int) (Ls : Nat) (mi d : Nat) : Prop :=
  p.tables.exec = Jvm.exec ∧ c.code = codeOf mi ∧ c.maxLocals = maxLOf mi ∧ s.vm.findClass (cname (clsOf mi)) = some m.cls ∧ (∀ w ∈ TB, w.before args s = true) ∧ va_K D vwCl (tys cy) s ∧ (∀ q, s.heap.size ≤ q → A q) ∧ EX A xa sc Ls s ∧ ((nmOf mi).name = "<init>" → meth.name = "<init>") ∧ d + 5 ≤ Rm.frames ∧ 60 * (d + 1) + 100 ≤ Rm.locals
def SR (s : State) (D : va_G) (cy : Nat → ClassId) (xa : Nat → Nat) (A : Nat → Prop) (sc : Nat → Int) (Ls mi : Nat) (ad0 : Nat → Nat) (n0 s0 : Nat) (lv st : List AV) (M : MM) (R : RR) (ad : Nat → Nat) (H : Heap) (locs : List Loc) (cells slots : Nat) (ls : Array Slot) : Prop :=
  (va_P D vwCl (wsOf cy ad M R) H ∧ va_D A (wsOf cy ad M R) ∧ va_S A s.heap H locs) ∧ okM sc Ls M R ∧ (LV ad xa ls lv ∧ lv.length = maxLOf mi ∧ ∀ v ∈ lv, okV R v) ∧ (∀ v ∈ st, okV R v) ∧ (n0 ≤ R 0 0 ∧ s0 ≤ R 0 1 ∧ cells = R 0 0 - n0 ∧ slots = R 0 1 - s0) ∧ ∀ o, o ≤ n0 → ad o = ad0 o
def GW (p : Program) (l : Launch) (e : Env) (Rm : Room) (s : State) (m : MethodId) (args : Array Value) (below : List Frame) (meth : Method) (c : Code) (D : va_G) (cy : Nat → ClassId) (xa : Nat → Nat) (A : Nat → Prop) (sc : Nat → Int) (Ls mi : Nat) (ad0 : Nat → Nat) (n0 s0 : Nat) (Q : State → Prop) (pc : Nat) (lv st : List AV) (M : MM) (R : RR) : Prop :=
  ∀ (ad : Nat → Nat) (H : Heap) (locs : List Loc) (cells slots : Nat) (ls : Array Slot), SR s D cy xa A sc Ls mi ad0 n0 s0 lv st M R ad H locs cells slots ls → W p l e Rm s m args below meth c H locs cells slots Q (F0 m pc ls (st.map (cv ad xa)))
section SND
variable {p : Program} {l : Launch} {e : Env} {Rm : Room} {s : State} {m : MethodId} {args : Array Value} {below : List Frame} {meth : Method} {c : Code} {D : va_G} {cy : Nat → ClassId} {xa : Nat → Nat} {A : Nat → Prop} {sc : Nat → Int} {Ls mi d : Nat} {ad0 : Nat → Nat} {n0 s0 : Nat} {Q : State → Prop} {pc : Nat} {lv st r : List AV} {M : MM} {R : RR}
theorem SR.stk {st' : List AV} {ad : Nat → Nat} {H : Heap} {locs : List Loc} {cells slots : Nat} {ls : Array Slot} (X : SR s D cy xa A sc Ls mi ad0 n0 s0 lv st M R ad H locs cells slots ls) (h : ∀ v ∈ st', okV R v) : SR s D cy xa A sc Ls mi ad0 n0 s0 lv st' M R ad H locs cells slots ls := ⟨X.1, X.2.1, X.2.2.1, h, X.2.2.2.2.1, X.2.2.2.2.2⟩
theorem ok_tl {v : AV} (h : ∀ w ∈ v :: r, okV R w) : ∀ w ∈ r, okV R w := fun w q => h w (List.mem_cons_of_mem _ q)
theorem ok_hd {v : AV} (h : ∀ w ∈ v :: r, okV R w) : okV R v := h v List.mem_cons_self
theorem ok_cons {v : AV} (h : okV R v) (t : ∀ w ∈ r, okV R w) : ∀ w ∈ v :: r, okV R w := fun w q => (List.mem_cons.mp q).elim (fun e => e ▸ h) (t w)
theorem G_iconst {n : Int} (C : CX p Rm s m args meth c D cy xa A sc Ls mi d) (hd : decode (codeOf mi) pc = .ok (.iconst n, 1)) (h : -1 ≤ n ∧ n ≤ 5) (K : GW p l e Rm s m args below meth c D cy xa A sc Ls mi ad0 n0 s0 Q (pc + 1) lv (vI n :: st) M R) : GW p l e Rm s m args below meth c D cy xa A sc Ls mi ad0 n0 s0 Q pc lv st M R := by
  intro ad H locs cells slots ls X
  refine lv_iconst (v := Int32.ofInt n) C.1 C.2.1 hd rfl ?_
  exact K ad H locs cells slots ls (X.stk (ok_cons (show i32 n by unfold i32; omega) X.2.2.2.1))
theorem G_bipush {n : Int} (C : CX p Rm s m args meth c D cy xa A sc Ls mi d) (hd : decode (codeOf mi) pc = .ok (.bipush n, 2)) (h : -128 ≤ n ∧ n < 128) (K : GW p l e Rm s m args below meth c D cy xa A sc Ls mi ad0 n0 s0 Q (pc + 2) lv (vI n :: st) M R) : GW p l e Rm s m args below meth c D cy xa A sc Ls mi ad0 n0 s0 Q pc lv st M R := by
  intro ad H locs cells slots ls X
  refine lv_bipush (v := Int32.ofInt n) C.1 C.2.1 hd (by rw [← Int32.toInt_inj, Int8.toInt_toInt32, Int8.toInt_ofInt_of_le (by simpa using h.1) (by simpa using h.2), to32 (by unfold i32; omega)]) ?_
  exact K ad H locs cells slots ls (X.stk (ok_cons (show i32 n by unfold i32; omega) X.2.2.2.1))
theorem G_sipush {n : Int} (C : CX p Rm s m args meth c D cy xa A sc Ls mi d) (hd : decode (codeOf mi) pc = .ok (.sipush n, 3)) (h : -32768 ≤ n ∧ n < 32768) (K : GW p l e Rm s m args below meth c D cy xa A sc Ls mi ad0 n0 s0 Q (pc + 3) lv (vI n :: st) M R) : GW p l e Rm s m args below meth c D cy xa A sc Ls mi ad0 n0 s0 Q pc lv st M R := by
  intro ad H locs cells slots ls X
  refine lv_sipush (v := Int32.ofInt n) C.1 C.2.1 hd (by rw [← Int32.toInt_inj, Int16.toInt_toInt32, Int16.toInt_ofInt_of_le (by simpa using h.1) (by simpa using h.2), to32 (by unfold i32; omega)]) ?_
  exact K ad H locs cells slots ls (X.stk (ok_cons (show i32 n by unfold i32; omega) X.2.2.2.1))
theorem G_lconst {n : Fin 2} (C : CX p Rm s m args meth c D cy xa A sc Ls mi d) (hd : decode (codeOf mi) pc = .ok (.lconst n, 1)) (K : GW p l e Rm s m args below meth c D cy xa A sc Ls mi ad0 n0 s0 Q (pc + 1) lv (vJ (n.val : Int) :: st) M R) : GW p l e Rm s m args below meth c D cy xa A sc Ls mi ad0 n0 s0 Q pc lv st M R := by
  intro ad H locs cells slots ls X
  refine lv_lconst (v := Int64.ofInt (n.val : Int)) C.1 C.2.1 hd rfl ?_
  exact K ad H locs cells slots ls (X.stk (ok_cons (show i64 (n.val : Int) by unfold i64; omega) X.2.2.2.1))
theorem G_null  (C : CX p Rm s m args meth c D cy xa A sc Ls mi d) (hd : decode (codeOf mi) pc = .ok (.aconst_null, 1)) (K : GW p l e Rm s m args below meth c D cy xa A sc Ls mi ad0 n0 s0 Q (pc + 1) lv (vA 0 :: st) M R) : GW p l e Rm s m args below meth c D cy xa A sc Ls mi ad0 n0 s0 Q pc lv st M R := by
  intro ad H locs cells slots ls X
  refine lv_null C.1 C.2.1 hd ?_
  exact K ad H locs cells slots ls (X.stk (ok_cons (Nat.zero_le _) X.2.2.2.1))
theorem G_iload_n {k : Fin 4} {x : Int} (C : CX p Rm s m args meth c D cy xa A sc Ls mi d) (hd : decode (codeOf mi) pc = .ok (.iload_n k, 1)) (h : lv[k.val]? = some (vI x)) (K : GW p l e Rm s m args below meth c D cy xa A sc Ls mi ad0 n0 s0 Q (pc + 1) lv (vI x :: st) M R) : GW p l e Rm s m args below meth c D cy xa A sc Ls mi ad0 n0 s0 Q pc lv st M R := by
  intro ad H locs cells slots ls X
  refine lv_iload_n C.1 C.2.1 hd rfl (X.2.2.1.1.at h (fun e => by cases e)) ?_
  exact K ad H locs cells slots ls (X.stk (ok_cons (X.2.2.1.2.2 _ (List.mem_of_getElem? h)) X.2.2.2.1))
theorem G_iload {i : Nat} {x : Int} (C : CX p Rm s m args meth c D cy xa A sc Ls mi d) (hd : decode (codeOf mi) pc = .ok (.iload i, 2)) (h : lv[i]? = some (vI x)) (K : GW p l e Rm s m args below meth c D cy xa A sc Ls mi ad0 n0 s0 Q (pc + 2) lv (vI x :: st) M R) : GW p l e Rm s m args below meth c D cy xa A sc Ls mi ad0 n0 s0 Q pc lv st M R := by
  intro ad H locs cells slots ls X
  refine lv_iload C.1 C.2.1 hd (X.2.2.1.1.at h (fun e => by cases e)) ?_
  exact K ad H locs cells slots ls (X.stk (ok_cons (X.2.2.1.2.2 _ (List.mem_of_getElem? h)) X.2.2.2.1))
theorem G_lload_n {k : Fin 4} {x : Int} (C : CX p Rm s m args meth c D cy xa A sc Ls mi d) (hd : decode (codeOf mi) pc = .ok (.lload_n k, 1)) (h : lv[k.val]? = some (vJ x)) (K : GW p l e Rm s m args below meth c D cy xa A sc Ls mi ad0 n0 s0 Q (pc + 1) lv (vJ x :: st) M R) : GW p l e Rm s m args below meth c D cy xa A sc Ls mi ad0 n0 s0 Q pc lv st M R := by
  intro ad H locs cells slots ls X
  refine lv_lload_n C.1 C.2.1 hd rfl (X.2.2.1.1.at h (fun e => by cases e)) ?_
  exact K ad H locs cells slots ls (X.stk (ok_cons (X.2.2.1.2.2 _ (List.mem_of_getElem? h)) X.2.2.2.1))
theorem G_lload {i : Nat} {x : Int} (C : CX p Rm s m args meth c D cy xa A sc Ls mi d) (hd : decode (codeOf mi) pc = .ok (.lload i, 2)) (h : lv[i]? = some (vJ x)) (K : GW p l e Rm s m args below meth c D cy xa A sc Ls mi ad0 n0 s0 Q (pc + 2) lv (vJ x :: st) M R) : GW p l e Rm s m args below meth c D cy xa A sc Ls mi ad0 n0 s0 Q pc lv st M R := by
  intro ad H locs cells slots ls X
  refine lv_lload C.1 C.2.1 hd (X.2.2.1.1.at h (fun e => by cases e)) ?_
  exact K ad H locs cells slots ls (X.stk (ok_cons (X.2.2.1.2.2 _ (List.mem_of_getElem? h)) X.2.2.2.1))
theorem G_aload_n {k : Fin 4} {o : Nat} (C : CX p Rm s m args meth c D cy xa A sc Ls mi d) (hd : decode (codeOf mi) pc = .ok (.aload_n k, 1)) (h : lv[k.val]? = some (vA o)) (K : GW p l e Rm s m args below meth c D cy xa A sc Ls mi ad0 n0 s0 Q (pc + 1) lv (vA o :: st) M R) : GW p l e Rm s m args below meth c D cy xa A sc Ls mi ad0 n0 s0 Q pc lv st M R := by
  intro ad H locs cells slots ls X
  have h1 := X.2.2.1.1.at h (fun e => by cases e)
  have h2 := K ad H locs cells slots ls (X.stk (ok_cons (X.2.2.1.2.2 _ (List.mem_of_getElem? h)) X.2.2.2.1))
  rcases Nat.eq_zero_or_pos o with rfl | ho
  · exact lv_aload_nN C.1 C.2.1 hd rfl h1 h2
  · rw [cv_A ad xa ho] at h1
    rw [List.map_cons, cv_A ad xa ho] at h2
    exact lv_aload_n C.1 C.2.1 hd rfl h1 h2
theorem G_aloadX_n {k : Fin 4} (C : CX p Rm s m args meth c D cy xa A sc Ls mi d) (hd : decode (codeOf mi) pc = .ok (.aload_n k, 1)) (h : lv[k.val]? = some (vX 2)) (K : GW p l e Rm s m args below meth c D cy xa A sc Ls mi ad0 n0 s0 Q (pc + 1) lv (vX 2 :: st) M R) : GW p l e Rm s m args below meth c D cy xa A sc Ls mi ad0 n0 s0 Q pc lv st M R := by
  intro ad H locs cells slots ls X
  have h1 := X.2.2.1.1.at h (fun e => by cases e)
  exact lv_aload_n C.1 C.2.1 hd rfl h1 (K ad H locs cells slots ls (X.stk (ok_cons trivial X.2.2.2.1)))
theorem G_aload {i o : Nat} (C : CX p Rm s m args meth c D cy xa A sc Ls mi d) (hd : decode (codeOf mi) pc = .ok (.aload i, 2)) (h : lv[i]? = some (vA o)) (K : GW p l e Rm s m args below meth c D cy xa A sc Ls mi ad0 n0 s0 Q (pc + 2) lv (vA o :: st) M R) : GW p l e Rm s m args below meth c D cy xa A sc Ls mi ad0 n0 s0 Q pc lv st M R := by
  intro ad H locs cells slots ls X
  have h1 := X.2.2.1.1.at h (fun e => by cases e)
  have h2 := K ad H locs cells slots ls (X.stk (ok_cons (X.2.2.1.2.2 _ (List.mem_of_getElem? h)) X.2.2.2.1))
  rcases Nat.eq_zero_or_pos o with rfl | ho
  · exact lv_aloadN C.1 C.2.1 hd h1 h2
  · rw [cv_A ad xa ho] at h1
    rw [List.map_cons, cv_A ad xa ho] at h2
    exact lv_aload C.1 C.2.1 hd h1 h2
theorem G_aloadX {i : Nat} (C : CX p Rm s m args meth c D cy xa A sc Ls mi d) (hd : decode (codeOf mi) pc = .ok (.aload i, 2)) (h : lv[i]? = some (vX 2)) (K : GW p l e Rm s m args below meth c D cy xa A sc Ls mi ad0 n0 s0 Q (pc + 2) lv (vX 2 :: st) M R) : GW p l e Rm s m args below meth c D cy xa A sc Ls mi ad0 n0 s0 Q pc lv st M R := by
  intro ad H locs cells slots ls X
  have h1 := X.2.2.1.1.at h (fun e => by cases e)
  exact lv_aload C.1 C.2.1 hd h1 (K ad H locs cells slots ls (X.stk (ok_cons trivial X.2.2.2.1)))
theorem SR.sto {v : AV} {i : Nat} {ad : Nat → Nat} {H : Heap} {locs : List Loc} {cells slots : Nat} {ls ls' : Array Slot} (X : SR s D cy xa A sc Ls mi ad0 n0 s0 lv (v :: r) M R ad H locs cells slots ls) (h : lv_has ls' lv.length ((i, cv ad xa v) :: (lvL ad xa lv).filter (fun q => !(q.1 == i) && !(q.1 + 1 == i && q.2.category == 2)))) : SR s D cy xa A sc Ls mi ad0 n0 s0 ((clr lv i).set i v) r M R ad H locs cells slots ls' := by
  refine ⟨X.1, X.2.1, ⟨LV.sto h, by rw [List.length_set, clr_len]; exact X.2.2.1.2.1, fun w hw => ?_⟩, ok_tl X.2.2.2.1, X.2.2.2.2.1, X.2.2.2.2.2⟩
  rcases List.mem_or_eq_of_mem_set hw with hw | rfl
  · unfold clr at hw
    split at hw
    · exact X.2.2.1.2.2 w hw
    · split at hw
      · rcases List.mem_or_eq_of_mem_set hw with hw | rfl
        · exact X.2.2.1.2.2 w hw
        · trivial
      · exact X.2.2.1.2.2 w hw
  · exact ok_hd X.2.2.2.1
theorem SR.stoJ {v : AV} {i : Nat} {ad : Nat → Nat} {H : Heap} {locs : List Loc} {cells slots : Nat} {ls ls' : Array Slot} (X : SR s D cy xa A sc Ls mi ad0 n0 s0 lv (v :: r) M R ad H locs cells slots ls) (h : lv_has ls' lv.length ((i, cv ad xa v) :: (lvL ad xa lv).filter (fun q => !(q.1 == i) && (!(q.1 == i + 1) && !(q.1 + 1 == i && q.2.category == 2))))) : SR s D cy xa A sc Ls mi ad0 n0 s0 (((clr lv i).set i v).set (i + 1) (vX 0)) r M R ad H locs cells slots ls' := by
  refine ⟨X.1, X.2.1, ⟨LV.stoJ h, by rw [List.length_set, List.length_set, clr_len]; exact X.2.2.1.2.1, fun w hw => ?_⟩, ok_tl X.2.2.2.1, X.2.2.2.2.1, X.2.2.2.2.2⟩
  rcases List.mem_or_eq_of_mem_set hw with hw | rfl
  · rcases List.mem_or_eq_of_mem_set hw with hw | rfl
    · unfold clr at hw
      split at hw
      · exact X.2.2.1.2.2 w hw
      · split at hw
        · rcases List.mem_or_eq_of_mem_set hw with hw | rfl
          · exact X.2.2.1.2.2 w hw
          · trivial
        · exact X.2.2.1.2.2 w hw
    · exact ok_hd X.2.2.2.1
  · trivial
theorem G_istore_n {k : Fin 4} {x : Int} (C : CX p Rm s m args meth c D cy xa A sc Ls mi d) (hd : decode (codeOf mi) pc = .ok (.istore_n k, 1)) (hn : k.val < lv.length) (K : GW p l e Rm s m args below meth c D cy xa A sc Ls mi ad0 n0 s0 Q (pc + 1) ((clr lv k.val).set k.val (vI x)) r M R) : GW p l e Rm s m args below meth c D cy xa A sc Ls mi ad0 n0 s0 Q pc lv (vI x :: r) M R := by
  intro ad H locs cells slots ls X
  refine lv_istore_n C.1 C.2.1 hd rfl X.2.2.1.1 hn rfl (fun ls' hl => ?_)
  exact K ad H locs cells slots ls' (X.sto hl)
theorem G_istore {i : Nat} {x : Int} (C : CX p Rm s m args meth c D cy xa A sc Ls mi d) (hd : decode (codeOf mi) pc = .ok (.istore i, 2)) (hn : i < lv.length) (K : GW p l e Rm s m args below meth c D cy xa A sc Ls mi ad0 n0 s0 Q (pc + 2) ((clr lv i).set i (vI x)) r M R) : GW p l e Rm s m args below meth c D cy xa A sc Ls mi ad0 n0 s0 Q pc lv (vI x :: r) M R := by
  intro ad H locs cells slots ls X
  refine lv_istore C.1 C.2.1 hd X.2.2.1.1 hn rfl (fun ls' hl => ?_)
  exact K ad H locs cells slots ls' (X.sto hl)
theorem G_lstore_n {k : Fin 4} {x : Int} (C : CX p Rm s m args meth c D cy xa A sc Ls mi d) (hd : decode (codeOf mi) pc = .ok (.lstore_n k, 1)) (hn : k.val + 1 < lv.length) (K : GW p l e Rm s m args below meth c D cy xa A sc Ls mi ad0 n0 s0 Q (pc + 1) (((clr lv k.val).set k.val (vJ x)).set (k.val + 1) (vX 0)) r M R) : GW p l e Rm s m args below meth c D cy xa A sc Ls mi ad0 n0 s0 Q pc lv (vJ x :: r) M R := by
  intro ad H locs cells slots ls X
  refine lv_lstore_n C.1 C.2.1 hd rfl X.2.2.1.1 hn rfl (fun ls' hl => ?_)
  exact K ad H locs cells slots ls' (X.stoJ hl)
theorem G_lstore {i : Nat} {x : Int} (C : CX p Rm s m args meth c D cy xa A sc Ls mi d) (hd : decode (codeOf mi) pc = .ok (.lstore i, 2)) (hn : i + 1 < lv.length) (K : GW p l e Rm s m args below meth c D cy xa A sc Ls mi ad0 n0 s0 Q (pc + 2) (((clr lv i).set i (vJ x)).set (i + 1) (vX 0)) r M R) : GW p l e Rm s m args below meth c D cy xa A sc Ls mi ad0 n0 s0 Q pc lv (vJ x :: r) M R := by
  intro ad H locs cells slots ls X
  refine lv_lstore C.1 C.2.1 hd X.2.2.1.1 hn rfl (fun ls' hl => ?_)
  exact K ad H locs cells slots ls' (X.stoJ hl)
theorem G_astore_n {k : Fin 4} {o : Nat} (C : CX p Rm s m args meth c D cy xa A sc Ls mi d) (hd : decode (codeOf mi) pc = .ok (.astore_n k, 1)) (hn : k.val < lv.length) (K : GW p l e Rm s m args below meth c D cy xa A sc Ls mi ad0 n0 s0 Q (pc + 1) ((clr lv k.val).set k.val (vA o)) r M R) : GW p l e Rm s m args below meth c D cy xa A sc Ls mi ad0 n0 s0 Q pc lv (vA o :: r) M R := by
  intro ad H locs cells slots ls X
  rcases Nat.eq_zero_or_pos o with rfl | ho
  · exact lv_astore_nN C.1 C.2.1 hd rfl X.2.2.1.1 hn rfl (fun ls' hl => K ad H locs cells slots ls' (X.sto hl))
  · rw [List.map_cons, cv_A ad xa ho]
    exact lv_astore_n C.1 C.2.1 hd rfl X.2.2.1.1 hn rfl (fun ls' hl => K ad H locs cells slots ls' (X.sto (by rw [cv_A ad xa ho]; exact hl)))
theorem G_astore {i o : Nat} (C : CX p Rm s m args meth c D cy xa A sc Ls mi d) (hd : decode (codeOf mi) pc = .ok (.astore i, 2)) (hn : i < lv.length) (K : GW p l e Rm s m args below meth c D cy xa A sc Ls mi ad0 n0 s0 Q (pc + 2) ((clr lv i).set i (vA o)) r M R) : GW p l e Rm s m args below meth c D cy xa A sc Ls mi ad0 n0 s0 Q pc lv (vA o :: r) M R := by
  intro ad H locs cells slots ls X
  rcases Nat.eq_zero_or_pos o with rfl | ho
  · exact lv_astoreN C.1 C.2.1 hd X.2.2.1.1 hn rfl (fun ls' hl => K ad H locs cells slots ls' (X.sto hl))
  · rw [List.map_cons, cv_A ad xa ho]
    exact lv_astore C.1 C.2.1 hd X.2.2.1.1 hn rfl (fun ls' hl => K ad H locs cells slots ls' (X.sto (by rw [cv_A ad xa ho]; exact hl)))
theorem G_iinc {i : Nat} {n x : Int} (C : CX p Rm s m args meth c D cy xa A sc Ls mi d) (hd : decode (codeOf mi) pc = .ok (.iinc i n, 3)) (h : lv[i]? = some (vI x)) (K : GW p l e Rm s m args below meth c D cy xa A sc Ls mi ad0 n0 s0 Q (pc + 3) ((clr lv i).set i (vI (w32 (x + n)))) st M R) : GW p l e Rm s m args below meth c D cy xa A sc Ls mi ad0 n0 s0 Q pc lv st M R := by
  intro ad H locs cells slots ls X
  have hm : (i, Value.int (Int32.ofInt x)) ∈ lvL ad xa lv := lvL_mem.mpr ⟨vI x, h, (fun e => by cases e), rfl⟩
  obtain ⟨k, hk⟩ := List.getElem?_of_mem hm
  refine lv_iinc (v := Int32.ofInt (w32 (x + n))) C.1 C.2.1 hd X.2.2.1.1 hk (by rw [← add32]) (List.getElem?_eq_some_iff.mp h).1 rfl (fun ls' hl => ?_)
  exact K ad H locs cells slots ls' (SR.sto (v := vI (w32 (x + n))) (X.stk (ok_cons (w32_ok _) X.2.2.2.1)) hl)
theorem G_iadd {a b : Int} (C : CX p Rm s m args meth c D cy xa A sc Ls mi d) (hd : decode (codeOf mi) pc = .ok (.iadd, 1)) (K : GW p l e Rm s m args below meth c D cy xa A sc Ls mi ad0 n0 s0 Q (pc + 1) lv (vI (w32 (a + b)) :: r) M R) : GW p l e Rm s m args below meth c D cy xa A sc Ls mi ad0 n0 s0 Q pc lv (vI b :: vI a :: r) M R := by
  intro ad H locs cells slots ls X
  refine lv_iadd C.1 C.2.1 hd ?_
  rw [add32]
  exact K ad H locs cells slots ls (X.stk (ok_cons (w32_ok _) (ok_tl (ok_tl X.2.2.2.1))))
theorem G_isub {a b : Int} (C : CX p Rm s m args meth c D cy xa A sc Ls mi d) (hd : decode (codeOf mi) pc = .ok (.isub, 1)) (K : GW p l e Rm s m args below meth c D cy xa A sc Ls mi ad0 n0 s0 Q (pc + 1) lv (vI (w32 (a - b)) :: r) M R) : GW p l e Rm s m args below meth c D cy xa A sc Ls mi ad0 n0 s0 Q pc lv (vI b :: vI a :: r) M R := by
  intro ad H locs cells slots ls X
  refine lv_isub C.1 C.2.1 hd ?_
  rw [sub32]
  exact K ad H locs cells slots ls (X.stk (ok_cons (w32_ok _) (ok_tl (ok_tl X.2.2.2.1))))
theorem G_imul {a b : Int} (C : CX p Rm s m args meth c D cy xa A sc Ls mi d) (hd : decode (codeOf mi) pc = .ok (.imul, 1)) (K : GW p l e Rm s m args below meth c D cy xa A sc Ls mi ad0 n0 s0 Q (pc + 1) lv (vI (w32 (a * b)) :: r) M R) : GW p l e Rm s m args below meth c D cy xa A sc Ls mi ad0 n0 s0 Q pc lv (vI b :: vI a :: r) M R := by
  intro ad H locs cells slots ls X
  refine lv_imul C.1 C.2.1 hd ?_
  rw [mul32]
  exact K ad H locs cells slots ls (X.stk (ok_cons (w32_ok _) (ok_tl (ok_tl X.2.2.2.1))))
theorem G_iand {a b : Int} (C : CX p Rm s m args meth c D cy xa A sc Ls mi d) (hd : decode (codeOf mi) pc = .ok (.iand, 1)) (K : GW p l e Rm s m args below meth c D cy xa A sc Ls mi ad0 n0 s0 Q (pc + 1) lv (vI (c_and a b) :: r) M R) : GW p l e Rm s m args below meth c D cy xa A sc Ls mi ad0 n0 s0 Q pc lv (vI b :: vI a :: r) M R := by
  intro ad H locs cells slots ls X
  refine lv_iand C.1 C.2.1 hd ?_
  rw [show Int32.ofInt a &&& Int32.ofInt b = Int32.ofInt (c_and a b) from (Int32.ofInt_toInt _).symm]
  exact K ad H locs cells slots ls (X.stk (ok_cons (t32_ok _) (ok_tl (ok_tl X.2.2.2.1))))
theorem G_ior {a b : Int} (C : CX p Rm s m args meth c D cy xa A sc Ls mi d) (hd : decode (codeOf mi) pc = .ok (.ior, 1)) (K : GW p l e Rm s m args below meth c D cy xa A sc Ls mi ad0 n0 s0 Q (pc + 1) lv (vI (c_or a b) :: r) M R) : GW p l e Rm s m args below meth c D cy xa A sc Ls mi ad0 n0 s0 Q pc lv (vI b :: vI a :: r) M R := by
  intro ad H locs cells slots ls X
  refine lv_ior C.1 C.2.1 hd ?_
  rw [show Int32.ofInt a ||| Int32.ofInt b = Int32.ofInt (c_or a b) from (Int32.ofInt_toInt _).symm]
  exact K ad H locs cells slots ls (X.stk (ok_cons (t32_ok _) (ok_tl (ok_tl X.2.2.2.1))))
theorem G_ixor {a b : Int} (C : CX p Rm s m args meth c D cy xa A sc Ls mi d) (hd : decode (codeOf mi) pc = .ok (.ixor, 1)) (K : GW p l e Rm s m args below meth c D cy xa A sc Ls mi ad0 n0 s0 Q (pc + 1) lv (vI (c_xor a b) :: r) M R) : GW p l e Rm s m args below meth c D cy xa A sc Ls mi ad0 n0 s0 Q pc lv (vI b :: vI a :: r) M R := by
  intro ad H locs cells slots ls X
  refine lv_ixor C.1 C.2.1 hd ?_
  rw [show Int32.ofInt a ^^^ Int32.ofInt b = Int32.ofInt (c_xor a b) from (Int32.ofInt_toInt _).symm]
  exact K ad H locs cells slots ls (X.stk (ok_cons (t32_ok _) (ok_tl (ok_tl X.2.2.2.1))))
theorem G_ishl {a b : Int} (C : CX p Rm s m args meth c D cy xa A sc Ls mi d) (hd : decode (codeOf mi) pc = .ok (.ishl, 1)) (K : GW p l e Rm s m args below meth c D cy xa A sc Ls mi ad0 n0 s0 Q (pc + 1) lv (vI (c_shl a b) :: r) M R) : GW p l e Rm s m args below meth c D cy xa A sc Ls mi ad0 n0 s0 Q pc lv (vI b :: vI a :: r) M R := by
  intro ad H locs cells slots ls X
  refine lv_ishl C.1 C.2.1 hd ?_
  rw [show Int32.ofInt a <<< (Int32.ofInt b &&& 31) = Int32.ofInt (c_shl a b) from (Int32.ofInt_toInt _).symm]
  exact K ad H locs cells slots ls (X.stk (ok_cons (t32_ok _) (ok_tl (ok_tl X.2.2.2.1))))
theorem G_ishr {a b : Int} (C : CX p Rm s m args meth c D cy xa A sc Ls mi d) (hd : decode (codeOf mi) pc = .ok (.ishr, 1)) (K : GW p l e Rm s m args below meth c D cy xa A sc Ls mi ad0 n0 s0 Q (pc + 1) lv (vI (c_shr a b) :: r) M R) : GW p l e Rm s m args below meth c D cy xa A sc Ls mi ad0 n0 s0 Q pc lv (vI b :: vI a :: r) M R := by
  intro ad H locs cells slots ls X
  refine lv_ishr C.1 C.2.1 hd ?_
  rw [show Int32.ofInt a >>> (Int32.ofInt b &&& 31) = Int32.ofInt (c_shr a b) from (Int32.ofInt_toInt _).symm]
  exact K ad H locs cells slots ls (X.stk (ok_cons (t32_ok _) (ok_tl (ok_tl X.2.2.2.1))))
theorem G_iushr {a b : Int} (C : CX p Rm s m args meth c D cy xa A sc Ls mi d) (hd : decode (codeOf mi) pc = .ok (.iushr, 1)) (K : GW p l e Rm s m args below meth c D cy xa A sc Ls mi ad0 n0 s0 Q (pc + 1) lv (vI (c_ushr a b) :: r) M R) : GW p l e Rm s m args below meth c D cy xa A sc Ls mi ad0 n0 s0 Q pc lv (vI b :: vI a :: r) M R := by
  intro ad H locs cells slots ls X
  refine lv_iushr (v := Int32.ofInt (c_ushr a b)) C.1 C.2.1 hd (Int32.ofInt_toInt _).symm ?_
  exact K ad H locs cells slots ls (X.stk (ok_cons (t32_ok _) (ok_tl (ok_tl X.2.2.2.1))))
theorem G_idiv {a b : Int} (C : CX p Rm s m args meth c D cy xa A sc Ls mi d) (hd : decode (codeOf mi) pc = .ok (.idiv, 1)) (hb : b ≠ 0) (K : GW p l e Rm s m args below meth c D cy xa A sc Ls mi ad0 n0 s0 Q (pc + 1) lv (vI (w32 (a.tdiv b)) :: r) M R) : GW p l e Rm s m args below meth c D cy xa A sc Ls mi ad0 n0 s0 Q pc lv (vI b :: vI a :: r) M R := by
  intro ad H locs cells slots ls X
  refine lv_idiv C.1 C.2.1 hd (ne0_32 (ok_hd X.2.2.2.1) hb) ?_
  rw [div32 (ok_hd (ok_tl X.2.2.2.1)) (ok_hd X.2.2.2.1)]
  exact K ad H locs cells slots ls (X.stk (ok_cons (w32_ok _) (ok_tl (ok_tl X.2.2.2.1))))
theorem G_irem {a b : Int} (C : CX p Rm s m args meth c D cy xa A sc Ls mi d) (hd : decode (codeOf mi) pc = .ok (.irem, 1)) (hb : b ≠ 0) (K : GW p l e Rm s m args below meth c D cy xa A sc Ls mi ad0 n0 s0 Q (pc + 1) lv (vI (a.tmod b) :: r) M R) : GW p l e Rm s m args below meth c D cy xa A sc Ls mi ad0 n0 s0 Q pc lv (vI b :: vI a :: r) M R := by
  intro ad H locs cells slots ls X
  refine lv_irem C.1 C.2.1 hd (ne0_32 (ok_hd X.2.2.2.1) hb) ?_
  rw [rem32 (ok_hd (ok_tl X.2.2.2.1)) (ok_hd X.2.2.2.1)]
  exact K ad H locs cells slots ls (X.stk (ok_cons (tmod_ok32 (ok_hd (ok_tl X.2.2.2.1))) (ok_tl (ok_tl X.2.2.2.1))))
theorem G_ineg {a : Int} (C : CX p Rm s m args meth c D cy xa A sc Ls mi d) (hd : decode (codeOf mi) pc = .ok (.ineg, 1)) (K : GW p l e Rm s m args below meth c D cy xa A sc Ls mi ad0 n0 s0 Q (pc + 1) lv (vI (w32 (-a)) :: r) M R) : GW p l e Rm s m args below meth c D cy xa A sc Ls mi ad0 n0 s0 Q pc lv (vI a :: r) M R := by
  intro ad H locs cells slots ls X
  refine lv_ineg C.1 C.2.1 hd ?_
  rw [neg32]
  exact K ad H locs cells slots ls (X.stk (ok_cons (w32_ok _) (ok_tl X.2.2.2.1)))
theorem G_i2b {a : Int} (C : CX p Rm s m args meth c D cy xa A sc Ls mi d) (hd : decode (codeOf mi) pc = .ok (.i2b, 1)) (K : GW p l e Rm s m args below meth c D cy xa A sc Ls mi ad0 n0 s0 Q (pc + 1) lv (vI (c_i2b a) :: r) M R) : GW p l e Rm s m args below meth c D cy xa A sc Ls mi ad0 n0 s0 Q pc lv (vI a :: r) M R := by
  intro ad H locs cells slots ls X
  refine lv_i2b (v := Int32.ofInt (c_i2b a)) C.1 C.2.1 hd (Int32.ofInt_toInt _).symm ?_
  exact K ad H locs cells slots ls (X.stk (ok_cons (t32_ok _) (ok_tl X.2.2.2.1)))
theorem G_i2s {a : Int} (C : CX p Rm s m args meth c D cy xa A sc Ls mi d) (hd : decode (codeOf mi) pc = .ok (.i2s, 1)) (K : GW p l e Rm s m args below meth c D cy xa A sc Ls mi ad0 n0 s0 Q (pc + 1) lv (vI (c_i2s a) :: r) M R) : GW p l e Rm s m args below meth c D cy xa A sc Ls mi ad0 n0 s0 Q pc lv (vI a :: r) M R := by
  intro ad H locs cells slots ls X
  refine lv_i2s (v := Int32.ofInt (c_i2s a)) C.1 C.2.1 hd (Int32.ofInt_toInt _).symm ?_
  exact K ad H locs cells slots ls (X.stk (ok_cons (t32_ok _) (ok_tl X.2.2.2.1)))
theorem G_i2l {a : Int} (C : CX p Rm s m args meth c D cy xa A sc Ls mi d) (hd : decode (codeOf mi) pc = .ok (.i2l, 1)) (K : GW p l e Rm s m args below meth c D cy xa A sc Ls mi ad0 n0 s0 Q (pc + 1) lv (vJ a :: r) M R) : GW p l e Rm s m args below meth c D cy xa A sc Ls mi ad0 n0 s0 Q pc lv (vI a :: r) M R := by
  intro ad H locs cells slots ls X
  refine lv_i2l (v := Int64.ofInt a) C.1 C.2.1 hd (by rw [← Int64.toInt_inj, Int32.toInt_toInt64, to32 (ok_hd X.2.2.2.1), to64 (i32_i64 (ok_hd X.2.2.2.1))]) ?_
  exact K ad H locs cells slots ls (X.stk (ok_cons (i32_i64 (ok_hd X.2.2.2.1)) (ok_tl X.2.2.2.1)))
theorem G_ladd {a b : Int} (C : CX p Rm s m args meth c D cy xa A sc Ls mi d) (hd : decode (codeOf mi) pc = .ok (.ladd, 1)) (K : GW p l e Rm s m args below meth c D cy xa A sc Ls mi ad0 n0 s0 Q (pc + 1) lv (vJ (w64 (a + b)) :: r) M R) : GW p l e Rm s m args below meth c D cy xa A sc Ls mi ad0 n0 s0 Q pc lv (vJ b :: vJ a :: r) M R := by
  intro ad H locs cells slots ls X
  refine lv_ladd C.1 C.2.1 hd ?_
  rw [add64]
  exact K ad H locs cells slots ls (X.stk (ok_cons (w64_ok _) (ok_tl (ok_tl X.2.2.2.1))))
theorem G_lsub {a b : Int} (C : CX p Rm s m args meth c D cy xa A sc Ls mi d) (hd : decode (codeOf mi) pc = .ok (.lsub, 1)) (K : GW p l e Rm s m args below meth c D cy xa A sc Ls mi ad0 n0 s0 Q (pc + 1) lv (vJ (w64 (a - b)) :: r) M R) : GW p l e Rm s m args below meth c D cy xa A sc Ls mi ad0 n0 s0 Q pc lv (vJ b :: vJ a :: r) M R := by
  intro ad H locs cells slots ls X
  refine lv_lsub C.1 C.2.1 hd ?_
  rw [sub64]
  exact K ad H locs cells slots ls (X.stk (ok_cons (w64_ok _) (ok_tl (ok_tl X.2.2.2.1))))
theorem G_lmul {a b : Int} (C : CX p Rm s m args meth c D cy xa A sc Ls mi d) (hd : decode (codeOf mi) pc = .ok (.lmul, 1)) (K : GW p l e Rm s m args below meth c D cy xa A sc Ls mi ad0 n0 s0 Q (pc + 1) lv (vJ (w64 (a * b)) :: r) M R) : GW p l e Rm s m args below meth c D cy xa A sc Ls mi ad0 n0 s0 Q pc lv (vJ b :: vJ a :: r) M R := by
  intro ad H locs cells slots ls X
  refine lv_lmul C.1 C.2.1 hd ?_
  rw [mul64]
  exact K ad H locs cells slots ls (X.stk (ok_cons (w64_ok _) (ok_tl (ok_tl X.2.2.2.1))))
theorem G_ldiv {a b : Int} (C : CX p Rm s m args meth c D cy xa A sc Ls mi d) (hd : decode (codeOf mi) pc = .ok (.ldiv, 1)) (hb : b ≠ 0) (K : GW p l e Rm s m args below meth c D cy xa A sc Ls mi ad0 n0 s0 Q (pc + 1) lv (vJ (w64 (a.tdiv b)) :: r) M R) : GW p l e Rm s m args below meth c D cy xa A sc Ls mi ad0 n0 s0 Q pc lv (vJ b :: vJ a :: r) M R := by
  intro ad H locs cells slots ls X
  refine lv_ldiv C.1 C.2.1 hd (ne0_64 (ok_hd X.2.2.2.1) hb) ?_
  rw [div64 (ok_hd (ok_tl X.2.2.2.1)) (ok_hd X.2.2.2.1)]
  exact K ad H locs cells slots ls (X.stk (ok_cons (w64_ok _) (ok_tl (ok_tl X.2.2.2.1))))
theorem G_lrem {a b : Int} (C : CX p Rm s m args meth c D cy xa A sc Ls mi d) (hd : decode (codeOf mi) pc = .ok (.lrem, 1)) (hb : b ≠ 0) (K : GW p l e Rm s m args below meth c D cy xa A sc Ls mi ad0 n0 s0 Q (pc + 1) lv (vJ (a.tmod b) :: r) M R) : GW p l e Rm s m args below meth c D cy xa A sc Ls mi ad0 n0 s0 Q pc lv (vJ b :: vJ a :: r) M R := by
  intro ad H locs cells slots ls X
  refine lv_lrem C.1 C.2.1 hd (ne0_64 (ok_hd X.2.2.2.1) hb) ?_
  rw [rem64 (ok_hd (ok_tl X.2.2.2.1)) (ok_hd X.2.2.2.1)]
  exact K ad H locs cells slots ls (X.stk (ok_cons (tmod_ok64 (ok_hd (ok_tl X.2.2.2.1))) (ok_tl (ok_tl X.2.2.2.1))))
theorem G_lneg {a : Int} (C : CX p Rm s m args meth c D cy xa A sc Ls mi d) (hd : decode (codeOf mi) pc = .ok (.lneg, 1)) (K : GW p l e Rm s m args below meth c D cy xa A sc Ls mi ad0 n0 s0 Q (pc + 1) lv (vJ (w64 (-a)) :: r) M R) : GW p l e Rm s m args below meth c D cy xa A sc Ls mi ad0 n0 s0 Q pc lv (vJ a :: r) M R := by
  intro ad H locs cells slots ls X
  refine lv_lneg C.1 C.2.1 hd ?_
  rw [neg64]
  exact K ad H locs cells slots ls (X.stk (ok_cons (w64_ok _) (ok_tl X.2.2.2.1)))
theorem G_lcmp {a b : Int} (C : CX p Rm s m args meth c D cy xa A sc Ls mi d) (hd : decode (codeOf mi) pc = .ok (.lcmp, 1)) (K : GW p l e Rm s m args below meth c D cy xa A sc Ls mi ad0 n0 s0 Q (pc + 1) lv (vI (if b < a then 1 else if a = b then 0 else -1) :: r) M R) : GW p l e Rm s m args below meth c D cy xa A sc Ls mi ad0 n0 s0 Q pc lv (vJ b :: vJ a :: r) M R := by
  intro ad H locs cells slots ls X
  refine W.lcmp C.1 C.2.1 hd ?_
  have ha : i64 a := ok_hd (ok_tl X.2.2.2.1)
  have hb : i64 b := ok_hd X.2.2.2.1
  rw [show lg_cmp (Int64.ofInt a) (Int64.ofInt b) = Int32.ofInt (if b < a then 1 else if a = b then 0 else -1) by
    unfold lg_cmp
    simp only [gt_iff_lt, lt64 hb ha, eq64 ha hb]
    split
    · rfl
    · split <;> rfl]
  refine K ad H locs cells slots ls (X.stk (ok_cons ?_ (ok_tl (ok_tl X.2.2.2.1))))
  show i32 _
  unfold i32
  split
  · omega
  · split <;> omega
theorem G_dup {v : AV} (C : CX p Rm s m args meth c D cy xa A sc Ls mi d) (hd : decode (codeOf mi) pc = .ok (.dup, 1)) (h : catA v = 1) (K : GW p l e Rm s m args below meth c D cy xa A sc Ls mi ad0 n0 s0 Q (pc + 1) lv (v :: v :: r) M R) : GW p l e Rm s m args below meth c D cy xa A sc Ls mi ad0 n0 s0 Q pc lv (v :: r) M R := by
  intro ad H locs cells slots ls X
  refine lv_dup C.1 C.2.1 hd (by rw [cv_cat]; exact h) ?_
  exact K ad H locs cells slots ls (X.stk (ok_cons (ok_hd X.2.2.2.1) X.2.2.2.1))
theorem G_dup2 {a b : AV} (C : CX p Rm s m args meth c D cy xa A sc Ls mi d) (hd : decode (codeOf mi) pc = .ok (.dup2, 1)) (h1 : catA a = 1) (h2 : catA b = 1) (K : GW p l e Rm s m args below meth c D cy xa A sc Ls mi ad0 n0 s0 Q (pc + 1) lv (a :: b :: a :: b :: r) M R) : GW p l e Rm s m args below meth c D cy xa A sc Ls mi ad0 n0 s0 Q pc lv (a :: b :: r) M R := by
  intro ad H locs cells slots ls X
  refine lv_dup2_11 C.1 C.2.1 hd (by rw [cv_cat]; exact h1) (by rw [cv_cat]; exact h2) ?_
  exact K ad H locs cells slots ls (X.stk (ok_cons (ok_hd X.2.2.2.1) (ok_cons (ok_hd (ok_tl X.2.2.2.1)) X.2.2.2.1)))
theorem G_pop {v : AV} (C : CX p Rm s m args meth c D cy xa A sc Ls mi d) (hd : decode (codeOf mi) pc = .ok (.pop, 1)) (h : catA v = 1) (K : GW p l e Rm s m args below meth c D cy xa A sc Ls mi ad0 n0 s0 Q (pc + 1) lv r M R) : GW p l e Rm s m args below meth c D cy xa A sc Ls mi ad0 n0 s0 Q pc lv (v :: r) M R := by
  intro ad H locs cells slots ls X
  refine lv_pop C.1 C.2.1 hd (by rw [cv_cat]; exact h) ?_
  exact K ad H locs cells slots ls (X.stk (ok_tl X.2.2.2.1))
theorem G_icmp_eq {a b off : Int} {tgt : Nat} (C : CX p Rm s m args meth c D cy xa A sc Ls mi d) (hd : decode (codeOf mi) pc = .ok (.if_icmp .eq off, 3)) (ht : (pc : Int) + off = (tgt : Int)) (K1 : a = b → GW p l e Rm s m args below meth c D cy xa A sc Ls mi ad0 n0 s0 Q tgt lv r M R) (K2 : ¬ (a = b) → GW p l e Rm s m args below meth c D cy xa A sc Ls mi ad0 n0 s0 Q (pc + 3) lv r M R) : GW p l e Rm s m args below meth c D cy xa A sc Ls mi ad0 n0 s0 Q pc lv (vI b :: vI a :: r) M R := by
  intro ad H locs cells slots ls X
  have ha : i32 a := ok_hd (ok_tl X.2.2.2.1)
  have hb : i32 b := ok_hd X.2.2.2.1
  have Y := X.stk (ok_tl (ok_tl X.2.2.2.1))
  exact lv_icmp_eq C.1 C.2.1 hd ht (fun h => K1 ((eq32 ha hb).mp h) ad H locs cells slots ls Y) (fun h => K2 (fun q => h ((eq32 ha hb).mpr q)) ad H locs cells slots ls Y)
theorem G_if_eq {a off : Int} {tgt : Nat} (C : CX p Rm s m args meth c D cy xa A sc Ls mi d) (hd : decode (codeOf mi) pc = .ok (.ifCond .eq off, 3)) (ht : (pc : Int) + off = (tgt : Int)) (K1 : a = 0 → GW p l e Rm s m args below meth c D cy xa A sc Ls mi ad0 n0 s0 Q tgt lv r M R) (K2 : ¬ (a = 0) → GW p l e Rm s m args below meth c D cy xa A sc Ls mi ad0 n0 s0 Q (pc + 3) lv r M R) : GW p l e Rm s m args below meth c D cy xa A sc Ls mi ad0 n0 s0 Q pc lv (vI a :: r) M R := by
  intro ad H locs cells slots ls X
  have ha : i32 a := ok_hd X.2.2.2.1
  have Y := X.stk (ok_tl X.2.2.2.1)
  exact lv_if_eq C.1 C.2.1 hd ht (fun h => K1 ((eq32 ha z32).mp h) ad H locs cells slots ls Y) (fun h => K2 (fun q => h ((eq32 ha z32).mpr q)) ad H locs cells slots ls Y)
theorem G_icmp_ne {a b off : Int} {tgt : Nat} (C : CX p Rm s m args meth c D cy xa A sc Ls mi d) (hd : decode (codeOf mi) pc = .ok (.if_icmp .ne off, 3)) (ht : (pc : Int) + off = (tgt : Int)) (K1 : a ≠ b → GW p l e Rm s m args below meth c D cy xa A sc Ls mi ad0 n0 s0 Q tgt lv r M R) (K2 : ¬ (a ≠ b) → GW p l e Rm s m args below meth c D cy xa A sc Ls mi ad0 n0 s0 Q (pc + 3) lv r M R) : GW p l e Rm s m args below meth c D cy xa A sc Ls mi ad0 n0 s0 Q pc lv (vI b :: vI a :: r) M R := by
  intro ad H locs cells slots ls X
  have ha : i32 a := ok_hd (ok_tl X.2.2.2.1)
  have hb : i32 b := ok_hd X.2.2.2.1
  have Y := X.stk (ok_tl (ok_tl X.2.2.2.1))
  exact lv_icmp_ne C.1 C.2.1 hd ht (fun h => K1 ((not_congr (eq32 ha hb)).mp h) ad H locs cells slots ls Y) (fun h => K2 (fun q => q ((eq32 ha hb).mp h)) ad H locs cells slots ls Y)
theorem G_if_ne {a off : Int} {tgt : Nat} (C : CX p Rm s m args meth c D cy xa A sc Ls mi d) (hd : decode (codeOf mi) pc = .ok (.ifCond .ne off, 3)) (ht : (pc : Int) + off = (tgt : Int)) (K1 : a ≠ 0 → GW p l e Rm s m args below meth c D cy xa A sc Ls mi ad0 n0 s0 Q tgt lv r M R) (K2 : ¬ (a ≠ 0) → GW p l e Rm s m args below meth c D cy xa A sc Ls mi ad0 n0 s0 Q (pc + 3) lv r M R) : GW p l e Rm s m args below meth c D cy xa A sc Ls mi ad0 n0 s0 Q pc lv (vI a :: r) M R := by
  intro ad H locs cells slots ls X
  have ha : i32 a := ok_hd X.2.2.2.1
  have Y := X.stk (ok_tl X.2.2.2.1)
  exact lv_if_ne C.1 C.2.1 hd ht (fun h => K1 ((not_congr (eq32 ha z32)).mp h) ad H locs cells slots ls Y) (fun h => K2 (fun q => q ((eq32 ha z32).mp h)) ad H locs cells slots ls Y)
theorem G_icmp_lt {a b off : Int} {tgt : Nat} (C : CX p Rm s m args meth c D cy xa A sc Ls mi d) (hd : decode (codeOf mi) pc = .ok (.if_icmp .lt off, 3)) (ht : (pc : Int) + off = (tgt : Int)) (K1 : a < b → GW p l e Rm s m args below meth c D cy xa A sc Ls mi ad0 n0 s0 Q tgt lv r M R) (K2 : ¬ (a < b) → GW p l e Rm s m args below meth c D cy xa A sc Ls mi ad0 n0 s0 Q (pc + 3) lv r M R) : GW p l e Rm s m args below meth c D cy xa A sc Ls mi ad0 n0 s0 Q pc lv (vI b :: vI a :: r) M R := by
  intro ad H locs cells slots ls X
  have ha : i32 a := ok_hd (ok_tl X.2.2.2.1)
  have hb : i32 b := ok_hd X.2.2.2.1
  have Y := X.stk (ok_tl (ok_tl X.2.2.2.1))
  exact lv_icmp_lt C.1 C.2.1 hd ht (fun h => K1 ((lt32 ha hb).mp h) ad H locs cells slots ls Y) (fun h => K2 (fun q => h ((lt32 ha hb).mpr q)) ad H locs cells slots ls Y)
theorem G_if_lt {a off : Int} {tgt : Nat} (C : CX p Rm s m args meth c D cy xa A sc Ls mi d) (hd : decode (codeOf mi) pc = .ok (.ifCond .lt off, 3)) (ht : (pc : Int) + off = (tgt : Int)) (K1 : a < 0 → GW p l e Rm s m args below meth c D cy xa A sc Ls mi ad0 n0 s0 Q tgt lv r M R) (K2 : ¬ (a < 0) → GW p l e Rm s m args below meth c D cy xa A sc Ls mi ad0 n0 s0 Q (pc + 3) lv r M R) : GW p l e Rm s m args below meth c D cy xa A sc Ls mi ad0 n0 s0 Q pc lv (vI a :: r) M R := by
  intro ad H locs cells slots ls X
  have ha : i32 a := ok_hd X.2.2.2.1
  have Y := X.stk (ok_tl X.2.2.2.1)
  exact lv_if_lt C.1 C.2.1 hd ht (fun h => K1 ((lt32 ha z32).mp h) ad H locs cells slots ls Y) (fun h => K2 (fun q => h ((lt32 ha z32).mpr q)) ad H locs cells slots ls Y)
theorem G_icmp_ge {a b off : Int} {tgt : Nat} (C : CX p Rm s m args meth c D cy xa A sc Ls mi d) (hd : decode (codeOf mi) pc = .ok (.if_icmp .ge off, 3)) (ht : (pc : Int) + off = (tgt : Int)) (K1 : b ≤ a → GW p l e Rm s m args below meth c D cy xa A sc Ls mi ad0 n0 s0 Q tgt lv r M R) (K2 : ¬ (b ≤ a) → GW p l e Rm s m args below meth c D cy xa A sc Ls mi ad0 n0 s0 Q (pc + 3) lv r M R) : GW p l e Rm s m args below meth c D cy xa A sc Ls mi ad0 n0 s0 Q pc lv (vI b :: vI a :: r) M R := by
  intro ad H locs cells slots ls X
  have ha : i32 a := ok_hd (ok_tl X.2.2.2.1)
  have hb : i32 b := ok_hd X.2.2.2.1
  have Y := X.stk (ok_tl (ok_tl X.2.2.2.1))
  exact lv_icmp_ge C.1 C.2.1 hd ht (fun h => K1 ((le32 hb ha).mp h) ad H locs cells slots ls Y) (fun h => K2 (fun q => h ((le32 hb ha).mpr q)) ad H locs cells slots ls Y)
theorem G_if_ge {a off : Int} {tgt : Nat} (C : CX p Rm s m args meth c D cy xa A sc Ls mi d) (hd : decode (codeOf mi) pc = .ok (.ifCond .ge off, 3)) (ht : (pc : Int) + off = (tgt : Int)) (K1 : 0 ≤ a → GW p l e Rm s m args below meth c D cy xa A sc Ls mi ad0 n0 s0 Q tgt lv r M R) (K2 : ¬ (0 ≤ a) → GW p l e Rm s m args below meth c D cy xa A sc Ls mi ad0 n0 s0 Q (pc + 3) lv r M R) : GW p l e Rm s m args below meth c D cy xa A sc Ls mi ad0 n0 s0 Q pc lv (vI a :: r) M R := by
  intro ad H locs cells slots ls X
  have ha : i32 a := ok_hd X.2.2.2.1
  have Y := X.stk (ok_tl X.2.2.2.1)
  exact lv_if_ge C.1 C.2.1 hd ht (fun h => K1 ((le32 z32 ha).mp h) ad H locs cells slots ls Y) (fun h => K2 (fun q => h ((le32 z32 ha).mpr q)) ad H locs cells slots ls Y)
theorem G_icmp_gt {a b off : Int} {tgt : Nat} (C : CX p Rm s m args meth c D cy xa A sc Ls mi d) (hd : decode (codeOf mi) pc = .ok (.if_icmp .gt off, 3)) (ht : (pc : Int) + off = (tgt : Int)) (K1 : b < a → GW p l e Rm s m args below meth c D cy xa A sc Ls mi ad0 n0 s0 Q tgt lv r M R) (K2 : ¬ (b < a) → GW p l e Rm s m args below meth c D cy xa A sc Ls mi ad0 n0 s0 Q (pc + 3) lv r M R) : GW p l e Rm s m args below meth c D cy xa A sc Ls mi ad0 n0 s0 Q pc lv (vI b :: vI a :: r) M R := by
  intro ad H locs cells slots ls X
  have ha : i32 a := ok_hd (ok_tl X.2.2.2.1)
  have hb : i32 b := ok_hd X.2.2.2.1
  have Y := X.stk (ok_tl (ok_tl X.2.2.2.1))
  exact lv_icmp_gt C.1 C.2.1 hd ht (fun h => K1 ((lt32 hb ha).mp h) ad H locs cells slots ls Y) (fun h => K2 (fun q => h ((lt32 hb ha).mpr q)) ad H locs cells slots ls Y)
theorem G_if_gt {a off : Int} {tgt : Nat} (C : CX p Rm s m args meth c D cy xa A sc Ls mi d) (hd : decode (codeOf mi) pc = .ok (.ifCond .gt off, 3)) (ht : (pc : Int) + off = (tgt : Int)) (K1 : 0 < a → GW p l e Rm s m args below meth c D cy xa A sc Ls mi ad0 n0 s0 Q tgt lv r M R) (K2 : ¬ (0 < a) → GW p l e Rm s m args below meth c D cy xa A sc Ls mi ad0 n0 s0 Q (pc + 3) lv r M R) : GW p l e Rm s m args below meth c D cy xa A sc Ls mi ad0 n0 s0 Q pc lv (vI a :: r) M R := by
  intro ad H locs cells slots ls X
  have ha : i32 a := ok_hd X.2.2.2.1
  have Y := X.stk (ok_tl X.2.2.2.1)
  exact lv_if_gt C.1 C.2.1 hd ht (fun h => K1 ((lt32 z32 ha).mp h) ad H locs cells slots ls Y) (fun h => K2 (fun q => h ((lt32 z32 ha).mpr q)) ad H locs cells slots ls Y)
theorem G_icmp_le {a b off : Int} {tgt : Nat} (C : CX p Rm s m args meth c D cy xa A sc Ls mi d) (hd : decode (codeOf mi) pc = .ok (.if_icmp .le off, 3)) (ht : (pc : Int) + off = (tgt : Int)) (K1 : a ≤ b → GW p l e Rm s m args below meth c D cy xa A sc Ls mi ad0 n0 s0 Q tgt lv r M R) (K2 : ¬ (a ≤ b) → GW p l e Rm s m args below meth c D cy xa A sc Ls mi ad0 n0 s0 Q (pc + 3) lv r M R) : GW p l e Rm s m args below meth c D cy xa A sc Ls mi ad0 n0 s0 Q pc lv (vI b :: vI a :: r) M R := by
  intro ad H locs cells slots ls X
  have ha : i32 a := ok_hd (ok_tl X.2.2.2.1)
  have hb : i32 b := ok_hd X.2.2.2.1
  have Y := X.stk (ok_tl (ok_tl X.2.2.2.1))
  exact lv_icmp_le C.1 C.2.1 hd ht (fun h => K1 ((le32 ha hb).mp h) ad H locs cells slots ls Y) (fun h => K2 (fun q => h ((le32 ha hb).mpr q)) ad H locs cells slots ls Y)
theorem G_if_le {a off : Int} {tgt : Nat} (C : CX p Rm s m args meth c D cy xa A sc Ls mi d) (hd : decode (codeOf mi) pc = .ok (.ifCond .le off, 3)) (ht : (pc : Int) + off = (tgt : Int)) (K1 : a ≤ 0 → GW p l e Rm s m args below meth c D cy xa A sc Ls mi ad0 n0 s0 Q tgt lv r M R) (K2 : ¬ (a ≤ 0) → GW p l e Rm s m args below meth c D cy xa A sc Ls mi ad0 n0 s0 Q (pc + 3) lv r M R) : GW p l e Rm s m args below meth c D cy xa A sc Ls mi ad0 n0 s0 Q pc lv (vI a :: r) M R := by
  intro ad H locs cells slots ls X
  have ha : i32 a := ok_hd X.2.2.2.1
  have Y := X.stk (ok_tl X.2.2.2.1)
  exact lv_if_le C.1 C.2.1 hd ht (fun h => K1 ((le32 ha z32).mp h) ad H locs cells slots ls Y) (fun h => K2 (fun q => h ((le32 ha z32).mpr q)) ad H locs cells slots ls Y)
theorem G_goto {off : Int} {tgt : Nat} (C : CX p Rm s m args meth c D cy xa A sc Ls mi d) (hd : decode (codeOf mi) pc = .ok (.goto off, 3)) (ht : (pc : Int) + off = (tgt : Int)) (K : GW p l e Rm s m args below meth c D cy xa A sc Ls mi ad0 n0 s0 Q tgt lv st M R) : GW p l e Rm s m args below meth c D cy xa A sc Ls mi ad0 n0 s0 Q pc lv st M R := by
  intro ad H locs cells slots ls X
  exact lv_goto C.1 C.2.1 hd ht (K ad H locs cells slots ls X)
theorem G_nonnull0 {off : Int} (C : CX p Rm s m args meth c D cy xa A sc Ls mi d) (hd : decode (codeOf mi) pc = .ok (.ifnonnull off, 3)) (K : GW p l e Rm s m args below meth c D cy xa A sc Ls mi ad0 n0 s0 Q (pc + 3) lv r M R) : GW p l e Rm s m args below meth c D cy xa A sc Ls mi ad0 n0 s0 Q pc lv (vA 0 :: r) M R := by
  intro ad H locs cells slots ls X
  exact lv_ifnonnullN C.1 C.2.1 hd (K ad H locs cells slots ls (X.stk (ok_tl X.2.2.2.1)))
theorem G_nonnull1 {off : Int} {tgt o : Nat} (C : CX p Rm s m args meth c D cy xa A sc Ls mi d) (hd : decode (codeOf mi) pc = .ok (.ifnonnull off, 3)) (ht : (pc : Int) + off = (tgt : Int)) (ho : 0 < o) (K : GW p l e Rm s m args below meth c D cy xa A sc Ls mi ad0 n0 s0 Q tgt lv r M R) : GW p l e Rm s m args below meth c D cy xa A sc Ls mi ad0 n0 s0 Q pc lv (vA o :: r) M R := by
  intro ad H locs cells slots ls X
  rw [List.map_cons, cv_A ad xa ho]
  exact lv_ifnonnull C.1 C.2.1 hd ht (K ad H locs cells slots ls (X.stk (ok_tl X.2.2.2.1)))
theorem G_tabOut {dflt lo hi x : Int} {offs : Array Int} {len tgt : Nat} (C : CX p Rm s m args meth c D cy xa A sc Ls mi d) (hd : decode (codeOf mi) pc = .ok (.tableswitch dflt lo hi offs, len)) (h : x < lo ∨ hi < x) (ht : (pc : Int) + dflt = (tgt : Int)) (K : GW p l e Rm s m args below meth c D cy xa A sc Ls mi ad0 n0 s0 Q tgt lv r M R) : GW p l e Rm s m args below meth c D cy xa A sc Ls mi ad0 n0 s0 Q pc lv (vI x :: r) M R := by
  intro ad H locs cells slots ls X
  have hx : i32 x := ok_hd X.2.2.2.1
  exact lv_tableOut C.1 C.2.1 hd (by rw [to32 hx]; exact h) ht (K ad H locs cells slots ls (X.stk (ok_tl X.2.2.2.1)))
theorem G_tabIn {dflt lo hi x off : Int} {offs : Array Int} {len tgt : Nat} (C : CX p Rm s m args meth c D cy xa A sc Ls mi d) (hd : decode (codeOf mi) pc = .ok (.tableswitch dflt lo hi offs, len)) (h : ¬ (x < lo ∨ hi < x)) (ho : offs[(x - lo).toNat]? = some off) (ht : (pc : Int) + off = (tgt : Int)) (K : GW p l e Rm s m args below meth c D cy xa A sc Ls mi ad0 n0 s0 Q tgt lv r M R) : GW p l e Rm s m args below meth c D cy xa A sc Ls mi ad0 n0 s0 Q pc lv (vI x :: r) M R := by
  intro ad H locs cells slots ls X
  have hx : i32 x := ok_hd X.2.2.2.1
  exact lv_tableIn C.1 C.2.1 hd (by rw [to32 hx]; omega) (by rw [to32 hx]; omega) (by rw [to32 hx]; exact ho) ht (K ad H locs cells slots ls (X.stk (ok_tl X.2.2.2.1)))
theorem G_lookup {dflt x : Int} {ps : Array (Int × Int)} {len tgt : Nat} (C : CX p Rm s m args meth c D cy xa A sc Ls mi d) (hd : decode (codeOf mi) pc = .ok (.lookupswitch dflt ps, len)) (h : sw_ok ps.toList = true) (ht : (pc : Int) + Op.lookupswitch.offset ps.toList dflt x = (tgt : Int)) (K : GW p l e Rm s m args below meth c D cy xa A sc Ls mi ad0 n0 s0 Q tgt lv r M R) : GW p l e Rm s m args below meth c D cy xa A sc Ls mi ad0 n0 s0 Q pc lv (vI x :: r) M R := by
  intro ad H locs cells slots ls X
  have hx : i32 x := ok_hd X.2.2.2.1
  exact lv_lookup (off := Op.lookupswitch.offset ps.toList dflt x) C.1 C.2.1 hd h (by rw [to32 hx]) ht (K ad H locs cells slots ls (X.stk (ok_tl X.2.2.2.1)))
theorem G_ldc {i : Nat} {v : Int} (C : CX p Rm s m args meth c D cy xa A sc Ls mi d) (hd : decode (codeOf mi) pc = .ok (.ldc i, 2)) (h : cstT (clsOf mi) i = some v) (K : GW p l e Rm s m args below meth c D cy xa A sc Ls mi ad0 n0 s0 Q (pc + 2) lv (vI v :: st) M R) : GW p l e Rm s m args below meth c D cy xa A sc Ls mi ad0 n0 s0 Q pc lv st M R := by
  intro ad H locs cells slots ls X
  obtain ⟨h1, h2⟩ := cok _ (lk_mem h)
  exact lv_ldc C.1 C.2.1 C.2.2.2.1 (C.2.2.2.2.1 _ h1) hd (K ad H locs cells slots ls (X.stk (ok_cons h2 X.2.2.2.1)))
theorem G_ldcw {i : Nat} {v : Int} (C : CX p Rm s m args meth c D cy xa A sc Ls mi d) (hd : decode (codeOf mi) pc = .ok (.ldc_w i, 3)) (h : cstT (clsOf mi) i = some v) (K : GW p l e Rm s m args below meth c D cy xa A sc Ls mi ad0 n0 s0 Q (pc + 3) lv (vI v :: st) M R) : GW p l e Rm s m args below meth c D cy xa A sc Ls mi ad0 n0 s0 Q pc lv st M R := by
  intro ad H locs cells slots ls X
  obtain ⟨h1, h2⟩ := cok _ (lk_mem h)
  exact lv_ldcw C.1 C.2.1 C.2.2.2.1 (C.2.2.2.2.1 _ h1) hd (K ad H locs cells slots ls (X.stk (ok_cons h2 X.2.2.2.1)))
theorem G_ldc2 {i : Nat} {v : Int} (C : CX p Rm s m args meth c D cy xa A sc Ls mi d) (hd : decode (codeOf mi) pc = .ok (.ldc2_w i, 3)) (h : ct2T (clsOf mi) i = some v) (K : GW p l e Rm s m args below meth c D cy xa A sc Ls mi ad0 n0 s0 Q (pc + 3) lv (vJ v :: st) M R) : GW p l e Rm s m args below meth c D cy xa A sc Ls mi ad0 n0 s0 Q pc lv st M R := by
  intro ad H locs cells slots ls X
  obtain ⟨h1, h2⟩ := dok _ (lk_mem h)
  exact lv_ldc2 C.1 C.2.1 C.2.2.2.1 (C.2.2.2.2.1 _ h1) hd (K ad H locs cells slots ls (X.stk (ok_cons h2 X.2.2.2.1)))
theorem G_ldcS  (C : CX p Rm s m args meth c D cy xa A sc Ls mi d) (hd : decode (codeOf mi) pc = .ok (.ldc 50, 2)) (h : clsOf mi = 6) (K : GW p l e Rm s m args below meth c D cy xa A sc Ls mi ad0 n0 s0 Q (pc + 2) lv (vX 1 :: st) M R) : GW p l e Rm s m args below meth c D cy xa A sc Ls mi ad0 n0 s0 Q pc lv st M R := by
  intro ad H locs cells slots ls X
  have hw := C.2.2.2.1
  rw [h] at hw
  exact va_ldcS C.1 C.2.1 hw C.2.2.2.2.2.2.2.1.2.2.2.1.1 hd (K ad H locs cells slots ls (X.stk (ok_cons trivial X.2.2.2.1)))
end SND
