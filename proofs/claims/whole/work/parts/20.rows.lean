/-! ===== ROWS OF THE CLEAN MACHINE: a run, an instruction a row ===== -/
theorem e_nx {cf : CF} {mi pc pc' len : Nat} {lv st lv' st' : List AV} {M M' : MM} {R R' : RR} {ins : Instr} (hd : decode (codeOf mi) pc = .ok (ins, len)) (hl : ilen ins = len ∨ ilen ins = 0) (hs : sti cf mi pc lv st M R ins = nx pc' lv' st' M' R') : run cf mi pc lv st M R = run cf mi pc' lv' st' M' R' := by
  rw [run_eq]
  simp only [stp, hd, if_pos hl, hs, nx]
theorem e_ret {cf : CF} {mi pc len : Nat} {lv st : List AV} {M M' : MM} {R R' : RR} {v : AV} {ins : Instr} (hd : decode (codeOf mi) pc = .ok (ins, len)) (hl : ilen ins = len ∨ ilen ins = 0) (hs : sti cf mi pc lv st M R ins = some (.inl (v, M', R'))) : run cf mi pc lv st M R = some (v, M', R') := by
  rw [run_eq]
  simp only [stp, hd, if_pos hl, hs]
noncomputable def goOn (cf : CF) (mi : Nat) (x : Option St) : Option Res :=
  match x with
  | none => none
  | some (.inl r) => some r
  | some (.inr (pc', lv', st', M', R')) => run cf mi pc' lv' st' M' R'
theorem goOn_nx {cf : CF} {mi p : Nat} {lv st : List AV} {M : MM} {R : RR} : goOn cf mi (nx p lv st M R) = run cf mi p lv st M R := rfl
theorem goOn_none {cf : CF} {mi : Nat} : goOn cf mi none = none := rfl
theorem goOn_ite {cf : CF} {mi : Nat} {p : Prop} [Decidable p] {a b : Option St} : goOn cf mi (if p then a else b) = if p then goOn cf mi a else goOn cf mi b := by
  by_cases h : p
  · rw [if_pos h, if_pos h]
  · rw [if_neg h, if_neg h]
theorem e_any {cf : CF} {mi pc len : Nat} {lv st : List AV} {M : MM} {R : RR} {ins : Instr} (hd : decode (codeOf mi) pc = .ok (ins, len)) (hl : ilen ins = len ∨ ilen ins = 0) : run cf mi pc lv st M R = goOn cf mi (sti cf mi pc lv st M R ins) := by
  rw [run_eq]
  simp only [stp, hd, if_pos hl]
  cases sti cf mi pc lv st M R ins with
  | none => rfl
  | some x => cases x with
    | inl r => rfl
    | inr r => rfl
section ROWS
variable {cf : CF} {mi pc : Nat} {lv st r : List AV} {M : MM} {R : RR}
-- a guard: where it doesn't hold there is no run
theorem gd_run {p : Prop} [Decidable p] {x : Option St} {y : Option Res} (h : goOn cf mi x = y) : goOn cf mi (gd p x) = if p then y else none := by
  unfold gd
  rw [goOn_ite, h, goOn_none]
theorem i_th {α : Type} {p : Prop} [Decidable p] {a a' : Option α} (h : a = a') : (if p then a else none) = (if p then a' else none) := by rw [h]
theorem i_el {α : Type} {p : Prop} [Decidable p] {a a' b b' : α} (h : a = a') (g : b = b') : (if p then a else b) = (if p then a' else b') := by rw [h, g]
theorem e_bin {f : Int → Int → Int} {a b : Int} {ins : Instr} (hd : decode (codeOf mi) pc = .ok (ins, 1)) (hs : sti cf mi pc lv (vI b :: vI a :: r) M R ins = nx (pc + 1) lv (vI (f a b) :: r) M R) (hl : ilen ins = 1) : run cf mi pc lv (vI b :: vI a :: r) M R = run cf mi (pc + 1) lv (vI (f a b) :: r) M R := e_nx hd (.inl hl) hs
theorem e_div {a b : Int} (hd : decode (codeOf mi) pc = .ok (.idiv, 1)) : run cf mi pc lv (vI b :: vI a :: r) M R = if b ≠ 0 then run cf mi (pc + 1) lv (vI (w32 (a.tdiv b)) :: r) M R else none := (e_any hd (.inl rfl)).trans (gd_run rfl)
theorem e_rem {a b : Int} (hd : decode (codeOf mi) pc = .ok (.irem, 1)) : run cf mi pc lv (vI b :: vI a :: r) M R = if b ≠ 0 then run cf mi (pc + 1) lv (vI (a.tmod b) :: r) M R else none := (e_any hd (.inl rfl)).trans (gd_run rfl)
theorem e_ldiv {a b : Int} (hd : decode (codeOf mi) pc = .ok (.ldiv, 1)) : run cf mi pc lv (vJ b :: vJ a :: r) M R = if b ≠ 0 then run cf mi (pc + 1) lv (vJ (w64 (a.tdiv b)) :: r) M R else none := (e_any hd (.inl rfl)).trans (gd_run rfl)
theorem e_lrem {a b : Int} (hd : decode (codeOf mi) pc = .ok (.lrem, 1)) : run cf mi pc lv (vJ b :: vJ a :: r) M R = if b ≠ 0 then run cf mi (pc + 1) lv (vJ (a.tmod b) :: r) M R else none := (e_any hd (.inl rfl)).trans (gd_run rfl)
-- constants of the pool
theorem e_ldc {i : Nat} {v : Int} (hd : decode (codeOf mi) pc = .ok (.ldc i, 2)) (h0 : ¬ (clsOf mi = 6 ∧ i = 50)) (h : cstT (clsOf mi) i = some v) : run cf mi pc lv st M R = run cf mi (pc + 2) lv (vI v :: st) M R := e_nx hd (.inl rfl) (by simp only [sti, if_neg h0, h]; rfl)
theorem e_ldcS (hd : decode (codeOf mi) pc = .ok (.ldc 50, 2)) (h : clsOf mi = 6) : run cf mi pc lv st M R = run cf mi (pc + 2) lv (vX 1 :: st) M R := e_nx hd (.inl rfl) (by simp only [sti]; rw [if_pos ⟨h, trivial⟩])
theorem e_ldcw {i : Nat} {v : Int} (hd : decode (codeOf mi) pc = .ok (.ldc_w i, 3)) (h : cstT (clsOf mi) i = some v) : run cf mi pc lv st M R = run cf mi (pc + 3) lv (vI v :: st) M R := e_nx hd (.inl rfl) (by simp only [sti, h]; rfl)
theorem e_ldc2 {i : Nat} {v : Int} (hd : decode (codeOf mi) pc = .ok (.ldc2_w i, 3)) (h : ct2T (clsOf mi) i = some v) : run cf mi pc lv st M R = run cf mi (pc + 3) lv (vJ v :: st) M R := e_nx hd (.inl rfl) (by simp only [sti, h]; rfl)
-- branches
theorem e_br {pc' off : Int} {p t : Nat} {k : Nat → Option St} (h : (p : Int) + off = (t : Int)) : br p off k = k t := by
  unfold br
  rw [if_pos (by omega), h, Int.toNat_natCast]
theorem br_run {p : Prop} [Decidable p] {c : Bool} (hc : c = decide p) {a b : Nat} {lv1 st1 : List AV} {M1 : MM} {R1 : RR} : goOn cf mi (if c = true then nx a lv1 st1 M1 R1 else nx b lv1 st1 M1 R1) = if p then run cf mi a lv1 st1 M1 R1 else run cf mi b lv1 st1 M1 R1 := by
  subst hc
  rw [goOn_ite, goOn_nx, goOn_nx]
  by_cases h : p
  · rw [if_pos h, if_pos (decide_eq_true h)]
  · rw [if_neg h, if_neg (by rw [decide_eq_true_eq]; exact h)]
theorem e_icmp_eq {a b off : Int} {t : Nat} (hd : decode (codeOf mi) pc = .ok (.if_icmp .eq off, 3)) (ht : (pc : Int) + off = (t : Int)) : run cf mi pc lv (vI b :: vI a :: r) M R = if a = b then run cf mi t lv r M R else run cf mi (pc + 3) lv r M R := by
  rw [e_any hd (.inl rfl)]
  simp only [sti, popI, e_br (pc' := 0) ht]
  exact br_run rfl
theorem e_if_eq {a off : Int} {t : Nat} (hd : decode (codeOf mi) pc = .ok (.ifCond .eq off, 3)) (ht : (pc : Int) + off = (t : Int)) : run cf mi pc lv (vI a :: r) M R = if a = 0 then run cf mi t lv r M R else run cf mi (pc + 3) lv r M R := by
  rw [e_any hd (.inl rfl)]
  simp only [sti, popI, e_br (pc' := 0) ht]
  exact br_run rfl
theorem e_icmp_ne {a b off : Int} {t : Nat} (hd : decode (codeOf mi) pc = .ok (.if_icmp .ne off, 3)) (ht : (pc : Int) + off = (t : Int)) : run cf mi pc lv (vI b :: vI a :: r) M R = if a ≠ b then run cf mi t lv r M R else run cf mi (pc + 3) lv r M R := by
  rw [e_any hd (.inl rfl)]
  simp only [sti, popI, e_br (pc' := 0) ht]
  exact br_run rfl
theorem e_if_ne {a off : Int} {t : Nat} (hd : decode (codeOf mi) pc = .ok (.ifCond .ne off, 3)) (ht : (pc : Int) + off = (t : Int)) : run cf mi pc lv (vI a :: r) M R = if a ≠ 0 then run cf mi t lv r M R else run cf mi (pc + 3) lv r M R := by
  rw [e_any hd (.inl rfl)]
  simp only [sti, popI, e_br (pc' := 0) ht]
  exact br_run rfl
theorem e_icmp_lt {a b off : Int} {t : Nat} (hd : decode (codeOf mi) pc = .ok (.if_icmp .lt off, 3)) (ht : (pc : Int) + off = (t : Int)) : run cf mi pc lv (vI b :: vI a :: r) M R = if a < b then run cf mi t lv r M R else run cf mi (pc + 3) lv r M R := by
  rw [e_any hd (.inl rfl)]
  simp only [sti, popI, e_br (pc' := 0) ht]
  exact br_run rfl
theorem e_if_lt {a off : Int} {t : Nat} (hd : decode (codeOf mi) pc = .ok (.ifCond .lt off, 3)) (ht : (pc : Int) + off = (t : Int)) : run cf mi pc lv (vI a :: r) M R = if a < 0 then run cf mi t lv r M R else run cf mi (pc + 3) lv r M R := by
  rw [e_any hd (.inl rfl)]
  simp only [sti, popI, e_br (pc' := 0) ht]
  exact br_run rfl
theorem e_icmp_ge {a b off : Int} {t : Nat} (hd : decode (codeOf mi) pc = .ok (.if_icmp .ge off, 3)) (ht : (pc : Int) + off = (t : Int)) : run cf mi pc lv (vI b :: vI a :: r) M R = if b ≤ a then run cf mi t lv r M R else run cf mi (pc + 3) lv r M R := by
  rw [e_any hd (.inl rfl)]
  simp only [sti, popI, e_br (pc' := 0) ht]
  exact br_run rfl
theorem e_if_ge {a off : Int} {t : Nat} (hd : decode (codeOf mi) pc = .ok (.ifCond .ge off, 3)) (ht : (pc : Int) + off = (t : Int)) : run cf mi pc lv (vI a :: r) M R = if 0 ≤ a then run cf mi t lv r M R else run cf mi (pc + 3) lv r M R := by
  rw [e_any hd (.inl rfl)]
  simp only [sti, popI, e_br (pc' := 0) ht]
  exact br_run rfl
theorem e_icmp_gt {a b off : Int} {t : Nat} (hd : decode (codeOf mi) pc = .ok (.if_icmp .gt off, 3)) (ht : (pc : Int) + off = (t : Int)) : run cf mi pc lv (vI b :: vI a :: r) M R = if b < a then run cf mi t lv r M R else run cf mi (pc + 3) lv r M R := by
  rw [e_any hd (.inl rfl)]
  simp only [sti, popI, e_br (pc' := 0) ht]
  exact br_run rfl
theorem e_if_gt {a off : Int} {t : Nat} (hd : decode (codeOf mi) pc = .ok (.ifCond .gt off, 3)) (ht : (pc : Int) + off = (t : Int)) : run cf mi pc lv (vI a :: r) M R = if 0 < a then run cf mi t lv r M R else run cf mi (pc + 3) lv r M R := by
  rw [e_any hd (.inl rfl)]
  simp only [sti, popI, e_br (pc' := 0) ht]
  exact br_run rfl
theorem e_icmp_le {a b off : Int} {t : Nat} (hd : decode (codeOf mi) pc = .ok (.if_icmp .le off, 3)) (ht : (pc : Int) + off = (t : Int)) : run cf mi pc lv (vI b :: vI a :: r) M R = if a ≤ b then run cf mi t lv r M R else run cf mi (pc + 3) lv r M R := by
  rw [e_any hd (.inl rfl)]
  simp only [sti, popI, e_br (pc' := 0) ht]
  exact br_run rfl
theorem e_if_le {a off : Int} {t : Nat} (hd : decode (codeOf mi) pc = .ok (.ifCond .le off, 3)) (ht : (pc : Int) + off = (t : Int)) : run cf mi pc lv (vI a :: r) M R = if a ≤ 0 then run cf mi t lv r M R else run cf mi (pc + 3) lv r M R := by
  rw [e_any hd (.inl rfl)]
  simp only [sti, popI, e_br (pc' := 0) ht]
  exact br_run rfl
theorem e_goto {off : Int} {t : Nat} (hd : decode (codeOf mi) pc = .ok (.goto off, 3)) (ht : (pc : Int) + off = (t : Int)) : run cf mi pc lv st M R = run cf mi t lv st M R := e_nx hd (.inl rfl) (by simp only [sti, e_br (pc' := 0) ht])
theorem e_nonnull {off : Int} {t o : Nat} (hd : decode (codeOf mi) pc = .ok (.ifnonnull off, 3)) (ht : (pc : Int) + off = (t : Int)) : run cf mi pc lv (vA o :: r) M R = if o = 0 then run cf mi (pc + 3) lv r M R else run cf mi t lv r M R := by
  rw [e_any hd (.inl rfl)]
  simp only [sti, popA, e_br (pc' := 0) ht]
  rw [goOn_ite]; rfl
theorem e_tabOut {dd lo hi x : Int} {offs : Array Int} {len t : Nat} (hd : decode (codeOf mi) pc = .ok (.tableswitch dd lo hi offs, len)) (h : x < lo ∨ hi < x) (ht : (pc : Int) + dd = (t : Int)) : run cf mi pc lv (vI x :: r) M R = run cf mi t lv r M R := e_nx hd (.inr rfl) (by simp only [sti, popI, if_pos h, e_br (pc' := 0) ht])
theorem e_tabIn {dd lo hi x off : Int} {offs : Array Int} {len t : Nat} (hd : decode (codeOf mi) pc = .ok (.tableswitch dd lo hi offs, len)) (h : ¬ (x < lo ∨ hi < x)) (ho : offs[(x - lo).toNat]? = some off) (ht : (pc : Int) + off = (t : Int)) : run cf mi pc lv (vI x :: r) M R = run cf mi t lv r M R := e_nx hd (.inr rfl) (by simp only [sti, popI, if_neg h, ho, Option.bind_some, e_br (pc' := 0) ht])
theorem e_lookup {dd x off : Int} {ps : Array (Int × Int)} {len t : Nat} (hd : decode (codeOf mi) pc = .ok (.lookupswitch dd ps, len)) (h : sw_ok ps.toList = true) (ho : Op.lookupswitch.offset ps.toList dd x = off) (ht : (pc : Int) + off = (t : Int)) : run cf mi pc lv (vI x :: r) M R = run cf mi t lv r M R := e_nx hd (.inr rfl) (by simp only [sti, popI, gd, if_pos h, ho, e_br (pc' := 0) ht])
-- fields
theorem e_getI {i k sl o : Nat} (hd : decode (codeOf mi) pc = .ok (.getfield i, 3)) (hf : fldT (clsOf mi) i = some (k, sl)) (hk : kindOf o = k) (ht : ¬ ftyp k sl = 1) : run cf mi pc lv (vA o :: r) M R = run cf mi (pc + 3) lv (vI (M o sl) :: r) M R := e_nx hd (.inl rfl) (by simp only [sti, popA, hf, Option.bind_some, gd, if_pos hk, if_neg ht])
theorem e_getA {i k sl o q : Nat} (hd : decode (codeOf mi) pc = .ok (.getfield i, 3)) (hf : fldT (clsOf mi) i = some (k, sl)) (hk : kindOf o = k) (ht : ftyp k sl = 1) (hq : R o sl = q) : run cf mi pc lv (vA o :: r) M R = run cf mi (pc + 3) lv (vA q :: r) M R := e_nx hd (.inl rfl) (by simp only [sti, popA, hf, Option.bind_some, gd, if_pos hk, if_pos ht, hq])
theorem e_putI {i k sl o : Nat} {x : Int} (hd : decode (codeOf mi) pc = .ok (.putfield i, 3)) (hf : fldT (clsOf mi) i = some (k, sl)) (hk : kindOf o = k) (hF : finOk mi k sl = true) (ht : ftyp k sl = 0) : run cf mi pc lv (vI x :: vA o :: r) M R = run cf mi (pc + 3) lv r (up M o sl x) R := e_nx hd (.inl rfl) (by simp only [sti, popV, popA, hf, Option.bind_some, gd, if_pos (And.intro hk hF), popI]; rw [if_neg (by omega), if_pos (.inl ht)])
theorem e_putZ {i k sl o : Nat} {x : Int} (hd : decode (codeOf mi) pc = .ok (.putfield i, 3)) (hf : fldT (clsOf mi) i = some (k, sl)) (hk : kindOf o = k) (hF : finOk mi k sl = true) (ht : ftyp k sl = 2) (hx : x = 0 ∨ x = 1) : run cf mi pc lv (vI x :: vA o :: r) M R = run cf mi (pc + 3) lv r (up M o sl x) R := e_nx hd (.inl rfl) (by simp only [sti, popV, popA, hf, Option.bind_some, gd, if_pos (And.intro hk hF), popI]; rw [if_neg (by omega), if_pos (.inr ⟨ht, hx⟩)])
theorem e_putA {i k sl o q : Nat} (hd : decode (codeOf mi) pc = .ok (.putfield i, 3)) (hf : fldT (clsOf mi) i = some (k, sl)) (hk : kindOf o = k) (hF : finOk mi k sl = true) (ht : ftyp k sl = 1) : run cf mi pc lv (vA q :: vA o :: r) M R = run cf mi (pc + 3) lv r M (up R o sl q) := e_nx hd (.inl rfl) (by simp only [sti, popV, popA, hf, Option.bind_some, gd, if_pos (And.intro hk hF), if_pos ht])
-- arrays: n is the length
theorem e_iald {i n : Int} {o : Nat} (hd : decode (codeOf mi) pc = .ok (.iaload, 1)) (hk : kindOf o = 13) (hn : (R 0 (o + 2) : Int) = n) : run cf mi pc lv (vI i :: vA o :: r) M R = if 0 ≤ i ∧ i < n then run cf mi (pc + 1) lv (vI (M o i.toNat) :: r) M R else none := by
  rw [e_any hd (.inl rfl)]
  subst hn
  simp only [sti, popI, popJ, popA, popX, gd, hk, true_and]
  rw [goOn_ite]; rfl
theorem e_zald {i n : Int} {o : Nat} (hd : decode (codeOf mi) pc = .ok (.baload, 1)) (hk : kindOf o = 15) (hn : (R 0 (o + 2) : Int) = n) : run cf mi pc lv (vI i :: vA o :: r) M R = if 0 ≤ i ∧ i < n then run cf mi (pc + 1) lv (vI (M o i.toNat) :: r) M R else none := by
  rw [e_any hd (.inl rfl)]
  subst hn
  simp only [sti, popI, popJ, popA, popX, gd, hk, true_and]
  rw [goOn_ite]; rfl
theorem e_lald {i n : Int} {o : Nat} (hd : decode (codeOf mi) pc = .ok (.laload, 1)) (hk : kindOf o = 14) (hn : (R 0 (o + 2) : Int) = n) : run cf mi pc lv (vI i :: vA o :: r) M R = if 0 ≤ i ∧ i < n then run cf mi (pc + 1) lv (vJ (M o i.toNat) :: r) M R else none := by
  rw [e_any hd (.inl rfl)]
  subst hn
  simp only [sti, popI, popJ, popA, popX, gd, hk, true_and]
  rw [goOn_ite]; rfl
theorem e_iast {x i n : Int} {o : Nat} (hd : decode (codeOf mi) pc = .ok (.iastore, 1)) (hk : kindOf o = 13) (hn : (R 0 (o + 2) : Int) = n) : run cf mi pc lv (vI x :: vI i :: vA o :: r) M R = if 0 ≤ i ∧ i < n then run cf mi (pc + 1) lv r (up M o i.toNat x) R else none := by
  rw [e_any hd (.inl rfl)]
  subst hn
  simp only [sti, popI, popJ, popA, popX, gd, hk, true_and]
  rw [goOn_ite]; rfl
theorem e_zast {x i n : Int} {o : Nat} (hd : decode (codeOf mi) pc = .ok (.bastore, 1)) (hk : kindOf o = 15) (hn : (R 0 (o + 2) : Int) = n) (hx : x = 0 ∨ x = 1) : run cf mi pc lv (vI x :: vI i :: vA o :: r) M R = if 0 ≤ i ∧ i < n then run cf mi (pc + 1) lv r (up M o i.toNat x) R else none := by
  rw [e_any hd (.inl rfl)]
  subst hn
  simp only [sti, popI, popJ, popA, popX, gd, hk, true_and, hx]
  rw [goOn_ite]; rfl
theorem e_last {x i n : Int} {o : Nat} (hd : decode (codeOf mi) pc = .ok (.lastore, 1)) (hk : kindOf o = 14) (hn : (R 0 (o + 2) : Int) = n) : run cf mi pc lv (vJ x :: vI i :: vA o :: r) M R = if 0 ≤ i ∧ i < n then run cf mi (pc + 1) lv r (up M o i.toNat x) R else none := by
  rw [e_any hd (.inl rfl)]
  subst hn
  simp only [sti, popI, popJ, popA, popX, gd, hk, true_and]
  rw [goOn_ite]; rfl
theorem e_aald {i n : Int} {o : Nat} (hd : decode (codeOf mi) pc = .ok (.aaload, 1)) (hk : kindOf o = 16 ∨ kindOf o = 17) (hn : (R 0 (o + 2) : Int) = n) : run cf mi pc lv (vI i :: vA o :: r) M R = if 0 ≤ i ∧ i < n then run cf mi (pc + 1) lv (vA (R o i.toNat) :: r) M R else none := by
  rw [e_any hd (.inl rfl)]
  subst hn
  simp only [sti, popI, popA, gd, hk, true_and]
  rw [goOn_ite]; rfl
theorem e_aast {i n : Int} {o q : Nat} (hd : decode (codeOf mi) pc = .ok (.aastore, 1)) (hk : (kindOf o = 16 ∧ kindOf q = 4) ∨ (kindOf o = 17 ∧ kindOf q = 7)) (hn : (R 0 (o + 2) : Int) = n) : run cf mi pc lv (vA q :: vI i :: vA o :: r) M R = if 0 ≤ i ∧ i < n then run cf mi (pc + 1) lv r M (up R o i.toNat q) else none := by
  rw [e_any hd (.inl rfl)]
  subst hn
  simp only [sti, popI, popA, gd, hk, true_and]
  rw [goOn_ite]; rfl
theorem e_alen {n : Int} {o : Nat} (hd : decode (codeOf mi) pc = .ok (.arraylength, 1)) (hk : 13 ≤ kindOf o ∧ kindOf o ≤ 17) (hn : (R 0 (o + 2) : Int) = n) : run cf mi pc lv (vA o :: r) M R = run cf mi (pc + 1) lv (vI n :: r) M R := e_nx hd (.inl rfl) (by subst hn; simp only [sti, popX, popA, gd, hk, and_self, if_true])
theorem e_slen {n : Int} (hd : decode (codeOf mi) pc = .ok (.arraylength, 1)) (hn : (R 0 2 : Int) = n) : run cf mi pc lv (vX 2 :: r) M R = run cf mi (pc + 1) lv (vI n :: r) M R := e_nx hd (.inl rfl) (by subst hn; simp only [sti, popX, if_true])
theorem e_sld {i n : Int} (hd : decode (codeOf mi) pc = .ok (.iaload, 1)) (hn : (R 0 2 : Int) = n) : run cf mi pc lv (vI i :: vX 2 :: r) M R = if 0 ≤ i ∧ i < n then run cf mi (pc + 1) lv (vI (M 0 i.toNat) :: r) M R else none := by
  rw [e_any hd (.inl rfl)]
  subst hn
  simp only [sti, popI, popX, gd, if_true]
  rw [goOn_ite]; rfl
-- what is made
theorem e_newI {n : Int} (hd : decode (codeOf mi) pc = .ok (.newarray .int, 2)) (h : 0 ≤ n ∧ n ≤ 100000) (hk : kindOf (nu R) = 13) : run cf mi pc lv (vI n :: r) M R = run cf mi (pc + 2) lv (vA (nu R) :: r) (newM M R) (newR R n.toNat n.toNat) := e_nx hd (.inl rfl) (by simp only [sti, popI, gd]; rw [if_pos ⟨h.1, h.2, .inl ⟨trivial, hk⟩⟩])
theorem e_newJ {n : Int} (hd : decode (codeOf mi) pc = .ok (.newarray .long, 2)) (h : 0 ≤ n ∧ n ≤ 100000) (hk : kindOf (nu R) = 14) : run cf mi pc lv (vI n :: r) M R = run cf mi (pc + 2) lv (vA (nu R) :: r) (newM M R) (newR R n.toNat n.toNat) := e_nx hd (.inl rfl) (by simp only [sti, popI, gd]; rw [if_pos ⟨h.1, h.2, .inr (.inl ⟨trivial, hk⟩)⟩])
theorem e_newZ {n : Int} (hd : decode (codeOf mi) pc = .ok (.newarray .boolean, 2)) (h : 0 ≤ n ∧ n ≤ 100000) (hk : kindOf (nu R) = 15) : run cf mi pc lv (vI n :: r) M R = run cf mi (pc + 2) lv (vA (nu R) :: r) (newM M R) (newR R n.toNat n.toNat) := e_nx hd (.inl rfl) (by simp only [sti, popI, gd]; rw [if_pos ⟨h.1, h.2, .inr (.inr ⟨trivial, hk⟩)⟩])
theorem e_anew {i kd : Nat} {n : Int} (hd : decode (codeOf mi) pc = .ok (.anewarray i, 3)) (hf : anwT (clsOf mi) i = some kd) (h : 0 ≤ n ∧ n ≤ 100000) (hk : kindOf (nu R) = kd) (hkd : kd = 16 ∨ kd = 17) : run cf mi pc lv (vI n :: r) M R = run cf mi (pc + 3) lv (vA (nu R) :: r) (newM M R) (newR R n.toNat n.toNat) := e_nx hd (.inl rfl) (by simp only [sti, popI, hf, Option.bind_some, gd]; rw [if_pos ⟨h.1, h.2, hk, hkd⟩])
theorem e_new {i k : Nat} (hd : decode (codeOf mi) pc = .ok (.new i, 3)) (hf : newT (clsOf mi) i = some k) (hk : kindOf (nu R) = k) : run cf mi pc lv st M R = run cf mi (pc + 3) lv (vA (nu R) :: st) (newM M R) (newR R 0 (nF k)) := e_nx hd (.inl rfl) (by simp only [sti, hf, Option.bind_some, gd]; rw [if_pos hk])
theorem e_cast {o : Nat} (hd : decode (codeOf mi) pc = .ok (.checkcast 317, 3)) (hm : clsOf mi = 16) (hk : kindOf o = 13) : run cf mi pc lv (vA o :: r) M R = run cf mi (pc + 3) lv (vA o :: r) M R := e_nx hd (.inl rfl) (by simp only [sti, popA, gd]; rw [if_pos ⟨hm, trivial, hk⟩])
theorem e_objInit {i o : Nat} (hd : decode (codeOf mi) pc = .ok (.invokespecial i, 3)) (hb : bltT (clsOf mi) i = some 1) (ho : 0 < o ∧ catS r ≤ 8) : run cf mi pc lv (vA o :: r) M R = run cf mi (pc + 3) lv r M R := e_nx hd (.inl rfl) (by simp only [sti, hb, if_true, popA, gd]; rw [if_pos ho])
theorem e_clone {i o : Nat} (hd : decode (codeOf mi) pc = .ok (.invokevirtual i, 3)) (hb : bltT (clsOf mi) i = some 3) (h : kindOf o = 13 ∧ kindOf (nu R) = 13 ∧ catS r ≤ 8) : run cf mi pc lv (vA o :: r) M R = run cf mi (pc + 3) lv (vA (nu R) :: r) (upf M (nu R) (M o)) (newR R (R 0 (o + 2)) (R 0 (o + 2))) := e_nx hd (.inl rfl) (by simp only [sti, hb, if_true, popA, gd]; rw [if_pos h])
theorem e_acopy {i a b : Nat} {n dp sp na nb : Int} (hd : decode (codeOf mi) pc = .ok (.invokestatic i, 3)) (hb : bltT (clsOf mi) i = some 2) (ka : kindOf a = 13) (kb : kindOf b = 13) (hna : (R 0 (a + 2) : Int) = na) (hnb : (R 0 (b + 2) : Int) = nb) (hc : catS r ≤ 8) : run cf mi pc lv (vI n :: vI dp :: vA b :: vI sp :: vA a :: r) M R = if 0 ≤ sp ∧ 0 ≤ dp ∧ 0 ≤ n ∧ sp + n ≤ na ∧ dp + n ≤ nb then run cf mi (pc + 3) lv r (upf M b (cpf (M a) (M b) sp.toNat dp.toNat n.toNat)) R else none := by
  rw [e_any hd (.inl rfl)]
  subst hna hnb
  simp only [sti, hb, if_true, popI, popA, gd, ka, kb, hc, true_and, and_true]
  rw [goOn_ite]; rfl
theorem b_ne {i k : Nat} {x : Option Nat} (h : x = some k) (hk : k ≠ i) : ¬ x = some i := by rw [h]; intro e; cases e; exact hk rfl
theorem e_mmax {i : Nat} {a b : Int} (hd : decode (codeOf mi) pc = .ok (.invokestatic i, 3)) (hb : bltT (clsOf mi) i = some 4) (hc : catS r ≤ 8) : run cf mi pc lv (vI b :: vI a :: r) M R = run cf mi (pc + 3) lv (vI (max a b) :: r) M R := e_nx hd (.inl rfl) (by simp only [sti]; rw [if_neg (b_ne hb (by decide)), if_pos hb]; simp only [popI, gd, if_pos hc])
theorem e_mmin {i : Nat} {a b : Int} (hd : decode (codeOf mi) pc = .ok (.invokestatic i, 3)) (hb : bltT (clsOf mi) i = some 5) (hc : catS r ≤ 8) : run cf mi pc lv (vI b :: vI a :: r) M R = run cf mi (pc + 3) lv (vI (min a b) :: r) M R := e_nx hd (.inl rfl) (by simp only [sti]; rw [if_neg (b_ne hb (by decide)), if_neg (b_ne hb (by decide)), if_pos hb]; simp only [popI, gd, if_pos hc])
theorem e_mabs {i : Nat} {a : Int} (hd : decode (codeOf mi) pc = .ok (.invokestatic i, 3)) (hb : bltT (clsOf mi) i = some 6) (hc : catS r ≤ 8) : run cf mi pc lv (vJ a :: r) M R = run cf mi (pc + 3) lv (vJ (if a < 0 then w64 (-a) else a) :: r) M R := e_nx hd (.inl rfl) (by simp only [sti]; rw [if_neg (b_ne hb (by decide)), if_neg (b_ne hb (by decide)), if_neg (b_ne hb (by decide)), if_pos hb]; simp only [popJ, gd, if_pos hc])
theorem e_strlen {i : Nat} (hd : decode (codeOf mi) pc = .ok (.invokevirtual i, 3)) (hb : bltT (clsOf mi) i = some 7) (hc : catS r ≤ 8) : run cf mi pc lv (vX 1 :: r) M R = run cf mi (pc + 3) lv (vI 72 :: r) M R := e_nx hd (.inl rfl) (by simp only [sti]; rw [if_neg (b_ne hb (by decide)), if_pos hb]; simp only [popX, gd, if_pos hc, if_true])
theorem e_charAt {i : Nat} {j : Int} (hd : decode (codeOf mi) pc = .ok (.invokevirtual i, 3)) (hb : bltT (clsOf mi) i = some 8) (hc : catS r ≤ 8) : run cf mi pc lv (vI j :: vX 1 :: r) M R = if 0 ≤ j ∧ j < 72 then run cf mi (pc + 3) lv (vI (wordsC.getD j.toNat 0) :: r) M R else none := by
  rw [e_any hd (.inl rfl)]
  simp only [sti]
  rw [if_neg (b_ne hb (by decide)), if_neg (b_ne hb (by decide)), if_pos hb]
  simp only [popI, popX, gd, if_true, hc, true_and]
  rw [goOn_ite]; rfl
-- calls
theorem ck_run {mi' : Nat} {as rest : List AV} (hc : catS rest ≤ 8) : goOn cf mi (callK cf mi pc lv M R mi' as rest) = (cf mi' as M R).bind (fun q => run cf mi (pc + 3) lv (pushv q.1 rest) q.2.1 q.2.2) := by
  unfold callK gd
  rw [if_pos hc]
  cases h : cf mi' as M R with
  | none => rfl
  | some q => rfl
theorem e_callS {i mi' n : Nat} {as : List AV} (hd : decode (codeOf mi) pc = .ok (.invokestatic i, 3)) (hb : bltT (clsOf mi) i = none) (hm : mthT (clsOf mi) i = some (1, mi')) (hn : narOf mi' = n) (hl : n ≤ st.length) (ha : (st.take n).reverse = as) (hr : st.drop n = r) (hc : catS r ≤ 8) : run cf mi pc lv st M R = (cf mi' as M R).bind (fun q => run cf mi (pc + 3) lv (pushv q.1 r) q.2.1 q.2.2) := by
  subst ha hr hn
  rw [e_any hd (.inl rfl)]
  simp only [sti, hb, hm, reduceCtorEq, if_false, Option.bind_some, gd, hl, and_self, if_true]
  exact ck_run hc
theorem e_callV {i mi' n o : Nat} {as : List AV} (hd : decode (codeOf mi) pc = .ok (.invokevirtual i, 3)) (hb : bltT (clsOf mi) i = none) (hm : mthT (clsOf mi) i = some (2, mi')) (hn : narOf mi' = n) (ha : (st.take n).reverse = as) (hr : st.drop n = vA o :: r) (hk : kindOf o = clsOf mi') (hc : catS r ≤ 8) : run cf mi pc lv st M R = (cf mi' (vA o :: as) M R).bind (fun q => run cf mi (pc + 3) lv (pushv q.1 r) q.2.1 q.2.2) := by
  subst ha hn
  rw [e_any hd (.inl rfl)]
  simp only [sti, hb, hm, reduceCtorEq, if_false, Option.bind_some, gd, hr, popA, hk, and_self, if_true]
  exact ck_run hc
theorem e_callI {i mi' n o : Nat} {as : List AV} (hd : decode (codeOf mi) pc = .ok (.invokespecial i, 3)) (hb : bltT (clsOf mi) i = none) (hm : mthT (clsOf mi) i = some (3, mi')) (hn : narOf mi' = n) (ha : (st.take n).reverse = as) (hr : st.drop n = vA o :: r) (hk : kindOf o = clsOf mi') (hc : catS r ≤ 8) : run cf mi pc lv st M R = (cf mi' (vA o :: as) M R).bind (fun q => run cf mi (pc + 3) lv (pushv q.1 r) q.2.1 q.2.2) := by
  subst ha hn
  rw [e_any hd (.inl rfl)]
  simp only [sti, hb, hm, reduceCtorEq, if_false, Option.bind_some, gd, hr, popA, hk, and_self, if_true]
  exact ck_run hc
end ROWS
theorem pf_0_9 : fldT 0 9 = some (0, 1) := by decide +kernel
theorem pf_0_15 : fldT 0 15 = some (0, 2) := by decide +kernel
theorem pf_0_18 : fldT 0 18 = some (0, 0) := by decide +kernel
theorem pf_0_22 : fldT 0 22 = some (10, 0) := by decide +kernel
theorem pf_0_28 : fldT 0 28 = some (0, 3) := by decide +kernel
theorem pf_0_29 : fldT 0 29 = some (10, 1) := by decide +kernel
theorem pf_0_36 : fldT 0 36 = some (2, 3) := by decide +kernel
theorem pf_0_39 : fldT 0 39 = some (2, 0) := by decide +kernel
theorem pf_0_42 : fldT 0 42 = some (0, 4) := by decide +kernel
theorem pf_0_43 : fldT 0 43 = some (1, 6) := by decide +kernel
theorem pf_0_48 : fldT 0 48 = some (0, 5) := by decide +kernel
theorem pf_1_9 : fldT 1 9 = some (1, 0) := by decide +kernel
theorem pf_1_15 : fldT 1 15 = some (1, 1) := by decide +kernel
theorem pf_1_21 : fldT 1 21 = some (1, 2) := by decide +kernel
theorem pf_1_25 : fldT 1 25 = some (1, 3) := by decide +kernel
theorem pf_1_29 : fldT 1 29 = some (1, 4) := by decide +kernel
theorem pf_1_35 : fldT 1 35 = some (1, 5) := by decide +kernel
theorem pf_1_49 : fldT 1 49 = some (10, 1) := by decide +kernel
theorem pf_1_52 : fldT 1 52 = some (10, 0) := by decide +kernel
theorem pf_1_55 : fldT 1 55 = some (2, 2) := by decide +kernel
theorem pf_1_71 : fldT 1 71 = some (2, 0) := by decide +kernel
theorem pf_1_72 : fldT 1 72 = some (1, 6) := by decide +kernel
theorem pf_1_75 : fldT 1 75 = some (2, 3) := by decide +kernel
theorem pf_2_9 : fldT 2 9 = some (2, 1) := by decide +kernel
theorem pf_2_15 : fldT 2 15 = some (2, 2) := by decide +kernel
theorem pf_2_18 : fldT 2 18 = some (2, 3) := by decide +kernel
theorem pf_2_21 : fldT 2 21 = some (2, 0) := by decide +kernel
theorem pf_3_9 : fldT 3 9 = some (3, 0) := by decide +kernel
theorem pf_3_15 : fldT 3 15 = some (3, 1) := by decide +kernel
theorem pf_3_21 : fldT 3 21 = some (3, 2) := by decide +kernel
theorem pf_3_24 : fldT 3 24 = some (3, 3) := by decide +kernel
theorem pf_3_28 : fldT 3 28 = some (3, 4) := by decide +kernel
theorem pf_3_43 : fldT 3 43 = some (6, 2) := by decide +kernel
theorem pf_3_52 : fldT 3 52 = some (6, 4) := by decide +kernel
theorem pf_3_79 : fldT 3 79 = some (6, 3) := by decide +kernel
theorem pf_4_11 : fldT 4 11 = some (4, 0) := by decide +kernel
theorem pf_4_15 : fldT 4 15 = some (4, 2) := by decide +kernel
theorem pf_4_19 : fldT 4 19 = some (4, 1) := by decide +kernel
theorem pf_5_9 : fldT 5 9 = some (5, 0) := by decide +kernel
theorem pf_5_19 : fldT 5 19 = some (5, 1) := by decide +kernel
theorem pf_5_22 : fldT 5 22 = some (5, 2) := by decide +kernel
theorem pf_5_26 : fldT 5 26 = some (5, 3) := by decide +kernel
theorem pf_5_33 : fldT 5 33 = some (5, 4) := by decide +kernel
theorem pf_6_11 : fldT 6 11 = some (6, 0) := by decide +kernel
theorem pf_6_15 : fldT 6 15 = some (6, 1) := by decide +kernel
theorem pf_6_19 : fldT 6 19 = some (6, 5) := by decide +kernel
theorem pf_6_29 : fldT 6 29 = some (6, 4) := by decide +kernel
theorem pf_6_32 : fldT 6 32 = some (6, 2) := by decide +kernel
theorem pf_6_61 : fldT 6 61 = some (6, 3) := by decide +kernel
theorem pf_7_15 : fldT 7 15 = some (7, 1) := by decide +kernel
theorem pf_7_19 : fldT 7 19 = some (7, 0) := by decide +kernel
theorem pf_8_9 : fldT 8 9 = some (8, 0) := by decide +kernel
theorem pf_8_15 : fldT 8 15 = some (8, 1) := by decide +kernel
theorem pf_8_19 : fldT 8 19 = some (8, 2) := by decide +kernel
theorem pf_8_22 : fldT 8 22 = some (8, 3) := by decide +kernel
theorem pf_8_25 : fldT 8 25 = some (8, 4) := by decide +kernel
theorem pf_8_34 : fldT 8 34 = some (8, 5) := by decide +kernel
theorem pf_8_38 : fldT 8 38 = some (8, 6) := by decide +kernel
theorem pf_8_41 : fldT 8 41 = some (8, 7) := by decide +kernel
theorem pf_8_44 : fldT 8 44 = some (8, 8) := by decide +kernel
theorem pf_8_47 : fldT 8 47 = some (8, 9) := by decide +kernel
theorem pf_8_55 : fldT 8 55 = some (8, 10) := by decide +kernel
theorem pf_8_59 : fldT 8 59 = some (9, 7) := by decide +kernel
theorem pf_8_70 : fldT 8 70 = some (8, 13) := by decide +kernel
theorem pf_8_110 : fldT 8 110 = some (8, 11) := by decide +kernel
theorem pf_8_113 : fldT 8 113 = some (8, 12) := by decide +kernel
theorem pf_9_9 : fldT 9 9 = some (9, 0) := by decide +kernel
theorem pf_9_15 : fldT 9 15 = some (9, 1) := by decide +kernel
theorem pf_9_19 : fldT 9 19 = some (9, 2) := by decide +kernel
theorem pf_9_23 : fldT 9 23 = some (9, 3) := by decide +kernel
theorem pf_9_27 : fldT 9 27 = some (9, 4) := by decide +kernel
theorem pf_9_30 : fldT 9 30 = some (9, 5) := by decide +kernel
theorem pf_9_34 : fldT 9 34 = some (9, 6) := by decide +kernel
theorem pf_9_37 : fldT 9 37 = some (9, 7) := by decide +kernel
theorem pf_9_41 : fldT 9 41 = some (2, 0) := by decide +kernel
theorem pf_9_46 : fldT 9 46 = some (10, 0) := by decide +kernel
theorem pf_9_51 : fldT 9 51 = some (1, 6) := by decide +kernel
theorem pf_9_56 : fldT 9 56 = some (2, 1) := by decide +kernel
theorem pf_9_59 : fldT 9 59 = some (2, 3) := by decide +kernel
theorem pf_9_71 : fldT 9 71 = some (2, 2) := by decide +kernel
theorem pf_10_9 : fldT 10 9 = some (10, 0) := by decide +kernel
theorem pf_10_15 : fldT 10 15 = some (10, 1) := by decide +kernel
theorem pf_11_10 : fldT 11 10 = some (11, 0) := by decide +kernel
theorem pf_11_19 : fldT 11 19 = some (11, 1) := by decide +kernel
theorem pf_11_26 : fldT 11 26 = some (11, 2) := by decide +kernel
theorem pf_11_35 : fldT 11 35 = some (11, 3) := by decide +kernel
theorem pf_11_44 : fldT 11 44 = some (11, 4) := by decide +kernel
theorem pf_11_53 : fldT 11 53 = some (11, 5) := by decide +kernel
theorem pf_11_62 : fldT 11 62 = some (11, 6) := by decide +kernel
theorem pf_11_68 : fldT 11 68 = some (11, 7) := by decide +kernel
theorem pf_11_76 : fldT 11 76 = some (11, 8) := by decide +kernel
theorem pf_11_92 : fldT 11 92 = some (10, 0) := by decide +kernel
theorem pf_11_103 : fldT 11 103 = some (10, 1) := by decide +kernel
theorem pf_11_107 : fldT 11 107 = some (2, 0) := by decide +kernel
theorem pf_11_110 : fldT 11 110 = some (1, 5) := by decide +kernel
theorem pf_11_111 : fldT 11 111 = some (1, 6) := by decide +kernel
theorem pf_11_114 : fldT 11 114 = some (6, 1) := by decide +kernel
theorem pf_11_128 : fldT 11 128 = some (3, 4) := by decide +kernel
theorem pf_11_136 : fldT 11 136 = some (2, 3) := by decide +kernel
theorem pf_11_155 : fldT 11 155 = some (2, 1) := by decide +kernel
theorem pf_11_158 : fldT 11 158 = some (2, 2) := by decide +kernel
theorem pf_11_262 : fldT 11 262 = some (4, 1) := by decide +kernel
theorem pf_11_263 : fldT 11 263 = some (4, 2) := by decide +kernel
theorem pf_11_302 : fldT 11 302 = some (9, 6) := by decide +kernel
theorem pf_11_322 : fldT 11 322 = some (0, 0) := by decide +kernel
theorem pf_11_332 : fldT 11 332 = some (4, 0) := by decide +kernel
theorem pf_12_7 : fldT 12 7 = some (12, 0) := by decide +kernel
theorem pf_12_13 : fldT 12 13 = some (12, 1) := by decide +kernel
theorem pf_12_17 : fldT 12 17 = some (12, 3) := by decide +kernel
theorem pf_12_20 : fldT 12 20 = some (12, 4) := by decide +kernel
theorem pf_12_23 : fldT 12 23 = some (12, 5) := by decide +kernel
theorem pf_12_26 : fldT 12 26 = some (12, 6) := by decide +kernel
theorem pf_12_29 : fldT 12 29 = some (12, 8) := by decide +kernel
theorem pf_12_32 : fldT 12 32 = some (12, 9) := by decide +kernel
theorem pf_12_35 : fldT 12 35 = some (12, 16) := by decide +kernel
theorem pf_12_38 : fldT 12 38 = some (12, 17) := by decide +kernel
theorem pf_12_41 : fldT 12 41 = some (12, 18) := by decide +kernel
theorem pf_12_44 : fldT 12 44 = some (12, 19) := by decide +kernel
theorem pf_12_47 : fldT 12 47 = some (12, 20) := by decide +kernel
theorem pf_12_50 : fldT 12 50 = some (12, 25) := by decide +kernel
theorem pf_12_53 : fldT 12 53 = some (12, 26) := by decide +kernel
theorem pf_12_56 : fldT 12 56 = some (12, 30) := by decide +kernel
theorem pf_12_59 : fldT 12 59 = some (12, 31) := by decide +kernel
theorem pf_12_62 : fldT 12 62 = some (12, 32) := by decide +kernel
theorem pf_12_65 : fldT 12 65 = some (12, 33) := by decide +kernel
theorem pf_12_69 : fldT 12 69 = some (12, 34) := by decide +kernel
theorem pf_12_72 : fldT 12 72 = some (12, 35) := by decide +kernel
theorem pf_12_75 : fldT 12 75 = some (12, 36) := by decide +kernel
theorem pf_12_78 : fldT 12 78 = some (12, 37) := by decide +kernel
theorem pf_12_81 : fldT 12 81 = some (12, 38) := by decide +kernel
theorem pf_12_84 : fldT 12 84 = some (12, 39) := by decide +kernel
theorem pf_12_87 : fldT 12 87 = some (12, 40) := by decide +kernel
theorem pf_12_90 : fldT 12 90 = some (12, 7) := by decide +kernel
theorem pf_12_101 : fldT 12 101 = some (12, 2) := by decide +kernel
theorem pf_12_111 : fldT 12 111 = some (12, 10) := by decide +kernel
theorem pf_12_114 : fldT 12 114 = some (12, 11) := by decide +kernel
theorem pf_12_120 : fldT 12 120 = some (12, 21) := by decide +kernel
theorem pf_12_123 : fldT 12 123 = some (12, 22) := by decide +kernel
theorem pf_12_126 : fldT 12 126 = some (12, 23) := by decide +kernel
theorem pf_12_129 : fldT 12 129 = some (12, 24) := by decide +kernel
theorem pf_12_136 : fldT 12 136 = some (12, 29) := by decide +kernel
theorem pf_12_139 : fldT 12 139 = some (12, 27) := by decide +kernel
theorem pf_12_146 : fldT 12 146 = some (12, 28) := by decide +kernel
theorem pf_12_306 : fldT 12 306 = some (12, 12) := by decide +kernel
theorem pf_12_310 : fldT 12 310 = some (12, 13) := by decide +kernel
theorem pf_12_313 : fldT 12 313 = some (12, 14) := by decide +kernel
theorem pf_12_316 : fldT 12 316 = some (12, 15) := by decide +kernel
theorem pm_1_32 : mthT 1 32 = some (3, 57) := by decide +kernel
theorem pn_1_32 : bltT 1 32 = none := by decide +kernel
theorem pm_1_39 : mthT 1 39 = some (2, 4) := by decide +kernel
theorem pn_1_39 : bltT 1 39 = none := by decide +kernel
theorem pm_1_43 : mthT 1 43 = some (2, 9) := by decide +kernel
theorem pn_1_43 : bltT 1 43 = none := by decide +kernel
theorem pm_1_46 : mthT 1 46 = some (2, 90) := by decide +kernel
theorem pn_1_46 : bltT 1 46 = none := by decide +kernel
theorem pm_1_58 : mthT 1 58 = some (2, 58) := by decide +kernel
theorem pn_1_58 : bltT 1 58 = none := by decide +kernel
theorem pm_1_78 : mthT 1 78 = some (2, 6) := by decide +kernel
theorem pn_1_78 : bltT 1 78 = none := by decide +kernel
theorem pm_2_31 : mthT 2 31 = some (1, 12) := by decide +kernel
theorem pn_2_31 : bltT 2 31 = none := by decide +kernel
theorem pm_2_35 : mthT 2 35 = some (2, 13) := by decide +kernel
theorem pn_2_35 : bltT 2 35 = none := by decide +kernel
theorem pm_2_39 : mthT 2 39 = some (1, 16) := by decide +kernel
theorem pn_2_39 : bltT 2 39 = none := by decide +kernel
theorem pm_2_42 : mthT 2 42 = some (1, 258) := by decide +kernel
theorem pn_2_42 : bltT 2 42 = none := by decide +kernel
theorem pm_2_47 : mthT 2 47 = some (2, 19) := by decide +kernel
theorem pn_2_47 : bltT 2 47 = none := by decide +kernel
theorem pm_3_31 : mthT 3 31 = some (2, 48) := by decide +kernel
theorem pn_3_31 : bltT 3 31 = none := by decide +kernel
theorem pm_3_36 : mthT 3 36 = some (2, 24) := by decide +kernel
theorem pn_3_36 : bltT 3 36 = none := by decide +kernel
theorem pm_3_40 : mthT 3 40 = some (2, 26) := by decide +kernel
theorem pn_3_40 : bltT 3 40 = none := by decide +kernel
theorem pm_3_46 : mthT 3 46 = some (2, 23) := by decide +kernel
theorem pn_3_46 : bltT 3 46 = none := by decide +kernel
theorem pm_3_49 : mthT 3 49 = some (3, 57) := by decide +kernel
theorem pn_3_49 : bltT 3 49 = none := by decide +kernel
theorem pm_3_55 : mthT 3 55 = some (2, 49) := by decide +kernel
theorem pn_3_55 : bltT 3 55 = none := by decide +kernel
theorem pm_3_58 : mthT 3 58 = some (2, 27) := by decide +kernel
theorem pn_3_58 : bltT 3 58 = none := by decide +kernel
theorem pm_3_61 : mthT 3 61 = some (2, 25) := by decide +kernel
theorem pn_3_61 : bltT 3 61 = none := by decide +kernel
theorem pm_3_64 : mthT 3 64 = some (2, 28) := by decide +kernel
theorem pn_3_64 : bltT 3 64 = none := by decide +kernel
theorem pm_3_67 : mthT 3 67 = some (2, 29) := by decide +kernel
theorem pn_3_67 : bltT 3 67 = none := by decide +kernel
theorem pm_3_70 : mthT 3 70 = some (2, 30) := by decide +kernel
theorem pn_3_70 : bltT 3 70 = none := by decide +kernel
theorem pm_3_73 : mthT 3 73 = some (2, 31) := by decide +kernel
theorem pn_3_73 : bltT 3 73 = none := by decide +kernel
theorem pm_3_76 : mthT 3 76 = some (2, 32) := by decide +kernel
theorem pn_3_76 : bltT 3 76 = none := by decide +kernel
theorem pm_5_15 : mthT 5 15 = some (2, 40) := by decide +kernel
theorem pn_5_15 : bltT 5 15 = none := by decide +kernel
theorem pm_5_29 : mthT 5 29 = some (2, 41) := by decide +kernel
theorem pn_5_29 : bltT 5 29 = none := by decide +kernel
theorem pm_5_36 : mthT 5 36 = some (2, 39) := by decide +kernel
theorem pn_5_36 : bltT 5 36 = none := by decide +kernel
theorem pm_5_39 : mthT 5 39 = some (2, 42) := by decide +kernel
theorem pn_5_39 : bltT 5 39 = none := by decide +kernel
theorem pm_5_42 : mthT 5 42 = some (2, 44) := by decide +kernel
theorem pn_5_42 : bltT 5 42 = none := by decide +kernel
theorem pm_5_46 : mthT 5 46 = some (1, 258) := by decide +kernel
theorem pn_5_46 : bltT 5 46 = none := by decide +kernel
theorem pm_6_22 : mthT 6 22 = some (2, 49) := by decide +kernel
theorem pn_6_22 : bltT 6 22 = none := by decide +kernel
theorem pm_6_25 : mthT 6 25 = some (1, 53) := by decide +kernel
theorem pn_6_25 : bltT 6 25 = none := by decide +kernel
theorem pm_6_35 : mthT 6 35 = some (1, 54) := by decide +kernel
theorem pn_6_35 : bltT 6 35 = none := by decide +kernel
theorem pm_6_38 : mthT 6 38 = some (2, 50) := by decide +kernel
theorem pn_6_38 : bltT 6 38 = none := by decide +kernel
theorem pm_6_41 : mthT 6 41 = some (1, 55) := by decide +kernel
theorem pn_6_41 : bltT 6 41 = none := by decide +kernel
theorem pm_6_44 : mthT 6 44 = some (2, 52) := by decide +kernel
theorem pn_6_44 : bltT 6 44 = none := by decide +kernel
theorem pm_6_47 : mthT 6 47 = some (1, 56) := by decide +kernel
theorem pn_6_47 : bltT 6 47 = none := by decide +kernel
theorem pm_6_58 : mthT 6 58 = some (2, 51) := by decide +kernel
theorem pn_6_58 : bltT 6 58 = none := by decide +kernel
theorem pm_7_9 : mthT 7 9 = some (1, 260) := by decide +kernel
theorem pn_7_9 : bltT 7 9 = none := by decide +kernel
theorem pm_7_22 : mthT 7 22 = some (1, 59) := by decide +kernel
theorem pn_7_22 : bltT 7 22 = none := by decide +kernel
theorem pm_8_31 : mthT 8 31 = some (3, 38) := by decide +kernel
theorem pn_8_31 : bltT 8 31 = none := by decide +kernel
theorem pm_8_50 : mthT 8 50 = some (2, 80) := by decide +kernel
theorem pn_8_50 : bltT 8 50 = none := by decide +kernel
theorem pm_8_60 : mthT 8 60 = some (2, 83) := by decide +kernel
theorem pn_8_60 : bltT 8 60 = none := by decide +kernel
theorem pm_8_64 : mthT 8 64 = some (1, 12) := by decide +kernel
theorem pn_8_64 : bltT 8 64 = none := by decide +kernel
theorem pm_8_73 : mthT 8 73 = some (2, 84) := by decide +kernel
theorem pn_8_73 : bltT 8 73 = none := by decide +kernel
theorem pm_8_76 : mthT 8 76 = some (2, 62) := by decide +kernel
theorem pn_8_76 : bltT 8 76 = none := by decide +kernel
theorem pm_8_80 : mthT 8 80 = some (2, 63) := by decide +kernel
theorem pn_8_80 : bltT 8 80 = none := by decide +kernel
theorem pm_8_83 : mthT 8 83 = some (2, 43) := by decide +kernel
theorem pn_8_83 : bltT 8 83 = none := by decide +kernel
theorem pm_8_87 : mthT 8 87 = some (2, 81) := by decide +kernel
theorem pn_8_87 : bltT 8 87 = none := by decide +kernel
theorem pm_8_91 : mthT 8 91 = some (2, 82) := by decide +kernel
theorem pn_8_91 : bltT 8 91 = none := by decide +kernel
theorem pm_8_94 : mthT 8 94 = some (2, 45) := by decide +kernel
theorem pn_8_94 : bltT 8 94 = none := by decide +kernel
theorem pm_8_98 : mthT 8 98 = some (2, 64) := by decide +kernel
theorem pn_8_98 : bltT 8 98 = none := by decide +kernel
theorem pm_8_101 : mthT 8 101 = some (2, 66) := by decide +kernel
theorem pn_8_101 : bltT 8 101 = none := by decide +kernel
theorem pm_8_103 : mthT 8 103 = some (2, 41) := by decide +kernel
theorem pn_8_103 : bltT 8 103 = none := by decide +kernel
theorem pm_8_106 : mthT 8 106 = some (2, 65) := by decide +kernel
theorem pn_8_106 : bltT 8 106 = none := by decide +kernel
theorem pm_8_116 : mthT 8 116 = some (1, 258) := by decide +kernel
theorem pn_8_116 : bltT 8 116 = none := by decide +kernel
theorem pm_8_123 : mthT 8 123 = some (2, 72) := by decide +kernel
theorem pn_8_123 : bltT 8 123 = none := by decide +kernel
theorem pm_8_126 : mthT 8 126 = some (2, 74) := by decide +kernel
theorem pn_8_126 : bltT 8 126 = none := by decide +kernel
theorem pm_8_135 : mthT 8 135 = some (2, 75) := by decide +kernel
theorem pn_8_135 : bltT 8 135 = none := by decide +kernel
theorem pm_9_62 : mthT 9 62 = some (2, 85) := by decide +kernel
theorem pn_9_62 : bltT 9 62 = none := by decide +kernel
theorem pm_9_66 : mthT 9 66 = some (2, 9) := by decide +kernel
theorem pn_9_66 : bltT 9 66 = none := by decide +kernel
theorem pm_9_70 : mthT 9 70 = some (2, 90) := by decide +kernel
theorem pn_9_70 : bltT 9 70 = none := by decide +kernel
theorem pm_9_74 : mthT 9 74 = some (1, 17) := by decide +kernel
theorem pn_9_74 : bltT 9 74 = none := by decide +kernel
theorem pm_9_84 : mthT 9 84 = some (2, 6) := by decide +kernel
theorem pn_9_84 : bltT 9 84 = none := by decide +kernel
theorem pm_9_91 : mthT 9 91 = some (2, 87) := by decide +kernel
theorem pn_9_91 : bltT 9 91 = none := by decide +kernel
theorem pm_11_9 : mthT 11 9 = some (3, 89) := by decide +kernel
theorem pn_11_9 : bltT 11 9 = none := by decide +kernel
theorem pm_11_18 : mthT 11 18 = some (3, 8) := by decide +kernel
theorem pn_11_18 : bltT 11 18 = none := by decide +kernel
theorem pm_11_25 : mthT 11 25 = some (3, 46) := by decide +kernel
theorem pn_11_25 : bltT 11 25 = none := by decide +kernel
theorem pm_11_32 : mthT 11 32 = some (3, 21) := by decide +kernel
theorem pn_11_32 : bltT 11 32 = none := by decide +kernel
theorem pm_11_41 : mthT 11 41 = some (3, 3) := by decide +kernel
theorem pn_11_41 : bltT 11 41 = none := by decide +kernel
theorem pm_11_50 : mthT 11 50 = some (3, 77) := by decide +kernel
theorem pn_11_50 : bltT 11 50 = none := by decide +kernel
theorem pm_11_59 : mthT 11 59 = some (3, 60) := by decide +kernel
theorem pn_11_59 : bltT 11 59 = none := by decide +kernel
theorem pm_11_72 : mthT 11 72 = some (3, 33) := by decide +kernel
theorem pn_11_72 : bltT 11 72 = none := by decide +kernel
theorem pm_11_75 : mthT 11 75 = some (3, 0) := by decide +kernel
theorem pn_11_75 : bltT 11 75 = none := by decide +kernel
theorem pm_11_80 : mthT 11 80 = some (2, 93) := by decide +kernel
theorem pn_11_80 : bltT 11 80 = none := by decide +kernel
theorem pm_11_84 : mthT 11 84 = some (2, 94) := by decide +kernel
theorem pn_11_84 : bltT 11 84 = none := by decide +kernel
theorem pm_11_88 : mthT 11 88 = some (2, 11) := by decide +kernel
theorem pn_11_88 : bltT 11 88 = none := by decide +kernel
theorem pm_11_96 : mthT 11 96 = some (2, 78) := by decide +kernel
theorem pn_11_96 : bltT 11 96 = none := by decide +kernel
theorem pm_11_99 : mthT 11 99 = some (2, 90) := by decide +kernel
theorem pn_11_99 : bltT 11 99 = none := by decide +kernel
theorem pm_11_117 : mthT 11 117 = some (1, 98) := by decide +kernel
theorem pn_11_117 : bltT 11 117 = none := by decide +kernel
theorem pm_11_120 : mthT 11 120 = some (2, 47) := by decide +kernel
theorem pn_11_120 : bltT 11 120 = none := by decide +kernel
theorem pm_11_124 : mthT 11 124 = some (2, 22) := by decide +kernel
theorem pn_11_124 : bltT 11 124 = none := by decide +kernel
theorem pm_11_131 : mthT 11 131 = some (2, 5) := by decide +kernel
theorem pn_11_131 : bltT 11 131 = none := by decide +kernel
theorem pm_11_134 : mthT 11 134 = some (2, 4) := by decide +kernel
theorem pn_11_134 : bltT 11 134 = none := by decide +kernel
theorem pm_11_135 : mthT 11 135 = some (2, 9) := by decide +kernel
theorem pn_11_135 : bltT 11 135 = none := by decide +kernel
theorem pm_11_139 : mthT 11 139 = some (2, 6) := by decide +kernel
theorem pn_11_139 : bltT 11 139 = none := by decide +kernel
theorem pm_11_143 : mthT 11 143 = some (2, 103) := by decide +kernel
theorem pn_11_143 : bltT 11 143 = none := by decide +kernel
theorem pm_11_147 : mthT 11 147 = some (1, 15) := by decide +kernel
theorem pn_11_147 : bltT 11 147 = none := by decide +kernel
theorem pm_11_150 : mthT 11 150 = some (2, 10) := by decide +kernel
theorem pn_11_150 : bltT 11 150 = none := by decide +kernel
theorem pm_11_152 : mthT 11 152 = some (2, 79) := by decide +kernel
theorem pn_11_152 : bltT 11 152 = none := by decide +kernel
theorem pm_11_161 : mthT 11 161 = some (2, 18) := by decide +kernel
theorem pn_11_161 : bltT 11 161 = none := by decide +kernel
theorem pm_11_164 : mthT 11 164 = some (2, 106) := by decide +kernel
theorem pn_11_164 : bltT 11 164 = none := by decide +kernel
theorem pm_11_167 : mthT 11 167 = some (2, 80) := by decide +kernel
theorem pn_11_167 : bltT 11 167 = none := by decide +kernel
theorem pm_11_170 : mthT 11 170 = some (2, 82) := by decide +kernel
theorem pn_11_170 : bltT 11 170 = none := by decide +kernel
theorem pm_11_173 : mthT 11 173 = some (2, 81) := by decide +kernel
theorem pn_11_173 : bltT 11 173 = none := by decide +kernel
theorem pm_11_178 : mthT 11 178 = some (2, 61) := by decide +kernel
theorem pn_11_178 : bltT 11 178 = none := by decide +kernel
theorem pm_11_179 : mthT 11 179 = some (2, 68) := by decide +kernel
theorem pn_11_179 : bltT 11 179 = none := by decide +kernel
theorem pm_11_183 : mthT 11 183 = some (2, 65) := by decide +kernel
theorem pn_11_183 : bltT 11 183 = none := by decide +kernel
theorem pm_11_187 : mthT 11 187 = some (1, 158) := by decide +kernel
theorem pn_11_187 : bltT 11 187 = none := by decide +kernel
theorem pm_11_191 : mthT 11 191 = some (2, 14) := by decide +kernel
theorem pn_11_191 : bltT 11 191 = none := by decide +kernel
theorem pm_11_194 : mthT 11 194 = some (2, 67) := by decide +kernel
theorem pn_11_194 : bltT 11 194 = none := by decide +kernel
theorem pm_11_197 : mthT 11 197 = some (2, 64) := by decide +kernel
theorem pn_11_197 : bltT 11 197 = none := by decide +kernel
theorem pm_11_199 : mthT 11 199 = some (2, 70) := by decide +kernel
theorem pn_11_199 : bltT 11 199 = none := by decide +kernel
theorem pm_11_202 : mthT 11 202 = some (1, 113) := by decide +kernel
theorem pn_11_202 : bltT 11 202 = none := by decide +kernel
theorem pm_11_205 : mthT 11 205 = some (2, 69) := by decide +kernel
theorem pn_11_205 : bltT 11 205 = none := by decide +kernel
theorem pm_11_211 : mthT 11 211 = some (2, 71) := by decide +kernel
theorem pn_11_211 : bltT 11 211 = none := by decide +kernel
theorem pm_11_214 : mthT 11 214 = some (2, 73) := by decide +kernel
theorem pn_11_214 : bltT 11 214 = none := by decide +kernel
theorem pm_11_217 : mthT 11 217 = some (1, 119) := by decide +kernel
theorem pn_11_217 : bltT 11 217 = none := by decide +kernel
theorem pm_11_220 : mthT 11 220 = some (1, 12) := by decide +kernel
theorem pn_11_220 : bltT 11 220 = none := by decide +kernel
theorem pm_11_223 : mthT 11 223 = some (2, 120) := by decide +kernel
theorem pn_11_223 : bltT 11 223 = none := by decide +kernel
theorem pm_11_229 : mthT 11 229 = some (2, 76) := by decide +kernel
theorem pn_11_229 : bltT 11 229 = none := by decide +kernel
theorem pm_11_232 : mthT 11 232 = some (1, 160) := by decide +kernel
theorem pn_11_232 : bltT 11 232 = none := by decide +kernel
theorem pm_11_236 : mthT 11 236 = some (2, 66) := by decide +kernel
theorem pn_11_236 : bltT 11 236 = none := by decide +kernel
theorem pm_11_239 : mthT 11 239 = some (2, 13) := by decide +kernel
theorem pn_11_239 : bltT 11 239 = none := by decide +kernel
theorem pm_11_242 : mthT 11 242 = some (2, 125) := by decide +kernel
theorem pn_11_242 : bltT 11 242 = none := by decide +kernel
theorem pm_11_245 : mthT 11 245 = some (1, 258) := by decide +kernel
theorem pn_11_245 : bltT 11 245 = none := by decide +kernel
theorem pm_11_250 : mthT 11 250 = some (2, 126) := by decide +kernel
theorem pn_11_250 : bltT 11 250 = none := by decide +kernel
theorem pm_11_253 : mthT 11 253 = some (2, 20) := by decide +kernel
theorem pn_11_253 : bltT 11 253 = none := by decide +kernel
theorem pm_11_256 : mthT 11 256 = some (2, 7) := by decide +kernel
theorem pn_11_256 : bltT 11 256 = none := by decide +kernel
theorem pm_11_259 : mthT 11 259 = some (2, 150) := by decide +kernel
theorem pn_11_259 : bltT 11 259 = none := by decide +kernel
theorem pm_11_266 : mthT 11 266 = some (2, 129) := by decide +kernel
theorem pn_11_266 : bltT 11 266 = none := by decide +kernel
theorem pm_11_269 : mthT 11 269 = some (2, 131) := by decide +kernel
theorem pn_11_269 : bltT 11 269 = none := by decide +kernel
theorem pm_11_273 : mthT 11 273 = some (2, 85) := by decide +kernel
theorem pn_11_273 : bltT 11 273 = none := by decide +kernel
theorem pm_11_276 : mthT 11 276 = some (2, 133) := by decide +kernel
theorem pn_11_276 : bltT 11 276 = none := by decide +kernel
theorem pm_11_280 : mthT 11 280 = some (2, 134) := by decide +kernel
theorem pn_11_280 : bltT 11 280 = none := by decide +kernel
theorem pm_11_283 : mthT 11 283 = some (2, 135) := by decide +kernel
theorem pn_11_283 : bltT 11 283 = none := by decide +kernel
theorem pm_11_286 : mthT 11 286 = some (2, 136) := by decide +kernel
theorem pn_11_286 : bltT 11 286 = none := by decide +kernel
theorem pm_11_289 : mthT 11 289 = some (2, 141) := by decide +kernel
theorem pn_11_289 : bltT 11 289 = none := by decide +kernel
theorem pm_11_292 : mthT 11 292 = some (2, 142) := by decide +kernel
theorem pn_11_292 : bltT 11 292 = none := by decide +kernel
theorem pm_11_296 : mthT 11 296 = some (1, 143) := by decide +kernel
theorem pn_11_296 : bltT 11 296 = none := by decide +kernel
theorem pm_11_299 : mthT 11 299 = some (2, 86) := by decide +kernel
theorem pn_11_299 : bltT 11 299 = none := by decide +kernel
theorem pm_11_305 : mthT 11 305 = some (1, 149) := by decide +kernel
theorem pn_11_305 : bltT 11 305 = none := by decide +kernel
theorem pm_11_308 : mthT 11 308 = some (2, 35) := by decide +kernel
theorem pn_11_308 : bltT 11 308 = none := by decide +kernel
theorem pm_11_312 : mthT 11 312 = some (2, 36) := by decide +kernel
theorem pn_11_312 : bltT 11 312 = none := by decide +kernel
theorem pm_11_315 : mthT 11 315 = some (2, 88) := by decide +kernel
theorem pn_11_315 : bltT 11 315 = none := by decide +kernel
theorem pm_11_319 : mthT 11 319 = some (2, 1) := by decide +kernel
theorem pn_11_319 : bltT 11 319 = none := by decide +kernel
theorem pm_11_326 : mthT 11 326 = some (2, 2) := by decide +kernel
theorem pn_11_326 : bltT 11 326 = none := by decide +kernel
theorem pm_11_329 : mthT 11 329 = some (2, 34) := by decide +kernel
theorem pn_11_329 : bltT 11 329 = none := by decide +kernel
theorem pm_11_335 : mthT 11 335 = some (2, 37) := by decide +kernel
theorem pn_11_335 : bltT 11 335 = none := by decide +kernel
theorem pm_11_344 : mthT 11 344 = some (2, 156) := by decide +kernel
theorem pn_11_344 : bltT 11 344 = none := by decide +kernel
theorem pm_11_347 : mthT 11 347 = some (2, 157) := by decide +kernel
theorem pn_11_347 : bltT 11 347 = none := by decide +kernel
theorem pm_11_350 : mthT 11 350 = some (1, 17) := by decide +kernel
theorem pn_11_350 : bltT 11 350 = none := by decide +kernel
theorem pm_11_359 : mthT 11 359 = some (1, 159) := by decide +kernel
theorem pn_11_359 : bltT 11 359 = none := by decide +kernel
theorem pm_11_363 : mthT 11 363 = some (1, 259) := by decide +kernel
theorem pn_11_363 : bltT 11 363 = none := by decide +kernel
theorem pm_11_369 : mthT 11 369 = some (1, 257) := by decide +kernel
theorem pn_11_369 : bltT 11 369 = none := by decide +kernel
theorem pm_12_93 : mthT 12 93 = some (2, 184) := by decide +kernel
theorem pn_12_93 : bltT 12 93 = none := by decide +kernel
theorem pm_12_97 : mthT 12 97 = some (1, 162) := by decide +kernel
theorem pn_12_97 : bltT 12 97 = none := by decide +kernel
theorem pm_12_104 : mthT 12 104 = some (2, 164) := by decide +kernel
theorem pn_12_104 : bltT 12 104 = none := by decide +kernel
theorem pm_12_108 : mthT 12 108 = some (2, 168) := by decide +kernel
theorem pn_12_108 : bltT 12 108 = none := by decide +kernel
theorem pm_12_117 : mthT 12 117 = some (1, 172) := by decide +kernel
theorem pn_12_117 : bltT 12 117 = none := by decide +kernel
theorem pm_12_132 : mthT 12 132 = some (2, 174) := by decide +kernel
theorem pn_12_132 : bltT 12 132 = none := by decide +kernel
theorem pm_12_142 : mthT 12 142 = some (1, 176) := by decide +kernel
theorem pn_12_142 : bltT 12 142 = none := by decide +kernel
theorem pm_12_149 : mthT 12 149 = some (2, 177) := by decide +kernel
theorem pn_12_149 : bltT 12 149 = none := by decide +kernel
theorem pm_12_153 : mthT 12 153 = some (2, 179) := by decide +kernel
theorem pn_12_153 : bltT 12 153 = none := by decide +kernel
theorem pm_12_156 : mthT 12 156 = some (2, 178) := by decide +kernel
theorem pn_12_156 : bltT 12 156 = none := by decide +kernel
theorem pm_12_159 : mthT 12 159 = some (2, 175) := by decide +kernel
theorem pn_12_159 : bltT 12 159 = none := by decide +kernel
theorem pm_12_163 : mthT 12 163 = some (2, 180) := by decide +kernel
theorem pn_12_163 : bltT 12 163 = none := by decide +kernel
theorem pm_12_166 : mthT 12 166 = some (2, 182) := by decide +kernel
theorem pn_12_166 : bltT 12 166 = none := by decide +kernel
theorem pm_12_169 : mthT 12 169 = some (2, 181) := by decide +kernel
theorem pn_12_169 : bltT 12 169 = none := by decide +kernel
theorem pm_12_172 : mthT 12 172 = some (2, 183) := by decide +kernel
theorem pn_12_172 : bltT 12 172 = none := by decide +kernel
theorem pm_12_176 : mthT 12 176 = some (1, 185) := by decide +kernel
theorem pn_12_176 : bltT 12 176 = none := by decide +kernel
theorem pm_12_180 : mthT 12 180 = some (2, 186) := by decide +kernel
theorem pn_12_180 : bltT 12 180 = none := by decide +kernel
theorem pm_12_183 : mthT 12 183 = some (1, 163) := by decide +kernel
theorem pn_12_183 : bltT 12 183 = none := by decide +kernel
theorem pm_12_186 : mthT 12 186 = some (2, 165) := by decide +kernel
theorem pn_12_186 : bltT 12 186 = none := by decide +kernel
theorem pm_12_189 : mthT 12 189 = some (2, 188) := by decide +kernel
theorem pn_12_189 : bltT 12 189 = none := by decide +kernel
theorem pm_12_192 : mthT 12 192 = some (2, 192) := by decide +kernel
theorem pn_12_192 : bltT 12 192 = none := by decide +kernel
theorem pm_12_195 : mthT 12 195 = some (2, 193) := by decide +kernel
theorem pn_12_195 : bltT 12 195 = none := by decide +kernel
theorem pm_12_198 : mthT 12 198 = some (2, 195) := by decide +kernel
theorem pn_12_198 : bltT 12 198 = none := by decide +kernel
theorem pm_12_201 : mthT 12 201 = some (2, 166) := by decide +kernel
theorem pn_12_201 : bltT 12 201 = none := by decide +kernel
theorem pm_12_204 : mthT 12 204 = some (2, 198) := by decide +kernel
theorem pn_12_204 : bltT 12 204 = none := by decide +kernel
theorem pm_12_209 : mthT 12 209 = some (1, 201) := by decide +kernel
theorem pn_12_209 : bltT 12 209 = none := by decide +kernel
theorem pm_12_213 : mthT 12 213 = some (2, 200) := by decide +kernel
theorem pn_12_213 : bltT 12 213 = none := by decide +kernel
theorem pm_12_216 : mthT 12 216 = some (1, 167) := by decide +kernel
theorem pn_12_216 : bltT 12 216 = none := by decide +kernel
theorem pm_12_219 : mthT 12 219 = some (1, 203) := by decide +kernel
theorem pn_12_219 : bltT 12 219 = none := by decide +kernel
theorem pm_12_222 : mthT 12 222 = some (2, 204) := by decide +kernel
theorem pn_12_222 : bltT 12 222 = none := by decide +kernel
theorem pm_12_226 : mthT 12 226 = some (1, 202) := by decide +kernel
theorem pn_12_226 : bltT 12 226 = none := by decide +kernel
theorem pm_12_230 : mthT 12 230 = some (2, 206) := by decide +kernel
theorem pn_12_230 : bltT 12 230 = none := by decide +kernel
theorem pm_12_233 : mthT 12 233 = some (2, 199) := by decide +kernel
theorem pn_12_233 : bltT 12 233 = none := by decide +kernel
theorem pm_12_236 : mthT 12 236 = some (2, 208) := by decide +kernel
theorem pn_12_236 : bltT 12 236 = none := by decide +kernel
theorem pm_12_239 : mthT 12 239 = some (2, 211) := by decide +kernel
theorem pn_12_239 : bltT 12 239 = none := by decide +kernel
theorem pm_12_242 : mthT 12 242 = some (2, 216) := by decide +kernel
theorem pn_12_242 : bltT 12 242 = none := by decide +kernel
theorem pm_12_246 : mthT 12 246 = some (1, 218) := by decide +kernel
theorem pn_12_246 : bltT 12 246 = none := by decide +kernel
theorem pm_12_251 : mthT 12 251 = some (2, 220) := by decide +kernel
theorem pn_12_251 : bltT 12 251 = none := by decide +kernel
theorem pm_12_254 : mthT 12 254 = some (1, 222) := by decide +kernel
theorem pn_12_254 : bltT 12 254 = none := by decide +kernel
theorem pm_12_258 : mthT 12 258 = some (2, 194) := by decide +kernel
theorem pn_12_258 : bltT 12 258 = none := by decide +kernel
theorem pm_12_262 : mthT 12 262 = some (2, 225) := by decide +kernel
theorem pn_12_262 : bltT 12 262 = none := by decide +kernel
theorem pm_12_267 : mthT 12 267 = some (2, 227) := by decide +kernel
theorem pn_12_267 : bltT 12 267 = none := by decide +kernel
theorem pm_12_270 : mthT 12 270 = some (2, 230) := by decide +kernel
theorem pn_12_270 : bltT 12 270 = none := by decide +kernel
theorem pm_12_273 : mthT 12 273 = some (2, 231) := by decide +kernel
theorem pn_12_273 : bltT 12 273 = none := by decide +kernel
theorem pm_12_276 : mthT 12 276 = some (2, 234) := by decide +kernel
theorem pn_12_276 : bltT 12 276 = none := by decide +kernel
theorem pm_12_279 : mthT 12 279 = some (2, 233) := by decide +kernel
theorem pn_12_279 : bltT 12 279 = none := by decide +kernel
theorem pm_12_282 : mthT 12 282 = some (2, 235) := by decide +kernel
theorem pn_12_282 : bltT 12 282 = none := by decide +kernel
theorem pm_12_285 : mthT 12 285 = some (2, 236) := by decide +kernel
theorem pn_12_285 : bltT 12 285 = none := by decide +kernel
theorem pm_12_292 : mthT 12 292 = some (2, 242) := by decide +kernel
theorem pn_12_292 : bltT 12 292 = none := by decide +kernel
theorem pm_12_297 : mthT 12 297 = some (1, 244) := by decide +kernel
theorem pn_12_297 : bltT 12 297 = none := by decide +kernel
theorem pm_12_300 : mthT 12 300 = some (2, 243) := by decide +kernel
theorem pn_12_300 : bltT 12 300 = none := by decide +kernel
theorem pm_12_303 : mthT 12 303 = some (2, 247) := by decide +kernel
theorem pn_12_303 : bltT 12 303 = none := by decide +kernel
theorem pm_12_319 : mthT 12 319 = some (2, 190) := by decide +kernel
theorem pn_12_319 : bltT 12 319 = none := by decide +kernel
theorem pm_12_322 : mthT 12 322 = some (1, 255) := by decide +kernel
theorem pn_12_322 : bltT 12 322 = none := by decide +kernel
theorem pm_13_9 : mthT 13 9 = some (3, 91) := by decide +kernel
theorem pn_13_9 : bltT 13 9 = none := by decide +kernel
theorem pm_13_12 : mthT 13 12 = some (3, 161) := by decide +kernel
theorem pn_13_12 : bltT 13 12 = none := by decide +kernel
theorem pm_13_13 : mthT 13 13 = some (2, 92) := by decide +kernel
theorem pn_13_13 : bltT 13 13 = none := by decide +kernel
theorem pm_13_17 : mthT 13 17 = some (2, 169) := by decide +kernel
theorem pn_13_17 : bltT 13 17 = none := by decide +kernel
theorem pm_13_18 : mthT 13 18 = some (2, 95) := by decide +kernel
theorem pn_13_18 : bltT 13 18 = none := by decide +kernel
theorem pm_13_22 : mthT 13 22 = some (2, 170) := by decide +kernel
theorem pn_13_22 : bltT 13 22 = none := by decide +kernel
theorem pm_13_23 : mthT 13 23 = some (2, 96) := by decide +kernel
theorem pn_13_23 : bltT 13 23 = none := by decide +kernel
theorem pm_13_26 : mthT 13 26 = some (2, 171) := by decide +kernel
theorem pn_13_26 : bltT 13 26 = none := by decide +kernel
theorem pm_13_27 : mthT 13 27 = some (2, 97) := by decide +kernel
theorem pn_13_27 : bltT 13 27 = none := by decide +kernel
theorem pm_13_31 : mthT 13 31 = some (2, 173) := by decide +kernel
theorem pn_13_31 : bltT 13 31 = none := by decide +kernel
theorem pm_13_32 : mthT 13 32 = some (2, 99) := by decide +kernel
theorem pn_13_32 : bltT 13 32 = none := by decide +kernel
theorem pm_13_36 : mthT 13 36 = some (2, 184) := by decide +kernel
theorem pn_13_36 : bltT 13 36 = none := by decide +kernel
theorem pm_13_37 : mthT 13 37 = some (2, 100) := by decide +kernel
theorem pn_13_37 : bltT 13 37 = none := by decide +kernel
theorem pm_13_40 : mthT 13 40 = some (2, 187) := by decide +kernel
theorem pn_13_40 : bltT 13 40 = none := by decide +kernel
theorem pm_13_41 : mthT 13 41 = some (2, 101) := by decide +kernel
theorem pn_13_41 : bltT 13 41 = none := by decide +kernel
theorem pm_13_44 : mthT 13 44 = some (2, 189) := by decide +kernel
theorem pn_13_44 : bltT 13 44 = none := by decide +kernel
theorem pm_13_45 : mthT 13 45 = some (2, 102) := by decide +kernel
theorem pn_13_45 : bltT 13 45 = none := by decide +kernel
theorem pm_13_48 : mthT 13 48 = some (2, 190) := by decide +kernel
theorem pn_13_48 : bltT 13 48 = none := by decide +kernel
theorem pm_13_49 : mthT 13 49 = some (2, 104) := by decide +kernel
theorem pn_13_49 : bltT 13 49 = none := by decide +kernel
theorem pm_13_53 : mthT 13 53 = some (2, 191) := by decide +kernel
theorem pn_13_53 : bltT 13 53 = none := by decide +kernel
theorem pm_13_54 : mthT 13 54 = some (2, 105) := by decide +kernel
theorem pn_13_54 : bltT 13 54 = none := by decide +kernel
theorem pm_13_57 : mthT 13 57 = some (2, 196) := by decide +kernel
theorem pn_13_57 : bltT 13 57 = none := by decide +kernel
theorem pm_13_58 : mthT 13 58 = some (2, 107) := by decide +kernel
theorem pn_13_58 : bltT 13 58 = none := by decide +kernel
theorem pm_13_61 : mthT 13 61 = some (2, 197) := by decide +kernel
theorem pn_13_61 : bltT 13 61 = none := by decide +kernel
theorem pm_13_62 : mthT 13 62 = some (2, 108) := by decide +kernel
theorem pn_13_62 : bltT 13 62 = none := by decide +kernel
theorem pm_13_66 : mthT 13 66 = some (2, 205) := by decide +kernel
theorem pn_13_66 : bltT 13 66 = none := by decide +kernel
theorem pm_13_67 : mthT 13 67 = some (2, 109) := by decide +kernel
theorem pn_13_67 : bltT 13 67 = none := by decide +kernel
theorem pm_13_70 : mthT 13 70 = some (2, 207) := by decide +kernel
theorem pn_13_70 : bltT 13 70 = none := by decide +kernel
theorem pm_13_71 : mthT 13 71 = some (2, 110) := by decide +kernel
theorem pn_13_71 : bltT 13 71 = none := by decide +kernel
theorem pm_13_74 : mthT 13 74 = some (2, 209) := by decide +kernel
theorem pn_13_74 : bltT 13 74 = none := by decide +kernel
theorem pm_13_75 : mthT 13 75 = some (2, 111) := by decide +kernel
theorem pn_13_75 : bltT 13 75 = none := by decide +kernel
theorem pm_13_78 : mthT 13 78 = some (2, 210) := by decide +kernel
theorem pn_13_78 : bltT 13 78 = none := by decide +kernel
theorem pm_13_79 : mthT 13 79 = some (2, 112) := by decide +kernel
theorem pn_13_79 : bltT 13 79 = none := by decide +kernel
theorem pm_13_83 : mthT 13 83 = some (2, 212) := by decide +kernel
theorem pn_13_83 : bltT 13 83 = none := by decide +kernel
theorem pm_13_84 : mthT 13 84 = some (2, 114) := by decide +kernel
theorem pn_13_84 : bltT 13 84 = none := by decide +kernel
theorem pm_13_87 : mthT 13 87 = some (2, 213) := by decide +kernel
theorem pn_13_87 : bltT 13 87 = none := by decide +kernel
theorem pm_13_88 : mthT 13 88 = some (2, 115) := by decide +kernel
theorem pn_13_88 : bltT 13 88 = none := by decide +kernel
theorem pm_13_91 : mthT 13 91 = some (2, 214) := by decide +kernel
theorem pn_13_91 : bltT 13 91 = none := by decide +kernel
theorem pm_13_92 : mthT 13 92 = some (2, 116) := by decide +kernel
theorem pn_13_92 : bltT 13 92 = none := by decide +kernel
theorem pm_13_95 : mthT 13 95 = some (2, 215) := by decide +kernel
theorem pn_13_95 : bltT 13 95 = none := by decide +kernel
theorem pm_13_96 : mthT 13 96 = some (2, 117) := by decide +kernel
theorem pn_13_96 : bltT 13 96 = none := by decide +kernel
theorem pm_13_99 : mthT 13 99 = some (2, 217) := by decide +kernel
theorem pn_13_99 : bltT 13 99 = none := by decide +kernel
theorem pm_13_100 : mthT 13 100 = some (2, 118) := by decide +kernel
theorem pn_13_100 : bltT 13 100 = none := by decide +kernel
theorem pm_13_103 : mthT 13 103 = some (2, 219) := by decide +kernel
theorem pn_13_103 : bltT 13 103 = none := by decide +kernel
theorem pm_13_104 : mthT 13 104 = some (2, 121) := by decide +kernel
theorem pn_13_104 : bltT 13 104 = none := by decide +kernel
theorem pm_13_107 : mthT 13 107 = some (2, 221) := by decide +kernel
theorem pn_13_107 : bltT 13 107 = none := by decide +kernel
theorem pm_13_108 : mthT 13 108 = some (2, 122) := by decide +kernel
theorem pn_13_108 : bltT 13 108 = none := by decide +kernel
theorem pm_13_111 : mthT 13 111 = some (2, 223) := by decide +kernel
theorem pn_13_111 : bltT 13 111 = none := by decide +kernel
theorem pm_13_112 : mthT 13 112 = some (2, 123) := by decide +kernel
theorem pn_13_112 : bltT 13 112 = none := by decide +kernel
theorem pm_13_116 : mthT 13 116 = some (2, 224) := by decide +kernel
theorem pn_13_116 : bltT 13 116 = none := by decide +kernel
theorem pm_13_117 : mthT 13 117 = some (2, 124) := by decide +kernel
theorem pn_13_117 : bltT 13 117 = none := by decide +kernel
theorem pm_13_120 : mthT 13 120 = some (2, 226) := by decide +kernel
theorem pn_13_120 : bltT 13 120 = none := by decide +kernel
theorem pm_13_121 : mthT 13 121 = some (2, 127) := by decide +kernel
theorem pn_13_121 : bltT 13 121 = none := by decide +kernel
theorem pm_13_124 : mthT 13 124 = some (2, 228) := by decide +kernel
theorem pn_13_124 : bltT 13 124 = none := by decide +kernel
theorem pm_13_125 : mthT 13 125 = some (2, 128) := by decide +kernel
theorem pn_13_125 : bltT 13 125 = none := by decide +kernel
theorem pm_13_128 : mthT 13 128 = some (2, 229) := by decide +kernel
theorem pn_13_128 : bltT 13 128 = none := by decide +kernel
theorem pm_13_129 : mthT 13 129 = some (2, 130) := by decide +kernel
theorem pn_13_129 : bltT 13 129 = none := by decide +kernel
theorem pm_13_132 : mthT 13 132 = some (2, 232) := by decide +kernel
theorem pn_13_132 : bltT 13 132 = none := by decide +kernel
theorem pm_13_133 : mthT 13 133 = some (2, 132) := by decide +kernel
theorem pn_13_133 : bltT 13 133 = none := by decide +kernel
theorem pm_13_136 : mthT 13 136 = some (2, 237) := by decide +kernel
theorem pn_13_136 : bltT 13 136 = none := by decide +kernel
theorem pm_13_137 : mthT 13 137 = some (2, 137) := by decide +kernel
theorem pn_13_137 : bltT 13 137 = none := by decide +kernel
theorem pm_13_140 : mthT 13 140 = some (2, 238) := by decide +kernel
theorem pn_13_140 : bltT 13 140 = none := by decide +kernel
theorem pm_13_141 : mthT 13 141 = some (2, 138) := by decide +kernel
theorem pn_13_141 : bltT 13 141 = none := by decide +kernel
theorem pm_13_144 : mthT 13 144 = some (2, 239) := by decide +kernel
theorem pn_13_144 : bltT 13 144 = none := by decide +kernel
theorem pm_13_145 : mthT 13 145 = some (2, 139) := by decide +kernel
theorem pn_13_145 : bltT 13 145 = none := by decide +kernel
theorem pm_13_148 : mthT 13 148 = some (2, 240) := by decide +kernel
theorem pn_13_148 : bltT 13 148 = none := by decide +kernel
theorem pm_13_149 : mthT 13 149 = some (2, 140) := by decide +kernel
theorem pn_13_149 : bltT 13 149 = none := by decide +kernel
theorem pm_13_152 : mthT 13 152 = some (2, 241) := by decide +kernel
theorem pn_13_152 : bltT 13 152 = none := by decide +kernel
theorem pm_13_153 : mthT 13 153 = some (2, 144) := by decide +kernel
theorem pn_13_153 : bltT 13 153 = none := by decide +kernel
theorem pm_13_156 : mthT 13 156 = some (2, 245) := by decide +kernel
theorem pn_13_156 : bltT 13 156 = none := by decide +kernel
theorem pm_13_157 : mthT 13 157 = some (2, 145) := by decide +kernel
theorem pn_13_157 : bltT 13 157 = none := by decide +kernel
theorem pm_13_160 : mthT 13 160 = some (2, 246) := by decide +kernel
theorem pn_13_160 : bltT 13 160 = none := by decide +kernel
theorem pm_13_161 : mthT 13 161 = some (2, 146) := by decide +kernel
theorem pn_13_161 : bltT 13 161 = none := by decide +kernel
theorem pm_13_164 : mthT 13 164 = some (2, 248) := by decide +kernel
theorem pn_13_164 : bltT 13 164 = none := by decide +kernel
theorem pm_13_165 : mthT 13 165 = some (2, 147) := by decide +kernel
theorem pn_13_165 : bltT 13 165 = none := by decide +kernel
theorem pm_13_168 : mthT 13 168 = some (2, 249) := by decide +kernel
theorem pn_13_168 : bltT 13 168 = none := by decide +kernel
theorem pm_13_169 : mthT 13 169 = some (2, 148) := by decide +kernel
theorem pn_13_169 : bltT 13 169 = none := by decide +kernel
theorem pm_13_172 : mthT 13 172 = some (2, 250) := by decide +kernel
theorem pn_13_172 : bltT 13 172 = none := by decide +kernel
theorem pm_13_173 : mthT 13 173 = some (2, 151) := by decide +kernel
theorem pn_13_173 : bltT 13 173 = none := by decide +kernel
theorem pm_13_176 : mthT 13 176 = some (2, 251) := by decide +kernel
theorem pn_13_176 : bltT 13 176 = none := by decide +kernel
theorem pm_13_177 : mthT 13 177 = some (2, 152) := by decide +kernel
theorem pn_13_177 : bltT 13 177 = none := by decide +kernel
theorem pm_13_180 : mthT 13 180 = some (2, 252) := by decide +kernel
theorem pn_13_180 : bltT 13 180 = none := by decide +kernel
theorem pm_13_181 : mthT 13 181 = some (2, 153) := by decide +kernel
theorem pn_13_181 : bltT 13 181 = none := by decide +kernel
theorem pm_13_185 : mthT 13 185 = some (2, 253) := by decide +kernel
theorem pn_13_185 : bltT 13 185 = none := by decide +kernel
theorem pm_13_186 : mthT 13 186 = some (2, 154) := by decide +kernel
theorem pn_13_186 : bltT 13 186 = none := by decide +kernel
theorem pm_13_190 : mthT 13 190 = some (2, 254) := by decide +kernel
theorem pn_13_190 : bltT 13 190 = none := by decide +kernel
theorem pm_13_191 : mthT 13 191 = some (2, 155) := by decide +kernel
theorem pn_13_191 : bltT 13 191 = none := by decide +kernel
theorem pm_13_194 : mthT 13 194 = some (2, 256) := by decide +kernel
theorem pn_13_194 : bltT 13 194 = none := by decide +kernel
theorem pb_0_3 : bltT 0 3 = some 1 := by decide +kernel
theorem pb_0_30 : bltT 0 30 = some 2 := by decide +kernel
theorem pb_1_3 : bltT 1 3 = some 1 := by decide +kernel
theorem pb_1_62 : bltT 1 62 = some 5 := by decide +kernel
theorem pb_1_68 : bltT 1 68 = some 4 := by decide +kernel
theorem pb_2_3 : bltT 2 3 = some 1 := by decide +kernel
theorem pb_2_25 : bltT 2 25 = some 4 := by decide +kernel
theorem pb_3_3 : bltT 3 3 = some 1 := by decide +kernel
theorem pb_4_3 : bltT 4 3 = some 1 := by decide +kernel
theorem pb_5_3 : bltT 5 3 = some 1 := by decide +kernel
theorem pb_6_5 : bltT 6 5 = some 1 := by decide +kernel
theorem pb_6_52 : bltT 6 52 = some 7 := by decide +kernel
theorem pb_6_64 : bltT 6 64 = some 8 := by decide +kernel
theorem pb_7_3 : bltT 7 3 = some 1 := by decide +kernel
theorem pb_8_3 : bltT 8 3 = some 1 := by decide +kernel
theorem pb_8_130 : bltT 8 130 = some 4 := by decide +kernel
theorem pb_9_3 : bltT 9 3 = some 1 := by decide +kernel
theorem pb_9_78 : bltT 9 78 = some 5 := by decide +kernel
theorem pb_10_3 : bltT 10 3 = some 1 := by decide +kernel
theorem pb_11_1 : bltT 11 1 = some 1 := by decide +kernel
theorem pb_11_338 : bltT 11 338 = some 2 := by decide +kernel
theorem pb_11_353 : bltT 11 353 = some 6 := by decide +kernel
theorem pb_12_1 : bltT 12 1 = some 1 := by decide +kernel
theorem pb_16_150 : bltT 16 150 = some 2 := by decide +kernel
theorem pb_16_304 : bltT 16 304 = some 5 := by decide +kernel
theorem pb_16_316 : bltT 16 316 = some 3 := by decide +kernel
theorem pw_1_19 : newT 1 19 = some 7 := by decide +kernel
theorem pw_3_19 : newT 3 19 = some 7 := by decide +kernel
theorem pw_8_29 : newT 8 29 = some 5 := by decide +kernel
theorem pw_11_7 : newT 11 7 = some 10 := by decide +kernel
theorem pw_11_16 : newT 11 16 = some 2 := by decide +kernel
theorem pw_11_23 : newT 11 23 = some 6 := by decide +kernel
theorem pw_11_30 : newT 11 30 = some 3 := by decide +kernel
theorem pw_11_39 : newT 11 39 = some 1 := by decide +kernel
theorem pw_11_48 : newT 11 48 = some 9 := by decide +kernel
theorem pw_11_57 : newT 11 57 = some 8 := by decide +kernel
theorem pw_11_66 : newT 11 66 = some 4 := by decide +kernel
theorem pw_11_73 : newT 11 73 = some 0 := by decide +kernel
theorem pw_13_7 : newT 13 7 = some 11 := by decide +kernel
theorem pw_13_10 : newT 13 10 = some 12 := by decide +kernel
theorem pa_1_19 : anwT 1 19 = some 17 := by decide +kernel
theorem pa_11_66 : anwT 11 66 = some 16 := by decide +kernel
theorem pc_11_295 : cstT 11 295 = some (99999) := by decide +kernel
theorem pc_12_162 : cstT 12 162 = some (100000) := by decide +kernel
theorem pc_12_296 : cstT 12 296 = some (99999) := by decide +kernel
theorem pc_14_265 : cstT 14 265 = some (1431655765) := by decide +kernel
theorem pc_14_266 : cstT 14 266 = some (858993459) := by decide +kernel
theorem pc_14_267 : cstT 14 267 = some (252645135) := by decide +kernel
theorem pd_8_121 : ct2T 8 121 = some (-1) := by decide +kernel
theorem pd_9_87 : ct2T 9 87 = some (48271) := by decide +kernel
theorem pd_9_89 : ct2T 9 89 = some (2147483647) := by decide +kernel
theorem pd_11_176 : ct2T 11 176 = some (-4611686018427387904) := by decide +kernel
theorem pd_11_227 : ct2T 11 227 = some (100) := by decide +kernel
theorem pd_12_207 : ct2T 12 207 = some (-4611686018427387904) := by decide +kernel
theorem pd_12_249 : ct2T 12 249 = some (100) := by decide +kernel
theorem pd_12_265 : ct2T 12 265 = some (-1) := by decide +kernel
theorem pd_12_288 : ct2T 12 288 = some (48271) := by decide +kernel
theorem pd_12_290 : ct2T 12 290 = some (2147483647) := by decide +kernel
