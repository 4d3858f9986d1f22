/-! ===== THE CLEAN MACHINE: values, memory, one step, a run, a call ===== -/
abbrev AV : Type := Int ⊕ Int ⊕ Nat ⊕ Nat
abbrev MM : Type := Nat → Nat → Int
abbrev RR : Type := Nat → Nat → Nat
abbrev vI (x : Int) : AV := .inl x
abbrev vJ (x : Int) : AV := .inr (.inl x)
abbrev vA (o : Nat) : AV := .inr (.inr (.inl o))
abbrev vX (k : Nat) : AV := .inr (.inr (.inr k))
abbrev Res : Type := AV × MM × RR
def w32 (x : Int) : Int := (Int32.ofInt x).toInt
def w64 (x : Int) : Int := (Int64.ofInt x).toInt
def c_and (a b : Int) : Int := (Int32.ofInt a &&& Int32.ofInt b).toInt
def c_or (a b : Int) : Int := (Int32.ofInt a ||| Int32.ofInt b).toInt
def c_xor (a b : Int) : Int := (Int32.ofInt a ^^^ Int32.ofInt b).toInt
def c_shl (a b : Int) : Int := (Int32.ofInt a <<< (Int32.ofInt b &&& 31)).toInt
def c_shr (a b : Int) : Int := (Int32.ofInt a >>> (Int32.ofInt b &&& 31)).toInt
def c_ushr (a b : Int) : Int := ((Int32.ofInt a).toUInt32 >>> ((Int32.ofInt b).toUInt32 &&& Int32.toUInt32 31)).toInt32.toInt
def c_i2b (a : Int) : Int := ((Int32.ofInt a).toInt8.toInt32).toInt
def c_i2s (a : Int) : Int := ((Int32.ofInt a).toInt16.toInt32).toInt
def catA : AV → Nat
  | .inr (.inl _) => 2
  | _ => 1
def upf {α : Type} (f : Nat → α) (i : Nat) (v : α) : Nat → α := fun j => if j = i then v else f j
def up {α : Type} (M : Nat → Nat → α) (o i : Nat) (v : α) : Nat → Nat → α := upf M o (upf (M o) i v)
def b_num {α : Type} (p : Prop) [Decidable p] (a b : α) : α := if p then a else b
/-- length of an instruction that the machine here knows; 0: any (switches); 9: none -/
def ilen : Instr → Nat
  | .bipush _ | .iload _ | .lload _ | .aload _ | .istore _ | .lstore _ | .astore _ | .ldc _ | .newarray _ => 2
  | .sipush _ | .if_icmp _ _ | .ifCond _ _ | .ifnonnull _ | .goto _ | .getfield _ | .putfield _ | .invokespecial _ | .invokevirtual _ | .invokestatic _ | .new _ | .anewarray _ | .checkcast _ | .ldc_w _ | .ldc2_w _ | .iinc _ _ => 3
  | .tableswitch _ _ _ _ | .lookupswitch _ _ => 0
  | .iload_n _ | .lload_n _ | .aload_n _ | .istore_n _ | .lstore_n _ | .astore_n _ | .iconst _ | .lconst _ | .aconst_null | .iadd | .isub | .imul | .idiv | .irem | .ineg | .ishl | .ishr | .iushr | .iand | .ior | .ixor | .ladd | .lsub | .lmul | .ldiv | .lrem | .lneg | .lcmp | .i2l | .i2b | .i2s | .iaload | .iastore | .laload | .lastore | .baload | .bastore | .aaload | .aastore | .arraylength | .dup | .dup2 | .pop | .ireturn | .lreturn | .areturn | .return_ => 1
  | _ => 9
def cnd (c : ClassFile.Cond) (a b : Int) : Bool := match c with
  | .eq => decide (a = b)
  | .ne => decide (a ≠ b)
  | .lt => decide (a < b)
  | .ge => decide (b ≤ a)
  | .gt => decide (b < a)
  | .le => decide (a ≤ b)
abbrev St : Type := Res ⊕ (Nat × List AV × List AV × MM × RR)
abbrev nx (pc : Nat) (lv st : List AV) (M : MM) (R : RR) : Option St := some (.inr (pc, lv, st, M, R))
def br (pc : Nat) (off : Int) (k : Nat → Option St) : Option St := if 0 ≤ (pc : Int) + off then k ((pc : Int) + off).toNat else none
def i2 (f : Int → Int → Int) (st : List AV) (k : List AV → Option St) : Option St := match st with
  | .inl b :: .inl a :: r => k (vI (f a b) :: r)
  | _ => none
def i1 (f : Int → Int) (st : List AV) (k : List AV → Option St) : Option St := match st with
  | .inl a :: r => k (vI (f a) :: r)
  | _ => none
def l2 (f : Int → Int → Int) (st : List AV) (k : List AV → Option St) : Option St := match st with
  | .inr (.inl b) :: .inr (.inl a) :: r => k (vJ (f a b) :: r)
  | _ => none
def ldI (lv : List AV) (i : Nat) (k : AV → Option St) : Option St := match lv[i]? with
  | some (.inl x) => k (vI x)
  | _ => none
def ldJ (lv : List AV) (i : Nat) (k : AV → Option St) : Option St := match lv[i]? with
  | some (.inr (.inl x)) => k (vJ x)
  | _ => none
def ldA (lv : List AV) (i : Nat) (k : AV → Option St) : Option St := match lv[i]? with
  | some (.inr (.inr (.inl o))) => k (vA o)
  | some (.inr (.inr (.inr 2))) => k (vX 2)
  | _ => none
def clr (lv : List AV) (i : Nat) : List AV := match i with
  | 0 => lv
  | j + 1 => match lv[j]? with
    | some (.inr (.inl _)) => lv.set j (vX 0)
    | _ => lv
def sto (lv : List AV) (i : Nat) (v : AV) (k : List AV → Option St) : Option St := if i < lv.length then k ((clr lv i).set i v) else none
def stoJ (lv : List AV) (i : Nat) (v : AV) (k : List AV → Option St) : Option St := if i + 1 < lv.length then k (((clr lv i).set i v).set (i + 1) (vX 0)) else none
def inb (i : Int) (n : Nat) : Prop := 0 ≤ i ∧ i < (n : Int)
def pushv (v : AV) (st : List AV) : List AV := match v with
  | .inr (.inr (.inr _)) => st
  | w => w :: st
def catS (st : List AV) : Nat := (st.map catA).sum
/-- a new object's number, its places set to nothing -/
def nu (R : RR) : Nat := R 0 0 + 1
def newM (M : MM) (R : RR) : MM := upf M (nu R) (fun _ => 0)
def newR (R : RR) (n w : Nat) : RR := upf (upf R (nu R) (fun _ => 0)) 0 (upf (upf (upf (R 0) 0 (nu R)) 1 (R 0 1 + w)) (nu R + 2) n)
def cpf {α : Type} (f g : Nat → α) (sp dp n : Nat) : Nat → α := fun k => if dp ≤ k ∧ k < dp + n then f (sp + (k - dp)) else g k
def fldT (ci idx : Nat) : Option (Nat × Nat) := lk fldL ci idx
def mthT (ci idx : Nat) : Option (Nat × Nat) := lk mthL ci idx
def bltT (ci idx : Nat) : Option Nat := lk bltL ci idx
def newT (ci idx : Nat) : Option Nat := lk newL ci idx
def anwT (ci idx : Nat) : Option Nat := lk anwL ci idx
def cstT (ci idx : Nat) : Option Int := lk cstL ci idx
def ct2T (ci idx : Nat) : Option Int := lk ct2L ci idx
def finOk (mi k sl : Nat) : Bool := !(TXs k sl).2.2.2 || ((nmOf mi).name == "<init>" && (TXs k sl).1 == cname (clsOf mi))
/-- the kinds of the objects, by number: 0 none; 1 .. 56 the class's, 57 .. 82 the model's, then the TEXTS, three by three -/
def kindL : List Nat := [99, 11, 10, 13, 2, 13, 13, 13, 6, 13, 3, 13, 13, 1, 17, 13, 13, 13, 13, 7, 13, 13, 9, 13, 13, 15, 13, 8, 14, 14, 14, 13, 5, 14, 14, 5, 14, 14, 5, 14, 14, 5, 14, 14, 14, 16, 4, 13, 4, 13, 4, 13, 4, 13, 0, 13, 13, 12, 13, 13, 13, 13, 13, 13, 13, 13, 13, 13, 13, 13, 13, 13, 13, 13, 13, 14, 14, 14, 14, 14, 14, 14, 13]
def kindOf (o : Nat) : Nat := if o ≤ 82 then kindL.getD o 99 else if (o - 83) % 3 = 0 then 7 else 13
/-- the letters of the class's text constant -/
def wordsC : List Int := [119, 101, 105, 103, 104, 115, 112, 97, 121, 115, 32, 32, 97, 115, 107, 115, 32, 32, 111, 114, 32, 32, 32, 32, 97, 110, 100, 32, 32, 32, 110, 111, 116, 32, 32, 32, 100, 97, 121, 32, 32, 32, 98, 111, 114, 110, 32, 32, 121, 101, 97, 114, 32, 32, 109, 111, 114, 101, 32, 32, 116, 111, 108, 100, 32, 32, 119, 104, 111, 32, 32, 32]
def sw_ok (ps : List (Int × Int)) : Bool := (ps.zip (ps.drop 1)).all (fun (a, next) => a.1 < next.1)
abbrev CF : Type := Nat → List AV → MM → RR → Option Res
def callK (cf : CF) (mi pc : Nat) (lv : List AV) (M : MM) (R : RR) (mi' : Nat) (as rest : List AV) : Option St :=
  if catS rest ≤ 8 then (cf mi' as M R).bind (fun q => nx (pc + 3) lv (pushv q.1 rest) q.2.1 q.2.2) else none
def sti (cf : CF) (mi pc : Nat) (lv st : List AV) (M : MM) (R : RR) : Instr → Option St
  | .iload_n k => ldI lv k.val (fun v => nx (pc + 1) lv (v :: st) M R)
  | .iload i => ldI lv i (fun v => nx (pc + 2) lv (v :: st) M R)
  | .lload_n k => ldJ lv k.val (fun v => nx (pc + 1) lv (v :: st) M R)
  | .lload i => ldJ lv i (fun v => nx (pc + 2) lv (v :: st) M R)
  | .aload_n k => ldA lv k.val (fun v => nx (pc + 1) lv (v :: st) M R)
  | .aload i => ldA lv i (fun v => nx (pc + 2) lv (v :: st) M R)
  | .istore_n k => match st with
    | .inl x :: r => sto lv k.val (vI x) (fun lv' => nx (pc + 1) lv' r M R)
    | _ => none
  | .istore i => match st with
    | .inl x :: r => sto lv i (vI x) (fun lv' => nx (pc + 2) lv' r M R)
    | _ => none
  | .lstore_n k => match st with
    | .inr (.inl x) :: r => stoJ lv k.val (vJ x) (fun lv' => nx (pc + 1) lv' r M R)
    | _ => none
  | .lstore i => match st with
    | .inr (.inl x) :: r => stoJ lv i (vJ x) (fun lv' => nx (pc + 2) lv' r M R)
    | _ => none
  | .astore_n k => match st with
    | .inr (.inr (.inl o)) :: r => sto lv k.val (vA o) (fun lv' => nx (pc + 1) lv' r M R)
    | _ => none
  | .astore i => match st with
    | .inr (.inr (.inl o)) :: r => sto lv i (vA o) (fun lv' => nx (pc + 2) lv' r M R)
    | _ => none
  | .iconst n => if -1 ≤ n ∧ n ≤ 5 then nx (pc + 1) lv (vI n :: st) M R else none
  | .bipush n => if -128 ≤ n ∧ n < 128 then nx (pc + 2) lv (vI n :: st) M R else none
  | .sipush n => if -32768 ≤ n ∧ n < 32768 then nx (pc + 3) lv (vI n :: st) M R else none
  | .lconst k => nx (pc + 1) lv (vJ (k.val : Int) :: st) M R
  | .aconst_null => nx (pc + 1) lv (vA 0 :: st) M R
  | .ldc i => match cstT (clsOf mi) i with
    | some v => nx (pc + 2) lv (vI v :: st) M R
    | none => if clsOf mi = 6 ∧ i = 50 then nx (pc + 2) lv (vX 1 :: st) M R else none
  | .ldc_w i => (cstT (clsOf mi) i).bind (fun v => nx (pc + 3) lv (vI v :: st) M R)
  | .ldc2_w i => (ct2T (clsOf mi) i).bind (fun v => nx (pc + 3) lv (vJ v :: st) M R)
  | .iinc i n => match lv[i]? with
    | some (.inl x) => sto lv i (vI (w32 (x + n))) (fun lv' => nx (pc + 3) lv' st M R)
    | _ => none
  | .iadd => i2 (fun a b => w32 (a + b)) st (fun s => nx (pc + 1) lv s M R)
  | .isub => i2 (fun a b => w32 (a - b)) st (fun s => nx (pc + 1) lv s M R)
  | .imul => i2 (fun a b => w32 (a * b)) st (fun s => nx (pc + 1) lv s M R)
  | .iand => i2 c_and st (fun s => nx (pc + 1) lv s M R)
  | .ior => i2 c_or st (fun s => nx (pc + 1) lv s M R)
  | .ixor => i2 c_xor st (fun s => nx (pc + 1) lv s M R)
  | .ishl => i2 c_shl st (fun s => nx (pc + 1) lv s M R)
  | .ishr => i2 c_shr st (fun s => nx (pc + 1) lv s M R)
  | .iushr => i2 c_ushr st (fun s => nx (pc + 1) lv s M R)
  | .idiv => match st with
    | .inl b :: .inl a :: r => if b = 0 then none else nx (pc + 1) lv (vI (w32 (a.tdiv b)) :: r) M R
    | _ => none
  | .irem => match st with
    | .inl b :: .inl a :: r => if b = 0 then none else nx (pc + 1) lv (vI (a.tmod b) :: r) M R
    | _ => none
  | .ineg => i1 (fun a => w32 (-a)) st (fun s => nx (pc + 1) lv s M R)
  | .i2b => i1 c_i2b st (fun s => nx (pc + 1) lv s M R)
  | .i2s => i1 c_i2s st (fun s => nx (pc + 1) lv s M R)
  | .ladd => l2 (fun a b => w64 (a + b)) st (fun s => nx (pc + 1) lv s M R)
  | .lsub => l2 (fun a b => w64 (a - b)) st (fun s => nx (pc + 1) lv s M R)
  | .lmul => l2 (fun a b => w64 (a * b)) st (fun s => nx (pc + 1) lv s M R)
  | .ldiv => match st with
    | .inr (.inl b) :: .inr (.inl a) :: r => if b = 0 then none else nx (pc + 1) lv (vJ (w64 (a.tdiv b)) :: r) M R
    | _ => none
  | .lrem => match st with
    | .inr (.inl b) :: .inr (.inl a) :: r => if b = 0 then none else nx (pc + 1) lv (vJ (a.tmod b) :: r) M R
    | _ => none
  | .lneg => match st with
    | .inr (.inl a) :: r => nx (pc + 1) lv (vJ (w64 (-a)) :: r) M R
    | _ => none
  | .lcmp => match st with
    | .inr (.inl b) :: .inr (.inl a) :: r => nx (pc + 1) lv (vI (if b < a then 1 else if a = b then 0 else -1) :: r) M R
    | _ => none
  | .i2l => match st with
    | .inl a :: r => nx (pc + 1) lv (vJ a :: r) M R
    | _ => none
  | .dup => match st with
    | v :: r => if catA v = 1 then nx (pc + 1) lv (v :: v :: r) M R else none
    | _ => none
  | .dup2 => match st with
    | a :: b :: r => if catA a = 1 ∧ catA b = 1 then nx (pc + 1) lv (a :: b :: a :: b :: r) M R else none
    | _ => none
  | .pop => match st with
    | v :: r => if catA v = 1 then nx (pc + 1) lv r M R else none
    | _ => none
  | .if_icmp c off => match st with
    | .inl b :: .inl a :: r => if cnd c a b then br pc off (fun t => nx t lv r M R) else nx (pc + 3) lv r M R
    | _ => none
  | .ifCond c off => match st with
    | .inl a :: r => if cnd c a 0 then br pc off (fun t => nx t lv r M R) else nx (pc + 3) lv r M R
    | _ => none
  | .ifnonnull off => match st with
    | .inr (.inr (.inl o)) :: r => if o = 0 then nx (pc + 3) lv r M R else br pc off (fun t => nx t lv r M R)
    | _ => none
  | .goto off => br pc off (fun t => nx t lv st M R)
  | .tableswitch d lo hi offs => match st with
    | .inl x :: r => if x < lo ∨ hi < x then br pc d (fun t => nx t lv r M R) else match offs[(x - lo).toNat]? with
      | some off => br pc off (fun t => nx t lv r M R)
      | none => none
    | _ => none
  | .lookupswitch d ps => match st with
    | .inl x :: r => if sw_ok ps.toList then br pc (Op.lookupswitch.offset ps.toList d x) (fun t => nx t lv r M R) else none
    | _ => none
  | .getfield i => match st with
    | .inr (.inr (.inl o)) :: r => match fldT (clsOf mi) i with
      | some (k, sl) => if kindOf o = k then nx (pc + 3) lv ((if ftyp k sl = 1 then vA (R o sl) else vI (M o sl)) :: r) M R else none
      | none => none
    | _ => none
  | .putfield i => match st with
    | v :: .inr (.inr (.inl o)) :: r => match fldT (clsOf mi) i with
      | some (k, sl) => if kindOf o = k ∧ finOk mi k sl = true then (match ftyp k sl, v with
        | 0, .inl x => nx (pc + 3) lv r (up M o sl x) R
        | 2, .inl x => if x = 0 ∨ x = 1 then nx (pc + 3) lv r (up M o sl x) R else none
        | 1, .inr (.inr (.inl q)) => nx (pc + 3) lv r M (up R o sl q)
        | _, _ => none) else none
      | none => none
    | _ => none
  | .iaload => match st with
    | .inl i :: .inr (.inr (.inl o)) :: r => if kindOf o = 13 ∧ 0 ≤ i ∧ i < (R 0 (o + 2) : Int) then nx (pc + 1) lv (vI (M o i.toNat) :: r) M R else none
    | .inl i :: .inr (.inr (.inr 2)) :: r => if 0 ≤ i ∧ i < (R 0 2 : Int) then nx (pc + 1) lv (vI (M 0 i.toNat) :: r) M R else none
    | _ => none
  | .baload => match st with
    | .inl i :: .inr (.inr (.inl o)) :: r => if kindOf o = 15 ∧ 0 ≤ i ∧ i < (R 0 (o + 2) : Int) then nx (pc + 1) lv (vI (M o i.toNat) :: r) M R else none
    | _ => none
  | .laload => match st with
    | .inl i :: .inr (.inr (.inl o)) :: r => if kindOf o = 14 ∧ 0 ≤ i ∧ i < (R 0 (o + 2) : Int) then nx (pc + 1) lv (vJ (M o i.toNat) :: r) M R else none
    | _ => none
  | .aaload => match st with
    | .inl i :: .inr (.inr (.inl o)) :: r => if (kindOf o = 16 ∨ kindOf o = 17) ∧ 0 ≤ i ∧ i < (R 0 (o + 2) : Int) then nx (pc + 1) lv (vA (R o i.toNat) :: r) M R else none
    | _ => none
  | .iastore => match st with
    | .inl x :: .inl i :: .inr (.inr (.inl o)) :: r => if kindOf o = 13 ∧ 0 ≤ i ∧ i < (R 0 (o + 2) : Int) then nx (pc + 1) lv r (up M o i.toNat x) R else none
    | _ => none
  | .bastore => match st with
    | .inl x :: .inl i :: .inr (.inr (.inl o)) :: r => if kindOf o = 15 ∧ (x = 0 ∨ x = 1) ∧ 0 ≤ i ∧ i < (R 0 (o + 2) : Int) then nx (pc + 1) lv r (up M o i.toNat x) R else none
    | _ => none
  | .lastore => match st with
    | .inr (.inl x) :: .inl i :: .inr (.inr (.inl o)) :: r => if kindOf o = 14 ∧ 0 ≤ i ∧ i < (R 0 (o + 2) : Int) then nx (pc + 1) lv r (up M o i.toNat x) R else none
    | _ => none
  | .aastore => match st with
    | .inr (.inr (.inl q)) :: .inl i :: .inr (.inr (.inl o)) :: r => if ((kindOf o = 16 ∧ kindOf q = 4) ∨ (kindOf o = 17 ∧ kindOf q = 7)) ∧ 0 ≤ i ∧ i < (R 0 (o + 2) : Int) then nx (pc + 1) lv r M (up R o i.toNat q) else none
    | _ => none
  | .arraylength => match st with
    | .inr (.inr (.inl o)) :: r => if 13 ≤ kindOf o ∧ kindOf o ≤ 17 then nx (pc + 1) lv (vI (R 0 (o + 2)) :: r) M R else none
    | .inr (.inr (.inr 2)) :: r => nx (pc + 1) lv (vI (R 0 2) :: r) M R
    | _ => none
  | .newarray t => match st with
    | .inl n :: r => if 0 ≤ n ∧ n ≤ 100000 ∧ ((t = .int ∧ kindOf (nu R) = 13) ∨ (t = .long ∧ kindOf (nu R) = 14) ∨ (t = .boolean ∧ kindOf (nu R) = 15)) then nx (pc + 2) lv (vA (nu R) :: r) (newM M R) (newR R n.toNat n.toNat) else none
    | _ => none
  | .anewarray i => match st with
    | .inl n :: r => match anwT (clsOf mi) i with
      | some kd => if 0 ≤ n ∧ n ≤ 100000 ∧ kindOf (nu R) = kd then nx (pc + 3) lv (vA (nu R) :: r) (newM M R) (newR R n.toNat n.toNat) else none
      | none => none
    | _ => none
  | .new i => match newT (clsOf mi) i with
    | some k => if kindOf (nu R) = k then nx (pc + 3) lv (vA (nu R) :: st) (newM M R) (newR R 0 (nF k)) else none
    | none => none
  | .checkcast i => match st with
    | .inr (.inr (.inl o)) :: r => if clsOf mi = 16 ∧ i = 317 ∧ kindOf o = 13 then nx (pc + 3) lv (vA o :: r) M R else none
    | _ => none
  | .invokespecial i => match bltT (clsOf mi) i with
    | some 1 => (match st with
      | .inr (.inr (.inl o)) :: r => if 0 < o ∧ catS r ≤ 8 then nx (pc + 3) lv r M R else none
      | _ => none)
    | some _ => none
    | none => match mthT (clsOf mi) i with
      | some (3, mi') => (match st.drop (narOf mi') with
        | .inr (.inr (.inl o)) :: rest => if kindOf o = clsOf mi' then callK cf mi pc lv M R mi' (vA o :: (st.take (narOf mi')).reverse) rest else none
        | _ => none)
      | _ => none
  | .invokevirtual i => match bltT (clsOf mi) i with
    | some 3 => (match st with
      | .inr (.inr (.inl o)) :: r => if kindOf o = 13 ∧ kindOf (nu R) = 13 ∧ catS r ≤ 8 then nx (pc + 3) lv (vA (nu R) :: r) (upf M (nu R) (M o)) (newR R (R 0 (o + 2)) (R 0 (o + 2))) else none
      | _ => none)
    | some 7 => (match st with
      | .inr (.inr (.inr 1)) :: r => if catS r ≤ 8 then nx (pc + 3) lv (vI 72 :: r) M R else none
      | _ => none)
    | some 8 => (match st with
      | .inl j :: .inr (.inr (.inr 1)) :: r => if catS r ≤ 8 ∧ 0 ≤ j ∧ j < 72 then nx (pc + 3) lv (vI (wordsC.getD j.toNat 0) :: r) M R else none
      | _ => none)
    | some _ => none
    | none => match mthT (clsOf mi) i with
      | some (2, mi') => (match st.drop (narOf mi') with
        | .inr (.inr (.inl o)) :: rest => if kindOf o = clsOf mi' then callK cf mi pc lv M R mi' (vA o :: (st.take (narOf mi')).reverse) rest else none
        | _ => none)
      | _ => none
  | .invokestatic i => match bltT (clsOf mi) i with
    | some 2 => (match st with
      | .inl n :: .inl dp :: .inr (.inr (.inl b)) :: .inl sp :: .inr (.inr (.inl a)) :: r => if kindOf a = 13 ∧ kindOf b = 13 ∧ 0 ≤ sp ∧ 0 ≤ dp ∧ 0 ≤ n ∧ sp + n ≤ (R 0 (a + 2) : Int) ∧ dp + n ≤ (R 0 (b + 2) : Int) ∧ catS r ≤ 8 then nx (pc + 3) lv r (upf M b (cpf (M a) (M b) sp.toNat dp.toNat n.toNat)) R else none
      | _ => none)
    | some 4 => (match st with
      | .inl b :: .inl a :: r => if catS r ≤ 8 then nx (pc + 3) lv (vI (max a b) :: r) M R else none
      | _ => none)
    | some 5 => (match st with
      | .inl b :: .inl a :: r => if catS r ≤ 8 then nx (pc + 3) lv (vI (min a b) :: r) M R else none
      | _ => none)
    | some 6 => (match st with
      | .inr (.inl a) :: r => if catS r ≤ 8 then nx (pc + 3) lv (vJ (if a < 0 then w64 (-a) else a) :: r) M R else none
      | _ => none)
    | some _ => none
    | none => match mthT (clsOf mi) i with
      | some (1, mi') => if narOf mi' ≤ st.length then callK cf mi pc lv M R mi' (st.take (narOf mi')).reverse (st.drop (narOf mi')) else none
      | _ => none
  | .ireturn => match st with
    | [.inl x] => some (.inl (vI x, M, R))
    | _ => none
  | .lreturn => match st with
    | [.inr (.inl x)] => some (.inl (vJ x, M, R))
    | _ => none
  | .areturn => match st with
    | [.inr (.inr (.inl o))] => some (.inl (vA o, M, R))
    | _ => none
  | .return_ => match st with
    | [] => some (.inl (vX 0, M, R))
    | _ => none
  | _ => none
def stp (cf : CF) (mi pc : Nat) (lv st : List AV) (M : MM) (R : RR) : Option St := match decode (codeOf mi) pc with
  | .ok (ins, len) => if ilen ins = len ∨ ilen ins = 0 then sti cf mi pc lv st M R ins else none
  | .error _ => none
def rn (cf : CF) (mi : Nat) : Nat → Nat → List AV → List AV → MM → RR → Option Res
  | 0, _, _, _, _, _ => none
  | n + 1, pc, lv, st, M, R => match stp cf mi pc lv st M R with
    | none => none
    | some (.inl r) => some r
    | some (.inr (pc', lv', st', M', R')) => rn cf mi n pc' lv' st' M' R'
theorem rn_more (cf : CF) (mi : Nat) {n : Nat} (k : Nat) : ∀ {pc : Nat} {lv st : List AV} {M : MM} {R : RR} {r : Res}, rn cf mi n pc lv st M R = some r → rn cf mi (n + k) pc lv st M R = some r := by
  induction n with
  | zero => intro pc lv st M R r h; simp [rn] at h
  | succ n ih =>
    intro pc lv st M R r h
    rw [Nat.add_right_comm]
    simp only [rn] at h ⊢
    split at h
    · cases h
    · exact h
    · exact ih h
theorem rn_same {cf : CF} {mi n k pc : Nat} {lv st : List AV} {M : MM} {R : RR} {r q : Res} (h : rn cf mi n pc lv st M R = some r) (g : rn cf mi k pc lv st M R = some q) : r = q := by
  have h1 := rn_more cf mi k h
  have h2 := rn_more cf mi n g
  rw [Nat.add_comm] at h2
  exact Option.some.inj (h1.symm.trans h2)
noncomputable def run (cf : CF) (mi pc : Nat) (lv st : List AV) (M : MM) (R : RR) : Option Res :=
  Classical.epsilon (fun o : Option Res => ∀ r, o = some r ↔ ∃ n, rn cf mi n pc lv st M R = some r)
theorem run_iff {cf : CF} {mi pc : Nat} {lv st : List AV} {M : MM} {R : RR} {r : Res} : run cf mi pc lv st M R = some r ↔ ∃ n, rn cf mi n pc lv st M R = some r := by
  have h : ∃ o : Option Res, ∀ r, o = some r ↔ ∃ n, rn cf mi n pc lv st M R = some r := by
    rcases Classical.em (∃ n r, rn cf mi n pc lv st M R = some r) with ⟨n, q, hn⟩ | hx
    · refine ⟨some q, fun r => ⟨fun e => ?_, fun e => ?_⟩⟩
      · cases e; exact ⟨n, hn⟩
      · obtain ⟨k, hk⟩ := e
        exact congrArg some (rn_same hn hk)
    · exact ⟨none, fun r => ⟨fun e => (by cases e), fun ⟨k, hk⟩ => absurd ⟨k, r, hk⟩ hx⟩⟩
  exact Classical.epsilon_spec h r
theorem run_eq (cf : CF) (mi pc : Nat) (lv st : List AV) (M : MM) (R : RR) : run cf mi pc lv st M R = (match stp cf mi pc lv st M R with
    | none => none
    | some (.inl r) => some r
    | some (.inr (pc', lv', st', M', R')) => run cf mi pc' lv' st' M' R') := by
  apply Option.ext
  intro r
  rw [run_iff]
  split
  · rename_i h
    constructor
    · rintro ⟨n, hn⟩
      cases n with
      | zero => simp [rn] at hn
      | succ n => simp [rn, h] at hn
    · intro h; cases h
  · rename_i q h
    constructor
    · rintro ⟨n, hn⟩
      cases n with
      | zero => simp [rn] at hn
      | succ n => simpa [rn, h] using hn
    · intro h2; exact ⟨1, by simpa [rn, h] using h2⟩
  · rename_i pc' lv' st' M' R' h
    rw [run_iff]
    constructor
    · rintro ⟨n, hn⟩
      cases n with
      | zero => simp [rn] at hn
      | succ n => exact ⟨n, by simpa [rn, h] using hn⟩
    · rintro ⟨n, hn⟩
      exact ⟨n + 1, by simpa [rn, h] using hn⟩
/-- the places of the arguments -/
def flatA (av : List AV) : List AV := av.flatMap fun v => if catA v = 2 then [v, vX 0] else [v]
def lv0 (n : Nat) (av : List AV) : List AV := flatA av ++ List.replicate (n - (flatA av).length) (vX 0)
def retOk (mi : Nat) (v : AV) : Bool := match retOf mi, v with
  | none, .inr (.inr (.inr 0)) => true
  | some .int, .inl _ => true
  | some .long, .inr (.inl _) => true
  | some .boolean, .inl x => x == 0 || x == 1
  | some (.object _), .inr (.inr (.inl _)) => true
  | some (.array _), .inr (.inr (.inl _)) => true
  | _, _ => false
noncomputable def call : Nat → CF
  | 0 => fun _ _ _ _ => none
  | d + 1 => fun mi av M R => if mi < 261 ∧ (flatA av).length ≤ maxLOf mi then (run (call d) mi 0 (lv0 (maxLOf mi) av) [] M R).bind (fun q => if retOk mi q.1 = true then some q else none) else none
theorem call_of {d mi : Nat} {av : List AV} {M : MM} {R : RR} {q : Res} (n : Nat) (lv : List AV) (h1 : mi < 261) (hm : maxLOf mi = n) (h2 : (flatA av).length ≤ n) (hl : lv0 n av = lv) (h : run (call d) mi 0 lv [] M R = some q) (h3 : retOk mi q.1 = true) : call (d + 1) mi av M R = some q := by
  subst hm; subst hl
  simp [call, h1, h2, h, h3]
