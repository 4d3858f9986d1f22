/-! ===== THE CLEAN MACHINE: values, memory, one step, a run, a call ===== -/
abbrev AV : Type := Int ⊕ Int ⊕ Nat ⊕ Nat
abbrev MM : Type := Nat → Nat → Int
abbrev RR : Type := Nat → Nat → Nat
abbrev vI (x : Int) : AV := .inl x
abbrev vJ (x : Int) : AV := .inr (.inl x)
abbrev vA (o : Nat) : AV := .inr (.inr (.inl o))
abbrev vX (k : Nat) : AV := .inr (.inr (.inr k))
abbrev Res : Type := AV × MM × RR
def w32 (x : Int) : Int := (Int32.ofInt x).toInt
def w64 (x : Int) : Int := (Int64.ofInt x).toInt
def c_and (a b : Int) : Int := (Int32.ofInt a &&& Int32.ofInt b).toInt
def c_or (a b : Int) : Int := (Int32.ofInt a ||| Int32.ofInt b).toInt
def c_xor (a b : Int) : Int := (Int32.ofInt a ^^^ Int32.ofInt b).toInt
def c_shl (a b : Int) : Int := (Int32.ofInt a <<< (Int32.ofInt b &&& 31)).toInt
def c_shr (a b : Int) : Int := (Int32.ofInt a >>> (Int32.ofInt b &&& 31)).toInt
def c_ushr (a b : Int) : Int := ((Int32.ofInt a).toUInt32 >>> ((Int32.ofInt b).toUInt32 &&& Int32.toUInt32 31)).toInt32.toInt
def c_i2b (a : Int) : Int := ((Int32.ofInt a).toInt8.toInt32).toInt
def c_i2s (a : Int) : Int := ((Int32.ofInt a).toInt16.toInt32).toInt
def catA : AV → Nat
  | .inr (.inl _) => 2
  | _ => 1
def upf {α : Type} (f : Nat → α) (i : Nat) (v : α) : Nat → α := fun j => if j = i then v else f j
def up {α : Type} (M : Nat → Nat → α) (o i : Nat) (v : α) : Nat → Nat → α := upf M o (upf (M o) i v)
def b_num {α : Type} (p : Prop) [Decidable p] (a b : α) : α := if p then a else b
/-- length of an instruction that the machine here knows; 0: any (switches); 9: none -/
def ilen : Instr → Nat
  | .bipush _ | .iload _ | .lload _ | .aload _ | .istore _ | .lstore _ | .astore _ | .ldc _ | .newarray _ => 2
  | .sipush _ | .if_icmp _ _ | .ifCond _ _ | .ifnonnull _ | .goto _ | .getfield _ | .putfield _ | .invokespecial _ | .invokevirtual _ | .invokestatic _ | .new _ | .anewarray _ | .checkcast _ | .ldc_w _ | .ldc2_w _ | .iinc _ _ => 3
  | .tableswitch _ _ _ _ | .lookupswitch _ _ => 0
  | .iload_n _ | .lload_n _ | .aload_n _ | .istore_n _ | .lstore_n _ | .astore_n _ | .iconst _ | .lconst _ | .aconst_null | .iadd | .isub | .imul | .idiv | .irem | .ineg | .ishl | .ishr | .iushr | .iand | .ior | .ixor | .ladd | .lsub | .lmul | .ldiv | .lrem | .lneg | .lcmp | .i2l | .i2b | .i2s | .iaload | .iastore | .laload | .lastore | .baload | .bastore | .aaload | .aastore | .arraylength | .dup | .dup2 | .pop | .ireturn | .lreturn | .areturn | .return_ => 1
  | _ => 9
def cnd (c : ClassFile.Cond) (a b : Int) : Bool := match c with
  | .eq => decide (a = b)
  | .ne => decide (a ≠ b)
  | .lt => decide (a < b)
  | .ge => decide (b ≤ a)
  | .gt => decide (b < a)
  | .le => decide (a ≤ b)
abbrev St : Type := Res ⊕ (Nat × List AV × List AV × MM × RR)
abbrev nx (pc : Nat) (lv st : List AV) (M : MM) (R : RR) : Option St := some (.inr (pc, lv, st, M, R))
def br (pc : Nat) (off : Int) (k : Nat → Option St) : Option St := if 0 ≤ (pc : Int) + off then k ((pc : Int) + off).toNat else none
def i2 (f : Int → Int → Int) (st : List AV) (k : List AV → Option St) : Option St := match st with
  | .inl b :: .inl a :: r => k (vI (f a b) :: r)
  | _ => none
def i1 (f : Int → Int) (st : List AV) (k : List AV → Option St) : Option St := match st with
  | .inl a :: r => k (vI (f a) :: r)
  | _ => none
def l2 (f : Int → Int → Int) (st : List AV) (k : List AV → Option St) : Option St := match st with
  | .inr (.inl b) :: .inr (.inl a) :: r => k (vJ (f a b) :: r)
  | _ => none
def ldI (lv : List AV) (i : Nat) (k : AV → Option St) : Option St := match lv[i]? with
  | some (.inl x) => k (vI x)
  | _ => none
def ldJ (lv : List AV) (i : Nat) (k : AV → Option St) : Option St := match lv[i]? with
  | some (.inr (.inl x)) => k (vJ x)
  | _ => none
def ldA (lv : List AV) (i : Nat) (k : AV → Option St) : Option St := match lv[i]? with
  | some (.inr (.inr (.inl o))) => k (vA o)
  | some (.inr (.inr (.inr 2))) => k (vX 2)
  | _ => none
def clr (lv : List AV) (i : Nat) : List AV := match i with
  | 0 => lv
  | j + 1 => match lv[j]? with
    | some (.inr (.inl _)) => lv.set j (vX 0)
    | _ => lv
def sto (lv : List AV) (i : Nat) (v : AV) (k : List AV → Option St) : Option St := if i < lv.length then k ((clr lv i).set i v) else none
def stoJ (lv : List AV) (i : Nat) (v : AV) (k : List AV → Option St) : Option St := if i + 1 < lv.length then k (((clr lv i).set i v).set (i + 1) (vX 0)) else none
def inb (i : Int) (n : Nat) : Prop := 0 ≤ i ∧ i < (n : Int)
def pushv (v : AV) (st : List AV) : List AV := match v with
  | .inr (.inr (.inr _)) => st
  | w => w :: st
def catS (st : List AV) : Nat := (st.map catA).sum
/-- a new object's number, its places set to nothing -/
def nu (R : RR) : Nat := R 0 0 + 1
def newM (M : MM) (R : RR) : MM := upf M (nu R) (fun _ => 0)
def newR (R : RR) (n w : Nat) : RR := upf (upf R (nu R) (fun _ => 0)) 0 (upf (upf (upf (R 0) 0 (nu R)) 1 (R 0 1 + w)) (nu R + 2) n)
def cpf {α : Type} (f g : Nat → α) (sp dp n : Nat) : Nat → α := fun k => if dp ≤ k ∧ k < dp + n then f (sp + (k - dp)) else g k
def fldT (ci idx : Nat) : Option (Nat × Nat) := lk fldL ci idx
def mthT (ci idx : Nat) : Option (Nat × Nat) := lk mthL ci idx
def bltT (ci idx : Nat) : Option Nat := lk bltL ci idx
def newT (ci idx : Nat) : Option Nat := lk newL ci idx
def anwT (ci idx : Nat) : Option Nat := lk anwL ci idx
def cstT (ci idx : Nat) : Option Int := lk cstL ci idx
def ct2T (ci idx : Nat) : Option Int := lk ct2L ci idx
def finOk (mi k sl : Nat) : Bool := !(TXs k sl).2.2.2 || ((nmOf mi).name == "<init>" && (TXs k sl).1 == cname (clsOf mi))
/-- the kinds of the objects, by number: 0 none; 1 .. 56 the class's, 57 .. 82 the model's, then the TEXTS, three by three -/
def kindL : List Nat := [99, 11, 10, 13, 2, 13, 13, 13, 6, 13, 3, 13, 13, 1, 17, 13, 13, 13, 13, 7, 13, 13, 9, 13, 13, 15, 13, 8, 14, 14, 14, 13, 5, 14, 14, 5, 14, 14, 5, 14, 14, 5, 14, 14, 14, 16, 4, 13, 4, 13, 4, 13, 4, 13, 0, 13, 13, 12, 13, 13, 13, 13, 13, 13, 13, 13, 13, 13, 13, 13, 13, 13, 13, 13, 13, 14, 14, 14, 14, 14, 14, 14, 13]
def kindOf (o : Nat) : Nat := if o ≤ 82 then kindL.getD o 99 else if (o - 83) % 3 = 0 then 7 else 13
/-- the letters of the class's text constant -/
def wordsC : List Int := [119, 101, 105, 103, 104, 115, 112, 97, 121, 115, 32, 32, 97, 115, 107, 115, 32, 32, 111, 114, 32, 32, 32, 32, 97, 110, 100, 32, 32, 32, 110, 111, 116, 32, 32, 32, 100, 97, 121, 32, 32, 32, 98, 111, 114, 110, 32, 32, 121, 101, 97, 114, 32, 32, 109, 111, 114, 101, 32, 32, 116, 111, 108, 100, 32, 32, 119, 104, 111, 32, 32, 32]
def sw_ok (ps : List (Int × Int)) : Bool := (ps.zip (ps.drop 1)).all (fun (a, next) => a.1 < next.1)
abbrev CF : Type := Nat → List AV → MM → RR → Option Res
def popI (st : List AV) (k : Int → List AV → Option St) : Option St := match st with
  | .inl x :: r => k x r
  | _ => none
def popJ (st : List AV) (k : Int → List AV → Option St) : Option St := match st with
  | .inr (.inl x) :: r => k x r
  | _ => none
def popA (st : List AV) (k : Nat → List AV → Option St) : Option St := match st with
  | .inr (.inr (.inl o)) :: r => k o r
  | _ => none
def popV (st : List AV) (k : AV → List AV → Option St) : Option St := match st with
  | v :: r => k v r
  | _ => none
def popX (n : Nat) (st : List AV) (k : List AV → Option St) (k1 : Option St) : Option St := match st with
  | .inr (.inr (.inr q)) :: r => if q = n then k r else k1
  | _ => k1
def gd (p : Prop) [Decidable p] (k : Option St) : Option St := if p then k else none
def callK (cf : CF) (mi pc : Nat) (lv : List AV) (M : MM) (R : RR) (mi' : Nat) (as rest : List AV) : Option St :=
  gd (catS rest ≤ 8) ((cf mi' as M R).bind (fun q => nx (pc + 3) lv (pushv q.1 rest) q.2.1 q.2.2))
def sti (cf : CF) (mi pc : Nat) (lv st : List AV) (M : MM) (R : RR) : Instr → Option St
  | .iload_n k => ldI lv k.val (fun v => nx (pc + 1) lv (v :: st) M R)
  | .iload i => ldI lv i (fun v => nx (pc + 2) lv (v :: st) M R)
  | .lload_n k => ldJ lv k.val (fun v => nx (pc + 1) lv (v :: st) M R)
  | .lload i => ldJ lv i (fun v => nx (pc + 2) lv (v :: st) M R)
  | .aload_n k => ldA lv k.val (fun v => nx (pc + 1) lv (v :: st) M R)
  | .aload i => ldA lv i (fun v => nx (pc + 2) lv (v :: st) M R)
  | .istore_n k => popI st (fun x r => sto lv k.val (vI x) (fun lv' => nx (pc + 1) lv' r M R))
  | .istore i => popI st (fun x r => sto lv i (vI x) (fun lv' => nx (pc + 2) lv' r M R))
  | .lstore_n k => popJ st (fun x r => stoJ lv k.val (vJ x) (fun lv' => nx (pc + 1) lv' r M R))
  | .lstore i => popJ st (fun x r => stoJ lv i (vJ x) (fun lv' => nx (pc + 2) lv' r M R))
  | .astore_n k => popA st (fun o r => sto lv k.val (vA o) (fun lv' => nx (pc + 1) lv' r M R))
  | .astore i => popA st (fun o r => sto lv i (vA o) (fun lv' => nx (pc + 2) lv' r M R))
  | .iconst n => gd (-1 ≤ n ∧ n ≤ 5) (nx (pc + 1) lv (vI n :: st) M R)
  | .bipush n => gd (-128 ≤ n ∧ n < 128) (nx (pc + 2) lv (vI n :: st) M R)
  | .sipush n => gd (-32768 ≤ n ∧ n < 32768) (nx (pc + 3) lv (vI n :: st) M R)
  | .lconst k => nx (pc + 1) lv (vJ (k.val : Int) :: st) M R
  | .aconst_null => nx (pc + 1) lv (vA 0 :: st) M R
  | .ldc i => if clsOf mi = 6 ∧ i = 50 then nx (pc + 2) lv (vX 1 :: st) M R else (cstT (clsOf mi) i).bind (fun v => nx (pc + 2) lv (vI v :: st) M R)
  | .ldc_w i => (cstT (clsOf mi) i).bind (fun v => nx (pc + 3) lv (vI v :: st) M R)
  | .ldc2_w i => (ct2T (clsOf mi) i).bind (fun v => nx (pc + 3) lv (vJ v :: st) M R)
  | .iinc i n => ldI lv i (fun v => popI [v] (fun x _ => sto lv i (vI (w32 (x + n))) (fun lv' => nx (pc + 3) lv' st M R)))
  | .iadd => i2 (fun a b => w32 (a + b)) st (fun s => nx (pc + 1) lv s M R)
  | .isub => i2 (fun a b => w32 (a - b)) st (fun s => nx (pc + 1) lv s M R)
  | .imul => i2 (fun a b => w32 (a * b)) st (fun s => nx (pc + 1) lv s M R)
  | .iand => i2 c_and st (fun s => nx (pc + 1) lv s M R)
  | .ior => i2 c_or st (fun s => nx (pc + 1) lv s M R)
  | .ixor => i2 c_xor st (fun s => nx (pc + 1) lv s M R)
  | .ishl => i2 c_shl st (fun s => nx (pc + 1) lv s M R)
  | .ishr => i2 c_shr st (fun s => nx (pc + 1) lv s M R)
  | .iushr => i2 c_ushr st (fun s => nx (pc + 1) lv s M R)
  | .idiv => popI st (fun b r => popI r (fun a r => gd (b ≠ 0) (nx (pc + 1) lv (vI (w32 (a.tdiv b)) :: r) M R)))
  | .irem => popI st (fun b r => popI r (fun a r => gd (b ≠ 0) (nx (pc + 1) lv (vI (a.tmod b) :: r) M R)))
  | .ineg => i1 (fun a => w32 (-a)) st (fun s => nx (pc + 1) lv s M R)
  | .i2b => i1 c_i2b st (fun s => nx (pc + 1) lv s M R)
  | .i2s => i1 c_i2s st (fun s => nx (pc + 1) lv s M R)
  | .ladd => l2 (fun a b => w64 (a + b)) st (fun s => nx (pc + 1) lv s M R)
  | .lsub => l2 (fun a b => w64 (a - b)) st (fun s => nx (pc + 1) lv s M R)
  | .lmul => l2 (fun a b => w64 (a * b)) st (fun s => nx (pc + 1) lv s M R)
  | .ldiv => popJ st (fun b r => popJ r (fun a r => gd (b ≠ 0) (nx (pc + 1) lv (vJ (w64 (a.tdiv b)) :: r) M R)))
  | .lrem => popJ st (fun b r => popJ r (fun a r => gd (b ≠ 0) (nx (pc + 1) lv (vJ (a.tmod b) :: r) M R)))
  | .lneg => popJ st (fun a r => nx (pc + 1) lv (vJ (w64 (-a)) :: r) M R)
  | .lcmp => popJ st (fun b r => popJ r (fun a r => nx (pc + 1) lv (vI (if b < a then 1 else if a = b then 0 else -1) :: r) M R))
  | .i2l => popI st (fun a r => nx (pc + 1) lv (vJ a :: r) M R)
  | .dup => popV st (fun v r => gd (catA v = 1) (nx (pc + 1) lv (v :: v :: r) M R))
  | .dup2 => popV st (fun a r => popV r (fun b r => gd (catA a = 1 ∧ catA b = 1) (nx (pc + 1) lv (a :: b :: a :: b :: r) M R)))
  | .pop => popV st (fun v r => gd (catA v = 1) (nx (pc + 1) lv r M R))
  | .if_icmp c off => popI st (fun b r => popI r (fun a r => br pc off (fun t => if cnd c a b = true then nx t lv r M R else nx (pc + 3) lv r M R)))
  | .ifCond c off => popI st (fun a r => br pc off (fun t => if cnd c a 0 = true then nx t lv r M R else nx (pc + 3) lv r M R))
  | .ifnonnull off => popA st (fun o r => if o = 0 then nx (pc + 3) lv r M R else br pc off (fun t => nx t lv r M R))
  | .goto off => br pc off (fun t => nx t lv st M R)
  | .tableswitch d lo hi offs => popI st (fun x r => if x < lo ∨ hi < x then br pc d (fun t => nx t lv r M R) else offs[(x - lo).toNat]?.bind (fun off => br pc off (fun t => nx t lv r M R)))
  | .lookupswitch d ps => popI st (fun x r => gd (sw_ok ps.toList = true) (br pc (Op.lookupswitch.offset ps.toList d x) (fun t => nx t lv r M R)))
  | .getfield i => popA st (fun o r => (fldT (clsOf mi) i).bind (fun f => gd (kindOf o = f.1) (nx (pc + 3) lv ((if ftyp f.1 f.2 = 1 then vA (R o f.2) else vI (M o f.2)) :: r) M R)))
  | .putfield i => popV st (fun v r => popA r (fun o r => (fldT (clsOf mi) i).bind (fun f => gd (kindOf o = f.1 ∧ finOk mi f.1 f.2 = true) (if ftyp f.1 f.2 = 1 then popA [v] (fun q _ => nx (pc + 3) lv r M (up R o f.2 q)) else popI [v] (fun x _ => gd (ftyp f.1 f.2 = 0 ∨ (ftyp f.1 f.2 = 2 ∧ (x = 0 ∨ x = 1))) (nx (pc + 3) lv r (up M o f.2 x) R))))))
  | .iaload => popI st (fun i r => popX 2 r (fun r => gd (0 ≤ i ∧ i < (R 0 2 : Int)) (nx (pc + 1) lv (vI (M 0 i.toNat) :: r) M R)) (popA r (fun o r => gd (kindOf o = 13 ∧ 0 ≤ i ∧ i < (R 0 (o + 2) : Int)) (nx (pc + 1) lv (vI (M o i.toNat) :: r) M R))))
  | .baload => popI st (fun i r => popA r (fun o r => gd (kindOf o = 15 ∧ 0 ≤ i ∧ i < (R 0 (o + 2) : Int)) (nx (pc + 1) lv (vI (M o i.toNat) :: r) M R)))
  | .laload => popI st (fun i r => popA r (fun o r => gd (kindOf o = 14 ∧ 0 ≤ i ∧ i < (R 0 (o + 2) : Int)) (nx (pc + 1) lv (vJ (M o i.toNat) :: r) M R)))
  | .aaload => popI st (fun i r => popA r (fun o r => gd ((kindOf o = 16 ∨ kindOf o = 17) ∧ 0 ≤ i ∧ i < (R 0 (o + 2) : Int)) (nx (pc + 1) lv (vA (R o i.toNat) :: r) M R)))
  | .iastore => popI st (fun x r => popI r (fun i r => popA r (fun o r => gd (kindOf o = 13 ∧ 0 ≤ i ∧ i < (R 0 (o + 2) : Int)) (nx (pc + 1) lv r (up M o i.toNat x) R))))
  | .bastore => popI st (fun x r => popI r (fun i r => popA r (fun o r => gd (kindOf o = 15 ∧ (x = 0 ∨ x = 1) ∧ 0 ≤ i ∧ i < (R 0 (o + 2) : Int)) (nx (pc + 1) lv r (up M o i.toNat x) R))))
  | .lastore => popJ st (fun x r => popI r (fun i r => popA r (fun o r => gd (kindOf o = 14 ∧ 0 ≤ i ∧ i < (R 0 (o + 2) : Int)) (nx (pc + 1) lv r (up M o i.toNat x) R))))
  | .aastore => popA st (fun q r => popI r (fun i r => popA r (fun o r => gd (((kindOf o = 16 ∧ kindOf q = 4) ∨ (kindOf o = 17 ∧ kindOf q = 7)) ∧ 0 ≤ i ∧ i < (R 0 (o + 2) : Int)) (nx (pc + 1) lv r M (up R o i.toNat q)))))
  | .arraylength => popX 2 st (fun r => nx (pc + 1) lv (vI (R 0 2) :: r) M R) (popA st (fun o r => gd (13 ≤ kindOf o ∧ kindOf o ≤ 17) (nx (pc + 1) lv (vI (R 0 (o + 2)) :: r) M R)))
  | .newarray t => popI st (fun n r => gd (0 ≤ n ∧ n ≤ 100000 ∧ ((t = .int ∧ kindOf (nu R) = 13) ∨ (t = .long ∧ kindOf (nu R) = 14) ∨ (t = .boolean ∧ kindOf (nu R) = 15))) (nx (pc + 2) lv (vA (nu R) :: r) (newM M R) (newR R n.toNat n.toNat)))
  | .anewarray i => popI st (fun n r => (anwT (clsOf mi) i).bind (fun kd => gd (0 ≤ n ∧ n ≤ 100000 ∧ kindOf (nu R) = kd ∧ (kd = 16 ∨ kd = 17)) (nx (pc + 3) lv (vA (nu R) :: r) (newM M R) (newR R n.toNat n.toNat))))
  | .new i => (newT (clsOf mi) i).bind (fun k => gd (kindOf (nu R) = k) (nx (pc + 3) lv (vA (nu R) :: st) (newM M R) (newR R 0 (nF k))))
  | .checkcast i => popA st (fun o r => gd (clsOf mi = 16 ∧ i = 317 ∧ kindOf o = 13) (nx (pc + 3) lv (vA o :: r) M R))
  | .invokespecial i => if bltT (clsOf mi) i = some 1 then popA st (fun o r => gd (0 < o ∧ catS r ≤ 8) (nx (pc + 3) lv r M R))
    else (mthT (clsOf mi) i).bind (fun f => popA (st.drop (narOf f.2)) (fun o rest => gd (f.1 = 3 ∧ kindOf o = clsOf f.2) (callK cf mi pc lv M R f.2 (vA o :: (st.take (narOf f.2)).reverse) rest)))
  | .invokevirtual i => if bltT (clsOf mi) i = some 3 then popA st (fun o r => gd (kindOf o = 13 ∧ kindOf (nu R) = 13 ∧ catS r ≤ 8) (nx (pc + 3) lv (vA (nu R) :: r) (upf M (nu R) (M o)) (newR R (R 0 (o + 2)) (R 0 (o + 2)))))
    else if bltT (clsOf mi) i = some 7 then popX 1 st (fun r => gd (catS r ≤ 8) (nx (pc + 3) lv (vI 72 :: r) M R)) none
    else if bltT (clsOf mi) i = some 8 then popI st (fun j r => popX 1 r (fun r => gd (catS r ≤ 8 ∧ 0 ≤ j ∧ j < 72) (nx (pc + 3) lv (vI (wordsC.getD j.toNat 0) :: r) M R)) none)
    else (mthT (clsOf mi) i).bind (fun f => popA (st.drop (narOf f.2)) (fun o rest => gd (f.1 = 2 ∧ kindOf o = clsOf f.2) (callK cf mi pc lv M R f.2 (vA o :: (st.take (narOf f.2)).reverse) rest)))
  | .invokestatic i => if bltT (clsOf mi) i = some 2 then popI st (fun n r => popI r (fun dp r => popA r (fun b r => popI r (fun sp r => popA r (fun a r => gd (kindOf a = 13 ∧ kindOf b = 13 ∧ 0 ≤ sp ∧ 0 ≤ dp ∧ 0 ≤ n ∧ sp + n ≤ (R 0 (a + 2) : Int) ∧ dp + n ≤ (R 0 (b + 2) : Int) ∧ catS r ≤ 8) (nx (pc + 3) lv r (upf M b (cpf (M a) (M b) sp.toNat dp.toNat n.toNat)) R))))))
    else if bltT (clsOf mi) i = some 4 then popI st (fun b r => popI r (fun a r => gd (catS r ≤ 8) (nx (pc + 3) lv (vI (max a b) :: r) M R)))
    else if bltT (clsOf mi) i = some 5 then popI st (fun b r => popI r (fun a r => gd (catS r ≤ 8) (nx (pc + 3) lv (vI (min a b) :: r) M R)))
    else if bltT (clsOf mi) i = some 6 then popJ st (fun a r => gd (catS r ≤ 8) (nx (pc + 3) lv (vJ (if a < 0 then w64 (-a) else a) :: r) M R))
    else (mthT (clsOf mi) i).bind (fun f => gd (f.1 = 1 ∧ narOf f.2 ≤ st.length) (callK cf mi pc lv M R f.2 (st.take (narOf f.2)).reverse (st.drop (narOf f.2))))
  | .ireturn => popI st (fun x r => gd (r = []) (some (.inl (vI x, M, R))))
  | .lreturn => popJ st (fun x r => gd (r = []) (some (.inl (vJ x, M, R))))
  | .areturn => popA st (fun o r => gd (r = []) (some (.inl (vA o, M, R))))
  | .return_ => gd (st = []) (some (.inl (vX 0, M, R)))
  | _ => none
-- what a step that goes on says of its stack
theorem popI_inv {st : List AV} {k : Int → List AV → Option St} {x : St} (h : popI st k = some x) : ∃ a r, st = vI a :: r ∧ k a r = some x := by
  unfold popI at h
  split at h
  · exact ⟨_, _, rfl, h⟩
  · cases h
theorem popJ_inv {st : List AV} {k : Int → List AV → Option St} {x : St} (h : popJ st k = some x) : ∃ a r, st = vJ a :: r ∧ k a r = some x := by
  unfold popJ at h
  split at h
  · exact ⟨_, _, rfl, h⟩
  · cases h
theorem popA_inv {st : List AV} {k : Nat → List AV → Option St} {x : St} (h : popA st k = some x) : ∃ a r, st = vA a :: r ∧ k a r = some x := by
  unfold popA at h
  split at h
  · exact ⟨_, _, rfl, h⟩
  · cases h
theorem popV_inv {st : List AV} {k : AV → List AV → Option St} {x : St} (h : popV st k = some x) : ∃ a r, st = a :: r ∧ k a r = some x := by
  unfold popV at h
  split at h
  · exact ⟨_, _, rfl, h⟩
  · cases h
theorem popX_inv {n : Nat} {st : List AV} {k : List AV → Option St} {k1 : Option St} {x : St} (h : popX n st k k1 = some x) : (∃ r, st = vX n :: r ∧ k r = some x) ∨ k1 = some x := by
  unfold popX at h
  split at h
  · split at h
    · rename_i q r e
      subst e
      exact .inl ⟨_, rfl, h⟩
    · exact .inr h
  · exact .inr h
theorem gd_inv {p : Prop} [Decidable p] {k : Option St} {x : St} (h : gd p k = some x) : p ∧ k = some x := by
  unfold gd at h
  split at h
  · exact ⟨by assumption, h⟩
  · cases h
theorem i2_inv {f : Int → Int → Int} {st : List AV} {k : List AV → Option St} {x : St} (h : i2 f st k = some x) : ∃ a b r, st = vI b :: vI a :: r ∧ k (vI (f a b) :: r) = some x := by
  unfold i2 at h
  split at h
  · exact ⟨_, _, _, rfl, h⟩
  · cases h
theorem i1_inv {f : Int → Int} {st : List AV} {k : List AV → Option St} {x : St} (h : i1 f st k = some x) : ∃ a r, st = vI a :: r ∧ k (vI (f a) :: r) = some x := by
  unfold i1 at h
  split at h
  · exact ⟨_, _, rfl, h⟩
  · cases h
theorem l2_inv {f : Int → Int → Int} {st : List AV} {k : List AV → Option St} {x : St} (h : l2 f st k = some x) : ∃ a b r, st = vJ b :: vJ a :: r ∧ k (vJ (f a b) :: r) = some x := by
  unfold l2 at h
  split at h
  · exact ⟨_, _, _, rfl, h⟩
  · cases h
theorem ldI_inv {lv : List AV} {i : Nat} {k : AV → Option St} {x : St} (h : ldI lv i k = some x) : ∃ a, lv[i]? = some (vI a) ∧ k (vI a) = some x := by
  unfold ldI at h
  split at h
  · exact ⟨_, by assumption, h⟩
  · cases h
theorem ldJ_inv {lv : List AV} {i : Nat} {k : AV → Option St} {x : St} (h : ldJ lv i k = some x) : ∃ a, lv[i]? = some (vJ a) ∧ k (vJ a) = some x := by
  unfold ldJ at h
  split at h
  · exact ⟨_, by assumption, h⟩
  · cases h
theorem ldA_inv {lv : List AV} {i : Nat} {k : AV → Option St} {x : St} (h : ldA lv i k = some x) : (∃ a, lv[i]? = some (vA a) ∧ k (vA a) = some x) ∨ (lv[i]? = some (vX 2) ∧ k (vX 2) = some x) := by
  unfold ldA at h
  split at h
  · exact .inl ⟨_, by assumption, h⟩
  · exact .inr ⟨by assumption, h⟩
  · cases h
theorem sto_inv {lv : List AV} {i : Nat} {v : AV} {k : List AV → Option St} {x : St} (h : sto lv i v k = some x) : i < lv.length ∧ k ((clr lv i).set i v) = some x := by
  unfold sto at h
  split at h
  · exact ⟨by assumption, h⟩
  · cases h
theorem stoJ_inv {lv : List AV} {i : Nat} {v : AV} {k : List AV → Option St} {x : St} (h : stoJ lv i v k = some x) : i + 1 < lv.length ∧ k (((clr lv i).set i v).set (i + 1) (vX 0)) = some x := by
  unfold stoJ at h
  split at h
  · exact ⟨by assumption, h⟩
  · cases h
theorem br_inv {pc : Nat} {off : Int} {k : Nat → Option St} {x : St} (h : br pc off k = some x) : ∃ t : Nat, (pc : Int) + off = (t : Int) ∧ k t = some x := by
  unfold br at h
  split at h
  · exact ⟨_, (Int.toNat_of_nonneg (by assumption)).symm, h⟩
  · cases h
def stp (cf : CF) (mi pc : Nat) (lv st : List AV) (M : MM) (R : RR) : Option St := match decode (codeOf mi) pc with
  | .ok (ins, len) => if ilen ins = len ∨ ilen ins = 0 then sti cf mi pc lv st M R ins else none
  | .error _ => none
def rn (cf : CF) (mi : Nat) : Nat → Nat → List AV → List AV → MM → RR → Option Res
  | 0, _, _, _, _, _ => none
  | n + 1, pc, lv, st, M, R => match stp cf mi pc lv st M R with
    | none => none
    | some (.inl r) => some r
    | some (.inr (pc', lv', st', M', R')) => rn cf mi n pc' lv' st' M' R'
theorem rn_more (cf : CF) (mi : Nat) {n : Nat} (k : Nat) : ∀ {pc : Nat} {lv st : List AV} {M : MM} {R : RR} {r : Res}, rn cf mi n pc lv st M R = some r → rn cf mi (n + k) pc lv st M R = some r := by
  induction n with
  | zero => intro pc lv st M R r h; simp [rn] at h
  | succ n ih =>
    intro pc lv st M R r h
    rw [Nat.add_right_comm]
    simp only [rn] at h ⊢
    split at h
    · cases h
    · exact h
    · exact ih h
theorem rn_same {cf : CF} {mi n k pc : Nat} {lv st : List AV} {M : MM} {R : RR} {r q : Res} (h : rn cf mi n pc lv st M R = some r) (g : rn cf mi k pc lv st M R = some q) : r = q := by
  have h1 := rn_more cf mi k h
  have h2 := rn_more cf mi n g
  rw [Nat.add_comm] at h2
  exact Option.some.inj (h1.symm.trans h2)
noncomputable def run (cf : CF) (mi pc : Nat) (lv st : List AV) (M : MM) (R : RR) : Option Res :=
  Classical.epsilon (fun o : Option Res => ∀ r, o = some r ↔ ∃ n, rn cf mi n pc lv st M R = some r)
theorem run_iff {cf : CF} {mi pc : Nat} {lv st : List AV} {M : MM} {R : RR} {r : Res} : run cf mi pc lv st M R = some r ↔ ∃ n, rn cf mi n pc lv st M R = some r := by
  have h : ∃ o : Option Res, ∀ r, o = some r ↔ ∃ n, rn cf mi n pc lv st M R = some r := by
    rcases Classical.em (∃ n r, rn cf mi n pc lv st M R = some r) with ⟨n, q, hn⟩ | hx
    · refine ⟨some q, fun r => ⟨fun e => ?_, fun e => ?_⟩⟩
      · cases e; exact ⟨n, hn⟩
      · obtain ⟨k, hk⟩ := e
        exact congrArg some (rn_same hn hk)
    · exact ⟨none, fun r => ⟨fun e => (by cases e), fun ⟨k, hk⟩ => absurd ⟨k, r, hk⟩ hx⟩⟩
  exact Classical.epsilon_spec h r
theorem run_eq (cf : CF) (mi pc : Nat) (lv st : List AV) (M : MM) (R : RR) : run cf mi pc lv st M R = (match stp cf mi pc lv st M R with
    | none => none
    | some (.inl r) => some r
    | some (.inr (pc', lv', st', M', R')) => run cf mi pc' lv' st' M' R') := by
  apply Option.ext
  intro r
  rw [run_iff]
  split
  · rename_i h
    constructor
    · rintro ⟨n, hn⟩
      cases n with
      | zero => simp [rn] at hn
      | succ n => simp [rn, h] at hn
    · intro h; cases h
  · rename_i q h
    constructor
    · rintro ⟨n, hn⟩
      cases n with
      | zero => simp [rn] at hn
      | succ n => simpa [rn, h] using hn
    · intro h2; exact ⟨1, by simpa [rn, h] using h2⟩
  · rename_i pc' lv' st' M' R' h
    rw [run_iff]
    constructor
    · rintro ⟨n, hn⟩
      cases n with
      | zero => simp [rn] at hn
      | succ n => exact ⟨n, by simpa [rn, h] using hn⟩
    · rintro ⟨n, hn⟩
      exact ⟨n + 1, by simpa [rn, h] using hn⟩
/-- the places of the arguments -/
def flatA (av : List AV) : List AV := av.flatMap fun v => if catA v = 2 then [v, vX 0] else [v]
def lv0 (n : Nat) (av : List AV) : List AV := flatA av ++ List.replicate (n - (flatA av).length) (vX 0)
def retOk (mi : Nat) (v : AV) : Bool := match retOf mi, v with
  | none, .inr (.inr (.inr 0)) => true
  | some .int, .inl _ => true
  | some .long, .inr (.inl _) => true
  | some .boolean, .inl x => x == 0 || x == 1
  | some (.object _), .inr (.inr (.inl _)) => true
  | some (.array _), .inr (.inr (.inl _)) => true
  | _, _ => false
noncomputable def call : Nat → CF
  | 0 => fun _ _ _ _ => none
  | d + 1 => fun mi av M R => if mi < 261 ∧ (flatA av).length ≤ maxLOf mi then (run (call d) mi 0 (lv0 (maxLOf mi) av) [] M R).bind (fun q => if retOk mi q.1 = true then some q else none) else none
theorem call_of {d mi : Nat} {av : List AV} {M : MM} {R : RR} {q : Res} (n : Nat) (lv : List AV) (h1 : mi < 261) (hm : maxLOf mi = n) (h2 : (flatA av).length ≤ n) (hl : lv0 n av = lv) (h : run (call d) mi 0 lv [] M R = some q) (h3 : retOk mi q.1 = true) : call (d + 1) mi av M R = some q := by
  subst hm; subst hl
  simp [call, h1, h2, h, h3]
