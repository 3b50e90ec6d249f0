/-! ===== the cells that the two constructors lay, in their order ===== -/
def zshL : List (Nat × Int) := [(18, 0), (12, 0), (0, 180), (12, 0), (0, 180), (11, 0), (4, 25), (10, 0), (0, 63), (0, 3), (0, 3), (10, 0), (0, 63), (0, 3), (0, 3), (10, 0), (0, 63), (0, 3), (0, 3), (10, 0), (0, 63), (0, 3), (0, 3), (10, 0), (0, 63), (0, 3), (0, 3), (10, 0), (0, 63), (0, 3), (0, 3), (10, 0), (0, 63), (0, 3), (0, 3), (10, 0), (0, 63), (0, 3), (0, 3), (10, 0), (0, 63), (0, 3), (0, 3), (10, 0), (0, 63), (0, 3), (0, 3), (10, 0), (0, 63), (0, 3), (0, 3), (10, 0), (0, 63), (0, 3), (0, 3), (10, 0), (0, 63), (0, 3), (0, 3), (10, 0), (0, 63), (0, 3), (0, 3), (10, 0), (0, 63), (0, 3), (0, 3), (10, 0), (0, 63), (0, 3), (0, 3), (10, 0), (0, 63), (0, 3), (0, 3), (10, 0), (0, 63), (0, 3), (0, 3), (10, 0), (0, 63), (0, 3), (0, 3), (10, 0), (0, 63), (0, 3), (0, 3), (10, 0), (0, 63), (0, 3), (0, 3), (10, 0), (0, 63), (0, 3), (0, 3), (10, 0), (0, 63), (0, 3), (0, 3), (10, 0), (0, 63), (0, 3), (0, 3), (10, 0), (0, 63), (0, 3), (0, 3), (11, 0), (4, 25), (10, 0), (0, 63), (0, 3), (0, 3), (10, 0), (0, 63), (0, 3), (0, 3), (10, 0), (0, 63), (0, 3), (0, 3), (10, 0), (0, 63), (0, 3), (0, 3), (10, 0), (0, 63), (0, 3), (0, 3), (10, 0), (0, 63), (0, 3), (0, 3), (10, 0), (0, 63), (0, 3), (0, 3), (10, 0), (0, 63), (0, 3), (0, 3), (10, 0), (0, 63), (0, 3), (0, 3), (10, 0), (0, 63), (0, 3), (0, 3), (10, 0), (0, 63), (0, 3), (0, 3), (10, 0), (0, 63), (0, 3), (0, 3), (10, 0), (0, 63), (0, 3), (0, 3), (10, 0), (0, 63), (0, 3), (0, 3), (10, 0), (0, 63), (0, 3), (0, 3), (10, 0), (0, 63), (0, 3), (0, 3), (10, 0), (0, 63), (0, 3), (0, 3), (10, 0), (0, 63), (0, 3), (0, 3), (10, 0), (0, 63), (0, 3), (0, 3), (10, 0), (0, 63), (0, 3), (0, 3), (10, 0), (0, 63), (0, 3), (0, 3), (10, 0), (0, 63), (0, 3), (0, 3), (10, 0), (0, 63), (0, 3), (0, 3), (10, 0), (0, 63), (0, 3), (0, 3), (10, 0), (0, 63), (0, 3), (0, 3), (15, 0), (0, 8), (0, 8), (1, 320), (17, 0), (0, 250), (14, 0), (0, 250), (0, 250), (0, 250), (16, 0), (99, 0), (0, 500), (0, 500), (0, 1000), (0, 500), (0, 1000), (0, 500), (3, 500), (0, 500), (13, 0), (0, 60), (0, 5), (3, 1000), (19, 0), (0, 8), (0, 8), (0, 8), (5, 8), (1, 40), (1, 40), (1, 40), (1, 40), (1, 40), (1, 40), (1, 40), (1, 40), (1, 40), (0, 8), (0, 250), (0, 8), (0, 180), (0, 24), (0, 24), (0, 192), (0, 180), (0, 24), (0, 24), (0, 192), (2, 24000), (0, 24), (0, 24), (0, 24), (0, 1000), (0, 1000), (0, 60), (0, 8)]
/-! ===== the small machine: a memory of whole numbers by cell and place; ints, longs and references with a tag on the stack ===== -/
abbrev ZV : Type := Int ⊕ Int ⊕ Int
abbrev ZL : Type := List (Option ZV)
abbrev ZS : Type := List ZV
abbrev ZM : Type := Int → Int → Int
abbrev ZC : Type := Nat × ZL × ZS × ZM
abbrev zI (x : Int) : ZV := Sum.inl x
abbrev zJ (x : Int) : ZV := Sum.inr (Sum.inl x)
abbrev zA (x : Int) : ZV := Sum.inr (Sum.inr x)
def zset (M : ZM) (a j v : Int) : ZM := fun a' j' => if a' = a ∧ j' = j then v else M a' j'
def zb (z : Int) : Int := Int.bmod z 4294967296
def zand (x y : Int) : Int := (Int32.ofInt x &&& Int32.ofInt y).toInt
def zor (x y : Int) : Int := (Int32.ofInt x ||| Int32.ofInt y).toInt
def zxor (x y : Int) : Int := (Int32.ofInt x ^^^ Int32.ofInt y).toInt
def zshl (x y : Int) : Int := (Int32.ofInt x <<< (Int32.ofInt y &&& 31)).toInt
def zshr (x y : Int) : Int := (Int32.ofInt x >>> (Int32.ofInt y &&& 31)).toInt
def zushr (x y : Int) : Int := ((Int32.ofInt x).toUInt32 >>> ((Int32.ofInt y).toUInt32 &&& Int32.toUInt32 31)).toInt32.toInt
def zlshl (x y : Int) : Int := (Int64.ofInt x <<< ((Int32.ofInt y).toInt64 &&& 63)).toInt
def zland (x y : Int) : Int := (Int64.ofInt x &&& Int64.ofInt y).toInt
def zlor (x y : Int) : Int := (Int64.ofInt x ||| Int64.ofInt y).toInt
def zlcmp (x y : Int) : Int := if y < x then 1 else if x = y then 0 else -1
def zi2b (x : Int) : Int := (Int32.ofInt x).toInt8.toInt32.toInt
def zi2s (x : Int) : Int := (Int32.ofInt x).toInt16.toInt32.toInt
/-- the kinds of cells: 0 ints, 1 longs, 2 bytes, 3 booleans, 4 conditions, 5 rows of longs, 10 + c an object, 20 a table, 21 the script -/
def zsh (a : Int) : Nat × Int := if a < 3 then (if a = 0 then (21, 0) else if a = 1 then (20, 18) else if a = 2 then (20, 3) else (99, 0)) else (zshL[(a - 3).toNat]?).getD (99, 0)
def zcl (k : Nat) : Nat := (zrow k).2.2.2.2.2.2.1
def zkind (k : Nat) : Nat := (zrow k).2.2.2.2.1
def zmaxL (k : Nat) : Nat := (zrow k).2.2.1
def zret (k : Nat) : Option FieldType := (zrow k).2.2.2.1
def znp (k : Nat) : Nat := (zrow k).2.2.2.2.2.1
def zget (ls : ZL) (i : Nat) : Option ZV := match ls[i]? with
  | some (some v) => some v
  | _ => none
def z2 : ZV → Bool
  | .inr (.inl _) => true
  | _ => false
def zclr (ls : ZL) (i : Nat) : ZL := match i with
  | 0 => ls
  | j + 1 => match zget ls j with
    | some (.inr (.inl _)) => ls.set j none
    | _ => ls
def zput (ls : ZL) (i : Nat) (v : ZV) : ZL := match v with
  | .inr (.inl _) => ((zclr ls i).set i (some v)).set (i + 1) none
  | _ => (zclr ls i).set i (some v)
def zcat : ZS → Nat
  | [] => 0
  | .inr (.inl _) :: r => 2 + zcat r
  | _ :: r => 1 + zcat r
def zcmp (c : ClassFile.Cond) (x y : Int) : Bool := match c with
  | .eq => decide (x = y)
  | .ne => !decide (x = y)
  | .lt => decide (x < y)
  | .ge => !decide (x < y)
  | .gt => decide (y < x)
  | .le => decide (x ≤ y)
def zjump (pc : Nat) (off : Int) (ls : ZL) (st : ZS) (M : ZM) : Option ZC := if 0 ≤ (pc : Int) + off then some (((pc : Int) + off).toNat, ls, st, M) else none
def zbr (b : Bool) (pc : Nat) (off : Int) (ls : ZL) (st : ZS) (M : ZM) : Option ZC := if 0 ≤ (pc : Int) + off then (if b = true then some (((pc : Int) + off).toNat, ls, st, M) else some (pc + 3, ls, st, M)) else none
def zbin (f : Int → Int → Int) (pc : Nat) (ls : ZL) (st : ZS) (M : ZM) : Option ZC := match st with
  | .inl y :: .inl x :: r => some (pc, ls, .inl (f x y) :: r, M)
  | _ => none
def zldI (v : Option ZV) (pc : Nat) (ls : ZL) (st : ZS) (M : ZM) : Option ZC := match v with
  | some (.inl x) => some (pc, ls, .inl x :: st, M)
  | _ => none
def zldJ (v : Option ZV) (pc : Nat) (ls : ZL) (st : ZS) (M : ZM) : Option ZC := match v with
  | some (.inr (.inl x)) => some (pc, ls, zJ x :: st, M)
  | _ => none
def zldA (v : Option ZV) (pc : Nat) (ls : ZL) (st : ZS) (M : ZM) : Option ZC := match v with
  | some (.inr (.inr x)) => if 0 ≤ x then some (pc, ls, zA x :: st, M) else none
  | _ => none
def zstI (i pc : Nat) (ls : ZL) (st : ZS) (M : ZM) : Option ZC := match st with
  | .inl x :: r => if i < ls.length then some (pc, zput ls i (zI x), r, M) else none
  | _ => none
def zstJ (i pc : Nat) (ls : ZL) (st : ZS) (M : ZM) : Option ZC := match st with
  | .inr (.inl x) :: r => if i + 1 < ls.length then some (pc, zput ls i (zJ x), r, M) else none
  | _ => none
def zstA (i pc : Nat) (ls : ZL) (st : ZS) (M : ZM) : Option ZC := match st with
  | .inr (.inr x) :: r => if 0 ≤ x ∧ i < ls.length then some (pc, zput ls i (zA x), r, M) else none
  | _ => none
def ztag (ty : FieldType) (x : Int) : Option ZV := match ty with
  | .int => some (zI x)
  | .boolean => some (zI x)
  | .object _ => some (zA x)
  | .array _ => some (zA x)
  | _ => none
/-- may a field of this type get this value? its number, then -/
def zfit (ty : FieldType) (v : ZV) : Option Int := match ty, v with
  | .int, .inl x => some x
  | .boolean, .inl x => if 0 ≤ x ∧ x ≤ 1 then some x else none
  | .object _, .inr (.inr x) => if 0 ≤ x then some x else none
  | .array _, .inr (.inr x) => if 0 ≤ x then some x else none
  | _, _ => none
def zfin (k ci : Nat) (j : Nat) : Bool := !(zTX ci j).2.2.2 || (Nat.beq (zkind k) 2 && Nat.beq (zcl k) ci)
def zgetf (e : Option (Nat × Nat × zPos)) (pc : Nat) (ls : ZL) (st : ZS) (M : ZM) : Option ZC := match e, st with
  | some (ci, j, _), .inr (.inr a) :: r => if zsh a = (10 + ci, 0) then (match ztag (ztyX ci j) (M a j) with | some v => some (pc, ls, v :: r, M) | none => none) else none
  | _, _ => none
def zputf (k : Nat) (e : Option (Nat × Nat × zPos)) (pc : Nat) (ls : ZL) (st : ZS) (M : ZM) : Option ZC := match e, st with
  | some (ci, j, _), v :: .inr (.inr a) :: r => if zsh a = (10 + ci, 0) ∧ zfin k ci j = true then (match zfit (ztyX ci j) v with | some x => some (pc, ls, r, zset M a j x) | none => none) else none
  | _, _ => none
def zlen (M : ZM) (a : Int) : Int := if a = 0 then M 0 (-1) else (zsh a).2
def zaldI (pc : Nat) (ls : ZL) (st : ZS) (M : ZM) : Option ZC := match st with
  | .inl i :: .inr (.inr a) :: r => if ((zsh a).1 = 0 ∨ (zsh a).1 = 20 ∨ (zsh a).1 = 21) ∧ 0 ≤ i ∧ i < zlen M a then some (pc, ls, zI (M a i) :: r, M) else none
  | _ => none
def zaldB (pc : Nat) (ls : ZL) (st : ZS) (M : ZM) : Option ZC := match st with
  | .inl i :: .inr (.inr a) :: r => if ((zsh a).1 = 2 ∨ (zsh a).1 = 3) ∧ 0 ≤ i ∧ i < zlen M a then some (pc, ls, zI (M a i) :: r, M) else none
  | _ => none
def zaldJ (pc : Nat) (ls : ZL) (st : ZS) (M : ZM) : Option ZC := match st with
  | .inl i :: .inr (.inr a) :: r => if (zsh a).1 = 1 ∧ 0 ≤ i ∧ i < zlen M a then some (pc, ls, zJ (M a i) :: r, M) else none
  | _ => none
def zaldA (pc : Nat) (ls : ZL) (st : ZS) (M : ZM) : Option ZC := match st with
  | .inl i :: .inr (.inr a) :: r => if ((zsh a).1 = 4 ∨ (zsh a).1 = 5) ∧ 0 ≤ i ∧ i < zlen M a then some (pc, ls, zA (M a i) :: r, M) else none
  | _ => none
def zastI (pc : Nat) (ls : ZL) (st : ZS) (M : ZM) : Option ZC := match st with
  | .inl x :: .inl i :: .inr (.inr a) :: r => if (zsh a).1 = 0 ∧ 0 ≤ i ∧ i < zlen M a then some (pc, ls, r, zset M a i x) else none
  | _ => none
def zastB (pc : Nat) (ls : ZL) (st : ZS) (M : ZM) : Option ZC := match st with
  | .inl x :: .inl i :: .inr (.inr a) :: r => if (((zsh a).1 = 2 ∧ -128 ≤ x ∧ x ≤ 127) ∨ ((zsh a).1 = 3 ∧ 0 ≤ x ∧ x ≤ 1)) ∧ 0 ≤ i ∧ i < zlen M a then some (pc, ls, r, zset M a i x) else none
  | _ => none
def zastJ (pc : Nat) (ls : ZL) (st : ZS) (M : ZM) : Option ZC := match st with
  | .inr (.inl x) :: .inl i :: .inr (.inr a) :: r => if (zsh a).1 = 1 ∧ 0 ≤ i ∧ i < zlen M a then some (pc, ls, r, zset M a i x) else none
  | _ => none
def zastA (pc : Nat) (ls : ZL) (st : ZS) (M : ZM) : Option ZC := match st with
  | .inr (.inr x) :: .inl i :: .inr (.inr a) :: r => if (zsh a).1 = 4 ∧ zsh x = (10, 0) ∧ 0 ≤ i ∧ i < zlen M a then some (pc, ls, r, zset M a i x) else none
  | _ => none
def zalen (pc : Nat) (ls : ZL) (st : ZS) (M : ZM) : Option ZC := match st with
  | .inr (.inr a) :: r => if (zsh a).1 ≤ 5 ∨ (zsh a).1 = 21 then some (pc, ls, zI (zlen M a) :: r, M) else none
  | _ => none
/-- what a new cell holds at its places -/
def zdef (t : Nat) (j : Int) : Int := if t = 4 ∨ t = 5 then -1 else if 10 ≤ t then (match ztyX (t - 10) j.toNat with | .object _ => -1 | .array _ => -1 | _ => 0) else 0
def znx (M : ZM) : Int := M (-1) 0
/-- the number 223 stands for no cell: the cells behind it keep the numbers that they had of old -/
def zskip (M : ZM) : ZM := fun a j => if (a = -1 ∧ j = 0) ∧ M (-1) 0 = 223 then 224 else M a j
def zmake (M : ZM) : ZM := fun a j => if a = -1 ∧ j = 0 then M (-1) 0 + 1 else if a = M (-1) 0 then zdef (zsh a).1 j else M a j
def znew (e : Option (Nat × zPos)) (pc : Nat) (ls : ZL) (st : ZS) (M : ZM) : Option ZC := match e with
  | some (ci, _) => if ci < 90 ∧ zsh (znx M) = (10 + ci, 0) then some (pc, ls, zA (znx M) :: st, zmake M) else none
  | none => none
def zatype : ArrayType → Nat
  | .int => 0
  | .long => 1
  | .byte => 2
  | .boolean => 3
  | _ => 98
def znewa (t : Nat) (pc : Nat) (ls : ZL) (st : ZS) (M : ZM) : Option ZC := match st with
  | .inl n :: r => if t ≤ 4 ∧ zsh (znx M) = (t, n) ∧ 0 ≤ n ∧ n ≤ 100000 then some (pc, ls, zA (znx M) :: r, zmake M) else none
  | _ => none
def zkon (long : Nat) (e : Option (Nat × Int × zPos)) (pc : Nat) (ls : ZL) (st : ZS) (M : ZM) : Option ZC := match e with
  | some (w, x, _) => if w = long then some (pc, ls, (if long = 0 then zI x else zJ x) :: st, M) else none
  | none => none
def zkonS (e : Option (Nat × Int × zPos)) (pc : Nat) (ls : ZL) (st : ZS) (M : ZM) : Option ZC := match e with
  | some (w, x, _) => if w = 2 then some (pc, ls, zA x :: st, M) else if w = 0 then some (pc, ls, zI x :: st, M) else none
  | none => none
def zcopy (M : ZM) (b p a q n : Int) : ZM := fun x j => if x = a ∧ q ≤ j ∧ j < q + n then M b (p + (j - q)) else M x j
def zacopy (pc : Nat) (ls : ZL) (st : ZS) (M : ZM) : Option ZC := match st with
  | .inl n :: .inl q :: .inr (.inr a) :: .inl p :: .inr (.inr b) :: r => if (zsh a).1 ≤ 2 ∧ (zsh b).1 = (zsh a).1 ∧ 0 ≤ n ∧ 0 ≤ q ∧ 0 ≤ p ∧ p + n ≤ (zsh b).2 ∧ q + n ≤ (zsh a).2 ∧ zcat r ≤ 8 ∧ 236 ≤ znx M then some (pc, ls, r, zcopy M b p a q n) else none
  | _ => none
def zmm (t pc : Nat) (ls : ZL) (st : ZS) (M : ZM) : Option ZC := match st with
  | .inl y :: .inl x :: r => if zcat r ≤ 8 then some (pc, ls, zI (if t = 1002 then (if x < y then y else x) else (if y < x then y else x)) :: r, M) else none
  | _ => none
/-- the signs of the law's two texts: -2 and -3 stand for them -/
def zchr (a i : Int) : Int := if a = -2 then (if i = 0 then 60 else if i = 1 then 61 else if i = 2 then 62 else 126) else (if i = 0 then 38 else 124)
def zchar (d pc : Nat) (ls : ZL) (st : ZS) (M : ZM) : Option ZC := match st with
  | .inl i :: .inr (.inr a) :: r => if 4 ≤ d ∧ zcat r ≤ 8 ∧ ((a = -2 ∧ 0 ≤ i ∧ i < 4) ∨ (a = -3 ∧ 0 ≤ i ∧ i < 2)) then some (pc, ls, zI (zchr a i) :: r, M) else none
  | _ => none
def zlenOk (i : Instr) (n : Nat) : Bool := match i with
  | .tableswitch .. => true
  | .lookupswitch .. => true
  | .aload _ | .iload _ | .lload _ | .astore _ | .istore _ | .lstore _ | .bipush _ | .ldc _ | .newarray _ => Nat.beq n 2
  | .sipush _ | .ldc_w _ | .ldc2_w _ | .iinc .. | .getfield _ | .putfield _ | .getstatic _ | .invokevirtual _ | .invokestatic _ | .invokespecial _ | .goto _ | .ifCond .. | .if_icmp .. | .new _ | .anewarray _ => Nat.beq n 3
  | .multianewarray .. => Nat.beq n 4
  | _ => Nat.beq n 1
def zstep (k : Nat) (i : Instr) (pc : Nat) (ls : ZL) (st : ZS) (M : ZM) : Option ZC := match i with
  | .iconst v => if -32768 ≤ v ∧ v ≤ 32767 then some (pc + 1, ls, zI v :: st, M) else none
  | .bipush v => if -128 ≤ v ∧ v ≤ 127 then some (pc + 2, ls, zI v :: st, M) else none
  | .sipush v => if -32768 ≤ v ∧ v ≤ 32767 then some (pc + 3, ls, zI v :: st, M) else none
  | .lconst v => some (pc + 1, ls, zJ (v.val : Int) :: st, M)
  | .ldc n => zkonS (zlk (zKl (zcl k)) n) (pc + 2) ls st M
  | .ldc_w n => zkon 0 (zlk (zKl (zcl k)) n) (pc + 3) ls st M
  | .ldc2_w n => zkon 1 (zlk (zKl (zcl k)) n) (pc + 3) ls st M
  | .iload n => zldI (zget ls n) (pc + 2) ls st M
  | .iload_n n => zldI (zget ls n.val) (pc + 1) ls st M
  | .lload n => zldJ (zget ls n) (pc + 2) ls st M
  | .lload_n n => zldJ (zget ls n.val) (pc + 1) ls st M
  | .aload n => zldA (zget ls n) (pc + 2) ls st M
  | .aload_n n => zldA (zget ls n.val) (pc + 1) ls st M
  | .istore n => zstI n (pc + 2) ls st M
  | .istore_n n => zstI n.val (pc + 1) ls st M
  | .lstore n => zstJ n (pc + 2) ls st M
  | .astore n => zstA n (pc + 2) ls st M
  | .astore_n n => zstA n.val (pc + 1) ls st M
  | .iinc n v => match zget ls n with
    | some (.inl x) => if n < ls.length then some (pc + 3, zput ls n (zI (zb (x + v))), st, M) else none
    | _ => none
  | .iadd => zbin (fun x y => zb (x + y)) (pc + 1) ls st M
  | .isub => zbin (fun x y => zb (x - y)) (pc + 1) ls st M
  | .imul => zbin (fun x y => zb (x * y)) (pc + 1) ls st M
  | .idiv => match st with
    | .inl y :: .inl x :: r => if y = 0 then none else some (pc + 1, ls, zI (zb (Int.tdiv x y)) :: r, M)
    | _ => none
  | .irem => match st with
    | .inl y :: .inl x :: r => if y = 0 then none else some (pc + 1, ls, zI (Int.tmod x y) :: r, M)
    | _ => none
  | .ineg => match st with
    | .inl x :: r => some (pc + 1, ls, zI (zb (-x)) :: r, M)
    | _ => none
  | .iand => zbin zand (pc + 1) ls st M
  | .ior => zbin zor (pc + 1) ls st M
  | .ixor => zbin zxor (pc + 1) ls st M
  | .ishl => zbin zshl (pc + 1) ls st M
  | .ishr => zbin zshr (pc + 1) ls st M
  | .iushr => zbin zushr (pc + 1) ls st M
  | .lshl => match st with
    | .inl y :: .inr (.inl x) :: r => some (pc + 1, ls, zJ (zlshl x y) :: r, M)
    | _ => none
  | .land => match st with
    | .inr (.inl y) :: .inr (.inl x) :: r => some (pc + 1, ls, zJ (zland x y) :: r, M)
    | _ => none
  | .lor => match st with
    | .inr (.inl y) :: .inr (.inl x) :: r => some (pc + 1, ls, zJ (zlor x y) :: r, M)
    | _ => none
  | .lcmp => match st with
    | .inr (.inl y) :: .inr (.inl x) :: r => some (pc + 1, ls, zI (zlcmp x y) :: r, M)
    | _ => none
  | .i2l => match st with
    | .inl x :: r => some (pc + 1, ls, zJ x :: r, M)
    | _ => none
  | .l2i => match st with
    | .inr (.inl x) :: r => some (pc + 1, ls, zI (zb x) :: r, M)
    | _ => none
  | .i2b => match st with
    | .inl x :: r => some (pc + 1, ls, zI (zi2b x) :: r, M)
    | _ => none
  | .i2s => match st with
    | .inl x :: r => some (pc + 1, ls, zI (zi2s x) :: r, M)
    | _ => none
  | .dup => match st with
    | v :: r => if z2 v = true then none else some (pc + 1, ls, v :: v :: r, M)
    | _ => none
  | .pop => match st with
    | v :: r => if z2 v = true then none else some (pc + 1, ls, r, M)
    | _ => none
  | .dup_x1 => match st with
    | v :: w :: r => if z2 v = true ∨ z2 w = true then none else some (pc + 1, ls, v :: w :: v :: r, M)
    | _ => none
  | .dup2 => match st with
    | v :: w :: r => if z2 v = true ∨ z2 w = true then none else some (pc + 1, ls, v :: w :: v :: w :: r, M)
    | _ => none
  | .goto off => zjump pc off ls st M
  | .ifCond c off => match st with
    | .inl x :: r => zbr (zcmp c x 0) pc off ls r M
    | _ => none
  | .if_icmp c off => match st with
    | .inl y :: .inl x :: r => zbr (zcmp c x y) pc off ls r M
    | _ => none
  | .tableswitch d lo hi offs => match st with
    | .inl x :: r => if x < lo ∨ hi < x then zjump pc d ls r M else (match offs[(x - lo).toNat]? with | some off => zjump pc off ls r M | none => none)
    | _ => none
  | .lookupswitch d ps => match st with
    | .inl x :: r => if (ps.toList.zip (ps.toList.drop 1)).all (fun (a, next) => a.1 < next.1) = true then zjump pc (Op.lookupswitch.offset ps.toList d x) ls r M else none
    | _ => none
  | .getfield n => zgetf (zlk (zFl (zcl k)) n) (pc + 3) ls st M
  | .putfield n => zputf k (zlk (zFl (zcl k)) n) (pc + 3) ls st M
  | .getstatic n => match zlk (zSl (zcl k)) n with
    | some (w, _) => some (pc + 3, ls, zA (w : Int) :: st, M)
    | none => none
  | .iaload => zaldI (pc + 1) ls st M
  | .baload => zaldB (pc + 1) ls st M
  | .laload => zaldJ (pc + 1) ls st M
  | .aaload => zaldA (pc + 1) ls st M
  | .iastore => zastI (pc + 1) ls st M
  | .bastore => zastB (pc + 1) ls st M
  | .lastore => zastJ (pc + 1) ls st M
  | .aastore => zastA (pc + 1) ls st M
  | .arraylength => zalen (pc + 1) ls st M
  | .new n => znew (zlk (zCl (zcl k)) n) (pc + 3) ls st (zskip M)
  | .newarray t => if zatype t ≤ 3 then znewa (zatype t) (pc + 2) ls st (zskip M) else none
  | .anewarray n => match zlk (zCl (zcl k)) n with
    | some (0, _) => znewa 4 (pc + 3) ls st (zskip M)
    | _ => none
  | _ => none
def zslots : ZS → ZL
  | [] => []
  | .inr (.inl x) :: r => some (zJ x) :: none :: zslots r
  | v :: r => some v :: zslots r
def zentry (t : Nat) (args : ZS) : ZL := zslots args ++ List.replicate (zmaxL t - (zslots args).length) none
/-- what stands ready for a call of method t: its arguments, and the rest of the stack -/
def zready (kind : Nat) (t : Nat) (st : ZS) : Option (ZS × ZS) :=
  if zkind t = kind ∧ kind ≤ 2 then
    (let n := znp t + (if kind = 0 then 0 else 1)
     if n ≤ st.length ∧ zcat (st.drop n) ≤ 8 ∧ (zslots (st.take n).reverse).length ≤ zmaxL t then
       (match kind, (st.take n).reverse with
        | 0, args => some (args, st.drop n)
        | 1, .inr (.inr a) :: args => if zsh a = (10 + zcl t, 0) ∧ zcl t < 10 then some (.inr (.inr a) :: args, st.drop n) else none
        | 2, .inr (.inr a) :: args => if 0 ≤ a then some (.inr (.inr a) :: args, st.drop n) else none
        | _, _ => none)
     else none)
  else none
def zretI (k : Nat) (x : Int) : Bool := match zret k with
  | some .int => true
  | some .boolean => decide (0 ≤ x ∧ x ≤ 1)
  | _ => false
def zretA (k : Nat) : Bool := match zret k with
  | some (.object _) => true
  | some (.array _) => true
  | _ => false
def zbody : Nat → Nat → Nat → Nat → ZL → ZS → ZM → Option (Option ZV × ZM)
  | 0, _, _, _, _, _, _ => none
  | n + 1, d, k, pc, ls, st, M => match zins k pc with
    | none => none
    | some (i, m) => if zlenOk i m = true then (match i with
      | .ireturn => match st with
        | [.inl x] => if zretI k x = true then some (some (zI x), M) else none
        | _ => none
      | .lreturn => match st with
        | [.inr (.inl x)] => if zret k = some .long then some (some (zJ x), M) else none
        | _ => none
      | .areturn => match st with
        | [.inr (.inr a)] => if zretA k = true ∧ 0 ≤ a then some (some (zA a), M) else none
        | _ => none
      | .return_ => match st with
        | [] => if zret k = none then some (none, M) else none
        | _ => none
      | .invokespecial j => match zlk (zMl (zcl k)) j with
        | some (t, _, _) => if t = 1000 then (match st, d with
            | .inr (.inr a) :: r, _ + 1 => if 0 ≤ a ∧ zcat r ≤ 8 then zbody n d k (pc + 3) ls r M else none
            | _, _ => none)
          else (match zready 2 t st, d with
            | some (args, r), e + 1 => (match zbody n e t 0 (zentry t args) [] M with
              | some (v, M') => zbody n d k (pc + 3) ls (v.toList ++ r) M'
              | none => none)
            | _, _ => none)
        | none => none
      | .invokestatic j => match zlk (zMl (zcl k)) j with
        | some (t, _, _) => if t = 1001 then (match d, zacopy (pc + 3) ls st M with
            | _ + 1, some (pc', ls', st', M') => zbody n d k pc' ls' st' M'
            | _, _ => none)
          else if t = 1002 ∨ t = 1003 then (match d, zmm t (pc + 3) ls st M with
            | _ + 1, some (pc', ls', st', M') => zbody n d k pc' ls' st' M'
            | _, _ => none)
          else (match zready 0 t st, d with
            | some (args, r), e + 1 => (match zbody n e t 0 (zentry t args) [] M with
              | some (v, M') => zbody n d k (pc + 3) ls (v.toList ++ r) M'
              | none => none)
            | _, _ => none)
        | none => none
      | .invokevirtual j => match zlk (zMl (zcl k)) j with
        | some (t, _, _) => if t = 1004 then (match zchar d (pc + 3) ls st M with
            | some (pc', ls', st', M') => zbody n d k pc' ls' st' M'
            | none => none)
          else (match zready 1 t st, d with
            | some (args, r), e + 1 => (match zbody n e t 0 (zentry t args) [] M with
              | some (v, M') => zbody n d k (pc + 3) ls (v.toList ++ r) M'
              | none => none)
            | _, _ => none)
        | none => none
      | _ => match zstep k i pc ls st M with
        | some (pc', ls', st', M') => zbody n d k pc' ls' st' M'
        | none => none) else none
