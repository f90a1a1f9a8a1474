/-! ===== the small machine's steps ===== -/
def jo_ipush (n : Int) : JN := fun s => some (s.1, .int (Int32.ofInt n) :: s.2.1, s.2.2)
def jo_lpush (n : Int) : JN := fun s => some (s.1, .long (Int64.ofInt n) :: s.2.1, s.2.2)
def jo_iload (i : Nat) : JN := fun s => match s.1[i]? with
  | some (some (.int x)) => some (s.1, .int x :: s.2.1, s.2.2)
  | _ => none
def jo_lload (i : Nat) : JN := fun s => match s.1[i]? with
  | some (some (.long x)) => some (s.1, .long x :: s.2.1, s.2.2)
  | _ => none
def jo_aload (i : Nat) : JN := fun s => match s.1[i]? with
  | some (some (.ref x)) => some (s.1, .ref x :: s.2.1, s.2.2)
  | _ => none
def jo_istore (i : Nat) : JN := fun s => match s.2.1 with
  | .int x :: st => if i < s.1.length then some (jl_set s.1 i (.int x), st, s.2.2) else none
  | _ => none
def jo_lstore (i : Nat) : JN := fun s => match s.2.1 with
  | .long x :: st => if i + 1 < s.1.length then some (jl_set2 s.1 i (.long x), st, s.2.2) else none
  | _ => none
def jo_astore (i : Nat) : JN := fun s => match s.2.1 with
  | .ref x :: st => if i < s.1.length then some (jl_set s.1 i (.ref x), st, s.2.2) else none
  | _ => none
def jo_iinc (i : Nat) (n : Int) : JN := fun s => match s.1[i]? with
  | some (some (.int x)) => some (jl_set s.1 i (.int (x + Int32.ofInt n)), s.2.1, s.2.2)
  | _ => none
def jo_ii (f : Int32 → Int32 → Int32) : JN := fun s => match s.2.1 with
  | .int y :: .int x :: st => some (s.1, .int (f x y) :: st, s.2.2)
  | _ => none
def jo_id (f : Int32 → Int32 → Int32) : JN := fun s => match s.2.1 with
  | .int y :: .int x :: st => if y = 0 then none else some (s.1, .int (f x y) :: st, s.2.2)
  | _ => none
def jo_ll (f : Int64 → Int64 → Int64) : JN := fun s => match s.2.1 with
  | .long y :: .long x :: st => some (s.1, .long (f x y) :: st, s.2.2)
  | _ => none
def jo_lq (f : Int64 → Int64 → Int64) : JN := fun s => match s.2.1 with
  | .long y :: .long x :: st => if y = 0 then none else some (s.1, .long (f x y) :: st, s.2.2)
  | _ => none
def jo_li (f : Int64 → Int32 → Int64) : JN := fun s => match s.2.1 with
  | .int y :: .long x :: st => some (s.1, .long (f x y) :: st, s.2.2)
  | _ => none
def jo_i (f : Int32 → Int32) : JN := fun s => match s.2.1 with
  | .int x :: st => some (s.1, .int (f x) :: st, s.2.2)
  | _ => none
def jo_i2l : JN := fun s => match s.2.1 with
  | .int x :: st => some (s.1, .long x.toInt64 :: st, s.2.2)
  | _ => none
def jo_l2i : JN := fun s => match s.2.1 with
  | .long x :: st => some (s.1, .int x.toInt32 :: st, s.2.2)
  | _ => none
def jo_lcmp : JN := fun s => match s.2.1 with
  | .long y :: .long x :: st => some (s.1, .int (lg_cmp x y) :: st, s.2.2)
  | _ => none
def jo_dup : JN := fun s => match s.2.1 with
  | v :: st => if v.category = 1 then some (s.1, v :: v :: st, s.2.2) else none
  | _ => none
def jo_pop : JN := fun s => match s.2.1 with
  | v :: st => if v.category = 1 then some (s.1, st, s.2.2) else none
  | _ => none
def jo_dup2 : JN := fun s => match s.2.1 with
  | v :: w :: st => if v.category = 1 ∧ w.category = 1 then some (s.1, v :: w :: v :: w :: st, s.2.2) else none
  | _ => none
def jo_dupx1 : JN := fun s => match s.2.1 with
  | v :: w :: st => if v.category = 1 ∧ w.category = 1 then some (s.1, v :: w :: v :: st, s.2.2) else none
  | _ => none
/-- fields: the class's number, the field's -/
def jo_getI (ci k : Nat) : JN := fun s => match s.2.1 with
  | .ref a :: st => match s.2.2.1[a]? with
    | some (t, _) => if t = ci then some (s.1, .int (s.2.2.2.1 a k) :: st, s.2.2) else none
    | none => none
  | _ => none
def jo_getJ (ci k : Nat) : JN := fun s => match s.2.1 with
  | .ref a :: st => match s.2.2.1[a]? with
    | some (t, _) => if t = ci then some (s.1, .long (s.2.2.2.2.1 a k) :: st, s.2.2) else none
    | none => none
  | _ => none
def jo_getR (ci k : Nat) : JN := fun s => match s.2.1 with
  | .ref a :: st => match s.2.2.1[a]? with
    | some (t, _) => if t = ci then some (s.1, va_rf (s.2.2.2.2.2 a k) :: st, s.2.2) else none
    | none => none
  | _ => none
def jo_putI (ci k : Nat) (ty : FieldType) : JN := fun s => match s.2.1 with
  | .int x :: .ref a :: st => match s.2.2.1[a]? with
    | some (t, _) => if t = ci ∧ narrow ty (.int x) = .int x ∧ fits ty (.int x) = true then some (s.1, st, jh_setI s.2.2 a k x) else none
    | none => none
  | _ => none
def jo_putJ (ci k : Nat) : JN := fun s => match s.2.1 with
  | .long x :: .ref a :: st => match s.2.2.1[a]? with
    | some (t, _) => if t = ci then some (s.1, st, jh_setJ s.2.2 a k x) else none
    | none => none
  | _ => none
def jo_putR (ci k : Nat) : JN := fun s => match s.2.1 with
  | .ref x :: .ref a :: st => match s.2.2.1[a]? with
    | some (t, _) => if t = ci then some (s.1, st, jh_setR s.2.2 a k (some x)) else none
    | none => none
  | _ => none
/-- arrays: the kinds that a load may read, the kind that a store may write -/
def jo_ldI (ks : List Nat) : JN := fun s => match s.2.1 with
  | .int i :: .ref a :: st => match s.2.2.1[a]? with
    | some (t, n) => if t ∈ ks ∧ ¬ (i < 0 ∨ n ≤ i.toNatClampNeg) then some (s.1, .int (s.2.2.2.1 a i.toNatClampNeg) :: st, s.2.2) else none
    | none => none
  | _ => none
def jo_ldJ : JN := fun s => match s.2.1 with
  | .int i :: .ref a :: st => match s.2.2.1[a]? with
    | some (t, n) => if t = 101 ∧ ¬ (i < 0 ∨ n ≤ i.toNatClampNeg) then some (s.1, .long (s.2.2.2.2.1 a i.toNatClampNeg) :: st, s.2.2) else none
    | none => none
  | _ => none
def jo_ldR : JN := fun s => match s.2.1 with
  | .int i :: .ref a :: st => match s.2.2.1[a]? with
    | some (t, n) => if (t = 104 ∨ t = 201) ∧ ¬ (i < 0 ∨ n ≤ i.toNatClampNeg) then some (s.1, va_rf (s.2.2.2.2.2 a i.toNatClampNeg) :: st, s.2.2) else none
    | none => none
  | _ => none
def jo_stI : JN := fun s => match s.2.1 with
  | .int x :: .int i :: .ref a :: st => match s.2.2.1[a]? with
    | some (t, n) => if t = 100 ∧ ¬ (i < 0 ∨ n ≤ i.toNatClampNeg) then some (s.1, st, jh_setI s.2.2 a i.toNatClampNeg x) else none
    | none => none
  | _ => none
def jo_stB : JN := fun s => match s.2.1 with
  | .int x :: .int i :: .ref a :: st => match s.2.2.1[a]? with
    | some (t, n) => if (t = 102 ∨ t = 103) ∧ ¬ (i < 0 ∨ n ≤ i.toNatClampNeg) then some (s.1, st, jh_setI s.2.2 a i.toNatClampNeg (vp_nar (jt_at t) x)) else none
    | none => none
  | _ => none
def jo_stJ : JN := fun s => match s.2.1 with
  | .long x :: .int i :: .ref a :: st => match s.2.2.1[a]? with
    | some (t, n) => if t = 101 ∧ ¬ (i < 0 ∨ n ≤ i.toNatClampNeg) then some (s.1, st, jh_setJ s.2.2 a i.toNatClampNeg x) else none
    | none => none
  | _ => none
def jo_stR : JN := fun s => match s.2.1 with
  | .ref x :: .int i :: .ref a :: st => match s.2.2.1[a]? with
    | some (t, n) => if t = 104 ∧ ¬ (i < 0 ∨ n ≤ i.toNatClampNeg) ∧ s.2.2.1[x]? = some (3, 12) then some (s.1, st, jh_setR s.2.2 a i.toNatClampNeg (some x)) else none
    | none => none
  | _ => none
def jo_len : JN := fun s => match s.2.1 with
  | .ref a :: st => match s.2.2.1[a]? with
    | some (t, n) => if 100 ≤ t then some (s.1, .int (Int32.ofNat n) :: st, s.2.2) else none
    | none => none
  | _ => none
/-- no cell is unknown -/
def jh_clean (σ : JH) : Bool := (σ.1.drop 64).all (fun q => !(q.1 == 99))
def jo_new (ci : Nat) : JN := fun s => if jh_clean s.2.2 = true then some (s.1, .ref s.2.2.1.length :: s.2.1, jh_new s.2.2 ci (jt_N ci)) else none
def jo_newa (t : Nat) : JN := fun s => match s.2.1 with
  | .int n :: st => if n < 0 ∨ 5000 < n.toNatClampNeg ∨ jh_clean s.2.2 = false then none else some (s.1, .ref s.2.2.1.length :: st, jh_new s.2.2 t n.toNatClampNeg)
  | _ => none
def jo_stat (r : Nat) : JN := fun s => some (s.1, .ref r :: s.2.1, s.2.2)
/-- a step by its number: (which, a number, a number) -/
def jx_op (o : JO) : JN := match o.1 with
  | 0 => jo_ipush o.2.2
  | 1 => jo_lpush o.2.2
  | 2 => jo_iload o.2.1
  | 3 => jo_lload o.2.1
  | 4 => jo_aload o.2.1
  | 5 => jo_istore o.2.1
  | 6 => jo_lstore o.2.1
  | 7 => jo_astore o.2.1
  | 8 => jo_iinc o.2.1 o.2.2
  | 10 => jo_ii (fun x y => x + y)
  | 11 => jo_ii (fun x y => x - y)
  | 12 => jo_ii (fun x y => x * y)
  | 13 => jo_id (fun x y => x / y)
  | 14 => jo_id (fun x y => x - x / y * y)
  | 15 => jo_i (fun x => -x)
  | 16 => jo_ii (fun x y => x &&& y)
  | 17 => jo_ii (fun x y => x ||| y)
  | 18 => jo_ii (fun x y => x ^^^ y)
  | 19 => jo_ii (fun x y => x <<< (y &&& 31))
  | 20 => jo_ii (fun x y => x >>> (y &&& 31))
  | 21 => jo_ii (fun x y => (x.toUInt32 >>> (y.toUInt32 &&& Int32.toUInt32 31)).toInt32)
  | 22 => jo_ll (fun x y => x + y)
  | 23 => jo_ll (fun x y => x - y)
  | 24 => jo_ll (fun x y => x * y)
  | 25 => jo_lq (fun x y => x / y)
  | 26 => jo_lq (fun x y => x - x / y * y)
  | 27 => jo_ll (fun x y => x &&& y)
  | 28 => jo_ll (fun x y => x ||| y)
  | 29 => jo_ll (fun x y => x ^^^ y)
  | 30 => jo_li (fun x y => x <<< (y.toInt64 &&& 63))
  | 31 => jo_li (fun x y => x >>> (y.toInt64 &&& 63))
  | 32 => jo_li (fun x y => (x.toUInt64 >>> (y.toInt64.toUInt64 &&& Int64.toUInt64 63)).toInt64)
  | 33 => jo_lcmp
  | 34 => jo_i2l
  | 35 => jo_l2i
  | 36 => jo_i (fun x => x.toInt8.toInt32)
  | 37 => jo_i (fun x => (x.toUInt32 % 65536).toInt32)
  | 40 => jo_getI o.2.1 o.2.2.toNat
  | 41 => jo_getJ o.2.1 o.2.2.toNat
  | 42 => jo_getR o.2.1 o.2.2.toNat
  | 43 => jo_putI o.2.1 o.2.2.toNat .int
  | 44 => jo_putJ o.2.1 o.2.2.toNat
  | 45 => jo_putR o.2.1 o.2.2.toNat
  | 46 => jo_putI o.2.1 o.2.2.toNat .boolean
  | 47 => jo_putI o.2.1 o.2.2.toNat .char
  | 48 => jo_putR o.2.1 o.2.2.toNat
  | 50 => jo_ldI [100, 200]
  | 51 => jo_ldJ
  | 52 => jo_ldI [102, 103, 202]
  | 54 => jo_ldR
  | 55 => jo_stI
  | 56 => jo_stJ
  | 57 => jo_stB
  | 59 => jo_stR
  | 60 => jo_len
  | 61 => jo_new o.2.1
  | 62 => jo_newa o.2.1
  | 63 => jo_newa 104
  | 64 => jo_stat o.2.1
  | 70 => jo_dup
  | 71 => jo_pop
  | 72 => jo_dup2
  | 73 => jo_dupx1
  | _ => fun _ => none
def jx_run : List JO → JN
  | [] => fun s => some s
  | o :: r => fun s => (jx_op o s).bind (jx_run r)
/-- the statics that are constants: a place of a pool, the constant's number -/
def jt_sts : List (String × String × String × Nat) := [("CellarTurns$Word", "OTHER", "LCellarTurns$Word;", 21), ("CellarTurns$Word", "ALL", "[LCellarTurns$Word;", 23), ("CellarTurns$1", "$SwitchMap$CellarTurns$Word", "[I", 22), ("CellarTurns$Word", "PRICE", "LCellarTurns$Word;", 2), ("CellarTurns$Word", "NOT", "LCellarTurns$Word;", 15), ("CellarTurns$Word", "AND", "LCellarTurns$Word;", 16), ("CellarTurns$Word", "OR", "LCellarTurns$Word;", 17)]
def jt_gss : List ((Nat × Nat) × Nat) := [((9, 15), 0), ((13, 109), 1), ((13, 67), 0), ((5, 56), 2), ((2, 87), 2), ((5, 135), 3), ((2, 76), 4), ((2, 49), 5), ((2, 54), 6)]
def jt_gsx : List Nat := [160, 639, 641, 747, 853, 794, 847, 857, 859]
def jt_gs (own ix : Nat) : Option Nat := jt_gss.lookup (own, ix)
def jt_sq (k : Nat) : String × String × String × Nat := jt_sts.getD k ("", "", "", 0)
/-- the fields of constants: of a Word (50) and of a text (51) -/
def jt_wls : List ((Nat × Nat) × JO) := [((13, 101), (41, 50, 1)), ((9, 55), (40, 50, 2)), ((17, 7), (40, 50, 0)), ((18, 15), (40, 51, 0)), ((18, 9), (42, 51, 1))]
def jt_wl (own ix : Nat) : Option JO := jt_wls.lookup (own, ix)
/-- texts: own class, place, text, number -/
def jt_str : List (String × Nat × String × Nat) := [("CellarTurns$Tape", 80, "()<=+-*;", 25), ("CellarTurns", 272, "no such turns or no such pair", 26), ("CellarTurns", 277, "no row of turns fits what was seen", 27)]
/-- which step an instruction is; the fields of Word have the class number 50 -/
def jx_fld (own ix : Nat) (put ini : Bool) : Option JO := match jt_fl own ix with
  | some (ci, k, nest) => match put, jt_ty ci k, (jt_f ci k).2.2.1 with
    | false, .long, _ => some (41, ci, k)
    | false, .object _, _ => some (42, ci, k)
    | false, .array _, _ => some (42, ci, k)
    | false, .int, _ => some (40, ci, k)
    | false, .boolean, _ => some (40, ci, k)
    | false, .char, _ => some (40, ci, k)
    | true, .int, false => some (43, ci, k)
    | true, .long, false => some (44, ci, k)
    | true, .object _, false => some (45, ci, k)
    | true, .boolean, false => some (46, ci, k)
    | true, .char, false => some (47, ci, k)
    | true, .object _, true => if ini = true ∧ nest = false ∧ ci = own then some (48, ci, k) else none
    | true, .array _, true => if ini = true ∧ nest = false ∧ ci = own then some (48, ci, k) else none
    | _, _, _ => none
  | none => none
def jx_of (own : Nat) (ini : Bool) (i : Instr) : Option JO := match i with
  | .iconst n => some (0, 0, (Int32.ofInt n).toInt)
  | .bipush n => some (0, 0, ((Int8.ofInt n).toInt32).toInt)
  | .sipush n => some (0, 0, ((Int16.ofInt n).toInt32).toInt)
  | .ldc ix => match jt_lc own ix with
    | some (.int v) => some (0, 0, v.toInt)
    | _ => if own = 9 ∧ ix = 80 then some (64, 25, 0) else none
  | .ldc_w ix => match jt_lc own ix with
    | some (.int v) => some (0, 0, v.toInt)
    | _ => none
  | .lconst n => some (1, 0, (Int64.ofNat n).toInt)
  | .ldc2_w ix => match jt_lc own ix with
    | some (.long v) => some (1, 0, v.toInt)
    | _ => none
  | .iload i => some (2, i, 0)
  | .iload_n i => some (2, i, 0)
  | .lload i => some (3, i, 0)
  | .lload_n i => some (3, i, 0)
  | .aload i => some (4, i, 0)
  | .aload_n i => some (4, i, 0)
  | .istore i => some (5, i, 0)
  | .istore_n i => some (5, i, 0)
  | .lstore i => some (6, i, 0)
  | .lstore_n i => some (6, i, 0)
  | .astore i => some (7, i, 0)
  | .astore_n i => some (7, i, 0)
  | .iinc i n => some (8, i, n)
  | .iadd => some (10, 0, 0)
  | .isub => some (11, 0, 0)
  | .imul => some (12, 0, 0)
  | .idiv => some (13, 0, 0)
  | .irem => some (14, 0, 0)
  | .ineg => some (15, 0, 0)
  | .iand => some (16, 0, 0)
  | .ior => some (17, 0, 0)
  | .ixor => some (18, 0, 0)
  | .ishl => some (19, 0, 0)
  | .ishr => some (20, 0, 0)
  | .iushr => some (21, 0, 0)
  | .ladd => some (22, 0, 0)
  | .lsub => some (23, 0, 0)
  | .lmul => some (24, 0, 0)
  | .ldiv => some (25, 0, 0)
  | .lrem => some (26, 0, 0)
  | .land => some (27, 0, 0)
  | .lor => some (28, 0, 0)
  | .lxor => some (29, 0, 0)
  | .lshl => some (30, 0, 0)
  | .lshr => some (31, 0, 0)
  | .lushr => some (32, 0, 0)
  | .lcmp => some (33, 0, 0)
  | .i2l => some (34, 0, 0)
  | .l2i => some (35, 0, 0)
  | .i2b => some (36, 0, 0)
  | .i2c => some (37, 0, 0)
  | .getfield ix => match jt_wl own ix with
    | some o => some o
    | none => jx_fld own ix false ini
  | .getstatic ix => match jt_gs own ix with
    | some k => some (64, (jt_sq k).2.2.2, 0)
    | none => if own = 18 ∧ ix = 38 then some (0, 0, 1) else none
  | .putfield ix => jx_fld own ix true ini
  | .iaload => some (50, 0, 0)
  | .laload => some (51, 0, 0)
  | .baload => some (52, 0, 0)
  | .aaload => some (54, 0, 0)
  | .iastore => some (55, 0, 0)
  | .lastore => some (56, 0, 0)
  | .bastore => some (57, 0, 0)
  | .aastore => some (59, 0, 0)
  | .arraylength => some (60, 0, 0)
  | .new ix => match jt_nw own ix with
    | some ci => some (61, ci, 0)
    | none => none
  | .newarray t => match t with
    | .int => some (62, 100, 0)
    | .long => some (62, 101, 0)
    | .byte => some (62, 102, 0)
    | .boolean => some (62, 103, 0)
    | _ => none
  | .anewarray ix => match jt_nw own ix with
    | some 3 => some (63, 0, 0)
    | _ => none
  | .dup => some (70, 0, 0)
  | .pop => some (71, 0, 0)
  | .dup2 => some (72, 0, 0)
  | .dup_x1 => some (73, 0, 0)
  | _ => none
def jx_len (i : Instr) : Nat := match i with
  | .bipush _ => 2
  | .sipush _ => 3
  | .ldc _ => 2
  | .ldc_w _ => 3
  | .ldc2_w _ => 3
  | .iload _ => 2
  | .lload _ => 2
  | .aload _ => 2
  | .istore _ => 2
  | .lstore _ => 2
  | .astore _ => 2
  | .iinc _ _ => 3
  | .getfield _ => 3
  | .getstatic _ => 3
  | .putfield _ => 3
  | .new _ => 3
  | .newarray _ => 2
  | .anewarray _ => 3
  | _ => 1
