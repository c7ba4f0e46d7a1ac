/-! the memory by cells and places; one instruction; a stretch of instructions -/
abbrev ny_I : Type := Nat → Nat → Int32
abbrev ny_R : Type := Nat → Nat → Option Nat
abbrev ny_K : Type := List (Nat × Nat)
abbrev ny_Lc : Type := List (Nat × Value)
def ny_up (I : ny_I) (c j : Nat) (x : Int32) : ny_I := fun c' => if c' = c then upd (I c) j x else I c'
def ny_cp (I : ny_I) (d s sp dp n : Nat) : ny_I := fun c' => if c' = d then va_cpy (I s) (I d) sp dp n else I c'
def ny_in (j : Int32) (n : Nat) : Bool := !(decide (j < 0)) && decide (j.toNatClampNeg < n)
def ny_kd (K : ny_K) (o : Nat) (k : Nat × Nat) : Bool := decide (K[o]? = some k)
/-- o is an array of that kind, j a place in it -/
def ny_ar (K : ny_K) (t o : Nat) (j : Int32) : Bool := match K[o]? with
  | some q => decide (q.1 = t) && ny_in j q.2
  | none => false
def ny_aw (K : ny_K) (t o : Nat) (j : Int32) : Bool := ny_ar K t o j && decide (5 ≤ o)
def ny_ra (K : ny_K) (o : Nat) (j : Int32) : Bool := match K[o]? with
  | some q => decide (3 ≤ q.1) && decide (q.1 ≤ 6) && ny_in j q.2
  | none => false
/-- a reference to a cell (4 is the place of what may be null) -/
def ny_rs (r : Option Nat) : Bool := match r with
  | some z => !(Nat.beq z 4)
  | none => false
def ny_ln (K : ny_K) (o : Nat) : Nat := (K.getD o (0, 0)).2
def ny_la (K : ny_K) (o : Nat) : Bool := match K[o]? with
  | some q => decide (q.1 = 1) || decide (q.1 = 2)
  | none => false
def ny_cb (K : ny_K) (s d : Nat) (sp dp n : Int32) : Bool := decide (5 ≤ s) && decide (5 ≤ d) && !(decide (s = d)) && decide ((K.getD s (0, 0)).1 = 1) && decide ((K.getD d (0, 0)).1 = 1) &&
  !(decide (sp < 0)) && !(decide (dp < 0)) && !(decide (n < 0)) && decide (sp.toNatClampNeg + n.toNatClampNeg ≤ ny_ln K s) && decide (dp.toNatClampNeg + n.toNatClampNeg ≤ ny_ln K d)
def ny_lk (L : ny_Lc) (i : Nat) : Option Value := match L with
  | [] => none
  | q :: t => match Nat.beq q.1 i with
    | true => some q.2
    | false => ny_lk t i
def ny_ins (i : Nat) (v : Value) (L : ny_Lc) : ny_Lc := match L with
  | [] => [(i, v)]
  | q :: t => match Nat.blt q.1 i with
    | true => q :: ny_ins i v t
    | false => (i, v) :: q :: t
def ny_st (L : ny_Lc) (i : Nat) (v : Value) : ny_Lc := ny_ins i v (L.filter (fun q => !(q.1 == i) && !(q.1 + 1 == i && q.2.category == 2)))
def ny_st2 (L : ny_Lc) (i : Nat) (v : Value) : ny_Lc := ny_ins i v (L.filter (fun q => !(q.1 == i) && (!(q.1 == i + 1) && !(q.1 + 1 == i && q.2.category == 2))))
abbrev ny_O : Type := Option (Option Bool × ny_Lc × List Value × ny_I)
section NYS
variable (L : ny_Lc) (S : List Value) (I : ny_I)
def ny_ldI (i : Nat) : ny_O := match ny_lk L i with
  | some (.int x) => some (none, L, .int x :: S, I)
  | _ => none
def ny_ldL (i : Nat) : ny_O := match ny_lk L i with
  | some (.long x) => some (none, L, .long x :: S, I)
  | _ => none
def ny_ldA (i : Nat) : ny_O := match ny_lk L i with
  | some (.ref x) => some (none, L, .ref x :: S, I)
  | _ => none
def ny_siI (i : Nat) : ny_O := match S with
  | .int x :: t => some (none, ny_st L i (.int x), t, I)
  | _ => none
def ny_siL (i : Nat) : ny_O := match S with
  | .long x :: t => some (none, ny_st2 L i (.long x), t, I)
  | _ => none
def ny_siA (i : Nat) : ny_O := match S with
  | .ref x :: t => some (none, ny_st L i (.ref x), t, I)
  | _ => none
def ny_i2 (f : Int32 → Int32 → Int32) : ny_O := match S with
  | .int y :: .int x :: t => some (none, L, .int (f x y) :: t, I)
  | _ => none
def ny_i2g (f : Int32 → Int32 → Int32) : ny_O := match S with
  | .int y :: .int x :: t => some (some (!(decide (y = 0))), L, .int (f x y) :: t, I)
  | _ => none
def ny_i1 (f : Int32 → Int32) : ny_O := match S with
  | .int x :: t => some (none, L, .int (f x) :: t, I)
  | _ => none
def ny_l2 (f : Int64 → Int64 → Int64) : ny_O := match S with
  | .long y :: .long x :: t => some (none, L, .long (f x y) :: t, I)
  | _ => none
def ny_l2g (f : Int64 → Int64 → Int64) : ny_O := match S with
  | .long y :: .long x :: t => some (some (!(decide (y = 0))), L, .long (f x y) :: t, I)
  | _ => none
def ny_li (f : Int64 → Int32 → Int64) : ny_O := match S with
  | .int y :: .long x :: t => some (none, L, .long (f x y) :: t, I)
  | _ => none
def ny_gf (K : ny_K) (R : ny_R) (a b : Nat) : ny_O := match S with
  | .ref o :: t => match b % 3 with
    | 1 => some (some (ny_kd K o (0, a) && ny_rs (R o (b / 3))), L, .ref ((R o (b / 3)).getD 0) :: t, I)
    | _ => some (some (ny_kd K o (0, a)), L, .int (I o (b / 3)) :: t, I)
  | _ => none
def ny_pf (K : ny_K) (a b : Nat) : ny_O := match S with
  | .int x :: .ref o :: t => match b % 3 with
    | 0 => some (some (ny_kd K o (0, a) && decide (5 ≤ o)), L, t, ny_up I o (b / 3) x)
    | 2 => some (some (ny_kd K o (0, a) && decide (5 ≤ o) && (decide (x = 0) || decide (x = 1))), L, t, ny_up I o (b / 3) x)
    | _ => none
  | _ => none
def ny_iald (K : ny_K) : ny_O := match S with
  | .int j :: .ref o :: t => some (some (ny_ar K 1 o j), L, .int (I o j.toNatClampNeg) :: t, I)
  | _ => none
def ny_bald (K : ny_K) : ny_O := match S with
  | .int j :: .ref o :: t => some (some (ny_ar K 2 o j), L, .int (I o j.toNatClampNeg) :: t, I)
  | _ => none
def ny_aald (K : ny_K) (R : ny_R) : ny_O := match S with
  | .int j :: .ref o :: t => some (some (ny_ra K o j && ny_rs (R o j.toNatClampNeg)), L, .ref ((R o j.toNatClampNeg).getD 0) :: t, I)
  | _ => none
def ny_iast (K : ny_K) : ny_O := match S with
  | .int x :: .int j :: .ref o :: t => some (some (ny_aw K 1 o j), L, t, ny_up I o j.toNatClampNeg x)
  | _ => none
def ny_bast (K : ny_K) : ny_O := match S with
  | .int x :: .int j :: .ref o :: t => some (some (ny_aw K 2 o j), L, t, ny_up I o j.toNatClampNeg x.toInt8.toInt32)
  | _ => none
def ny_alen (K : ny_K) : ny_O := match S with
  | .ref o :: t => some (some (ny_la K o), L, .int (nI (ny_ln K o)) :: t, I)
  | _ => none
def ny_dup : ny_O := match S with
  | .int x :: t => some (none, L, .int x :: .int x :: t, I)
  | .ref o :: t => some (none, L, .ref o :: .ref o :: t, I)
  | _ => none
def ny_dup2 : ny_O := match S with
  | .int x :: .ref o :: t => some (none, L, .int x :: .ref o :: .int x :: .ref o :: t, I)
  | _ => none
def ny_pop : ny_O := match S with
  | .int _ :: t => some (none, L, t, I)
  | _ => none
def ny_inv (K : ny_K) (a : Nat) : ny_O := match a with
  | 1 => match S with
    | .int y :: .int x :: t => match Nat.ble t.length 8 with
      | true => some (none, L, .int (if x < y then y else x) :: t, I)
      | false => none
    | _ => none
  | 2 => match S with
    | .int y :: .int x :: t => match Nat.ble t.length 8 with
      | true => some (none, L, .int (if y < x then y else x) :: t, I)
      | false => none
    | _ => none
  | 3 => match S with
    | .int x :: t => match Nat.ble t.length 8 with
      | true => some (none, L, .int (if 0 ≤ x then x else 0 - x) :: t, I)
      | false => none
    | _ => none
  | 4 => match S with
    | .int n :: .int dp :: .ref d :: .int sp :: .ref s :: t => match Nat.ble t.length 8 with
      | true => some (some (ny_cb K s d sp dp n), L, t, ny_cp I d s sp.toNatClampNeg dp.toNatClampNeg n.toNatClampNeg)
      | false => none
    | _ => none
  | _ => none
end NYS
def ny_stp (q : ny_Op) (K : ny_K) (R : ny_R) (L : ny_Lc) (S : List Value) (I : ny_I) : ny_O :=
  match q with
  | (_, _, ins, a, b, v, w) => match ins with
    | .iload i => ny_ldI L S I i
    | .iload_n i => ny_ldI L S I i
    | .lload i => ny_ldL L S I i
    | .lload_n i => ny_ldL L S I i
    | .aload i => ny_ldA L S I i
    | .aload_n i => ny_ldA L S I i
    | .istore i => ny_siI L S I i
    | .istore_n i => ny_siI L S I i
    | .lstore i => ny_siL L S I i
    | .lstore_n i => ny_siL L S I i
    | .astore i => ny_siA L S I i
    | .astore_n i => ny_siA L S I i
    | .iinc i _ => match ny_lk L i with
      | some (.int x) => some (none, ny_st L i (.int (x + v)), S, I)
      | _ => none
    | .iconst _ => some (none, L, .int v :: S, I)
    | .bipush _ => some (none, L, .int v :: S, I)
    | .sipush _ => some (none, L, .int v :: S, I)
    | .lconst _ => some (none, L, .long w :: S, I)
    | .ldc2_w _ => some (none, L, .long w :: S, I)
    | .ldc_w _ => some (none, L, .int v :: S, I)
    | .ldc _ => match a with
      | 1 => some (none, L, .ref 2 :: S, I)
      | _ => some (none, L, .int v :: S, I)
    | .iadd => ny_i2 L S I (fun x y => x + y)
    | .isub => ny_i2 L S I (fun x y => x - y)
    | .imul => ny_i2 L S I (fun x y => x * y)
    | .iand => ny_i2 L S I (fun x y => x &&& y)
    | .ior => ny_i2 L S I (fun x y => x ||| y)
    | .ixor => ny_i2 L S I (fun x y => x ^^^ y)
    | .ishl => ny_i2 L S I (fun x y => x <<< (y &&& 31))
    | .ishr => ny_i2 L S I (fun x y => x >>> (y &&& 31))
    | .iushr => ny_i2 L S I (fun x y => (x.toUInt32 >>> (y.toUInt32 &&& Int32.toUInt32 31)).toInt32)
    | .idiv => ny_i2g L S I (fun x y => x / y)
    | .irem => ny_i2g L S I (fun x y => x - x / y * y)
    | .i2b => ny_i1 L S I (fun x => x.toInt8.toInt32)
    | .i2s => ny_i1 L S I (fun x => x.toInt16.toInt32)
    | .i2c => ny_i1 L S I (fun x => (x.toUInt32 % 65536).toInt32)
    | .ladd => ny_l2 L S I (fun x y => x + y)
    | .lsub => ny_l2 L S I (fun x y => x - y)
    | .lmul => ny_l2 L S I (fun x y => x * y)
    | .land => ny_l2 L S I (fun x y => x &&& y)
    | .lor => ny_l2 L S I (fun x y => x ||| y)
    | .lxor => ny_l2 L S I (fun x y => x ^^^ y)
    | .ldiv => ny_l2g L S I (fun x y => x / y)
    | .lrem => ny_l2g L S I (fun x y => x - x / y * y)
    | .lshl => ny_li L S I (fun x y => x <<< (y.toInt64 &&& 63))
    | .lshr => ny_li L S I (fun x y => x >>> (y.toInt64 &&& 63))
    | .lushr => ny_li L S I (fun x y => (x.toUInt64 >>> (y.toInt64.toUInt64 &&& Int64.toUInt64 63)).toInt64)
    | .i2l => match S with
      | .int x :: t => some (none, L, .long x.toInt64 :: t, I)
      | _ => none
    | .l2i => match S with
      | .long x :: t => some (none, L, .int x.toInt32 :: t, I)
      | _ => none
    | .lcmp => match S with
      | .long y :: .long x :: t => some (none, L, .int (lg_cmp x y) :: t, I)
      | _ => none
    | .dup => ny_dup L S I
    | .dup2 => ny_dup2 L S I
    | .pop => ny_pop L S I
    | .getfield _ => ny_gf L S I K R a b
    | .putfield _ => ny_pf L S I K a b
    | .iaload => ny_iald L S I K
    | .baload => ny_bald L S I K
    | .aaload => ny_aald L S I K R
    | .iastore => ny_iast L S I K
    | .bastore => ny_bast L S I K
    | .arraylength => ny_alen L S I K
    | .getstatic _ => match a with
      | 1 => some (none, L, .ref 1 :: S, I)
      | 2 => some (none, L, .int 1 :: S, I)
      | 3 => some (none, L, .ref 4 :: S, I)
      | _ => none
    | .invokestatic _ => ny_inv L S I K a
    | _ => none
/-- a stretch of instructions from pc on: what must hold, and what comes behind it -/
def ny_run (K : ny_K) (R : ny_R) (qs : List ny_Op) (pc : Nat) (L : ny_Lc) (S : List Value) (I : ny_I) (k : Nat → ny_Lc → List Value → ny_I → Prop) : Prop :=
  match qs with
  | [] => k pc L S I
  | q :: qs => match Nat.beq q.1 pc with
    | false => False
    | true => match ny_stp q K R L S I with
      | none => False
      | some (none, L', S', I') => ny_run K R qs (pc + q.2.1) L' S' I' k
      | some (some g, L', S', I') => g = true ∧ ny_run K R qs (pc + q.2.1) L' S' I' k
/-- a test of the evaluation's speed -/
theorem ny_test (K : ny_K) (R : ny_R) (x y : Int32) (I : ny_I) (k : Nat → ny_Lc → List Value → ny_I → Prop) (h : k 6 [(0, .int x), (1, .int y)] [.int (x * 3 + y), .int 5] I) :
    ny_run K R [ny_o2 0 1 (.iconst 5) 5, ny_o 1 1 (.iload_n 0), ny_o2 2 1 (.iconst 3) 3, ny_o 3 1 .imul, ny_o 4 1 (.iload_n 1), ny_o 5 1 .iadd] 0 [(0, .int x), (1, .int y)] [] I k := h
