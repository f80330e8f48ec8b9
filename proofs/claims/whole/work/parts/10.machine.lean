/-! A little machine of our own: cells by their number in a list, no tables, no addresses. A later part proves that the real one does what it does. -/
/-- a cell: what it is (below 50 an object of mm_cl, from 50 on an array), what it holds -/
abbrev MC : Type := Nat × List Value
abbrev MH : Type := List MC
abbrev ML : Type := List (Nat × Value)
/-- what a step does: it goes on (place, locals, stack, cells, how many cells and slots are new); it returns; it calls; it throws -/
abbrev MN : Type := Nat × ML × List Value × MH × Nat × Nat
abbrev MA : Type := MN ⊕ Option Value ⊕ (Nat × List Value × List Value) ⊕ Nat
def mm_look {α : Type} : List (Nat × α) → Nat → Option α
  | [], _ => none
  | q :: r, i => match Nat.beq q.1 i with
    | true => some q.2
    | false => mm_look r i
def mm_st1 (L : ML) (i : Nat) (v : Value) : ML := (i, v) :: L.filter (fun q => !(q.1 == i) && !(q.1 + 1 == i && q.2.category == 2))
def mm_st2 (L : ML) (i : Nat) (v : Value) : ML := (i, v) :: L.filter (fun q => !(q.1 == i) && (!(q.1 == i + 1) && !(q.1 + 1 == i && q.2.category == 2)))
def mm_words (S : List Value) : Nat := (S.map fun v => v.category).sum
def mm_go (pc : Nat) (L : ML) (S : List Value) (M : MH) : Option MN := some (pc, L, S, M, 0, 0)
def mm_br (b : Bool) (pc : Nat) (off : Int) (L : ML) (S : List Value) (M : MH) : Option MN :=
  match decide ((pc : Int) + off = ((((pc : Int) + off).toNat : Nat) : Int)) with
  | true => match b with
    | true => mm_go ((pc : Int) + off).toNat L S M
    | false => mm_go (pc + 3) L S M
  | false => none
def mm_iload (to i : Nat) (L : ML) (S : List Value) (M : MH) : Option MN := match mm_look L i with
  | some (.int x) => mm_go to L (.int x :: S) M
  | _ => none
def mm_lload (to i : Nat) (L : ML) (S : List Value) (M : MH) : Option MN := match mm_look L i with
  | some (.long x) => mm_go to L (.long x :: S) M
  | _ => none
def mm_aload (to i : Nat) (L : ML) (S : List Value) (M : MH) : Option MN := match mm_look L i with
  | some (.ref x) => mm_go to L (.ref x :: S) M
  | _ => none
def mm_istore (mx to i : Nat) (L : ML) (S : List Value) (M : MH) : Option MN := match S with
  | .int x :: r => match Nat.blt i mx with
    | true => mm_go to (mm_st1 L i (.int x)) r M
    | false => none
  | _ => none
def mm_lstore (mx to i : Nat) (L : ML) (S : List Value) (M : MH) : Option MN := match S with
  | .long x :: r => match Nat.blt (i + 1) mx with
    | true => mm_go to (mm_st2 L i (.long x)) r M
    | false => none
  | _ => none
def mm_astore (mx to i : Nat) (L : ML) (S : List Value) (M : MH) : Option MN := match S with
  | .ref x :: r => match Nat.blt i mx with
    | true => mm_go to (mm_st1 L i (.ref x)) r M
    | false => none
  | _ => none
def mm_iinc (mx pc i : Nat) (n : Int) (L : ML) (S : List Value) (M : MH) : Option MN := match mm_look L i with
  | some (.int x) => match Nat.blt i mx with
    | true => mm_go (pc + 3) (mm_st1 L i (.int (x + Int32.ofInt n))) S M
    | false => none
  | _ => none
def mm_i2 (f : Int32 → Int32 → Int32) (pc : Nat) (L : ML) (S : List Value) (M : MH) : Option MN := match S with
  | .int y :: .int x :: r => mm_go (pc + 1) L (.int (f x y) :: r) M
  | _ => none
def mm_i2z (f : Int32 → Int32 → Int32) (pc : Nat) (L : ML) (S : List Value) (M : MH) : Option MN := match S with
  | .int y :: .int x :: r => match decide (y = 0) with
    | true => none
    | false => mm_go (pc + 1) L (.int (f x y) :: r) M
  | _ => none
def mm_l2 (f : Int64 → Int64 → Int64) (pc : Nat) (L : ML) (S : List Value) (M : MH) : Option MN := match S with
  | .long y :: .long x :: r => mm_go (pc + 1) L (.long (f x y) :: r) M
  | _ => none
def mm_l2z (f : Int64 → Int64 → Int64) (pc : Nat) (L : ML) (S : List Value) (M : MH) : Option MN := match S with
  | .long y :: .long x :: r => match decide (y = 0) with
    | true => none
    | false => mm_go (pc + 1) L (.long (f x y) :: r) M
  | _ => none
/-- an array's element, and with another value there -/
def mm_ald (kd : Nat) (pc : Nat) (L : ML) (S : List Value) (M : MH) : Option MN := match S with
  | .int i :: .ref a :: r => match M[a]? with
    | some (k, vs) => match Nat.beq (mm_akd k) kd && !(decide (i < 0)) with
      | true => match vs[i.toNatClampNeg]? with
        | some v => mm_go (pc + 1) L (v :: r) M
        | none => none
      | false => none
    | none => none
  | _ => none
def mm_put (M : MH) (a i : Nat) (v : Value) : MH := match M[a]? with
  | some (k, vs) => M.set a (k, vs.set i v)
  | none => M
def mm_ast (w kd : Nat) (ok : Value → Bool) (pc : Nat) (L : ML) (S : List Value) (M : MH) : Option MN := match S with
  | v :: .int i :: .ref a :: r => match M[a]? with
    | some (k, vs) => match Nat.beq (mm_akd k) kd && !(decide (i < 0)) && Nat.blt i.toNatClampNeg vs.length && ok v && Nat.ble w a with
      | true => mm_go (pc + 1) L r (mm_put M a i.toNatClampNeg v)
      | false => none
    | none => none
  | _ => none
def mm_isI : Value → Bool
  | .int _ => true
  | _ => false
def mm_isL : Value → Bool
  | .long _ => true
  | _ => false
def mm_isZ : Value → Bool
  | .int x => decide (x = 0) || decide (x = 1)
  | _ => false
/-- a pool's entry: what it is, two numbers, a constant -/
abbrev ME : Type := Nat × Nat × Nat × Int
def mm_new (to : Nat) (c : MC) (n : Nat) (L : ML) (S : List Value) (M : MH) : Option MN := some (to, L, .ref M.length :: S, M ++ [c], 1, n)
def mm_newa (to kd : Nat) (z : Value) (L : ML) (S : List Value) (M : MH) : Option MN := match S with
  | .int n :: r => match !(decide (n < 0)) && Nat.blt n.toNatClampNeg 1000 with
    | true => mm_new to (kd, List.replicate n.toNatClampNeg z) n.toNatClampNeg L r M
    | false => none
  | _ => none
/-- n rows of k zeros behind the cells -/
def mm_grid (ok ik n k : Nat) (o : Nat) : MH := (ok, (List.range n).map fun i => Value.ref (o + 1 + i)) :: List.replicate n (ik, List.replicate k (Value.int 0))
def mm_multi (to ok ik : Nat) (L : ML) (S : List Value) (M : MH) : Option MN := match S with
  | .int k :: .int n :: r => match !(decide (n < 0)) && Nat.blt n.toNatClampNeg 1000 && !(decide (k < 0)) && Nat.blt k.toNatClampNeg 1000 with
    | true => some (to, L, .ref M.length :: r, M ++ mm_grid ok ik n.toNatClampNeg k.toNatClampNeg M.length, 1 + n.toNatClampNeg, n.toNatClampNeg + n.toNatClampNeg * k.toNatClampNeg)
    | false => none
  | _ => none
def mm_getf (to ci k : Nat) (L : ML) (S : List Value) (M : MH) : Option MN := match S with
  | .ref a :: r => match M[a]? with
    | some (kd, fs) => match Nat.beq kd ci with
      | true => match fs[k]? with
        | some v => mm_go to L (v :: r) M
        | none => none
      | false => none
    | none => none
  | _ => none
def mm_putf (w to ci k : Nat) (ok : Value → Bool) (L : ML) (S : List Value) (M : MH) : Option MN := match S with
  | v :: .ref a :: r => match M[a]? with
    | some (kd, fs) => match Nat.beq kd ci && Nat.blt k fs.length && Nat.beq fs.length (mm_def ci).length && ok v && Nat.ble w a with
      | true => mm_go to L r (mm_put M a k v)
      | false => none
    | none => none
  | _ => none
def mm_fitty (ty : FieldType) (v : Value) : Bool := decide (narrow ty v = v) && fits ty v
/-- a call: n arguments lie on the stack, for a method of an object (its class: ci) that object below them -/
def mm_callV (j n ci : Nat) (S : List Value) (M : MH) : Option MA := match S.drop n with
  | .ref a :: r => match M[a]? with
    | some (kd, _) => match Nat.beq kd ci && Nat.ble (mm_words r) 8 && Nat.beq (S.take n).length n && Nat.ble (1 + mm_words (S.take n)) (mm_maxL j) with
      | true => some (.inr (.inr (.inl (j, .ref a :: (S.take n).reverse, r))))
      | false => none
    | none => none
  | _ => none
def mm_callS (j n : Nat) (S : List Value) : Option MA := match Nat.ble (mm_words (S.drop n)) 8 && Nat.beq (S.take n).length n && Nat.ble (mm_words (S.take n)) (mm_maxL j) with
  | true => some (.inr (.inr (.inl (j, (S.take n).reverse, S.drop n))))
  | false => none
/-- a method of the JDK that is taken as one step -/
def mm_cpys (ws : List Value) (at0 : Nat) : List Value → List Value
  | [] => ws
  | x :: xs => mm_cpys (ws.set at0 x) (at0 + 1) xs
def mm_cpy (vs ws : List Value) (sp dp n : Nat) : List Value := mm_cpys ws dp ((vs.drop sp).take n)
def mm_nat (w d x pc : Nat) (L : ML) (S : List Value) (M : MH) : Option MN := match d with
  | 0 => none
  | _ + 1 => match x, S with
    | 0, .int y :: .int x :: r => match Nat.ble (mm_words r) 8 with
      | true => mm_go (pc + 3) L (.int (if x < y then y else x) :: r) M
      | false => none
    | 1, .int y :: .int x :: r => match Nat.ble (mm_words r) 8 with
      | true => mm_go (pc + 3) L (.int (if y < x then y else x) :: r) M
      | false => none
    | 2, .long y :: .long x :: r => match Nat.ble (mm_words r) 8 with
      | true => mm_go (pc + 3) L (.long (if y < x then x else y) :: r) M
      | false => none
    | 3, .long y :: .long x :: r => match Nat.ble (mm_words r) 8 with
      | true => mm_go (pc + 3) L (.long (if y < x then y else x) :: r) M
      | false => none
    | 4, .long x :: r => match Nat.ble (mm_words r) 8 with
      | true => mm_go (pc + 3) L (.long (if 0 < x then x else -x) :: r) M
      | false => none
    | 5, .int n :: .int dp :: .ref b :: .int sp :: .ref a :: r => match M[a]?, M[b]? with
      | some (ka, vs), some (kb, ws) => match Nat.ble (mm_words r) 8 && Nat.beq (mm_akd ka) 1 && Nat.beq (mm_akd kb) 1 && !(decide (n < 0)) && !(decide (sp < 0)) && !(decide (dp < 0)) && Nat.ble (sp.toNatClampNeg + n.toNatClampNeg) vs.length && Nat.ble (dp.toNatClampNeg + n.toNatClampNeg) ws.length && Nat.ble w b && (vs.all mm_isI) with
        | true => mm_go (pc + 3) L r (M.set b (kb, mm_cpy vs ws sp.toNatClampNeg dp.toNatClampNeg n.toNatClampNeg))
        | false => none
      | _, _ => none
    | 6, .ref _ :: r => match Nat.ble (mm_words r) 8 with
      | true => mm_go (pc + 3) L r M
      | false => none
    | _, _ => none
def mm_jmp (pc : Nat) (off : Int) (L : ML) (S : List Value) (M : MH) : Option MN := match decide ((pc : Int) + off = ((((pc : Int) + off).toNat : Nat) : Int)) with
  | true => mm_go ((pc : Int) + off).toNat L S M
  | false => none
def mm_tsw (pc : Nat) (dflt lo hi : Int) (offs : Array Int) (L : ML) (S : List Value) (M : MH) : Option MN := match S with
  | .int x :: r => match decide (x.toInt < lo) || decide (hi < x.toInt) with
    | true => mm_jmp pc dflt L r M
    | false => match offs[(x.toInt - lo).toNat]? with
      | some off => mm_jmp pc off L r M
      | none => none
  | _ => none
def mm_if (c : ClassFile.Cond) (x y : Int32) : Bool := match c with
  | .eq => decide (x = y)
  | .ne => !(decide (x = y))
  | .lt => decide (x < y)
  | .ge => decide (y ≤ x)
  | .gt => decide (y < x)
  | .le => decide (x ≤ y)
def mm_if1 (c : ClassFile.Cond) (pc : Nat) (off : Int) (L : ML) (S : List Value) (M : MH) : Option MN := match S with
  | .int x :: r => mm_br (mm_if c x 0) pc off L r M
  | _ => none
def mm_if2 (c : ClassFile.Cond) (pc : Nat) (off : Int) (L : ML) (S : List Value) (M : MH) : Option MN := match S with
  | .int y :: .int x :: r => mm_br (mm_if c x y) pc off L r M
  | _ => none
def mm_ret1 (j : Nat) (S : List Value) : Option MA := match S with
  | [.int v] => match mm_ret j with
    | some ty => match decide (narrow ty (.int v) = .int v) with
      | true => some (.inr (.inl (some (.int v))))
      | false => none
    | none => none
  | _ => none
def mm_retl (j : Nat) (S : List Value) : Option MA := match S with
  | [.long v] => match mm_ret j with
    | some .long => some (.inr (.inl (some (.long v))))
    | _ => none
  | _ => none
def mm_reta (j : Nat) (S : List Value) : Option MA := match S with
  | [.ref v] => match mm_ret j with
    | some (.object _) => some (.inr (.inl (some (.ref v))))
    | some (.array _) => some (.inr (.inl (some (.ref v))))
    | _ => none
  | _ => none
def mm_retv (j : Nat) (S : List Value) : Option MA := match S with
  | [] => match mm_ret j with
    | none => some (.inr (.inl none))
    | _ => none
  | _ => none
/-- new X, dup, ldc, its constructor, athrow: taken as one -/
def mm_thr (d j pc x : Nat) (S : List Value) : Option MA := match mm_at j (pc + 3), mm_at j (pc + 4), mm_at j (pc + 6), mm_at j (pc + 9) with
  | some .dup, some (.ldc k2), some (.invokespecial k3), some .athrow => match mm_pool j k2, mm_pool j k3 with
    | some (13, _, _, _), some (16, y, _, _) => match Nat.beq x y && Nat.ble 8 d && Nat.ble (mm_words S) 6 with
      | true => some (.inr (.inr (.inr x)))
      | false => none
    | _, _ => none
  | _, _, _, _ => none
def mm_step (w d j : Nat) (i : Instr) (pc : Nat) (L : ML) (S : List Value) (M : MH) : Option MN := match i with
  | .iconst n => mm_go (pc + 1) L (.int (Int32.ofInt n) :: S) M
  | .bipush n => mm_go (pc + 2) L (.int (Int8.ofInt n).toInt32 :: S) M
  | .sipush n => mm_go (pc + 3) L (.int (Int16.ofInt n).toInt32 :: S) M
  | .lconst n => mm_go (pc + 1) L (.long (Int64.ofNat (n : Nat)) :: S) M
  | .ldc k => match mm_pool j k with
    | some (11, _, _, z) => mm_go (pc + 2) L (.int (Int32.ofInt z) :: S) M
    | _ => none
  | .ldc2_w k => match mm_pool j k with
    | some (12, _, _, z) => mm_go (pc + 3) L (.long (Int64.ofInt z) :: S) M
    | _ => none
  | .iload_n n => mm_iload (pc + 1) n L S M
  | .iload n => mm_iload (pc + 2) n L S M
  | .lload_n n => mm_lload (pc + 1) n L S M
  | .lload n => mm_lload (pc + 2) n L S M
  | .aload_n n => mm_aload (pc + 1) n L S M
  | .aload n => mm_aload (pc + 2) n L S M
  | .istore_n n => mm_istore (mm_maxL j) (pc + 1) n L S M
  | .istore n => mm_istore (mm_maxL j) (pc + 2) n L S M
  | .lstore_n n => mm_lstore (mm_maxL j) (pc + 1) n L S M
  | .lstore n => mm_lstore (mm_maxL j) (pc + 2) n L S M
  | .astore_n n => mm_astore (mm_maxL j) (pc + 1) n L S M
  | .astore n => mm_astore (mm_maxL j) (pc + 2) n L S M
  | .iinc i n => mm_iinc (mm_maxL j) pc i n L S M
  | .iadd => mm_i2 (fun x y => x + y) pc L S M
  | .isub => mm_i2 (fun x y => x - y) pc L S M
  | .imul => mm_i2 (fun x y => x * y) pc L S M
  | .iand => mm_i2 (fun x y => x &&& y) pc L S M
  | .ior => mm_i2 (fun x y => x ||| y) pc L S M
  | .ixor => mm_i2 (fun x y => x ^^^ y) pc L S M
  | .ishl => mm_i2 (fun x y => x <<< (y &&& 31)) pc L S M
  | .ishr => mm_i2 (fun x y => x >>> (y &&& 31)) pc L S M
  | .idiv => mm_i2z (fun x y => x / y) pc L S M
  | .irem => mm_i2z (fun x y => x - x / y * y) pc L S M
  | .ladd => mm_l2 (fun x y => x + y) pc L S M
  | .lsub => mm_l2 (fun x y => x - y) pc L S M
  | .lmul => mm_l2 (fun x y => x * y) pc L S M
  | .ldiv => mm_l2z (fun x y => x / y) pc L S M
  | .lrem => mm_l2z (fun x y => x - x / y * y) pc L S M
  | .lcmp => match S with
    | .long y :: .long x :: r => mm_go (pc + 1) L (.int (lg_cmp x y) :: r) M
    | _ => none
  | .i2l => match S with
    | .int x :: r => mm_go (pc + 1) L (.long x.toInt64 :: r) M
    | _ => none
  | .l2i => match S with
    | .long x :: r => mm_go (pc + 1) L (.int x.toInt32 :: r) M
    | _ => none
  | .ineg => match S with
    | .int x :: r => mm_go (pc + 1) L (.int (-x) :: r) M
    | _ => none
  | .lneg => match S with
    | .long x :: r => mm_go (pc + 1) L (.long (-x) :: r) M
    | _ => none
  | .dup => match S with
    | v :: r => match Nat.beq v.category 1 with
      | true => mm_go (pc + 1) L (v :: v :: r) M
      | false => none
    | _ => none
  | .dup2 => match S with
    | v :: w :: r => match Nat.beq v.category 1 && Nat.beq w.category 1 with
      | true => mm_go (pc + 1) L (v :: w :: v :: w :: r) M
      | false => none
    | _ => none
  | .pop => match S with
    | v :: r => match Nat.beq v.category 1 with
      | true => mm_go (pc + 1) L r M
      | false => none
    | _ => none
  | .ifCond c off => mm_if1 c pc off L S M
  | .if_icmp c off => mm_if2 c pc off L S M
  | .goto off => mm_jmp pc off L S M
  | .tableswitch dflt lo hi offs => mm_tsw pc dflt lo hi offs L S M
  | .iaload => mm_ald 1 pc L S M
  | .laload => mm_ald 2 pc L S M
  | .baload => mm_ald 3 pc L S M
  | .aaload => mm_ald 4 pc L S M
  | .iastore => mm_ast w 1 mm_isI pc L S M
  | .lastore => mm_ast w 2 mm_isL pc L S M
  | .bastore => mm_ast w 3 mm_isZ pc L S M
  | .aastore => match S with
    | .ref v :: .int i :: .ref a :: r => match M[a]?, M[v]? with
      | some (k, _), some (k2, _) => match Nat.beq (mm_comp k) k2 && Nat.blt k2 50 with
        | true => mm_ast w 4 (fun _ => true) pc L (.ref v :: .int i :: .ref a :: r) M
        | false => none
      | _, _ => none
    | _ => none
  | .arraylength => match S with
    | .ref a :: r => match M[a]? with
      | some (k, vs) => match Nat.blt 0 (mm_akd k) && Nat.blt vs.length 100000 with
        | true => mm_go (pc + 1) L (.int (Int32.ofNat vs.length) :: r) M
        | false => none
      | none => none
    | _ => none
  | .newarray .int => mm_newa (pc + 2) 50 (.int 0) L S M
  | .newarray .long => mm_newa (pc + 2) 51 (.long 0) L S M
  | .newarray .boolean => mm_newa (pc + 2) 52 (.int 0) L S M
  | .anewarray k => match mm_pool j (100000 + k) with
    | some (9, kd, _, _) => mm_newa (pc + 3) kd .null L S M
    | _ => none
  | .multianewarray k 2 => match mm_pool j k with
    | some (10, ok, ik, _) => mm_multi (pc + 4) ok ik L S M
    | _ => none
  | .getfield k => match mm_pool j k with
    | some (0, ci, f, _) => mm_getf (pc + 3) ci f L S M
    | some (1, ci, f, _) => mm_getf (pc + 3) ci f L S M
    | _ => none
  | .putfield k => match mm_pool j k with
    | some (0, ci, f, _) => mm_putf w (pc + 3) ci f (mm_fitty (mm_fty ci f)) L S M
    | some (1, ci, f, _) => match mm_ctor j with
      | true => mm_putf w (pc + 3) ci f (mm_fitty (mm_fty ci f)) L S M
      | false => none
    | _ => none
  | _ => none
def mm_inl (x : Option MN) : Option MA := match x with
  | some n => some (.inl n)
  | none => none
def mm_act (w d j : Nat) (i : Instr) (pc : Nat) (L : ML) (S : List Value) (M : MH) : Option MA := match i with
  | .new k => match mm_pool j k with
    | some (8, ci, n, _) => mm_inl (mm_new (pc + 3) (ci, mm_def ci) n L S M)
    | some (14, x, _, _) => mm_thr d j pc x S
    | _ => none
  | .invokevirtual k => match mm_pool j k with
    | some (2, j', n, _) => mm_callV j' n (mm_cls j') S M
    | some (6, j', n, _) => mm_callV j' n (mm_cls j') S M
    | _ => none
  | .invokespecial k => match mm_pool j k with
    | some (4, j', n, _) => mm_callV j' n (mm_cls j') S M
    | some (5, j', n, _) => mm_callV j' n (mm_cls j') S M
    | some (15, _, _, _) => mm_inl (mm_nat w d 6 pc L S M)
    | _ => none
  | .invokestatic k => match mm_pool j k with
    | some (3, j', n, _) => mm_callS j' n S
    | some (7, x, _, _) => match Nat.blt x 6 with
      | true => mm_inl (mm_nat w d x pc L S M)
      | false => none
    | _ => none
  | .ireturn => mm_ret1 j S
  | .lreturn => mm_retl j S
  | .areturn => mm_reta j S
  | .return_ => mm_retv j S
  | i => mm_inl (mm_step w d j i pc L S M)
abbrev MR : Type := (Option Value ⊕ Nat) × MH × Nat × Nat
/-- w: cells below it may not be written; f: fuel; d: how deep it may call; the last two: cells and slots made so far. A method that throws is run once more with no old cell to be written, and what it left is dropped. -/
def mm_run : Nat → Nat → Nat → Nat → Nat → ML → List Value → MH → Nat → Nat → Option MR
  | 0, _, _, _, _, _, _, _, _, _ => none
  | f + 1, w, d, j, pc, L, S, M, c, n => match mm_at j pc with
    | none => none
    | some i => match mm_act w d j i pc L S M with
      | none => none
      | some (.inl (_, _, _, _, 0, _ + 1)) => none
      | some (.inl (pc', L', S', M', 0, 0)) => mm_run f w d j pc' L' S' M' c n
      | some (.inl (pc', L', S', M', dc + 1, dn)) => mm_run f w d j pc' L' S' M' (c + (dc + 1)) (n + dn)
      | some (.inr (.inl v)) => some (.inl v, M, c, n)
      | some (.inr (.inr (.inr x))) => some (.inr x, M, c + 1, n + 6)
      | some (.inr (.inr (.inl (j', as, r)))) => match d with
        | 0 => none
        | d' + 1 => match mm_run f w d' j' 0 (lv_args 0 as) [] M c n with
          | none => none
          | some (.inl v, M', c', n') => mm_run f w (d' + 1) j (pc + 3) L (v.toList ++ r) M' c' n'
          | some (.inr _, _, _, _) => match mm_run f M.length d' j' 0 (lv_args 0 as) [] M c n with
            | some (.inr x, _, c', n') => match mm_hand j pc x with
              | none => none
              | some (to, k) => mm_run f w (d' + 1) j to (L.filter fun q => !(q.1 == k) && !(q.1 + 1 == k && q.2.category == 2)) [] M c' n'
            | _ => none
