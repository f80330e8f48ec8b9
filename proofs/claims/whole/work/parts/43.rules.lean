/-! A rule for each instruction, over the cells as they are after the constructors. -/
def mm_and (x y : Int) : Int := (Int32.ofInt x &&& Int32.ofInt y).toInt
def mm_or (x y : Int) : Int := (Int32.ofInt x ||| Int32.ofInt y).toInt
def mm_xor (x y : Int) : Int := (Int32.ofInt x ^^^ Int32.ofInt y).toInt
def mm_shl (x y : Int) : Int := (Int32.ofInt x <<< (Int32.ofInt y &&& 31)).toInt
def mm_shr (x y : Int) : Int := (Int32.ofInt x >>> (Int32.ofInt y &&& 31)).toInt
theorem mm_sv2 {b : Nat} {z : Int} (h : z = (b : Int)) : mm_sv 2 z = .ref b := by
  subst h
  show (if (b : Int) < 0 then Value.null else .ref (b : Int).toNat) = _
  rw [if_neg (by omega), Int.toNat_natCast]
theorem mm_fit_i {ci f : Nat} {z : Int} (h : mm_fty ci f = .int) : mm_fitty (mm_fty ci f) (mI z) = true := by rw [h]; simp [mm_fitty, narrow, fits]
theorem mm_fit_l {ci f : Nat} {z : Int} (h : mm_fty ci f = .long) : mm_fitty (mm_fty ci f) (mJ z) = true := by rw [h]; simp [mm_fitty, narrow, fits]
theorem mm_fit_a {ci f b : Nat} {t : FieldType} (h : mm_fty ci f = .array t) : mm_fitty (mm_fty ci f) (.ref b) = true := by rw [h]; simp [mm_fitty, narrow, fits]
theorem mm_nz {x : Int} (h : x = 0 ∨ x = 1) : narrow .boolean (mI x) = mI x := by
  rcases h with rfl | rfl <;> rfl
section RU
variable {w d j pc pc' k : Nat} {V : ML} {S S' : List Value} {X : List Value} {A : MF} {M : MH} {r : MR} {x y z n off fi e : Int} {a f ci tp : Nat} {u : Int} {ts : List Nat}
theorem mm_E.iconst (hat : mm_at j pc = some (.iconst n)) (h : mm_E w d j (pc + 1) V (mI n :: S) M r) : mm_E w d j pc V S M r := .step hat (fun _ => rfl) h
theorem mm_E.bipush (hat : mm_at j pc = some (.bipush n)) (hn : (Int8.ofInt n).toInt32 = Int32.ofInt n) (h : mm_E w d j (pc + 2) V (mI n :: S) M r) : mm_E w d j pc V S M r := .step hat (fun _ => by simp only [mm_act, mm_inl, mm_step, mm_go, hn]) h
theorem mm_E.sipush (hat : mm_at j pc = some (.sipush n)) (hn : (Int16.ofInt n).toInt32 = Int32.ofInt n) (h : mm_E w d j (pc + 3) V (mI n :: S) M r) : mm_E w d j pc V S M r := .step hat (fun _ => by simp only [mm_act, mm_inl, mm_step, mm_go, hn]) h
theorem mm_E.lconst {n : Fin 2} (hat : mm_at j pc = some (.lconst n)) (hn : Int64.ofNat (n : Nat) = Int64.ofInt z) (h : mm_E w d j (pc + 1) V (mJ z :: S) M r) : mm_E w d j pc V S M r := .step hat (fun _ => by simp only [mm_act, mm_inl, mm_step, mm_go, hn]) h
theorem mm_E.ldc {v1 v2 : Nat} (hat : mm_at j pc = some (.ldc k)) (hp : mm_pool j k = some (11, v1, v2, z)) (h : mm_E w d j (pc + 2) V (mI z :: S) M r) : mm_E w d j pc V S M r := .step hat (fun _ => by simp only [mm_act, mm_inl, mm_step, mm_go, hp]) h
theorem mm_E.ldc2 {v1 v2 : Nat} (hat : mm_at j pc = some (.ldc2_w k)) (hp : mm_pool j k = some (12, v1, v2, z)) (h : mm_E w d j (pc + 3) V (mJ z :: S) M r) : mm_E w d j pc V S M r := .step hat (fun _ => by simp only [mm_act, mm_inl, mm_step, mm_go, hp]) h
theorem mm_E.inc {mx : Nat} (hmx : mm_maxL j = mx) (hb : Nat.blt k mx = true) (hat : mm_at j pc = some (.iinc k n)) (hv : mm_look V k = some (mI x)) (h : mm_E w d j (pc + 3) (mm_st1 V k (mI (x + n))) S M r) : mm_E w d j pc V S M r := .iinc hmx hb hat hv (by rw [← Int32.ofInt_add]; exact h)
theorem mm_E.iadd (hat : mm_at j pc = some .iadd) (h : mm_E w d j (pc + 1) V (mI (x + y) :: S) M r) : mm_E w d j pc V (mI y :: mI x :: S) M r := .step hat (fun _ => by simp only [mm_act, mm_inl, mm_step, mm_i2, mm_go, ← Int32.ofInt_add]) h
theorem mm_E.isub (hat : mm_at j pc = some .isub) (h : mm_E w d j (pc + 1) V (mI (x - y) :: S) M r) : mm_E w d j pc V (mI y :: mI x :: S) M r := .step hat (fun _ => by simp only [mm_act, mm_inl, mm_step, mm_i2, mm_go, ← Int32.ofInt_sub]) h
theorem mm_E.imul (hat : mm_at j pc = some .imul) (h : mm_E w d j (pc + 1) V (mI (x * y) :: S) M r) : mm_E w d j pc V (mI y :: mI x :: S) M r := .step hat (fun _ => by simp only [mm_act, mm_inl, mm_step, mm_i2, mm_go, ← Int32.ofInt_mul]) h
theorem mm_E.iand (hat : mm_at j pc = some .iand) (h : mm_E w d j (pc + 1) V (mI (mm_and x y) :: S) M r) : mm_E w d j pc V (mI y :: mI x :: S) M r := .step hat (fun _ => by simp only [mm_act, mm_inl, mm_step, mm_i2, mm_go, mI, mm_and, Int32.ofInt_toInt]) h
theorem mm_E.ior (hat : mm_at j pc = some .ior) (h : mm_E w d j (pc + 1) V (mI (mm_or x y) :: S) M r) : mm_E w d j pc V (mI y :: mI x :: S) M r := .step hat (fun _ => by simp only [mm_act, mm_inl, mm_step, mm_i2, mm_go, mI, mm_or, Int32.ofInt_toInt]) h
theorem mm_E.ixor (hat : mm_at j pc = some .ixor) (h : mm_E w d j (pc + 1) V (mI (mm_xor x y) :: S) M r) : mm_E w d j pc V (mI y :: mI x :: S) M r := .step hat (fun _ => by simp only [mm_act, mm_inl, mm_step, mm_i2, mm_go, mI, mm_xor, Int32.ofInt_toInt]) h
theorem mm_E.ishl (hat : mm_at j pc = some .ishl) (h : mm_E w d j (pc + 1) V (mI (mm_shl x y) :: S) M r) : mm_E w d j pc V (mI y :: mI x :: S) M r := .step hat (fun _ => by simp only [mm_act, mm_inl, mm_step, mm_i2, mm_go, mI, mm_shl, Int32.ofInt_toInt]) h
theorem mm_E.ishr (hat : mm_at j pc = some .ishr) (h : mm_E w d j (pc + 1) V (mI (mm_shr x y) :: S) M r) : mm_E w d j pc V (mI y :: mI x :: S) M r := .step hat (fun _ => by simp only [mm_act, mm_inl, mm_step, mm_i2, mm_go, mI, mm_shr, Int32.ofInt_toInt]) h
theorem mm_ne32 (hy : R32 y) (h1 : 0 < y) : decide (Int32.ofInt y = 0) = false := decide_eq_false fun q => by
  have q : Int32.ofInt y = Int32.ofInt 0 := q
  rw [mm_eq32 hy (by decide)] at q
  omega
theorem mm_ne64 (hy : R64 y) (h1 : 0 < y) : decide (Int64.ofInt y = 0) = false := decide_eq_false fun q => by
  have q : Int64.ofInt y = Int64.ofInt 0 := q
  rw [mm_eq64 hy (by decide)] at q
  omega
theorem mm_E.idiv (hx : R32 x) (hy : R32 y) (h0 : 0 ≤ x) (h1 : 0 < y) (hat : mm_at j pc = some .idiv) (h : mm_E w d j (pc + 1) V (mI (x / y) :: S) M r) : mm_E w d j pc V (mI y :: mI x :: S) M r := .step hat (fun _ => by simp only [mm_act, mm_inl, mm_step, mm_i2z, mm_ne32 hy h1, mm_go, mm_div32 hx hy h0 h1]) h
theorem mm_E.irem (hx : R32 x) (hy : R32 y) (h0 : 0 ≤ x) (h1 : 0 < y) (hat : mm_at j pc = some .irem) (h : mm_E w d j (pc + 1) V (mI (x % y) :: S) M r) : mm_E w d j pc V (mI y :: mI x :: S) M r := .step hat (fun _ => by
  have e : x % y = x - x / y * y := by rw [Int.emod_def, Int.mul_comm]
  simp only [mm_act, mm_inl, mm_step, mm_i2z, mm_ne32 hy h1, mm_go, mm_div32 hx hy h0 h1, mI, e, Int32.ofInt_sub, Int32.ofInt_mul]) h
theorem mm_E.ladd (hat : mm_at j pc = some .ladd) (h : mm_E w d j (pc + 1) V (mJ (x + y) :: S) M r) : mm_E w d j pc V (mJ y :: mJ x :: S) M r := .step hat (fun _ => by simp only [mm_act, mm_inl, mm_step, mm_l2, mm_go, ← Int64.ofInt_add]) h
theorem mm_E.lsub (hat : mm_at j pc = some .lsub) (h : mm_E w d j (pc + 1) V (mJ (x - y) :: S) M r) : mm_E w d j pc V (mJ y :: mJ x :: S) M r := .step hat (fun _ => by simp only [mm_act, mm_inl, mm_step, mm_l2, mm_go, ← Int64.ofInt_sub]) h
theorem mm_E.lmul (hat : mm_at j pc = some .lmul) (h : mm_E w d j (pc + 1) V (mJ (x * y) :: S) M r) : mm_E w d j pc V (mJ y :: mJ x :: S) M r := .step hat (fun _ => by simp only [mm_act, mm_inl, mm_step, mm_l2, mm_go, ← Int64.ofInt_mul]) h
theorem mm_E.lneg (hat : mm_at j pc = some .lneg) (h : mm_E w d j (pc + 1) V (mJ (-x) :: S) M r) : mm_E w d j pc V (mJ x :: S) M r := .step hat (fun _ => by simp only [mm_act, mm_inl, mm_step, mm_go, ← Int64.ofInt_neg]) h
theorem mm_E.ldiv (hx : R64 x) (hy : R64 y) (h1 : 0 < y) (hat : mm_at j pc = some .ldiv) (h : mm_E w d j (pc + 1) V (mJ (x.tdiv y) :: S) M r) : mm_E w d j pc V (mJ y :: mJ x :: S) M r := .step hat (fun _ => by simp only [mm_act, mm_inl, mm_step, mm_l2z, mm_ne64 hy h1, mm_go, mm_div64 hx hy h1]) h
theorem mm_E.lrem (hx : R64 x) (hy : R64 y) (h1 : 0 < y) (hat : mm_at j pc = some .lrem) (h : mm_E w d j (pc + 1) V (mJ (x.tmod y) :: S) M r) : mm_E w d j pc V (mJ y :: mJ x :: S) M r := .step hat (fun _ => by
  have e : x.tmod y = x - x.tdiv y * y := by rw [Int.tmod_def, Int.mul_comm]
  simp only [mm_act, mm_inl, mm_step, mm_l2z, mm_ne64 hy h1, mm_go, mm_div64 hx hy h1, mJ, e, Int64.ofInt_sub, Int64.ofInt_mul]) h
theorem mm_E.i2l (hx : R32 x) (hat : mm_at j pc = some .i2l) (h : mm_E w d j (pc + 1) V (mJ x :: S) M r) : mm_E w d j pc V (mI x :: S) M r := .step hat (fun _ => by simp only [mm_act, mm_inl, mm_step, mm_go, mm_wide hx]) h
theorem mm_E.dupI (hat : mm_at j pc = some .dup) (h : mm_E w d j (pc + 1) V (mI x :: mI x :: S) M r) : mm_E w d j pc V (mI x :: S) M r := .step hat (fun _ => rfl) h
theorem mm_E.dupR (hat : mm_at j pc = some .dup) (h : mm_E w d j (pc + 1) V (.ref a :: .ref a :: S) M r) : mm_E w d j pc V (.ref a :: S) M r := .step hat (fun _ => rfl) h
theorem mm_E.dup2 (hat : mm_at j pc = some .dup2) (h : mm_E w d j (pc + 1) V (mI x :: .ref a :: mI x :: .ref a :: S) M r) : mm_E w d j pc V (mI x :: .ref a :: S) M r := .step hat (fun _ => rfl) h
theorem mm_jmp_ok {L : ML} (h : mm_brt true pc off = some pc') : mm_jmp pc off L S M = some (pc', L, S, M, 0, 0) := by
  unfold mm_brt at h
  unfold mm_jmp
  by_cases e : (pc : Int) + off = ((((pc : Int) + off).toNat : Nat) : Int)
  · rw [decide_eq_true e] at h ⊢
    have k : some ((pc : Int) + off).toNat = some pc' := h
    cases k
    rfl
  · rw [decide_eq_false e] at h
    have k : (none : Option Nat) = some pc' := h
    cases k
theorem mm_E.goto (hat : mm_at j pc = some (.goto off)) (hpc : mm_brt true pc off = some pc') (h : mm_E w d j pc' V S M r) : mm_E w d j pc V S M r := .step hat (fun L => by
  simp only [mm_act, mm_inl, mm_step, mm_jmp_ok hpc]) h
theorem mm_E.if1 {c : ClassFile.Cond} {b : Bool} (hat : mm_at j pc = some (.ifCond c off)) (rx : R32 x) (hb : mm_ic c x 0 = b) (hpc : mm_brt b pc off = some pc') (h : mm_E w d j pc' V S M r) : mm_E w d j pc V (mI x :: S) M r := .step hat (fun L => by
  have e := mm_if32 c rx (y := 0) (by decide)
  simp only [mm_act, mm_inl, mm_step, mm_if1]
  rw [show mm_if c (Int32.ofInt x) 0 = b from e.trans hb, mm_brt_ok hpc]) h
theorem mm_E.if2 {c : ClassFile.Cond} {b : Bool} (hat : mm_at j pc = some (.if_icmp c off)) (rx : R32 x) (ry : R32 y) (hb : mm_ic c x y = b) (hpc : mm_brt b pc off = some pc') (h : mm_E w d j pc' V S M r) : mm_E w d j pc V (mI y :: mI x :: S) M r := .step hat (fun L => by
  simp only [mm_act, mm_inl, mm_step, mm_if2]
  rw [(mm_if32 c rx ry).trans hb, mm_brt_ok hpc]) h
theorem mm_E.lif {c : ClassFile.Cond} {b : Bool} (hat : mm_at j pc = some .lcmp) (hat2 : mm_at j (pc + 1) = some (.ifCond c off)) (rx : R64 x) (ry : R64 y) (hb : mm_ic c x y = b) (hpc : mm_brt b (pc + 1) off = some pc') (h : mm_E w d j pc' V S M r) : mm_E w d j pc V (mJ y :: mJ x :: S) M r := .step (pc' := pc + 1) (S' := .int (lg_cmp (Int64.ofInt x) (Int64.ofInt y)) :: S) (M' := M) hat (fun L => by simp only [mm_act, mm_inl, mm_step, mm_go]) (.step hat2 (fun L => by
  simp only [mm_act, mm_inl, mm_step, mm_if1]
  rw [(mm_if64 c rx ry).trans hb, mm_brt_ok hpc]) h)
/-! fields -/
theorem mm_getf_ok {t : Nat} {v : Value} {L : ML} (hl : mm_ly a = some (ci, ts)) (hf : ts[f]? = some t) (hv : mm_sv t (A a (f : Int)) = v) : mm_getf pc' ci f L (.ref a :: S) (mm_w X A) = some (pc', L, v :: S, mm_w X A, 0, 0) := by
  unfold mm_getf
  have e := mm_ss_get (A := A) (a := a) (n := 0) hf
  rw [Nat.zero_add] at e
  simp only [mm_w_get hl, Nat.beq_refl, e, hv, mm_go]
theorem mm_get_ok {t : Nat} {v : Value} {L : ML} (hp : mm_pool j k = some (tp, ci, f, u)) (ht : (Nat.beq tp 0 || Nat.beq tp 1) = true) (hl : mm_ly a = some (ci, ts)) (hf : ts[f]? = some t) (hv : mm_sv t (A a (f : Int)) = v) : mm_act w d j (.getfield k) pc L (.ref a :: S) (mm_w X A) = some (.inl (pc + 3, L, v :: S, mm_w X A, 0, 0)) := by
  have q := mm_getf_ok (pc' := pc + 3) (X := X) (S := S) (L := L) hl hf hv
  match tp, ht with
  | 0, _ => simp only [mm_act, mm_inl, mm_step, hp, q]
  | 1, _ => simp only [mm_act, mm_inl, mm_step, hp, q]
  | t + 2, ht => cases ht
theorem mm_E.getI (hat : mm_at j pc = some (.getfield k)) (hp : mm_pool j k = some (tp, ci, f, u)) (ht : (Nat.beq tp 0 || Nat.beq tp 1) = true) (hl : mm_ly a = some (ci, ts)) (hf : ts[f]? = some 0) (hz : A a (f : Int) = z) (h : mm_E w d j (pc + 3) V (mI z :: S) (mm_w X A) r) : mm_E w d j pc V (.ref a :: S) (mm_w X A) r := .step hat (fun _ => mm_get_ok hp ht hl hf (by rw [hz]; rfl)) h
theorem mm_E.getJ (hat : mm_at j pc = some (.getfield k)) (hp : mm_pool j k = some (tp, ci, f, u)) (ht : (Nat.beq tp 0 || Nat.beq tp 1) = true) (hl : mm_ly a = some (ci, ts)) (hf : ts[f]? = some 1) (hz : A a (f : Int) = z) (h : mm_E w d j (pc + 3) V (mJ z :: S) (mm_w X A) r) : mm_E w d j pc V (.ref a :: S) (mm_w X A) r := .step hat (fun _ => mm_get_ok hp ht hl hf (by rw [hz]; rfl)) h
theorem mm_E.getM {b : Nat} (hat : mm_at j pc = some (.getfield k)) (hp : mm_pool j k = some (tp, ci, f, u)) (ht : (Nat.beq tp 0 || Nat.beq tp 1) = true) (hl : mm_ly a = some (ci, ts)) (hf : ts[f]? = some 2) (hb : A a (f : Int) = (b : Int)) (h : mm_E w d j (pc + 3) V (.ref b :: S) (mm_w X A) r) : mm_E w d j pc V (.ref a :: S) (mm_w X A) r := .step hat (fun _ => mm_get_ok hp ht hl hf (mm_sv2 hb)) h
theorem mm_E.getR {b : Nat} (hat : mm_at j pc = some (.getfield k)) (hp : mm_pool j k = some (tp, ci, f, u)) (ht : (Nat.beq tp 0 || Nat.beq tp 1) = true) (hl : mm_ly a = some (ci, ts)) (hf : ts[f]? = some (b + 3)) (h : mm_E w d j (pc + 3) V (.ref b :: S) (mm_w X A) r) : mm_E w d j pc V (.ref a :: S) (mm_w X A) r := .step hat (fun _ => mm_get_ok hp ht hl hf rfl) h
theorem mm_put_ok {t : Nat} {v : Value} {L : ML} (hp : mm_pool j k = some (0, ci, f, u)) (hl : mm_ly a = some (ci, ts)) (hn : Nat.beq ts.length (mm_def ci).length = true) (hf : ts[f]? = some t) (hv : mm_sv t z = v) (hok : mm_fitty (mm_fty ci f) v = true) (hw : Nat.ble w a = true) : mm_act w d j (.putfield k) pc L (v :: .ref a :: S) (mm_w X A) = some (.inl (pc + 3, L, S, mm_w X (mm_u A a (f : Int) z), 0, 0)) := by
  have hlt : Nat.blt f ts.length = true := Nat.ble_eq_true_of_le (List.getElem?_eq_some_iff.mp hf).1
  have e := mm_w_put (X := X) (A := A) (z := z) hl hf
  rw [hv] at e
  simp only [mm_act, mm_inl, mm_step, hp, mm_putf, mm_w_get hl, mm_ss_len, Nat.beq_refl, hlt, hn, hok, hw, Bool.and_self, mm_go, e]
theorem mm_E.putI (hat : mm_at j pc = some (.putfield k)) (hp : mm_pool j k = some (0, ci, f, u)) (hl : mm_ly a = some (ci, ts)) (hn : Nat.beq ts.length (mm_def ci).length = true) (hf : ts[f]? = some 0) (hfi : (f : Int) = fi) (hok : mm_fitty (mm_fty ci f) (mI z) = true) (hw : Nat.ble w a = true) (h : mm_E w d j (pc + 3) V S (mm_w X (mm_u A a fi z)) r) : mm_E w d j pc V (mI z :: .ref a :: S) (mm_w X A) r := .step hat (fun _ => mm_put_ok hp hl hn hf rfl hok hw) (by rw [hfi]; exact h)
theorem mm_E.putJ (hat : mm_at j pc = some (.putfield k)) (hp : mm_pool j k = some (0, ci, f, u)) (hl : mm_ly a = some (ci, ts)) (hn : Nat.beq ts.length (mm_def ci).length = true) (hf : ts[f]? = some 1) (hfi : (f : Int) = fi) (hok : mm_fitty (mm_fty ci f) (mJ z) = true) (hw : Nat.ble w a = true) (h : mm_E w d j (pc + 3) V S (mm_w X (mm_u A a fi z)) r) : mm_E w d j pc V (mJ z :: .ref a :: S) (mm_w X A) r := .step hat (fun _ => mm_put_ok hp hl hn hf rfl hok hw) (by rw [hfi]; exact h)
theorem mm_E.putM {b : Nat} (hat : mm_at j pc = some (.putfield k)) (hp : mm_pool j k = some (0, ci, f, u)) (hl : mm_ly a = some (ci, ts)) (hn : Nat.beq ts.length (mm_def ci).length = true) (hf : ts[f]? = some 2) (hfi : (f : Int) = fi) (hok : mm_fitty (mm_fty ci f) (.ref b) = true) (hw : Nat.ble w a = true) (h : mm_E w d j (pc + 3) V S (mm_w X (mm_u A a fi b)) r) : mm_E w d j pc V (.ref b :: .ref a :: S) (mm_w X A) r := .step hat (fun _ => mm_put_ok hp hl hn hf (mm_sv2 rfl) hok hw) (by rw [hfi]; exact h)
/-! arrays -/
theorem mm_ald_ok {t kd q : Nat} {v : Value} {L : ML} (hl : mm_ly a = some (kd, ts)) (hk : mm_akd kd = q) (h0 : 0 ≤ e) (h9 : e ≤ 2147483647) (hf : ts[e.toNat]? = some t) (hv : mm_sv t (A a e) = v) : mm_ald q pc L (mI e :: .ref a :: S) (mm_w X A) = some (pc + 1, L, v :: S, mm_w X A, 0, 0) := by
  have r1 : R32 e := by omega
  have g := mm_ss_get (A := A) (a := a) (n := 0) hf
  rw [Nat.zero_add, Int.toNat_of_nonneg h0, hv] at g
  unfold mm_ald
  simp only [mm_w_get hl, hk, Nat.beq_refl, mm_neg32 r1 h0, mm_nat32 r1, g, Bool.not_false, Bool.and_self, mm_go]
theorem mm_rep {n t : Nat} (h0 : 0 ≤ e) (h1 : e < n) : (List.replicate n t)[e.toNat]? = some t := by
  rw [List.getElem?_replicate, if_pos (by omega)]
theorem mm_E.iaload {n kd : Nat} (hat : mm_at j pc = some .iaload) (hl : mm_ly a = some (kd, List.replicate n 0)) (hk : mm_akd kd = 1) (h0 : 0 ≤ e) (h1 : e < n) (hn : Nat.ble n 1000 = true) (hz : A a e = z) (h : mm_E w d j (pc + 1) V (mI z :: S) (mm_w X A) r) : mm_E w d j pc V (mI e :: .ref a :: S) (mm_w X A) r := .step hat (fun L => by
  have hn := Nat.le_of_ble_eq_true hn
  simp only [mm_act, mm_inl, mm_step]
  rw [mm_ald_ok hl hk h0 (by omega) (mm_rep h0 h1) (v := mI z) (by rw [hz]; rfl)]) h
theorem mm_E.baload {n kd : Nat} (hat : mm_at j pc = some .baload) (hl : mm_ly a = some (kd, List.replicate n 0)) (hk : mm_akd kd = 3) (h0 : 0 ≤ e) (h1 : e < n) (hn : Nat.ble n 1000 = true) (hz : A a e = z) (h : mm_E w d j (pc + 1) V (mI z :: S) (mm_w X A) r) : mm_E w d j pc V (mI e :: .ref a :: S) (mm_w X A) r := .step hat (fun L => by
  have hn := Nat.le_of_ble_eq_true hn
  simp only [mm_act, mm_inl, mm_step]
  rw [mm_ald_ok hl hk h0 (by omega) (mm_rep h0 h1) (v := mI z) (by rw [hz]; rfl)]) h
theorem mm_E.laload {n kd : Nat} (hat : mm_at j pc = some .laload) (hl : mm_ly a = some (kd, List.replicate n 1)) (hk : mm_akd kd = 2) (h0 : 0 ≤ e) (h1 : e < n) (hn : Nat.ble n 1000 = true) (hz : A a e = z) (h : mm_E w d j (pc + 1) V (mJ z :: S) (mm_w X A) r) : mm_E w d j pc V (mI e :: .ref a :: S) (mm_w X A) r := .step hat (fun L => by
  have hn := Nat.le_of_ble_eq_true hn
  simp only [mm_act, mm_inl, mm_step]
  rw [mm_ald_ok hl hk h0 (by omega) (mm_rep h0 h1) (v := mJ z) (by rw [hz]; rfl)]) h
theorem mm_E.aaload {kd b : Nat} (hat : mm_at j pc = some .aaload) (hl : mm_ly a = some (kd, ts)) (hk : mm_akd kd = 4) (h0 : 0 ≤ e) (h1 : e < 6) (hf : ts[e.toNat]? = some (b + 3)) (h : mm_E w d j (pc + 1) V (.ref b :: S) (mm_w X A) r) : mm_E w d j pc V (mI e :: .ref a :: S) (mm_w X A) r := .step hat (fun L => by
  simp only [mm_act, mm_inl, mm_step]
  rw [mm_ald_ok hl hk h0 (by omega) hf rfl]
  rfl) h
theorem mm_ast_ok {t kd q : Nat} {v : Value} {L : ML} {ok : Value → Bool} (hl : mm_ly a = some (kd, ts)) (hk : mm_akd kd = q) (h0 : 0 ≤ e) (h9 : e ≤ 2147483647) (hf : ts[e.toNat]? = some t) (hv : mm_sv t z = v) (hok : ok v = true) (hw : Nat.ble w a = true) : mm_ast w q ok pc L (v :: mI e :: .ref a :: S) (mm_w X A) = some (pc + 1, L, S, mm_w X (mm_u A a e z), 0, 0) := by
  have r1 : R32 e := by omega
  have hlt : Nat.blt e.toNat ts.length = true := Nat.ble_eq_true_of_le (List.getElem?_eq_some_iff.mp hf).1
  have g := mm_w_put (X := X) (A := A) (z := z) hl hf
  rw [Int.toNat_of_nonneg h0, hv] at g
  unfold mm_ast
  simp only [mm_w_get hl, hk, Nat.beq_refl, mm_neg32 r1 h0, mm_nat32 r1, mm_ss_len, hlt, hok, hw, Bool.not_false, Bool.and_self, mm_go, g]
theorem mm_E.iastore {n kd : Nat} (hat : mm_at j pc = some .iastore) (hl : mm_ly a = some (kd, List.replicate n 0)) (hk : mm_akd kd = 1) (h0 : 0 ≤ e) (h1 : e < n) (hn : Nat.ble n 1000 = true) (hw : Nat.ble w a = true) (h : mm_E w d j (pc + 1) V S (mm_w X (mm_u A a e z)) r) : mm_E w d j pc V (mI z :: mI e :: .ref a :: S) (mm_w X A) r := .step hat (fun L => by
  have hn := Nat.le_of_ble_eq_true hn
  simp only [mm_act, mm_inl, mm_step]
  rw [mm_ast_ok (v := mI z) hl hk h0 (by omega) (mm_rep h0 h1) rfl rfl hw]) h
theorem mm_E.lastore {n kd : Nat} (hat : mm_at j pc = some .lastore) (hl : mm_ly a = some (kd, List.replicate n 1)) (hk : mm_akd kd = 2) (h0 : 0 ≤ e) (h1 : e < n) (hn : Nat.ble n 1000 = true) (hw : Nat.ble w a = true) (h : mm_E w d j (pc + 1) V S (mm_w X (mm_u A a e z)) r) : mm_E w d j pc V (mJ z :: mI e :: .ref a :: S) (mm_w X A) r := .step hat (fun L => by
  have hn := Nat.le_of_ble_eq_true hn
  simp only [mm_act, mm_inl, mm_step]
  rw [mm_ast_ok (v := mJ z) hl hk h0 (by omega) (mm_rep h0 h1) rfl rfl hw]) h
theorem mm_E.bastore {n kd : Nat} (hat : mm_at j pc = some .bastore) (hl : mm_ly a = some (kd, List.replicate n 0)) (hk : mm_akd kd = 3) (h0 : 0 ≤ e) (h1 : e < n) (hn : Nat.ble n 1000 = true) (hz : mm_isZ (mI z) = true) (hw : Nat.ble w a = true) (h : mm_E w d j (pc + 1) V S (mm_w X (mm_u A a e z)) r) : mm_E w d j pc V (mI z :: mI e :: .ref a :: S) (mm_w X A) r := .step hat (fun L => by
  have hn := Nat.le_of_ble_eq_true hn
  simp only [mm_act, mm_inl, mm_step]
  rw [mm_ast_ok (v := mI z) hl hk h0 (by omega) (mm_rep h0 h1) rfl hz hw]) h
/-! the script -/
theorem mm_E.xload (hat : mm_at j pc = some .iaload) (h0 : 0 ≤ e) (h1 : R32 e) (hx : X[e.toNat]? = some (mI z)) (h : mm_E w d j (pc + 1) V (mI z :: S) (mm_w X A) r) : mm_E w d j pc V (mI e :: .ref 0 :: S) (mm_w X A) r := .step hat (fun L => by
  have e0 : (mm_w X A)[0]? = some (99, X) := rfl
  simp only [mm_act, mm_inl, mm_step, mm_ald, e0, show mm_akd 99 = 1 from rfl, Nat.beq_refl, mm_neg32 h1 h0, mm_nat32 h1, hx, Bool.not_false, Bool.and_self, mm_go]) h
theorem mm_E.xlen (hat : mm_at j pc = some .arraylength) (hn : Nat.blt X.length 100000 = true) (h : mm_E w d j (pc + 1) V (mI X.length :: S) (mm_w X A) r) : mm_E w d j pc V (.ref 0 :: S) (mm_w X A) r := .step hat (fun L => by
  have e0 : (mm_w X A)[0]? = some (99, X) := rfl
  have e1 : Int32.ofNat X.length = Int32.ofInt X.length := Int32.ofInt_eq_ofNat.symm
  simp only [mm_act, mm_inl, mm_step, e0, show mm_akd 99 = 1 from rfl, show Nat.blt 0 1 = true from rfl, hn, Bool.and_self, mm_go, e1]) h
/-! returns -/
theorem mm_e.ret {i : Instr} {L : ML} {v : Option Value} (hat : mm_at j pc = some i) (hact : mm_act w d j i pc L S M = some (.inr (.inl v))) : mm_e w d j pc L S M (.inl v, M, 0, 0) := by
  refine ⟨1, fun c n => ?_⟩
  unfold mm_run
  simp only [hat, hact]
  rfl
theorem mm_E.iret {ty : FieldType} (hat : mm_at j pc = some .ireturn) (hr : mm_ret j = some ty) (hn : narrow ty (mI x) = mI x) : mm_E w d j pc V [mI x] M (.inl (some (mI x)), M, 0, 0) := fun L _ => mm_e.ret hat (by simp only [mm_act, mm_ret1, hr, hn, decide_true])
theorem mm_E.lret (hat : mm_at j pc = some .lreturn) (hr : mm_ret j = some .long) : mm_E w d j pc V [mJ x] M (.inl (some (mJ x)), M, 0, 0) := fun L _ => mm_e.ret hat (by simp only [mm_act, mm_retl, hr])
theorem mm_E.aret {C : String} (hat : mm_at j pc = some .areturn) (hr : mm_ret j = some (.object C)) : mm_E w d j pc V [.ref a] M (.inl (some (.ref a)), M, 0, 0) := fun L _ => mm_e.ret hat (by simp only [mm_act, mm_reta, hr])
theorem mm_E.vret (hat : mm_at j pc = some .return_) (hr : mm_ret j = none) : mm_E w d j pc V [] M (.inl none, M, 0, 0) := fun L _ => mm_e.ret hat (by simp only [mm_act, mm_retv, hr])
/-! calls -/
theorem mm_look_args : ∀ (as : List Value) (n : Nat), ∀ q ∈ lv_args n as, n ≤ q.1 ∧ mm_look (lv_args n as) q.1 = some q.2
  | [], _, q, hq => by cases hq
  | v :: as, n, q, hq => by
    rcases List.mem_cons.mp hq with rfl | hq
    · exact ⟨Nat.le_refl _, by show mm_look ((n, v) :: _) n = some v; rw [mm_look_cons, if_pos rfl]⟩
    · obtain ⟨h1, h2⟩ := mm_look_args as _ q hq
      have h3 : n + 1 ≤ q.1 := by split at h1 <;> omega
      refine ⟨by omega, ?_⟩
      show mm_look ((n, v) :: lv_args _ as) q.1 = some q.2
      rw [mm_look_cons, if_neg (by show ¬ n = q.1; omega)]
      exact h2
theorem mm_E.run {V0 : ML} {as : List Value} (h : mm_E w d j pc V0 S M r) (hV : lv_args 0 as = V0) : mm_e w d j pc (lv_args 0 as) S M r := h _ (by rw [← hV]; exact fun q hq => (mm_look_args as 0 q hq).2)
theorem mm_E.call {i : Instr} {j' d0 : Nat} {as : List Value} {V0 : ML} {v : Option Value} {M' : MH} {a1 b1 : Nat} {o : Option Value ⊕ Nat} {M2 : MH} {a2 b2 : Nat} (hat : mm_at j pc = some i) (hact : ∀ L : ML, mm_act w (d + 1) j i pc L S M = some (.inr (.inr (.inl (j', as, S'))))) (hV : lv_args 0 as = V0) (hs : mm_E w d0 j' 0 V0 [] M (.inl v, M', a1, b1)) (hd : d0 ≤ d) (h : mm_E w (d + 1) j (pc + 3) V (v.toList ++ S') M' (o, M2, a2, b2)) : mm_E w (d + 1) j pc V S M (o, M2, a1 + a2, b1 + b2) := fun L hL => by
  obtain ⟨f1, h1⟩ := (hs.mono hd).run hV
  obtain ⟨f2, h2⟩ := h L hL
  refine ⟨f1 + f2 + 1, fun c n => ?_⟩
  have q1 := mm_run_mono f1 (f1 + f2) _ _ _ _ _ _ _ _ _ _ _ (by omega) (Nat.le_refl _) (h1 c n)
  have q2 := mm_run_mono f2 (f1 + f2) _ _ _ _ _ _ _ _ _ _ _ (by omega) (Nat.le_refl _) (h2 (c + a1) (n + b1))
  unfold mm_run
  simp only [hat, hact]
  simp only [q1]
  rw [q2]
  simp only [Nat.add_assoc]
theorem mm_E.callV {j' n d0 mx : Nat} {V0 : ML} {v : Option Value} {M' : MH} {a1 b1 : Nat} {o : Option Value ⊕ Nat} {M2 : MH} {a2 b2 : Nat} (hat : mm_at j pc = some (.invokevirtual k)) (hp : mm_pool j k = some (tp, j', n, u)) (ht : (Nat.beq tp 2 || Nat.beq tp 6) = true) (hc : mm_cls j' = ci) (hl : mm_ly a = some (ci, ts)) (hS : S.drop n = .ref a :: S') (hmx : mm_maxL j' = mx) (hb : (Nat.ble (mm_words S') 8 && Nat.beq (S.take n).length n && Nat.ble (1 + mm_words (S.take n)) mx) = true) (hV : lv_args 0 (.ref a :: (S.take n).reverse) = V0)
    (hs : mm_E w d0 j' 0 V0 [] (mm_w X A) (.inl v, M', a1, b1)) (hd : d0 ≤ d) (h : mm_E w (d + 1) j (pc + 3) V (v.toList ++ S') M' (o, M2, a2, b2)) : mm_E w (d + 1) j pc V S (mm_w X A) (o, M2, a1 + a2, b1 + b2) := .call hat (fun L => by
  have e : mm_callV j' n ci S (mm_w X A) = some (.inr (.inr (.inl (j', .ref a :: (S.take n).reverse, S')))) := by
    unfold mm_callV
    rw [hS]
    simp only [mm_w_get hl, Nat.beq_refl, hmx, Bool.true_and]
    rw [hb]
  match tp, ht with
  | 2, _ => simp only [mm_act, hp, hc, e]
  | 6, _ => simp only [mm_act, hp, hc, e]
  | 0, ht => cases ht
  | 1, ht => cases ht
  | 3, ht => cases ht
  | 4, ht => cases ht
  | 5, ht => cases ht
  | t + 7, ht => cases ht) hV hs hd h
theorem mm_E.callP {j' n d0 mx : Nat} {V0 : ML} {v : Option Value} {M' : MH} {a1 b1 : Nat} {o : Option Value ⊕ Nat} {M2 : MH} {a2 b2 : Nat} (hat : mm_at j pc = some (.invokespecial k)) (hp : mm_pool j k = some (tp, j', n, u)) (ht : (Nat.beq tp 4 || Nat.beq tp 5) = true) (hc : mm_cls j' = ci) (hl : mm_ly a = some (ci, ts)) (hS : S.drop n = .ref a :: S') (hmx : mm_maxL j' = mx) (hb : (Nat.ble (mm_words S') 8 && Nat.beq (S.take n).length n && Nat.ble (1 + mm_words (S.take n)) mx) = true) (hV : lv_args 0 (.ref a :: (S.take n).reverse) = V0)
    (hs : mm_E w d0 j' 0 V0 [] (mm_w X A) (.inl v, M', a1, b1)) (hd : d0 ≤ d) (h : mm_E w (d + 1) j (pc + 3) V (v.toList ++ S') M' (o, M2, a2, b2)) : mm_E w (d + 1) j pc V S (mm_w X A) (o, M2, a1 + a2, b1 + b2) := .call hat (fun L => by
  have e : mm_callV j' n ci S (mm_w X A) = some (.inr (.inr (.inl (j', .ref a :: (S.take n).reverse, S')))) := by
    unfold mm_callV
    rw [hS]
    simp only [mm_w_get hl, Nat.beq_refl, hmx, Bool.true_and]
    rw [hb]
  match tp, ht with
  | 4, _ => simp only [mm_act, hp, hc, e]
  | 5, _ => simp only [mm_act, hp, hc, e]
  | 0, ht => cases ht
  | 1, ht => cases ht
  | 2, ht => cases ht
  | 3, ht => cases ht
  | t + 6, ht => cases ht) hV hs hd h
theorem mm_E.callS {j' n d0 mx : Nat} {V0 : ML} {v : Option Value} {M' : MH} {a1 b1 : Nat} {o : Option Value ⊕ Nat} {M2 : MH} {a2 b2 : Nat} (hat : mm_at j pc = some (.invokestatic k)) (hp : mm_pool j k = some (3, j', n, u)) (hmx : mm_maxL j' = mx) (hb : (Nat.ble (mm_words (S.drop n)) 8 && Nat.beq (S.take n).length n && Nat.ble (mm_words (S.take n)) mx) = true) (hV : lv_args 0 (S.take n).reverse = V0)
    (hs : mm_E w d0 j' 0 V0 [] M (.inl v, M', a1, b1)) (hd : d0 ≤ d) (h : mm_E w (d + 1) j (pc + 3) V (v.toList ++ S.drop n) M' (o, M2, a2, b2)) : mm_E w (d + 1) j pc V S M (o, M2, a1 + a2, b1 + b2) := .call hat (fun L => by simp only [mm_act, hp, mm_callS, hmx, hb]) hV hs hd h
/-! throws and catches -/
theorem mm_E.thr {x v1 : Nat} (hat : mm_at j pc = some (.new k)) (hp : mm_pool j k = some (14, x, v1, u)) (ht : mm_thr 8 j pc x S = some (.inr (.inr (.inr x)))) (hd : 8 ≤ d) : mm_E w d j pc V S M (.inr x, M, 1, 6) := fun L _ => by
  refine ⟨1, fun c n => ?_⟩
  have e : mm_act w 8 j (.new k) pc L S M = some (.inr (.inr (.inr x))) := by
    have hp' : mm_pool j k = some (14, x, v1, u) := hp
    simp only [mm_act, hp', ht]
  have e' := mm_act_d hd e
  unfold mm_run
  simp only [hat, e']
theorem mm_E.catch {i : Instr} {j' d0 x0 x to kx : Nat} {as : List Value} {V0 V1 : ML} {M0 M1 : MH} {a0 b0 a1 b1 : Nat} {o : Option Value ⊕ Nat} {M2 : MH} {a2 b2 : Nat} (hat : mm_at j pc = some i) (hact : ∀ L : ML, mm_act w (d + 1) j i pc L S M = some (.inr (.inr (.inl (j', as, S'))))) (hV : lv_args 0 as = V0) (hs0 : mm_E w d0 j' 0 V0 [] M (.inr x0, M0, a0, b0)) (hs : mm_E M.length d0 j' 0 V0 [] M (.inr x, M1, a1, b1)) (hd : d0 ≤ d) (hh : mm_hand j pc x = some (to, kx)) (hV1 : V1 = V.filter fun q => !(q.1 == kx) && !(q.1 + 1 == kx && q.2.category == 2)) (h : mm_E w (d + 1) j to V1 [] M (o, M2, a2, b2)) : mm_E w (d + 1) j pc V S M (o, M2, a1 + a2, b1 + b2) := fun L hL => by
  obtain ⟨f0, h0⟩ := (hs0.mono hd).run hV
  obtain ⟨f1, h1⟩ := (hs.mono hd).run hV
  obtain ⟨f2, h2⟩ := h (L.filter fun q => !(q.1 == kx) && !(q.1 + 1 == kx && q.2.category == 2)) (fun q hq => by
    rw [hV1] at hq
    obtain ⟨g1, g2⟩ := List.mem_filter.mp hq
    exact mm_look_fil g2 (hL q g1))
  refine ⟨f0 + f1 + f2 + 1, fun c n => ?_⟩
  have q0 := mm_run_mono f0 (f0 + f1 + f2) _ _ _ _ _ _ _ _ _ _ _ (by omega) (Nat.le_refl _) (h0 c n)
  have q1 := mm_run_mono f1 (f0 + f1 + f2) _ _ _ _ _ _ _ _ _ _ _ (by omega) (Nat.le_refl _) (h1 c n)
  have q2 := mm_run_mono f2 (f0 + f1 + f2) _ _ _ _ _ _ _ _ _ _ _ (by omega) (Nat.le_refl _) (h2 (c + a1) (n + b1))
  unfold mm_run
  simp only [hat, hact]
  simp only [q0, q1, hh]
  rw [q2]
  simp only [Nat.add_assoc]
/-! the library's own -/
theorem mm_E.maxI {v1 : Nat} (hx : R32 x) (hy : R32 y) (hat : mm_at j pc = some (.invokestatic k)) (hp : mm_pool j k = some (7, 0, v1, u)) (hb : Nat.ble (mm_words S) 8 = true) (h : mm_E w (d + 1) j (pc + 3) V (mI (max x y) :: S) M r) : mm_E w (d + 1) j pc V (mI y :: mI x :: S) M r := .step hat (fun L => by
  have e : (if Int32.ofInt x < Int32.ofInt y then Int32.ofInt y else Int32.ofInt x) = Int32.ofInt (max x y) := by
    by_cases q : x < y
    · rw [if_pos ((mm_lt32 hx hy).mpr q)]; congr 1; omega
    · rw [if_neg (fun z => q ((mm_lt32 hx hy).mp z))]; congr 1; omega
  simp only [mm_act, hp, mm_inl, mm_nat, hb, mm_go, e, show Nat.blt 0 6 = true from rfl]) h
theorem mm_E.minI {v1 : Nat} (hx : R32 x) (hy : R32 y) (hat : mm_at j pc = some (.invokestatic k)) (hp : mm_pool j k = some (7, 1, v1, u)) (hb : Nat.ble (mm_words S) 8 = true) (h : mm_E w (d + 1) j (pc + 3) V (mI (min x y) :: S) M r) : mm_E w (d + 1) j pc V (mI y :: mI x :: S) M r := .step hat (fun L => by
  have e : (if Int32.ofInt y < Int32.ofInt x then Int32.ofInt y else Int32.ofInt x) = Int32.ofInt (min x y) := by
    by_cases q : y < x
    · rw [if_pos ((mm_lt32 hy hx).mpr q)]; congr 1; omega
    · rw [if_neg (fun z => q ((mm_lt32 hy hx).mp z))]; congr 1; omega
  simp only [mm_act, hp, mm_inl, mm_nat, hb, mm_go, e, show Nat.blt 1 6 = true from rfl]) h
theorem mm_E.maxL {v1 : Nat} (hx : R64 x) (hy : R64 y) (hat : mm_at j pc = some (.invokestatic k)) (hp : mm_pool j k = some (7, 2, v1, u)) (hb : Nat.ble (mm_words S) 8 = true) (h : mm_E w (d + 1) j (pc + 3) V (mJ (max x y) :: S) M r) : mm_E w (d + 1) j pc V (mJ y :: mJ x :: S) M r := .step hat (fun L => by
  have e : (if Int64.ofInt y < Int64.ofInt x then Int64.ofInt x else Int64.ofInt y) = Int64.ofInt (max x y) := by
    by_cases q : y < x
    · rw [if_pos ((mm_lt64 hy hx).mpr q)]; congr 1; omega
    · rw [if_neg (fun z => q ((mm_lt64 hy hx).mp z))]; congr 1; omega
  simp only [mm_act, hp, mm_inl, mm_nat, hb, mm_go, e, show Nat.blt 2 6 = true from rfl]) h
theorem mm_E.minL {v1 : Nat} (hx : R64 x) (hy : R64 y) (hat : mm_at j pc = some (.invokestatic k)) (hp : mm_pool j k = some (7, 3, v1, u)) (hb : Nat.ble (mm_words S) 8 = true) (h : mm_E w (d + 1) j (pc + 3) V (mJ (min x y) :: S) M r) : mm_E w (d + 1) j pc V (mJ y :: mJ x :: S) M r := .step hat (fun L => by
  have e : (if Int64.ofInt y < Int64.ofInt x then Int64.ofInt y else Int64.ofInt x) = Int64.ofInt (min x y) := by
    by_cases q : y < x
    · rw [if_pos ((mm_lt64 hy hx).mpr q)]; congr 1; omega
    · rw [if_neg (fun z => q ((mm_lt64 hy hx).mp z))]; congr 1; omega
  simp only [mm_act, hp, mm_inl, mm_nat, hb, mm_go, e, show Nat.blt 3 6 = true from rfl]) h
theorem mm_E.abs {v1 : Nat} (hx : R64 x) (hat : mm_at j pc = some (.invokestatic k)) (hp : mm_pool j k = some (7, 4, v1, u)) (hb : Nat.ble (mm_words S) 8 = true) (h : mm_E w (d + 1) j (pc + 3) V (mJ x.natAbs :: S) M r) : mm_E w (d + 1) j pc V (mJ x :: S) M r := .step hat (fun L => by
  have e : (if 0 < Int64.ofInt x then Int64.ofInt x else -Int64.ofInt x) = Int64.ofInt x.natAbs := by
    have g : (0 < Int64.ofInt x) ↔ 0 < x := mm_lt64 (x := 0) (by decide) hx
    by_cases q : 0 < x
    · rw [if_pos (g.mpr q)]; congr 1; omega
    · rw [if_neg (fun z => q (g.mp z)), ← Int64.ofInt_neg]; congr 1; omega
  simp only [mm_act, hp, mm_inl, mm_nat, hb, mm_go, e, show Nat.blt 4 6 = true from rfl]) h
theorem mm_E.obj {v1 v2 : Nat} (hat : mm_at j pc = some (.invokespecial k)) (hp : mm_pool j k = some (15, v1, v2, u)) (hb : Nat.ble (mm_words S) 8 = true) (h : mm_E w (d + 1) j (pc + 3) V S M r) : mm_E w (d + 1) j pc V (.ref a :: S) M r := .step hat (fun L => by
  simp only [mm_act, hp, mm_inl, mm_nat, hb, mm_go]) h
end RU
/-- the rows of rows -/
theorem mm_six {P : Int → Prop} {e : Int} (h0 : 0 ≤ e) (h1 : e < 6) (p0 : P 0) (p1 : P 1) (p2 : P 2) (p3 : P 3) (p4 : P 4) (p5 : P 5) : P e := by
  have : e = 0 ∨ e = 1 ∨ e = 2 ∨ e = 3 ∨ e = 4 ∨ e = 5 := by omega
  rcases this with rfl | rfl | rfl | rfl | rfl | rfl <;> assumption
theorem mm_ly_pos {a : Nat} {q : Nat × List Nat} (h : mm_ly a = some q) : Nat.ble 1 a = true := by
  cases a with
  | zero => cases h
  | succ a => exact Nat.ble_eq_true_of_le (by omega)
