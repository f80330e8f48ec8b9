/-! What the pools' entries and the methods must be. -/
def mm_fok (o : String) (idx ci f : Nat) (fin : Bool) : Prop := ∃ (C : String) (T : u_T) (N : Nat), mm_cl[ci]? = some (C, T, N) ∧ f < N ∧ (T f).1 = C ∧ (T f).2.2.2 = fin ∧ Cond.fieldLink o idx C (T f).2.1 (T f).2.2.1 ∈ mm_ws ∧ (fin = true → C = o)
def mm_nok (o : String) (idx ci N : Nat) : Prop := ∃ (C : String) (T : u_T), mm_cl[ci]? = some (C, T, N) ∧ Cond.classLink o idx C ∈ mm_ws ∧ Cond.instantiable C N ∈ mm_ws ∧ Cond.initialized C ∈ mm_ws
def mm_aok (o : String) (idx kd : Nat) : Prop := ∃ (t : Nat) (C : String) (i : Nat), kd = 50 + t ∧ idx = 100000 + i ∧ mm_arr[t]? = some (.object C) ∧ Cond.classLink o i C ∈ mm_ws ∧ C = "FairDesk$Fraction"
def mm_mok (o : String) (idx ok ik : Nat) : Prop := ok = 54 ∧ ik = 50 ∧ Cond.classLink o idx "[[I" ∈ mm_ws ∧ Cond.arrayClass .int ∈ mm_ws
def mm_oiok (o : String) (idx : Nat) : Prop := Cond.methodLink o idx Lib.objectInit ∈ mm_ws ∧ Cond.instanceMethod Lib.objectInit ∈ mm_ws ∧ Cond.code Lib.objectInit ⟨#[0xb1]⟩ 1 none ∈ mm_ws
def mm_natok (o : String) (idx w : Nat) : Prop := match w with
  | 0 => Cond.methodLink o idx Lib.Math.max.name ∈ mm_ws ∧ Cond.static Lib.Math.max.name ∈ mm_ws ∧ Cond.initialized "java/lang/Math" ∈ mm_ws ∧ Cond.code Lib.Math.max.name Lib.Math.max.code 2 (some .int) ∈ mm_ws
  | 1 => Cond.methodLink o idx Lib.Math.min.name ∈ mm_ws ∧ Cond.static Lib.Math.min.name ∈ mm_ws ∧ Cond.initialized "java/lang/Math" ∈ mm_ws ∧ Cond.code Lib.Math.min.name Lib.Math.min.code 2 (some .int) ∈ mm_ws
  | 2 => Cond.methodLink o idx Lib.MathLoose.max_long.x ∈ mm_ws ∧ Cond.static Lib.MathLoose.max_long.x ∈ mm_ws ∧ Cond.initialized "java/lang/Math" ∈ mm_ws ∧ Cond.code Lib.MathLoose.max_long.x Lib.MathLoose.max_long.code 4 (some .long) ∈ mm_ws
  | 3 => Cond.methodLink o idx Lib.MathLoose.min_long.x ∈ mm_ws ∧ Cond.static Lib.MathLoose.min_long.x ∈ mm_ws ∧ Cond.initialized "java/lang/Math" ∈ mm_ws ∧ Cond.code Lib.MathLoose.min_long.x Lib.MathLoose.min_long.code 4 (some .long) ∈ mm_ws
  | 4 => Cond.methodLink o idx Lib.MathLoose.abs_long.x ∈ mm_ws ∧ Cond.static Lib.MathLoose.abs_long.x ∈ mm_ws ∧ Cond.initialized "java/lang/Math" ∈ mm_ws ∧ Cond.code Lib.MathLoose.abs_long.x Lib.MathLoose.abs_long.code 2 (some .long) ∈ mm_ws
  | 5 => Cond.methodLink o idx arraycopyName ∈ mm_ws ∧ Cond.native arraycopyName ∈ mm_ws ∧ Cond.static arraycopyName ∈ mm_ws ∧ Cond.initialized "java/lang/System" ∈ mm_ws
  | _ => False
def mm_xnok (o : String) (idx x : Nat) : Prop := ∃ X, mm_xn x = X ∧ Cond.classLink o idx X ∈ mm_ws ∧ Cond.instantiable X 6 ∈ mm_ws ∧ Cond.initialized X ∈ mm_ws
def mm_xiok (o : String) (idx x : Nat) : Prop := ∃ X, mm_xn x = X ∧ Cond.methodLink o idx ⟨X, "<init>", "(Ljava/lang/String;)V"⟩ ∈ mm_ws
def mm_strok (o : String) (idx : Nat) : Prop := ∃ tx, (o, idx, tx) ∈ mm_strs
def mm_cw (j : Nat) : Cond := match mm_hh j with
  | [] => .code (mm_y j) (mm_bytes j) (mm_maxL j) (mm_ret j)
  | q :: r => .codeWith (mm_y j) (mm_bytes j) (mm_maxL j) (mm_ret j) (q :: r)
/-- what is known of a method that is called -/
def mm_meth (j : Nat) : Prop := plainName (mm_y j).cls = true ∧ mm_cw j ∈ mm_ws ∧ Cond.initialized (mm_y j).cls ∈ mm_ws ∧ (mm_y j).cls = mm_own j ∧ ((mm_y j).cls ≠ "java/lang/invoke/MethodHandle" ∧ (mm_y j).cls ≠ "java/lang/invoke/VarHandle") ∧ mm_maxL j ≤ 45 ∧ (mm_ctor j = true → (mm_y j).name = "<init>")
def mm_lenok (j' n : Nat) : Prop := (parseMethodDescriptor (mm_y j').desc).map (fun d => d.parameters.length) = some n
def mm_vok (o : String) (idx j' n : Nat) : Prop := mm_meth j' ∧ mm_hh j' = [] ∧ Cond.methodLink o idx (mm_y j') ∈ mm_ws ∧ Cond.instanceMethod (mm_y j') ∈ mm_ws ∧ Cond.selects (mm_own j') (mm_y j') (mm_y j') ∈ mm_ws ∧ (∃ T N, mm_cl[mm_cls j']? = some (mm_own j', T, N)) ∧ mm_lenok j' n
def mm_nvok (o : String) (idx j' n : Nat) : Prop := mm_meth j' ∧ mm_hh j' = [] ∧ (∃ host, (o, idx, j', host) ∈ mm_nest) ∧ Cond.instanceMethod (mm_y j') ∈ mm_ws ∧ Cond.selects (mm_own j') (mm_y j') (mm_y j') ∈ mm_ws ∧ (∃ T N, mm_cl[mm_cls j']? = some (mm_own j', T, N)) ∧ mm_lenok j' n
def mm_iok (o : String) (idx j' n : Nat) : Prop := mm_meth j' ∧ mm_hh j' = [] ∧ Cond.methodLink o idx (mm_y j') ∈ mm_ws ∧ Cond.instanceMethod (mm_y j') ∈ mm_ws ∧ ((mm_y j').name = "<init>" ∧ mm_ret j' = none) ∧ mm_lenok j' n
def mm_niok (o : String) (idx j' n : Nat) : Prop := mm_meth j' ∧ mm_hh j' = [] ∧ (∃ host, (o, idx, j', host) ∈ mm_nest) ∧ Cond.instanceMethod (mm_y j') ∈ mm_ws ∧ ((mm_y j').name = "<init>" ∧ mm_ret j' = none) ∧ mm_lenok j' n
def mm_sok (o : String) (idx j' n : Nat) : Prop := mm_meth j' ∧ Cond.methodLink o idx (mm_y j') ∈ mm_ws ∧ Cond.static (mm_y j') ∈ mm_ws ∧ mm_lenok j' n
def mm_pok (o : String) (idx t a b : Nat) (z : Int) : Prop := match t with
  | 0 => mm_fok o idx a b false
  | 1 => mm_fok o idx a b true
  | 2 => mm_vok o idx a b
  | 3 => mm_sok o idx a b
  | 4 => mm_iok o idx a b
  | 5 => mm_niok o idx a b
  | 6 => mm_nvok o idx a b
  | 7 => mm_natok o idx a
  | 8 => mm_nok o idx a b
  | 9 => mm_aok o idx a
  | 10 => mm_mok o idx a b
  | 11 => Cond.constant o idx (Int32.ofInt z) ∈ mm_ws
  | 12 => Cond.constantLong o idx (Int64.ofInt z) ∈ mm_ws
  | 13 => mm_strok o idx
  | 14 => mm_xnok o idx a
  | 15 => mm_oiok o idx
  | 16 => mm_xiok o idx a
  | _ => False
