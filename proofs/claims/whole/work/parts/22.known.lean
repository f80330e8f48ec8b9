/-! What is known of the tables at a method's start, and how it moves on. -/
/-- the statics that are there aren't among the cells that may change -/
def mm_sep (s : State) (A : Nat → Prop) : Prop := ∀ (a : Nat) (cell : Cell), s.heap[a]? = some cell → cell.vm.isStatics = true → ¬ A a
def mm_AOA (U : State) : Prop := (Cond.arrayOver (.array .int)).before #[] U = true
theorem mm_AOA.moved {u U : State} (hvm : u.vm.Alike U.vm) (h : mm_AOA u) : mm_AOA U := by
  obtain ⟨comp, c, k, h1, h2, h3, h4, h5⟩ := arrayOverA_spec h
  obtain ⟨k', hk', he⟩ := hvm.2.2 _ _ h3
  have hi : (U.vm.classes.findIdx? fun (x : Class) => match x.kind with | .array component _ => component == comp | _ => false) = some c := by
    have e1 := (va_idx_bare U.vm comp).symm
    first | rw [hvm.bare_eq] at e1 | rw [← hvm.bare_eq] at e1
    exact e1.trans ((va_idx_bare u.vm comp).trans h2)
  have hkind : k'.kind = .array comp (.array .int) := by rw [he]; exact h4
  have f1 : U.vm.findClass (FieldType.array .int).toString = some comp := by rw [hvm.findClass]; exact h1
  have f2 : U.vm.findClass ("[" ++ (FieldType.array .int).toString) = some c := by rw [hvm.findClass]; exact h5
  unfold mm_AOA Cond.before Cond.holds
  simp only [Cond.value]
  rw [f1, Option.bind_some]
  refine (congrArg (fun o : Option Nat => (o.bind (fun c => (U.vm.classes[c]?).map fun (k : Class) => match k.kind with | .array _ ty => decide (ty = FieldType.array .int) && decide (U.vm.findClass ("[" ++ (FieldType.array .int).toString) = some c) | _ => false) == some true)) hi).trans ?_
  simp [hk', hkind, f2]
def mm_ex (U : State) : Prop := (∀ q ∈ mm_nest, va_Nw (.methodLinkNest q.1 q.2.1 (mm_y q.2.2.1) q.2.2.2) U) ∧ va_AO "FairDesk$Fraction" U ∧ mm_AOA U
/-- the classes of D are those of the tables -/
def mm_kn (D : va_G) (U : State) : Prop := va_K D mm_cl [] U ∧ (∀ (t : Nat) (ty : FieldType), mm_arr[t]? = some ty → ArrOfT U (D.1 (50 + t)) ty ∧ va_RA U (D.1 (50 + t)) ty) ∧ ArrOfT U (D.1 99) .int ∧ mm_ex U
theorem mm_kn.calling {D : va_G} {U : State} {g : JFrame} {mk : MethodId} {a : Array Value} (h : mm_kn D U) : mm_kn D (U.calling g mk a) := by
  have hvm : U.vm.Alike (U.calling g mk a).vm := Vm.Alike.refl U.vm
  exact ⟨va_K.moved hvm h.1, fun t ty ht => ⟨arrOfT_moved hvm (h.2.1 t ty ht).1, (h.2.1 t ty ht).2.moved hvm⟩, arrOfT_moved hvm h.2.2.1, fun q hq => va_Nw.same rfl rfl (h.2.2.2.1 q hq), va_AO.moved hvm h.2.2.2.2.1, mm_AOA.moved hvm h.2.2.2.2.2⟩
theorem mm_kn.move {D : va_G} {A : Nat → Prop} {s U : State} {locs : List Loc} (h : mm_kn D s) (hW : s.WarmedH U.vm) (hS : va_S A s.heap U.heap locs) (hsep : mm_sep s A) : mm_kn D U := by
  have hvm := hW.alike
  exact ⟨va_K.moved hvm h.1, fun t ty ht => ⟨arrOfT_moved hvm (h.2.1 t ty ht).1, (h.2.1 t ty ht).2.moved hvm⟩, arrOfT_moved hvm h.2.2.1, fun q hq => va_Nw.warmM hW (h.2.2.2.1 q hq), va_AO.moved hvm h.2.2.2.2.1, mm_AOA.moved hvm h.2.2.2.2.2⟩
theorem mm_kn.nest {D : va_G} {U : State} (h : mm_kn D U) {own host : String} {idx j : Nat} (hq : (own, idx, j, host) ∈ mm_nest) : va_Nw (.methodLinkNest own idx (mm_y j) host) U := h.2.2.2.1 _ hq
theorem mm_arr1 {D : va_G} {s : State} {k : Nat} (hK : mm_kn D s) (h : mm_akd k = 1) : ArrOfT s (D.1 k) .int := by
  unfold mm_akd at h
  split at h <;> first | (cases h; done) | skip
  · exact (hK.2.1 0 _ rfl).1
  · exact hK.2.2.1
theorem mm_arr2 {D : va_G} {s : State} {k : Nat} (hK : mm_kn D s) (h : mm_akd k = 2) : ArrOfT s (D.1 k) .long := by
  unfold mm_akd at h
  split at h <;> first | (cases h; done) | skip
  exact (hK.2.1 1 _ rfl).1
theorem mm_arr3 {D : va_G} {s : State} {k : Nat} (hK : mm_kn D s) (h : mm_akd k = 3) : ArrOfT s (D.1 k) .boolean := by
  unfold mm_akd at h
  split at h <;> first | (cases h; done) | skip
  exact (hK.2.1 2 _ rfl).1
theorem mm_arr4 {D : va_G} {s : State} {k : Nat} (hK : mm_kn D s) (h : mm_akd k = 4) : ∃ ty : FieldType, ty.isReference = true ∧ ArrOfT s (D.1 k) ty := by
  unfold mm_akd at h
  split at h <;> first | (cases h; done) | skip
  · exact ⟨_, rfl, (hK.2.1 3 _ rfl).1⟩
  · exact ⟨_, rfl, (hK.2.1 4 _ rfl).1⟩
theorem mm_arr0 {D : va_G} {s : State} {k : Nat} (hK : mm_kn D s) (h : 0 < mm_akd k) : ∃ ty : FieldType, ArrOfT s (D.1 k) ty := by
  unfold mm_akd at h
  split at h <;> first | (exact absurd h (by decide)) | skip
  · exact ⟨_, (hK.2.1 0 _ rfl).1⟩
  · exact ⟨_, (hK.2.1 1 _ rfl).1⟩
  · exact ⟨_, (hK.2.1 2 _ rfl).1⟩
  · exact ⟨_, (hK.2.1 3 _ rfl).1⟩
  · exact ⟨_, (hK.2.1 4 _ rfl).1⟩
  · exact ⟨_, hK.2.2.1⟩
/-- what the pools' entries say -/
def mm_fok (o : String) (idx ci f : Nat) (fin : Bool) : Prop := ∃ (C : String) (T : u_T) (N : Nat), mm_cl[ci]? = some (C, T, N) ∧ f < N ∧ (T f).1 = C ∧ (T f).2.2.2 = fin ∧ Cond.fieldLink o idx C (T f).2.1 (T f).2.2.1 ∈ mm_ws ∧ (fin = true → C = o)
def mm_nok (o : String) (idx ci N : Nat) : Prop := ∃ (C : String) (T : u_T), mm_cl[ci]? = some (C, T, N) ∧ Cond.classLink o idx C ∈ mm_ws ∧ Cond.instantiable C N ∈ mm_ws ∧ Cond.initialized C ∈ mm_ws
def mm_aok (o : String) (idx kd : Nat) : Prop := ∃ (t : Nat) (C : String) (i : Nat), kd = 50 + t ∧ idx = 100000 + i ∧ mm_arr[t]? = some (.object C) ∧ Cond.classLink o i C ∈ mm_ws ∧ C = "FairDesk$Fraction"
def mm_mok (o : String) (idx ok ik : Nat) : Prop := ok = 54 ∧ ik = 50 ∧ Cond.classLink o idx "[[I" ∈ mm_ws ∧ Cond.arrayClass .int ∈ mm_ws
def mm_oiok (o : String) (idx : Nat) : Prop := Cond.methodLink o idx Lib.objectInit ∈ mm_ws ∧ Cond.instanceMethod Lib.objectInit ∈ mm_ws ∧ Cond.code Lib.objectInit ⟨#[0xb1]⟩ 1 none ∈ mm_ws
def mm_natok (o : String) (idx w : Nat) : Prop := match w with
  | 0 => Cond.methodLink o idx Lib.Math.max.name ∈ mm_ws ∧ Cond.static Lib.Math.max.name ∈ mm_ws ∧ Cond.initialized "java/lang/Math" ∈ mm_ws ∧ Cond.code Lib.Math.max.name Lib.Math.max.code 2 (some .int) ∈ mm_ws
  | 1 => Cond.methodLink o idx Lib.Math.min.name ∈ mm_ws ∧ Cond.static Lib.Math.min.name ∈ mm_ws ∧ Cond.initialized "java/lang/Math" ∈ mm_ws ∧ Cond.code Lib.Math.min.name Lib.Math.min.code 2 (some .int) ∈ mm_ws
  | 2 => Cond.methodLink o idx Lib.MathLoose.max_long.x ∈ mm_ws ∧ Cond.static Lib.MathLoose.max_long.x ∈ mm_ws ∧ Cond.initialized "java/lang/Math" ∈ mm_ws ∧ Cond.code Lib.MathLoose.max_long.x Lib.MathLoose.max_long.code 4 (some .long) ∈ mm_ws
  | 3 => Cond.methodLink o idx Lib.MathLoose.min_long.x ∈ mm_ws ∧ Cond.static Lib.MathLoose.min_long.x ∈ mm_ws ∧ Cond.initialized "java/lang/Math" ∈ mm_ws ∧ Cond.code Lib.MathLoose.min_long.x Lib.MathLoose.min_long.code 4 (some .long) ∈ mm_ws
  | 4 => Cond.methodLink o idx Lib.MathLoose.abs_long.x ∈ mm_ws ∧ Cond.static Lib.MathLoose.abs_long.x ∈ mm_ws ∧ Cond.initialized "java/lang/Math" ∈ mm_ws ∧ Cond.code Lib.MathLoose.abs_long.x Lib.MathLoose.abs_long.code 2 (some .long) ∈ mm_ws
  | 5 => Cond.methodLink o idx arraycopyName ∈ mm_ws ∧ Cond.native arraycopyName ∈ mm_ws ∧ Cond.static arraycopyName ∈ mm_ws ∧ Cond.initialized "java/lang/System" ∈ mm_ws
  | _ => False
def mm_xnok (o : String) (idx x : Nat) : Prop := ∃ X, mm_xn x = X ∧ Cond.classLink o idx X ∈ mm_ws ∧ Cond.instantiable X 6 ∈ mm_ws ∧ Cond.initialized X ∈ mm_ws
def mm_xiok (o : String) (idx x : Nat) : Prop := ∃ X, mm_xn x = X ∧ Cond.methodLink o idx ⟨X, "<init>", "(Ljava/lang/String;)V"⟩ ∈ mm_ws
def mm_strok (o : String) (idx : Nat) : Prop := ∃ tx, (o, idx, tx) ∈ mm_strs
