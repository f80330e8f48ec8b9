/-! What is known of the tables at a method's start, and how it moves on. -/
/-- the statics that are there aren't among the cells that may change -/
def mm_sep (s : State) (A : Nat → Prop) : Prop := ∀ (a : Nat) (cell : Cell), s.heap[a]? = some cell → cell.vm.isStatics = true → ¬ A a
def mm_AOA (U : State) : Prop := (Cond.arrayOver (.array .int)).before #[] U = true
theorem mm_AOA.moved {u U : State} (hvm : u.vm.Alike U.vm) (h : mm_AOA u) : mm_AOA U := by
  obtain ⟨comp, c, k, h1, h2, h3, h4, h5⟩ := arrayOverA_spec h
  obtain ⟨k', hk', he⟩ := hvm.2.2 _ _ h3
  have hi : (U.vm.classes.findIdx? fun (x : Class) => match x.kind with | .array component _ => component == comp | _ => false) = some c := by
    have e1 := (va_idx_bare U.vm comp).symm
    first | rw [hvm.bare_eq] at e1 | rw [← hvm.bare_eq] at e1
    exact e1.trans ((va_idx_bare u.vm comp).trans h2)
  have hkind : k'.kind = .array comp (.array .int) := by rw [he]; exact h4
  have f1 : U.vm.findClass (FieldType.array .int).toString = some comp := by rw [hvm.findClass]; exact h1
  have f2 : U.vm.findClass ("[" ++ (FieldType.array .int).toString) = some c := by rw [hvm.findClass]; exact h5
  unfold mm_AOA Cond.before Cond.holds
  simp only [Cond.value]
  rw [f1, Option.bind_some]
  refine (congrArg (fun o : Option Nat => (o.bind (fun c => (U.vm.classes[c]?).map fun (k : Class) => match k.kind with | .array _ ty => decide (ty = FieldType.array .int) && decide (U.vm.findClass ("[" ++ (FieldType.array .int).toString) = some c) | _ => false) == some true)) hi).trans ?_
  simp [hk', hkind, f2]
/-- a static that holds a reference or null -/
def mm_zs (C n d : String) (U : State) : Prop := (Cond.laysStatic C n d).before #[] U = true ∧ (Cond.isRef (.static C n d)).before #[] U = true
theorem mm_zs.move {C n d : String} {s U : State} (hvm : s.vm.Alike U.vm) (hh : ∀ (a : Nat) (cell : Cell), s.heap[a]? = some cell → cell.vm.isStatics = true → U.heap[a]? = some cell) (h : mm_zs C n d s) : mm_zs C n d U := by
  obtain ⟨h1, h2⟩ := h
  obtain ⟨c, k, i, f, a, cell, hc, hi, hst, ha, hcell, hs, hcls, hlt, hty⟩ := Cond.laysStatic_spec h1
  obtain ⟨k', hi', he⟩ := State.fieldFound?_setVm hvm hi
  have hi' : U.fieldFound? C n d = some (c, k', i, f) := hi'
  have hcell' := hh a cell hcell hs
  have ha' : k'.statics = some a := by rw [he]; exact ha
  have hc' : U.vm.findClass C = some c := by rw [hvm.findClass]; exact hc
  refine ⟨Cond.laysStatic_of hc' hi' hst ha' hcell' hs hcls hlt (by rw [he]; exact hty), ?_⟩
  have ev : (Term.static C n d).eval #[] s none [] s = cell.slots[f.slot]? := by simp [Term.eval, State.fieldNamed?, hi, hst, ha, hcell, hs]
  have ev' : (Term.static C n d).eval #[] U none [] U = cell.slots[f.slot]? := by simp [Term.eval, State.fieldNamed?, hi', hst, ha', hcell', hs]
  simp only [Cond.before, Cond.holds, Cond.value, ev, ev'] at h2 ⊢
  exact h2
def mm_xw : List Cond := [.declares (Bundle.initS "java/lang/RuntimeException"), .declares (Bundle.initS "java/lang/Exception"), .declares (Bundle.initS "java/lang/Throwable"), .castable "java/lang/IllegalArgumentException" "java/lang/IllegalArgumentException", .castable "java/lang/IndexOutOfBoundsException" "java/lang/IndexOutOfBoundsException", .castable "java/lang/IllegalStateException" "java/lang/IllegalStateException"]
theorem mm_xw_warm {s U : State} (hW : s.WarmedH U.vm) (h : ∀ w ∈ mm_xw, va_Nw w s) : ∀ w ∈ mm_xw, va_Nw w U := by
  intro w hw
  have h1 := h w hw
  simp only [mm_xw, List.mem_cons, List.not_mem_nil, or_false] at hw
  rcases hw with rfl | rfl | rfl | rfl | rfl | rfl
  · exact va_Nw.warmD hW h1
  · exact va_Nw.warmD hW h1
  · exact va_Nw.warmD hW h1
  · exact va_Nw.warmC hW h1
  · exact va_Nw.warmC hW h1
  · exact va_Nw.warmC hW h1
theorem mm_xw_same {u U : State} (hv : u.vm = U.vm) (h : ∀ w ∈ mm_xw, va_Nw w u) : ∀ w ∈ mm_xw, va_Nw w U := by
  intro w hw
  have h1 := h w hw
  simp only [mm_xw, List.mem_cons, List.not_mem_nil, or_false] at hw
  rcases hw with rfl | rfl | rfl | rfl | rfl | rfl <;> exact va_Nw.same rfl hv h1
def mm_nc : List (String × String) := [("java/lang/IndexOutOfBoundsException", "java/lang/IllegalArgumentException"), ("java/lang/IllegalStateException", "java/lang/IndexOutOfBoundsException")]
def mm_ex (U : State) : Prop := (∀ q ∈ mm_nest, va_Nw (.methodLinkNest q.1 q.2.1 (mm_y q.2.2.1) q.2.2.2) U) ∧ va_AO "FairDesk$Fraction" U ∧ mm_AOA U ∧ (∀ q ∈ mm_strs, ∃ a, vk_R q.1 q.2.1 q.2.2 a U) ∧ (∀ w ∈ mm_xw, va_Nw w U) ∧ (∀ q ∈ mm_nc, va_Nc q.1 q.2 U) ∧ mm_zs "java/lang/Throwable" "UNASSIGNED_STACK" "[Ljava/lang/StackTraceElement;" U ∧ mm_zs "java/lang/Throwable" "SUPPRESSED_SENTINEL" "Ljava/util/List;" U
/-- the classes of D are those of the tables -/
def mm_kn (D : va_G) (U : State) : Prop := va_K D mm_cl [] U ∧ (∀ (t : Nat) (ty : FieldType), mm_arr[t]? = some ty → ArrOfT U (D.1 (50 + t)) ty ∧ va_RA U (D.1 (50 + t)) ty) ∧ ArrOfT U (D.1 99) .int ∧ mm_ex U
theorem mm_kn.calling {D : va_G} {U : State} {g : JFrame} {mk : MethodId} {a : Array Value} (h : mm_kn D U) : mm_kn D (U.calling g mk a) := by
  have hvm : U.vm.Alike (U.calling g mk a).vm := Vm.Alike.refl U.vm
  obtain ⟨e1, e2, e3, e4, e5, e6, e7, e8⟩ := h.2.2.2
  exact ⟨va_K.moved hvm h.1, fun t ty ht => ⟨arrOfT_moved hvm (h.2.1 t ty ht).1, (h.2.1 t ty ht).2.moved hvm⟩, arrOfT_moved hvm h.2.2.1, fun q hq => va_Nw.same rfl rfl (e1 q hq), va_AO.moved hvm e2, mm_AOA.moved hvm e3,
    fun q hq => by obtain ⟨a, ha⟩ := e4 q hq; exact ⟨a, vk_R.same rfl ha⟩, mm_xw_same (u := U) rfl e5, fun q hq => va_Nc.moved hvm (e6 q hq), mm_zs.move hvm (fun _ _ z _ => z) e7, mm_zs.move hvm (fun _ _ z _ => z) e8⟩
theorem mm_kn.move {D : va_G} {A : Nat → Prop} {s U : State} {locs : List Loc} (h : mm_kn D s) (hW : s.WarmedH U.vm) (hS : va_S A s.heap U.heap locs) (hsep : mm_sep s A) : mm_kn D U := by
  have hvm := hW.alike
  obtain ⟨e1, e2, e3, e4, e5, e6, e7, e8⟩ := h.2.2.2
  have hh : ∀ (a : Nat) (cell : Cell), s.heap[a]? = some cell → cell.vm.isStatics = true → U.heap[a]? = some cell := fun a cell h1 h2 => by
    rw [hS.2.1 a (Array.getElem?_eq_some_iff.mp h1).1 (hsep a cell h1 h2)]; exact h1
  exact ⟨va_K.moved hvm h.1, fun t ty ht => ⟨arrOfT_moved hvm (h.2.1 t ty ht).1, (h.2.1 t ty ht).2.moved hvm⟩, arrOfT_moved hvm h.2.2.1, fun q hq => va_Nw.warmM hW (e1 q hq), va_AO.moved hvm e2, mm_AOA.moved hvm e3,
    fun q hq => by obtain ⟨a, ha⟩ := e4 q hq; exact ⟨a, vk_R.warm hW ha⟩, mm_xw_warm hW e5, fun q hq => va_Nc.moved hvm (e6 q hq), mm_zs.move hvm hh e7, mm_zs.move hvm hh e8⟩
theorem mm_kn.nest {D : va_G} {U : State} (h : mm_kn D U) {own host : String} {idx j : Nat} (hq : (own, idx, j, host) ∈ mm_nest) : va_Nw (.methodLinkNest own idx (mm_y j) host) U := h.2.2.2.1 _ hq
theorem mm_arr1 {D : va_G} {s : State} {k : Nat} (hK : mm_kn D s) (h : mm_akd k = 1) : ArrOfT s (D.1 k) .int := by
  unfold mm_akd at h
  split at h <;> first | (cases h; done) | skip
  · exact (hK.2.1 0 _ rfl).1
  · exact hK.2.2.1
theorem mm_arr2 {D : va_G} {s : State} {k : Nat} (hK : mm_kn D s) (h : mm_akd k = 2) : ArrOfT s (D.1 k) .long := by
  unfold mm_akd at h
  split at h <;> first | (cases h; done) | skip
  exact (hK.2.1 1 _ rfl).1
theorem mm_arr3 {D : va_G} {s : State} {k : Nat} (hK : mm_kn D s) (h : mm_akd k = 3) : ArrOfT s (D.1 k) .boolean := by
  unfold mm_akd at h
  split at h <;> first | (cases h; done) | skip
  exact (hK.2.1 2 _ rfl).1
theorem mm_arr4 {D : va_G} {s : State} {k : Nat} (hK : mm_kn D s) (h : mm_akd k = 4) : ∃ ty : FieldType, ty.isReference = true ∧ ArrOfT s (D.1 k) ty := by
  unfold mm_akd at h
  split at h <;> first | (cases h; done) | skip
  · exact ⟨_, rfl, (hK.2.1 3 _ rfl).1⟩
  · exact ⟨_, rfl, (hK.2.1 4 _ rfl).1⟩
theorem mm_arr0 {D : va_G} {s : State} {k : Nat} (hK : mm_kn D s) (h : 0 < mm_akd k) : ∃ ty : FieldType, ArrOfT s (D.1 k) ty := by
  unfold mm_akd at h
  split at h <;> first | (exact absurd h (by decide)) | skip
  · exact ⟨_, (hK.2.1 0 _ rfl).1⟩
  · exact ⟨_, (hK.2.1 1 _ rfl).1⟩
  · exact ⟨_, (hK.2.1 2 _ rfl).1⟩
  · exact ⟨_, (hK.2.1 3 _ rfl).1⟩
  · exact ⟨_, (hK.2.1 4 _ rfl).1⟩
  · exact ⟨_, hK.2.2.1⟩
