/-! THE CLAIM OUT OF ONE WALK OF THE LAW'S BODY. Your part is whole_start (and what it stands on); all else here is the same for every law, but numbers. -/
def R_law : String := "FairDeskLaw"
def lw_P (b : Addr) (xs : List Int32) (args : Array Value) (s : State) : Prop := args = #[.ref b] ∧ s.IntsAt b xs ∧ xs.length ≤ 2048 ∧ (Jvm.Cond.and given_1 narrow_1).before args s = true
def lw_Q (_ : Array Value) (s : State) (o : Outcome) (t : State) : Prop := o = .returned (some (.int 1)) ∧ Framed s o t [] 645488 7159639
def lw_Z (below : List Frame) (a : Array Value) (s : State) : State → Prop := fun t => ∃ o, t.status = .running ∧ Ended t below o ∧ lw_Q a s o t
/-- the law's own end, with 1 on the stack, nothing written that was there before, its room as the claim has it -/
theorem lw_ret {p : Program} {l : Launch} {e : Env} {s : State} {m : MethodId} {below : List Frame} {meth : Method} {c : Code} {b : Nat} (hx : p.tables.exec = Jvm.exec) (hb : c.code = code) (hr : meth.sig.returnType = ret) (hlocks : meth.locks = false) {pc : Nat} {H : Heap} {ls : Array Slot} (hdg : decode code pc = .ok (.ireturn, 1)) : W p l e room_1 s m #[Value.ref b] below meth c H [] 645488 7159639 (lw_Z below #[Value.ref b] s) (F0 m pc ls [.int 1]) := by
  intro T hT X
  obtain ⟨fs, hret, hrun, hended, hW, hframe⟩ := X.leave (v := some (.int 1)) (hlocks := hlocks) (fun h => by rw [hr] at h; cases h)
  have hmeth' : T.vm.method? m = some meth := X.method'
  refine ⟨T.setFrames fs, ?_, .returned (some (.int 1)), hrun, hended, rfl, ⟨_, rfl⟩, hW, hframe⟩
  jvm_step X.here [X.here.top, hx, hb, hdg, hmeth', hr, ret, narrow_b1]
  (try refine ⟨rfl, ?_⟩); (try refine ⟨rfl, ?_⟩)
  first | (intro acts; rw [hret _ acts rfl rfl rfl]) | rw [hret _ _ rfl rfl rfl]
  exact Steps.refl _
set_option maxRecDepth 100000 in
theorem mm_w_strs : ∀ q ∈ mm_strs, Cond.stringRef q.1 q.2.1 q.2.2 ∈ lw_tbl := by decide +kernel
set_option maxRecDepth 100000 in
theorem mm_w_nest : ∀ q ∈ mm_nest, Cond.methodLinkNest q.1 q.2.1 (mm_y q.2.2.1) q.2.2.2 ∈ lw_tbl := by decide +kernel
set_option maxRecDepth 100000 in
theorem mm_w_xw : ∀ w ∈ mm_xw, w ∈ lw_tbl := by decide +kernel
theorem mm_t_xw : ∀ w ∈ mm_xw, w.onTables = true := by decide +kernel
def mm_inst : List (String × Nat) := [("FairDesk", 4), ("FairDesk$BundleSearch", 5), ("FairDesk$CakeTable", 12), ("FairDesk$Fraction", 2), ("FairDesk$Goods", 8), ("FairDesk$House", 9), ("FairDesk$ProductSearch", 9), ("FairDeskModel", 27)]
set_option maxRecDepth 100000 in
theorem mm_w_inst : ∀ q ∈ mm_inst, Cond.instantiable q.1 q.2 ∈ lw_tbl := by decide +kernel
set_option maxRecDepth 100000 in
theorem mm_w_ao : Cond.arrayOver (.object "FairDesk$Fraction") ∈ lw_tbl ∧ Cond.arrayOver (.array .int) ∈ lw_tbl ∧ Cond.laysStatic "java/lang/Throwable" "UNASSIGNED_STACK" "[Ljava/lang/StackTraceElement;" ∈ lw_tbl ∧ Cond.laysStatic "java/lang/Throwable" "SUPPRESSED_SENTINEL" "Ljava/util/List;" ∈ lw_tbl := by decide +kernel
theorem mm_arrOf {s : State} {cA : ClassId} {kA : Class} {comp : ClassId} {ty : FieldType} (h1 : s.vm.classes[cA]? = some kA) (h2 : kA.kind = .array comp ty) : ArrOfT s cA ty := fun n z => ⟨fun k h => (by simp [arrV] at h), kA, h1, comp, h2⟩
theorem mm_cl_get (ci : Nat) (q : vw_C) (h : mm_cl[ci]? = some q) : ∃ N, (q.1, N) ∈ mm_inst := by
  match ci, h with
  | 0, h => cases h; exact ⟨4, by decide⟩
  | 1, h => cases h; exact ⟨5, by decide⟩
  | 2, h => cases h; exact ⟨12, by decide⟩
  | 3, h => cases h; exact ⟨2, by decide⟩
  | 4, h => cases h; exact ⟨8, by decide⟩
  | 5, h => cases h; exact ⟨9, by decide⟩
  | 6, h => cases h; exact ⟨9, by decide⟩
  | 7, h => cases h; exact ⟨27, by decide⟩
  | _ + 8, h => cases h
theorem mm_start_kn {s : State} {b : Nat} {scr : Cell} (hts : ∀ w ∈ lw_tbl, w.before #[Value.ref b] s = true) (hgv : (Jvm.Cond.and given_1 narrow_1).before #[Value.ref b] s = true) (hscr : s.isArrayOf scr .int) : ∃ D : va_G, mm_kn D s ∧ D.1 99 = scr.cls := by
  have hmw : ∀ w ∈ mm_ws, w.before #[Value.ref b] s = true := fun w hw => hts w (List.mem_filter.mp hw).1
  have hs := flat_of_before _ hgv
  have K : ∀ ci : Nat, ∃ r : ClassId × (Nat → Nat), ∀ q : vw_C, mm_cl[ci]? = some q → u_Kn s q.1 q.2.1 q.2.2 r.1 r.2 := by
    intro ci
    cases h : mm_cl[ci]? with
    | none => exact ⟨(0, fun _ => 0), fun q hq => by cases hq⟩
    | some q =>
      obtain ⟨C, T, N⟩ := q
      obtain ⟨k, hk⟩ := mm_cl_get ci _ h
      obtain ⟨cC, iS, hu⟩ := u_known (n := k) hmw (mm_cl_ok h).2.1 (hts _ (mm_w_inst _ hk))
      exact ⟨(cC, iS), fun q hq => by cases hq; exact hu⟩
  obtain ⟨wI, hw1⟩ : ∃ c : ClassId, ArrOfT s c .int ∧ va_RA s c .int := by
    obtain ⟨c, k, comp, h1, h2, h3⟩ := Cond.arrayClass_spec (hmw _ mm_w_i)
    exact ⟨c, mm_arrOf h2 h3, h1⟩
  obtain ⟨wL, hw2⟩ : ∃ c : ClassId, ArrOfT s c .long ∧ va_RA s c .long := by
    obtain ⟨c, k, comp, h1, h2, h3⟩ := Cond.arrayClass_spec (hmw _ mm_w_l)
    exact ⟨c, mm_arrOf h2 h3, h1⟩
  obtain ⟨wZ, hw3⟩ : ∃ c : ClassId, ArrOfT s c .boolean ∧ va_RA s c .boolean := by
    obtain ⟨c, k, comp, h1, h2, h3⟩ := Cond.arrayClass_spec (hmw _ mm_w_z)
    exact ⟨c, mm_arrOf h2 h3, h1⟩
  obtain ⟨wF, hw4⟩ : ∃ c : ClassId, ArrOfT s c (.object "FairDesk$Fraction") ∧ va_RA s c (.object "FairDesk$Fraction") := by
    obtain ⟨comp, c, k, h1, -, h2, h3, h4⟩ := Cond.arrayOver_spec (hts _ mm_w_ao.1)
    exact ⟨c, mm_arrOf h2 h3, k, comp, h2, h3, h1, h4⟩
  obtain ⟨wA, hw5⟩ : ∃ c : ClassId, ArrOfT s c (.array .int) ∧ va_RA s c (.array .int) := by
    obtain ⟨comp, c, k, h1, -, h2, h3, h4⟩ := arrayOverA_spec (hts _ mm_w_ao.2.1)
    exact ⟨c, mm_arrOf h2 h3, h4⟩
  refine ⟨(fun ci => if ci < 50 then (Classical.choose (K ci)).1 else if ci = 50 then wI else if ci = 51 then wL else if ci = 52 then wZ else if ci = 53 then wF else if ci = 54 then wA else scr.cls, fun ci => (Classical.choose (K ci)).2), ⟨⟨fun ci q hq => ?_, fun k q hq => by cases hq⟩, fun t ty ht => ?_, ?_, ?_⟩, rfl⟩
  · have hl : ci < 50 := (mm_cl_ok (C := q.1) (T := q.2.1) (N := q.2.2) hq).1
    show u_Kn s q.1 q.2.1 q.2.2 (if ci < 50 then (Classical.choose (K ci)).1 else _) _
    rw [if_pos hl]
    exact Classical.choose_spec (K ci) q hq
  · match t, ht with
    | 0, ht => cases ht; exact hw1
    | 1, ht => cases ht; exact hw2
    | 2, ht => cases ht; exact hw3
    | 3, ht => cases ht; exact hw4
    | 4, ht => cases ht; exact hw5
    | _ + 5, ht => cases ht
  · obtain ⟨k, hk, comp, hkind⟩ := hscr.2
    exact mm_arrOf hk hkind
  · refine ⟨fun q hq => va_Nw.of rfl (hts _ (mm_w_nest q hq)), va_AO.of (hts _ mm_w_ao.1), hts _ mm_w_ao.2.1, fun q hq => ?_, fun w hw => va_Nw.of (mm_t_xw w hw) (hts _ (mm_w_xw w hw)), fun q hq => ?_, ⟨hts _ mm_w_ao.2.2.1, ?_⟩, ⟨hts _ mm_w_ao.2.2.2, ?_⟩⟩
    · have hq1 : q.1 = "FairDesk" := by revert q; decide
      obtain ⟨cC, -, -, hfc, -⟩ := u_known (n := 4) hmw mm_u0 (hts _ (mm_w_inst ("FairDesk", 4) (by decide)))
      have h := hts _ (mm_w_strs q hq)
      obtain ⟨_, _, _, a, _, _, _, _, _, hev⟩ := Cond.stringRef_spec (by rw [hq1]; exact hfc) h
      exact ⟨a, vk_R.of h hev⟩
    · simp only [mm_nc, List.mem_cons, List.not_mem_nil, or_false] at hq
      rcases hq with rfl | rfl
      · exact va_Nc.of (hs _ (by decide +kernel))
      · exact va_Nc.of (hs _ (by decide +kernel))
    · have h : (Cond.isRef (.static "java/lang/Throwable" "UNASSIGNED_STACK" "[Ljava/lang/StackTraceElement;")).before #[Value.ref b] s = true := hs _ (by decide +kernel)
      exact h
    · have h : (Cond.isRef (.static "java/lang/Throwable" "SUPPRESSED_SENTINEL" "Ljava/util/List;")).before #[Value.ref b] s = true := hs _ (by decide +kernel)
      exact h
theorem mm_ints_fa (ads : List Nat) : ∀ xs : List Int32, mm_fa (mm_vr ads) (xs.map Value.int) (xs.map Value.int)
  | [] => trivial
  | _ :: xs => ⟨rfl, mm_ints_fa ads xs⟩
/-- a run of the little machine that answers 1 is one of the law -/
theorem mm_law {p : Program} {l : Launch} {e : Env} {s : State} {m : MethodId} {below : List Frame} {meth : Method} {c : Code} {b : Nat} {xs : List Int32} (hfl : l.flags = flags0) (hx : p.tables.exec = Jvm.exec) (hb : c.code = code) (hr : meth.sig.returnType = ret) (hml : c.maxLocals = 8) (hown : s.vm.findClass R_law = some m.cls) (hts : ∀ w ∈ lw_tbl, w.before #[Value.ref b] s = true) (hlk : meth.locks = false) (hex : c.exceptionTable.toList = []) (hgv : (Jvm.Cond.and given_1 narrow_1).before #[Value.ref b] s = true) (hX : s.IntsAt b xs)
    {f d : Nat} {M1 : MH} {c1 n1 : Nat} (hrun : mm_run f 1 d 152 0 [(0, .ref 0)] [] [(99, xs.map Value.int)] 0 0 = some (.inl (some (.int 1)), M1, c1, n1)) (hd : d ≤ 1312) (hc : c1 ≤ 645488) (hn : n1 ≤ 7159639) :
    W p l e room_1 s m #[Value.ref b] below meth c s.heap [] 0 0 (lw_Z below #[Value.ref b] s) (entryFrame m ([Value.ref b] : List Value).toArray 8) := by
  obtain ⟨scr, harrAt, hlist, hof, hsmall⟩ := hX
  obtain ⟨hcb, hkn, -, -⟩ := State.arrayAt?_spec harrAt
  obtain ⟨D, hK, hD⟩ := mm_start_kn hts hgv hof
  have hf : mm_fx p s m #[Value.ref b] meth c 152 D := ⟨hx, hb, hml, hown, fun w hw => hts w (List.mem_filter.mp hw).1, hK, hr, hlk, (fun z => by cases z), (by rw [hex]; rfl)⟩
  have hl := lv_entry [Value.ref b] (n := 8) (show 1 ≤ 8 by decide)
  have hG := mm_main f 1 d 152 0 _ _ _ _ _ _ _ _ _ hrun p l e room_1 s m #[Value.ref b] below meth c (lw_Z below #[Value.ref b] s) D (fun q => s.heap.size ≤ q) [b] hfl hf (fun a cell ha _ => Nat.not_le_of_lt (Array.getElem?_eq_some_iff.mp ha).1) (by show d ≤ 2048; omega) (by show 64 * d ≤ 84000; omega) hc hn (by
    intro y H locs ls rv pc hw hrv hI
    cases rv with
    | none => exact hrv.elim
    | some rv =>
      cases hrv
      exact va_forget (fun q hq => hw.2.1.2.2 q hq) (W.widen hc hn (lw_ret hx hb hr hlk (hI.1.by 0 rfl))))
  rw [lg_entry_eq]
  refine hG s.heap [] _ [] ⟨⟨rfl, fun i j q hi hj => ?_, fun k cc hk => ?_⟩, va_S.rf, fun k q hk hq => ?_, fun q hq => hq⟩ ⟨_, hl, mm_lr_args 0 (as := [Value.ref 0]) ⟨⟨b, rfl, rfl⟩, trivial⟩⟩ trivial
  · have h1 := (List.getElem?_eq_some_iff.mp hi).1
    have h2 := (List.getElem?_eq_some_iff.mp hj).1
    simp at h1 h2
    omega
  · have h1 := (List.getElem?_eq_some_iff.mp hk).1
    have h0 : k = 0 := by simp at h1; exact h1
    subst h0
    cases hk
    refine ⟨b, rfl, fun z => absurd (show 99 < 50 from z) (by decide), fun _ => ⟨scr, xs.map Value.int, hcb, hD.symm, hkn, ?_, ?_, mm_ints_fa _ xs⟩⟩
    · cases hv : scr.vm with
      | statics k => exact absurd hv (hof.1 k)
      | _ => rfl
    · rw [← hlist]
  · have h1 := (List.getElem?_eq_some_iff.mp hq).1
    simp at h1
    omega
