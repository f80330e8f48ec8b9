/-! A call that comes back. -/
theorem mm_fa.split {α β : Type} {R : α → β → Prop} : ∀ {as cs : List α} {bs : List β}, mm_fa R (as ++ cs) bs → ∃ b1 b2, bs = b1 ++ b2 ∧ mm_fa R as b1 ∧ mm_fa R cs b2
  | [], cs, bs, h => ⟨[], bs, rfl, trivial, h⟩
  | a :: as, cs, b :: bs, h => by
    obtain ⟨b1, b2, e, h1, h2⟩ := mm_fa.split h.2
    exact ⟨b :: b1, b2, by rw [e]; rfl, ⟨h.1, h1⟩, h2⟩
  | _ :: _, _, [], h => h.elim
theorem mm_lenok.at {j' n : Nat} (h : mm_lenok j' n) : ∀ sig, parseMethodDescriptor (mm_y j').desc = some sig → n = sig.parameters.length := fun sig hs => by
  unfold mm_lenok at h
  rw [hs] at h
  exact (Option.some.inj h).symm
/-- a call of the method j' with the arguments as, r staying on the stack -/
def mm_callI (j pc : Nat) (S : List Value) (M : MH) (j' : Nat) (as r : List Value) : Prop := mm_words r ≤ 8 ∧ mm_words as ≤ mm_maxL j' ∧
  ((∃ (b : Nat) (As : List Value), as = .ref b :: As ∧ S = As.reverse ++ .ref b :: r ∧ (∃ fs, M[b]? = some (mm_cls j', fs)) ∧ ∃ idx, (mm_dec (mm_bytes j) pc (.invokevirtual idx) ∧ (mm_vok (mm_own j) idx j' As.length ∨ mm_nvok (mm_own j) idx j' As.length)) ∨ (mm_dec (mm_bytes j) pc (.invokespecial idx) ∧ (mm_iok (mm_own j) idx j' As.length ∨ mm_niok (mm_own j) idx j' As.length))) ∨
   (S = as.reverse ++ r ∧ ∃ idx, mm_dec (mm_bytes j) pc (.invokestatic idx) ∧ mm_sok (mm_own j) idx j' as.length))
theorem mm_callI.meth {j pc : Nat} {S : List Value} {M : MH} {j' : Nat} {as r : List Value} (h : mm_callI j pc S M j' as r) : mm_meth j' := by
  obtain ⟨-, -, ⟨b, As, -, -, -, idx, ⟨-, h | h⟩ | ⟨-, h | h⟩⟩ | ⟨-, idx, -, h⟩⟩ := h <;> exact h.1
theorem mm_codeb {j : Nat} {s : State} {args : Array Value} (hts : ∀ w ∈ mm_ws, w.before args s = true) (hm : mm_meth j) (hh : mm_hh j = []) : (Cond.code (mm_y j) (mm_bytes j) (mm_maxL j) (mm_ret j)).before args s = true := by
  have h := hm.2.1
  unfold mm_cw at h
  rw [hh] at h
  exact hts _ h
section MC1
variable {p : Program} {l : Launch} {e : Env} {R : Room} {s : State} {m : MethodId} {args : Array Value} {below : List Frame} {meth : Method} {c : Code} {T : State} {locs : List Loc} {cells slots : Nat}
theorem mm_callSW (X : Stand p l e R s m args below meth c T locs cells slots) (hexec : p.tables.exec = Jvm.exec) {own : String} {index : Nat} {y : MethodName} {bytes : ByteArray} {maxL : Nat} {ret : Option FieldType} {hh : List (Nat × Nat × Nat × Nat)}
    (hown : s.vm.findClass own = some m.cls) (hlink : (Cond.methodLink own index y).before args s = true) (hstat : (Cond.static y).before args s = true) (hinit : (Cond.initialized y.cls).before args s = true)
    (hcode : (Cond.codeWith y bytes maxL ret hh).before args s = true) (hy : y.cls ≠ "java/lang/invoke/MethodHandle" ∧ y.cls ≠ "java/lang/invoke/VarHandle")
    {W : Nat} {Pre : Pt → Array Value → Prop} {Post : Pt → Array Value → Option Value → Pt → Prop} (hK : Back l R p e below s args y 3 W Pre Post)
    {g : JFrame} (hg : g.method = m) (hsize : g.locals.size = c.maxLocals) {argsL rest : List Value} (hlen : ∀ sig, parseMethodDescriptor y.desc = some sig → argsL.length = sig.parameters.length)
    (hstack : g.stack = argsL.reverse ++ rest) (hW : 2 * g.monitorRoom + (rest.map fun v => v.category).sum ≤ W) (hdg : decode c.code g.pc = .ok (.invokestatic index, 3))
    (hpre : ∀ vm₁, s.WarmedH vm₁ → Pre ⟨T.setVm vm₁, locs, cells, slots⟩ argsL.toArray) :
    ∃ (v : Option Value) (vm₁ : Vm) (B : Pt), s.WarmedH vm₁ ∧ Stand p l e R s m args below meth c B.U B.locs B.cells B.slots ∧ Post ⟨T.setVm vm₁, locs, cells, slots⟩ argsL.toArray v B ∧
      ∀ target, Steps p.tables e below (B.U.setTop { g with pc := g.pc + 3, stack := v.toList ++ rest }) target → Steps p.tables e below (T.setTop g) target := by
  obtain ⟨mk, methM, cM, hnamed, hmethM, -, -, -, -, -, -, hsigM⟩ := Cond.codeWith_spec hcode
  have hstatic : methM.isStatic = true := Cond.static_spec hnamed hmethM hstat
  obtain ⟨kP, hkP, -⟩ := className_of_methodNamed hnamed
  have hinitP : kP.init = .initialized := Cond.initialized_spec (findClass_of_methodNamed hnamed) hkP hinit
  obtain ⟨vm₁, X₁, hstep₁⟩ := X.invokestatic hexec hown hlink hnamed hmethM hstatic hkP hinitP hy (g := g) hg (argsL := argsL) (rest := rest) (hlen _ hsigM) hstack hdg
  obtain ⟨v, B, X', hpost, hsteps⟩ := hK m meth c ⟨T.setVm vm₁, locs, cells, slots⟩ { g with stack := rest } (.invokestatic index) mk argsL.toArray X₁ hg hsize hdg hW (X₁.named hnamed) (hpre vm₁ X₁.warmed)
  exact ⟨v, vm₁, B, X₁.warmed, X', hpost, fun target h => hstep₁ _ fun acts => by rw [doInvoke_state]; exact hsteps.trans h⟩
theorem mm_call {j j' pc : Nat} {S : List Value} {M : MH} {as r : List Value} {D : va_G} {ads : List Nat} {ls : Array Slot} {st : List Value} (hf : mm_fx p s m args meth c j D) (hI : mm_callI j pc S M j' as r) (X : Stand p l e R s m args below meth c T locs cells slots) (hh : mm_hr D ads M T.heap) (hsz : ls.size = mm_maxL j) (hs : mm_fa (mm_vr ads) S st)
    {Pre : Pt → Array Value → Prop} {Post : Pt → Array Value → Option Value → Pt → Prop} (hK : Back l R p e below s args (mm_y j') 3 8 Pre Post)
    (hpre : ∀ (ras : List Value), mm_fa (mm_vr ads) as ras → ∀ vm₁, s.WarmedH vm₁ → Pre ⟨T.setVm vm₁, locs, cells, slots⟩ ras.toArray) :
    ∃ (ras rr : List Value) (v : Option Value) (vm₁ : Vm) (B : Pt), mm_fa (mm_vr ads) as ras ∧ mm_fa (mm_vr ads) r rr ∧ s.WarmedH vm₁ ∧ Stand p l e R s m args below meth c B.U B.locs B.cells B.slots ∧ Post ⟨T.setVm vm₁, locs, cells, slots⟩ ras.toArray v B ∧
      ∀ target, Steps p.tables e below (B.U.setTop (F0 m (pc + 3) ls (v.toList ++ rr))) target → Steps p.tables e below (T.setTop (F0 m pc ls st)) target := by
  obtain ⟨hx, hb, hml, hown, hts, hkn, -⟩ := hf
  obtain ⟨hw, hwa, h | h⟩ := hI
  · obtain ⟨b, As, rfl, rfl, ⟨fs, hM⟩, idx, h⟩ := h
    obtain ⟨t1, t2, rfl, g1, g2⟩ := hs.split
    obtain ⟨q0, rr, rfl, ⟨q, hq, rfl⟩, g3⟩ := g2.inv
    have g4 := g1.rev
    rw [List.reverse_reverse] at g4
    have hlen : As.length = t1.reverse.length := g4.len
    have hst : t1 ++ Value.ref q :: rr = t1.reverse.reverse ++ Value.ref q :: rr := by rw [List.reverse_reverse]
    have hpre' := hpre (.ref q :: t1.reverse) ⟨⟨q, hq, rfl⟩, g4⟩
    have hwr : 2 * (F0 m pc ls (t1 ++ Value.ref q :: rr)).monitorRoom + (rr.map fun v => v.category).sum ≤ 8 := by
      rw [mm_words_eq g3]
      show 2 * 0 + _ ≤ 8
      omega
    rcases h with ⟨hd, h | h⟩ | ⟨hd, h | h⟩
    · obtain ⟨hm, hhh, w1, w2, w3, ⟨T0, N0, w4⟩, w5⟩ := h
      obtain ⟨d1, -⟩ := mm_cl_ok w4
      obtain ⟨cell, c1, c2, c3, -⟩ := (hh.at hM hq).1 d1
      obtain ⟨-, hfc, -⟩ := hkn.1.1 _ _ w4
      obtain ⟨v, vm₁, B, z1, z2, z3, z4⟩ := callV X hx (C := mm_own j') (bytes := mm_bytes j') (maxL := mm_maxL j') (ret := mm_ret j') hown (hts _ w1) (hts _ w2) (hts _ w3) (mm_codeb hts hm hhh) hm.2.2.2.2.1 hK c1 (by rw [c3]; rfl) (by rw [c2]; exact hfc) (g := F0 m pc ls (t1 ++ Value.ref q :: rr)) rfl (hsz.trans hml.symm) (argsL := t1.reverse) (rest := rr) (fun sig hsg => by rw [← hlen]; exact w5.at sig hsg) hst hwr (by rw [hb]; exact hd.by 2 rfl) hpre'
      exact ⟨.ref q :: t1.reverse, rr, v, vm₁, B, ⟨⟨q, hq, rfl⟩, g4⟩, g3, z1, z2, z3, z4⟩
    · obtain ⟨hm, hhh, ⟨host, w1⟩, w2, w3, ⟨T0, N0, w4⟩, w5⟩ := h
      obtain ⟨d1, -⟩ := mm_cl_ok w4
      obtain ⟨cell, c1, c2, c3, -⟩ := (hh.at hM hq).1 d1
      obtain ⟨-, hfc, -⟩ := hkn.1.1 _ _ w4
      obtain ⟨v, vm₁, B, z1, z2, z3, z4⟩ := va_callVN X hx (C := mm_own j') (bytes := mm_bytes j') (maxL := mm_maxL j') (ret := mm_ret j') hown (va_Nw.use rfl (hkn.nest w1)) (hts _ w2) (hts _ w3) (mm_codeb hts hm hhh) hm.2.2.2.2.1 hK c1 (by rw [c3]; rfl) (by rw [c2]; exact hfc) (g := F0 m pc ls (t1 ++ Value.ref q :: rr)) rfl (hsz.trans hml.symm) (argsL := t1.reverse) (rest := rr) (fun sig hsg => by rw [← hlen]; exact w5.at sig hsg) hst hwr (by rw [hb]; exact hd.by 2 rfl) hpre'
      exact ⟨.ref q :: t1.reverse, rr, v, vm₁, B, ⟨⟨q, hq, rfl⟩, g4⟩, g3, z1, z2, z3, z4⟩
    · obtain ⟨hm, hhh, w1, w2, ⟨w3, w4⟩, w5⟩ := h
      have hcd := mm_codeb hts hm hhh
      rw [w4] at hcd
      obtain ⟨v, vm₁, B, z1, z2, z3, z4⟩ := callI X hx (bytes := mm_bytes j') (maxL := mm_maxL j') hown w3 (hts _ w1) (hts _ w2) hcd hm.2.2.2.2.1 hK (g := F0 m pc ls (t1 ++ Value.ref q :: rr)) rfl (hsz.trans hml.symm) (a := q) (argsL := t1.reverse) (rest := rr) (fun sig hsg => by rw [← hlen]; exact w5.at sig hsg) hst hwr (by rw [hb]; exact hd.by 2 rfl) hpre'
      exact ⟨.ref q :: t1.reverse, rr, v, vm₁, B, ⟨⟨q, hq, rfl⟩, g4⟩, g3, z1, z2, z3, z4⟩
    · obtain ⟨hm, hhh, ⟨host, w1⟩, w2, ⟨w3, w4⟩, w5⟩ := h
      have hcd := mm_codeb hts hm hhh
      rw [w4] at hcd
      obtain ⟨v, vm₁, B, z1, z2, z3, z4⟩ := va_callIN X hx (bytes := mm_bytes j') (maxL := mm_maxL j') hown w3 (va_Nw.use rfl (hkn.nest w1)) (hts _ w2) hcd hm.2.2.2.2.1 hK (g := F0 m pc ls (t1 ++ Value.ref q :: rr)) rfl (hsz.trans hml.symm) (a := q) (argsL := t1.reverse) (rest := rr) (fun sig hsg => by rw [← hlen]; exact w5.at sig hsg) hst hwr (by rw [hb]; exact hd.by 2 rfl) hpre'
      exact ⟨.ref q :: t1.reverse, rr, v, vm₁, B, ⟨⟨q, hq, rfl⟩, g4⟩, g3, z1, z2, z3, z4⟩
  · obtain ⟨rfl, idx, hd, hm, w1, w2, w5⟩ := h
    obtain ⟨t1, rr, rfl, g1, g3⟩ := hs.split
    have g4 := g1.rev
    rw [List.reverse_reverse] at g4
    have hlen : as.length = t1.reverse.length := g4.len
    have hst : t1 ++ rr = t1.reverse.reverse ++ rr := by rw [List.reverse_reverse]
    have hpre' := hpre t1.reverse g4
    have hwr : 2 * (F0 m pc ls (t1 ++ rr)).monitorRoom + (rr.map fun v => v.category).sum ≤ 8 := by
      rw [mm_words_eq g3]
      show 2 * 0 + _ ≤ 8
      omega
    have hini := hts _ hm.2.2.1
    cases hhh : mm_hh j' with
    | nil =>
      obtain ⟨v, vm₁, B, z1, z2, z3, z4⟩ := callS X hx (bytes := mm_bytes j') (maxL := mm_maxL j') (ret := mm_ret j') hown (hts _ w1) (hts _ w2) hini (mm_codeb hts hm hhh) hm.2.2.2.2.1 hK (g := F0 m pc ls (t1 ++ rr)) rfl (hsz.trans hml.symm) (argsL := t1.reverse) (rest := rr) (fun sig hsg => by rw [← hlen]; exact w5.at sig hsg) hst hwr (by rw [hb]; exact hd.by 2 rfl) hpre'
      exact ⟨_, rr, v, vm₁, B, g4, g3, z1, z2, z3, z4⟩
    | cons qq qr =>
      have hcd := hm.2.1
      unfold mm_cw at hcd
      rw [hhh] at hcd
      obtain ⟨v, vm₁, B, z1, z2, z3, z4⟩ := mm_callSW X hx (bytes := mm_bytes j') (maxL := mm_maxL j') (ret := mm_ret j') (hh := qq :: qr) hown (hts _ w1) (hts _ w2) hini (hts _ hcd) hm.2.2.2.2.1 hK (g := F0 m pc ls (t1 ++ rr)) rfl (hsz.trans hml.symm) (argsL := t1.reverse) (rest := rr) (fun sig hsg => by rw [← hlen]; exact w5.at sig hsg) hst hwr (by rw [hb]; exact hd.by 2 rfl) hpre'
      exact ⟨_, rr, v, vm₁, B, g4, g3, z1, z2, z3, z4⟩
end MC1
section MC2
variable {p : Program} {l : Launch} {e : Env} {R : Room} {s : State} {m : MethodId} {args : Array Value} {below : List Frame} {meth : Method} {c : Code} {Q : State → Prop} {D : va_G} {A : Nat → Prop} {w d j j' pc cells slots : Nat} {ads : List Nat} {L : ML} {S : List Value} {M M1 : MH} {as r : List Value}
theorem mm_s_call {dd cc nn : Nat} {v : Option Value} (hf : mm_fx p s m args meth c j D) (hsep : mm_sep s A) (hI : mm_callI j pc S M j' as r) (hM : ∀ (sz : Nat), Met l (mm_y j') (mm_wsm j') (mm_rm dd cc nn) (mm_P D ads M as sz) (mm_Q D w ads M1 v sz) cc nn (mm_A w ads sz)) (hR1 : dd + 1 ≤ R.frames) (hR2 : 64 * (dd + 1) ≤ R.locals) (hc : cells + cc ≤ R.cells) (hn : slots + nn ≤ R.slots)
    (k : ∀ y : List Nat, mm_G p l e R s m args below meth c Q D A s.heap w (mm_maxL j) (cells + cc) (slots + nn) (ads ++ y) (pc + 3) L (v.toList ++ r) M1) : mm_G p l e R s m args below meth c Q D A s.heap w (mm_maxL j) cells slots ads pc L S M := by
  intro H locs ls st hw hl hs T hT X
  obtain ⟨RL, hl1, hl2⟩ := id hl
  have hK := mm_back (R := R) (p := p) (e := e) (below := below) hf.2.2.2.2.1 hI.meth (hM H.size) mm_P_blind hR1 hR2
  obtain ⟨ras, rr, v', vm₁, B, g1, g2, hW₁, X', ⟨g, mk, t, Lo, e1, e2, hq, e3, hL, e4, e5⟩, st'⟩ := mm_call hf hI X (by rw [hT]; exact hw.1) hl1.1 hs hK (fun ras hr vm₁ hW => ⟨hc, hn, ras, rfl, hr, by show mm_hr D ads M T.heap; rw [hT]; exact hw.1, hf.2.2.2.2.2.1.move (A := A) hW (by show va_S A s.heap T.heap locs; rw [hT]; exact hw.2.1) hsep, by show T.heap.size = H.size; rw [hT]⟩)
  obtain ⟨⟨y, rv, ho, hr1, hr2, hr3⟩, hF⟩ := hq
  cases ho
  obtain ⟨B1, B2, B3, B4⟩ := B
  dsimp only [Pt.U, Pt.locs, Pt.cells, Pt.slots] at X' e1 e2 e3 e4 e5 st'
  subst e3; subst e4; subst e5
  have hAA : ∀ q, mm_A w ads H.size q → A q := by
    intro q hq
    rcases hq with ⟨k0, h0, h1⟩ | h1
    · exact hw.2.2.1 k0 q h0 h1
    · exact hw.2.2.2 q (Nat.le_trans hw.2.1.1 h1)
  have hF1 : H.size ≤ B1.heap.size := by
    have := hF.1
    rw [e1]
    rw [show ((T.setVm vm₁).calling g mk ras.toArray).heap = T.heap from rfl, hT] at this
    exact this
  have hF2 : ∀ q : Nat, q < H.size → ¬ mm_A w ads H.size q → B1.heap[q]? = H[q]? := by
    intro q h1 h2
    have := hF.2 q (by rw [show ((T.setVm vm₁).calling g mk ras.toArray).heap = T.heap from rfl, hT]; exact h1) h2
    rw [e1, this, show ((T.setVm vm₁).calling g mk ras.toArray).heap = T.heap from rfl, hT]
  have hwd : mm_wd D A s.heap w (ads ++ y) M1 B1.heap (locs ++ Lo) := by
    refine ⟨by rw [e1]; exact hr2, ⟨Nat.le_trans hw.2.1.1 hF1, fun q h1 h2 => ?_, fun q hq => ?_⟩, fun k0 q h0 h1 => hAA q (hr3 k0 q h0 h1), hw.2.2.2⟩
    · rw [hF2 q (Nat.lt_of_lt_of_le h1 hw.2.1.1) (fun z => h2 (hAA q z))]
      exact hw.2.1.2.1 q h1 h2
    · rcases List.mem_append.mp hq with h | h
      · exact hw.2.1.2.2 q h
      · exact hAA _ (hL q h)
  have hfa : mm_fa (mm_vr (ads ++ y)) (v.toList ++ r) (v'.toList ++ rr) := by
    refine mm_fa.app (g2.mono fun _ _ => mm_vr.mono) ?_
    cases v <;> cases v' <;> first | exact hr1.elim | trivial | exact ⟨hr1, trivial⟩
  obtain ⟨t2, a1, b1⟩ := k y B1.heap (locs ++ Lo) ls (v'.toList ++ rr) hwd hl.mono hfa B1 rfl X'
  exact ⟨t2, st' t2 a1, b1⟩
end MC2
