/-! A method that throws, and who catches it. -/
theorem mm_hr.kept {D : va_G} {ads : List Nat} {M : MH} {H H1 : Heap} (h : mm_hr D ads M H) (ho : ∀ x, x < H.size → H1[x]? = H[x]?) : mm_hr D ads M H1 := by
  refine ⟨h.1, h.2.1, fun k c hk => ?_⟩
  obtain ⟨q, h1, h2⟩ := h.2.2 k c hk
  exact ⟨q, h1, h2.kept (ho q (h.lt h1))⟩
theorem mm_same_nil {s s' : State} {k n : Nat} (h : s.sameButNew s' [] k n) : s.heap.size ≤ s'.heap.size ∧ ∀ a, a < s.heap.size → s'.heap[a]? = s.heap[a]? := by
  refine ⟨h.2.1, fun a ha => ?_⟩
  have e0 : s.heap[a]? = some s.heap[a] := Array.getElem?_eq_getElem ha
  obtain ⟨c', h1, h2, h3, h4⟩ := h.2.2.2.2.2 a _ e0
  rw [h1, e0, h2]
  have e : c'.slots = (s.heap[a]).slots := by
    apply Array.ext_getElem?
    intro i
    exact h4 i List.not_mem_nil
  rw [e]
def mm_QT (x cc nn : Nat) : Array Value → State → Outcome → State → Prop := fun _ st o t => ∃ (ad : Nat) (ce : Cell), o = .threw ad ∧ st.WarmedH t.vm ∧ st.sameButNew ({ t with vm := st.vm } : State) [] cc nn ∧ t.heap[ad]? = some ce ∧ ce.vm = .none ∧ st.vm.findClass (mm_xn x) = some ce.cls
def mm_end (p : Program) (l : Launch) (e : Env) (R : Room) (s : State) (m : MethodId) (args : Array Value) (below : List Frame) (meth : Method) (c : Code) (Q : State → Prop) (D : va_G) (A : Nat → Prop) (w j cells slots : Nat) (ads : List Nat) (o : Option Value ⊕ Nat) (M1 : MH) : Prop := match o with
  | .inl v => ∀ (y : List Nat) (H : Heap) (locs : List Loc) (ls : Array Slot) (rv : Option Value) (pc : Nat), mm_wd D A s.heap w (ads ++ y) M1 H locs → mm_rv (ads ++ y) v rv → mm_retI j pc v → W p l e R s m args below meth c H locs cells slots Q (F0 m pc ls rv.toList)
  | .inr x => ∀ (y : List Nat) (H : Heap) (locs : List Loc) (ls : Array Slot) (S st : List Value) (pc d cT nT : Nat), cells = cT + 1 → slots = nT + 6 → mm_wd D A s.heap w (ads ++ y) M1 H locs → ls.size = mm_maxL j → mm_fa (mm_vr (ads ++ y)) S st → mm_thrI d j pc x S → d ≤ R.frames → 64 * d ≤ R.locals → W p l e R s m args below meth c H locs cT nT Q (F0 m pc ls st)
theorem mm_end.mono {p : Program} {l : Launch} {e : Env} {R : Room} {s : State} {m : MethodId} {args : Array Value} {below : List Frame} {meth : Method} {c : Code} {Q : State → Prop} {D : va_G} {A : Nat → Prop} {w j cells slots : Nat} {ads : List Nat} {o : Option Value ⊕ Nat} {M1 : MH} (y : List Nat) (h : mm_end p l e R s m args below meth c Q D A w j cells slots ads o M1) : mm_end p l e R s m args below meth c Q D A w j cells slots (ads ++ y) o M1 := by
  cases o with
  | inl v =>
    intro y2 H locs ls rv pc h1 h2 h3
    rw [List.append_assoc] at h1 h2
    exact h (y ++ y2) H locs ls rv pc h1 h2 h3
  | inr x =>
    intro y2 H locs ls S st pc d cT nT h0 h00 h1 h2 h3
    rw [List.append_assoc] at h1 h3
    exact h (y ++ y2) H locs ls S st pc d cT nT h0 h00 h1 h2 h3
theorem mm_hex {p : Program} {l : Launch} {S : Spec} {j : Nat} {e : Env} {s : State} {m : MethodId} {args : Array Value} {below : List Frame} {meth : Method} {c : Code} {s₁ : State} (B : BodyLoose p l (mm_y j) S (mm_bytes j) (mm_maxL j) (mm_ret j) e s m args below meth c s₁) (h : (mm_cw j).before args s = true) : c.exceptionTable.toList.map (fun h => (h.startPc, h.endPc, h.handlerPc, h.catchType)) = mm_hh j := by
  unfold mm_cw at h
  cases hh : mm_hh j with
  | nil =>
    rw [hh] at h
    have h1 := B.noHandlers h
    have h2 : c.exceptionTable = #[] := by simpa using h1
    rw [h2]
    rfl
  | cons q r =>
    rw [hh] at h
    obtain ⟨m', meth', c', hn', hm', hc', -, -, he', -, -, -⟩ := Cond.codeWith_spec h
    cases B.named.symm.trans hn'
    cases B.method.symm.trans hm'
    cases (Stand.of_body B).code.symm.trans hc'
    exact he'
theorem mm_sl_len (vs : List Value) : (lg_sl vs).length = (vs.map fun v => v.category).sum := by
  induction vs with
  | nil => rfl
  | cons x xs ih =>
    unfold lg_sl at ih ⊢
    rw [List.flatMap_cons, List.length_append, ih]
    rcases lv_cat x with hc | hc <;> simp [hc]
theorem mm_sep_of {D : va_G} {ads : List Nat} {M : MH} {w : Nat} {s : State} (h3 : mm_hr D ads M s.heap) : mm_sep s (mm_A w ads s.heap.size) := by
  intro a cell ha hst hA
  rcases hA with ⟨k, hk, hq⟩ | hA
  · have hl := (List.getElem?_eq_some_iff.mp hq).1
    rw [h3.1] at hl
    have hcr := h3.at (List.getElem?_eq_getElem hl) hq
    rcases Nat.lt_or_ge (M[k]).1 50 with hc | hc
    · obtain ⟨cell', c1, c2, c3, -⟩ := hcr.1 hc
      cases ha.symm.trans c1
      rw [c3] at hst
      cases hst
    · obtain ⟨cell', rvs, c1, c2, c3, c4, -⟩ := hcr.2 hc
      cases ha.symm.trans c1
      rw [c4] at hst
      cases hst
  · exact absurd (Array.getElem?_eq_some_iff.mp ha).1 (Nat.not_lt.mpr hA)
theorem mm_metT_of {l : Launch} (hfl : l.flags = flags0) {j d cc nn x : Nat} {D : va_G} {ads : List Nat} {M M1 : MH} {as : List Value} (hm : mm_meth j) (hh0 : mm_hh j = []) (hwd : mm_words as ≤ mm_maxL j)
    (body : ∀ (p : Program) (e : Env) (s : State) (m : MethodId) (args : Array Value) (below : List Frame) (meth : Method) (c : Code) (Q : State → Prop) (A : Nat → Prop), mm_fx p s m args meth c j D → mm_sep s A → mm_end p l e (mm_rm d cc nn) s m args below meth c Q D A M.length j cc nn ads (.inr x) M1 → mm_G p l e (mm_rm d cc nn) s m args below meth c Q D A s.heap M.length (mm_maxL j) 0 0 ads 0 (lv_args 0 as) [] M) (sz : Nat) :
    MetFree l (mm_y j) (headSpec (mm_wsm j) (mm_rm d cc nn)) (mm_P D ads M as sz) (fun _ _ _ _ _ => True) (mm_QT x cc nn) := by
  have hcw : mm_cw j = Cond.code (mm_y j) (mm_bytes j) (mm_maxL j) (mm_ret j) := by unfold mm_cw; rw [hh0]
  refine MetFree.of_bodyS (code := mm_bytes j) (maxLocals := mm_maxL j) (ret := mm_ret j) hm.1 ?_ ?_
  · intro args s m h hn
    obtain ⟨meth, c, h1, h2, h3, h4, h5, h6, -, -⟩ := Cond.code_spec hn (atoms_spec (ws := mm_wsm j) h _ (by unfold mm_wsm; rw [hcw]; exact List.mem_cons_self))
    exact ⟨meth, c, h1, h2, h3, h4, h5, h6⟩
  · intro p e s m args below meth c s₁ B hml hv _
    have hh1 : s₁.heap = s.heap := by rw [B.state]; rfl
    obtain ⟨ras, rfl, h2, h3, h4, h5⟩ := hv
    subst h5
    have hts := atoms_spec (ws := mm_wsm j) B.pre
    have hown : s.vm.findClass (mm_own j) = some m.cls := by rw [← hm.2.2.2.1]; exact findClass_of_methodNamed B.named
    have hf : mm_fx p s m ras.toArray meth c j D := ⟨B.exec, B.bytes, hml, hown, fun w hw => hts w (List.mem_cons_of_mem _ hw), h4, B.returns, B.notSynchronized, fun hc => (name_of_methodNamed B.named B.method).1.trans (hm.2.2.2.2.2.2 hc), mm_hex B (hts _ List.mem_cons_self)⟩
    have hx := B.exec
    have hb := B.bytes
    have hlocks := B.notSynchronized
    have hlen : (lg_sl ras).length ≤ mm_maxL j := by
      have : (lg_sl ras).length = mm_words as := by rw [← mm_words_eq h2]; exact mm_sl_len ras
      rw [this]; exact hwd
    have hl := lv_entry ras (n := mm_maxL j) hlen
    have key : W p l e (headSpec (mm_wsm j) (mm_rm d cc nn)).room s m ras.toArray below meth c s.heap [] 0 0 (fun t => ∃ o, t.status = .running ∧ Ended t below o ∧ mm_QT x cc nn ras.toArray s o t) (entryFrame m ras.toArray (mm_maxL j)) := by
      rw [lg_entry_eq]
      refine body p e s m ras.toArray below meth c _ (mm_A M.length ads s.heap.size) hf (mm_sep_of h3) ?_ s.heap [] _ [] ⟨h3, va_S.rf, fun k q hk hq => Or.inl ⟨k, hk, hq⟩, fun q hq => Or.inr hq⟩ ⟨_, hl, mm_lr_args 0 h2⟩ trivial
      intro y H locs ls S st pc dd cT nT hcT hnT hw hls hst hI hd1 hd2
      obtain ⟨k1, k2, k3, d1, d2, d3, d4, d5, ⟨X, rfl, x1, x2, x3⟩, ⟨tx, htx⟩, ⟨X2, rfl, x4⟩, h8, h6⟩ := hI
      obtain ⟨qs, hZ⟩ := h4.2.2.2.2.2.2.1 _ htx
      have hts2 := hf.2.2.2.2.1
      obtain ⟨cX, kX, hfcX, -, -, -⟩ := Cond.instantiable_spec (hts2 _ x2)
      have hcc : cT + 1 ≤ (headSpec (mm_wsm j) (mm_rm d cc nn)).room.cells := by show cT + 1 ≤ cc; omega
      have hnn : nT + 6 ≤ (headSpec (mm_wsm j) (mm_rm d cc nn)).room.slots := by show nT + 6 ≤ nn; omega
      refine W.newcK hx hb hown (hts2 _ x1) (hts2 _ x2) (hts2 _ x3) rfl (d1.by 2 rfl) hcc hnn hfcX rfl fun H1 kC hkC e1 z1 o1 => ?_
      refine lv_dup hx hb (pc := pc + 3) (ls := ls) (rest := st) (d2.by 0 rfl) rfl ?_
      refine va_ldcS hx hb (pc := pc + 4) hown hZ (d3.by 1 rfl) ?_
      intro T hT X
      have hold : ∀ y ∈ locs, s.heap.size ≤ y.base := by
        intro y hy
        rcases hw.2.1.2.2 y hy with ⟨k, hk, hq⟩ | hq
        · have := (List.getElem?_eq_some_iff.mp hq).1
          rw [h3.1] at this
          omega
        · exact hq
      have X0 := Stand.forget (locs := []) (extra := locs) X hold
      have hout : ∀ z ∈ c.exceptionTable.toList, covers z (pc + 6 + 3) = false := by
        have he := hf.2.2.2.2.2.2.2.2.2
        rw [hh0] at he
        intro z hz
        rw [List.map_eq_nil_iff.mp he] at hz
        exact absurd hz List.not_mem_nil
      have hR2 : (headSpec (mm_wsm j) (mm_rm d cc nn)).room.locals = 64 * d := rfl
      have hR1 : (headSpec (mm_wsm j) (mm_rm d cc nn)).room.frames = d := rfl
      have hd1 : dd ≤ d := hd1
      obtain ⟨U, st1, hrun, hended, hWU, hsame, ce, hce, hoc⟩ := X0.ctorThrowS hx (Launch.traces_off hfl X.admits) (own := mm_own j) (cls := mm_xn x) (names := mm_xsup) (ic := k3) hown (mm_xn_fit x) mm_xsup_fit (mm_atoms hts2 h4 x4) (fun z hz => by cases hz) hfcX hkC (a := H.size) (by rw [hT]; exact e1) hw.2.1.1 (msg := .ref qs) rfl
        (g := F0 m (pc + 6) ls (.ref qs :: .ref H.size :: .ref H.size :: st)) rfl (by rw [hml]; exact hls) rfl rfl (rest := st) rfl (by rw [hb]; exact d4.by 2 rfl) (by rw [hb]; exact d5.by 0 rfl) hout
        (by show 2 + 3 < d; omega) (by
          show 2 * 0 + ((Value.ref H.size :: st).map fun v => v.category).sum + (13 * (2 + 1) + 42) ≤ 64 * d
          rw [List.map_cons, List.sum_cons, mm_words_eq hst]
          show 2 * 0 + (1 + _) + _ ≤ _
          omega) hlocks
      refine ⟨U, st1, .threw H.size, hrun, hended, H.size, ce, rfl, hWU, ?_, hce, hoc.vm, hoc.cls⟩
      rw [hcT, hnT]
      exact hsame
    obtain ⟨t, a1, o, b1, b2, b3⟩ := key s₁ hh1 (Stand.of_body B)
    exact ⟨t, o, a1, b1, b2, b3⟩
def mm_PT (x cc nn : Nat) : Pt → Array Value → Addr → Pt → Prop := fun A a v B => ∃ (g : JFrame) (mk : MethodId) (t : State) (ce : Cell), B.U.heap = t.heap ∧ (A.U.calling g mk a).sameButNew ({ t with vm := (A.U.calling g mk a).vm } : State) [] cc nn ∧ t.heap[v]? = some ce ∧ ce.vm = .none ∧ A.U.vm.findClass (mm_xn x) = some ce.cls ∧ B.locs = A.locs ∧ B.cells = A.cells + cc ∧ B.slots = A.slots + nn
section MT
variable {p : Program} {l : Launch} {e : Env} {R : Room} {s : State} {m : MethodId} {args : Array Value} {below : List Frame} {meth : Method} {c : Code} {Q : State → Prop} {D : va_G} {A : Nat → Prop} {w d j j' pc cells slots : Nat} {ads : List Nat} {L : ML} {S : List Value} {M M1 : MH} {as r : List Value}
theorem mm_backT (hts : ∀ w ∈ mm_ws, w.before args s = true) {dd cc nn x sz : Nat} (hm : mm_meth j') (hh0 : mm_hh j' = []) (hM : MetFree l (mm_y j') (headSpec (mm_wsm j') (mm_rm dd cc nn)) (mm_P D ads M as sz) (fun _ _ _ _ _ => True) (mm_QT x cc nn)) (hR1 : dd + 1 ≤ R.frames) (hR2 : 64 * (dd + 1) ≤ R.locals) : BackT l R p e below s args (mm_y j') 3 8 (PreOf R cc nn (mm_P D ads M as sz)) (mm_PT x cc nn) := by
  obtain ⟨h1, h2, h3, h4, h5, h6, h7⟩ := hm
  have hcw : mm_cw j' = Cond.code (mm_y j') (mm_bytes j') (mm_maxL j') (mm_ret j') := by unfold mm_cw; rw [hh0]
  have hG : ∀ w ∈ mm_wsm j', w ∈ mm_ws ∧ ((w.onTables && w.keeps) = true ∨ ∃ ty, w = .arrayClass ty) := by
    intro w hw
    rcases List.mem_cons.mp hw with rfl | hw
    · exact ⟨h2, mm_good _ h2⟩
    · exact ⟨hw, mm_good _ hw⟩
  have hws := pay_in hts hG
  have hloc : 8 + (mm_maxL j' + 11) + (mm_rm dd cc nn).locals ≤ R.locals := by show 8 + (mm_maxL j' + 11) + 64 * dd ≤ R.locals; omega
  refine BackT.of_free (S := headSpec (mm_wsm j') (mm_rm dd cc nn)) (P := mm_P D ads M as sz) (K := fun _ _ _ _ _ => True) (Q := mm_QT x cc nn) (bytes := mm_bytes j') (maxL := mm_maxL j') (ret := mm_ret j')
    (E := fun a st o t L k n => L = [] ∧ k = cc ∧ n = nn) hM hR1 hloc ?_ ?_ (fun _ _ _ _ _ _ _ _ _ => trivial) ?_ ?_
  · intro m meth c A a X hp
    exact ⟨atoms_intro fun w hw => hws w hw _ _ X.warmed, hws _ (by unfold mm_wsm; rw [hcw]; exact List.mem_cons_self) _ _ X.warmed, hws _ (List.mem_cons_of_mem _ h3) _ _ X.warmed, hp.1, hp.2.1⟩
  · intro m meth c A a g mk X hp
    exact mm_P_blind _ _ _ _ hp.2.2
  · intro a st o t h
    obtain ⟨ad, ce, rfl, hW, hsame, -⟩ := h
    exact ⟨[], cc, nn, ⟨⟨ad, rfl⟩, hW, hsame⟩, rfl, rfl, rfl⟩
  · intro m meth c A a g mk v t Lo k n X hp hq hF he
    obtain ⟨rfl, rfl, rfl⟩ := he
    obtain ⟨ad, ce, ho, hW, hsame, q1, q2, q3⟩ := hq
    cases ho
    exact ⟨g, mk, t, ce, rfl, hsame, q1, q2, q3, List.append_nil _, rfl, rfl⟩
theorem mm_dec_same {cc : ByteArray} {i i2 : Instr} (h : mm_dec cc pc i) (h2 : mm_dec cc pc i2) : i = i2 := by
  obtain ⟨_, a, -⟩ := h
  obtain ⟨_, b, -⟩ := h2
  have := a.symm.trans b
  injection this with this
  exact (Prod.mk.inj this).1
theorem mm_s_catch {dd cc nn x to kx : Nat} (hf : mm_fx p s m args meth c j D) (hsep : mm_sep s A) (hI : mm_callI j pc S M j' as r) (hhand : mm_hand j pc x = some (to, kx)) (hM : ∀ (sz : Nat), mm_hh j' = [] → MetFree l (mm_y j') (headSpec (mm_wsm j') (mm_rm dd cc nn)) (mm_P D ads M as sz) (fun _ _ _ _ _ => True) (mm_QT x cc nn)) (hR1 : dd + 1 ≤ R.frames) (hR2 : 64 * (dd + 1) ≤ R.locals) (hc : cells + cc ≤ R.cells) (hn : slots + nn ≤ R.slots)
    (k : mm_G p l e R s m args below meth c Q D A s.heap w (mm_maxL j) (cells + cc) (slots + nn) ads to (L.filter fun q => !(q.1 == kx) && !(q.1 + 1 == kx && q.2.category == 2)) [] M) : mm_G p l e R s m args below meth c Q D A s.heap w (mm_maxL j) cells slots ads pc L S M := by
  intro H locs ls st hw hl hs T hT X
  obtain ⟨RL, hl1, hl2⟩ := id hl
  obtain ⟨hx, hb, hml, hown, hts, hkn, -, -, -, hex⟩ := id hf
  obtain ⟨o1, ⟨idx0, o2⟩, pre, a0, b0, hp, ct, rest0, o3, o4, o5, o6, o7, o8, o9, o10, o11⟩ := mm_hand_ok hhand
  have hm := hI.meth
  obtain ⟨hwr0, hwa, h | h⟩ := hI
  · obtain ⟨b, As, rfl, rfl, ⟨fs, hMb⟩, idx, h⟩ := h
    rcases h with ⟨hd, h | h⟩ | ⟨hd, -⟩
    · obtain ⟨-, hhh, w1, w2, w3, ⟨T0, N0, w4⟩, w5⟩ := h
      obtain ⟨t1, t2, rfl, g1, g2⟩ := hs.split
      obtain ⟨q0, rr, rfl, ⟨q, hq, rfl⟩, g3⟩ := g2.inv
      have g4 := g1.rev
      rw [List.reverse_reverse] at g4
      have hlen : As.length = t1.reverse.length := g4.len
      have hst : t1 ++ Value.ref q :: rr = t1.reverse.reverse ++ Value.ref q :: rr := by rw [List.reverse_reverse]
      have hwr : 2 * (F0 m pc ls (t1 ++ Value.ref q :: rr)).monitorRoom + (rr.map fun v => v.category).sum ≤ 8 := by
        rw [mm_words_eq g3]
        show 2 * 0 + _ ≤ 8
        omega
      obtain ⟨d1, -⟩ := mm_cl_ok w4
      obtain ⟨cell, c1, c2, c3, -⟩ := (hw.1.at hMb hq).1 d1
      obtain ⟨-, hfc, -⟩ := hkn.1.1 _ _ w4
      have hK := mm_backT (R := R) (p := p) (e := e) (below := below) hts hm hhh (hM H.size hhh) hR1 hR2
      obtain ⟨mk, methM, hnamed, hmethM, hstM, habM⟩ := Cond.instanceMethod_spec (hts _ w2)
      obtain ⟨methM', cM, hmethM', -, -, -, -, -, -, hsigM⟩ := Cond.code_spec hnamed (mm_codeb hts hm hhh)
      cases hmethM.symm.trans hmethM'
      obtain ⟨c2', r2, m2, q1, q2, q3, q4, kP, hkP, hkPi⟩ := Cond.selects_spec (hts _ w3)
      have hclsB : s.vm.findClass (mm_own j') = some cell.cls := by rw [c2]; exact hfc
      cases hclsB.symm.trans q1
      cases (State.methodFound?_of_named hnamed hm.2.2.2.2.1).symm.trans q2
      cases hnamed.symm.trans q3
      have hselP : selectMethod e.platform s.vm cell.cls mk = .method mk := by rw [Launch.admits_selectMethod X.admits]; exact q4
      obtain ⟨vm₁, X₁, hstep₁⟩ := X.invokevirtual hx hown (hts _ w1) hnamed hmethM hstM hkP hkPi hm.2.2.2.2.1 (a := q) (cell := cell) (by rw [hT]; exact c1)
        (fun z hz => by rw [c3] at hz; cases hz) hselP hmethM habM hkP hkPi (g := F0 m pc ls (t1 ++ Value.ref q :: rr)) rfl (argsL := t1.reverse) (rest := rr) (by rw [← hlen]; exact w5.at _ hsigM) hst (by rw [hb]; exact hd.by 2 rfl)
      obtain ⟨v, ⟨B1, B2, B3, B4⟩, X', ⟨g, mk', t, ce, e1, e2, e3, e4, e5, e6, e7, e8⟩, hsteps⟩ := hK m meth c ⟨T.setVm vm₁, locs, cells, slots⟩ (F0 m pc ls rr) (.invokevirtual idx) mk (Value.ref q :: t1.reverse).toArray X₁ rfl (hl1.1.trans hml.symm) (by rw [hb]; exact hd.by 2 rfl) hwr (X₁.named hnamed)
        ⟨hc, hn, .ref q :: t1.reverse, rfl, ⟨⟨q, hq, rfl⟩, g4⟩, by show mm_hr D ads M T.heap; rw [hT]; exact hw.1, hkn.move (A := A) X₁.warmed (by show va_S A s.heap T.heap locs; rw [hT]; exact hw.2.1) hsep, by show T.heap.size = H.size; rw [hT]⟩
      dsimp only [Pt.U, Pt.locs, Pt.cells, Pt.slots] at X' e1 e2 e3 e4 e5 e6 e7 e8 hsteps
      subst e6; subst e7; subst e8
      obtain ⟨f1, f2⟩ := mm_same_nil e2
      have f1 : H.size ≤ B1.heap.size := by
        rw [e1, ← hT]; exact f1
      have f2 : ∀ a, a < H.size → B1.heap[a]? = H[a]? := fun a ha => by
        rw [e1, ← hT]; exact f2 a (by show a < T.heap.size; rw [hT]; exact ha)
      have hfcX : s.vm.findClass (mm_xn x) = some ce.cls := by
        have : (T.setVm vm₁).vm.findClass (mm_xn x) = s.vm.findClass (mm_xn x) := X₁.warmed.alike.findClass ..
        rw [← this]; exact e5
      rw [o1] at hown
      -- the handler
      rw [o3] at hex
      obtain ⟨preR, tlR, x1, x2, x3⟩ := List.map_eq_append_iff.mp hex
      obtain ⟨xR, restR, x4, x5, x6⟩ := List.map_eq_cons_iff.mp x3
      subst x4
      have hct : xR.catchType = ct := (congrArg (fun z : Nat × Nat × Nat × Nat => z.2.2.2) x5)
      have hhp : xR.handlerPc = hp := (congrArg (fun z : Nat × Nat × Nat × Nat => z.2.2.1) x5)
      have hsp : xR.startPc = a0 := (congrArg (fun z : Nat × Nat × Nat × Nat => z.1) x5)
      have hep : xR.endPc = b0 := (congrArg (fun z : Nat × Nat × Nat × Nat => z.2.1) x5)
      have hpl : e.platform.magicAccessors = ({} : Platform).magicAccessors := by rw [X.admits.platform]
      obtain ⟨cf, ct', hcf, hct', hfit⟩ := Cond.castable_spec (args := args) (mm_xw_use (args := args) o8 (hkn.2.2.2.2.2.2.2.1 _ o8))
      cases hfcX.symm.trans hcf
      cases hfcX.symm.trans hct'
      obtain ⟨hend, hk0⟩ := X'.catches_of_link hown (x := xR) (by rw [hct]; exact o6) (by rw [hct]; exact hts _ o7) hfcX hfit
      have hpass : ∀ y ∈ preR, RowPassed e.platform s m.cls (F0 m pc ls rr).pc ce.cls y := by
        intro y hy
        obtain ⟨n1, Y, n2, n3⟩ := o9 (y.startPc, y.endPc, y.handlerPc, y.catchType) (by rw [← x2]; exact List.mem_map.mpr ⟨y, hy, rfl⟩)
        obtain ⟨c'', hc'', hcl⟩ := Cond.classLink_spec hown (hts _ n2) e.platform hpl
        obtain ⟨ca, tb, z1, z2, z3⟩ := hkn.2.2.2.2.2.2.2.2.1 _ n3
        cases hfcX.symm.trans z1
        cases hc''.symm.trans z2
        exact Or.inr ⟨n1, c'', hcl, z3⟩
      obtain ⟨vm', X2, st2⟩ := X'.caughtThrough v (g := F0 m pc ls rr) rfl (by rw [e1]; exact e3) (by rw [e4]; rfl) hk0 preR xR restR x1 hpass (by simp only [covers, hsp, hep, Bool.and_eq_true, decide_eq_true_eq]; exact ⟨o4, o5⟩) hend
      rw [hhp] at st2
      have hwd : mm_wd D A s.heap w ads M B1.heap B2 := by
        refine ⟨hw.1.kept f2, ⟨Nat.le_trans hw.2.1.1 f1, fun q h1 h2 => ?_, hw.2.1.2.2⟩, hw.2.2.1, hw.2.2.2⟩
        rw [f2 q (Nat.lt_of_lt_of_le h1 hw.2.1.1)]
        exact hw.2.1.2.1 q h1 h2
      have hk2 : W p l e R s m args below meth c B1.heap B2 (cells + cc) (slots + nn) Q (F0 m hp ls [.ref v]) := by
        have fin : ∀ ls' : Array Slot, lv_has ls' (mm_maxL j) ((kx, Value.ref v) :: RL.filter (fun q => !(q.1 == kx) && !(q.1 + 1 == kx && q.2.category == 2))) → W p l e R s m args below meth c B1.heap B2 (cells + cc) (slots + nn) Q (F0 m to ls' []) := fun ls' hl' =>
          k B1.heap B2 ls' [] hwd ⟨_, ⟨hl'.1, hl'.2.1, fun q hq => hl'.2.2 q (List.mem_cons_of_mem _ hq)⟩, mm_fa.fil (fun a b q => by rw [q.1, q.2.cat]) hl2⟩ trivial
        rcases o11 with ⟨z, hz, hdz, rfl⟩ | ⟨hdz, rfl⟩
        · exact lv_astore_n hx hb (hdz.by 0 rfl) hz hl1 o10 rfl fin
        · exact lv_astore hx hb (hdz.by 1 rfl) hl1 o10 rfl fin
      obtain ⟨t9, a9, b9⟩ := hk2 (B1.setVm vm') rfl X2
      refine ⟨t9, hstep₁ _ fun acts => ?_, b9⟩
      rw [doInvoke_state]
      refine hsteps.trans ?_
      rw [X'.pushThrowing_eq]
      exact st2 _ a9
    · obtain ⟨-, -, ⟨host, hn0⟩, -⟩ := h
      rw [o1] at hn0
      exact absurd hn0 (by simp [mm_nest])
    · cases mm_dec_same o2 hd
  · obtain ⟨-, idx, hd, -⟩ := h
    cases mm_dec_same o2 hd
end MT
