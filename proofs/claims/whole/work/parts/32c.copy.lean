/-! System.arraycopy between arrays of ints. -/
theorem mm_pairs {ads : List Nat} (at0 : Nat) : ∀ (xs rxs : List Value) (i : Nat) (ws rws : List Value) (ce : Cell), mm_fa (mm_vr ads) xs rxs → mm_fa (mm_vr ads) ws rws → ce.slots = rws.toArray →
    ∃ rws', (ce.storePairs at0 (rxs.zipIdx i)).slots = rws'.toArray ∧ mm_fa (mm_vr ads) (mm_cpys ws (at0 + i) xs) rws'
  | [], [], i, ws, rws, ce, _, h2, h3 => ⟨rws, h3, h2⟩
  | x :: xs, y :: ys, i, ws, rws, ce, h1, h2, h3 => by
    rw [List.zipIdx_cons]
    exact mm_pairs at0 xs ys (i + 1) (ws.set (at0 + i) x) (rws.set (at0 + i) y) (ce.setSlot (at0 + i) y) h1.2 (h2.set h1.1 _) (by simp [Cell.setSlot, h3])
  | [], _ :: _, _, _, _, _, h1, _, _ => h1.elim
  | _ :: _, [], _, _, _, _, h1, _, _ => h1.elim
theorem mm_stretch {cell : Cell} {rvs : List Value} (h : cell.slots = rvs.toArray) {sp n : Nat} (hl : sp + n ≤ rvs.length) : cell.stretch sp n = (rvs.drop sp).take n := by
  unfold Cell.stretch
  apply List.ext_getElem?
  intro i
  rw [List.getElem?_map, List.getElem?_take, h]
  by_cases hi : i < n
  · rw [List.getElem?_range hi, if_pos hi, List.getElem?_drop]
    have hlt : sp + i < rvs.length := by omega
    simp [Array.getD_eq_getD_getElem?, hlt]
  · rw [if_neg hi, List.getElem?_eq_none (by simpa using hi)]
    rfl
theorem mm_clamp {z : Int32} (h : ¬ z < 0) : z.toInt = (z.toNatClampNeg : Int) := by
  have h0 : (0 : Int) ≤ z.toInt := by
    have := Int32.not_lt.mp h
    simpa using Int32.le_iff_toInt_le.mp this
  show z.toInt = ((z.toInt.toNat : Nat) : Int)
  omega
section MS6
variable {p : Program} {l : Launch} {e : Env} {R : Room} {s : State} {m : MethodId} {args : Array Value} {below : List Frame} {meth : Method} {c : Code} {Q : State → Prop} {D : va_G} {A : Nat → Prop} {H0 : Heap} {w d j pc cells slots : Nat} {ads : List Nat} {L : ML} {S : List Value} {M : MH} {n : MN}
theorem mm_s_copy (hf : mm_fx p s m args meth c j D) {idx : Nat} (hR1 : 1 ≤ R.frames) (hR2 : 64 ≤ R.locals) (hd : mm_dec (mm_bytes j) pc (.invokestatic idx)) (hp : Cond.methodLink (mm_own j) idx arraycopyName ∈ mm_ws ∧ Cond.native arraycopyName ∈ mm_ws ∧ Cond.static arraycopyName ∈ mm_ws ∧ Cond.initialized "java/lang/System" ∈ mm_ws) {z dp sp : Int32} {a b ka kb : Nat} {vs ws r : List Value} (hM1 : M[a]? = some (ka, vs)) (hM2 : M[b]? = some (kb, ws))
    (hq : (Nat.ble (mm_words r) 8 && Nat.beq (mm_akd ka) 1 && Nat.beq (mm_akd kb) 1 && !(decide (z < 0)) && !(decide (sp < 0)) && !(decide (dp < 0)) && Nat.ble (sp.toNatClampNeg + z.toNatClampNeg) vs.length && Nat.ble (dp.toNatClampNeg + z.toNatClampNeg) ws.length && Nat.ble w b && (vs.all mm_isI)) = true)
    (h : mm_go (pc + 3) L r (M.set b (kb, mm_cpy vs ws sp.toNatClampNeg dp.toNatClampNeg z.toNatClampNeg)) = some n) (k : mm_N p l e R s m args below meth c Q D A H0 w (mm_maxL j) cells slots ads n) : mm_G p l e R s m args below meth c Q D A H0 w (mm_maxL j) cells slots ads pc L (.int z :: .int dp :: .ref b :: .int sp :: .ref a :: r) M := by
  intro H locs ls st hw hl hs T hT X
  obtain ⟨hx, hb, hml, hown, hts, hK, -⟩ := hf
  simp only [Bool.and_eq_true] at hq
  obtain ⟨⟨⟨⟨⟨⟨⟨⟨⟨q1, q2⟩, q3⟩, q4⟩, q5⟩, q6⟩, q7⟩, q8⟩, q9⟩, q10⟩ := hq
  have q1 := Nat.le_of_ble_eq_true q1
  have q2 : mm_akd ka = 1 := Nat.eq_of_beq_eq_true q2
  have q3 : mm_akd kb = 1 := Nat.eq_of_beq_eq_true q3
  have q4 : ¬ z < 0 := of_decide_eq_false (by simpa using q4)
  have q5 : ¬ sp < 0 := of_decide_eq_false (by simpa using q5)
  have q6 : ¬ dp < 0 := of_decide_eq_false (by simpa using q6)
  have q7 := Nat.le_of_ble_eq_true q7
  have q8 := Nat.le_of_ble_eq_true q8
  have q9 : w ≤ b := Nat.le_of_ble_eq_true q9
  obtain ⟨b1, t1, rfl, g1, hs'⟩ := hs.inv
  clear hs
  have hs := hs'
  clear hs'
  obtain ⟨b2, t2, rfl, g2, hs'⟩ := hs.inv
  clear hs
  have hs := hs'
  clear hs'
  obtain ⟨b3, t3, rfl, ⟨qb, hqb, rfl⟩, hs'⟩ := hs.inv
  clear hs
  have hs := hs'
  clear hs'
  obtain ⟨b4, t4, rfl, g4, hs'⟩ := hs.inv
  clear hs
  have hs := hs'
  clear hs'
  obtain ⟨b5, t5, rfl, ⟨qa, hqa, rfl⟩, hs'⟩ := hs.inv
  clear hs
  have hs := hs'
  clear hs'
  cases g1; cases g2; cases g4
  obtain ⟨RL, hl1, hl2⟩ := id hl
  have hge1 := mm_akd_ge (k := ka) (by rw [q2]; decide)
  have hge2 := mm_akd_ge (k := kb) (by rw [q3]; decide)
  obtain ⟨ca, rvs, c1, c2, c3, c4, c5, c6⟩ := (hw.1.at hM1 hqa).2 hge1
  obtain ⟨cb, rws, d1, d2, d3, d4, d5, d6⟩ := (hw.1.at hM2 hqb).2 hge2
  obtain ⟨-, k0, hk0, cm0, hkk0⟩ := mm_isArr (mm_arr1 hK q2) c2 c4
  obtain ⟨-, k1, hk1, cm1, hkk1⟩ := mm_isArr (mm_arr1 hK q3) d2 d4
  have hl1' : rvs.length = vs.length := c6.len.symm
  have hl2' : rws.length = ws.length := d6.len.symm
  have hfw : nativeFrameWords "java/lang/System" "arraycopy" 5 = 7 := by decide
  obtain ⟨vm', X', step⟩ := X.arraycopy hx hown (hts _ hp.1) (hts _ hp.2.1) (hts _ hp.2.2.1) (hts _ hp.2.2.2) (src := qa) (dst := qb) (cs := ca) (cd := cb) (srcPos := sp) (destPos := dp) (n := z) (by rw [hT]; exact c1) (by rw [hT]; exact d1)
    (VmData.ne_statics_of c4) (VmData.ne_statics_of d4) c3 d3 hk0 hk1 hkk0 hkk1 (by decide) q5 q6 q4
    (by rw [mm_clamp q5, mm_clamp q4, c5]; simp; omega) (by rw [mm_clamp q6, mm_clamp q4, d5]; simp; omega)
    (fun vm₁ _ i hi => by
      have hlt : sp.toNatClampNeg + i < rvs.length := by omega
      have hlt' : sp.toNatClampNeg + i < vs.length := by omega
      obtain ⟨rv, w1, w2⟩ := c6.get (List.getElem?_eq_getElem hlt')
      have hI : mm_isI vs[sp.toNatClampNeg + i] = true := List.all_eq_true.mp q10 _ (List.getElem_mem hlt')
      have e0 : ca.slots.getD (sp.toNatClampNeg + i) .null = rv := by
        rw [c5, Array.getD_eq_getD_getElem?]
        simp [w1]
      rw [e0]
      generalize vs[sp.toNatClampNeg + i] = vv at w2 hI
      cases vv <;> first | (cases hI; done) | skip
      cases w2
      exact ⟨rfl, trivial⟩)
    (g := F0 m pc ls (.int z :: .int dp :: .ref qb :: .int sp :: .ref qa :: t5)) rfl (by rw [hml]; exact hl1.1) (rest := t5) rfl (by rw [hb]; exact hd.by 2 rfl) hR1 (by rw [mm_words_eq hs, hfw]; show 2 * 0 + _ + _ ≤ _; omega)
  have hstr : ca.stretch sp.toNatClampNeg z.toNatClampNeg = (rvs.drop sp.toNatClampNeg).take z.toNatClampNeg := mm_stretch c5 (by omega)
  have hfa := mm_fa.take z.toNatClampNeg (mm_fa.drop sp.toNatClampNeg c6)
  obtain ⟨rws', w1, w2⟩ := mm_pairs dp.toNatClampNeg _ _ 0 _ _ cb hfa d6 d5
  have hfacts := Cell.storePairs_facts cb dp.toNatClampNeg (((rvs.drop sp.toNatClampNeg).take z.toNatClampNeg).zipIdx 0)
  have hcp : copied ca cb sp dp z = cb.storePairs dp.toNatClampNeg (((rvs.drop sp.toNatClampNeg).take z.toNatClampNeg).zipIdx 0) := by
    show cb.storePairs _ _ = _
    rw [hstr]
  rw [hcp] at X' step
  generalize cb.storePairs dp.toNatClampNeg (((rvs.drop sp.toNatClampNeg).take z.toNatClampNeg).zipIdx 0) = cn at X' step w1 hfacts
  have hlt : qb < H.size := (Array.getElem?_eq_some_iff.mp d1).1
  have hheap : ((T.setVm vm').setCell qb cn).heap = H.setIfInBounds qb cn := by rw [← hT]; rfl
  have oq : ∀ q : Nat, q ≠ qb → (H.setIfInBounds qb cn)[q]? = H[q]? := fun q hq => by simp [Array.getElem?_setIfInBounds, Ne.symm hq]
  have hwd : mm_wd D A H0 w ads (M.set b (kb, mm_cpy vs ws sp.toNatClampNeg dp.toNatClampNeg z.toNatClampNeg)) (H.setIfInBounds qb cn) (locs ++ (ca.stretch sp.toNatClampNeg z.toNatClampNeg).zipIdx.map fun q => ⟨qb, dp.toNatClampNeg + q.2⟩) := by
    refine ⟨hw.1.set hqb ⟨fun z => absurd z (Nat.not_lt.mpr hge2), fun _ => ⟨cn, rws', by simp [hlt], hfacts.1.trans d2, by rw [hfacts.2.1]; exact d3, by rw [hfacts.2.1]; exact d4, w1, w2⟩⟩ oq, ⟨by simp; exact hw.2.1.1, fun q h1 h2 => ?_, fun q hq => ?_⟩, hw.2.2.1, hw.2.2.2⟩
    · rw [oq q (fun z => h2 (by rw [z]; exact hw.2.2.1 b qb q9 hqb))]
      exact hw.2.1.2.1 q h1 h2
    · rcases List.mem_append.mp hq with h | h
      · exact hw.2.1.2.2 q h
      · obtain ⟨z, -, hz⟩ := List.mem_map.mp h
        rw [← hz]
        exact hw.2.2.1 b qb q9 hqb
  obtain ⟨t, a1, b1⟩ := mm_of_go h k _ _ ls _ hwd hl hs _ hheap X'
  exact ⟨t, step t a1, b1⟩
end MS6
