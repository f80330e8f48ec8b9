/-! The steps that read and write cells. -/
theorem mm_isArr {s : State} {cell : Cell} {cA : ClassId} {ty : FieldType} (h : ArrOfT s cA ty) (hc : cell.cls = cA) (hv : cell.vm.isStatics = false) : s.isArrayOf cell ty := by
  obtain ⟨-, k, hk, comp, hkind⟩ := h 0 (fun _ => .null)
  exact ⟨VmData.ne_statics_of hv, k, by rw [hc]; exact hk, comp, hkind⟩
theorem mm_in {i : Int32} {n : Nat} (h0 : ¬ i < 0) (h : i.toNatClampNeg < n) : ¬ (i < 0 ∨ n ≤ i.toNatClampNeg) := fun z => by
  rcases z with z | z
  · exact h0 z
  · omega
section MS2
variable {p : Program} {l : Launch} {e : Env} {R : Room} {s : State} {m : MethodId} {args : Array Value} {below : List Frame} {meth : Method} {c : Code} {Q : State → Prop} {D : va_G} {A : Nat → Prop} {H0 : Heap} {w j pc cells slots : Nat} {ads : List Nat} {L : ML} {S : List Value} {M : MH} {n : MN}
theorem mm_s_ald {kd : Nat} (hkd : kd ≠ 0) (row : ∀ (q k2 : Nat) (cell : Cell) (i : Int32) (v : Value) (H : Heap) (locs : List Loc) (ls : Array Slot) (rest : List Value), H[q]? = some cell → cell.cls = D.1 k2 → mm_akd k2 = kd → cell.vm ≠ .unknown → cell.vm.isStatics = false → ¬ (i < 0 ∨ cell.slots.size ≤ i.toNatClampNeg) → cell.slots[i.toNatClampNeg]? = some v → W p l e R s m args below meth c H locs cells slots Q (F0 m (pc + 1) ls (v :: rest)) → W p l e R s m args below meth c H locs cells slots Q (F0 m pc ls (.int i :: .ref q :: rest))) (h : mm_ald kd pc L S M = some n) (k : mm_N p l e R s m args below meth c Q D A H0 w (mm_maxL j) cells slots ads n) : mm_G p l e R s m args below meth c Q D A H0 w (mm_maxL j) cells slots ads pc L S M := by
  intro H locs ls st hw hl hs
  unfold mm_ald at h
  split at h
  · rename_i i a r
    obtain ⟨b1, t1, rfl, h1, hs'⟩ := hs.inv
    clear hs
    have hs := hs'
    clear hs'
    obtain ⟨b2, t2, rfl, ⟨q, hq, rfl⟩, hs'⟩ := hs.inv
    clear hs
    have hs := hs'
    clear hs'
    cases h1
    split at h
    · rename_i k2 vs hM
      split at h
      · rename_i hb
        obtain ⟨hb1, hb2⟩ := Bool.and_eq_true_iff.mp hb
        have hk2 : mm_akd k2 = kd := Nat.eq_of_beq_eq_true hb1
        have hi0 : ¬ i < 0 := of_decide_eq_false (by simpa using hb2)
        split at h
        · rename_i v hv
          obtain ⟨cell, rvs, c1, c2, c3, c4, c5, c6⟩ := (hw.1.at hM hq).2 (mm_akd_ge (by rw [hk2]; exact hkd))
          obtain ⟨rv, g1, g2⟩ := c6.get hv
          have hlt : i.toNatClampNeg < rvs.length := (List.getElem?_eq_some_iff.mp g1).1
          exact row q k2 cell i rv H locs ls _ c1 c2 hk2 c3 c4 (mm_in hi0 (by rw [c5]; simpa using hlt)) (by rw [c5]; simpa using g1) (mm_of_go h k H locs ls _ hw hl ⟨g2, hs⟩)
        · cases h
      · cases h
    · cases h
  · cases h
/-- the cells behind a store into an array -/
theorem mm_wd.arr {ads : List Nat} {M : MH} {H H1 : Heap} {locs : List Loc} {a q i kd : Nat} {vs : List Value} {v rv : Value} {cell : Cell} (hw : mm_wd D A H0 w ads M H locs) (hM : M[a]? = some (kd, vs)) (hq : ads[a]? = some q) (ha : w ≤ a) (hkd : 50 ≤ kd) (hc : H[q]? = some cell) (hv : mm_vr ads v rv)
    (e1 : H1[q]? = some (cell.setSlot i rv)) (e2 : H1.size = H.size) (e3 : ∀ x, x ≠ q → H1[x]? = H[x]?) : mm_wd D A H0 w ads (mm_put M a i v) H1 (locs ++ [⟨q, i⟩]) := by
  obtain ⟨cell', rvs, c1, c2, c3, c4, c5, c6⟩ := (hw.1.at hM hq).2 hkd
  cases hc.symm.trans c1
  have hp : mm_put M a i v = M.set a (kd, vs.set i v) := by unfold mm_put; rw [hM]
  rw [hp]
  refine ⟨hw.1.set hq ⟨fun z => absurd z (Nat.not_lt.mpr hkd), fun _ => ⟨cell.setSlot i rv, rvs.set i rv, e1, c2, c3, c4, ?_, c6.set hv i⟩⟩ e3, hw.2.1.put e2 e3 (hw.2.2.1 a q ha hq), hw.2.2.1, hw.2.2.2⟩
  simp [Cell.setSlot, c5]
theorem mm_s_ast {kd : Nat} {ok : Value → Bool} (hkd : kd ≠ 0) (row : ∀ (q k2 : Nat) (cell : Cell) (i : Int32) (v rv : Value) (H : Heap) (locs : List Loc) (ls : Array Slot) (rest : List Value), ok v = true → mm_vr ads v rv → H[q]? = some cell → cell.cls = D.1 k2 → mm_akd k2 = kd → cell.vm ≠ .unknown → cell.vm.isStatics = false → ¬ (i < 0 ∨ cell.slots.size ≤ i.toNatClampNeg) → (∀ H1 : Heap, H1[q]? = some (cell.setSlot i.toNatClampNeg rv) → H1.size = H.size → (∀ x, x ≠ q → H1[x]? = H[x]?) → W p l e R s m args below meth c H1 (locs ++ [⟨q, i.toNatClampNeg⟩]) cells slots Q (F0 m (pc + 1) ls rest)) → W p l e R s m args below meth c H locs cells slots Q (F0 m pc ls (rv :: .int i :: .ref q :: rest))) (h : mm_ast w kd ok pc L S M = some n) (k : mm_N p l e R s m args below meth c Q D A H0 w (mm_maxL j) cells slots ads n) : mm_G p l e R s m args below meth c Q D A H0 w (mm_maxL j) cells slots ads pc L S M := by
  intro H locs ls st hw hl hs
  unfold mm_ast at h
  split at h
  · rename_i v i a r
    obtain ⟨b0, t0, rfl, h0, hs'⟩ := hs.inv
    clear hs
    have hs := hs'
    clear hs'
    obtain ⟨b1, t1, rfl, h1, hs'⟩ := hs.inv
    clear hs
    have hs := hs'
    clear hs'
    obtain ⟨b2, t2, rfl, ⟨q, hq, rfl⟩, hs'⟩ := hs.inv
    clear hs
    have hs := hs'
    clear hs'
    cases h1
    split at h
    · rename_i k2 vs hM
      split at h
      · rename_i hb
        simp only [Bool.and_eq_true] at hb
        obtain ⟨⟨⟨⟨hb1, hb2⟩, hb3⟩, hb4⟩, hb5⟩ := hb
        have hk2 : mm_akd k2 = kd := Nat.eq_of_beq_eq_true hb1
        have hi0 : ¬ i < 0 := of_decide_eq_false (by simpa using hb2)
        have hlt : i.toNatClampNeg < vs.length := Nat.le_of_ble_eq_true hb3
        have ha : w ≤ a := Nat.le_of_ble_eq_true hb5
        have hge := mm_akd_ge (k := k2) (by rw [hk2]; exact hkd)
        obtain ⟨cell, rvs, c1, c2, c3, c4, c5, c6⟩ := (hw.1.at hM hq).2 hge
        have hlen : cell.slots.size = vs.length := by rw [c5]; simpa using c6.len.symm
        exact row q k2 cell i v b0 H locs ls _ hb4 h0 c1 c2 hk2 c3 c4 (mm_in hi0 (by rw [hlen]; exact hlt)) (fun H1 e1 e2 e3 => mm_of_go h k H1 _ ls _ (hw.arr hM hq ha hge c1 h0 e1 e2 e3) hl hs)
      · cases h
    · cases h
  · cases h
theorem mm_s_getf (hf : mm_fx p s m args meth c j D) {idx ci f : Nat} {fin : Bool} (hp : mm_fok (mm_own j) idx ci f fin) (hd : mm_dec (mm_bytes j) pc (.getfield idx)) (h : mm_getf (pc + 3) ci f L S M = some n) (k : mm_N p l e R s m args below meth c Q D A H0 w (mm_maxL j) cells slots ads n) : mm_G p l e R s m args below meth c Q D A H0 w (mm_maxL j) cells slots ads pc L S M := by
  intro H locs ls st hw hl hs
  obtain ⟨hx, hb, hml, hown, hts, hK, -⟩ := hf
  obtain ⟨C, T, N, p1, p2, p3, -, p5, -⟩ := hp
  obtain ⟨d1, d2, d3, d4, d5⟩ := mm_cl_ok p1
  unfold mm_getf at h
  split at h
  · obtain ⟨b2, t2, rfl, ⟨q, hq, rfl⟩, hs'⟩ := hs.inv
    clear hs
    have hs := hs'
    clear hs'
    split at h
    · rename_i kd fs hM
      split at h
      · rename_i hbq
        have hkd : kd = ci := Nat.eq_of_beq_eq_true hbq
        subst hkd
        split at h
        · rename_i v hv
          obtain ⟨cell, c1, c2, c3, c4⟩ := (hw.1.at hM hq).1 d1
          obtain ⟨rv, g1, g2⟩ := c4 f v hv
          obtain ⟨hS, hfc, kC, hkC, hkind⟩ := hK.1.1 kd _ p1
          obtain ⟨cf, kf, fi, fd, hi, hsl⟩ := hS f p2
          rw [p3] at hi
          exact W.getf hx hb hown (hts _ p5) hi (u_facts hfc hkC (by have := u_lays hts d2 p2; rw [p3] at this; exact this) hi).1 c1 (by rw [c3]; exact fun z => by cases z) (v := rv) (by rw [hsl]; exact g1) rfl rfl (hd.by 2 rfl) (mm_of_go h k H locs ls _ hw hl ⟨g2, hs⟩)
        · cases h
      · cases h
    · cases h
  · cases h
theorem mm_wd.obj {ads : List Nat} {M : MH} {H H1 : Heap} {locs : List Loc} {a q f ci N : Nat} {fs : List Value} {v rv : Value} {cell : Cell} (hw : mm_wd D A H0 w ads M H locs) (hM : M[a]? = some (ci, fs)) (hq : ads[a]? = some q) (ha : w ≤ a) (hci : ci < 50) (hc : H[q]? = some cell) (hv : mm_vr ads v rv) (hf : f < fs.length) (hN : fs.length = N)
    (hap : ∀ x y, x < N → y < N → x ≠ y → (D.2 ci) x ≠ (D.2 ci) y)
    (e1 : H1[q]? = some (cell.setSlot (D.2 ci f) rv)) (e2 : H1.size = H.size) (e3 : ∀ x, x ≠ q → H1[x]? = H[x]?) : mm_wd D A H0 w ads (mm_put M a f v) H1 (locs ++ [⟨q, D.2 ci f⟩]) := by
  obtain ⟨cell', c1, c2, c3, c4⟩ := (hw.1.at hM hq).1 hci
  cases hc.symm.trans c1
  have hp : mm_put M a f v = M.set a (ci, fs.set f v) := by unfold mm_put; rw [hM]
  rw [hp]
  refine ⟨hw.1.set hq ⟨fun _ => ⟨cell.setSlot (D.2 ci f) rv, e1, c2, c3, fun x w hx => ?_⟩, fun z => absurd hci (Nat.not_lt.mpr z)⟩ e3, hw.2.1.put e2 e3 (hw.2.2.1 a q ha hq), hw.2.2.1, hw.2.2.2⟩
  obtain ⟨rw0, g1, g2⟩ := c4 f _ (List.getElem?_eq_getElem hf)
  have hlt := k2_hasslot g1
  by_cases hxf : x = f
  · subst hxf
    rw [List.getElem?_set_self hf] at hx
    cases hx
    exact ⟨rv, by simp [Cell.setSlot, hlt], hv⟩
  · rw [List.getElem?_set_ne (Ne.symm hxf)] at hx
    obtain ⟨r2, g3, g4⟩ := c4 x w hx
    have hxl : x < fs.length := (List.getElem?_eq_some_iff.mp hx).1
    exact ⟨r2, by rw [slot_ne cell rv (hap f x (by omega) (by omega) (Ne.symm hxf))]; exact g3, g4⟩
theorem mm_s_putf (hf : mm_fx p s m args meth c j D) {idx ci f : Nat} {fin : Bool} (hp : mm_fok (mm_own j) idx ci f fin) (hfin : fin = true → mm_ctor j = true) (hd : mm_dec (mm_bytes j) pc (.putfield idx)) (h : mm_putf w (pc + 3) ci f (mm_fitty (mm_fty ci f)) L S M = some n) (k : mm_N p l e R s m args below meth c Q D A H0 w (mm_maxL j) cells slots ads n) : mm_G p l e R s m args below meth c Q D A H0 w (mm_maxL j) cells slots ads pc L S M := by
  intro H locs ls st hw hl hs
  obtain ⟨hx, hb, hml, hown, hts, hK, -, -, hin, -⟩ := hf
  obtain ⟨C, T, N, p1, p2, p3, p4, p5, p6⟩ := hp
  obtain ⟨d1, d2, d3, d4, d5⟩ := mm_cl_ok p1
  have hap := va_apart (own := C) hts d2 (mm_fty ci) d3 d4 hK.1 p1
  unfold mm_putf at h
  split at h
  · rename_i v a r
    obtain ⟨b0, t0, rfl, h0, hs'⟩ := hs.inv
    clear hs
    have hs := hs'
    clear hs'
    obtain ⟨b2, t2, rfl, ⟨q, hq, rfl⟩, hs'⟩ := hs.inv
    clear hs
    have hs := hs'
    clear hs'
    split at h
    · rename_i kd fs hM
      split at h
      · rename_i hbq
        simp only [Bool.and_eq_true] at hbq
        obtain ⟨⟨⟨⟨hb1, hb2⟩, hb3⟩, hb4⟩, hb5⟩ := hbq
        have hkd : kd = ci := Nat.eq_of_beq_eq_true hb1
        subst hkd
        have hlt : f < fs.length := Nat.le_of_ble_eq_true hb2
        have hlen : fs.length = N := (Nat.eq_of_beq_eq_true hb3).trans d5.1
        have ha : w ≤ a := Nat.le_of_ble_eq_true hb5
        obtain ⟨hn, hft⟩ := Bool.and_eq_true_iff.mp hb4
        obtain ⟨hn, hft⟩ := h0.fit (of_decide_eq_true hn) hft
        obtain ⟨cell, c1, c2, c3, c4⟩ := (hw.1.at hM hq).1 d1
        obtain ⟨rv0, g1, g2⟩ := c4 f _ (List.getElem?_eq_getElem hlt)
        obtain ⟨hS, hfc, kC, hkC, hkind⟩ := hK.1.1 kd _ p1
        obtain ⟨cf, kf, fi, fd, hi, hsl⟩ := hS f p2
        have hlay := hts _ (d2 _ (u_in_lay p2))
        have hfacts := u_facts hfc hkC (u_lays hts d2 p2) hi
        cases fin with
        | false =>
          unfold u_lay at hlay
          rw [if_neg (by rw [p4]; decide)] at hlay
          have h6 := u_store hfc hkC hkind hlay hi (d3 f p2) hn hft
          rw [p3] at hi
          refine W.putK hx hb (f := fd) ⟨hown, hts _ p5, ⟨_, _, _, hi⟩, hfacts.1⟩ (by rw [c2]; exact h6) c1 c3 (by rw [hsl]; exact k2_hasslot g1) rfl rfl (hd.by 2 rfl) fun H1 e1 e2 e3 => ?_
          rw [hsl] at e1 ⊢
          exact mm_of_go h k H1 _ ls _ (hw.obj hM hq ha d1 c1 h0 hlt hlen hap e1 e2 e3) hl hs
        | true =>
          unfold u_lay at hlay
          rw [if_pos p4] at hlay
          have hcf : m.cls = cf := by
            obtain ⟨_, _, c', _, _, _, -, -, hf', -, -, -, hown2, -⟩ := Cond.laysFinal_spec hlay
            have e1 : c' = cf := by have := hi.symm.trans hf'; simp at this; exact this.1.symm
            rw [p3, p6 rfl] at hown2
            rw [← e1]; exact Option.some.inj (hown.symm.trans hown2)
          have h6 := u_fits hfc hkC hkind (Or.inr hlay) hi (d3 f p2) hn hft
          rw [p3] at hi
          refine W.putFinK hx hb hown (hts _ p5) hi hfacts.1 hcf (hin (hfin rfl)) (by rw [c2]; exact h6) c1 c3 (by rw [hsl]; exact k2_hasslot g1) rfl rfl (hd.by 2 rfl) fun H1 e1 e2 e3 => ?_
          rw [hsl] at e1 ⊢
          exact mm_of_go h k H1 _ ls _ (hw.obj hM hq ha d1 c1 h0 hlt hlen hap e1 e2 e3) hl hs
      · cases h
    · cases h
  · cases h
/-- the cells with a new one -/
theorem mm_wd.push {ads : List Nat} {M : MH} {H H1 : Heap} {locs : List Loc} {x : MC} (hw : mm_wd D A H0 w ads M H locs) (hc : mm_cr D (ads ++ [H.size]) x H.size H1) (hz : H1.size = H.size + 1) (ho : ∀ q, q < H.size → H1[q]? = H[q]?) : mm_wd D A H0 w (ads ++ [H.size]) (M ++ [x]) H1 locs := by
  refine ⟨hw.1.push hc ho, ⟨Nat.le_trans hw.2.1.1 (by omega), fun q h1 h2 => (ho q (Nat.lt_of_lt_of_le h1 hw.2.1.1)).trans (hw.2.1.2.1 q h1 h2), hw.2.1.2.2⟩, fun k q hk hq => ?_, hw.2.2.2⟩
  rcases Nat.lt_or_ge k ads.length with hh | hh
  · rw [List.getElem?_append_left hh] at hq; exact hw.2.2.1 k q hk hq
  · rw [List.getElem?_append_right hh] at hq
    have h0 := (List.getElem?_eq_some_iff.mp hq).1
    have hz : k - ads.length = 0 := by simp at h0; omega
    rw [hz] at hq
    cases hq
    exact hw.2.2.2 _ hw.2.1.1
theorem mm_s_new (hf : mm_fx p s m args meth c j D) {idx ci N : Nat} (hp : mm_nok (mm_own j) idx ci N) (hd : mm_dec (mm_bytes j) pc (.new idx)) (hc1 : cells + 1 ≤ R.cells) (hs1 : slots + N ≤ R.slots) (h : mm_new (pc + 3) (ci, mm_def ci) N L S M = some n) (k : mm_N p l e R s m args below meth c Q D A H0 w (mm_maxL j) cells slots ads n) : mm_G p l e R s m args below meth c Q D A H0 w (mm_maxL j) cells slots ads pc L S M := by
  intro H locs ls st hw hl hs
  obtain ⟨hx, hb, hml, hown, hts, hK, -⟩ := hf
  obtain ⟨C, T, p1, p2, p3, p4⟩ := hp
  obtain ⟨d1, d2, d3, d4, d5⟩ := mm_cl_ok p1
  cases h
  have hKn := hK.1.1 ci _ p1
  refine W.newcK hx hb hown (hts _ p2) (hts _ p3) (hts _ p4) rfl (hd.by 2 rfl) hc1 hs1 hKn.2.1 rfl fun H1 kC hkC e1 z1 o1 => ?_
  obtain ⟨cell, c1, c2, c3, c4⟩ := u_born (mm_fty ci) hts d2 hKn hkC e1 d3
  refine k [H.size] H1 locs ls _ (hw.push ⟨fun _ => ⟨cell, c1, c2, c3, fun x v hx => ?_⟩, fun z => absurd d1 (Nat.not_lt.mpr z)⟩ z1 o1) hl.mono ⟨⟨H.size, by rw [← hw.1.1]; simp, rfl⟩, hs.mono fun _ _ => mm_vr.mono⟩
  have hxl : x < N := by rw [← d5.1]; exact (List.getElem?_eq_some_iff.mp hx).1
  have e5 := d5.2 x hxl
  rw [e5] at hx
  cases hx
  exact ⟨_, c4 x hxl, mm_vr_def _ _⟩
theorem mm_s_newa (hf : mm_fx p s m args meth c j D) {at0 : ArrayType} {ty : FieldType} {kd : Nat} {z : Value} (hty : newarray.typeOf at0 = ty) (hw0 : Cond.arrayClass ty ∈ mm_ws) (hkd : mm_arr[kd]? = some ty) (hz : defaultValue ty = z) (hzr : ∀ ads, mm_vr ads z z) (hby : componentBytes ty ≤ 8) (hprim : ∀ (C : String), ty ≠ .object C) (hd : mm_dec (mm_bytes j) pc (.newarray at0)) (hc1 : cells + n.2.2.2.2.1 ≤ R.cells) (hs1 : slots + n.2.2.2.2.2 ≤ R.slots) (h : mm_newa (pc + 2) (50 + kd) z L S M = some n) (k : mm_N p l e R s m args below meth c Q D A H0 w (mm_maxL j) cells slots ads n) : mm_G p l e R s m args below meth c Q D A H0 w (mm_maxL j) cells slots ads pc L S M := by
  intro H locs ls st hw hl hs
  obtain ⟨hx, hb, hml, hown, hts, hK, -⟩ := hf
  subst hty
  unfold mm_newa at h
  split at h
  · rename_i i r
    obtain ⟨b0, t0, rfl, h0, hs'⟩ := hs.inv
    clear hs
    have hs := hs'
    clear hs'
    cases h0
    split at h
    · rename_i hbq
      obtain ⟨hb1, hb2⟩ := Bool.and_eq_true_iff.mp hbq
      have hi0 : ¬ i < 0 := of_decide_eq_false (by simpa using hb1)
      have hlt : i.toNatClampNeg < 1000 := Nat.le_of_ble_eq_true hb2
      cases h
      refine va_newaK hx hb (hts _ hw0) rfl (hd.by 1 rfl) rfl hi0 rfl (Nat.le_trans (Nat.mul_le_mul (Nat.le_of_lt hlt) hby) (by decide)) hc1 hs1 rfl fun H1 cA e1 z1 o1 hAr hNm => ?_
      have hcA : cA = D.1 (50 + kd) := by
        have h9 := (hK.2.1 kd _ hkd).2
        have h8 : s.vm.findClass ("[" ++ (newarray.typeOf at0).toString) = some (D.1 (50 + kd)) := by
          cases at0 <;> exact h9
        exact Option.some.inj (hNm.symm.trans h8)
      refine k [H.size] H1 locs ls _ (hw.push ⟨fun z => absurd z (by omega), fun _ => ⟨_, List.replicate i.toNatClampNeg (defaultValue (newarray.typeOf at0)), e1, hcA, (fun z => by cases z), rfl, ?_, mm_fa.rep (by rw [hz]; exact hzr _) _⟩⟩ z1 o1) hl.mono ⟨⟨H.size, by rw [← hw.1.1]; simp, rfl⟩, hs.mono fun _ _ => mm_vr.mono⟩
      rw [← arrV_new]
      simp
    · cases h
  · cases h
theorem mm_s_anew (hf : mm_fx p s m args meth c j D) {idx kd : Nat} (hp : mm_aok (mm_own j) (100000 + idx) kd) (hd : mm_dec (mm_bytes j) pc (.anewarray idx)) (hc1 : cells + n.2.2.2.2.1 ≤ R.cells) (hs1 : slots + n.2.2.2.2.2 ≤ R.slots) (h : mm_newa (pc + 3) kd .null L S M = some n) (k : mm_N p l e R s m args below meth c Q D A H0 w (mm_maxL j) cells slots ads n) : mm_G p l e R s m args below meth c Q D A H0 w (mm_maxL j) cells slots ads pc L S M := by
  intro H locs ls st hw hl hs
  obtain ⟨hx, hb, hml, hown, hts, hK, -⟩ := hf
  obtain ⟨t, C, i0, rfl, hi0, p1, p2, p3⟩ := hp
  have hi0 : idx = i0 := by omega
  subst hi0
  unfold mm_newa at h
  split at h
  · rename_i i r
    obtain ⟨b0, t0, rfl, h0, hs'⟩ := hs.inv
    clear hs
    have hs := hs'
    clear hs'
    cases h0
    split at h
    · rename_i hbq
      obtain ⟨hb1, hb2⟩ := Bool.and_eq_true_iff.mp hbq
      have hi0 : ¬ i < 0 := of_decide_eq_false (by simpa using hb1)
      have hlt : i.toNatClampNeg < 1000 := Nat.le_of_ble_eq_true hb2
      cases h
      subst p3
      refine W.anew hx hb hown (hts _ p2) (va_AO.use hK.2.2.2.2.1) rfl (hd.by 2 rfl) rfl hi0 (by omega) hc1 hs1 fun cA kA comp q1 q2 q3 q4 => ?_
      have hcA : cA = D.1 (50 + t) := by
        obtain ⟨kA', comp', -, -, -, h8⟩ := (hK.2.1 t _ p1).2
        exact Option.some.inj (q1.symm.trans h8)
      have e1 : (H.push { cls := cA, slots := Array.replicate i.toNatClampNeg .null, vm := .none })[H.size]? = some { cls := cA, slots := Array.replicate i.toNatClampNeg .null, vm := .none } := by simp
      refine k [H.size] _ locs ls _ (hw.push ⟨fun z => absurd z (by omega), fun _ => ⟨_, List.replicate i.toNatClampNeg .null, e1, hcA, (fun z => by cases z), rfl, by simp, mm_fa.rep (R := mm_vr _) (show mm_vr _ .null .null from rfl) _⟩⟩ (by simp) (fun q hq => by rw [Array.getElem?_push, if_neg (Nat.ne_of_lt hq)])) hl.mono ⟨⟨H.size, by rw [← hw.1.1]; simp, rfl⟩, hs.mono fun _ _ => mm_vr.mono⟩
    · cases h
  · cases h
end MS2
