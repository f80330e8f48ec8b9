section MS5
variable {p : Program} {l : Launch} {e : Env} {R : Room} {s : State} {m : MethodId} {args : Array Value} {below : List Frame} {meth : Method} {c : Code} {Q : State → Prop} {D : va_G} {A : Nat → Prop} {H0 : Heap} {w d j pc cells slots : Nat} {ads : List Nat} {L : ML} {S : List Value} {M : MH} {n : MN}
theorem mm_s_aast (hf : mm_fx p s m args meth c j D) (hd : mm_dec (mm_bytes j) pc .aastore) (h : mm_step w d j .aastore pc L S M = some n) (k : mm_N p l e R s m args below meth c Q D A H0 w (mm_maxL j) cells slots ads n) : mm_G p l e R s m args below meth c Q D A H0 w (mm_maxL j) cells slots ads pc L S M := by
  intro H locs ls st hw hl hs
  obtain ⟨hx, hb, hml, hown, hts, hK, -⟩ := hf
  simp only [mm_step] at h
  split at h
  · rename_i v i a r
    split at h
    · rename_i k1 vs k2 ws hM hM2
      split at h
      · rename_i hbq0
        obtain ⟨hq1, hq2⟩ := Bool.and_eq_true_iff.mp hbq0
        have hk2 : mm_comp k1 = k2 := Nat.eq_of_beq_eq_true hq1
        have hlt2 : k2 < 50 := Nat.le_of_ble_eq_true hq2
        simp only [mm_ast, hM] at h
        obtain ⟨b0, t0, rfl, ⟨q0, hq0, rfl⟩, hs'⟩ := hs.inv
        clear hs
        have hs := hs'
        clear hs'
        obtain ⟨b1, t1, rfl, h1, hs'⟩ := hs.inv
        clear hs
        have hs := hs'
        clear hs'
        obtain ⟨b2, t2, rfl, ⟨q, hq, rfl⟩, hs'⟩ := hs.inv
        clear hs
        have hs := hs'
        clear hs'
        cases h1
        split at h
        · rename_i hbq
          simp only [Bool.and_eq_true] at hbq
          obtain ⟨⟨⟨⟨hb1, hb2⟩, hb3⟩, -⟩, hb5⟩ := hbq
          have hk1 : mm_akd k1 = 4 := Nat.eq_of_beq_eq_true hb1
          have hi0 : ¬ i < 0 := of_decide_eq_false (by simpa using hb2)
          have hlt : i.toNatClampNeg < vs.length := Nat.le_of_ble_eq_true hb3
          have ha : w ≤ a := Nat.le_of_ble_eq_true hb5
          have hge := mm_akd_ge (k := k1) (by rw [hk1]; decide)
          obtain ⟨t, C, T, N, rfl, w1, w2⟩ := mm_comp_ok hk1 hk2 hlt2
          obtain ⟨cell, rvs, c1, c2, c3, c4, c5, c6⟩ := (hw.1.at hM hq).2 hge
          obtain ⟨cv, v1, v2, v3, -⟩ := (hw.1.at hM2 hq0).1 hlt2
          have hlen : cell.slots.size = vs.length := by rw [c5]; simpa using c6.len.symm
          obtain ⟨-, kA, comp, r1, r2, r3, r4⟩ := hK.2.1 t _ w1
          obtain ⟨-, hfc, kC, hkC, hkd⟩ := hK.1.1 k2 _ w2
          have hcomp : comp = D.1 k2 := Option.some.inj (r3.symm.trans hfc)
          subst hcomp
          refine W.aast hx hb c1 (VmData.ne_statics_of c4) c3 (by rw [c2]; exact r1) r2 rfl hkC ⟨hi0, by rw [hlen]; exact hlt⟩ v1 (fun z hz => by rw [v3] at hz; cases hz) (by rw [v2]; exact hkC) (by rw [v2]; exact va_assign (C := C) ⟨hfc, kC, hkC, hkd⟩) rfl rfl (hd.by 0 rfl) (fun H1 e1 e2 e3 => mm_of_go h k H1 _ ls _ (hw.arr hM hq ha hge c1 ⟨q0, hq0, rfl⟩ e1 e2 e3) hl hs)
        · cases h
      · cases h
    · cases h
  · cases h
theorem mm_grid_hr {D : va_G} {ads : List Nat} {M : MH} {H F : Heap} {N K : Nat} {cA cI : ClassId} (h : mm_hr D ads M H) (hA : cA = D.1 54) (hI : cI = D.1 50)
    (hold : ∀ x, x < H.size → F[x]? = H[x]?) (hrow : ∀ j, j < N → F[H.size + 1 + j]? = some (Jvm.Free.Multi.innerC cI K (.int 0))) (hout : F[H.size]? = some (Jvm.Free.Multi.outerC cA N H.size N)) :
    mm_hr D (ads ++ (H.size :: (List.range N).map fun i => H.size + 1 + i)) (M ++ mm_grid 54 50 N K M.length) F := by
  have hget : ∀ i, i < N → ((List.range N).map fun i => H.size + 1 + i)[i]? = some (H.size + 1 + i) := fun i hi => by
    rw [List.getElem?_map, List.getElem?_range hi]; rfl
  have hread : ∀ (i q : Nat), (ads ++ (H.size :: (List.range N).map fun i => H.size + 1 + i))[i]? = some q → (i < ads.length ∧ ads[i]? = some q) ∨ (ads.length ≤ i ∧ q = H.size + (i - ads.length) ∧ i - ads.length ≤ N) := by
    intro i q hq
    rcases Nat.lt_or_ge i ads.length with hh | hh
    · rw [List.getElem?_append_left hh] at hq
      exact Or.inl ⟨hh, hq⟩
    · rw [List.getElem?_append_right hh] at hq
      cases hz : i - ads.length with
      | zero =>
        rw [hz] at hq
        cases hq
        exact Or.inr ⟨hh, rfl, by omega⟩
      | succ z =>
        rw [hz, List.getElem?_cons_succ] at hq
        have hlt := (List.getElem?_eq_some_iff.mp hq).1
        simp only [List.length_map, List.length_range] at hlt
        rw [hget z hlt] at hq
        cases hq
        exact Or.inr ⟨hh, by omega, by omega⟩
  refine ⟨by simp [h.1, mm_grid], fun i j q hi hj => ?_, fun k c hk => ?_⟩
  · rcases hread i q hi with ⟨a1, a2⟩ | ⟨a1, a2, a3⟩ <;> rcases hread j q hj with ⟨b1, b2⟩ | ⟨b1, b2, b3⟩
    · exact h.2.1 _ _ _ a2 b2
    · have := h.lt a2; omega
    · have := h.lt b2; omega
    · omega
  · rcases Nat.lt_or_ge k M.length with hh | hh
    · rw [List.getElem?_append_left hh] at hk
      obtain ⟨q, h1, h2⟩ := h.2.2 k c hk
      exact ⟨q, mm_get_app h1, (h2.kept (hold q (h.lt h1))).mono⟩
    · rw [List.getElem?_append_right hh] at hk
      have hl : ads.length ≤ k := by rw [h.1]; exact hh
      unfold mm_grid at hk
      cases hz : k - M.length with
      | zero =>
        rw [hz] at hk
        cases hk
        have hkl : k - ads.length = 0 := by rw [h.1]; exact hz
        refine ⟨H.size, by rw [List.getElem?_append_right hl, hkl]; rfl, ⟨fun z => absurd z (show ¬ (54 : Nat) < 50 by decide), fun _ => ⟨_, (List.range N).map (fun i => Value.ref (H.size + 1 + i)), hout, ?_, ?_, ?_, ?_, ?_⟩⟩⟩
        · exact ((Jvm.Free.Multi.outerC_facts cA N H.size N).1).trans hA
        · rw [(Jvm.Free.Multi.outerC_facts cA N H.size N).2.1]; exact fun z => by cases z
        · rw [(Jvm.Free.Multi.outerC_facts cA N H.size N).2.1]; rfl
        · apply Array.ext_getElem?
          intro i
          rcases Nat.lt_or_ge i N with hi | hi
          · rw [Jvm.Free.Multi.outerC_slot cA N H.size N i hi, if_pos hi]
            simp [hi]
          · rw [Array.getElem?_eq_none (by rw [(Jvm.Free.Multi.outerC_facts cA N H.size N).2.2]; exact hi)]
            simp [hi]
        · have gen : ∀ l : List Nat, (∀ x ∈ l, x < N) → mm_fa (mm_vr (ads ++ (H.size :: (List.range N).map fun i => H.size + 1 + i))) (l.map fun i => Value.ref (M.length + 1 + i)) (l.map fun i => Value.ref (H.size + 1 + i)) := by
            intro l
            induction l with
            | nil => intro _; trivial
            | cons x xs ih =>
              intro hx
              refine ⟨⟨H.size + 1 + x, ?_, rfl⟩, ih fun y hy => hx y (List.mem_cons_of_mem _ hy)⟩
              rw [List.getElem?_append_right (by rw [h.1]; omega)]
              have e0 : M.length + 1 + x - ads.length = x + 1 := by rw [h.1]; omega
              rw [e0, List.getElem?_cons_succ]
              exact hget x (hx x List.mem_cons_self)
          exact gen _ fun x hx => List.mem_range.mp hx
      | succ z =>
        rw [hz, List.getElem?_cons_succ] at hk
        have hlt := (List.getElem?_eq_some_iff.mp hk).1
        simp only [List.length_replicate] at hlt
        rw [List.getElem?_replicate, if_pos hlt] at hk
        cases hk
        refine ⟨H.size + 1 + z, ?_, ⟨fun y => absurd y (show ¬ (50 : Nat) < 50 by decide), fun _ => ⟨_, List.replicate K (.int 0), hrow z hlt, hI, (fun y => by cases y), rfl, by simp [Jvm.Free.Multi.innerC], mm_fa.rep (R := mm_vr _) (show mm_vr _ (.int 0) (.int 0) from rfl) _⟩⟩⟩
        rw [List.getElem?_append_right hl]
        have e0 : k - ads.length = z + 1 := by rw [h.1]; exact hz
        rw [e0, List.getElem?_cons_succ]
        exact hget z hlt
theorem mm_s_multi (hf : mm_fx p s m args meth c j D) {idx ok ik : Nat} (hp : mm_mok (mm_own j) idx ok ik) (hd : mm_dec (mm_bytes j) pc (.multianewarray idx 2)) (hc1 : cells + n.2.2.2.2.1 ≤ R.cells) (hs1 : slots + n.2.2.2.2.2 ≤ R.slots) (h : mm_multi (pc + 4) ok ik L S M = some n) (k : mm_N p l e R s m args below meth c Q D A H0 w (mm_maxL j) cells slots ads n) : mm_G p l e R s m args below meth c Q D A H0 w (mm_maxL j) cells slots ads pc L S M := by
  intro H locs ls st hw hl hs
  obtain ⟨hx, hb, hml, hown, hts, hK, -⟩ := hf
  obtain ⟨rfl, rfl, p1, p2⟩ := hp
  unfold mm_multi at h
  split at h
  · rename_i y z r
    obtain ⟨b0, t0, rfl, h0, hs'⟩ := hs.inv
    clear hs
    have hs := hs'
    clear hs'
    obtain ⟨b1, t1, rfl, h1, hs'⟩ := hs.inv
    clear hs
    have hs := hs'
    clear hs'
    cases h0; cases h1
    split at h
    · rename_i hbq
      simp only [Bool.and_eq_true] at hbq
      obtain ⟨⟨⟨b1, b2⟩, b3⟩, b4⟩ := hbq
      have q1 : ¬ z < 0 := of_decide_eq_false (by simpa using b1)
      have q2 : z.toNatClampNeg < 1000 := Nat.le_of_ble_eq_true b2
      have q3 : ¬ y < 0 := of_decide_eq_false (by simpa using b3)
      have q4 : y.toNatClampNeg < 1000 := Nat.le_of_ble_eq_true b4
      cases h
      intro T hT X
      have hbytes : y.toNatClampNeg * componentBytes .int ≤ 536870912 := by show y.toNatClampNeg * 4 ≤ _; omega
      obtain ⟨vm₁, cA, comp, -, fA, fC, hO, -, X', step⟩ := X.multianewarray2F hx hown (hts _ p1) hK.2.2.2.2.2.1 (hts _ p2) (g := F0 m pc ls (.int y :: .int z :: t1)) rfl (by rw [hb]; exact hd.by 3 rfl) rfl q1 q3 (by omega) hbytes (by omega) rfl rfl hc1 hs1
      have hcA : cA = D.1 54 := Option.some.inj (fA.symm.trans (hK.2.1 4 _ rfl).2)
      have hcI : comp = D.1 50 := Option.some.inj (fC.symm.trans (hK.2.1 0 _ rfl).2)
      generalize hF : Jvm.Free.Multi.fill (T.setVm vm₁) cA comp z.toNatClampNeg y.toNatClampNeg (defaultValue .int) z.toNatClampNeg = F at X' step
      have hTh : (T.setVm vm₁).heap = H := hT
      obtain ⟨f1, f2, -, -⟩ := Jvm.Free.Multi.fill_facts (T.setVm vm₁) cA comp z.toNatClampNeg y.toNatClampNeg (defaultValue .int) z.toNatClampNeg
      rw [hF, hTh] at f1 f2
      have hold : ∀ x : Nat, x < H.size → F.heap[x]? = H[x]? := fun x hx => by
        have := Jvm.Free.Multi.fill_old (T.setVm vm₁) cA comp z.toNatClampNeg y.toNatClampNeg (defaultValue .int) (a := x) (by rw [hTh]; exact hx) z.toNatClampNeg
        rw [hF, hTh] at this
        exact this
      have hrow : ∀ i : Nat, i < z.toNatClampNeg → F.heap[H.size + 1 + i]? = some (Jvm.Free.Multi.innerC comp y.toNatClampNeg (.int 0)) := fun i hi => by
        have := Jvm.Free.Multi.fill_inner (T.setVm vm₁) cA comp z.toNatClampNeg y.toNatClampNeg (defaultValue .int) z.toNatClampNeg i hi
        rw [hF, hTh] at this
        exact this
      have hhr := mm_grid_hr (N := z.toNatClampNeg) (K := y.toNatClampNeg) hw.1 hcA hcI hold hrow f2
      have hwd : mm_wd D A H0 w (ads ++ (H.size :: (List.range z.toNatClampNeg).map fun i => H.size + 1 + i)) (M ++ mm_grid 54 50 z.toNatClampNeg y.toNatClampNeg M.length) F.heap locs := by
        refine ⟨hhr, ⟨by rw [f1]; have := hw.2.1.1; omega, fun q h1 h2 => (hold q (Nat.lt_of_lt_of_le h1 hw.2.1.1)).trans (hw.2.1.2.1 q h1 h2), hw.2.1.2.2⟩, fun k0 q hk hq => ?_, hw.2.2.2⟩
        rcases Nat.lt_or_ge k0 ads.length with hh | hh
        · rw [List.getElem?_append_left hh] at hq; exact hw.2.2.1 k0 q hk hq
        · rw [List.getElem?_append_right hh] at hq
          have hmem := List.mem_of_getElem? hq
          refine hw.2.2.2 q (Nat.le_trans hw.2.1.1 ?_)
          rcases List.mem_cons.mp hmem with rfl | hmem
          · exact Nat.le_refl _
          · obtain ⟨i, -, rfl⟩ := List.mem_map.mp hmem
            omega
      have kk := k (H.size :: (List.range z.toNatClampNeg).map fun i => H.size + 1 + i) F.heap locs ls (.ref H.size :: t1) hwd hl.mono ⟨⟨H.size, by rw [← hw.1.1]; simp, rfl⟩, hs.mono fun _ _ => mm_vr.mono⟩ F rfl
      have e1 : cells + (1 + z.toNatClampNeg) = cells + 1 + z.toNatClampNeg := by omega
      have e2 : slots + (z.toNatClampNeg + z.toNatClampNeg * y.toNatClampNeg) = slots + z.toNatClampNeg + z.toNatClampNeg * y.toNatClampNeg := by omega
      rw [show cells + (pc + 4, L, Value.ref M.length :: r, M ++ mm_grid 54 50 z.toNatClampNeg y.toNatClampNeg M.length, 1 + z.toNatClampNeg, z.toNatClampNeg + z.toNatClampNeg * y.toNatClampNeg).2.2.2.2.1 = cells + 1 + z.toNatClampNeg from e1, show slots + (pc + 4, L, Value.ref M.length :: r, M ++ mm_grid 54 50 z.toNatClampNeg y.toNatClampNeg M.length, 1 + z.toNatClampNeg, z.toNatClampNeg + z.toNatClampNeg * y.toNatClampNeg).2.2.2.2.2 = slots + z.toNatClampNeg + z.toNatClampNeg * y.toNatClampNeg from e2] at kk
      obtain ⟨t, a1, b1⟩ := kk X'
      refine ⟨t, step t ?_, b1⟩
      have e : T.heap.size = H.size := by rw [hT]
      rw [e]
      exact a1
    · cases h
  · cases h
end MS5
