section MS5
variable {p : Program} {l : Launch} {e : Env} {R : Room} {s : State} {m : MethodId} {args : Array Value} {below : List Frame} {meth : Method} {c : Code} {Q : State → Prop} {D : va_G} {A : Nat → Prop} {H0 : Heap} {w d j pc cells slots : Nat} {ads : List Nat} {L : ML} {S : List Value} {M : MH} {n : MN}
theorem mm_s_aast (hf : mm_fx p s m args meth c j D) (hd : mm_dec (mm_bytes j) pc .aastore) (h : mm_step w d j .aastore pc L S M = some n) (k : mm_N p l e R s m args below meth c Q D A H0 w (mm_maxL j) cells slots ads n) : mm_G p l e R s m args below meth c Q D A H0 w (mm_maxL j) cells slots ads pc L S M := by
  intro H locs ls st hw hl hs
  obtain ⟨hx, hb, hml, hown, hts, hK, -⟩ := hf
  simp only [mm_step] at h
  split at h
  · rename_i v i a r
    split at h
    · rename_i k1 vs k2 ws hM hM2
      split at h
      · rename_i hq0
        obtain ⟨hq1, hq2⟩ := Bool.and_eq_true_iff.mp hq0
        have hk2 : mm_comp k1 = k2 := Nat.eq_of_beq_eq_true hq1
        have hlt2 : k2 < 50 := Nat.le_of_ble_eq_true hq2
        simp only [mm_ast, hM] at h
        obtain ⟨b0, t0, rfl, ⟨q0, hq0, rfl⟩, hs'⟩ := hs.inv
        clear hs
        have hs := hs'
        clear hs'
        obtain ⟨b1, t1, rfl, h1, hs'⟩ := hs.inv
        clear hs
        have hs := hs'
        clear hs'
        obtain ⟨b2, t2, rfl, ⟨q, hq, rfl⟩, hs'⟩ := hs.inv
        clear hs
        have hs := hs'
        clear hs'
        cases h1
        split at h
        · rename_i hbq
          simp only [Bool.and_eq_true] at hbq
          obtain ⟨⟨⟨⟨hb1, hb2⟩, hb3⟩, -⟩, hb5⟩ := hbq
          have hk1 : mm_akd k1 = 4 := Nat.eq_of_beq_eq_true hb1
          have hi0 : ¬ i < 0 := of_decide_eq_false (by simpa using hb2)
          have hlt : i.toNatClampNeg < vs.length := Nat.le_of_ble_eq_true hb3
          have ha : w ≤ a := Nat.le_of_ble_eq_true hb5
          have hge := mm_akd_ge (k := k1) (by rw [hk1]; decide)
          obtain ⟨t, C, T, N, rfl, w1, w2⟩ := mm_comp_ok hk1 hk2 hlt2
          obtain ⟨cell, rvs, c1, c2, c3, c4, c5, c6⟩ := (hw.1.at hM hq).2 hge
          obtain ⟨cv, v1, v2, v3, -⟩ := (hw.1.at hM2 hq0).1 hlt2
          have hlen : cell.slots.size = vs.length := by rw [c5]; simpa using c6.len.symm
          obtain ⟨-, kA, comp, r1, r2, r3, r4⟩ := hK.2.1 t _ w1
          obtain ⟨-, hfc, kC, hkC, hkd⟩ := hK.1.1 k2 _ w2
          have hcomp : comp = D.1 k2 := Option.some.inj (r3.symm.trans hfc)
          subst hcomp
          refine W.aast hx hb c1 (VmData.ne_statics_of c4) c3 (by rw [c2]; exact r1) r2 rfl hkC ⟨hi0, by rw [hlen]; exact hlt⟩ v1 (fun z hz => by rw [v3] at hz; cases hz) (by rw [v2]; exact hkC) (by rw [v2]; exact va_assign (C := C) ⟨hfc, kC, hkC, hkd⟩) rfl rfl (hd.by 0 rfl) (fun H1 e1 e2 e3 => mm_of_go h k H1 _ ls _ (hw.arr hM hq ha hge c1 ⟨q0, hq0, rfl⟩ e1 e2 e3) hl hs)
        · cases h
      · cases h
    · cases h
  · cases h
theorem mm_s_multi (hf : mm_fx p s m args meth c j D) {idx ok ik : Nat} (hp : mm_mok (mm_own j) idx ok ik) (hd : mm_dec (mm_bytes j) pc (.multianewarray idx 2)) (hc1 : cells + n.2.2.2.2.1 ≤ R.cells) (hs1 : slots + n.2.2.2.2.2 ≤ R.slots) (h : mm_multi (pc + 4) ok ik L S M = some n) (k : mm_N p l e R s m args below meth c Q D A H0 w (mm_maxL j) cells slots ads n) : mm_G p l e R s m args below meth c Q D A H0 w (mm_maxL j) cells slots ads pc L S M := by
  sorry
end MS5
