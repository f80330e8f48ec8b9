/-! taste. -/
section TA
variable {X : List Value} {d : Nat} {x4 z0 z1 z2 z3 : Int} {A : MF}
theorem Inv.dr (hI : Inv A) {p : Int} (hp : 0 ≤ p) (hp2 : p < 6) : DR (A (45 + p.toNat)) := fun k h1 h2 => by
  have := hI.2.2.2.2.1 p k hp hp2 h1 h2
  omega
theorem rd19 (hI : Inv A) (hs : mm_sc X x4 z0 z1 z2 z3) (h0 : mm_and z0 31 = 19) : mm_rd X d x4 A := by
  obtain ⟨g3, g4, g5, r0, r1, r2, r3⟩ := hs.2.2.2.2.2
  have hS := hI.1
  unfold Is at hS
  by_cases c1 : z1 < 0
  · exact thr19 (k := 1) hI hs h0 (by omega) (p151_0_0 (by omega)) (p133_0_0 (by omega))
  by_cases c2 : A 77 1 ≤ z1
  · exact thr19 (k := 1) hI hs h0 (by omega) (p151_0_1 (by omega)) (p133_0_8 (by omega))
  by_cases c3 : z2 < 0
  · exact thr19 (k := 1) hI hs h0 (by omega) (p151_0_2 (by omega)) (p133_0_1 (by omega))
  by_cases c4 : A 77 1 ≤ z2
  · exact thr19 (k := 1) hI hs h0 (by omega) (p151_0_3 (by omega)) (p133_0_7 (by omega))
  by_cases c5 : z3 < 0
  · exact thr19 (k := 1) hI hs h0 (by omega) (p151_0_4 (by omega)) (p133_0_2 (by omega))
  by_cases c6 : 1 < z3
  · exact thr19 (k := 1) hI hs h0 (by omega) (p151_0_5 (by omega)) (p133_0_6 (by omega))
  by_cases c7 : A 77 17 = 0
  · exact thr19 (k := 2) hI hs h0 (by omega) (p151_0_6 (by omega)) (p133_0_5 (by omega))
  obtain ⟨e1, e2, e3, e4, i1⟩ := hI.2.2.2.2.2.2 (by omega) z2 (by omega) (by omega)
  obtain ⟨v1, v2, v3, v4, v5, v6, v7, v8, v9⟩ := i1
  have hdr := hI.dr (p := z1) (by omega) (by omega)
  have hlen : ((A 43 1).toNat : Int) = A 43 1 := by omega
  have k43 := c43 (X := X) (d := d + 33) (A := A) (dn := A (45 + z1.toNat)) (len := (A 43 1).toNat) (p := z1) (lr59 (e := z2) (by omega) (by omega)) (lr60 (e := z2) (by omega) (by omega)) ly58 hdr (by omega) (by omega) (by omega) hlen.symm (fun _ _ _ => rfl) e1 e2 e3 e4 v1 v2 v3 v4 v5 v6 v7 v8
  have hg : ∃ x y : Int, x = ft (wS (A (45 + z1.toNat)) (A 43 1).toNat (A 89 z2) (A 90 z2) (A 91 z2) (A 92 z2)) (A 90 z2 * A 92 z2) ∧ y = fb (wS (A (45 + z1.toNat)) (A 43 1).toNat (A 89 z2) (A 90 z2) (A 91 z2) (A 92 z2)) (A 90 z2 * A 92 z2) := ⟨_, _, rfl, rfl⟩
  obtain ⟨x, y, hx, hy⟩ := hg
  have bq0 : 0 < A 90 z2 * A 92 z2 := Int.mul_pos v1 v3
  have hbq : A 90 z2 * A 92 z2 ≤ 2000000 * 2000000 := Int.mul_le_mul v2 v4 (by omega) (by omega)
  have bS : 0 ≤ wS (A (45 + z1.toNat)) (A 43 1).toNat (A 89 z2) (A 90 z2) (A 91 z2) (A 92 z2) ∧ wS (A (45 + z1.toNat)) (A 43 1).toNat (A 89 z2) (A 90 z2) (A 91 z2) (A 92 z2) ≤ 12 * (A 90 z2 * A 92 z2) * ((A 43 1).toNat : Int) := wsm_bd (F := A 89 z2 * A 92 z2) (T := A 91 z2 * A 90 z2) (U := A 90 z2 * A 92 z2) (k := (A 43 1).toNat) hdr (by omega) (by omega)
  generalize hSd : wS (A (45 + z1.toNat)) (A 43 1).toNat (A 89 z2) (A 90 z2) (A 91 z2) (A 92 z2) = S at hx hy bS k43
  have bS2 : 12 * (A 90 z2 * A 92 z2) * ((A 43 1).toNat : Int) ≤ 12 * (A 90 z2 * A 92 z2) * 16 := Int.mul_le_mul_of_nonneg_left (by omega) (by omega)
  have bx := ft_abs (a := S) (b := A 90 z2 * A 92 z2)
  have by' := fb_abs (a := S) (b := A 90 z2 * A 92 z2)
  rw [← hx] at bx
  rw [← hy] at by'
  rw [← hx, ← hy] at k43
  have k34 := p34_0_0 (x2 := z2) k43 (by omega)
  have fin : ∀ z : Int, ∃ C : MF, C = mm_u (mm_u (mm_u (mm_u A 58 0 x) 58 1 y) 96 0 z) 77 0 0 ∧ ∃ M : MF, mm_E 1 (d + 38) 104 0 [(0, .ref 77), (1, mI z1), (2, mJ (A 89 z2)), (4, mJ (A 90 z2)), (6, mJ (A 91 z2)), (8, mJ (A 92 z2))] [] (mm_w X C) (.inl none, mm_w X M, 0, 0) ∧ M 77 24 = x ∧ M 77 25 = y ∧ (∀ b k, ¬ mm_scr b k → M b k = A b k) ∧ M 77 0 = 0 ∧ M 96 0 = z := fun z => by
    refine ⟨_, rfl, ?_⟩
    obtain ⟨M, t1, t2, t3, t4⟩ := c104 (X := X) (d := d + 35) (A := mm_u (mm_u (mm_u (mm_u A 58 0 x) 58 1 y) 96 0 z) 77 0 0) (dn := A (45 + z1.toNat)) (len := (A 43 1).toNat) (p := z1) hdr (by omega) (by omega) (by omega) v1 v2 v3 v4 v5 v6 v7 v8 (fun _ _ _ _ => v9) (by rw [mm_u2_ne (by omega) (by omega), mm_u2_ne (by omega) (by omega)]; omega) (fun k q1 q2 => by
      rw [mm_u2_ne (by omega) (by omega), mm_u2_ne (by omega) (by omega)]
      exact (hI.2.2.2.2.1 z1 k (by omega) (by omega) q1 q2).1.symm)
    refine ⟨M, t1, by rw [t2, hSd, hx], by rw [t3, hSd, hy], fun b k hb => ?_, by rw [t4 77 0 (by omega), mm_u_same], by rw [t4 96 0 (by omega), mm_u_ne (by omega), mm_u_same]⟩
    unfold mm_scr at hb
    rw [t4 b k (by omega), mm_u2_ne (by omega) (by omega), mm_u2_ne (by omega) (by omega)]
  by_cases c8 : z3 = 0
  · obtain ⟨C, hC, M, t1, t2, t3, t4, t5, t6⟩ := fin x
    rw [hC] at t1
    have q1 := p151_0_7 (p20_0_7 (d := d + 36) (x1 := z1) (x2 := z2) (x3 := z3) k34 (by omega))
    rw [mm_u_ne (by omega), mm_u_same] at q1
    have n89 : ∀ c, 89 ≤ c → c ≤ 92 → mm_u (mm_u (mm_u A 58 0 x) 58 1 y) 96 0 x c z2 = A c z2 := fun c h1 h2 => by rw [mm_u2_ne (by omega) (by omega), mm_u_ne (by omega)]
    have n77 : ∀ k, mm_u (mm_u (mm_u A 58 0 x) 58 1 y) 96 0 x 77 k = A 77 k := fun k => by rw [mm_u2_ne (by omega) (by omega), mm_u_ne (by omega)]
    have q2 := p133_0_4 (d := d + 38) (X := X) (A := mm_u (mm_u (mm_u A 58 0 x) 58 1 y) 96 0 x) (x1 := z1) (x2 := z2) (x3 := z3) (by rw [n89 89 (by omega) (by omega), n89 90 (by omega) (by omega), n89 91 (by omega) (by omega), n89 92 (by omega) (by omega)]; exact t1) (by rw [n77, n77]; omega)
    rw [t2] at q2
    exact ok19 (hI.eqs fun b k hb => t4 b k hb) hs h0 q1 q2 t5 t6 (by omega)
  · obtain ⟨C, hC, M, t1, t2, t3, t4, t5, t6⟩ := fin y
    rw [hC] at t1
    have q1 := p151_0_7 (p20_0_6 (d := d + 36) (x1 := z1) (x2 := z2) (x3 := z3) k34 (by omega))
    rw [mm_u_same] at q1
    have n89 : ∀ c, 89 ≤ c → c ≤ 92 → mm_u (mm_u (mm_u A 58 0 x) 58 1 y) 96 0 y c z2 = A c z2 := fun c h1 h2 => by rw [mm_u2_ne (by omega) (by omega), mm_u_ne (by omega)]
    have n77 : ∀ k, mm_u (mm_u (mm_u A 58 0 x) 58 1 y) 96 0 y 77 k = A 77 k := fun k => by rw [mm_u2_ne (by omega) (by omega), mm_u_ne (by omega)]
    have q2 := p133_0_3 (d := d + 38) (X := X) (A := mm_u (mm_u (mm_u A 58 0 x) 58 1 y) 96 0 y) (x1 := z1) (x2 := z2) (x3 := z3) (by rw [n89 89 (by omega) (by omega), n89 90 (by omega) (by omega), n89 91 (by omega) (by omega), n89 92 (by omega) (by omega)]; exact t1) (by rw [n77, n77]; omega)
    rw [t3] at q2
    exact ok19 (hI.eqs fun b k hb => t4 b k hb) hs h0 q1 q2 t5 t6 (by omega)
end TA
