/-! The rounds without a loop: value, give, holder, room, total, rent, cake, density, piece. -/
def Eqs (A B : MF) : Prop := ∀ b k, ¬ mm_scr b k → A b k = B b k
theorem Eqs.rf {A : MF} : Eqs A A := fun _ _ _ => rfl
theorem Eqs.sk {A B : MF} {a : Nat} {i z : Int} (h : Eqs A B) (hs : mm_scr a i) : Eqs (mm_u A a i z) B := fun b k hb => by
  rw [mm_u_ne (by
    by_cases e : b = a ∧ k = i
    · obtain ⟨rfl, rfl⟩ := e
      exact absurd hs hb
    · omega)]
  exact h b k hb
theorem Eqs.bo {A B : MF} {a : Nat} {i z : Int} (h : Eqs A B) : Eqs (mm_u A a i z) (mm_u B a i z) := fun b k hb => by
  unfold mm_u
  rw [h b k hb]
theorem Eqs.out {A B : MF} {z : Int} (h : Eqs A B) : Eqs (mm_u A 96 0 z) B := h.sk (by unfold mm_scr; omega)
theorem Eqs.thr {A B : MF} {z : Int} (h : Eqs A B) : Eqs (mm_u A 77 0 z) B := h.sk (by unfold mm_scr; omega)
theorem Inv.eqs {A B : MF} (h : Eqs B A) (q : Inv A) : Inv B := q.scr h
theorem mm_u2_ne {A : MF} {a b c : Nat} {i j k y z : Int} (h1 : c ≠ a ∨ k ≠ i) (h2 : c ≠ b ∨ k ≠ j) : mm_u (mm_u A a i y) b j z c k = A c k := by rw [mm_u_ne h2, mm_u_ne h1]
theorem Inv_value {A : MF} {p i v : Int} (hI : Inv A) (h1 : 0 ≤ p) (h2 : p < 6) (h3 : 0 ≤ i) (h4 : i < 12) (h5 : 0 ≤ v) (h6 : v ≤ 1000) : Inv (mm_u (mm_u A (4 + p.toNat) i v) 78 (12 * p + i) v) := by
  refine ⟨hI.1.eqv fun a k h => mm_u2_ne (.inl (by omega)) (.inl (by omega)), fun p' i' g1 g2 g3 g4 => ?_, hI.2.2.1.eqv fun a k h => mm_u2_ne (.inl (by omega)) (.inl (by omega)), hI.2.2.2.1.eqv fun a k h => mm_u2_ne (.inl (by omega)) (.inl (by omega)), hI.2.2.2.2.1.eqv fun a k h => mm_u2_ne (.inl (by omega)) (.inl (by omega)), hI.2.2.2.2.2.1.eqv hI.n fun a k h => mm_u2_ne (.inl (by omega)) (.inl (by omega)), hI.2.2.2.2.2.2.eqv hI.n fun a k h => mm_u2_ne (.inl (by omega)) (.inl (by omega))⟩
  by_cases e : p' = p ∧ i' = i
  · obtain ⟨rfl, rfl⟩ := e
    rw [mm_u_ne (.inl (by omega)), mm_u_same, mm_u_same]
    omega
  · rw [mm_u2_ne (by omega) (by omega), mm_u2_ne (by omega) (by omega)]
    exact hI.2.1 p' i' g1 g2 g3 g4
theorem Inv_room {A : MF} {p i v : Int} (hI : Inv A) (h1 : 0 ≤ p) (h2 : p < 6) (h3 : 0 ≤ i) (h4 : i < 6) (h5 : 0 ≤ v) (h6 : v ≤ 100000) : Inv (mm_u (mm_u A (27 + p.toNat) i v) 82 (6 * p + i) v) := by
  refine ⟨hI.1.eqv fun a k h => mm_u2_ne (.inl (by omega)) (.inl (by omega)), hI.2.1.eqv fun a k h => mm_u2_ne (.inl (by omega)) (.inl (by omega)), hI.2.2.1.eqv fun a k h => mm_u2_ne (.inl (by omega)) (.inl (by omega)), fun p' i' g1 g2 g3 g4 => ?_, hI.2.2.2.2.1.eqv fun a k h => mm_u2_ne (.inl (by omega)) (.inl (by omega)), hI.2.2.2.2.2.1.eqv hI.n fun a k h => mm_u2_ne (.inl (by omega)) (.inl (by omega)), hI.2.2.2.2.2.2.eqv hI.n fun a k h => mm_u2_ne (.inl (by omega)) (.inl (by omega))⟩
  by_cases e : p' = p ∧ i' = i
  · obtain ⟨rfl, rfl⟩ := e
    rw [mm_u_ne (.inl (by omega)), mm_u_same, mm_u_same]
    omega
  · rw [mm_u2_ne (by omega) (by omega), mm_u2_ne (by omega) (by omega)]
    exact hI.2.2.2.1 p' i' g1 g2 g3 g4
theorem Inv_density {A : MF} {p i v : Int} (hI : Inv A) (h1 : 0 ≤ p) (h2 : p < 6) (h3 : 0 ≤ i) (h4 : i < 16) (h5 : 0 ≤ v) (h6 : v ≤ 12) : Inv (mm_u (mm_u A (45 + p.toNat) i v) 88 (16 * p + i) v) := by
  refine ⟨hI.1.eqv fun a k h => mm_u2_ne (.inl (by omega)) (.inl (by omega)), hI.2.1.eqv fun a k h => mm_u2_ne (.inl (by omega)) (.inl (by omega)), hI.2.2.1.eqv fun a k h => mm_u2_ne (.inl (by omega)) (.inl (by omega)), hI.2.2.2.1.eqv fun a k h => mm_u2_ne (.inl (by omega)) (.inl (by omega)), fun p' i' g1 g2 g3 g4 => ?_, hI.2.2.2.2.2.1.eqv hI.n fun a k h => mm_u2_ne (.inl (by omega)) (.inl (by omega)), hI.2.2.2.2.2.2.eqv hI.n fun a k h => mm_u2_ne (.inl (by omega)) (.inl (by omega))⟩
  by_cases e : p' = p ∧ i' = i
  · obtain ⟨rfl, rfl⟩ := e
    rw [mm_u_ne (.inl (by omega)), mm_u_same, mm_u_same]
    omega
  · rw [mm_u2_ne (by omega) (by omega), mm_u2_ne (by omega) (by omega)]
    exact hI.2.2.2.2.1 p' i' g1 g2 g3 g4
theorem Inv_give {A : MF} {i v : Int} (hI : Inv A) (h3 : 0 ≤ i) (h4 : i < 12) (h5 : -1 ≤ v) (h6 : v < A 77 1) : Inv (mm_u (mm_u A 10 i v) 79 i v) := by
  refine ⟨hI.1.eqv fun a k h => mm_u2_ne (.inl (by omega)) (.inl (by omega)), hI.2.1.eqv fun a k h => mm_u2_ne (.inl (by omega)) (.inl (by omega)), fun i' g3 g4 => ?_, hI.2.2.2.1.eqv fun a k h => mm_u2_ne (.inl (by omega)) (.inl (by omega)), hI.2.2.2.2.1.eqv fun a k h => mm_u2_ne (.inl (by omega)) (.inl (by omega)), hI.2.2.2.2.2.1.eqv hI.n fun a k h => mm_u2_ne (.inl (by omega)) (.inl (by omega)), hI.2.2.2.2.2.2.eqv hI.n fun a k h => mm_u2_ne (.inl (by omega)) (.inl (by omega))⟩
  rw [show mm_u (mm_u A 10 i v) 79 i v 77 1 = A 77 1 from mm_u2_ne (.inl (by omega)) (.inl (by omega))]
  by_cases e : i' = i
  · subst e
    rw [mm_u_ne (.inl (by omega)), mm_u_same, mm_u_same]
    omega
  · rw [mm_u2_ne (by omega) (by omega), mm_u2_ne (by omega) (by omega)]
    exact hI.2.2.1 i' g3 g4
section SI
variable {X : List Value} {d : Nat} {x4 z0 z1 z2 z3 : Int} {A : MF}
theorem rd2 (hI : Inv A) (hs : mm_sc X x4 z0 z1 z2 z3) (h0 : mm_and z0 31 = 2) : mm_rd X d x4 A := by
  obtain ⟨g3, g4, g5, r0, r1, r2, r3⟩ := hs.2.2.2.2.2
  have hS := hI.1
  unfold Is at hS
  by_cases c1 : z3 < 0
  · exact thr2 (k := 1) hI hs h0 (by omega) (p136_0_0 (by omega)) (p116_0_0 (by omega))
  by_cases c2 : 1000 < z3
  · exact thr2 (k := 1) hI hs h0 (by omega) (p136_0_1 (by omega)) (p116_0_6 (by omega))
  by_cases c3 : z1 < 0
  · exact thr2 (k := 2) hI hs h0 (by omega) (p136_0_2 (by omega)) (p116_0_1 (by omega))
  by_cases c4 : A 77 1 ≤ z1
  · exact thr2 (k := 2) hI hs h0 (by omega) (p136_0_3 (by omega)) (p116_0_5 (by omega))
  by_cases c5 : z2 < 0
  · exact thr2 (k := 2) hI hs h0 (by omega) (p136_0_4 (by omega)) (p116_0_2 (by omega))
  by_cases c6 : A 77 2 ≤ z2
  · exact thr2 (k := 2) hI hs h0 (by omega) (p136_0_5 (by omega)) (p116_0_4 (by omega))
  obtain ⟨e1, e2, e3⟩ := hI.2.1 z1 z2 (by omega) (by omega) (by omega) (by omega)
  have k1 : mm_u (mm_u A (4 + z1.toNat) z2 z3) 96 0 (A (4 + z1.toNat) z2) 77 1 = A 77 1 := mm_u2_ne (.inl (by omega)) (.inl (by omega))
  have k2 : mm_u (mm_u A (4 + z1.toNat) z2 z3) 96 0 (A (4 + z1.toNat) z2) 77 2 = A 77 2 := mm_u2_ne (.inl (by omega)) (.inl (by omega))
  have k3 : mm_u (mm_u A (4 + z1.toNat) z2 z3) 96 0 (A (4 + z1.toNat) z2) 78 (12 * z1 + z2) = A 78 (12 * z1 + z2) := mm_u2_ne (.inl (by omega)) (.inl (by omega))
  refine ok2 ?_ hs h0 (p136_0_6 (p3_0_6 (by omega)) (by omega)) (p116_0_3 (by omega)) ?_ ?_ ?_
  · exact (Inv_value hI (by omega) (by omega) (by omega) (by omega) (by omega) (by omega)).eqs (.bo (.thr (.out .rf)))
  · rw [mm_u_ne (.inl (by omega)), mm_u_same]
  · rw [k3, mm_u2_ne (.inl (by omega)) (.inl (by omega)), mm_u_same, e1]
  · rw [k3]; omega
theorem rd11 (hI : Inv A) (hs : mm_sc X x4 z0 z1 z2 z3) (h0 : mm_and z0 31 = 11) : mm_rd X d x4 A := by
  obtain ⟨g3, g4, g5, r0, r1, r2, r3⟩ := hs.2.2.2.2.2
  have hS := hI.1
  unfold Is at hS
  by_cases c1 : z3 < 0
  · exact thr11 (k := 1) hI hs h0 (by omega) (p144_0_0 (by omega)) (p125_0_0 (by omega))
  by_cases c2 : 100000 < z3
  · exact thr11 (k := 1) hI hs h0 (by omega) (p144_0_1 (by omega)) (p125_0_6 (by omega))
  by_cases c3 : z1 < 0
  · exact thr11 (k := 2) hI hs h0 (by omega) (p144_0_2 (by omega)) (p125_0_1 (by omega))
  by_cases c4 : A 77 1 ≤ z1
  · exact thr11 (k := 2) hI hs h0 (by omega) (p144_0_3 (by omega)) (p125_0_5 (by omega))
  by_cases c5 : z2 < 0
  · exact thr11 (k := 2) hI hs h0 (by omega) (p144_0_4 (by omega)) (p125_0_2 (by omega))
  by_cases c6 : A 77 1 ≤ z2
  · exact thr11 (k := 2) hI hs h0 (by omega) (p144_0_5 (by omega)) (p125_0_4 (by omega))
  obtain ⟨e1, e2, e3⟩ := hI.2.2.2.1 z1 z2 (by omega) (by omega) (by omega) (by omega)
  have k1 : mm_u (mm_u A (27 + z1.toNat) z2 z3) 96 0 (A (27 + z1.toNat) z2) 77 1 = A 77 1 := mm_u2_ne (.inl (by omega)) (.inl (by omega))
  have k3 : mm_u (mm_u A (27 + z1.toNat) z2 z3) 96 0 (A (27 + z1.toNat) z2) 82 (6 * z1 + z2) = A 82 (6 * z1 + z2) := mm_u2_ne (.inl (by omega)) (.inl (by omega))
  refine ok11 ?_ hs h0 (p144_0_6 (p12_0_6 (by omega)) (by omega)) (p125_0_3 (by omega)) ?_ ?_ ?_
  · exact (Inv_room hI (by omega) (by omega) (by omega) (by omega) (by omega) (by omega)).eqs (.bo (.thr (.out .rf)))
  · rw [mm_u_ne (.inl (by omega)), mm_u_same]
  · rw [k3, mm_u2_ne (.inl (by omega)) (.inl (by omega)), mm_u_same, e1]
  · rw [k3]; omega
theorem rd16 (hI : Inv A) (hs : mm_sc X x4 z0 z1 z2 z3) (h0 : mm_and z0 31 = 16) : mm_rd X d x4 A := by
  obtain ⟨g3, g4, g5, r0, r1, r2, r3⟩ := hs.2.2.2.2.2
  have hS := hI.1
  unfold Is at hS
  by_cases c1 : z3 < 0
  · exact thr16 (k := 1) hI hs h0 (by omega) (p149_0_0 (by omega)) (p130_0_0 (by omega))
  by_cases c2 : 12 < z3
  · exact thr16 (k := 1) hI hs h0 (by omega) (p149_0_1 (by omega)) (p130_0_6 (by omega))
  by_cases c3 : z1 < 0
  · exact thr16 (k := 2) hI hs h0 (by omega) (p149_0_2 (by omega)) (p130_0_1 (by omega))
  by_cases c4 : A 77 1 ≤ z1
  · exact thr16 (k := 2) hI hs h0 (by omega) (p149_0_3 (by omega)) (p130_0_5 (by omega))
  by_cases c5 : z2 < 0
  · exact thr16 (k := 2) hI hs h0 (by omega) (p149_0_4 (by omega)) (p130_0_2 (by omega))
  by_cases c6 : 15 < z2
  · exact thr16 (k := 2) hI hs h0 (by omega) (p149_0_5 (by omega)) (p130_0_4 (by omega))
  obtain ⟨e1, e2, e3⟩ := hI.2.2.2.2.1 z1 z2 (by omega) (by omega) (by omega) (by omega)
  have k1 : mm_u (mm_u A (45 + z1.toNat) z2 z3) 96 0 (A (45 + z1.toNat) z2) 77 1 = A 77 1 := mm_u2_ne (.inl (by omega)) (.inl (by omega))
  have k3 : mm_u (mm_u A (45 + z1.toNat) z2 z3) 96 0 (A (45 + z1.toNat) z2) 88 (16 * z1 + z2) = A 88 (16 * z1 + z2) := mm_u2_ne (.inl (by omega)) (.inl (by omega))
  refine ok16 ?_ hs h0 (p149_0_6 (p17_0_6 (by omega)) (by omega)) (p130_0_3 (by omega)) ?_ ?_ ?_
  · exact (Inv_density hI (by omega) (by omega) (by omega) (by omega) (by omega) (by omega)).eqs (.bo (.thr (.out .rf)))
  · rw [mm_u_ne (.inl (by omega)), mm_u_same]
  · rw [k3, mm_u2_ne (.inl (by omega)) (.inl (by omega)), mm_u_same, e1]
  · rw [k3]; omega
theorem rd6 (hI : Inv A) (hs : mm_sc X x4 z0 z1 z2 z3) (h0 : mm_and z0 31 = 6) : mm_rd X d x4 A := by
  obtain ⟨g3, g4, g5, r0, r1, r2, r3⟩ := hs.2.2.2.2.2
  have hS := hI.1
  unfold Is at hS
  by_cases c1 : z1 < 0
  · exact thr6 (k := 1) hI hs h0 (by omega) (p139_0_0 (by omega)) (p120_0_0 (by omega))
  by_cases c2 : A 77 2 ≤ z1
  · exact thr6 (k := 1) hI hs h0 (by omega) (p139_0_1 (by omega)) (p120_0_5 (by omega))
  by_cases c3 : z2 < 0 ∧ z2 ≠ -1
  · exact thr6 (k := 1) hI hs h0 (by omega) (p139_0_2 (by omega)) (p120_0_2 (by omega))
  by_cases c4 : A 77 1 ≤ z2
  · exact thr6 (k := 1) hI hs h0 (by omega) (p139_0_3 (by omega)) (p120_0_4 (by omega))
  obtain ⟨e1, e2, e3⟩ := hI.2.2.1 z1 (by omega) (by omega)
  have k1 : mm_u (mm_u A 10 z1 z2) 96 0 (A 10 z1) 77 1 = A 77 1 := mm_u2_ne (.inl (by omega)) (.inl (by omega))
  have k2 : mm_u (mm_u A 10 z1 z2) 96 0 (A 10 z1) 77 2 = A 77 2 := mm_u2_ne (.inl (by omega)) (.inl (by omega))
  have k3 : mm_u (mm_u A 10 z1 z2) 96 0 (A 10 z1) 79 z1 = A 79 z1 := mm_u2_ne (.inl (by omega)) (.inl (by omega))
  have s0 : mm_E 1 (d + 39) 139 0 [(0, .ref 1), (1, mI z1), (2, mI z2), (3, .ref 96)] [] (mm_w X A) (.inl (some (mI 0)), mm_w X (mm_u (mm_u A 10 z1 z2) 96 0 (A 10 z1)), 0, 0) := by
    refine p139_0_4 ?_ (by omega)
    by_cases c5 : z2 < 0
    · exact p7_0_2 (by omega)
    · exact p7_0_6 (by omega)
  have s1 : mm_E 1 (d + 39) 120 0 [(0, .ref 77), (1, mI z1), (2, mI z2)] [] (mm_w X (mm_u (mm_u A 10 z1 z2) 96 0 (A 10 z1))) (.inl (some (mI (A 79 z1))), mm_w X (mm_u (mm_u (mm_u (mm_u A 10 z1 z2) 96 0 (A 10 z1)) 77 0 0) 79 z1 z2), 0, 0) := by
    rw [← k3]
    by_cases c5 : z2 < 0
    · exact p120_0_1 (by omega)
    · exact p120_0_3 (by omega)
  refine ok6 ?_ hs h0 s0 s1 ?_ ?_ ?_
  · exact (Inv_give hI (by omega) (by omega) (by omega) (by omega)).eqs (.bo (.thr (.out .rf)))
  · rw [mm_u_ne (.inl (by omega)), mm_u_same]
  · rw [mm_u2_ne (.inl (by omega)) (.inl (by omega)), mm_u_same, e1]
  · omega
theorem rd7 (hI : Inv A) (hs : mm_sc X x4 z0 z1 z2 z3) (h0 : mm_and z0 31 = 7) : mm_rd X d x4 A := by
  obtain ⟨g3, g4, g5, r0, r1, r2, r3⟩ := hs.2.2.2.2.2
  have hS := hI.1
  unfold Is at hS
  by_cases c1 : z1 < 0
  · exact thr7 (k := 1) hI hs h0 (by omega) (p140_0_0 (by omega)) (p121_0_0 (by omega))
  by_cases c2 : A 77 2 ≤ z1
  · exact thr7 (k := 1) hI hs h0 (by omega) (p140_0_1 (by omega)) (p121_0_2 (by omega))
  obtain ⟨e1, e2, e3⟩ := hI.2.2.1 z1 (by omega) (by omega)
  have k2 : mm_u A 96 0 (A 10 z1) 77 2 = A 77 2 := mm_u_ne (.inl (by omega))
  have k3 : mm_u A 96 0 (A 10 z1) 79 z1 = A 79 z1 := mm_u_ne (.inl (by omega))
  refine ok7 ?_ hs h0 (p140_0_2 (p8_0_2 (by omega)) (by omega)) (p121_0_1 (by omega)) ?_ ?_ ?_
  · exact hI.eqs (.thr (.out .rf))
  · rw [mm_u_same]
  · rw [k3, mm_u_ne (.inl (by omega)), mm_u_same, e1]
  · rw [k3]; omega
theorem Inv_total {A : MF} {v : Int} (hI : Inv A) (h5 : 0 ≤ v) (h6 : v ≤ 600000) : Inv (mm_u (mm_u A 25 1 v) 77 8 v) := by
  refine ⟨?_, hI.2.1.eqv fun a k h => mm_u2_ne (.inl (by omega)) (.inl (by omega)), hI.2.2.1.eqv fun a k h => mm_u2_ne (by omega) (by omega), hI.2.2.2.1.eqv fun a k h => mm_u2_ne (.inl (by omega)) (.inl (by omega)), hI.2.2.2.2.1.eqv fun a k h => mm_u2_ne (.inl (by omega)) (.inl (by omega)), hI.2.2.2.2.2.1.eqv hI.n fun a k h => mm_u2_ne (by omega) (by omega), hI.2.2.2.2.2.2.eqv hI.n fun a k h => mm_u2_ne (by omega) (by omega)⟩
  have hS := hI.1
  unfold Is at hS ⊢
  have e1 : mm_u (mm_u A 25 1 v) 77 8 v 77 8 = v := mm_u_same
  have e2 : mm_u (mm_u A 25 1 v) 77 8 v 25 1 = v := by rw [mm_u_ne (by omega), mm_u_same]
  have e : ∀ a i, ¬ (a = 25 ∧ i = 1) → ¬ (a = 77 ∧ i = 8) → mm_u (mm_u A 25 1 v) 77 8 v a i = A a i := fun a i q1 q2 => mm_u2_ne (by omega) (by omega)
  rw [e1, e2, e 77 1 (by omega) (by omega), e 1 3 (by omega) (by omega), e 2 0 (by omega) (by omega), e 25 0 (by omega) (by omega), e 43 0 (by omega) (by omega), e 77 2 (by omega) (by omega), e 2 1 (by omega) (by omega), e 77 9 (by omega) (by omega), e 25 2 (by omega) (by omega), e 77 15 (by omega) (by omega), e 43 1 (by omega) (by omega), e 77 17 (by omega) (by omega), e 43 2 (by omega) (by omega)]
  omega
theorem rd12 (hI : Inv A) (hs : mm_sc X x4 z0 z1 z2 z3) (h0 : mm_and z0 31 = 12) : mm_rd X d x4 A := by
  obtain ⟨g3, g4, g5, r0, r1, r2, r3⟩ := hs.2.2.2.2.2
  have hS := hI.1
  unfold Is at hS
  by_cases c1 : z1 < 0
  · exact thr12 (k := 1) hI hs h0 (by omega) (p145_0_0 (by omega)) (p126_0_0 (by omega))
  by_cases c2 : 600000 < z1
  · exact thr12 (k := 1) hI hs h0 (by omega) (p145_0_1 (by omega)) (p126_0_2 (by omega))
  have k3 : mm_u (mm_u A 25 1 z1) 96 0 (A 25 1) 77 8 = A 77 8 := mm_u2_ne (.inl (by omega)) (.inl (by omega))
  refine ok12 ?_ hs h0 (p145_0_2 (p13_0_2 (by omega)) (by omega)) (p126_0_1 (by omega)) ?_ ?_ ?_
  · exact (Inv_total hI (by omega) (by omega)).eqs (.bo (.thr (.out .rf)))
  · rw [mm_u_ne (by omega), mm_u_same]
  · rw [k3, mm_u2_ne (.inl (by omega)) (.inl (by omega)), mm_u_same]; omega
  · rw [k3]; omega
theorem Inv_cake {A : MF} {v : Int} (hI : Inv A) (h5 : 1 ≤ v) (h6 : v ≤ 16) : Inv (mm_u (mm_u (mm_u (mm_u A 43 1 v) 43 2 0) 77 15 v) 77 17 0) := by
  have e : ∀ a i, ¬ (a = 43 ∧ (i = 1 ∨ i = 2)) → ¬ (a = 77 ∧ (i = 15 ∨ i = 17)) → mm_u (mm_u (mm_u (mm_u A 43 1 v) 43 2 0) 77 15 v) 77 17 0 a i = A a i := fun a i q1 q2 => by rw [mm_u2_ne (by omega) (by omega), mm_u2_ne (by omega) (by omega)]
  have e17 : mm_u (mm_u (mm_u (mm_u A 43 1 v) 43 2 0) 77 15 v) 77 17 0 77 17 = 0 := mm_u_same
  refine ⟨?_, hI.2.1.eqv fun a k h => e a k (by omega) (by omega), hI.2.2.1.eqv fun a k h => e a k (by omega) (by omega), hI.2.2.2.1.eqv fun a k h => e a k (by omega) (by omega), hI.2.2.2.2.1.eqv fun a k h => e a k (by omega) (by omega), hI.2.2.2.2.2.1.eqv hI.n fun a k h => e a k (by omega) (by omega), fun q => by rw [e17] at q; omega⟩
  have hS := hI.1
  unfold Is at hS ⊢
  have e15 : mm_u (mm_u (mm_u (mm_u A 43 1 v) 43 2 0) 77 15 v) 77 17 0 77 15 = v := by rw [mm_u_ne (by omega), mm_u_same]
  have e1 : mm_u (mm_u (mm_u (mm_u A 43 1 v) 43 2 0) 77 15 v) 77 17 0 43 1 = v := by rw [mm_u2_ne (by omega) (by omega), mm_u_ne (by omega), mm_u_same]
  have e2 : mm_u (mm_u (mm_u (mm_u A 43 1 v) 43 2 0) 77 15 v) 77 17 0 43 2 = 0 := by rw [mm_u2_ne (by omega) (by omega), mm_u_same]
  rw [e17, e15, e1, e2, e 77 1 (by omega) (by omega), e 1 3 (by omega) (by omega), e 2 0 (by omega) (by omega), e 25 0 (by omega) (by omega), e 43 0 (by omega) (by omega), e 77 2 (by omega) (by omega), e 2 1 (by omega) (by omega), e 77 8 (by omega) (by omega), e 25 1 (by omega) (by omega), e 77 9 (by omega) (by omega), e 25 2 (by omega) (by omega)]
  omega
theorem rd15 (hI : Inv A) (hs : mm_sc X x4 z0 z1 z2 z3) (h0 : mm_and z0 31 = 15) : mm_rd X d x4 A := by
  obtain ⟨g3, g4, g5, r0, r1, r2, r3⟩ := hs.2.2.2.2.2
  have hS := hI.1
  unfold Is at hS
  by_cases c1 : z1 < 1
  · exact thr15 (k := 1) hI hs h0 (by omega) (p148_0_0 (by omega)) (p129_0_0 (by omega))
  by_cases c2 : 16 < z1
  · exact thr15 (k := 1) hI hs h0 (by omega) (p148_0_1 (by omega)) (p129_0_2 (by omega))
  refine ok15 ?_ hs h0 (p148_0_2 (p16_0_2 (by omega))) (p129_0_1 (by omega)) ?_
  · exact (Inv_cake hI (by omega) (by omega)).eqs (.bo (.bo (.thr .rf)))
  · rw [mm_u2_ne (by omega) (by omega), mm_u_same]
theorem rd14 (hI : Inv A) (hs : mm_sc X x4 z0 z1 z2 z3) (h0 : mm_and z0 31 = 14) : mm_rd X d x4 A := by
  obtain ⟨g3, g4, g5, r0, r1, r2, r3⟩ := hs.2.2.2.2.2
  have hS := hI.1
  unfold Is at hS
  by_cases c1 : z1 < 0
  · exact thr14 (k := 1) hI hs h0 (by omega) (p147_0_0 (by omega)) (p128_0_0 (by omega))
  by_cases c2 : A 77 1 ≤ z1
  · exact thr14 (k := 1) hI hs h0 (by omega) (p147_0_1 (by omega)) (p128_0_7 (by omega))
  by_cases c3 : z2 < 0
  · exact thr14 (k := 1) hI hs h0 (by omega) (p147_0_2 (by omega)) (p128_0_1 (by omega))
  by_cases c4 : 2 < z2
  · exact thr14 (k := 1) hI hs h0 (by omega) (p147_0_3 (by omega)) (p128_0_6 (by omega))
  by_cases c5 : A 77 9 = 0
  · exact thr14 (k := 2) hI hs h0 (by omega) (p147_0_4 (by omega)) (p128_0_5 (by omega))
  obtain ⟨e1, e2, e3, e4, e5, e6⟩ := hI.2.2.2.2.2.1 (by omega) z1 (by omega) (by omega)
  have hk : ∀ (y : Int) (a : Nat) (i : Int), a ≠ 96 → mm_u A 96 0 y a i = A a i := fun y a i q => mm_u_ne (.inl q)
  have fin : ∀ y : Int, R64 y → mm_E 1 (d + 38) 15 0 [(0, .ref 1), (1, mI z1), (2, mI z2)] [] (mm_w X A) (.inl (some (mJ y)), mm_w X A, 0, 0) → mm_E 1 (d + 39) 128 0 [(0, .ref 77), (1, mI z1), (2, mI z2)] [] (mm_w X (mm_u A 96 0 y)) (.inl (some (mJ y)), mm_w X (mm_u (mm_u A 96 0 y) 77 0 0), 0, 0) → mm_rd X d x4 A := fun y hy t0 t1 => by
    refine ok14 ?_ hs h0 (p147_0_5 t0) t1 ?_ ?_ hy
    · exact hI.eqs (.thr (.out .rf))
    · rw [mm_u_same]
    · rw [mm_u_ne (.inl (by omega)), mm_u_same]
  by_cases c6 : z2 = 0
  · refine fin (A 83 z1) (by omega) (by rw [← e1]; exact p15_0_6 (by omega)) ?_
    have q := p128_0_4 (d := d + 38) (X := X) (A := mm_u A 96 0 (A 83 z1)) (x1 := z1) (x2 := z2) (by simp only [hk _ _ _ (show (77 : Nat) ≠ 96 by decide), hk _ _ _ (show (83 : Nat) ≠ 96 by decide)]; omega)
    rw [hk _ _ _ (by omega)] at q
    exact q
  by_cases c7 : z2 = 1
  · refine fin (A 86 z1) e5 (by rw [← e3]; exact p15_0_5 (by omega)) ?_
    have q := p128_0_3 (d := d + 38) (X := X) (A := mm_u A 96 0 (A 86 z1)) (x1 := z1) (x2 := z2) (by simp only [hk _ _ _ (show (77 : Nat) ≠ 96 by decide)]; omega)
    rw [hk _ _ _ (by omega)] at q
    exact q
  · refine fin (A 87 z1) e6 (by rw [← e4]; exact p15_0_4 (by omega)) ?_
    have q := p128_0_2 (d := d + 38) (X := X) (A := mm_u A 96 0 (A 87 z1)) (x1 := z1) (x2 := z2) (by simp only [hk _ _ _ (show (77 : Nat) ≠ 96 by decide)]; omega)
    rw [hk _ _ _ (by omega)] at q
    exact q
theorem rd18 (hI : Inv A) (hs : mm_sc X x4 z0 z1 z2 z3) (h0 : mm_and z0 31 = 18) : mm_rd X d x4 A := by
  obtain ⟨g3, g4, g5, r0, r1, r2, r3⟩ := hs.2.2.2.2.2
  have hS := hI.1
  unfold Is at hS
  by_cases c1 : z1 < 0
  · exact thr18 (k := 1) hI hs h0 (by omega) (p150_0_0 (by omega)) (p132_0_0 (by omega))
  by_cases c2 : A 77 1 ≤ z1
  · exact thr18 (k := 1) hI hs h0 (by omega) (p150_0_1 (by omega)) (p132_0_8 (by omega))
  by_cases c3 : z2 < 0
  · exact thr18 (k := 1) hI hs h0 (by omega) (p150_0_2 (by omega)) (p132_0_1 (by omega))
  by_cases c4 : 3 < z2
  · exact thr18 (k := 1) hI hs h0 (by omega) (p150_0_3 (by omega)) (p132_0_7 (by omega))
  by_cases c5 : A 77 17 = 0
  · exact thr18 (k := 2) hI hs h0 (by omega) (p150_0_4 (by omega)) (p132_0_6 (by omega))
  obtain ⟨e1, e2, e3, e4, e5⟩ := hI.2.2.2.2.2.2 (by omega) z1 (by omega) (by omega)
  unfold Ip at e5
  have hk : ∀ (y : Int) (a : Nat) (i : Int), a ≠ 96 → mm_u A 96 0 y a i = A a i := fun y a i q => mm_u_ne (.inl q)
  have fin : ∀ y : Int, R64 y → mm_E 1 (d + 38) 19 0 [(0, .ref 1), (1, mI z1), (2, mI z2)] [] (mm_w X A) (.inl (some (mJ y)), mm_w X A, 0, 0) → mm_E 1 (d + 39) 132 0 [(0, .ref 77), (1, mI z1), (2, mI z2)] [] (mm_w X (mm_u A 96 0 y)) (.inl (some (mJ y)), mm_w X (mm_u (mm_u A 96 0 y) 77 0 0), 0, 0) → mm_rd X d x4 A := fun y hy t0 t1 => by
    refine ok18 ?_ hs h0 (p150_0_5 t0) t1 ?_ ?_ hy
    · exact hI.eqs (.thr (.out .rf))
    · rw [mm_u_same]
    · rw [mm_u_ne (.inl (by omega)), mm_u_same]
  by_cases c6 : z2 = 0
  · refine fin (A 89 z1) (by omega) (by rw [← e1]; exact p19_0_7 (by omega)) ?_
    have q := p132_0_5 (d := d + 38) (X := X) (A := mm_u A 96 0 (A 89 z1)) (x1 := z1) (x2 := z2) (by simp only [hk _ _ _ (show (77 : Nat) ≠ 96 by decide)]; omega)
    rw [hk _ _ _ (by omega)] at q
    exact q
  by_cases c7 : z2 = 1
  · refine fin (A 90 z1) (by omega) (by rw [← e2]; exact p19_0_6 (by omega)) ?_
    have q := p132_0_4 (d := d + 38) (X := X) (A := mm_u A 96 0 (A 90 z1)) (x1 := z1) (x2 := z2) (by simp only [hk _ _ _ (show (77 : Nat) ≠ 96 by decide)]; omega)
    rw [hk _ _ _ (by omega)] at q
    exact q
  by_cases c8 : z2 = 2
  · refine fin (A 91 z1) (by omega) (by rw [← e3]; exact p19_0_5 (by omega)) ?_
    have q := p132_0_3 (d := d + 38) (X := X) (A := mm_u A 96 0 (A 91 z1)) (x1 := z1) (x2 := z2) (by simp only [hk _ _ _ (show (77 : Nat) ≠ 96 by decide)]; omega)
    rw [hk _ _ _ (by omega)] at q
    exact q
  · refine fin (A 92 z1) (by omega) (by rw [← e4]; exact p19_0_4 (by omega)) ?_
    have q := p132_0_2 (d := d + 38) (X := X) (A := mm_u A 96 0 (A 92 z1)) (x1 := z1) (x2 := z2) (by simp only [hk _ _ _ (show (77 : Nat) ≠ 96 by decide)]; omega)
    rw [hk _ _ _ (by omega)] at q
    exact q
end SI
