/-! Paths of the methods, from each entry and loop head to the next; written by a program of our own (wip/whole/src/gen.py). -/
theorem p46_0_0 {d : Nat} {X : List Value} {A : MF} {a : Nat} {y1 y3 z0 : Int} (la : mm_ly a = some (3, [1, 1])) (s0 : mm_E 1 d 53 0 [(0, mJ (Int.natAbs y1 : Int)), (2, mJ y3)] [] (mm_w X A) (.inl (some (mJ z0)), mm_w X A, 0, 0)) (H : R64 y1 ∧ R64 z0 ∧ 0 < z0 ∧ R64 y3) : mm_E 1 (d + 1) 46 0 [(0, .ref a), (1, mJ y1), (3, mJ y3)] [] (mm_w X A) (.inl (none), mm_w X (mm_u (mm_u A a 0 (Int.tdiv y1 z0)) a 1 (Int.tdiv y3 z0)), 0, 0) := by
  obtain ⟨h0, h1, h2, h3⟩ := H
  exact mm_E.lload_n (mm_atc mc46 rfl) rfl <|
  mm_E.abs h0 (mm_atc mc46 rfl) (mm_plc mp46 rfl) rfl <|
  mm_E.lload_n (mm_atc mc46 rfl) rfl <|
  mm_E.callS0 (mm_atc mc46 rfl) (mm_plc mp46 rfl) mx53 rfl rfl s0 (by omega) <|
  show mm_E _ _ 46 8 _ _ _ _ from
  mm_E.lstore mx46 rfl (mm_atc mc46 rfl) <|
  show mm_E _ _ 46 10 [(5, mJ z0), (0, .ref a), (1, mJ y1), (3, mJ y3)] _ _ _ from
  mm_E.aload_n (mm_atc mc46 rfl) rfl <|
  mm_E.lload_n (mm_atc mc46 rfl) rfl <|
  mm_E.lload (mm_atc mc46 rfl) rfl <|
  mm_E.ldiv h0 h1 h2 (mm_atc mc46 rfl) <|
  mm_E.putJ (fi := 0) (z := Int.tdiv y1 z0) (mm_atc mc46 rfl) (mm_plc mp46 rfl) la rfl rfl rfl (mm_fit_l rfl) (mm_ly_pos la) <|
  mm_E.aload_n (mm_atc mc46 rfl) rfl <|
  mm_E.lload_n (mm_atc mc46 rfl) rfl <|
  mm_E.lload (mm_atc mc46 rfl) rfl <|
  mm_E.ldiv h3 h1 h2 (mm_atc mc46 rfl) <|
  mm_E.putJ (fi := 1) (z := Int.tdiv y3 z0) (mm_atc mc46 rfl) (mm_plc mp46 rfl) la rfl rfl rfl (mm_fit_l rfl) (mm_ly_pos la) <|
  mm_E.vret (mm_atc mc46 rfl) mr46
theorem p47_0_0 {d : Nat} {X : List Value} {A : MF} {a : Nat} {y1 y3 : Int} {A0 : MF} (la : mm_ly a = some (3, [1, 1])) (s0 : mm_E 1 d 46 0 [(0, .ref a), (1, mJ ((A a 0) * y1)), (3, mJ ((A a 1) * y3))] [] (mm_w X A) (.inl (none), mm_w X A0, 0, 0)) : mm_E 1 (d + 1) 47 0 [(0, .ref a), (1, mJ y1), (3, mJ y3)] [] (mm_w X A) (.inl (none), mm_w X A0, 0, 0) := by
  exact mm_E.aload_n (mm_atc mc47 rfl) rfl <|
  mm_E.aload_n (mm_atc mc47 rfl) rfl <|
  mm_E.getJ (z := A a 0) (mm_atc mc47 rfl) (mm_plc mp47 rfl) rfl la rfl (rfl) <|
  mm_E.lload_n (mm_atc mc47 rfl) rfl <|
  mm_E.lmul (mm_atc mc47 rfl) <|
  mm_E.aload_n (mm_atc mc47 rfl) rfl <|
  mm_E.getJ (z := A a 1) (mm_atc mc47 rfl) (mm_plc mp47 rfl) rfl la rfl (rfl) <|
  mm_E.lload_n (mm_atc mc47 rfl) rfl <|
  mm_E.lmul (mm_atc mc47 rfl) <|
  mm_E.callV0 (mm_atc mc47 rfl) (mm_plc mp47 rfl) rfl mk46 la rfl mx46 rfl rfl s0 (by omega) <|
  show mm_E _ _ 47 16 _ _ _ _ from
  mm_E.vret (mm_atc mc47 rfl) mr47
theorem p51_0_0 {w d : Nat} {X : List Value} {A : MF} {a a1 : Nat} {z0 : Int} (la : mm_ly a = some (3, [1, 1])) (la1 : mm_ly a1 = some (3, [1, 1])) (s0 : mm_E w d 53 0 [(0, mJ (A a 1)), (2, mJ (A a1 1))] [] (mm_w X A) (.inl (some (mJ z0)), mm_w X A, 0, 0)) (H : R64 (A a 1) ∧ R64 z0 ∧ 0 < z0) : mm_E w (d + 1) 51 0 [(0, .ref a), (1, .ref a1)] [] (mm_w X A) (.inl (some (mJ ((Int.tdiv (A a 1) z0) * (A a1 1)))), mm_w X A, 0, 0) := by
  obtain ⟨h0, h1, h2⟩ := H
  exact mm_E.aload_n (mm_atc mc51 rfl) rfl <|
  mm_E.getJ (z := A a 1) (mm_atc mc51 rfl) (mm_plc mp51 rfl) rfl la rfl (rfl) <|
  mm_E.aload_n (mm_atc mc51 rfl) rfl <|
  mm_E.getJ (z := A a 1) (mm_atc mc51 rfl) (mm_plc mp51 rfl) rfl la rfl (rfl) <|
  mm_E.aload_n (mm_atc mc51 rfl) rfl <|
  mm_E.getJ (z := A a1 1) (mm_atc mc51 rfl) (mm_plc mp51 rfl) rfl la1 rfl (rfl) <|
  mm_E.callS0 (mm_atc mc51 rfl) (mm_plc mp51 rfl) mx53 rfl rfl s0 (by omega) <|
  show mm_E _ _ 51 15 _ _ _ _ from
  mm_E.ldiv h0 h1 h2 (mm_atc mc51 rfl) <|
  mm_E.aload_n (mm_atc mc51 rfl) rfl <|
  mm_E.getJ (z := A a1 1) (mm_atc mc51 rfl) (mm_plc mp51 rfl) rfl la1 rfl (rfl) <|
  mm_E.lmul (mm_atc mc51 rfl) <|
  mm_E.lret (mm_atc mc51 rfl) mr51
theorem p52_0_0 {w d : Nat} {X : List Value} {A : MF} {a : Nat} {y1 : Int} (la : mm_ly a = some (3, [1, 1])) (H : R64 y1 ∧ R64 (A a 1) ∧ 0 < A a 1) : mm_E w d 52 0 [(0, .ref a), (1, mJ y1)] [] (mm_w X A) (.inl (some (mJ ((A a 0) * (Int.tdiv y1 (A a 1))))), mm_w X A, 0, 0) := by
  obtain ⟨h0, h1, h2⟩ := H
  exact mm_E.aload_n (mm_atc mc52 rfl) rfl <|
  mm_E.getJ (z := A a 0) (mm_atc mc52 rfl) (mm_plc mp52 rfl) rfl la rfl (rfl) <|
  mm_E.lload_n (mm_atc mc52 rfl) rfl <|
  mm_E.aload_n (mm_atc mc52 rfl) rfl <|
  mm_E.getJ (z := A a 1) (mm_atc mc52 rfl) (mm_plc mp52 rfl) rfl la rfl (rfl) <|
  mm_E.ldiv h0 h1 h2 (mm_atc mc52 rfl) <|
  mm_E.lmul (mm_atc mc52 rfl) <|
  mm_E.lret (mm_atc mc52 rfl) mr52
theorem p53_0_0 {w d : Nat} {X : List Value} {A : MF} {r : MR} {y0 y2 : Int} (h : mm_E w d 53 3 [(0, mJ y0), (2, mJ y2), (4, mI 0)] [] (mm_w X A) r) : mm_E w d 53 0 [(0, mJ y0), (2, mJ y2)] [] (mm_w X A) r := by
  exact mm_E.iconst (mm_atc mc53 rfl) <|
  mm_E.istore mx53 rfl (mm_atc mc53 rfl) <|
  show mm_E _ _ 53 3 [(4, mI 0), (0, mJ y0), (2, mJ y2)] _ _ _ from
  mm_E.to h ⟨rfl, rfl, rfl, trivial⟩
theorem p53_3_0 {w d : Nat} {X : List Value} {A : MF} {y0 y2 x4 : Int} (H : R32 x4 ∧ 200 ≤ x4 ∧ R64 y0 ∧ y0 ≠ 0) : mm_E w d 53 3 [(0, mJ y0), (2, mJ y2), (4, mI x4)] [] (mm_w X A) (.inl (some (mJ y0)), mm_w X A, 0, 0) := by
  obtain ⟨h0, h1, h2, h3⟩ := H
  exact mm_E.iload (mm_atc mc53 rfl) rfl <|
  mm_E.sipush (mm_atc mc53 rfl) rfl <|
  mm_E.if2 (mm_atc mc53 rfl) h0 (by decide) (ic_geT h1) rfl <|
  mm_E.lload_n (mm_atc mc53 rfl) rfl <|
  mm_E.lconst (z := 0) (mm_atc mc53 rfl) rfl <|
  mm_E.lif (mm_atc mc53 rfl) (mm_atc mc53 rfl) h2 (by decide) (ic_neT h3) rfl <|
  mm_E.lload_n (mm_atc mc53 rfl) rfl <|
  mm_E.lret (mm_atc mc53 rfl) mr53
theorem p53_3_1 {w d : Nat} {X : List Value} {A : MF} {y0 y2 x4 : Int} (H : R32 x4 ∧ 200 ≤ x4 ∧ R64 y0 ∧ y0 = 0) : mm_E w d 53 3 [(0, mJ y0), (2, mJ y2), (4, mI x4)] [] (mm_w X A) (.inl (some (mJ 1)), mm_w X A, 0, 0) := by
  obtain ⟨h0, h1, h2, h3⟩ := H
  exact mm_E.iload (mm_atc mc53 rfl) rfl <|
  mm_E.sipush (mm_atc mc53 rfl) rfl <|
  mm_E.if2 (mm_atc mc53 rfl) h0 (by decide) (ic_geT h1) rfl <|
  mm_E.lload_n (mm_atc mc53 rfl) rfl <|
  mm_E.lconst (z := 0) (mm_atc mc53 rfl) rfl <|
  mm_E.lif (mm_atc mc53 rfl) (mm_atc mc53 rfl) h2 (by decide) (ic_neF h3) rfl <|
  mm_E.lconst (z := 1) (mm_atc mc53 rfl) rfl <|
  mm_E.goto (mm_atc mc53 rfl) rfl <|
  mm_E.lret (mm_atc mc53 rfl) mr53
theorem p53_3_2 {w d : Nat} {X : List Value} {A : MF} {y0 y2 x4 : Int} (H : R32 x4 ∧ x4 < 200 ∧ R64 y2 ∧ y2 = 0 ∧ R64 y0 ∧ y0 ≠ 0) : mm_E w d 53 3 [(0, mJ y0), (2, mJ y2), (4, mI x4)] [] (mm_w X A) (.inl (some (mJ y0)), mm_w X A, 0, 0) := by
  obtain ⟨h0, h1, h2, h3, h4, h5⟩ := H
  exact mm_E.iload (mm_atc mc53 rfl) rfl <|
  mm_E.sipush (mm_atc mc53 rfl) rfl <|
  mm_E.if2 (mm_atc mc53 rfl) h0 (by decide) (ic_geF h1) rfl <|
  mm_E.lload_n (mm_atc mc53 rfl) rfl <|
  mm_E.lconst (z := 0) (mm_atc mc53 rfl) rfl <|
  mm_E.lif (mm_atc mc53 rfl) (mm_atc mc53 rfl) h2 (by decide) (ic_eqT h3) rfl <|
  mm_E.lload_n (mm_atc mc53 rfl) rfl <|
  mm_E.lconst (z := 0) (mm_atc mc53 rfl) rfl <|
  mm_E.lif (mm_atc mc53 rfl) (mm_atc mc53 rfl) h4 (by decide) (ic_neT h5) rfl <|
  mm_E.lload_n (mm_atc mc53 rfl) rfl <|
  mm_E.lret (mm_atc mc53 rfl) mr53
theorem p53_3_3 {w d : Nat} {X : List Value} {A : MF} {y0 y2 x4 : Int} (H : R32 x4 ∧ x4 < 200 ∧ R64 y2 ∧ y2 = 0 ∧ R64 y0 ∧ y0 = 0) : mm_E w d 53 3 [(0, mJ y0), (2, mJ y2), (4, mI x4)] [] (mm_w X A) (.inl (some (mJ 1)), mm_w X A, 0, 0) := by
  obtain ⟨h0, h1, h2, h3, h4, h5⟩ := H
  exact mm_E.iload (mm_atc mc53 rfl) rfl <|
  mm_E.sipush (mm_atc mc53 rfl) rfl <|
  mm_E.if2 (mm_atc mc53 rfl) h0 (by decide) (ic_geF h1) rfl <|
  mm_E.lload_n (mm_atc mc53 rfl) rfl <|
  mm_E.lconst (z := 0) (mm_atc mc53 rfl) rfl <|
  mm_E.lif (mm_atc mc53 rfl) (mm_atc mc53 rfl) h2 (by decide) (ic_eqT h3) rfl <|
  mm_E.lload_n (mm_atc mc53 rfl) rfl <|
  mm_E.lconst (z := 0) (mm_atc mc53 rfl) rfl <|
  mm_E.lif (mm_atc mc53 rfl) (mm_atc mc53 rfl) h4 (by decide) (ic_neF h5) rfl <|
  mm_E.lconst (z := 1) (mm_atc mc53 rfl) rfl <|
  mm_E.goto (mm_atc mc53 rfl) rfl <|
  mm_E.lret (mm_atc mc53 rfl) mr53
theorem p53_3_4 {w d : Nat} {X : List Value} {A : MF} {r : MR} {y0 y2 x4 : Int} (H : R32 x4 ∧ x4 < 200 ∧ R64 y2 ∧ y2 ≠ 0 ∧ R64 y0 ∧ 0 < y2) (h : mm_E w d 53 3 [(0, mJ y2), (2, mJ (Int.tmod y0 y2)), (4, mI (x4 + 1))] [] (mm_w X A) r) : mm_E w d 53 3 [(0, mJ y0), (2, mJ y2), (4, mI x4)] [] (mm_w X A) r := by
  obtain ⟨h0, h1, h2, h3, h4, h5⟩ := H
  exact mm_E.iload (mm_atc mc53 rfl) rfl <|
  mm_E.sipush (mm_atc mc53 rfl) rfl <|
  mm_E.if2 (mm_atc mc53 rfl) h0 (by decide) (ic_geF h1) rfl <|
  mm_E.lload_n (mm_atc mc53 rfl) rfl <|
  mm_E.lconst (z := 0) (mm_atc mc53 rfl) rfl <|
  mm_E.lif (mm_atc mc53 rfl) (mm_atc mc53 rfl) h2 (by decide) (ic_eqF h3) rfl <|
  mm_E.lload_n (mm_atc mc53 rfl) rfl <|
  mm_E.lload_n (mm_atc mc53 rfl) rfl <|
  mm_E.lrem h4 h2 h5 (mm_atc mc53 rfl) <|
  mm_E.lstore mx53 rfl (mm_atc mc53 rfl) <|
  show mm_E _ _ 53 22 [(5, mJ (Int.tmod y0 y2)), (0, mJ y0), (2, mJ y2), (4, mI x4)] _ _ _ from
  mm_E.lload_n (mm_atc mc53 rfl) rfl <|
  mm_E.lstore_n mx53 rfl (mm_atc mc53 rfl) <|
  show mm_E _ _ 53 24 [(0, mJ y2), (5, mJ (Int.tmod y0 y2)), (2, mJ y2), (4, mI x4)] _ _ _ from
  mm_E.lload (mm_atc mc53 rfl) rfl <|
  mm_E.lstore_n mx53 rfl (mm_atc mc53 rfl) <|
  show mm_E _ _ 53 27 [(2, mJ (Int.tmod y0 y2)), (0, mJ y2), (5, mJ (Int.tmod y0 y2)), (4, mI x4)] _ _ _ from
  mm_E.inc mx53 rfl (mm_atc mc53 rfl) rfl <|
  show mm_E _ _ 53 30 [(4, mI (x4 + 1)), (2, mJ (Int.tmod y0 y2)), (0, mJ y2), (5, mJ (Int.tmod y0 y2))] _ _ _ from
  mm_E.goto (mm_atc mc53 rfl) rfl <|
  mm_E.to h ⟨rfl, rfl, rfl, trivial⟩
theorem p55_0_0 {d : Nat} {X : List Value} {A : MF} {x1 : Int} {A0 : MF} (s0 : mm_E 1 d 56 0 [(0, .ref 2), (1, mI 0)] [] (mm_w X (mm_u A 2 0 x1)) (.inl (none), mm_w X A0, 0, 0)) : mm_E 1 (d + 1) 55 0 [(0, .ref 2), (1, mI x1)] [] (mm_w X A) (.inl (none), mm_w X A0, 0, 0) := by
  exact mm_E.aload_n (mm_atc mc55 rfl) rfl <|
  mm_E.iload_n (mm_atc mc55 rfl) rfl <|
  mm_E.putI (fi := 0) (z := x1) (mm_atc mc55 rfl) (mm_plc mp55 rfl) ly2 rfl rfl rfl (mm_fit_i rfl) rfl <|
  mm_E.aload_n (mm_atc mc55 rfl) rfl <|
  mm_E.iconst (mm_atc mc55 rfl) <|
  mm_E.callV0 (mm_atc mc55 rfl) (mm_plc mp55 rfl) rfl mk56 ly2 rfl mx56 rfl rfl s0 (by omega) <|
  show mm_E _ _ 55 10 _ _ _ _ from
  mm_E.vret (mm_atc mc55 rfl) mr55
theorem p56_0_0 {w d : Nat} {X : List Value} {A : MF} {r : MR} {x1 : Int} (h : mm_E w d 56 2 [(0, .ref 2), (1, mI x1), (2, mI 0)] [] (mm_w X A) r) : mm_E w d 56 0 [(0, .ref 2), (1, mI x1)] [] (mm_w X A) r := by
  exact mm_E.iconst (mm_atc mc56 rfl) <|
  mm_E.istore_n mx56 rfl (mm_atc mc56 rfl) <|
  show mm_E _ _ 56 2 [(2, mI 0), (0, .ref 2), (1, mI x1)] _ _ _ from
  mm_E.to h ⟨rfl, rfl, rfl, trivial⟩
theorem p56_2_0 {d : Nat} {X : List Value} {A : MF} {x1 x2 : Int} {A0 : MF} (s0 : mm_E 1 d 73 0 [(0, .ref 2)] [] (mm_w X (mm_u A 2 1 x1)) (.inl (none), mm_w X A0, 0, 0)) (H : R32 x2 ∧ 6 ≤ x2) : mm_E 1 (d + 1) 56 2 [(0, .ref 2), (1, mI x1), (2, mI x2)] [] (mm_w X A) (.inl (none), mm_w X A0, 0, 0) := by
  obtain ⟨h0, h1⟩ := H
  exact mm_E.iload_n (mm_atc mc56 rfl) rfl <|
  mm_E.bipush (mm_atc mc56 rfl) rfl <|
  mm_E.if2 (mm_atc mc56 rfl) h0 (by decide) (ic_geT h1) rfl <|
  mm_E.aload_n (mm_atc mc56 rfl) rfl <|
  mm_E.iload_n (mm_atc mc56 rfl) rfl <|
  mm_E.putI (fi := 1) (z := x1) (mm_atc mc56 rfl) (mm_plc mp56 rfl) ly2 rfl rfl rfl (mm_fit_i rfl) rfl <|
  mm_E.aload_n (mm_atc mc56 rfl) rfl <|
  mm_E.callV0 (mm_atc mc56 rfl) (mm_plc mp56 rfl) rfl mk73 ly2 rfl mx73 rfl rfl s0 (by omega) <|
  show mm_E _ _ 56 46 _ _ _ _ from
  mm_E.vret (mm_atc mc56 rfl) mr56
theorem p56_2_1 {w d : Nat} {X : List Value} {A : MF} {r : MR} {x1 x2 : Int} (H : R32 x2 ∧ x2 < 6) (h : mm_E w d 56 10 [(0, .ref 2), (1, mI x1), (2, mI x2), (3, mI x1)] [] (mm_w X A) r) : mm_E w d 56 2 [(0, .ref 2), (1, mI x1), (2, mI x2)] [] (mm_w X A) r := by
  obtain ⟨h0, h1⟩ := H
  exact mm_E.iload_n (mm_atc mc56 rfl) rfl <|
  mm_E.bipush (mm_atc mc56 rfl) rfl <|
  mm_E.if2 (mm_atc mc56 rfl) h0 (by decide) (ic_geF h1) rfl <|
  mm_E.iload_n (mm_atc mc56 rfl) rfl <|
  mm_E.istore_n mx56 rfl (mm_atc mc56 rfl) <|
  show mm_E _ _ 56 10 [(3, mI x1), (0, .ref 2), (1, mI x1), (2, mI x2)] _ _ _ from
  mm_E.to h ⟨rfl, rfl, rfl, rfl, trivial⟩
theorem p56_10_0 {w d : Nat} {X : List Value} {A : MF} {r : MR} {x1 x2 x3 : Int} (H : R32 x3 ∧ 12 ≤ x3) (h : mm_E w d 56 2 [(0, .ref 2), (1, mI x1), (2, mI (x2 + 1))] [] (mm_w X A) r) : mm_E w d 56 10 [(0, .ref 2), (1, mI x1), (2, mI x2), (3, mI x3)] [] (mm_w X A) r := by
  obtain ⟨h0, h1⟩ := H
  exact mm_E.iload_n (mm_atc mc56 rfl) rfl <|
  mm_E.bipush (mm_atc mc56 rfl) rfl <|
  mm_E.if2 (mm_atc mc56 rfl) h0 (by decide) (ic_geT h1) rfl <|
  mm_E.inc mx56 rfl (mm_atc mc56 rfl) rfl <|
  show mm_E _ _ 56 34 [(2, mI (x2 + 1)), (0, .ref 2), (1, mI x1), (3, mI x3)] _ _ _ from
  mm_E.goto (mm_atc mc56 rfl) rfl <|
  mm_E.to h ⟨rfl, rfl, rfl, trivial⟩
theorem p56_10_1 {d : Nat} {X : List Value} {A : MF} {r : MR} {x1 x2 x3 : Int} (H : R32 x3 ∧ x3 < 12 ∧ 0 ≤ x2 ∧ x2 < 6 ∧ 0 ≤ x3) (h : mm_E 1 d 56 10 [(0, .ref 2), (1, mI x1), (2, mI x2), (3, mI (x3 + 1))] [] (mm_w X (mm_u A (4 + x2.toNat) x3 0)) r) : mm_E 1 d 56 10 [(0, .ref 2), (1, mI x1), (2, mI x2), (3, mI x3)] [] (mm_w X A) r := by
  obtain ⟨h0, h1, h2, h3, h4⟩ := H
  exact mm_E.iload_n (mm_atc mc56 rfl) rfl <|
  mm_E.bipush (mm_atc mc56 rfl) rfl <|
  mm_E.if2 (mm_atc mc56 rfl) h0 (by decide) (ic_geF h1) rfl <|
  mm_E.aload_n (mm_atc mc56 rfl) rfl <|
  mm_E.getR (b := 3) (mm_atc mc56 rfl) (mm_plc mp56 rfl) rfl ly2 rfl <|
  mm_E.iload_n (mm_atc mc56 rfl) rfl <|
  mm_E.aaload (mm_atc mc56 rfl) ly3 rfl h2 h3 (la4 h2 h3) <|
  mm_E.iload_n (mm_atc mc56 rfl) rfl <|
  mm_E.iconst (mm_atc mc56 rfl) <|
  mm_E.iastore (e := x3) (z := 0) (mm_atc mc56 rfl) (lr4 h2 h3) rfl h4 h1 rfl (mm_ly_pos (lr4 h2 h3)) <|
  mm_E.inc mx56 rfl (mm_atc mc56 rfl) rfl <|
  show mm_E _ _ 56 28 [(3, mI (x3 + 1)), (0, .ref 2), (1, mI x1), (2, mI x2)] _ _ _ from
  mm_E.goto (mm_atc mc56 rfl) rfl <|
  mm_E.to h ⟨rfl, rfl, rfl, rfl, trivial⟩
theorem p61_0_0 {w d : Nat} {X : List Value} {A : MF} {r : MR} {x1 x2 : Int} (h : mm_E w d 61 5 [(0, .ref 2), (1, mI x1), (2, mI x2), (3, mI 0), (4, mI 0)] [] (mm_w X A) r) : mm_E w d 61 0 [(0, .ref 2), (1, mI x1), (2, mI x2)] [] (mm_w X A) r := by
  exact mm_E.iconst (mm_atc mc61 rfl) <|
  mm_E.istore_n mx61 rfl (mm_atc mc61 rfl) <|
  show mm_E _ _ 61 2 [(3, mI 0), (0, .ref 2), (1, mI x1), (2, mI x2)] _ _ _ from
  mm_E.iconst (mm_atc mc61 rfl) <|
  mm_E.istore mx61 rfl (mm_atc mc61 rfl) <|
  show mm_E _ _ 61 5 [(4, mI 0), (3, mI 0), (0, .ref 2), (1, mI x1), (2, mI x2)] _ _ _ from
  mm_E.to h ⟨rfl, rfl, rfl, rfl, rfl, trivial⟩
theorem p61_5_0 {w d : Nat} {X : List Value} {A : MF} {x1 x2 x3 x4 : Int} (H : R32 x4 ∧ R32 (A 2 1) ∧ A 2 1 ≤ x4) : mm_E w d 61 5 [(0, .ref 2), (1, mI x1), (2, mI x2), (3, mI x3), (4, mI x4)] [] (mm_w X A) (.inl (some (mI x3)), mm_w X A, 0, 0) := by
  obtain ⟨h0, h1, h2⟩ := H
  exact mm_E.iload (mm_atc mc61 rfl) rfl <|
  mm_E.aload_n (mm_atc mc61 rfl) rfl <|
  mm_E.getI (z := A 2 1) (mm_atc mc61 rfl) (mm_plc mp61 rfl) rfl ly2 rfl (rfl) <|
  mm_E.if2 (mm_atc mc61 rfl) h0 h1 (ic_geT h2) rfl <|
  mm_E.iload_n (mm_atc mc61 rfl) rfl <|
  mm_E.iret (mm_atc mc61 rfl) mr61 rfl
theorem p61_5_1 {w d : Nat} {X : List Value} {A : MF} {r : MR} {x1 x2 x3 x4 : Int} (H : R32 x4 ∧ R32 (A 2 1) ∧ x4 < A 2 1 ∧ 0 ≤ x4 ∧ x4 < 12 ∧ R32 (A 10 x4) ∧ R32 x2 ∧ A 10 x4 ≠ x2) (h : mm_E w d 61 5 [(0, .ref 2), (1, mI x1), (2, mI x2), (3, mI x3), (4, mI (x4 + 1))] [] (mm_w X A) r) : mm_E w d 61 5 [(0, .ref 2), (1, mI x1), (2, mI x2), (3, mI x3), (4, mI x4)] [] (mm_w X A) r := by
  obtain ⟨h0, h1, h2, h3, h4, h5, h6, h7⟩ := H
  exact mm_E.iload (mm_atc mc61 rfl) rfl <|
  mm_E.aload_n (mm_atc mc61 rfl) rfl <|
  mm_E.getI (z := A 2 1) (mm_atc mc61 rfl) (mm_plc mp61 rfl) rfl ly2 rfl (rfl) <|
  mm_E.if2 (mm_atc mc61 rfl) h0 h1 (ic_geF h2) rfl <|
  mm_E.aload_n (mm_atc mc61 rfl) rfl <|
  mm_E.getR (b := 10) (mm_atc mc61 rfl) (mm_plc mp61 rfl) rfl ly2 rfl <|
  mm_E.iload (mm_atc mc61 rfl) rfl <|
  mm_E.iaload (e := x4) (mm_atc mc61 rfl) ly10 rfl h3 h4 rfl (rfl) <|
  mm_E.iload_n (mm_atc mc61 rfl) rfl <|
  mm_E.if2 (mm_atc mc61 rfl) h5 h6 (ic_neT h7) rfl <|
  mm_E.inc mx61 rfl (mm_atc mc61 rfl) rfl <|
  show mm_E _ _ 61 40 [(4, mI (x4 + 1)), (0, .ref 2), (1, mI x1), (2, mI x2), (3, mI x3)] _ _ _ from
  mm_E.goto (mm_atc mc61 rfl) rfl <|
  mm_E.to h ⟨rfl, rfl, rfl, rfl, rfl, trivial⟩
theorem p61_5_2 {w d : Nat} {X : List Value} {A : MF} {r : MR} {x1 x2 x3 x4 : Int} (H : R32 x4 ∧ R32 (A 2 1) ∧ x4 < A 2 1 ∧ 0 ≤ x4 ∧ x4 < 12 ∧ R32 (A 10 x4) ∧ R32 x2 ∧ A 10 x4 = x2 ∧ 0 ≤ x1 ∧ x1 < 6) (h : mm_E w d 61 5 [(0, .ref 2), (1, mI x1), (2, mI x2), (3, mI (x3 + (A (4 + x1.toNat) x4))), (4, mI (x4 + 1))] [] (mm_w X A) r) : mm_E w d 61 5 [(0, .ref 2), (1, mI x1), (2, mI x2), (3, mI x3), (4, mI x4)] [] (mm_w X A) r := by
  obtain ⟨h0, h1, h2, h3, h4, h5, h6, h7, h8, h9⟩ := H
  exact mm_E.iload (mm_atc mc61 rfl) rfl <|
  mm_E.aload_n (mm_atc mc61 rfl) rfl <|
  mm_E.getI (z := A 2 1) (mm_atc mc61 rfl) (mm_plc mp61 rfl) rfl ly2 rfl (rfl) <|
  mm_E.if2 (mm_atc mc61 rfl) h0 h1 (ic_geF h2) rfl <|
  mm_E.aload_n (mm_atc mc61 rfl) rfl <|
  mm_E.getR (b := 10) (mm_atc mc61 rfl) (mm_plc mp61 rfl) rfl ly2 rfl <|
  mm_E.iload (mm_atc mc61 rfl) rfl <|
  mm_E.iaload (e := x4) (mm_atc mc61 rfl) ly10 rfl h3 h4 rfl (rfl) <|
  mm_E.iload_n (mm_atc mc61 rfl) rfl <|
  mm_E.if2 (mm_atc mc61 rfl) h5 h6 (ic_neF h7) rfl <|
  mm_E.iload_n (mm_atc mc61 rfl) rfl <|
  mm_E.aload_n (mm_atc mc61 rfl) rfl <|
  mm_E.getR (b := 3) (mm_atc mc61 rfl) (mm_plc mp61 rfl) rfl ly2 rfl <|
  mm_E.iload_n (mm_atc mc61 rfl) rfl <|
  mm_E.aaload (mm_atc mc61 rfl) ly3 rfl h8 h9 (la4 h8 h9) <|
  mm_E.iload (mm_atc mc61 rfl) rfl <|
  mm_E.iaload (e := x4) (mm_atc mc61 rfl) (lr4 h8 h9) rfl h3 h4 rfl (rfl) <|
  mm_E.iadd (mm_atc mc61 rfl) <|
  mm_E.istore_n mx61 rfl (mm_atc mc61 rfl) <|
  show mm_E _ _ 61 37 [(3, mI (x3 + (A (4 + x1.toNat) x4))), (0, .ref 2), (1, mI x1), (2, mI x2), (4, mI x4)] _ _ _ from
  mm_E.inc mx61 rfl (mm_atc mc61 rfl) rfl <|
  show mm_E _ _ 61 40 [(4, mI (x4 + 1)), (3, mI (x3 + (A (4 + x1.toNat) x4))), (0, .ref 2), (1, mI x1), (2, mI x2)] _ _ _ from
  mm_E.goto (mm_atc mc61 rfl) rfl <|
  mm_E.to h ⟨rfl, rfl, rfl, rfl, rfl, trivial⟩
theorem p62_0_0 {w d : Nat} {X : List Value} {A : MF} {x1 x2 x3 z0 z1 : Int} (s0 : mm_E w d 61 0 [(0, .ref 2), (1, mI x1), (2, mI x2)] [] (mm_w X A) (.inl (some (mI z0)), mm_w X A, 0, 0)) (s1 : mm_E w d 61 0 [(0, .ref 2), (1, mI x1), (2, mI x1)] [] (mm_w X A) (.inl (some (mI z1)), mm_w X A, 0, 0)) (H : R32 x3 ∧ x3 = 0 ∧ R32 (z0 - z1)) : mm_E w (d + 1) 62 0 [(0, .ref 2), (1, mI x1), (2, mI x2), (3, mI x3)] [] (mm_w X A) (.inl (some (mI (max 0 (z0 - z1)))), mm_w X A, 0, 0) := by
  obtain ⟨h0, h1, h2⟩ := H
  exact mm_E.aload_n (mm_atc mc62 rfl) rfl <|
  mm_E.iload_n (mm_atc mc62 rfl) rfl <|
  mm_E.iload_n (mm_atc mc62 rfl) rfl <|
  mm_E.callV0 (mm_atc mc62 rfl) (mm_plc mp62 rfl) rfl mk61 ly2 rfl mx61 rfl rfl s0 (by omega) <|
  show mm_E _ _ 62 6 _ _ _ _ from
  mm_E.istore mx62 rfl (mm_atc mc62 rfl) <|
  show mm_E _ _ 62 8 [(4, mI z0), (0, .ref 2), (1, mI x1), (2, mI x2), (3, mI x3)] _ _ _ from
  mm_E.iload_n (mm_atc mc62 rfl) rfl <|
  mm_E.if1 (mm_atc mc62 rfl) h0 (ic_eqT h1) rfl <|
  mm_E.iconst (mm_atc mc62 rfl) <|
  mm_E.iload (mm_atc mc62 rfl) rfl <|
  mm_E.aload_n (mm_atc mc62 rfl) rfl <|
  mm_E.iload_n (mm_atc mc62 rfl) rfl <|
  mm_E.iload_n (mm_atc mc62 rfl) rfl <|
  mm_E.callV0 (mm_atc mc62 rfl) (mm_plc mp62 rfl) rfl mk61 ly2 rfl mx61 rfl rfl s1 (by omega) <|
  show mm_E _ _ 62 32 _ _ _ _ from
  mm_E.isub (mm_atc mc62 rfl) <|
  mm_E.maxI (by decide) h2 (mm_atc mc62 rfl) (mm_plc mp62 rfl) rfl <|
  mm_E.iret (mm_atc mc62 rfl) mr62 rfl
theorem p62_0_1 {w d : Nat} {X : List Value} {A : MF} {x1 x2 x3 z0 z1 z2 : Int} (s0 : mm_E w d 61 0 [(0, .ref 2), (1, mI x1), (2, mI x2)] [] (mm_w X A) (.inl (some (mI z0)), mm_w X A, 0, 0)) (s1 : mm_E w d 63 0 [(0, .ref 2), (1, mI x1), (2, mI x2)] [] (mm_w X A) (.inl (some (mI z1)), mm_w X A, 0, 0)) (s2 : mm_E w d 61 0 [(0, .ref 2), (1, mI x1), (2, mI x1)] [] (mm_w X A) (.inl (some (mI z2)), mm_w X A, 0, 0)) (H : R32 x3 ∧ x3 ≠ 0 ∧ R32 ((z0 - z1) - z2)) : mm_E w (d + 1) 62 0 [(0, .ref 2), (1, mI x1), (2, mI x2), (3, mI x3)] [] (mm_w X A) (.inl (some (mI (max 0 ((z0 - z1) - z2)))), mm_w X A, 0, 0) := by
  obtain ⟨h0, h1, h2⟩ := H
  exact mm_E.aload_n (mm_atc mc62 rfl) rfl <|
  mm_E.iload_n (mm_atc mc62 rfl) rfl <|
  mm_E.iload_n (mm_atc mc62 rfl) rfl <|
  mm_E.callV0 (mm_atc mc62 rfl) (mm_plc mp62 rfl) rfl mk61 ly2 rfl mx61 rfl rfl s0 (by omega) <|
  show mm_E _ _ 62 6 _ _ _ _ from
  mm_E.istore mx62 rfl (mm_atc mc62 rfl) <|
  show mm_E _ _ 62 8 [(4, mI z0), (0, .ref 2), (1, mI x1), (2, mI x2), (3, mI x3)] _ _ _ from
  mm_E.iload_n (mm_atc mc62 rfl) rfl <|
  mm_E.if1 (mm_atc mc62 rfl) h0 (ic_eqF h1) rfl <|
  mm_E.iload (mm_atc mc62 rfl) rfl <|
  mm_E.aload_n (mm_atc mc62 rfl) rfl <|
  mm_E.iload_n (mm_atc mc62 rfl) rfl <|
  mm_E.iload_n (mm_atc mc62 rfl) rfl <|
  mm_E.callV0 (mm_atc mc62 rfl) (mm_plc mp62 rfl) rfl mk63 ly2 rfl mx63 rfl rfl s1 (by omega) <|
  show mm_E _ _ 62 20 _ _ _ _ from
  mm_E.isub (mm_atc mc62 rfl) <|
  mm_E.istore mx62 rfl (mm_atc mc62 rfl) <|
  show mm_E _ _ 62 23 [(4, mI (z0 - z1)), (0, .ref 2), (1, mI x1), (2, mI x2), (3, mI x3)] _ _ _ from
  mm_E.iconst (mm_atc mc62 rfl) <|
  mm_E.iload (mm_atc mc62 rfl) rfl <|
  mm_E.aload_n (mm_atc mc62 rfl) rfl <|
  mm_E.iload_n (mm_atc mc62 rfl) rfl <|
  mm_E.iload_n (mm_atc mc62 rfl) rfl <|
  mm_E.callV0 (mm_atc mc62 rfl) (mm_plc mp62 rfl) rfl mk61 ly2 rfl mx61 rfl rfl s2 (by omega) <|
  show mm_E _ _ 62 32 _ _ _ _ from
  mm_E.isub (mm_atc mc62 rfl) <|
  mm_E.maxI (by decide) h2 (mm_atc mc62 rfl) (mm_plc mp62 rfl) rfl <|
  mm_E.iret (mm_atc mc62 rfl) mr62 rfl
theorem p63_0_0 {w d : Nat} {X : List Value} {A : MF} {r : MR} {x1 x2 : Int} (h : mm_E w d 63 5 [(0, .ref 2), (1, mI x1), (2, mI x2), (3, mI 0), (4, mI 0)] [] (mm_w X A) r) : mm_E w d 63 0 [(0, .ref 2), (1, mI x1), (2, mI x2)] [] (mm_w X A) r := by
  exact mm_E.iconst (mm_atc mc63 rfl) <|
  mm_E.istore_n mx63 rfl (mm_atc mc63 rfl) <|
  show mm_E _ _ 63 2 [(3, mI 0), (0, .ref 2), (1, mI x1), (2, mI x2)] _ _ _ from
  mm_E.iconst (mm_atc mc63 rfl) <|
  mm_E.istore mx63 rfl (mm_atc mc63 rfl) <|
  show mm_E _ _ 63 5 [(4, mI 0), (3, mI 0), (0, .ref 2), (1, mI x1), (2, mI x2)] _ _ _ from
  mm_E.to h ⟨rfl, rfl, rfl, rfl, rfl, trivial⟩
theorem p63_5_0 {w d : Nat} {X : List Value} {A : MF} {x1 x2 x3 x4 : Int} (H : R32 x4 ∧ R32 (A 2 1) ∧ A 2 1 ≤ x4) : mm_E w d 63 5 [(0, .ref 2), (1, mI x1), (2, mI x2), (3, mI x3), (4, mI x4)] [] (mm_w X A) (.inl (some (mI x3)), mm_w X A, 0, 0) := by
  obtain ⟨h0, h1, h2⟩ := H
  exact mm_E.iload (mm_atc mc63 rfl) rfl <|
  mm_E.aload_n (mm_atc mc63 rfl) rfl <|
  mm_E.getI (z := A 2 1) (mm_atc mc63 rfl) (mm_plc mp63 rfl) rfl ly2 rfl (rfl) <|
  mm_E.if2 (mm_atc mc63 rfl) h0 h1 (ic_geT h2) rfl <|
  mm_E.iload_n (mm_atc mc63 rfl) rfl <|
  mm_E.iret (mm_atc mc63 rfl) mr63 rfl
theorem p63_5_1 {w d : Nat} {X : List Value} {A : MF} {r : MR} {x1 x2 x3 x4 : Int} (H : R32 x4 ∧ R32 (A 2 1) ∧ x4 < A 2 1 ∧ 0 ≤ x4 ∧ x4 < 12 ∧ R32 (A 10 x4) ∧ R32 x2 ∧ A 10 x4 ≠ x2) (h : mm_E w d 63 5 [(0, .ref 2), (1, mI x1), (2, mI x2), (3, mI x3), (4, mI (x4 + 1))] [] (mm_w X A) r) : mm_E w d 63 5 [(0, .ref 2), (1, mI x1), (2, mI x2), (3, mI x3), (4, mI x4)] [] (mm_w X A) r := by
  obtain ⟨h0, h1, h2, h3, h4, h5, h6, h7⟩ := H
  exact mm_E.iload (mm_atc mc63 rfl) rfl <|
  mm_E.aload_n (mm_atc mc63 rfl) rfl <|
  mm_E.getI (z := A 2 1) (mm_atc mc63 rfl) (mm_plc mp63 rfl) rfl ly2 rfl (rfl) <|
  mm_E.if2 (mm_atc mc63 rfl) h0 h1 (ic_geF h2) rfl <|
  mm_E.aload_n (mm_atc mc63 rfl) rfl <|
  mm_E.getR (b := 10) (mm_atc mc63 rfl) (mm_plc mp63 rfl) rfl ly2 rfl <|
  mm_E.iload (mm_atc mc63 rfl) rfl <|
  mm_E.iaload (e := x4) (mm_atc mc63 rfl) ly10 rfl h3 h4 rfl (rfl) <|
  mm_E.iload_n (mm_atc mc63 rfl) rfl <|
  mm_E.if2 (mm_atc mc63 rfl) h5 h6 (ic_neT h7) rfl <|
  mm_E.inc mx63 rfl (mm_atc mc63 rfl) rfl <|
  show mm_E _ _ 63 42 [(4, mI (x4 + 1)), (0, .ref 2), (1, mI x1), (2, mI x2), (3, mI x3)] _ _ _ from
  mm_E.goto (mm_atc mc63 rfl) rfl <|
  mm_E.to h ⟨rfl, rfl, rfl, rfl, rfl, trivial⟩
theorem p63_5_2 {w d : Nat} {X : List Value} {A : MF} {r : MR} {x1 x2 x3 x4 : Int} (H : R32 x4 ∧ R32 (A 2 1) ∧ x4 < A 2 1 ∧ 0 ≤ x4 ∧ x4 < 12 ∧ R32 (A 10 x4) ∧ R32 x2 ∧ A 10 x4 = x2 ∧ 0 ≤ x1 ∧ x1 < 6 ∧ R32 x3 ∧ R32 (A (4 + x1.toNat) x4)) (h : mm_E w (d + 1) 63 5 [(0, .ref 2), (1, mI x1), (2, mI x2), (3, mI (max x3 (A (4 + x1.toNat) x4))), (4, mI (x4 + 1))] [] (mm_w X A) r) : mm_E w (d + 1) 63 5 [(0, .ref 2), (1, mI x1), (2, mI x2), (3, mI x3), (4, mI x4)] [] (mm_w X A) r := by
  obtain ⟨h0, h1, h2, h3, h4, h5, h6, h7, h8, h9, h10, h11⟩ := H
  exact mm_E.iload (mm_atc mc63 rfl) rfl <|
  mm_E.aload_n (mm_atc mc63 rfl) rfl <|
  mm_E.getI (z := A 2 1) (mm_atc mc63 rfl) (mm_plc mp63 rfl) rfl ly2 rfl (rfl) <|
  mm_E.if2 (mm_atc mc63 rfl) h0 h1 (ic_geF h2) rfl <|
  mm_E.aload_n (mm_atc mc63 rfl) rfl <|
  mm_E.getR (b := 10) (mm_atc mc63 rfl) (mm_plc mp63 rfl) rfl ly2 rfl <|
  mm_E.iload (mm_atc mc63 rfl) rfl <|
  mm_E.iaload (e := x4) (mm_atc mc63 rfl) ly10 rfl h3 h4 rfl (rfl) <|
  mm_E.iload_n (mm_atc mc63 rfl) rfl <|
  mm_E.if2 (mm_atc mc63 rfl) h5 h6 (ic_neF h7) rfl <|
  mm_E.iload_n (mm_atc mc63 rfl) rfl <|
  mm_E.aload_n (mm_atc mc63 rfl) rfl <|
  mm_E.getR (b := 3) (mm_atc mc63 rfl) (mm_plc mp63 rfl) rfl ly2 rfl <|
  mm_E.iload_n (mm_atc mc63 rfl) rfl <|
  mm_E.aaload (mm_atc mc63 rfl) ly3 rfl h8 h9 (la4 h8 h9) <|
  mm_E.iload (mm_atc mc63 rfl) rfl <|
  mm_E.iaload (e := x4) (mm_atc mc63 rfl) (lr4 h8 h9) rfl h3 h4 rfl (rfl) <|
  mm_E.maxI h10 h11 (mm_atc mc63 rfl) (mm_plc mp63 rfl) rfl <|
  mm_E.istore_n mx63 rfl (mm_atc mc63 rfl) <|
  show mm_E _ _ 63 39 [(3, mI (max x3 (A (4 + x1.toNat) x4))), (0, .ref 2), (1, mI x1), (2, mI x2), (4, mI x4)] _ _ _ from
  mm_E.inc mx63 rfl (mm_atc mc63 rfl) rfl <|
  show mm_E _ _ 63 42 [(4, mI (x4 + 1)), (3, mI (max x3 (A (4 + x1.toNat) x4))), (0, .ref 2), (1, mI x1), (2, mI x2)] _ _ _ from
  mm_E.goto (mm_atc mc63 rfl) rfl <|
  mm_E.to h ⟨rfl, rfl, rfl, rfl, rfl, trivial⟩
theorem p64_0_0 {w d : Nat} {X : List Value} {A : MF} {r : MR}  (h : mm_E w d 64 4 [(0, .ref 2), (1, mI 1), (2, mI 0)] [] (mm_w X A) r) : mm_E w d 64 0 [(0, .ref 2)] [] (mm_w X A) r := by
  exact mm_E.iconst (mm_atc mc64 rfl) <|
  mm_E.istore_n mx64 rfl (mm_atc mc64 rfl) <|
  show mm_E _ _ 64 2 [(1, mI 1), (0, .ref 2)] _ _ _ from
  mm_E.iconst (mm_atc mc64 rfl) <|
  mm_E.istore_n mx64 rfl (mm_atc mc64 rfl) <|
  show mm_E _ _ 64 4 [(2, mI 0), (1, mI 1), (0, .ref 2)] _ _ _ from
  mm_E.to h ⟨rfl, rfl, rfl, trivial⟩
theorem p64_4_0 {w d : Nat} {X : List Value} {A : MF} {x1 x2 : Int} (H : R32 x2 ∧ R32 (A 2 1) ∧ A 2 1 ≤ x2 ∧ R32 x1 ∧ 65536 < x1) : mm_E w d 64 4 [(0, .ref 2), (1, mI x1), (2, mI x2)] [] (mm_w X A) (.inl (some (mI 0)), mm_w X A, 0, 0) := by
  obtain ⟨h0, h1, h2, h3, h4⟩ := H
  exact mm_E.iload_n (mm_atc mc64 rfl) rfl <|
  mm_E.aload_n (mm_atc mc64 rfl) rfl <|
  mm_E.getI (z := A 2 1) (mm_atc mc64 rfl) (mm_plc mp64 rfl) rfl ly2 rfl (rfl) <|
  mm_E.if2 (mm_atc mc64 rfl) h0 h1 (ic_geT h2) rfl <|
  mm_E.iload_n (mm_atc mc64 rfl) rfl <|
  mm_E.ldc (mm_atc mc64 rfl) (mm_plc mp64 rfl) <|
  mm_E.if2 (mm_atc mc64 rfl) h3 (by decide) (ic_gtT h4) rfl <|
  mm_E.iconst (mm_atc mc64 rfl) <|
  mm_E.iret (mm_atc mc64 rfl) mr64 rfl
theorem p64_4_1 {w d : Nat} {X : List Value} {A : MF} {x1 x2 : Int} (H : R32 x2 ∧ R32 (A 2 1) ∧ A 2 1 ≤ x2 ∧ R32 x1 ∧ x1 ≤ 65536) : mm_E w d 64 4 [(0, .ref 2), (1, mI x1), (2, mI x2)] [] (mm_w X A) (.inl (some (mI 1)), mm_w X A, 0, 0) := by
  obtain ⟨h0, h1, h2, h3, h4⟩ := H
  exact mm_E.iload_n (mm_atc mc64 rfl) rfl <|
  mm_E.aload_n (mm_atc mc64 rfl) rfl <|
  mm_E.getI (z := A 2 1) (mm_atc mc64 rfl) (mm_plc mp64 rfl) rfl ly2 rfl (rfl) <|
  mm_E.if2 (mm_atc mc64 rfl) h0 h1 (ic_geT h2) rfl <|
  mm_E.iload_n (mm_atc mc64 rfl) rfl <|
  mm_E.ldc (mm_atc mc64 rfl) (mm_plc mp64 rfl) <|
  mm_E.if2 (mm_atc mc64 rfl) h3 (by decide) (ic_gtF h4) rfl <|
  mm_E.iconst (mm_atc mc64 rfl) <|
  mm_E.goto (mm_atc mc64 rfl) rfl <|
  mm_E.iret (mm_atc mc64 rfl) mr64 rfl
theorem p64_4_2 {w d : Nat} {X : List Value} {A : MF} {x1 x2 : Int} (H : R32 x2 ∧ R32 (A 2 1) ∧ x2 < A 2 1 ∧ R32 x1 ∧ 65536 < x1) : mm_E w d 64 4 [(0, .ref 2), (1, mI x1), (2, mI x2)] [] (mm_w X A) (.inl (some (mI 0)), mm_w X A, 0, 0) := by
  obtain ⟨h0, h1, h2, h3, h4⟩ := H
  exact mm_E.iload_n (mm_atc mc64 rfl) rfl <|
  mm_E.aload_n (mm_atc mc64 rfl) rfl <|
  mm_E.getI (z := A 2 1) (mm_atc mc64 rfl) (mm_plc mp64 rfl) rfl ly2 rfl (rfl) <|
  mm_E.if2 (mm_atc mc64 rfl) h0 h1 (ic_geF h2) rfl <|
  mm_E.iload_n (mm_atc mc64 rfl) rfl <|
  mm_E.ldc (mm_atc mc64 rfl) (mm_plc mp64 rfl) <|
  mm_E.if2 (mm_atc mc64 rfl) h3 (by decide) (ic_gtT h4) rfl <|
  mm_E.iload_n (mm_atc mc64 rfl) rfl <|
  mm_E.ldc (mm_atc mc64 rfl) (mm_plc mp64 rfl) <|
  mm_E.if2 (mm_atc mc64 rfl) h3 (by decide) (ic_gtT h4) rfl <|
  mm_E.iconst (mm_atc mc64 rfl) <|
  mm_E.iret (mm_atc mc64 rfl) mr64 rfl
theorem p64_4_3 {w d : Nat} {X : List Value} {A : MF} {r : MR} {x1 x2 : Int} (H : R32 x2 ∧ R32 (A 2 1) ∧ x2 < A 2 1 ∧ R32 x1 ∧ x1 ≤ 65536) (h : mm_E w d 64 4 [(0, .ref 2), (1, mI (x1 * (A 2 0))), (2, mI (x2 + 1))] [] (mm_w X A) r) : mm_E w d 64 4 [(0, .ref 2), (1, mI x1), (2, mI x2)] [] (mm_w X A) r := by
  obtain ⟨h0, h1, h2, h3, h4⟩ := H
  exact mm_E.iload_n (mm_atc mc64 rfl) rfl <|
  mm_E.aload_n (mm_atc mc64 rfl) rfl <|
  mm_E.getI (z := A 2 1) (mm_atc mc64 rfl) (mm_plc mp64 rfl) rfl ly2 rfl (rfl) <|
  mm_E.if2 (mm_atc mc64 rfl) h0 h1 (ic_geF h2) rfl <|
  mm_E.iload_n (mm_atc mc64 rfl) rfl <|
  mm_E.ldc (mm_atc mc64 rfl) (mm_plc mp64 rfl) <|
  mm_E.if2 (mm_atc mc64 rfl) h3 (by decide) (ic_gtF h4) rfl <|
  mm_E.iload_n (mm_atc mc64 rfl) rfl <|
  mm_E.aload_n (mm_atc mc64 rfl) rfl <|
  mm_E.getI (z := A 2 0) (mm_atc mc64 rfl) (mm_plc mp64 rfl) rfl ly2 rfl (rfl) <|
  mm_E.imul (mm_atc mc64 rfl) <|
  mm_E.istore_n mx64 rfl (mm_atc mc64 rfl) <|
  show mm_E _ _ 64 25 [(1, mI (x1 * (A 2 0))), (0, .ref 2), (2, mI x2)] _ _ _ from
  mm_E.inc mx64 rfl (mm_atc mc64 rfl) rfl <|
  show mm_E _ _ 64 28 [(2, mI (x2 + 1)), (1, mI (x1 * (A 2 0))), (0, .ref 2)] _ _ _ from
  mm_E.goto (mm_atc mc64 rfl) rfl <|
  mm_E.to h ⟨rfl, rfl, rfl, trivial⟩
theorem p65_0_0 {d : Nat} {X : List Value} {A : MF} {r : MR} {x1 : Int} {A0 : MF} (s0 : mm_E 1 d 73 0 [(0, .ref 2)] [] (mm_w X A) (.inl (none), mm_w X A0, 0, 0)) (h : mm_E 1 (d + 1) 65 8 [(0, .ref 2), (2, mI x1), (3, mI 0)] [] (mm_w X A0) r) : mm_E 1 (d + 1) 65 0 [(0, .ref 2), (1, mI x1)] [] (mm_w X A) r := by
  exact mm_E.aload_n (mm_atc mc65 rfl) rfl <|
  mm_E.callV0 (mm_atc mc65 rfl) (mm_plc mp65 rfl) rfl mk73 ly2 rfl mx73 rfl rfl s0 (by omega) <|
  show mm_E _ _ 65 4 _ _ _ _ from
  mm_E.iload_n (mm_atc mc65 rfl) rfl <|
  mm_E.istore_n mx65 rfl (mm_atc mc65 rfl) <|
  show mm_E _ _ 65 6 [(2, mI x1), (0, .ref 2), (1, mI x1)] _ _ _ from
  mm_E.iconst (mm_atc mc65 rfl) <|
  mm_E.istore_n mx65 rfl (mm_atc mc65 rfl) <|
  show mm_E _ _ 65 8 [(3, mI 0), (2, mI x1), (0, .ref 2), (1, mI x1)] _ _ _ from
  mm_E.to h ⟨rfl, rfl, rfl, trivial⟩
theorem p65_8_0 {w d : Nat} {X : List Value} {A : MF} {x2 x3 : Int} (H : R32 x3 ∧ R32 (A 2 1) ∧ A 2 1 ≤ x3) : mm_E w d 65 8 [(0, .ref 2), (2, mI x2), (3, mI x3)] [] (mm_w X A) (.inl (none), mm_w X A, 0, 0) := by
  obtain ⟨h0, h1, h2⟩ := H
  exact mm_E.iload_n (mm_atc mc65 rfl) rfl <|
  mm_E.aload_n (mm_atc mc65 rfl) rfl <|
  mm_E.getI (z := A 2 1) (mm_atc mc65 rfl) (mm_plc mp65 rfl) rfl ly2 rfl (rfl) <|
  mm_E.if2 (mm_atc mc65 rfl) h0 h1 (ic_geT h2) rfl <|
  mm_E.vret (mm_atc mc65 rfl) mr65
theorem p65_8_1 {w d : Nat} {X : List Value} {A : MF} {r : MR} {x2 x3 z0 : Int} (s0 : mm_E w d 66 0 [(0, .ref 2), (1, mI x2)] [] (mm_w X A) (.inl (some (mI z0)), mm_w X A, 0, 0)) (H : R32 x3 ∧ R32 (A 2 1) ∧ x3 < A 2 1 ∧ R32 z0 ∧ z0 = (-1) ∧ R32 (x2 + 1) ∧ R32 (A 2 0) ∧ A 2 0 ≤ x2 + 1) (h : mm_E w (d + 1) 65 8 [(0, .ref 2), (2, mI 0), (3, mI (x3 + 1))] [] (mm_w X A) r) : mm_E w (d + 1) 65 8 [(0, .ref 2), (2, mI x2), (3, mI x3)] [] (mm_w X A) r := by
  obtain ⟨h0, h1, h2, h3, h4, h5, h6, h7⟩ := H
  exact mm_E.iload_n (mm_atc mc65 rfl) rfl <|
  mm_E.aload_n (mm_atc mc65 rfl) rfl <|
  mm_E.getI (z := A 2 1) (mm_atc mc65 rfl) (mm_plc mp65 rfl) rfl ly2 rfl (rfl) <|
  mm_E.if2 (mm_atc mc65 rfl) h0 h1 (ic_geF h2) rfl <|
  mm_E.aload_n (mm_atc mc65 rfl) rfl <|
  mm_E.iload_n (mm_atc mc65 rfl) rfl <|
  mm_E.callV0 (mm_atc mc65 rfl) (mm_plc mp65 rfl) rfl mk66 ly2 rfl mx66 rfl rfl s0 (by omega) <|
  show mm_E _ _ 65 21 _ _ _ _ from
  mm_E.istore mx65 rfl (mm_atc mc65 rfl) <|
  show mm_E _ _ 65 23 [(4, mI z0), (0, .ref 2), (2, mI x2), (3, mI x3)] _ _ _ from
  mm_E.iload (mm_atc mc65 rfl) rfl <|
  mm_E.iconst (mm_atc mc65 rfl) <|
  mm_E.if2 (mm_atc mc65 rfl) h3 (by decide) (ic_eqT h4) rfl <|
  mm_E.iload_n (mm_atc mc65 rfl) rfl <|
  mm_E.iconst (mm_atc mc65 rfl) <|
  mm_E.iadd (mm_atc mc65 rfl) <|
  mm_E.aload_n (mm_atc mc65 rfl) rfl <|
  mm_E.getI (z := A 2 0) (mm_atc mc65 rfl) (mm_plc mp65 rfl) rfl ly2 rfl (rfl) <|
  mm_E.if2 (mm_atc mc65 rfl) h5 h6 (ic_geT h7) rfl <|
  mm_E.iconst (mm_atc mc65 rfl) <|
  mm_E.istore_n mx65 rfl (mm_atc mc65 rfl) <|
  show mm_E _ _ 65 55 [(2, mI 0), (4, mI z0), (0, .ref 2), (3, mI x3)] _ _ _ from
  mm_E.inc mx65 rfl (mm_atc mc65 rfl) rfl <|
  show mm_E _ _ 65 58 [(3, mI (x3 + 1)), (2, mI 0), (4, mI z0), (0, .ref 2)] _ _ _ from
  mm_E.goto (mm_atc mc65 rfl) rfl <|
  mm_E.to h ⟨rfl, rfl, rfl, trivial⟩
theorem p65_8_2 {w d : Nat} {X : List Value} {A : MF} {r : MR} {x2 x3 z0 : Int} (s0 : mm_E w d 66 0 [(0, .ref 2), (1, mI x2)] [] (mm_w X A) (.inl (some (mI z0)), mm_w X A, 0, 0)) (H : R32 x3 ∧ R32 (A 2 1) ∧ x3 < A 2 1 ∧ R32 z0 ∧ z0 = (-1) ∧ R32 (x2 + 1) ∧ R32 (A 2 0) ∧ x2 + 1 < A 2 0) (h : mm_E w (d + 1) 65 8 [(0, .ref 2), (2, mI (x2 + 1)), (3, mI (x3 + 1))] [] (mm_w X A) r) : mm_E w (d + 1) 65 8 [(0, .ref 2), (2, mI x2), (3, mI x3)] [] (mm_w X A) r := by
  obtain ⟨h0, h1, h2, h3, h4, h5, h6, h7⟩ := H
  exact mm_E.iload_n (mm_atc mc65 rfl) rfl <|
  mm_E.aload_n (mm_atc mc65 rfl) rfl <|
  mm_E.getI (z := A 2 1) (mm_atc mc65 rfl) (mm_plc mp65 rfl) rfl ly2 rfl (rfl) <|
  mm_E.if2 (mm_atc mc65 rfl) h0 h1 (ic_geF h2) rfl <|
  mm_E.aload_n (mm_atc mc65 rfl) rfl <|
  mm_E.iload_n (mm_atc mc65 rfl) rfl <|
  mm_E.callV0 (mm_atc mc65 rfl) (mm_plc mp65 rfl) rfl mk66 ly2 rfl mx66 rfl rfl s0 (by omega) <|
  show mm_E _ _ 65 21 _ _ _ _ from
  mm_E.istore mx65 rfl (mm_atc mc65 rfl) <|
  show mm_E _ _ 65 23 [(4, mI z0), (0, .ref 2), (2, mI x2), (3, mI x3)] _ _ _ from
  mm_E.iload (mm_atc mc65 rfl) rfl <|
  mm_E.iconst (mm_atc mc65 rfl) <|
  mm_E.if2 (mm_atc mc65 rfl) h3 (by decide) (ic_eqT h4) rfl <|
  mm_E.iload_n (mm_atc mc65 rfl) rfl <|
  mm_E.iconst (mm_atc mc65 rfl) <|
  mm_E.iadd (mm_atc mc65 rfl) <|
  mm_E.aload_n (mm_atc mc65 rfl) rfl <|
  mm_E.getI (z := A 2 0) (mm_atc mc65 rfl) (mm_plc mp65 rfl) rfl ly2 rfl (rfl) <|
  mm_E.if2 (mm_atc mc65 rfl) h5 h6 (ic_geF h7) rfl <|
  mm_E.iload_n (mm_atc mc65 rfl) rfl <|
  mm_E.iconst (mm_atc mc65 rfl) <|
  mm_E.iadd (mm_atc mc65 rfl) <|
  mm_E.goto (mm_atc mc65 rfl) rfl <|
  mm_E.istore_n mx65 rfl (mm_atc mc65 rfl) <|
  show mm_E _ _ 65 55 [(2, mI (x2 + 1)), (4, mI z0), (0, .ref 2), (3, mI x3)] _ _ _ from
  mm_E.inc mx65 rfl (mm_atc mc65 rfl) rfl <|
  show mm_E _ _ 65 58 [(3, mI (x3 + 1)), (2, mI (x2 + 1)), (4, mI z0), (0, .ref 2)] _ _ _ from
  mm_E.goto (mm_atc mc65 rfl) rfl <|
  mm_E.to h ⟨rfl, rfl, rfl, trivial⟩
theorem p65_8_3 {d : Nat} {X : List Value} {A : MF} {r : MR} {x2 x3 z0 : Int} (s0 : mm_E 1 d 66 0 [(0, .ref 2), (1, mI x2)] [] (mm_w X A) (.inl (some (mI z0)), mm_w X A, 0, 0)) (H : R32 x3 ∧ R32 (A 2 1) ∧ x3 < A 2 1 ∧ R32 z0 ∧ z0 ≠ (-1) ∧ 0 ≤ z0 ∧ z0 < 12 ∧ R32 (x2 + 1) ∧ R32 (A 2 0) ∧ A 2 0 ≤ x2 + 1) (h : mm_E 1 (d + 1) 65 8 [(0, .ref 2), (2, mI 0), (3, mI (x3 + 1))] [] (mm_w X (mm_u A 10 z0 x2)) r) : mm_E 1 (d + 1) 65 8 [(0, .ref 2), (2, mI x2), (3, mI x3)] [] (mm_w X A) r := by
  obtain ⟨h0, h1, h2, h3, h4, h5, h6, h7, h8, h9⟩ := H
  exact mm_E.iload_n (mm_atc mc65 rfl) rfl <|
  mm_E.aload_n (mm_atc mc65 rfl) rfl <|
  mm_E.getI (z := A 2 1) (mm_atc mc65 rfl) (mm_plc mp65 rfl) rfl ly2 rfl (rfl) <|
  mm_E.if2 (mm_atc mc65 rfl) h0 h1 (ic_geF h2) rfl <|
  mm_E.aload_n (mm_atc mc65 rfl) rfl <|
  mm_E.iload_n (mm_atc mc65 rfl) rfl <|
  mm_E.callV0 (mm_atc mc65 rfl) (mm_plc mp65 rfl) rfl mk66 ly2 rfl mx66 rfl rfl s0 (by omega) <|
  show mm_E _ _ 65 21 _ _ _ _ from
  mm_E.istore mx65 rfl (mm_atc mc65 rfl) <|
  show mm_E _ _ 65 23 [(4, mI z0), (0, .ref 2), (2, mI x2), (3, mI x3)] _ _ _ from
  mm_E.iload (mm_atc mc65 rfl) rfl <|
  mm_E.iconst (mm_atc mc65 rfl) <|
  mm_E.if2 (mm_atc mc65 rfl) h3 (by decide) (ic_eqF h4) rfl <|
  mm_E.aload_n (mm_atc mc65 rfl) rfl <|
  mm_E.getR (b := 10) (mm_atc mc65 rfl) (mm_plc mp65 rfl) rfl ly2 rfl <|
  mm_E.iload (mm_atc mc65 rfl) rfl <|
  mm_E.iload_n (mm_atc mc65 rfl) rfl <|
  mm_E.iastore (e := z0) (z := x2) (mm_atc mc65 rfl) ly10 rfl h5 h6 rfl rfl <|
  mm_E.iload_n (mm_atc mc65 rfl) rfl <|
  mm_E.iconst (mm_atc mc65 rfl) <|
  mm_E.iadd (mm_atc mc65 rfl) <|
  mm_E.aload_n (mm_atc mc65 rfl) rfl <|
  mm_E.getI (z := A 2 0) (mm_atc mc65 rfl) (mm_plc mp65 rfl) rfl ly2 rfl ((mm_u_ne (.inl (by decide))).trans (rfl)) <|
  mm_E.if2 (mm_atc mc65 rfl) h7 h8 (ic_geT h9) rfl <|
  mm_E.iconst (mm_atc mc65 rfl) <|
  mm_E.istore_n mx65 rfl (mm_atc mc65 rfl) <|
  show mm_E _ _ 65 55 [(2, mI 0), (4, mI z0), (0, .ref 2), (3, mI x3)] _ _ _ from
  mm_E.inc mx65 rfl (mm_atc mc65 rfl) rfl <|
  show mm_E _ _ 65 58 [(3, mI (x3 + 1)), (2, mI 0), (4, mI z0), (0, .ref 2)] _ _ _ from
  mm_E.goto (mm_atc mc65 rfl) rfl <|
  mm_E.to h ⟨rfl, rfl, rfl, trivial⟩
theorem p65_8_4 {d : Nat} {X : List Value} {A : MF} {r : MR} {x2 x3 z0 : Int} (s0 : mm_E 1 d 66 0 [(0, .ref 2), (1, mI x2)] [] (mm_w X A) (.inl (some (mI z0)), mm_w X A, 0, 0)) (H : R32 x3 ∧ R32 (A 2 1) ∧ x3 < A 2 1 ∧ R32 z0 ∧ z0 ≠ (-1) ∧ 0 ≤ z0 ∧ z0 < 12 ∧ R32 (x2 + 1) ∧ R32 (A 2 0) ∧ x2 + 1 < A 2 0) (h : mm_E 1 (d + 1) 65 8 [(0, .ref 2), (2, mI (x2 + 1)), (3, mI (x3 + 1))] [] (mm_w X (mm_u A 10 z0 x2)) r) : mm_E 1 (d + 1) 65 8 [(0, .ref 2), (2, mI x2), (3, mI x3)] [] (mm_w X A) r := by
  obtain ⟨h0, h1, h2, h3, h4, h5, h6, h7, h8, h9⟩ := H
  exact mm_E.iload_n (mm_atc mc65 rfl) rfl <|
  mm_E.aload_n (mm_atc mc65 rfl) rfl <|
  mm_E.getI (z := A 2 1) (mm_atc mc65 rfl) (mm_plc mp65 rfl) rfl ly2 rfl (rfl) <|
  mm_E.if2 (mm_atc mc65 rfl) h0 h1 (ic_geF h2) rfl <|
  mm_E.aload_n (mm_atc mc65 rfl) rfl <|
  mm_E.iload_n (mm_atc mc65 rfl) rfl <|
  mm_E.callV0 (mm_atc mc65 rfl) (mm_plc mp65 rfl) rfl mk66 ly2 rfl mx66 rfl rfl s0 (by omega) <|
  show mm_E _ _ 65 21 _ _ _ _ from
  mm_E.istore mx65 rfl (mm_atc mc65 rfl) <|
  show mm_E _ _ 65 23 [(4, mI z0), (0, .ref 2), (2, mI x2), (3, mI x3)] _ _ _ from
  mm_E.iload (mm_atc mc65 rfl) rfl <|
  mm_E.iconst (mm_atc mc65 rfl) <|
  mm_E.if2 (mm_atc mc65 rfl) h3 (by decide) (ic_eqF h4) rfl <|
  mm_E.aload_n (mm_atc mc65 rfl) rfl <|
  mm_E.getR (b := 10) (mm_atc mc65 rfl) (mm_plc mp65 rfl) rfl ly2 rfl <|
  mm_E.iload (mm_atc mc65 rfl) rfl <|
  mm_E.iload_n (mm_atc mc65 rfl) rfl <|
  mm_E.iastore (e := z0) (z := x2) (mm_atc mc65 rfl) ly10 rfl h5 h6 rfl rfl <|
  mm_E.iload_n (mm_atc mc65 rfl) rfl <|
  mm_E.iconst (mm_atc mc65 rfl) <|
  mm_E.iadd (mm_atc mc65 rfl) <|
  mm_E.aload_n (mm_atc mc65 rfl) rfl <|
  mm_E.getI (z := A 2 0) (mm_atc mc65 rfl) (mm_plc mp65 rfl) rfl ly2 rfl ((mm_u_ne (.inl (by decide))).trans (rfl)) <|
  mm_E.if2 (mm_atc mc65 rfl) h7 h8 (ic_geF h9) rfl <|
  mm_E.iload_n (mm_atc mc65 rfl) rfl <|
  mm_E.iconst (mm_atc mc65 rfl) <|
  mm_E.iadd (mm_atc mc65 rfl) <|
  mm_E.goto (mm_atc mc65 rfl) rfl <|
  mm_E.istore_n mx65 rfl (mm_atc mc65 rfl) <|
  show mm_E _ _ 65 55 [(2, mI (x2 + 1)), (4, mI z0), (0, .ref 2), (3, mI x3)] _ _ _ from
  mm_E.inc mx65 rfl (mm_atc mc65 rfl) rfl <|
  show mm_E _ _ 65 58 [(3, mI (x3 + 1)), (2, mI (x2 + 1)), (4, mI z0), (0, .ref 2)] _ _ _ from
  mm_E.goto (mm_atc mc65 rfl) rfl <|
  mm_E.to h ⟨rfl, rfl, rfl, trivial⟩
theorem p66_0_0 {w d : Nat} {X : List Value} {A : MF} {r : MR} {x1 : Int} (h : mm_E w d 66 4 [(0, .ref 2), (1, mI x1), (2, mI (-1)), (3, mI 0)] [] (mm_w X A) r) : mm_E w d 66 0 [(0, .ref 2), (1, mI x1)] [] (mm_w X A) r := by
  exact mm_E.iconst (mm_atc mc66 rfl) <|
  mm_E.istore_n mx66 rfl (mm_atc mc66 rfl) <|
  show mm_E _ _ 66 2 [(2, mI (-1)), (0, .ref 2), (1, mI x1)] _ _ _ from
  mm_E.iconst (mm_atc mc66 rfl) <|
  mm_E.istore_n mx66 rfl (mm_atc mc66 rfl) <|
  show mm_E _ _ 66 4 [(3, mI 0), (2, mI (-1)), (0, .ref 2), (1, mI x1)] _ _ _ from
  mm_E.to h ⟨rfl, rfl, rfl, rfl, trivial⟩
theorem p66_4_0 {w d : Nat} {X : List Value} {A : MF} {x1 x2 x3 : Int} (H : R32 x3 ∧ R32 (A 2 1) ∧ A 2 1 ≤ x3) : mm_E w d 66 4 [(0, .ref 2), (1, mI x1), (2, mI x2), (3, mI x3)] [] (mm_w X A) (.inl (some (mI x2)), mm_w X A, 0, 0) := by
  obtain ⟨h0, h1, h2⟩ := H
  exact mm_E.iload_n (mm_atc mc66 rfl) rfl <|
  mm_E.aload_n (mm_atc mc66 rfl) rfl <|
  mm_E.getI (z := A 2 1) (mm_atc mc66 rfl) (mm_plc mp66 rfl) rfl ly2 rfl (rfl) <|
  mm_E.if2 (mm_atc mc66 rfl) h0 h1 (ic_geT h2) rfl <|
  mm_E.iload_n (mm_atc mc66 rfl) rfl <|
  mm_E.iret (mm_atc mc66 rfl) mr66 rfl
theorem p66_4_1 {w d : Nat} {X : List Value} {A : MF} {r : MR} {x1 x2 x3 : Int} (H : R32 x3 ∧ R32 (A 2 1) ∧ x3 < A 2 1 ∧ 0 ≤ x3 ∧ x3 < 12 ∧ R32 (A 10 x3) ∧ A 10 x3 ≠ (-1)) (h : mm_E w d 66 4 [(0, .ref 2), (1, mI x1), (2, mI x2), (3, mI (x3 + 1))] [] (mm_w X A) r) : mm_E w d 66 4 [(0, .ref 2), (1, mI x1), (2, mI x2), (3, mI x3)] [] (mm_w X A) r := by
  obtain ⟨h0, h1, h2, h3, h4, h5, h6⟩ := H
  exact mm_E.iload_n (mm_atc mc66 rfl) rfl <|
  mm_E.aload_n (mm_atc mc66 rfl) rfl <|
  mm_E.getI (z := A 2 1) (mm_atc mc66 rfl) (mm_plc mp66 rfl) rfl ly2 rfl (rfl) <|
  mm_E.if2 (mm_atc mc66 rfl) h0 h1 (ic_geF h2) rfl <|
  mm_E.aload_n (mm_atc mc66 rfl) rfl <|
  mm_E.getR (b := 10) (mm_atc mc66 rfl) (mm_plc mp66 rfl) rfl ly2 rfl <|
  mm_E.iload_n (mm_atc mc66 rfl) rfl <|
  mm_E.iaload (e := x3) (mm_atc mc66 rfl) ly10 rfl h3 h4 rfl (rfl) <|
  mm_E.iconst (mm_atc mc66 rfl) <|
  mm_E.if2 (mm_atc mc66 rfl) h5 (by decide) (ic_neT h6) rfl <|
  mm_E.inc mx66 rfl (mm_atc mc66 rfl) rfl <|
  show mm_E _ _ 66 51 [(3, mI (x3 + 1)), (0, .ref 2), (1, mI x1), (2, mI x2)] _ _ _ from
  mm_E.goto (mm_atc mc66 rfl) rfl <|
  mm_E.to h ⟨rfl, rfl, rfl, rfl, trivial⟩
theorem p66_4_2 {w d : Nat} {X : List Value} {A : MF} {r : MR} {x1 x2 x3 : Int} (H : R32 x3 ∧ R32 (A 2 1) ∧ x3 < A 2 1 ∧ 0 ≤ x3 ∧ x3 < 12 ∧ R32 (A 10 x3) ∧ A 10 x3 = (-1) ∧ R32 x2 ∧ x2 = (-1)) (h : mm_E w d 66 4 [(0, .ref 2), (1, mI x1), (2, mI x3), (3, mI (x3 + 1))] [] (mm_w X A) r) : mm_E w d 66 4 [(0, .ref 2), (1, mI x1), (2, mI x2), (3, mI x3)] [] (mm_w X A) r := by
  obtain ⟨h0, h1, h2, h3, h4, h5, h6, h7, h8⟩ := H
  exact mm_E.iload_n (mm_atc mc66 rfl) rfl <|
  mm_E.aload_n (mm_atc mc66 rfl) rfl <|
  mm_E.getI (z := A 2 1) (mm_atc mc66 rfl) (mm_plc mp66 rfl) rfl ly2 rfl (rfl) <|
  mm_E.if2 (mm_atc mc66 rfl) h0 h1 (ic_geF h2) rfl <|
  mm_E.aload_n (mm_atc mc66 rfl) rfl <|
  mm_E.getR (b := 10) (mm_atc mc66 rfl) (mm_plc mp66 rfl) rfl ly2 rfl <|
  mm_E.iload_n (mm_atc mc66 rfl) rfl <|
  mm_E.iaload (e := x3) (mm_atc mc66 rfl) ly10 rfl h3 h4 rfl (rfl) <|
  mm_E.iconst (mm_atc mc66 rfl) <|
  mm_E.if2 (mm_atc mc66 rfl) h5 (by decide) (ic_neF h6) rfl <|
  mm_E.iload_n (mm_atc mc66 rfl) rfl <|
  mm_E.iconst (mm_atc mc66 rfl) <|
  mm_E.if2 (mm_atc mc66 rfl) h7 (by decide) (ic_eqT h8) rfl <|
  mm_E.iload_n (mm_atc mc66 rfl) rfl <|
  mm_E.istore_n mx66 rfl (mm_atc mc66 rfl) <|
  show mm_E _ _ 66 48 [(2, mI x3), (0, .ref 2), (1, mI x1), (3, mI x3)] _ _ _ from
  mm_E.inc mx66 rfl (mm_atc mc66 rfl) rfl <|
  show mm_E _ _ 66 51 [(3, mI (x3 + 1)), (2, mI x3), (0, .ref 2), (1, mI x1)] _ _ _ from
  mm_E.goto (mm_atc mc66 rfl) rfl <|
  mm_E.to h ⟨rfl, rfl, rfl, rfl, trivial⟩
theorem p66_4_3 {w d : Nat} {X : List Value} {A : MF} {r : MR} {x1 x2 x3 : Int} (H : R32 x3 ∧ R32 (A 2 1) ∧ x3 < A 2 1 ∧ 0 ≤ x3 ∧ x3 < 12 ∧ R32 (A 10 x3) ∧ A 10 x3 = (-1) ∧ R32 x2 ∧ x2 ≠ (-1) ∧ 0 ≤ x1 ∧ x1 < 6 ∧ 0 ≤ x2 ∧ x2 < 12 ∧ R32 (A (4 + x1.toNat) x3) ∧ R32 (A (4 + x1.toNat) x2) ∧ A (4 + x1.toNat) x3 ≤ A (4 + x1.toNat) x2) (h : mm_E w d 66 4 [(0, .ref 2), (1, mI x1), (2, mI x2), (3, mI (x3 + 1))] [] (mm_w X A) r) : mm_E w d 66 4 [(0, .ref 2), (1, mI x1), (2, mI x2), (3, mI x3)] [] (mm_w X A) r := by
  obtain ⟨h0, h1, h2, h3, h4, h5, h6, h7, h8, h9, h10, h11, h12, h13, h14, h15⟩ := H
  exact mm_E.iload_n (mm_atc mc66 rfl) rfl <|
  mm_E.aload_n (mm_atc mc66 rfl) rfl <|
  mm_E.getI (z := A 2 1) (mm_atc mc66 rfl) (mm_plc mp66 rfl) rfl ly2 rfl (rfl) <|
  mm_E.if2 (mm_atc mc66 rfl) h0 h1 (ic_geF h2) rfl <|
  mm_E.aload_n (mm_atc mc66 rfl) rfl <|
  mm_E.getR (b := 10) (mm_atc mc66 rfl) (mm_plc mp66 rfl) rfl ly2 rfl <|
  mm_E.iload_n (mm_atc mc66 rfl) rfl <|
  mm_E.iaload (e := x3) (mm_atc mc66 rfl) ly10 rfl h3 h4 rfl (rfl) <|
  mm_E.iconst (mm_atc mc66 rfl) <|
  mm_E.if2 (mm_atc mc66 rfl) h5 (by decide) (ic_neF h6) rfl <|
  mm_E.iload_n (mm_atc mc66 rfl) rfl <|
  mm_E.iconst (mm_atc mc66 rfl) <|
  mm_E.if2 (mm_atc mc66 rfl) h7 (by decide) (ic_eqF h8) rfl <|
  mm_E.aload_n (mm_atc mc66 rfl) rfl <|
  mm_E.getR (b := 3) (mm_atc mc66 rfl) (mm_plc mp66 rfl) rfl ly2 rfl <|
  mm_E.iload_n (mm_atc mc66 rfl) rfl <|
  mm_E.aaload (mm_atc mc66 rfl) ly3 rfl h9 h10 (la4 h9 h10) <|
  mm_E.iload_n (mm_atc mc66 rfl) rfl <|
  mm_E.iaload (e := x3) (mm_atc mc66 rfl) (lr4 h9 h10) rfl h3 h4 rfl (rfl) <|
  mm_E.aload_n (mm_atc mc66 rfl) rfl <|
  mm_E.getR (b := 3) (mm_atc mc66 rfl) (mm_plc mp66 rfl) rfl ly2 rfl <|
  mm_E.iload_n (mm_atc mc66 rfl) rfl <|
  mm_E.aaload (mm_atc mc66 rfl) ly3 rfl h9 h10 (la4 h9 h10) <|
  mm_E.iload_n (mm_atc mc66 rfl) rfl <|
  mm_E.iaload (e := x2) (mm_atc mc66 rfl) (lr4 h9 h10) rfl h11 h12 rfl (rfl) <|
  mm_E.if2 (mm_atc mc66 rfl) h13 h14 (ic_leT h15) rfl <|
  mm_E.inc mx66 rfl (mm_atc mc66 rfl) rfl <|
  show mm_E _ _ 66 51 [(3, mI (x3 + 1)), (0, .ref 2), (1, mI x1), (2, mI x2)] _ _ _ from
  mm_E.goto (mm_atc mc66 rfl) rfl <|
  mm_E.to h ⟨rfl, rfl, rfl, rfl, trivial⟩
theorem p66_4_4 {w d : Nat} {X : List Value} {A : MF} {r : MR} {x1 x2 x3 : Int} (H : R32 x3 ∧ R32 (A 2 1) ∧ x3 < A 2 1 ∧ 0 ≤ x3 ∧ x3 < 12 ∧ R32 (A 10 x3) ∧ A 10 x3 = (-1) ∧ R32 x2 ∧ x2 ≠ (-1) ∧ 0 ≤ x1 ∧ x1 < 6 ∧ 0 ≤ x2 ∧ x2 < 12 ∧ R32 (A (4 + x1.toNat) x3) ∧ R32 (A (4 + x1.toNat) x2) ∧ A (4 + x1.toNat) x2 < A (4 + x1.toNat) x3) (h : mm_E w d 66 4 [(0, .ref 2), (1, mI x1), (2, mI x3), (3, mI (x3 + 1))] [] (mm_w X A) r) : mm_E w d 66 4 [(0, .ref 2), (1, mI x1), (2, mI x2), (3, mI x3)] [] (mm_w X A) r := by
  obtain ⟨h0, h1, h2, h3, h4, h5, h6, h7, h8, h9, h10, h11, h12, h13, h14, h15⟩ := H
  exact mm_E.iload_n (mm_atc mc66 rfl) rfl <|
  mm_E.aload_n (mm_atc mc66 rfl) rfl <|
  mm_E.getI (z := A 2 1) (mm_atc mc66 rfl) (mm_plc mp66 rfl) rfl ly2 rfl (rfl) <|
  mm_E.if2 (mm_atc mc66 rfl) h0 h1 (ic_geF h2) rfl <|
  mm_E.aload_n (mm_atc mc66 rfl) rfl <|
  mm_E.getR (b := 10) (mm_atc mc66 rfl) (mm_plc mp66 rfl) rfl ly2 rfl <|
  mm_E.iload_n (mm_atc mc66 rfl) rfl <|
  mm_E.iaload (e := x3) (mm_atc mc66 rfl) ly10 rfl h3 h4 rfl (rfl) <|
  mm_E.iconst (mm_atc mc66 rfl) <|
  mm_E.if2 (mm_atc mc66 rfl) h5 (by decide) (ic_neF h6) rfl <|
  mm_E.iload_n (mm_atc mc66 rfl) rfl <|
  mm_E.iconst (mm_atc mc66 rfl) <|
  mm_E.if2 (mm_atc mc66 rfl) h7 (by decide) (ic_eqF h8) rfl <|
  mm_E.aload_n (mm_atc mc66 rfl) rfl <|
  mm_E.getR (b := 3) (mm_atc mc66 rfl) (mm_plc mp66 rfl) rfl ly2 rfl <|
  mm_E.iload_n (mm_atc mc66 rfl) rfl <|
  mm_E.aaload (mm_atc mc66 rfl) ly3 rfl h9 h10 (la4 h9 h10) <|
  mm_E.iload_n (mm_atc mc66 rfl) rfl <|
  mm_E.iaload (e := x3) (mm_atc mc66 rfl) (lr4 h9 h10) rfl h3 h4 rfl (rfl) <|
  mm_E.aload_n (mm_atc mc66 rfl) rfl <|
  mm_E.getR (b := 3) (mm_atc mc66 rfl) (mm_plc mp66 rfl) rfl ly2 rfl <|
  mm_E.iload_n (mm_atc mc66 rfl) rfl <|
  mm_E.aaload (mm_atc mc66 rfl) ly3 rfl h9 h10 (la4 h9 h10) <|
  mm_E.iload_n (mm_atc mc66 rfl) rfl <|
  mm_E.iaload (e := x2) (mm_atc mc66 rfl) (lr4 h9 h10) rfl h11 h12 rfl (rfl) <|
  mm_E.if2 (mm_atc mc66 rfl) h13 h14 (ic_leF h15) rfl <|
  mm_E.iload_n (mm_atc mc66 rfl) rfl <|
  mm_E.istore_n mx66 rfl (mm_atc mc66 rfl) <|
  show mm_E _ _ 66 48 [(2, mI x3), (0, .ref 2), (1, mI x1), (3, mI x3)] _ _ _ from
  mm_E.inc mx66 rfl (mm_atc mc66 rfl) rfl <|
  show mm_E _ _ 66 51 [(3, mI (x3 + 1)), (2, mI x3), (0, .ref 2), (1, mI x1)] _ _ _ from
  mm_E.goto (mm_atc mc66 rfl) rfl <|
  mm_E.to h ⟨rfl, rfl, rfl, rfl, trivial⟩
theorem p67_0_0 {d : Nat} {X : List Value} {A : MF} {r : MR} {A0 : MF} (s0 : mm_E 1 d 73 0 [(0, .ref 2)] [] (mm_w X A) (.inl (none), mm_w X A0, 0, 0)) (h : mm_E 1 (d + 1) 67 8 [(0, .ref 2), (1, mI 0), (2, mI 0)] [] (mm_w X A0) r) : mm_E 1 (d + 1) 67 0 [(0, .ref 2)] [] (mm_w X A) r := by
  exact mm_E.aload_n (mm_atc mc67 rfl) rfl <|
  mm_E.callV0 (mm_atc mc67 rfl) (mm_plc mp67 rfl) rfl mk73 ly2 rfl mx73 rfl rfl s0 (by omega) <|
  show mm_E _ _ 67 4 _ _ _ _ from
  mm_E.iconst (mm_atc mc67 rfl) <|
  mm_E.istore_n mx67 rfl (mm_atc mc67 rfl) <|
  show mm_E _ _ 67 6 [(1, mI 0), (0, .ref 2)] _ _ _ from
  mm_E.iconst (mm_atc mc67 rfl) <|
  mm_E.istore_n mx67 rfl (mm_atc mc67 rfl) <|
  show mm_E _ _ 67 8 [(2, mI 0), (1, mI 0), (0, .ref 2)] _ _ _ from
  mm_E.to h ⟨rfl, rfl, rfl, trivial⟩
theorem p67_8_0 {w d : Nat} {X : List Value} {A : MF} {x1 x2 : Int} (H : R32 x2 ∧ R32 (A 2 1) ∧ A 2 1 ≤ x2) : mm_E w d 67 8 [(0, .ref 2), (1, mI x1), (2, mI x2)] [] (mm_w X A) (.inl (some (mI x1)), mm_w X A, 0, 0) := by
  obtain ⟨h0, h1, h2⟩ := H
  exact mm_E.iload_n (mm_atc mc67 rfl) rfl <|
  mm_E.aload_n (mm_atc mc67 rfl) rfl <|
  mm_E.getI (z := A 2 1) (mm_atc mc67 rfl) (mm_plc mp67 rfl) rfl ly2 rfl (rfl) <|
  mm_E.if2 (mm_atc mc67 rfl) h0 h1 (ic_geT h2) rfl <|
  mm_E.iload_n (mm_atc mc67 rfl) rfl <|
  mm_E.iret (mm_atc mc67 rfl) mr67 rfl
theorem p67_8_1 {d : Nat} {X : List Value} {A : MF} {r : MR} {x1 x2 z1 : Int} {A0 : MF} (s0 : mm_E 1 d 68 0 [(0, .ref 2)] [] (mm_w X A) (.inl (some (mI z1)), mm_w X A0, 0, 0)) (H : R32 x2 ∧ R32 (A 2 1) ∧ x2 < A 2 1) (h : mm_E 1 (d + 1) 67 24 [(0, .ref 2), (1, mI x1), (2, mI x2), (3, mI z1), (4, mI 0)] [] (mm_w X A0) r) : mm_E 1 (d + 1) 67 8 [(0, .ref 2), (1, mI x1), (2, mI x2)] [] (mm_w X A) r := by
  obtain ⟨h0, h1, h2⟩ := H
  exact mm_E.iload_n (mm_atc mc67 rfl) rfl <|
  mm_E.aload_n (mm_atc mc67 rfl) rfl <|
  mm_E.getI (z := A 2 1) (mm_atc mc67 rfl) (mm_plc mp67 rfl) rfl ly2 rfl (rfl) <|
  mm_E.if2 (mm_atc mc67 rfl) h0 h1 (ic_geF h2) rfl <|
  mm_E.aload_n (mm_atc mc67 rfl) rfl <|
  mm_E.callV0 (mm_atc mc67 rfl) (mm_plc mp67 rfl) rfl mk68 ly2 rfl mx68 rfl rfl s0 (by omega) <|
  show mm_E _ _ 67 20 _ _ _ _ from
  mm_E.istore_n mx67 rfl (mm_atc mc67 rfl) <|
  show mm_E _ _ 67 21 [(3, mI z1), (0, .ref 2), (1, mI x1), (2, mI x2)] _ _ _ from
  mm_E.iconst (mm_atc mc67 rfl) <|
  mm_E.istore mx67 rfl (mm_atc mc67 rfl) <|
  show mm_E _ _ 67 24 [(4, mI 0), (3, mI z1), (0, .ref 2), (1, mI x1), (2, mI x2)] _ _ _ from
  mm_E.to h ⟨rfl, rfl, rfl, rfl, rfl, trivial⟩
theorem p67_24_0 {d : Nat} {X : List Value} {A : MF} {r : MR} {x1 x2 x3 x4 : Int} (H : R32 x4 ∧ 100000 ≤ x4 ∧ 0 ≤ x2 ∧ x2 < 12) (h : mm_E 1 d 67 8 [(0, .ref 2), (1, mI x1), (2, mI (x2 + 1))] [] (mm_w X (mm_u A 10 x2 x3)) r) : mm_E 1 d 67 24 [(0, .ref 2), (1, mI x1), (2, mI x2), (3, mI x3), (4, mI x4)] [] (mm_w X A) r := by
  obtain ⟨h0, h1, h2, h3⟩ := H
  exact mm_E.iload (mm_atc mc67 rfl) rfl <|
  mm_E.ldc (mm_atc mc67 rfl) (mm_plc mp67 rfl) <|
  mm_E.if2 (mm_atc mc67 rfl) h0 (by decide) (ic_geT h1) rfl <|
  mm_E.aload_n (mm_atc mc67 rfl) rfl <|
  mm_E.getR (b := 10) (mm_atc mc67 rfl) (mm_plc mp67 rfl) rfl ly2 rfl <|
  mm_E.iload_n (mm_atc mc67 rfl) rfl <|
  mm_E.iload_n (mm_atc mc67 rfl) rfl <|
  mm_E.iastore (e := x2) (z := x3) (mm_atc mc67 rfl) ly10 rfl h2 h3 rfl rfl <|
  mm_E.inc mx67 rfl (mm_atc mc67 rfl) rfl <|
  show mm_E _ _ 67 64 [(2, mI (x2 + 1)), (0, .ref 2), (1, mI x1), (3, mI x3), (4, mI x4)] _ _ _ from
  mm_E.goto (mm_atc mc67 rfl) rfl <|
  mm_E.to h ⟨rfl, rfl, rfl, trivial⟩
theorem p67_24_1 {d : Nat} {X : List Value} {A : MF} {r : MR} {x1 x2 x3 x4 : Int} (H : R32 x4 ∧ x4 < 100000 ∧ R32 x3 ∧ x3 ≠ (-1) ∧ 0 ≤ x2 ∧ x2 < 12) (h : mm_E 1 d 67 8 [(0, .ref 2), (1, mI x1), (2, mI (x2 + 1))] [] (mm_w X (mm_u A 10 x2 x3)) r) : mm_E 1 d 67 24 [(0, .ref 2), (1, mI x1), (2, mI x2), (3, mI x3), (4, mI x4)] [] (mm_w X A) r := by
  obtain ⟨h0, h1, h2, h3, h4, h5⟩ := H
  exact mm_E.iload (mm_atc mc67 rfl) rfl <|
  mm_E.ldc (mm_atc mc67 rfl) (mm_plc mp67 rfl) <|
  mm_E.if2 (mm_atc mc67 rfl) h0 (by decide) (ic_geF h1) rfl <|
  mm_E.iload_n (mm_atc mc67 rfl) rfl <|
  mm_E.iconst (mm_atc mc67 rfl) <|
  mm_E.if2 (mm_atc mc67 rfl) h2 (by decide) (ic_neT h3) rfl <|
  mm_E.aload_n (mm_atc mc67 rfl) rfl <|
  mm_E.getR (b := 10) (mm_atc mc67 rfl) (mm_plc mp67 rfl) rfl ly2 rfl <|
  mm_E.iload_n (mm_atc mc67 rfl) rfl <|
  mm_E.iload_n (mm_atc mc67 rfl) rfl <|
  mm_E.iastore (e := x2) (z := x3) (mm_atc mc67 rfl) ly10 rfl h4 h5 rfl rfl <|
  mm_E.inc mx67 rfl (mm_atc mc67 rfl) rfl <|
  show mm_E _ _ 67 64 [(2, mI (x2 + 1)), (0, .ref 2), (1, mI x1), (3, mI x3), (4, mI x4)] _ _ _ from
  mm_E.goto (mm_atc mc67 rfl) rfl <|
  mm_E.to h ⟨rfl, rfl, rfl, trivial⟩
theorem p67_24_2 {d : Nat} {X : List Value} {A : MF} {r : MR} {x1 x2 x3 x4 z2 : Int} {A0 A1 : MF} (s0 : mm_E 1 d 70 0 [(0, .ref 2)] [] (mm_w X A) (.inl (none), mm_w X A0, 0, 0)) (s1 : mm_E 1 d 68 0 [(0, .ref 2)] [] (mm_w X A0) (.inl (some (mI z2)), mm_w X A1, 0, 0)) (H : R32 x4 ∧ x4 < 100000 ∧ R32 x3 ∧ x3 = (-1)) (h : mm_E 1 (d + 1) 67 24 [(0, .ref 2), (1, mI (x1 + 1)), (2, mI x2), (3, mI z2), (4, mI (x4 + 1))] [] (mm_w X A1) r) : mm_E 1 (d + 1) 67 24 [(0, .ref 2), (1, mI x1), (2, mI x2), (3, mI x3), (4, mI x4)] [] (mm_w X A) r := by
  obtain ⟨h0, h1, h2, h3⟩ := H
  exact mm_E.iload (mm_atc mc67 rfl) rfl <|
  mm_E.ldc (mm_atc mc67 rfl) (mm_plc mp67 rfl) <|
  mm_E.if2 (mm_atc mc67 rfl) h0 (by decide) (ic_geF h1) rfl <|
  mm_E.iload_n (mm_atc mc67 rfl) rfl <|
  mm_E.iconst (mm_atc mc67 rfl) <|
  mm_E.if2 (mm_atc mc67 rfl) h2 (by decide) (ic_neF h3) rfl <|
  mm_E.aload_n (mm_atc mc67 rfl) rfl <|
  mm_E.callV0 (mm_atc mc67 rfl) (mm_plc mp67 rfl) rfl mk70 ly2 rfl mx70 rfl rfl s0 (by omega) <|
  show mm_E _ _ 67 40 _ _ _ _ from
  mm_E.inc mx67 rfl (mm_atc mc67 rfl) rfl <|
  show mm_E _ _ 67 43 [(1, mI (x1 + 1)), (0, .ref 2), (2, mI x2), (3, mI x3), (4, mI x4)] _ _ _ from
  mm_E.aload_n (mm_atc mc67 rfl) rfl <|
  mm_E.callV0 (mm_atc mc67 rfl) (mm_plc mp67 rfl) rfl mk68 ly2 rfl mx68 rfl rfl s1 (by omega) <|
  show mm_E _ _ 67 47 _ _ _ _ from
  mm_E.istore_n mx67 rfl (mm_atc mc67 rfl) <|
  show mm_E _ _ 67 48 [(3, mI z2), (1, mI (x1 + 1)), (0, .ref 2), (2, mI x2), (4, mI x4)] _ _ _ from
  mm_E.inc mx67 rfl (mm_atc mc67 rfl) rfl <|
  show mm_E _ _ 67 51 [(4, mI (x4 + 1)), (3, mI z2), (1, mI (x1 + 1)), (0, .ref 2), (2, mI x2)] _ _ _ from
  mm_E.goto (mm_atc mc67 rfl) rfl <|
  mm_E.to h ⟨rfl, rfl, rfl, rfl, rfl, trivial⟩
theorem p68_0_0 {w d : Nat} {X : List Value} {A : MF} {r : MR}  (h : mm_E w d 68 9 [(0, .ref 2), (1, mI (-1)), (2, mI ((A 2 0) - 1))] [] (mm_w X A) r) : mm_E w d 68 0 [(0, .ref 2)] [] (mm_w X A) r := by
  exact mm_E.iconst (mm_atc mc68 rfl) <|
  mm_E.istore_n mx68 rfl (mm_atc mc68 rfl) <|
  show mm_E _ _ 68 2 [(1, mI (-1)), (0, .ref 2)] _ _ _ from
  mm_E.aload_n (mm_atc mc68 rfl) rfl <|
  mm_E.getI (z := A 2 0) (mm_atc mc68 rfl) (mm_plc mp68 rfl) rfl ly2 rfl (rfl) <|
  mm_E.iconst (mm_atc mc68 rfl) <|
  mm_E.isub (mm_atc mc68 rfl) <|
  mm_E.istore_n mx68 rfl (mm_atc mc68 rfl) <|
  show mm_E _ _ 68 9 [(2, mI ((A 2 0) - 1)), (1, mI (-1)), (0, .ref 2)] _ _ _ from
  mm_E.to h ⟨rfl, rfl, rfl, trivial⟩
theorem p68_9_0 {w d : Nat} {X : List Value} {A : MF} {x1 x2 : Int} (H : R32 x2 ∧ x2 < 0) : mm_E w d 68 9 [(0, .ref 2), (1, mI x1), (2, mI x2)] [] (mm_w X A) (.inl (some (mI x1)), mm_w X A, 0, 0) := by
  obtain ⟨h0, h1⟩ := H
  exact mm_E.iload_n (mm_atc mc68 rfl) rfl <|
  mm_E.if1 (mm_atc mc68 rfl) h0 (ic_ltT h1) rfl <|
  mm_E.iload_n (mm_atc mc68 rfl) rfl <|
  mm_E.iret (mm_atc mc68 rfl) mr68 rfl
theorem p68_9_1 {d : Nat} {X : List Value} {A : MF} {r : MR} {x1 x2 z0 : Int} (s0 : mm_E 1 d 69 0 [(0, .ref 2), (1, mI x2)] [] (mm_w X A) (.inl (some (mI z0)), mm_w X A, 0, 0)) (H : R32 x2 ∧ 0 ≤ x2 ∧ x2 < 6 ∧ R32 z0 ∧ z0 ≠ (-1)) (h : mm_E 1 (d + 1) 68 9 [(0, .ref 2), (1, mI x1), (2, mI (x2 + (-1)))] [] (mm_w X (mm_u A 11 x2 z0)) r) : mm_E 1 (d + 1) 68 9 [(0, .ref 2), (1, mI x1), (2, mI x2)] [] (mm_w X A) r := by
  obtain ⟨h0, h1, h2, h3, h4⟩ := H
  exact mm_E.iload_n (mm_atc mc68 rfl) rfl <|
  mm_E.if1 (mm_atc mc68 rfl) h0 (ic_ltF h1) rfl <|
  mm_E.aload_n (mm_atc mc68 rfl) rfl <|
  mm_E.getR (b := 11) (mm_atc mc68 rfl) (mm_plc mp68 rfl) rfl ly2 rfl <|
  mm_E.iload_n (mm_atc mc68 rfl) rfl <|
  mm_E.aload_n (mm_atc mc68 rfl) rfl <|
  mm_E.iload_n (mm_atc mc68 rfl) rfl <|
  mm_E.callV0 (mm_atc mc68 rfl) (mm_plc mp68 rfl) rfl mk69 ly2 rfl mx69 rfl rfl s0 (by omega) <|
  show mm_E _ _ 68 23 _ _ _ _ from
  mm_E.iastore (e := x2) (z := z0) (mm_atc mc68 rfl) ly11 rfl h1 h2 rfl rfl <|
  mm_E.aload_n (mm_atc mc68 rfl) rfl <|
  mm_E.getR (b := 11) (mm_atc mc68 rfl) (mm_plc mp68 rfl) rfl ly2 rfl <|
  mm_E.iload_n (mm_atc mc68 rfl) rfl <|
  mm_E.iaload (e := x2) (mm_atc mc68 rfl) ly11 rfl h1 h2 rfl (mm_u_same) <|
  mm_E.iconst (mm_atc mc68 rfl) <|
  mm_E.if2 (mm_atc mc68 rfl) h3 (by decide) (ic_neT h4) rfl <|
  mm_E.inc mx68 rfl (mm_atc mc68 rfl) rfl <|
  show mm_E _ _ 68 39 [(2, mI (x2 + (-1))), (0, .ref 2), (1, mI x1)] _ _ _ from
  mm_E.goto (mm_atc mc68 rfl) rfl <|
  mm_E.to h ⟨rfl, rfl, rfl, trivial⟩
theorem p68_9_2 {d : Nat} {X : List Value} {A : MF} {r : MR} {x1 x2 z0 : Int} (s0 : mm_E 1 d 69 0 [(0, .ref 2), (1, mI x2)] [] (mm_w X A) (.inl (some (mI z0)), mm_w X A, 0, 0)) (H : R32 x2 ∧ 0 ≤ x2 ∧ x2 < 6 ∧ R32 z0 ∧ z0 = (-1)) (h : mm_E 1 (d + 1) 68 9 [(0, .ref 2), (1, mI x2), (2, mI (x2 + (-1)))] [] (mm_w X (mm_u A 11 x2 z0)) r) : mm_E 1 (d + 1) 68 9 [(0, .ref 2), (1, mI x1), (2, mI x2)] [] (mm_w X A) r := by
  obtain ⟨h0, h1, h2, h3, h4⟩ := H
  exact mm_E.iload_n (mm_atc mc68 rfl) rfl <|
  mm_E.if1 (mm_atc mc68 rfl) h0 (ic_ltF h1) rfl <|
  mm_E.aload_n (mm_atc mc68 rfl) rfl <|
  mm_E.getR (b := 11) (mm_atc mc68 rfl) (mm_plc mp68 rfl) rfl ly2 rfl <|
  mm_E.iload_n (mm_atc mc68 rfl) rfl <|
  mm_E.aload_n (mm_atc mc68 rfl) rfl <|
  mm_E.iload_n (mm_atc mc68 rfl) rfl <|
  mm_E.callV0 (mm_atc mc68 rfl) (mm_plc mp68 rfl) rfl mk69 ly2 rfl mx69 rfl rfl s0 (by omega) <|
  show mm_E _ _ 68 23 _ _ _ _ from
  mm_E.iastore (e := x2) (z := z0) (mm_atc mc68 rfl) ly11 rfl h1 h2 rfl rfl <|
  mm_E.aload_n (mm_atc mc68 rfl) rfl <|
  mm_E.getR (b := 11) (mm_atc mc68 rfl) (mm_plc mp68 rfl) rfl ly2 rfl <|
  mm_E.iload_n (mm_atc mc68 rfl) rfl <|
  mm_E.iaload (e := x2) (mm_atc mc68 rfl) ly11 rfl h1 h2 rfl (mm_u_same) <|
  mm_E.iconst (mm_atc mc68 rfl) <|
  mm_E.if2 (mm_atc mc68 rfl) h3 (by decide) (ic_neF h4) rfl <|
  mm_E.iload_n (mm_atc mc68 rfl) rfl <|
  mm_E.istore_n mx68 rfl (mm_atc mc68 rfl) <|
  show mm_E _ _ 68 36 [(1, mI x2), (0, .ref 2), (2, mI x2)] _ _ _ from
  mm_E.inc mx68 rfl (mm_atc mc68 rfl) rfl <|
  show mm_E _ _ 68 39 [(2, mI (x2 + (-1))), (1, mI x2), (0, .ref 2)] _ _ _ from
  mm_E.goto (mm_atc mc68 rfl) rfl <|
  mm_E.to h ⟨rfl, rfl, rfl, trivial⟩
theorem p69_0_0 {w d : Nat} {X : List Value} {A : MF} {r : MR} {x1 : Int} (h : mm_E w d 69 2 [(0, .ref 2), (1, mI x1), (2, mI 0)] [] (mm_w X A) r) : mm_E w d 69 0 [(0, .ref 2), (1, mI x1)] [] (mm_w X A) r := by
  exact mm_E.iconst (mm_atc mc69 rfl) <|
  mm_E.istore_n mx69 rfl (mm_atc mc69 rfl) <|
  show mm_E _ _ 69 2 [(2, mI 0), (0, .ref 2), (1, mI x1)] _ _ _ from
  mm_E.to h ⟨rfl, rfl, rfl, trivial⟩
theorem p69_2_0 {w d : Nat} {X : List Value} {A : MF} {x1 x2 : Int} (H : R32 x2 ∧ R32 (A 2 0) ∧ A 2 0 ≤ x2) : mm_E w d 69 2 [(0, .ref 2), (1, mI x1), (2, mI x2)] [] (mm_w X A) (.inl (some (mI (-1))), mm_w X A, 0, 0) := by
  obtain ⟨h0, h1, h2⟩ := H
  exact mm_E.iload_n (mm_atc mc69 rfl) rfl <|
  mm_E.aload_n (mm_atc mc69 rfl) rfl <|
  mm_E.getI (z := A 2 0) (mm_atc mc69 rfl) (mm_plc mp69 rfl) rfl ly2 rfl (rfl) <|
  mm_E.if2 (mm_atc mc69 rfl) h0 h1 (ic_geT h2) rfl <|
  mm_E.iconst (mm_atc mc69 rfl) <|
  mm_E.iret (mm_atc mc69 rfl) mr69 rfl
theorem p69_2_1 {w d : Nat} {X : List Value} {A : MF} {r : MR} {x1 x2 z0 : Int} (s0 : mm_E w d 62 0 [(0, .ref 2), (1, mI x2), (2, mI x1), (3, mI 0)] [] (mm_w X A) (.inl (some (mI z0)), mm_w X A, 0, 0)) (H : R32 x2 ∧ R32 (A 2 0) ∧ x2 < A 2 0 ∧ R32 z0 ∧ z0 ≤ 0) (h : mm_E w (d + 1) 69 2 [(0, .ref 2), (1, mI x1), (2, mI (x2 + 1))] [] (mm_w X A) r) : mm_E w (d + 1) 69 2 [(0, .ref 2), (1, mI x1), (2, mI x2)] [] (mm_w X A) r := by
  obtain ⟨h0, h1, h2, h3, h4⟩ := H
  exact mm_E.iload_n (mm_atc mc69 rfl) rfl <|
  mm_E.aload_n (mm_atc mc69 rfl) rfl <|
  mm_E.getI (z := A 2 0) (mm_atc mc69 rfl) (mm_plc mp69 rfl) rfl ly2 rfl (rfl) <|
  mm_E.if2 (mm_atc mc69 rfl) h0 h1 (ic_geF h2) rfl <|
  mm_E.aload_n (mm_atc mc69 rfl) rfl <|
  mm_E.iload_n (mm_atc mc69 rfl) rfl <|
  mm_E.iload_n (mm_atc mc69 rfl) rfl <|
  mm_E.iconst (mm_atc mc69 rfl) <|
  mm_E.callV0 (mm_atc mc69 rfl) (mm_plc mp69 rfl) rfl mk62 ly2 rfl mx62 rfl rfl s0 (by omega) <|
  show mm_E _ _ 69 17 _ _ _ _ from
  mm_E.if1 (mm_atc mc69 rfl) h3 (ic_leT h4) rfl <|
  mm_E.inc mx69 rfl (mm_atc mc69 rfl) rfl <|
  show mm_E _ _ 69 25 [(2, mI (x2 + 1)), (0, .ref 2), (1, mI x1)] _ _ _ from
  mm_E.goto (mm_atc mc69 rfl) rfl <|
  mm_E.to h ⟨rfl, rfl, rfl, trivial⟩
theorem p69_2_2 {w d : Nat} {X : List Value} {A : MF} {x1 x2 z0 : Int} (s0 : mm_E w d 62 0 [(0, .ref 2), (1, mI x2), (2, mI x1), (3, mI 0)] [] (mm_w X A) (.inl (some (mI z0)), mm_w X A, 0, 0)) (H : R32 x2 ∧ R32 (A 2 0) ∧ x2 < A 2 0 ∧ R32 z0 ∧ 0 < z0) : mm_E w (d + 1) 69 2 [(0, .ref 2), (1, mI x1), (2, mI x2)] [] (mm_w X A) (.inl (some (mI x2)), mm_w X A, 0, 0) := by
  obtain ⟨h0, h1, h2, h3, h4⟩ := H
  exact mm_E.iload_n (mm_atc mc69 rfl) rfl <|
  mm_E.aload_n (mm_atc mc69 rfl) rfl <|
  mm_E.getI (z := A 2 0) (mm_atc mc69 rfl) (mm_plc mp69 rfl) rfl ly2 rfl (rfl) <|
  mm_E.if2 (mm_atc mc69 rfl) h0 h1 (ic_geF h2) rfl <|
  mm_E.aload_n (mm_atc mc69 rfl) rfl <|
  mm_E.iload_n (mm_atc mc69 rfl) rfl <|
  mm_E.iload_n (mm_atc mc69 rfl) rfl <|
  mm_E.iconst (mm_atc mc69 rfl) <|
  mm_E.callV0 (mm_atc mc69 rfl) (mm_plc mp69 rfl) rfl mk62 ly2 rfl mx62 rfl rfl s0 (by omega) <|
  show mm_E _ _ 69 17 _ _ _ _ from
  mm_E.if1 (mm_atc mc69 rfl) h3 (ic_leF h4) rfl <|
  mm_E.iload_n (mm_atc mc69 rfl) rfl <|
  mm_E.iret (mm_atc mc69 rfl) mr69 rfl
theorem p70_0_0 {w d : Nat} {X : List Value} {A : MF} {r : MR}  (h : mm_E w d 70 4 [(0, .ref 2), (1, mI 0), (2, mI 0)] [] (mm_w X A) r) : mm_E w d 70 0 [(0, .ref 2)] [] (mm_w X A) r := by
  exact mm_E.iconst (mm_atc mc70 rfl) <|
  mm_E.istore_n mx70 rfl (mm_atc mc70 rfl) <|
  show mm_E _ _ 70 2 [(1, mI 0), (0, .ref 2)] _ _ _ from
  mm_E.iconst (mm_atc mc70 rfl) <|
  mm_E.istore_n mx70 rfl (mm_atc mc70 rfl) <|
  show mm_E _ _ 70 4 [(2, mI 0), (1, mI 0), (0, .ref 2)] _ _ _ from
  mm_E.to h ⟨rfl, rfl, rfl, trivial⟩
theorem p70_4_0 {w d : Nat} {X : List Value} {A : MF} {r : MR} {x1 x2 : Int} (H : R32 x2 ∧ R32 (A 2 0) ∧ A 2 0 ≤ x2) (h : mm_E w d 70 32 [(0, .ref 2), (1, mI x1), (2, mI 0)] [] (mm_w X A) r) : mm_E w d 70 4 [(0, .ref 2), (1, mI x1), (2, mI x2)] [] (mm_w X A) r := by
  obtain ⟨h0, h1, h2⟩ := H
  exact mm_E.iload_n (mm_atc mc70 rfl) rfl <|
  mm_E.aload_n (mm_atc mc70 rfl) rfl <|
  mm_E.getI (z := A 2 0) (mm_atc mc70 rfl) (mm_plc mp70 rfl) rfl ly2 rfl (rfl) <|
  mm_E.if2 (mm_atc mc70 rfl) h0 h1 (ic_geT h2) rfl <|
  mm_E.iconst (mm_atc mc70 rfl) <|
  mm_E.istore_n mx70 rfl (mm_atc mc70 rfl) <|
  show mm_E _ _ 70 32 [(2, mI 0), (0, .ref 2), (1, mI x1)] _ _ _ from
  mm_E.to h ⟨rfl, rfl, rfl, trivial⟩
theorem p70_4_1 {w d : Nat} {X : List Value} {A : MF} {r : MR} {x1 x2 : Int} (H : R32 x2 ∧ R32 (A 2 0) ∧ x2 < A 2 0 ∧ R32 x1 ∧ x1 = (-1)) (h : mm_E w d 70 32 [(0, .ref 2), (1, mI x1), (2, mI 0)] [] (mm_w X A) r) : mm_E w d 70 4 [(0, .ref 2), (1, mI x1), (2, mI x2)] [] (mm_w X A) r := by
  obtain ⟨h0, h1, h2, h3, h4⟩ := H
  exact mm_E.iload_n (mm_atc mc70 rfl) rfl <|
  mm_E.aload_n (mm_atc mc70 rfl) rfl <|
  mm_E.getI (z := A 2 0) (mm_atc mc70 rfl) (mm_plc mp70 rfl) rfl ly2 rfl (rfl) <|
  mm_E.if2 (mm_atc mc70 rfl) h0 h1 (ic_geF h2) rfl <|
  mm_E.iload_n (mm_atc mc70 rfl) rfl <|
  mm_E.iconst (mm_atc mc70 rfl) <|
  mm_E.if2 (mm_atc mc70 rfl) h3 (by decide) (ic_eqT h4) rfl <|
  mm_E.iconst (mm_atc mc70 rfl) <|
  mm_E.istore_n mx70 rfl (mm_atc mc70 rfl) <|
  show mm_E _ _ 70 32 [(2, mI 0), (0, .ref 2), (1, mI x1)] _ _ _ from
  mm_E.to h ⟨rfl, rfl, rfl, trivial⟩
theorem p70_4_2 {w d : Nat} {X : List Value} {A : MF} {r : MR} {x1 x2 : Int} (H : R32 x2 ∧ R32 (A 2 0) ∧ x2 < A 2 0 ∧ R32 x1 ∧ x1 ≠ (-1) ∧ 0 ≤ x1 ∧ x1 < 6) (h : mm_E w d 70 4 [(0, .ref 2), (1, mI (A 11 x1)), (2, mI (x2 + 1))] [] (mm_w X A) r) : mm_E w d 70 4 [(0, .ref 2), (1, mI x1), (2, mI x2)] [] (mm_w X A) r := by
  obtain ⟨h0, h1, h2, h3, h4, h5, h6⟩ := H
  exact mm_E.iload_n (mm_atc mc70 rfl) rfl <|
  mm_E.aload_n (mm_atc mc70 rfl) rfl <|
  mm_E.getI (z := A 2 0) (mm_atc mc70 rfl) (mm_plc mp70 rfl) rfl ly2 rfl (rfl) <|
  mm_E.if2 (mm_atc mc70 rfl) h0 h1 (ic_geF h2) rfl <|
  mm_E.iload_n (mm_atc mc70 rfl) rfl <|
  mm_E.iconst (mm_atc mc70 rfl) <|
  mm_E.if2 (mm_atc mc70 rfl) h3 (by decide) (ic_eqF h4) rfl <|
  mm_E.aload_n (mm_atc mc70 rfl) rfl <|
  mm_E.getR (b := 11) (mm_atc mc70 rfl) (mm_plc mp70 rfl) rfl ly2 rfl <|
  mm_E.iload_n (mm_atc mc70 rfl) rfl <|
  mm_E.iaload (e := x1) (mm_atc mc70 rfl) ly11 rfl h5 h6 rfl (rfl) <|
  mm_E.istore_n mx70 rfl (mm_atc mc70 rfl) <|
  show mm_E _ _ 70 24 [(1, mI (A 11 x1)), (0, .ref 2), (2, mI x2)] _ _ _ from
  mm_E.inc mx70 rfl (mm_atc mc70 rfl) rfl <|
  show mm_E _ _ 70 27 [(2, mI (x2 + 1)), (1, mI (A 11 x1)), (0, .ref 2)] _ _ _ from
  mm_E.goto (mm_atc mc70 rfl) rfl <|
  mm_E.to h ⟨rfl, rfl, rfl, trivial⟩
theorem p70_32_0 {w d : Nat} {X : List Value} {A : MF} {r : MR} {x1 x2 : Int} (H : R32 x2 ∧ 6 ≤ x2) (h : mm_E w d 70 53 [(0, .ref 2), (1, mI x1), (2, mI 0)] [] (mm_w X A) r) : mm_E w d 70 32 [(0, .ref 2), (1, mI x1), (2, mI x2)] [] (mm_w X A) r := by
  obtain ⟨h0, h1⟩ := H
  exact mm_E.iload_n (mm_atc mc70 rfl) rfl <|
  mm_E.bipush (mm_atc mc70 rfl) rfl <|
  mm_E.if2 (mm_atc mc70 rfl) h0 (by decide) (ic_geT h1) rfl <|
  mm_E.iconst (mm_atc mc70 rfl) <|
  mm_E.istore_n mx70 rfl (mm_atc mc70 rfl) <|
  show mm_E _ _ 70 53 [(2, mI 0), (0, .ref 2), (1, mI x1)] _ _ _ from
  mm_E.to h ⟨rfl, rfl, rfl, trivial⟩
theorem p70_32_1 {d : Nat} {X : List Value} {A : MF} {r : MR} {x1 x2 : Int} (H : R32 x2 ∧ x2 < 6 ∧ 0 ≤ x2) (h : mm_E 1 d 70 32 [(0, .ref 2), (1, mI x1), (2, mI (x2 + 1))] [] (mm_w X (mm_u A 12 x2 (-1))) r) : mm_E 1 d 70 32 [(0, .ref 2), (1, mI x1), (2, mI x2)] [] (mm_w X A) r := by
  obtain ⟨h0, h1, h2⟩ := H
  exact mm_E.iload_n (mm_atc mc70 rfl) rfl <|
  mm_E.bipush (mm_atc mc70 rfl) rfl <|
  mm_E.if2 (mm_atc mc70 rfl) h0 (by decide) (ic_geF h1) rfl <|
  mm_E.aload_n (mm_atc mc70 rfl) rfl <|
  mm_E.getR (b := 12) (mm_atc mc70 rfl) (mm_plc mp70 rfl) rfl ly2 rfl <|
  mm_E.iload_n (mm_atc mc70 rfl) rfl <|
  mm_E.iconst (mm_atc mc70 rfl) <|
  mm_E.iastore (e := x2) (z := (-1)) (mm_atc mc70 rfl) ly12 rfl h2 h1 rfl rfl <|
  mm_E.inc mx70 rfl (mm_atc mc70 rfl) rfl <|
  show mm_E _ _ 70 48 [(2, mI (x2 + 1)), (0, .ref 2), (1, mI x1)] _ _ _ from
  mm_E.goto (mm_atc mc70 rfl) rfl <|
  mm_E.to h ⟨rfl, rfl, rfl, trivial⟩
theorem p70_53_0 {w d : Nat} {X : List Value} {A : MF} {r : MR} {x1 x2 : Int} (H : R32 x2 ∧ R32 (A 2 0) ∧ A 2 0 ≤ x2) (h : mm_E w d 70 103 [(0, .ref 2), (2, mI 0)] [] (mm_w X A) r) : mm_E w d 70 53 [(0, .ref 2), (1, mI x1), (2, mI x2)] [] (mm_w X A) r := by
  obtain ⟨h0, h1, h2⟩ := H
  exact mm_E.iload_n (mm_atc mc70 rfl) rfl <|
  mm_E.aload_n (mm_atc mc70 rfl) rfl <|
  mm_E.getI (z := A 2 0) (mm_atc mc70 rfl) (mm_plc mp70 rfl) rfl ly2 rfl (rfl) <|
  mm_E.if2 (mm_atc mc70 rfl) h0 h1 (ic_geT h2) rfl <|
  mm_E.iconst (mm_atc mc70 rfl) <|
  mm_E.istore_n mx70 rfl (mm_atc mc70 rfl) <|
  show mm_E _ _ 70 103 [(2, mI 0), (0, .ref 2), (1, mI x1)] _ _ _ from
  mm_E.to h ⟨rfl, rfl, trivial⟩
theorem p70_53_1 {w d : Nat} {X : List Value} {A : MF} {r : MR} {x1 x2 : Int} (H : R32 x2 ∧ R32 (A 2 0) ∧ x2 < A 2 0 ∧ R32 x1 ∧ x1 = (-1)) (h : mm_E w d 70 103 [(0, .ref 2), (2, mI 0)] [] (mm_w X A) r) : mm_E w d 70 53 [(0, .ref 2), (1, mI x1), (2, mI x2)] [] (mm_w X A) r := by
  obtain ⟨h0, h1, h2, h3, h4⟩ := H
  exact mm_E.iload_n (mm_atc mc70 rfl) rfl <|
  mm_E.aload_n (mm_atc mc70 rfl) rfl <|
  mm_E.getI (z := A 2 0) (mm_atc mc70 rfl) (mm_plc mp70 rfl) rfl ly2 rfl (rfl) <|
  mm_E.if2 (mm_atc mc70 rfl) h0 h1 (ic_geF h2) rfl <|
  mm_E.iload_n (mm_atc mc70 rfl) rfl <|
  mm_E.iconst (mm_atc mc70 rfl) <|
  mm_E.if2 (mm_atc mc70 rfl) h3 (by decide) (ic_eqT h4) rfl <|
  mm_E.iconst (mm_atc mc70 rfl) <|
  mm_E.istore_n mx70 rfl (mm_atc mc70 rfl) <|
  show mm_E _ _ 70 103 [(2, mI 0), (0, .ref 2), (1, mI x1)] _ _ _ from
  mm_E.to h ⟨rfl, rfl, trivial⟩
theorem p70_53_2 {w d : Nat} {X : List Value} {A : MF} {r : MR} {x1 x2 : Int} (H : R32 x2 ∧ R32 (A 2 0) ∧ x2 < A 2 0 ∧ R32 x1 ∧ x1 ≠ (-1) ∧ 0 ≤ x1 ∧ x1 < 6 ∧ R32 (A 12 x1) ∧ A 12 x1 ≠ (-1)) (h : mm_E w d 70 103 [(0, .ref 2), (2, mI 0)] [] (mm_w X A) r) : mm_E w d 70 53 [(0, .ref 2), (1, mI x1), (2, mI x2)] [] (mm_w X A) r := by
  obtain ⟨h0, h1, h2, h3, h4, h5, h6, h7, h8⟩ := H
  exact mm_E.iload_n (mm_atc mc70 rfl) rfl <|
  mm_E.aload_n (mm_atc mc70 rfl) rfl <|
  mm_E.getI (z := A 2 0) (mm_atc mc70 rfl) (mm_plc mp70 rfl) rfl ly2 rfl (rfl) <|
  mm_E.if2 (mm_atc mc70 rfl) h0 h1 (ic_geF h2) rfl <|
  mm_E.iload_n (mm_atc mc70 rfl) rfl <|
  mm_E.iconst (mm_atc mc70 rfl) <|
  mm_E.if2 (mm_atc mc70 rfl) h3 (by decide) (ic_eqF h4) rfl <|
  mm_E.aload_n (mm_atc mc70 rfl) rfl <|
  mm_E.getR (b := 12) (mm_atc mc70 rfl) (mm_plc mp70 rfl) rfl ly2 rfl <|
  mm_E.iload_n (mm_atc mc70 rfl) rfl <|
  mm_E.iaload (e := x1) (mm_atc mc70 rfl) ly12 rfl h5 h6 rfl (rfl) <|
  mm_E.iconst (mm_atc mc70 rfl) <|
  mm_E.if2 (mm_atc mc70 rfl) h7 (by decide) (ic_neT h8) rfl <|
  mm_E.iconst (mm_atc mc70 rfl) <|
  mm_E.istore_n mx70 rfl (mm_atc mc70 rfl) <|
  show mm_E _ _ 70 103 [(2, mI 0), (0, .ref 2), (1, mI x1)] _ _ _ from
  mm_E.to h ⟨rfl, rfl, trivial⟩
theorem p70_53_3 {d : Nat} {X : List Value} {A : MF} {r : MR} {x1 x2 : Int} (H : R32 x2 ∧ R32 (A 2 0) ∧ x2 < A 2 0 ∧ R32 x1 ∧ x1 ≠ (-1) ∧ 0 ≤ x1 ∧ x1 < 6 ∧ R32 (A 12 x1) ∧ A 12 x1 = (-1)) (h : mm_E 1 d 70 53 [(0, .ref 2), (1, mI (A 11 x1)), (2, mI (x2 + 1))] [] (mm_w X (mm_u A 12 x1 (A 11 x1))) r) : mm_E 1 d 70 53 [(0, .ref 2), (1, mI x1), (2, mI x2)] [] (mm_w X A) r := by
  obtain ⟨h0, h1, h2, h3, h4, h5, h6, h7, h8⟩ := H
  exact mm_E.iload_n (mm_atc mc70 rfl) rfl <|
  mm_E.aload_n (mm_atc mc70 rfl) rfl <|
  mm_E.getI (z := A 2 0) (mm_atc mc70 rfl) (mm_plc mp70 rfl) rfl ly2 rfl (rfl) <|
  mm_E.if2 (mm_atc mc70 rfl) h0 h1 (ic_geF h2) rfl <|
  mm_E.iload_n (mm_atc mc70 rfl) rfl <|
  mm_E.iconst (mm_atc mc70 rfl) <|
  mm_E.if2 (mm_atc mc70 rfl) h3 (by decide) (ic_eqF h4) rfl <|
  mm_E.aload_n (mm_atc mc70 rfl) rfl <|
  mm_E.getR (b := 12) (mm_atc mc70 rfl) (mm_plc mp70 rfl) rfl ly2 rfl <|
  mm_E.iload_n (mm_atc mc70 rfl) rfl <|
  mm_E.iaload (e := x1) (mm_atc mc70 rfl) ly12 rfl h5 h6 rfl (rfl) <|
  mm_E.iconst (mm_atc mc70 rfl) <|
  mm_E.if2 (mm_atc mc70 rfl) h7 (by decide) (ic_neF h8) rfl <|
  mm_E.aload_n (mm_atc mc70 rfl) rfl <|
  mm_E.getR (b := 12) (mm_atc mc70 rfl) (mm_plc mp70 rfl) rfl ly2 rfl <|
  mm_E.iload_n (mm_atc mc70 rfl) rfl <|
  mm_E.aload_n (mm_atc mc70 rfl) rfl <|
  mm_E.getR (b := 11) (mm_atc mc70 rfl) (mm_plc mp70 rfl) rfl ly2 rfl <|
  mm_E.iload_n (mm_atc mc70 rfl) rfl <|
  mm_E.iaload (e := x1) (mm_atc mc70 rfl) ly11 rfl h5 h6 rfl (rfl) <|
  mm_E.iastore (e := x1) (z := A 11 x1) (mm_atc mc70 rfl) ly12 rfl h5 h6 rfl rfl <|
  mm_E.aload_n (mm_atc mc70 rfl) rfl <|
  mm_E.getR (b := 11) (mm_atc mc70 rfl) (mm_plc mp70 rfl) rfl ly2 rfl <|
  mm_E.iload_n (mm_atc mc70 rfl) rfl <|
  mm_E.iaload (e := x1) (mm_atc mc70 rfl) ly11 rfl h5 h6 rfl ((mm_u_ne (.inl (by decide))).trans (rfl)) <|
  mm_E.istore_n mx70 rfl (mm_atc mc70 rfl) <|
  show mm_E _ _ 70 95 [(1, mI (A 11 x1)), (0, .ref 2), (2, mI x2)] _ _ _ from
  mm_E.inc mx70 rfl (mm_atc mc70 rfl) rfl <|
  show mm_E _ _ 70 98 [(2, mI (x2 + 1)), (1, mI (A 11 x1)), (0, .ref 2)] _ _ _ from
  mm_E.goto (mm_atc mc70 rfl) rfl <|
  mm_E.to h ⟨rfl, rfl, rfl, trivial⟩
theorem p70_103_0 {w d : Nat} {X : List Value} {A : MF} {x2 : Int} (H : R32 x2 ∧ R32 (A 2 1) ∧ A 2 1 ≤ x2) : mm_E w d 70 103 [(0, .ref 2), (2, mI x2)] [] (mm_w X A) (.inl (none), mm_w X A, 0, 0) := by
  obtain ⟨h0, h1, h2⟩ := H
  exact mm_E.iload_n (mm_atc mc70 rfl) rfl <|
  mm_E.aload_n (mm_atc mc70 rfl) rfl <|
  mm_E.getI (z := A 2 1) (mm_atc mc70 rfl) (mm_plc mp70 rfl) rfl ly2 rfl (rfl) <|
  mm_E.if2 (mm_atc mc70 rfl) h0 h1 (ic_geT h2) rfl <|
  mm_E.vret (mm_atc mc70 rfl) mr70
theorem p70_103_1 {w d : Nat} {X : List Value} {A : MF} {r : MR} {x2 : Int} (H : R32 x2 ∧ R32 (A 2 1) ∧ x2 < A 2 1 ∧ 0 ≤ x2 ∧ x2 < 12 ∧ R32 (A 10 x2) ∧ A 10 x2 = (-1)) (h : mm_E w d 70 103 [(0, .ref 2), (2, mI (x2 + 1))] [] (mm_w X A) r) : mm_E w d 70 103 [(0, .ref 2), (2, mI x2)] [] (mm_w X A) r := by
  obtain ⟨h0, h1, h2, h3, h4, h5, h6⟩ := H
  exact mm_E.iload_n (mm_atc mc70 rfl) rfl <|
  mm_E.aload_n (mm_atc mc70 rfl) rfl <|
  mm_E.getI (z := A 2 1) (mm_atc mc70 rfl) (mm_plc mp70 rfl) rfl ly2 rfl (rfl) <|
  mm_E.if2 (mm_atc mc70 rfl) h0 h1 (ic_geF h2) rfl <|
  mm_E.aload_n (mm_atc mc70 rfl) rfl <|
  mm_E.getR (b := 10) (mm_atc mc70 rfl) (mm_plc mp70 rfl) rfl ly2 rfl <|
  mm_E.iload_n (mm_atc mc70 rfl) rfl <|
  mm_E.iaload (e := x2) (mm_atc mc70 rfl) ly10 rfl h3 h4 rfl (rfl) <|
  mm_E.istore_n mx70 rfl (mm_atc mc70 rfl) <|
  show mm_E _ _ 70 118 [(3, mI (A 10 x2)), (0, .ref 2), (2, mI x2)] _ _ _ from
  mm_E.iload_n (mm_atc mc70 rfl) rfl <|
  mm_E.iconst (mm_atc mc70 rfl) <|
  mm_E.if2 (mm_atc mc70 rfl) h5 (by decide) (ic_eqT h6) rfl <|
  mm_E.inc mx70 rfl (mm_atc mc70 rfl) rfl <|
  show mm_E _ _ 70 148 [(2, mI (x2 + 1)), (3, mI (A 10 x2)), (0, .ref 2)] _ _ _ from
  mm_E.goto (mm_atc mc70 rfl) rfl <|
  mm_E.to h ⟨rfl, rfl, trivial⟩
theorem p70_103_2 {w d : Nat} {X : List Value} {A : MF} {r : MR} {x2 : Int} (H : R32 x2 ∧ R32 (A 2 1) ∧ x2 < A 2 1 ∧ 0 ≤ x2 ∧ x2 < 12 ∧ R32 (A 10 x2) ∧ A 10 x2 ≠ (-1) ∧ 0 ≤ A 10 x2 ∧ A 10 x2 < 6 ∧ R32 (A 12 (A 10 x2)) ∧ A 12 (A 10 x2) = (-1)) (h : mm_E w d 70 103 [(0, .ref 2), (2, mI (x2 + 1))] [] (mm_w X A) r) : mm_E w d 70 103 [(0, .ref 2), (2, mI x2)] [] (mm_w X A) r := by
  obtain ⟨h0, h1, h2, h3, h4, h5, h6, h7, h8, h9, h10⟩ := H
  exact mm_E.iload_n (mm_atc mc70 rfl) rfl <|
  mm_E.aload_n (mm_atc mc70 rfl) rfl <|
  mm_E.getI (z := A 2 1) (mm_atc mc70 rfl) (mm_plc mp70 rfl) rfl ly2 rfl (rfl) <|
  mm_E.if2 (mm_atc mc70 rfl) h0 h1 (ic_geF h2) rfl <|
  mm_E.aload_n (mm_atc mc70 rfl) rfl <|
  mm_E.getR (b := 10) (mm_atc mc70 rfl) (mm_plc mp70 rfl) rfl ly2 rfl <|
  mm_E.iload_n (mm_atc mc70 rfl) rfl <|
  mm_E.iaload (e := x2) (mm_atc mc70 rfl) ly10 rfl h3 h4 rfl (rfl) <|
  mm_E.istore_n mx70 rfl (mm_atc mc70 rfl) <|
  show mm_E _ _ 70 118 [(3, mI (A 10 x2)), (0, .ref 2), (2, mI x2)] _ _ _ from
  mm_E.iload_n (mm_atc mc70 rfl) rfl <|
  mm_E.iconst (mm_atc mc70 rfl) <|
  mm_E.if2 (mm_atc mc70 rfl) h5 (by decide) (ic_eqF h6) rfl <|
  mm_E.aload_n (mm_atc mc70 rfl) rfl <|
  mm_E.getR (b := 12) (mm_atc mc70 rfl) (mm_plc mp70 rfl) rfl ly2 rfl <|
  mm_E.iload_n (mm_atc mc70 rfl) rfl <|
  mm_E.iaload (e := A 10 x2) (mm_atc mc70 rfl) ly12 rfl h7 h8 rfl (rfl) <|
  mm_E.iconst (mm_atc mc70 rfl) <|
  mm_E.if2 (mm_atc mc70 rfl) h9 (by decide) (ic_eqT h10) rfl <|
  mm_E.inc mx70 rfl (mm_atc mc70 rfl) rfl <|
  show mm_E _ _ 70 148 [(2, mI (x2 + 1)), (3, mI (A 10 x2)), (0, .ref 2)] _ _ _ from
  mm_E.goto (mm_atc mc70 rfl) rfl <|
  mm_E.to h ⟨rfl, rfl, trivial⟩
theorem p70_103_3 {d : Nat} {X : List Value} {A : MF} {r : MR} {x2 : Int} (H : R32 x2 ∧ R32 (A 2 1) ∧ x2 < A 2 1 ∧ 0 ≤ x2 ∧ x2 < 12 ∧ R32 (A 10 x2) ∧ A 10 x2 ≠ (-1) ∧ 0 ≤ A 10 x2 ∧ A 10 x2 < 6 ∧ R32 (A 12 (A 10 x2)) ∧ A 12 (A 10 x2) ≠ (-1)) (h : mm_E 1 d 70 103 [(0, .ref 2), (2, mI (x2 + 1))] [] (mm_w X (mm_u A 10 x2 (A 12 (A 10 x2)))) r) : mm_E 1 d 70 103 [(0, .ref 2), (2, mI x2)] [] (mm_w X A) r := by
  obtain ⟨h0, h1, h2, h3, h4, h5, h6, h7, h8, h9, h10⟩ := H
  exact mm_E.iload_n (mm_atc mc70 rfl) rfl <|
  mm_E.aload_n (mm_atc mc70 rfl) rfl <|
  mm_E.getI (z := A 2 1) (mm_atc mc70 rfl) (mm_plc mp70 rfl) rfl ly2 rfl (rfl) <|
  mm_E.if2 (mm_atc mc70 rfl) h0 h1 (ic_geF h2) rfl <|
  mm_E.aload_n (mm_atc mc70 rfl) rfl <|
  mm_E.getR (b := 10) (mm_atc mc70 rfl) (mm_plc mp70 rfl) rfl ly2 rfl <|
  mm_E.iload_n (mm_atc mc70 rfl) rfl <|
  mm_E.iaload (e := x2) (mm_atc mc70 rfl) ly10 rfl h3 h4 rfl (rfl) <|
  mm_E.istore_n mx70 rfl (mm_atc mc70 rfl) <|
  show mm_E _ _ 70 118 [(3, mI (A 10 x2)), (0, .ref 2), (2, mI x2)] _ _ _ from
  mm_E.iload_n (mm_atc mc70 rfl) rfl <|
  mm_E.iconst (mm_atc mc70 rfl) <|
  mm_E.if2 (mm_atc mc70 rfl) h5 (by decide) (ic_eqF h6) rfl <|
  mm_E.aload_n (mm_atc mc70 rfl) rfl <|
  mm_E.getR (b := 12) (mm_atc mc70 rfl) (mm_plc mp70 rfl) rfl ly2 rfl <|
  mm_E.iload_n (mm_atc mc70 rfl) rfl <|
  mm_E.iaload (e := A 10 x2) (mm_atc mc70 rfl) ly12 rfl h7 h8 rfl (rfl) <|
  mm_E.iconst (mm_atc mc70 rfl) <|
  mm_E.if2 (mm_atc mc70 rfl) h9 (by decide) (ic_eqF h10) rfl <|
  mm_E.aload_n (mm_atc mc70 rfl) rfl <|
  mm_E.getR (b := 10) (mm_atc mc70 rfl) (mm_plc mp70 rfl) rfl ly2 rfl <|
  mm_E.iload_n (mm_atc mc70 rfl) rfl <|
  mm_E.aload_n (mm_atc mc70 rfl) rfl <|
  mm_E.getR (b := 12) (mm_atc mc70 rfl) (mm_plc mp70 rfl) rfl ly2 rfl <|
  mm_E.iload_n (mm_atc mc70 rfl) rfl <|
  mm_E.iaload (e := A 10 x2) (mm_atc mc70 rfl) ly12 rfl h7 h8 rfl (rfl) <|
  mm_E.iastore (e := x2) (z := A 12 (A 10 x2)) (mm_atc mc70 rfl) ly10 rfl h3 h4 rfl rfl <|
  mm_E.inc mx70 rfl (mm_atc mc70 rfl) rfl <|
  show mm_E _ _ 70 148 [(2, mI (x2 + 1)), (3, mI (A 10 x2)), (0, .ref 2)] _ _ _ from
  mm_E.goto (mm_atc mc70 rfl) rfl <|
  mm_E.to h ⟨rfl, rfl, trivial⟩
theorem p71_0_0 {d : Nat} {X : List Value} {A : MF} {A0 : MF} {z1 : Int} (s0 : mm_E 1 d 87 0 [(0, .ref 13), (1, .ref 3), (2, mI (A 2 0)), (3, mI (A 2 1)), (4, .ref 10)] [] (mm_w X A) (.inl (some (mJ z1)), mm_w X A0, 0, 0)) : mm_E 1 (d + 1) 71 0 [(0, .ref 2)] [] (mm_w X A) (.inl (some (mJ z1)), mm_w X A0, 0, 0) := by
  exact mm_E.aload_n (mm_atc mc71 rfl) rfl <|
  mm_E.getR (b := 13) (mm_atc mc71 rfl) (mm_plc mp71 rfl) rfl ly2 rfl <|
  mm_E.aload_n (mm_atc mc71 rfl) rfl <|
  mm_E.getR (b := 3) (mm_atc mc71 rfl) (mm_plc mp71 rfl) rfl ly2 rfl <|
  mm_E.aload_n (mm_atc mc71 rfl) rfl <|
  mm_E.getI (z := A 2 0) (mm_atc mc71 rfl) (mm_plc mp71 rfl) rfl ly2 rfl (rfl) <|
  mm_E.aload_n (mm_atc mc71 rfl) rfl <|
  mm_E.getI (z := A 2 1) (mm_atc mc71 rfl) (mm_plc mp71 rfl) rfl ly2 rfl (rfl) <|
  mm_E.aload_n (mm_atc mc71 rfl) rfl <|
  mm_E.getR (b := 10) (mm_atc mc71 rfl) (mm_plc mp71 rfl) rfl ly2 rfl <|
  mm_E.callV0 (mm_atc mc71 rfl) (mm_plc mp71 rfl) rfl mk87 ly13 rfl mx87 rfl rfl s0 (by omega) <|
  show mm_E _ _ 71 23 _ _ _ _ from
  mm_E.lret (mm_atc mc71 rfl) mr71
theorem p72_0_0 {d : Nat} {X : List Value} {A : MF} {x1 z1 : Int} {A0 : MF} (s0 : mm_E 1 d 25 0 [(0, .ref 23), (1, .ref (4 + x1.toNat)), (2, mI (A 2 0)), (3, mI (A 2 1))] [] (mm_w X A) (.inl (some (mI z1)), mm_w X A0, 0, 0)) (H : 0 ≤ x1 ∧ x1 < 6) : mm_E 1 (d + 1) 72 0 [(0, .ref 2), (1, mI x1)] [] (mm_w X A) (.inl (some (mI z1)), mm_w X A0, 0, 0) := by
  obtain ⟨h0, h1⟩ := H
  exact mm_E.aload_n (mm_atc mc72 rfl) rfl <|
  mm_E.getR (b := 23) (mm_atc mc72 rfl) (mm_plc mp72 rfl) rfl ly2 rfl <|
  mm_E.aload_n (mm_atc mc72 rfl) rfl <|
  mm_E.getR (b := 3) (mm_atc mc72 rfl) (mm_plc mp72 rfl) rfl ly2 rfl <|
  mm_E.iload_n (mm_atc mc72 rfl) rfl <|
  mm_E.aaload (mm_atc mc72 rfl) ly3 rfl h0 h1 (la4 h0 h1) <|
  mm_E.aload_n (mm_atc mc72 rfl) rfl <|
  mm_E.getI (z := A 2 0) (mm_atc mc72 rfl) (mm_plc mp72 rfl) rfl ly2 rfl (rfl) <|
  mm_E.aload_n (mm_atc mc72 rfl) rfl <|
  mm_E.getI (z := A 2 1) (mm_atc mc72 rfl) (mm_plc mp72 rfl) rfl ly2 rfl (rfl) <|
  mm_E.callV0 (mm_atc mc72 rfl) (mm_plc mp72 rfl) rfl mk25 ly23 rfl mx25 rfl rfl s0 (by omega) <|
  show mm_E _ _ 72 21 _ _ _ _ from
  mm_E.iret (mm_atc mc72 rfl) mr72 rfl
theorem p73_0_0 {w d : Nat} {X : List Value} {A : MF} {r : MR}  (h : mm_E w d 73 2 [(0, .ref 2), (1, mI 0)] [] (mm_w X A) r) : mm_E w d 73 0 [(0, .ref 2)] [] (mm_w X A) r := by
  exact mm_E.iconst (mm_atc mc73 rfl) <|
  mm_E.istore_n mx73 rfl (mm_atc mc73 rfl) <|
  show mm_E _ _ 73 2 [(1, mI 0), (0, .ref 2)] _ _ _ from
  mm_E.to h ⟨rfl, rfl, trivial⟩
theorem p73_2_0 {w d : Nat} {X : List Value} {A : MF} {x1 : Int} (H : R32 x1 ∧ 12 ≤ x1) : mm_E w d 73 2 [(0, .ref 2), (1, mI x1)] [] (mm_w X A) (.inl (none), mm_w X A, 0, 0) := by
  obtain ⟨h0, h1⟩ := H
  exact mm_E.iload_n (mm_atc mc73 rfl) rfl <|
  mm_E.bipush (mm_atc mc73 rfl) rfl <|
  mm_E.if2 (mm_atc mc73 rfl) h0 (by decide) (ic_geT h1) rfl <|
  mm_E.vret (mm_atc mc73 rfl) mr73
theorem p73_2_1 {d : Nat} {X : List Value} {A : MF} {r : MR} {x1 : Int} (H : R32 x1 ∧ x1 < 12 ∧ 0 ≤ x1) (h : mm_E 1 d 73 2 [(0, .ref 2), (1, mI (x1 + 1))] [] (mm_w X (mm_u A 10 x1 (-1))) r) : mm_E 1 d 73 2 [(0, .ref 2), (1, mI x1)] [] (mm_w X A) r := by
  obtain ⟨h0, h1, h2⟩ := H
  exact mm_E.iload_n (mm_atc mc73 rfl) rfl <|
  mm_E.bipush (mm_atc mc73 rfl) rfl <|
  mm_E.if2 (mm_atc mc73 rfl) h0 (by decide) (ic_geF h1) rfl <|
  mm_E.aload_n (mm_atc mc73 rfl) rfl <|
  mm_E.getR (b := 10) (mm_atc mc73 rfl) (mm_plc mp73 rfl) rfl ly2 rfl <|
  mm_E.iload_n (mm_atc mc73 rfl) rfl <|
  mm_E.iconst (mm_atc mc73 rfl) <|
  mm_E.iastore (e := x1) (z := (-1)) (mm_atc mc73 rfl) ly10 rfl h2 h1 rfl rfl <|
  mm_E.inc mx73 rfl (mm_atc mc73 rfl) rfl <|
  show mm_E _ _ 73 18 [(1, mI (x1 + 1)), (0, .ref 2)] _ _ _ from
  mm_E.goto (mm_atc mc73 rfl) rfl <|
  mm_E.to h ⟨rfl, rfl, trivial⟩
theorem p75_0_0 {d : Nat} {X : List Value} {A : MF} {r : MR} {x1 : Int} (h : mm_E 1 d 75 17 [(0, .ref 25), (2, mI 0)] [] (mm_w X (mm_u (mm_u (mm_u A 25 0 x1) 25 1 0) 25 2 0)) r) : mm_E 1 d 75 0 [(0, .ref 25), (1, mI x1)] [] (mm_w X A) r := by
  exact mm_E.aload_n (mm_atc mc75 rfl) rfl <|
  mm_E.iload_n (mm_atc mc75 rfl) rfl <|
  mm_E.putI (fi := 0) (z := x1) (mm_atc mc75 rfl) (mm_plc mp75 rfl) ly25 rfl rfl rfl (mm_fit_i rfl) rfl <|
  mm_E.aload_n (mm_atc mc75 rfl) rfl <|
  mm_E.iconst (mm_atc mc75 rfl) <|
  mm_E.putI (fi := 1) (z := 0) (mm_atc mc75 rfl) (mm_plc mp75 rfl) ly25 rfl rfl rfl (mm_fit_i rfl) rfl <|
  mm_E.aload_n (mm_atc mc75 rfl) rfl <|
  mm_E.iconst (mm_atc mc75 rfl) <|
  mm_E.putI (fi := 2) (z := 0) (mm_atc mc75 rfl) (mm_plc mp75 rfl) ly25 rfl rfl rfl rfl rfl <|
  mm_E.iconst (mm_atc mc75 rfl) <|
  mm_E.istore_n mx75 rfl (mm_atc mc75 rfl) <|
  show mm_E _ _ 75 17 [(2, mI 0), (0, .ref 25), (1, mI x1)] _ _ _ from
  mm_E.to h ⟨rfl, rfl, trivial⟩
theorem p75_17_0 {w d : Nat} {X : List Value} {A : MF} {x2 : Int} (H : R32 x2 ∧ 6 ≤ x2) : mm_E w d 75 17 [(0, .ref 25), (2, mI x2)] [] (mm_w X A) (.inl (none), mm_w X A, 0, 0) := by
  obtain ⟨h0, h1⟩ := H
  exact mm_E.iload_n (mm_atc mc75 rfl) rfl <|
  mm_E.bipush (mm_atc mc75 rfl) rfl <|
  mm_E.if2 (mm_atc mc75 rfl) h0 (by decide) (ic_geT h1) rfl <|
  mm_E.vret (mm_atc mc75 rfl) mr75
theorem p75_17_1 {w d : Nat} {X : List Value} {A : MF} {r : MR} {x2 : Int} (H : R32 x2 ∧ x2 < 6) (h : mm_E w d 75 25 [(0, .ref 25), (2, mI x2), (3, mI 0)] [] (mm_w X A) r) : mm_E w d 75 17 [(0, .ref 25), (2, mI x2)] [] (mm_w X A) r := by
  obtain ⟨h0, h1⟩ := H
  exact mm_E.iload_n (mm_atc mc75 rfl) rfl <|
  mm_E.bipush (mm_atc mc75 rfl) rfl <|
  mm_E.if2 (mm_atc mc75 rfl) h0 (by decide) (ic_geF h1) rfl <|
  mm_E.iconst (mm_atc mc75 rfl) <|
  mm_E.istore_n mx75 rfl (mm_atc mc75 rfl) <|
  show mm_E _ _ 75 25 [(3, mI 0), (0, .ref 25), (2, mI x2)] _ _ _ from
  mm_E.to h ⟨rfl, rfl, rfl, trivial⟩
theorem p75_25_0 {w d : Nat} {X : List Value} {A : MF} {r : MR} {x2 x3 : Int} (H : R32 x3 ∧ 6 ≤ x3) (h : mm_E w d 75 17 [(0, .ref 25), (2, mI (x2 + 1))] [] (mm_w X A) r) : mm_E w d 75 25 [(0, .ref 25), (2, mI x2), (3, mI x3)] [] (mm_w X A) r := by
  obtain ⟨h0, h1⟩ := H
  exact mm_E.iload_n (mm_atc mc75 rfl) rfl <|
  mm_E.bipush (mm_atc mc75 rfl) rfl <|
  mm_E.if2 (mm_atc mc75 rfl) h0 (by decide) (ic_geT h1) rfl <|
  mm_E.inc mx75 rfl (mm_atc mc75 rfl) rfl <|
  show mm_E _ _ 75 49 [(2, mI (x2 + 1)), (0, .ref 25), (3, mI x3)] _ _ _ from
  mm_E.goto (mm_atc mc75 rfl) rfl <|
  mm_E.to h ⟨rfl, rfl, trivial⟩
theorem p75_25_1 {d : Nat} {X : List Value} {A : MF} {r : MR} {x2 x3 : Int} (H : R32 x3 ∧ x3 < 6 ∧ 0 ≤ x2 ∧ x2 < 6 ∧ 0 ≤ x3) (h : mm_E 1 d 75 25 [(0, .ref 25), (2, mI x2), (3, mI (x3 + 1))] [] (mm_w X (mm_u A (27 + x2.toNat) x3 0)) r) : mm_E 1 d 75 25 [(0, .ref 25), (2, mI x2), (3, mI x3)] [] (mm_w X A) r := by
  obtain ⟨h0, h1, h2, h3, h4⟩ := H
  exact mm_E.iload_n (mm_atc mc75 rfl) rfl <|
  mm_E.bipush (mm_atc mc75 rfl) rfl <|
  mm_E.if2 (mm_atc mc75 rfl) h0 (by decide) (ic_geF h1) rfl <|
  mm_E.aload_n (mm_atc mc75 rfl) rfl <|
  mm_E.getR (b := 26) (mm_atc mc75 rfl) (mm_plc mp75 rfl) rfl ly25 rfl <|
  mm_E.iload_n (mm_atc mc75 rfl) rfl <|
  mm_E.aaload (mm_atc mc75 rfl) ly26 rfl h2 h3 (la27 h2 h3) <|
  mm_E.iload_n (mm_atc mc75 rfl) rfl <|
  mm_E.iconst (mm_atc mc75 rfl) <|
  mm_E.iastore (e := x3) (z := 0) (mm_atc mc75 rfl) (lr27 h2 h3) rfl h4 h1 rfl (mm_ly_pos (lr27 h2 h3)) <|
  mm_E.inc mx75 rfl (mm_atc mc75 rfl) rfl <|
  show mm_E _ _ 75 43 [(3, mI (x3 + 1)), (0, .ref 25), (2, mI x2)] _ _ _ from
  mm_E.goto (mm_atc mc75 rfl) rfl <|
  mm_E.to h ⟨rfl, rfl, rfl, trivial⟩
theorem p78_0_0 {w d : Nat} {X : List Value} {A : MF} {r : MR}  (h : mm_E w d 78 2 [(0, .ref 25), (1, mI 0)] [] (mm_w X A) r) : mm_E w d 78 0 [(0, .ref 25)] [] (mm_w X A) r := by
  exact mm_E.iconst (mm_atc mc78 rfl) <|
  mm_E.istore_n mx78 rfl (mm_atc mc78 rfl) <|
  show mm_E _ _ 78 2 [(1, mI 0), (0, .ref 25)] _ _ _ from
  mm_E.to h ⟨rfl, rfl, trivial⟩
theorem p78_2_0 {w d : Nat} {X : List Value} {A : MF} {x1 : Int} (H : R32 x1 ∧ R32 (A 25 0) ∧ A 25 0 ≤ x1) : mm_E w d 78 2 [(0, .ref 25), (1, mI x1)] [] (mm_w X A) (.inl (some (mI 1)), mm_w X A, 0, 0) := by
  obtain ⟨h0, h1, h2⟩ := H
  exact mm_E.iload_n (mm_atc mc78 rfl) rfl <|
  mm_E.aload_n (mm_atc mc78 rfl) rfl <|
  mm_E.getI (z := A 25 0) (mm_atc mc78 rfl) (mm_plc mp78 rfl) rfl ly25 rfl (rfl) <|
  mm_E.if2 (mm_atc mc78 rfl) h0 h1 (ic_geT h2) rfl <|
  mm_E.iconst (mm_atc mc78 rfl) <|
  mm_E.iret (mm_atc mc78 rfl) mr78 rfl
theorem p78_2_1 {w d : Nat} {X : List Value} {A : MF} {r : MR} {x1 : Int} (H : R32 x1 ∧ R32 (A 25 0) ∧ x1 < A 25 0) (h : mm_E w d 78 14 [(0, .ref 25), (1, mI x1), (2, mI 0), (3, mI 0)] [] (mm_w X A) r) : mm_E w d 78 2 [(0, .ref 25), (1, mI x1)] [] (mm_w X A) r := by
  obtain ⟨h0, h1, h2⟩ := H
  exact mm_E.iload_n (mm_atc mc78 rfl) rfl <|
  mm_E.aload_n (mm_atc mc78 rfl) rfl <|
  mm_E.getI (z := A 25 0) (mm_atc mc78 rfl) (mm_plc mp78 rfl) rfl ly25 rfl (rfl) <|
  mm_E.if2 (mm_atc mc78 rfl) h0 h1 (ic_geF h2) rfl <|
  mm_E.iconst (mm_atc mc78 rfl) <|
  mm_E.istore_n mx78 rfl (mm_atc mc78 rfl) <|
  show mm_E _ _ 78 12 [(2, mI 0), (0, .ref 25), (1, mI x1)] _ _ _ from
  mm_E.iconst (mm_atc mc78 rfl) <|
  mm_E.istore_n mx78 rfl (mm_atc mc78 rfl) <|
  show mm_E _ _ 78 14 [(3, mI 0), (2, mI 0), (0, .ref 25), (1, mI x1)] _ _ _ from
  mm_E.to h ⟨rfl, rfl, rfl, rfl, trivial⟩
theorem p78_14_0 {w d : Nat} {X : List Value} {A : MF} {r : MR} {x1 x2 x3 : Int} (H : R32 x3 ∧ R32 (A 25 0) ∧ A 25 0 ≤ x3 ∧ R32 x2 ∧ R32 (A 25 1) ∧ x2 = A 25 1) (h : mm_E w d 78 2 [(0, .ref 25), (1, mI (x1 + 1))] [] (mm_w X A) r) : mm_E w d 78 14 [(0, .ref 25), (1, mI x1), (2, mI x2), (3, mI x3)] [] (mm_w X A) r := by
  obtain ⟨h0, h1, h2, h3, h4, h5⟩ := H
  exact mm_E.iload_n (mm_atc mc78 rfl) rfl <|
  mm_E.aload_n (mm_atc mc78 rfl) rfl <|
  mm_E.getI (z := A 25 0) (mm_atc mc78 rfl) (mm_plc mp78 rfl) rfl ly25 rfl (rfl) <|
  mm_E.if2 (mm_atc mc78 rfl) h0 h1 (ic_geT h2) rfl <|
  mm_E.iload_n (mm_atc mc78 rfl) rfl <|
  mm_E.aload_n (mm_atc mc78 rfl) rfl <|
  mm_E.getI (z := A 25 1) (mm_atc mc78 rfl) (mm_plc mp78 rfl) rfl ly25 rfl (rfl) <|
  mm_E.if2 (mm_atc mc78 rfl) h3 h4 (ic_eqT h5) rfl <|
  mm_E.inc mx78 rfl (mm_atc mc78 rfl) rfl <|
  show mm_E _ _ 78 52 [(1, mI (x1 + 1)), (0, .ref 25), (2, mI x2), (3, mI x3)] _ _ _ from
  mm_E.goto (mm_atc mc78 rfl) rfl <|
  mm_E.to h ⟨rfl, rfl, trivial⟩
theorem p78_14_1 {w d : Nat} {X : List Value} {A : MF} {x1 x2 x3 : Int} (H : R32 x3 ∧ R32 (A 25 0) ∧ A 25 0 ≤ x3 ∧ R32 x2 ∧ R32 (A 25 1) ∧ x2 ≠ A 25 1) : mm_E w d 78 14 [(0, .ref 25), (1, mI x1), (2, mI x2), (3, mI x3)] [] (mm_w X A) (.inl (some (mI 0)), mm_w X A, 0, 0) := by
  obtain ⟨h0, h1, h2, h3, h4, h5⟩ := H
  exact mm_E.iload_n (mm_atc mc78 rfl) rfl <|
  mm_E.aload_n (mm_atc mc78 rfl) rfl <|
  mm_E.getI (z := A 25 0) (mm_atc mc78 rfl) (mm_plc mp78 rfl) rfl ly25 rfl (rfl) <|
  mm_E.if2 (mm_atc mc78 rfl) h0 h1 (ic_geT h2) rfl <|
  mm_E.iload_n (mm_atc mc78 rfl) rfl <|
  mm_E.aload_n (mm_atc mc78 rfl) rfl <|
  mm_E.getI (z := A 25 1) (mm_atc mc78 rfl) (mm_plc mp78 rfl) rfl ly25 rfl (rfl) <|
  mm_E.if2 (mm_atc mc78 rfl) h3 h4 (ic_eqF h5) rfl <|
  mm_E.iconst (mm_atc mc78 rfl) <|
  mm_E.iret (mm_atc mc78 rfl) mr78 rfl
theorem p78_14_2 {w d : Nat} {X : List Value} {A : MF} {r : MR} {x1 x2 x3 : Int} (H : R32 x3 ∧ R32 (A 25 0) ∧ x3 < A 25 0 ∧ 0 ≤ x1 ∧ x1 < 6 ∧ 0 ≤ x3 ∧ x3 < 6) (h : mm_E w d 78 14 [(0, .ref 25), (1, mI x1), (2, mI (x2 + (A (27 + x1.toNat) x3))), (3, mI (x3 + 1))] [] (mm_w X A) r) : mm_E w d 78 14 [(0, .ref 25), (1, mI x1), (2, mI x2), (3, mI x3)] [] (mm_w X A) r := by
  obtain ⟨h0, h1, h2, h3, h4, h5, h6⟩ := H
  exact mm_E.iload_n (mm_atc mc78 rfl) rfl <|
  mm_E.aload_n (mm_atc mc78 rfl) rfl <|
  mm_E.getI (z := A 25 0) (mm_atc mc78 rfl) (mm_plc mp78 rfl) rfl ly25 rfl (rfl) <|
  mm_E.if2 (mm_atc mc78 rfl) h0 h1 (ic_geF h2) rfl <|
  mm_E.iload_n (mm_atc mc78 rfl) rfl <|
  mm_E.aload_n (mm_atc mc78 rfl) rfl <|
  mm_E.getR (b := 26) (mm_atc mc78 rfl) (mm_plc mp78 rfl) rfl ly25 rfl <|
  mm_E.iload_n (mm_atc mc78 rfl) rfl <|
  mm_E.aaload (mm_atc mc78 rfl) ly26 rfl h3 h4 (la27 h3 h4) <|
  mm_E.iload_n (mm_atc mc78 rfl) rfl <|
  mm_E.iaload (e := x3) (mm_atc mc78 rfl) (lr27 h3 h4) rfl h5 h6 rfl (rfl) <|
  mm_E.iadd (mm_atc mc78 rfl) <|
  mm_E.istore_n mx78 rfl (mm_atc mc78 rfl) <|
  show mm_E _ _ 78 33 [(2, mI (x2 + (A (27 + x1.toNat) x3))), (0, .ref 25), (1, mI x1), (3, mI x3)] _ _ _ from
  mm_E.inc mx78 rfl (mm_atc mc78 rfl) rfl <|
  show mm_E _ _ 78 36 [(3, mI (x3 + 1)), (2, mI (x2 + (A (27 + x1.toNat) x3))), (0, .ref 25), (1, mI x1)] _ _ _ from
  mm_E.goto (mm_atc mc78 rfl) rfl <|
  mm_E.to h ⟨rfl, rfl, rfl, rfl, trivial⟩
theorem p82_0_0 {d : Nat} {X : List Value} {A : MF} {A0 A1 A2 : MF} (s0 : mm_E 1 d 83 0 [(0, .ref 25), (1, mI 0), (2, mI 0), (3, mI 0)] [] (mm_w X (mm_u A 25 3 (-1))) (.inl (none), mm_w X A0, 0, 0)) (s1 : mm_E 1 d 84 0 [(0, .ref 25)] [] (mm_w X A0) (.inl (none), mm_w X A1, 0, 0)) (s2 : mm_E 1 d 85 0 [(0, .ref 25)] [] (mm_w X A1) (.inl (none), mm_w X A2, 0, 0)) : mm_E 1 (d + 1) 82 0 [(0, .ref 25)] [] (mm_w X A) (.inl (some (mI (A2 25 3))), mm_w X (mm_u A2 25 2 1), 0, 0) := by
  exact mm_E.aload_n (mm_atc mc82 rfl) rfl <|
  mm_E.iconst (mm_atc mc82 rfl) <|
  mm_E.putI (fi := 3) (z := (-1)) (mm_atc mc82 rfl) (mm_plc mp82 rfl) ly25 rfl rfl rfl (mm_fit_i rfl) rfl <|
  mm_E.aload_n (mm_atc mc82 rfl) rfl <|
  mm_E.iconst (mm_atc mc82 rfl) <|
  mm_E.iconst (mm_atc mc82 rfl) <|
  mm_E.iconst (mm_atc mc82 rfl) <|
  mm_E.callV0 (mm_atc mc82 rfl) (mm_plc mp82 rfl) rfl mk83 ly25 rfl mx83 rfl rfl s0 (by omega) <|
  show mm_E _ _ 82 12 _ _ _ _ from
  mm_E.aload_n (mm_atc mc82 rfl) rfl <|
  mm_E.callV0 (mm_atc mc82 rfl) (mm_plc mp82 rfl) rfl mk84 ly25 rfl mx84 rfl rfl s1 (by omega) <|
  show mm_E _ _ 82 16 _ _ _ _ from
  mm_E.aload_n (mm_atc mc82 rfl) rfl <|
  mm_E.callV0 (mm_atc mc82 rfl) (mm_plc mp82 rfl) rfl mk85 ly25 rfl mx85 rfl rfl s2 (by omega) <|
  show mm_E _ _ 82 20 _ _ _ _ from
  mm_E.aload_n (mm_atc mc82 rfl) rfl <|
  mm_E.iconst (mm_atc mc82 rfl) <|
  mm_E.putI (fi := 2) (z := 1) (mm_atc mc82 rfl) (mm_plc mp82 rfl) ly25 rfl rfl rfl rfl rfl <|
  mm_E.aload_n (mm_atc mc82 rfl) rfl <|
  mm_E.getI (z := A2 25 3) (mm_atc mc82 rfl) (mm_plc mp82 rfl) rfl ly25 rfl ((mm_u_ne (.inr (by decide))).trans (rfl)) <|
  mm_E.iret (mm_atc mc82 rfl) mr82 rfl
theorem p83_0_0 {w d : Nat} {X : List Value} {A : MF} {r : MR} {x1 x2 x3 : Int} (H : R32 x1 ∧ R32 (A 25 0) ∧ x1 < A 25 0) (h : mm_E w d 83 42 [(0, .ref 25), (1, mI x1), (2, mI x2), (3, mI x3), (4, mI 0)] [] (mm_w X A) r) : mm_E w d 83 0 [(0, .ref 25), (1, mI x1), (2, mI x2), (3, mI x3)] [] (mm_w X A) r := by
  obtain ⟨h0, h1, h2⟩ := H
  exact mm_E.iload_n (mm_atc mc83 rfl) rfl <|
  mm_E.aload_n (mm_atc mc83 rfl) rfl <|
  mm_E.getI (z := A 25 0) (mm_atc mc83 rfl) (mm_plc mp83 rfl) rfl ly25 rfl (rfl) <|
  mm_E.if2 (mm_atc mc83 rfl) h0 h1 (ic_ltT h2) rfl <|
  mm_E.iconst (mm_atc mc83 rfl) <|
  mm_E.istore mx83 rfl (mm_atc mc83 rfl) <|
  show mm_E _ _ 83 42 [(4, mI 0), (0, .ref 25), (1, mI x1), (2, mI x2), (3, mI x3)] _ _ _ from
  mm_E.to h ⟨rfl, rfl, rfl, rfl, rfl, trivial⟩
theorem p83_0_1 {w d : Nat} {X : List Value} {A : MF} {x1 x2 x3 : Int} (H : R32 x1 ∧ R32 (A 25 0) ∧ A 25 0 ≤ x1 ∧ R32 x3 ∧ R32 (A 25 3) ∧ x3 ≤ A 25 3) : mm_E w d 83 0 [(0, .ref 25), (1, mI x1), (2, mI x2), (3, mI x3)] [] (mm_w X A) (.inl (none), mm_w X A, 0, 0) := by
  obtain ⟨h0, h1, h2, h3, h4, h5⟩ := H
  exact mm_E.iload_n (mm_atc mc83 rfl) rfl <|
  mm_E.aload_n (mm_atc mc83 rfl) rfl <|
  mm_E.getI (z := A 25 0) (mm_atc mc83 rfl) (mm_plc mp83 rfl) rfl ly25 rfl (rfl) <|
  mm_E.if2 (mm_atc mc83 rfl) h0 h1 (ic_ltF h2) rfl <|
  mm_E.iload_n (mm_atc mc83 rfl) rfl <|
  mm_E.aload_n (mm_atc mc83 rfl) rfl <|
  mm_E.getI (z := A 25 3) (mm_atc mc83 rfl) (mm_plc mp83 rfl) rfl ly25 rfl (rfl) <|
  mm_E.if2 (mm_atc mc83 rfl) h3 h4 (ic_leT h5) rfl <|
  mm_E.vret (mm_atc mc83 rfl) mr83
theorem p83_0_2 {d : Nat} {X : List Value} {A : MF} {x1 x2 x3 : Int} (H : R32 x1 ∧ R32 (A 25 0) ∧ A 25 0 ≤ x1 ∧ R32 x3 ∧ R32 (A 25 3) ∧ A 25 3 < x3 ∧ 0 ≤ A 25 0 ∧ A 25 0 ≤ 6) : mm_E 1 (d + 1) 83 0 [(0, .ref 25), (1, mI x1), (2, mI x2), (3, mI x3)] [] (mm_w X A) (.inl (none), mm_w X (mm_cp (mm_u A 25 3 x3) 33 34 (A 25 0)), 0, 0) := by
  obtain ⟨h0, h1, h2, h3, h4, h5, h6, h7⟩ := H
  exact mm_E.iload_n (mm_atc mc83 rfl) rfl <|
  mm_E.aload_n (mm_atc mc83 rfl) rfl <|
  mm_E.getI (z := A 25 0) (mm_atc mc83 rfl) (mm_plc mp83 rfl) rfl ly25 rfl (rfl) <|
  mm_E.if2 (mm_atc mc83 rfl) h0 h1 (ic_ltF h2) rfl <|
  mm_E.iload_n (mm_atc mc83 rfl) rfl <|
  mm_E.aload_n (mm_atc mc83 rfl) rfl <|
  mm_E.getI (z := A 25 3) (mm_atc mc83 rfl) (mm_plc mp83 rfl) rfl ly25 rfl (rfl) <|
  mm_E.if2 (mm_atc mc83 rfl) h3 h4 (ic_leF h5) rfl <|
  mm_E.aload_n (mm_atc mc83 rfl) rfl <|
  mm_E.iload_n (mm_atc mc83 rfl) rfl <|
  mm_E.putI (fi := 3) (z := x3) (mm_atc mc83 rfl) (mm_plc mp83 rfl) ly25 rfl rfl rfl (mm_fit_i rfl) rfl <|
  mm_E.aload_n (mm_atc mc83 rfl) rfl <|
  mm_E.getR (b := 33) (mm_atc mc83 rfl) (mm_plc mp83 rfl) rfl ly25 rfl <|
  mm_E.iconst (mm_atc mc83 rfl) <|
  mm_E.aload_n (mm_atc mc83 rfl) rfl <|
  mm_E.getR (b := 34) (mm_atc mc83 rfl) (mm_plc mp83 rfl) rfl ly25 rfl <|
  mm_E.iconst (mm_atc mc83 rfl) <|
  mm_E.aload_n (mm_atc mc83 rfl) rfl <|
  mm_E.getI (z := A 25 0) (mm_atc mc83 rfl) (mm_plc mp83 rfl) rfl ly25 rfl ((mm_u_ne (.inr (by decide))).trans (rfl)) <|
  mm_E.copy (mm_atc mc83 rfl) (mm_plc mp83 rfl) ly33 ly34 rfl rfl h6 h7 rfl rfl rfl <|
  mm_E.vret (mm_atc mc83 rfl) mr83
theorem p83_42_0 {w d : Nat} {X : List Value} {A : MF} {x1 x2 x3 x4 : Int} (H : R32 x4 ∧ R32 (A 25 0) ∧ A 25 0 ≤ x4) : mm_E w d 83 42 [(0, .ref 25), (1, mI x1), (2, mI x2), (3, mI x3), (4, mI x4)] [] (mm_w X A) (.inl (none), mm_w X A, 0, 0) := by
  obtain ⟨h0, h1, h2⟩ := H
  exact mm_E.iload (mm_atc mc83 rfl) rfl <|
  mm_E.aload_n (mm_atc mc83 rfl) rfl <|
  mm_E.getI (z := A 25 0) (mm_atc mc83 rfl) (mm_plc mp83 rfl) rfl ly25 rfl (rfl) <|
  mm_E.if2 (mm_atc mc83 rfl) h0 h1 (ic_geT h2) rfl <|
  mm_E.vret (mm_atc mc83 rfl) mr83
theorem p83_42_1 {w d : Nat} {X : List Value} {A : MF} {r : MR} {x1 x2 x3 x4 : Int} (H : R32 x4 ∧ R32 (A 25 0) ∧ x4 < A 25 0 ∧ R32 (mm_and (mm_shr x2 x4) 1) ∧ mm_and (mm_shr x2 x4) 1 ≠ 0) (h : mm_E w d 83 42 [(0, .ref 25), (1, mI x1), (2, mI x2), (3, mI x3), (4, mI (x4 + 1))] [] (mm_w X A) r) : mm_E w d 83 42 [(0, .ref 25), (1, mI x1), (2, mI x2), (3, mI x3), (4, mI x4)] [] (mm_w X A) r := by
  obtain ⟨h0, h1, h2, h3, h4⟩ := H
  exact mm_E.iload (mm_atc mc83 rfl) rfl <|
  mm_E.aload_n (mm_atc mc83 rfl) rfl <|
  mm_E.getI (z := A 25 0) (mm_atc mc83 rfl) (mm_plc mp83 rfl) rfl ly25 rfl (rfl) <|
  mm_E.if2 (mm_atc mc83 rfl) h0 h1 (ic_geF h2) rfl <|
  mm_E.iload_n (mm_atc mc83 rfl) rfl <|
  mm_E.iload (mm_atc mc83 rfl) rfl <|
  mm_E.ishr (mm_atc mc83 rfl) <|
  mm_E.iconst (mm_atc mc83 rfl) <|
  mm_E.iand (mm_atc mc83 rfl) <|
  mm_E.if1 (mm_atc mc83 rfl) h3 (ic_neT h4) rfl <|
  mm_E.inc mx83 rfl (mm_atc mc83 rfl) rfl <|
  show mm_E _ _ 83 95 [(4, mI (x4 + 1)), (0, .ref 25), (1, mI x1), (2, mI x2), (3, mI x3)] _ _ _ from
  mm_E.goto (mm_atc mc83 rfl) rfl <|
  mm_E.to h ⟨rfl, rfl, rfl, rfl, rfl, trivial⟩
theorem p83_42_2 {d : Nat} {X : List Value} {A : MF} {r : MR} {x1 x2 x3 x4 : Int} {A0 : MF} (s0 : mm_E 1 d 83 0 [(0, .ref 25), (1, mI (x1 + 1)), (2, mI (mm_or x2 (mm_shl 1 x4))), (3, mI (x3 + (A (27 + x1.toNat) x4)))] [] (mm_w X (mm_u A 33 x1 x4)) (.inl (none), mm_w X A0, 0, 0)) (H : R32 x4 ∧ R32 (A 25 0) ∧ x4 < A 25 0 ∧ R32 (mm_and (mm_shr x2 x4) 1) ∧ mm_and (mm_shr x2 x4) 1 = 0 ∧ 0 ≤ x1 ∧ x1 < 6 ∧ 0 ≤ x4 ∧ x4 < 6) (h : mm_E 1 (d + 1) 83 42 [(0, .ref 25), (1, mI x1), (2, mI x2), (3, mI x3), (4, mI (x4 + 1))] [] (mm_w X A0) r) : mm_E 1 (d + 1) 83 42 [(0, .ref 25), (1, mI x1), (2, mI x2), (3, mI x3), (4, mI x4)] [] (mm_w X A) r := by
  obtain ⟨h0, h1, h2, h3, h4, h5, h6, h7, h8⟩ := H
  exact mm_E.iload (mm_atc mc83 rfl) rfl <|
  mm_E.aload_n (mm_atc mc83 rfl) rfl <|
  mm_E.getI (z := A 25 0) (mm_atc mc83 rfl) (mm_plc mp83 rfl) rfl ly25 rfl (rfl) <|
  mm_E.if2 (mm_atc mc83 rfl) h0 h1 (ic_geF h2) rfl <|
  mm_E.iload_n (mm_atc mc83 rfl) rfl <|
  mm_E.iload (mm_atc mc83 rfl) rfl <|
  mm_E.ishr (mm_atc mc83 rfl) <|
  mm_E.iconst (mm_atc mc83 rfl) <|
  mm_E.iand (mm_atc mc83 rfl) <|
  mm_E.if1 (mm_atc mc83 rfl) h3 (ic_neF h4) rfl <|
  mm_E.aload_n (mm_atc mc83 rfl) rfl <|
  mm_E.getR (b := 33) (mm_atc mc83 rfl) (mm_plc mp83 rfl) rfl ly25 rfl <|
  mm_E.iload_n (mm_atc mc83 rfl) rfl <|
  mm_E.iload (mm_atc mc83 rfl) rfl <|
  mm_E.iastore (e := x1) (z := x4) (mm_atc mc83 rfl) ly33 rfl h5 h6 rfl rfl <|
  mm_E.aload_n (mm_atc mc83 rfl) rfl <|
  mm_E.iload_n (mm_atc mc83 rfl) rfl <|
  mm_E.iconst (mm_atc mc83 rfl) <|
  mm_E.iadd (mm_atc mc83 rfl) <|
  mm_E.iload_n (mm_atc mc83 rfl) rfl <|
  mm_E.iconst (mm_atc mc83 rfl) <|
  mm_E.iload (mm_atc mc83 rfl) rfl <|
  mm_E.ishl (mm_atc mc83 rfl) <|
  mm_E.ior (mm_atc mc83 rfl) <|
  mm_E.iload_n (mm_atc mc83 rfl) rfl <|
  mm_E.aload_n (mm_atc mc83 rfl) rfl <|
  mm_E.getR (b := 26) (mm_atc mc83 rfl) (mm_plc mp83 rfl) rfl ly25 rfl <|
  mm_E.iload_n (mm_atc mc83 rfl) rfl <|
  mm_E.aaload (mm_atc mc83 rfl) ly26 rfl h5 h6 (la27 h5 h6) <|
  mm_E.iload (mm_atc mc83 rfl) rfl <|
  mm_E.iaload (e := x4) (mm_atc mc83 rfl) (lr27 h5 h6) rfl h7 h8 rfl ((mm_u_ne (.inl (by omega))).trans (rfl)) <|
  mm_E.iadd (mm_atc mc83 rfl) <|
  mm_E.callV0 (mm_atc mc83 rfl) (mm_plc mp83 rfl) rfl mk83 ly25 rfl mx83 rfl rfl s0 (by omega) <|
  show mm_E _ _ 83 92 _ _ _ _ from
  mm_E.inc mx83 rfl (mm_atc mc83 rfl) rfl <|
  show mm_E _ _ 83 95 [(4, mI (x4 + 1)), (0, .ref 25), (1, mI x1), (2, mI x2), (3, mI x3)] _ _ _ from
  mm_E.goto (mm_atc mc83 rfl) rfl <|
  mm_E.to h ⟨rfl, rfl, rfl, rfl, rfl, trivial⟩
theorem p84_0_0 {w d : Nat} {X : List Value} {A : MF} {r : MR}  (h : mm_E w d 84 2 [(0, .ref 25), (1, mI 0)] [] (mm_w X A) r) : mm_E w d 84 0 [(0, .ref 25)] [] (mm_w X A) r := by
  exact mm_E.iconst (mm_atc mc84 rfl) <|
  mm_E.istore_n mx84 rfl (mm_atc mc84 rfl) <|
  show mm_E _ _ 84 2 [(1, mI 0), (0, .ref 25)] _ _ _ from
  mm_E.to h ⟨rfl, rfl, trivial⟩
theorem p84_2_0 {w d : Nat} {X : List Value} {A : MF} {r : MR} {x1 : Int} (H : R32 x1 ∧ R32 (A 25 0) ∧ A 25 0 ≤ x1) (h : mm_E w d 84 25 [(0, .ref 25), (1, mI 1)] [] (mm_w X A) r) : mm_E w d 84 2 [(0, .ref 25), (1, mI x1)] [] (mm_w X A) r := by
  obtain ⟨h0, h1, h2⟩ := H
  exact mm_E.iload_n (mm_atc mc84 rfl) rfl <|
  mm_E.aload_n (mm_atc mc84 rfl) rfl <|
  mm_E.getI (z := A 25 0) (mm_atc mc84 rfl) (mm_plc mp84 rfl) rfl ly25 rfl (rfl) <|
  mm_E.if2 (mm_atc mc84 rfl) h0 h1 (ic_geT h2) rfl <|
  mm_E.iconst (mm_atc mc84 rfl) <|
  mm_E.istore_n mx84 rfl (mm_atc mc84 rfl) <|
  show mm_E _ _ 84 25 [(1, mI 1), (0, .ref 25)] _ _ _ from
  mm_E.to h ⟨rfl, rfl, trivial⟩
theorem p84_2_1 {d : Nat} {X : List Value} {A : MF} {r : MR} {x1 : Int} (H : R32 x1 ∧ R32 (A 25 0) ∧ x1 < A 25 0 ∧ 0 ≤ x1 ∧ x1 < 6) (h : mm_E 1 d 84 2 [(0, .ref 25), (1, mI (x1 + 1))] [] (mm_w X (mm_u A 35 x1 0)) r) : mm_E 1 d 84 2 [(0, .ref 25), (1, mI x1)] [] (mm_w X A) r := by
  obtain ⟨h0, h1, h2, h3, h4⟩ := H
  exact mm_E.iload_n (mm_atc mc84 rfl) rfl <|
  mm_E.aload_n (mm_atc mc84 rfl) rfl <|
  mm_E.getI (z := A 25 0) (mm_atc mc84 rfl) (mm_plc mp84 rfl) rfl ly25 rfl (rfl) <|
  mm_E.if2 (mm_atc mc84 rfl) h0 h1 (ic_geF h2) rfl <|
  mm_E.aload_n (mm_atc mc84 rfl) rfl <|
  mm_E.getR (b := 35) (mm_atc mc84 rfl) (mm_plc mp84 rfl) rfl ly25 rfl <|
  mm_E.iload_n (mm_atc mc84 rfl) rfl <|
  mm_E.iconst (mm_atc mc84 rfl) <|
  mm_E.iastore (e := x1) (z := 0) (mm_atc mc84 rfl) ly35 rfl h3 h4 rfl rfl <|
  mm_E.inc mx84 rfl (mm_atc mc84 rfl) rfl <|
  show mm_E _ _ 84 20 [(1, mI (x1 + 1)), (0, .ref 25)] _ _ _ from
  mm_E.goto (mm_atc mc84 rfl) rfl <|
  mm_E.to h ⟨rfl, rfl, trivial⟩
theorem p84_25_0 {w d : Nat} {X : List Value} {A : MF} {x1 : Int} (H : R32 x1 ∧ R32 (A 25 0) ∧ A 25 0 ≤ x1) : mm_E w d 84 25 [(0, .ref 25), (1, mI x1)] [] (mm_w X A) (.inl (none), mm_w X A, 0, 0) := by
  obtain ⟨h0, h1, h2⟩ := H
  exact mm_E.iload_n (mm_atc mc84 rfl) rfl <|
  mm_E.aload_n (mm_atc mc84 rfl) rfl <|
  mm_E.getI (z := A 25 0) (mm_atc mc84 rfl) (mm_plc mp84 rfl) rfl ly25 rfl (rfl) <|
  mm_E.if2 (mm_atc mc84 rfl) h0 h1 (ic_geT h2) rfl <|
  mm_E.vret (mm_atc mc84 rfl) mr84
theorem p84_25_1 {w d : Nat} {X : List Value} {A : MF} {r : MR} {x1 : Int} (H : R32 x1 ∧ R32 (A 25 0) ∧ x1 < A 25 0) (h : mm_E w d 84 35 [(0, .ref 25), (1, mI x1), (2, mI 0)] [] (mm_w X A) r) : mm_E w d 84 25 [(0, .ref 25), (1, mI x1)] [] (mm_w X A) r := by
  obtain ⟨h0, h1, h2⟩ := H
  exact mm_E.iload_n (mm_atc mc84 rfl) rfl <|
  mm_E.aload_n (mm_atc mc84 rfl) rfl <|
  mm_E.getI (z := A 25 0) (mm_atc mc84 rfl) (mm_plc mp84 rfl) rfl ly25 rfl (rfl) <|
  mm_E.if2 (mm_atc mc84 rfl) h0 h1 (ic_geF h2) rfl <|
  mm_E.iconst (mm_atc mc84 rfl) <|
  mm_E.istore_n mx84 rfl (mm_atc mc84 rfl) <|
  show mm_E _ _ 84 35 [(2, mI 0), (0, .ref 25), (1, mI x1)] _ _ _ from
  mm_E.to h ⟨rfl, rfl, rfl, trivial⟩
theorem p84_35_0 {w d : Nat} {X : List Value} {A : MF} {r : MR} {x1 x2 : Int} (H : R32 x2 ∧ R32 (A 25 0) ∧ A 25 0 ≤ x2) (h : mm_E w d 84 25 [(0, .ref 25), (1, mI (x1 + 1))] [] (mm_w X A) r) : mm_E w d 84 35 [(0, .ref 25), (1, mI x1), (2, mI x2)] [] (mm_w X A) r := by
  obtain ⟨h0, h1, h2⟩ := H
  exact mm_E.iload_n (mm_atc mc84 rfl) rfl <|
  mm_E.aload_n (mm_atc mc84 rfl) rfl <|
  mm_E.getI (z := A 25 0) (mm_atc mc84 rfl) (mm_plc mp84 rfl) rfl ly25 rfl (rfl) <|
  mm_E.if2 (mm_atc mc84 rfl) h0 h1 (ic_geT h2) rfl <|
  mm_E.inc mx84 rfl (mm_atc mc84 rfl) rfl <|
  show mm_E _ _ 84 117 [(1, mI (x1 + 1)), (0, .ref 25), (2, mI x2)] _ _ _ from
  mm_E.goto (mm_atc mc84 rfl) rfl <|
  mm_E.to h ⟨rfl, rfl, trivial⟩
theorem p84_35_1 {w d : Nat} {X : List Value} {A : MF} {r : MR} {x1 x2 : Int} (H : R32 x2 ∧ R32 (A 25 0) ∧ x2 < A 25 0) (h : mm_E w d 84 45 [(0, .ref 25), (1, mI x1), (2, mI x2), (3, mI 0)] [] (mm_w X A) r) : mm_E w d 84 35 [(0, .ref 25), (1, mI x1), (2, mI x2)] [] (mm_w X A) r := by
  obtain ⟨h0, h1, h2⟩ := H
  exact mm_E.iload_n (mm_atc mc84 rfl) rfl <|
  mm_E.aload_n (mm_atc mc84 rfl) rfl <|
  mm_E.getI (z := A 25 0) (mm_atc mc84 rfl) (mm_plc mp84 rfl) rfl ly25 rfl (rfl) <|
  mm_E.if2 (mm_atc mc84 rfl) h0 h1 (ic_geF h2) rfl <|
  mm_E.iconst (mm_atc mc84 rfl) <|
  mm_E.istore_n mx84 rfl (mm_atc mc84 rfl) <|
  show mm_E _ _ 84 45 [(3, mI 0), (0, .ref 25), (1, mI x1), (2, mI x2)] _ _ _ from
  mm_E.to h ⟨rfl, rfl, rfl, rfl, trivial⟩
theorem p84_45_0 {w d : Nat} {X : List Value} {A : MF} {r : MR} {x1 x2 x3 : Int} (H : R32 x3 ∧ R32 (A 25 0) ∧ A 25 0 ≤ x3) (h : mm_E w d 84 35 [(0, .ref 25), (1, mI x1), (2, mI (x2 + 1))] [] (mm_w X A) r) : mm_E w d 84 45 [(0, .ref 25), (1, mI x1), (2, mI x2), (3, mI x3)] [] (mm_w X A) r := by
  obtain ⟨h0, h1, h2⟩ := H
  exact mm_E.iload_n (mm_atc mc84 rfl) rfl <|
  mm_E.aload_n (mm_atc mc84 rfl) rfl <|
  mm_E.getI (z := A 25 0) (mm_atc mc84 rfl) (mm_plc mp84 rfl) rfl ly25 rfl (rfl) <|
  mm_E.if2 (mm_atc mc84 rfl) h0 h1 (ic_geT h2) rfl <|
  mm_E.inc mx84 rfl (mm_atc mc84 rfl) rfl <|
  show mm_E _ _ 84 111 [(2, mI (x2 + 1)), (0, .ref 25), (1, mI x1), (3, mI x3)] _ _ _ from
  mm_E.goto (mm_atc mc84 rfl) rfl <|
  mm_E.to h ⟨rfl, rfl, rfl, trivial⟩
theorem p84_45_1 {d : Nat} {X : List Value} {A : MF} {r : MR} {x1 x2 x3 : Int} (H : R32 x3 ∧ R32 (A 25 0) ∧ x3 < A 25 0 ∧ 0 ≤ x3 ∧ x3 < 6 ∧ 0 ≤ x2 ∧ x2 < 6 ∧ 0 ≤ A 34 x3 ∧ A 34 x3 < 6 ∧ R32 (A 35 x2) ∧ R32 (((A 35 x3) + (A (27 + x2.toNat) (A 34 x3))) - (A (27 + x3.toNat) (A 34 x3)))) (h : mm_E 1 (d + 1) 84 45 [(0, .ref 25), (1, mI x1), (2, mI x2), (3, mI (x3 + 1))] [] (mm_w X (mm_u A 35 x2 (max (A 35 x2) (((A 35 x3) + (A (27 + x2.toNat) (A 34 x3))) - (A (27 + x3.toNat) (A 34 x3)))))) r) : mm_E 1 (d + 1) 84 45 [(0, .ref 25), (1, mI x1), (2, mI x2), (3, mI x3)] [] (mm_w X A) r := by
  obtain ⟨h0, h1, h2, h3, h4, h5, h6, h7, h8, h9, h10⟩ := H
  exact mm_E.iload_n (mm_atc mc84 rfl) rfl <|
  mm_E.aload_n (mm_atc mc84 rfl) rfl <|
  mm_E.getI (z := A 25 0) (mm_atc mc84 rfl) (mm_plc mp84 rfl) rfl ly25 rfl (rfl) <|
  mm_E.if2 (mm_atc mc84 rfl) h0 h1 (ic_geF h2) rfl <|
  mm_E.aload_n (mm_atc mc84 rfl) rfl <|
  mm_E.getR (b := 34) (mm_atc mc84 rfl) (mm_plc mp84 rfl) rfl ly25 rfl <|
  mm_E.iload_n (mm_atc mc84 rfl) rfl <|
  mm_E.iaload (e := x3) (mm_atc mc84 rfl) ly34 rfl h3 h4 rfl (rfl) <|
  mm_E.istore mx84 rfl (mm_atc mc84 rfl) <|
  show mm_E _ _ 84 61 [(4, mI (A 34 x3)), (0, .ref 25), (1, mI x1), (2, mI x2), (3, mI x3)] _ _ _ from
  mm_E.aload_n (mm_atc mc84 rfl) rfl <|
  mm_E.getR (b := 35) (mm_atc mc84 rfl) (mm_plc mp84 rfl) rfl ly25 rfl <|
  mm_E.iload_n (mm_atc mc84 rfl) rfl <|
  mm_E.aload_n (mm_atc mc84 rfl) rfl <|
  mm_E.getR (b := 35) (mm_atc mc84 rfl) (mm_plc mp84 rfl) rfl ly25 rfl <|
  mm_E.iload_n (mm_atc mc84 rfl) rfl <|
  mm_E.iaload (e := x2) (mm_atc mc84 rfl) ly35 rfl h5 h6 rfl (rfl) <|
  mm_E.aload_n (mm_atc mc84 rfl) rfl <|
  mm_E.getR (b := 35) (mm_atc mc84 rfl) (mm_plc mp84 rfl) rfl ly25 rfl <|
  mm_E.iload_n (mm_atc mc84 rfl) rfl <|
  mm_E.iaload (e := x3) (mm_atc mc84 rfl) ly35 rfl h3 h4 rfl (rfl) <|
  mm_E.aload_n (mm_atc mc84 rfl) rfl <|
  mm_E.getR (b := 26) (mm_atc mc84 rfl) (mm_plc mp84 rfl) rfl ly25 rfl <|
  mm_E.iload_n (mm_atc mc84 rfl) rfl <|
  mm_E.aaload (mm_atc mc84 rfl) ly26 rfl h5 h6 (la27 h5 h6) <|
  mm_E.iload (mm_atc mc84 rfl) rfl <|
  mm_E.iaload (e := A 34 x3) (mm_atc mc84 rfl) (lr27 h5 h6) rfl h7 h8 rfl (rfl) <|
  mm_E.iadd (mm_atc mc84 rfl) <|
  mm_E.aload_n (mm_atc mc84 rfl) rfl <|
  mm_E.getR (b := 26) (mm_atc mc84 rfl) (mm_plc mp84 rfl) rfl ly25 rfl <|
  mm_E.iload_n (mm_atc mc84 rfl) rfl <|
  mm_E.aaload (mm_atc mc84 rfl) ly26 rfl h3 h4 (la27 h3 h4) <|
  mm_E.iload (mm_atc mc84 rfl) rfl <|
  mm_E.iaload (e := A 34 x3) (mm_atc mc84 rfl) (lr27 h3 h4) rfl h7 h8 rfl (rfl) <|
  mm_E.isub (mm_atc mc84 rfl) <|
  mm_E.maxI h9 h10 (mm_atc mc84 rfl) (mm_plc mp84 rfl) rfl <|
  mm_E.iastore (e := x2) (z := max (A 35 x2) (((A 35 x3) + (A (27 + x2.toNat) (A 34 x3))) - (A (27 + x3.toNat) (A 34 x3)))) (mm_atc mc84 rfl) ly35 rfl h5 h6 rfl rfl <|
  mm_E.inc mx84 rfl (mm_atc mc84 rfl) rfl <|
  show mm_E _ _ 84 105 [(3, mI (x3 + 1)), (4, mI (A 34 x3)), (0, .ref 25), (1, mI x1), (2, mI x2)] _ _ _ from
  mm_E.goto (mm_atc mc84 rfl) rfl <|
  mm_E.to h ⟨rfl, rfl, rfl, rfl, trivial⟩
theorem p85_0_0 {w d : Nat} {X : List Value} {A : MF} {r : MR}  (H : R32 ((A 25 3) - (A 25 1))) (h : mm_E w d 85 13 [(0, .ref 25), (1, mJ ((A 25 3) - (A 25 1))), (3, mI 0)] [] (mm_w X A) r) : mm_E w d 85 0 [(0, .ref 25)] [] (mm_w X A) r := by
  have h0 := H
  exact mm_E.aload_n (mm_atc mc85 rfl) rfl <|
  mm_E.getI (z := A 25 3) (mm_atc mc85 rfl) (mm_plc mp85 rfl) rfl ly25 rfl (rfl) <|
  mm_E.aload_n (mm_atc mc85 rfl) rfl <|
  mm_E.getI (z := A 25 1) (mm_atc mc85 rfl) (mm_plc mp85 rfl) rfl ly25 rfl (rfl) <|
  mm_E.isub (mm_atc mc85 rfl) <|
  mm_E.i2l h0 (mm_atc mc85 rfl) <|
  mm_E.lstore_n mx85 rfl (mm_atc mc85 rfl) <|
  show mm_E _ _ 85 11 [(1, mJ ((A 25 3) - (A 25 1))), (0, .ref 25)] _ _ _ from
  mm_E.iconst (mm_atc mc85 rfl) <|
  mm_E.istore_n mx85 rfl (mm_atc mc85 rfl) <|
  show mm_E _ _ 85 13 [(3, mI 0), (1, mJ ((A 25 3) - (A 25 1))), (0, .ref 25)] _ _ _ from
  mm_E.to h ⟨rfl, rfl, rfl, trivial⟩
theorem p85_13_0 {w d : Nat} {X : List Value} {A : MF} {r : MR} {y1 x3 : Int} (H : R32 x3 ∧ R32 (A 25 0) ∧ A 25 0 ≤ x3) (h : mm_E w d 85 39 [(0, .ref 25), (1, mJ y1), (3, mI 0)] [] (mm_w X A) r) : mm_E w d 85 13 [(0, .ref 25), (1, mJ y1), (3, mI x3)] [] (mm_w X A) r := by
  obtain ⟨h0, h1, h2⟩ := H
  exact mm_E.iload_n (mm_atc mc85 rfl) rfl <|
  mm_E.aload_n (mm_atc mc85 rfl) rfl <|
  mm_E.getI (z := A 25 0) (mm_atc mc85 rfl) (mm_plc mp85 rfl) rfl ly25 rfl (rfl) <|
  mm_E.if2 (mm_atc mc85 rfl) h0 h1 (ic_geT h2) rfl <|
  mm_E.iconst (mm_atc mc85 rfl) <|
  mm_E.istore_n mx85 rfl (mm_atc mc85 rfl) <|
  show mm_E _ _ 85 39 [(3, mI 0), (0, .ref 25), (1, mJ y1)] _ _ _ from
  mm_E.to h ⟨rfl, rfl, rfl, trivial⟩
theorem p85_13_1 {w d : Nat} {X : List Value} {A : MF} {r : MR} {y1 x3 : Int} (H : R32 x3 ∧ R32 (A 25 0) ∧ x3 < A 25 0 ∧ 0 ≤ x3 ∧ x3 < 6 ∧ R32 (A 35 x3)) (h : mm_E w d 85 13 [(0, .ref 25), (1, mJ (y1 - (A 35 x3))), (3, mI (x3 + 1))] [] (mm_w X A) r) : mm_E w d 85 13 [(0, .ref 25), (1, mJ y1), (3, mI x3)] [] (mm_w X A) r := by
  obtain ⟨h0, h1, h2, h3, h4, h5⟩ := H
  exact mm_E.iload_n (mm_atc mc85 rfl) rfl <|
  mm_E.aload_n (mm_atc mc85 rfl) rfl <|
  mm_E.getI (z := A 25 0) (mm_atc mc85 rfl) (mm_plc mp85 rfl) rfl ly25 rfl (rfl) <|
  mm_E.if2 (mm_atc mc85 rfl) h0 h1 (ic_geF h2) rfl <|
  mm_E.lload_n (mm_atc mc85 rfl) rfl <|
  mm_E.aload_n (mm_atc mc85 rfl) rfl <|
  mm_E.getR (b := 35) (mm_atc mc85 rfl) (mm_plc mp85 rfl) rfl ly25 rfl <|
  mm_E.iload_n (mm_atc mc85 rfl) rfl <|
  mm_E.iaload (e := x3) (mm_atc mc85 rfl) ly35 rfl h3 h4 rfl (rfl) <|
  mm_E.i2l h5 (mm_atc mc85 rfl) <|
  mm_E.lsub (mm_atc mc85 rfl) <|
  mm_E.lstore_n mx85 rfl (mm_atc mc85 rfl) <|
  show mm_E _ _ 85 31 [(1, mJ (y1 - (A 35 x3))), (0, .ref 25), (3, mI x3)] _ _ _ from
  mm_E.inc mx85 rfl (mm_atc mc85 rfl) rfl <|
  show mm_E _ _ 85 34 [(3, mI (x3 + 1)), (1, mJ (y1 - (A 35 x3))), (0, .ref 25)] _ _ _ from
  mm_E.goto (mm_atc mc85 rfl) rfl <|
  mm_E.to h ⟨rfl, rfl, rfl, trivial⟩
theorem p85_39_0 {w d : Nat} {X : List Value} {A : MF} {y1 x3 : Int} (H : R32 x3 ∧ R32 (A 25 0) ∧ A 25 0 ≤ x3) : mm_E w d 85 39 [(0, .ref 25), (1, mJ y1), (3, mI x3)] [] (mm_w X A) (.inl (none), mm_w X A, 0, 0) := by
  obtain ⟨h0, h1, h2⟩ := H
  exact mm_E.iload_n (mm_atc mc85 rfl) rfl <|
  mm_E.aload_n (mm_atc mc85 rfl) rfl <|
  mm_E.getI (z := A 25 0) (mm_atc mc85 rfl) (mm_plc mp85 rfl) rfl ly25 rfl (rfl) <|
  mm_E.if2 (mm_atc mc85 rfl) h0 h1 (ic_geT h2) rfl <|
  mm_E.vret (mm_atc mc85 rfl) mr85
theorem p85_39_1 {d : Nat} {X : List Value} {A : MF} {r : MR} {y1 x3 : Int} {A0 : MF} (s0 : mm_E 1 d 46 0 [(0, .ref (37 + x3.toNat)), (1, mJ ((((A (27 + x3.toNat) (A 34 x3)) - (A 35 x3)) * (A 25 0)) - y1)), (3, mJ (A 25 0))] [] (mm_w X A) (.inl (none), mm_w X A0, 0, 0)) (H : R32 x3 ∧ R32 (A 25 0) ∧ x3 < A 25 0 ∧ 0 ≤ x3 ∧ x3 < 6 ∧ 0 ≤ A 34 x3 ∧ A 34 x3 < 6 ∧ R32 ((A (27 + x3.toNat) (A 34 x3)) - (A 35 x3))) (h : mm_E 1 (d + 1) 85 39 [(0, .ref 25), (1, mJ y1), (3, mI (x3 + 1))] [] (mm_w X A0) r) : mm_E 1 (d + 1) 85 39 [(0, .ref 25), (1, mJ y1), (3, mI x3)] [] (mm_w X A) r := by
  obtain ⟨h0, h1, h2, h3, h4, h5, h6, h7⟩ := H
  exact mm_E.iload_n (mm_atc mc85 rfl) rfl <|
  mm_E.aload_n (mm_atc mc85 rfl) rfl <|
  mm_E.getI (z := A 25 0) (mm_atc mc85 rfl) (mm_plc mp85 rfl) rfl ly25 rfl (rfl) <|
  mm_E.if2 (mm_atc mc85 rfl) h0 h1 (ic_geF h2) rfl <|
  mm_E.aload_n (mm_atc mc85 rfl) rfl <|
  mm_E.getR (b := 26) (mm_atc mc85 rfl) (mm_plc mp85 rfl) rfl ly25 rfl <|
  mm_E.iload_n (mm_atc mc85 rfl) rfl <|
  mm_E.aaload (mm_atc mc85 rfl) ly26 rfl h3 h4 (la27 h3 h4) <|
  mm_E.aload_n (mm_atc mc85 rfl) rfl <|
  mm_E.getR (b := 34) (mm_atc mc85 rfl) (mm_plc mp85 rfl) rfl ly25 rfl <|
  mm_E.iload_n (mm_atc mc85 rfl) rfl <|
  mm_E.iaload (e := x3) (mm_atc mc85 rfl) ly34 rfl h3 h4 rfl (rfl) <|
  mm_E.iaload (e := A 34 x3) (mm_atc mc85 rfl) (lr27 h3 h4) rfl h5 h6 rfl (rfl) <|
  mm_E.aload_n (mm_atc mc85 rfl) rfl <|
  mm_E.getR (b := 35) (mm_atc mc85 rfl) (mm_plc mp85 rfl) rfl ly25 rfl <|
  mm_E.iload_n (mm_atc mc85 rfl) rfl <|
  mm_E.iaload (e := x3) (mm_atc mc85 rfl) ly35 rfl h3 h4 rfl (rfl) <|
  mm_E.isub (mm_atc mc85 rfl) <|
  mm_E.i2l h7 (mm_atc mc85 rfl) <|
  mm_E.lstore mx85 rfl (mm_atc mc85 rfl) <|
  show mm_E _ _ 85 70 [(4, mJ ((A (27 + x3.toNat) (A 34 x3)) - (A 35 x3))), (0, .ref 25), (1, mJ y1), (3, mI x3)] _ _ _ from
  mm_E.aload_n (mm_atc mc85 rfl) rfl <|
  mm_E.getR (b := 36) (mm_atc mc85 rfl) (mm_plc mp85 rfl) rfl ly25 rfl <|
  mm_E.iload_n (mm_atc mc85 rfl) rfl <|
  mm_E.aaload (mm_atc mc85 rfl) ly36 rfl h3 h4 (la37 h3 h4) <|
  mm_E.lload (mm_atc mc85 rfl) rfl <|
  mm_E.aload_n (mm_atc mc85 rfl) rfl <|
  mm_E.getI (z := A 25 0) (mm_atc mc85 rfl) (mm_plc mp85 rfl) rfl ly25 rfl (rfl) <|
  mm_E.i2l h1 (mm_atc mc85 rfl) <|
  mm_E.lmul (mm_atc mc85 rfl) <|
  mm_E.lload_n (mm_atc mc85 rfl) rfl <|
  mm_E.lsub (mm_atc mc85 rfl) <|
  mm_E.aload_n (mm_atc mc85 rfl) rfl <|
  mm_E.getI (z := A 25 0) (mm_atc mc85 rfl) (mm_plc mp85 rfl) rfl ly25 rfl (rfl) <|
  mm_E.i2l h1 (mm_atc mc85 rfl) <|
  mm_E.callV0 (mm_atc mc85 rfl) (mm_plc mp85 rfl) rfl mk46 (lr37 h3 h4) rfl mx46 rfl rfl s0 (by omega) <|
  show mm_E _ _ 85 94 _ _ _ _ from
  mm_E.inc mx85 rfl (mm_atc mc85 rfl) rfl <|
  show mm_E _ _ 85 97 [(3, mI (x3 + 1)), (4, mJ ((A (27 + x3.toNat) (A 34 x3)) - (A 35 x3))), (0, .ref 25), (1, mJ y1)] _ _ _ from
  mm_E.goto (mm_atc mc85 rfl) rfl <|
  mm_E.to h ⟨rfl, rfl, rfl, trivial⟩
theorem p87_0_0 {d : Nat} {X : List Value} {A : MF} {r : MR} {x2 x3 : Int} (h : mm_E 1 d 87 34 [(0, .ref 13), (5, mI 0)] [] (mm_w X (mm_u (mm_u (mm_u (mm_u (mm_u (mm_u A 13 0 x2) 13 1 x3) 13 2 3) 13 3 10) 13 4 (-1)) 13 5 0)) r) : mm_E 1 d 87 0 [(0, .ref 13), (1, .ref 3), (2, mI x2), (3, mI x3), (4, .ref 10)] [] (mm_w X A) r := by
  exact mm_E.aload_n (mm_atc mc87 rfl) rfl <|
  mm_E.iload_n (mm_atc mc87 rfl) rfl <|
  mm_E.putI (fi := 0) (z := x2) (mm_atc mc87 rfl) (mm_plc mp87 rfl) ly13 rfl rfl rfl (mm_fit_i rfl) rfl <|
  mm_E.aload_n (mm_atc mc87 rfl) rfl <|
  mm_E.iload_n (mm_atc mc87 rfl) rfl <|
  mm_E.putI (fi := 1) (z := x3) (mm_atc mc87 rfl) (mm_plc mp87 rfl) ly13 rfl rfl rfl (mm_fit_i rfl) rfl <|
  mm_E.aload_n (mm_atc mc87 rfl) rfl <|
  mm_E.aload_n (mm_atc mc87 rfl) rfl <|
  mm_E.putM (fi := 2) (mm_atc mc87 rfl) (mm_plc mp87 rfl) ly13 rfl rfl rfl (mm_fit_a rfl) rfl <|
  mm_E.aload_n (mm_atc mc87 rfl) rfl <|
  mm_E.aload (mm_atc mc87 rfl) rfl <|
  mm_E.putM (fi := 3) (mm_atc mc87 rfl) (mm_plc mp87 rfl) ly13 rfl rfl rfl (mm_fit_a rfl) rfl <|
  mm_E.aload_n (mm_atc mc87 rfl) rfl <|
  mm_E.iconst (mm_atc mc87 rfl) <|
  mm_E.putI (fi := 4) (z := (-1)) (mm_atc mc87 rfl) (mm_plc mp87 rfl) ly13 rfl rfl rfl (mm_fit_i rfl) rfl <|
  mm_E.aload_n (mm_atc mc87 rfl) rfl <|
  mm_E.lconst (z := 0) (mm_atc mc87 rfl) rfl <|
  mm_E.putJ (fi := 5) (z := 0) (mm_atc mc87 rfl) (mm_plc mp87 rfl) ly13 rfl rfl rfl (mm_fit_l rfl) rfl <|
  mm_E.iconst (mm_atc mc87 rfl) <|
  mm_E.istore mx87 rfl (mm_atc mc87 rfl) <|
  show mm_E _ _ 87 34 [(5, mI 0), (0, .ref 13), (1, .ref 3), (2, mI x2), (3, mI x3), (4, .ref 10)] _ _ _ from
  mm_E.to h ⟨rfl, rfl, trivial⟩
theorem p87_34_0 {d : Nat} {X : List Value} {A : MF} {x5 : Int} {A0 : MF} (s0 : mm_E 1 d 88 0 [(0, .ref 13), (1, mI 0)] [] (mm_w X A) (.inl (none), mm_w X A0, 0, 0)) (H : R32 x5 ∧ R32 (A 13 0) ∧ A 13 0 ≤ x5) : mm_E 1 (d + 1) 87 34 [(0, .ref 13), (5, mI x5)] [] (mm_w X A) (.inl (some (mJ (A0 13 5))), mm_w X A0, 0, 0) := by
  obtain ⟨h0, h1, h2⟩ := H
  exact mm_E.iload (mm_atc mc87 rfl) rfl <|
  mm_E.aload_n (mm_atc mc87 rfl) rfl <|
  mm_E.getI (z := A 13 0) (mm_atc mc87 rfl) (mm_plc mp87 rfl) rfl ly13 rfl (rfl) <|
  mm_E.if2 (mm_atc mc87 rfl) h0 h1 (ic_geT h2) rfl <|
  mm_E.aload_n (mm_atc mc87 rfl) rfl <|
  mm_E.iconst (mm_atc mc87 rfl) <|
  mm_E.callV0 (mm_atc mc87 rfl) (mm_plc mp87 rfl) rfl mk88 ly13 rfl mx88 rfl rfl s0 (by omega) <|
  show mm_E _ _ 87 127 _ _ _ _ from
  mm_E.aload_n (mm_atc mc87 rfl) rfl <|
  mm_E.getJ (z := A0 13 5) (mm_atc mc87 rfl) (mm_plc mp87 rfl) rfl ly13 rfl (rfl) <|
  mm_E.lret (mm_atc mc87 rfl) mr87
theorem p87_34_1 {d : Nat} {X : List Value} {A : MF} {r : MR} {x5 : Int} (H : R32 x5 ∧ R32 (A 13 0) ∧ x5 < A 13 0 ∧ 0 ≤ x5 ∧ x5 < 6 ∧ 0 ≤ A 13 1 ∧ A 13 1 < 13) (h : mm_E 1 d 87 72 [(0, .ref 13), (5, mI x5), (6, mI ((A 13 1) - 1))] [] (mm_w X (mm_u (mm_u A 15 x5 0) (17 + x5.toNat) (A 13 1) 0)) r) : mm_E 1 d 87 34 [(0, .ref 13), (5, mI x5)] [] (mm_w X A) r := by
  obtain ⟨h0, h1, h2, h3, h4, h5, h6⟩ := H
  exact mm_E.iload (mm_atc mc87 rfl) rfl <|
  mm_E.aload_n (mm_atc mc87 rfl) rfl <|
  mm_E.getI (z := A 13 0) (mm_atc mc87 rfl) (mm_plc mp87 rfl) rfl ly13 rfl (rfl) <|
  mm_E.if2 (mm_atc mc87 rfl) h0 h1 (ic_geF h2) rfl <|
  mm_E.aload_n (mm_atc mc87 rfl) rfl <|
  mm_E.getR (b := 15) (mm_atc mc87 rfl) (mm_plc mp87 rfl) rfl ly13 rfl <|
  mm_E.iload (mm_atc mc87 rfl) rfl <|
  mm_E.iconst (mm_atc mc87 rfl) <|
  mm_E.iastore (e := x5) (z := 0) (mm_atc mc87 rfl) ly15 rfl h3 h4 rfl rfl <|
  mm_E.aload_n (mm_atc mc87 rfl) rfl <|
  mm_E.getR (b := 16) (mm_atc mc87 rfl) (mm_plc mp87 rfl) rfl ly13 rfl <|
  mm_E.iload (mm_atc mc87 rfl) rfl <|
  mm_E.aaload (mm_atc mc87 rfl) ly16 rfl h3 h4 (la17 h3 h4) <|
  mm_E.aload_n (mm_atc mc87 rfl) rfl <|
  mm_E.getI (z := A 13 1) (mm_atc mc87 rfl) (mm_plc mp87 rfl) rfl ly13 rfl ((mm_u_ne (.inl (by decide))).trans (rfl)) <|
  mm_E.iconst (mm_atc mc87 rfl) <|
  mm_E.iastore (e := A 13 1) (z := 0) (mm_atc mc87 rfl) (lr17 h3 h4) rfl h5 h6 rfl (mm_ly_pos (lr17 h3 h4)) <|
  mm_E.aload_n (mm_atc mc87 rfl) rfl <|
  mm_E.getI (z := A 13 1) (mm_atc mc87 rfl) (mm_plc mp87 rfl) rfl ly13 rfl ((mm_u_ne (.inl (by omega))).trans ((mm_u_ne (.inl (by decide))).trans (rfl))) <|
  mm_E.iconst (mm_atc mc87 rfl) <|
  mm_E.isub (mm_atc mc87 rfl) <|
  mm_E.istore mx87 rfl (mm_atc mc87 rfl) <|
  show mm_E _ _ 87 72 [(6, mI ((A 13 1) - 1)), (0, .ref 13), (5, mI x5)] _ _ _ from
  mm_E.to h ⟨rfl, rfl, rfl, trivial⟩
theorem p87_72_0 {w d : Nat} {X : List Value} {A : MF} {r : MR} {x5 x6 : Int} (H : R32 x6 ∧ x6 < 0) (h : mm_E w d 87 34 [(0, .ref 13), (5, mI (x5 + 1))] [] (mm_w X A) r) : mm_E w d 87 72 [(0, .ref 13), (5, mI x5), (6, mI x6)] [] (mm_w X A) r := by
  obtain ⟨h0, h1⟩ := H
  exact mm_E.iload (mm_atc mc87 rfl) rfl <|
  mm_E.if1 (mm_atc mc87 rfl) h0 (ic_ltT h1) rfl <|
  mm_E.inc mx87 rfl (mm_atc mc87 rfl) rfl <|
  show mm_E _ _ 87 119 [(5, mI (x5 + 1)), (0, .ref 13), (6, mI x6)] _ _ _ from
  mm_E.goto (mm_atc mc87 rfl) rfl <|
  mm_E.to h ⟨rfl, rfl, trivial⟩
theorem p87_72_1 {d : Nat} {X : List Value} {A : MF} {r : MR} {x5 x6 : Int} (H : R32 x6 ∧ 0 ≤ x6 ∧ 0 ≤ x5 ∧ x5 < 6 ∧ 0 ≤ x6 + 1 ∧ x6 + 1 < 13 ∧ A 13 2 = 3 ∧ x6 < 12 ∧ x6 < 13) (h : mm_E 1 d 87 72 [(0, .ref 13), (5, mI x5), (6, mI (x6 + (-1)))] [] (mm_w X (mm_u A (17 + x5.toNat) x6 ((A (17 + x5.toNat) (x6 + 1)) + (A (4 + x5.toNat) x6)))) r) : mm_E 1 d 87 72 [(0, .ref 13), (5, mI x5), (6, mI x6)] [] (mm_w X A) r := by
  obtain ⟨h0, h1, h2, h3, h4, h5, h6, h7, h8⟩ := H
  exact mm_E.iload (mm_atc mc87 rfl) rfl <|
  mm_E.if1 (mm_atc mc87 rfl) h0 (ic_ltF h1) rfl <|
  mm_E.aload_n (mm_atc mc87 rfl) rfl <|
  mm_E.getR (b := 16) (mm_atc mc87 rfl) (mm_plc mp87 rfl) rfl ly13 rfl <|
  mm_E.iload (mm_atc mc87 rfl) rfl <|
  mm_E.aaload (mm_atc mc87 rfl) ly16 rfl h2 h3 (la17 h2 h3) <|
  mm_E.iload (mm_atc mc87 rfl) rfl <|
  mm_E.aload_n (mm_atc mc87 rfl) rfl <|
  mm_E.getR (b := 16) (mm_atc mc87 rfl) (mm_plc mp87 rfl) rfl ly13 rfl <|
  mm_E.iload (mm_atc mc87 rfl) rfl <|
  mm_E.aaload (mm_atc mc87 rfl) ly16 rfl h2 h3 (la17 h2 h3) <|
  mm_E.iload (mm_atc mc87 rfl) rfl <|
  mm_E.iconst (mm_atc mc87 rfl) <|
  mm_E.iadd (mm_atc mc87 rfl) <|
  mm_E.iaload (e := x6 + 1) (mm_atc mc87 rfl) (lr17 h2 h3) rfl h4 h5 rfl (rfl) <|
  mm_E.aload_n (mm_atc mc87 rfl) rfl <|
  mm_E.getM (b := 3) (mm_atc mc87 rfl) (mm_plc mp87 rfl) rfl ly13 rfl ((show _ = A 13 2 from rfl).trans h6) <|
  mm_E.iload (mm_atc mc87 rfl) rfl <|
  mm_E.aaload (mm_atc mc87 rfl) ly3 rfl h2 h3 (la4 h2 h3) <|
  mm_E.iload (mm_atc mc87 rfl) rfl <|
  mm_E.iaload (e := x6) (mm_atc mc87 rfl) (lr4 h2 h3) rfl h1 h7 rfl (rfl) <|
  mm_E.iadd (mm_atc mc87 rfl) <|
  mm_E.iastore (e := x6) (z := (A (17 + x5.toNat) (x6 + 1)) + (A (4 + x5.toNat) x6)) (mm_atc mc87 rfl) (lr17 h2 h3) rfl h1 h8 rfl (mm_ly_pos (lr17 h2 h3)) <|
  mm_E.inc mx87 rfl (mm_atc mc87 rfl) rfl <|
  show mm_E _ _ 87 113 [(6, mI (x6 + (-1))), (0, .ref 13), (5, mI x5)] _ _ _ from
  mm_E.goto (mm_atc mc87 rfl) rfl <|
  mm_E.to h ⟨rfl, rfl, rfl, trivial⟩
theorem p88_0_0 {w d : Nat} {X : List Value} {A : MF} {r : MR} {x1 : Int} (h : mm_E w d 88 7 [(0, .ref 13), (1, mI x1), (2, mI 0), (3, mJ 1), (5, mI 0)] [] (mm_w X A) r) : mm_E w d 88 0 [(0, .ref 13), (1, mI x1)] [] (mm_w X A) r := by
  exact mm_E.iconst (mm_atc mc88 rfl) <|
  mm_E.istore_n mx88 rfl (mm_atc mc88 rfl) <|
  show mm_E _ _ 88 2 [(2, mI 0), (0, .ref 13), (1, mI x1)] _ _ _ from
  mm_E.lconst (z := 1) (mm_atc mc88 rfl) rfl <|
  mm_E.lstore_n mx88 rfl (mm_atc mc88 rfl) <|
  show mm_E _ _ 88 4 [(3, mJ 1), (2, mI 0), (0, .ref 13), (1, mI x1)] _ _ _ from
  mm_E.iconst (mm_atc mc88 rfl) <|
  mm_E.istore mx88 rfl (mm_atc mc88 rfl) <|
  show mm_E _ _ 88 7 [(5, mI 0), (3, mJ 1), (2, mI 0), (0, .ref 13), (1, mI x1)] _ _ _ from
  mm_E.to h ⟨rfl, rfl, rfl, rfl, rfl, trivial⟩
theorem p89_0_0 {w d : Nat} {X : List Value} {A : MF} {y0 x2 : Int} (H : R32 x2 ∧ x2 ≤ 0) : mm_E w d 89 0 [(0, mJ y0), (2, mI x2)] [] (mm_w X A) (.inl (some (mJ (y0 * x2))), mm_w X A, 0, 0) := by
  obtain ⟨h0, h1⟩ := H
  exact mm_E.iload_n (mm_atc mc89 rfl) rfl <|
  mm_E.if1 (mm_atc mc89 rfl) h0 (ic_leT h1) rfl <|
  mm_E.lload_n (mm_atc mc89 rfl) rfl <|
  mm_E.iload_n (mm_atc mc89 rfl) rfl <|
  mm_E.i2l h0 (mm_atc mc89 rfl) <|
  mm_E.lmul (mm_atc mc89 rfl) <|
  mm_E.lret (mm_atc mc89 rfl) mr89
theorem p89_0_1 {w d : Nat} {X : List Value} {A : MF} {y0 x2 : Int} (H : R32 x2 ∧ 0 < x2 ∧ R64 x2 ∧ R64 y0 ∧ R64 (Int.tdiv 1000000000000000000 x2) ∧ y0 ≤ Int.tdiv 1000000000000000000 x2) : mm_E w d 89 0 [(0, mJ y0), (2, mI x2)] [] (mm_w X A) (.inl (some (mJ (y0 * x2))), mm_w X A, 0, 0) := by
  obtain ⟨h0, h1, h2, h3, h4, h5⟩ := H
  exact mm_E.iload_n (mm_atc mc89 rfl) rfl <|
  mm_E.if1 (mm_atc mc89 rfl) h0 (ic_leF h1) rfl <|
  mm_E.lload_n (mm_atc mc89 rfl) rfl <|
  mm_E.ldc2 (mm_atc mc89 rfl) (mm_plc mp89 rfl) <|
  mm_E.iload_n (mm_atc mc89 rfl) rfl <|
  mm_E.i2l h0 (mm_atc mc89 rfl) <|
  mm_E.ldiv (by decide) h2 h1 (mm_atc mc89 rfl) <|
  mm_E.lif (mm_atc mc89 rfl) (mm_atc mc89 rfl) h3 h4 (ic_leT h5) rfl <|
  mm_E.lload_n (mm_atc mc89 rfl) rfl <|
  mm_E.iload_n (mm_atc mc89 rfl) rfl <|
  mm_E.i2l h0 (mm_atc mc89 rfl) <|
  mm_E.lmul (mm_atc mc89 rfl) <|
  mm_E.lret (mm_atc mc89 rfl) mr89
theorem p89_0_2 {w d : Nat} {X : List Value} {A : MF} {y0 x2 : Int} (H : R32 x2 ∧ 0 < x2 ∧ R64 x2 ∧ R64 y0 ∧ R64 (Int.tdiv 1000000000000000000 x2) ∧ Int.tdiv 1000000000000000000 x2 < y0) : mm_E w d 89 0 [(0, mJ y0), (2, mI x2)] [] (mm_w X A) (.inl (some (mJ 1000000000000000000)), mm_w X A, 0, 0) := by
  obtain ⟨h0, h1, h2, h3, h4, h5⟩ := H
  exact mm_E.iload_n (mm_atc mc89 rfl) rfl <|
  mm_E.if1 (mm_atc mc89 rfl) h0 (ic_leF h1) rfl <|
  mm_E.lload_n (mm_atc mc89 rfl) rfl <|
  mm_E.ldc2 (mm_atc mc89 rfl) (mm_plc mp89 rfl) <|
  mm_E.iload_n (mm_atc mc89 rfl) rfl <|
  mm_E.i2l h0 (mm_atc mc89 rfl) <|
  mm_E.ldiv (by decide) h2 h1 (mm_atc mc89 rfl) <|
  mm_E.lif (mm_atc mc89 rfl) (mm_atc mc89 rfl) h3 h4 (ic_leF h5) rfl <|
  mm_E.ldc2 (mm_atc mc89 rfl) (mm_plc mp89 rfl) <|
  mm_E.goto (mm_atc mc89 rfl) rfl <|
  mm_E.lret (mm_atc mc89 rfl) mr89
theorem p88_7_0 {w d : Nat} {X : List Value} {A : MF} {x1 x2 y3 x5 : Int} (H : R32 x5 ∧ R32 (A 13 0) ∧ A 13 0 ≤ x5 ∧ R32 x2 ∧ R32 (A 13 4) ∧ x2 < A 13 4) : mm_E w d 88 7 [(0, .ref 13), (1, mI x1), (2, mI x2), (3, mJ y3), (5, mI x5)] [] (mm_w X A) (.inl (none), mm_w X A, 0, 0) := by
  obtain ⟨h0, h1, h2, h3, h4, h5⟩ := H
  exact mm_E.iload (mm_atc mc88 rfl) rfl <|
  mm_E.aload_n (mm_atc mc88 rfl) rfl <|
  mm_E.getI (z := A 13 0) (mm_atc mc88 rfl) (mm_plc mp88 rfl) rfl ly13 rfl (rfl) <|
  mm_E.if2 (mm_atc mc88 rfl) h0 h1 (ic_geT h2) rfl <|
  mm_E.iload_n (mm_atc mc88 rfl) rfl <|
  mm_E.aload_n (mm_atc mc88 rfl) rfl <|
  mm_E.getI (z := A 13 4) (mm_atc mc88 rfl) (mm_plc mp88 rfl) rfl ly13 rfl (rfl) <|
  mm_E.if2 (mm_atc mc88 rfl) h3 h4 (ic_ltT h5) rfl <|
  mm_E.vret (mm_atc mc88 rfl) mr88
theorem p88_7_1 {w d : Nat} {X : List Value} {A : MF} {r : MR} {x1 x2 y3 x5 : Int} (H : R32 x5 ∧ R32 (A 13 0) ∧ A 13 0 ≤ x5 ∧ R32 x2 ∧ R32 (A 13 4) ∧ A 13 4 ≤ x2 ∧ x2 ≠ A 13 4 ∧ R32 x1 ∧ R32 (A 13 1) ∧ x1 < A 13 1) (h : mm_E w d 88 121 [(0, .ref 13), (1, mI x1), (5, mI 0)] [] (mm_w X A) r) : mm_E w d 88 7 [(0, .ref 13), (1, mI x1), (2, mI x2), (3, mJ y3), (5, mI x5)] [] (mm_w X A) r := by
  obtain ⟨h0, h1, h2, h3, h4, h5, h6, h7, h8, h9⟩ := H
  exact mm_E.iload (mm_atc mc88 rfl) rfl <|
  mm_E.aload_n (mm_atc mc88 rfl) rfl <|
  mm_E.getI (z := A 13 0) (mm_atc mc88 rfl) (mm_plc mp88 rfl) rfl ly13 rfl (rfl) <|
  mm_E.if2 (mm_atc mc88 rfl) h0 h1 (ic_geT h2) rfl <|
  mm_E.iload_n (mm_atc mc88 rfl) rfl <|
  mm_E.aload_n (mm_atc mc88 rfl) rfl <|
  mm_E.getI (z := A 13 4) (mm_atc mc88 rfl) (mm_plc mp88 rfl) rfl ly13 rfl (rfl) <|
  mm_E.if2 (mm_atc mc88 rfl) h3 h4 (ic_ltF h5) rfl <|
  mm_E.iload_n (mm_atc mc88 rfl) rfl <|
  mm_E.aload_n (mm_atc mc88 rfl) rfl <|
  mm_E.getI (z := A 13 4) (mm_atc mc88 rfl) (mm_plc mp88 rfl) rfl ly13 rfl (rfl) <|
  mm_E.if2 (mm_atc mc88 rfl) h3 h4 (ic_neT h6) rfl <|
  mm_E.iload_n (mm_atc mc88 rfl) rfl <|
  mm_E.aload_n (mm_atc mc88 rfl) rfl <|
  mm_E.getI (z := A 13 1) (mm_atc mc88 rfl) (mm_plc mp88 rfl) rfl ly13 rfl (rfl) <|
  mm_E.if2 (mm_atc mc88 rfl) h7 h8 (ic_ltT h9) rfl <|
  mm_E.iconst (mm_atc mc88 rfl) <|
  mm_E.istore mx88 rfl (mm_atc mc88 rfl) <|
  show mm_E _ _ 88 121 [(5, mI 0), (0, .ref 13), (1, mI x1), (2, mI x2), (3, mJ y3)] _ _ _ from
  mm_E.to h ⟨rfl, rfl, rfl, trivial⟩
theorem p88_7_2 {d : Nat} {X : List Value} {A : MF} {x1 x2 y3 x5 : Int} (H : R32 x5 ∧ R32 (A 13 0) ∧ A 13 0 ≤ x5 ∧ R32 x2 ∧ R32 (A 13 4) ∧ A 13 4 ≤ x2 ∧ x2 ≠ A 13 4 ∧ R32 x1 ∧ R32 (A 13 1) ∧ A 13 1 ≤ x1 ∧ A 13 3 = 10 ∧ 0 ≤ A 13 1 ∧ A 13 1 ≤ 12) : mm_E 1 (d + 1) 88 7 [(0, .ref 13), (1, mI x1), (2, mI x2), (3, mJ y3), (5, mI x5)] [] (mm_w X A) (.inl (none), mm_w X (mm_cp (mm_u (mm_u A 13 4 x2) 13 5 y3) 14 10 (A 13 1)), 0, 0) := by
  obtain ⟨h0, h1, h2, h3, h4, h5, h6, h7, h8, h9, h10, h11, h12⟩ := H
  exact mm_E.iload (mm_atc mc88 rfl) rfl <|
  mm_E.aload_n (mm_atc mc88 rfl) rfl <|
  mm_E.getI (z := A 13 0) (mm_atc mc88 rfl) (mm_plc mp88 rfl) rfl ly13 rfl (rfl) <|
  mm_E.if2 (mm_atc mc88 rfl) h0 h1 (ic_geT h2) rfl <|
  mm_E.iload_n (mm_atc mc88 rfl) rfl <|
  mm_E.aload_n (mm_atc mc88 rfl) rfl <|
  mm_E.getI (z := A 13 4) (mm_atc mc88 rfl) (mm_plc mp88 rfl) rfl ly13 rfl (rfl) <|
  mm_E.if2 (mm_atc mc88 rfl) h3 h4 (ic_ltF h5) rfl <|
  mm_E.iload_n (mm_atc mc88 rfl) rfl <|
  mm_E.aload_n (mm_atc mc88 rfl) rfl <|
  mm_E.getI (z := A 13 4) (mm_atc mc88 rfl) (mm_plc mp88 rfl) rfl ly13 rfl (rfl) <|
  mm_E.if2 (mm_atc mc88 rfl) h3 h4 (ic_neT h6) rfl <|
  mm_E.iload_n (mm_atc mc88 rfl) rfl <|
  mm_E.aload_n (mm_atc mc88 rfl) rfl <|
  mm_E.getI (z := A 13 1) (mm_atc mc88 rfl) (mm_plc mp88 rfl) rfl ly13 rfl (rfl) <|
  mm_E.if2 (mm_atc mc88 rfl) h7 h8 (ic_ltF h9) rfl <|
  mm_E.aload_n (mm_atc mc88 rfl) rfl <|
  mm_E.iload_n (mm_atc mc88 rfl) rfl <|
  mm_E.putI (fi := 4) (z := x2) (mm_atc mc88 rfl) (mm_plc mp88 rfl) ly13 rfl rfl rfl (mm_fit_i rfl) rfl <|
  mm_E.aload_n (mm_atc mc88 rfl) rfl <|
  mm_E.lload_n (mm_atc mc88 rfl) rfl <|
  mm_E.putJ (fi := 5) (z := y3) (mm_atc mc88 rfl) (mm_plc mp88 rfl) ly13 rfl rfl rfl (mm_fit_l rfl) rfl <|
  mm_E.aload_n (mm_atc mc88 rfl) rfl <|
  mm_E.getR (b := 14) (mm_atc mc88 rfl) (mm_plc mp88 rfl) rfl ly13 rfl <|
  mm_E.iconst (mm_atc mc88 rfl) <|
  mm_E.aload_n (mm_atc mc88 rfl) rfl <|
  mm_E.getM (b := 10) (mm_atc mc88 rfl) (mm_plc mp88 rfl) rfl ly13 rfl ((show _ = A 13 3 from (mm_u_ne (.inr (by decide))).trans ((mm_u_ne (.inr (by decide))).trans (rfl))).trans h10) <|
  mm_E.iconst (mm_atc mc88 rfl) <|
  mm_E.aload_n (mm_atc mc88 rfl) rfl <|
  mm_E.getI (z := A 13 1) (mm_atc mc88 rfl) (mm_plc mp88 rfl) rfl ly13 rfl ((mm_u_ne (.inr (by decide))).trans ((mm_u_ne (.inr (by decide))).trans (rfl))) <|
  mm_E.copy (mm_atc mc88 rfl) (mm_plc mp88 rfl) ly14 ly10 rfl rfl h11 h12 rfl rfl rfl <|
  mm_E.vret (mm_atc mc88 rfl) mr88
theorem p88_7_3 {w d : Nat} {X : List Value} {A : MF} {r : MR} {x1 x2 y3 x5 : Int} (H : R32 x5 ∧ R32 (A 13 0) ∧ A 13 0 ≤ x5 ∧ R32 x2 ∧ R32 (A 13 4) ∧ A 13 4 ≤ x2 ∧ x2 = A 13 4 ∧ R64 y3 ∧ R64 (A 13 5) ∧ A 13 5 < y3 ∧ R32 x1 ∧ R32 (A 13 1) ∧ x1 < A 13 1) (h : mm_E w d 88 121 [(0, .ref 13), (1, mI x1), (5, mI 0)] [] (mm_w X A) r) : mm_E w d 88 7 [(0, .ref 13), (1, mI x1), (2, mI x2), (3, mJ y3), (5, mI x5)] [] (mm_w X A) r := by
  obtain ⟨h0, h1, h2, h3, h4, h5, h6, h7, h8, h9, h10, h11, h12⟩ := H
  exact mm_E.iload (mm_atc mc88 rfl) rfl <|
  mm_E.aload_n (mm_atc mc88 rfl) rfl <|
  mm_E.getI (z := A 13 0) (mm_atc mc88 rfl) (mm_plc mp88 rfl) rfl ly13 rfl (rfl) <|
  mm_E.if2 (mm_atc mc88 rfl) h0 h1 (ic_geT h2) rfl <|
  mm_E.iload_n (mm_atc mc88 rfl) rfl <|
  mm_E.aload_n (mm_atc mc88 rfl) rfl <|
  mm_E.getI (z := A 13 4) (mm_atc mc88 rfl) (mm_plc mp88 rfl) rfl ly13 rfl (rfl) <|
  mm_E.if2 (mm_atc mc88 rfl) h3 h4 (ic_ltF h5) rfl <|
  mm_E.iload_n (mm_atc mc88 rfl) rfl <|
  mm_E.aload_n (mm_atc mc88 rfl) rfl <|
  mm_E.getI (z := A 13 4) (mm_atc mc88 rfl) (mm_plc mp88 rfl) rfl ly13 rfl (rfl) <|
  mm_E.if2 (mm_atc mc88 rfl) h3 h4 (ic_neF h6) rfl <|
  mm_E.lload_n (mm_atc mc88 rfl) rfl <|
  mm_E.aload_n (mm_atc mc88 rfl) rfl <|
  mm_E.getJ (z := A 13 5) (mm_atc mc88 rfl) (mm_plc mp88 rfl) rfl ly13 rfl (rfl) <|
  mm_E.lif (mm_atc mc88 rfl) (mm_atc mc88 rfl) h7 h8 (ic_gtT h9) rfl <|
  mm_E.iload_n (mm_atc mc88 rfl) rfl <|
  mm_E.aload_n (mm_atc mc88 rfl) rfl <|
  mm_E.getI (z := A 13 1) (mm_atc mc88 rfl) (mm_plc mp88 rfl) rfl ly13 rfl (rfl) <|
  mm_E.if2 (mm_atc mc88 rfl) h10 h11 (ic_ltT h12) rfl <|
  mm_E.iconst (mm_atc mc88 rfl) <|
  mm_E.istore mx88 rfl (mm_atc mc88 rfl) <|
  show mm_E _ _ 88 121 [(5, mI 0), (0, .ref 13), (1, mI x1), (2, mI x2), (3, mJ y3)] _ _ _ from
  mm_E.to h ⟨rfl, rfl, rfl, trivial⟩
theorem p88_7_4 {d : Nat} {X : List Value} {A : MF} {x1 x2 y3 x5 : Int} (H : R32 x5 ∧ R32 (A 13 0) ∧ A 13 0 ≤ x5 ∧ R32 x2 ∧ R32 (A 13 4) ∧ A 13 4 ≤ x2 ∧ x2 = A 13 4 ∧ R64 y3 ∧ R64 (A 13 5) ∧ A 13 5 < y3 ∧ R32 x1 ∧ R32 (A 13 1) ∧ A 13 1 ≤ x1 ∧ A 13 3 = 10 ∧ 0 ≤ A 13 1 ∧ A 13 1 ≤ 12) : mm_E 1 (d + 1) 88 7 [(0, .ref 13), (1, mI x1), (2, mI x2), (3, mJ y3), (5, mI x5)] [] (mm_w X A) (.inl (none), mm_w X (mm_cp (mm_u (mm_u A 13 4 x2) 13 5 y3) 14 10 (A 13 1)), 0, 0) := by
  obtain ⟨h0, h1, h2, h3, h4, h5, h6, h7, h8, h9, h10, h11, h12, h13, h14, h15⟩ := H
  exact mm_E.iload (mm_atc mc88 rfl) rfl <|
  mm_E.aload_n (mm_atc mc88 rfl) rfl <|
  mm_E.getI (z := A 13 0) (mm_atc mc88 rfl) (mm_plc mp88 rfl) rfl ly13 rfl (rfl) <|
  mm_E.if2 (mm_atc mc88 rfl) h0 h1 (ic_geT h2) rfl <|
  mm_E.iload_n (mm_atc mc88 rfl) rfl <|
  mm_E.aload_n (mm_atc mc88 rfl) rfl <|
  mm_E.getI (z := A 13 4) (mm_atc mc88 rfl) (mm_plc mp88 rfl) rfl ly13 rfl (rfl) <|
  mm_E.if2 (mm_atc mc88 rfl) h3 h4 (ic_ltF h5) rfl <|
  mm_E.iload_n (mm_atc mc88 rfl) rfl <|
  mm_E.aload_n (mm_atc mc88 rfl) rfl <|
  mm_E.getI (z := A 13 4) (mm_atc mc88 rfl) (mm_plc mp88 rfl) rfl ly13 rfl (rfl) <|
  mm_E.if2 (mm_atc mc88 rfl) h3 h4 (ic_neF h6) rfl <|
  mm_E.lload_n (mm_atc mc88 rfl) rfl <|
  mm_E.aload_n (mm_atc mc88 rfl) rfl <|
  mm_E.getJ (z := A 13 5) (mm_atc mc88 rfl) (mm_plc mp88 rfl) rfl ly13 rfl (rfl) <|
  mm_E.lif (mm_atc mc88 rfl) (mm_atc mc88 rfl) h7 h8 (ic_gtT h9) rfl <|
  mm_E.iload_n (mm_atc mc88 rfl) rfl <|
  mm_E.aload_n (mm_atc mc88 rfl) rfl <|
  mm_E.getI (z := A 13 1) (mm_atc mc88 rfl) (mm_plc mp88 rfl) rfl ly13 rfl (rfl) <|
  mm_E.if2 (mm_atc mc88 rfl) h10 h11 (ic_ltF h12) rfl <|
  mm_E.aload_n (mm_atc mc88 rfl) rfl <|
  mm_E.iload_n (mm_atc mc88 rfl) rfl <|
  mm_E.putI (fi := 4) (z := x2) (mm_atc mc88 rfl) (mm_plc mp88 rfl) ly13 rfl rfl rfl (mm_fit_i rfl) rfl <|
  mm_E.aload_n (mm_atc mc88 rfl) rfl <|
  mm_E.lload_n (mm_atc mc88 rfl) rfl <|
  mm_E.putJ (fi := 5) (z := y3) (mm_atc mc88 rfl) (mm_plc mp88 rfl) ly13 rfl rfl rfl (mm_fit_l rfl) rfl <|
  mm_E.aload_n (mm_atc mc88 rfl) rfl <|
  mm_E.getR (b := 14) (mm_atc mc88 rfl) (mm_plc mp88 rfl) rfl ly13 rfl <|
  mm_E.iconst (mm_atc mc88 rfl) <|
  mm_E.aload_n (mm_atc mc88 rfl) rfl <|
  mm_E.getM (b := 10) (mm_atc mc88 rfl) (mm_plc mp88 rfl) rfl ly13 rfl ((show _ = A 13 3 from (mm_u_ne (.inr (by decide))).trans ((mm_u_ne (.inr (by decide))).trans (rfl))).trans h13) <|
  mm_E.iconst (mm_atc mc88 rfl) <|
  mm_E.aload_n (mm_atc mc88 rfl) rfl <|
  mm_E.getI (z := A 13 1) (mm_atc mc88 rfl) (mm_plc mp88 rfl) rfl ly13 rfl ((mm_u_ne (.inr (by decide))).trans ((mm_u_ne (.inr (by decide))).trans (rfl))) <|
  mm_E.copy (mm_atc mc88 rfl) (mm_plc mp88 rfl) ly14 ly10 rfl rfl h14 h15 rfl rfl rfl <|
  mm_E.vret (mm_atc mc88 rfl) mr88
theorem p88_7_5 {w d : Nat} {X : List Value} {A : MF} {x1 x2 y3 x5 : Int} (H : R32 x5 ∧ R32 (A 13 0) ∧ A 13 0 ≤ x5 ∧ R32 x2 ∧ R32 (A 13 4) ∧ A 13 4 ≤ x2 ∧ x2 = A 13 4 ∧ R64 y3 ∧ R64 (A 13 5) ∧ y3 ≤ A 13 5) : mm_E w d 88 7 [(0, .ref 13), (1, mI x1), (2, mI x2), (3, mJ y3), (5, mI x5)] [] (mm_w X A) (.inl (none), mm_w X A, 0, 0) := by
  obtain ⟨h0, h1, h2, h3, h4, h5, h6, h7, h8, h9⟩ := H
  exact mm_E.iload (mm_atc mc88 rfl) rfl <|
  mm_E.aload_n (mm_atc mc88 rfl) rfl <|
  mm_E.getI (z := A 13 0) (mm_atc mc88 rfl) (mm_plc mp88 rfl) rfl ly13 rfl (rfl) <|
  mm_E.if2 (mm_atc mc88 rfl) h0 h1 (ic_geT h2) rfl <|
  mm_E.iload_n (mm_atc mc88 rfl) rfl <|
  mm_E.aload_n (mm_atc mc88 rfl) rfl <|
  mm_E.getI (z := A 13 4) (mm_atc mc88 rfl) (mm_plc mp88 rfl) rfl ly13 rfl (rfl) <|
  mm_E.if2 (mm_atc mc88 rfl) h3 h4 (ic_ltF h5) rfl <|
  mm_E.iload_n (mm_atc mc88 rfl) rfl <|
  mm_E.aload_n (mm_atc mc88 rfl) rfl <|
  mm_E.getI (z := A 13 4) (mm_atc mc88 rfl) (mm_plc mp88 rfl) rfl ly13 rfl (rfl) <|
  mm_E.if2 (mm_atc mc88 rfl) h3 h4 (ic_neF h6) rfl <|
  mm_E.lload_n (mm_atc mc88 rfl) rfl <|
  mm_E.aload_n (mm_atc mc88 rfl) rfl <|
  mm_E.getJ (z := A 13 5) (mm_atc mc88 rfl) (mm_plc mp88 rfl) rfl ly13 rfl (rfl) <|
  mm_E.lif (mm_atc mc88 rfl) (mm_atc mc88 rfl) h7 h8 (ic_gtF h9) rfl <|
  mm_E.vret (mm_atc mc88 rfl) mr88
theorem p88_7_6 {w d : Nat} {X : List Value} {A : MF} {r : MR} {x1 x2 y3 x5 : Int} (H : R32 x5 ∧ R32 (A 13 0) ∧ x5 < A 13 0 ∧ 0 ≤ x5 ∧ x5 < 6 ∧ 0 ≤ x1 ∧ x1 < 13 ∧ R32 ((A 15 x5) + (A (17 + x5.toNat) x1)) ∧ (A 15 x5) + (A (17 + x5.toNat) x1) ≤ 0) (h : mm_E w d 88 7 [(0, .ref 13), (1, mI x1), (2, mI x2), (3, mJ y3), (5, mI (x5 + 1))] [] (mm_w X A) r) : mm_E w d 88 7 [(0, .ref 13), (1, mI x1), (2, mI x2), (3, mJ y3), (5, mI x5)] [] (mm_w X A) r := by
  obtain ⟨h0, h1, h2, h3, h4, h5, h6, h7, h8⟩ := H
  exact mm_E.iload (mm_atc mc88 rfl) rfl <|
  mm_E.aload_n (mm_atc mc88 rfl) rfl <|
  mm_E.getI (z := A 13 0) (mm_atc mc88 rfl) (mm_plc mp88 rfl) rfl ly13 rfl (rfl) <|
  mm_E.if2 (mm_atc mc88 rfl) h0 h1 (ic_geF h2) rfl <|
  mm_E.aload_n (mm_atc mc88 rfl) rfl <|
  mm_E.getR (b := 15) (mm_atc mc88 rfl) (mm_plc mp88 rfl) rfl ly13 rfl <|
  mm_E.iload (mm_atc mc88 rfl) rfl <|
  mm_E.iaload (e := x5) (mm_atc mc88 rfl) ly15 rfl h3 h4 rfl (rfl) <|
  mm_E.aload_n (mm_atc mc88 rfl) rfl <|
  mm_E.getR (b := 16) (mm_atc mc88 rfl) (mm_plc mp88 rfl) rfl ly13 rfl <|
  mm_E.iload (mm_atc mc88 rfl) rfl <|
  mm_E.aaload (mm_atc mc88 rfl) ly16 rfl h3 h4 (la17 h3 h4) <|
  mm_E.iload_n (mm_atc mc88 rfl) rfl <|
  mm_E.iaload (e := x1) (mm_atc mc88 rfl) (lr17 h3 h4) rfl h5 h6 rfl (rfl) <|
  mm_E.iadd (mm_atc mc88 rfl) <|
  mm_E.istore mx88 rfl (mm_atc mc88 rfl) <|
  show mm_E _ _ 88 35 [(6, mI ((A 15 x5) + (A (17 + x5.toNat) x1))), (0, .ref 13), (1, mI x1), (2, mI x2), (3, mJ y3), (5, mI x5)] _ _ _ from
  mm_E.iload (mm_atc mc88 rfl) rfl <|
  mm_E.if1 (mm_atc mc88 rfl) h7 (ic_leT h8) rfl <|
  mm_E.inc mx88 rfl (mm_atc mc88 rfl) rfl <|
  show mm_E _ _ 88 53 [(5, mI (x5 + 1)), (6, mI ((A 15 x5) + (A (17 + x5.toNat) x1))), (0, .ref 13), (1, mI x1), (2, mI x2), (3, mJ y3)] _ _ _ from
  mm_E.goto (mm_atc mc88 rfl) rfl <|
  mm_E.to h ⟨rfl, rfl, rfl, rfl, rfl, trivial⟩
theorem p88_7_7 {w d : Nat} {X : List Value} {A : MF} {r : MR} {x1 x2 y3 x5 : Int} (H : R32 x5 ∧ R32 (A 13 0) ∧ x5 < A 13 0 ∧ 0 ≤ x5 ∧ x5 < 6 ∧ 0 ≤ x1 ∧ x1 < 13 ∧ R32 ((A 15 x5) + (A (17 + x5.toNat) x1)) ∧ 0 < (A 15 x5) + (A (17 + x5.toNat) x1) ∧ ((A 15 x5) + (A (17 + x5.toNat) x1)) ≤ 0) (h : mm_E w (d + 1) 88 7 [(0, .ref 13), (1, mI x1), (2, mI (x2 + 1)), (3, mJ (y3 * ((A 15 x5) + (A (17 + x5.toNat) x1)))), (5, mI (x5 + 1))] [] (mm_w X A) r) : mm_E w (d + 1) 88 7 [(0, .ref 13), (1, mI x1), (2, mI x2), (3, mJ y3), (5, mI x5)] [] (mm_w X A) r := by
  obtain ⟨h0, h1, h2, h3, h4, h5, h6, h7, h8, h9⟩ := H
  exact mm_E.iload (mm_atc mc88 rfl) rfl <|
  mm_E.aload_n (mm_atc mc88 rfl) rfl <|
  mm_E.getI (z := A 13 0) (mm_atc mc88 rfl) (mm_plc mp88 rfl) rfl ly13 rfl (rfl) <|
  mm_E.if2 (mm_atc mc88 rfl) h0 h1 (ic_geF h2) rfl <|
  mm_E.aload_n (mm_atc mc88 rfl) rfl <|
  mm_E.getR (b := 15) (mm_atc mc88 rfl) (mm_plc mp88 rfl) rfl ly13 rfl <|
  mm_E.iload (mm_atc mc88 rfl) rfl <|
  mm_E.iaload (e := x5) (mm_atc mc88 rfl) ly15 rfl h3 h4 rfl (rfl) <|
  mm_E.aload_n (mm_atc mc88 rfl) rfl <|
  mm_E.getR (b := 16) (mm_atc mc88 rfl) (mm_plc mp88 rfl) rfl ly13 rfl <|
  mm_E.iload (mm_atc mc88 rfl) rfl <|
  mm_E.aaload (mm_atc mc88 rfl) ly16 rfl h3 h4 (la17 h3 h4) <|
  mm_E.iload_n (mm_atc mc88 rfl) rfl <|
  mm_E.iaload (e := x1) (mm_atc mc88 rfl) (lr17 h3 h4) rfl h5 h6 rfl (rfl) <|
  mm_E.iadd (mm_atc mc88 rfl) <|
  mm_E.istore mx88 rfl (mm_atc mc88 rfl) <|
  show mm_E _ _ 88 35 [(6, mI ((A 15 x5) + (A (17 + x5.toNat) x1))), (0, .ref 13), (1, mI x1), (2, mI x2), (3, mJ y3), (5, mI x5)] _ _ _ from
  mm_E.iload (mm_atc mc88 rfl) rfl <|
  mm_E.if1 (mm_atc mc88 rfl) h7 (ic_leF h8) rfl <|
  mm_E.inc mx88 rfl (mm_atc mc88 rfl) rfl <|
  show mm_E _ _ 88 43 [(2, mI (x2 + 1)), (6, mI ((A 15 x5) + (A (17 + x5.toNat) x1))), (0, .ref 13), (1, mI x1), (3, mJ y3), (5, mI x5)] _ _ _ from
  mm_E.lload_n (mm_atc mc88 rfl) rfl <|
  mm_E.iload (mm_atc mc88 rfl) rfl <|
  mm_E.callS0 (mm_atc mc88 rfl) (mm_plc mp88 rfl) mx89 rfl rfl (p89_0_0 (d := d) ⟨h7, h9⟩) (by omega) <|
  show mm_E _ _ 88 49 _ _ _ _ from
  mm_E.lstore_n mx88 rfl (mm_atc mc88 rfl) <|
  show mm_E _ _ 88 50 [(3, mJ (y3 * ((A 15 x5) + (A (17 + x5.toNat) x1)))), (2, mI (x2 + 1)), (6, mI ((A 15 x5) + (A (17 + x5.toNat) x1))), (0, .ref 13), (1, mI x1), (5, mI x5)] _ _ _ from
  mm_E.inc mx88 rfl (mm_atc mc88 rfl) rfl <|
  show mm_E _ _ 88 53 [(5, mI (x5 + 1)), (3, mJ (y3 * ((A 15 x5) + (A (17 + x5.toNat) x1)))), (2, mI (x2 + 1)), (6, mI ((A 15 x5) + (A (17 + x5.toNat) x1))), (0, .ref 13), (1, mI x1)] _ _ _ from
  mm_E.goto (mm_atc mc88 rfl) rfl <|
  mm_E.to h ⟨rfl, rfl, rfl, rfl, rfl, trivial⟩
theorem p88_7_8 {w d : Nat} {X : List Value} {A : MF} {r : MR} {x1 x2 y3 x5 : Int} (H : R32 x5 ∧ R32 (A 13 0) ∧ x5 < A 13 0 ∧ 0 ≤ x5 ∧ x5 < 6 ∧ 0 ≤ x1 ∧ x1 < 13 ∧ R32 ((A 15 x5) + (A (17 + x5.toNat) x1)) ∧ 0 < (A 15 x5) + (A (17 + x5.toNat) x1) ∧ 0 < ((A 15 x5) + (A (17 + x5.toNat) x1)) ∧ R64 ((A 15 x5) + (A (17 + x5.toNat) x1)) ∧ R64 y3 ∧ R64 (Int.tdiv 1000000000000000000 ((A 15 x5) + (A (17 + x5.toNat) x1))) ∧ y3 ≤ Int.tdiv 1000000000000000000 ((A 15 x5) + (A (17 + x5.toNat) x1))) (h : mm_E w (d + 1) 88 7 [(0, .ref 13), (1, mI x1), (2, mI (x2 + 1)), (3, mJ (y3 * ((A 15 x5) + (A (17 + x5.toNat) x1)))), (5, mI (x5 + 1))] [] (mm_w X A) r) : mm_E w (d + 1) 88 7 [(0, .ref 13), (1, mI x1), (2, mI x2), (3, mJ y3), (5, mI x5)] [] (mm_w X A) r := by
  obtain ⟨h0, h1, h2, h3, h4, h5, h6, h7, h8, h9, h10, h11, h12, h13⟩ := H
  exact mm_E.iload (mm_atc mc88 rfl) rfl <|
  mm_E.aload_n (mm_atc mc88 rfl) rfl <|
  mm_E.getI (z := A 13 0) (mm_atc mc88 rfl) (mm_plc mp88 rfl) rfl ly13 rfl (rfl) <|
  mm_E.if2 (mm_atc mc88 rfl) h0 h1 (ic_geF h2) rfl <|
  mm_E.aload_n (mm_atc mc88 rfl) rfl <|
  mm_E.getR (b := 15) (mm_atc mc88 rfl) (mm_plc mp88 rfl) rfl ly13 rfl <|
  mm_E.iload (mm_atc mc88 rfl) rfl <|
  mm_E.iaload (e := x5) (mm_atc mc88 rfl) ly15 rfl h3 h4 rfl (rfl) <|
  mm_E.aload_n (mm_atc mc88 rfl) rfl <|
  mm_E.getR (b := 16) (mm_atc mc88 rfl) (mm_plc mp88 rfl) rfl ly13 rfl <|
  mm_E.iload (mm_atc mc88 rfl) rfl <|
  mm_E.aaload (mm_atc mc88 rfl) ly16 rfl h3 h4 (la17 h3 h4) <|
  mm_E.iload_n (mm_atc mc88 rfl) rfl <|
  mm_E.iaload (e := x1) (mm_atc mc88 rfl) (lr17 h3 h4) rfl h5 h6 rfl (rfl) <|
  mm_E.iadd (mm_atc mc88 rfl) <|
  mm_E.istore mx88 rfl (mm_atc mc88 rfl) <|
  show mm_E _ _ 88 35 [(6, mI ((A 15 x5) + (A (17 + x5.toNat) x1))), (0, .ref 13), (1, mI x1), (2, mI x2), (3, mJ y3), (5, mI x5)] _ _ _ from
  mm_E.iload (mm_atc mc88 rfl) rfl <|
  mm_E.if1 (mm_atc mc88 rfl) h7 (ic_leF h8) rfl <|
  mm_E.inc mx88 rfl (mm_atc mc88 rfl) rfl <|
  show mm_E _ _ 88 43 [(2, mI (x2 + 1)), (6, mI ((A 15 x5) + (A (17 + x5.toNat) x1))), (0, .ref 13), (1, mI x1), (3, mJ y3), (5, mI x5)] _ _ _ from
  mm_E.lload_n (mm_atc mc88 rfl) rfl <|
  mm_E.iload (mm_atc mc88 rfl) rfl <|
  mm_E.callS0 (mm_atc mc88 rfl) (mm_plc mp88 rfl) mx89 rfl rfl (p89_0_1 (d := d) ⟨h7, h9, h10, h11, h12, h13⟩) (by omega) <|
  show mm_E _ _ 88 49 _ _ _ _ from
  mm_E.lstore_n mx88 rfl (mm_atc mc88 rfl) <|
  show mm_E _ _ 88 50 [(3, mJ (y3 * ((A 15 x5) + (A (17 + x5.toNat) x1)))), (2, mI (x2 + 1)), (6, mI ((A 15 x5) + (A (17 + x5.toNat) x1))), (0, .ref 13), (1, mI x1), (5, mI x5)] _ _ _ from
  mm_E.inc mx88 rfl (mm_atc mc88 rfl) rfl <|
  show mm_E _ _ 88 53 [(5, mI (x5 + 1)), (3, mJ (y3 * ((A 15 x5) + (A (17 + x5.toNat) x1)))), (2, mI (x2 + 1)), (6, mI ((A 15 x5) + (A (17 + x5.toNat) x1))), (0, .ref 13), (1, mI x1)] _ _ _ from
  mm_E.goto (mm_atc mc88 rfl) rfl <|
  mm_E.to h ⟨rfl, rfl, rfl, rfl, rfl, trivial⟩
theorem p88_7_9 {w d : Nat} {X : List Value} {A : MF} {r : MR} {x1 x2 y3 x5 : Int} (H : R32 x5 ∧ R32 (A 13 0) ∧ x5 < A 13 0 ∧ 0 ≤ x5 ∧ x5 < 6 ∧ 0 ≤ x1 ∧ x1 < 13 ∧ R32 ((A 15 x5) + (A (17 + x5.toNat) x1)) ∧ 0 < (A 15 x5) + (A (17 + x5.toNat) x1) ∧ 0 < ((A 15 x5) + (A (17 + x5.toNat) x1)) ∧ R64 ((A 15 x5) + (A (17 + x5.toNat) x1)) ∧ R64 y3 ∧ R64 (Int.tdiv 1000000000000000000 ((A 15 x5) + (A (17 + x5.toNat) x1))) ∧ Int.tdiv 1000000000000000000 ((A 15 x5) + (A (17 + x5.toNat) x1)) < y3) (h : mm_E w (d + 1) 88 7 [(0, .ref 13), (1, mI x1), (2, mI (x2 + 1)), (3, mJ 1000000000000000000), (5, mI (x5 + 1))] [] (mm_w X A) r) : mm_E w (d + 1) 88 7 [(0, .ref 13), (1, mI x1), (2, mI x2), (3, mJ y3), (5, mI x5)] [] (mm_w X A) r := by
  obtain ⟨h0, h1, h2, h3, h4, h5, h6, h7, h8, h9, h10, h11, h12, h13⟩ := H
  exact mm_E.iload (mm_atc mc88 rfl) rfl <|
  mm_E.aload_n (mm_atc mc88 rfl) rfl <|
  mm_E.getI (z := A 13 0) (mm_atc mc88 rfl) (mm_plc mp88 rfl) rfl ly13 rfl (rfl) <|
  mm_E.if2 (mm_atc mc88 rfl) h0 h1 (ic_geF h2) rfl <|
  mm_E.aload_n (mm_atc mc88 rfl) rfl <|
  mm_E.getR (b := 15) (mm_atc mc88 rfl) (mm_plc mp88 rfl) rfl ly13 rfl <|
  mm_E.iload (mm_atc mc88 rfl) rfl <|
  mm_E.iaload (e := x5) (mm_atc mc88 rfl) ly15 rfl h3 h4 rfl (rfl) <|
  mm_E.aload_n (mm_atc mc88 rfl) rfl <|
  mm_E.getR (b := 16) (mm_atc mc88 rfl) (mm_plc mp88 rfl) rfl ly13 rfl <|
  mm_E.iload (mm_atc mc88 rfl) rfl <|
  mm_E.aaload (mm_atc mc88 rfl) ly16 rfl h3 h4 (la17 h3 h4) <|
  mm_E.iload_n (mm_atc mc88 rfl) rfl <|
  mm_E.iaload (e := x1) (mm_atc mc88 rfl) (lr17 h3 h4) rfl h5 h6 rfl (rfl) <|
  mm_E.iadd (mm_atc mc88 rfl) <|
  mm_E.istore mx88 rfl (mm_atc mc88 rfl) <|
  show mm_E _ _ 88 35 [(6, mI ((A 15 x5) + (A (17 + x5.toNat) x1))), (0, .ref 13), (1, mI x1), (2, mI x2), (3, mJ y3), (5, mI x5)] _ _ _ from
  mm_E.iload (mm_atc mc88 rfl) rfl <|
  mm_E.if1 (mm_atc mc88 rfl) h7 (ic_leF h8) rfl <|
  mm_E.inc mx88 rfl (mm_atc mc88 rfl) rfl <|
  show mm_E _ _ 88 43 [(2, mI (x2 + 1)), (6, mI ((A 15 x5) + (A (17 + x5.toNat) x1))), (0, .ref 13), (1, mI x1), (3, mJ y3), (5, mI x5)] _ _ _ from
  mm_E.lload_n (mm_atc mc88 rfl) rfl <|
  mm_E.iload (mm_atc mc88 rfl) rfl <|
  mm_E.callS0 (mm_atc mc88 rfl) (mm_plc mp88 rfl) mx89 rfl rfl (p89_0_2 (d := d) ⟨h7, h9, h10, h11, h12, h13⟩) (by omega) <|
  show mm_E _ _ 88 49 _ _ _ _ from
  mm_E.lstore_n mx88 rfl (mm_atc mc88 rfl) <|
  show mm_E _ _ 88 50 [(3, mJ 1000000000000000000), (2, mI (x2 + 1)), (6, mI ((A 15 x5) + (A (17 + x5.toNat) x1))), (0, .ref 13), (1, mI x1), (5, mI x5)] _ _ _ from
  mm_E.inc mx88 rfl (mm_atc mc88 rfl) rfl <|
  show mm_E _ _ 88 53 [(5, mI (x5 + 1)), (3, mJ 1000000000000000000), (2, mI (x2 + 1)), (6, mI ((A 15 x5) + (A (17 + x5.toNat) x1))), (0, .ref 13), (1, mI x1)] _ _ _ from
  mm_E.goto (mm_atc mc88 rfl) rfl <|
  mm_E.to h ⟨rfl, rfl, rfl, rfl, rfl, trivial⟩
theorem p88_121_0 {w d : Nat} {X : List Value} {A : MF} {x1 x5 : Int} (H : R32 x5 ∧ R32 (A 13 0) ∧ A 13 0 ≤ x5) : mm_E w d 88 121 [(0, .ref 13), (1, mI x1), (5, mI x5)] [] (mm_w X A) (.inl (none), mm_w X A, 0, 0) := by
  obtain ⟨h0, h1, h2⟩ := H
  exact mm_E.iload (mm_atc mc88 rfl) rfl <|
  mm_E.aload_n (mm_atc mc88 rfl) rfl <|
  mm_E.getI (z := A 13 0) (mm_atc mc88 rfl) (mm_plc mp88 rfl) rfl ly13 rfl (rfl) <|
  mm_E.if2 (mm_atc mc88 rfl) h0 h1 (ic_geT h2) rfl <|
  mm_E.vret (mm_atc mc88 rfl) mr88
theorem p88_121_1 {d : Nat} {X : List Value} {A : MF} {r : MR} {x1 x5 : Int} {A0 : MF} (s0 : mm_E 1 d 88 0 [(0, .ref 13), (1, mI (x1 + 1))] [] (mm_w X (mm_u (mm_u A 14 x1 x5) 15 x5 ((A 15 x5) + (A (4 + x5.toNat) x1)))) (.inl (none), mm_w X A0, 0, 0)) (H : R32 x5 ∧ R32 (A 13 0) ∧ x5 < A 13 0 ∧ 0 ≤ x1 ∧ x1 < 12 ∧ 0 ≤ x5 ∧ x5 < 6 ∧ A 13 2 = 3 ∧ A0 13 2 = 3) (h : mm_E 1 (d + 1) 88 121 [(0, .ref 13), (1, mI x1), (5, mI (x5 + 1))] [] (mm_w X (mm_u A0 15 x5 ((A0 15 x5) - (A0 (4 + x5.toNat) x1)))) r) : mm_E 1 (d + 1) 88 121 [(0, .ref 13), (1, mI x1), (5, mI x5)] [] (mm_w X A) r := by
  obtain ⟨h0, h1, h2, h3, h4, h5, h6, h7, h8⟩ := H
  exact mm_E.iload (mm_atc mc88 rfl) rfl <|
  mm_E.aload_n (mm_atc mc88 rfl) rfl <|
  mm_E.getI (z := A 13 0) (mm_atc mc88 rfl) (mm_plc mp88 rfl) rfl ly13 rfl (rfl) <|
  mm_E.if2 (mm_atc mc88 rfl) h0 h1 (ic_geF h2) rfl <|
  mm_E.aload_n (mm_atc mc88 rfl) rfl <|
  mm_E.getR (b := 14) (mm_atc mc88 rfl) (mm_plc mp88 rfl) rfl ly13 rfl <|
  mm_E.iload_n (mm_atc mc88 rfl) rfl <|
  mm_E.iload (mm_atc mc88 rfl) rfl <|
  mm_E.iastore (e := x1) (z := x5) (mm_atc mc88 rfl) ly14 rfl h3 h4 rfl rfl <|
  mm_E.aload_n (mm_atc mc88 rfl) rfl <|
  mm_E.getR (b := 15) (mm_atc mc88 rfl) (mm_plc mp88 rfl) rfl ly13 rfl <|
  mm_E.iload (mm_atc mc88 rfl) rfl <|
  mm_E.dup2 (mm_atc mc88 rfl) <|
  mm_E.iaload (e := x5) (mm_atc mc88 rfl) ly15 rfl h5 h6 rfl ((mm_u_ne (.inl (by decide))).trans (rfl)) <|
  mm_E.aload_n (mm_atc mc88 rfl) rfl <|
  mm_E.getM (b := 3) (mm_atc mc88 rfl) (mm_plc mp88 rfl) rfl ly13 rfl ((show _ = A 13 2 from (mm_u_ne (.inl (by decide))).trans (rfl)).trans h7) <|
  mm_E.iload (mm_atc mc88 rfl) rfl <|
  mm_E.aaload (mm_atc mc88 rfl) ly3 rfl h5 h6 (la4 h5 h6) <|
  mm_E.iload_n (mm_atc mc88 rfl) rfl <|
  mm_E.iaload (e := x1) (mm_atc mc88 rfl) (lr4 h5 h6) rfl h3 h4 rfl ((mm_u_ne (.inl (by omega))).trans (rfl)) <|
  mm_E.iadd (mm_atc mc88 rfl) <|
  mm_E.iastore (e := x5) (z := (A 15 x5) + (A (4 + x5.toNat) x1)) (mm_atc mc88 rfl) ly15 rfl h5 h6 rfl rfl <|
  mm_E.aload_n (mm_atc mc88 rfl) rfl <|
  mm_E.iload_n (mm_atc mc88 rfl) rfl <|
  mm_E.iconst (mm_atc mc88 rfl) <|
  mm_E.iadd (mm_atc mc88 rfl) <|
  mm_E.callV0 (mm_atc mc88 rfl) (mm_plc mp88 rfl) rfl mk88 ly13 rfl mx88 rfl rfl s0 (by omega) <|
  show mm_E _ _ 88 164 _ _ _ _ from
  mm_E.aload_n (mm_atc mc88 rfl) rfl <|
  mm_E.getR (b := 15) (mm_atc mc88 rfl) (mm_plc mp88 rfl) rfl ly13 rfl <|
  mm_E.iload (mm_atc mc88 rfl) rfl <|
  mm_E.dup2 (mm_atc mc88 rfl) <|
  mm_E.iaload (e := x5) (mm_atc mc88 rfl) ly15 rfl h5 h6 rfl (rfl) <|
  mm_E.aload_n (mm_atc mc88 rfl) rfl <|
  mm_E.getM (b := 3) (mm_atc mc88 rfl) (mm_plc mp88 rfl) rfl ly13 rfl ((show _ = A0 13 2 from rfl).trans h8) <|
  mm_E.iload (mm_atc mc88 rfl) rfl <|
  mm_E.aaload (mm_atc mc88 rfl) ly3 rfl h5 h6 (la4 h5 h6) <|
  mm_E.iload_n (mm_atc mc88 rfl) rfl <|
  mm_E.iaload (e := x1) (mm_atc mc88 rfl) (lr4 h5 h6) rfl h3 h4 rfl (rfl) <|
  mm_E.isub (mm_atc mc88 rfl) <|
  mm_E.iastore (e := x5) (z := (A0 15 x5) - (A0 (4 + x5.toNat) x1)) (mm_atc mc88 rfl) ly15 rfl h5 h6 rfl rfl <|
  mm_E.inc mx88 rfl (mm_atc mc88 rfl) rfl <|
  show mm_E _ _ 88 186 [(5, mI (x5 + 1)), (0, .ref 13), (1, mI x1)] _ _ _ from
  mm_E.goto (mm_atc mc88 rfl) rfl <|
  mm_E.to h ⟨rfl, rfl, rfl, trivial⟩
