/-! Paths of the methods, from each entry and loop head to the next; written by a program of our own (wip/whole/src/gen.py). -/
theorem p112_0_0 {w d : Nat} {X : List Value} {A : MF} {x1 : Int} (H : R32 x1 ∧ x1 < 0) : mm_E w d 112 0 [(0, .ref 77), (1, mI x1)] [] (mm_w X A) (.inl (some (mI 1)), mm_w X A, 0, 0) := by
  obtain ⟨h0, h1⟩ := H
  exact mm_E.iload_n (mm_atc mc112 rfl) rfl <|
  mm_E.if1 (mm_atc mc112 rfl) h0 (ic_ltT h1) rfl <|
  mm_E.iconst (mm_atc mc112 rfl) <|
  mm_E.goto (mm_atc mc112 rfl) rfl <|
  mm_E.iret (mm_atc mc112 rfl) mr112 rfl
theorem p112_0_1 {w d : Nat} {X : List Value} {A : MF} {x1 : Int} (H : R32 x1 ∧ 0 ≤ x1 ∧ R32 (A 77 1) ∧ x1 < A 77 1) : mm_E w d 112 0 [(0, .ref 77), (1, mI x1)] [] (mm_w X A) (.inl (some (mI 0)), mm_w X A, 0, 0) := by
  obtain ⟨h0, h1, h2, h3⟩ := H
  exact mm_E.iload_n (mm_atc mc112 rfl) rfl <|
  mm_E.if1 (mm_atc mc112 rfl) h0 (ic_ltF h1) rfl <|
  mm_E.iload_n (mm_atc mc112 rfl) rfl <|
  mm_E.aload_n (mm_atc mc112 rfl) rfl <|
  mm_E.getI (z := A 77 1) (mm_atc mc112 rfl) (mm_plc mp112 rfl) rfl ly77 rfl (rfl) <|
  mm_E.if2 (mm_atc mc112 rfl) h0 h2 (ic_ltT h3) rfl <|
  mm_E.iconst (mm_atc mc112 rfl) <|
  mm_E.iret (mm_atc mc112 rfl) mr112 rfl
theorem p112_0_2 {w d : Nat} {X : List Value} {A : MF} {x1 : Int} (H : R32 x1 ∧ 0 ≤ x1 ∧ R32 (A 77 1) ∧ A 77 1 ≤ x1) : mm_E w d 112 0 [(0, .ref 77), (1, mI x1)] [] (mm_w X A) (.inl (some (mI 1)), mm_w X A, 0, 0) := by
  obtain ⟨h0, h1, h2, h3⟩ := H
  exact mm_E.iload_n (mm_atc mc112 rfl) rfl <|
  mm_E.if1 (mm_atc mc112 rfl) h0 (ic_ltF h1) rfl <|
  mm_E.iload_n (mm_atc mc112 rfl) rfl <|
  mm_E.aload_n (mm_atc mc112 rfl) rfl <|
  mm_E.getI (z := A 77 1) (mm_atc mc112 rfl) (mm_plc mp112 rfl) rfl ly77 rfl (rfl) <|
  mm_E.if2 (mm_atc mc112 rfl) h0 h2 (ic_ltF h3) rfl <|
  mm_E.iconst (mm_atc mc112 rfl) <|
  mm_E.goto (mm_atc mc112 rfl) rfl <|
  mm_E.iret (mm_atc mc112 rfl) mr112 rfl
theorem p113_0_0 {w d : Nat} {X : List Value} {A : MF} {x1 : Int} (H : R32 x1 ∧ x1 < 0) : mm_E w d 113 0 [(0, .ref 77), (1, mI x1)] [] (mm_w X A) (.inl (some (mI 1)), mm_w X A, 0, 0) := by
  obtain ⟨h0, h1⟩ := H
  exact mm_E.iload_n (mm_atc mc113 rfl) rfl <|
  mm_E.if1 (mm_atc mc113 rfl) h0 (ic_ltT h1) rfl <|
  mm_E.iconst (mm_atc mc113 rfl) <|
  mm_E.goto (mm_atc mc113 rfl) rfl <|
  mm_E.iret (mm_atc mc113 rfl) mr113 rfl
theorem p113_0_1 {w d : Nat} {X : List Value} {A : MF} {x1 : Int} (H : R32 x1 ∧ 0 ≤ x1 ∧ R32 (A 77 2) ∧ x1 < A 77 2) : mm_E w d 113 0 [(0, .ref 77), (1, mI x1)] [] (mm_w X A) (.inl (some (mI 0)), mm_w X A, 0, 0) := by
  obtain ⟨h0, h1, h2, h3⟩ := H
  exact mm_E.iload_n (mm_atc mc113 rfl) rfl <|
  mm_E.if1 (mm_atc mc113 rfl) h0 (ic_ltF h1) rfl <|
  mm_E.iload_n (mm_atc mc113 rfl) rfl <|
  mm_E.aload_n (mm_atc mc113 rfl) rfl <|
  mm_E.getI (z := A 77 2) (mm_atc mc113 rfl) (mm_plc mp113 rfl) rfl ly77 rfl (rfl) <|
  mm_E.if2 (mm_atc mc113 rfl) h0 h2 (ic_ltT h3) rfl <|
  mm_E.iconst (mm_atc mc113 rfl) <|
  mm_E.iret (mm_atc mc113 rfl) mr113 rfl
theorem p113_0_2 {w d : Nat} {X : List Value} {A : MF} {x1 : Int} (H : R32 x1 ∧ 0 ≤ x1 ∧ R32 (A 77 2) ∧ A 77 2 ≤ x1) : mm_E w d 113 0 [(0, .ref 77), (1, mI x1)] [] (mm_w X A) (.inl (some (mI 1)), mm_w X A, 0, 0) := by
  obtain ⟨h0, h1, h2, h3⟩ := H
  exact mm_E.iload_n (mm_atc mc113 rfl) rfl <|
  mm_E.if1 (mm_atc mc113 rfl) h0 (ic_ltF h1) rfl <|
  mm_E.iload_n (mm_atc mc113 rfl) rfl <|
  mm_E.aload_n (mm_atc mc113 rfl) rfl <|
  mm_E.getI (z := A 77 2) (mm_atc mc113 rfl) (mm_plc mp113 rfl) rfl ly77 rfl (rfl) <|
  mm_E.if2 (mm_atc mc113 rfl) h0 h2 (ic_ltF h3) rfl <|
  mm_E.iconst (mm_atc mc113 rfl) <|
  mm_E.goto (mm_atc mc113 rfl) rfl <|
  mm_E.iret (mm_atc mc113 rfl) mr113 rfl
theorem p114_0_0 {d : Nat} {X : List Value} {A : MF} {x1 : Int} (H : R32 x1 ∧ x1 < 1) : mm_E 1 d 114 0 [(0, .ref 77), (1, mI x1)] [] (mm_w X A) (.inl (none), mm_w X (mm_u A 77 0 1), 0, 0) := by
  obtain ⟨h0, h1⟩ := H
  exact mm_E.aload_n (mm_atc mc114 rfl) rfl <|
  mm_E.iload_n (mm_atc mc114 rfl) rfl <|
  mm_E.iconst (mm_atc mc114 rfl) <|
  mm_E.if2 (mm_atc mc114 rfl) h0 (by decide) (ic_ltT h1) rfl <|
  mm_E.iconst (mm_atc mc114 rfl) <|
  mm_E.goto (mm_atc mc114 rfl) rfl <|
  mm_E.putI (fi := 0) (z := 1) (mm_atc mc114 rfl) (mm_plc mp114 rfl) ly77 rfl rfl rfl (mm_fit_i rfl) rfl <|
  mm_E.aload_n (mm_atc mc114 rfl) rfl <|
  mm_E.getI (z := 1) (mm_atc mc114 rfl) (mm_plc mp114 rfl) rfl ly77 rfl (mm_u_same) <|
  mm_E.if1 (mm_atc mc114 rfl) (by decide) (ic_neT (by decide)) rfl <|
  mm_E.vret (mm_atc mc114 rfl) mr114
theorem p114_0_1 {d : Nat} {X : List Value} {A : MF} {x1 : Int} {A0 : MF} (s0 : mm_E 1 d 91 0 [(0, .ref 77), (1, mI x1)] [] (mm_w X (mm_u A 77 0 0)) (.inl (none), mm_w X A0, 0, 0)) (H : R32 x1 ∧ 1 ≤ x1 ∧ x1 ≤ 6) : mm_E 1 (d + 1) 114 0 [(0, .ref 77), (1, mI x1)] [] (mm_w X A) (.inl (none), mm_w X A0, 0, 0) := by
  obtain ⟨h0, h1, h2⟩ := H
  exact mm_E.aload_n (mm_atc mc114 rfl) rfl <|
  mm_E.iload_n (mm_atc mc114 rfl) rfl <|
  mm_E.iconst (mm_atc mc114 rfl) <|
  mm_E.if2 (mm_atc mc114 rfl) h0 (by decide) (ic_ltF h1) rfl <|
  mm_E.iload_n (mm_atc mc114 rfl) rfl <|
  mm_E.bipush (mm_atc mc114 rfl) rfl <|
  mm_E.if2 (mm_atc mc114 rfl) h0 (by decide) (ic_leT h2) rfl <|
  mm_E.iconst (mm_atc mc114 rfl) <|
  mm_E.putI (fi := 0) (z := 0) (mm_atc mc114 rfl) (mm_plc mp114 rfl) ly77 rfl rfl rfl (mm_fit_i rfl) rfl <|
  mm_E.aload_n (mm_atc mc114 rfl) rfl <|
  mm_E.getI (z := 0) (mm_atc mc114 rfl) (mm_plc mp114 rfl) rfl ly77 rfl (mm_u_same) <|
  mm_E.if1 (mm_atc mc114 rfl) (by decide) (ic_neF (by decide)) rfl <|
  mm_E.aload_n (mm_atc mc114 rfl) rfl <|
  mm_E.iload_n (mm_atc mc114 rfl) rfl <|
  mm_E.callV0 (mm_atc mc114 rfl) (mm_plc mp114 rfl) rfl mk91 ly77 rfl mx91 rfl rfl s0 (by omega) <|
  show mm_E _ _ 114 32 _ _ _ _ from
  mm_E.vret (mm_atc mc114 rfl) mr114
theorem p114_0_2 {d : Nat} {X : List Value} {A : MF} {x1 : Int} (H : R32 x1 ∧ 1 ≤ x1 ∧ 6 < x1) : mm_E 1 d 114 0 [(0, .ref 77), (1, mI x1)] [] (mm_w X A) (.inl (none), mm_w X (mm_u A 77 0 1), 0, 0) := by
  obtain ⟨h0, h1, h2⟩ := H
  exact mm_E.aload_n (mm_atc mc114 rfl) rfl <|
  mm_E.iload_n (mm_atc mc114 rfl) rfl <|
  mm_E.iconst (mm_atc mc114 rfl) <|
  mm_E.if2 (mm_atc mc114 rfl) h0 (by decide) (ic_ltF h1) rfl <|
  mm_E.iload_n (mm_atc mc114 rfl) rfl <|
  mm_E.bipush (mm_atc mc114 rfl) rfl <|
  mm_E.if2 (mm_atc mc114 rfl) h0 (by decide) (ic_leF h2) rfl <|
  mm_E.iconst (mm_atc mc114 rfl) <|
  mm_E.goto (mm_atc mc114 rfl) rfl <|
  mm_E.putI (fi := 0) (z := 1) (mm_atc mc114 rfl) (mm_plc mp114 rfl) ly77 rfl rfl rfl (mm_fit_i rfl) rfl <|
  mm_E.aload_n (mm_atc mc114 rfl) rfl <|
  mm_E.getI (z := 1) (mm_atc mc114 rfl) (mm_plc mp114 rfl) rfl ly77 rfl (mm_u_same) <|
  mm_E.if1 (mm_atc mc114 rfl) (by decide) (ic_neT (by decide)) rfl <|
  mm_E.vret (mm_atc mc114 rfl) mr114
theorem p115_0_0 {d : Nat} {X : List Value} {A : MF} {x1 : Int} (H : R32 x1 ∧ x1 < 0) : mm_E 1 d 115 0 [(0, .ref 77), (1, mI x1)] [] (mm_w X A) (.inl (none), mm_w X (mm_u A 77 0 1), 0, 0) := by
  obtain ⟨h0, h1⟩ := H
  exact mm_E.aload_n (mm_atc mc115 rfl) rfl <|
  mm_E.iload_n (mm_atc mc115 rfl) rfl <|
  mm_E.if1 (mm_atc mc115 rfl) h0 (ic_ltT h1) rfl <|
  mm_E.iconst (mm_atc mc115 rfl) <|
  mm_E.goto (mm_atc mc115 rfl) rfl <|
  mm_E.putI (fi := 0) (z := 1) (mm_atc mc115 rfl) (mm_plc mp115 rfl) ly77 rfl rfl rfl (mm_fit_i rfl) rfl <|
  mm_E.aload_n (mm_atc mc115 rfl) rfl <|
  mm_E.getI (z := 1) (mm_atc mc115 rfl) (mm_plc mp115 rfl) rfl ly77 rfl (mm_u_same) <|
  mm_E.if1 (mm_atc mc115 rfl) (by decide) (ic_eqF (by decide)) rfl <|
  mm_E.vret (mm_atc mc115 rfl) mr115
theorem p115_0_1 {d : Nat} {X : List Value} {A : MF} {r : MR} {x1 : Int} {A0 : MF} (s0 : mm_E 1 d 94 0 [(0, .ref 77)] [] (mm_w X (mm_u (mm_u A 77 0 0) 77 2 x1)) (.inl (none), mm_w X A0, 0, 0)) (H : R32 x1 ∧ 0 ≤ x1 ∧ x1 ≤ 12) (h : mm_E 1 (d + 1) 115 38 [(0, .ref 77), (1, mI x1), (2, mI 0)] [] (mm_w X A0) r) : mm_E 1 (d + 1) 115 0 [(0, .ref 77), (1, mI x1)] [] (mm_w X A) r := by
  obtain ⟨h0, h1, h2⟩ := H
  exact mm_E.aload_n (mm_atc mc115 rfl) rfl <|
  mm_E.iload_n (mm_atc mc115 rfl) rfl <|
  mm_E.if1 (mm_atc mc115 rfl) h0 (ic_ltF h1) rfl <|
  mm_E.iload_n (mm_atc mc115 rfl) rfl <|
  mm_E.bipush (mm_atc mc115 rfl) rfl <|
  mm_E.if2 (mm_atc mc115 rfl) h0 (by decide) (ic_leT h2) rfl <|
  mm_E.iconst (mm_atc mc115 rfl) <|
  mm_E.putI (fi := 0) (z := 0) (mm_atc mc115 rfl) (mm_plc mp115 rfl) ly77 rfl rfl rfl (mm_fit_i rfl) rfl <|
  mm_E.aload_n (mm_atc mc115 rfl) rfl <|
  mm_E.getI (z := 0) (mm_atc mc115 rfl) (mm_plc mp115 rfl) rfl ly77 rfl (mm_u_same) <|
  mm_E.if1 (mm_atc mc115 rfl) (by decide) (ic_eqT (by decide)) rfl <|
  mm_E.aload_n (mm_atc mc115 rfl) rfl <|
  mm_E.iload_n (mm_atc mc115 rfl) rfl <|
  mm_E.putI (fi := 2) (z := x1) (mm_atc mc115 rfl) (mm_plc mp115 rfl) ly77 rfl rfl rfl (mm_fit_i rfl) rfl <|
  mm_E.aload_n (mm_atc mc115 rfl) rfl <|
  mm_E.callV0 (mm_atc mc115 rfl) (mm_plc mp115 rfl) rfl mk94 ly77 rfl mx94 rfl rfl s0 (by omega) <|
  show mm_E _ _ 115 36 _ _ _ _ from
  mm_E.iconst (mm_atc mc115 rfl) <|
  mm_E.istore_n mx115 rfl (mm_atc mc115 rfl) <|
  show mm_E _ _ 115 38 [(2, mI 0), (0, .ref 77), (1, mI x1)] _ _ _ from
  mm_E.to h ⟨rfl, rfl, rfl, trivial⟩
theorem p115_0_2 {d : Nat} {X : List Value} {A : MF} {x1 : Int} (H : R32 x1 ∧ 0 ≤ x1 ∧ 12 < x1) : mm_E 1 d 115 0 [(0, .ref 77), (1, mI x1)] [] (mm_w X A) (.inl (none), mm_w X (mm_u A 77 0 1), 0, 0) := by
  obtain ⟨h0, h1, h2⟩ := H
  exact mm_E.aload_n (mm_atc mc115 rfl) rfl <|
  mm_E.iload_n (mm_atc mc115 rfl) rfl <|
  mm_E.if1 (mm_atc mc115 rfl) h0 (ic_ltF h1) rfl <|
  mm_E.iload_n (mm_atc mc115 rfl) rfl <|
  mm_E.bipush (mm_atc mc115 rfl) rfl <|
  mm_E.if2 (mm_atc mc115 rfl) h0 (by decide) (ic_leF h2) rfl <|
  mm_E.iconst (mm_atc mc115 rfl) <|
  mm_E.goto (mm_atc mc115 rfl) rfl <|
  mm_E.putI (fi := 0) (z := 1) (mm_atc mc115 rfl) (mm_plc mp115 rfl) ly77 rfl rfl rfl (mm_fit_i rfl) rfl <|
  mm_E.aload_n (mm_atc mc115 rfl) rfl <|
  mm_E.getI (z := 1) (mm_atc mc115 rfl) (mm_plc mp115 rfl) rfl ly77 rfl (mm_u_same) <|
  mm_E.if1 (mm_atc mc115 rfl) (by decide) (ic_eqF (by decide)) rfl <|
  mm_E.vret (mm_atc mc115 rfl) mr115
theorem p115_38_0 {w d : Nat} {X : List Value} {A : MF} {x1 x2 : Int} (H : R32 x2 ∧ 6 ≤ x2) : mm_E w d 115 38 [(0, .ref 77), (1, mI x1), (2, mI x2)] [] (mm_w X A) (.inl (none), mm_w X A, 0, 0) := by
  obtain ⟨h0, h1⟩ := H
  exact mm_E.iload_n (mm_atc mc115 rfl) rfl <|
  mm_E.bipush (mm_atc mc115 rfl) rfl <|
  mm_E.if2 (mm_atc mc115 rfl) h0 (by decide) (ic_geT h1) rfl <|
  mm_E.vret (mm_atc mc115 rfl) mr115
theorem p115_38_1 {w d : Nat} {X : List Value} {A : MF} {r : MR} {x1 x2 : Int} (H : R32 x2 ∧ x2 < 6) (h : mm_E w d 115 46 [(0, .ref 77), (1, mI x1), (2, mI x2), (3, mI x1)] [] (mm_w X A) r) : mm_E w d 115 38 [(0, .ref 77), (1, mI x1), (2, mI x2)] [] (mm_w X A) r := by
  obtain ⟨h0, h1⟩ := H
  exact mm_E.iload_n (mm_atc mc115 rfl) rfl <|
  mm_E.bipush (mm_atc mc115 rfl) rfl <|
  mm_E.if2 (mm_atc mc115 rfl) h0 (by decide) (ic_geF h1) rfl <|
  mm_E.iload_n (mm_atc mc115 rfl) rfl <|
  mm_E.istore_n mx115 rfl (mm_atc mc115 rfl) <|
  show mm_E _ _ 115 46 [(3, mI x1), (0, .ref 77), (1, mI x1), (2, mI x2)] _ _ _ from
  mm_E.to h ⟨rfl, rfl, rfl, rfl, trivial⟩
theorem p115_46_0 {w d : Nat} {X : List Value} {A : MF} {r : MR} {x1 x2 x3 : Int} (H : R32 x3 ∧ 12 ≤ x3) (h : mm_E w d 115 38 [(0, .ref 77), (1, mI x1), (2, mI (x2 + 1))] [] (mm_w X A) r) : mm_E w d 115 46 [(0, .ref 77), (1, mI x1), (2, mI x2), (3, mI x3)] [] (mm_w X A) r := by
  obtain ⟨h0, h1⟩ := H
  exact mm_E.iload_n (mm_atc mc115 rfl) rfl <|
  mm_E.bipush (mm_atc mc115 rfl) rfl <|
  mm_E.if2 (mm_atc mc115 rfl) h0 (by decide) (ic_geT h1) rfl <|
  mm_E.inc mx115 rfl (mm_atc mc115 rfl) rfl <|
  show mm_E _ _ 115 73 [(2, mI (x2 + 1)), (0, .ref 77), (1, mI x1), (3, mI x3)] _ _ _ from
  mm_E.goto (mm_atc mc115 rfl) rfl <|
  mm_E.to h ⟨rfl, rfl, rfl, trivial⟩
theorem p115_46_1 {d : Nat} {X : List Value} {A : MF} {r : MR} {x1 x2 x3 : Int} (H : R32 x3 ∧ x3 < 12 ∧ 0 ≤ (12 * x2) + x3 ∧ (12 * x2) + x3 < 72) (h : mm_E 1 d 115 46 [(0, .ref 77), (1, mI x1), (2, mI x2), (3, mI (x3 + 1))] [] (mm_w X (mm_u A 78 ((12 * x2) + x3) 0)) r) : mm_E 1 d 115 46 [(0, .ref 77), (1, mI x1), (2, mI x2), (3, mI x3)] [] (mm_w X A) r := by
  obtain ⟨h0, h1, h2, h3⟩ := H
  exact mm_E.iload_n (mm_atc mc115 rfl) rfl <|
  mm_E.bipush (mm_atc mc115 rfl) rfl <|
  mm_E.if2 (mm_atc mc115 rfl) h0 (by decide) (ic_geF h1) rfl <|
  mm_E.aload_n (mm_atc mc115 rfl) rfl <|
  mm_E.getR (b := 78) (mm_atc mc115 rfl) (mm_plc mp115 rfl) rfl ly77 rfl <|
  mm_E.bipush (mm_atc mc115 rfl) rfl <|
  mm_E.iload_n (mm_atc mc115 rfl) rfl <|
  mm_E.imul (mm_atc mc115 rfl) <|
  mm_E.iload_n (mm_atc mc115 rfl) rfl <|
  mm_E.iadd (mm_atc mc115 rfl) <|
  mm_E.iconst (mm_atc mc115 rfl) <|
  mm_E.iastore (e := (12 * x2) + x3) (z := 0) (mm_atc mc115 rfl) ly78 rfl h2 h3 rfl rfl <|
  mm_E.inc mx115 rfl (mm_atc mc115 rfl) rfl <|
  show mm_E _ _ 115 67 [(3, mI (x3 + 1)), (0, .ref 77), (1, mI x1), (2, mI x2)] _ _ _ from
  mm_E.goto (mm_atc mc115 rfl) rfl <|
  mm_E.to h ⟨rfl, rfl, rfl, rfl, trivial⟩
theorem p116_0_0 {d : Nat} {X : List Value} {A : MF} {x1 x2 x3 : Int} (H : R32 x3 ∧ x3 < 0) : mm_E 1 d 116 0 [(0, .ref 77), (1, mI x1), (2, mI x2), (3, mI x3)] [] (mm_w X A) (.inl (some (mI 0)), mm_w X (mm_u A 77 0 1), 0, 0) := by
  obtain ⟨h0, h1⟩ := H
  exact mm_E.aload_n (mm_atc mc116 rfl) rfl <|
  mm_E.iload_n (mm_atc mc116 rfl) rfl <|
  mm_E.if1 (mm_atc mc116 rfl) h0 (ic_ltT h1) rfl <|
  mm_E.iconst (mm_atc mc116 rfl) <|
  mm_E.goto (mm_atc mc116 rfl) rfl <|
  mm_E.putI (fi := 0) (z := 1) (mm_atc mc116 rfl) (mm_plc mp116 rfl) ly77 rfl rfl rfl (mm_fit_i rfl) rfl <|
  mm_E.aload_n (mm_atc mc116 rfl) rfl <|
  mm_E.getI (z := 1) (mm_atc mc116 rfl) (mm_plc mp116 rfl) rfl ly77 rfl (mm_u_same) <|
  mm_E.if1 (mm_atc mc116 rfl) (by decide) (ic_eqF (by decide)) rfl <|
  mm_E.iconst (mm_atc mc116 rfl) <|
  mm_E.iret (mm_atc mc116 rfl) mr116 rfl
theorem p116_0_1 {d : Nat} {X : List Value} {A : MF} {x1 x2 x3 : Int} (H : R32 x3 ∧ 0 ≤ x3 ∧ x3 ≤ 1000 ∧ R32 x1 ∧ x1 < 0) : mm_E 1 (d + 1) 116 0 [(0, .ref 77), (1, mI x1), (2, mI x2), (3, mI x3)] [] (mm_w X A) (.inl (some (mI 0)), mm_w X (mm_u A 77 0 2), 0, 0) := by
  obtain ⟨h0, h1, h2, h3, h4⟩ := H
  exact mm_E.aload_n (mm_atc mc116 rfl) rfl <|
  mm_E.iload_n (mm_atc mc116 rfl) rfl <|
  mm_E.if1 (mm_atc mc116 rfl) h0 (ic_ltF h1) rfl <|
  mm_E.iload_n (mm_atc mc116 rfl) rfl <|
  mm_E.sipush (mm_atc mc116 rfl) rfl <|
  mm_E.if2 (mm_atc mc116 rfl) h0 (by decide) (ic_leT h2) rfl <|
  mm_E.aload_n (mm_atc mc116 rfl) rfl <|
  mm_E.iload_n (mm_atc mc116 rfl) rfl <|
  mm_E.callV0 (mm_atc mc116 rfl) (mm_plc mp116 rfl) rfl mk112 ly77 rfl mx112 rfl rfl (p112_0_0 (d := d) ⟨h3, h4⟩) (by omega) <|
  show mm_E _ _ 116 21 _ _ _ _ from
  mm_E.if1 (mm_atc mc116 rfl) (by decide) (ic_neT (by decide)) rfl <|
  mm_E.iconst (mm_atc mc116 rfl) <|
  mm_E.goto (mm_atc mc116 rfl) rfl <|
  mm_E.putI (fi := 0) (z := 2) (mm_atc mc116 rfl) (mm_plc mp116 rfl) ly77 rfl rfl rfl (mm_fit_i rfl) rfl <|
  mm_E.aload_n (mm_atc mc116 rfl) rfl <|
  mm_E.getI (z := 2) (mm_atc mc116 rfl) (mm_plc mp116 rfl) rfl ly77 rfl (mm_u_same) <|
  mm_E.if1 (mm_atc mc116 rfl) (by decide) (ic_eqF (by decide)) rfl <|
  mm_E.iconst (mm_atc mc116 rfl) <|
  mm_E.iret (mm_atc mc116 rfl) mr116 rfl
theorem p116_0_2 {d : Nat} {X : List Value} {A : MF} {x1 x2 x3 : Int} (H : R32 x3 ∧ 0 ≤ x3 ∧ x3 ≤ 1000 ∧ R32 x1 ∧ 0 ≤ x1 ∧ R32 (A 77 1) ∧ x1 < A 77 1 ∧ R32 x2 ∧ x2 < 0) : mm_E 1 (d + 1) 116 0 [(0, .ref 77), (1, mI x1), (2, mI x2), (3, mI x3)] [] (mm_w X A) (.inl (some (mI 0)), mm_w X (mm_u A 77 0 2), 0, 0) := by
  obtain ⟨h0, h1, h2, h3, h4, h5, h6, h7, h8⟩ := H
  exact mm_E.aload_n (mm_atc mc116 rfl) rfl <|
  mm_E.iload_n (mm_atc mc116 rfl) rfl <|
  mm_E.if1 (mm_atc mc116 rfl) h0 (ic_ltF h1) rfl <|
  mm_E.iload_n (mm_atc mc116 rfl) rfl <|
  mm_E.sipush (mm_atc mc116 rfl) rfl <|
  mm_E.if2 (mm_atc mc116 rfl) h0 (by decide) (ic_leT h2) rfl <|
  mm_E.aload_n (mm_atc mc116 rfl) rfl <|
  mm_E.iload_n (mm_atc mc116 rfl) rfl <|
  mm_E.callV0 (mm_atc mc116 rfl) (mm_plc mp116 rfl) rfl mk112 ly77 rfl mx112 rfl rfl (p112_0_1 (d := d) ⟨h3, h4, h5, h6⟩) (by omega) <|
  show mm_E _ _ 116 21 _ _ _ _ from
  mm_E.if1 (mm_atc mc116 rfl) (by decide) (ic_neF (by decide)) rfl <|
  mm_E.aload_n (mm_atc mc116 rfl) rfl <|
  mm_E.iload_n (mm_atc mc116 rfl) rfl <|
  mm_E.callV0 (mm_atc mc116 rfl) (mm_plc mp116 rfl) rfl mk113 ly77 rfl mx113 rfl rfl (p113_0_0 (d := d) ⟨h7, h8⟩) (by omega) <|
  show mm_E _ _ 116 29 _ _ _ _ from
  mm_E.if1 (mm_atc mc116 rfl) (by decide) (ic_eqF (by decide)) rfl <|
  mm_E.iconst (mm_atc mc116 rfl) <|
  mm_E.goto (mm_atc mc116 rfl) rfl <|
  mm_E.putI (fi := 0) (z := 2) (mm_atc mc116 rfl) (mm_plc mp116 rfl) ly77 rfl rfl rfl (mm_fit_i rfl) rfl <|
  mm_E.aload_n (mm_atc mc116 rfl) rfl <|
  mm_E.getI (z := 2) (mm_atc mc116 rfl) (mm_plc mp116 rfl) rfl ly77 rfl (mm_u_same) <|
  mm_E.if1 (mm_atc mc116 rfl) (by decide) (ic_eqF (by decide)) rfl <|
  mm_E.iconst (mm_atc mc116 rfl) <|
  mm_E.iret (mm_atc mc116 rfl) mr116 rfl
theorem p116_0_3 {d : Nat} {X : List Value} {A : MF} {x1 x2 x3 : Int} (H : R32 x3 ∧ 0 ≤ x3 ∧ x3 ≤ 1000 ∧ R32 x1 ∧ 0 ≤ x1 ∧ R32 (A 77 1) ∧ x1 < A 77 1 ∧ R32 x2 ∧ 0 ≤ x2 ∧ R32 (A 77 2) ∧ x2 < A 77 2 ∧ 0 ≤ (12 * x1) + x2 ∧ (12 * x1) + x2 < 72) : mm_E 1 (d + 1) 116 0 [(0, .ref 77), (1, mI x1), (2, mI x2), (3, mI x3)] [] (mm_w X A) (.inl (some (mI (A 78 ((12 * x1) + x2)))), mm_w X (mm_u (mm_u A 77 0 0) 78 ((12 * x1) + x2) x3), 0, 0) := by
  obtain ⟨h0, h1, h2, h3, h4, h5, h6, h7, h8, h9, h10, h11, h12⟩ := H
  exact mm_E.aload_n (mm_atc mc116 rfl) rfl <|
  mm_E.iload_n (mm_atc mc116 rfl) rfl <|
  mm_E.if1 (mm_atc mc116 rfl) h0 (ic_ltF h1) rfl <|
  mm_E.iload_n (mm_atc mc116 rfl) rfl <|
  mm_E.sipush (mm_atc mc116 rfl) rfl <|
  mm_E.if2 (mm_atc mc116 rfl) h0 (by decide) (ic_leT h2) rfl <|
  mm_E.aload_n (mm_atc mc116 rfl) rfl <|
  mm_E.iload_n (mm_atc mc116 rfl) rfl <|
  mm_E.callV0 (mm_atc mc116 rfl) (mm_plc mp116 rfl) rfl mk112 ly77 rfl mx112 rfl rfl (p112_0_1 (d := d) ⟨h3, h4, h5, h6⟩) (by omega) <|
  show mm_E _ _ 116 21 _ _ _ _ from
  mm_E.if1 (mm_atc mc116 rfl) (by decide) (ic_neF (by decide)) rfl <|
  mm_E.aload_n (mm_atc mc116 rfl) rfl <|
  mm_E.iload_n (mm_atc mc116 rfl) rfl <|
  mm_E.callV0 (mm_atc mc116 rfl) (mm_plc mp116 rfl) rfl mk113 ly77 rfl mx113 rfl rfl (p113_0_1 (d := d) ⟨h7, h8, h9, h10⟩) (by omega) <|
  show mm_E _ _ 116 29 _ _ _ _ from
  mm_E.if1 (mm_atc mc116 rfl) (by decide) (ic_eqT (by decide)) rfl <|
  mm_E.iconst (mm_atc mc116 rfl) <|
  mm_E.putI (fi := 0) (z := 0) (mm_atc mc116 rfl) (mm_plc mp116 rfl) ly77 rfl rfl rfl (mm_fit_i rfl) rfl <|
  mm_E.aload_n (mm_atc mc116 rfl) rfl <|
  mm_E.getI (z := 0) (mm_atc mc116 rfl) (mm_plc mp116 rfl) rfl ly77 rfl (mm_u_same) <|
  mm_E.if1 (mm_atc mc116 rfl) (by decide) (ic_eqT (by decide)) rfl <|
  mm_E.aload_n (mm_atc mc116 rfl) rfl <|
  mm_E.getR (b := 78) (mm_atc mc116 rfl) (mm_plc mp116 rfl) rfl ly77 rfl <|
  mm_E.bipush (mm_atc mc116 rfl) rfl <|
  mm_E.iload_n (mm_atc mc116 rfl) rfl <|
  mm_E.imul (mm_atc mc116 rfl) <|
  mm_E.iload_n (mm_atc mc116 rfl) rfl <|
  mm_E.iadd (mm_atc mc116 rfl) <|
  mm_E.iaload (e := (12 * x1) + x2) (mm_atc mc116 rfl) ly78 rfl h11 h12 rfl ((mm_u_ne (.inl (by decide))).trans (rfl)) <|
  mm_E.istore mx116 rfl (mm_atc mc116 rfl) <|
  show mm_E _ _ 116 62 [(4, mI (A 78 ((12 * x1) + x2))), (0, .ref 77), (1, mI x1), (2, mI x2), (3, mI x3)] _ _ _ from
  mm_E.aload_n (mm_atc mc116 rfl) rfl <|
  mm_E.getR (b := 78) (mm_atc mc116 rfl) (mm_plc mp116 rfl) rfl ly77 rfl <|
  mm_E.bipush (mm_atc mc116 rfl) rfl <|
  mm_E.iload_n (mm_atc mc116 rfl) rfl <|
  mm_E.imul (mm_atc mc116 rfl) <|
  mm_E.iload_n (mm_atc mc116 rfl) rfl <|
  mm_E.iadd (mm_atc mc116 rfl) <|
  mm_E.iload_n (mm_atc mc116 rfl) rfl <|
  mm_E.iastore (e := (12 * x1) + x2) (z := x3) (mm_atc mc116 rfl) ly78 rfl h11 h12 rfl rfl <|
  mm_E.iload (mm_atc mc116 rfl) rfl <|
  mm_E.iret (mm_atc mc116 rfl) mr116 rfl
theorem p116_0_4 {d : Nat} {X : List Value} {A : MF} {x1 x2 x3 : Int} (H : R32 x3 ∧ 0 ≤ x3 ∧ x3 ≤ 1000 ∧ R32 x1 ∧ 0 ≤ x1 ∧ R32 (A 77 1) ∧ x1 < A 77 1 ∧ R32 x2 ∧ 0 ≤ x2 ∧ R32 (A 77 2) ∧ A 77 2 ≤ x2) : mm_E 1 (d + 1) 116 0 [(0, .ref 77), (1, mI x1), (2, mI x2), (3, mI x3)] [] (mm_w X A) (.inl (some (mI 0)), mm_w X (mm_u A 77 0 2), 0, 0) := by
  obtain ⟨h0, h1, h2, h3, h4, h5, h6, h7, h8, h9, h10⟩ := H
  exact mm_E.aload_n (mm_atc mc116 rfl) rfl <|
  mm_E.iload_n (mm_atc mc116 rfl) rfl <|
  mm_E.if1 (mm_atc mc116 rfl) h0 (ic_ltF h1) rfl <|
  mm_E.iload_n (mm_atc mc116 rfl) rfl <|
  mm_E.sipush (mm_atc mc116 rfl) rfl <|
  mm_E.if2 (mm_atc mc116 rfl) h0 (by decide) (ic_leT h2) rfl <|
  mm_E.aload_n (mm_atc mc116 rfl) rfl <|
  mm_E.iload_n (mm_atc mc116 rfl) rfl <|
  mm_E.callV0 (mm_atc mc116 rfl) (mm_plc mp116 rfl) rfl mk112 ly77 rfl mx112 rfl rfl (p112_0_1 (d := d) ⟨h3, h4, h5, h6⟩) (by omega) <|
  show mm_E _ _ 116 21 _ _ _ _ from
  mm_E.if1 (mm_atc mc116 rfl) (by decide) (ic_neF (by decide)) rfl <|
  mm_E.aload_n (mm_atc mc116 rfl) rfl <|
  mm_E.iload_n (mm_atc mc116 rfl) rfl <|
  mm_E.callV0 (mm_atc mc116 rfl) (mm_plc mp116 rfl) rfl mk113 ly77 rfl mx113 rfl rfl (p113_0_2 (d := d) ⟨h7, h8, h9, h10⟩) (by omega) <|
  show mm_E _ _ 116 29 _ _ _ _ from
  mm_E.if1 (mm_atc mc116 rfl) (by decide) (ic_eqF (by decide)) rfl <|
  mm_E.iconst (mm_atc mc116 rfl) <|
  mm_E.goto (mm_atc mc116 rfl) rfl <|
  mm_E.putI (fi := 0) (z := 2) (mm_atc mc116 rfl) (mm_plc mp116 rfl) ly77 rfl rfl rfl (mm_fit_i rfl) rfl <|
  mm_E.aload_n (mm_atc mc116 rfl) rfl <|
  mm_E.getI (z := 2) (mm_atc mc116 rfl) (mm_plc mp116 rfl) rfl ly77 rfl (mm_u_same) <|
  mm_E.if1 (mm_atc mc116 rfl) (by decide) (ic_eqF (by decide)) rfl <|
  mm_E.iconst (mm_atc mc116 rfl) <|
  mm_E.iret (mm_atc mc116 rfl) mr116 rfl
theorem p116_0_5 {d : Nat} {X : List Value} {A : MF} {x1 x2 x3 : Int} (H : R32 x3 ∧ 0 ≤ x3 ∧ x3 ≤ 1000 ∧ R32 x1 ∧ 0 ≤ x1 ∧ R32 (A 77 1) ∧ A 77 1 ≤ x1) : mm_E 1 (d + 1) 116 0 [(0, .ref 77), (1, mI x1), (2, mI x2), (3, mI x3)] [] (mm_w X A) (.inl (some (mI 0)), mm_w X (mm_u A 77 0 2), 0, 0) := by
  obtain ⟨h0, h1, h2, h3, h4, h5, h6⟩ := H
  exact mm_E.aload_n (mm_atc mc116 rfl) rfl <|
  mm_E.iload_n (mm_atc mc116 rfl) rfl <|
  mm_E.if1 (mm_atc mc116 rfl) h0 (ic_ltF h1) rfl <|
  mm_E.iload_n (mm_atc mc116 rfl) rfl <|
  mm_E.sipush (mm_atc mc116 rfl) rfl <|
  mm_E.if2 (mm_atc mc116 rfl) h0 (by decide) (ic_leT h2) rfl <|
  mm_E.aload_n (mm_atc mc116 rfl) rfl <|
  mm_E.iload_n (mm_atc mc116 rfl) rfl <|
  mm_E.callV0 (mm_atc mc116 rfl) (mm_plc mp116 rfl) rfl mk112 ly77 rfl mx112 rfl rfl (p112_0_2 (d := d) ⟨h3, h4, h5, h6⟩) (by omega) <|
  show mm_E _ _ 116 21 _ _ _ _ from
  mm_E.if1 (mm_atc mc116 rfl) (by decide) (ic_neT (by decide)) rfl <|
  mm_E.iconst (mm_atc mc116 rfl) <|
  mm_E.goto (mm_atc mc116 rfl) rfl <|
  mm_E.putI (fi := 0) (z := 2) (mm_atc mc116 rfl) (mm_plc mp116 rfl) ly77 rfl rfl rfl (mm_fit_i rfl) rfl <|
  mm_E.aload_n (mm_atc mc116 rfl) rfl <|
  mm_E.getI (z := 2) (mm_atc mc116 rfl) (mm_plc mp116 rfl) rfl ly77 rfl (mm_u_same) <|
  mm_E.if1 (mm_atc mc116 rfl) (by decide) (ic_eqF (by decide)) rfl <|
  mm_E.iconst (mm_atc mc116 rfl) <|
  mm_E.iret (mm_atc mc116 rfl) mr116 rfl
theorem p116_0_6 {d : Nat} {X : List Value} {A : MF} {x1 x2 x3 : Int} (H : R32 x3 ∧ 0 ≤ x3 ∧ 1000 < x3) : mm_E 1 d 116 0 [(0, .ref 77), (1, mI x1), (2, mI x2), (3, mI x3)] [] (mm_w X A) (.inl (some (mI 0)), mm_w X (mm_u A 77 0 1), 0, 0) := by
  obtain ⟨h0, h1, h2⟩ := H
  exact mm_E.aload_n (mm_atc mc116 rfl) rfl <|
  mm_E.iload_n (mm_atc mc116 rfl) rfl <|
  mm_E.if1 (mm_atc mc116 rfl) h0 (ic_ltF h1) rfl <|
  mm_E.iload_n (mm_atc mc116 rfl) rfl <|
  mm_E.sipush (mm_atc mc116 rfl) rfl <|
  mm_E.if2 (mm_atc mc116 rfl) h0 (by decide) (ic_leF h2) rfl <|
  mm_E.iconst (mm_atc mc116 rfl) <|
  mm_E.goto (mm_atc mc116 rfl) rfl <|
  mm_E.putI (fi := 0) (z := 1) (mm_atc mc116 rfl) (mm_plc mp116 rfl) ly77 rfl rfl rfl (mm_fit_i rfl) rfl <|
  mm_E.aload_n (mm_atc mc116 rfl) rfl <|
  mm_E.getI (z := 1) (mm_atc mc116 rfl) (mm_plc mp116 rfl) rfl ly77 rfl (mm_u_same) <|
  mm_E.if1 (mm_atc mc116 rfl) (by decide) (ic_eqF (by decide)) rfl <|
  mm_E.iconst (mm_atc mc116 rfl) <|
  mm_E.iret (mm_atc mc116 rfl) mr116 rfl
theorem p117_0_0 {d : Nat} {X : List Value} {A : MF} {x1 : Int} (H : R32 x1 ∧ x1 < 0) : mm_E 1 (d + 1) 117 0 [(0, .ref 77), (1, mI x1)] [] (mm_w X A) (.inl (none), mm_w X (mm_u A 77 0 1), 0, 0) := by
  obtain ⟨h0, h1⟩ := H
  exact mm_E.aload_n (mm_atc mc117 rfl) rfl <|
  mm_E.aload_n (mm_atc mc117 rfl) rfl <|
  mm_E.iload_n (mm_atc mc117 rfl) rfl <|
  mm_E.callV0 (mm_atc mc117 rfl) (mm_plc mp117 rfl) rfl mk112 ly77 rfl mx112 rfl rfl (p112_0_0 (d := d) ⟨h0, h1⟩) (by omega) <|
  show mm_E _ _ 117 6 _ _ _ _ from
  mm_E.if1 (mm_atc mc117 rfl) (by decide) (ic_eqF (by decide)) rfl <|
  mm_E.iconst (mm_atc mc117 rfl) <|
  mm_E.goto (mm_atc mc117 rfl) rfl <|
  mm_E.putI (fi := 0) (z := 1) (mm_atc mc117 rfl) (mm_plc mp117 rfl) ly77 rfl rfl rfl (mm_fit_i rfl) rfl <|
  mm_E.aload_n (mm_atc mc117 rfl) rfl <|
  mm_E.getI (z := 1) (mm_atc mc117 rfl) (mm_plc mp117 rfl) rfl ly77 rfl (mm_u_same) <|
  mm_E.if1 (mm_atc mc117 rfl) (by decide) (ic_eqF (by decide)) rfl <|
  mm_E.vret (mm_atc mc117 rfl) mr117
theorem p117_0_1 {d : Nat} {X : List Value} {A : MF} {r : MR} {x1 : Int} {A0 : MF} (s0 : mm_E 1 d 94 0 [(0, .ref 77)] [] (mm_w X (mm_u A 77 0 0)) (.inl (none), mm_w X A0, 0, 0)) (H : R32 x1 ∧ 0 ≤ x1 ∧ R32 (A 77 1) ∧ x1 < A 77 1) (h : mm_E 1 (d + 1) 117 33 [(0, .ref 77), (2, mI x1), (3, mI 0)] [] (mm_w X A0) r) : mm_E 1 (d + 1) 117 0 [(0, .ref 77), (1, mI x1)] [] (mm_w X A) r := by
  obtain ⟨h0, h1, h2, h3⟩ := H
  exact mm_E.aload_n (mm_atc mc117 rfl) rfl <|
  mm_E.aload_n (mm_atc mc117 rfl) rfl <|
  mm_E.iload_n (mm_atc mc117 rfl) rfl <|
  mm_E.callV0 (mm_atc mc117 rfl) (mm_plc mp117 rfl) rfl mk112 ly77 rfl mx112 rfl rfl (p112_0_1 (d := d) ⟨h0, h1, h2, h3⟩) (by omega) <|
  show mm_E _ _ 117 6 _ _ _ _ from
  mm_E.if1 (mm_atc mc117 rfl) (by decide) (ic_eqT (by decide)) rfl <|
  mm_E.iconst (mm_atc mc117 rfl) <|
  mm_E.putI (fi := 0) (z := 0) (mm_atc mc117 rfl) (mm_plc mp117 rfl) ly77 rfl rfl rfl (mm_fit_i rfl) rfl <|
  mm_E.aload_n (mm_atc mc117 rfl) rfl <|
  mm_E.getI (z := 0) (mm_atc mc117 rfl) (mm_plc mp117 rfl) rfl ly77 rfl (mm_u_same) <|
  mm_E.if1 (mm_atc mc117 rfl) (by decide) (ic_eqT (by decide)) rfl <|
  mm_E.aload_n (mm_atc mc117 rfl) rfl <|
  mm_E.callV0 (mm_atc mc117 rfl) (mm_plc mp117 rfl) rfl mk94 ly77 rfl mx94 rfl rfl s0 (by omega) <|
  show mm_E _ _ 117 29 _ _ _ _ from
  mm_E.iload_n (mm_atc mc117 rfl) rfl <|
  mm_E.istore_n mx117 rfl (mm_atc mc117 rfl) <|
  show mm_E _ _ 117 31 [(2, mI x1), (0, .ref 77), (1, mI x1)] _ _ _ from
  mm_E.iconst (mm_atc mc117 rfl) <|
  mm_E.istore_n mx117 rfl (mm_atc mc117 rfl) <|
  show mm_E _ _ 117 33 [(3, mI 0), (2, mI x1), (0, .ref 77), (1, mI x1)] _ _ _ from
  mm_E.to h ⟨rfl, rfl, rfl, trivial⟩
theorem p117_0_2 {d : Nat} {X : List Value} {A : MF} {x1 : Int} (H : R32 x1 ∧ 0 ≤ x1 ∧ R32 (A 77 1) ∧ A 77 1 ≤ x1) : mm_E 1 (d + 1) 117 0 [(0, .ref 77), (1, mI x1)] [] (mm_w X A) (.inl (none), mm_w X (mm_u A 77 0 1), 0, 0) := by
  obtain ⟨h0, h1, h2, h3⟩ := H
  exact mm_E.aload_n (mm_atc mc117 rfl) rfl <|
  mm_E.aload_n (mm_atc mc117 rfl) rfl <|
  mm_E.iload_n (mm_atc mc117 rfl) rfl <|
  mm_E.callV0 (mm_atc mc117 rfl) (mm_plc mp117 rfl) rfl mk112 ly77 rfl mx112 rfl rfl (p112_0_2 (d := d) ⟨h0, h1, h2, h3⟩) (by omega) <|
  show mm_E _ _ 117 6 _ _ _ _ from
  mm_E.if1 (mm_atc mc117 rfl) (by decide) (ic_eqF (by decide)) rfl <|
  mm_E.iconst (mm_atc mc117 rfl) <|
  mm_E.goto (mm_atc mc117 rfl) rfl <|
  mm_E.putI (fi := 0) (z := 1) (mm_atc mc117 rfl) (mm_plc mp117 rfl) ly77 rfl rfl rfl (mm_fit_i rfl) rfl <|
  mm_E.aload_n (mm_atc mc117 rfl) rfl <|
  mm_E.getI (z := 1) (mm_atc mc117 rfl) (mm_plc mp117 rfl) rfl ly77 rfl (mm_u_same) <|
  mm_E.if1 (mm_atc mc117 rfl) (by decide) (ic_eqF (by decide)) rfl <|
  mm_E.vret (mm_atc mc117 rfl) mr117
theorem p117_33_0 {w d : Nat} {X : List Value} {A : MF} {x2 x3 : Int} (H : R32 x3 ∧ R32 (A 77 2) ∧ A 77 2 ≤ x3) : mm_E w d 117 33 [(0, .ref 77), (2, mI x2), (3, mI x3)] [] (mm_w X A) (.inl (none), mm_w X A, 0, 0) := by
  obtain ⟨h0, h1, h2⟩ := H
  exact mm_E.iload_n (mm_atc mc117 rfl) rfl <|
  mm_E.aload_n (mm_atc mc117 rfl) rfl <|
  mm_E.getI (z := A 77 2) (mm_atc mc117 rfl) (mm_plc mp117 rfl) rfl ly77 rfl (rfl) <|
  mm_E.if2 (mm_atc mc117 rfl) h0 h1 (ic_geT h2) rfl <|
  mm_E.vret (mm_atc mc117 rfl) mr117
theorem p117_33_1 {w d : Nat} {X : List Value} {A : MF} {r : MR} {x2 x3 : Int} (H : R32 x3 ∧ R32 (A 77 2) ∧ x3 < A 77 2) (h : mm_E w d 117 47 [(0, .ref 77), (2, mI x2), (3, mI x3), (4, mI (-1)), (5, mI 0)] [] (mm_w X A) r) : mm_E w d 117 33 [(0, .ref 77), (2, mI x2), (3, mI x3)] [] (mm_w X A) r := by
  obtain ⟨h0, h1, h2⟩ := H
  exact mm_E.iload_n (mm_atc mc117 rfl) rfl <|
  mm_E.aload_n (mm_atc mc117 rfl) rfl <|
  mm_E.getI (z := A 77 2) (mm_atc mc117 rfl) (mm_plc mp117 rfl) rfl ly77 rfl (rfl) <|
  mm_E.if2 (mm_atc mc117 rfl) h0 h1 (ic_geF h2) rfl <|
  mm_E.iconst (mm_atc mc117 rfl) <|
  mm_E.istore mx117 rfl (mm_atc mc117 rfl) <|
  show mm_E _ _ 117 44 [(4, mI (-1)), (0, .ref 77), (2, mI x2), (3, mI x3)] _ _ _ from
  mm_E.iconst (mm_atc mc117 rfl) <|
  mm_E.istore mx117 rfl (mm_atc mc117 rfl) <|
  show mm_E _ _ 117 47 [(5, mI 0), (4, mI (-1)), (0, .ref 77), (2, mI x2), (3, mI x3)] _ _ _ from
  mm_E.to h ⟨rfl, rfl, rfl, rfl, rfl, trivial⟩
theorem p117_47_0 {d : Nat} {X : List Value} {A : MF} {r : MR} {x2 x3 x4 x5 : Int} (H : R32 x5 ∧ R32 (A 77 2) ∧ A 77 2 ≤ x5 ∧ 0 ≤ x4 ∧ x4 < 12 ∧ R32 (x2 + 1) ∧ R32 (A 77 1) ∧ 0 ≤ x2 + 1 ∧ 0 < A 77 1) (h : mm_E 1 d 117 33 [(0, .ref 77), (2, mI ((x2 + 1) % (A 77 1))), (3, mI (x3 + 1))] [] (mm_w X (mm_u A 79 x4 x2)) r) : mm_E 1 d 117 47 [(0, .ref 77), (2, mI x2), (3, mI x3), (4, mI x4), (5, mI x5)] [] (mm_w X A) r := by
  obtain ⟨h0, h1, h2, h3, h4, h5, h6, h7, h8⟩ := H
  exact mm_E.iload (mm_atc mc117 rfl) rfl <|
  mm_E.aload_n (mm_atc mc117 rfl) rfl <|
  mm_E.getI (z := A 77 2) (mm_atc mc117 rfl) (mm_plc mp117 rfl) rfl ly77 rfl (rfl) <|
  mm_E.if2 (mm_atc mc117 rfl) h0 h1 (ic_geT h2) rfl <|
  mm_E.aload_n (mm_atc mc117 rfl) rfl <|
  mm_E.getR (b := 79) (mm_atc mc117 rfl) (mm_plc mp117 rfl) rfl ly77 rfl <|
  mm_E.iload (mm_atc mc117 rfl) rfl <|
  mm_E.iload_n (mm_atc mc117 rfl) rfl <|
  mm_E.iastore (e := x4) (z := x2) (mm_atc mc117 rfl) ly79 rfl h3 h4 rfl rfl <|
  mm_E.iload_n (mm_atc mc117 rfl) rfl <|
  mm_E.iconst (mm_atc mc117 rfl) <|
  mm_E.iadd (mm_atc mc117 rfl) <|
  mm_E.aload_n (mm_atc mc117 rfl) rfl <|
  mm_E.getI (z := A 77 1) (mm_atc mc117 rfl) (mm_plc mp117 rfl) rfl ly77 rfl ((mm_u_ne (.inl (by decide))).trans (rfl)) <|
  mm_E.irem h5 h6 h7 h8 (mm_atc mc117 rfl) <|
  mm_E.istore_n mx117 rfl (mm_atc mc117 rfl) <|
  show mm_E _ _ 117 125 [(2, mI ((x2 + 1) % (A 77 1))), (0, .ref 77), (3, mI x3), (4, mI x4), (5, mI x5)] _ _ _ from
  mm_E.inc mx117 rfl (mm_atc mc117 rfl) rfl <|
  show mm_E _ _ 117 128 [(3, mI (x3 + 1)), (2, mI ((x2 + 1) % (A 77 1))), (0, .ref 77), (4, mI x4), (5, mI x5)] _ _ _ from
  mm_E.goto (mm_atc mc117 rfl) rfl <|
  mm_E.to h ⟨rfl, rfl, rfl, trivial⟩
theorem p117_47_1 {w d : Nat} {X : List Value} {A : MF} {r : MR} {x2 x3 x4 x5 : Int} (H : R32 x5 ∧ R32 (A 77 2) ∧ x5 < A 77 2 ∧ 0 ≤ x5 ∧ x5 < 12 ∧ R32 (A 79 x5) ∧ 0 ≤ A 79 x5) (h : mm_E w d 117 47 [(0, .ref 77), (2, mI x2), (3, mI x3), (4, mI x4), (5, mI (x5 + 1))] [] (mm_w X A) r) : mm_E w d 117 47 [(0, .ref 77), (2, mI x2), (3, mI x3), (4, mI x4), (5, mI x5)] [] (mm_w X A) r := by
  obtain ⟨h0, h1, h2, h3, h4, h5, h6⟩ := H
  exact mm_E.iload (mm_atc mc117 rfl) rfl <|
  mm_E.aload_n (mm_atc mc117 rfl) rfl <|
  mm_E.getI (z := A 77 2) (mm_atc mc117 rfl) (mm_plc mp117 rfl) rfl ly77 rfl (rfl) <|
  mm_E.if2 (mm_atc mc117 rfl) h0 h1 (ic_geF h2) rfl <|
  mm_E.aload_n (mm_atc mc117 rfl) rfl <|
  mm_E.getR (b := 79) (mm_atc mc117 rfl) (mm_plc mp117 rfl) rfl ly77 rfl <|
  mm_E.iload (mm_atc mc117 rfl) rfl <|
  mm_E.iaload (e := x5) (mm_atc mc117 rfl) ly79 rfl h3 h4 rfl (rfl) <|
  mm_E.if1 (mm_atc mc117 rfl) h5 (ic_geT h6) rfl <|
  mm_E.inc mx117 rfl (mm_atc mc117 rfl) rfl <|
  show mm_E _ _ 117 105 [(5, mI (x5 + 1)), (0, .ref 77), (2, mI x2), (3, mI x3), (4, mI x4)] _ _ _ from
  mm_E.goto (mm_atc mc117 rfl) rfl <|
  mm_E.to h ⟨rfl, rfl, rfl, rfl, rfl, trivial⟩
theorem p117_47_2 {w d : Nat} {X : List Value} {A : MF} {r : MR} {x2 x3 x4 x5 : Int} (H : R32 x5 ∧ R32 (A 77 2) ∧ x5 < A 77 2 ∧ 0 ≤ x5 ∧ x5 < 12 ∧ R32 (A 79 x5) ∧ A 79 x5 < 0 ∧ R32 x4 ∧ x4 < 0) (h : mm_E w d 117 47 [(0, .ref 77), (2, mI x2), (3, mI x3), (4, mI x5), (5, mI (x5 + 1))] [] (mm_w X A) r) : mm_E w d 117 47 [(0, .ref 77), (2, mI x2), (3, mI x3), (4, mI x4), (5, mI x5)] [] (mm_w X A) r := by
  obtain ⟨h0, h1, h2, h3, h4, h5, h6, h7, h8⟩ := H
  exact mm_E.iload (mm_atc mc117 rfl) rfl <|
  mm_E.aload_n (mm_atc mc117 rfl) rfl <|
  mm_E.getI (z := A 77 2) (mm_atc mc117 rfl) (mm_plc mp117 rfl) rfl ly77 rfl (rfl) <|
  mm_E.if2 (mm_atc mc117 rfl) h0 h1 (ic_geF h2) rfl <|
  mm_E.aload_n (mm_atc mc117 rfl) rfl <|
  mm_E.getR (b := 79) (mm_atc mc117 rfl) (mm_plc mp117 rfl) rfl ly77 rfl <|
  mm_E.iload (mm_atc mc117 rfl) rfl <|
  mm_E.iaload (e := x5) (mm_atc mc117 rfl) ly79 rfl h3 h4 rfl (rfl) <|
  mm_E.if1 (mm_atc mc117 rfl) h5 (ic_geF h6) rfl <|
  mm_E.iload (mm_atc mc117 rfl) rfl <|
  mm_E.if1 (mm_atc mc117 rfl) h7 (ic_ltT h8) rfl <|
  mm_E.iload (mm_atc mc117 rfl) rfl <|
  mm_E.istore mx117 rfl (mm_atc mc117 rfl) <|
  show mm_E _ _ 117 102 [(4, mI x5), (0, .ref 77), (2, mI x2), (3, mI x3), (5, mI x5)] _ _ _ from
  mm_E.inc mx117 rfl (mm_atc mc117 rfl) rfl <|
  show mm_E _ _ 117 105 [(5, mI (x5 + 1)), (4, mI x5), (0, .ref 77), (2, mI x2), (3, mI x3)] _ _ _ from
  mm_E.goto (mm_atc mc117 rfl) rfl <|
  mm_E.to h ⟨rfl, rfl, rfl, rfl, rfl, trivial⟩
theorem p117_47_3 {w d : Nat} {X : List Value} {A : MF} {r : MR} {x2 x3 x4 x5 : Int} (H : R32 x5 ∧ R32 (A 77 2) ∧ x5 < A 77 2 ∧ 0 ≤ x5 ∧ x5 < 12 ∧ R32 (A 79 x5) ∧ A 79 x5 < 0 ∧ R32 x4 ∧ 0 ≤ x4 ∧ 0 ≤ (12 * x2) + x5 ∧ (12 * x2) + x5 < 72 ∧ 0 ≤ (12 * x2) + x4 ∧ (12 * x2) + x4 < 72 ∧ R32 (A 78 ((12 * x2) + x5)) ∧ R32 (A 78 ((12 * x2) + x4)) ∧ A 78 ((12 * x2) + x5) ≤ A 78 ((12 * x2) + x4)) (h : mm_E w d 117 47 [(0, .ref 77), (2, mI x2), (3, mI x3), (4, mI x4), (5, mI (x5 + 1))] [] (mm_w X A) r) : mm_E w d 117 47 [(0, .ref 77), (2, mI x2), (3, mI x3), (4, mI x4), (5, mI x5)] [] (mm_w X A) r := by
  obtain ⟨h0, h1, h2, h3, h4, h5, h6, h7, h8, h9, h10, h11, h12, h13, h14, h15⟩ := H
  exact mm_E.iload (mm_atc mc117 rfl) rfl <|
  mm_E.aload_n (mm_atc mc117 rfl) rfl <|
  mm_E.getI (z := A 77 2) (mm_atc mc117 rfl) (mm_plc mp117 rfl) rfl ly77 rfl (rfl) <|
  mm_E.if2 (mm_atc mc117 rfl) h0 h1 (ic_geF h2) rfl <|
  mm_E.aload_n (mm_atc mc117 rfl) rfl <|
  mm_E.getR (b := 79) (mm_atc mc117 rfl) (mm_plc mp117 rfl) rfl ly77 rfl <|
  mm_E.iload (mm_atc mc117 rfl) rfl <|
  mm_E.iaload (e := x5) (mm_atc mc117 rfl) ly79 rfl h3 h4 rfl (rfl) <|
  mm_E.if1 (mm_atc mc117 rfl) h5 (ic_geF h6) rfl <|
  mm_E.iload (mm_atc mc117 rfl) rfl <|
  mm_E.if1 (mm_atc mc117 rfl) h7 (ic_ltF h8) rfl <|
  mm_E.aload_n (mm_atc mc117 rfl) rfl <|
  mm_E.getR (b := 78) (mm_atc mc117 rfl) (mm_plc mp117 rfl) rfl ly77 rfl <|
  mm_E.bipush (mm_atc mc117 rfl) rfl <|
  mm_E.iload_n (mm_atc mc117 rfl) rfl <|
  mm_E.imul (mm_atc mc117 rfl) <|
  mm_E.iload (mm_atc mc117 rfl) rfl <|
  mm_E.iadd (mm_atc mc117 rfl) <|
  mm_E.iaload (e := (12 * x2) + x5) (mm_atc mc117 rfl) ly78 rfl h9 h10 rfl (rfl) <|
  mm_E.aload_n (mm_atc mc117 rfl) rfl <|
  mm_E.getR (b := 78) (mm_atc mc117 rfl) (mm_plc mp117 rfl) rfl ly77 rfl <|
  mm_E.bipush (mm_atc mc117 rfl) rfl <|
  mm_E.iload_n (mm_atc mc117 rfl) rfl <|
  mm_E.imul (mm_atc mc117 rfl) <|
  mm_E.iload (mm_atc mc117 rfl) rfl <|
  mm_E.iadd (mm_atc mc117 rfl) <|
  mm_E.iaload (e := (12 * x2) + x4) (mm_atc mc117 rfl) ly78 rfl h11 h12 rfl (rfl) <|
  mm_E.if2 (mm_atc mc117 rfl) h13 h14 (ic_leT h15) rfl <|
  mm_E.inc mx117 rfl (mm_atc mc117 rfl) rfl <|
  show mm_E _ _ 117 105 [(5, mI (x5 + 1)), (0, .ref 77), (2, mI x2), (3, mI x3), (4, mI x4)] _ _ _ from
  mm_E.goto (mm_atc mc117 rfl) rfl <|
  mm_E.to h ⟨rfl, rfl, rfl, rfl, rfl, trivial⟩
theorem p117_47_4 {w d : Nat} {X : List Value} {A : MF} {r : MR} {x2 x3 x4 x5 : Int} (H : R32 x5 ∧ R32 (A 77 2) ∧ x5 < A 77 2 ∧ 0 ≤ x5 ∧ x5 < 12 ∧ R32 (A 79 x5) ∧ A 79 x5 < 0 ∧ R32 x4 ∧ 0 ≤ x4 ∧ 0 ≤ (12 * x2) + x5 ∧ (12 * x2) + x5 < 72 ∧ 0 ≤ (12 * x2) + x4 ∧ (12 * x2) + x4 < 72 ∧ R32 (A 78 ((12 * x2) + x5)) ∧ R32 (A 78 ((12 * x2) + x4)) ∧ A 78 ((12 * x2) + x4) < A 78 ((12 * x2) + x5)) (h : mm_E w d 117 47 [(0, .ref 77), (2, mI x2), (3, mI x3), (4, mI x5), (5, mI (x5 + 1))] [] (mm_w X A) r) : mm_E w d 117 47 [(0, .ref 77), (2, mI x2), (3, mI x3), (4, mI x4), (5, mI x5)] [] (mm_w X A) r := by
  obtain ⟨h0, h1, h2, h3, h4, h5, h6, h7, h8, h9, h10, h11, h12, h13, h14, h15⟩ := H
  exact mm_E.iload (mm_atc mc117 rfl) rfl <|
  mm_E.aload_n (mm_atc mc117 rfl) rfl <|
  mm_E.getI (z := A 77 2) (mm_atc mc117 rfl) (mm_plc mp117 rfl) rfl ly77 rfl (rfl) <|
  mm_E.if2 (mm_atc mc117 rfl) h0 h1 (ic_geF h2) rfl <|
  mm_E.aload_n (mm_atc mc117 rfl) rfl <|
  mm_E.getR (b := 79) (mm_atc mc117 rfl) (mm_plc mp117 rfl) rfl ly77 rfl <|
  mm_E.iload (mm_atc mc117 rfl) rfl <|
  mm_E.iaload (e := x5) (mm_atc mc117 rfl) ly79 rfl h3 h4 rfl (rfl) <|
  mm_E.if1 (mm_atc mc117 rfl) h5 (ic_geF h6) rfl <|
  mm_E.iload (mm_atc mc117 rfl) rfl <|
  mm_E.if1 (mm_atc mc117 rfl) h7 (ic_ltF h8) rfl <|
  mm_E.aload_n (mm_atc mc117 rfl) rfl <|
  mm_E.getR (b := 78) (mm_atc mc117 rfl) (mm_plc mp117 rfl) rfl ly77 rfl <|
  mm_E.bipush (mm_atc mc117 rfl) rfl <|
  mm_E.iload_n (mm_atc mc117 rfl) rfl <|
  mm_E.imul (mm_atc mc117 rfl) <|
  mm_E.iload (mm_atc mc117 rfl) rfl <|
  mm_E.iadd (mm_atc mc117 rfl) <|
  mm_E.iaload (e := (12 * x2) + x5) (mm_atc mc117 rfl) ly78 rfl h9 h10 rfl (rfl) <|
  mm_E.aload_n (mm_atc mc117 rfl) rfl <|
  mm_E.getR (b := 78) (mm_atc mc117 rfl) (mm_plc mp117 rfl) rfl ly77 rfl <|
  mm_E.bipush (mm_atc mc117 rfl) rfl <|
  mm_E.iload_n (mm_atc mc117 rfl) rfl <|
  mm_E.imul (mm_atc mc117 rfl) <|
  mm_E.iload (mm_atc mc117 rfl) rfl <|
  mm_E.iadd (mm_atc mc117 rfl) <|
  mm_E.iaload (e := (12 * x2) + x4) (mm_atc mc117 rfl) ly78 rfl h11 h12 rfl (rfl) <|
  mm_E.if2 (mm_atc mc117 rfl) h13 h14 (ic_leF h15) rfl <|
  mm_E.iload (mm_atc mc117 rfl) rfl <|
  mm_E.istore mx117 rfl (mm_atc mc117 rfl) <|
  show mm_E _ _ 117 102 [(4, mI x5), (0, .ref 77), (2, mI x2), (3, mI x3), (5, mI x5)] _ _ _ from
  mm_E.inc mx117 rfl (mm_atc mc117 rfl) rfl <|
  show mm_E _ _ 117 105 [(5, mI (x5 + 1)), (4, mI x5), (0, .ref 77), (2, mI x2), (3, mI x3)] _ _ _ from
  mm_E.goto (mm_atc mc117 rfl) rfl <|
  mm_E.to h ⟨rfl, rfl, rfl, rfl, rfl, trivial⟩
theorem p118_0_0 {d : Nat} {X : List Value} {A : MF} {r : MR} {A0 : MF} (s0 : mm_E 1 d 94 0 [(0, .ref 77)] [] (mm_w X (mm_u A 77 0 0)) (.inl (none), mm_w X A0, 0, 0)) (h : mm_E 1 (d + 1) 118 13 [(0, .ref 77), (1, mI 0), (2, mI 0)] [] (mm_w X A0) r) : mm_E 1 (d + 1) 118 0 [(0, .ref 77)] [] (mm_w X A) r := by
  exact mm_E.aload_n (mm_atc mc118 rfl) rfl <|
  mm_E.iconst (mm_atc mc118 rfl) <|
  mm_E.putI (fi := 0) (z := 0) (mm_atc mc118 rfl) (mm_plc mp118 rfl) ly77 rfl rfl rfl (mm_fit_i rfl) rfl <|
  mm_E.aload_n (mm_atc mc118 rfl) rfl <|
  mm_E.callV0 (mm_atc mc118 rfl) (mm_plc mp118 rfl) rfl mk94 ly77 rfl mx94 rfl rfl s0 (by omega) <|
  show mm_E _ _ 118 9 _ _ _ _ from
  mm_E.iconst (mm_atc mc118 rfl) <|
  mm_E.istore_n mx118 rfl (mm_atc mc118 rfl) <|
  show mm_E _ _ 118 11 [(1, mI 0), (0, .ref 77)] _ _ _ from
  mm_E.iconst (mm_atc mc118 rfl) <|
  mm_E.istore_n mx118 rfl (mm_atc mc118 rfl) <|
  show mm_E _ _ 118 13 [(2, mI 0), (1, mI 0), (0, .ref 77)] _ _ _ from
  mm_E.to h ⟨rfl, rfl, rfl, trivial⟩
theorem p118_13_0 {w d : Nat} {X : List Value} {A : MF} {x1 x2 : Int} (H : R32 x2 ∧ R32 (A 77 2) ∧ A 77 2 ≤ x2) : mm_E w d 118 13 [(0, .ref 77), (1, mI x1), (2, mI x2)] [] (mm_w X A) (.inl (some (mI x1)), mm_w X A, 0, 0) := by
  obtain ⟨h0, h1, h2⟩ := H
  exact mm_E.iload_n (mm_atc mc118 rfl) rfl <|
  mm_E.aload_n (mm_atc mc118 rfl) rfl <|
  mm_E.getI (z := A 77 2) (mm_atc mc118 rfl) (mm_plc mp118 rfl) rfl ly77 rfl (rfl) <|
  mm_E.if2 (mm_atc mc118 rfl) h0 h1 (ic_geT h2) rfl <|
  mm_E.iload_n (mm_atc mc118 rfl) rfl <|
  mm_E.iret (mm_atc mc118 rfl) mr118 rfl
theorem p118_13_1 {w d : Nat} {X : List Value} {A : MF} {r : MR} {x1 x2 z0 : Int} (s0 : mm_E w d 95 0 [(0, .ref 77)] [] (mm_w X A) (.inl (some (mI z0)), mm_w X A, 0, 0)) (H : R32 x2 ∧ R32 (A 77 2) ∧ x2 < A 77 2) (h : mm_E w (d + 1) 118 26 [(0, .ref 77), (1, mI x1), (2, mI x2), (3, mI z0)] [] (mm_w X A) r) : mm_E w (d + 1) 118 13 [(0, .ref 77), (1, mI x1), (2, mI x2)] [] (mm_w X A) r := by
  obtain ⟨h0, h1, h2⟩ := H
  exact mm_E.iload_n (mm_atc mc118 rfl) rfl <|
  mm_E.aload_n (mm_atc mc118 rfl) rfl <|
  mm_E.getI (z := A 77 2) (mm_atc mc118 rfl) (mm_plc mp118 rfl) rfl ly77 rfl (rfl) <|
  mm_E.if2 (mm_atc mc118 rfl) h0 h1 (ic_geF h2) rfl <|
  mm_E.aload_n (mm_atc mc118 rfl) rfl <|
  mm_E.callV0 (mm_atc mc118 rfl) (mm_plc mp118 rfl) rfl mk95 ly77 rfl mx95 rfl rfl s0 (by omega) <|
  show mm_E _ _ 118 25 _ _ _ _ from
  mm_E.istore_n mx118 rfl (mm_atc mc118 rfl) <|
  show mm_E _ _ 118 26 [(3, mI z0), (0, .ref 77), (1, mI x1), (2, mI x2)] _ _ _ from
  mm_E.to h ⟨rfl, rfl, rfl, rfl, trivial⟩
theorem p118_26_0 {d : Nat} {X : List Value} {A : MF} {r : MR} {x1 x2 x3 : Int} (H : R32 x3 ∧ 0 ≤ x3 ∧ 0 ≤ x2 ∧ x2 < 12) (h : mm_E 1 d 118 13 [(0, .ref 77), (1, mI x1), (2, mI (x2 + 1))] [] (mm_w X (mm_u A 79 x2 x3)) r) : mm_E 1 d 118 26 [(0, .ref 77), (1, mI x1), (2, mI x2), (3, mI x3)] [] (mm_w X A) r := by
  obtain ⟨h0, h1, h2, h3⟩ := H
  exact mm_E.iload_n (mm_atc mc118 rfl) rfl <|
  mm_E.if1 (mm_atc mc118 rfl) h0 (ic_geT h1) rfl <|
  mm_E.aload_n (mm_atc mc118 rfl) rfl <|
  mm_E.getR (b := 79) (mm_atc mc118 rfl) (mm_plc mp118 rfl) rfl ly77 rfl <|
  mm_E.iload_n (mm_atc mc118 rfl) rfl <|
  mm_E.iload_n (mm_atc mc118 rfl) rfl <|
  mm_E.iastore (e := x2) (z := x3) (mm_atc mc118 rfl) ly79 rfl h2 h3 rfl rfl <|
  mm_E.inc mx118 rfl (mm_atc mc118 rfl) rfl <|
  show mm_E _ _ 118 55 [(2, mI (x2 + 1)), (0, .ref 77), (1, mI x1), (3, mI x3)] _ _ _ from
  mm_E.goto (mm_atc mc118 rfl) rfl <|
  mm_E.to h ⟨rfl, rfl, rfl, trivial⟩
theorem p118_26_1 {d : Nat} {X : List Value} {A : MF} {r : MR} {x1 x2 x3 z1 : Int} {A0 : MF} (s0 : mm_E 1 d 96 0 [(0, .ref 77)] [] (mm_w X A) (.inl (none), mm_w X A0, 0, 0)) (s1 : mm_E 1 d 95 0 [(0, .ref 77)] [] (mm_w X A0) (.inl (some (mI z1)), mm_w X A0, 0, 0)) (H : R32 x3 ∧ x3 < 0) (h : mm_E 1 (d + 1) 118 26 [(0, .ref 77), (1, mI (x1 + 1)), (2, mI x2), (3, mI z1)] [] (mm_w X A0) r) : mm_E 1 (d + 1) 118 26 [(0, .ref 77), (1, mI x1), (2, mI x2), (3, mI x3)] [] (mm_w X A) r := by
  obtain ⟨h0, h1⟩ := H
  exact mm_E.iload_n (mm_atc mc118 rfl) rfl <|
  mm_E.if1 (mm_atc mc118 rfl) h0 (ic_geF h1) rfl <|
  mm_E.aload_n (mm_atc mc118 rfl) rfl <|
  mm_E.callV0 (mm_atc mc118 rfl) (mm_plc mp118 rfl) rfl mk96 ly77 rfl mx96 rfl rfl s0 (by omega) <|
  show mm_E _ _ 118 34 _ _ _ _ from
  mm_E.inc mx118 rfl (mm_atc mc118 rfl) rfl <|
  show mm_E _ _ 118 37 [(1, mI (x1 + 1)), (0, .ref 77), (2, mI x2), (3, mI x3)] _ _ _ from
  mm_E.aload_n (mm_atc mc118 rfl) rfl <|
  mm_E.callV0 (mm_atc mc118 rfl) (mm_plc mp118 rfl) rfl mk95 ly77 rfl mx95 rfl rfl s1 (by omega) <|
  show mm_E _ _ 118 41 _ _ _ _ from
  mm_E.istore_n mx118 rfl (mm_atc mc118 rfl) <|
  show mm_E _ _ 118 42 [(3, mI z1), (1, mI (x1 + 1)), (0, .ref 77), (2, mI x2)] _ _ _ from
  mm_E.goto (mm_atc mc118 rfl) rfl <|
  mm_E.to h ⟨rfl, rfl, rfl, rfl, trivial⟩
theorem p119_0_0 {d : Nat} {X : List Value} {A : MF} {r : MR} {z0 : Int} (s0 : mm_E 1 d 97 0 [(0, .ref 77)] [] (mm_w X A) (.inl (some (mI z0)), mm_w X A, 0, 0)) (H : R32 z0 ∧ z0 ≤ 65536) (h : mm_E 1 (d + 1) 119 39 [(0, .ref 77), (1, mI z0), (2, mI (-1)), (3, mJ 0), (5, mI 0), (6, mI 0)] [] (mm_w X (mm_u A 77 0 0)) r) : mm_E 1 (d + 1) 119 0 [(0, .ref 77)] [] (mm_w X A) r := by
  obtain ⟨h0, h1⟩ := H
  exact mm_E.aload_n (mm_atc mc119 rfl) rfl <|
  mm_E.callV0 (mm_atc mc119 rfl) (mm_plc mp119 rfl) rfl mk97 ly77 rfl mx97 rfl rfl s0 (by omega) <|
  show mm_E _ _ 119 4 _ _ _ _ from
  mm_E.istore_n mx119 rfl (mm_atc mc119 rfl) <|
  show mm_E _ _ 119 5 [(1, mI z0), (0, .ref 77)] _ _ _ from
  mm_E.aload_n (mm_atc mc119 rfl) rfl <|
  mm_E.iload_n (mm_atc mc119 rfl) rfl <|
  mm_E.ldc (mm_atc mc119 rfl) (mm_plc mp119 rfl) <|
  mm_E.if2 (mm_atc mc119 rfl) h0 (by decide) (ic_leT h1) rfl <|
  mm_E.iconst (mm_atc mc119 rfl) <|
  mm_E.putI (fi := 0) (z := 0) (mm_atc mc119 rfl) (mm_plc mp119 rfl) ly77 rfl rfl rfl (mm_fit_i rfl) rfl <|
  mm_E.aload_n (mm_atc mc119 rfl) rfl <|
  mm_E.getI (z := 0) (mm_atc mc119 rfl) (mm_plc mp119 rfl) rfl ly77 rfl (mm_u_same) <|
  mm_E.if1 (mm_atc mc119 rfl) (by decide) (ic_eqT (by decide)) rfl <|
  mm_E.iconst (mm_atc mc119 rfl) <|
  mm_E.istore_n mx119 rfl (mm_atc mc119 rfl) <|
  show mm_E _ _ 119 31 [(2, mI (-1)), (1, mI z0), (0, .ref 77)] _ _ _ from
  mm_E.lconst (z := 0) (mm_atc mc119 rfl) rfl <|
  mm_E.lstore_n mx119 rfl (mm_atc mc119 rfl) <|
  show mm_E _ _ 119 33 [(3, mJ 0), (2, mI (-1)), (1, mI z0), (0, .ref 77)] _ _ _ from
  mm_E.iconst (mm_atc mc119 rfl) <|
  mm_E.istore mx119 rfl (mm_atc mc119 rfl) <|
  show mm_E _ _ 119 36 [(5, mI 0), (3, mJ 0), (2, mI (-1)), (1, mI z0), (0, .ref 77)] _ _ _ from
  mm_E.iconst (mm_atc mc119 rfl) <|
  mm_E.istore mx119 rfl (mm_atc mc119 rfl) <|
  show mm_E _ _ 119 39 [(6, mI 0), (5, mI 0), (3, mJ 0), (2, mI (-1)), (1, mI z0), (0, .ref 77)] _ _ _ from
  mm_E.to h ⟨rfl, rfl, rfl, rfl, rfl, rfl, trivial⟩
theorem p119_0_1 {d : Nat} {X : List Value} {A : MF} {z0 : Int} (s0 : mm_E 1 d 97 0 [(0, .ref 77)] [] (mm_w X A) (.inl (some (mI z0)), mm_w X A, 0, 0)) (H : R32 z0 ∧ 65536 < z0) : mm_E 1 (d + 1) 119 0 [(0, .ref 77)] [] (mm_w X A) (.inl (some (mJ 0)), mm_w X (mm_u A 77 0 1), 0, 0) := by
  obtain ⟨h0, h1⟩ := H
  exact mm_E.aload_n (mm_atc mc119 rfl) rfl <|
  mm_E.callV0 (mm_atc mc119 rfl) (mm_plc mp119 rfl) rfl mk97 ly77 rfl mx97 rfl rfl s0 (by omega) <|
  show mm_E _ _ 119 4 _ _ _ _ from
  mm_E.istore_n mx119 rfl (mm_atc mc119 rfl) <|
  show mm_E _ _ 119 5 [(1, mI z0), (0, .ref 77)] _ _ _ from
  mm_E.aload_n (mm_atc mc119 rfl) rfl <|
  mm_E.iload_n (mm_atc mc119 rfl) rfl <|
  mm_E.ldc (mm_atc mc119 rfl) (mm_plc mp119 rfl) <|
  mm_E.if2 (mm_atc mc119 rfl) h0 (by decide) (ic_leF h1) rfl <|
  mm_E.iconst (mm_atc mc119 rfl) <|
  mm_E.goto (mm_atc mc119 rfl) rfl <|
  mm_E.putI (fi := 0) (z := 1) (mm_atc mc119 rfl) (mm_plc mp119 rfl) ly77 rfl rfl rfl (mm_fit_i rfl) rfl <|
  mm_E.aload_n (mm_atc mc119 rfl) rfl <|
  mm_E.getI (z := 1) (mm_atc mc119 rfl) (mm_plc mp119 rfl) rfl ly77 rfl (mm_u_same) <|
  mm_E.if1 (mm_atc mc119 rfl) (by decide) (ic_eqF (by decide)) rfl <|
  mm_E.lconst (z := 0) (mm_atc mc119 rfl) rfl <|
  mm_E.lret (mm_atc mc119 rfl) mr119
theorem p119_39_0 {d : Nat} {X : List Value} {A : MF} {r : MR} {x1 x2 y3 x5 x6 : Int} {A0 : MF} (s0 : mm_E 1 d 98 0 [(0, .ref 77), (1, mI x5)] [] (mm_w X A) (.inl (none), mm_w X A0, 0, 0)) (H : R32 x6 ∧ R32 x1 ∧ x1 ≤ x6) (h : mm_E 1 (d + 1) 119 232 [(0, .ref 77), (3, mJ y3), (6, mI 0)] [] (mm_w X A0) r) : mm_E 1 (d + 1) 119 39 [(0, .ref 77), (1, mI x1), (2, mI x2), (3, mJ y3), (5, mI x5), (6, mI x6)] [] (mm_w X A) r := by
  obtain ⟨h0, h1, h2⟩ := H
  exact mm_E.iload (mm_atc mc119 rfl) rfl <|
  mm_E.iload_n (mm_atc mc119 rfl) rfl <|
  mm_E.if2 (mm_atc mc119 rfl) h0 h1 (ic_geT h2) rfl <|
  mm_E.aload_n (mm_atc mc119 rfl) rfl <|
  mm_E.iload (mm_atc mc119 rfl) rfl <|
  mm_E.callV0 (mm_atc mc119 rfl) (mm_plc mp119 rfl) rfl mk98 ly77 rfl mx98 rfl rfl s0 (by omega) <|
  show mm_E _ _ 119 229 _ _ _ _ from
  mm_E.iconst (mm_atc mc119 rfl) <|
  mm_E.istore mx119 rfl (mm_atc mc119 rfl) <|
  show mm_E _ _ 119 232 [(6, mI 0), (0, .ref 77), (1, mI x1), (2, mI x2), (3, mJ y3), (5, mI x5)] _ _ _ from
  mm_E.to h ⟨rfl, rfl, rfl, trivial⟩
theorem p119_39_1 {d : Nat} {X : List Value} {A : MF} {r : MR} {x1 x2 y3 x5 x6 : Int} {A0 : MF} (s0 : mm_E 1 d 98 0 [(0, .ref 77), (1, mI x6)] [] (mm_w X A) (.inl (none), mm_w X A0, 0, 0)) (H : R32 x6 ∧ R32 x1 ∧ x6 < x1) (h : mm_E 1 (d + 1) 119 54 [(0, .ref 77), (1, mI x1), (2, mI x2), (3, mJ y3), (5, mI x5), (6, mI x6), (7, mI 0)] [] (mm_w X A0) r) : mm_E 1 (d + 1) 119 39 [(0, .ref 77), (1, mI x1), (2, mI x2), (3, mJ y3), (5, mI x5), (6, mI x6)] [] (mm_w X A) r := by
  obtain ⟨h0, h1, h2⟩ := H
  exact mm_E.iload (mm_atc mc119 rfl) rfl <|
  mm_E.iload_n (mm_atc mc119 rfl) rfl <|
  mm_E.if2 (mm_atc mc119 rfl) h0 h1 (ic_geF h2) rfl <|
  mm_E.aload_n (mm_atc mc119 rfl) rfl <|
  mm_E.iload (mm_atc mc119 rfl) rfl <|
  mm_E.callV0 (mm_atc mc119 rfl) (mm_plc mp119 rfl) rfl mk98 ly77 rfl mx98 rfl rfl s0 (by omega) <|
  show mm_E _ _ 119 51 _ _ _ _ from
  mm_E.iconst (mm_atc mc119 rfl) <|
  mm_E.istore mx119 rfl (mm_atc mc119 rfl) <|
  show mm_E _ _ 119 54 [(7, mI 0), (0, .ref 77), (1, mI x1), (2, mI x2), (3, mJ y3), (5, mI x5), (6, mI x6)] _ _ _ from
  mm_E.to h ⟨rfl, rfl, rfl, rfl, rfl, rfl, rfl, trivial⟩
theorem p119_232_0 {w d : Nat} {X : List Value} {A : MF} {y3 x6 : Int} (H : R32 x6 ∧ R32 (A 77 2) ∧ A 77 2 ≤ x6) : mm_E w d 119 232 [(0, .ref 77), (3, mJ y3), (6, mI x6)] [] (mm_w X A) (.inl (some (mJ y3)), mm_w X A, 0, 0) := by
  obtain ⟨h0, h1, h2⟩ := H
  exact mm_E.iload (mm_atc mc119 rfl) rfl <|
  mm_E.aload_n (mm_atc mc119 rfl) rfl <|
  mm_E.getI (z := A 77 2) (mm_atc mc119 rfl) (mm_plc mp119 rfl) rfl ly77 rfl (rfl) <|
  mm_E.if2 (mm_atc mc119 rfl) h0 h1 (ic_geT h2) rfl <|
  mm_E.lload_n (mm_atc mc119 rfl) rfl <|
  mm_E.lret (mm_atc mc119 rfl) mr119
theorem p119_232_1 {d : Nat} {X : List Value} {A : MF} {r : MR} {y3 x6 : Int} (H : R32 x6 ∧ R32 (A 77 2) ∧ x6 < A 77 2 ∧ 0 ≤ x6 ∧ x6 < 12) (h : mm_E 1 d 119 232 [(0, .ref 77), (3, mJ y3), (6, mI (x6 + 1))] [] (mm_w X (mm_u A 79 x6 (A 80 x6))) r) : mm_E 1 d 119 232 [(0, .ref 77), (3, mJ y3), (6, mI x6)] [] (mm_w X A) r := by
  obtain ⟨h0, h1, h2, h3, h4⟩ := H
  exact mm_E.iload (mm_atc mc119 rfl) rfl <|
  mm_E.aload_n (mm_atc mc119 rfl) rfl <|
  mm_E.getI (z := A 77 2) (mm_atc mc119 rfl) (mm_plc mp119 rfl) rfl ly77 rfl (rfl) <|
  mm_E.if2 (mm_atc mc119 rfl) h0 h1 (ic_geF h2) rfl <|
  mm_E.aload_n (mm_atc mc119 rfl) rfl <|
  mm_E.getR (b := 79) (mm_atc mc119 rfl) (mm_plc mp119 rfl) rfl ly77 rfl <|
  mm_E.iload (mm_atc mc119 rfl) rfl <|
  mm_E.aload_n (mm_atc mc119 rfl) rfl <|
  mm_E.getR (b := 80) (mm_atc mc119 rfl) (mm_plc mp119 rfl) rfl ly77 rfl <|
  mm_E.iload (mm_atc mc119 rfl) rfl <|
  mm_E.iaload (e := x6) (mm_atc mc119 rfl) ly80 rfl h3 h4 rfl (rfl) <|
  mm_E.iastore (e := x6) (z := A 80 x6) (mm_atc mc119 rfl) ly79 rfl h3 h4 rfl rfl <|
  mm_E.inc mx119 rfl (mm_atc mc119 rfl) rfl <|
  show mm_E _ _ 119 258 [(6, mI (x6 + 1)), (0, .ref 77), (3, mJ y3)] _ _ _ from
  mm_E.goto (mm_atc mc119 rfl) rfl <|
  mm_E.to h ⟨rfl, rfl, rfl, trivial⟩
theorem p119_54_0 {w d : Nat} {X : List Value} {A : MF} {r : MR} {x1 x2 y3 x5 x6 x7 : Int} (H : R32 x7 ∧ R32 (A 77 1) ∧ A 77 1 ≤ x7) (h : mm_E w d 119 80 [(0, .ref 77), (1, mI x1), (2, mI x2), (3, mJ y3), (5, mI x5), (6, mI x6), (7, mI 0)] [] (mm_w X A) r) : mm_E w d 119 54 [(0, .ref 77), (1, mI x1), (2, mI x2), (3, mJ y3), (5, mI x5), (6, mI x6), (7, mI x7)] [] (mm_w X A) r := by
  obtain ⟨h0, h1, h2⟩ := H
  exact mm_E.iload (mm_atc mc119 rfl) rfl <|
  mm_E.aload_n (mm_atc mc119 rfl) rfl <|
  mm_E.getI (z := A 77 1) (mm_atc mc119 rfl) (mm_plc mp119 rfl) rfl ly77 rfl (rfl) <|
  mm_E.if2 (mm_atc mc119 rfl) h0 h1 (ic_geT h2) rfl <|
  mm_E.iconst (mm_atc mc119 rfl) <|
  mm_E.istore mx119 rfl (mm_atc mc119 rfl) <|
  show mm_E _ _ 119 80 [(7, mI 0), (0, .ref 77), (1, mI x1), (2, mI x2), (3, mJ y3), (5, mI x5), (6, mI x6)] _ _ _ from
  mm_E.to h ⟨rfl, rfl, rfl, rfl, rfl, rfl, rfl, trivial⟩
theorem p119_54_1 {d : Nat} {X : List Value} {A : MF} {r : MR} {x1 x2 y3 x5 x6 x7 : Int} (H : R32 x7 ∧ R32 (A 77 1) ∧ x7 < A 77 1 ∧ 0 ≤ x7 ∧ x7 < 6) (h : mm_E 1 d 119 54 [(0, .ref 77), (1, mI x1), (2, mI x2), (3, mJ y3), (5, mI x5), (6, mI x6), (7, mI (x7 + 1))] [] (mm_w X (mm_u A 81 x7 0)) r) : mm_E 1 d 119 54 [(0, .ref 77), (1, mI x1), (2, mI x2), (3, mJ y3), (5, mI x5), (6, mI x6), (7, mI x7)] [] (mm_w X A) r := by
  obtain ⟨h0, h1, h2, h3, h4⟩ := H
  exact mm_E.iload (mm_atc mc119 rfl) rfl <|
  mm_E.aload_n (mm_atc mc119 rfl) rfl <|
  mm_E.getI (z := A 77 1) (mm_atc mc119 rfl) (mm_plc mp119 rfl) rfl ly77 rfl (rfl) <|
  mm_E.if2 (mm_atc mc119 rfl) h0 h1 (ic_geF h2) rfl <|
  mm_E.aload_n (mm_atc mc119 rfl) rfl <|
  mm_E.getR (b := 81) (mm_atc mc119 rfl) (mm_plc mp119 rfl) rfl ly77 rfl <|
  mm_E.iload (mm_atc mc119 rfl) rfl <|
  mm_E.iconst (mm_atc mc119 rfl) <|
  mm_E.iastore (e := x7) (z := 0) (mm_atc mc119 rfl) ly81 rfl h3 h4 rfl rfl <|
  mm_E.inc mx119 rfl (mm_atc mc119 rfl) rfl <|
  show mm_E _ _ 119 74 [(7, mI (x7 + 1)), (0, .ref 77), (1, mI x1), (2, mI x2), (3, mJ y3), (5, mI x5), (6, mI x6)] _ _ _ from
  mm_E.goto (mm_atc mc119 rfl) rfl <|
  mm_E.to h ⟨rfl, rfl, rfl, rfl, rfl, rfl, rfl, trivial⟩
theorem p119_80_0 {w d : Nat} {X : List Value} {A : MF} {r : MR} {x1 x2 y3 x5 x6 x7 : Int} (H : R32 x7 ∧ R32 (A 77 2) ∧ A 77 2 ≤ x7) (h : mm_E w d 119 147 [(0, .ref 77), (1, mI x1), (2, mI x2), (3, mJ y3), (5, mI x5), (6, mI x6), (7, mI 0), (8, mJ 1), (10, mI 0)] [] (mm_w X A) r) : mm_E w d 119 80 [(0, .ref 77), (1, mI x1), (2, mI x2), (3, mJ y3), (5, mI x5), (6, mI x6), (7, mI x7)] [] (mm_w X A) r := by
  obtain ⟨h0, h1, h2⟩ := H
  exact mm_E.iload (mm_atc mc119 rfl) rfl <|
  mm_E.aload_n (mm_atc mc119 rfl) rfl <|
  mm_E.getI (z := A 77 2) (mm_atc mc119 rfl) (mm_plc mp119 rfl) rfl ly77 rfl (rfl) <|
  mm_E.if2 (mm_atc mc119 rfl) h0 h1 (ic_geT h2) rfl <|
  mm_E.iconst (mm_atc mc119 rfl) <|
  mm_E.istore mx119 rfl (mm_atc mc119 rfl) <|
  show mm_E _ _ 119 141 [(7, mI 0), (0, .ref 77), (1, mI x1), (2, mI x2), (3, mJ y3), (5, mI x5), (6, mI x6)] _ _ _ from
  mm_E.lconst (z := 1) (mm_atc mc119 rfl) rfl <|
  mm_E.lstore mx119 rfl (mm_atc mc119 rfl) <|
  show mm_E _ _ 119 144 [(8, mJ 1), (7, mI 0), (0, .ref 77), (1, mI x1), (2, mI x2), (3, mJ y3), (5, mI x5), (6, mI x6)] _ _ _ from
  mm_E.iconst (mm_atc mc119 rfl) <|
  mm_E.istore mx119 rfl (mm_atc mc119 rfl) <|
  show mm_E _ _ 119 147 [(10, mI 0), (8, mJ 1), (7, mI 0), (0, .ref 77), (1, mI x1), (2, mI x2), (3, mJ y3), (5, mI x5), (6, mI x6)] _ _ _ from
  mm_E.to h ⟨rfl, rfl, rfl, rfl, rfl, rfl, rfl, rfl, rfl, trivial⟩
theorem p119_80_1 {d : Nat} {X : List Value} {A : MF} {r : MR} {x1 x2 y3 x5 x6 x7 : Int} (H : R32 x7 ∧ R32 (A 77 2) ∧ x7 < A 77 2 ∧ 0 ≤ x7 ∧ x7 < 12 ∧ 0 ≤ A 80 x7 ∧ A 80 x7 < 6 ∧ 0 ≤ (12 * (A 80 x7)) + x7 ∧ (12 * (A 80 x7)) + x7 < 72) (h : mm_E 1 d 119 80 [(0, .ref 77), (1, mI x1), (2, mI x2), (3, mJ y3), (5, mI x5), (6, mI x6), (7, mI (x7 + 1))] [] (mm_w X (mm_u A 81 (A 80 x7) ((A 81 (A 80 x7)) + (A 78 ((12 * (A 80 x7)) + x7))))) r) : mm_E 1 d 119 80 [(0, .ref 77), (1, mI x1), (2, mI x2), (3, mJ y3), (5, mI x5), (6, mI x6), (7, mI x7)] [] (mm_w X A) r := by
  obtain ⟨h0, h1, h2, h3, h4, h5, h6, h7, h8⟩ := H
  exact mm_E.iload (mm_atc mc119 rfl) rfl <|
  mm_E.aload_n (mm_atc mc119 rfl) rfl <|
  mm_E.getI (z := A 77 2) (mm_atc mc119 rfl) (mm_plc mp119 rfl) rfl ly77 rfl (rfl) <|
  mm_E.if2 (mm_atc mc119 rfl) h0 h1 (ic_geF h2) rfl <|
  mm_E.aload_n (mm_atc mc119 rfl) rfl <|
  mm_E.getR (b := 81) (mm_atc mc119 rfl) (mm_plc mp119 rfl) rfl ly77 rfl <|
  mm_E.aload_n (mm_atc mc119 rfl) rfl <|
  mm_E.getR (b := 80) (mm_atc mc119 rfl) (mm_plc mp119 rfl) rfl ly77 rfl <|
  mm_E.iload (mm_atc mc119 rfl) rfl <|
  mm_E.iaload (e := x7) (mm_atc mc119 rfl) ly80 rfl h3 h4 rfl (rfl) <|
  mm_E.aload_n (mm_atc mc119 rfl) rfl <|
  mm_E.getR (b := 81) (mm_atc mc119 rfl) (mm_plc mp119 rfl) rfl ly77 rfl <|
  mm_E.aload_n (mm_atc mc119 rfl) rfl <|
  mm_E.getR (b := 80) (mm_atc mc119 rfl) (mm_plc mp119 rfl) rfl ly77 rfl <|
  mm_E.iload (mm_atc mc119 rfl) rfl <|
  mm_E.iaload (e := x7) (mm_atc mc119 rfl) ly80 rfl h3 h4 rfl (rfl) <|
  mm_E.iaload (e := A 80 x7) (mm_atc mc119 rfl) ly81 rfl h5 h6 rfl (rfl) <|
  mm_E.aload_n (mm_atc mc119 rfl) rfl <|
  mm_E.getR (b := 78) (mm_atc mc119 rfl) (mm_plc mp119 rfl) rfl ly77 rfl <|
  mm_E.bipush (mm_atc mc119 rfl) rfl <|
  mm_E.aload_n (mm_atc mc119 rfl) rfl <|
  mm_E.getR (b := 80) (mm_atc mc119 rfl) (mm_plc mp119 rfl) rfl ly77 rfl <|
  mm_E.iload (mm_atc mc119 rfl) rfl <|
  mm_E.iaload (e := x7) (mm_atc mc119 rfl) ly80 rfl h3 h4 rfl (rfl) <|
  mm_E.imul (mm_atc mc119 rfl) <|
  mm_E.iload (mm_atc mc119 rfl) rfl <|
  mm_E.iadd (mm_atc mc119 rfl) <|
  mm_E.iaload (e := (12 * (A 80 x7)) + x7) (mm_atc mc119 rfl) ly78 rfl h7 h8 rfl (rfl) <|
  mm_E.iadd (mm_atc mc119 rfl) <|
  mm_E.iastore (e := A 80 x7) (z := (A 81 (A 80 x7)) + (A 78 ((12 * (A 80 x7)) + x7))) (mm_atc mc119 rfl) ly81 rfl h5 h6 rfl rfl <|
  mm_E.inc mx119 rfl (mm_atc mc119 rfl) rfl <|
  show mm_E _ _ 119 135 [(7, mI (x7 + 1)), (0, .ref 77), (1, mI x1), (2, mI x2), (3, mJ y3), (5, mI x5), (6, mI x6)] _ _ _ from
  mm_E.goto (mm_atc mc119 rfl) rfl <|
  mm_E.to h ⟨rfl, rfl, rfl, rfl, rfl, rfl, rfl, trivial⟩
theorem p119_147_0 {w d : Nat} {X : List Value} {A : MF} {r : MR} {x1 x2 y3 x5 x6 x7 y8 x10 : Int} (H : R32 x10 ∧ R32 (A 77 1) ∧ A 77 1 ≤ x10 ∧ R32 x7 ∧ R32 x2 ∧ x2 < x7) (h : mm_E w d 119 39 [(0, .ref 77), (1, mI x1), (2, mI x7), (3, mJ y8), (5, mI x6), (6, mI (x6 + 1))] [] (mm_w X A) r) : mm_E w d 119 147 [(0, .ref 77), (1, mI x1), (2, mI x2), (3, mJ y3), (5, mI x5), (6, mI x6), (7, mI x7), (8, mJ y8), (10, mI x10)] [] (mm_w X A) r := by
  obtain ⟨h0, h1, h2, h3, h4, h5⟩ := H
  exact mm_E.iload (mm_atc mc119 rfl) rfl <|
  mm_E.aload_n (mm_atc mc119 rfl) rfl <|
  mm_E.getI (z := A 77 1) (mm_atc mc119 rfl) (mm_plc mp119 rfl) rfl ly77 rfl (rfl) <|
  mm_E.if2 (mm_atc mc119 rfl) h0 h1 (ic_geT h2) rfl <|
  mm_E.iload (mm_atc mc119 rfl) rfl <|
  mm_E.iload_n (mm_atc mc119 rfl) rfl <|
  mm_E.if2 (mm_atc mc119 rfl) h3 h4 (ic_gtT h5) rfl <|
  mm_E.iload (mm_atc mc119 rfl) rfl <|
  mm_E.istore_n mx119 rfl (mm_atc mc119 rfl) <|
  show mm_E _ _ 119 210 [(2, mI x7), (0, .ref 77), (1, mI x1), (3, mJ y3), (5, mI x5), (6, mI x6), (7, mI x7), (8, mJ y8), (10, mI x10)] _ _ _ from
  mm_E.lload (mm_atc mc119 rfl) rfl <|
  mm_E.lstore_n mx119 rfl (mm_atc mc119 rfl) <|
  show mm_E _ _ 119 213 [(3, mJ y8), (2, mI x7), (0, .ref 77), (1, mI x1), (5, mI x5), (6, mI x6), (7, mI x7), (8, mJ y8), (10, mI x10)] _ _ _ from
  mm_E.iload (mm_atc mc119 rfl) rfl <|
  mm_E.istore mx119 rfl (mm_atc mc119 rfl) <|
  show mm_E _ _ 119 217 [(5, mI x6), (3, mJ y8), (2, mI x7), (0, .ref 77), (1, mI x1), (6, mI x6), (7, mI x7), (8, mJ y8), (10, mI x10)] _ _ _ from
  mm_E.inc mx119 rfl (mm_atc mc119 rfl) rfl <|
  show mm_E _ _ 119 220 [(6, mI (x6 + 1)), (5, mI x6), (3, mJ y8), (2, mI x7), (0, .ref 77), (1, mI x1), (7, mI x7), (8, mJ y8), (10, mI x10)] _ _ _ from
  mm_E.goto (mm_atc mc119 rfl) rfl <|
  mm_E.to h ⟨rfl, rfl, rfl, rfl, rfl, rfl, trivial⟩
theorem p119_147_1 {w d : Nat} {X : List Value} {A : MF} {r : MR} {x1 x2 y3 x5 x6 x7 y8 x10 : Int} (H : R32 x10 ∧ R32 (A 77 1) ∧ A 77 1 ≤ x10 ∧ R32 x7 ∧ R32 x2 ∧ x7 ≤ x2 ∧ x7 ≠ x2) (h : mm_E w d 119 39 [(0, .ref 77), (1, mI x1), (2, mI x2), (3, mJ y3), (5, mI x5), (6, mI (x6 + 1))] [] (mm_w X A) r) : mm_E w d 119 147 [(0, .ref 77), (1, mI x1), (2, mI x2), (3, mJ y3), (5, mI x5), (6, mI x6), (7, mI x7), (8, mJ y8), (10, mI x10)] [] (mm_w X A) r := by
  obtain ⟨h0, h1, h2, h3, h4, h5, h6⟩ := H
  exact mm_E.iload (mm_atc mc119 rfl) rfl <|
  mm_E.aload_n (mm_atc mc119 rfl) rfl <|
  mm_E.getI (z := A 77 1) (mm_atc mc119 rfl) (mm_plc mp119 rfl) rfl ly77 rfl (rfl) <|
  mm_E.if2 (mm_atc mc119 rfl) h0 h1 (ic_geT h2) rfl <|
  mm_E.iload (mm_atc mc119 rfl) rfl <|
  mm_E.iload_n (mm_atc mc119 rfl) rfl <|
  mm_E.if2 (mm_atc mc119 rfl) h3 h4 (ic_gtF h5) rfl <|
  mm_E.iload (mm_atc mc119 rfl) rfl <|
  mm_E.iload_n (mm_atc mc119 rfl) rfl <|
  mm_E.if2 (mm_atc mc119 rfl) h3 h4 (ic_neT h6) rfl <|
  mm_E.inc mx119 rfl (mm_atc mc119 rfl) rfl <|
  show mm_E _ _ 119 220 [(6, mI (x6 + 1)), (0, .ref 77), (1, mI x1), (2, mI x2), (3, mJ y3), (5, mI x5), (7, mI x7), (8, mJ y8), (10, mI x10)] _ _ _ from
  mm_E.goto (mm_atc mc119 rfl) rfl <|
  mm_E.to h ⟨rfl, rfl, rfl, rfl, rfl, rfl, trivial⟩
theorem p119_147_2 {w d : Nat} {X : List Value} {A : MF} {r : MR} {x1 x2 y3 x5 x6 x7 y8 x10 : Int} (H : R32 x10 ∧ R32 (A 77 1) ∧ A 77 1 ≤ x10 ∧ R32 x7 ∧ R32 x2 ∧ x7 ≤ x2 ∧ x7 = x2 ∧ R64 y8 ∧ R64 y3 ∧ y8 ≤ y3) (h : mm_E w d 119 39 [(0, .ref 77), (1, mI x1), (2, mI x2), (3, mJ y3), (5, mI x5), (6, mI (x6 + 1))] [] (mm_w X A) r) : mm_E w d 119 147 [(0, .ref 77), (1, mI x1), (2, mI x2), (3, mJ y3), (5, mI x5), (6, mI x6), (7, mI x7), (8, mJ y8), (10, mI x10)] [] (mm_w X A) r := by
  obtain ⟨h0, h1, h2, h3, h4, h5, h6, h7, h8, h9⟩ := H
  exact mm_E.iload (mm_atc mc119 rfl) rfl <|
  mm_E.aload_n (mm_atc mc119 rfl) rfl <|
  mm_E.getI (z := A 77 1) (mm_atc mc119 rfl) (mm_plc mp119 rfl) rfl ly77 rfl (rfl) <|
  mm_E.if2 (mm_atc mc119 rfl) h0 h1 (ic_geT h2) rfl <|
  mm_E.iload (mm_atc mc119 rfl) rfl <|
  mm_E.iload_n (mm_atc mc119 rfl) rfl <|
  mm_E.if2 (mm_atc mc119 rfl) h3 h4 (ic_gtF h5) rfl <|
  mm_E.iload (mm_atc mc119 rfl) rfl <|
  mm_E.iload_n (mm_atc mc119 rfl) rfl <|
  mm_E.if2 (mm_atc mc119 rfl) h3 h4 (ic_neF h6) rfl <|
  mm_E.lload (mm_atc mc119 rfl) rfl <|
  mm_E.lload_n (mm_atc mc119 rfl) rfl <|
  mm_E.lif (mm_atc mc119 rfl) (mm_atc mc119 rfl) h7 h8 (ic_leT h9) rfl <|
  mm_E.inc mx119 rfl (mm_atc mc119 rfl) rfl <|
  show mm_E _ _ 119 220 [(6, mI (x6 + 1)), (0, .ref 77), (1, mI x1), (2, mI x2), (3, mJ y3), (5, mI x5), (7, mI x7), (8, mJ y8), (10, mI x10)] _ _ _ from
  mm_E.goto (mm_atc mc119 rfl) rfl <|
  mm_E.to h ⟨rfl, rfl, rfl, rfl, rfl, rfl, trivial⟩
theorem p119_147_3 {w d : Nat} {X : List Value} {A : MF} {r : MR} {x1 x2 y3 x5 x6 x7 y8 x10 : Int} (H : R32 x10 ∧ R32 (A 77 1) ∧ A 77 1 ≤ x10 ∧ R32 x7 ∧ R32 x2 ∧ x7 ≤ x2 ∧ x7 = x2 ∧ R64 y8 ∧ R64 y3 ∧ y3 < y8) (h : mm_E w d 119 39 [(0, .ref 77), (1, mI x1), (2, mI x7), (3, mJ y8), (5, mI x6), (6, mI (x6 + 1))] [] (mm_w X A) r) : mm_E w d 119 147 [(0, .ref 77), (1, mI x1), (2, mI x2), (3, mJ y3), (5, mI x5), (6, mI x6), (7, mI x7), (8, mJ y8), (10, mI x10)] [] (mm_w X A) r := by
  obtain ⟨h0, h1, h2, h3, h4, h5, h6, h7, h8, h9⟩ := H
  exact mm_E.iload (mm_atc mc119 rfl) rfl <|
  mm_E.aload_n (mm_atc mc119 rfl) rfl <|
  mm_E.getI (z := A 77 1) (mm_atc mc119 rfl) (mm_plc mp119 rfl) rfl ly77 rfl (rfl) <|
  mm_E.if2 (mm_atc mc119 rfl) h0 h1 (ic_geT h2) rfl <|
  mm_E.iload (mm_atc mc119 rfl) rfl <|
  mm_E.iload_n (mm_atc mc119 rfl) rfl <|
  mm_E.if2 (mm_atc mc119 rfl) h3 h4 (ic_gtF h5) rfl <|
  mm_E.iload (mm_atc mc119 rfl) rfl <|
  mm_E.iload_n (mm_atc mc119 rfl) rfl <|
  mm_E.if2 (mm_atc mc119 rfl) h3 h4 (ic_neF h6) rfl <|
  mm_E.lload (mm_atc mc119 rfl) rfl <|
  mm_E.lload_n (mm_atc mc119 rfl) rfl <|
  mm_E.lif (mm_atc mc119 rfl) (mm_atc mc119 rfl) h7 h8 (ic_leF h9) rfl <|
  mm_E.iload (mm_atc mc119 rfl) rfl <|
  mm_E.istore_n mx119 rfl (mm_atc mc119 rfl) <|
  show mm_E _ _ 119 210 [(2, mI x7), (0, .ref 77), (1, mI x1), (3, mJ y3), (5, mI x5), (6, mI x6), (7, mI x7), (8, mJ y8), (10, mI x10)] _ _ _ from
  mm_E.lload (mm_atc mc119 rfl) rfl <|
  mm_E.lstore_n mx119 rfl (mm_atc mc119 rfl) <|
  show mm_E _ _ 119 213 [(3, mJ y8), (2, mI x7), (0, .ref 77), (1, mI x1), (5, mI x5), (6, mI x6), (7, mI x7), (8, mJ y8), (10, mI x10)] _ _ _ from
  mm_E.iload (mm_atc mc119 rfl) rfl <|
  mm_E.istore mx119 rfl (mm_atc mc119 rfl) <|
  show mm_E _ _ 119 217 [(5, mI x6), (3, mJ y8), (2, mI x7), (0, .ref 77), (1, mI x1), (6, mI x6), (7, mI x7), (8, mJ y8), (10, mI x10)] _ _ _ from
  mm_E.inc mx119 rfl (mm_atc mc119 rfl) rfl <|
  show mm_E _ _ 119 220 [(6, mI (x6 + 1)), (5, mI x6), (3, mJ y8), (2, mI x7), (0, .ref 77), (1, mI x1), (7, mI x7), (8, mJ y8), (10, mI x10)] _ _ _ from
  mm_E.goto (mm_atc mc119 rfl) rfl <|
  mm_E.to h ⟨rfl, rfl, rfl, rfl, rfl, rfl, trivial⟩
theorem p119_147_4 {w d : Nat} {X : List Value} {A : MF} {r : MR} {x1 x2 y3 x5 x6 x7 y8 x10 : Int} (H : R32 x10 ∧ R32 (A 77 1) ∧ x10 < A 77 1 ∧ 0 ≤ x10 ∧ x10 < 6 ∧ R32 (A 81 x10) ∧ A 81 x10 ≤ 0) (h : mm_E w d 119 147 [(0, .ref 77), (1, mI x1), (2, mI x2), (3, mJ y3), (5, mI x5), (6, mI x6), (7, mI x7), (8, mJ y8), (10, mI (x10 + 1))] [] (mm_w X A) r) : mm_E w d 119 147 [(0, .ref 77), (1, mI x1), (2, mI x2), (3, mJ y3), (5, mI x5), (6, mI x6), (7, mI x7), (8, mJ y8), (10, mI x10)] [] (mm_w X A) r := by
  obtain ⟨h0, h1, h2, h3, h4, h5, h6⟩ := H
  exact mm_E.iload (mm_atc mc119 rfl) rfl <|
  mm_E.aload_n (mm_atc mc119 rfl) rfl <|
  mm_E.getI (z := A 77 1) (mm_atc mc119 rfl) (mm_plc mp119 rfl) rfl ly77 rfl (rfl) <|
  mm_E.if2 (mm_atc mc119 rfl) h0 h1 (ic_geF h2) rfl <|
  mm_E.aload_n (mm_atc mc119 rfl) rfl <|
  mm_E.getR (b := 81) (mm_atc mc119 rfl) (mm_plc mp119 rfl) rfl ly77 rfl <|
  mm_E.iload (mm_atc mc119 rfl) rfl <|
  mm_E.iaload (e := x10) (mm_atc mc119 rfl) ly81 rfl h3 h4 rfl (rfl) <|
  mm_E.if1 (mm_atc mc119 rfl) h5 (ic_leT h6) rfl <|
  mm_E.inc mx119 rfl (mm_atc mc119 rfl) rfl <|
  show mm_E _ _ 119 185 [(10, mI (x10 + 1)), (0, .ref 77), (1, mI x1), (2, mI x2), (3, mJ y3), (5, mI x5), (6, mI x6), (7, mI x7), (8, mJ y8)] _ _ _ from
  mm_E.goto (mm_atc mc119 rfl) rfl <|
  mm_E.to h ⟨rfl, rfl, rfl, rfl, rfl, rfl, rfl, rfl, rfl, trivial⟩
theorem p119_147_5 {w d : Nat} {X : List Value} {A : MF} {r : MR} {x1 x2 y3 x5 x6 x7 y8 x10 : Int} (H : R32 x10 ∧ R32 (A 77 1) ∧ x10 < A 77 1 ∧ 0 ≤ x10 ∧ x10 < 6 ∧ R32 (A 81 x10) ∧ 0 < A 81 x10) (h : mm_E w d 119 147 [(0, .ref 77), (1, mI x1), (2, mI x2), (3, mJ y3), (5, mI x5), (6, mI x6), (7, mI (x7 + 1)), (8, mJ (y8 * (A 81 x10))), (10, mI (x10 + 1))] [] (mm_w X A) r) : mm_E w d 119 147 [(0, .ref 77), (1, mI x1), (2, mI x2), (3, mJ y3), (5, mI x5), (6, mI x6), (7, mI x7), (8, mJ y8), (10, mI x10)] [] (mm_w X A) r := by
  obtain ⟨h0, h1, h2, h3, h4, h5, h6⟩ := H
  exact mm_E.iload (mm_atc mc119 rfl) rfl <|
  mm_E.aload_n (mm_atc mc119 rfl) rfl <|
  mm_E.getI (z := A 77 1) (mm_atc mc119 rfl) (mm_plc mp119 rfl) rfl ly77 rfl (rfl) <|
  mm_E.if2 (mm_atc mc119 rfl) h0 h1 (ic_geF h2) rfl <|
  mm_E.aload_n (mm_atc mc119 rfl) rfl <|
  mm_E.getR (b := 81) (mm_atc mc119 rfl) (mm_plc mp119 rfl) rfl ly77 rfl <|
  mm_E.iload (mm_atc mc119 rfl) rfl <|
  mm_E.iaload (e := x10) (mm_atc mc119 rfl) ly81 rfl h3 h4 rfl (rfl) <|
  mm_E.if1 (mm_atc mc119 rfl) h5 (ic_leF h6) rfl <|
  mm_E.inc mx119 rfl (mm_atc mc119 rfl) rfl <|
  show mm_E _ _ 119 169 [(7, mI (x7 + 1)), (0, .ref 77), (1, mI x1), (2, mI x2), (3, mJ y3), (5, mI x5), (6, mI x6), (8, mJ y8), (10, mI x10)] _ _ _ from
  mm_E.lload (mm_atc mc119 rfl) rfl <|
  mm_E.aload_n (mm_atc mc119 rfl) rfl <|
  mm_E.getR (b := 81) (mm_atc mc119 rfl) (mm_plc mp119 rfl) rfl ly77 rfl <|
  mm_E.iload (mm_atc mc119 rfl) rfl <|
  mm_E.iaload (e := x10) (mm_atc mc119 rfl) ly81 rfl h3 h4 rfl (rfl) <|
  mm_E.i2l h5 (mm_atc mc119 rfl) <|
  mm_E.lmul (mm_atc mc119 rfl) <|
  mm_E.lstore mx119 rfl (mm_atc mc119 rfl) <|
  show mm_E _ _ 119 182 [(8, mJ (y8 * (A 81 x10))), (7, mI (x7 + 1)), (0, .ref 77), (1, mI x1), (2, mI x2), (3, mJ y3), (5, mI x5), (6, mI x6), (10, mI x10)] _ _ _ from
  mm_E.inc mx119 rfl (mm_atc mc119 rfl) rfl <|
  show mm_E _ _ 119 185 [(10, mI (x10 + 1)), (8, mJ (y8 * (A 81 x10))), (7, mI (x7 + 1)), (0, .ref 77), (1, mI x1), (2, mI x2), (3, mJ y3), (5, mI x5), (6, mI x6)] _ _ _ from
  mm_E.goto (mm_atc mc119 rfl) rfl <|
  mm_E.to h ⟨rfl, rfl, rfl, rfl, rfl, rfl, rfl, rfl, rfl, trivial⟩
theorem p120_0_0 {d : Nat} {X : List Value} {A : MF} {x1 x2 : Int} (H : R32 x1 ∧ x1 < 0) : mm_E 1 (d + 1) 120 0 [(0, .ref 77), (1, mI x1), (2, mI x2)] [] (mm_w X A) (.inl (some (mI 0)), mm_w X (mm_u A 77 0 1), 0, 0) := by
  obtain ⟨h0, h1⟩ := H
  exact mm_E.aload_n (mm_atc mc120 rfl) rfl <|
  mm_E.aload_n (mm_atc mc120 rfl) rfl <|
  mm_E.iload_n (mm_atc mc120 rfl) rfl <|
  mm_E.callV0 (mm_atc mc120 rfl) (mm_plc mp120 rfl) rfl mk113 ly77 rfl mx113 rfl rfl (p113_0_0 (d := d) ⟨h0, h1⟩) (by omega) <|
  show mm_E _ _ 120 6 _ _ _ _ from
  mm_E.if1 (mm_atc mc120 rfl) (by decide) (ic_neT (by decide)) rfl <|
  mm_E.iconst (mm_atc mc120 rfl) <|
  mm_E.goto (mm_atc mc120 rfl) rfl <|
  mm_E.putI (fi := 0) (z := 1) (mm_atc mc120 rfl) (mm_plc mp120 rfl) ly77 rfl rfl rfl (mm_fit_i rfl) rfl <|
  mm_E.aload_n (mm_atc mc120 rfl) rfl <|
  mm_E.getI (z := 1) (mm_atc mc120 rfl) (mm_plc mp120 rfl) rfl ly77 rfl (mm_u_same) <|
  mm_E.if1 (mm_atc mc120 rfl) (by decide) (ic_eqF (by decide)) rfl <|
  mm_E.iconst (mm_atc mc120 rfl) <|
  mm_E.iret (mm_atc mc120 rfl) mr120 rfl
theorem p120_0_1 {d : Nat} {X : List Value} {A : MF} {x1 x2 : Int} (H : R32 x1 ∧ 0 ≤ x1 ∧ R32 (A 77 2) ∧ x1 < A 77 2 ∧ R32 x2 ∧ x2 = (-1) ∧ x1 < 12) : mm_E 1 (d + 1) 120 0 [(0, .ref 77), (1, mI x1), (2, mI x2)] [] (mm_w X A) (.inl (some (mI (A 79 x1))), mm_w X (mm_u (mm_u A 77 0 0) 79 x1 x2), 0, 0) := by
  obtain ⟨h0, h1, h2, h3, h4, h5, h6⟩ := H
  exact mm_E.aload_n (mm_atc mc120 rfl) rfl <|
  mm_E.aload_n (mm_atc mc120 rfl) rfl <|
  mm_E.iload_n (mm_atc mc120 rfl) rfl <|
  mm_E.callV0 (mm_atc mc120 rfl) (mm_plc mp120 rfl) rfl mk113 ly77 rfl mx113 rfl rfl (p113_0_1 (d := d) ⟨h0, h1, h2, h3⟩) (by omega) <|
  show mm_E _ _ 120 6 _ _ _ _ from
  mm_E.if1 (mm_atc mc120 rfl) (by decide) (ic_neF (by decide)) rfl <|
  mm_E.iload_n (mm_atc mc120 rfl) rfl <|
  mm_E.iconst (mm_atc mc120 rfl) <|
  mm_E.if2 (mm_atc mc120 rfl) h4 (by decide) (ic_eqT h5) rfl <|
  mm_E.iconst (mm_atc mc120 rfl) <|
  mm_E.putI (fi := 0) (z := 0) (mm_atc mc120 rfl) (mm_plc mp120 rfl) ly77 rfl rfl rfl (mm_fit_i rfl) rfl <|
  mm_E.aload_n (mm_atc mc120 rfl) rfl <|
  mm_E.getI (z := 0) (mm_atc mc120 rfl) (mm_plc mp120 rfl) rfl ly77 rfl (mm_u_same) <|
  mm_E.if1 (mm_atc mc120 rfl) (by decide) (ic_eqT (by decide)) rfl <|
  mm_E.aload_n (mm_atc mc120 rfl) rfl <|
  mm_E.getR (b := 79) (mm_atc mc120 rfl) (mm_plc mp120 rfl) rfl ly77 rfl <|
  mm_E.iload_n (mm_atc mc120 rfl) rfl <|
  mm_E.iaload (e := x1) (mm_atc mc120 rfl) ly79 rfl h1 h6 rfl ((mm_u_ne (.inl (by decide))).trans (rfl)) <|
  mm_E.istore_n mx120 rfl (mm_atc mc120 rfl) <|
  show mm_E _ _ 120 46 [(3, mI (A 79 x1)), (0, .ref 77), (1, mI x1), (2, mI x2)] _ _ _ from
  mm_E.aload_n (mm_atc mc120 rfl) rfl <|
  mm_E.getR (b := 79) (mm_atc mc120 rfl) (mm_plc mp120 rfl) rfl ly77 rfl <|
  mm_E.iload_n (mm_atc mc120 rfl) rfl <|
  mm_E.iload_n (mm_atc mc120 rfl) rfl <|
  mm_E.iastore (e := x1) (z := x2) (mm_atc mc120 rfl) ly79 rfl h1 h6 rfl rfl <|
  mm_E.iload_n (mm_atc mc120 rfl) rfl <|
  mm_E.iret (mm_atc mc120 rfl) mr120 rfl
theorem p120_0_2 {d : Nat} {X : List Value} {A : MF} {x1 x2 : Int} (H : R32 x1 ∧ 0 ≤ x1 ∧ R32 (A 77 2) ∧ x1 < A 77 2 ∧ R32 x2 ∧ x2 ≠ (-1) ∧ x2 < 0) : mm_E 1 (d + 1) 120 0 [(0, .ref 77), (1, mI x1), (2, mI x2)] [] (mm_w X A) (.inl (some (mI 0)), mm_w X (mm_u A 77 0 1), 0, 0) := by
  obtain ⟨h0, h1, h2, h3, h4, h5, h6⟩ := H
  exact mm_E.aload_n (mm_atc mc120 rfl) rfl <|
  mm_E.aload_n (mm_atc mc120 rfl) rfl <|
  mm_E.iload_n (mm_atc mc120 rfl) rfl <|
  mm_E.callV0 (mm_atc mc120 rfl) (mm_plc mp120 rfl) rfl mk113 ly77 rfl mx113 rfl rfl (p113_0_1 (d := d) ⟨h0, h1, h2, h3⟩) (by omega) <|
  show mm_E _ _ 120 6 _ _ _ _ from
  mm_E.if1 (mm_atc mc120 rfl) (by decide) (ic_neF (by decide)) rfl <|
  mm_E.iload_n (mm_atc mc120 rfl) rfl <|
  mm_E.iconst (mm_atc mc120 rfl) <|
  mm_E.if2 (mm_atc mc120 rfl) h4 (by decide) (ic_eqF h5) rfl <|
  mm_E.aload_n (mm_atc mc120 rfl) rfl <|
  mm_E.iload_n (mm_atc mc120 rfl) rfl <|
  mm_E.callV0 (mm_atc mc120 rfl) (mm_plc mp120 rfl) rfl mk112 ly77 rfl mx112 rfl rfl (p112_0_0 (d := d) ⟨h4, h6⟩) (by omega) <|
  show mm_E _ _ 120 19 _ _ _ _ from
  mm_E.if1 (mm_atc mc120 rfl) (by decide) (ic_eqF (by decide)) rfl <|
  mm_E.iconst (mm_atc mc120 rfl) <|
  mm_E.goto (mm_atc mc120 rfl) rfl <|
  mm_E.putI (fi := 0) (z := 1) (mm_atc mc120 rfl) (mm_plc mp120 rfl) ly77 rfl rfl rfl (mm_fit_i rfl) rfl <|
  mm_E.aload_n (mm_atc mc120 rfl) rfl <|
  mm_E.getI (z := 1) (mm_atc mc120 rfl) (mm_plc mp120 rfl) rfl ly77 rfl (mm_u_same) <|
  mm_E.if1 (mm_atc mc120 rfl) (by decide) (ic_eqF (by decide)) rfl <|
  mm_E.iconst (mm_atc mc120 rfl) <|
  mm_E.iret (mm_atc mc120 rfl) mr120 rfl
theorem p120_0_3 {d : Nat} {X : List Value} {A : MF} {x1 x2 : Int} (H : R32 x1 ∧ 0 ≤ x1 ∧ R32 (A 77 2) ∧ x1 < A 77 2 ∧ R32 x2 ∧ x2 ≠ (-1) ∧ 0 ≤ x2 ∧ R32 (A 77 1) ∧ x2 < A 77 1 ∧ x1 < 12) : mm_E 1 (d + 1) 120 0 [(0, .ref 77), (1, mI x1), (2, mI x2)] [] (mm_w X A) (.inl (some (mI (A 79 x1))), mm_w X (mm_u (mm_u A 77 0 0) 79 x1 x2), 0, 0) := by
  obtain ⟨h0, h1, h2, h3, h4, h5, h6, h7, h8, h9⟩ := H
  exact mm_E.aload_n (mm_atc mc120 rfl) rfl <|
  mm_E.aload_n (mm_atc mc120 rfl) rfl <|
  mm_E.iload_n (mm_atc mc120 rfl) rfl <|
  mm_E.callV0 (mm_atc mc120 rfl) (mm_plc mp120 rfl) rfl mk113 ly77 rfl mx113 rfl rfl (p113_0_1 (d := d) ⟨h0, h1, h2, h3⟩) (by omega) <|
  show mm_E _ _ 120 6 _ _ _ _ from
  mm_E.if1 (mm_atc mc120 rfl) (by decide) (ic_neF (by decide)) rfl <|
  mm_E.iload_n (mm_atc mc120 rfl) rfl <|
  mm_E.iconst (mm_atc mc120 rfl) <|
  mm_E.if2 (mm_atc mc120 rfl) h4 (by decide) (ic_eqF h5) rfl <|
  mm_E.aload_n (mm_atc mc120 rfl) rfl <|
  mm_E.iload_n (mm_atc mc120 rfl) rfl <|
  mm_E.callV0 (mm_atc mc120 rfl) (mm_plc mp120 rfl) rfl mk112 ly77 rfl mx112 rfl rfl (p112_0_1 (d := d) ⟨h4, h6, h7, h8⟩) (by omega) <|
  show mm_E _ _ 120 19 _ _ _ _ from
  mm_E.if1 (mm_atc mc120 rfl) (by decide) (ic_eqT (by decide)) rfl <|
  mm_E.iconst (mm_atc mc120 rfl) <|
  mm_E.putI (fi := 0) (z := 0) (mm_atc mc120 rfl) (mm_plc mp120 rfl) ly77 rfl rfl rfl (mm_fit_i rfl) rfl <|
  mm_E.aload_n (mm_atc mc120 rfl) rfl <|
  mm_E.getI (z := 0) (mm_atc mc120 rfl) (mm_plc mp120 rfl) rfl ly77 rfl (mm_u_same) <|
  mm_E.if1 (mm_atc mc120 rfl) (by decide) (ic_eqT (by decide)) rfl <|
  mm_E.aload_n (mm_atc mc120 rfl) rfl <|
  mm_E.getR (b := 79) (mm_atc mc120 rfl) (mm_plc mp120 rfl) rfl ly77 rfl <|
  mm_E.iload_n (mm_atc mc120 rfl) rfl <|
  mm_E.iaload (e := x1) (mm_atc mc120 rfl) ly79 rfl h1 h9 rfl ((mm_u_ne (.inl (by decide))).trans (rfl)) <|
  mm_E.istore_n mx120 rfl (mm_atc mc120 rfl) <|
  show mm_E _ _ 120 46 [(3, mI (A 79 x1)), (0, .ref 77), (1, mI x1), (2, mI x2)] _ _ _ from
  mm_E.aload_n (mm_atc mc120 rfl) rfl <|
  mm_E.getR (b := 79) (mm_atc mc120 rfl) (mm_plc mp120 rfl) rfl ly77 rfl <|
  mm_E.iload_n (mm_atc mc120 rfl) rfl <|
  mm_E.iload_n (mm_atc mc120 rfl) rfl <|
  mm_E.iastore (e := x1) (z := x2) (mm_atc mc120 rfl) ly79 rfl h1 h9 rfl rfl <|
  mm_E.iload_n (mm_atc mc120 rfl) rfl <|
  mm_E.iret (mm_atc mc120 rfl) mr120 rfl
theorem p120_0_4 {d : Nat} {X : List Value} {A : MF} {x1 x2 : Int} (H : R32 x1 ∧ 0 ≤ x1 ∧ R32 (A 77 2) ∧ x1 < A 77 2 ∧ R32 x2 ∧ x2 ≠ (-1) ∧ 0 ≤ x2 ∧ R32 (A 77 1) ∧ A 77 1 ≤ x2) : mm_E 1 (d + 1) 120 0 [(0, .ref 77), (1, mI x1), (2, mI x2)] [] (mm_w X A) (.inl (some (mI 0)), mm_w X (mm_u A 77 0 1), 0, 0) := by
  obtain ⟨h0, h1, h2, h3, h4, h5, h6, h7, h8⟩ := H
  exact mm_E.aload_n (mm_atc mc120 rfl) rfl <|
  mm_E.aload_n (mm_atc mc120 rfl) rfl <|
  mm_E.iload_n (mm_atc mc120 rfl) rfl <|
  mm_E.callV0 (mm_atc mc120 rfl) (mm_plc mp120 rfl) rfl mk113 ly77 rfl mx113 rfl rfl (p113_0_1 (d := d) ⟨h0, h1, h2, h3⟩) (by omega) <|
  show mm_E _ _ 120 6 _ _ _ _ from
  mm_E.if1 (mm_atc mc120 rfl) (by decide) (ic_neF (by decide)) rfl <|
  mm_E.iload_n (mm_atc mc120 rfl) rfl <|
  mm_E.iconst (mm_atc mc120 rfl) <|
  mm_E.if2 (mm_atc mc120 rfl) h4 (by decide) (ic_eqF h5) rfl <|
  mm_E.aload_n (mm_atc mc120 rfl) rfl <|
  mm_E.iload_n (mm_atc mc120 rfl) rfl <|
  mm_E.callV0 (mm_atc mc120 rfl) (mm_plc mp120 rfl) rfl mk112 ly77 rfl mx112 rfl rfl (p112_0_2 (d := d) ⟨h4, h6, h7, h8⟩) (by omega) <|
  show mm_E _ _ 120 19 _ _ _ _ from
  mm_E.if1 (mm_atc mc120 rfl) (by decide) (ic_eqF (by decide)) rfl <|
  mm_E.iconst (mm_atc mc120 rfl) <|
  mm_E.goto (mm_atc mc120 rfl) rfl <|
  mm_E.putI (fi := 0) (z := 1) (mm_atc mc120 rfl) (mm_plc mp120 rfl) ly77 rfl rfl rfl (mm_fit_i rfl) rfl <|
  mm_E.aload_n (mm_atc mc120 rfl) rfl <|
  mm_E.getI (z := 1) (mm_atc mc120 rfl) (mm_plc mp120 rfl) rfl ly77 rfl (mm_u_same) <|
  mm_E.if1 (mm_atc mc120 rfl) (by decide) (ic_eqF (by decide)) rfl <|
  mm_E.iconst (mm_atc mc120 rfl) <|
  mm_E.iret (mm_atc mc120 rfl) mr120 rfl
theorem p120_0_5 {d : Nat} {X : List Value} {A : MF} {x1 x2 : Int} (H : R32 x1 ∧ 0 ≤ x1 ∧ R32 (A 77 2) ∧ A 77 2 ≤ x1) : mm_E 1 (d + 1) 120 0 [(0, .ref 77), (1, mI x1), (2, mI x2)] [] (mm_w X A) (.inl (some (mI 0)), mm_w X (mm_u A 77 0 1), 0, 0) := by
  obtain ⟨h0, h1, h2, h3⟩ := H
  exact mm_E.aload_n (mm_atc mc120 rfl) rfl <|
  mm_E.aload_n (mm_atc mc120 rfl) rfl <|
  mm_E.iload_n (mm_atc mc120 rfl) rfl <|
  mm_E.callV0 (mm_atc mc120 rfl) (mm_plc mp120 rfl) rfl mk113 ly77 rfl mx113 rfl rfl (p113_0_2 (d := d) ⟨h0, h1, h2, h3⟩) (by omega) <|
  show mm_E _ _ 120 6 _ _ _ _ from
  mm_E.if1 (mm_atc mc120 rfl) (by decide) (ic_neT (by decide)) rfl <|
  mm_E.iconst (mm_atc mc120 rfl) <|
  mm_E.goto (mm_atc mc120 rfl) rfl <|
  mm_E.putI (fi := 0) (z := 1) (mm_atc mc120 rfl) (mm_plc mp120 rfl) ly77 rfl rfl rfl (mm_fit_i rfl) rfl <|
  mm_E.aload_n (mm_atc mc120 rfl) rfl <|
  mm_E.getI (z := 1) (mm_atc mc120 rfl) (mm_plc mp120 rfl) rfl ly77 rfl (mm_u_same) <|
  mm_E.if1 (mm_atc mc120 rfl) (by decide) (ic_eqF (by decide)) rfl <|
  mm_E.iconst (mm_atc mc120 rfl) <|
  mm_E.iret (mm_atc mc120 rfl) mr120 rfl
theorem p121_0_0 {d : Nat} {X : List Value} {A : MF} {x1 : Int} (H : R32 x1 ∧ x1 < 0) : mm_E 1 (d + 1) 121 0 [(0, .ref 77), (1, mI x1)] [] (mm_w X A) (.inl (some (mI 0)), mm_w X (mm_u A 77 0 1), 0, 0) := by
  obtain ⟨h0, h1⟩ := H
  exact mm_E.aload_n (mm_atc mc121 rfl) rfl <|
  mm_E.aload_n (mm_atc mc121 rfl) rfl <|
  mm_E.iload_n (mm_atc mc121 rfl) rfl <|
  mm_E.callV0 (mm_atc mc121 rfl) (mm_plc mp121 rfl) rfl mk113 ly77 rfl mx113 rfl rfl (p113_0_0 (d := d) ⟨h0, h1⟩) (by omega) <|
  show mm_E _ _ 121 6 _ _ _ _ from
  mm_E.if1 (mm_atc mc121 rfl) (by decide) (ic_eqF (by decide)) rfl <|
  mm_E.iconst (mm_atc mc121 rfl) <|
  mm_E.goto (mm_atc mc121 rfl) rfl <|
  mm_E.putI (fi := 0) (z := 1) (mm_atc mc121 rfl) (mm_plc mp121 rfl) ly77 rfl rfl rfl (mm_fit_i rfl) rfl <|
  mm_E.aload_n (mm_atc mc121 rfl) rfl <|
  mm_E.getI (z := 1) (mm_atc mc121 rfl) (mm_plc mp121 rfl) rfl ly77 rfl (mm_u_same) <|
  mm_E.if1 (mm_atc mc121 rfl) (by decide) (ic_eqF (by decide)) rfl <|
  mm_E.iconst (mm_atc mc121 rfl) <|
  mm_E.goto (mm_atc mc121 rfl) rfl <|
  mm_E.iret (mm_atc mc121 rfl) mr121 rfl
theorem p121_0_1 {d : Nat} {X : List Value} {A : MF} {x1 : Int} (H : R32 x1 ∧ 0 ≤ x1 ∧ R32 (A 77 2) ∧ x1 < A 77 2 ∧ x1 < 12) : mm_E 1 (d + 1) 121 0 [(0, .ref 77), (1, mI x1)] [] (mm_w X A) (.inl (some (mI (A 79 x1))), mm_w X (mm_u A 77 0 0), 0, 0) := by
  obtain ⟨h0, h1, h2, h3, h4⟩ := H
  exact mm_E.aload_n (mm_atc mc121 rfl) rfl <|
  mm_E.aload_n (mm_atc mc121 rfl) rfl <|
  mm_E.iload_n (mm_atc mc121 rfl) rfl <|
  mm_E.callV0 (mm_atc mc121 rfl) (mm_plc mp121 rfl) rfl mk113 ly77 rfl mx113 rfl rfl (p113_0_1 (d := d) ⟨h0, h1, h2, h3⟩) (by omega) <|
  show mm_E _ _ 121 6 _ _ _ _ from
  mm_E.if1 (mm_atc mc121 rfl) (by decide) (ic_eqT (by decide)) rfl <|
  mm_E.iconst (mm_atc mc121 rfl) <|
  mm_E.putI (fi := 0) (z := 0) (mm_atc mc121 rfl) (mm_plc mp121 rfl) ly77 rfl rfl rfl (mm_fit_i rfl) rfl <|
  mm_E.aload_n (mm_atc mc121 rfl) rfl <|
  mm_E.getI (z := 0) (mm_atc mc121 rfl) (mm_plc mp121 rfl) rfl ly77 rfl (mm_u_same) <|
  mm_E.if1 (mm_atc mc121 rfl) (by decide) (ic_eqT (by decide)) rfl <|
  mm_E.aload_n (mm_atc mc121 rfl) rfl <|
  mm_E.getR (b := 79) (mm_atc mc121 rfl) (mm_plc mp121 rfl) rfl ly77 rfl <|
  mm_E.iload_n (mm_atc mc121 rfl) rfl <|
  mm_E.iaload (e := x1) (mm_atc mc121 rfl) ly79 rfl h1 h4 rfl ((mm_u_ne (.inl (by decide))).trans (rfl)) <|
  mm_E.iret (mm_atc mc121 rfl) mr121 rfl
theorem p121_0_2 {d : Nat} {X : List Value} {A : MF} {x1 : Int} (H : R32 x1 ∧ 0 ≤ x1 ∧ R32 (A 77 2) ∧ A 77 2 ≤ x1) : mm_E 1 (d + 1) 121 0 [(0, .ref 77), (1, mI x1)] [] (mm_w X A) (.inl (some (mI 0)), mm_w X (mm_u A 77 0 1), 0, 0) := by
  obtain ⟨h0, h1, h2, h3⟩ := H
  exact mm_E.aload_n (mm_atc mc121 rfl) rfl <|
  mm_E.aload_n (mm_atc mc121 rfl) rfl <|
  mm_E.iload_n (mm_atc mc121 rfl) rfl <|
  mm_E.callV0 (mm_atc mc121 rfl) (mm_plc mp121 rfl) rfl mk113 ly77 rfl mx113 rfl rfl (p113_0_2 (d := d) ⟨h0, h1, h2, h3⟩) (by omega) <|
  show mm_E _ _ 121 6 _ _ _ _ from
  mm_E.if1 (mm_atc mc121 rfl) (by decide) (ic_eqF (by decide)) rfl <|
  mm_E.iconst (mm_atc mc121 rfl) <|
  mm_E.goto (mm_atc mc121 rfl) rfl <|
  mm_E.putI (fi := 0) (z := 1) (mm_atc mc121 rfl) (mm_plc mp121 rfl) ly77 rfl rfl rfl (mm_fit_i rfl) rfl <|
  mm_E.aload_n (mm_atc mc121 rfl) rfl <|
  mm_E.getI (z := 1) (mm_atc mc121 rfl) (mm_plc mp121 rfl) rfl ly77 rfl (mm_u_same) <|
  mm_E.if1 (mm_atc mc121 rfl) (by decide) (ic_eqF (by decide)) rfl <|
  mm_E.iconst (mm_atc mc121 rfl) <|
  mm_E.goto (mm_atc mc121 rfl) rfl <|
  mm_E.iret (mm_atc mc121 rfl) mr121 rfl
theorem p122_0_0 {d : Nat} {X : List Value} {A : MF} {x1 x2 : Int} (H : R32 x1 ∧ x1 < 0) : mm_E 1 (d + 1) 122 0 [(0, .ref 77), (1, mI x1), (2, mI x2)] [] (mm_w X A) (.inl (some (mI 0)), mm_w X (mm_u A 77 0 1), 0, 0) := by
  obtain ⟨h0, h1⟩ := H
  exact mm_E.aload_n (mm_atc mc122 rfl) rfl <|
  mm_E.aload_n (mm_atc mc122 rfl) rfl <|
  mm_E.iload_n (mm_atc mc122 rfl) rfl <|
  mm_E.callV0 (mm_atc mc122 rfl) (mm_plc mp122 rfl) rfl mk112 ly77 rfl mx112 rfl rfl (p112_0_0 (d := d) ⟨h0, h1⟩) (by omega) <|
  show mm_E _ _ 122 6 _ _ _ _ from
  mm_E.if1 (mm_atc mc122 rfl) (by decide) (ic_neT (by decide)) rfl <|
  mm_E.iconst (mm_atc mc122 rfl) <|
  mm_E.goto (mm_atc mc122 rfl) rfl <|
  mm_E.putI (fi := 0) (z := 1) (mm_atc mc122 rfl) (mm_plc mp122 rfl) ly77 rfl rfl rfl (mm_fit_i rfl) rfl <|
  mm_E.aload_n (mm_atc mc122 rfl) rfl <|
  mm_E.getI (z := 1) (mm_atc mc122 rfl) (mm_plc mp122 rfl) rfl ly77 rfl (mm_u_same) <|
  mm_E.if1 (mm_atc mc122 rfl) (by decide) (ic_eqF (by decide)) rfl <|
  mm_E.iconst (mm_atc mc122 rfl) <|
  mm_E.goto (mm_atc mc122 rfl) rfl <|
  mm_E.iret (mm_atc mc122 rfl) mr122 rfl
theorem p122_0_1 {d : Nat} {X : List Value} {A : MF} {x1 x2 : Int} (H : R32 x1 ∧ 0 ≤ x1 ∧ R32 (A 77 1) ∧ x1 < A 77 1 ∧ R32 x2 ∧ x2 < 0) : mm_E 1 (d + 1) 122 0 [(0, .ref 77), (1, mI x1), (2, mI x2)] [] (mm_w X A) (.inl (some (mI 0)), mm_w X (mm_u A 77 0 1), 0, 0) := by
  obtain ⟨h0, h1, h2, h3, h4, h5⟩ := H
  exact mm_E.aload_n (mm_atc mc122 rfl) rfl <|
  mm_E.aload_n (mm_atc mc122 rfl) rfl <|
  mm_E.iload_n (mm_atc mc122 rfl) rfl <|
  mm_E.callV0 (mm_atc mc122 rfl) (mm_plc mp122 rfl) rfl mk112 ly77 rfl mx112 rfl rfl (p112_0_1 (d := d) ⟨h0, h1, h2, h3⟩) (by omega) <|
  show mm_E _ _ 122 6 _ _ _ _ from
  mm_E.if1 (mm_atc mc122 rfl) (by decide) (ic_neF (by decide)) rfl <|
  mm_E.aload_n (mm_atc mc122 rfl) rfl <|
  mm_E.iload_n (mm_atc mc122 rfl) rfl <|
  mm_E.callV0 (mm_atc mc122 rfl) (mm_plc mp122 rfl) rfl mk112 ly77 rfl mx112 rfl rfl (p112_0_0 (d := d) ⟨h4, h5⟩) (by omega) <|
  show mm_E _ _ 122 14 _ _ _ _ from
  mm_E.if1 (mm_atc mc122 rfl) (by decide) (ic_eqF (by decide)) rfl <|
  mm_E.iconst (mm_atc mc122 rfl) <|
  mm_E.goto (mm_atc mc122 rfl) rfl <|
  mm_E.putI (fi := 0) (z := 1) (mm_atc mc122 rfl) (mm_plc mp122 rfl) ly77 rfl rfl rfl (mm_fit_i rfl) rfl <|
  mm_E.aload_n (mm_atc mc122 rfl) rfl <|
  mm_E.getI (z := 1) (mm_atc mc122 rfl) (mm_plc mp122 rfl) rfl ly77 rfl (mm_u_same) <|
  mm_E.if1 (mm_atc mc122 rfl) (by decide) (ic_eqF (by decide)) rfl <|
  mm_E.iconst (mm_atc mc122 rfl) <|
  mm_E.goto (mm_atc mc122 rfl) rfl <|
  mm_E.iret (mm_atc mc122 rfl) mr122 rfl
theorem p122_0_2 {d : Nat} {X : List Value} {A : MF} {x1 x2 z0 : Int} (s0 : mm_E 1 d 92 0 [(0, .ref 77), (1, mI x1), (2, mI x2)] [] (mm_w X (mm_u A 77 0 0)) (.inl (some (mI z0)), mm_w X (mm_u A 77 0 0), 0, 0)) (H : R32 x1 ∧ 0 ≤ x1 ∧ R32 (A 77 1) ∧ x1 < A 77 1 ∧ R32 x2 ∧ 0 ≤ x2 ∧ x2 < A 77 1) : mm_E 1 (d + 1) 122 0 [(0, .ref 77), (1, mI x1), (2, mI x2)] [] (mm_w X A) (.inl (some (mI z0)), mm_w X (mm_u A 77 0 0), 0, 0) := by
  obtain ⟨h0, h1, h2, h3, h4, h5, h6⟩ := H
  exact mm_E.aload_n (mm_atc mc122 rfl) rfl <|
  mm_E.aload_n (mm_atc mc122 rfl) rfl <|
  mm_E.iload_n (mm_atc mc122 rfl) rfl <|
  mm_E.callV0 (mm_atc mc122 rfl) (mm_plc mp122 rfl) rfl mk112 ly77 rfl mx112 rfl rfl (p112_0_1 (d := d) ⟨h0, h1, h2, h3⟩) (by omega) <|
  show mm_E _ _ 122 6 _ _ _ _ from
  mm_E.if1 (mm_atc mc122 rfl) (by decide) (ic_neF (by decide)) rfl <|
  mm_E.aload_n (mm_atc mc122 rfl) rfl <|
  mm_E.iload_n (mm_atc mc122 rfl) rfl <|
  mm_E.callV0 (mm_atc mc122 rfl) (mm_plc mp122 rfl) rfl mk112 ly77 rfl mx112 rfl rfl (p112_0_1 (d := d) ⟨h4, h5, h2, h6⟩) (by omega) <|
  show mm_E _ _ 122 14 _ _ _ _ from
  mm_E.if1 (mm_atc mc122 rfl) (by decide) (ic_eqT (by decide)) rfl <|
  mm_E.iconst (mm_atc mc122 rfl) <|
  mm_E.putI (fi := 0) (z := 0) (mm_atc mc122 rfl) (mm_plc mp122 rfl) ly77 rfl rfl rfl (mm_fit_i rfl) rfl <|
  mm_E.aload_n (mm_atc mc122 rfl) rfl <|
  mm_E.getI (z := 0) (mm_atc mc122 rfl) (mm_plc mp122 rfl) rfl ly77 rfl (mm_u_same) <|
  mm_E.if1 (mm_atc mc122 rfl) (by decide) (ic_eqT (by decide)) rfl <|
  mm_E.aload_n (mm_atc mc122 rfl) rfl <|
  mm_E.iload_n (mm_atc mc122 rfl) rfl <|
  mm_E.iload_n (mm_atc mc122 rfl) rfl <|
  mm_E.callV0 (mm_atc mc122 rfl) (mm_plc mp122 rfl) rfl mk92 ly77 rfl mx92 rfl rfl s0 (by omega) <|
  show mm_E _ _ 122 42 _ _ _ _ from
  mm_E.iret (mm_atc mc122 rfl) mr122 rfl
theorem p122_0_3 {d : Nat} {X : List Value} {A : MF} {x1 x2 : Int} (H : R32 x1 ∧ 0 ≤ x1 ∧ R32 (A 77 1) ∧ x1 < A 77 1 ∧ R32 x2 ∧ 0 ≤ x2 ∧ A 77 1 ≤ x2) : mm_E 1 (d + 1) 122 0 [(0, .ref 77), (1, mI x1), (2, mI x2)] [] (mm_w X A) (.inl (some (mI 0)), mm_w X (mm_u A 77 0 1), 0, 0) := by
  obtain ⟨h0, h1, h2, h3, h4, h5, h6⟩ := H
  exact mm_E.aload_n (mm_atc mc122 rfl) rfl <|
  mm_E.aload_n (mm_atc mc122 rfl) rfl <|
  mm_E.iload_n (mm_atc mc122 rfl) rfl <|
  mm_E.callV0 (mm_atc mc122 rfl) (mm_plc mp122 rfl) rfl mk112 ly77 rfl mx112 rfl rfl (p112_0_1 (d := d) ⟨h0, h1, h2, h3⟩) (by omega) <|
  show mm_E _ _ 122 6 _ _ _ _ from
  mm_E.if1 (mm_atc mc122 rfl) (by decide) (ic_neF (by decide)) rfl <|
  mm_E.aload_n (mm_atc mc122 rfl) rfl <|
  mm_E.iload_n (mm_atc mc122 rfl) rfl <|
  mm_E.callV0 (mm_atc mc122 rfl) (mm_plc mp122 rfl) rfl mk112 ly77 rfl mx112 rfl rfl (p112_0_2 (d := d) ⟨h4, h5, h2, h6⟩) (by omega) <|
  show mm_E _ _ 122 14 _ _ _ _ from
  mm_E.if1 (mm_atc mc122 rfl) (by decide) (ic_eqF (by decide)) rfl <|
  mm_E.iconst (mm_atc mc122 rfl) <|
  mm_E.goto (mm_atc mc122 rfl) rfl <|
  mm_E.putI (fi := 0) (z := 1) (mm_atc mc122 rfl) (mm_plc mp122 rfl) ly77 rfl rfl rfl (mm_fit_i rfl) rfl <|
  mm_E.aload_n (mm_atc mc122 rfl) rfl <|
  mm_E.getI (z := 1) (mm_atc mc122 rfl) (mm_plc mp122 rfl) rfl ly77 rfl (mm_u_same) <|
  mm_E.if1 (mm_atc mc122 rfl) (by decide) (ic_eqF (by decide)) rfl <|
  mm_E.iconst (mm_atc mc122 rfl) <|
  mm_E.goto (mm_atc mc122 rfl) rfl <|
  mm_E.iret (mm_atc mc122 rfl) mr122 rfl
theorem p122_0_4 {d : Nat} {X : List Value} {A : MF} {x1 x2 : Int} (H : R32 x1 ∧ 0 ≤ x1 ∧ R32 (A 77 1) ∧ A 77 1 ≤ x1) : mm_E 1 (d + 1) 122 0 [(0, .ref 77), (1, mI x1), (2, mI x2)] [] (mm_w X A) (.inl (some (mI 0)), mm_w X (mm_u A 77 0 1), 0, 0) := by
  obtain ⟨h0, h1, h2, h3⟩ := H
  exact mm_E.aload_n (mm_atc mc122 rfl) rfl <|
  mm_E.aload_n (mm_atc mc122 rfl) rfl <|
  mm_E.iload_n (mm_atc mc122 rfl) rfl <|
  mm_E.callV0 (mm_atc mc122 rfl) (mm_plc mp122 rfl) rfl mk112 ly77 rfl mx112 rfl rfl (p112_0_2 (d := d) ⟨h0, h1, h2, h3⟩) (by omega) <|
  show mm_E _ _ 122 6 _ _ _ _ from
  mm_E.if1 (mm_atc mc122 rfl) (by decide) (ic_neT (by decide)) rfl <|
  mm_E.iconst (mm_atc mc122 rfl) <|
  mm_E.goto (mm_atc mc122 rfl) rfl <|
  mm_E.putI (fi := 0) (z := 1) (mm_atc mc122 rfl) (mm_plc mp122 rfl) ly77 rfl rfl rfl (mm_fit_i rfl) rfl <|
  mm_E.aload_n (mm_atc mc122 rfl) rfl <|
  mm_E.getI (z := 1) (mm_atc mc122 rfl) (mm_plc mp122 rfl) rfl ly77 rfl (mm_u_same) <|
  mm_E.if1 (mm_atc mc122 rfl) (by decide) (ic_eqF (by decide)) rfl <|
  mm_E.iconst (mm_atc mc122 rfl) <|
  mm_E.goto (mm_atc mc122 rfl) rfl <|
  mm_E.iret (mm_atc mc122 rfl) mr122 rfl
theorem p123_0_0 {d : Nat} {X : List Value} {A : MF} {x1 x2 x3 : Int} (H : R32 x1 ∧ x1 < 0) : mm_E 1 (d + 1) 123 0 [(0, .ref 77), (1, mI x1), (2, mI x2), (3, mI x3)] [] (mm_w X A) (.inl (some (mI 0)), mm_w X (mm_u A 77 0 1), 0, 0) := by
  obtain ⟨h0, h1⟩ := H
  exact mm_E.aload_n (mm_atc mc123 rfl) rfl <|
  mm_E.aload_n (mm_atc mc123 rfl) rfl <|
  mm_E.iload_n (mm_atc mc123 rfl) rfl <|
  mm_E.callV0 (mm_atc mc123 rfl) (mm_plc mp123 rfl) rfl mk112 ly77 rfl mx112 rfl rfl (p112_0_0 (d := d) ⟨h0, h1⟩) (by omega) <|
  show mm_E _ _ 123 6 _ _ _ _ from
  mm_E.if1 (mm_atc mc123 rfl) (by decide) (ic_neT (by decide)) rfl <|
  mm_E.iconst (mm_atc mc123 rfl) <|
  mm_E.goto (mm_atc mc123 rfl) rfl <|
  mm_E.putI (fi := 0) (z := 1) (mm_atc mc123 rfl) (mm_plc mp123 rfl) ly77 rfl rfl rfl (mm_fit_i rfl) rfl <|
  mm_E.aload_n (mm_atc mc123 rfl) rfl <|
  mm_E.getI (z := 1) (mm_atc mc123 rfl) (mm_plc mp123 rfl) rfl ly77 rfl (mm_u_same) <|
  mm_E.if1 (mm_atc mc123 rfl) (by decide) (ic_eqF (by decide)) rfl <|
  mm_E.iconst (mm_atc mc123 rfl) <|
  mm_E.iret (mm_atc mc123 rfl) mr123 rfl
theorem p123_0_1 {d : Nat} {X : List Value} {A : MF} {x1 x2 x3 : Int} (H : R32 x1 ∧ 0 ≤ x1 ∧ R32 (A 77 1) ∧ x1 < A 77 1 ∧ R32 x2 ∧ x2 < 0) : mm_E 1 (d + 1) 123 0 [(0, .ref 77), (1, mI x1), (2, mI x2), (3, mI x3)] [] (mm_w X A) (.inl (some (mI 0)), mm_w X (mm_u A 77 0 1), 0, 0) := by
  obtain ⟨h0, h1, h2, h3, h4, h5⟩ := H
  exact mm_E.aload_n (mm_atc mc123 rfl) rfl <|
  mm_E.aload_n (mm_atc mc123 rfl) rfl <|
  mm_E.iload_n (mm_atc mc123 rfl) rfl <|
  mm_E.callV0 (mm_atc mc123 rfl) (mm_plc mp123 rfl) rfl mk112 ly77 rfl mx112 rfl rfl (p112_0_1 (d := d) ⟨h0, h1, h2, h3⟩) (by omega) <|
  show mm_E _ _ 123 6 _ _ _ _ from
  mm_E.if1 (mm_atc mc123 rfl) (by decide) (ic_neF (by decide)) rfl <|
  mm_E.aload_n (mm_atc mc123 rfl) rfl <|
  mm_E.iload_n (mm_atc mc123 rfl) rfl <|
  mm_E.callV0 (mm_atc mc123 rfl) (mm_plc mp123 rfl) rfl mk112 ly77 rfl mx112 rfl rfl (p112_0_0 (d := d) ⟨h4, h5⟩) (by omega) <|
  show mm_E _ _ 123 14 _ _ _ _ from
  mm_E.if1 (mm_atc mc123 rfl) (by decide) (ic_eqF (by decide)) rfl <|
  mm_E.iconst (mm_atc mc123 rfl) <|
  mm_E.goto (mm_atc mc123 rfl) rfl <|
  mm_E.putI (fi := 0) (z := 1) (mm_atc mc123 rfl) (mm_plc mp123 rfl) ly77 rfl rfl rfl (mm_fit_i rfl) rfl <|
  mm_E.aload_n (mm_atc mc123 rfl) rfl <|
  mm_E.getI (z := 1) (mm_atc mc123 rfl) (mm_plc mp123 rfl) rfl ly77 rfl (mm_u_same) <|
  mm_E.if1 (mm_atc mc123 rfl) (by decide) (ic_eqF (by decide)) rfl <|
  mm_E.iconst (mm_atc mc123 rfl) <|
  mm_E.iret (mm_atc mc123 rfl) mr123 rfl
theorem p123_0_2 {d : Nat} {X : List Value} {A : MF} {r : MR} {x1 x2 x3 : Int} (H : R32 x1 ∧ 0 ≤ x1 ∧ R32 (A 77 1) ∧ x1 < A 77 1 ∧ R32 x2 ∧ 0 ≤ x2 ∧ x2 < A 77 1) (h : mm_E 1 (d + 1) 123 40 [(0, .ref 77), (1, mI x1), (2, mI x2), (3, mI x3), (4, mI 0), (5, mI 0)] [] (mm_w X (mm_u A 77 0 0)) r) : mm_E 1 (d + 1) 123 0 [(0, .ref 77), (1, mI x1), (2, mI x2), (3, mI x3)] [] (mm_w X A) r := by
  obtain ⟨h0, h1, h2, h3, h4, h5, h6⟩ := H
  exact mm_E.aload_n (mm_atc mc123 rfl) rfl <|
  mm_E.aload_n (mm_atc mc123 rfl) rfl <|
  mm_E.iload_n (mm_atc mc123 rfl) rfl <|
  mm_E.callV0 (mm_atc mc123 rfl) (mm_plc mp123 rfl) rfl mk112 ly77 rfl mx112 rfl rfl (p112_0_1 (d := d) ⟨h0, h1, h2, h3⟩) (by omega) <|
  show mm_E _ _ 123 6 _ _ _ _ from
  mm_E.if1 (mm_atc mc123 rfl) (by decide) (ic_neF (by decide)) rfl <|
  mm_E.aload_n (mm_atc mc123 rfl) rfl <|
  mm_E.iload_n (mm_atc mc123 rfl) rfl <|
  mm_E.callV0 (mm_atc mc123 rfl) (mm_plc mp123 rfl) rfl mk112 ly77 rfl mx112 rfl rfl (p112_0_1 (d := d) ⟨h4, h5, h2, h6⟩) (by omega) <|
  show mm_E _ _ 123 14 _ _ _ _ from
  mm_E.if1 (mm_atc mc123 rfl) (by decide) (ic_eqT (by decide)) rfl <|
  mm_E.iconst (mm_atc mc123 rfl) <|
  mm_E.putI (fi := 0) (z := 0) (mm_atc mc123 rfl) (mm_plc mp123 rfl) ly77 rfl rfl rfl (mm_fit_i rfl) rfl <|
  mm_E.aload_n (mm_atc mc123 rfl) rfl <|
  mm_E.getI (z := 0) (mm_atc mc123 rfl) (mm_plc mp123 rfl) rfl ly77 rfl (mm_u_same) <|
  mm_E.if1 (mm_atc mc123 rfl) (by decide) (ic_eqT (by decide)) rfl <|
  mm_E.iconst (mm_atc mc123 rfl) <|
  mm_E.istore mx123 rfl (mm_atc mc123 rfl) <|
  show mm_E _ _ 123 37 [(4, mI 0), (0, .ref 77), (1, mI x1), (2, mI x2), (3, mI x3)] _ _ _ from
  mm_E.iconst (mm_atc mc123 rfl) <|
  mm_E.istore mx123 rfl (mm_atc mc123 rfl) <|
  show mm_E _ _ 123 40 [(5, mI 0), (4, mI 0), (0, .ref 77), (1, mI x1), (2, mI x2), (3, mI x3)] _ _ _ from
  mm_E.to h ⟨rfl, rfl, rfl, rfl, rfl, rfl, trivial⟩
theorem p123_0_3 {d : Nat} {X : List Value} {A : MF} {x1 x2 x3 : Int} (H : R32 x1 ∧ 0 ≤ x1 ∧ R32 (A 77 1) ∧ x1 < A 77 1 ∧ R32 x2 ∧ 0 ≤ x2 ∧ A 77 1 ≤ x2) : mm_E 1 (d + 1) 123 0 [(0, .ref 77), (1, mI x1), (2, mI x2), (3, mI x3)] [] (mm_w X A) (.inl (some (mI 0)), mm_w X (mm_u A 77 0 1), 0, 0) := by
  obtain ⟨h0, h1, h2, h3, h4, h5, h6⟩ := H
  exact mm_E.aload_n (mm_atc mc123 rfl) rfl <|
  mm_E.aload_n (mm_atc mc123 rfl) rfl <|
  mm_E.iload_n (mm_atc mc123 rfl) rfl <|
  mm_E.callV0 (mm_atc mc123 rfl) (mm_plc mp123 rfl) rfl mk112 ly77 rfl mx112 rfl rfl (p112_0_1 (d := d) ⟨h0, h1, h2, h3⟩) (by omega) <|
  show mm_E _ _ 123 6 _ _ _ _ from
  mm_E.if1 (mm_atc mc123 rfl) (by decide) (ic_neF (by decide)) rfl <|
  mm_E.aload_n (mm_atc mc123 rfl) rfl <|
  mm_E.iload_n (mm_atc mc123 rfl) rfl <|
  mm_E.callV0 (mm_atc mc123 rfl) (mm_plc mp123 rfl) rfl mk112 ly77 rfl mx112 rfl rfl (p112_0_2 (d := d) ⟨h4, h5, h2, h6⟩) (by omega) <|
  show mm_E _ _ 123 14 _ _ _ _ from
  mm_E.if1 (mm_atc mc123 rfl) (by decide) (ic_eqF (by decide)) rfl <|
  mm_E.iconst (mm_atc mc123 rfl) <|
  mm_E.goto (mm_atc mc123 rfl) rfl <|
  mm_E.putI (fi := 0) (z := 1) (mm_atc mc123 rfl) (mm_plc mp123 rfl) ly77 rfl rfl rfl (mm_fit_i rfl) rfl <|
  mm_E.aload_n (mm_atc mc123 rfl) rfl <|
  mm_E.getI (z := 1) (mm_atc mc123 rfl) (mm_plc mp123 rfl) rfl ly77 rfl (mm_u_same) <|
  mm_E.if1 (mm_atc mc123 rfl) (by decide) (ic_eqF (by decide)) rfl <|
  mm_E.iconst (mm_atc mc123 rfl) <|
  mm_E.iret (mm_atc mc123 rfl) mr123 rfl
theorem p123_0_4 {d : Nat} {X : List Value} {A : MF} {x1 x2 x3 : Int} (H : R32 x1 ∧ 0 ≤ x1 ∧ R32 (A 77 1) ∧ A 77 1 ≤ x1) : mm_E 1 (d + 1) 123 0 [(0, .ref 77), (1, mI x1), (2, mI x2), (3, mI x3)] [] (mm_w X A) (.inl (some (mI 0)), mm_w X (mm_u A 77 0 1), 0, 0) := by
  obtain ⟨h0, h1, h2, h3⟩ := H
  exact mm_E.aload_n (mm_atc mc123 rfl) rfl <|
  mm_E.aload_n (mm_atc mc123 rfl) rfl <|
  mm_E.iload_n (mm_atc mc123 rfl) rfl <|
  mm_E.callV0 (mm_atc mc123 rfl) (mm_plc mp123 rfl) rfl mk112 ly77 rfl mx112 rfl rfl (p112_0_2 (d := d) ⟨h0, h1, h2, h3⟩) (by omega) <|
  show mm_E _ _ 123 6 _ _ _ _ from
  mm_E.if1 (mm_atc mc123 rfl) (by decide) (ic_neT (by decide)) rfl <|
  mm_E.iconst (mm_atc mc123 rfl) <|
  mm_E.goto (mm_atc mc123 rfl) rfl <|
  mm_E.putI (fi := 0) (z := 1) (mm_atc mc123 rfl) (mm_plc mp123 rfl) ly77 rfl rfl rfl (mm_fit_i rfl) rfl <|
  mm_E.aload_n (mm_atc mc123 rfl) rfl <|
  mm_E.getI (z := 1) (mm_atc mc123 rfl) (mm_plc mp123 rfl) rfl ly77 rfl (mm_u_same) <|
  mm_E.if1 (mm_atc mc123 rfl) (by decide) (ic_eqF (by decide)) rfl <|
  mm_E.iconst (mm_atc mc123 rfl) <|
  mm_E.iret (mm_atc mc123 rfl) mr123 rfl
theorem p123_40_0 {w d : Nat} {X : List Value} {A : MF} {x1 x2 x3 x4 x5 z0 z1 : Int} (s0 : mm_E w d 92 0 [(0, .ref 77), (1, mI x1), (2, mI x2)] [] (mm_w X A) (.inl (some (mI z0)), mm_w X A, 0, 0)) (s1 : mm_E w d 92 0 [(0, .ref 77), (1, mI x1), (2, mI x1)] [] (mm_w X A) (.inl (some (mI z1)), mm_w X A, 0, 0)) (H : R32 x5 ∧ R32 (A 77 2) ∧ A 77 2 ≤ x5 ∧ R32 ((z0 - x4) - z1) ∧ (z0 - x4) - z1 < 0) : mm_E w (d + 1) 123 40 [(0, .ref 77), (1, mI x1), (2, mI x2), (3, mI x3), (4, mI x4), (5, mI x5)] [] (mm_w X A) (.inl (some (mI 0)), mm_w X A, 0, 0) := by
  obtain ⟨h0, h1, h2, h3, h4⟩ := H
  exact mm_E.iload (mm_atc mc123 rfl) rfl <|
  mm_E.aload_n (mm_atc mc123 rfl) rfl <|
  mm_E.getI (z := A 77 2) (mm_atc mc123 rfl) (mm_plc mp123 rfl) rfl ly77 rfl (rfl) <|
  mm_E.if2 (mm_atc mc123 rfl) h0 h1 (ic_geT h2) rfl <|
  mm_E.aload_n (mm_atc mc123 rfl) rfl <|
  mm_E.iload_n (mm_atc mc123 rfl) rfl <|
  mm_E.iload_n (mm_atc mc123 rfl) rfl <|
  mm_E.callV0 (mm_atc mc123 rfl) (mm_plc mp123 rfl) rfl mk92 ly77 rfl mx92 rfl rfl s0 (by omega) <|
  show mm_E _ _ 123 107 _ _ _ _ from
  mm_E.iload (mm_atc mc123 rfl) rfl <|
  mm_E.isub (mm_atc mc123 rfl) <|
  mm_E.aload_n (mm_atc mc123 rfl) rfl <|
  mm_E.iload_n (mm_atc mc123 rfl) rfl <|
  mm_E.iload_n (mm_atc mc123 rfl) rfl <|
  mm_E.callV0 (mm_atc mc123 rfl) (mm_plc mp123 rfl) rfl mk92 ly77 rfl mx92 rfl rfl s1 (by omega) <|
  show mm_E _ _ 123 116 _ _ _ _ from
  mm_E.isub (mm_atc mc123 rfl) <|
  mm_E.istore mx123 rfl (mm_atc mc123 rfl) <|
  show mm_E _ _ 123 119 [(5, mI ((z0 - x4) - z1)), (0, .ref 77), (1, mI x1), (2, mI x2), (3, mI x3), (4, mI x4)] _ _ _ from
  mm_E.iload (mm_atc mc123 rfl) rfl <|
  mm_E.if1 (mm_atc mc123 rfl) h3 (ic_ltT h4) rfl <|
  mm_E.iconst (mm_atc mc123 rfl) <|
  mm_E.goto (mm_atc mc123 rfl) rfl <|
  mm_E.iret (mm_atc mc123 rfl) mr123 rfl
theorem p123_40_1 {w d : Nat} {X : List Value} {A : MF} {x1 x2 x3 x4 x5 z0 z1 : Int} (s0 : mm_E w d 92 0 [(0, .ref 77), (1, mI x1), (2, mI x2)] [] (mm_w X A) (.inl (some (mI z0)), mm_w X A, 0, 0)) (s1 : mm_E w d 92 0 [(0, .ref 77), (1, mI x1), (2, mI x1)] [] (mm_w X A) (.inl (some (mI z1)), mm_w X A, 0, 0)) (H : R32 x5 ∧ R32 (A 77 2) ∧ A 77 2 ≤ x5 ∧ R32 ((z0 - x4) - z1) ∧ 0 ≤ (z0 - x4) - z1 ∧ R32 x1 ∧ R32 x2 ∧ x1 ≠ x2) : mm_E w (d + 1) 123 40 [(0, .ref 77), (1, mI x1), (2, mI x2), (3, mI x3), (4, mI x4), (5, mI x5)] [] (mm_w X A) (.inl (some (mI ((z0 - x4) - z1))), mm_w X A, 0, 0) := by
  obtain ⟨h0, h1, h2, h3, h4, h5, h6, h7⟩ := H
  exact mm_E.iload (mm_atc mc123 rfl) rfl <|
  mm_E.aload_n (mm_atc mc123 rfl) rfl <|
  mm_E.getI (z := A 77 2) (mm_atc mc123 rfl) (mm_plc mp123 rfl) rfl ly77 rfl (rfl) <|
  mm_E.if2 (mm_atc mc123 rfl) h0 h1 (ic_geT h2) rfl <|
  mm_E.aload_n (mm_atc mc123 rfl) rfl <|
  mm_E.iload_n (mm_atc mc123 rfl) rfl <|
  mm_E.iload_n (mm_atc mc123 rfl) rfl <|
  mm_E.callV0 (mm_atc mc123 rfl) (mm_plc mp123 rfl) rfl mk92 ly77 rfl mx92 rfl rfl s0 (by omega) <|
  show mm_E _ _ 123 107 _ _ _ _ from
  mm_E.iload (mm_atc mc123 rfl) rfl <|
  mm_E.isub (mm_atc mc123 rfl) <|
  mm_E.aload_n (mm_atc mc123 rfl) rfl <|
  mm_E.iload_n (mm_atc mc123 rfl) rfl <|
  mm_E.iload_n (mm_atc mc123 rfl) rfl <|
  mm_E.callV0 (mm_atc mc123 rfl) (mm_plc mp123 rfl) rfl mk92 ly77 rfl mx92 rfl rfl s1 (by omega) <|
  show mm_E _ _ 123 116 _ _ _ _ from
  mm_E.isub (mm_atc mc123 rfl) <|
  mm_E.istore mx123 rfl (mm_atc mc123 rfl) <|
  show mm_E _ _ 123 119 [(5, mI ((z0 - x4) - z1)), (0, .ref 77), (1, mI x1), (2, mI x2), (3, mI x3), (4, mI x4)] _ _ _ from
  mm_E.iload (mm_atc mc123 rfl) rfl <|
  mm_E.if1 (mm_atc mc123 rfl) h3 (ic_ltF h4) rfl <|
  mm_E.iload_n (mm_atc mc123 rfl) rfl <|
  mm_E.iload_n (mm_atc mc123 rfl) rfl <|
  mm_E.if2 (mm_atc mc123 rfl) h5 h6 (ic_neT h7) rfl <|
  mm_E.iload (mm_atc mc123 rfl) rfl <|
  mm_E.iret (mm_atc mc123 rfl) mr123 rfl
theorem p123_40_2 {w d : Nat} {X : List Value} {A : MF} {x1 x2 x3 x4 x5 z0 z1 : Int} (s0 : mm_E w d 92 0 [(0, .ref 77), (1, mI x1), (2, mI x2)] [] (mm_w X A) (.inl (some (mI z0)), mm_w X A, 0, 0)) (s1 : mm_E w d 92 0 [(0, .ref 77), (1, mI x1), (2, mI x1)] [] (mm_w X A) (.inl (some (mI z1)), mm_w X A, 0, 0)) (H : R32 x5 ∧ R32 (A 77 2) ∧ A 77 2 ≤ x5 ∧ R32 ((z0 - x4) - z1) ∧ 0 ≤ (z0 - x4) - z1 ∧ R32 x1 ∧ R32 x2 ∧ x1 = x2) : mm_E w (d + 1) 123 40 [(0, .ref 77), (1, mI x1), (2, mI x2), (3, mI x3), (4, mI x4), (5, mI x5)] [] (mm_w X A) (.inl (some (mI 0)), mm_w X A, 0, 0) := by
  obtain ⟨h0, h1, h2, h3, h4, h5, h6, h7⟩ := H
  exact mm_E.iload (mm_atc mc123 rfl) rfl <|
  mm_E.aload_n (mm_atc mc123 rfl) rfl <|
  mm_E.getI (z := A 77 2) (mm_atc mc123 rfl) (mm_plc mp123 rfl) rfl ly77 rfl (rfl) <|
  mm_E.if2 (mm_atc mc123 rfl) h0 h1 (ic_geT h2) rfl <|
  mm_E.aload_n (mm_atc mc123 rfl) rfl <|
  mm_E.iload_n (mm_atc mc123 rfl) rfl <|
  mm_E.iload_n (mm_atc mc123 rfl) rfl <|
  mm_E.callV0 (mm_atc mc123 rfl) (mm_plc mp123 rfl) rfl mk92 ly77 rfl mx92 rfl rfl s0 (by omega) <|
  show mm_E _ _ 123 107 _ _ _ _ from
  mm_E.iload (mm_atc mc123 rfl) rfl <|
  mm_E.isub (mm_atc mc123 rfl) <|
  mm_E.aload_n (mm_atc mc123 rfl) rfl <|
  mm_E.iload_n (mm_atc mc123 rfl) rfl <|
  mm_E.iload_n (mm_atc mc123 rfl) rfl <|
  mm_E.callV0 (mm_atc mc123 rfl) (mm_plc mp123 rfl) rfl mk92 ly77 rfl mx92 rfl rfl s1 (by omega) <|
  show mm_E _ _ 123 116 _ _ _ _ from
  mm_E.isub (mm_atc mc123 rfl) <|
  mm_E.istore mx123 rfl (mm_atc mc123 rfl) <|
  show mm_E _ _ 123 119 [(5, mI ((z0 - x4) - z1)), (0, .ref 77), (1, mI x1), (2, mI x2), (3, mI x3), (4, mI x4)] _ _ _ from
  mm_E.iload (mm_atc mc123 rfl) rfl <|
  mm_E.if1 (mm_atc mc123 rfl) h3 (ic_ltF h4) rfl <|
  mm_E.iload_n (mm_atc mc123 rfl) rfl <|
  mm_E.iload_n (mm_atc mc123 rfl) rfl <|
  mm_E.if2 (mm_atc mc123 rfl) h5 h6 (ic_neF h7) rfl <|
  mm_E.iconst (mm_atc mc123 rfl) <|
  mm_E.goto (mm_atc mc123 rfl) rfl <|
  mm_E.iret (mm_atc mc123 rfl) mr123 rfl
theorem p123_40_3 {w d : Nat} {X : List Value} {A : MF} {x1 x2 x3 x4 x5 z0 z1 : Int} (s0 : mm_E w d 92 0 [(0, .ref 77), (1, mI x1), (2, mI x2)] [] (mm_w X A) (.inl (some (mI z0)), mm_w X A, 0, 0)) (s1 : mm_E w d 92 0 [(0, .ref 77), (1, mI x1), (2, mI x1)] [] (mm_w X A) (.inl (some (mI z1)), mm_w X A, 0, 0)) (H : R32 x5 ∧ R32 (A 77 2) ∧ x5 < A 77 2 ∧ R32 x3 ∧ x3 = 0 ∧ R32 ((z0 - x4) - z1) ∧ (z0 - x4) - z1 < 0) : mm_E w (d + 1) 123 40 [(0, .ref 77), (1, mI x1), (2, mI x2), (3, mI x3), (4, mI x4), (5, mI x5)] [] (mm_w X A) (.inl (some (mI 0)), mm_w X A, 0, 0) := by
  obtain ⟨h0, h1, h2, h3, h4, h5, h6⟩ := H
  exact mm_E.iload (mm_atc mc123 rfl) rfl <|
  mm_E.aload_n (mm_atc mc123 rfl) rfl <|
  mm_E.getI (z := A 77 2) (mm_atc mc123 rfl) (mm_plc mp123 rfl) rfl ly77 rfl (rfl) <|
  mm_E.if2 (mm_atc mc123 rfl) h0 h1 (ic_geF h2) rfl <|
  mm_E.iload_n (mm_atc mc123 rfl) rfl <|
  mm_E.if1 (mm_atc mc123 rfl) h3 (ic_eqT h4) rfl <|
  mm_E.aload_n (mm_atc mc123 rfl) rfl <|
  mm_E.iload_n (mm_atc mc123 rfl) rfl <|
  mm_E.iload_n (mm_atc mc123 rfl) rfl <|
  mm_E.callV0 (mm_atc mc123 rfl) (mm_plc mp123 rfl) rfl mk92 ly77 rfl mx92 rfl rfl s0 (by omega) <|
  show mm_E _ _ 123 107 _ _ _ _ from
  mm_E.iload (mm_atc mc123 rfl) rfl <|
  mm_E.isub (mm_atc mc123 rfl) <|
  mm_E.aload_n (mm_atc mc123 rfl) rfl <|
  mm_E.iload_n (mm_atc mc123 rfl) rfl <|
  mm_E.iload_n (mm_atc mc123 rfl) rfl <|
  mm_E.callV0 (mm_atc mc123 rfl) (mm_plc mp123 rfl) rfl mk92 ly77 rfl mx92 rfl rfl s1 (by omega) <|
  show mm_E _ _ 123 116 _ _ _ _ from
  mm_E.isub (mm_atc mc123 rfl) <|
  mm_E.istore mx123 rfl (mm_atc mc123 rfl) <|
  show mm_E _ _ 123 119 [(5, mI ((z0 - x4) - z1)), (0, .ref 77), (1, mI x1), (2, mI x2), (3, mI x3), (4, mI x4)] _ _ _ from
  mm_E.iload (mm_atc mc123 rfl) rfl <|
  mm_E.if1 (mm_atc mc123 rfl) h5 (ic_ltT h6) rfl <|
  mm_E.iconst (mm_atc mc123 rfl) <|
  mm_E.goto (mm_atc mc123 rfl) rfl <|
  mm_E.iret (mm_atc mc123 rfl) mr123 rfl
theorem p123_40_4 {w d : Nat} {X : List Value} {A : MF} {x1 x2 x3 x4 x5 z0 z1 : Int} (s0 : mm_E w d 92 0 [(0, .ref 77), (1, mI x1), (2, mI x2)] [] (mm_w X A) (.inl (some (mI z0)), mm_w X A, 0, 0)) (s1 : mm_E w d 92 0 [(0, .ref 77), (1, mI x1), (2, mI x1)] [] (mm_w X A) (.inl (some (mI z1)), mm_w X A, 0, 0)) (H : R32 x5 ∧ R32 (A 77 2) ∧ x5 < A 77 2 ∧ R32 x3 ∧ x3 = 0 ∧ R32 ((z0 - x4) - z1) ∧ 0 ≤ (z0 - x4) - z1 ∧ R32 x1 ∧ R32 x2 ∧ x1 ≠ x2) : mm_E w (d + 1) 123 40 [(0, .ref 77), (1, mI x1), (2, mI x2), (3, mI x3), (4, mI x4), (5, mI x5)] [] (mm_w X A) (.inl (some (mI ((z0 - x4) - z1))), mm_w X A, 0, 0) := by
  obtain ⟨h0, h1, h2, h3, h4, h5, h6, h7, h8, h9⟩ := H
  exact mm_E.iload (mm_atc mc123 rfl) rfl <|
  mm_E.aload_n (mm_atc mc123 rfl) rfl <|
  mm_E.getI (z := A 77 2) (mm_atc mc123 rfl) (mm_plc mp123 rfl) rfl ly77 rfl (rfl) <|
  mm_E.if2 (mm_atc mc123 rfl) h0 h1 (ic_geF h2) rfl <|
  mm_E.iload_n (mm_atc mc123 rfl) rfl <|
  mm_E.if1 (mm_atc mc123 rfl) h3 (ic_eqT h4) rfl <|
  mm_E.aload_n (mm_atc mc123 rfl) rfl <|
  mm_E.iload_n (mm_atc mc123 rfl) rfl <|
  mm_E.iload_n (mm_atc mc123 rfl) rfl <|
  mm_E.callV0 (mm_atc mc123 rfl) (mm_plc mp123 rfl) rfl mk92 ly77 rfl mx92 rfl rfl s0 (by omega) <|
  show mm_E _ _ 123 107 _ _ _ _ from
  mm_E.iload (mm_atc mc123 rfl) rfl <|
  mm_E.isub (mm_atc mc123 rfl) <|
  mm_E.aload_n (mm_atc mc123 rfl) rfl <|
  mm_E.iload_n (mm_atc mc123 rfl) rfl <|
  mm_E.iload_n (mm_atc mc123 rfl) rfl <|
  mm_E.callV0 (mm_atc mc123 rfl) (mm_plc mp123 rfl) rfl mk92 ly77 rfl mx92 rfl rfl s1 (by omega) <|
  show mm_E _ _ 123 116 _ _ _ _ from
  mm_E.isub (mm_atc mc123 rfl) <|
  mm_E.istore mx123 rfl (mm_atc mc123 rfl) <|
  show mm_E _ _ 123 119 [(5, mI ((z0 - x4) - z1)), (0, .ref 77), (1, mI x1), (2, mI x2), (3, mI x3), (4, mI x4)] _ _ _ from
  mm_E.iload (mm_atc mc123 rfl) rfl <|
  mm_E.if1 (mm_atc mc123 rfl) h5 (ic_ltF h6) rfl <|
  mm_E.iload_n (mm_atc mc123 rfl) rfl <|
  mm_E.iload_n (mm_atc mc123 rfl) rfl <|
  mm_E.if2 (mm_atc mc123 rfl) h7 h8 (ic_neT h9) rfl <|
  mm_E.iload (mm_atc mc123 rfl) rfl <|
  mm_E.iret (mm_atc mc123 rfl) mr123 rfl
theorem p123_40_5 {w d : Nat} {X : List Value} {A : MF} {x1 x2 x3 x4 x5 z0 z1 : Int} (s0 : mm_E w d 92 0 [(0, .ref 77), (1, mI x1), (2, mI x2)] [] (mm_w X A) (.inl (some (mI z0)), mm_w X A, 0, 0)) (s1 : mm_E w d 92 0 [(0, .ref 77), (1, mI x1), (2, mI x1)] [] (mm_w X A) (.inl (some (mI z1)), mm_w X A, 0, 0)) (H : R32 x5 ∧ R32 (A 77 2) ∧ x5 < A 77 2 ∧ R32 x3 ∧ x3 = 0 ∧ R32 ((z0 - x4) - z1) ∧ 0 ≤ (z0 - x4) - z1 ∧ R32 x1 ∧ R32 x2 ∧ x1 = x2) : mm_E w (d + 1) 123 40 [(0, .ref 77), (1, mI x1), (2, mI x2), (3, mI x3), (4, mI x4), (5, mI x5)] [] (mm_w X A) (.inl (some (mI 0)), mm_w X A, 0, 0) := by
  obtain ⟨h0, h1, h2, h3, h4, h5, h6, h7, h8, h9⟩ := H
  exact mm_E.iload (mm_atc mc123 rfl) rfl <|
  mm_E.aload_n (mm_atc mc123 rfl) rfl <|
  mm_E.getI (z := A 77 2) (mm_atc mc123 rfl) (mm_plc mp123 rfl) rfl ly77 rfl (rfl) <|
  mm_E.if2 (mm_atc mc123 rfl) h0 h1 (ic_geF h2) rfl <|
  mm_E.iload_n (mm_atc mc123 rfl) rfl <|
  mm_E.if1 (mm_atc mc123 rfl) h3 (ic_eqT h4) rfl <|
  mm_E.aload_n (mm_atc mc123 rfl) rfl <|
  mm_E.iload_n (mm_atc mc123 rfl) rfl <|
  mm_E.iload_n (mm_atc mc123 rfl) rfl <|
  mm_E.callV0 (mm_atc mc123 rfl) (mm_plc mp123 rfl) rfl mk92 ly77 rfl mx92 rfl rfl s0 (by omega) <|
  show mm_E _ _ 123 107 _ _ _ _ from
  mm_E.iload (mm_atc mc123 rfl) rfl <|
  mm_E.isub (mm_atc mc123 rfl) <|
  mm_E.aload_n (mm_atc mc123 rfl) rfl <|
  mm_E.iload_n (mm_atc mc123 rfl) rfl <|
  mm_E.iload_n (mm_atc mc123 rfl) rfl <|
  mm_E.callV0 (mm_atc mc123 rfl) (mm_plc mp123 rfl) rfl mk92 ly77 rfl mx92 rfl rfl s1 (by omega) <|
  show mm_E _ _ 123 116 _ _ _ _ from
  mm_E.isub (mm_atc mc123 rfl) <|
  mm_E.istore mx123 rfl (mm_atc mc123 rfl) <|
  show mm_E _ _ 123 119 [(5, mI ((z0 - x4) - z1)), (0, .ref 77), (1, mI x1), (2, mI x2), (3, mI x3), (4, mI x4)] _ _ _ from
  mm_E.iload (mm_atc mc123 rfl) rfl <|
  mm_E.if1 (mm_atc mc123 rfl) h5 (ic_ltF h6) rfl <|
  mm_E.iload_n (mm_atc mc123 rfl) rfl <|
  mm_E.iload_n (mm_atc mc123 rfl) rfl <|
  mm_E.if2 (mm_atc mc123 rfl) h7 h8 (ic_neF h9) rfl <|
  mm_E.iconst (mm_atc mc123 rfl) <|
  mm_E.goto (mm_atc mc123 rfl) rfl <|
  mm_E.iret (mm_atc mc123 rfl) mr123 rfl
theorem p123_40_6 {w d : Nat} {X : List Value} {A : MF} {r : MR} {x1 x2 x3 x4 x5 : Int} (H : R32 x5 ∧ R32 (A 77 2) ∧ x5 < A 77 2 ∧ R32 x3 ∧ x3 ≠ 0 ∧ 0 ≤ x5 ∧ x5 < 12 ∧ R32 (A 79 x5) ∧ R32 x2 ∧ A 79 x5 ≠ x2) (h : mm_E w d 123 40 [(0, .ref 77), (1, mI x1), (2, mI x2), (3, mI x3), (4, mI x4), (5, mI (x5 + 1))] [] (mm_w X A) r) : mm_E w d 123 40 [(0, .ref 77), (1, mI x1), (2, mI x2), (3, mI x3), (4, mI x4), (5, mI x5)] [] (mm_w X A) r := by
  obtain ⟨h0, h1, h2, h3, h4, h5, h6, h7, h8, h9⟩ := H
  exact mm_E.iload (mm_atc mc123 rfl) rfl <|
  mm_E.aload_n (mm_atc mc123 rfl) rfl <|
  mm_E.getI (z := A 77 2) (mm_atc mc123 rfl) (mm_plc mp123 rfl) rfl ly77 rfl (rfl) <|
  mm_E.if2 (mm_atc mc123 rfl) h0 h1 (ic_geF h2) rfl <|
  mm_E.iload_n (mm_atc mc123 rfl) rfl <|
  mm_E.if1 (mm_atc mc123 rfl) h3 (ic_eqF h4) rfl <|
  mm_E.aload_n (mm_atc mc123 rfl) rfl <|
  mm_E.getR (b := 79) (mm_atc mc123 rfl) (mm_plc mp123 rfl) rfl ly77 rfl <|
  mm_E.iload (mm_atc mc123 rfl) rfl <|
  mm_E.iaload (e := x5) (mm_atc mc123 rfl) ly79 rfl h5 h6 rfl (rfl) <|
  mm_E.iload_n (mm_atc mc123 rfl) rfl <|
  mm_E.if2 (mm_atc mc123 rfl) h7 h8 (ic_neT h9) rfl <|
  mm_E.inc mx123 rfl (mm_atc mc123 rfl) rfl <|
  show mm_E _ _ 123 98 [(5, mI (x5 + 1)), (0, .ref 77), (1, mI x1), (2, mI x2), (3, mI x3), (4, mI x4)] _ _ _ from
  mm_E.goto (mm_atc mc123 rfl) rfl <|
  mm_E.to h ⟨rfl, rfl, rfl, rfl, rfl, rfl, trivial⟩
theorem p123_40_7 {w d : Nat} {X : List Value} {A : MF} {r : MR} {x1 x2 x3 x4 x5 : Int} (H : R32 x5 ∧ R32 (A 77 2) ∧ x5 < A 77 2 ∧ R32 x3 ∧ x3 ≠ 0 ∧ 0 ≤ x5 ∧ x5 < 12 ∧ R32 (A 79 x5) ∧ R32 x2 ∧ A 79 x5 = x2 ∧ 0 ≤ (12 * x1) + x5 ∧ (12 * x1) + x5 < 72 ∧ R32 (A 78 ((12 * x1) + x5)) ∧ R32 x4 ∧ A 78 ((12 * x1) + x5) ≤ x4) (h : mm_E w d 123 40 [(0, .ref 77), (1, mI x1), (2, mI x2), (3, mI x3), (4, mI x4), (5, mI (x5 + 1))] [] (mm_w X A) r) : mm_E w d 123 40 [(0, .ref 77), (1, mI x1), (2, mI x2), (3, mI x3), (4, mI x4), (5, mI x5)] [] (mm_w X A) r := by
  obtain ⟨h0, h1, h2, h3, h4, h5, h6, h7, h8, h9, h10, h11, h12, h13, h14⟩ := H
  exact mm_E.iload (mm_atc mc123 rfl) rfl <|
  mm_E.aload_n (mm_atc mc123 rfl) rfl <|
  mm_E.getI (z := A 77 2) (mm_atc mc123 rfl) (mm_plc mp123 rfl) rfl ly77 rfl (rfl) <|
  mm_E.if2 (mm_atc mc123 rfl) h0 h1 (ic_geF h2) rfl <|
  mm_E.iload_n (mm_atc mc123 rfl) rfl <|
  mm_E.if1 (mm_atc mc123 rfl) h3 (ic_eqF h4) rfl <|
  mm_E.aload_n (mm_atc mc123 rfl) rfl <|
  mm_E.getR (b := 79) (mm_atc mc123 rfl) (mm_plc mp123 rfl) rfl ly77 rfl <|
  mm_E.iload (mm_atc mc123 rfl) rfl <|
  mm_E.iaload (e := x5) (mm_atc mc123 rfl) ly79 rfl h5 h6 rfl (rfl) <|
  mm_E.iload_n (mm_atc mc123 rfl) rfl <|
  mm_E.if2 (mm_atc mc123 rfl) h7 h8 (ic_neF h9) rfl <|
  mm_E.aload_n (mm_atc mc123 rfl) rfl <|
  mm_E.getR (b := 78) (mm_atc mc123 rfl) (mm_plc mp123 rfl) rfl ly77 rfl <|
  mm_E.bipush (mm_atc mc123 rfl) rfl <|
  mm_E.iload_n (mm_atc mc123 rfl) rfl <|
  mm_E.imul (mm_atc mc123 rfl) <|
  mm_E.iload (mm_atc mc123 rfl) rfl <|
  mm_E.iadd (mm_atc mc123 rfl) <|
  mm_E.iaload (e := (12 * x1) + x5) (mm_atc mc123 rfl) ly78 rfl h10 h11 rfl (rfl) <|
  mm_E.iload (mm_atc mc123 rfl) rfl <|
  mm_E.if2 (mm_atc mc123 rfl) h12 h13 (ic_leT h14) rfl <|
  mm_E.inc mx123 rfl (mm_atc mc123 rfl) rfl <|
  show mm_E _ _ 123 98 [(5, mI (x5 + 1)), (0, .ref 77), (1, mI x1), (2, mI x2), (3, mI x3), (4, mI x4)] _ _ _ from
  mm_E.goto (mm_atc mc123 rfl) rfl <|
  mm_E.to h ⟨rfl, rfl, rfl, rfl, rfl, rfl, trivial⟩
theorem p123_40_8 {w d : Nat} {X : List Value} {A : MF} {r : MR} {x1 x2 x3 x4 x5 : Int} (H : R32 x5 ∧ R32 (A 77 2) ∧ x5 < A 77 2 ∧ R32 x3 ∧ x3 ≠ 0 ∧ 0 ≤ x5 ∧ x5 < 12 ∧ R32 (A 79 x5) ∧ R32 x2 ∧ A 79 x5 = x2 ∧ 0 ≤ (12 * x1) + x5 ∧ (12 * x1) + x5 < 72 ∧ R32 (A 78 ((12 * x1) + x5)) ∧ R32 x4 ∧ x4 < A 78 ((12 * x1) + x5)) (h : mm_E w d 123 40 [(0, .ref 77), (1, mI x1), (2, mI x2), (3, mI x3), (4, mI (A 78 ((12 * x1) + x5))), (5, mI (x5 + 1))] [] (mm_w X A) r) : mm_E w d 123 40 [(0, .ref 77), (1, mI x1), (2, mI x2), (3, mI x3), (4, mI x4), (5, mI x5)] [] (mm_w X A) r := by
  obtain ⟨h0, h1, h2, h3, h4, h5, h6, h7, h8, h9, h10, h11, h12, h13, h14⟩ := H
  exact mm_E.iload (mm_atc mc123 rfl) rfl <|
  mm_E.aload_n (mm_atc mc123 rfl) rfl <|
  mm_E.getI (z := A 77 2) (mm_atc mc123 rfl) (mm_plc mp123 rfl) rfl ly77 rfl (rfl) <|
  mm_E.if2 (mm_atc mc123 rfl) h0 h1 (ic_geF h2) rfl <|
  mm_E.iload_n (mm_atc mc123 rfl) rfl <|
  mm_E.if1 (mm_atc mc123 rfl) h3 (ic_eqF h4) rfl <|
  mm_E.aload_n (mm_atc mc123 rfl) rfl <|
  mm_E.getR (b := 79) (mm_atc mc123 rfl) (mm_plc mp123 rfl) rfl ly77 rfl <|
  mm_E.iload (mm_atc mc123 rfl) rfl <|
  mm_E.iaload (e := x5) (mm_atc mc123 rfl) ly79 rfl h5 h6 rfl (rfl) <|
  mm_E.iload_n (mm_atc mc123 rfl) rfl <|
  mm_E.if2 (mm_atc mc123 rfl) h7 h8 (ic_neF h9) rfl <|
  mm_E.aload_n (mm_atc mc123 rfl) rfl <|
  mm_E.getR (b := 78) (mm_atc mc123 rfl) (mm_plc mp123 rfl) rfl ly77 rfl <|
  mm_E.bipush (mm_atc mc123 rfl) rfl <|
  mm_E.iload_n (mm_atc mc123 rfl) rfl <|
  mm_E.imul (mm_atc mc123 rfl) <|
  mm_E.iload (mm_atc mc123 rfl) rfl <|
  mm_E.iadd (mm_atc mc123 rfl) <|
  mm_E.iaload (e := (12 * x1) + x5) (mm_atc mc123 rfl) ly78 rfl h10 h11 rfl (rfl) <|
  mm_E.iload (mm_atc mc123 rfl) rfl <|
  mm_E.if2 (mm_atc mc123 rfl) h12 h13 (ic_leF h14) rfl <|
  mm_E.aload_n (mm_atc mc123 rfl) rfl <|
  mm_E.getR (b := 78) (mm_atc mc123 rfl) (mm_plc mp123 rfl) rfl ly77 rfl <|
  mm_E.bipush (mm_atc mc123 rfl) rfl <|
  mm_E.iload_n (mm_atc mc123 rfl) rfl <|
  mm_E.imul (mm_atc mc123 rfl) <|
  mm_E.iload (mm_atc mc123 rfl) rfl <|
  mm_E.iadd (mm_atc mc123 rfl) <|
  mm_E.iaload (e := (12 * x1) + x5) (mm_atc mc123 rfl) ly78 rfl h10 h11 rfl (rfl) <|
  mm_E.istore mx123 rfl (mm_atc mc123 rfl) <|
  show mm_E _ _ 123 95 [(4, mI (A 78 ((12 * x1) + x5))), (0, .ref 77), (1, mI x1), (2, mI x2), (3, mI x3), (5, mI x5)] _ _ _ from
  mm_E.inc mx123 rfl (mm_atc mc123 rfl) rfl <|
  show mm_E _ _ 123 98 [(5, mI (x5 + 1)), (4, mI (A 78 ((12 * x1) + x5))), (0, .ref 77), (1, mI x1), (2, mI x2), (3, mI x3)] _ _ _ from
  mm_E.goto (mm_atc mc123 rfl) rfl <|
  mm_E.to h ⟨rfl, rfl, rfl, rfl, rfl, rfl, trivial⟩
theorem p124_0_0 {d : Nat} {X : List Value} {A : MF} {x1 z0 : Int} (s0 : mm_E 1 d 97 0 [(0, .ref 77)] [] (mm_w X A) (.inl (some (mI z0)), mm_w X A, 0, 0)) (H : R32 x1 ∧ x1 < 0) : mm_E 1 (d + 1) 124 0 [(0, .ref 77), (1, mI x1)] [] (mm_w X A) (.inl (some (mI 0)), mm_w X (mm_u A 77 0 1), 0, 0) := by
  obtain ⟨h0, h1⟩ := H
  exact mm_E.aload_n (mm_atc mc124 rfl) rfl <|
  mm_E.callV0 (mm_atc mc124 rfl) (mm_plc mp124 rfl) rfl mk97 ly77 rfl mx97 rfl rfl s0 (by omega) <|
  show mm_E _ _ 124 4 _ _ _ _ from
  mm_E.istore_n mx124 rfl (mm_atc mc124 rfl) <|
  show mm_E _ _ 124 5 [(2, mI z0), (0, .ref 77), (1, mI x1)] _ _ _ from
  mm_E.aload_n (mm_atc mc124 rfl) rfl <|
  mm_E.aload_n (mm_atc mc124 rfl) rfl <|
  mm_E.iload_n (mm_atc mc124 rfl) rfl <|
  mm_E.callV0 (mm_atc mc124 rfl) (mm_plc mp124 rfl) rfl mk112 ly77 rfl mx112 rfl rfl (p112_0_0 (d := d) ⟨h0, h1⟩) (by omega) <|
  show mm_E _ _ 124 11 _ _ _ _ from
  mm_E.if1 (mm_atc mc124 rfl) (by decide) (ic_eqF (by decide)) rfl <|
  mm_E.iconst (mm_atc mc124 rfl) <|
  mm_E.goto (mm_atc mc124 rfl) rfl <|
  mm_E.putI (fi := 0) (z := 1) (mm_atc mc124 rfl) (mm_plc mp124 rfl) ly77 rfl rfl rfl (mm_fit_i rfl) rfl <|
  mm_E.aload_n (mm_atc mc124 rfl) rfl <|
  mm_E.getI (z := 1) (mm_atc mc124 rfl) (mm_plc mp124 rfl) rfl ly77 rfl (mm_u_same) <|
  mm_E.if1 (mm_atc mc124 rfl) (by decide) (ic_eqF (by decide)) rfl <|
  mm_E.iconst (mm_atc mc124 rfl) <|
  mm_E.iret (mm_atc mc124 rfl) mr124 rfl
theorem p124_0_1 {d : Nat} {X : List Value} {A : MF} {r : MR} {x1 z0 : Int} (s0 : mm_E 1 d 97 0 [(0, .ref 77)] [] (mm_w X A) (.inl (some (mI z0)), mm_w X A, 0, 0)) (H : R32 x1 ∧ 0 ≤ x1 ∧ R32 (A 77 1) ∧ x1 < A 77 1 ∧ R32 z0 ∧ z0 ≤ 65536) (h : mm_E 1 (d + 1) 124 46 [(0, .ref 77), (1, mI x1), (2, mI z0), (3, mI 0), (4, mI 0)] [] (mm_w X (mm_u A 77 0 0)) r) : mm_E 1 (d + 1) 124 0 [(0, .ref 77), (1, mI x1)] [] (mm_w X A) r := by
  obtain ⟨h0, h1, h2, h3, h4, h5⟩ := H
  exact mm_E.aload_n (mm_atc mc124 rfl) rfl <|
  mm_E.callV0 (mm_atc mc124 rfl) (mm_plc mp124 rfl) rfl mk97 ly77 rfl mx97 rfl rfl s0 (by omega) <|
  show mm_E _ _ 124 4 _ _ _ _ from
  mm_E.istore_n mx124 rfl (mm_atc mc124 rfl) <|
  show mm_E _ _ 124 5 [(2, mI z0), (0, .ref 77), (1, mI x1)] _ _ _ from
  mm_E.aload_n (mm_atc mc124 rfl) rfl <|
  mm_E.aload_n (mm_atc mc124 rfl) rfl <|
  mm_E.iload_n (mm_atc mc124 rfl) rfl <|
  mm_E.callV0 (mm_atc mc124 rfl) (mm_plc mp124 rfl) rfl mk112 ly77 rfl mx112 rfl rfl (p112_0_1 (d := d) ⟨h0, h1, h2, h3⟩) (by omega) <|
  show mm_E _ _ 124 11 _ _ _ _ from
  mm_E.if1 (mm_atc mc124 rfl) (by decide) (ic_eqT (by decide)) rfl <|
  mm_E.iload_n (mm_atc mc124 rfl) rfl <|
  mm_E.ldc (mm_atc mc124 rfl) (mm_plc mp124 rfl) <|
  mm_E.if2 (mm_atc mc124 rfl) h4 (by decide) (ic_leT h5) rfl <|
  mm_E.iconst (mm_atc mc124 rfl) <|
  mm_E.putI (fi := 0) (z := 0) (mm_atc mc124 rfl) (mm_plc mp124 rfl) ly77 rfl rfl rfl (mm_fit_i rfl) rfl <|
  mm_E.aload_n (mm_atc mc124 rfl) rfl <|
  mm_E.getI (z := 0) (mm_atc mc124 rfl) (mm_plc mp124 rfl) rfl ly77 rfl (mm_u_same) <|
  mm_E.if1 (mm_atc mc124 rfl) (by decide) (ic_eqT (by decide)) rfl <|
  mm_E.iconst (mm_atc mc124 rfl) <|
  mm_E.istore_n mx124 rfl (mm_atc mc124 rfl) <|
  show mm_E _ _ 124 43 [(3, mI 0), (2, mI z0), (0, .ref 77), (1, mI x1)] _ _ _ from
  mm_E.iconst (mm_atc mc124 rfl) <|
  mm_E.istore mx124 rfl (mm_atc mc124 rfl) <|
  show mm_E _ _ 124 46 [(4, mI 0), (3, mI 0), (2, mI z0), (0, .ref 77), (1, mI x1)] _ _ _ from
  mm_E.to h ⟨rfl, rfl, rfl, rfl, rfl, trivial⟩
theorem p124_0_2 {d : Nat} {X : List Value} {A : MF} {x1 z0 : Int} (s0 : mm_E 1 d 97 0 [(0, .ref 77)] [] (mm_w X A) (.inl (some (mI z0)), mm_w X A, 0, 0)) (H : R32 x1 ∧ 0 ≤ x1 ∧ R32 (A 77 1) ∧ x1 < A 77 1 ∧ R32 z0 ∧ 65536 < z0) : mm_E 1 (d + 1) 124 0 [(0, .ref 77), (1, mI x1)] [] (mm_w X A) (.inl (some (mI 0)), mm_w X (mm_u A 77 0 2), 0, 0) := by
  obtain ⟨h0, h1, h2, h3, h4, h5⟩ := H
  exact mm_E.aload_n (mm_atc mc124 rfl) rfl <|
  mm_E.callV0 (mm_atc mc124 rfl) (mm_plc mp124 rfl) rfl mk97 ly77 rfl mx97 rfl rfl s0 (by omega) <|
  show mm_E _ _ 124 4 _ _ _ _ from
  mm_E.istore_n mx124 rfl (mm_atc mc124 rfl) <|
  show mm_E _ _ 124 5 [(2, mI z0), (0, .ref 77), (1, mI x1)] _ _ _ from
  mm_E.aload_n (mm_atc mc124 rfl) rfl <|
  mm_E.aload_n (mm_atc mc124 rfl) rfl <|
  mm_E.iload_n (mm_atc mc124 rfl) rfl <|
  mm_E.callV0 (mm_atc mc124 rfl) (mm_plc mp124 rfl) rfl mk112 ly77 rfl mx112 rfl rfl (p112_0_1 (d := d) ⟨h0, h1, h2, h3⟩) (by omega) <|
  show mm_E _ _ 124 11 _ _ _ _ from
  mm_E.if1 (mm_atc mc124 rfl) (by decide) (ic_eqT (by decide)) rfl <|
  mm_E.iload_n (mm_atc mc124 rfl) rfl <|
  mm_E.ldc (mm_atc mc124 rfl) (mm_plc mp124 rfl) <|
  mm_E.if2 (mm_atc mc124 rfl) h4 (by decide) (ic_leF h5) rfl <|
  mm_E.iconst (mm_atc mc124 rfl) <|
  mm_E.goto (mm_atc mc124 rfl) rfl <|
  mm_E.putI (fi := 0) (z := 2) (mm_atc mc124 rfl) (mm_plc mp124 rfl) ly77 rfl rfl rfl (mm_fit_i rfl) rfl <|
  mm_E.aload_n (mm_atc mc124 rfl) rfl <|
  mm_E.getI (z := 2) (mm_atc mc124 rfl) (mm_plc mp124 rfl) rfl ly77 rfl (mm_u_same) <|
  mm_E.if1 (mm_atc mc124 rfl) (by decide) (ic_eqF (by decide)) rfl <|
  mm_E.iconst (mm_atc mc124 rfl) <|
  mm_E.iret (mm_atc mc124 rfl) mr124 rfl
theorem p124_0_3 {d : Nat} {X : List Value} {A : MF} {x1 z0 : Int} (s0 : mm_E 1 d 97 0 [(0, .ref 77)] [] (mm_w X A) (.inl (some (mI z0)), mm_w X A, 0, 0)) (H : R32 x1 ∧ 0 ≤ x1 ∧ R32 (A 77 1) ∧ A 77 1 ≤ x1) : mm_E 1 (d + 1) 124 0 [(0, .ref 77), (1, mI x1)] [] (mm_w X A) (.inl (some (mI 0)), mm_w X (mm_u A 77 0 1), 0, 0) := by
  obtain ⟨h0, h1, h2, h3⟩ := H
  exact mm_E.aload_n (mm_atc mc124 rfl) rfl <|
  mm_E.callV0 (mm_atc mc124 rfl) (mm_plc mp124 rfl) rfl mk97 ly77 rfl mx97 rfl rfl s0 (by omega) <|
  show mm_E _ _ 124 4 _ _ _ _ from
  mm_E.istore_n mx124 rfl (mm_atc mc124 rfl) <|
  show mm_E _ _ 124 5 [(2, mI z0), (0, .ref 77), (1, mI x1)] _ _ _ from
  mm_E.aload_n (mm_atc mc124 rfl) rfl <|
  mm_E.aload_n (mm_atc mc124 rfl) rfl <|
  mm_E.iload_n (mm_atc mc124 rfl) rfl <|
  mm_E.callV0 (mm_atc mc124 rfl) (mm_plc mp124 rfl) rfl mk112 ly77 rfl mx112 rfl rfl (p112_0_2 (d := d) ⟨h0, h1, h2, h3⟩) (by omega) <|
  show mm_E _ _ 124 11 _ _ _ _ from
  mm_E.if1 (mm_atc mc124 rfl) (by decide) (ic_eqF (by decide)) rfl <|
  mm_E.iconst (mm_atc mc124 rfl) <|
  mm_E.goto (mm_atc mc124 rfl) rfl <|
  mm_E.putI (fi := 0) (z := 1) (mm_atc mc124 rfl) (mm_plc mp124 rfl) ly77 rfl rfl rfl (mm_fit_i rfl) rfl <|
  mm_E.aload_n (mm_atc mc124 rfl) rfl <|
  mm_E.getI (z := 1) (mm_atc mc124 rfl) (mm_plc mp124 rfl) rfl ly77 rfl (mm_u_same) <|
  mm_E.if1 (mm_atc mc124 rfl) (by decide) (ic_eqF (by decide)) rfl <|
  mm_E.iconst (mm_atc mc124 rfl) <|
  mm_E.iret (mm_atc mc124 rfl) mr124 rfl
theorem p124_46_0 {w d : Nat} {X : List Value} {A : MF} {x1 x2 x3 x4 : Int} (H : R32 x4 ∧ R32 x2 ∧ x2 ≤ x4) : mm_E w d 124 46 [(0, .ref 77), (1, mI x1), (2, mI x2), (3, mI x3), (4, mI x4)] [] (mm_w X A) (.inl (some (mI x3)), mm_w X A, 0, 0) := by
  obtain ⟨h0, h1, h2⟩ := H
  exact mm_E.iload (mm_atc mc124 rfl) rfl <|
  mm_E.iload_n (mm_atc mc124 rfl) rfl <|
  mm_E.if2 (mm_atc mc124 rfl) h0 h1 (ic_geT h2) rfl <|
  mm_E.iload_n (mm_atc mc124 rfl) rfl <|
  mm_E.iret (mm_atc mc124 rfl) mr124 rfl
theorem p124_46_1 {d : Nat} {X : List Value} {A : MF} {r : MR} {x1 x2 x3 x4 : Int} {A0 : MF} (s0 : mm_E 1 d 98 0 [(0, .ref 77), (1, mI x4)] [] (mm_w X A) (.inl (none), mm_w X A0, 0, 0)) (H : R32 x4 ∧ R32 x2 ∧ x4 < x2) (h : mm_E 1 (d + 1) 124 61 [(0, .ref 77), (1, mI x1), (2, mI x2), (3, mI x3), (4, mI x4), (5, mI 0)] [] (mm_w X A0) r) : mm_E 1 (d + 1) 124 46 [(0, .ref 77), (1, mI x1), (2, mI x2), (3, mI x3), (4, mI x4)] [] (mm_w X A) r := by
  obtain ⟨h0, h1, h2⟩ := H
  exact mm_E.iload (mm_atc mc124 rfl) rfl <|
  mm_E.iload_n (mm_atc mc124 rfl) rfl <|
  mm_E.if2 (mm_atc mc124 rfl) h0 h1 (ic_geF h2) rfl <|
  mm_E.aload_n (mm_atc mc124 rfl) rfl <|
  mm_E.iload (mm_atc mc124 rfl) rfl <|
  mm_E.callV0 (mm_atc mc124 rfl) (mm_plc mp124 rfl) rfl mk98 ly77 rfl mx98 rfl rfl s0 (by omega) <|
  show mm_E _ _ 124 58 _ _ _ _ from
  mm_E.iconst (mm_atc mc124 rfl) <|
  mm_E.istore mx124 rfl (mm_atc mc124 rfl) <|
  show mm_E _ _ 124 61 [(5, mI 0), (0, .ref 77), (1, mI x1), (2, mI x2), (3, mI x3), (4, mI x4)] _ _ _ from
  mm_E.to h ⟨rfl, rfl, rfl, rfl, rfl, rfl, trivial⟩
theorem p124_61_0 {w d : Nat} {X : List Value} {A : MF} {r : MR} {x1 x2 x3 x4 x5 : Int} (H : R32 x5 ∧ R32 (A 77 1) ∧ A 77 1 ≤ x5) (h : mm_E w d 124 87 [(0, .ref 77), (1, mI x1), (2, mI x2), (3, mI x3), (4, mI x4), (5, mI 0)] [] (mm_w X A) r) : mm_E w d 124 61 [(0, .ref 77), (1, mI x1), (2, mI x2), (3, mI x3), (4, mI x4), (5, mI x5)] [] (mm_w X A) r := by
  obtain ⟨h0, h1, h2⟩ := H
  exact mm_E.iload (mm_atc mc124 rfl) rfl <|
  mm_E.aload_n (mm_atc mc124 rfl) rfl <|
  mm_E.getI (z := A 77 1) (mm_atc mc124 rfl) (mm_plc mp124 rfl) rfl ly77 rfl (rfl) <|
  mm_E.if2 (mm_atc mc124 rfl) h0 h1 (ic_geT h2) rfl <|
  mm_E.iconst (mm_atc mc124 rfl) <|
  mm_E.istore mx124 rfl (mm_atc mc124 rfl) <|
  show mm_E _ _ 124 87 [(5, mI 0), (0, .ref 77), (1, mI x1), (2, mI x2), (3, mI x3), (4, mI x4)] _ _ _ from
  mm_E.to h ⟨rfl, rfl, rfl, rfl, rfl, rfl, trivial⟩
theorem p124_61_1 {d : Nat} {X : List Value} {A : MF} {r : MR} {x1 x2 x3 x4 x5 : Int} (H : R32 x5 ∧ R32 (A 77 1) ∧ x5 < A 77 1 ∧ 0 ≤ x5 ∧ x5 < 6) (h : mm_E 1 d 124 61 [(0, .ref 77), (1, mI x1), (2, mI x2), (3, mI x3), (4, mI x4), (5, mI (x5 + 1))] [] (mm_w X (mm_u A 81 x5 0)) r) : mm_E 1 d 124 61 [(0, .ref 77), (1, mI x1), (2, mI x2), (3, mI x3), (4, mI x4), (5, mI x5)] [] (mm_w X A) r := by
  obtain ⟨h0, h1, h2, h3, h4⟩ := H
  exact mm_E.iload (mm_atc mc124 rfl) rfl <|
  mm_E.aload_n (mm_atc mc124 rfl) rfl <|
  mm_E.getI (z := A 77 1) (mm_atc mc124 rfl) (mm_plc mp124 rfl) rfl ly77 rfl (rfl) <|
  mm_E.if2 (mm_atc mc124 rfl) h0 h1 (ic_geF h2) rfl <|
  mm_E.aload_n (mm_atc mc124 rfl) rfl <|
  mm_E.getR (b := 81) (mm_atc mc124 rfl) (mm_plc mp124 rfl) rfl ly77 rfl <|
  mm_E.iload (mm_atc mc124 rfl) rfl <|
  mm_E.iconst (mm_atc mc124 rfl) <|
  mm_E.iastore (e := x5) (z := 0) (mm_atc mc124 rfl) ly81 rfl h3 h4 rfl rfl <|
  mm_E.inc mx124 rfl (mm_atc mc124 rfl) rfl <|
  show mm_E _ _ 124 81 [(5, mI (x5 + 1)), (0, .ref 77), (1, mI x1), (2, mI x2), (3, mI x3), (4, mI x4)] _ _ _ from
  mm_E.goto (mm_atc mc124 rfl) rfl <|
  mm_E.to h ⟨rfl, rfl, rfl, rfl, rfl, rfl, trivial⟩
theorem p124_87_0 {w d : Nat} {X : List Value} {A : MF} {r : MR} {x1 x2 x3 x4 x5 : Int} (H : R32 x5 ∧ R32 (A 77 2) ∧ A 77 2 ≤ x5) (h : mm_E w d 124 150 [(0, .ref 77), (1, mI x1), (2, mI x2), (3, mI x3), (4, mI x4), (5, mI (A 81 0)), (6, mI 1)] [] (mm_w X A) r) : mm_E w d 124 87 [(0, .ref 77), (1, mI x1), (2, mI x2), (3, mI x3), (4, mI x4), (5, mI x5)] [] (mm_w X A) r := by
  obtain ⟨h0, h1, h2⟩ := H
  exact mm_E.iload (mm_atc mc124 rfl) rfl <|
  mm_E.aload_n (mm_atc mc124 rfl) rfl <|
  mm_E.getI (z := A 77 2) (mm_atc mc124 rfl) (mm_plc mp124 rfl) rfl ly77 rfl (rfl) <|
  mm_E.if2 (mm_atc mc124 rfl) h0 h1 (ic_geT h2) rfl <|
  mm_E.aload_n (mm_atc mc124 rfl) rfl <|
  mm_E.getR (b := 81) (mm_atc mc124 rfl) (mm_plc mp124 rfl) rfl ly77 rfl <|
  mm_E.iconst (mm_atc mc124 rfl) <|
  mm_E.iaload (e := 0) (mm_atc mc124 rfl) ly81 rfl (by decide) (by decide) rfl (rfl) <|
  mm_E.istore mx124 rfl (mm_atc mc124 rfl) <|
  show mm_E _ _ 124 147 [(5, mI (A 81 0)), (0, .ref 77), (1, mI x1), (2, mI x2), (3, mI x3), (4, mI x4)] _ _ _ from
  mm_E.iconst (mm_atc mc124 rfl) <|
  mm_E.istore mx124 rfl (mm_atc mc124 rfl) <|
  show mm_E _ _ 124 150 [(6, mI 1), (5, mI (A 81 0)), (0, .ref 77), (1, mI x1), (2, mI x2), (3, mI x3), (4, mI x4)] _ _ _ from
  mm_E.to h ⟨rfl, rfl, rfl, rfl, rfl, rfl, rfl, trivial⟩
theorem p124_87_1 {d : Nat} {X : List Value} {A : MF} {r : MR} {x1 x2 x3 x4 x5 : Int} (H : R32 x5 ∧ R32 (A 77 2) ∧ x5 < A 77 2 ∧ 0 ≤ x5 ∧ x5 < 12 ∧ 0 ≤ A 80 x5 ∧ A 80 x5 < 6 ∧ 0 ≤ (12 * x1) + x5 ∧ (12 * x1) + x5 < 72) (h : mm_E 1 d 124 87 [(0, .ref 77), (1, mI x1), (2, mI x2), (3, mI x3), (4, mI x4), (5, mI (x5 + 1))] [] (mm_w X (mm_u A 81 (A 80 x5) ((A 81 (A 80 x5)) + (A 78 ((12 * x1) + x5))))) r) : mm_E 1 d 124 87 [(0, .ref 77), (1, mI x1), (2, mI x2), (3, mI x3), (4, mI x4), (5, mI x5)] [] (mm_w X A) r := by
  obtain ⟨h0, h1, h2, h3, h4, h5, h6, h7, h8⟩ := H
  exact mm_E.iload (mm_atc mc124 rfl) rfl <|
  mm_E.aload_n (mm_atc mc124 rfl) rfl <|
  mm_E.getI (z := A 77 2) (mm_atc mc124 rfl) (mm_plc mp124 rfl) rfl ly77 rfl (rfl) <|
  mm_E.if2 (mm_atc mc124 rfl) h0 h1 (ic_geF h2) rfl <|
  mm_E.aload_n (mm_atc mc124 rfl) rfl <|
  mm_E.getR (b := 81) (mm_atc mc124 rfl) (mm_plc mp124 rfl) rfl ly77 rfl <|
  mm_E.aload_n (mm_atc mc124 rfl) rfl <|
  mm_E.getR (b := 80) (mm_atc mc124 rfl) (mm_plc mp124 rfl) rfl ly77 rfl <|
  mm_E.iload (mm_atc mc124 rfl) rfl <|
  mm_E.iaload (e := x5) (mm_atc mc124 rfl) ly80 rfl h3 h4 rfl (rfl) <|
  mm_E.aload_n (mm_atc mc124 rfl) rfl <|
  mm_E.getR (b := 81) (mm_atc mc124 rfl) (mm_plc mp124 rfl) rfl ly77 rfl <|
  mm_E.aload_n (mm_atc mc124 rfl) rfl <|
  mm_E.getR (b := 80) (mm_atc mc124 rfl) (mm_plc mp124 rfl) rfl ly77 rfl <|
  mm_E.iload (mm_atc mc124 rfl) rfl <|
  mm_E.iaload (e := x5) (mm_atc mc124 rfl) ly80 rfl h3 h4 rfl (rfl) <|
  mm_E.iaload (e := A 80 x5) (mm_atc mc124 rfl) ly81 rfl h5 h6 rfl (rfl) <|
  mm_E.aload_n (mm_atc mc124 rfl) rfl <|
  mm_E.getR (b := 78) (mm_atc mc124 rfl) (mm_plc mp124 rfl) rfl ly77 rfl <|
  mm_E.bipush (mm_atc mc124 rfl) rfl <|
  mm_E.iload_n (mm_atc mc124 rfl) rfl <|
  mm_E.imul (mm_atc mc124 rfl) <|
  mm_E.iload (mm_atc mc124 rfl) rfl <|
  mm_E.iadd (mm_atc mc124 rfl) <|
  mm_E.iaload (e := (12 * x1) + x5) (mm_atc mc124 rfl) ly78 rfl h7 h8 rfl (rfl) <|
  mm_E.iadd (mm_atc mc124 rfl) <|
  mm_E.iastore (e := A 80 x5) (z := (A 81 (A 80 x5)) + (A 78 ((12 * x1) + x5))) (mm_atc mc124 rfl) ly81 rfl h5 h6 rfl rfl <|
  mm_E.inc mx124 rfl (mm_atc mc124 rfl) rfl <|
  show mm_E _ _ 124 136 [(5, mI (x5 + 1)), (0, .ref 77), (1, mI x1), (2, mI x2), (3, mI x3), (4, mI x4)] _ _ _ from
  mm_E.goto (mm_atc mc124 rfl) rfl <|
  mm_E.to h ⟨rfl, rfl, rfl, rfl, rfl, rfl, trivial⟩
theorem p124_150_0 {w d : Nat} {X : List Value} {A : MF} {r : MR} {x1 x2 x3 x4 x5 x6 : Int} (H : R32 x6 ∧ R32 (A 77 1) ∧ A 77 1 ≤ x6 ∧ R32 x5 ∧ R32 x3 ∧ x5 ≤ x3) (h : mm_E w d 124 46 [(0, .ref 77), (1, mI x1), (2, mI x2), (3, mI x3), (4, mI (x4 + 1))] [] (mm_w X A) r) : mm_E w d 124 150 [(0, .ref 77), (1, mI x1), (2, mI x2), (3, mI x3), (4, mI x4), (5, mI x5), (6, mI x6)] [] (mm_w X A) r := by
  obtain ⟨h0, h1, h2, h3, h4, h5⟩ := H
  exact mm_E.iload (mm_atc mc124 rfl) rfl <|
  mm_E.aload_n (mm_atc mc124 rfl) rfl <|
  mm_E.getI (z := A 77 1) (mm_atc mc124 rfl) (mm_plc mp124 rfl) rfl ly77 rfl (rfl) <|
  mm_E.if2 (mm_atc mc124 rfl) h0 h1 (ic_geT h2) rfl <|
  mm_E.iload (mm_atc mc124 rfl) rfl <|
  mm_E.iload_n (mm_atc mc124 rfl) rfl <|
  mm_E.if2 (mm_atc mc124 rfl) h3 h4 (ic_leT h5) rfl <|
  mm_E.inc mx124 rfl (mm_atc mc124 rfl) rfl <|
  show mm_E _ _ 124 198 [(4, mI (x4 + 1)), (0, .ref 77), (1, mI x1), (2, mI x2), (3, mI x3), (5, mI x5), (6, mI x6)] _ _ _ from
  mm_E.goto (mm_atc mc124 rfl) rfl <|
  mm_E.to h ⟨rfl, rfl, rfl, rfl, rfl, trivial⟩
theorem p124_150_1 {w d : Nat} {X : List Value} {A : MF} {r : MR} {x1 x2 x3 x4 x5 x6 : Int} (H : R32 x6 ∧ R32 (A 77 1) ∧ A 77 1 ≤ x6 ∧ R32 x5 ∧ R32 x3 ∧ x3 < x5) (h : mm_E w d 124 46 [(0, .ref 77), (1, mI x1), (2, mI x2), (3, mI x5), (4, mI (x4 + 1))] [] (mm_w X A) r) : mm_E w d 124 150 [(0, .ref 77), (1, mI x1), (2, mI x2), (3, mI x3), (4, mI x4), (5, mI x5), (6, mI x6)] [] (mm_w X A) r := by
  obtain ⟨h0, h1, h2, h3, h4, h5⟩ := H
  exact mm_E.iload (mm_atc mc124 rfl) rfl <|
  mm_E.aload_n (mm_atc mc124 rfl) rfl <|
  mm_E.getI (z := A 77 1) (mm_atc mc124 rfl) (mm_plc mp124 rfl) rfl ly77 rfl (rfl) <|
  mm_E.if2 (mm_atc mc124 rfl) h0 h1 (ic_geT h2) rfl <|
  mm_E.iload (mm_atc mc124 rfl) rfl <|
  mm_E.iload_n (mm_atc mc124 rfl) rfl <|
  mm_E.if2 (mm_atc mc124 rfl) h3 h4 (ic_leF h5) rfl <|
  mm_E.iload (mm_atc mc124 rfl) rfl <|
  mm_E.istore_n mx124 rfl (mm_atc mc124 rfl) <|
  show mm_E _ _ 124 195 [(3, mI x5), (0, .ref 77), (1, mI x1), (2, mI x2), (4, mI x4), (5, mI x5), (6, mI x6)] _ _ _ from
  mm_E.inc mx124 rfl (mm_atc mc124 rfl) rfl <|
  show mm_E _ _ 124 198 [(4, mI (x4 + 1)), (3, mI x5), (0, .ref 77), (1, mI x1), (2, mI x2), (5, mI x5), (6, mI x6)] _ _ _ from
  mm_E.goto (mm_atc mc124 rfl) rfl <|
  mm_E.to h ⟨rfl, rfl, rfl, rfl, rfl, trivial⟩
theorem p124_150_2 {w d : Nat} {X : List Value} {A : MF} {r : MR} {x1 x2 x3 x4 x5 x6 : Int} (H : R32 x6 ∧ R32 (A 77 1) ∧ x6 < A 77 1 ∧ 0 ≤ x6 ∧ x6 < 6 ∧ R32 (A 81 x6) ∧ R32 x5 ∧ x5 ≤ A 81 x6) (h : mm_E w d 124 150 [(0, .ref 77), (1, mI x1), (2, mI x2), (3, mI x3), (4, mI x4), (5, mI x5), (6, mI (x6 + 1))] [] (mm_w X A) r) : mm_E w d 124 150 [(0, .ref 77), (1, mI x1), (2, mI x2), (3, mI x3), (4, mI x4), (5, mI x5), (6, mI x6)] [] (mm_w X A) r := by
  obtain ⟨h0, h1, h2, h3, h4, h5, h6, h7⟩ := H
  exact mm_E.iload (mm_atc mc124 rfl) rfl <|
  mm_E.aload_n (mm_atc mc124 rfl) rfl <|
  mm_E.getI (z := A 77 1) (mm_atc mc124 rfl) (mm_plc mp124 rfl) rfl ly77 rfl (rfl) <|
  mm_E.if2 (mm_atc mc124 rfl) h0 h1 (ic_geF h2) rfl <|
  mm_E.aload_n (mm_atc mc124 rfl) rfl <|
  mm_E.getR (b := 81) (mm_atc mc124 rfl) (mm_plc mp124 rfl) rfl ly77 rfl <|
  mm_E.iload (mm_atc mc124 rfl) rfl <|
  mm_E.iaload (e := x6) (mm_atc mc124 rfl) ly81 rfl h3 h4 rfl (rfl) <|
  mm_E.iload (mm_atc mc124 rfl) rfl <|
  mm_E.if2 (mm_atc mc124 rfl) h5 h6 (ic_geT h7) rfl <|
  mm_E.inc mx124 rfl (mm_atc mc124 rfl) rfl <|
  show mm_E _ _ 124 183 [(6, mI (x6 + 1)), (0, .ref 77), (1, mI x1), (2, mI x2), (3, mI x3), (4, mI x4), (5, mI x5)] _ _ _ from
  mm_E.goto (mm_atc mc124 rfl) rfl <|
  mm_E.to h ⟨rfl, rfl, rfl, rfl, rfl, rfl, rfl, trivial⟩
theorem p124_150_3 {w d : Nat} {X : List Value} {A : MF} {r : MR} {x1 x2 x3 x4 x5 x6 : Int} (H : R32 x6 ∧ R32 (A 77 1) ∧ x6 < A 77 1 ∧ 0 ≤ x6 ∧ x6 < 6 ∧ R32 (A 81 x6) ∧ R32 x5 ∧ A 81 x6 < x5) (h : mm_E w d 124 150 [(0, .ref 77), (1, mI x1), (2, mI x2), (3, mI x3), (4, mI x4), (5, mI (A 81 x6)), (6, mI (x6 + 1))] [] (mm_w X A) r) : mm_E w d 124 150 [(0, .ref 77), (1, mI x1), (2, mI x2), (3, mI x3), (4, mI x4), (5, mI x5), (6, mI x6)] [] (mm_w X A) r := by
  obtain ⟨h0, h1, h2, h3, h4, h5, h6, h7⟩ := H
  exact mm_E.iload (mm_atc mc124 rfl) rfl <|
  mm_E.aload_n (mm_atc mc124 rfl) rfl <|
  mm_E.getI (z := A 77 1) (mm_atc mc124 rfl) (mm_plc mp124 rfl) rfl ly77 rfl (rfl) <|
  mm_E.if2 (mm_atc mc124 rfl) h0 h1 (ic_geF h2) rfl <|
  mm_E.aload_n (mm_atc mc124 rfl) rfl <|
  mm_E.getR (b := 81) (mm_atc mc124 rfl) (mm_plc mp124 rfl) rfl ly77 rfl <|
  mm_E.iload (mm_atc mc124 rfl) rfl <|
  mm_E.iaload (e := x6) (mm_atc mc124 rfl) ly81 rfl h3 h4 rfl (rfl) <|
  mm_E.iload (mm_atc mc124 rfl) rfl <|
  mm_E.if2 (mm_atc mc124 rfl) h5 h6 (ic_geF h7) rfl <|
  mm_E.aload_n (mm_atc mc124 rfl) rfl <|
  mm_E.getR (b := 81) (mm_atc mc124 rfl) (mm_plc mp124 rfl) rfl ly77 rfl <|
  mm_E.iload (mm_atc mc124 rfl) rfl <|
  mm_E.iaload (e := x6) (mm_atc mc124 rfl) ly81 rfl h3 h4 rfl (rfl) <|
  mm_E.istore mx124 rfl (mm_atc mc124 rfl) <|
  show mm_E _ _ 124 180 [(5, mI (A 81 x6)), (0, .ref 77), (1, mI x1), (2, mI x2), (3, mI x3), (4, mI x4), (6, mI x6)] _ _ _ from
  mm_E.inc mx124 rfl (mm_atc mc124 rfl) rfl <|
  show mm_E _ _ 124 183 [(6, mI (x6 + 1)), (5, mI (A 81 x6)), (0, .ref 77), (1, mI x1), (2, mI x2), (3, mI x3), (4, mI x4)] _ _ _ from
  mm_E.goto (mm_atc mc124 rfl) rfl <|
  mm_E.to h ⟨rfl, rfl, rfl, rfl, rfl, rfl, rfl, trivial⟩
theorem p125_0_0 {d : Nat} {X : List Value} {A : MF} {x1 x2 x3 : Int} (H : R32 x3 ∧ x3 < 0) : mm_E 1 d 125 0 [(0, .ref 77), (1, mI x1), (2, mI x2), (3, mI x3)] [] (mm_w X A) (.inl (some (mI 0)), mm_w X (mm_u A 77 0 1), 0, 0) := by
  obtain ⟨h0, h1⟩ := H
  exact mm_E.aload_n (mm_atc mc125 rfl) rfl <|
  mm_E.iload_n (mm_atc mc125 rfl) rfl <|
  mm_E.if1 (mm_atc mc125 rfl) h0 (ic_ltT h1) rfl <|
  mm_E.iconst (mm_atc mc125 rfl) <|
  mm_E.goto (mm_atc mc125 rfl) rfl <|
  mm_E.putI (fi := 0) (z := 1) (mm_atc mc125 rfl) (mm_plc mp125 rfl) ly77 rfl rfl rfl (mm_fit_i rfl) rfl <|
  mm_E.aload_n (mm_atc mc125 rfl) rfl <|
  mm_E.getI (z := 1) (mm_atc mc125 rfl) (mm_plc mp125 rfl) rfl ly77 rfl (mm_u_same) <|
  mm_E.if1 (mm_atc mc125 rfl) (by decide) (ic_eqF (by decide)) rfl <|
  mm_E.iconst (mm_atc mc125 rfl) <|
  mm_E.iret (mm_atc mc125 rfl) mr125 rfl
theorem p125_0_1 {d : Nat} {X : List Value} {A : MF} {x1 x2 x3 : Int} (H : R32 x3 ∧ 0 ≤ x3 ∧ x3 ≤ 100000 ∧ R32 x1 ∧ x1 < 0) : mm_E 1 (d + 1) 125 0 [(0, .ref 77), (1, mI x1), (2, mI x2), (3, mI x3)] [] (mm_w X A) (.inl (some (mI 0)), mm_w X (mm_u A 77 0 2), 0, 0) := by
  obtain ⟨h0, h1, h2, h3, h4⟩ := H
  exact mm_E.aload_n (mm_atc mc125 rfl) rfl <|
  mm_E.iload_n (mm_atc mc125 rfl) rfl <|
  mm_E.if1 (mm_atc mc125 rfl) h0 (ic_ltF h1) rfl <|
  mm_E.iload_n (mm_atc mc125 rfl) rfl <|
  mm_E.ldc (mm_atc mc125 rfl) (mm_plc mp125 rfl) <|
  mm_E.if2 (mm_atc mc125 rfl) h0 (by decide) (ic_leT h2) rfl <|
  mm_E.aload_n (mm_atc mc125 rfl) rfl <|
  mm_E.iload_n (mm_atc mc125 rfl) rfl <|
  mm_E.callV0 (mm_atc mc125 rfl) (mm_plc mp125 rfl) rfl mk112 ly77 rfl mx112 rfl rfl (p112_0_0 (d := d) ⟨h3, h4⟩) (by omega) <|
  show mm_E _ _ 125 20 _ _ _ _ from
  mm_E.if1 (mm_atc mc125 rfl) (by decide) (ic_neT (by decide)) rfl <|
  mm_E.iconst (mm_atc mc125 rfl) <|
  mm_E.goto (mm_atc mc125 rfl) rfl <|
  mm_E.putI (fi := 0) (z := 2) (mm_atc mc125 rfl) (mm_plc mp125 rfl) ly77 rfl rfl rfl (mm_fit_i rfl) rfl <|
  mm_E.aload_n (mm_atc mc125 rfl) rfl <|
  mm_E.getI (z := 2) (mm_atc mc125 rfl) (mm_plc mp125 rfl) rfl ly77 rfl (mm_u_same) <|
  mm_E.if1 (mm_atc mc125 rfl) (by decide) (ic_eqF (by decide)) rfl <|
  mm_E.iconst (mm_atc mc125 rfl) <|
  mm_E.iret (mm_atc mc125 rfl) mr125 rfl
theorem p125_0_2 {d : Nat} {X : List Value} {A : MF} {x1 x2 x3 : Int} (H : R32 x3 ∧ 0 ≤ x3 ∧ x3 ≤ 100000 ∧ R32 x1 ∧ 0 ≤ x1 ∧ R32 (A 77 1) ∧ x1 < A 77 1 ∧ R32 x2 ∧ x2 < 0) : mm_E 1 (d + 1) 125 0 [(0, .ref 77), (1, mI x1), (2, mI x2), (3, mI x3)] [] (mm_w X A) (.inl (some (mI 0)), mm_w X (mm_u A 77 0 2), 0, 0) := by
  obtain ⟨h0, h1, h2, h3, h4, h5, h6, h7, h8⟩ := H
  exact mm_E.aload_n (mm_atc mc125 rfl) rfl <|
  mm_E.iload_n (mm_atc mc125 rfl) rfl <|
  mm_E.if1 (mm_atc mc125 rfl) h0 (ic_ltF h1) rfl <|
  mm_E.iload_n (mm_atc mc125 rfl) rfl <|
  mm_E.ldc (mm_atc mc125 rfl) (mm_plc mp125 rfl) <|
  mm_E.if2 (mm_atc mc125 rfl) h0 (by decide) (ic_leT h2) rfl <|
  mm_E.aload_n (mm_atc mc125 rfl) rfl <|
  mm_E.iload_n (mm_atc mc125 rfl) rfl <|
  mm_E.callV0 (mm_atc mc125 rfl) (mm_plc mp125 rfl) rfl mk112 ly77 rfl mx112 rfl rfl (p112_0_1 (d := d) ⟨h3, h4, h5, h6⟩) (by omega) <|
  show mm_E _ _ 125 20 _ _ _ _ from
  mm_E.if1 (mm_atc mc125 rfl) (by decide) (ic_neF (by decide)) rfl <|
  mm_E.aload_n (mm_atc mc125 rfl) rfl <|
  mm_E.iload_n (mm_atc mc125 rfl) rfl <|
  mm_E.callV0 (mm_atc mc125 rfl) (mm_plc mp125 rfl) rfl mk112 ly77 rfl mx112 rfl rfl (p112_0_0 (d := d) ⟨h7, h8⟩) (by omega) <|
  show mm_E _ _ 125 28 _ _ _ _ from
  mm_E.if1 (mm_atc mc125 rfl) (by decide) (ic_eqF (by decide)) rfl <|
  mm_E.iconst (mm_atc mc125 rfl) <|
  mm_E.goto (mm_atc mc125 rfl) rfl <|
  mm_E.putI (fi := 0) (z := 2) (mm_atc mc125 rfl) (mm_plc mp125 rfl) ly77 rfl rfl rfl (mm_fit_i rfl) rfl <|
  mm_E.aload_n (mm_atc mc125 rfl) rfl <|
  mm_E.getI (z := 2) (mm_atc mc125 rfl) (mm_plc mp125 rfl) rfl ly77 rfl (mm_u_same) <|
  mm_E.if1 (mm_atc mc125 rfl) (by decide) (ic_eqF (by decide)) rfl <|
  mm_E.iconst (mm_atc mc125 rfl) <|
  mm_E.iret (mm_atc mc125 rfl) mr125 rfl
theorem p125_0_3 {d : Nat} {X : List Value} {A : MF} {x1 x2 x3 : Int} (H : R32 x3 ∧ 0 ≤ x3 ∧ x3 ≤ 100000 ∧ R32 x1 ∧ 0 ≤ x1 ∧ R32 (A 77 1) ∧ x1 < A 77 1 ∧ R32 x2 ∧ 0 ≤ x2 ∧ x2 < A 77 1 ∧ 0 ≤ (6 * x1) + x2 ∧ (6 * x1) + x2 < 36) : mm_E 1 (d + 1) 125 0 [(0, .ref 77), (1, mI x1), (2, mI x2), (3, mI x3)] [] (mm_w X A) (.inl (some (mI (A 82 ((6 * x1) + x2)))), mm_w X (mm_u (mm_u A 77 0 0) 82 ((6 * x1) + x2) x3), 0, 0) := by
  obtain ⟨h0, h1, h2, h3, h4, h5, h6, h7, h8, h9, h10, h11⟩ := H
  exact mm_E.aload_n (mm_atc mc125 rfl) rfl <|
  mm_E.iload_n (mm_atc mc125 rfl) rfl <|
  mm_E.if1 (mm_atc mc125 rfl) h0 (ic_ltF h1) rfl <|
  mm_E.iload_n (mm_atc mc125 rfl) rfl <|
  mm_E.ldc (mm_atc mc125 rfl) (mm_plc mp125 rfl) <|
  mm_E.if2 (mm_atc mc125 rfl) h0 (by decide) (ic_leT h2) rfl <|
  mm_E.aload_n (mm_atc mc125 rfl) rfl <|
  mm_E.iload_n (mm_atc mc125 rfl) rfl <|
  mm_E.callV0 (mm_atc mc125 rfl) (mm_plc mp125 rfl) rfl mk112 ly77 rfl mx112 rfl rfl (p112_0_1 (d := d) ⟨h3, h4, h5, h6⟩) (by omega) <|
  show mm_E _ _ 125 20 _ _ _ _ from
  mm_E.if1 (mm_atc mc125 rfl) (by decide) (ic_neF (by decide)) rfl <|
  mm_E.aload_n (mm_atc mc125 rfl) rfl <|
  mm_E.iload_n (mm_atc mc125 rfl) rfl <|
  mm_E.callV0 (mm_atc mc125 rfl) (mm_plc mp125 rfl) rfl mk112 ly77 rfl mx112 rfl rfl (p112_0_1 (d := d) ⟨h7, h8, h5, h9⟩) (by omega) <|
  show mm_E _ _ 125 28 _ _ _ _ from
  mm_E.if1 (mm_atc mc125 rfl) (by decide) (ic_eqT (by decide)) rfl <|
  mm_E.iconst (mm_atc mc125 rfl) <|
  mm_E.putI (fi := 0) (z := 0) (mm_atc mc125 rfl) (mm_plc mp125 rfl) ly77 rfl rfl rfl (mm_fit_i rfl) rfl <|
  mm_E.aload_n (mm_atc mc125 rfl) rfl <|
  mm_E.getI (z := 0) (mm_atc mc125 rfl) (mm_plc mp125 rfl) rfl ly77 rfl (mm_u_same) <|
  mm_E.if1 (mm_atc mc125 rfl) (by decide) (ic_eqT (by decide)) rfl <|
  mm_E.aload_n (mm_atc mc125 rfl) rfl <|
  mm_E.getR (b := 82) (mm_atc mc125 rfl) (mm_plc mp125 rfl) rfl ly77 rfl <|
  mm_E.bipush (mm_atc mc125 rfl) rfl <|
  mm_E.iload_n (mm_atc mc125 rfl) rfl <|
  mm_E.imul (mm_atc mc125 rfl) <|
  mm_E.iload_n (mm_atc mc125 rfl) rfl <|
  mm_E.iadd (mm_atc mc125 rfl) <|
  mm_E.iaload (e := (6 * x1) + x2) (mm_atc mc125 rfl) ly82 rfl h10 h11 rfl ((mm_u_ne (.inl (by decide))).trans (rfl)) <|
  mm_E.istore mx125 rfl (mm_atc mc125 rfl) <|
  show mm_E _ _ 125 61 [(4, mI (A 82 ((6 * x1) + x2))), (0, .ref 77), (1, mI x1), (2, mI x2), (3, mI x3)] _ _ _ from
  mm_E.aload_n (mm_atc mc125 rfl) rfl <|
  mm_E.getR (b := 82) (mm_atc mc125 rfl) (mm_plc mp125 rfl) rfl ly77 rfl <|
  mm_E.bipush (mm_atc mc125 rfl) rfl <|
  mm_E.iload_n (mm_atc mc125 rfl) rfl <|
  mm_E.imul (mm_atc mc125 rfl) <|
  mm_E.iload_n (mm_atc mc125 rfl) rfl <|
  mm_E.iadd (mm_atc mc125 rfl) <|
  mm_E.iload_n (mm_atc mc125 rfl) rfl <|
  mm_E.iastore (e := (6 * x1) + x2) (z := x3) (mm_atc mc125 rfl) ly82 rfl h10 h11 rfl rfl <|
  mm_E.iload (mm_atc mc125 rfl) rfl <|
  mm_E.iret (mm_atc mc125 rfl) mr125 rfl
theorem p125_0_4 {d : Nat} {X : List Value} {A : MF} {x1 x2 x3 : Int} (H : R32 x3 ∧ 0 ≤ x3 ∧ x3 ≤ 100000 ∧ R32 x1 ∧ 0 ≤ x1 ∧ R32 (A 77 1) ∧ x1 < A 77 1 ∧ R32 x2 ∧ 0 ≤ x2 ∧ A 77 1 ≤ x2) : mm_E 1 (d + 1) 125 0 [(0, .ref 77), (1, mI x1), (2, mI x2), (3, mI x3)] [] (mm_w X A) (.inl (some (mI 0)), mm_w X (mm_u A 77 0 2), 0, 0) := by
  obtain ⟨h0, h1, h2, h3, h4, h5, h6, h7, h8, h9⟩ := H
  exact mm_E.aload_n (mm_atc mc125 rfl) rfl <|
  mm_E.iload_n (mm_atc mc125 rfl) rfl <|
  mm_E.if1 (mm_atc mc125 rfl) h0 (ic_ltF h1) rfl <|
  mm_E.iload_n (mm_atc mc125 rfl) rfl <|
  mm_E.ldc (mm_atc mc125 rfl) (mm_plc mp125 rfl) <|
  mm_E.if2 (mm_atc mc125 rfl) h0 (by decide) (ic_leT h2) rfl <|
  mm_E.aload_n (mm_atc mc125 rfl) rfl <|
  mm_E.iload_n (mm_atc mc125 rfl) rfl <|
  mm_E.callV0 (mm_atc mc125 rfl) (mm_plc mp125 rfl) rfl mk112 ly77 rfl mx112 rfl rfl (p112_0_1 (d := d) ⟨h3, h4, h5, h6⟩) (by omega) <|
  show mm_E _ _ 125 20 _ _ _ _ from
  mm_E.if1 (mm_atc mc125 rfl) (by decide) (ic_neF (by decide)) rfl <|
  mm_E.aload_n (mm_atc mc125 rfl) rfl <|
  mm_E.iload_n (mm_atc mc125 rfl) rfl <|
  mm_E.callV0 (mm_atc mc125 rfl) (mm_plc mp125 rfl) rfl mk112 ly77 rfl mx112 rfl rfl (p112_0_2 (d := d) ⟨h7, h8, h5, h9⟩) (by omega) <|
  show mm_E _ _ 125 28 _ _ _ _ from
  mm_E.if1 (mm_atc mc125 rfl) (by decide) (ic_eqF (by decide)) rfl <|
  mm_E.iconst (mm_atc mc125 rfl) <|
  mm_E.goto (mm_atc mc125 rfl) rfl <|
  mm_E.putI (fi := 0) (z := 2) (mm_atc mc125 rfl) (mm_plc mp125 rfl) ly77 rfl rfl rfl (mm_fit_i rfl) rfl <|
  mm_E.aload_n (mm_atc mc125 rfl) rfl <|
  mm_E.getI (z := 2) (mm_atc mc125 rfl) (mm_plc mp125 rfl) rfl ly77 rfl (mm_u_same) <|
  mm_E.if1 (mm_atc mc125 rfl) (by decide) (ic_eqF (by decide)) rfl <|
  mm_E.iconst (mm_atc mc125 rfl) <|
  mm_E.iret (mm_atc mc125 rfl) mr125 rfl
theorem p125_0_5 {d : Nat} {X : List Value} {A : MF} {x1 x2 x3 : Int} (H : R32 x3 ∧ 0 ≤ x3 ∧ x3 ≤ 100000 ∧ R32 x1 ∧ 0 ≤ x1 ∧ R32 (A 77 1) ∧ A 77 1 ≤ x1) : mm_E 1 (d + 1) 125 0 [(0, .ref 77), (1, mI x1), (2, mI x2), (3, mI x3)] [] (mm_w X A) (.inl (some (mI 0)), mm_w X (mm_u A 77 0 2), 0, 0) := by
  obtain ⟨h0, h1, h2, h3, h4, h5, h6⟩ := H
  exact mm_E.aload_n (mm_atc mc125 rfl) rfl <|
  mm_E.iload_n (mm_atc mc125 rfl) rfl <|
  mm_E.if1 (mm_atc mc125 rfl) h0 (ic_ltF h1) rfl <|
  mm_E.iload_n (mm_atc mc125 rfl) rfl <|
  mm_E.ldc (mm_atc mc125 rfl) (mm_plc mp125 rfl) <|
  mm_E.if2 (mm_atc mc125 rfl) h0 (by decide) (ic_leT h2) rfl <|
  mm_E.aload_n (mm_atc mc125 rfl) rfl <|
  mm_E.iload_n (mm_atc mc125 rfl) rfl <|
  mm_E.callV0 (mm_atc mc125 rfl) (mm_plc mp125 rfl) rfl mk112 ly77 rfl mx112 rfl rfl (p112_0_2 (d := d) ⟨h3, h4, h5, h6⟩) (by omega) <|
  show mm_E _ _ 125 20 _ _ _ _ from
  mm_E.if1 (mm_atc mc125 rfl) (by decide) (ic_neT (by decide)) rfl <|
  mm_E.iconst (mm_atc mc125 rfl) <|
  mm_E.goto (mm_atc mc125 rfl) rfl <|
  mm_E.putI (fi := 0) (z := 2) (mm_atc mc125 rfl) (mm_plc mp125 rfl) ly77 rfl rfl rfl (mm_fit_i rfl) rfl <|
  mm_E.aload_n (mm_atc mc125 rfl) rfl <|
  mm_E.getI (z := 2) (mm_atc mc125 rfl) (mm_plc mp125 rfl) rfl ly77 rfl (mm_u_same) <|
  mm_E.if1 (mm_atc mc125 rfl) (by decide) (ic_eqF (by decide)) rfl <|
  mm_E.iconst (mm_atc mc125 rfl) <|
  mm_E.iret (mm_atc mc125 rfl) mr125 rfl
theorem p125_0_6 {d : Nat} {X : List Value} {A : MF} {x1 x2 x3 : Int} (H : R32 x3 ∧ 0 ≤ x3 ∧ 100000 < x3) : mm_E 1 d 125 0 [(0, .ref 77), (1, mI x1), (2, mI x2), (3, mI x3)] [] (mm_w X A) (.inl (some (mI 0)), mm_w X (mm_u A 77 0 1), 0, 0) := by
  obtain ⟨h0, h1, h2⟩ := H
  exact mm_E.aload_n (mm_atc mc125 rfl) rfl <|
  mm_E.iload_n (mm_atc mc125 rfl) rfl <|
  mm_E.if1 (mm_atc mc125 rfl) h0 (ic_ltF h1) rfl <|
  mm_E.iload_n (mm_atc mc125 rfl) rfl <|
  mm_E.ldc (mm_atc mc125 rfl) (mm_plc mp125 rfl) <|
  mm_E.if2 (mm_atc mc125 rfl) h0 (by decide) (ic_leF h2) rfl <|
  mm_E.iconst (mm_atc mc125 rfl) <|
  mm_E.goto (mm_atc mc125 rfl) rfl <|
  mm_E.putI (fi := 0) (z := 1) (mm_atc mc125 rfl) (mm_plc mp125 rfl) ly77 rfl rfl rfl (mm_fit_i rfl) rfl <|
  mm_E.aload_n (mm_atc mc125 rfl) rfl <|
  mm_E.getI (z := 1) (mm_atc mc125 rfl) (mm_plc mp125 rfl) rfl ly77 rfl (mm_u_same) <|
  mm_E.if1 (mm_atc mc125 rfl) (by decide) (ic_eqF (by decide)) rfl <|
  mm_E.iconst (mm_atc mc125 rfl) <|
  mm_E.iret (mm_atc mc125 rfl) mr125 rfl
theorem p126_0_0 {d : Nat} {X : List Value} {A : MF} {x1 : Int} (H : R32 x1 ∧ x1 < 0) : mm_E 1 d 126 0 [(0, .ref 77), (1, mI x1)] [] (mm_w X A) (.inl (some (mI 0)), mm_w X (mm_u A 77 0 1), 0, 0) := by
  obtain ⟨h0, h1⟩ := H
  exact mm_E.aload_n (mm_atc mc126 rfl) rfl <|
  mm_E.iload_n (mm_atc mc126 rfl) rfl <|
  mm_E.if1 (mm_atc mc126 rfl) h0 (ic_ltT h1) rfl <|
  mm_E.iconst (mm_atc mc126 rfl) <|
  mm_E.goto (mm_atc mc126 rfl) rfl <|
  mm_E.putI (fi := 0) (z := 1) (mm_atc mc126 rfl) (mm_plc mp126 rfl) ly77 rfl rfl rfl (mm_fit_i rfl) rfl <|
  mm_E.aload_n (mm_atc mc126 rfl) rfl <|
  mm_E.getI (z := 1) (mm_atc mc126 rfl) (mm_plc mp126 rfl) rfl ly77 rfl (mm_u_same) <|
  mm_E.if1 (mm_atc mc126 rfl) (by decide) (ic_eqF (by decide)) rfl <|
  mm_E.iconst (mm_atc mc126 rfl) <|
  mm_E.iret (mm_atc mc126 rfl) mr126 rfl
theorem p126_0_1 {d : Nat} {X : List Value} {A : MF} {x1 : Int} (H : R32 x1 ∧ 0 ≤ x1 ∧ x1 ≤ 600000) : mm_E 1 d 126 0 [(0, .ref 77), (1, mI x1)] [] (mm_w X A) (.inl (some (mI (A 77 8))), mm_w X (mm_u (mm_u A 77 0 0) 77 8 x1), 0, 0) := by
  obtain ⟨h0, h1, h2⟩ := H
  exact mm_E.aload_n (mm_atc mc126 rfl) rfl <|
  mm_E.iload_n (mm_atc mc126 rfl) rfl <|
  mm_E.if1 (mm_atc mc126 rfl) h0 (ic_ltF h1) rfl <|
  mm_E.iload_n (mm_atc mc126 rfl) rfl <|
  mm_E.ldc (mm_atc mc126 rfl) (mm_plc mp126 rfl) <|
  mm_E.if2 (mm_atc mc126 rfl) h0 (by decide) (ic_leT h2) rfl <|
  mm_E.iconst (mm_atc mc126 rfl) <|
  mm_E.putI (fi := 0) (z := 0) (mm_atc mc126 rfl) (mm_plc mp126 rfl) ly77 rfl rfl rfl (mm_fit_i rfl) rfl <|
  mm_E.aload_n (mm_atc mc126 rfl) rfl <|
  mm_E.getI (z := 0) (mm_atc mc126 rfl) (mm_plc mp126 rfl) rfl ly77 rfl (mm_u_same) <|
  mm_E.if1 (mm_atc mc126 rfl) (by decide) (ic_eqT (by decide)) rfl <|
  mm_E.aload_n (mm_atc mc126 rfl) rfl <|
  mm_E.getI (z := A 77 8) (mm_atc mc126 rfl) (mm_plc mp126 rfl) rfl ly77 rfl ((mm_u_ne (.inr (by decide))).trans (rfl)) <|
  mm_E.istore_n mx126 rfl (mm_atc mc126 rfl) <|
  show mm_E _ _ 126 33 [(2, mI (A 77 8)), (0, .ref 77), (1, mI x1)] _ _ _ from
  mm_E.aload_n (mm_atc mc126 rfl) rfl <|
  mm_E.iload_n (mm_atc mc126 rfl) rfl <|
  mm_E.putI (fi := 8) (z := x1) (mm_atc mc126 rfl) (mm_plc mp126 rfl) ly77 rfl rfl rfl (mm_fit_i rfl) rfl <|
  mm_E.iload_n (mm_atc mc126 rfl) rfl <|
  mm_E.iret (mm_atc mc126 rfl) mr126 rfl
theorem p126_0_2 {d : Nat} {X : List Value} {A : MF} {x1 : Int} (H : R32 x1 ∧ 0 ≤ x1 ∧ 600000 < x1) : mm_E 1 d 126 0 [(0, .ref 77), (1, mI x1)] [] (mm_w X A) (.inl (some (mI 0)), mm_w X (mm_u A 77 0 1), 0, 0) := by
  obtain ⟨h0, h1, h2⟩ := H
  exact mm_E.aload_n (mm_atc mc126 rfl) rfl <|
  mm_E.iload_n (mm_atc mc126 rfl) rfl <|
  mm_E.if1 (mm_atc mc126 rfl) h0 (ic_ltF h1) rfl <|
  mm_E.iload_n (mm_atc mc126 rfl) rfl <|
  mm_E.ldc (mm_atc mc126 rfl) (mm_plc mp126 rfl) <|
  mm_E.if2 (mm_atc mc126 rfl) h0 (by decide) (ic_leF h2) rfl <|
  mm_E.iconst (mm_atc mc126 rfl) <|
  mm_E.goto (mm_atc mc126 rfl) rfl <|
  mm_E.putI (fi := 0) (z := 1) (mm_atc mc126 rfl) (mm_plc mp126 rfl) ly77 rfl rfl rfl (mm_fit_i rfl) rfl <|
  mm_E.aload_n (mm_atc mc126 rfl) rfl <|
  mm_E.getI (z := 1) (mm_atc mc126 rfl) (mm_plc mp126 rfl) rfl ly77 rfl (mm_u_same) <|
  mm_E.if1 (mm_atc mc126 rfl) (by decide) (ic_eqF (by decide)) rfl <|
  mm_E.iconst (mm_atc mc126 rfl) <|
  mm_E.iret (mm_atc mc126 rfl) mr126 rfl
theorem p127_0_0 {d : Nat} {X : List Value} {A : MF} {r : MR}  (h : mm_E 1 d 127 7 [(0, .ref 77), (1, mI 0)] [] (mm_w X (mm_u A 77 0 0)) r) : mm_E 1 d 127 0 [(0, .ref 77)] [] (mm_w X A) r := by
  exact mm_E.aload_n (mm_atc mc127 rfl) rfl <|
  mm_E.iconst (mm_atc mc127 rfl) <|
  mm_E.putI (fi := 0) (z := 0) (mm_atc mc127 rfl) (mm_plc mp127 rfl) ly77 rfl rfl rfl (mm_fit_i rfl) rfl <|
  mm_E.iconst (mm_atc mc127 rfl) <|
  mm_E.istore_n mx127 rfl (mm_atc mc127 rfl) <|
  show mm_E _ _ 127 7 [(1, mI 0), (0, .ref 77)] _ _ _ from
  mm_E.to h ⟨rfl, rfl, trivial⟩
theorem p127_7_0 {w d : Nat} {X : List Value} {A : MF} {r : MR} {x1 : Int} (H : R32 x1 ∧ R32 (A 77 1) ∧ A 77 1 ≤ x1 ∧ R32 (A 77 0) ∧ A 77 0 = 0) (h : mm_E w d 127 79 [(0, .ref 77), (1, mI 1), (2, mI 2)] [] (mm_w X A) r) : mm_E w d 127 7 [(0, .ref 77), (1, mI x1)] [] (mm_w X A) r := by
  obtain ⟨h0, h1, h2, h3, h4⟩ := H
  exact mm_E.iload_n (mm_atc mc127 rfl) rfl <|
  mm_E.aload_n (mm_atc mc127 rfl) rfl <|
  mm_E.getI (z := A 77 1) (mm_atc mc127 rfl) (mm_plc mp127 rfl) rfl ly77 rfl (rfl) <|
  mm_E.if2 (mm_atc mc127 rfl) h0 h1 (ic_geT h2) rfl <|
  mm_E.aload_n (mm_atc mc127 rfl) rfl <|
  mm_E.getI (z := A 77 0) (mm_atc mc127 rfl) (mm_plc mp127 rfl) rfl ly77 rfl (rfl) <|
  mm_E.if1 (mm_atc mc127 rfl) h3 (ic_eqT h4) rfl <|
  mm_E.iconst (mm_atc mc127 rfl) <|
  mm_E.istore_n mx127 rfl (mm_atc mc127 rfl) <|
  show mm_E _ _ 127 77 [(1, mI 1), (0, .ref 77)] _ _ _ from
  mm_E.iconst (mm_atc mc127 rfl) <|
  mm_E.istore_n mx127 rfl (mm_atc mc127 rfl) <|
  show mm_E _ _ 127 79 [(2, mI 2), (1, mI 1), (0, .ref 77)] _ _ _ from
  mm_E.to h ⟨rfl, rfl, rfl, trivial⟩
theorem p127_7_1 {w d : Nat} {X : List Value} {A : MF} {x1 : Int} (H : R32 x1 ∧ R32 (A 77 1) ∧ A 77 1 ≤ x1 ∧ R32 (A 77 0) ∧ A 77 0 ≠ 0) : mm_E w d 127 7 [(0, .ref 77), (1, mI x1)] [] (mm_w X A) (.inl (some (mI 0)), mm_w X A, 0, 0) := by
  obtain ⟨h0, h1, h2, h3, h4⟩ := H
  exact mm_E.iload_n (mm_atc mc127 rfl) rfl <|
  mm_E.aload_n (mm_atc mc127 rfl) rfl <|
  mm_E.getI (z := A 77 1) (mm_atc mc127 rfl) (mm_plc mp127 rfl) rfl ly77 rfl (rfl) <|
  mm_E.if2 (mm_atc mc127 rfl) h0 h1 (ic_geT h2) rfl <|
  mm_E.aload_n (mm_atc mc127 rfl) rfl <|
  mm_E.getI (z := A 77 0) (mm_atc mc127 rfl) (mm_plc mp127 rfl) rfl ly77 rfl (rfl) <|
  mm_E.if1 (mm_atc mc127 rfl) h3 (ic_eqF h4) rfl <|
  mm_E.iconst (mm_atc mc127 rfl) <|
  mm_E.iret (mm_atc mc127 rfl) mr127 rfl
theorem p127_7_2 {w d : Nat} {X : List Value} {A : MF} {r : MR} {x1 : Int} (H : R32 x1 ∧ R32 (A 77 1) ∧ x1 < A 77 1) (h : mm_E w d 127 19 [(0, .ref 77), (1, mI x1), (2, mI 0), (3, mI 0)] [] (mm_w X A) r) : mm_E w d 127 7 [(0, .ref 77), (1, mI x1)] [] (mm_w X A) r := by
  obtain ⟨h0, h1, h2⟩ := H
  exact mm_E.iload_n (mm_atc mc127 rfl) rfl <|
  mm_E.aload_n (mm_atc mc127 rfl) rfl <|
  mm_E.getI (z := A 77 1) (mm_atc mc127 rfl) (mm_plc mp127 rfl) rfl ly77 rfl (rfl) <|
  mm_E.if2 (mm_atc mc127 rfl) h0 h1 (ic_geF h2) rfl <|
  mm_E.iconst (mm_atc mc127 rfl) <|
  mm_E.istore_n mx127 rfl (mm_atc mc127 rfl) <|
  show mm_E _ _ 127 17 [(2, mI 0), (0, .ref 77), (1, mI x1)] _ _ _ from
  mm_E.iconst (mm_atc mc127 rfl) <|
  mm_E.istore_n mx127 rfl (mm_atc mc127 rfl) <|
  show mm_E _ _ 127 19 [(3, mI 0), (2, mI 0), (0, .ref 77), (1, mI x1)] _ _ _ from
  mm_E.to h ⟨rfl, rfl, rfl, rfl, trivial⟩
theorem p127_79_0 {w d : Nat} {X : List Value} {A : MF} {r : MR} {x1 x2 : Int} (H : R32 x2 ∧ R32 (A 77 1) ∧ A 77 1 < x2) (h : mm_E w d 127 101 [(0, .ref 77), (1, mI x1), (2, mI (-1)), (3, mI 0)] [] (mm_w X A) r) : mm_E w d 127 79 [(0, .ref 77), (1, mI x1), (2, mI x2)] [] (mm_w X A) r := by
  obtain ⟨h0, h1, h2⟩ := H
  exact mm_E.iload_n (mm_atc mc127 rfl) rfl <|
  mm_E.aload_n (mm_atc mc127 rfl) rfl <|
  mm_E.getI (z := A 77 1) (mm_atc mc127 rfl) (mm_plc mp127 rfl) rfl ly77 rfl (rfl) <|
  mm_E.if2 (mm_atc mc127 rfl) h0 h1 (ic_gtT h2) rfl <|
  mm_E.iconst (mm_atc mc127 rfl) <|
  mm_E.istore_n mx127 rfl (mm_atc mc127 rfl) <|
  show mm_E _ _ 127 99 [(2, mI (-1)), (0, .ref 77), (1, mI x1)] _ _ _ from
  mm_E.iconst (mm_atc mc127 rfl) <|
  mm_E.istore_n mx127 rfl (mm_atc mc127 rfl) <|
  show mm_E _ _ 127 101 [(3, mI 0), (2, mI (-1)), (0, .ref 77), (1, mI x1)] _ _ _ from
  mm_E.to h ⟨rfl, rfl, rfl, rfl, trivial⟩
theorem p127_79_1 {w d : Nat} {X : List Value} {A : MF} {r : MR} {x1 x2 : Int} (H : R32 x2 ∧ R32 (A 77 1) ∧ x2 ≤ A 77 1) (h : mm_E w d 127 79 [(0, .ref 77), (1, mI (x1 * x2)), (2, mI (x2 + 1))] [] (mm_w X A) r) : mm_E w d 127 79 [(0, .ref 77), (1, mI x1), (2, mI x2)] [] (mm_w X A) r := by
  obtain ⟨h0, h1, h2⟩ := H
  exact mm_E.iload_n (mm_atc mc127 rfl) rfl <|
  mm_E.aload_n (mm_atc mc127 rfl) rfl <|
  mm_E.getI (z := A 77 1) (mm_atc mc127 rfl) (mm_plc mp127 rfl) rfl ly77 rfl (rfl) <|
  mm_E.if2 (mm_atc mc127 rfl) h0 h1 (ic_gtF h2) rfl <|
  mm_E.iload_n (mm_atc mc127 rfl) rfl <|
  mm_E.iload_n (mm_atc mc127 rfl) rfl <|
  mm_E.imul (mm_atc mc127 rfl) <|
  mm_E.istore_n mx127 rfl (mm_atc mc127 rfl) <|
  show mm_E _ _ 127 91 [(1, mI (x1 * x2)), (0, .ref 77), (2, mI x2)] _ _ _ from
  mm_E.inc mx127 rfl (mm_atc mc127 rfl) rfl <|
  show mm_E _ _ 127 94 [(2, mI (x2 + 1)), (1, mI (x1 * x2)), (0, .ref 77)] _ _ _ from
  mm_E.goto (mm_atc mc127 rfl) rfl <|
  mm_E.to h ⟨rfl, rfl, rfl, trivial⟩
theorem p127_19_0 {w d : Nat} {X : List Value} {A : MF} {r : MR} {x1 x2 x3 : Int} (H : R32 x3 ∧ R32 (A 77 1) ∧ A 77 1 ≤ x3 ∧ R32 x2 ∧ R32 (A 77 8) ∧ x2 = A 77 8) (h : mm_E w d 127 7 [(0, .ref 77), (1, mI (x1 + 1))] [] (mm_w X A) r) : mm_E w d 127 19 [(0, .ref 77), (1, mI x1), (2, mI x2), (3, mI x3)] [] (mm_w X A) r := by
  obtain ⟨h0, h1, h2, h3, h4, h5⟩ := H
  exact mm_E.iload_n (mm_atc mc127 rfl) rfl <|
  mm_E.aload_n (mm_atc mc127 rfl) rfl <|
  mm_E.getI (z := A 77 1) (mm_atc mc127 rfl) (mm_plc mp127 rfl) rfl ly77 rfl (rfl) <|
  mm_E.if2 (mm_atc mc127 rfl) h0 h1 (ic_geT h2) rfl <|
  mm_E.iload_n (mm_atc mc127 rfl) rfl <|
  mm_E.aload_n (mm_atc mc127 rfl) rfl <|
  mm_E.getI (z := A 77 8) (mm_atc mc127 rfl) (mm_plc mp127 rfl) rfl ly77 rfl (rfl) <|
  mm_E.if2 (mm_atc mc127 rfl) h3 h4 (ic_eqT h5) rfl <|
  mm_E.inc mx127 rfl (mm_atc mc127 rfl) rfl <|
  show mm_E _ _ 127 63 [(1, mI (x1 + 1)), (0, .ref 77), (2, mI x2), (3, mI x3)] _ _ _ from
  mm_E.goto (mm_atc mc127 rfl) rfl <|
  mm_E.to h ⟨rfl, rfl, trivial⟩
theorem p127_19_1 {d : Nat} {X : List Value} {A : MF} {r : MR} {x1 x2 x3 : Int} (H : R32 x3 ∧ R32 (A 77 1) ∧ A 77 1 ≤ x3 ∧ R32 x2 ∧ R32 (A 77 8) ∧ x2 ≠ A 77 8) (h : mm_E 1 d 127 7 [(0, .ref 77), (1, mI (x1 + 1))] [] (mm_w X (mm_u A 77 0 1)) r) : mm_E 1 d 127 19 [(0, .ref 77), (1, mI x1), (2, mI x2), (3, mI x3)] [] (mm_w X A) r := by
  obtain ⟨h0, h1, h2, h3, h4, h5⟩ := H
  exact mm_E.iload_n (mm_atc mc127 rfl) rfl <|
  mm_E.aload_n (mm_atc mc127 rfl) rfl <|
  mm_E.getI (z := A 77 1) (mm_atc mc127 rfl) (mm_plc mp127 rfl) rfl ly77 rfl (rfl) <|
  mm_E.if2 (mm_atc mc127 rfl) h0 h1 (ic_geT h2) rfl <|
  mm_E.iload_n (mm_atc mc127 rfl) rfl <|
  mm_E.aload_n (mm_atc mc127 rfl) rfl <|
  mm_E.getI (z := A 77 8) (mm_atc mc127 rfl) (mm_plc mp127 rfl) rfl ly77 rfl (rfl) <|
  mm_E.if2 (mm_atc mc127 rfl) h3 h4 (ic_eqF h5) rfl <|
  mm_E.aload_n (mm_atc mc127 rfl) rfl <|
  mm_E.iconst (mm_atc mc127 rfl) <|
  mm_E.putI (fi := 0) (z := 1) (mm_atc mc127 rfl) (mm_plc mp127 rfl) ly77 rfl rfl rfl (mm_fit_i rfl) rfl <|
  mm_E.inc mx127 rfl (mm_atc mc127 rfl) rfl <|
  show mm_E _ _ 127 63 [(1, mI (x1 + 1)), (0, .ref 77), (2, mI x2), (3, mI x3)] _ _ _ from
  mm_E.goto (mm_atc mc127 rfl) rfl <|
  mm_E.to h ⟨rfl, rfl, trivial⟩
theorem p127_19_2 {w d : Nat} {X : List Value} {A : MF} {r : MR} {x1 x2 x3 : Int} (H : R32 x3 ∧ R32 (A 77 1) ∧ x3 < A 77 1 ∧ 0 ≤ (6 * x1) + x3 ∧ (6 * x1) + x3 < 36) (h : mm_E w d 127 19 [(0, .ref 77), (1, mI x1), (2, mI (x2 + (A 82 ((6 * x1) + x3)))), (3, mI (x3 + 1))] [] (mm_w X A) r) : mm_E w d 127 19 [(0, .ref 77), (1, mI x1), (2, mI x2), (3, mI x3)] [] (mm_w X A) r := by
  obtain ⟨h0, h1, h2, h3, h4⟩ := H
  exact mm_E.iload_n (mm_atc mc127 rfl) rfl <|
  mm_E.aload_n (mm_atc mc127 rfl) rfl <|
  mm_E.getI (z := A 77 1) (mm_atc mc127 rfl) (mm_plc mp127 rfl) rfl ly77 rfl (rfl) <|
  mm_E.if2 (mm_atc mc127 rfl) h0 h1 (ic_geF h2) rfl <|
  mm_E.iload_n (mm_atc mc127 rfl) rfl <|
  mm_E.aload_n (mm_atc mc127 rfl) rfl <|
  mm_E.getR (b := 82) (mm_atc mc127 rfl) (mm_plc mp127 rfl) rfl ly77 rfl <|
  mm_E.bipush (mm_atc mc127 rfl) rfl <|
  mm_E.iload_n (mm_atc mc127 rfl) rfl <|
  mm_E.imul (mm_atc mc127 rfl) <|
  mm_E.iload_n (mm_atc mc127 rfl) rfl <|
  mm_E.iadd (mm_atc mc127 rfl) <|
  mm_E.iaload (e := (6 * x1) + x3) (mm_atc mc127 rfl) ly82 rfl h3 h4 rfl (rfl) <|
  mm_E.iadd (mm_atc mc127 rfl) <|
  mm_E.istore_n mx127 rfl (mm_atc mc127 rfl) <|
  show mm_E _ _ 127 41 [(2, mI (x2 + (A 82 ((6 * x1) + x3)))), (0, .ref 77), (1, mI x1), (3, mI x3)] _ _ _ from
  mm_E.inc mx127 rfl (mm_atc mc127 rfl) rfl <|
  show mm_E _ _ 127 44 [(3, mI (x3 + 1)), (2, mI (x2 + (A 82 ((6 * x1) + x3)))), (0, .ref 77), (1, mI x1)] _ _ _ from
  mm_E.goto (mm_atc mc127 rfl) rfl <|
  mm_E.to h ⟨rfl, rfl, rfl, rfl, trivial⟩
theorem p127_101_0 {d : Nat} {X : List Value} {A : MF} {r : MR} {x1 x2 x3 : Int} {A0 : MF} (s0 : mm_E 1 d 101 0 [(0, .ref 77)] [] (mm_w X A) (.inl (none), mm_w X A0, 0, 0)) (H : R32 x3 ∧ R32 x1 ∧ x1 ≤ x3) (h : mm_E 1 (d + 1) 127 216 [(0, .ref 77), (2, mI x2), (3, mI (x2 - (A0 77 8))), (4, mI 0)] [] (mm_w X A0) r) : mm_E 1 (d + 1) 127 101 [(0, .ref 77), (1, mI x1), (2, mI x2), (3, mI x3)] [] (mm_w X A) r := by
  obtain ⟨h0, h1, h2⟩ := H
  exact mm_E.iload_n (mm_atc mc127 rfl) rfl <|
  mm_E.iload_n (mm_atc mc127 rfl) rfl <|
  mm_E.if2 (mm_atc mc127 rfl) h0 h1 (ic_geT h2) rfl <|
  mm_E.aload_n (mm_atc mc127 rfl) rfl <|
  mm_E.callV0 (mm_atc mc127 rfl) (mm_plc mp127 rfl) rfl mk101 ly77 rfl mx101 rfl rfl s0 (by omega) <|
  show mm_E _ _ 127 206 _ _ _ _ from
  mm_E.iload_n (mm_atc mc127 rfl) rfl <|
  mm_E.aload_n (mm_atc mc127 rfl) rfl <|
  mm_E.getI (z := A0 77 8) (mm_atc mc127 rfl) (mm_plc mp127 rfl) rfl ly77 rfl (rfl) <|
  mm_E.isub (mm_atc mc127 rfl) <|
  mm_E.istore_n mx127 rfl (mm_atc mc127 rfl) <|
  show mm_E _ _ 127 213 [(3, mI (x2 - (A0 77 8))), (0, .ref 77), (1, mI x1), (2, mI x2)] _ _ _ from
  mm_E.iconst (mm_atc mc127 rfl) <|
  mm_E.istore mx127 rfl (mm_atc mc127 rfl) <|
  show mm_E _ _ 127 216 [(4, mI 0), (3, mI (x2 - (A0 77 8))), (0, .ref 77), (1, mI x1), (2, mI x2)] _ _ _ from
  mm_E.to h ⟨rfl, rfl, rfl, rfl, trivial⟩
theorem p127_101_1 {d : Nat} {X : List Value} {A : MF} {r : MR} {x1 x2 x3 : Int} {A0 : MF} (s0 : mm_E 1 d 99 0 [(0, .ref 77), (1, mI x3)] [] (mm_w X A) (.inl (none), mm_w X A0, 0, 0)) (H : R32 x3 ∧ R32 x1 ∧ x3 < x1) (h : mm_E 1 (d + 1) 127 117 [(0, .ref 77), (1, mI x1), (2, mI x2), (3, mI x3), (4, mI 0), (5, mI 0)] [] (mm_w X A0) r) : mm_E 1 (d + 1) 127 101 [(0, .ref 77), (1, mI x1), (2, mI x2), (3, mI x3)] [] (mm_w X A) r := by
  obtain ⟨h0, h1, h2⟩ := H
  exact mm_E.iload_n (mm_atc mc127 rfl) rfl <|
  mm_E.iload_n (mm_atc mc127 rfl) rfl <|
  mm_E.if2 (mm_atc mc127 rfl) h0 h1 (ic_geF h2) rfl <|
  mm_E.aload_n (mm_atc mc127 rfl) rfl <|
  mm_E.iload_n (mm_atc mc127 rfl) rfl <|
  mm_E.callV0 (mm_atc mc127 rfl) (mm_plc mp127 rfl) rfl mk99 ly77 rfl mx99 rfl rfl s0 (by omega) <|
  show mm_E _ _ 127 111 _ _ _ _ from
  mm_E.iconst (mm_atc mc127 rfl) <|
  mm_E.istore mx127 rfl (mm_atc mc127 rfl) <|
  show mm_E _ _ 127 114 [(4, mI 0), (0, .ref 77), (1, mI x1), (2, mI x2), (3, mI x3)] _ _ _ from
  mm_E.iconst (mm_atc mc127 rfl) <|
  mm_E.istore mx127 rfl (mm_atc mc127 rfl) <|
  show mm_E _ _ 127 117 [(5, mI 0), (4, mI 0), (0, .ref 77), (1, mI x1), (2, mI x2), (3, mI x3)] _ _ _ from
  mm_E.to h ⟨rfl, rfl, rfl, rfl, rfl, rfl, trivial⟩
theorem p127_216_0 {w d : Nat} {X : List Value} {A : MF} {r : MR} {x2 x3 x4 : Int} (H : R32 x4 ∧ R32 (A 77 1) ∧ A 77 1 ≤ x4) (h : mm_E w d 127 244 [(0, .ref 77), (2, mI x2), (3, mI x3), (4, mI 0)] [] (mm_w X A) r) : mm_E w d 127 216 [(0, .ref 77), (2, mI x2), (3, mI x3), (4, mI x4)] [] (mm_w X A) r := by
  obtain ⟨h0, h1, h2⟩ := H
  exact mm_E.iload (mm_atc mc127 rfl) rfl <|
  mm_E.aload_n (mm_atc mc127 rfl) rfl <|
  mm_E.getI (z := A 77 1) (mm_atc mc127 rfl) (mm_plc mp127 rfl) rfl ly77 rfl (rfl) <|
  mm_E.if2 (mm_atc mc127 rfl) h0 h1 (ic_geT h2) rfl <|
  mm_E.iconst (mm_atc mc127 rfl) <|
  mm_E.istore mx127 rfl (mm_atc mc127 rfl) <|
  show mm_E _ _ 127 244 [(4, mI 0), (0, .ref 77), (2, mI x2), (3, mI x3)] _ _ _ from
  mm_E.to h ⟨rfl, rfl, rfl, rfl, trivial⟩
theorem p127_216_1 {w d : Nat} {X : List Value} {A : MF} {r : MR} {x2 x3 x4 : Int} (H : R32 x4 ∧ R32 (A 77 1) ∧ x4 < A 77 1 ∧ 0 ≤ x4 ∧ x4 < 6) (h : mm_E w d 127 216 [(0, .ref 77), (2, mI x2), (3, mI (x3 - (A 85 x4))), (4, mI (x4 + 1))] [] (mm_w X A) r) : mm_E w d 127 216 [(0, .ref 77), (2, mI x2), (3, mI x3), (4, mI x4)] [] (mm_w X A) r := by
  obtain ⟨h0, h1, h2, h3, h4⟩ := H
  exact mm_E.iload (mm_atc mc127 rfl) rfl <|
  mm_E.aload_n (mm_atc mc127 rfl) rfl <|
  mm_E.getI (z := A 77 1) (mm_atc mc127 rfl) (mm_plc mp127 rfl) rfl ly77 rfl (rfl) <|
  mm_E.if2 (mm_atc mc127 rfl) h0 h1 (ic_geF h2) rfl <|
  mm_E.iload_n (mm_atc mc127 rfl) rfl <|
  mm_E.aload_n (mm_atc mc127 rfl) rfl <|
  mm_E.getR (b := 85) (mm_atc mc127 rfl) (mm_plc mp127 rfl) rfl ly77 rfl <|
  mm_E.iload (mm_atc mc127 rfl) rfl <|
  mm_E.iaload (e := x4) (mm_atc mc127 rfl) ly85 rfl h3 h4 rfl (rfl) <|
  mm_E.isub (mm_atc mc127 rfl) <|
  mm_E.istore_n mx127 rfl (mm_atc mc127 rfl) <|
  show mm_E _ _ 127 235 [(3, mI (x3 - (A 85 x4))), (0, .ref 77), (2, mI x2), (4, mI x4)] _ _ _ from
  mm_E.inc mx127 rfl (mm_atc mc127 rfl) rfl <|
  show mm_E _ _ 127 238 [(4, mI (x4 + 1)), (3, mI (x3 - (A 85 x4))), (0, .ref 77), (2, mI x2)] _ _ _ from
  mm_E.goto (mm_atc mc127 rfl) rfl <|
  mm_E.to h ⟨rfl, rfl, rfl, rfl, trivial⟩
theorem p127_117_0 {w d : Nat} {X : List Value} {A : MF} {r : MR} {x1 x2 x3 x4 x5 : Int} (H : R32 x5 ∧ R32 (A 77 1) ∧ A 77 1 ≤ x5 ∧ R32 x4 ∧ R32 x2 ∧ x4 ≤ x2) (h : mm_E w d 127 101 [(0, .ref 77), (1, mI x1), (2, mI x2), (3, mI (x3 + 1))] [] (mm_w X A) r) : mm_E w d 127 117 [(0, .ref 77), (1, mI x1), (2, mI x2), (3, mI x3), (4, mI x4), (5, mI x5)] [] (mm_w X A) r := by
  obtain ⟨h0, h1, h2, h3, h4, h5⟩ := H
  exact mm_E.iload (mm_atc mc127 rfl) rfl <|
  mm_E.aload_n (mm_atc mc127 rfl) rfl <|
  mm_E.getI (z := A 77 1) (mm_atc mc127 rfl) (mm_plc mp127 rfl) rfl ly77 rfl (rfl) <|
  mm_E.if2 (mm_atc mc127 rfl) h0 h1 (ic_geT h2) rfl <|
  mm_E.iload (mm_atc mc127 rfl) rfl <|
  mm_E.iload_n (mm_atc mc127 rfl) rfl <|
  mm_E.if2 (mm_atc mc127 rfl) h3 h4 (ic_leT h5) rfl <|
  mm_E.inc mx127 rfl (mm_atc mc127 rfl) rfl <|
  show mm_E _ _ 127 199 [(3, mI (x3 + 1)), (0, .ref 77), (1, mI x1), (2, mI x2), (4, mI x4), (5, mI x5)] _ _ _ from
  mm_E.goto (mm_atc mc127 rfl) rfl <|
  mm_E.to h ⟨rfl, rfl, rfl, rfl, trivial⟩
theorem p127_117_1 {w d : Nat} {X : List Value} {A : MF} {r : MR} {x1 x2 x3 x4 x5 : Int} (H : R32 x5 ∧ R32 (A 77 1) ∧ A 77 1 ≤ x5 ∧ R32 x4 ∧ R32 x2 ∧ x2 < x4) (h : mm_E w d 127 167 [(0, .ref 77), (1, mI x1), (2, mI x4), (3, mI x3), (5, mI 0)] [] (mm_w X A) r) : mm_E w d 127 117 [(0, .ref 77), (1, mI x1), (2, mI x2), (3, mI x3), (4, mI x4), (5, mI x5)] [] (mm_w X A) r := by
  obtain ⟨h0, h1, h2, h3, h4, h5⟩ := H
  exact mm_E.iload (mm_atc mc127 rfl) rfl <|
  mm_E.aload_n (mm_atc mc127 rfl) rfl <|
  mm_E.getI (z := A 77 1) (mm_atc mc127 rfl) (mm_plc mp127 rfl) rfl ly77 rfl (rfl) <|
  mm_E.if2 (mm_atc mc127 rfl) h0 h1 (ic_geT h2) rfl <|
  mm_E.iload (mm_atc mc127 rfl) rfl <|
  mm_E.iload_n (mm_atc mc127 rfl) rfl <|
  mm_E.if2 (mm_atc mc127 rfl) h3 h4 (ic_leF h5) rfl <|
  mm_E.iload (mm_atc mc127 rfl) rfl <|
  mm_E.istore_n mx127 rfl (mm_atc mc127 rfl) <|
  show mm_E _ _ 127 164 [(2, mI x4), (0, .ref 77), (1, mI x1), (3, mI x3), (4, mI x4), (5, mI x5)] _ _ _ from
  mm_E.iconst (mm_atc mc127 rfl) <|
  mm_E.istore mx127 rfl (mm_atc mc127 rfl) <|
  show mm_E _ _ 127 167 [(5, mI 0), (2, mI x4), (0, .ref 77), (1, mI x1), (3, mI x3), (4, mI x4)] _ _ _ from
  mm_E.to h ⟨rfl, rfl, rfl, rfl, rfl, trivial⟩
theorem p127_117_2 {w d : Nat} {X : List Value} {A : MF} {r : MR} {x1 x2 x3 x4 x5 : Int} (H : R32 x5 ∧ R32 (A 77 1) ∧ x5 < A 77 1 ∧ 0 ≤ x5 ∧ x5 < 6 ∧ 0 ≤ (6 * x5) + (A 84 x5) ∧ (6 * x5) + (A 84 x5) < 36) (h : mm_E w d 127 117 [(0, .ref 77), (1, mI x1), (2, mI x2), (3, mI x3), (4, mI (x4 + (A 82 ((6 * x5) + (A 84 x5))))), (5, mI (x5 + 1))] [] (mm_w X A) r) : mm_E w d 127 117 [(0, .ref 77), (1, mI x1), (2, mI x2), (3, mI x3), (4, mI x4), (5, mI x5)] [] (mm_w X A) r := by
  obtain ⟨h0, h1, h2, h3, h4, h5, h6⟩ := H
  exact mm_E.iload (mm_atc mc127 rfl) rfl <|
  mm_E.aload_n (mm_atc mc127 rfl) rfl <|
  mm_E.getI (z := A 77 1) (mm_atc mc127 rfl) (mm_plc mp127 rfl) rfl ly77 rfl (rfl) <|
  mm_E.if2 (mm_atc mc127 rfl) h0 h1 (ic_geF h2) rfl <|
  mm_E.iload (mm_atc mc127 rfl) rfl <|
  mm_E.aload_n (mm_atc mc127 rfl) rfl <|
  mm_E.getR (b := 82) (mm_atc mc127 rfl) (mm_plc mp127 rfl) rfl ly77 rfl <|
  mm_E.bipush (mm_atc mc127 rfl) rfl <|
  mm_E.iload (mm_atc mc127 rfl) rfl <|
  mm_E.imul (mm_atc mc127 rfl) <|
  mm_E.aload_n (mm_atc mc127 rfl) rfl <|
  mm_E.getR (b := 84) (mm_atc mc127 rfl) (mm_plc mp127 rfl) rfl ly77 rfl <|
  mm_E.iload (mm_atc mc127 rfl) rfl <|
  mm_E.iaload (e := x5) (mm_atc mc127 rfl) ly84 rfl h3 h4 rfl (rfl) <|
  mm_E.iadd (mm_atc mc127 rfl) <|
  mm_E.iaload (e := (6 * x5) + (A 84 x5)) (mm_atc mc127 rfl) ly82 rfl h5 h6 rfl (rfl) <|
  mm_E.iadd (mm_atc mc127 rfl) <|
  mm_E.istore mx127 rfl (mm_atc mc127 rfl) <|
  show mm_E _ _ 127 149 [(4, mI (x4 + (A 82 ((6 * x5) + (A 84 x5))))), (0, .ref 77), (1, mI x1), (2, mI x2), (3, mI x3), (5, mI x5)] _ _ _ from
  mm_E.inc mx127 rfl (mm_atc mc127 rfl) rfl <|
  show mm_E _ _ 127 152 [(5, mI (x5 + 1)), (4, mI (x4 + (A 82 ((6 * x5) + (A 84 x5))))), (0, .ref 77), (1, mI x1), (2, mI x2), (3, mI x3)] _ _ _ from
  mm_E.goto (mm_atc mc127 rfl) rfl <|
  mm_E.to h ⟨rfl, rfl, rfl, rfl, rfl, rfl, trivial⟩
theorem p127_244_0 {d : Nat} {X : List Value} {A : MF} {x2 x3 x4 : Int} (H : R32 x4 ∧ R32 (A 77 1) ∧ A 77 1 ≤ x4) : mm_E 1 d 127 244 [(0, .ref 77), (2, mI x2), (3, mI x3), (4, mI x4)] [] (mm_w X A) (.inl (some (mI x2)), mm_w X (mm_u A 77 9 1), 0, 0) := by
  obtain ⟨h0, h1, h2⟩ := H
  exact mm_E.iload (mm_atc mc127 rfl) rfl <|
  mm_E.aload_n (mm_atc mc127 rfl) rfl <|
  mm_E.getI (z := A 77 1) (mm_atc mc127 rfl) (mm_plc mp127 rfl) rfl ly77 rfl (rfl) <|
  mm_E.if2 (mm_atc mc127 rfl) h0 h1 (ic_geT h2) rfl <|
  mm_E.aload_n (mm_atc mc127 rfl) rfl <|
  mm_E.iconst (mm_atc mc127 rfl) <|
  mm_E.putI (fi := 9) (z := 1) (mm_atc mc127 rfl) (mm_plc mp127 rfl) ly77 rfl rfl rfl rfl rfl <|
  mm_E.iload_n (mm_atc mc127 rfl) rfl <|
  mm_E.iret (mm_atc mc127 rfl) mr127 rfl
theorem p127_244_1 {d : Nat} {X : List Value} {A : MF} {r : MR} {x2 x3 x4 : Int} {A0 : MF} (s0 : mm_E 1 d 102 0 [(0, .ref 77), (1, mJ ((((A 82 ((6 * x4) + (A 83 x4))) - (A 85 x4)) * (A 77 1)) - x3)), (3, mJ (A 77 1))] [] (mm_w X A) (.inl (none), mm_w X A0, 0, 0)) (H : R32 x4 ∧ R32 (A 77 1) ∧ x4 < A 77 1 ∧ 0 ≤ x4 ∧ x4 < 6 ∧ 0 ≤ (6 * x4) + (A 83 x4) ∧ (6 * x4) + (A 83 x4) < 36 ∧ R32 ((A 82 ((6 * x4) + (A 83 x4))) - (A 85 x4)) ∧ R32 x3) (h : mm_E 1 (d + 1) 127 244 [(0, .ref 77), (2, mI x2), (3, mI x3), (4, mI (x4 + 1))] [] (mm_w X (mm_u (mm_u A0 86 x4 (A0 77 24)) 87 x4 (A0 77 25))) r) : mm_E 1 (d + 1) 127 244 [(0, .ref 77), (2, mI x2), (3, mI x3), (4, mI x4)] [] (mm_w X A) r := by
  obtain ⟨h0, h1, h2, h3, h4, h5, h6, h7, h8⟩ := H
  exact mm_E.iload (mm_atc mc127 rfl) rfl <|
  mm_E.aload_n (mm_atc mc127 rfl) rfl <|
  mm_E.getI (z := A 77 1) (mm_atc mc127 rfl) (mm_plc mp127 rfl) rfl ly77 rfl (rfl) <|
  mm_E.if2 (mm_atc mc127 rfl) h0 h1 (ic_geF h2) rfl <|
  mm_E.aload_n (mm_atc mc127 rfl) rfl <|
  mm_E.aload_n (mm_atc mc127 rfl) rfl <|
  mm_E.getR (b := 82) (mm_atc mc127 rfl) (mm_plc mp127 rfl) rfl ly77 rfl <|
  mm_E.bipush (mm_atc mc127 rfl) rfl <|
  mm_E.iload (mm_atc mc127 rfl) rfl <|
  mm_E.imul (mm_atc mc127 rfl) <|
  mm_E.aload_n (mm_atc mc127 rfl) rfl <|
  mm_E.getR (b := 83) (mm_atc mc127 rfl) (mm_plc mp127 rfl) rfl ly77 rfl <|
  mm_E.iload (mm_atc mc127 rfl) rfl <|
  mm_E.iaload (e := x4) (mm_atc mc127 rfl) ly83 rfl h3 h4 rfl (rfl) <|
  mm_E.iadd (mm_atc mc127 rfl) <|
  mm_E.iaload (e := (6 * x4) + (A 83 x4)) (mm_atc mc127 rfl) ly82 rfl h5 h6 rfl (rfl) <|
  mm_E.aload_n (mm_atc mc127 rfl) rfl <|
  mm_E.getR (b := 85) (mm_atc mc127 rfl) (mm_plc mp127 rfl) rfl ly77 rfl <|
  mm_E.iload (mm_atc mc127 rfl) rfl <|
  mm_E.iaload (e := x4) (mm_atc mc127 rfl) ly85 rfl h3 h4 rfl (rfl) <|
  mm_E.isub (mm_atc mc127 rfl) <|
  mm_E.i2l h7 (mm_atc mc127 rfl) <|
  mm_E.aload_n (mm_atc mc127 rfl) rfl <|
  mm_E.getI (z := A 77 1) (mm_atc mc127 rfl) (mm_plc mp127 rfl) rfl ly77 rfl (rfl) <|
  mm_E.i2l h1 (mm_atc mc127 rfl) <|
  mm_E.lmul (mm_atc mc127 rfl) <|
  mm_E.iload_n (mm_atc mc127 rfl) rfl <|
  mm_E.i2l h8 (mm_atc mc127 rfl) <|
  mm_E.lsub (mm_atc mc127 rfl) <|
  mm_E.aload_n (mm_atc mc127 rfl) rfl <|
  mm_E.getI (z := A 77 1) (mm_atc mc127 rfl) (mm_plc mp127 rfl) rfl ly77 rfl (rfl) <|
  mm_E.i2l h1 (mm_atc mc127 rfl) <|
  mm_E.callV0 (mm_atc mc127 rfl) (mm_plc mp127 rfl) rfl mk102 ly77 rfl mx102 rfl rfl s0 (by omega) <|
  show mm_E _ _ 127 298 _ _ _ _ from
  mm_E.aload_n (mm_atc mc127 rfl) rfl <|
  mm_E.getR (b := 86) (mm_atc mc127 rfl) (mm_plc mp127 rfl) rfl ly77 rfl <|
  mm_E.iload (mm_atc mc127 rfl) rfl <|
  mm_E.aload_n (mm_atc mc127 rfl) rfl <|
  mm_E.getJ (z := A0 77 24) (mm_atc mc127 rfl) (mm_plc mp127 rfl) rfl ly77 rfl (rfl) <|
  mm_E.lastore (e := x4) (z := A0 77 24) (mm_atc mc127 rfl) ly86 rfl h3 h4 rfl rfl <|
  mm_E.aload_n (mm_atc mc127 rfl) rfl <|
  mm_E.getR (b := 87) (mm_atc mc127 rfl) (mm_plc mp127 rfl) rfl ly77 rfl <|
  mm_E.iload (mm_atc mc127 rfl) rfl <|
  mm_E.aload_n (mm_atc mc127 rfl) rfl <|
  mm_E.getJ (z := A0 77 25) (mm_atc mc127 rfl) (mm_plc mp127 rfl) rfl ly77 rfl ((mm_u_ne (.inl (by decide))).trans (rfl)) <|
  mm_E.lastore (e := x4) (z := A0 77 25) (mm_atc mc127 rfl) ly87 rfl h3 h4 rfl rfl <|
  mm_E.inc mx127 rfl (mm_atc mc127 rfl) rfl <|
  show mm_E _ _ 127 323 [(4, mI (x4 + 1)), (0, .ref 77), (2, mI x2), (3, mI x3)] _ _ _ from
  mm_E.goto (mm_atc mc127 rfl) rfl <|
  mm_E.to h ⟨rfl, rfl, rfl, rfl, trivial⟩
theorem p127_167_0 {w d : Nat} {X : List Value} {A : MF} {r : MR} {x1 x2 x3 x5 : Int} (H : R32 x5 ∧ R32 (A 77 1) ∧ A 77 1 ≤ x5) (h : mm_E w d 127 101 [(0, .ref 77), (1, mI x1), (2, mI x2), (3, mI (x3 + 1))] [] (mm_w X A) r) : mm_E w d 127 167 [(0, .ref 77), (1, mI x1), (2, mI x2), (3, mI x3), (5, mI x5)] [] (mm_w X A) r := by
  obtain ⟨h0, h1, h2⟩ := H
  exact mm_E.iload (mm_atc mc127 rfl) rfl <|
  mm_E.aload_n (mm_atc mc127 rfl) rfl <|
  mm_E.getI (z := A 77 1) (mm_atc mc127 rfl) (mm_plc mp127 rfl) rfl ly77 rfl (rfl) <|
  mm_E.if2 (mm_atc mc127 rfl) h0 h1 (ic_geT h2) rfl <|
  mm_E.inc mx127 rfl (mm_atc mc127 rfl) rfl <|
  show mm_E _ _ 127 199 [(3, mI (x3 + 1)), (0, .ref 77), (1, mI x1), (2, mI x2), (5, mI x5)] _ _ _ from
  mm_E.goto (mm_atc mc127 rfl) rfl <|
  mm_E.to h ⟨rfl, rfl, rfl, rfl, trivial⟩
theorem p127_167_1 {d : Nat} {X : List Value} {A : MF} {r : MR} {x1 x2 x3 x5 : Int} (H : R32 x5 ∧ R32 (A 77 1) ∧ x5 < A 77 1 ∧ 0 ≤ x5 ∧ x5 < 6) (h : mm_E 1 d 127 167 [(0, .ref 77), (1, mI x1), (2, mI x2), (3, mI x3), (5, mI (x5 + 1))] [] (mm_w X (mm_u A 83 x5 (A 84 x5))) r) : mm_E 1 d 127 167 [(0, .ref 77), (1, mI x1), (2, mI x2), (3, mI x3), (5, mI x5)] [] (mm_w X A) r := by
  obtain ⟨h0, h1, h2, h3, h4⟩ := H
  exact mm_E.iload (mm_atc mc127 rfl) rfl <|
  mm_E.aload_n (mm_atc mc127 rfl) rfl <|
  mm_E.getI (z := A 77 1) (mm_atc mc127 rfl) (mm_plc mp127 rfl) rfl ly77 rfl (rfl) <|
  mm_E.if2 (mm_atc mc127 rfl) h0 h1 (ic_geF h2) rfl <|
  mm_E.aload_n (mm_atc mc127 rfl) rfl <|
  mm_E.getR (b := 83) (mm_atc mc127 rfl) (mm_plc mp127 rfl) rfl ly77 rfl <|
  mm_E.iload (mm_atc mc127 rfl) rfl <|
  mm_E.aload_n (mm_atc mc127 rfl) rfl <|
  mm_E.getR (b := 84) (mm_atc mc127 rfl) (mm_plc mp127 rfl) rfl ly77 rfl <|
  mm_E.iload (mm_atc mc127 rfl) rfl <|
  mm_E.iaload (e := x5) (mm_atc mc127 rfl) ly84 rfl h3 h4 rfl (rfl) <|
  mm_E.iastore (e := x5) (z := A 84 x5) (mm_atc mc127 rfl) ly83 rfl h3 h4 rfl rfl <|
  mm_E.inc mx127 rfl (mm_atc mc127 rfl) rfl <|
  show mm_E _ _ 127 193 [(5, mI (x5 + 1)), (0, .ref 77), (1, mI x1), (2, mI x2), (3, mI x3)] _ _ _ from
  mm_E.goto (mm_atc mc127 rfl) rfl <|
  mm_E.to h ⟨rfl, rfl, rfl, rfl, rfl, trivial⟩
theorem p128_0_0 {d : Nat} {X : List Value} {A : MF} {x1 x2 : Int} (H : R32 x1 ∧ x1 < 0) : mm_E 1 (d + 1) 128 0 [(0, .ref 77), (1, mI x1), (2, mI x2)] [] (mm_w X A) (.inl (some (mJ 0)), mm_w X (mm_u A 77 0 1), 0, 0) := by
  obtain ⟨h0, h1⟩ := H
  exact mm_E.aload_n (mm_atc mc128 rfl) rfl <|
  mm_E.aload_n (mm_atc mc128 rfl) rfl <|
  mm_E.iload_n (mm_atc mc128 rfl) rfl <|
  mm_E.callV0 (mm_atc mc128 rfl) (mm_plc mp128 rfl) rfl mk112 ly77 rfl mx112 rfl rfl (p112_0_0 (d := d) ⟨h0, h1⟩) (by omega) <|
  show mm_E _ _ 128 6 _ _ _ _ from
  mm_E.if1 (mm_atc mc128 rfl) (by decide) (ic_neT (by decide)) rfl <|
  mm_E.iconst (mm_atc mc128 rfl) <|
  mm_E.goto (mm_atc mc128 rfl) rfl <|
  mm_E.putI (fi := 0) (z := 1) (mm_atc mc128 rfl) (mm_plc mp128 rfl) ly77 rfl rfl rfl (mm_fit_i rfl) rfl <|
  mm_E.aload_n (mm_atc mc128 rfl) rfl <|
  mm_E.getI (z := 1) (mm_atc mc128 rfl) (mm_plc mp128 rfl) rfl ly77 rfl (mm_u_same) <|
  mm_E.if1 (mm_atc mc128 rfl) (by decide) (ic_eqF (by decide)) rfl <|
  mm_E.lconst (z := 0) (mm_atc mc128 rfl) rfl <|
  mm_E.lret (mm_atc mc128 rfl) mr128
theorem p128_0_1 {d : Nat} {X : List Value} {A : MF} {x1 x2 : Int} (H : R32 x1 ∧ 0 ≤ x1 ∧ R32 (A 77 1) ∧ x1 < A 77 1 ∧ R32 x2 ∧ x2 < 0) : mm_E 1 (d + 1) 128 0 [(0, .ref 77), (1, mI x1), (2, mI x2)] [] (mm_w X A) (.inl (some (mJ 0)), mm_w X (mm_u A 77 0 1), 0, 0) := by
  obtain ⟨h0, h1, h2, h3, h4, h5⟩ := H
  exact mm_E.aload_n (mm_atc mc128 rfl) rfl <|
  mm_E.aload_n (mm_atc mc128 rfl) rfl <|
  mm_E.iload_n (mm_atc mc128 rfl) rfl <|
  mm_E.callV0 (mm_atc mc128 rfl) (mm_plc mp128 rfl) rfl mk112 ly77 rfl mx112 rfl rfl (p112_0_1 (d := d) ⟨h0, h1, h2, h3⟩) (by omega) <|
  show mm_E _ _ 128 6 _ _ _ _ from
  mm_E.if1 (mm_atc mc128 rfl) (by decide) (ic_neF (by decide)) rfl <|
  mm_E.iload_n (mm_atc mc128 rfl) rfl <|
  mm_E.if1 (mm_atc mc128 rfl) h4 (ic_ltT h5) rfl <|
  mm_E.iconst (mm_atc mc128 rfl) <|
  mm_E.goto (mm_atc mc128 rfl) rfl <|
  mm_E.putI (fi := 0) (z := 1) (mm_atc mc128 rfl) (mm_plc mp128 rfl) ly77 rfl rfl rfl (mm_fit_i rfl) rfl <|
  mm_E.aload_n (mm_atc mc128 rfl) rfl <|
  mm_E.getI (z := 1) (mm_atc mc128 rfl) (mm_plc mp128 rfl) rfl ly77 rfl (mm_u_same) <|
  mm_E.if1 (mm_atc mc128 rfl) (by decide) (ic_eqF (by decide)) rfl <|
  mm_E.lconst (z := 0) (mm_atc mc128 rfl) rfl <|
  mm_E.lret (mm_atc mc128 rfl) mr128
theorem p128_0_2 {d : Nat} {X : List Value} {A : MF} {x1 x2 : Int} (H : R32 x1 ∧ 0 ≤ x1 ∧ R32 (A 77 1) ∧ x1 < A 77 1 ∧ R32 x2 ∧ 0 ≤ x2 ∧ x2 ≤ 2 ∧ R32 (A 77 9) ∧ A 77 9 ≠ 0 ∧ x2 ≠ 0 ∧ x2 ≠ 1 ∧ x1 < 6) : mm_E 1 (d + 1) 128 0 [(0, .ref 77), (1, mI x1), (2, mI x2)] [] (mm_w X A) (.inl (some (mJ (A 87 x1))), mm_w X (mm_u A 77 0 0), 0, 0) := by
  obtain ⟨h0, h1, h2, h3, h4, h5, h6, h7, h8, h9, h10, h11⟩ := H
  exact mm_E.aload_n (mm_atc mc128 rfl) rfl <|
  mm_E.aload_n (mm_atc mc128 rfl) rfl <|
  mm_E.iload_n (mm_atc mc128 rfl) rfl <|
  mm_E.callV0 (mm_atc mc128 rfl) (mm_plc mp128 rfl) rfl mk112 ly77 rfl mx112 rfl rfl (p112_0_1 (d := d) ⟨h0, h1, h2, h3⟩) (by omega) <|
  show mm_E _ _ 128 6 _ _ _ _ from
  mm_E.if1 (mm_atc mc128 rfl) (by decide) (ic_neF (by decide)) rfl <|
  mm_E.iload_n (mm_atc mc128 rfl) rfl <|
  mm_E.if1 (mm_atc mc128 rfl) h4 (ic_ltF h5) rfl <|
  mm_E.iload_n (mm_atc mc128 rfl) rfl <|
  mm_E.iconst (mm_atc mc128 rfl) <|
  mm_E.if2 (mm_atc mc128 rfl) h4 (by decide) (ic_leT h6) rfl <|
  mm_E.aload_n (mm_atc mc128 rfl) rfl <|
  mm_E.getI (z := A 77 9) (mm_atc mc128 rfl) (mm_plc mp128 rfl) rfl ly77 rfl (rfl) <|
  mm_E.if1 (mm_atc mc128 rfl) h7 (ic_neT h8) rfl <|
  mm_E.iconst (mm_atc mc128 rfl) <|
  mm_E.putI (fi := 0) (z := 0) (mm_atc mc128 rfl) (mm_plc mp128 rfl) ly77 rfl rfl rfl (mm_fit_i rfl) rfl <|
  mm_E.aload_n (mm_atc mc128 rfl) rfl <|
  mm_E.getI (z := 0) (mm_atc mc128 rfl) (mm_plc mp128 rfl) rfl ly77 rfl (mm_u_same) <|
  mm_E.if1 (mm_atc mc128 rfl) (by decide) (ic_eqT (by decide)) rfl <|
  mm_E.iload_n (mm_atc mc128 rfl) rfl <|
  mm_E.if1 (mm_atc mc128 rfl) h4 (ic_neT h9) rfl <|
  mm_E.iload_n (mm_atc mc128 rfl) rfl <|
  mm_E.iconst (mm_atc mc128 rfl) <|
  mm_E.if2 (mm_atc mc128 rfl) h4 (by decide) (ic_neT h10) rfl <|
  mm_E.aload_n (mm_atc mc128 rfl) rfl <|
  mm_E.getR (b := 87) (mm_atc mc128 rfl) (mm_plc mp128 rfl) rfl ly77 rfl <|
  mm_E.iload_n (mm_atc mc128 rfl) rfl <|
  mm_E.laload (e := x1) (mm_atc mc128 rfl) ly87 rfl h1 h11 rfl ((mm_u_ne (.inl (by decide))).trans (rfl)) <|
  mm_E.lret (mm_atc mc128 rfl) mr128
theorem p128_0_3 {d : Nat} {X : List Value} {A : MF} {x1 x2 : Int} (H : R32 x1 ∧ 0 ≤ x1 ∧ R32 (A 77 1) ∧ x1 < A 77 1 ∧ R32 x2 ∧ 0 ≤ x2 ∧ x2 ≤ 2 ∧ R32 (A 77 9) ∧ A 77 9 ≠ 0 ∧ x2 ≠ 0 ∧ x2 = 1 ∧ x1 < 6) : mm_E 1 (d + 1) 128 0 [(0, .ref 77), (1, mI x1), (2, mI x2)] [] (mm_w X A) (.inl (some (mJ (A 86 x1))), mm_w X (mm_u A 77 0 0), 0, 0) := by
  obtain ⟨h0, h1, h2, h3, h4, h5, h6, h7, h8, h9, h10, h11⟩ := H
  exact mm_E.aload_n (mm_atc mc128 rfl) rfl <|
  mm_E.aload_n (mm_atc mc128 rfl) rfl <|
  mm_E.iload_n (mm_atc mc128 rfl) rfl <|
  mm_E.callV0 (mm_atc mc128 rfl) (mm_plc mp128 rfl) rfl mk112 ly77 rfl mx112 rfl rfl (p112_0_1 (d := d) ⟨h0, h1, h2, h3⟩) (by omega) <|
  show mm_E _ _ 128 6 _ _ _ _ from
  mm_E.if1 (mm_atc mc128 rfl) (by decide) (ic_neF (by decide)) rfl <|
  mm_E.iload_n (mm_atc mc128 rfl) rfl <|
  mm_E.if1 (mm_atc mc128 rfl) h4 (ic_ltF h5) rfl <|
  mm_E.iload_n (mm_atc mc128 rfl) rfl <|
  mm_E.iconst (mm_atc mc128 rfl) <|
  mm_E.if2 (mm_atc mc128 rfl) h4 (by decide) (ic_leT h6) rfl <|
  mm_E.aload_n (mm_atc mc128 rfl) rfl <|
  mm_E.getI (z := A 77 9) (mm_atc mc128 rfl) (mm_plc mp128 rfl) rfl ly77 rfl (rfl) <|
  mm_E.if1 (mm_atc mc128 rfl) h7 (ic_neT h8) rfl <|
  mm_E.iconst (mm_atc mc128 rfl) <|
  mm_E.putI (fi := 0) (z := 0) (mm_atc mc128 rfl) (mm_plc mp128 rfl) ly77 rfl rfl rfl (mm_fit_i rfl) rfl <|
  mm_E.aload_n (mm_atc mc128 rfl) rfl <|
  mm_E.getI (z := 0) (mm_atc mc128 rfl) (mm_plc mp128 rfl) rfl ly77 rfl (mm_u_same) <|
  mm_E.if1 (mm_atc mc128 rfl) (by decide) (ic_eqT (by decide)) rfl <|
  mm_E.iload_n (mm_atc mc128 rfl) rfl <|
  mm_E.if1 (mm_atc mc128 rfl) h4 (ic_neT h9) rfl <|
  mm_E.iload_n (mm_atc mc128 rfl) rfl <|
  mm_E.iconst (mm_atc mc128 rfl) <|
  mm_E.if2 (mm_atc mc128 rfl) h4 (by decide) (ic_neF h10) rfl <|
  mm_E.aload_n (mm_atc mc128 rfl) rfl <|
  mm_E.getR (b := 86) (mm_atc mc128 rfl) (mm_plc mp128 rfl) rfl ly77 rfl <|
  mm_E.iload_n (mm_atc mc128 rfl) rfl <|
  mm_E.laload (e := x1) (mm_atc mc128 rfl) ly86 rfl h1 h11 rfl ((mm_u_ne (.inl (by decide))).trans (rfl)) <|
  mm_E.goto (mm_atc mc128 rfl) rfl <|
  mm_E.lret (mm_atc mc128 rfl) mr128
theorem p128_0_4 {d : Nat} {X : List Value} {A : MF} {x1 x2 : Int} (H : R32 x1 ∧ 0 ≤ x1 ∧ R32 (A 77 1) ∧ x1 < A 77 1 ∧ R32 x2 ∧ 0 ≤ x2 ∧ x2 ≤ 2 ∧ R32 (A 77 9) ∧ A 77 9 ≠ 0 ∧ x2 = 0 ∧ x1 < 6 ∧ R32 (A 83 x1)) : mm_E 1 (d + 1) 128 0 [(0, .ref 77), (1, mI x1), (2, mI x2)] [] (mm_w X A) (.inl (some (mJ (A 83 x1))), mm_w X (mm_u A 77 0 0), 0, 0) := by
  obtain ⟨h0, h1, h2, h3, h4, h5, h6, h7, h8, h9, h10, h11⟩ := H
  exact mm_E.aload_n (mm_atc mc128 rfl) rfl <|
  mm_E.aload_n (mm_atc mc128 rfl) rfl <|
  mm_E.iload_n (mm_atc mc128 rfl) rfl <|
  mm_E.callV0 (mm_atc mc128 rfl) (mm_plc mp128 rfl) rfl mk112 ly77 rfl mx112 rfl rfl (p112_0_1 (d := d) ⟨h0, h1, h2, h3⟩) (by omega) <|
  show mm_E _ _ 128 6 _ _ _ _ from
  mm_E.if1 (mm_atc mc128 rfl) (by decide) (ic_neF (by decide)) rfl <|
  mm_E.iload_n (mm_atc mc128 rfl) rfl <|
  mm_E.if1 (mm_atc mc128 rfl) h4 (ic_ltF h5) rfl <|
  mm_E.iload_n (mm_atc mc128 rfl) rfl <|
  mm_E.iconst (mm_atc mc128 rfl) <|
  mm_E.if2 (mm_atc mc128 rfl) h4 (by decide) (ic_leT h6) rfl <|
  mm_E.aload_n (mm_atc mc128 rfl) rfl <|
  mm_E.getI (z := A 77 9) (mm_atc mc128 rfl) (mm_plc mp128 rfl) rfl ly77 rfl (rfl) <|
  mm_E.if1 (mm_atc mc128 rfl) h7 (ic_neT h8) rfl <|
  mm_E.iconst (mm_atc mc128 rfl) <|
  mm_E.putI (fi := 0) (z := 0) (mm_atc mc128 rfl) (mm_plc mp128 rfl) ly77 rfl rfl rfl (mm_fit_i rfl) rfl <|
  mm_E.aload_n (mm_atc mc128 rfl) rfl <|
  mm_E.getI (z := 0) (mm_atc mc128 rfl) (mm_plc mp128 rfl) rfl ly77 rfl (mm_u_same) <|
  mm_E.if1 (mm_atc mc128 rfl) (by decide) (ic_eqT (by decide)) rfl <|
  mm_E.iload_n (mm_atc mc128 rfl) rfl <|
  mm_E.if1 (mm_atc mc128 rfl) h4 (ic_neF h9) rfl <|
  mm_E.aload_n (mm_atc mc128 rfl) rfl <|
  mm_E.getR (b := 83) (mm_atc mc128 rfl) (mm_plc mp128 rfl) rfl ly77 rfl <|
  mm_E.iload_n (mm_atc mc128 rfl) rfl <|
  mm_E.iaload (e := x1) (mm_atc mc128 rfl) ly83 rfl h1 h10 rfl ((mm_u_ne (.inl (by decide))).trans (rfl)) <|
  mm_E.i2l h11 (mm_atc mc128 rfl) <|
  mm_E.goto (mm_atc mc128 rfl) rfl <|
  mm_E.lret (mm_atc mc128 rfl) mr128
theorem p128_0_5 {d : Nat} {X : List Value} {A : MF} {x1 x2 : Int} (H : R32 x1 ∧ 0 ≤ x1 ∧ R32 (A 77 1) ∧ x1 < A 77 1 ∧ R32 x2 ∧ 0 ≤ x2 ∧ x2 ≤ 2 ∧ R32 (A 77 9) ∧ A 77 9 = 0) : mm_E 1 (d + 1) 128 0 [(0, .ref 77), (1, mI x1), (2, mI x2)] [] (mm_w X A) (.inl (some (mJ 0)), mm_w X (mm_u A 77 0 2), 0, 0) := by
  obtain ⟨h0, h1, h2, h3, h4, h5, h6, h7, h8⟩ := H
  exact mm_E.aload_n (mm_atc mc128 rfl) rfl <|
  mm_E.aload_n (mm_atc mc128 rfl) rfl <|
  mm_E.iload_n (mm_atc mc128 rfl) rfl <|
  mm_E.callV0 (mm_atc mc128 rfl) (mm_plc mp128 rfl) rfl mk112 ly77 rfl mx112 rfl rfl (p112_0_1 (d := d) ⟨h0, h1, h2, h3⟩) (by omega) <|
  show mm_E _ _ 128 6 _ _ _ _ from
  mm_E.if1 (mm_atc mc128 rfl) (by decide) (ic_neF (by decide)) rfl <|
  mm_E.iload_n (mm_atc mc128 rfl) rfl <|
  mm_E.if1 (mm_atc mc128 rfl) h4 (ic_ltF h5) rfl <|
  mm_E.iload_n (mm_atc mc128 rfl) rfl <|
  mm_E.iconst (mm_atc mc128 rfl) <|
  mm_E.if2 (mm_atc mc128 rfl) h4 (by decide) (ic_leT h6) rfl <|
  mm_E.aload_n (mm_atc mc128 rfl) rfl <|
  mm_E.getI (z := A 77 9) (mm_atc mc128 rfl) (mm_plc mp128 rfl) rfl ly77 rfl (rfl) <|
  mm_E.if1 (mm_atc mc128 rfl) h7 (ic_neF h8) rfl <|
  mm_E.iconst (mm_atc mc128 rfl) <|
  mm_E.goto (mm_atc mc128 rfl) rfl <|
  mm_E.putI (fi := 0) (z := 2) (mm_atc mc128 rfl) (mm_plc mp128 rfl) ly77 rfl rfl rfl (mm_fit_i rfl) rfl <|
  mm_E.aload_n (mm_atc mc128 rfl) rfl <|
  mm_E.getI (z := 2) (mm_atc mc128 rfl) (mm_plc mp128 rfl) rfl ly77 rfl (mm_u_same) <|
  mm_E.if1 (mm_atc mc128 rfl) (by decide) (ic_eqF (by decide)) rfl <|
  mm_E.lconst (z := 0) (mm_atc mc128 rfl) rfl <|
  mm_E.lret (mm_atc mc128 rfl) mr128
theorem p128_0_6 {d : Nat} {X : List Value} {A : MF} {x1 x2 : Int} (H : R32 x1 ∧ 0 ≤ x1 ∧ R32 (A 77 1) ∧ x1 < A 77 1 ∧ R32 x2 ∧ 0 ≤ x2 ∧ 2 < x2) : mm_E 1 (d + 1) 128 0 [(0, .ref 77), (1, mI x1), (2, mI x2)] [] (mm_w X A) (.inl (some (mJ 0)), mm_w X (mm_u A 77 0 1), 0, 0) := by
  obtain ⟨h0, h1, h2, h3, h4, h5, h6⟩ := H
  exact mm_E.aload_n (mm_atc mc128 rfl) rfl <|
  mm_E.aload_n (mm_atc mc128 rfl) rfl <|
  mm_E.iload_n (mm_atc mc128 rfl) rfl <|
  mm_E.callV0 (mm_atc mc128 rfl) (mm_plc mp128 rfl) rfl mk112 ly77 rfl mx112 rfl rfl (p112_0_1 (d := d) ⟨h0, h1, h2, h3⟩) (by omega) <|
  show mm_E _ _ 128 6 _ _ _ _ from
  mm_E.if1 (mm_atc mc128 rfl) (by decide) (ic_neF (by decide)) rfl <|
  mm_E.iload_n (mm_atc mc128 rfl) rfl <|
  mm_E.if1 (mm_atc mc128 rfl) h4 (ic_ltF h5) rfl <|
  mm_E.iload_n (mm_atc mc128 rfl) rfl <|
  mm_E.iconst (mm_atc mc128 rfl) <|
  mm_E.if2 (mm_atc mc128 rfl) h4 (by decide) (ic_leF h6) rfl <|
  mm_E.iconst (mm_atc mc128 rfl) <|
  mm_E.goto (mm_atc mc128 rfl) rfl <|
  mm_E.putI (fi := 0) (z := 1) (mm_atc mc128 rfl) (mm_plc mp128 rfl) ly77 rfl rfl rfl (mm_fit_i rfl) rfl <|
  mm_E.aload_n (mm_atc mc128 rfl) rfl <|
  mm_E.getI (z := 1) (mm_atc mc128 rfl) (mm_plc mp128 rfl) rfl ly77 rfl (mm_u_same) <|
  mm_E.if1 (mm_atc mc128 rfl) (by decide) (ic_eqF (by decide)) rfl <|
  mm_E.lconst (z := 0) (mm_atc mc128 rfl) rfl <|
  mm_E.lret (mm_atc mc128 rfl) mr128
theorem p128_0_7 {d : Nat} {X : List Value} {A : MF} {x1 x2 : Int} (H : R32 x1 ∧ 0 ≤ x1 ∧ R32 (A 77 1) ∧ A 77 1 ≤ x1) : mm_E 1 (d + 1) 128 0 [(0, .ref 77), (1, mI x1), (2, mI x2)] [] (mm_w X A) (.inl (some (mJ 0)), mm_w X (mm_u A 77 0 1), 0, 0) := by
  obtain ⟨h0, h1, h2, h3⟩ := H
  exact mm_E.aload_n (mm_atc mc128 rfl) rfl <|
  mm_E.aload_n (mm_atc mc128 rfl) rfl <|
  mm_E.iload_n (mm_atc mc128 rfl) rfl <|
  mm_E.callV0 (mm_atc mc128 rfl) (mm_plc mp128 rfl) rfl mk112 ly77 rfl mx112 rfl rfl (p112_0_2 (d := d) ⟨h0, h1, h2, h3⟩) (by omega) <|
  show mm_E _ _ 128 6 _ _ _ _ from
  mm_E.if1 (mm_atc mc128 rfl) (by decide) (ic_neT (by decide)) rfl <|
  mm_E.iconst (mm_atc mc128 rfl) <|
  mm_E.goto (mm_atc mc128 rfl) rfl <|
  mm_E.putI (fi := 0) (z := 1) (mm_atc mc128 rfl) (mm_plc mp128 rfl) ly77 rfl rfl rfl (mm_fit_i rfl) rfl <|
  mm_E.aload_n (mm_atc mc128 rfl) rfl <|
  mm_E.getI (z := 1) (mm_atc mc128 rfl) (mm_plc mp128 rfl) rfl ly77 rfl (mm_u_same) <|
  mm_E.if1 (mm_atc mc128 rfl) (by decide) (ic_eqF (by decide)) rfl <|
  mm_E.lconst (z := 0) (mm_atc mc128 rfl) rfl <|
  mm_E.lret (mm_atc mc128 rfl) mr128
theorem p129_0_0 {d : Nat} {X : List Value} {A : MF} {x1 : Int} (H : R32 x1 ∧ x1 < 1) : mm_E 1 d 129 0 [(0, .ref 77), (1, mI x1)] [] (mm_w X A) (.inl (none), mm_w X (mm_u A 77 0 1), 0, 0) := by
  obtain ⟨h0, h1⟩ := H
  exact mm_E.aload_n (mm_atc mc129 rfl) rfl <|
  mm_E.iload_n (mm_atc mc129 rfl) rfl <|
  mm_E.iconst (mm_atc mc129 rfl) <|
  mm_E.if2 (mm_atc mc129 rfl) h0 (by decide) (ic_ltT h1) rfl <|
  mm_E.iconst (mm_atc mc129 rfl) <|
  mm_E.goto (mm_atc mc129 rfl) rfl <|
  mm_E.putI (fi := 0) (z := 1) (mm_atc mc129 rfl) (mm_plc mp129 rfl) ly77 rfl rfl rfl (mm_fit_i rfl) rfl <|
  mm_E.aload_n (mm_atc mc129 rfl) rfl <|
  mm_E.getI (z := 1) (mm_atc mc129 rfl) (mm_plc mp129 rfl) rfl ly77 rfl (mm_u_same) <|
  mm_E.if1 (mm_atc mc129 rfl) (by decide) (ic_eqF (by decide)) rfl <|
  mm_E.vret (mm_atc mc129 rfl) mr129
theorem p129_0_1 {d : Nat} {X : List Value} {A : MF} {x1 : Int} (H : R32 x1 ∧ 1 ≤ x1 ∧ x1 ≤ 16) : mm_E 1 d 129 0 [(0, .ref 77), (1, mI x1)] [] (mm_w X A) (.inl (none), mm_w X (mm_u (mm_u (mm_u A 77 0 0) 77 15 x1) 77 17 0), 0, 0) := by
  obtain ⟨h0, h1, h2⟩ := H
  exact mm_E.aload_n (mm_atc mc129 rfl) rfl <|
  mm_E.iload_n (mm_atc mc129 rfl) rfl <|
  mm_E.iconst (mm_atc mc129 rfl) <|
  mm_E.if2 (mm_atc mc129 rfl) h0 (by decide) (ic_ltF h1) rfl <|
  mm_E.iload_n (mm_atc mc129 rfl) rfl <|
  mm_E.bipush (mm_atc mc129 rfl) rfl <|
  mm_E.if2 (mm_atc mc129 rfl) h0 (by decide) (ic_leT h2) rfl <|
  mm_E.iconst (mm_atc mc129 rfl) <|
  mm_E.putI (fi := 0) (z := 0) (mm_atc mc129 rfl) (mm_plc mp129 rfl) ly77 rfl rfl rfl (mm_fit_i rfl) rfl <|
  mm_E.aload_n (mm_atc mc129 rfl) rfl <|
  mm_E.getI (z := 0) (mm_atc mc129 rfl) (mm_plc mp129 rfl) rfl ly77 rfl (mm_u_same) <|
  mm_E.if1 (mm_atc mc129 rfl) (by decide) (ic_eqT (by decide)) rfl <|
  mm_E.aload_n (mm_atc mc129 rfl) rfl <|
  mm_E.iload_n (mm_atc mc129 rfl) rfl <|
  mm_E.putI (fi := 15) (z := x1) (mm_atc mc129 rfl) (mm_plc mp129 rfl) ly77 rfl rfl rfl (mm_fit_i rfl) rfl <|
  mm_E.aload_n (mm_atc mc129 rfl) rfl <|
  mm_E.iconst (mm_atc mc129 rfl) <|
  mm_E.putI (fi := 17) (z := 0) (mm_atc mc129 rfl) (mm_plc mp129 rfl) ly77 rfl rfl rfl rfl rfl <|
  mm_E.vret (mm_atc mc129 rfl) mr129
theorem p129_0_2 {d : Nat} {X : List Value} {A : MF} {x1 : Int} (H : R32 x1 ∧ 1 ≤ x1 ∧ 16 < x1) : mm_E 1 d 129 0 [(0, .ref 77), (1, mI x1)] [] (mm_w X A) (.inl (none), mm_w X (mm_u A 77 0 1), 0, 0) := by
  obtain ⟨h0, h1, h2⟩ := H
  exact mm_E.aload_n (mm_atc mc129 rfl) rfl <|
  mm_E.iload_n (mm_atc mc129 rfl) rfl <|
  mm_E.iconst (mm_atc mc129 rfl) <|
  mm_E.if2 (mm_atc mc129 rfl) h0 (by decide) (ic_ltF h1) rfl <|
  mm_E.iload_n (mm_atc mc129 rfl) rfl <|
  mm_E.bipush (mm_atc mc129 rfl) rfl <|
  mm_E.if2 (mm_atc mc129 rfl) h0 (by decide) (ic_leF h2) rfl <|
  mm_E.iconst (mm_atc mc129 rfl) <|
  mm_E.goto (mm_atc mc129 rfl) rfl <|
  mm_E.putI (fi := 0) (z := 1) (mm_atc mc129 rfl) (mm_plc mp129 rfl) ly77 rfl rfl rfl (mm_fit_i rfl) rfl <|
  mm_E.aload_n (mm_atc mc129 rfl) rfl <|
  mm_E.getI (z := 1) (mm_atc mc129 rfl) (mm_plc mp129 rfl) rfl ly77 rfl (mm_u_same) <|
  mm_E.if1 (mm_atc mc129 rfl) (by decide) (ic_eqF (by decide)) rfl <|
  mm_E.vret (mm_atc mc129 rfl) mr129
theorem p130_0_0 {d : Nat} {X : List Value} {A : MF} {x1 x2 x3 : Int} (H : R32 x3 ∧ x3 < 0) : mm_E 1 d 130 0 [(0, .ref 77), (1, mI x1), (2, mI x2), (3, mI x3)] [] (mm_w X A) (.inl (some (mI 0)), mm_w X (mm_u A 77 0 1), 0, 0) := by
  obtain ⟨h0, h1⟩ := H
  exact mm_E.aload_n (mm_atc mc130 rfl) rfl <|
  mm_E.iload_n (mm_atc mc130 rfl) rfl <|
  mm_E.if1 (mm_atc mc130 rfl) h0 (ic_ltT h1) rfl <|
  mm_E.iconst (mm_atc mc130 rfl) <|
  mm_E.goto (mm_atc mc130 rfl) rfl <|
  mm_E.putI (fi := 0) (z := 1) (mm_atc mc130 rfl) (mm_plc mp130 rfl) ly77 rfl rfl rfl (mm_fit_i rfl) rfl <|
  mm_E.aload_n (mm_atc mc130 rfl) rfl <|
  mm_E.getI (z := 1) (mm_atc mc130 rfl) (mm_plc mp130 rfl) rfl ly77 rfl (mm_u_same) <|
  mm_E.if1 (mm_atc mc130 rfl) (by decide) (ic_eqF (by decide)) rfl <|
  mm_E.iconst (mm_atc mc130 rfl) <|
  mm_E.iret (mm_atc mc130 rfl) mr130 rfl
theorem p130_0_1 {d : Nat} {X : List Value} {A : MF} {x1 x2 x3 : Int} (H : R32 x3 ∧ 0 ≤ x3 ∧ x3 ≤ 12 ∧ R32 x1 ∧ x1 < 0) : mm_E 1 (d + 1) 130 0 [(0, .ref 77), (1, mI x1), (2, mI x2), (3, mI x3)] [] (mm_w X A) (.inl (some (mI 0)), mm_w X (mm_u A 77 0 2), 0, 0) := by
  obtain ⟨h0, h1, h2, h3, h4⟩ := H
  exact mm_E.aload_n (mm_atc mc130 rfl) rfl <|
  mm_E.iload_n (mm_atc mc130 rfl) rfl <|
  mm_E.if1 (mm_atc mc130 rfl) h0 (ic_ltF h1) rfl <|
  mm_E.iload_n (mm_atc mc130 rfl) rfl <|
  mm_E.bipush (mm_atc mc130 rfl) rfl <|
  mm_E.if2 (mm_atc mc130 rfl) h0 (by decide) (ic_leT h2) rfl <|
  mm_E.aload_n (mm_atc mc130 rfl) rfl <|
  mm_E.iload_n (mm_atc mc130 rfl) rfl <|
  mm_E.callV0 (mm_atc mc130 rfl) (mm_plc mp130 rfl) rfl mk112 ly77 rfl mx112 rfl rfl (p112_0_0 (d := d) ⟨h3, h4⟩) (by omega) <|
  show mm_E _ _ 130 20 _ _ _ _ from
  mm_E.if1 (mm_atc mc130 rfl) (by decide) (ic_neT (by decide)) rfl <|
  mm_E.iconst (mm_atc mc130 rfl) <|
  mm_E.goto (mm_atc mc130 rfl) rfl <|
  mm_E.putI (fi := 0) (z := 2) (mm_atc mc130 rfl) (mm_plc mp130 rfl) ly77 rfl rfl rfl (mm_fit_i rfl) rfl <|
  mm_E.aload_n (mm_atc mc130 rfl) rfl <|
  mm_E.getI (z := 2) (mm_atc mc130 rfl) (mm_plc mp130 rfl) rfl ly77 rfl (mm_u_same) <|
  mm_E.if1 (mm_atc mc130 rfl) (by decide) (ic_eqF (by decide)) rfl <|
  mm_E.iconst (mm_atc mc130 rfl) <|
  mm_E.iret (mm_atc mc130 rfl) mr130 rfl
theorem p130_0_2 {d : Nat} {X : List Value} {A : MF} {x1 x2 x3 : Int} (H : R32 x3 ∧ 0 ≤ x3 ∧ x3 ≤ 12 ∧ R32 x1 ∧ 0 ≤ x1 ∧ R32 (A 77 1) ∧ x1 < A 77 1 ∧ R32 x2 ∧ x2 < 0) : mm_E 1 (d + 1) 130 0 [(0, .ref 77), (1, mI x1), (2, mI x2), (3, mI x3)] [] (mm_w X A) (.inl (some (mI 0)), mm_w X (mm_u A 77 0 2), 0, 0) := by
  obtain ⟨h0, h1, h2, h3, h4, h5, h6, h7, h8⟩ := H
  exact mm_E.aload_n (mm_atc mc130 rfl) rfl <|
  mm_E.iload_n (mm_atc mc130 rfl) rfl <|
  mm_E.if1 (mm_atc mc130 rfl) h0 (ic_ltF h1) rfl <|
  mm_E.iload_n (mm_atc mc130 rfl) rfl <|
  mm_E.bipush (mm_atc mc130 rfl) rfl <|
  mm_E.if2 (mm_atc mc130 rfl) h0 (by decide) (ic_leT h2) rfl <|
  mm_E.aload_n (mm_atc mc130 rfl) rfl <|
  mm_E.iload_n (mm_atc mc130 rfl) rfl <|
  mm_E.callV0 (mm_atc mc130 rfl) (mm_plc mp130 rfl) rfl mk112 ly77 rfl mx112 rfl rfl (p112_0_1 (d := d) ⟨h3, h4, h5, h6⟩) (by omega) <|
  show mm_E _ _ 130 20 _ _ _ _ from
  mm_E.if1 (mm_atc mc130 rfl) (by decide) (ic_neF (by decide)) rfl <|
  mm_E.iload_n (mm_atc mc130 rfl) rfl <|
  mm_E.if1 (mm_atc mc130 rfl) h7 (ic_ltT h8) rfl <|
  mm_E.iconst (mm_atc mc130 rfl) <|
  mm_E.goto (mm_atc mc130 rfl) rfl <|
  mm_E.putI (fi := 0) (z := 2) (mm_atc mc130 rfl) (mm_plc mp130 rfl) ly77 rfl rfl rfl (mm_fit_i rfl) rfl <|
  mm_E.aload_n (mm_atc mc130 rfl) rfl <|
  mm_E.getI (z := 2) (mm_atc mc130 rfl) (mm_plc mp130 rfl) rfl ly77 rfl (mm_u_same) <|
  mm_E.if1 (mm_atc mc130 rfl) (by decide) (ic_eqF (by decide)) rfl <|
  mm_E.iconst (mm_atc mc130 rfl) <|
  mm_E.iret (mm_atc mc130 rfl) mr130 rfl
theorem p130_0_3 {d : Nat} {X : List Value} {A : MF} {x1 x2 x3 : Int} (H : R32 x3 ∧ 0 ≤ x3 ∧ x3 ≤ 12 ∧ R32 x1 ∧ 0 ≤ x1 ∧ R32 (A 77 1) ∧ x1 < A 77 1 ∧ R32 x2 ∧ 0 ≤ x2 ∧ x2 ≤ 15 ∧ 0 ≤ (16 * x1) + x2 ∧ (16 * x1) + x2 < 96) : mm_E 1 (d + 1) 130 0 [(0, .ref 77), (1, mI x1), (2, mI x2), (3, mI x3)] [] (mm_w X A) (.inl (some (mI (A 88 ((16 * x1) + x2)))), mm_w X (mm_u (mm_u A 77 0 0) 88 ((16 * x1) + x2) x3), 0, 0) := by
  obtain ⟨h0, h1, h2, h3, h4, h5, h6, h7, h8, h9, h10, h11⟩ := H
  exact mm_E.aload_n (mm_atc mc130 rfl) rfl <|
  mm_E.iload_n (mm_atc mc130 rfl) rfl <|
  mm_E.if1 (mm_atc mc130 rfl) h0 (ic_ltF h1) rfl <|
  mm_E.iload_n (mm_atc mc130 rfl) rfl <|
  mm_E.bipush (mm_atc mc130 rfl) rfl <|
  mm_E.if2 (mm_atc mc130 rfl) h0 (by decide) (ic_leT h2) rfl <|
  mm_E.aload_n (mm_atc mc130 rfl) rfl <|
  mm_E.iload_n (mm_atc mc130 rfl) rfl <|
  mm_E.callV0 (mm_atc mc130 rfl) (mm_plc mp130 rfl) rfl mk112 ly77 rfl mx112 rfl rfl (p112_0_1 (d := d) ⟨h3, h4, h5, h6⟩) (by omega) <|
  show mm_E _ _ 130 20 _ _ _ _ from
  mm_E.if1 (mm_atc mc130 rfl) (by decide) (ic_neF (by decide)) rfl <|
  mm_E.iload_n (mm_atc mc130 rfl) rfl <|
  mm_E.if1 (mm_atc mc130 rfl) h7 (ic_ltF h8) rfl <|
  mm_E.iload_n (mm_atc mc130 rfl) rfl <|
  mm_E.bipush (mm_atc mc130 rfl) rfl <|
  mm_E.if2 (mm_atc mc130 rfl) h7 (by decide) (ic_leT h9) rfl <|
  mm_E.iconst (mm_atc mc130 rfl) <|
  mm_E.putI (fi := 0) (z := 0) (mm_atc mc130 rfl) (mm_plc mp130 rfl) ly77 rfl rfl rfl (mm_fit_i rfl) rfl <|
  mm_E.aload_n (mm_atc mc130 rfl) rfl <|
  mm_E.getI (z := 0) (mm_atc mc130 rfl) (mm_plc mp130 rfl) rfl ly77 rfl (mm_u_same) <|
  mm_E.if1 (mm_atc mc130 rfl) (by decide) (ic_eqT (by decide)) rfl <|
  mm_E.aload_n (mm_atc mc130 rfl) rfl <|
  mm_E.getR (b := 88) (mm_atc mc130 rfl) (mm_plc mp130 rfl) rfl ly77 rfl <|
  mm_E.bipush (mm_atc mc130 rfl) rfl <|
  mm_E.iload_n (mm_atc mc130 rfl) rfl <|
  mm_E.imul (mm_atc mc130 rfl) <|
  mm_E.iload_n (mm_atc mc130 rfl) rfl <|
  mm_E.iadd (mm_atc mc130 rfl) <|
  mm_E.iaload (e := (16 * x1) + x2) (mm_atc mc130 rfl) ly88 rfl h10 h11 rfl ((mm_u_ne (.inl (by decide))).trans (rfl)) <|
  mm_E.istore mx130 rfl (mm_atc mc130 rfl) <|
  show mm_E _ _ 130 63 [(4, mI (A 88 ((16 * x1) + x2))), (0, .ref 77), (1, mI x1), (2, mI x2), (3, mI x3)] _ _ _ from
  mm_E.aload_n (mm_atc mc130 rfl) rfl <|
  mm_E.getR (b := 88) (mm_atc mc130 rfl) (mm_plc mp130 rfl) rfl ly77 rfl <|
  mm_E.bipush (mm_atc mc130 rfl) rfl <|
  mm_E.iload_n (mm_atc mc130 rfl) rfl <|
  mm_E.imul (mm_atc mc130 rfl) <|
  mm_E.iload_n (mm_atc mc130 rfl) rfl <|
  mm_E.iadd (mm_atc mc130 rfl) <|
  mm_E.iload_n (mm_atc mc130 rfl) rfl <|
  mm_E.iastore (e := (16 * x1) + x2) (z := x3) (mm_atc mc130 rfl) ly88 rfl h10 h11 rfl rfl <|
  mm_E.iload (mm_atc mc130 rfl) rfl <|
  mm_E.iret (mm_atc mc130 rfl) mr130 rfl
theorem p130_0_4 {d : Nat} {X : List Value} {A : MF} {x1 x2 x3 : Int} (H : R32 x3 ∧ 0 ≤ x3 ∧ x3 ≤ 12 ∧ R32 x1 ∧ 0 ≤ x1 ∧ R32 (A 77 1) ∧ x1 < A 77 1 ∧ R32 x2 ∧ 0 ≤ x2 ∧ 15 < x2) : mm_E 1 (d + 1) 130 0 [(0, .ref 77), (1, mI x1), (2, mI x2), (3, mI x3)] [] (mm_w X A) (.inl (some (mI 0)), mm_w X (mm_u A 77 0 2), 0, 0) := by
  obtain ⟨h0, h1, h2, h3, h4, h5, h6, h7, h8, h9⟩ := H
  exact mm_E.aload_n (mm_atc mc130 rfl) rfl <|
  mm_E.iload_n (mm_atc mc130 rfl) rfl <|
  mm_E.if1 (mm_atc mc130 rfl) h0 (ic_ltF h1) rfl <|
  mm_E.iload_n (mm_atc mc130 rfl) rfl <|
  mm_E.bipush (mm_atc mc130 rfl) rfl <|
  mm_E.if2 (mm_atc mc130 rfl) h0 (by decide) (ic_leT h2) rfl <|
  mm_E.aload_n (mm_atc mc130 rfl) rfl <|
  mm_E.iload_n (mm_atc mc130 rfl) rfl <|
  mm_E.callV0 (mm_atc mc130 rfl) (mm_plc mp130 rfl) rfl mk112 ly77 rfl mx112 rfl rfl (p112_0_1 (d := d) ⟨h3, h4, h5, h6⟩) (by omega) <|
  show mm_E _ _ 130 20 _ _ _ _ from
  mm_E.if1 (mm_atc mc130 rfl) (by decide) (ic_neF (by decide)) rfl <|
  mm_E.iload_n (mm_atc mc130 rfl) rfl <|
  mm_E.if1 (mm_atc mc130 rfl) h7 (ic_ltF h8) rfl <|
  mm_E.iload_n (mm_atc mc130 rfl) rfl <|
  mm_E.bipush (mm_atc mc130 rfl) rfl <|
  mm_E.if2 (mm_atc mc130 rfl) h7 (by decide) (ic_leF h9) rfl <|
  mm_E.iconst (mm_atc mc130 rfl) <|
  mm_E.goto (mm_atc mc130 rfl) rfl <|
  mm_E.putI (fi := 0) (z := 2) (mm_atc mc130 rfl) (mm_plc mp130 rfl) ly77 rfl rfl rfl (mm_fit_i rfl) rfl <|
  mm_E.aload_n (mm_atc mc130 rfl) rfl <|
  mm_E.getI (z := 2) (mm_atc mc130 rfl) (mm_plc mp130 rfl) rfl ly77 rfl (mm_u_same) <|
  mm_E.if1 (mm_atc mc130 rfl) (by decide) (ic_eqF (by decide)) rfl <|
  mm_E.iconst (mm_atc mc130 rfl) <|
  mm_E.iret (mm_atc mc130 rfl) mr130 rfl
theorem p130_0_5 {d : Nat} {X : List Value} {A : MF} {x1 x2 x3 : Int} (H : R32 x3 ∧ 0 ≤ x3 ∧ x3 ≤ 12 ∧ R32 x1 ∧ 0 ≤ x1 ∧ R32 (A 77 1) ∧ A 77 1 ≤ x1) : mm_E 1 (d + 1) 130 0 [(0, .ref 77), (1, mI x1), (2, mI x2), (3, mI x3)] [] (mm_w X A) (.inl (some (mI 0)), mm_w X (mm_u A 77 0 2), 0, 0) := by
  obtain ⟨h0, h1, h2, h3, h4, h5, h6⟩ := H
  exact mm_E.aload_n (mm_atc mc130 rfl) rfl <|
  mm_E.iload_n (mm_atc mc130 rfl) rfl <|
  mm_E.if1 (mm_atc mc130 rfl) h0 (ic_ltF h1) rfl <|
  mm_E.iload_n (mm_atc mc130 rfl) rfl <|
  mm_E.bipush (mm_atc mc130 rfl) rfl <|
  mm_E.if2 (mm_atc mc130 rfl) h0 (by decide) (ic_leT h2) rfl <|
  mm_E.aload_n (mm_atc mc130 rfl) rfl <|
  mm_E.iload_n (mm_atc mc130 rfl) rfl <|
  mm_E.callV0 (mm_atc mc130 rfl) (mm_plc mp130 rfl) rfl mk112 ly77 rfl mx112 rfl rfl (p112_0_2 (d := d) ⟨h3, h4, h5, h6⟩) (by omega) <|
  show mm_E _ _ 130 20 _ _ _ _ from
  mm_E.if1 (mm_atc mc130 rfl) (by decide) (ic_neT (by decide)) rfl <|
  mm_E.iconst (mm_atc mc130 rfl) <|
  mm_E.goto (mm_atc mc130 rfl) rfl <|
  mm_E.putI (fi := 0) (z := 2) (mm_atc mc130 rfl) (mm_plc mp130 rfl) ly77 rfl rfl rfl (mm_fit_i rfl) rfl <|
  mm_E.aload_n (mm_atc mc130 rfl) rfl <|
  mm_E.getI (z := 2) (mm_atc mc130 rfl) (mm_plc mp130 rfl) rfl ly77 rfl (mm_u_same) <|
  mm_E.if1 (mm_atc mc130 rfl) (by decide) (ic_eqF (by decide)) rfl <|
  mm_E.iconst (mm_atc mc130 rfl) <|
  mm_E.iret (mm_atc mc130 rfl) mr130 rfl
theorem p130_0_6 {d : Nat} {X : List Value} {A : MF} {x1 x2 x3 : Int} (H : R32 x3 ∧ 0 ≤ x3 ∧ 12 < x3) : mm_E 1 d 130 0 [(0, .ref 77), (1, mI x1), (2, mI x2), (3, mI x3)] [] (mm_w X A) (.inl (some (mI 0)), mm_w X (mm_u A 77 0 1), 0, 0) := by
  obtain ⟨h0, h1, h2⟩ := H
  exact mm_E.aload_n (mm_atc mc130 rfl) rfl <|
  mm_E.iload_n (mm_atc mc130 rfl) rfl <|
  mm_E.if1 (mm_atc mc130 rfl) h0 (ic_ltF h1) rfl <|
  mm_E.iload_n (mm_atc mc130 rfl) rfl <|
  mm_E.bipush (mm_atc mc130 rfl) rfl <|
  mm_E.if2 (mm_atc mc130 rfl) h0 (by decide) (ic_leF h2) rfl <|
  mm_E.iconst (mm_atc mc130 rfl) <|
  mm_E.goto (mm_atc mc130 rfl) rfl <|
  mm_E.putI (fi := 0) (z := 1) (mm_atc mc130 rfl) (mm_plc mp130 rfl) ly77 rfl rfl rfl (mm_fit_i rfl) rfl <|
  mm_E.aload_n (mm_atc mc130 rfl) rfl <|
  mm_E.getI (z := 1) (mm_atc mc130 rfl) (mm_plc mp130 rfl) rfl ly77 rfl (mm_u_same) <|
  mm_E.if1 (mm_atc mc130 rfl) (by decide) (ic_eqF (by decide)) rfl <|
  mm_E.iconst (mm_atc mc130 rfl) <|
  mm_E.iret (mm_atc mc130 rfl) mr130 rfl
theorem p131_0_0 {d : Nat} {X : List Value} {A : MF} {x1 : Int} {A0 : MF} (s0 : mm_E 1 d 106 0 [(0, .ref 77)] [] (mm_w X (mm_u A 77 0 0)) (.inl (none), mm_w X A0, 0, 0)) (H : R32 x1 ∧ x1 = 0) : mm_E 1 (d + 1) 131 0 [(0, .ref 77), (1, mI x1)] [] (mm_w X A) (.inl (none), mm_w X (mm_u A0 77 17 1), 0, 0) := by
  obtain ⟨h0, h1⟩ := H
  exact mm_E.aload_n (mm_atc mc131 rfl) rfl <|
  mm_E.iconst (mm_atc mc131 rfl) <|
  mm_E.putI (fi := 0) (z := 0) (mm_atc mc131 rfl) (mm_plc mp131 rfl) ly77 rfl rfl rfl (mm_fit_i rfl) rfl <|
  mm_E.iload_n (mm_atc mc131 rfl) rfl <|
  mm_E.if1 (mm_atc mc131 rfl) h0 (ic_eqT h1) rfl <|
  mm_E.aload_n (mm_atc mc131 rfl) rfl <|
  mm_E.callV0 (mm_atc mc131 rfl) (mm_plc mp131 rfl) rfl mk106 ly77 rfl mx106 rfl rfl s0 (by omega) <|
  show mm_E _ _ 131 20 _ _ _ _ from
  mm_E.aload_n (mm_atc mc131 rfl) rfl <|
  mm_E.iconst (mm_atc mc131 rfl) <|
  mm_E.putI (fi := 17) (z := 1) (mm_atc mc131 rfl) (mm_plc mp131 rfl) ly77 rfl rfl rfl rfl rfl <|
  mm_E.vret (mm_atc mc131 rfl) mr131
theorem p131_0_1 {d : Nat} {X : List Value} {A : MF} {x1 : Int} {A0 : MF} (s0 : mm_E 1 d 109 0 [(0, .ref 77)] [] (mm_w X (mm_u A 77 0 0)) (.inl (none), mm_w X A0, 0, 0)) (H : R32 x1 ∧ x1 ≠ 0) : mm_E 1 (d + 1) 131 0 [(0, .ref 77), (1, mI x1)] [] (mm_w X A) (.inl (none), mm_w X (mm_u A0 77 17 1), 0, 0) := by
  obtain ⟨h0, h1⟩ := H
  exact mm_E.aload_n (mm_atc mc131 rfl) rfl <|
  mm_E.iconst (mm_atc mc131 rfl) <|
  mm_E.putI (fi := 0) (z := 0) (mm_atc mc131 rfl) (mm_plc mp131 rfl) ly77 rfl rfl rfl (mm_fit_i rfl) rfl <|
  mm_E.iload_n (mm_atc mc131 rfl) rfl <|
  mm_E.if1 (mm_atc mc131 rfl) h0 (ic_eqF h1) rfl <|
  mm_E.aload_n (mm_atc mc131 rfl) rfl <|
  mm_E.callV0 (mm_atc mc131 rfl) (mm_plc mp131 rfl) rfl mk109 ly77 rfl mx109 rfl rfl s0 (by omega) <|
  show mm_E _ _ 131 13 _ _ _ _ from
  mm_E.goto (mm_atc mc131 rfl) rfl <|
  mm_E.aload_n (mm_atc mc131 rfl) rfl <|
  mm_E.iconst (mm_atc mc131 rfl) <|
  mm_E.putI (fi := 17) (z := 1) (mm_atc mc131 rfl) (mm_plc mp131 rfl) ly77 rfl rfl rfl rfl rfl <|
  mm_E.vret (mm_atc mc131 rfl) mr131
theorem p132_0_0 {d : Nat} {X : List Value} {A : MF} {x1 x2 : Int} (H : R32 x1 ∧ x1 < 0) : mm_E 1 (d + 1) 132 0 [(0, .ref 77), (1, mI x1), (2, mI x2)] [] (mm_w X A) (.inl (some (mJ 0)), mm_w X (mm_u A 77 0 1), 0, 0) := by
  obtain ⟨h0, h1⟩ := H
  exact mm_E.aload_n (mm_atc mc132 rfl) rfl <|
  mm_E.aload_n (mm_atc mc132 rfl) rfl <|
  mm_E.iload_n (mm_atc mc132 rfl) rfl <|
  mm_E.callV0 (mm_atc mc132 rfl) (mm_plc mp132 rfl) rfl mk112 ly77 rfl mx112 rfl rfl (p112_0_0 (d := d) ⟨h0, h1⟩) (by omega) <|
  show mm_E _ _ 132 6 _ _ _ _ from
  mm_E.if1 (mm_atc mc132 rfl) (by decide) (ic_neT (by decide)) rfl <|
  mm_E.iconst (mm_atc mc132 rfl) <|
  mm_E.goto (mm_atc mc132 rfl) rfl <|
  mm_E.putI (fi := 0) (z := 1) (mm_atc mc132 rfl) (mm_plc mp132 rfl) ly77 rfl rfl rfl (mm_fit_i rfl) rfl <|
  mm_E.aload_n (mm_atc mc132 rfl) rfl <|
  mm_E.getI (z := 1) (mm_atc mc132 rfl) (mm_plc mp132 rfl) rfl ly77 rfl (mm_u_same) <|
  mm_E.if1 (mm_atc mc132 rfl) (by decide) (ic_eqF (by decide)) rfl <|
  mm_E.lconst (z := 0) (mm_atc mc132 rfl) rfl <|
  mm_E.lret (mm_atc mc132 rfl) mr132
theorem p132_0_1 {d : Nat} {X : List Value} {A : MF} {x1 x2 : Int} (H : R32 x1 ∧ 0 ≤ x1 ∧ R32 (A 77 1) ∧ x1 < A 77 1 ∧ R32 x2 ∧ x2 < 0) : mm_E 1 (d + 1) 132 0 [(0, .ref 77), (1, mI x1), (2, mI x2)] [] (mm_w X A) (.inl (some (mJ 0)), mm_w X (mm_u A 77 0 1), 0, 0) := by
  obtain ⟨h0, h1, h2, h3, h4, h5⟩ := H
  exact mm_E.aload_n (mm_atc mc132 rfl) rfl <|
  mm_E.aload_n (mm_atc mc132 rfl) rfl <|
  mm_E.iload_n (mm_atc mc132 rfl) rfl <|
  mm_E.callV0 (mm_atc mc132 rfl) (mm_plc mp132 rfl) rfl mk112 ly77 rfl mx112 rfl rfl (p112_0_1 (d := d) ⟨h0, h1, h2, h3⟩) (by omega) <|
  show mm_E _ _ 132 6 _ _ _ _ from
  mm_E.if1 (mm_atc mc132 rfl) (by decide) (ic_neF (by decide)) rfl <|
  mm_E.iload_n (mm_atc mc132 rfl) rfl <|
  mm_E.if1 (mm_atc mc132 rfl) h4 (ic_ltT h5) rfl <|
  mm_E.iconst (mm_atc mc132 rfl) <|
  mm_E.goto (mm_atc mc132 rfl) rfl <|
  mm_E.putI (fi := 0) (z := 1) (mm_atc mc132 rfl) (mm_plc mp132 rfl) ly77 rfl rfl rfl (mm_fit_i rfl) rfl <|
  mm_E.aload_n (mm_atc mc132 rfl) rfl <|
  mm_E.getI (z := 1) (mm_atc mc132 rfl) (mm_plc mp132 rfl) rfl ly77 rfl (mm_u_same) <|
  mm_E.if1 (mm_atc mc132 rfl) (by decide) (ic_eqF (by decide)) rfl <|
  mm_E.lconst (z := 0) (mm_atc mc132 rfl) rfl <|
  mm_E.lret (mm_atc mc132 rfl) mr132
theorem p132_0_2 {d : Nat} {X : List Value} {A : MF} {x1 x2 : Int} (H : R32 x1 ∧ 0 ≤ x1 ∧ R32 (A 77 1) ∧ x1 < A 77 1 ∧ R32 x2 ∧ 0 ≤ x2 ∧ x2 ≤ 3 ∧ R32 (A 77 17) ∧ A 77 17 ≠ 0 ∧ x2 ≠ 0 ∧ x2 ≠ 1 ∧ x2 ≠ 2 ∧ x1 < 6) : mm_E 1 (d + 1) 132 0 [(0, .ref 77), (1, mI x1), (2, mI x2)] [] (mm_w X A) (.inl (some (mJ (A 92 x1))), mm_w X (mm_u A 77 0 0), 0, 0) := by
  obtain ⟨h0, h1, h2, h3, h4, h5, h6, h7, h8, h9, h10, h11, h12⟩ := H
  exact mm_E.aload_n (mm_atc mc132 rfl) rfl <|
  mm_E.aload_n (mm_atc mc132 rfl) rfl <|
  mm_E.iload_n (mm_atc mc132 rfl) rfl <|
  mm_E.callV0 (mm_atc mc132 rfl) (mm_plc mp132 rfl) rfl mk112 ly77 rfl mx112 rfl rfl (p112_0_1 (d := d) ⟨h0, h1, h2, h3⟩) (by omega) <|
  show mm_E _ _ 132 6 _ _ _ _ from
  mm_E.if1 (mm_atc mc132 rfl) (by decide) (ic_neF (by decide)) rfl <|
  mm_E.iload_n (mm_atc mc132 rfl) rfl <|
  mm_E.if1 (mm_atc mc132 rfl) h4 (ic_ltF h5) rfl <|
  mm_E.iload_n (mm_atc mc132 rfl) rfl <|
  mm_E.iconst (mm_atc mc132 rfl) <|
  mm_E.if2 (mm_atc mc132 rfl) h4 (by decide) (ic_leT h6) rfl <|
  mm_E.aload_n (mm_atc mc132 rfl) rfl <|
  mm_E.getI (z := A 77 17) (mm_atc mc132 rfl) (mm_plc mp132 rfl) rfl ly77 rfl (rfl) <|
  mm_E.if1 (mm_atc mc132 rfl) h7 (ic_neT h8) rfl <|
  mm_E.iconst (mm_atc mc132 rfl) <|
  mm_E.putI (fi := 0) (z := 0) (mm_atc mc132 rfl) (mm_plc mp132 rfl) ly77 rfl rfl rfl (mm_fit_i rfl) rfl <|
  mm_E.aload_n (mm_atc mc132 rfl) rfl <|
  mm_E.getI (z := 0) (mm_atc mc132 rfl) (mm_plc mp132 rfl) rfl ly77 rfl (mm_u_same) <|
  mm_E.if1 (mm_atc mc132 rfl) (by decide) (ic_eqT (by decide)) rfl <|
  mm_E.iload_n (mm_atc mc132 rfl) rfl <|
  mm_E.if1 (mm_atc mc132 rfl) h4 (ic_neT h9) rfl <|
  mm_E.iload_n (mm_atc mc132 rfl) rfl <|
  mm_E.iconst (mm_atc mc132 rfl) <|
  mm_E.if2 (mm_atc mc132 rfl) h4 (by decide) (ic_neT h10) rfl <|
  mm_E.iload_n (mm_atc mc132 rfl) rfl <|
  mm_E.iconst (mm_atc mc132 rfl) <|
  mm_E.if2 (mm_atc mc132 rfl) h4 (by decide) (ic_neT h11) rfl <|
  mm_E.aload_n (mm_atc mc132 rfl) rfl <|
  mm_E.getR (b := 92) (mm_atc mc132 rfl) (mm_plc mp132 rfl) rfl ly77 rfl <|
  mm_E.iload_n (mm_atc mc132 rfl) rfl <|
  mm_E.laload (e := x1) (mm_atc mc132 rfl) ly92 rfl h1 h12 rfl ((mm_u_ne (.inl (by decide))).trans (rfl)) <|
  mm_E.lret (mm_atc mc132 rfl) mr132
theorem p132_0_3 {d : Nat} {X : List Value} {A : MF} {x1 x2 : Int} (H : R32 x1 ∧ 0 ≤ x1 ∧ R32 (A 77 1) ∧ x1 < A 77 1 ∧ R32 x2 ∧ 0 ≤ x2 ∧ x2 ≤ 3 ∧ R32 (A 77 17) ∧ A 77 17 ≠ 0 ∧ x2 ≠ 0 ∧ x2 ≠ 1 ∧ x2 = 2 ∧ x1 < 6) : mm_E 1 (d + 1) 132 0 [(0, .ref 77), (1, mI x1), (2, mI x2)] [] (mm_w X A) (.inl (some (mJ (A 91 x1))), mm_w X (mm_u A 77 0 0), 0, 0) := by
  obtain ⟨h0, h1, h2, h3, h4, h5, h6, h7, h8, h9, h10, h11, h12⟩ := H
  exact mm_E.aload_n (mm_atc mc132 rfl) rfl <|
  mm_E.aload_n (mm_atc mc132 rfl) rfl <|
  mm_E.iload_n (mm_atc mc132 rfl) rfl <|
  mm_E.callV0 (mm_atc mc132 rfl) (mm_plc mp132 rfl) rfl mk112 ly77 rfl mx112 rfl rfl (p112_0_1 (d := d) ⟨h0, h1, h2, h3⟩) (by omega) <|
  show mm_E _ _ 132 6 _ _ _ _ from
  mm_E.if1 (mm_atc mc132 rfl) (by decide) (ic_neF (by decide)) rfl <|
  mm_E.iload_n (mm_atc mc132 rfl) rfl <|
  mm_E.if1 (mm_atc mc132 rfl) h4 (ic_ltF h5) rfl <|
  mm_E.iload_n (mm_atc mc132 rfl) rfl <|
  mm_E.iconst (mm_atc mc132 rfl) <|
  mm_E.if2 (mm_atc mc132 rfl) h4 (by decide) (ic_leT h6) rfl <|
  mm_E.aload_n (mm_atc mc132 rfl) rfl <|
  mm_E.getI (z := A 77 17) (mm_atc mc132 rfl) (mm_plc mp132 rfl) rfl ly77 rfl (rfl) <|
  mm_E.if1 (mm_atc mc132 rfl) h7 (ic_neT h8) rfl <|
  mm_E.iconst (mm_atc mc132 rfl) <|
  mm_E.putI (fi := 0) (z := 0) (mm_atc mc132 rfl) (mm_plc mp132 rfl) ly77 rfl rfl rfl (mm_fit_i rfl) rfl <|
  mm_E.aload_n (mm_atc mc132 rfl) rfl <|
  mm_E.getI (z := 0) (mm_atc mc132 rfl) (mm_plc mp132 rfl) rfl ly77 rfl (mm_u_same) <|
  mm_E.if1 (mm_atc mc132 rfl) (by decide) (ic_eqT (by decide)) rfl <|
  mm_E.iload_n (mm_atc mc132 rfl) rfl <|
  mm_E.if1 (mm_atc mc132 rfl) h4 (ic_neT h9) rfl <|
  mm_E.iload_n (mm_atc mc132 rfl) rfl <|
  mm_E.iconst (mm_atc mc132 rfl) <|
  mm_E.if2 (mm_atc mc132 rfl) h4 (by decide) (ic_neT h10) rfl <|
  mm_E.iload_n (mm_atc mc132 rfl) rfl <|
  mm_E.iconst (mm_atc mc132 rfl) <|
  mm_E.if2 (mm_atc mc132 rfl) h4 (by decide) (ic_neF h11) rfl <|
  mm_E.aload_n (mm_atc mc132 rfl) rfl <|
  mm_E.getR (b := 91) (mm_atc mc132 rfl) (mm_plc mp132 rfl) rfl ly77 rfl <|
  mm_E.iload_n (mm_atc mc132 rfl) rfl <|
  mm_E.laload (e := x1) (mm_atc mc132 rfl) ly91 rfl h1 h12 rfl ((mm_u_ne (.inl (by decide))).trans (rfl)) <|
  mm_E.goto (mm_atc mc132 rfl) rfl <|
  mm_E.lret (mm_atc mc132 rfl) mr132
theorem p132_0_4 {d : Nat} {X : List Value} {A : MF} {x1 x2 : Int} (H : R32 x1 ∧ 0 ≤ x1 ∧ R32 (A 77 1) ∧ x1 < A 77 1 ∧ R32 x2 ∧ 0 ≤ x2 ∧ x2 ≤ 3 ∧ R32 (A 77 17) ∧ A 77 17 ≠ 0 ∧ x2 ≠ 0 ∧ x2 = 1 ∧ x1 < 6) : mm_E 1 (d + 1) 132 0 [(0, .ref 77), (1, mI x1), (2, mI x2)] [] (mm_w X A) (.inl (some (mJ (A 90 x1))), mm_w X (mm_u A 77 0 0), 0, 0) := by
  obtain ⟨h0, h1, h2, h3, h4, h5, h6, h7, h8, h9, h10, h11⟩ := H
  exact mm_E.aload_n (mm_atc mc132 rfl) rfl <|
  mm_E.aload_n (mm_atc mc132 rfl) rfl <|
  mm_E.iload_n (mm_atc mc132 rfl) rfl <|
  mm_E.callV0 (mm_atc mc132 rfl) (mm_plc mp132 rfl) rfl mk112 ly77 rfl mx112 rfl rfl (p112_0_1 (d := d) ⟨h0, h1, h2, h3⟩) (by omega) <|
  show mm_E _ _ 132 6 _ _ _ _ from
  mm_E.if1 (mm_atc mc132 rfl) (by decide) (ic_neF (by decide)) rfl <|
  mm_E.iload_n (mm_atc mc132 rfl) rfl <|
  mm_E.if1 (mm_atc mc132 rfl) h4 (ic_ltF h5) rfl <|
  mm_E.iload_n (mm_atc mc132 rfl) rfl <|
  mm_E.iconst (mm_atc mc132 rfl) <|
  mm_E.if2 (mm_atc mc132 rfl) h4 (by decide) (ic_leT h6) rfl <|
  mm_E.aload_n (mm_atc mc132 rfl) rfl <|
  mm_E.getI (z := A 77 17) (mm_atc mc132 rfl) (mm_plc mp132 rfl) rfl ly77 rfl (rfl) <|
  mm_E.if1 (mm_atc mc132 rfl) h7 (ic_neT h8) rfl <|
  mm_E.iconst (mm_atc mc132 rfl) <|
  mm_E.putI (fi := 0) (z := 0) (mm_atc mc132 rfl) (mm_plc mp132 rfl) ly77 rfl rfl rfl (mm_fit_i rfl) rfl <|
  mm_E.aload_n (mm_atc mc132 rfl) rfl <|
  mm_E.getI (z := 0) (mm_atc mc132 rfl) (mm_plc mp132 rfl) rfl ly77 rfl (mm_u_same) <|
  mm_E.if1 (mm_atc mc132 rfl) (by decide) (ic_eqT (by decide)) rfl <|
  mm_E.iload_n (mm_atc mc132 rfl) rfl <|
  mm_E.if1 (mm_atc mc132 rfl) h4 (ic_neT h9) rfl <|
  mm_E.iload_n (mm_atc mc132 rfl) rfl <|
  mm_E.iconst (mm_atc mc132 rfl) <|
  mm_E.if2 (mm_atc mc132 rfl) h4 (by decide) (ic_neF h10) rfl <|
  mm_E.aload_n (mm_atc mc132 rfl) rfl <|
  mm_E.getR (b := 90) (mm_atc mc132 rfl) (mm_plc mp132 rfl) rfl ly77 rfl <|
  mm_E.iload_n (mm_atc mc132 rfl) rfl <|
  mm_E.laload (e := x1) (mm_atc mc132 rfl) ly90 rfl h1 h11 rfl ((mm_u_ne (.inl (by decide))).trans (rfl)) <|
  mm_E.goto (mm_atc mc132 rfl) rfl <|
  mm_E.lret (mm_atc mc132 rfl) mr132
theorem p132_0_5 {d : Nat} {X : List Value} {A : MF} {x1 x2 : Int} (H : R32 x1 ∧ 0 ≤ x1 ∧ R32 (A 77 1) ∧ x1 < A 77 1 ∧ R32 x2 ∧ 0 ≤ x2 ∧ x2 ≤ 3 ∧ R32 (A 77 17) ∧ A 77 17 ≠ 0 ∧ x2 = 0 ∧ x1 < 6) : mm_E 1 (d + 1) 132 0 [(0, .ref 77), (1, mI x1), (2, mI x2)] [] (mm_w X A) (.inl (some (mJ (A 89 x1))), mm_w X (mm_u A 77 0 0), 0, 0) := by
  obtain ⟨h0, h1, h2, h3, h4, h5, h6, h7, h8, h9, h10⟩ := H
  exact mm_E.aload_n (mm_atc mc132 rfl) rfl <|
  mm_E.aload_n (mm_atc mc132 rfl) rfl <|
  mm_E.iload_n (mm_atc mc132 rfl) rfl <|
  mm_E.callV0 (mm_atc mc132 rfl) (mm_plc mp132 rfl) rfl mk112 ly77 rfl mx112 rfl rfl (p112_0_1 (d := d) ⟨h0, h1, h2, h3⟩) (by omega) <|
  show mm_E _ _ 132 6 _ _ _ _ from
  mm_E.if1 (mm_atc mc132 rfl) (by decide) (ic_neF (by decide)) rfl <|
  mm_E.iload_n (mm_atc mc132 rfl) rfl <|
  mm_E.if1 (mm_atc mc132 rfl) h4 (ic_ltF h5) rfl <|
  mm_E.iload_n (mm_atc mc132 rfl) rfl <|
  mm_E.iconst (mm_atc mc132 rfl) <|
  mm_E.if2 (mm_atc mc132 rfl) h4 (by decide) (ic_leT h6) rfl <|
  mm_E.aload_n (mm_atc mc132 rfl) rfl <|
  mm_E.getI (z := A 77 17) (mm_atc mc132 rfl) (mm_plc mp132 rfl) rfl ly77 rfl (rfl) <|
  mm_E.if1 (mm_atc mc132 rfl) h7 (ic_neT h8) rfl <|
  mm_E.iconst (mm_atc mc132 rfl) <|
  mm_E.putI (fi := 0) (z := 0) (mm_atc mc132 rfl) (mm_plc mp132 rfl) ly77 rfl rfl rfl (mm_fit_i rfl) rfl <|
  mm_E.aload_n (mm_atc mc132 rfl) rfl <|
  mm_E.getI (z := 0) (mm_atc mc132 rfl) (mm_plc mp132 rfl) rfl ly77 rfl (mm_u_same) <|
  mm_E.if1 (mm_atc mc132 rfl) (by decide) (ic_eqT (by decide)) rfl <|
  mm_E.iload_n (mm_atc mc132 rfl) rfl <|
  mm_E.if1 (mm_atc mc132 rfl) h4 (ic_neF h9) rfl <|
  mm_E.aload_n (mm_atc mc132 rfl) rfl <|
  mm_E.getR (b := 89) (mm_atc mc132 rfl) (mm_plc mp132 rfl) rfl ly77 rfl <|
  mm_E.iload_n (mm_atc mc132 rfl) rfl <|
  mm_E.laload (e := x1) (mm_atc mc132 rfl) ly89 rfl h1 h10 rfl ((mm_u_ne (.inl (by decide))).trans (rfl)) <|
  mm_E.goto (mm_atc mc132 rfl) rfl <|
  mm_E.lret (mm_atc mc132 rfl) mr132
theorem p132_0_6 {d : Nat} {X : List Value} {A : MF} {x1 x2 : Int} (H : R32 x1 ∧ 0 ≤ x1 ∧ R32 (A 77 1) ∧ x1 < A 77 1 ∧ R32 x2 ∧ 0 ≤ x2 ∧ x2 ≤ 3 ∧ R32 (A 77 17) ∧ A 77 17 = 0) : mm_E 1 (d + 1) 132 0 [(0, .ref 77), (1, mI x1), (2, mI x2)] [] (mm_w X A) (.inl (some (mJ 0)), mm_w X (mm_u A 77 0 2), 0, 0) := by
  obtain ⟨h0, h1, h2, h3, h4, h5, h6, h7, h8⟩ := H
  exact mm_E.aload_n (mm_atc mc132 rfl) rfl <|
  mm_E.aload_n (mm_atc mc132 rfl) rfl <|
  mm_E.iload_n (mm_atc mc132 rfl) rfl <|
  mm_E.callV0 (mm_atc mc132 rfl) (mm_plc mp132 rfl) rfl mk112 ly77 rfl mx112 rfl rfl (p112_0_1 (d := d) ⟨h0, h1, h2, h3⟩) (by omega) <|
  show mm_E _ _ 132 6 _ _ _ _ from
  mm_E.if1 (mm_atc mc132 rfl) (by decide) (ic_neF (by decide)) rfl <|
  mm_E.iload_n (mm_atc mc132 rfl) rfl <|
  mm_E.if1 (mm_atc mc132 rfl) h4 (ic_ltF h5) rfl <|
  mm_E.iload_n (mm_atc mc132 rfl) rfl <|
  mm_E.iconst (mm_atc mc132 rfl) <|
  mm_E.if2 (mm_atc mc132 rfl) h4 (by decide) (ic_leT h6) rfl <|
  mm_E.aload_n (mm_atc mc132 rfl) rfl <|
  mm_E.getI (z := A 77 17) (mm_atc mc132 rfl) (mm_plc mp132 rfl) rfl ly77 rfl (rfl) <|
  mm_E.if1 (mm_atc mc132 rfl) h7 (ic_neF h8) rfl <|
  mm_E.iconst (mm_atc mc132 rfl) <|
  mm_E.goto (mm_atc mc132 rfl) rfl <|
  mm_E.putI (fi := 0) (z := 2) (mm_atc mc132 rfl) (mm_plc mp132 rfl) ly77 rfl rfl rfl (mm_fit_i rfl) rfl <|
  mm_E.aload_n (mm_atc mc132 rfl) rfl <|
  mm_E.getI (z := 2) (mm_atc mc132 rfl) (mm_plc mp132 rfl) rfl ly77 rfl (mm_u_same) <|
  mm_E.if1 (mm_atc mc132 rfl) (by decide) (ic_eqF (by decide)) rfl <|
  mm_E.lconst (z := 0) (mm_atc mc132 rfl) rfl <|
  mm_E.lret (mm_atc mc132 rfl) mr132
theorem p132_0_7 {d : Nat} {X : List Value} {A : MF} {x1 x2 : Int} (H : R32 x1 ∧ 0 ≤ x1 ∧ R32 (A 77 1) ∧ x1 < A 77 1 ∧ R32 x2 ∧ 0 ≤ x2 ∧ 3 < x2) : mm_E 1 (d + 1) 132 0 [(0, .ref 77), (1, mI x1), (2, mI x2)] [] (mm_w X A) (.inl (some (mJ 0)), mm_w X (mm_u A 77 0 1), 0, 0) := by
  obtain ⟨h0, h1, h2, h3, h4, h5, h6⟩ := H
  exact mm_E.aload_n (mm_atc mc132 rfl) rfl <|
  mm_E.aload_n (mm_atc mc132 rfl) rfl <|
  mm_E.iload_n (mm_atc mc132 rfl) rfl <|
  mm_E.callV0 (mm_atc mc132 rfl) (mm_plc mp132 rfl) rfl mk112 ly77 rfl mx112 rfl rfl (p112_0_1 (d := d) ⟨h0, h1, h2, h3⟩) (by omega) <|
  show mm_E _ _ 132 6 _ _ _ _ from
  mm_E.if1 (mm_atc mc132 rfl) (by decide) (ic_neF (by decide)) rfl <|
  mm_E.iload_n (mm_atc mc132 rfl) rfl <|
  mm_E.if1 (mm_atc mc132 rfl) h4 (ic_ltF h5) rfl <|
  mm_E.iload_n (mm_atc mc132 rfl) rfl <|
  mm_E.iconst (mm_atc mc132 rfl) <|
  mm_E.if2 (mm_atc mc132 rfl) h4 (by decide) (ic_leF h6) rfl <|
  mm_E.iconst (mm_atc mc132 rfl) <|
  mm_E.goto (mm_atc mc132 rfl) rfl <|
  mm_E.putI (fi := 0) (z := 1) (mm_atc mc132 rfl) (mm_plc mp132 rfl) ly77 rfl rfl rfl (mm_fit_i rfl) rfl <|
  mm_E.aload_n (mm_atc mc132 rfl) rfl <|
  mm_E.getI (z := 1) (mm_atc mc132 rfl) (mm_plc mp132 rfl) rfl ly77 rfl (mm_u_same) <|
  mm_E.if1 (mm_atc mc132 rfl) (by decide) (ic_eqF (by decide)) rfl <|
  mm_E.lconst (z := 0) (mm_atc mc132 rfl) rfl <|
  mm_E.lret (mm_atc mc132 rfl) mr132
theorem p132_0_8 {d : Nat} {X : List Value} {A : MF} {x1 x2 : Int} (H : R32 x1 ∧ 0 ≤ x1 ∧ R32 (A 77 1) ∧ A 77 1 ≤ x1) : mm_E 1 (d + 1) 132 0 [(0, .ref 77), (1, mI x1), (2, mI x2)] [] (mm_w X A) (.inl (some (mJ 0)), mm_w X (mm_u A 77 0 1), 0, 0) := by
  obtain ⟨h0, h1, h2, h3⟩ := H
  exact mm_E.aload_n (mm_atc mc132 rfl) rfl <|
  mm_E.aload_n (mm_atc mc132 rfl) rfl <|
  mm_E.iload_n (mm_atc mc132 rfl) rfl <|
  mm_E.callV0 (mm_atc mc132 rfl) (mm_plc mp132 rfl) rfl mk112 ly77 rfl mx112 rfl rfl (p112_0_2 (d := d) ⟨h0, h1, h2, h3⟩) (by omega) <|
  show mm_E _ _ 132 6 _ _ _ _ from
  mm_E.if1 (mm_atc mc132 rfl) (by decide) (ic_neT (by decide)) rfl <|
  mm_E.iconst (mm_atc mc132 rfl) <|
  mm_E.goto (mm_atc mc132 rfl) rfl <|
  mm_E.putI (fi := 0) (z := 1) (mm_atc mc132 rfl) (mm_plc mp132 rfl) ly77 rfl rfl rfl (mm_fit_i rfl) rfl <|
  mm_E.aload_n (mm_atc mc132 rfl) rfl <|
  mm_E.getI (z := 1) (mm_atc mc132 rfl) (mm_plc mp132 rfl) rfl ly77 rfl (mm_u_same) <|
  mm_E.if1 (mm_atc mc132 rfl) (by decide) (ic_eqF (by decide)) rfl <|
  mm_E.lconst (z := 0) (mm_atc mc132 rfl) rfl <|
  mm_E.lret (mm_atc mc132 rfl) mr132
theorem p133_0_0 {d : Nat} {X : List Value} {A : MF} {x1 x2 x3 : Int} (H : R32 x1 ∧ x1 < 0) : mm_E 1 (d + 1) 133 0 [(0, .ref 77), (1, mI x1), (2, mI x2), (3, mI x3)] [] (mm_w X A) (.inl (some (mJ 0)), mm_w X (mm_u A 77 0 1), 0, 0) := by
  obtain ⟨h0, h1⟩ := H
  exact mm_E.aload_n (mm_atc mc133 rfl) rfl <|
  mm_E.aload_n (mm_atc mc133 rfl) rfl <|
  mm_E.iload_n (mm_atc mc133 rfl) rfl <|
  mm_E.callV0 (mm_atc mc133 rfl) (mm_plc mp133 rfl) rfl mk112 ly77 rfl mx112 rfl rfl (p112_0_0 (d := d) ⟨h0, h1⟩) (by omega) <|
  show mm_E _ _ 133 6 _ _ _ _ from
  mm_E.if1 (mm_atc mc133 rfl) (by decide) (ic_neT (by decide)) rfl <|
  mm_E.iconst (mm_atc mc133 rfl) <|
  mm_E.goto (mm_atc mc133 rfl) rfl <|
  mm_E.putI (fi := 0) (z := 1) (mm_atc mc133 rfl) (mm_plc mp133 rfl) ly77 rfl rfl rfl (mm_fit_i rfl) rfl <|
  mm_E.aload_n (mm_atc mc133 rfl) rfl <|
  mm_E.getI (z := 1) (mm_atc mc133 rfl) (mm_plc mp133 rfl) rfl ly77 rfl (mm_u_same) <|
  mm_E.if1 (mm_atc mc133 rfl) (by decide) (ic_eqF (by decide)) rfl <|
  mm_E.lconst (z := 0) (mm_atc mc133 rfl) rfl <|
  mm_E.lret (mm_atc mc133 rfl) mr133
theorem p133_0_1 {d : Nat} {X : List Value} {A : MF} {x1 x2 x3 : Int} (H : R32 x1 ∧ 0 ≤ x1 ∧ R32 (A 77 1) ∧ x1 < A 77 1 ∧ R32 x2 ∧ x2 < 0) : mm_E 1 (d + 1) 133 0 [(0, .ref 77), (1, mI x1), (2, mI x2), (3, mI x3)] [] (mm_w X A) (.inl (some (mJ 0)), mm_w X (mm_u A 77 0 1), 0, 0) := by
  obtain ⟨h0, h1, h2, h3, h4, h5⟩ := H
  exact mm_E.aload_n (mm_atc mc133 rfl) rfl <|
  mm_E.aload_n (mm_atc mc133 rfl) rfl <|
  mm_E.iload_n (mm_atc mc133 rfl) rfl <|
  mm_E.callV0 (mm_atc mc133 rfl) (mm_plc mp133 rfl) rfl mk112 ly77 rfl mx112 rfl rfl (p112_0_1 (d := d) ⟨h0, h1, h2, h3⟩) (by omega) <|
  show mm_E _ _ 133 6 _ _ _ _ from
  mm_E.if1 (mm_atc mc133 rfl) (by decide) (ic_neF (by decide)) rfl <|
  mm_E.aload_n (mm_atc mc133 rfl) rfl <|
  mm_E.iload_n (mm_atc mc133 rfl) rfl <|
  mm_E.callV0 (mm_atc mc133 rfl) (mm_plc mp133 rfl) rfl mk112 ly77 rfl mx112 rfl rfl (p112_0_0 (d := d) ⟨h4, h5⟩) (by omega) <|
  show mm_E _ _ 133 14 _ _ _ _ from
  mm_E.if1 (mm_atc mc133 rfl) (by decide) (ic_neT (by decide)) rfl <|
  mm_E.iconst (mm_atc mc133 rfl) <|
  mm_E.goto (mm_atc mc133 rfl) rfl <|
  mm_E.putI (fi := 0) (z := 1) (mm_atc mc133 rfl) (mm_plc mp133 rfl) ly77 rfl rfl rfl (mm_fit_i rfl) rfl <|
  mm_E.aload_n (mm_atc mc133 rfl) rfl <|
  mm_E.getI (z := 1) (mm_atc mc133 rfl) (mm_plc mp133 rfl) rfl ly77 rfl (mm_u_same) <|
  mm_E.if1 (mm_atc mc133 rfl) (by decide) (ic_eqF (by decide)) rfl <|
  mm_E.lconst (z := 0) (mm_atc mc133 rfl) rfl <|
  mm_E.lret (mm_atc mc133 rfl) mr133
theorem p133_0_2 {d : Nat} {X : List Value} {A : MF} {x1 x2 x3 : Int} (H : R32 x1 ∧ 0 ≤ x1 ∧ R32 (A 77 1) ∧ x1 < A 77 1 ∧ R32 x2 ∧ 0 ≤ x2 ∧ x2 < A 77 1 ∧ R32 x3 ∧ x3 < 0) : mm_E 1 (d + 1) 133 0 [(0, .ref 77), (1, mI x1), (2, mI x2), (3, mI x3)] [] (mm_w X A) (.inl (some (mJ 0)), mm_w X (mm_u A 77 0 1), 0, 0) := by
  obtain ⟨h0, h1, h2, h3, h4, h5, h6, h7, h8⟩ := H
  exact mm_E.aload_n (mm_atc mc133 rfl) rfl <|
  mm_E.aload_n (mm_atc mc133 rfl) rfl <|
  mm_E.iload_n (mm_atc mc133 rfl) rfl <|
  mm_E.callV0 (mm_atc mc133 rfl) (mm_plc mp133 rfl) rfl mk112 ly77 rfl mx112 rfl rfl (p112_0_1 (d := d) ⟨h0, h1, h2, h3⟩) (by omega) <|
  show mm_E _ _ 133 6 _ _ _ _ from
  mm_E.if1 (mm_atc mc133 rfl) (by decide) (ic_neF (by decide)) rfl <|
  mm_E.aload_n (mm_atc mc133 rfl) rfl <|
  mm_E.iload_n (mm_atc mc133 rfl) rfl <|
  mm_E.callV0 (mm_atc mc133 rfl) (mm_plc mp133 rfl) rfl mk112 ly77 rfl mx112 rfl rfl (p112_0_1 (d := d) ⟨h4, h5, h2, h6⟩) (by omega) <|
  show mm_E _ _ 133 14 _ _ _ _ from
  mm_E.if1 (mm_atc mc133 rfl) (by decide) (ic_neF (by decide)) rfl <|
  mm_E.iload_n (mm_atc mc133 rfl) rfl <|
  mm_E.if1 (mm_atc mc133 rfl) h7 (ic_ltT h8) rfl <|
  mm_E.iconst (mm_atc mc133 rfl) <|
  mm_E.goto (mm_atc mc133 rfl) rfl <|
  mm_E.putI (fi := 0) (z := 1) (mm_atc mc133 rfl) (mm_plc mp133 rfl) ly77 rfl rfl rfl (mm_fit_i rfl) rfl <|
  mm_E.aload_n (mm_atc mc133 rfl) rfl <|
  mm_E.getI (z := 1) (mm_atc mc133 rfl) (mm_plc mp133 rfl) rfl ly77 rfl (mm_u_same) <|
  mm_E.if1 (mm_atc mc133 rfl) (by decide) (ic_eqF (by decide)) rfl <|
  mm_E.lconst (z := 0) (mm_atc mc133 rfl) rfl <|
  mm_E.lret (mm_atc mc133 rfl) mr133
theorem p133_0_3 {d : Nat} {X : List Value} {A : MF} {x1 x2 x3 : Int} {A0 : MF} (s0 : mm_E 1 d 104 0 [(0, .ref 77), (1, mI x1), (2, mJ (A 89 x2)), (4, mJ (A 90 x2)), (6, mJ (A 91 x2)), (8, mJ (A 92 x2))] [] (mm_w X (mm_u A 77 0 0)) (.inl (none), mm_w X A0, 0, 0)) (H : R32 x1 ∧ 0 ≤ x1 ∧ R32 (A 77 1) ∧ x1 < A 77 1 ∧ R32 x2 ∧ 0 ≤ x2 ∧ x2 < A 77 1 ∧ R32 x3 ∧ 0 ≤ x3 ∧ x3 ≤ 1 ∧ R32 (A 77 17) ∧ A 77 17 ≠ 0 ∧ x2 < 6 ∧ x3 ≠ 0) : mm_E 1 (d + 1) 133 0 [(0, .ref 77), (1, mI x1), (2, mI x2), (3, mI x3)] [] (mm_w X A) (.inl (some (mJ (A0 77 25))), mm_w X A0, 0, 0) := by
  obtain ⟨h0, h1, h2, h3, h4, h5, h6, h7, h8, h9, h10, h11, h12, h13⟩ := H
  exact mm_E.aload_n (mm_atc mc133 rfl) rfl <|
  mm_E.aload_n (mm_atc mc133 rfl) rfl <|
  mm_E.iload_n (mm_atc mc133 rfl) rfl <|
  mm_E.callV0 (mm_atc mc133 rfl) (mm_plc mp133 rfl) rfl mk112 ly77 rfl mx112 rfl rfl (p112_0_1 (d := d) ⟨h0, h1, h2, h3⟩) (by omega) <|
  show mm_E _ _ 133 6 _ _ _ _ from
  mm_E.if1 (mm_atc mc133 rfl) (by decide) (ic_neF (by decide)) rfl <|
  mm_E.aload_n (mm_atc mc133 rfl) rfl <|
  mm_E.iload_n (mm_atc mc133 rfl) rfl <|
  mm_E.callV0 (mm_atc mc133 rfl) (mm_plc mp133 rfl) rfl mk112 ly77 rfl mx112 rfl rfl (p112_0_1 (d := d) ⟨h4, h5, h2, h6⟩) (by omega) <|
  show mm_E _ _ 133 14 _ _ _ _ from
  mm_E.if1 (mm_atc mc133 rfl) (by decide) (ic_neF (by decide)) rfl <|
  mm_E.iload_n (mm_atc mc133 rfl) rfl <|
  mm_E.if1 (mm_atc mc133 rfl) h7 (ic_ltF h8) rfl <|
  mm_E.iload_n (mm_atc mc133 rfl) rfl <|
  mm_E.iconst (mm_atc mc133 rfl) <|
  mm_E.if2 (mm_atc mc133 rfl) h7 (by decide) (ic_leT h9) rfl <|
  mm_E.aload_n (mm_atc mc133 rfl) rfl <|
  mm_E.getI (z := A 77 17) (mm_atc mc133 rfl) (mm_plc mp133 rfl) rfl ly77 rfl (rfl) <|
  mm_E.if1 (mm_atc mc133 rfl) h10 (ic_neT h11) rfl <|
  mm_E.iconst (mm_atc mc133 rfl) <|
  mm_E.putI (fi := 0) (z := 0) (mm_atc mc133 rfl) (mm_plc mp133 rfl) ly77 rfl rfl rfl (mm_fit_i rfl) rfl <|
  mm_E.aload_n (mm_atc mc133 rfl) rfl <|
  mm_E.getI (z := 0) (mm_atc mc133 rfl) (mm_plc mp133 rfl) rfl ly77 rfl (mm_u_same) <|
  mm_E.if1 (mm_atc mc133 rfl) (by decide) (ic_eqT (by decide)) rfl <|
  mm_E.aload_n (mm_atc mc133 rfl) rfl <|
  mm_E.iload_n (mm_atc mc133 rfl) rfl <|
  mm_E.aload_n (mm_atc mc133 rfl) rfl <|
  mm_E.getR (b := 89) (mm_atc mc133 rfl) (mm_plc mp133 rfl) rfl ly77 rfl <|
  mm_E.iload_n (mm_atc mc133 rfl) rfl <|
  mm_E.laload (e := x2) (mm_atc mc133 rfl) ly89 rfl h5 h12 rfl ((mm_u_ne (.inl (by decide))).trans (rfl)) <|
  mm_E.aload_n (mm_atc mc133 rfl) rfl <|
  mm_E.getR (b := 90) (mm_atc mc133 rfl) (mm_plc mp133 rfl) rfl ly77 rfl <|
  mm_E.iload_n (mm_atc mc133 rfl) rfl <|
  mm_E.laload (e := x2) (mm_atc mc133 rfl) ly90 rfl h5 h12 rfl ((mm_u_ne (.inl (by decide))).trans (rfl)) <|
  mm_E.aload_n (mm_atc mc133 rfl) rfl <|
  mm_E.getR (b := 91) (mm_atc mc133 rfl) (mm_plc mp133 rfl) rfl ly77 rfl <|
  mm_E.iload_n (mm_atc mc133 rfl) rfl <|
  mm_E.laload (e := x2) (mm_atc mc133 rfl) ly91 rfl h5 h12 rfl ((mm_u_ne (.inl (by decide))).trans (rfl)) <|
  mm_E.aload_n (mm_atc mc133 rfl) rfl <|
  mm_E.getR (b := 92) (mm_atc mc133 rfl) (mm_plc mp133 rfl) rfl ly77 rfl <|
  mm_E.iload_n (mm_atc mc133 rfl) rfl <|
  mm_E.laload (e := x2) (mm_atc mc133 rfl) ly92 rfl h5 h12 rfl ((mm_u_ne (.inl (by decide))).trans (rfl)) <|
  mm_E.callV0 (mm_atc mc133 rfl) (mm_plc mp133 rfl) rfl mk104 ly77 rfl mx104 rfl rfl s0 (by omega) <|
  show mm_E _ _ 133 83 _ _ _ _ from
  mm_E.iload_n (mm_atc mc133 rfl) rfl <|
  mm_E.if1 (mm_atc mc133 rfl) h7 (ic_neT h13) rfl <|
  mm_E.aload_n (mm_atc mc133 rfl) rfl <|
  mm_E.getJ (z := A0 77 25) (mm_atc mc133 rfl) (mm_plc mp133 rfl) rfl ly77 rfl (rfl) <|
  mm_E.lret (mm_atc mc133 rfl) mr133
theorem p133_0_4 {d : Nat} {X : List Value} {A : MF} {x1 x2 x3 : Int} {A0 : MF} (s0 : mm_E 1 d 104 0 [(0, .ref 77), (1, mI x1), (2, mJ (A 89 x2)), (4, mJ (A 90 x2)), (6, mJ (A 91 x2)), (8, mJ (A 92 x2))] [] (mm_w X (mm_u A 77 0 0)) (.inl (none), mm_w X A0, 0, 0)) (H : R32 x1 ∧ 0 ≤ x1 ∧ R32 (A 77 1) ∧ x1 < A 77 1 ∧ R32 x2 ∧ 0 ≤ x2 ∧ x2 < A 77 1 ∧ R32 x3 ∧ 0 ≤ x3 ∧ x3 ≤ 1 ∧ R32 (A 77 17) ∧ A 77 17 ≠ 0 ∧ x2 < 6 ∧ x3 = 0) : mm_E 1 (d + 1) 133 0 [(0, .ref 77), (1, mI x1), (2, mI x2), (3, mI x3)] [] (mm_w X A) (.inl (some (mJ (A0 77 24))), mm_w X A0, 0, 0) := by
  obtain ⟨h0, h1, h2, h3, h4, h5, h6, h7, h8, h9, h10, h11, h12, h13⟩ := H
  exact mm_E.aload_n (mm_atc mc133 rfl) rfl <|
  mm_E.aload_n (mm_atc mc133 rfl) rfl <|
  mm_E.iload_n (mm_atc mc133 rfl) rfl <|
  mm_E.callV0 (mm_atc mc133 rfl) (mm_plc mp133 rfl) rfl mk112 ly77 rfl mx112 rfl rfl (p112_0_1 (d := d) ⟨h0, h1, h2, h3⟩) (by omega) <|
  show mm_E _ _ 133 6 _ _ _ _ from
  mm_E.if1 (mm_atc mc133 rfl) (by decide) (ic_neF (by decide)) rfl <|
  mm_E.aload_n (mm_atc mc133 rfl) rfl <|
  mm_E.iload_n (mm_atc mc133 rfl) rfl <|
  mm_E.callV0 (mm_atc mc133 rfl) (mm_plc mp133 rfl) rfl mk112 ly77 rfl mx112 rfl rfl (p112_0_1 (d := d) ⟨h4, h5, h2, h6⟩) (by omega) <|
  show mm_E _ _ 133 14 _ _ _ _ from
  mm_E.if1 (mm_atc mc133 rfl) (by decide) (ic_neF (by decide)) rfl <|
  mm_E.iload_n (mm_atc mc133 rfl) rfl <|
  mm_E.if1 (mm_atc mc133 rfl) h7 (ic_ltF h8) rfl <|
  mm_E.iload_n (mm_atc mc133 rfl) rfl <|
  mm_E.iconst (mm_atc mc133 rfl) <|
  mm_E.if2 (mm_atc mc133 rfl) h7 (by decide) (ic_leT h9) rfl <|
  mm_E.aload_n (mm_atc mc133 rfl) rfl <|
  mm_E.getI (z := A 77 17) (mm_atc mc133 rfl) (mm_plc mp133 rfl) rfl ly77 rfl (rfl) <|
  mm_E.if1 (mm_atc mc133 rfl) h10 (ic_neT h11) rfl <|
  mm_E.iconst (mm_atc mc133 rfl) <|
  mm_E.putI (fi := 0) (z := 0) (mm_atc mc133 rfl) (mm_plc mp133 rfl) ly77 rfl rfl rfl (mm_fit_i rfl) rfl <|
  mm_E.aload_n (mm_atc mc133 rfl) rfl <|
  mm_E.getI (z := 0) (mm_atc mc133 rfl) (mm_plc mp133 rfl) rfl ly77 rfl (mm_u_same) <|
  mm_E.if1 (mm_atc mc133 rfl) (by decide) (ic_eqT (by decide)) rfl <|
  mm_E.aload_n (mm_atc mc133 rfl) rfl <|
  mm_E.iload_n (mm_atc mc133 rfl) rfl <|
  mm_E.aload_n (mm_atc mc133 rfl) rfl <|
  mm_E.getR (b := 89) (mm_atc mc133 rfl) (mm_plc mp133 rfl) rfl ly77 rfl <|
  mm_E.iload_n (mm_atc mc133 rfl) rfl <|
  mm_E.laload (e := x2) (mm_atc mc133 rfl) ly89 rfl h5 h12 rfl ((mm_u_ne (.inl (by decide))).trans (rfl)) <|
  mm_E.aload_n (mm_atc mc133 rfl) rfl <|
  mm_E.getR (b := 90) (mm_atc mc133 rfl) (mm_plc mp133 rfl) rfl ly77 rfl <|
  mm_E.iload_n (mm_atc mc133 rfl) rfl <|
  mm_E.laload (e := x2) (mm_atc mc133 rfl) ly90 rfl h5 h12 rfl ((mm_u_ne (.inl (by decide))).trans (rfl)) <|
  mm_E.aload_n (mm_atc mc133 rfl) rfl <|
  mm_E.getR (b := 91) (mm_atc mc133 rfl) (mm_plc mp133 rfl) rfl ly77 rfl <|
  mm_E.iload_n (mm_atc mc133 rfl) rfl <|
  mm_E.laload (e := x2) (mm_atc mc133 rfl) ly91 rfl h5 h12 rfl ((mm_u_ne (.inl (by decide))).trans (rfl)) <|
  mm_E.aload_n (mm_atc mc133 rfl) rfl <|
  mm_E.getR (b := 92) (mm_atc mc133 rfl) (mm_plc mp133 rfl) rfl ly77 rfl <|
  mm_E.iload_n (mm_atc mc133 rfl) rfl <|
  mm_E.laload (e := x2) (mm_atc mc133 rfl) ly92 rfl h5 h12 rfl ((mm_u_ne (.inl (by decide))).trans (rfl)) <|
  mm_E.callV0 (mm_atc mc133 rfl) (mm_plc mp133 rfl) rfl mk104 ly77 rfl mx104 rfl rfl s0 (by omega) <|
  show mm_E _ _ 133 83 _ _ _ _ from
  mm_E.iload_n (mm_atc mc133 rfl) rfl <|
  mm_E.if1 (mm_atc mc133 rfl) h7 (ic_neF h13) rfl <|
  mm_E.aload_n (mm_atc mc133 rfl) rfl <|
  mm_E.getJ (z := A0 77 24) (mm_atc mc133 rfl) (mm_plc mp133 rfl) rfl ly77 rfl (rfl) <|
  mm_E.goto (mm_atc mc133 rfl) rfl <|
  mm_E.lret (mm_atc mc133 rfl) mr133
theorem p133_0_5 {d : Nat} {X : List Value} {A : MF} {x1 x2 x3 : Int} (H : R32 x1 ∧ 0 ≤ x1 ∧ R32 (A 77 1) ∧ x1 < A 77 1 ∧ R32 x2 ∧ 0 ≤ x2 ∧ x2 < A 77 1 ∧ R32 x3 ∧ 0 ≤ x3 ∧ x3 ≤ 1 ∧ R32 (A 77 17) ∧ A 77 17 = 0) : mm_E 1 (d + 1) 133 0 [(0, .ref 77), (1, mI x1), (2, mI x2), (3, mI x3)] [] (mm_w X A) (.inl (some (mJ 0)), mm_w X (mm_u A 77 0 2), 0, 0) := by
  obtain ⟨h0, h1, h2, h3, h4, h5, h6, h7, h8, h9, h10, h11⟩ := H
  exact mm_E.aload_n (mm_atc mc133 rfl) rfl <|
  mm_E.aload_n (mm_atc mc133 rfl) rfl <|
  mm_E.iload_n (mm_atc mc133 rfl) rfl <|
  mm_E.callV0 (mm_atc mc133 rfl) (mm_plc mp133 rfl) rfl mk112 ly77 rfl mx112 rfl rfl (p112_0_1 (d := d) ⟨h0, h1, h2, h3⟩) (by omega) <|
  show mm_E _ _ 133 6 _ _ _ _ from
  mm_E.if1 (mm_atc mc133 rfl) (by decide) (ic_neF (by decide)) rfl <|
  mm_E.aload_n (mm_atc mc133 rfl) rfl <|
  mm_E.iload_n (mm_atc mc133 rfl) rfl <|
  mm_E.callV0 (mm_atc mc133 rfl) (mm_plc mp133 rfl) rfl mk112 ly77 rfl mx112 rfl rfl (p112_0_1 (d := d) ⟨h4, h5, h2, h6⟩) (by omega) <|
  show mm_E _ _ 133 14 _ _ _ _ from
  mm_E.if1 (mm_atc mc133 rfl) (by decide) (ic_neF (by decide)) rfl <|
  mm_E.iload_n (mm_atc mc133 rfl) rfl <|
  mm_E.if1 (mm_atc mc133 rfl) h7 (ic_ltF h8) rfl <|
  mm_E.iload_n (mm_atc mc133 rfl) rfl <|
  mm_E.iconst (mm_atc mc133 rfl) <|
  mm_E.if2 (mm_atc mc133 rfl) h7 (by decide) (ic_leT h9) rfl <|
  mm_E.aload_n (mm_atc mc133 rfl) rfl <|
  mm_E.getI (z := A 77 17) (mm_atc mc133 rfl) (mm_plc mp133 rfl) rfl ly77 rfl (rfl) <|
  mm_E.if1 (mm_atc mc133 rfl) h10 (ic_neF h11) rfl <|
  mm_E.iconst (mm_atc mc133 rfl) <|
  mm_E.goto (mm_atc mc133 rfl) rfl <|
  mm_E.putI (fi := 0) (z := 2) (mm_atc mc133 rfl) (mm_plc mp133 rfl) ly77 rfl rfl rfl (mm_fit_i rfl) rfl <|
  mm_E.aload_n (mm_atc mc133 rfl) rfl <|
  mm_E.getI (z := 2) (mm_atc mc133 rfl) (mm_plc mp133 rfl) rfl ly77 rfl (mm_u_same) <|
  mm_E.if1 (mm_atc mc133 rfl) (by decide) (ic_eqF (by decide)) rfl <|
  mm_E.lconst (z := 0) (mm_atc mc133 rfl) rfl <|
  mm_E.lret (mm_atc mc133 rfl) mr133
theorem p133_0_6 {d : Nat} {X : List Value} {A : MF} {x1 x2 x3 : Int} (H : R32 x1 ∧ 0 ≤ x1 ∧ R32 (A 77 1) ∧ x1 < A 77 1 ∧ R32 x2 ∧ 0 ≤ x2 ∧ x2 < A 77 1 ∧ R32 x3 ∧ 0 ≤ x3 ∧ 1 < x3) : mm_E 1 (d + 1) 133 0 [(0, .ref 77), (1, mI x1), (2, mI x2), (3, mI x3)] [] (mm_w X A) (.inl (some (mJ 0)), mm_w X (mm_u A 77 0 1), 0, 0) := by
  obtain ⟨h0, h1, h2, h3, h4, h5, h6, h7, h8, h9⟩ := H
  exact mm_E.aload_n (mm_atc mc133 rfl) rfl <|
  mm_E.aload_n (mm_atc mc133 rfl) rfl <|
  mm_E.iload_n (mm_atc mc133 rfl) rfl <|
  mm_E.callV0 (mm_atc mc133 rfl) (mm_plc mp133 rfl) rfl mk112 ly77 rfl mx112 rfl rfl (p112_0_1 (d := d) ⟨h0, h1, h2, h3⟩) (by omega) <|
  show mm_E _ _ 133 6 _ _ _ _ from
  mm_E.if1 (mm_atc mc133 rfl) (by decide) (ic_neF (by decide)) rfl <|
  mm_E.aload_n (mm_atc mc133 rfl) rfl <|
  mm_E.iload_n (mm_atc mc133 rfl) rfl <|
  mm_E.callV0 (mm_atc mc133 rfl) (mm_plc mp133 rfl) rfl mk112 ly77 rfl mx112 rfl rfl (p112_0_1 (d := d) ⟨h4, h5, h2, h6⟩) (by omega) <|
  show mm_E _ _ 133 14 _ _ _ _ from
  mm_E.if1 (mm_atc mc133 rfl) (by decide) (ic_neF (by decide)) rfl <|
  mm_E.iload_n (mm_atc mc133 rfl) rfl <|
  mm_E.if1 (mm_atc mc133 rfl) h7 (ic_ltF h8) rfl <|
  mm_E.iload_n (mm_atc mc133 rfl) rfl <|
  mm_E.iconst (mm_atc mc133 rfl) <|
  mm_E.if2 (mm_atc mc133 rfl) h7 (by decide) (ic_leF h9) rfl <|
  mm_E.iconst (mm_atc mc133 rfl) <|
  mm_E.goto (mm_atc mc133 rfl) rfl <|
  mm_E.putI (fi := 0) (z := 1) (mm_atc mc133 rfl) (mm_plc mp133 rfl) ly77 rfl rfl rfl (mm_fit_i rfl) rfl <|
  mm_E.aload_n (mm_atc mc133 rfl) rfl <|
  mm_E.getI (z := 1) (mm_atc mc133 rfl) (mm_plc mp133 rfl) rfl ly77 rfl (mm_u_same) <|
  mm_E.if1 (mm_atc mc133 rfl) (by decide) (ic_eqF (by decide)) rfl <|
  mm_E.lconst (z := 0) (mm_atc mc133 rfl) rfl <|
  mm_E.lret (mm_atc mc133 rfl) mr133
theorem p133_0_7 {d : Nat} {X : List Value} {A : MF} {x1 x2 x3 : Int} (H : R32 x1 ∧ 0 ≤ x1 ∧ R32 (A 77 1) ∧ x1 < A 77 1 ∧ R32 x2 ∧ 0 ≤ x2 ∧ A 77 1 ≤ x2) : mm_E 1 (d + 1) 133 0 [(0, .ref 77), (1, mI x1), (2, mI x2), (3, mI x3)] [] (mm_w X A) (.inl (some (mJ 0)), mm_w X (mm_u A 77 0 1), 0, 0) := by
  obtain ⟨h0, h1, h2, h3, h4, h5, h6⟩ := H
  exact mm_E.aload_n (mm_atc mc133 rfl) rfl <|
  mm_E.aload_n (mm_atc mc133 rfl) rfl <|
  mm_E.iload_n (mm_atc mc133 rfl) rfl <|
  mm_E.callV0 (mm_atc mc133 rfl) (mm_plc mp133 rfl) rfl mk112 ly77 rfl mx112 rfl rfl (p112_0_1 (d := d) ⟨h0, h1, h2, h3⟩) (by omega) <|
  show mm_E _ _ 133 6 _ _ _ _ from
  mm_E.if1 (mm_atc mc133 rfl) (by decide) (ic_neF (by decide)) rfl <|
  mm_E.aload_n (mm_atc mc133 rfl) rfl <|
  mm_E.iload_n (mm_atc mc133 rfl) rfl <|
  mm_E.callV0 (mm_atc mc133 rfl) (mm_plc mp133 rfl) rfl mk112 ly77 rfl mx112 rfl rfl (p112_0_2 (d := d) ⟨h4, h5, h2, h6⟩) (by omega) <|
  show mm_E _ _ 133 14 _ _ _ _ from
  mm_E.if1 (mm_atc mc133 rfl) (by decide) (ic_neT (by decide)) rfl <|
  mm_E.iconst (mm_atc mc133 rfl) <|
  mm_E.goto (mm_atc mc133 rfl) rfl <|
  mm_E.putI (fi := 0) (z := 1) (mm_atc mc133 rfl) (mm_plc mp133 rfl) ly77 rfl rfl rfl (mm_fit_i rfl) rfl <|
  mm_E.aload_n (mm_atc mc133 rfl) rfl <|
  mm_E.getI (z := 1) (mm_atc mc133 rfl) (mm_plc mp133 rfl) rfl ly77 rfl (mm_u_same) <|
  mm_E.if1 (mm_atc mc133 rfl) (by decide) (ic_eqF (by decide)) rfl <|
  mm_E.lconst (z := 0) (mm_atc mc133 rfl) rfl <|
  mm_E.lret (mm_atc mc133 rfl) mr133
theorem p133_0_8 {d : Nat} {X : List Value} {A : MF} {x1 x2 x3 : Int} (H : R32 x1 ∧ 0 ≤ x1 ∧ R32 (A 77 1) ∧ A 77 1 ≤ x1) : mm_E 1 (d + 1) 133 0 [(0, .ref 77), (1, mI x1), (2, mI x2), (3, mI x3)] [] (mm_w X A) (.inl (some (mJ 0)), mm_w X (mm_u A 77 0 1), 0, 0) := by
  obtain ⟨h0, h1, h2, h3⟩ := H
  exact mm_E.aload_n (mm_atc mc133 rfl) rfl <|
  mm_E.aload_n (mm_atc mc133 rfl) rfl <|
  mm_E.iload_n (mm_atc mc133 rfl) rfl <|
  mm_E.callV0 (mm_atc mc133 rfl) (mm_plc mp133 rfl) rfl mk112 ly77 rfl mx112 rfl rfl (p112_0_2 (d := d) ⟨h0, h1, h2, h3⟩) (by omega) <|
  show mm_E _ _ 133 6 _ _ _ _ from
  mm_E.if1 (mm_atc mc133 rfl) (by decide) (ic_neT (by decide)) rfl <|
  mm_E.iconst (mm_atc mc133 rfl) <|
  mm_E.goto (mm_atc mc133 rfl) rfl <|
  mm_E.putI (fi := 0) (z := 1) (mm_atc mc133 rfl) (mm_plc mp133 rfl) ly77 rfl rfl rfl (mm_fit_i rfl) rfl <|
  mm_E.aload_n (mm_atc mc133 rfl) rfl <|
  mm_E.getI (z := 1) (mm_atc mc133 rfl) (mm_plc mp133 rfl) rfl ly77 rfl (mm_u_same) <|
  mm_E.if1 (mm_atc mc133 rfl) (by decide) (ic_eqF (by decide)) rfl <|
  mm_E.lconst (z := 0) (mm_atc mc133 rfl) rfl <|
  mm_E.lret (mm_atc mc133 rfl) mr133
