/-! Paths of the methods, from each entry and loop head to the next; written by a program of our own (wip/whole/src/gen.py). -/
theorem p91_0_0 {d : Nat} {X : List Value} {A : MF} {r : MR} {x1 : Int} (h : mm_E 1 d 91 32 [(0, .ref 77), (2, mI 0)] [] (mm_w X (mm_u (mm_u (mm_u (mm_u (mm_u (mm_u A 77 1 x1) 77 2 0) 77 8 0) 77 9 0) 77 15 1) 77 17 0)) r) : mm_E 1 d 91 0 [(0, .ref 77), (1, mI x1)] [] (mm_w X A) r := by
  exact mm_E.aload_n (mm_atc mc91 rfl) rfl <|
  mm_E.iload_n (mm_atc mc91 rfl) rfl <|
  mm_E.putI (fi := 1) (z := x1) (mm_atc mc91 rfl) (mm_plc mp91 rfl) ly77 rfl rfl rfl (mm_fit_i rfl) rfl <|
  mm_E.aload_n (mm_atc mc91 rfl) rfl <|
  mm_E.iconst (mm_atc mc91 rfl) <|
  mm_E.putI (fi := 2) (z := 0) (mm_atc mc91 rfl) (mm_plc mp91 rfl) ly77 rfl rfl rfl (mm_fit_i rfl) rfl <|
  mm_E.aload_n (mm_atc mc91 rfl) rfl <|
  mm_E.iconst (mm_atc mc91 rfl) <|
  mm_E.putI (fi := 8) (z := 0) (mm_atc mc91 rfl) (mm_plc mp91 rfl) ly77 rfl rfl rfl (mm_fit_i rfl) rfl <|
  mm_E.aload_n (mm_atc mc91 rfl) rfl <|
  mm_E.iconst (mm_atc mc91 rfl) <|
  mm_E.putI (fi := 9) (z := 0) (mm_atc mc91 rfl) (mm_plc mp91 rfl) ly77 rfl rfl rfl rfl rfl <|
  mm_E.aload_n (mm_atc mc91 rfl) rfl <|
  mm_E.iconst (mm_atc mc91 rfl) <|
  mm_E.putI (fi := 15) (z := 1) (mm_atc mc91 rfl) (mm_plc mp91 rfl) ly77 rfl rfl rfl (mm_fit_i rfl) rfl <|
  mm_E.aload_n (mm_atc mc91 rfl) rfl <|
  mm_E.iconst (mm_atc mc91 rfl) <|
  mm_E.putI (fi := 17) (z := 0) (mm_atc mc91 rfl) (mm_plc mp91 rfl) ly77 rfl rfl rfl rfl rfl <|
  mm_E.iconst (mm_atc mc91 rfl) <|
  mm_E.istore_n mx91 rfl (mm_atc mc91 rfl) <|
  show mm_E _ _ 91 32 [(2, mI 0), (0, .ref 77), (1, mI x1)] _ _ _ from
  mm_E.to h ⟨rfl, rfl, trivial⟩
theorem p91_32_0 {w d : Nat} {X : List Value} {A : MF} {r : MR} {x2 : Int} (H : R32 x2 ∧ 72 ≤ x2) (h : mm_E w d 91 53 [(0, .ref 77), (2, mI 0)] [] (mm_w X A) r) : mm_E w d 91 32 [(0, .ref 77), (2, mI x2)] [] (mm_w X A) r := by
  obtain ⟨h0, h1⟩ := H
  exact mm_E.iload_n (mm_atc mc91 rfl) rfl <|
  mm_E.bipush (mm_atc mc91 rfl) rfl <|
  mm_E.if2 (mm_atc mc91 rfl) h0 (by decide) (ic_geT h1) rfl <|
  mm_E.iconst (mm_atc mc91 rfl) <|
  mm_E.istore_n mx91 rfl (mm_atc mc91 rfl) <|
  show mm_E _ _ 91 53 [(2, mI 0), (0, .ref 77)] _ _ _ from
  mm_E.to h ⟨rfl, rfl, trivial⟩
theorem p91_32_1 {d : Nat} {X : List Value} {A : MF} {r : MR} {x2 : Int} (H : R32 x2 ∧ x2 < 72 ∧ 0 ≤ x2) (h : mm_E 1 d 91 32 [(0, .ref 77), (2, mI (x2 + 1))] [] (mm_w X (mm_u A 78 x2 0)) r) : mm_E 1 d 91 32 [(0, .ref 77), (2, mI x2)] [] (mm_w X A) r := by
  obtain ⟨h0, h1, h2⟩ := H
  exact mm_E.iload_n (mm_atc mc91 rfl) rfl <|
  mm_E.bipush (mm_atc mc91 rfl) rfl <|
  mm_E.if2 (mm_atc mc91 rfl) h0 (by decide) (ic_geF h1) rfl <|
  mm_E.aload_n (mm_atc mc91 rfl) rfl <|
  mm_E.getR (b := 78) (mm_atc mc91 rfl) (mm_plc mp91 rfl) rfl ly77 rfl <|
  mm_E.iload_n (mm_atc mc91 rfl) rfl <|
  mm_E.iconst (mm_atc mc91 rfl) <|
  mm_E.iastore (e := x2) (z := 0) (mm_atc mc91 rfl) ly78 rfl h2 h1 rfl rfl <|
  mm_E.inc mx91 rfl (mm_atc mc91 rfl) rfl <|
  show mm_E _ _ 91 48 [(2, mI (x2 + 1)), (0, .ref 77)] _ _ _ from
  mm_E.goto (mm_atc mc91 rfl) rfl <|
  mm_E.to h ⟨rfl, rfl, trivial⟩
theorem p91_53_0 {w d : Nat} {X : List Value} {A : MF} {r : MR} {x2 : Int} (H : R32 x2 ∧ 12 ≤ x2) (h : mm_E w d 91 74 [(0, .ref 77), (2, mI 0)] [] (mm_w X A) r) : mm_E w d 91 53 [(0, .ref 77), (2, mI x2)] [] (mm_w X A) r := by
  obtain ⟨h0, h1⟩ := H
  exact mm_E.iload_n (mm_atc mc91 rfl) rfl <|
  mm_E.bipush (mm_atc mc91 rfl) rfl <|
  mm_E.if2 (mm_atc mc91 rfl) h0 (by decide) (ic_geT h1) rfl <|
  mm_E.iconst (mm_atc mc91 rfl) <|
  mm_E.istore_n mx91 rfl (mm_atc mc91 rfl) <|
  show mm_E _ _ 91 74 [(2, mI 0), (0, .ref 77)] _ _ _ from
  mm_E.to h ⟨rfl, rfl, trivial⟩
theorem p91_53_1 {d : Nat} {X : List Value} {A : MF} {r : MR} {x2 : Int} (H : R32 x2 ∧ x2 < 12 ∧ 0 ≤ x2) (h : mm_E 1 d 91 53 [(0, .ref 77), (2, mI (x2 + 1))] [] (mm_w X (mm_u A 79 x2 (-1))) r) : mm_E 1 d 91 53 [(0, .ref 77), (2, mI x2)] [] (mm_w X A) r := by
  obtain ⟨h0, h1, h2⟩ := H
  exact mm_E.iload_n (mm_atc mc91 rfl) rfl <|
  mm_E.bipush (mm_atc mc91 rfl) rfl <|
  mm_E.if2 (mm_atc mc91 rfl) h0 (by decide) (ic_geF h1) rfl <|
  mm_E.aload_n (mm_atc mc91 rfl) rfl <|
  mm_E.getR (b := 79) (mm_atc mc91 rfl) (mm_plc mp91 rfl) rfl ly77 rfl <|
  mm_E.iload_n (mm_atc mc91 rfl) rfl <|
  mm_E.iconst (mm_atc mc91 rfl) <|
  mm_E.iastore (e := x2) (z := (-1)) (mm_atc mc91 rfl) ly79 rfl h2 h1 rfl rfl <|
  mm_E.inc mx91 rfl (mm_atc mc91 rfl) rfl <|
  show mm_E _ _ 91 69 [(2, mI (x2 + 1)), (0, .ref 77)] _ _ _ from
  mm_E.goto (mm_atc mc91 rfl) rfl <|
  mm_E.to h ⟨rfl, rfl, trivial⟩
theorem p91_74_0 {w d : Nat} {X : List Value} {A : MF} {r : MR} {x2 : Int} (H : R32 x2 ∧ 36 ≤ x2) (h : mm_E w d 91 95 [(0, .ref 77), (2, mI 0)] [] (mm_w X A) r) : mm_E w d 91 74 [(0, .ref 77), (2, mI x2)] [] (mm_w X A) r := by
  obtain ⟨h0, h1⟩ := H
  exact mm_E.iload_n (mm_atc mc91 rfl) rfl <|
  mm_E.bipush (mm_atc mc91 rfl) rfl <|
  mm_E.if2 (mm_atc mc91 rfl) h0 (by decide) (ic_geT h1) rfl <|
  mm_E.iconst (mm_atc mc91 rfl) <|
  mm_E.istore_n mx91 rfl (mm_atc mc91 rfl) <|
  show mm_E _ _ 91 95 [(2, mI 0), (0, .ref 77)] _ _ _ from
  mm_E.to h ⟨rfl, rfl, trivial⟩
theorem p91_74_1 {d : Nat} {X : List Value} {A : MF} {r : MR} {x2 : Int} (H : R32 x2 ∧ x2 < 36 ∧ 0 ≤ x2) (h : mm_E 1 d 91 74 [(0, .ref 77), (2, mI (x2 + 1))] [] (mm_w X (mm_u A 82 x2 0)) r) : mm_E 1 d 91 74 [(0, .ref 77), (2, mI x2)] [] (mm_w X A) r := by
  obtain ⟨h0, h1, h2⟩ := H
  exact mm_E.iload_n (mm_atc mc91 rfl) rfl <|
  mm_E.bipush (mm_atc mc91 rfl) rfl <|
  mm_E.if2 (mm_atc mc91 rfl) h0 (by decide) (ic_geF h1) rfl <|
  mm_E.aload_n (mm_atc mc91 rfl) rfl <|
  mm_E.getR (b := 82) (mm_atc mc91 rfl) (mm_plc mp91 rfl) rfl ly77 rfl <|
  mm_E.iload_n (mm_atc mc91 rfl) rfl <|
  mm_E.iconst (mm_atc mc91 rfl) <|
  mm_E.iastore (e := x2) (z := 0) (mm_atc mc91 rfl) ly82 rfl h2 h1 rfl rfl <|
  mm_E.inc mx91 rfl (mm_atc mc91 rfl) rfl <|
  show mm_E _ _ 91 90 [(2, mI (x2 + 1)), (0, .ref 77)] _ _ _ from
  mm_E.goto (mm_atc mc91 rfl) rfl <|
  mm_E.to h ⟨rfl, rfl, trivial⟩
theorem p91_95_0 {w d : Nat} {X : List Value} {A : MF} {x2 : Int} (H : R32 x2 ∧ 96 ≤ x2) : mm_E w d 91 95 [(0, .ref 77), (2, mI x2)] [] (mm_w X A) (.inl (none), mm_w X A, 0, 0) := by
  obtain ⟨h0, h1⟩ := H
  exact mm_E.iload_n (mm_atc mc91 rfl) rfl <|
  mm_E.bipush (mm_atc mc91 rfl) rfl <|
  mm_E.if2 (mm_atc mc91 rfl) h0 (by decide) (ic_geT h1) rfl <|
  mm_E.vret (mm_atc mc91 rfl) mr91
theorem p91_95_1 {d : Nat} {X : List Value} {A : MF} {r : MR} {x2 : Int} (H : R32 x2 ∧ x2 < 96 ∧ 0 ≤ x2) (h : mm_E 1 d 91 95 [(0, .ref 77), (2, mI (x2 + 1))] [] (mm_w X (mm_u A 88 x2 0)) r) : mm_E 1 d 91 95 [(0, .ref 77), (2, mI x2)] [] (mm_w X A) r := by
  obtain ⟨h0, h1, h2⟩ := H
  exact mm_E.iload_n (mm_atc mc91 rfl) rfl <|
  mm_E.bipush (mm_atc mc91 rfl) rfl <|
  mm_E.if2 (mm_atc mc91 rfl) h0 (by decide) (ic_geF h1) rfl <|
  mm_E.aload_n (mm_atc mc91 rfl) rfl <|
  mm_E.getR (b := 88) (mm_atc mc91 rfl) (mm_plc mp91 rfl) rfl ly77 rfl <|
  mm_E.iload_n (mm_atc mc91 rfl) rfl <|
  mm_E.iconst (mm_atc mc91 rfl) <|
  mm_E.iastore (e := x2) (z := 0) (mm_atc mc91 rfl) ly88 rfl h2 h1 rfl rfl <|
  mm_E.inc mx91 rfl (mm_atc mc91 rfl) rfl <|
  show mm_E _ _ 91 111 [(2, mI (x2 + 1)), (0, .ref 77)] _ _ _ from
  mm_E.goto (mm_atc mc91 rfl) rfl <|
  mm_E.to h ⟨rfl, rfl, trivial⟩
theorem p92_0_0 {w d : Nat} {X : List Value} {A : MF} {r : MR} {x1 x2 : Int} (h : mm_E w d 92 5 [(0, .ref 77), (1, mI x1), (2, mI x2), (3, mI 0), (4, mI 0)] [] (mm_w X A) r) : mm_E w d 92 0 [(0, .ref 77), (1, mI x1), (2, mI x2)] [] (mm_w X A) r := by
  exact mm_E.iconst (mm_atc mc92 rfl) <|
  mm_E.istore_n mx92 rfl (mm_atc mc92 rfl) <|
  show mm_E _ _ 92 2 [(3, mI 0), (0, .ref 77), (1, mI x1), (2, mI x2)] _ _ _ from
  mm_E.iconst (mm_atc mc92 rfl) <|
  mm_E.istore mx92 rfl (mm_atc mc92 rfl) <|
  show mm_E _ _ 92 5 [(4, mI 0), (3, mI 0), (0, .ref 77), (1, mI x1), (2, mI x2)] _ _ _ from
  mm_E.to h ⟨rfl, rfl, rfl, rfl, rfl, trivial⟩
theorem p92_5_0 {w d : Nat} {X : List Value} {A : MF} {x1 x2 x3 x4 : Int} (H : R32 x4 ∧ R32 (A 77 2) ∧ A 77 2 ≤ x4) : mm_E w d 92 5 [(0, .ref 77), (1, mI x1), (2, mI x2), (3, mI x3), (4, mI x4)] [] (mm_w X A) (.inl (some (mI x3)), mm_w X A, 0, 0) := by
  obtain ⟨h0, h1, h2⟩ := H
  exact mm_E.iload (mm_atc mc92 rfl) rfl <|
  mm_E.aload_n (mm_atc mc92 rfl) rfl <|
  mm_E.getI (z := A 77 2) (mm_atc mc92 rfl) (mm_plc mp92 rfl) rfl ly77 rfl (rfl) <|
  mm_E.if2 (mm_atc mc92 rfl) h0 h1 (ic_geT h2) rfl <|
  mm_E.iload_n (mm_atc mc92 rfl) rfl <|
  mm_E.iret (mm_atc mc92 rfl) mr92 rfl
theorem p92_5_1 {w d : Nat} {X : List Value} {A : MF} {r : MR} {x1 x2 x3 x4 : Int} (H : R32 x4 ∧ R32 (A 77 2) ∧ x4 < A 77 2 ∧ 0 ≤ x4 ∧ x4 < 12 ∧ R32 (A 79 x4) ∧ R32 x2 ∧ A 79 x4 ≠ x2) (h : mm_E w d 92 5 [(0, .ref 77), (1, mI x1), (2, mI x2), (3, mI (x3 + 0)), (4, mI (x4 + 1))] [] (mm_w X A) r) : mm_E w d 92 5 [(0, .ref 77), (1, mI x1), (2, mI x2), (3, mI x3), (4, mI x4)] [] (mm_w X A) r := by
  obtain ⟨h0, h1, h2, h3, h4, h5, h6, h7⟩ := H
  exact mm_E.iload (mm_atc mc92 rfl) rfl <|
  mm_E.aload_n (mm_atc mc92 rfl) rfl <|
  mm_E.getI (z := A 77 2) (mm_atc mc92 rfl) (mm_plc mp92 rfl) rfl ly77 rfl (rfl) <|
  mm_E.if2 (mm_atc mc92 rfl) h0 h1 (ic_geF h2) rfl <|
  mm_E.iload_n (mm_atc mc92 rfl) rfl <|
  mm_E.aload_n (mm_atc mc92 rfl) rfl <|
  mm_E.getR (b := 79) (mm_atc mc92 rfl) (mm_plc mp92 rfl) rfl ly77 rfl <|
  mm_E.iload (mm_atc mc92 rfl) rfl <|
  mm_E.iaload (e := x4) (mm_atc mc92 rfl) ly79 rfl h3 h4 rfl (rfl) <|
  mm_E.iload_n (mm_atc mc92 rfl) rfl <|
  mm_E.if2 (mm_atc mc92 rfl) h5 h6 (ic_neT h7) rfl <|
  mm_E.iconst (mm_atc mc92 rfl) <|
  mm_E.iadd (mm_atc mc92 rfl) <|
  mm_E.istore_n mx92 rfl (mm_atc mc92 rfl) <|
  show mm_E _ _ 92 44 [(3, mI (x3 + 0)), (0, .ref 77), (1, mI x1), (2, mI x2), (4, mI x4)] _ _ _ from
  mm_E.inc mx92 rfl (mm_atc mc92 rfl) rfl <|
  show mm_E _ _ 92 47 [(4, mI (x4 + 1)), (3, mI (x3 + 0)), (0, .ref 77), (1, mI x1), (2, mI x2)] _ _ _ from
  mm_E.goto (mm_atc mc92 rfl) rfl <|
  mm_E.to h ⟨rfl, rfl, rfl, rfl, rfl, trivial⟩
theorem p92_5_2 {w d : Nat} {X : List Value} {A : MF} {r : MR} {x1 x2 x3 x4 : Int} (H : R32 x4 ∧ R32 (A 77 2) ∧ x4 < A 77 2 ∧ 0 ≤ x4 ∧ x4 < 12 ∧ R32 (A 79 x4) ∧ R32 x2 ∧ A 79 x4 = x2 ∧ 0 ≤ (12 * x1) + x4 ∧ (12 * x1) + x4 < 72) (h : mm_E w d 92 5 [(0, .ref 77), (1, mI x1), (2, mI x2), (3, mI (x3 + (A 78 ((12 * x1) + x4)))), (4, mI (x4 + 1))] [] (mm_w X A) r) : mm_E w d 92 5 [(0, .ref 77), (1, mI x1), (2, mI x2), (3, mI x3), (4, mI x4)] [] (mm_w X A) r := by
  obtain ⟨h0, h1, h2, h3, h4, h5, h6, h7, h8, h9⟩ := H
  exact mm_E.iload (mm_atc mc92 rfl) rfl <|
  mm_E.aload_n (mm_atc mc92 rfl) rfl <|
  mm_E.getI (z := A 77 2) (mm_atc mc92 rfl) (mm_plc mp92 rfl) rfl ly77 rfl (rfl) <|
  mm_E.if2 (mm_atc mc92 rfl) h0 h1 (ic_geF h2) rfl <|
  mm_E.iload_n (mm_atc mc92 rfl) rfl <|
  mm_E.aload_n (mm_atc mc92 rfl) rfl <|
  mm_E.getR (b := 79) (mm_atc mc92 rfl) (mm_plc mp92 rfl) rfl ly77 rfl <|
  mm_E.iload (mm_atc mc92 rfl) rfl <|
  mm_E.iaload (e := x4) (mm_atc mc92 rfl) ly79 rfl h3 h4 rfl (rfl) <|
  mm_E.iload_n (mm_atc mc92 rfl) rfl <|
  mm_E.if2 (mm_atc mc92 rfl) h5 h6 (ic_neF h7) rfl <|
  mm_E.aload_n (mm_atc mc92 rfl) rfl <|
  mm_E.getR (b := 78) (mm_atc mc92 rfl) (mm_plc mp92 rfl) rfl ly77 rfl <|
  mm_E.bipush (mm_atc mc92 rfl) rfl <|
  mm_E.iload_n (mm_atc mc92 rfl) rfl <|
  mm_E.imul (mm_atc mc92 rfl) <|
  mm_E.iload (mm_atc mc92 rfl) rfl <|
  mm_E.iadd (mm_atc mc92 rfl) <|
  mm_E.iaload (e := (12 * x1) + x4) (mm_atc mc92 rfl) ly78 rfl h8 h9 rfl (rfl) <|
  mm_E.goto (mm_atc mc92 rfl) rfl <|
  mm_E.iadd (mm_atc mc92 rfl) <|
  mm_E.istore_n mx92 rfl (mm_atc mc92 rfl) <|
  show mm_E _ _ 92 44 [(3, mI (x3 + (A 78 ((12 * x1) + x4)))), (0, .ref 77), (1, mI x1), (2, mI x2), (4, mI x4)] _ _ _ from
  mm_E.inc mx92 rfl (mm_atc mc92 rfl) rfl <|
  show mm_E _ _ 92 47 [(4, mI (x4 + 1)), (3, mI (x3 + (A 78 ((12 * x1) + x4)))), (0, .ref 77), (1, mI x1), (2, mI x2)] _ _ _ from
  mm_E.goto (mm_atc mc92 rfl) rfl <|
  mm_E.to h ⟨rfl, rfl, rfl, rfl, rfl, trivial⟩
theorem p93_0_0 {w d : Nat} {X : List Value} {A : MF} {x1 x2 z0 z1 : Int} (s0 : mm_E w d 92 0 [(0, .ref 77), (1, mI x1), (2, mI x2)] [] (mm_w X A) (.inl (some (mI z0)), mm_w X A, 0, 0)) (s1 : mm_E w d 92 0 [(0, .ref 77), (1, mI x1), (2, mI x1)] [] (mm_w X A) (.inl (some (mI z1)), mm_w X A, 0, 0)) (H : R32 z0 ∧ R32 z1 ∧ z0 ≤ z1) : mm_E w (d + 1) 93 0 [(0, .ref 77), (1, mI x1), (2, mI x2)] [] (mm_w X A) (.inl (some (mI 0)), mm_w X A, 0, 0) := by
  obtain ⟨h0, h1, h2⟩ := H
  exact mm_E.aload_n (mm_atc mc93 rfl) rfl <|
  mm_E.iload_n (mm_atc mc93 rfl) rfl <|
  mm_E.iload_n (mm_atc mc93 rfl) rfl <|
  mm_E.callV0 (mm_atc mc93 rfl) (mm_plc mp93 rfl) rfl mk92 ly77 rfl mx92 rfl rfl s0 (by omega) <|
  show mm_E _ _ 93 6 _ _ _ _ from
  mm_E.aload_n (mm_atc mc93 rfl) rfl <|
  mm_E.iload_n (mm_atc mc93 rfl) rfl <|
  mm_E.iload_n (mm_atc mc93 rfl) rfl <|
  mm_E.callV0 (mm_atc mc93 rfl) (mm_plc mp93 rfl) rfl mk92 ly77 rfl mx92 rfl rfl s1 (by omega) <|
  show mm_E _ _ 93 12 _ _ _ _ from
  mm_E.if2 (mm_atc mc93 rfl) h0 h1 (ic_leT h2) rfl <|
  mm_E.iconst (mm_atc mc93 rfl) <|
  mm_E.iret (mm_atc mc93 rfl) mr93 rfl
theorem p93_0_1 {w d : Nat} {X : List Value} {A : MF} {x1 x2 z0 z1 : Int} (s0 : mm_E w d 92 0 [(0, .ref 77), (1, mI x1), (2, mI x2)] [] (mm_w X A) (.inl (some (mI z0)), mm_w X A, 0, 0)) (s1 : mm_E w d 92 0 [(0, .ref 77), (1, mI x1), (2, mI x1)] [] (mm_w X A) (.inl (some (mI z1)), mm_w X A, 0, 0)) (H : R32 z0 ∧ R32 z1 ∧ z1 < z0) : mm_E w (d + 1) 93 0 [(0, .ref 77), (1, mI x1), (2, mI x2)] [] (mm_w X A) (.inl (some (mI 1)), mm_w X A, 0, 0) := by
  obtain ⟨h0, h1, h2⟩ := H
  exact mm_E.aload_n (mm_atc mc93 rfl) rfl <|
  mm_E.iload_n (mm_atc mc93 rfl) rfl <|
  mm_E.iload_n (mm_atc mc93 rfl) rfl <|
  mm_E.callV0 (mm_atc mc93 rfl) (mm_plc mp93 rfl) rfl mk92 ly77 rfl mx92 rfl rfl s0 (by omega) <|
  show mm_E _ _ 93 6 _ _ _ _ from
  mm_E.aload_n (mm_atc mc93 rfl) rfl <|
  mm_E.iload_n (mm_atc mc93 rfl) rfl <|
  mm_E.iload_n (mm_atc mc93 rfl) rfl <|
  mm_E.callV0 (mm_atc mc93 rfl) (mm_plc mp93 rfl) rfl mk92 ly77 rfl mx92 rfl rfl s1 (by omega) <|
  show mm_E _ _ 93 12 _ _ _ _ from
  mm_E.if2 (mm_atc mc93 rfl) h0 h1 (ic_leF h2) rfl <|
  mm_E.iconst (mm_atc mc93 rfl) <|
  mm_E.goto (mm_atc mc93 rfl) rfl <|
  mm_E.iret (mm_atc mc93 rfl) mr93 rfl
theorem p94_0_0 {w d : Nat} {X : List Value} {A : MF} {r : MR}  (h : mm_E w d 94 2 [(0, .ref 77), (1, mI 0)] [] (mm_w X A) r) : mm_E w d 94 0 [(0, .ref 77)] [] (mm_w X A) r := by
  exact mm_E.iconst (mm_atc mc94 rfl) <|
  mm_E.istore_n mx94 rfl (mm_atc mc94 rfl) <|
  show mm_E _ _ 94 2 [(1, mI 0), (0, .ref 77)] _ _ _ from
  mm_E.to h ⟨rfl, rfl, trivial⟩
theorem p94_2_0 {w d : Nat} {X : List Value} {A : MF} {x1 : Int} (H : R32 x1 ∧ 12 ≤ x1) : mm_E w d 94 2 [(0, .ref 77), (1, mI x1)] [] (mm_w X A) (.inl (none), mm_w X A, 0, 0) := by
  obtain ⟨h0, h1⟩ := H
  exact mm_E.iload_n (mm_atc mc94 rfl) rfl <|
  mm_E.bipush (mm_atc mc94 rfl) rfl <|
  mm_E.if2 (mm_atc mc94 rfl) h0 (by decide) (ic_geT h1) rfl <|
  mm_E.vret (mm_atc mc94 rfl) mr94
theorem p94_2_1 {d : Nat} {X : List Value} {A : MF} {r : MR} {x1 : Int} (H : R32 x1 ∧ x1 < 12 ∧ 0 ≤ x1) (h : mm_E 1 d 94 2 [(0, .ref 77), (1, mI (x1 + 1))] [] (mm_w X (mm_u A 79 x1 (-1))) r) : mm_E 1 d 94 2 [(0, .ref 77), (1, mI x1)] [] (mm_w X A) r := by
  obtain ⟨h0, h1, h2⟩ := H
  exact mm_E.iload_n (mm_atc mc94 rfl) rfl <|
  mm_E.bipush (mm_atc mc94 rfl) rfl <|
  mm_E.if2 (mm_atc mc94 rfl) h0 (by decide) (ic_geF h1) rfl <|
  mm_E.aload_n (mm_atc mc94 rfl) rfl <|
  mm_E.getR (b := 79) (mm_atc mc94 rfl) (mm_plc mp94 rfl) rfl ly77 rfl <|
  mm_E.iload_n (mm_atc mc94 rfl) rfl <|
  mm_E.iconst (mm_atc mc94 rfl) <|
  mm_E.iastore (e := x1) (z := (-1)) (mm_atc mc94 rfl) ly79 rfl h2 h1 rfl rfl <|
  mm_E.inc mx94 rfl (mm_atc mc94 rfl) rfl <|
  show mm_E _ _ 94 18 [(1, mI (x1 + 1)), (0, .ref 77)] _ _ _ from
  mm_E.goto (mm_atc mc94 rfl) rfl <|
  mm_E.to h ⟨rfl, rfl, trivial⟩
theorem p95_0_0 {w d : Nat} {X : List Value} {A : MF} {r : MR}  (h : mm_E w d 95 2 [(0, .ref 77), (1, mI 0)] [] (mm_w X A) r) : mm_E w d 95 0 [(0, .ref 77)] [] (mm_w X A) r := by
  exact mm_E.iconst (mm_atc mc95 rfl) <|
  mm_E.istore_n mx95 rfl (mm_atc mc95 rfl) <|
  show mm_E _ _ 95 2 [(1, mI 0), (0, .ref 77)] _ _ _ from
  mm_E.to h ⟨rfl, rfl, trivial⟩
theorem p95_2_0 {w d : Nat} {X : List Value} {A : MF} {x1 : Int} (H : R32 x1 ∧ R32 (A 77 1) ∧ A 77 1 ≤ x1) : mm_E w d 95 2 [(0, .ref 77), (1, mI x1)] [] (mm_w X A) (.inl (some (mI (-1))), mm_w X A, 0, 0) := by
  obtain ⟨h0, h1, h2⟩ := H
  exact mm_E.iload_n (mm_atc mc95 rfl) rfl <|
  mm_E.aload_n (mm_atc mc95 rfl) rfl <|
  mm_E.getI (z := A 77 1) (mm_atc mc95 rfl) (mm_plc mp95 rfl) rfl ly77 rfl (rfl) <|
  mm_E.if2 (mm_atc mc95 rfl) h0 h1 (ic_geT h2) rfl <|
  mm_E.iconst (mm_atc mc95 rfl) <|
  mm_E.iret (mm_atc mc95 rfl) mr95 rfl
theorem p95_2_1 {w d : Nat} {X : List Value} {A : MF} {r : MR} {x1 : Int} (H : R32 x1 ∧ R32 (A 77 1) ∧ x1 < A 77 1) (h : mm_E w d 95 14 [(0, .ref 77), (1, mI x1), (2, mI 0), (3, mI 0)] [] (mm_w X A) r) : mm_E w d 95 2 [(0, .ref 77), (1, mI x1)] [] (mm_w X A) r := by
  obtain ⟨h0, h1, h2⟩ := H
  exact mm_E.iload_n (mm_atc mc95 rfl) rfl <|
  mm_E.aload_n (mm_atc mc95 rfl) rfl <|
  mm_E.getI (z := A 77 1) (mm_atc mc95 rfl) (mm_plc mp95 rfl) rfl ly77 rfl (rfl) <|
  mm_E.if2 (mm_atc mc95 rfl) h0 h1 (ic_geF h2) rfl <|
  mm_E.iconst (mm_atc mc95 rfl) <|
  mm_E.istore_n mx95 rfl (mm_atc mc95 rfl) <|
  show mm_E _ _ 95 12 [(2, mI 0), (0, .ref 77), (1, mI x1)] _ _ _ from
  mm_E.iconst (mm_atc mc95 rfl) <|
  mm_E.istore_n mx95 rfl (mm_atc mc95 rfl) <|
  show mm_E _ _ 95 14 [(3, mI 0), (2, mI 0), (0, .ref 77), (1, mI x1)] _ _ _ from
  mm_E.to h ⟨rfl, rfl, rfl, rfl, trivial⟩
theorem p95_14_0 {w d : Nat} {X : List Value} {A : MF} {r : MR} {x1 x2 x3 : Int} (H : R32 x3 ∧ R32 (A 77 1) ∧ A 77 1 ≤ x3 ∧ R32 x2 ∧ x2 ≠ 0) (h : mm_E w d 95 2 [(0, .ref 77), (1, mI (x1 + 1))] [] (mm_w X A) r) : mm_E w d 95 14 [(0, .ref 77), (1, mI x1), (2, mI x2), (3, mI x3)] [] (mm_w X A) r := by
  obtain ⟨h0, h1, h2, h3, h4⟩ := H
  exact mm_E.iload_n (mm_atc mc95 rfl) rfl <|
  mm_E.aload_n (mm_atc mc95 rfl) rfl <|
  mm_E.getI (z := A 77 1) (mm_atc mc95 rfl) (mm_plc mp95 rfl) rfl ly77 rfl (rfl) <|
  mm_E.if2 (mm_atc mc95 rfl) h0 h1 (ic_geT h2) rfl <|
  mm_E.iload_n (mm_atc mc95 rfl) rfl <|
  mm_E.if1 (mm_atc mc95 rfl) h3 (ic_neT h4) rfl <|
  mm_E.inc mx95 rfl (mm_atc mc95 rfl) rfl <|
  show mm_E _ _ 95 56 [(1, mI (x1 + 1)), (0, .ref 77), (2, mI x2), (3, mI x3)] _ _ _ from
  mm_E.goto (mm_atc mc95 rfl) rfl <|
  mm_E.to h ⟨rfl, rfl, trivial⟩
theorem p95_14_1 {w d : Nat} {X : List Value} {A : MF} {x1 x2 x3 : Int} (H : R32 x3 ∧ R32 (A 77 1) ∧ A 77 1 ≤ x3 ∧ R32 x2 ∧ x2 = 0) : mm_E w d 95 14 [(0, .ref 77), (1, mI x1), (2, mI x2), (3, mI x3)] [] (mm_w X A) (.inl (some (mI x1)), mm_w X A, 0, 0) := by
  obtain ⟨h0, h1, h2, h3, h4⟩ := H
  exact mm_E.iload_n (mm_atc mc95 rfl) rfl <|
  mm_E.aload_n (mm_atc mc95 rfl) rfl <|
  mm_E.getI (z := A 77 1) (mm_atc mc95 rfl) (mm_plc mp95 rfl) rfl ly77 rfl (rfl) <|
  mm_E.if2 (mm_atc mc95 rfl) h0 h1 (ic_geT h2) rfl <|
  mm_E.iload_n (mm_atc mc95 rfl) rfl <|
  mm_E.if1 (mm_atc mc95 rfl) h3 (ic_neF h4) rfl <|
  mm_E.iload_n (mm_atc mc95 rfl) rfl <|
  mm_E.iret (mm_atc mc95 rfl) mr95 rfl
theorem p95_14_2 {w d : Nat} {X : List Value} {A : MF} {r : MR} {x1 x2 x3 : Int} (H : R32 x3 ∧ R32 (A 77 1) ∧ x3 < A 77 1 ∧ R32 x2 ∧ x2 ≠ 0) (h : mm_E w d 95 14 [(0, .ref 77), (1, mI x1), (2, mI 1), (3, mI (x3 + 1))] [] (mm_w X A) r) : mm_E w d 95 14 [(0, .ref 77), (1, mI x1), (2, mI x2), (3, mI x3)] [] (mm_w X A) r := by
  obtain ⟨h0, h1, h2, h3, h4⟩ := H
  exact mm_E.iload_n (mm_atc mc95 rfl) rfl <|
  mm_E.aload_n (mm_atc mc95 rfl) rfl <|
  mm_E.getI (z := A 77 1) (mm_atc mc95 rfl) (mm_plc mp95 rfl) rfl ly77 rfl (rfl) <|
  mm_E.if2 (mm_atc mc95 rfl) h0 h1 (ic_geF h2) rfl <|
  mm_E.iload_n (mm_atc mc95 rfl) rfl <|
  mm_E.if1 (mm_atc mc95 rfl) h3 (ic_neT h4) rfl <|
  mm_E.iconst (mm_atc mc95 rfl) <|
  mm_E.goto (mm_atc mc95 rfl) rfl <|
  mm_E.istore_n mx95 rfl (mm_atc mc95 rfl) <|
  show mm_E _ _ 95 41 [(2, mI 1), (0, .ref 77), (1, mI x1), (3, mI x3)] _ _ _ from
  mm_E.inc mx95 rfl (mm_atc mc95 rfl) rfl <|
  show mm_E _ _ 95 44 [(3, mI (x3 + 1)), (2, mI 1), (0, .ref 77), (1, mI x1)] _ _ _ from
  mm_E.goto (mm_atc mc95 rfl) rfl <|
  mm_E.to h ⟨rfl, rfl, rfl, rfl, trivial⟩
theorem p95_14_3 {w d : Nat} {X : List Value} {A : MF} {r : MR} {x1 x2 x3 z0 : Int} (s0 : mm_E w d 93 0 [(0, .ref 77), (1, mI x3), (2, mI x1)] [] (mm_w X A) (.inl (some (mI z0)), mm_w X A, 0, 0)) (H : R32 x3 ∧ R32 (A 77 1) ∧ x3 < A 77 1 ∧ R32 x2 ∧ x2 = 0 ∧ R32 z0 ∧ z0 = 0) (h : mm_E w (d + 1) 95 14 [(0, .ref 77), (1, mI x1), (2, mI 0), (3, mI (x3 + 1))] [] (mm_w X A) r) : mm_E w (d + 1) 95 14 [(0, .ref 77), (1, mI x1), (2, mI x2), (3, mI x3)] [] (mm_w X A) r := by
  obtain ⟨h0, h1, h2, h3, h4, h5, h6⟩ := H
  exact mm_E.iload_n (mm_atc mc95 rfl) rfl <|
  mm_E.aload_n (mm_atc mc95 rfl) rfl <|
  mm_E.getI (z := A 77 1) (mm_atc mc95 rfl) (mm_plc mp95 rfl) rfl ly77 rfl (rfl) <|
  mm_E.if2 (mm_atc mc95 rfl) h0 h1 (ic_geF h2) rfl <|
  mm_E.iload_n (mm_atc mc95 rfl) rfl <|
  mm_E.if1 (mm_atc mc95 rfl) h3 (ic_neF h4) rfl <|
  mm_E.aload_n (mm_atc mc95 rfl) rfl <|
  mm_E.iload_n (mm_atc mc95 rfl) rfl <|
  mm_E.iload_n (mm_atc mc95 rfl) rfl <|
  mm_E.callV0 (mm_atc mc95 rfl) (mm_plc mp95 rfl) rfl mk93 ly77 rfl mx93 rfl rfl s0 (by omega) <|
  show mm_E _ _ 95 32 _ _ _ _ from
  mm_E.if1 (mm_atc mc95 rfl) h5 (ic_eqT h6) rfl <|
  mm_E.iconst (mm_atc mc95 rfl) <|
  mm_E.istore_n mx95 rfl (mm_atc mc95 rfl) <|
  show mm_E _ _ 95 41 [(2, mI 0), (0, .ref 77), (1, mI x1), (3, mI x3)] _ _ _ from
  mm_E.inc mx95 rfl (mm_atc mc95 rfl) rfl <|
  show mm_E _ _ 95 44 [(3, mI (x3 + 1)), (2, mI 0), (0, .ref 77), (1, mI x1)] _ _ _ from
  mm_E.goto (mm_atc mc95 rfl) rfl <|
  mm_E.to h ⟨rfl, rfl, rfl, rfl, trivial⟩
theorem p95_14_4 {w d : Nat} {X : List Value} {A : MF} {r : MR} {x1 x2 x3 z0 : Int} (s0 : mm_E w d 93 0 [(0, .ref 77), (1, mI x3), (2, mI x1)] [] (mm_w X A) (.inl (some (mI z0)), mm_w X A, 0, 0)) (H : R32 x3 ∧ R32 (A 77 1) ∧ x3 < A 77 1 ∧ R32 x2 ∧ x2 = 0 ∧ R32 z0 ∧ z0 ≠ 0) (h : mm_E w (d + 1) 95 14 [(0, .ref 77), (1, mI x1), (2, mI 1), (3, mI (x3 + 1))] [] (mm_w X A) r) : mm_E w (d + 1) 95 14 [(0, .ref 77), (1, mI x1), (2, mI x2), (3, mI x3)] [] (mm_w X A) r := by
  obtain ⟨h0, h1, h2, h3, h4, h5, h6⟩ := H
  exact mm_E.iload_n (mm_atc mc95 rfl) rfl <|
  mm_E.aload_n (mm_atc mc95 rfl) rfl <|
  mm_E.getI (z := A 77 1) (mm_atc mc95 rfl) (mm_plc mp95 rfl) rfl ly77 rfl (rfl) <|
  mm_E.if2 (mm_atc mc95 rfl) h0 h1 (ic_geF h2) rfl <|
  mm_E.iload_n (mm_atc mc95 rfl) rfl <|
  mm_E.if1 (mm_atc mc95 rfl) h3 (ic_neF h4) rfl <|
  mm_E.aload_n (mm_atc mc95 rfl) rfl <|
  mm_E.iload_n (mm_atc mc95 rfl) rfl <|
  mm_E.iload_n (mm_atc mc95 rfl) rfl <|
  mm_E.callV0 (mm_atc mc95 rfl) (mm_plc mp95 rfl) rfl mk93 ly77 rfl mx93 rfl rfl s0 (by omega) <|
  show mm_E _ _ 95 32 _ _ _ _ from
  mm_E.if1 (mm_atc mc95 rfl) h5 (ic_eqF h6) rfl <|
  mm_E.iconst (mm_atc mc95 rfl) <|
  mm_E.goto (mm_atc mc95 rfl) rfl <|
  mm_E.istore_n mx95 rfl (mm_atc mc95 rfl) <|
  show mm_E _ _ 95 41 [(2, mI 1), (0, .ref 77), (1, mI x1), (3, mI x3)] _ _ _ from
  mm_E.inc mx95 rfl (mm_atc mc95 rfl) rfl <|
  show mm_E _ _ 95 44 [(3, mI (x3 + 1)), (2, mI 1), (0, .ref 77), (1, mI x1)] _ _ _ from
  mm_E.goto (mm_atc mc95 rfl) rfl <|
  mm_E.to h ⟨rfl, rfl, rfl, rfl, trivial⟩
theorem p96_0_0 {w d : Nat} {X : List Value} {A : MF} {r : MR}  (h : mm_E w d 96 6 [(0, .ref 77), (1, mI 0), (2, mI 0), (3, mI 0)] [] (mm_w X A) r) : mm_E w d 96 0 [(0, .ref 77)] [] (mm_w X A) r := by
  exact mm_E.iconst (mm_atc mc96 rfl) <|
  mm_E.istore_n mx96 rfl (mm_atc mc96 rfl) <|
  show mm_E _ _ 96 2 [(1, mI 0), (0, .ref 77)] _ _ _ from
  mm_E.iconst (mm_atc mc96 rfl) <|
  mm_E.istore_n mx96 rfl (mm_atc mc96 rfl) <|
  show mm_E _ _ 96 4 [(2, mI 0), (1, mI 0), (0, .ref 77)] _ _ _ from
  mm_E.iconst (mm_atc mc96 rfl) <|
  mm_E.istore_n mx96 rfl (mm_atc mc96 rfl) <|
  show mm_E _ _ 96 6 [(3, mI 0), (2, mI 0), (1, mI 0), (0, .ref 77)] _ _ _ from
  mm_E.to h ⟨rfl, rfl, rfl, rfl, trivial⟩
theorem p96_6_0 {w d : Nat} {X : List Value} {A : MF} {r : MR} {x1 x2 x3 : Int} (H : R32 x3 ∧ x3 ≠ 0) (h : mm_E w d 96 84 [(0, .ref 77), (1, mI x1), (2, mI x2), (4, mI 0)] [] (mm_w X A) r) : mm_E w d 96 6 [(0, .ref 77), (1, mI x1), (2, mI x2), (3, mI x3)] [] (mm_w X A) r := by
  obtain ⟨h0, h1⟩ := H
  exact mm_E.iload_n (mm_atc mc96 rfl) rfl <|
  mm_E.if1 (mm_atc mc96 rfl) h0 (ic_neT h1) rfl <|
  mm_E.iconst (mm_atc mc96 rfl) <|
  mm_E.istore mx96 rfl (mm_atc mc96 rfl) <|
  show mm_E _ _ 96 84 [(4, mI 0), (0, .ref 77), (1, mI x1), (2, mI x2), (3, mI x3)] _ _ _ from
  mm_E.to h ⟨rfl, rfl, rfl, rfl, trivial⟩
theorem p96_6_1 {d : Nat} {X : List Value} {A : MF} {r : MR} {x1 x2 x3 : Int} (H : R32 x3 ∧ x3 = 0 ∧ 0 ≤ x1 ∧ x1 < 6) (h : mm_E 1 d 96 23 [(0, .ref 77), (1, mI (x1 + 1)), (2, mI x2), (3, mI x3), (4, mI 0)] [] (mm_w X (mm_u A 95 x1 x2)) r) : mm_E 1 d 96 6 [(0, .ref 77), (1, mI x1), (2, mI x2), (3, mI x3)] [] (mm_w X A) r := by
  obtain ⟨h0, h1, h2, h3⟩ := H
  exact mm_E.iload_n (mm_atc mc96 rfl) rfl <|
  mm_E.if1 (mm_atc mc96 rfl) h0 (ic_neF h1) rfl <|
  mm_E.aload_n (mm_atc mc96 rfl) rfl <|
  mm_E.getR (b := 95) (mm_atc mc96 rfl) (mm_plc mp96 rfl) rfl ly77 rfl <|
  mm_E.iload_n (mm_atc mc96 rfl) rfl <|
  mm_E.iload_n (mm_atc mc96 rfl) rfl <|
  mm_E.iastore (e := x1) (z := x2) (mm_atc mc96 rfl) ly95 rfl h2 h3 rfl rfl <|
  mm_E.inc mx96 rfl (mm_atc mc96 rfl) rfl <|
  show mm_E _ _ 96 20 [(1, mI (x1 + 1)), (0, .ref 77), (2, mI x2), (3, mI x3)] _ _ _ from
  mm_E.iconst (mm_atc mc96 rfl) <|
  mm_E.istore mx96 rfl (mm_atc mc96 rfl) <|
  show mm_E _ _ 96 23 [(4, mI 0), (1, mI (x1 + 1)), (0, .ref 77), (2, mI x2), (3, mI x3)] _ _ _ from
  mm_E.to h ⟨rfl, rfl, rfl, rfl, rfl, trivial⟩
theorem p96_84_0 {w d : Nat} {X : List Value} {A : MF} {r : MR} {x1 x2 x4 : Int} (H : 0 ≤ x4 ∧ x4 < 6 ∧ R32 (A 95 x4) ∧ R32 x2 ∧ A 95 x4 = x2) (h : mm_E w d 96 104 [(0, .ref 77), (1, mI x1), (2, mI x2), (4, mI x4), (5, mI 0)] [] (mm_w X A) r) : mm_E w d 96 84 [(0, .ref 77), (1, mI x1), (2, mI x2), (4, mI x4)] [] (mm_w X A) r := by
  obtain ⟨h0, h1, h2, h3, h4⟩ := H
  exact mm_E.aload_n (mm_atc mc96 rfl) rfl <|
  mm_E.getR (b := 95) (mm_atc mc96 rfl) (mm_plc mp96 rfl) rfl ly77 rfl <|
  mm_E.iload (mm_atc mc96 rfl) rfl <|
  mm_E.iaload (e := x4) (mm_atc mc96 rfl) ly95 rfl h0 h1 rfl (rfl) <|
  mm_E.iload_n (mm_atc mc96 rfl) rfl <|
  mm_E.if2 (mm_atc mc96 rfl) h2 h3 (ic_eqT h4) rfl <|
  mm_E.iconst (mm_atc mc96 rfl) <|
  mm_E.istore mx96 rfl (mm_atc mc96 rfl) <|
  show mm_E _ _ 96 104 [(5, mI 0), (0, .ref 77), (1, mI x1), (2, mI x2), (4, mI x4)] _ _ _ from
  mm_E.to h ⟨rfl, rfl, rfl, rfl, rfl, trivial⟩
theorem p96_84_1 {w d : Nat} {X : List Value} {A : MF} {r : MR} {x1 x2 x4 : Int} (H : 0 ≤ x4 ∧ x4 < 6 ∧ R32 (A 95 x4) ∧ R32 x2 ∧ A 95 x4 ≠ x2) (h : mm_E w d 96 84 [(0, .ref 77), (1, mI x1), (2, mI x2), (4, mI (x4 + 1))] [] (mm_w X A) r) : mm_E w d 96 84 [(0, .ref 77), (1, mI x1), (2, mI x2), (4, mI x4)] [] (mm_w X A) r := by
  obtain ⟨h0, h1, h2, h3, h4⟩ := H
  exact mm_E.aload_n (mm_atc mc96 rfl) rfl <|
  mm_E.getR (b := 95) (mm_atc mc96 rfl) (mm_plc mp96 rfl) rfl ly77 rfl <|
  mm_E.iload (mm_atc mc96 rfl) rfl <|
  mm_E.iaload (e := x4) (mm_atc mc96 rfl) ly95 rfl h0 h1 rfl (rfl) <|
  mm_E.iload_n (mm_atc mc96 rfl) rfl <|
  mm_E.if2 (mm_atc mc96 rfl) h2 h3 (ic_eqF h4) rfl <|
  mm_E.inc mx96 rfl (mm_atc mc96 rfl) rfl <|
  show mm_E _ _ 96 98 [(4, mI (x4 + 1)), (0, .ref 77), (1, mI x1), (2, mI x2)] _ _ _ from
  mm_E.goto (mm_atc mc96 rfl) rfl <|
  mm_E.to h ⟨rfl, rfl, rfl, rfl, trivial⟩
theorem p96_23_0 {w d : Nat} {X : List Value} {A : MF} {r : MR} {x1 x2 x3 x4 z0 : Int} (s0 : mm_E w d 93 0 [(0, .ref 77), (1, mI x4), (2, mI x2)] [] (mm_w X A) (.inl (some (mI z0)), mm_w X A, 0, 0)) (H : R32 z0 ∧ z0 ≠ 0) (h : mm_E w (d + 1) 96 45 [(0, .ref 77), (1, mI x1), (2, mI x4), (3, mI x3), (5, mI 0)] [] (mm_w X A) r) : mm_E w (d + 1) 96 23 [(0, .ref 77), (1, mI x1), (2, mI x2), (3, mI x3), (4, mI x4)] [] (mm_w X A) r := by
  obtain ⟨h0, h1⟩ := H
  exact mm_E.aload_n (mm_atc mc96 rfl) rfl <|
  mm_E.iload (mm_atc mc96 rfl) rfl <|
  mm_E.iload_n (mm_atc mc96 rfl) rfl <|
  mm_E.callV0 (mm_atc mc96 rfl) (mm_plc mp96 rfl) rfl mk93 ly77 rfl mx93 rfl rfl s0 (by omega) <|
  show mm_E _ _ 96 30 _ _ _ _ from
  mm_E.if1 (mm_atc mc96 rfl) h0 (ic_neT h1) rfl <|
  mm_E.iload (mm_atc mc96 rfl) rfl <|
  mm_E.istore_n mx96 rfl (mm_atc mc96 rfl) <|
  show mm_E _ _ 96 42 [(2, mI x4), (0, .ref 77), (1, mI x1), (3, mI x3), (4, mI x4)] _ _ _ from
  mm_E.iconst (mm_atc mc96 rfl) <|
  mm_E.istore mx96 rfl (mm_atc mc96 rfl) <|
  show mm_E _ _ 96 45 [(5, mI 0), (2, mI x4), (0, .ref 77), (1, mI x1), (3, mI x3), (4, mI x4)] _ _ _ from
  mm_E.to h ⟨rfl, rfl, rfl, rfl, rfl, trivial⟩
theorem p96_23_1 {w d : Nat} {X : List Value} {A : MF} {r : MR} {x1 x2 x3 x4 z0 : Int} (s0 : mm_E w d 93 0 [(0, .ref 77), (1, mI x4), (2, mI x2)] [] (mm_w X A) (.inl (some (mI z0)), mm_w X A, 0, 0)) (H : R32 z0 ∧ z0 = 0) (h : mm_E w (d + 1) 96 23 [(0, .ref 77), (1, mI x1), (2, mI x2), (3, mI x3), (4, mI (x4 + 1))] [] (mm_w X A) r) : mm_E w (d + 1) 96 23 [(0, .ref 77), (1, mI x1), (2, mI x2), (3, mI x3), (4, mI x4)] [] (mm_w X A) r := by
  obtain ⟨h0, h1⟩ := H
  exact mm_E.aload_n (mm_atc mc96 rfl) rfl <|
  mm_E.iload (mm_atc mc96 rfl) rfl <|
  mm_E.iload_n (mm_atc mc96 rfl) rfl <|
  mm_E.callV0 (mm_atc mc96 rfl) (mm_plc mp96 rfl) rfl mk93 ly77 rfl mx93 rfl rfl s0 (by omega) <|
  show mm_E _ _ 96 30 _ _ _ _ from
  mm_E.if1 (mm_atc mc96 rfl) h0 (ic_neF h1) rfl <|
  mm_E.inc mx96 rfl (mm_atc mc96 rfl) rfl <|
  show mm_E _ _ 96 36 [(4, mI (x4 + 1)), (0, .ref 77), (1, mI x1), (2, mI x2), (3, mI x3)] _ _ _ from
  mm_E.goto (mm_atc mc96 rfl) rfl <|
  mm_E.to h ⟨rfl, rfl, rfl, rfl, rfl, trivial⟩
theorem p96_104_0 {w d : Nat} {X : List Value} {A : MF} {x1 x2 x4 x5 : Int} (H : R32 x5 ∧ R32 (A 77 2) ∧ A 77 2 ≤ x5) : mm_E w d 96 104 [(0, .ref 77), (1, mI x1), (2, mI x2), (4, mI x4), (5, mI x5)] [] (mm_w X A) (.inl (none), mm_w X A, 0, 0) := by
  obtain ⟨h0, h1, h2⟩ := H
  exact mm_E.iload (mm_atc mc96 rfl) rfl <|
  mm_E.aload_n (mm_atc mc96 rfl) rfl <|
  mm_E.getI (z := A 77 2) (mm_atc mc96 rfl) (mm_plc mp96 rfl) rfl ly77 rfl (rfl) <|
  mm_E.if2 (mm_atc mc96 rfl) h0 h1 (ic_geT h2) rfl <|
  mm_E.vret (mm_atc mc96 rfl) mr96
theorem p96_104_1 {w d : Nat} {X : List Value} {A : MF} {r : MR} {x1 x2 x4 x5 : Int} (H : R32 x5 ∧ R32 (A 77 2) ∧ x5 < A 77 2 ∧ 0 ≤ x5 ∧ x5 < 12) (h : mm_E w d 96 126 [(0, .ref 77), (1, mI x1), (2, mI x2), (4, mI x4), (5, mI x5), (6, mI (A 79 x5)), (7, mI x4)] [] (mm_w X A) r) : mm_E w d 96 104 [(0, .ref 77), (1, mI x1), (2, mI x2), (4, mI x4), (5, mI x5)] [] (mm_w X A) r := by
  obtain ⟨h0, h1, h2, h3, h4⟩ := H
  exact mm_E.iload (mm_atc mc96 rfl) rfl <|
  mm_E.aload_n (mm_atc mc96 rfl) rfl <|
  mm_E.getI (z := A 77 2) (mm_atc mc96 rfl) (mm_plc mp96 rfl) rfl ly77 rfl (rfl) <|
  mm_E.if2 (mm_atc mc96 rfl) h0 h1 (ic_geF h2) rfl <|
  mm_E.aload_n (mm_atc mc96 rfl) rfl <|
  mm_E.getR (b := 79) (mm_atc mc96 rfl) (mm_plc mp96 rfl) rfl ly77 rfl <|
  mm_E.iload (mm_atc mc96 rfl) rfl <|
  mm_E.iaload (e := x5) (mm_atc mc96 rfl) ly79 rfl h3 h4 rfl (rfl) <|
  mm_E.istore mx96 rfl (mm_atc mc96 rfl) <|
  show mm_E _ _ 96 122 [(6, mI (A 79 x5)), (0, .ref 77), (1, mI x1), (2, mI x2), (4, mI x4), (5, mI x5)] _ _ _ from
  mm_E.iload (mm_atc mc96 rfl) rfl <|
  mm_E.istore mx96 rfl (mm_atc mc96 rfl) <|
  show mm_E _ _ 96 126 [(7, mI x4), (6, mI (A 79 x5)), (0, .ref 77), (1, mI x1), (2, mI x2), (4, mI x4), (5, mI x5)] _ _ _ from
  mm_E.to h ⟨rfl, rfl, rfl, rfl, rfl, rfl, rfl, trivial⟩
theorem p96_45_0 {w d : Nat} {X : List Value} {A : MF} {r : MR} {x1 x2 x3 x5 : Int} (H : R32 x5 ∧ R32 x1 ∧ x1 ≤ x5) (h : mm_E w d 96 6 [(0, .ref 77), (1, mI x1), (2, mI x2), (3, mI x3)] [] (mm_w X A) r) : mm_E w d 96 45 [(0, .ref 77), (1, mI x1), (2, mI x2), (3, mI x3), (5, mI x5)] [] (mm_w X A) r := by
  obtain ⟨h0, h1, h2⟩ := H
  exact mm_E.iload (mm_atc mc96 rfl) rfl <|
  mm_E.iload_n (mm_atc mc96 rfl) rfl <|
  mm_E.if2 (mm_atc mc96 rfl) h0 h1 (ic_geT h2) rfl <|
  mm_E.goto (mm_atc mc96 rfl) rfl <|
  mm_E.to h ⟨rfl, rfl, rfl, rfl, trivial⟩
theorem p96_45_1 {w d : Nat} {X : List Value} {A : MF} {r : MR} {x1 x2 x3 x5 : Int} (H : R32 x5 ∧ R32 x1 ∧ x5 < x1 ∧ R32 x3 ∧ x3 ≠ 0) (h : mm_E w d 96 45 [(0, .ref 77), (1, mI x1), (2, mI x2), (3, mI 1), (5, mI (x5 + 1))] [] (mm_w X A) r) : mm_E w d 96 45 [(0, .ref 77), (1, mI x1), (2, mI x2), (3, mI x3), (5, mI x5)] [] (mm_w X A) r := by
  obtain ⟨h0, h1, h2, h3, h4⟩ := H
  exact mm_E.iload (mm_atc mc96 rfl) rfl <|
  mm_E.iload_n (mm_atc mc96 rfl) rfl <|
  mm_E.if2 (mm_atc mc96 rfl) h0 h1 (ic_geF h2) rfl <|
  mm_E.iload_n (mm_atc mc96 rfl) rfl <|
  mm_E.if1 (mm_atc mc96 rfl) h3 (ic_neT h4) rfl <|
  mm_E.iconst (mm_atc mc96 rfl) <|
  mm_E.goto (mm_atc mc96 rfl) rfl <|
  mm_E.istore_n mx96 rfl (mm_atc mc96 rfl) <|
  show mm_E _ _ 96 72 [(3, mI 1), (0, .ref 77), (1, mI x1), (2, mI x2), (5, mI x5)] _ _ _ from
  mm_E.inc mx96 rfl (mm_atc mc96 rfl) rfl <|
  show mm_E _ _ 96 75 [(5, mI (x5 + 1)), (3, mI 1), (0, .ref 77), (1, mI x1), (2, mI x2)] _ _ _ from
  mm_E.goto (mm_atc mc96 rfl) rfl <|
  mm_E.to h ⟨rfl, rfl, rfl, rfl, rfl, trivial⟩
theorem p96_45_2 {w d : Nat} {X : List Value} {A : MF} {r : MR} {x1 x2 x3 x5 : Int} (H : R32 x5 ∧ R32 x1 ∧ x5 < x1 ∧ R32 x3 ∧ x3 = 0 ∧ 0 ≤ x5 ∧ x5 < 6 ∧ R32 (A 95 x5) ∧ R32 x2 ∧ A 95 x5 ≠ x2) (h : mm_E w d 96 45 [(0, .ref 77), (1, mI x1), (2, mI x2), (3, mI 0), (5, mI (x5 + 1))] [] (mm_w X A) r) : mm_E w d 96 45 [(0, .ref 77), (1, mI x1), (2, mI x2), (3, mI x3), (5, mI x5)] [] (mm_w X A) r := by
  obtain ⟨h0, h1, h2, h3, h4, h5, h6, h7, h8, h9⟩ := H
  exact mm_E.iload (mm_atc mc96 rfl) rfl <|
  mm_E.iload_n (mm_atc mc96 rfl) rfl <|
  mm_E.if2 (mm_atc mc96 rfl) h0 h1 (ic_geF h2) rfl <|
  mm_E.iload_n (mm_atc mc96 rfl) rfl <|
  mm_E.if1 (mm_atc mc96 rfl) h3 (ic_neF h4) rfl <|
  mm_E.aload_n (mm_atc mc96 rfl) rfl <|
  mm_E.getR (b := 95) (mm_atc mc96 rfl) (mm_plc mp96 rfl) rfl ly77 rfl <|
  mm_E.iload (mm_atc mc96 rfl) rfl <|
  mm_E.iaload (e := x5) (mm_atc mc96 rfl) ly95 rfl h5 h6 rfl (rfl) <|
  mm_E.iload_n (mm_atc mc96 rfl) rfl <|
  mm_E.if2 (mm_atc mc96 rfl) h7 h8 (ic_neT h9) rfl <|
  mm_E.iconst (mm_atc mc96 rfl) <|
  mm_E.istore_n mx96 rfl (mm_atc mc96 rfl) <|
  show mm_E _ _ 96 72 [(3, mI 0), (0, .ref 77), (1, mI x1), (2, mI x2), (5, mI x5)] _ _ _ from
  mm_E.inc mx96 rfl (mm_atc mc96 rfl) rfl <|
  show mm_E _ _ 96 75 [(5, mI (x5 + 1)), (3, mI 0), (0, .ref 77), (1, mI x1), (2, mI x2)] _ _ _ from
  mm_E.goto (mm_atc mc96 rfl) rfl <|
  mm_E.to h ⟨rfl, rfl, rfl, rfl, rfl, trivial⟩
theorem p96_45_3 {w d : Nat} {X : List Value} {A : MF} {r : MR} {x1 x2 x3 x5 : Int} (H : R32 x5 ∧ R32 x1 ∧ x5 < x1 ∧ R32 x3 ∧ x3 = 0 ∧ 0 ≤ x5 ∧ x5 < 6 ∧ R32 (A 95 x5) ∧ R32 x2 ∧ A 95 x5 = x2) (h : mm_E w d 96 45 [(0, .ref 77), (1, mI x1), (2, mI x2), (3, mI 1), (5, mI (x5 + 1))] [] (mm_w X A) r) : mm_E w d 96 45 [(0, .ref 77), (1, mI x1), (2, mI x2), (3, mI x3), (5, mI x5)] [] (mm_w X A) r := by
  obtain ⟨h0, h1, h2, h3, h4, h5, h6, h7, h8, h9⟩ := H
  exact mm_E.iload (mm_atc mc96 rfl) rfl <|
  mm_E.iload_n (mm_atc mc96 rfl) rfl <|
  mm_E.if2 (mm_atc mc96 rfl) h0 h1 (ic_geF h2) rfl <|
  mm_E.iload_n (mm_atc mc96 rfl) rfl <|
  mm_E.if1 (mm_atc mc96 rfl) h3 (ic_neF h4) rfl <|
  mm_E.aload_n (mm_atc mc96 rfl) rfl <|
  mm_E.getR (b := 95) (mm_atc mc96 rfl) (mm_plc mp96 rfl) rfl ly77 rfl <|
  mm_E.iload (mm_atc mc96 rfl) rfl <|
  mm_E.iaload (e := x5) (mm_atc mc96 rfl) ly95 rfl h5 h6 rfl (rfl) <|
  mm_E.iload_n (mm_atc mc96 rfl) rfl <|
  mm_E.if2 (mm_atc mc96 rfl) h7 h8 (ic_neF h9) rfl <|
  mm_E.iconst (mm_atc mc96 rfl) <|
  mm_E.goto (mm_atc mc96 rfl) rfl <|
  mm_E.istore_n mx96 rfl (mm_atc mc96 rfl) <|
  show mm_E _ _ 96 72 [(3, mI 1), (0, .ref 77), (1, mI x1), (2, mI x2), (5, mI x5)] _ _ _ from
  mm_E.inc mx96 rfl (mm_atc mc96 rfl) rfl <|
  show mm_E _ _ 96 75 [(5, mI (x5 + 1)), (3, mI 1), (0, .ref 77), (1, mI x1), (2, mI x2)] _ _ _ from
  mm_E.goto (mm_atc mc96 rfl) rfl <|
  mm_E.to h ⟨rfl, rfl, rfl, rfl, rfl, trivial⟩
theorem p96_126_0 {w d : Nat} {X : List Value} {A : MF} {r : MR} {x1 x2 x4 x5 x6 x7 : Int} (H : R32 x7 ∧ R32 x1 ∧ x1 ≤ x7) (h : mm_E w d 96 104 [(0, .ref 77), (1, mI x1), (2, mI x2), (4, mI x4), (5, mI (x5 + 1))] [] (mm_w X A) r) : mm_E w d 96 126 [(0, .ref 77), (1, mI x1), (2, mI x2), (4, mI x4), (5, mI x5), (6, mI x6), (7, mI x7)] [] (mm_w X A) r := by
  obtain ⟨h0, h1, h2⟩ := H
  exact mm_E.iload (mm_atc mc96 rfl) rfl <|
  mm_E.iload_n (mm_atc mc96 rfl) rfl <|
  mm_E.if2 (mm_atc mc96 rfl) h0 h1 (ic_geT h2) rfl <|
  mm_E.inc mx96 rfl (mm_atc mc96 rfl) rfl <|
  show mm_E _ _ 96 181 [(5, mI (x5 + 1)), (0, .ref 77), (1, mI x1), (2, mI x2), (4, mI x4), (6, mI x6), (7, mI x7)] _ _ _ from
  mm_E.goto (mm_atc mc96 rfl) rfl <|
  mm_E.to h ⟨rfl, rfl, rfl, rfl, rfl, trivial⟩
theorem p96_126_1 {w d : Nat} {X : List Value} {A : MF} {r : MR} {x1 x2 x4 x5 x6 x7 : Int} (H : R32 x7 ∧ R32 x1 ∧ x7 < x1 ∧ 0 ≤ x7 ∧ x7 < 6 ∧ R32 x6 ∧ R32 (A 95 x7) ∧ x6 ≠ A 95 x7) (h : mm_E w d 96 126 [(0, .ref 77), (1, mI x1), (2, mI x2), (4, mI x4), (5, mI x5), (6, mI x6), (7, mI (x7 + 1))] [] (mm_w X A) r) : mm_E w d 96 126 [(0, .ref 77), (1, mI x1), (2, mI x2), (4, mI x4), (5, mI x5), (6, mI x6), (7, mI x7)] [] (mm_w X A) r := by
  obtain ⟨h0, h1, h2, h3, h4, h5, h6, h7⟩ := H
  exact mm_E.iload (mm_atc mc96 rfl) rfl <|
  mm_E.iload_n (mm_atc mc96 rfl) rfl <|
  mm_E.if2 (mm_atc mc96 rfl) h0 h1 (ic_geF h2) rfl <|
  mm_E.iload (mm_atc mc96 rfl) rfl <|
  mm_E.aload_n (mm_atc mc96 rfl) rfl <|
  mm_E.getR (b := 95) (mm_atc mc96 rfl) (mm_plc mp96 rfl) rfl ly77 rfl <|
  mm_E.iload (mm_atc mc96 rfl) rfl <|
  mm_E.iaload (e := x7) (mm_atc mc96 rfl) ly95 rfl h3 h4 rfl (rfl) <|
  mm_E.if2 (mm_atc mc96 rfl) h5 h6 (ic_neT h7) rfl <|
  mm_E.inc mx96 rfl (mm_atc mc96 rfl) rfl <|
  show mm_E _ _ 96 175 [(7, mI (x7 + 1)), (0, .ref 77), (1, mI x1), (2, mI x2), (4, mI x4), (5, mI x5), (6, mI x6)] _ _ _ from
  mm_E.goto (mm_atc mc96 rfl) rfl <|
  mm_E.to h ⟨rfl, rfl, rfl, rfl, rfl, rfl, rfl, trivial⟩
theorem p96_126_2 {d : Nat} {X : List Value} {A : MF} {r : MR} {x1 x2 x4 x5 x6 x7 : Int} (H : R32 x7 ∧ R32 x1 ∧ x7 < x1 ∧ 0 ≤ x7 ∧ x7 < 6 ∧ R32 x6 ∧ R32 (A 95 x7) ∧ x6 = A 95 x7 ∧ R32 (x7 + 1) ∧ x1 ≤ x7 + 1 ∧ 0 ≤ x5 ∧ x5 < 12) (h : mm_E 1 d 96 126 [(0, .ref 77), (1, mI x1), (2, mI x2), (4, mI x4), (5, mI x5), (6, mI x6), (7, mI (x7 + 1))] [] (mm_w X (mm_u A 79 x5 x2)) r) : mm_E 1 d 96 126 [(0, .ref 77), (1, mI x1), (2, mI x2), (4, mI x4), (5, mI x5), (6, mI x6), (7, mI x7)] [] (mm_w X A) r := by
  obtain ⟨h0, h1, h2, h3, h4, h5, h6, h7, h8, h9, h10, h11⟩ := H
  exact mm_E.iload (mm_atc mc96 rfl) rfl <|
  mm_E.iload_n (mm_atc mc96 rfl) rfl <|
  mm_E.if2 (mm_atc mc96 rfl) h0 h1 (ic_geF h2) rfl <|
  mm_E.iload (mm_atc mc96 rfl) rfl <|
  mm_E.aload_n (mm_atc mc96 rfl) rfl <|
  mm_E.getR (b := 95) (mm_atc mc96 rfl) (mm_plc mp96 rfl) rfl ly77 rfl <|
  mm_E.iload (mm_atc mc96 rfl) rfl <|
  mm_E.iaload (e := x7) (mm_atc mc96 rfl) ly95 rfl h3 h4 rfl (rfl) <|
  mm_E.if2 (mm_atc mc96 rfl) h5 h6 (ic_neF h7) rfl <|
  mm_E.aload_n (mm_atc mc96 rfl) rfl <|
  mm_E.getR (b := 79) (mm_atc mc96 rfl) (mm_plc mp96 rfl) rfl ly77 rfl <|
  mm_E.iload (mm_atc mc96 rfl) rfl <|
  mm_E.iload (mm_atc mc96 rfl) rfl <|
  mm_E.iconst (mm_atc mc96 rfl) <|
  mm_E.iadd (mm_atc mc96 rfl) <|
  mm_E.iload_n (mm_atc mc96 rfl) rfl <|
  mm_E.if2 (mm_atc mc96 rfl) h8 h1 (ic_geT h9) rfl <|
  mm_E.iload_n (mm_atc mc96 rfl) rfl <|
  mm_E.iastore (e := x5) (z := x2) (mm_atc mc96 rfl) ly79 rfl h10 h11 rfl rfl <|
  mm_E.inc mx96 rfl (mm_atc mc96 rfl) rfl <|
  show mm_E _ _ 96 175 [(7, mI (x7 + 1)), (0, .ref 77), (1, mI x1), (2, mI x2), (4, mI x4), (5, mI x5), (6, mI x6)] _ _ _ from
  mm_E.goto (mm_atc mc96 rfl) rfl <|
  mm_E.to h ⟨rfl, rfl, rfl, rfl, rfl, rfl, rfl, trivial⟩
theorem p96_126_3 {d : Nat} {X : List Value} {A : MF} {r : MR} {x1 x2 x4 x5 x6 x7 : Int} (H : R32 x7 ∧ R32 x1 ∧ x7 < x1 ∧ 0 ≤ x7 ∧ x7 < 6 ∧ R32 x6 ∧ R32 (A 95 x7) ∧ x6 = A 95 x7 ∧ R32 (x7 + 1) ∧ x7 + 1 < x1 ∧ 0 ≤ x7 + 1 ∧ x7 + 1 < 6 ∧ 0 ≤ x5 ∧ x5 < 12) (h : mm_E 1 d 96 126 [(0, .ref 77), (1, mI x1), (2, mI x2), (4, mI x4), (5, mI x5), (6, mI x6), (7, mI (x7 + 1))] [] (mm_w X (mm_u A 79 x5 (A 95 (x7 + 1)))) r) : mm_E 1 d 96 126 [(0, .ref 77), (1, mI x1), (2, mI x2), (4, mI x4), (5, mI x5), (6, mI x6), (7, mI x7)] [] (mm_w X A) r := by
  obtain ⟨h0, h1, h2, h3, h4, h5, h6, h7, h8, h9, h10, h11, h12, h13⟩ := H
  exact mm_E.iload (mm_atc mc96 rfl) rfl <|
  mm_E.iload_n (mm_atc mc96 rfl) rfl <|
  mm_E.if2 (mm_atc mc96 rfl) h0 h1 (ic_geF h2) rfl <|
  mm_E.iload (mm_atc mc96 rfl) rfl <|
  mm_E.aload_n (mm_atc mc96 rfl) rfl <|
  mm_E.getR (b := 95) (mm_atc mc96 rfl) (mm_plc mp96 rfl) rfl ly77 rfl <|
  mm_E.iload (mm_atc mc96 rfl) rfl <|
  mm_E.iaload (e := x7) (mm_atc mc96 rfl) ly95 rfl h3 h4 rfl (rfl) <|
  mm_E.if2 (mm_atc mc96 rfl) h5 h6 (ic_neF h7) rfl <|
  mm_E.aload_n (mm_atc mc96 rfl) rfl <|
  mm_E.getR (b := 79) (mm_atc mc96 rfl) (mm_plc mp96 rfl) rfl ly77 rfl <|
  mm_E.iload (mm_atc mc96 rfl) rfl <|
  mm_E.iload (mm_atc mc96 rfl) rfl <|
  mm_E.iconst (mm_atc mc96 rfl) <|
  mm_E.iadd (mm_atc mc96 rfl) <|
  mm_E.iload_n (mm_atc mc96 rfl) rfl <|
  mm_E.if2 (mm_atc mc96 rfl) h8 h1 (ic_geF h9) rfl <|
  mm_E.aload_n (mm_atc mc96 rfl) rfl <|
  mm_E.getR (b := 95) (mm_atc mc96 rfl) (mm_plc mp96 rfl) rfl ly77 rfl <|
  mm_E.iload (mm_atc mc96 rfl) rfl <|
  mm_E.iconst (mm_atc mc96 rfl) <|
  mm_E.iadd (mm_atc mc96 rfl) <|
  mm_E.iaload (e := x7 + 1) (mm_atc mc96 rfl) ly95 rfl h10 h11 rfl (rfl) <|
  mm_E.goto (mm_atc mc96 rfl) rfl <|
  mm_E.iastore (e := x5) (z := A 95 (x7 + 1)) (mm_atc mc96 rfl) ly79 rfl h12 h13 rfl rfl <|
  mm_E.inc mx96 rfl (mm_atc mc96 rfl) rfl <|
  show mm_E _ _ 96 175 [(7, mI (x7 + 1)), (0, .ref 77), (1, mI x1), (2, mI x2), (4, mI x4), (5, mI x5), (6, mI x6)] _ _ _ from
  mm_E.goto (mm_atc mc96 rfl) rfl <|
  mm_E.to h ⟨rfl, rfl, rfl, rfl, rfl, rfl, rfl, trivial⟩
theorem p97_0_0 {w d : Nat} {X : List Value} {A : MF} {r : MR}  (h : mm_E w d 97 4 [(0, .ref 77), (1, mI 1), (2, mI 0)] [] (mm_w X A) r) : mm_E w d 97 0 [(0, .ref 77)] [] (mm_w X A) r := by
  exact mm_E.iconst (mm_atc mc97 rfl) <|
  mm_E.istore_n mx97 rfl (mm_atc mc97 rfl) <|
  show mm_E _ _ 97 2 [(1, mI 1), (0, .ref 77)] _ _ _ from
  mm_E.iconst (mm_atc mc97 rfl) <|
  mm_E.istore_n mx97 rfl (mm_atc mc97 rfl) <|
  show mm_E _ _ 97 4 [(2, mI 0), (1, mI 1), (0, .ref 77)] _ _ _ from
  mm_E.to h ⟨rfl, rfl, rfl, trivial⟩
theorem p97_4_0 {w d : Nat} {X : List Value} {A : MF} {x1 x2 : Int} (H : R32 x2 ∧ R32 (A 77 2) ∧ A 77 2 ≤ x2) : mm_E w d 97 4 [(0, .ref 77), (1, mI x1), (2, mI x2)] [] (mm_w X A) (.inl (some (mI x1)), mm_w X A, 0, 0) := by
  obtain ⟨h0, h1, h2⟩ := H
  exact mm_E.iload_n (mm_atc mc97 rfl) rfl <|
  mm_E.aload_n (mm_atc mc97 rfl) rfl <|
  mm_E.getI (z := A 77 2) (mm_atc mc97 rfl) (mm_plc mp97 rfl) rfl ly77 rfl (rfl) <|
  mm_E.if2 (mm_atc mc97 rfl) h0 h1 (ic_geT h2) rfl <|
  mm_E.iload_n (mm_atc mc97 rfl) rfl <|
  mm_E.iret (mm_atc mc97 rfl) mr97 rfl
theorem p97_4_1 {w d : Nat} {X : List Value} {A : MF} {x1 x2 : Int} (H : R32 x2 ∧ R32 (A 77 2) ∧ x2 < A 77 2 ∧ R32 x1 ∧ 65536 < x1) : mm_E w d 97 4 [(0, .ref 77), (1, mI x1), (2, mI x2)] [] (mm_w X A) (.inl (some (mI x1)), mm_w X A, 0, 0) := by
  obtain ⟨h0, h1, h2, h3, h4⟩ := H
  exact mm_E.iload_n (mm_atc mc97 rfl) rfl <|
  mm_E.aload_n (mm_atc mc97 rfl) rfl <|
  mm_E.getI (z := A 77 2) (mm_atc mc97 rfl) (mm_plc mp97 rfl) rfl ly77 rfl (rfl) <|
  mm_E.if2 (mm_atc mc97 rfl) h0 h1 (ic_geF h2) rfl <|
  mm_E.iload_n (mm_atc mc97 rfl) rfl <|
  mm_E.ldc (mm_atc mc97 rfl) (mm_plc mp97 rfl) <|
  mm_E.if2 (mm_atc mc97 rfl) h3 (by decide) (ic_gtT h4) rfl <|
  mm_E.iload_n (mm_atc mc97 rfl) rfl <|
  mm_E.iret (mm_atc mc97 rfl) mr97 rfl
theorem p97_4_2 {w d : Nat} {X : List Value} {A : MF} {r : MR} {x1 x2 : Int} (H : R32 x2 ∧ R32 (A 77 2) ∧ x2 < A 77 2 ∧ R32 x1 ∧ x1 ≤ 65536) (h : mm_E w d 97 4 [(0, .ref 77), (1, mI (x1 * (A 77 1))), (2, mI (x2 + 1))] [] (mm_w X A) r) : mm_E w d 97 4 [(0, .ref 77), (1, mI x1), (2, mI x2)] [] (mm_w X A) r := by
  obtain ⟨h0, h1, h2, h3, h4⟩ := H
  exact mm_E.iload_n (mm_atc mc97 rfl) rfl <|
  mm_E.aload_n (mm_atc mc97 rfl) rfl <|
  mm_E.getI (z := A 77 2) (mm_atc mc97 rfl) (mm_plc mp97 rfl) rfl ly77 rfl (rfl) <|
  mm_E.if2 (mm_atc mc97 rfl) h0 h1 (ic_geF h2) rfl <|
  mm_E.iload_n (mm_atc mc97 rfl) rfl <|
  mm_E.ldc (mm_atc mc97 rfl) (mm_plc mp97 rfl) <|
  mm_E.if2 (mm_atc mc97 rfl) h3 (by decide) (ic_gtF h4) rfl <|
  mm_E.iload_n (mm_atc mc97 rfl) rfl <|
  mm_E.aload_n (mm_atc mc97 rfl) rfl <|
  mm_E.getI (z := A 77 1) (mm_atc mc97 rfl) (mm_plc mp97 rfl) rfl ly77 rfl (rfl) <|
  mm_E.imul (mm_atc mc97 rfl) <|
  mm_E.istore_n mx97 rfl (mm_atc mc97 rfl) <|
  show mm_E _ _ 97 25 [(1, mI (x1 * (A 77 1))), (0, .ref 77), (2, mI x2)] _ _ _ from
  mm_E.inc mx97 rfl (mm_atc mc97 rfl) rfl <|
  show mm_E _ _ 97 28 [(2, mI (x2 + 1)), (1, mI (x1 * (A 77 1))), (0, .ref 77)] _ _ _ from
  mm_E.goto (mm_atc mc97 rfl) rfl <|
  mm_E.to h ⟨rfl, rfl, rfl, trivial⟩
theorem p98_0_0 {w d : Nat} {X : List Value} {A : MF} {r : MR} {x1 : Int} (h : mm_E w d 98 9 [(0, .ref 77), (2, mI x1), (3, mI ((A 77 2) - 1))] [] (mm_w X A) r) : mm_E w d 98 0 [(0, .ref 77), (1, mI x1)] [] (mm_w X A) r := by
  exact mm_E.iload_n (mm_atc mc98 rfl) rfl <|
  mm_E.istore_n mx98 rfl (mm_atc mc98 rfl) <|
  show mm_E _ _ 98 2 [(2, mI x1), (0, .ref 77), (1, mI x1)] _ _ _ from
  mm_E.aload_n (mm_atc mc98 rfl) rfl <|
  mm_E.getI (z := A 77 2) (mm_atc mc98 rfl) (mm_plc mp98 rfl) rfl ly77 rfl (rfl) <|
  mm_E.iconst (mm_atc mc98 rfl) <|
  mm_E.isub (mm_atc mc98 rfl) <|
  mm_E.istore_n mx98 rfl (mm_atc mc98 rfl) <|
  show mm_E _ _ 98 9 [(3, mI ((A 77 2) - 1)), (2, mI x1), (0, .ref 77), (1, mI x1)] _ _ _ from
  mm_E.to h ⟨rfl, rfl, rfl, trivial⟩
theorem p98_9_0 {w d : Nat} {X : List Value} {A : MF} {x2 x3 : Int} (H : R32 x3 ∧ x3 < 0) : mm_E w d 98 9 [(0, .ref 77), (2, mI x2), (3, mI x3)] [] (mm_w X A) (.inl (none), mm_w X A, 0, 0) := by
  obtain ⟨h0, h1⟩ := H
  exact mm_E.iload_n (mm_atc mc98 rfl) rfl <|
  mm_E.if1 (mm_atc mc98 rfl) h0 (ic_ltT h1) rfl <|
  mm_E.vret (mm_atc mc98 rfl) mr98
theorem p98_9_1 {d : Nat} {X : List Value} {A : MF} {r : MR} {x2 x3 : Int} (H : R32 x3 ∧ 0 ≤ x3 ∧ R32 x2 ∧ R32 (A 77 1) ∧ 0 ≤ x2 ∧ 0 < A 77 1 ∧ x3 < 12) (h : mm_E 1 d 98 9 [(0, .ref 77), (2, mI (x2 / (A 77 1))), (3, mI (x3 + (-1)))] [] (mm_w X (mm_u A 80 x3 (x2 % (A 77 1)))) r) : mm_E 1 d 98 9 [(0, .ref 77), (2, mI x2), (3, mI x3)] [] (mm_w X A) r := by
  obtain ⟨h0, h1, h2, h3, h4, h5, h6⟩ := H
  exact mm_E.iload_n (mm_atc mc98 rfl) rfl <|
  mm_E.if1 (mm_atc mc98 rfl) h0 (ic_ltF h1) rfl <|
  mm_E.aload_n (mm_atc mc98 rfl) rfl <|
  mm_E.getR (b := 80) (mm_atc mc98 rfl) (mm_plc mp98 rfl) rfl ly77 rfl <|
  mm_E.iload_n (mm_atc mc98 rfl) rfl <|
  mm_E.iload_n (mm_atc mc98 rfl) rfl <|
  mm_E.aload_n (mm_atc mc98 rfl) rfl <|
  mm_E.getI (z := A 77 1) (mm_atc mc98 rfl) (mm_plc mp98 rfl) rfl ly77 rfl (rfl) <|
  mm_E.irem h2 h3 h4 h5 (mm_atc mc98 rfl) <|
  mm_E.iastore (e := x3) (z := x2 % (A 77 1)) (mm_atc mc98 rfl) ly80 rfl h1 h6 rfl rfl <|
  mm_E.iload_n (mm_atc mc98 rfl) rfl <|
  mm_E.aload_n (mm_atc mc98 rfl) rfl <|
  mm_E.getI (z := A 77 1) (mm_atc mc98 rfl) (mm_plc mp98 rfl) rfl ly77 rfl ((mm_u_ne (.inl (by decide))).trans (rfl)) <|
  mm_E.idiv h2 h3 h4 h5 (mm_atc mc98 rfl) <|
  mm_E.istore_n mx98 rfl (mm_atc mc98 rfl) <|
  show mm_E _ _ 98 32 [(2, mI (x2 / (A 77 1))), (0, .ref 77), (3, mI x3)] _ _ _ from
  mm_E.inc mx98 rfl (mm_atc mc98 rfl) rfl <|
  show mm_E _ _ 98 35 [(3, mI (x3 + (-1))), (2, mI (x2 / (A 77 1))), (0, .ref 77)] _ _ _ from
  mm_E.goto (mm_atc mc98 rfl) rfl <|
  mm_E.to h ⟨rfl, rfl, rfl, trivial⟩
theorem p99_0_0 {w d : Nat} {X : List Value} {A : MF} {r : MR} {x1 : Int} (h : mm_E w d 99 7 [(0, .ref 77), (2, mI x1), (3, mI 0), (4, mI 0)] [] (mm_w X A) r) : mm_E w d 99 0 [(0, .ref 77), (1, mI x1)] [] (mm_w X A) r := by
  exact mm_E.iload_n (mm_atc mc99 rfl) rfl <|
  mm_E.istore_n mx99 rfl (mm_atc mc99 rfl) <|
  show mm_E _ _ 99 2 [(2, mI x1), (0, .ref 77), (1, mI x1)] _ _ _ from
  mm_E.iconst (mm_atc mc99 rfl) <|
  mm_E.istore_n mx99 rfl (mm_atc mc99 rfl) <|
  show mm_E _ _ 99 4 [(3, mI 0), (2, mI x1), (0, .ref 77), (1, mI x1)] _ _ _ from
  mm_E.iconst (mm_atc mc99 rfl) <|
  mm_E.istore mx99 rfl (mm_atc mc99 rfl) <|
  show mm_E _ _ 99 7 [(4, mI 0), (3, mI 0), (2, mI x1), (0, .ref 77), (1, mI x1)] _ _ _ from
  mm_E.to h ⟨rfl, rfl, rfl, rfl, trivial⟩
theorem p99_7_0 {w d : Nat} {X : List Value} {A : MF} {x2 x3 x4 : Int} (H : R32 x4 ∧ R32 (A 77 1) ∧ A 77 1 ≤ x4) : mm_E w d 99 7 [(0, .ref 77), (2, mI x2), (3, mI x3), (4, mI x4)] [] (mm_w X A) (.inl (none), mm_w X A, 0, 0) := by
  obtain ⟨h0, h1, h2⟩ := H
  exact mm_E.iload (mm_atc mc99 rfl) rfl <|
  mm_E.aload_n (mm_atc mc99 rfl) rfl <|
  mm_E.getI (z := A 77 1) (mm_atc mc99 rfl) (mm_plc mp99 rfl) rfl ly77 rfl (rfl) <|
  mm_E.if2 (mm_atc mc99 rfl) h0 h1 (ic_geT h2) rfl <|
  mm_E.vret (mm_atc mc99 rfl) mr99
theorem p99_7_1 {w d : Nat} {X : List Value} {A : MF} {r : MR} {x2 x3 x4 : Int} (H : R32 x4 ∧ R32 (A 77 1) ∧ x4 < A 77 1) (h : mm_E w d 99 22 [(0, .ref 77), (2, mI x2), (3, mI x3), (4, mI x4), (5, mI 1), (6, mI 2)] [] (mm_w X A) r) : mm_E w d 99 7 [(0, .ref 77), (2, mI x2), (3, mI x3), (4, mI x4)] [] (mm_w X A) r := by
  obtain ⟨h0, h1, h2⟩ := H
  exact mm_E.iload (mm_atc mc99 rfl) rfl <|
  mm_E.aload_n (mm_atc mc99 rfl) rfl <|
  mm_E.getI (z := A 77 1) (mm_atc mc99 rfl) (mm_plc mp99 rfl) rfl ly77 rfl (rfl) <|
  mm_E.if2 (mm_atc mc99 rfl) h0 h1 (ic_geF h2) rfl <|
  mm_E.iconst (mm_atc mc99 rfl) <|
  mm_E.istore mx99 rfl (mm_atc mc99 rfl) <|
  show mm_E _ _ 99 19 [(5, mI 1), (0, .ref 77), (2, mI x2), (3, mI x3), (4, mI x4)] _ _ _ from
  mm_E.iconst (mm_atc mc99 rfl) <|
  mm_E.istore mx99 rfl (mm_atc mc99 rfl) <|
  show mm_E _ _ 99 22 [(6, mI 2), (5, mI 1), (0, .ref 77), (2, mI x2), (3, mI x3), (4, mI x4)] _ _ _ from
  mm_E.to h ⟨rfl, rfl, rfl, rfl, rfl, rfl, trivial⟩
theorem p99_22_0 {w d : Nat} {X : List Value} {A : MF} {r : MR} {x2 x3 x4 x5 x6 : Int} (H : R32 x6 ∧ R32 ((A 77 1) - x4) ∧ (A 77 1) - x4 ≤ x6 ∧ R32 x2 ∧ R32 x5 ∧ 0 ≤ x2 ∧ 0 < x5) (h : mm_E w d 99 61 [(0, .ref 77), (2, mI (x2 % x5)), (3, mI x3), (4, mI x4), (6, mI (x2 / x5)), (7, mI 0)] [] (mm_w X A) r) : mm_E w d 99 22 [(0, .ref 77), (2, mI x2), (3, mI x3), (4, mI x4), (5, mI x5), (6, mI x6)] [] (mm_w X A) r := by
  obtain ⟨h0, h1, h2, h3, h4, h5, h6⟩ := H
  exact mm_E.iload (mm_atc mc99 rfl) rfl <|
  mm_E.aload_n (mm_atc mc99 rfl) rfl <|
  mm_E.getI (z := A 77 1) (mm_atc mc99 rfl) (mm_plc mp99 rfl) rfl ly77 rfl (rfl) <|
  mm_E.iload (mm_atc mc99 rfl) rfl <|
  mm_E.isub (mm_atc mc99 rfl) <|
  mm_E.if2 (mm_atc mc99 rfl) h0 h1 (ic_geT h2) rfl <|
  mm_E.iload_n (mm_atc mc99 rfl) rfl <|
  mm_E.iload (mm_atc mc99 rfl) rfl <|
  mm_E.idiv h3 h4 h5 h6 (mm_atc mc99 rfl) <|
  mm_E.istore mx99 rfl (mm_atc mc99 rfl) <|
  show mm_E _ _ 99 53 [(6, mI (x2 / x5)), (0, .ref 77), (2, mI x2), (3, mI x3), (4, mI x4), (5, mI x5)] _ _ _ from
  mm_E.iload_n (mm_atc mc99 rfl) rfl <|
  mm_E.iload (mm_atc mc99 rfl) rfl <|
  mm_E.irem h3 h4 h5 h6 (mm_atc mc99 rfl) <|
  mm_E.istore_n mx99 rfl (mm_atc mc99 rfl) <|
  show mm_E _ _ 99 58 [(2, mI (x2 % x5)), (6, mI (x2 / x5)), (0, .ref 77), (3, mI x3), (4, mI x4), (5, mI x5)] _ _ _ from
  mm_E.iconst (mm_atc mc99 rfl) <|
  mm_E.istore mx99 rfl (mm_atc mc99 rfl) <|
  show mm_E _ _ 99 61 [(7, mI 0), (2, mI (x2 % x5)), (6, mI (x2 / x5)), (0, .ref 77), (3, mI x3), (4, mI x4), (5, mI x5)] _ _ _ from
  mm_E.to h ⟨rfl, rfl, rfl, rfl, rfl, rfl, trivial⟩
theorem p99_22_1 {w d : Nat} {X : List Value} {A : MF} {r : MR} {x2 x3 x4 x5 x6 : Int} (H : R32 x6 ∧ R32 ((A 77 1) - x4) ∧ x6 < (A 77 1) - x4) (h : mm_E w d 99 22 [(0, .ref 77), (2, mI x2), (3, mI x3), (4, mI x4), (5, mI (x5 * x6)), (6, mI (x6 + 1))] [] (mm_w X A) r) : mm_E w d 99 22 [(0, .ref 77), (2, mI x2), (3, mI x3), (4, mI x4), (5, mI x5), (6, mI x6)] [] (mm_w X A) r := by
  obtain ⟨h0, h1, h2⟩ := H
  exact mm_E.iload (mm_atc mc99 rfl) rfl <|
  mm_E.aload_n (mm_atc mc99 rfl) rfl <|
  mm_E.getI (z := A 77 1) (mm_atc mc99 rfl) (mm_plc mp99 rfl) rfl ly77 rfl (rfl) <|
  mm_E.iload (mm_atc mc99 rfl) rfl <|
  mm_E.isub (mm_atc mc99 rfl) <|
  mm_E.if2 (mm_atc mc99 rfl) h0 h1 (ic_geF h2) rfl <|
  mm_E.iload (mm_atc mc99 rfl) rfl <|
  mm_E.iload (mm_atc mc99 rfl) rfl <|
  mm_E.imul (mm_atc mc99 rfl) <|
  mm_E.istore mx99 rfl (mm_atc mc99 rfl) <|
  show mm_E _ _ 99 41 [(5, mI (x5 * x6)), (0, .ref 77), (2, mI x2), (3, mI x3), (4, mI x4), (6, mI x6)] _ _ _ from
  mm_E.inc mx99 rfl (mm_atc mc99 rfl) rfl <|
  show mm_E _ _ 99 44 [(6, mI (x6 + 1)), (5, mI (x5 * x6)), (0, .ref 77), (2, mI x2), (3, mI x3), (4, mI x4)] _ _ _ from
  mm_E.goto (mm_atc mc99 rfl) rfl <|
  mm_E.to h ⟨rfl, rfl, rfl, rfl, rfl, rfl, trivial⟩
theorem p99_61_0 {w d : Nat} {X : List Value} {A : MF} {r : MR} {x2 x3 x4 x6 x7 : Int} (H : R32 (mm_and (mm_shr x3 x7) 1) ∧ mm_and (mm_shr x3 x7) 1 = 1 ∧ mm_and (mm_shr x3 x7) 1 ≠ 0) (h : mm_E w d 99 61 [(0, .ref 77), (2, mI x2), (3, mI x3), (4, mI x4), (6, mI x6), (7, mI (x7 + 1))] [] (mm_w X A) r) : mm_E w d 99 61 [(0, .ref 77), (2, mI x2), (3, mI x3), (4, mI x4), (6, mI x6), (7, mI x7)] [] (mm_w X A) r := by
  obtain ⟨h0, h1, h2⟩ := H
  exact mm_E.iload_n (mm_atc mc99 rfl) rfl <|
  mm_E.iload (mm_atc mc99 rfl) rfl <|
  mm_E.ishr (mm_atc mc99 rfl) <|
  mm_E.iconst (mm_atc mc99 rfl) <|
  mm_E.iand (mm_atc mc99 rfl) <|
  mm_E.iconst (mm_atc mc99 rfl) <|
  mm_E.if2 (mm_atc mc99 rfl) h0 (by decide) (ic_eqT h1) rfl <|
  mm_E.iload_n (mm_atc mc99 rfl) rfl <|
  mm_E.iload (mm_atc mc99 rfl) rfl <|
  mm_E.ishr (mm_atc mc99 rfl) <|
  mm_E.iconst (mm_atc mc99 rfl) <|
  mm_E.iand (mm_atc mc99 rfl) <|
  mm_E.if1 (mm_atc mc99 rfl) h0 (ic_neT h2) rfl <|
  mm_E.inc mx99 rfl (mm_atc mc99 rfl) rfl <|
  show mm_E _ _ 99 91 [(7, mI (x7 + 1)), (0, .ref 77), (2, mI x2), (3, mI x3), (4, mI x4), (6, mI x6)] _ _ _ from
  mm_E.goto (mm_atc mc99 rfl) rfl <|
  mm_E.to h ⟨rfl, rfl, rfl, rfl, rfl, rfl, trivial⟩
theorem p99_61_1 {w d : Nat} {X : List Value} {A : MF} {r : MR} {x2 x3 x4 x6 x7 : Int} (H : R32 (mm_and (mm_shr x3 x7) 1) ∧ mm_and (mm_shr x3 x7) 1 = 1 ∧ mm_and (mm_shr x3 x7) 1 = 0) (h : mm_E w d 99 61 [(0, .ref 77), (2, mI x2), (3, mI x3), (4, mI x4), (6, mI (x6 + (-1))), (7, mI (x7 + 1))] [] (mm_w X A) r) : mm_E w d 99 61 [(0, .ref 77), (2, mI x2), (3, mI x3), (4, mI x4), (6, mI x6), (7, mI x7)] [] (mm_w X A) r := by
  obtain ⟨h0, h1, h2⟩ := H
  exact mm_E.iload_n (mm_atc mc99 rfl) rfl <|
  mm_E.iload (mm_atc mc99 rfl) rfl <|
  mm_E.ishr (mm_atc mc99 rfl) <|
  mm_E.iconst (mm_atc mc99 rfl) <|
  mm_E.iand (mm_atc mc99 rfl) <|
  mm_E.iconst (mm_atc mc99 rfl) <|
  mm_E.if2 (mm_atc mc99 rfl) h0 (by decide) (ic_eqT h1) rfl <|
  mm_E.iload_n (mm_atc mc99 rfl) rfl <|
  mm_E.iload (mm_atc mc99 rfl) rfl <|
  mm_E.ishr (mm_atc mc99 rfl) <|
  mm_E.iconst (mm_atc mc99 rfl) <|
  mm_E.iand (mm_atc mc99 rfl) <|
  mm_E.if1 (mm_atc mc99 rfl) h0 (ic_neF h2) rfl <|
  mm_E.inc mx99 rfl (mm_atc mc99 rfl) rfl <|
  show mm_E _ _ 99 88 [(6, mI (x6 + (-1))), (0, .ref 77), (2, mI x2), (3, mI x3), (4, mI x4), (7, mI x7)] _ _ _ from
  mm_E.inc mx99 rfl (mm_atc mc99 rfl) rfl <|
  show mm_E _ _ 99 91 [(7, mI (x7 + 1)), (6, mI (x6 + (-1))), (0, .ref 77), (2, mI x2), (3, mI x3), (4, mI x4)] _ _ _ from
  mm_E.goto (mm_atc mc99 rfl) rfl <|
  mm_E.to h ⟨rfl, rfl, rfl, rfl, rfl, rfl, trivial⟩
theorem p99_61_2 {d : Nat} {X : List Value} {A : MF} {r : MR} {x2 x3 x4 x6 x7 : Int} (H : R32 (mm_and (mm_shr x3 x7) 1) ∧ mm_and (mm_shr x3 x7) 1 ≠ 1 ∧ R32 x6 ∧ x6 ≤ 0 ∧ 0 ≤ x4 ∧ x4 < 6) (h : mm_E 1 d 99 7 [(0, .ref 77), (2, mI x2), (3, mI (mm_or x3 (mm_shl 1 x7))), (4, mI (x4 + 1))] [] (mm_w X (mm_u A 84 x4 x7)) r) : mm_E 1 d 99 61 [(0, .ref 77), (2, mI x2), (3, mI x3), (4, mI x4), (6, mI x6), (7, mI x7)] [] (mm_w X A) r := by
  obtain ⟨h0, h1, h2, h3, h4, h5⟩ := H
  exact mm_E.iload_n (mm_atc mc99 rfl) rfl <|
  mm_E.iload (mm_atc mc99 rfl) rfl <|
  mm_E.ishr (mm_atc mc99 rfl) <|
  mm_E.iconst (mm_atc mc99 rfl) <|
  mm_E.iand (mm_atc mc99 rfl) <|
  mm_E.iconst (mm_atc mc99 rfl) <|
  mm_E.if2 (mm_atc mc99 rfl) h0 (by decide) (ic_eqF h1) rfl <|
  mm_E.iload (mm_atc mc99 rfl) rfl <|
  mm_E.if1 (mm_atc mc99 rfl) h2 (ic_leT h3) rfl <|
  mm_E.iload_n (mm_atc mc99 rfl) rfl <|
  mm_E.iconst (mm_atc mc99 rfl) <|
  mm_E.iload (mm_atc mc99 rfl) rfl <|
  mm_E.ishl (mm_atc mc99 rfl) <|
  mm_E.ior (mm_atc mc99 rfl) <|
  mm_E.istore_n mx99 rfl (mm_atc mc99 rfl) <|
  show mm_E _ _ 99 101 [(3, mI (mm_or x3 (mm_shl 1 x7))), (0, .ref 77), (2, mI x2), (4, mI x4), (6, mI x6), (7, mI x7)] _ _ _ from
  mm_E.aload_n (mm_atc mc99 rfl) rfl <|
  mm_E.getR (b := 84) (mm_atc mc99 rfl) (mm_plc mp99 rfl) rfl ly77 rfl <|
  mm_E.iload (mm_atc mc99 rfl) rfl <|
  mm_E.iload (mm_atc mc99 rfl) rfl <|
  mm_E.iastore (e := x4) (z := x7) (mm_atc mc99 rfl) ly84 rfl h4 h5 rfl rfl <|
  mm_E.inc mx99 rfl (mm_atc mc99 rfl) rfl <|
  show mm_E _ _ 99 113 [(4, mI (x4 + 1)), (3, mI (mm_or x3 (mm_shl 1 x7))), (0, .ref 77), (2, mI x2), (6, mI x6), (7, mI x7)] _ _ _ from
  mm_E.goto (mm_atc mc99 rfl) rfl <|
  mm_E.to h ⟨rfl, rfl, rfl, rfl, trivial⟩
theorem p99_61_3 {w d : Nat} {X : List Value} {A : MF} {r : MR} {x2 x3 x4 x6 x7 : Int} (H : R32 (mm_and (mm_shr x3 x7) 1) ∧ mm_and (mm_shr x3 x7) 1 ≠ 1 ∧ R32 x6 ∧ 0 < x6 ∧ mm_and (mm_shr x3 x7) 1 ≠ 0) (h : mm_E w d 99 61 [(0, .ref 77), (2, mI x2), (3, mI x3), (4, mI x4), (6, mI x6), (7, mI (x7 + 1))] [] (mm_w X A) r) : mm_E w d 99 61 [(0, .ref 77), (2, mI x2), (3, mI x3), (4, mI x4), (6, mI x6), (7, mI x7)] [] (mm_w X A) r := by
  obtain ⟨h0, h1, h2, h3, h4⟩ := H
  exact mm_E.iload_n (mm_atc mc99 rfl) rfl <|
  mm_E.iload (mm_atc mc99 rfl) rfl <|
  mm_E.ishr (mm_atc mc99 rfl) <|
  mm_E.iconst (mm_atc mc99 rfl) <|
  mm_E.iand (mm_atc mc99 rfl) <|
  mm_E.iconst (mm_atc mc99 rfl) <|
  mm_E.if2 (mm_atc mc99 rfl) h0 (by decide) (ic_eqF h1) rfl <|
  mm_E.iload (mm_atc mc99 rfl) rfl <|
  mm_E.if1 (mm_atc mc99 rfl) h2 (ic_leF h3) rfl <|
  mm_E.iload_n (mm_atc mc99 rfl) rfl <|
  mm_E.iload (mm_atc mc99 rfl) rfl <|
  mm_E.ishr (mm_atc mc99 rfl) <|
  mm_E.iconst (mm_atc mc99 rfl) <|
  mm_E.iand (mm_atc mc99 rfl) <|
  mm_E.if1 (mm_atc mc99 rfl) h0 (ic_neT h4) rfl <|
  mm_E.inc mx99 rfl (mm_atc mc99 rfl) rfl <|
  show mm_E _ _ 99 91 [(7, mI (x7 + 1)), (0, .ref 77), (2, mI x2), (3, mI x3), (4, mI x4), (6, mI x6)] _ _ _ from
  mm_E.goto (mm_atc mc99 rfl) rfl <|
  mm_E.to h ⟨rfl, rfl, rfl, rfl, rfl, rfl, trivial⟩
theorem p99_61_4 {w d : Nat} {X : List Value} {A : MF} {r : MR} {x2 x3 x4 x6 x7 : Int} (H : R32 (mm_and (mm_shr x3 x7) 1) ∧ mm_and (mm_shr x3 x7) 1 ≠ 1 ∧ R32 x6 ∧ 0 < x6 ∧ mm_and (mm_shr x3 x7) 1 = 0) (h : mm_E w d 99 61 [(0, .ref 77), (2, mI x2), (3, mI x3), (4, mI x4), (6, mI (x6 + (-1))), (7, mI (x7 + 1))] [] (mm_w X A) r) : mm_E w d 99 61 [(0, .ref 77), (2, mI x2), (3, mI x3), (4, mI x4), (6, mI x6), (7, mI x7)] [] (mm_w X A) r := by
  obtain ⟨h0, h1, h2, h3, h4⟩ := H
  exact mm_E.iload_n (mm_atc mc99 rfl) rfl <|
  mm_E.iload (mm_atc mc99 rfl) rfl <|
  mm_E.ishr (mm_atc mc99 rfl) <|
  mm_E.iconst (mm_atc mc99 rfl) <|
  mm_E.iand (mm_atc mc99 rfl) <|
  mm_E.iconst (mm_atc mc99 rfl) <|
  mm_E.if2 (mm_atc mc99 rfl) h0 (by decide) (ic_eqF h1) rfl <|
  mm_E.iload (mm_atc mc99 rfl) rfl <|
  mm_E.if1 (mm_atc mc99 rfl) h2 (ic_leF h3) rfl <|
  mm_E.iload_n (mm_atc mc99 rfl) rfl <|
  mm_E.iload (mm_atc mc99 rfl) rfl <|
  mm_E.ishr (mm_atc mc99 rfl) <|
  mm_E.iconst (mm_atc mc99 rfl) <|
  mm_E.iand (mm_atc mc99 rfl) <|
  mm_E.if1 (mm_atc mc99 rfl) h0 (ic_neF h4) rfl <|
  mm_E.inc mx99 rfl (mm_atc mc99 rfl) rfl <|
  show mm_E _ _ 99 88 [(6, mI (x6 + (-1))), (0, .ref 77), (2, mI x2), (3, mI x3), (4, mI x4), (7, mI x7)] _ _ _ from
  mm_E.inc mx99 rfl (mm_atc mc99 rfl) rfl <|
  show mm_E _ _ 99 91 [(7, mI (x7 + 1)), (6, mI (x6 + (-1))), (0, .ref 77), (2, mI x2), (3, mI x3), (4, mI x4)] _ _ _ from
  mm_E.goto (mm_atc mc99 rfl) rfl <|
  mm_E.to h ⟨rfl, rfl, rfl, rfl, rfl, rfl, trivial⟩
theorem p100_0_0 {w d : Nat} {X : List Value} {A : MF} {r : MR} {y0 y2 : Int} (H : R64 y0 ∧ 0 ≤ y0) (h : mm_E w d 100 17 [(4, mJ y0), (6, mJ y2)] [] (mm_w X A) r) : mm_E w d 100 0 [(0, mJ y0), (2, mJ y2)] [] (mm_w X A) r := by
  obtain ⟨h0, h1⟩ := H
  exact mm_E.lload_n (mm_atc mc100 rfl) rfl <|
  mm_E.lconst (z := 0) (mm_atc mc100 rfl) rfl <|
  mm_E.lif (mm_atc mc100 rfl) (mm_atc mc100 rfl) h0 (by decide) (ic_geT h1) rfl <|
  mm_E.lload_n (mm_atc mc100 rfl) rfl <|
  mm_E.lstore mx100 rfl (mm_atc mc100 rfl) <|
  show mm_E _ _ 100 14 [(4, mJ y0), (0, mJ y0), (2, mJ y2)] _ _ _ from
  mm_E.lload_n (mm_atc mc100 rfl) rfl <|
  mm_E.lstore mx100 rfl (mm_atc mc100 rfl) <|
  show mm_E _ _ 100 17 [(6, mJ y2), (4, mJ y0), (0, mJ y0), (2, mJ y2)] _ _ _ from
  mm_E.to h ⟨rfl, rfl, trivial⟩
theorem p100_0_1 {w d : Nat} {X : List Value} {A : MF} {r : MR} {y0 y2 : Int} (H : R64 y0 ∧ y0 < 0) (h : mm_E w d 100 17 [(4, mJ (-y0)), (6, mJ y2)] [] (mm_w X A) r) : mm_E w d 100 0 [(0, mJ y0), (2, mJ y2)] [] (mm_w X A) r := by
  obtain ⟨h0, h1⟩ := H
  exact mm_E.lload_n (mm_atc mc100 rfl) rfl <|
  mm_E.lconst (z := 0) (mm_atc mc100 rfl) rfl <|
  mm_E.lif (mm_atc mc100 rfl) (mm_atc mc100 rfl) h0 (by decide) (ic_geF h1) rfl <|
  mm_E.lload_n (mm_atc mc100 rfl) rfl <|
  mm_E.lneg (mm_atc mc100 rfl) <|
  mm_E.goto (mm_atc mc100 rfl) rfl <|
  mm_E.lstore mx100 rfl (mm_atc mc100 rfl) <|
  show mm_E _ _ 100 14 [(4, mJ (-y0)), (0, mJ y0), (2, mJ y2)] _ _ _ from
  mm_E.lload_n (mm_atc mc100 rfl) rfl <|
  mm_E.lstore mx100 rfl (mm_atc mc100 rfl) <|
  show mm_E _ _ 100 17 [(6, mJ y2), (4, mJ (-y0)), (0, mJ y0), (2, mJ y2)] _ _ _ from
  mm_E.to h ⟨rfl, rfl, trivial⟩
theorem p100_17_0 {w d : Nat} {X : List Value} {A : MF} {y4 y6 : Int} (H : R64 y6 ∧ y6 = 0) : mm_E w d 100 17 [(4, mJ y4), (6, mJ y6)] [] (mm_w X A) (.inl (some (mJ y4)), mm_w X A, 0, 0) := by
  obtain ⟨h0, h1⟩ := H
  exact mm_E.lload (mm_atc mc100 rfl) rfl <|
  mm_E.lconst (z := 0) (mm_atc mc100 rfl) rfl <|
  mm_E.lif (mm_atc mc100 rfl) (mm_atc mc100 rfl) h0 (by decide) (ic_eqT h1) rfl <|
  mm_E.lload (mm_atc mc100 rfl) rfl <|
  mm_E.lret (mm_atc mc100 rfl) mr100
theorem p100_17_1 {w d : Nat} {X : List Value} {A : MF} {r : MR} {y4 y6 : Int} (H : R64 y6 ∧ y6 ≠ 0 ∧ R64 y4 ∧ 0 < y6) (h : mm_E w d 100 17 [(4, mJ y6), (6, mJ (Int.tmod y4 y6))] [] (mm_w X A) r) : mm_E w d 100 17 [(4, mJ y4), (6, mJ y6)] [] (mm_w X A) r := by
  obtain ⟨h0, h1, h2, h3⟩ := H
  exact mm_E.lload (mm_atc mc100 rfl) rfl <|
  mm_E.lconst (z := 0) (mm_atc mc100 rfl) rfl <|
  mm_E.lif (mm_atc mc100 rfl) (mm_atc mc100 rfl) h0 (by decide) (ic_eqF h1) rfl <|
  mm_E.lload (mm_atc mc100 rfl) rfl <|
  mm_E.lload (mm_atc mc100 rfl) rfl <|
  mm_E.lrem h2 h0 h3 (mm_atc mc100 rfl) <|
  mm_E.lstore mx100 rfl (mm_atc mc100 rfl) <|
  show mm_E _ _ 100 31 [(8, mJ (Int.tmod y4 y6)), (4, mJ y4), (6, mJ y6)] _ _ _ from
  mm_E.lload (mm_atc mc100 rfl) rfl <|
  mm_E.lstore mx100 rfl (mm_atc mc100 rfl) <|
  show mm_E _ _ 100 35 [(4, mJ y6), (8, mJ (Int.tmod y4 y6)), (6, mJ y6)] _ _ _ from
  mm_E.lload (mm_atc mc100 rfl) rfl <|
  mm_E.lstore mx100 rfl (mm_atc mc100 rfl) <|
  show mm_E _ _ 100 39 [(6, mJ (Int.tmod y4 y6)), (4, mJ y6), (8, mJ (Int.tmod y4 y6))] _ _ _ from
  mm_E.goto (mm_atc mc100 rfl) rfl <|
  mm_E.to h ⟨rfl, rfl, trivial⟩
theorem p101_0_0 {w d : Nat} {X : List Value} {A : MF} {r : MR}  (h : mm_E w d 101 2 [(0, .ref 77), (1, mI 0)] [] (mm_w X A) r) : mm_E w d 101 0 [(0, .ref 77)] [] (mm_w X A) r := by
  exact mm_E.iconst (mm_atc mc101 rfl) <|
  mm_E.istore_n mx101 rfl (mm_atc mc101 rfl) <|
  show mm_E _ _ 101 2 [(1, mI 0), (0, .ref 77)] _ _ _ from
  mm_E.to h ⟨rfl, rfl, trivial⟩
theorem p101_2_0 {w d : Nat} {X : List Value} {A : MF} {r : MR} {x1 : Int} (H : R32 x1 ∧ R32 (A 77 1) ∧ A 77 1 ≤ x1) (h : mm_E w d 101 25 [(0, .ref 77), (1, mI 0)] [] (mm_w X A) r) : mm_E w d 101 2 [(0, .ref 77), (1, mI x1)] [] (mm_w X A) r := by
  obtain ⟨h0, h1, h2⟩ := H
  exact mm_E.iload_n (mm_atc mc101 rfl) rfl <|
  mm_E.aload_n (mm_atc mc101 rfl) rfl <|
  mm_E.getI (z := A 77 1) (mm_atc mc101 rfl) (mm_plc mp101 rfl) rfl ly77 rfl (rfl) <|
  mm_E.if2 (mm_atc mc101 rfl) h0 h1 (ic_geT h2) rfl <|
  mm_E.iconst (mm_atc mc101 rfl) <|
  mm_E.istore_n mx101 rfl (mm_atc mc101 rfl) <|
  show mm_E _ _ 101 25 [(1, mI 0), (0, .ref 77)] _ _ _ from
  mm_E.to h ⟨rfl, rfl, trivial⟩
theorem p101_2_1 {d : Nat} {X : List Value} {A : MF} {r : MR} {x1 : Int} (H : R32 x1 ∧ R32 (A 77 1) ∧ x1 < A 77 1 ∧ 0 ≤ x1 ∧ x1 < 6) (h : mm_E 1 d 101 2 [(0, .ref 77), (1, mI (x1 + 1))] [] (mm_w X (mm_u A 85 x1 0)) r) : mm_E 1 d 101 2 [(0, .ref 77), (1, mI x1)] [] (mm_w X A) r := by
  obtain ⟨h0, h1, h2, h3, h4⟩ := H
  exact mm_E.iload_n (mm_atc mc101 rfl) rfl <|
  mm_E.aload_n (mm_atc mc101 rfl) rfl <|
  mm_E.getI (z := A 77 1) (mm_atc mc101 rfl) (mm_plc mp101 rfl) rfl ly77 rfl (rfl) <|
  mm_E.if2 (mm_atc mc101 rfl) h0 h1 (ic_geF h2) rfl <|
  mm_E.aload_n (mm_atc mc101 rfl) rfl <|
  mm_E.getR (b := 85) (mm_atc mc101 rfl) (mm_plc mp101 rfl) rfl ly77 rfl <|
  mm_E.iload_n (mm_atc mc101 rfl) rfl <|
  mm_E.iconst (mm_atc mc101 rfl) <|
  mm_E.iastore (e := x1) (z := 0) (mm_atc mc101 rfl) ly85 rfl h3 h4 rfl rfl <|
  mm_E.inc mx101 rfl (mm_atc mc101 rfl) rfl <|
  show mm_E _ _ 101 20 [(1, mI (x1 + 1)), (0, .ref 77)] _ _ _ from
  mm_E.goto (mm_atc mc101 rfl) rfl <|
  mm_E.to h ⟨rfl, rfl, trivial⟩
theorem p101_25_0 {w d : Nat} {X : List Value} {A : MF} {x1 : Int} (H : R32 x1 ∧ R32 (A 77 1) ∧ A 77 1 ≤ x1) : mm_E w d 101 25 [(0, .ref 77), (1, mI x1)] [] (mm_w X A) (.inl (none), mm_w X A, 0, 0) := by
  obtain ⟨h0, h1, h2⟩ := H
  exact mm_E.iload_n (mm_atc mc101 rfl) rfl <|
  mm_E.aload_n (mm_atc mc101 rfl) rfl <|
  mm_E.getI (z := A 77 1) (mm_atc mc101 rfl) (mm_plc mp101 rfl) rfl ly77 rfl (rfl) <|
  mm_E.if2 (mm_atc mc101 rfl) h0 h1 (ic_geT h2) rfl <|
  mm_E.vret (mm_atc mc101 rfl) mr101
theorem p101_25_1 {w d : Nat} {X : List Value} {A : MF} {r : MR} {x1 : Int} (H : R32 x1 ∧ R32 (A 77 1) ∧ x1 < A 77 1) (h : mm_E w d 101 35 [(0, .ref 77), (1, mI x1), (2, mI 0)] [] (mm_w X A) r) : mm_E w d 101 25 [(0, .ref 77), (1, mI x1)] [] (mm_w X A) r := by
  obtain ⟨h0, h1, h2⟩ := H
  exact mm_E.iload_n (mm_atc mc101 rfl) rfl <|
  mm_E.aload_n (mm_atc mc101 rfl) rfl <|
  mm_E.getI (z := A 77 1) (mm_atc mc101 rfl) (mm_plc mp101 rfl) rfl ly77 rfl (rfl) <|
  mm_E.if2 (mm_atc mc101 rfl) h0 h1 (ic_geF h2) rfl <|
  mm_E.iconst (mm_atc mc101 rfl) <|
  mm_E.istore_n mx101 rfl (mm_atc mc101 rfl) <|
  show mm_E _ _ 101 35 [(2, mI 0), (0, .ref 77), (1, mI x1)] _ _ _ from
  mm_E.to h ⟨rfl, rfl, rfl, trivial⟩
theorem p101_35_0 {w d : Nat} {X : List Value} {A : MF} {r : MR} {x1 x2 : Int} (H : R32 x2 ∧ R32 (A 77 1) ∧ A 77 1 ≤ x2) (h : mm_E w d 101 25 [(0, .ref 77), (1, mI (x1 + 1))] [] (mm_w X A) r) : mm_E w d 101 35 [(0, .ref 77), (1, mI x1), (2, mI x2)] [] (mm_w X A) r := by
  obtain ⟨h0, h1, h2⟩ := H
  exact mm_E.iload_n (mm_atc mc101 rfl) rfl <|
  mm_E.aload_n (mm_atc mc101 rfl) rfl <|
  mm_E.getI (z := A 77 1) (mm_atc mc101 rfl) (mm_plc mp101 rfl) rfl ly77 rfl (rfl) <|
  mm_E.if2 (mm_atc mc101 rfl) h0 h1 (ic_geT h2) rfl <|
  mm_E.inc mx101 rfl (mm_atc mc101 rfl) rfl <|
  show mm_E _ _ 101 129 [(1, mI (x1 + 1)), (0, .ref 77), (2, mI x2)] _ _ _ from
  mm_E.goto (mm_atc mc101 rfl) rfl <|
  mm_E.to h ⟨rfl, rfl, trivial⟩
theorem p101_35_1 {w d : Nat} {X : List Value} {A : MF} {r : MR} {x1 x2 : Int} (H : R32 x2 ∧ R32 (A 77 1) ∧ x2 < A 77 1) (h : mm_E w d 101 45 [(0, .ref 77), (1, mI x1), (2, mI x2), (3, mI 0)] [] (mm_w X A) r) : mm_E w d 101 35 [(0, .ref 77), (1, mI x1), (2, mI x2)] [] (mm_w X A) r := by
  obtain ⟨h0, h1, h2⟩ := H
  exact mm_E.iload_n (mm_atc mc101 rfl) rfl <|
  mm_E.aload_n (mm_atc mc101 rfl) rfl <|
  mm_E.getI (z := A 77 1) (mm_atc mc101 rfl) (mm_plc mp101 rfl) rfl ly77 rfl (rfl) <|
  mm_E.if2 (mm_atc mc101 rfl) h0 h1 (ic_geF h2) rfl <|
  mm_E.iconst (mm_atc mc101 rfl) <|
  mm_E.istore_n mx101 rfl (mm_atc mc101 rfl) <|
  show mm_E _ _ 101 45 [(3, mI 0), (0, .ref 77), (1, mI x1), (2, mI x2)] _ _ _ from
  mm_E.to h ⟨rfl, rfl, rfl, rfl, trivial⟩
theorem p101_45_0 {w d : Nat} {X : List Value} {A : MF} {r : MR} {x1 x2 x3 : Int} (H : R32 x3 ∧ R32 (A 77 1) ∧ A 77 1 ≤ x3) (h : mm_E w d 101 35 [(0, .ref 77), (1, mI x1), (2, mI (x2 + 1))] [] (mm_w X A) r) : mm_E w d 101 45 [(0, .ref 77), (1, mI x1), (2, mI x2), (3, mI x3)] [] (mm_w X A) r := by
  obtain ⟨h0, h1, h2⟩ := H
  exact mm_E.iload_n (mm_atc mc101 rfl) rfl <|
  mm_E.aload_n (mm_atc mc101 rfl) rfl <|
  mm_E.getI (z := A 77 1) (mm_atc mc101 rfl) (mm_plc mp101 rfl) rfl ly77 rfl (rfl) <|
  mm_E.if2 (mm_atc mc101 rfl) h0 h1 (ic_geT h2) rfl <|
  mm_E.inc mx101 rfl (mm_atc mc101 rfl) rfl <|
  show mm_E _ _ 101 123 [(2, mI (x2 + 1)), (0, .ref 77), (1, mI x1), (3, mI x3)] _ _ _ from
  mm_E.goto (mm_atc mc101 rfl) rfl <|
  mm_E.to h ⟨rfl, rfl, rfl, trivial⟩
theorem p101_45_1 {w d : Nat} {X : List Value} {A : MF} {r : MR} {x1 x2 x3 : Int} (H : R32 x3 ∧ R32 (A 77 1) ∧ x3 < A 77 1 ∧ 0 ≤ x3 ∧ x3 < 6 ∧ 0 ≤ (6 * x2) + (A 83 x3) ∧ (6 * x2) + (A 83 x3) < 36 ∧ 0 ≤ (6 * x3) + (A 83 x3) ∧ (6 * x3) + (A 83 x3) < 36 ∧ 0 ≤ x2 ∧ x2 < 6 ∧ R32 (((A 85 x3) + (A 82 ((6 * x2) + (A 83 x3)))) - (A 82 ((6 * x3) + (A 83 x3)))) ∧ R32 (A 85 x2) ∧ ((A 85 x3) + (A 82 ((6 * x2) + (A 83 x3)))) - (A 82 ((6 * x3) + (A 83 x3))) ≤ A 85 x2) (h : mm_E w d 101 45 [(0, .ref 77), (1, mI x1), (2, mI x2), (3, mI (x3 + 1))] [] (mm_w X A) r) : mm_E w d 101 45 [(0, .ref 77), (1, mI x1), (2, mI x2), (3, mI x3)] [] (mm_w X A) r := by
  obtain ⟨h0, h1, h2, h3, h4, h5, h6, h7, h8, h9, h10, h11, h12, h13⟩ := H
  exact mm_E.iload_n (mm_atc mc101 rfl) rfl <|
  mm_E.aload_n (mm_atc mc101 rfl) rfl <|
  mm_E.getI (z := A 77 1) (mm_atc mc101 rfl) (mm_plc mp101 rfl) rfl ly77 rfl (rfl) <|
  mm_E.if2 (mm_atc mc101 rfl) h0 h1 (ic_geF h2) rfl <|
  mm_E.aload_n (mm_atc mc101 rfl) rfl <|
  mm_E.getR (b := 85) (mm_atc mc101 rfl) (mm_plc mp101 rfl) rfl ly77 rfl <|
  mm_E.iload_n (mm_atc mc101 rfl) rfl <|
  mm_E.iaload (e := x3) (mm_atc mc101 rfl) ly85 rfl h3 h4 rfl (rfl) <|
  mm_E.aload_n (mm_atc mc101 rfl) rfl <|
  mm_E.getR (b := 82) (mm_atc mc101 rfl) (mm_plc mp101 rfl) rfl ly77 rfl <|
  mm_E.bipush (mm_atc mc101 rfl) rfl <|
  mm_E.iload_n (mm_atc mc101 rfl) rfl <|
  mm_E.imul (mm_atc mc101 rfl) <|
  mm_E.aload_n (mm_atc mc101 rfl) rfl <|
  mm_E.getR (b := 83) (mm_atc mc101 rfl) (mm_plc mp101 rfl) rfl ly77 rfl <|
  mm_E.iload_n (mm_atc mc101 rfl) rfl <|
  mm_E.iaload (e := x3) (mm_atc mc101 rfl) ly83 rfl h3 h4 rfl (rfl) <|
  mm_E.iadd (mm_atc mc101 rfl) <|
  mm_E.iaload (e := (6 * x2) + (A 83 x3)) (mm_atc mc101 rfl) ly82 rfl h5 h6 rfl (rfl) <|
  mm_E.iadd (mm_atc mc101 rfl) <|
  mm_E.aload_n (mm_atc mc101 rfl) rfl <|
  mm_E.getR (b := 82) (mm_atc mc101 rfl) (mm_plc mp101 rfl) rfl ly77 rfl <|
  mm_E.bipush (mm_atc mc101 rfl) rfl <|
  mm_E.iload_n (mm_atc mc101 rfl) rfl <|
  mm_E.imul (mm_atc mc101 rfl) <|
  mm_E.aload_n (mm_atc mc101 rfl) rfl <|
  mm_E.getR (b := 83) (mm_atc mc101 rfl) (mm_plc mp101 rfl) rfl ly77 rfl <|
  mm_E.iload_n (mm_atc mc101 rfl) rfl <|
  mm_E.iaload (e := x3) (mm_atc mc101 rfl) ly83 rfl h3 h4 rfl (rfl) <|
  mm_E.iadd (mm_atc mc101 rfl) <|
  mm_E.iaload (e := (6 * x3) + (A 83 x3)) (mm_atc mc101 rfl) ly82 rfl h7 h8 rfl (rfl) <|
  mm_E.isub (mm_atc mc101 rfl) <|
  mm_E.istore mx101 rfl (mm_atc mc101 rfl) <|
  show mm_E _ _ 101 95 [(4, mI (((A 85 x3) + (A 82 ((6 * x2) + (A 83 x3)))) - (A 82 ((6 * x3) + (A 83 x3))))), (0, .ref 77), (1, mI x1), (2, mI x2), (3, mI x3)] _ _ _ from
  mm_E.iload (mm_atc mc101 rfl) rfl <|
  mm_E.aload_n (mm_atc mc101 rfl) rfl <|
  mm_E.getR (b := 85) (mm_atc mc101 rfl) (mm_plc mp101 rfl) rfl ly77 rfl <|
  mm_E.iload_n (mm_atc mc101 rfl) rfl <|
  mm_E.iaload (e := x2) (mm_atc mc101 rfl) ly85 rfl h9 h10 rfl (rfl) <|
  mm_E.if2 (mm_atc mc101 rfl) h11 h12 (ic_leT h13) rfl <|
  mm_E.inc mx101 rfl (mm_atc mc101 rfl) rfl <|
  show mm_E _ _ 101 117 [(3, mI (x3 + 1)), (4, mI (((A 85 x3) + (A 82 ((6 * x2) + (A 83 x3)))) - (A 82 ((6 * x3) + (A 83 x3))))), (0, .ref 77), (1, mI x1), (2, mI x2)] _ _ _ from
  mm_E.goto (mm_atc mc101 rfl) rfl <|
  mm_E.to h ⟨rfl, rfl, rfl, rfl, trivial⟩
theorem p101_45_2 {d : Nat} {X : List Value} {A : MF} {r : MR} {x1 x2 x3 : Int} (H : R32 x3 ∧ R32 (A 77 1) ∧ x3 < A 77 1 ∧ 0 ≤ x3 ∧ x3 < 6 ∧ 0 ≤ (6 * x2) + (A 83 x3) ∧ (6 * x2) + (A 83 x3) < 36 ∧ 0 ≤ (6 * x3) + (A 83 x3) ∧ (6 * x3) + (A 83 x3) < 36 ∧ 0 ≤ x2 ∧ x2 < 6 ∧ R32 (((A 85 x3) + (A 82 ((6 * x2) + (A 83 x3)))) - (A 82 ((6 * x3) + (A 83 x3)))) ∧ R32 (A 85 x2) ∧ A 85 x2 < ((A 85 x3) + (A 82 ((6 * x2) + (A 83 x3)))) - (A 82 ((6 * x3) + (A 83 x3)))) (h : mm_E 1 d 101 45 [(0, .ref 77), (1, mI x1), (2, mI x2), (3, mI (x3 + 1))] [] (mm_w X (mm_u A 85 x2 (((A 85 x3) + (A 82 ((6 * x2) + (A 83 x3)))) - (A 82 ((6 * x3) + (A 83 x3)))))) r) : mm_E 1 d 101 45 [(0, .ref 77), (1, mI x1), (2, mI x2), (3, mI x3)] [] (mm_w X A) r := by
  obtain ⟨h0, h1, h2, h3, h4, h5, h6, h7, h8, h9, h10, h11, h12, h13⟩ := H
  exact mm_E.iload_n (mm_atc mc101 rfl) rfl <|
  mm_E.aload_n (mm_atc mc101 rfl) rfl <|
  mm_E.getI (z := A 77 1) (mm_atc mc101 rfl) (mm_plc mp101 rfl) rfl ly77 rfl (rfl) <|
  mm_E.if2 (mm_atc mc101 rfl) h0 h1 (ic_geF h2) rfl <|
  mm_E.aload_n (mm_atc mc101 rfl) rfl <|
  mm_E.getR (b := 85) (mm_atc mc101 rfl) (mm_plc mp101 rfl) rfl ly77 rfl <|
  mm_E.iload_n (mm_atc mc101 rfl) rfl <|
  mm_E.iaload (e := x3) (mm_atc mc101 rfl) ly85 rfl h3 h4 rfl (rfl) <|
  mm_E.aload_n (mm_atc mc101 rfl) rfl <|
  mm_E.getR (b := 82) (mm_atc mc101 rfl) (mm_plc mp101 rfl) rfl ly77 rfl <|
  mm_E.bipush (mm_atc mc101 rfl) rfl <|
  mm_E.iload_n (mm_atc mc101 rfl) rfl <|
  mm_E.imul (mm_atc mc101 rfl) <|
  mm_E.aload_n (mm_atc mc101 rfl) rfl <|
  mm_E.getR (b := 83) (mm_atc mc101 rfl) (mm_plc mp101 rfl) rfl ly77 rfl <|
  mm_E.iload_n (mm_atc mc101 rfl) rfl <|
  mm_E.iaload (e := x3) (mm_atc mc101 rfl) ly83 rfl h3 h4 rfl (rfl) <|
  mm_E.iadd (mm_atc mc101 rfl) <|
  mm_E.iaload (e := (6 * x2) + (A 83 x3)) (mm_atc mc101 rfl) ly82 rfl h5 h6 rfl (rfl) <|
  mm_E.iadd (mm_atc mc101 rfl) <|
  mm_E.aload_n (mm_atc mc101 rfl) rfl <|
  mm_E.getR (b := 82) (mm_atc mc101 rfl) (mm_plc mp101 rfl) rfl ly77 rfl <|
  mm_E.bipush (mm_atc mc101 rfl) rfl <|
  mm_E.iload_n (mm_atc mc101 rfl) rfl <|
  mm_E.imul (mm_atc mc101 rfl) <|
  mm_E.aload_n (mm_atc mc101 rfl) rfl <|
  mm_E.getR (b := 83) (mm_atc mc101 rfl) (mm_plc mp101 rfl) rfl ly77 rfl <|
  mm_E.iload_n (mm_atc mc101 rfl) rfl <|
  mm_E.iaload (e := x3) (mm_atc mc101 rfl) ly83 rfl h3 h4 rfl (rfl) <|
  mm_E.iadd (mm_atc mc101 rfl) <|
  mm_E.iaload (e := (6 * x3) + (A 83 x3)) (mm_atc mc101 rfl) ly82 rfl h7 h8 rfl (rfl) <|
  mm_E.isub (mm_atc mc101 rfl) <|
  mm_E.istore mx101 rfl (mm_atc mc101 rfl) <|
  show mm_E _ _ 101 95 [(4, mI (((A 85 x3) + (A 82 ((6 * x2) + (A 83 x3)))) - (A 82 ((6 * x3) + (A 83 x3))))), (0, .ref 77), (1, mI x1), (2, mI x2), (3, mI x3)] _ _ _ from
  mm_E.iload (mm_atc mc101 rfl) rfl <|
  mm_E.aload_n (mm_atc mc101 rfl) rfl <|
  mm_E.getR (b := 85) (mm_atc mc101 rfl) (mm_plc mp101 rfl) rfl ly77 rfl <|
  mm_E.iload_n (mm_atc mc101 rfl) rfl <|
  mm_E.iaload (e := x2) (mm_atc mc101 rfl) ly85 rfl h9 h10 rfl (rfl) <|
  mm_E.if2 (mm_atc mc101 rfl) h11 h12 (ic_leF h13) rfl <|
  mm_E.aload_n (mm_atc mc101 rfl) rfl <|
  mm_E.getR (b := 85) (mm_atc mc101 rfl) (mm_plc mp101 rfl) rfl ly77 rfl <|
  mm_E.iload_n (mm_atc mc101 rfl) rfl <|
  mm_E.iload (mm_atc mc101 rfl) rfl <|
  mm_E.iastore (e := x2) (z := ((A 85 x3) + (A 82 ((6 * x2) + (A 83 x3)))) - (A 82 ((6 * x3) + (A 83 x3)))) (mm_atc mc101 rfl) ly85 rfl h9 h10 rfl rfl <|
  mm_E.inc mx101 rfl (mm_atc mc101 rfl) rfl <|
  show mm_E _ _ 101 117 [(3, mI (x3 + 1)), (4, mI (((A 85 x3) + (A 82 ((6 * x2) + (A 83 x3)))) - (A 82 ((6 * x3) + (A 83 x3))))), (0, .ref 77), (1, mI x1), (2, mI x2)] _ _ _ from
  mm_E.goto (mm_atc mc101 rfl) rfl <|
  mm_E.to h ⟨rfl, rfl, rfl, rfl, trivial⟩
theorem p102_0_0 {d : Nat} {X : List Value} {A : MF} {y1 y3 z0 : Int} (s0 : mm_E 1 d 100 0 [(0, mJ y1), (2, mJ y3)] [] (mm_w X A) (.inl (some (mJ z0)), mm_w X A, 0, 0)) (H : R64 y1 ∧ R64 z0 ∧ 0 < z0 ∧ R64 y3) : mm_E 1 (d + 1) 102 0 [(0, .ref 77), (1, mJ y1), (3, mJ y3)] [] (mm_w X A) (.inl (none), mm_w X (mm_u (mm_u A 77 24 (Int.tdiv y1 z0)) 77 25 (Int.tdiv y3 z0)), 0, 0) := by
  obtain ⟨h0, h1, h2, h3⟩ := H
  exact mm_E.lload_n (mm_atc mc102 rfl) rfl <|
  mm_E.lload_n (mm_atc mc102 rfl) rfl <|
  mm_E.callS0 (mm_atc mc102 rfl) (mm_plc mp102 rfl) mx100 rfl rfl s0 (by omega) <|
  show mm_E _ _ 102 5 _ _ _ _ from
  mm_E.lstore mx102 rfl (mm_atc mc102 rfl) <|
  show mm_E _ _ 102 7 [(5, mJ z0), (0, .ref 77), (1, mJ y1), (3, mJ y3)] _ _ _ from
  mm_E.aload_n (mm_atc mc102 rfl) rfl <|
  mm_E.lload_n (mm_atc mc102 rfl) rfl <|
  mm_E.lload (mm_atc mc102 rfl) rfl <|
  mm_E.ldiv h0 h1 h2 (mm_atc mc102 rfl) <|
  mm_E.putJ (fi := 24) (z := Int.tdiv y1 z0) (mm_atc mc102 rfl) (mm_plc mp102 rfl) ly77 rfl rfl rfl (mm_fit_l rfl) rfl <|
  mm_E.aload_n (mm_atc mc102 rfl) rfl <|
  mm_E.lload_n (mm_atc mc102 rfl) rfl <|
  mm_E.lload (mm_atc mc102 rfl) rfl <|
  mm_E.ldiv h3 h1 h2 (mm_atc mc102 rfl) <|
  mm_E.putJ (fi := 25) (z := Int.tdiv y3 z0) (mm_atc mc102 rfl) (mm_plc mp102 rfl) ly77 rfl rfl rfl (mm_fit_l rfl) rfl <|
  mm_E.vret (mm_atc mc102 rfl) mr102
theorem p103_0_0 {d : Nat} {X : List Value} {A : MF} {y1 y3 z0 : Int} {A1 : MF} (s0 : mm_E 1 d 100 0 [(0, mJ y3), (2, mJ (A 77 25))] [] (mm_w X A) (.inl (some (mJ z0)), mm_w X A, 0, 0)) (s1 : mm_E 1 d 102 0 [(0, .ref 77), (1, mJ (((A 77 24) * (Int.tdiv y3 z0)) + (y1 * (Int.tdiv (A 77 25) z0)))), (3, mJ ((Int.tdiv (A 77 25) z0) * y3))] [] (mm_w X A) (.inl (none), mm_w X A1, 0, 0)) (H : R64 y3 ∧ R64 z0 ∧ 0 < z0 ∧ R64 (A 77 25)) : mm_E 1 (d + 1) 103 0 [(0, .ref 77), (1, mJ y1), (3, mJ y3)] [] (mm_w X A) (.inl (none), mm_w X A1, 0, 0) := by
  obtain ⟨h0, h1, h2, h3⟩ := H
  exact mm_E.lload_n (mm_atc mc103 rfl) rfl <|
  mm_E.aload_n (mm_atc mc103 rfl) rfl <|
  mm_E.getJ (z := A 77 25) (mm_atc mc103 rfl) (mm_plc mp103 rfl) rfl ly77 rfl (rfl) <|
  mm_E.callS0 (mm_atc mc103 rfl) (mm_plc mp103 rfl) mx100 rfl rfl s0 (by omega) <|
  show mm_E _ _ 103 8 _ _ _ _ from
  mm_E.lstore mx103 rfl (mm_atc mc103 rfl) <|
  show mm_E _ _ 103 10 [(5, mJ z0), (0, .ref 77), (1, mJ y1), (3, mJ y3)] _ _ _ from
  mm_E.aload_n (mm_atc mc103 rfl) rfl <|
  mm_E.aload_n (mm_atc mc103 rfl) rfl <|
  mm_E.getJ (z := A 77 24) (mm_atc mc103 rfl) (mm_plc mp103 rfl) rfl ly77 rfl (rfl) <|
  mm_E.lload_n (mm_atc mc103 rfl) rfl <|
  mm_E.lload (mm_atc mc103 rfl) rfl <|
  mm_E.ldiv h0 h1 h2 (mm_atc mc103 rfl) <|
  mm_E.lmul (mm_atc mc103 rfl) <|
  mm_E.lload_n (mm_atc mc103 rfl) rfl <|
  mm_E.aload_n (mm_atc mc103 rfl) rfl <|
  mm_E.getJ (z := A 77 25) (mm_atc mc103 rfl) (mm_plc mp103 rfl) rfl ly77 rfl (rfl) <|
  mm_E.lload (mm_atc mc103 rfl) rfl <|
  mm_E.ldiv h3 h1 h2 (mm_atc mc103 rfl) <|
  mm_E.lmul (mm_atc mc103 rfl) <|
  mm_E.ladd (mm_atc mc103 rfl) <|
  mm_E.aload_n (mm_atc mc103 rfl) rfl <|
  mm_E.getJ (z := A 77 25) (mm_atc mc103 rfl) (mm_plc mp103 rfl) rfl ly77 rfl (rfl) <|
  mm_E.lload (mm_atc mc103 rfl) rfl <|
  mm_E.ldiv h3 h1 h2 (mm_atc mc103 rfl) <|
  mm_E.lload_n (mm_atc mc103 rfl) rfl <|
  mm_E.lmul (mm_atc mc103 rfl) <|
  mm_E.callV0 (mm_atc mc103 rfl) (mm_plc mp103 rfl) rfl mk102 ly77 rfl mx102 rfl rfl s1 (by omega) <|
  show mm_E _ _ 103 42 _ _ _ _ from
  mm_E.vret (mm_atc mc103 rfl) mr103
theorem p104_0_0 {d : Nat} {X : List Value} {A : MF} {r : MR} {x1 y2 y4 y6 y8 : Int} {A0 : MF} (s0 : mm_E 1 d 102 0 [(0, .ref 77), (1, mJ 0), (3, mJ 1)] [] (mm_w X A) (.inl (none), mm_w X A0, 0, 0)) (h : mm_E 1 (d + 1) 104 9 [(0, .ref 77), (1, mI x1), (2, mJ y2), (4, mJ y4), (6, mJ y6), (8, mJ y8), (10, mI 0)] [] (mm_w X A0) r) : mm_E 1 (d + 1) 104 0 [(0, .ref 77), (1, mI x1), (2, mJ y2), (4, mJ y4), (6, mJ y6), (8, mJ y8)] [] (mm_w X A) r := by
  exact mm_E.aload_n (mm_atc mc104 rfl) rfl <|
  mm_E.lconst (z := 0) (mm_atc mc104 rfl) rfl <|
  mm_E.lconst (z := 1) (mm_atc mc104 rfl) rfl <|
  mm_E.callV0 (mm_atc mc104 rfl) (mm_plc mp104 rfl) rfl mk102 ly77 rfl mx102 rfl rfl s0 (by omega) <|
  show mm_E _ _ 104 6 _ _ _ _ from
  mm_E.iconst (mm_atc mc104 rfl) <|
  mm_E.istore mx104 rfl (mm_atc mc104 rfl) <|
  show mm_E _ _ 104 9 [(10, mI 0), (0, .ref 77), (1, mI x1), (2, mJ y2), (4, mJ y4), (6, mJ y6), (8, mJ y8)] _ _ _ from
  mm_E.to h ⟨rfl, rfl, rfl, rfl, rfl, rfl, rfl, trivial⟩
theorem p104_9_0 {w d : Nat} {X : List Value} {A : MF} {x1 y2 y4 y6 y8 x10 : Int} (H : R32 x10 ∧ R32 (A 77 15) ∧ A 77 15 ≤ x10) : mm_E w d 104 9 [(0, .ref 77), (1, mI x1), (2, mJ y2), (4, mJ y4), (6, mJ y6), (8, mJ y8), (10, mI x10)] [] (mm_w X A) (.inl (none), mm_w X A, 0, 0) := by
  obtain ⟨h0, h1, h2⟩ := H
  exact mm_E.iload (mm_atc mc104 rfl) rfl <|
  mm_E.aload_n (mm_atc mc104 rfl) rfl <|
  mm_E.getI (z := A 77 15) (mm_atc mc104 rfl) (mm_plc mp104 rfl) rfl ly77 rfl (rfl) <|
  mm_E.if2 (mm_atc mc104 rfl) h0 h1 (ic_geT h2) rfl <|
  mm_E.vret (mm_atc mc104 rfl) mr104
theorem p104_9_1 {w d : Nat} {X : List Value} {A : MF} {r : MR} {x1 y2 y4 y6 y8 x10 : Int} (H : R32 x10 ∧ R32 (A 77 15) ∧ x10 < A 77 15 ∧ R64 y2 ∧ R64 (x10 * y4) ∧ y2 ≤ x10 * y4 ∧ R32 (x10 + 1) ∧ R64 y6 ∧ R64 ((x10 + 1) * y8) ∧ (x10 + 1) * y8 ≤ y6 ∧ R64 ((x10 + 1) * y4) ∧ (x10 + 1) * y4 ≤ y2) (h : mm_E w d 104 9 [(0, .ref 77), (1, mI x1), (2, mJ y2), (4, mJ y4), (6, mJ y6), (8, mJ y8), (10, mI (x10 + 1))] [] (mm_w X A) r) : mm_E w d 104 9 [(0, .ref 77), (1, mI x1), (2, mJ y2), (4, mJ y4), (6, mJ y6), (8, mJ y8), (10, mI x10)] [] (mm_w X A) r := by
  obtain ⟨h0, h1, h2, h3, h4, h5, h6, h7, h8, h9, h10, h11⟩ := H
  exact mm_E.iload (mm_atc mc104 rfl) rfl <|
  mm_E.aload_n (mm_atc mc104 rfl) rfl <|
  mm_E.getI (z := A 77 15) (mm_atc mc104 rfl) (mm_plc mp104 rfl) rfl ly77 rfl (rfl) <|
  mm_E.if2 (mm_atc mc104 rfl) h0 h1 (ic_geF h2) rfl <|
  mm_E.lload_n (mm_atc mc104 rfl) rfl <|
  mm_E.iload (mm_atc mc104 rfl) rfl <|
  mm_E.i2l h0 (mm_atc mc104 rfl) <|
  mm_E.lload (mm_atc mc104 rfl) rfl <|
  mm_E.lmul (mm_atc mc104 rfl) <|
  mm_E.lif (mm_atc mc104 rfl) (mm_atc mc104 rfl) h3 h4 (ic_leT h5) rfl <|
  mm_E.iconst (mm_atc mc104 rfl) <|
  mm_E.istore mx104 rfl (mm_atc mc104 rfl) <|
  show mm_E _ _ 104 36 [(11, mI 0), (0, .ref 77), (1, mI x1), (2, mJ y2), (4, mJ y4), (6, mJ y6), (8, mJ y8), (10, mI x10)] _ _ _ from
  mm_E.lload (mm_atc mc104 rfl) rfl <|
  mm_E.iload (mm_atc mc104 rfl) rfl <|
  mm_E.iconst (mm_atc mc104 rfl) <|
  mm_E.iadd (mm_atc mc104 rfl) <|
  mm_E.i2l h6 (mm_atc mc104 rfl) <|
  mm_E.lload (mm_atc mc104 rfl) rfl <|
  mm_E.lmul (mm_atc mc104 rfl) <|
  mm_E.lif (mm_atc mc104 rfl) (mm_atc mc104 rfl) h7 h8 (ic_geT h9) rfl <|
  mm_E.iconst (mm_atc mc104 rfl) <|
  mm_E.istore mx104 rfl (mm_atc mc104 rfl) <|
  show mm_E _ _ 104 57 [(12, mI 0), (11, mI 0), (0, .ref 77), (1, mI x1), (2, mJ y2), (4, mJ y4), (6, mJ y6), (8, mJ y8), (10, mI x10)] _ _ _ from
  mm_E.lload_n (mm_atc mc104 rfl) rfl <|
  mm_E.iload (mm_atc mc104 rfl) rfl <|
  mm_E.iconst (mm_atc mc104 rfl) <|
  mm_E.iadd (mm_atc mc104 rfl) <|
  mm_E.i2l h6 (mm_atc mc104 rfl) <|
  mm_E.lload (mm_atc mc104 rfl) rfl <|
  mm_E.lmul (mm_atc mc104 rfl) <|
  mm_E.lif (mm_atc mc104 rfl) (mm_atc mc104 rfl) h3 h10 (ic_geT h11) rfl <|
  mm_E.inc mx104 rfl (mm_atc mc104 rfl) rfl <|
  show mm_E _ _ 104 166 [(10, mI (x10 + 1)), (12, mI 0), (11, mI 0), (0, .ref 77), (1, mI x1), (2, mJ y2), (4, mJ y4), (6, mJ y6), (8, mJ y8)] _ _ _ from
  mm_E.goto (mm_atc mc104 rfl) rfl <|
  mm_E.to h ⟨rfl, rfl, rfl, rfl, rfl, rfl, rfl, trivial⟩
theorem p104_9_2 {w d : Nat} {X : List Value} {A : MF} {r : MR} {x1 y2 y4 y6 y8 x10 : Int} (H : R32 x10 ∧ R32 (A 77 15) ∧ x10 < A 77 15 ∧ R64 y2 ∧ R64 (x10 * y4) ∧ y2 ≤ x10 * y4 ∧ R32 (x10 + 1) ∧ R64 y6 ∧ R64 ((x10 + 1) * y8) ∧ (x10 + 1) * y8 ≤ y6 ∧ R64 ((x10 + 1) * y4) ∧ y2 < (x10 + 1) * y4 ∧ R64 (x10 * y8) ∧ y6 ≤ x10 * y8) (h : mm_E w d 104 9 [(0, .ref 77), (1, mI x1), (2, mJ y2), (4, mJ y4), (6, mJ y6), (8, mJ y8), (10, mI (x10 + 1))] [] (mm_w X A) r) : mm_E w d 104 9 [(0, .ref 77), (1, mI x1), (2, mJ y2), (4, mJ y4), (6, mJ y6), (8, mJ y8), (10, mI x10)] [] (mm_w X A) r := by
  obtain ⟨h0, h1, h2, h3, h4, h5, h6, h7, h8, h9, h10, h11, h12, h13⟩ := H
  exact mm_E.iload (mm_atc mc104 rfl) rfl <|
  mm_E.aload_n (mm_atc mc104 rfl) rfl <|
  mm_E.getI (z := A 77 15) (mm_atc mc104 rfl) (mm_plc mp104 rfl) rfl ly77 rfl (rfl) <|
  mm_E.if2 (mm_atc mc104 rfl) h0 h1 (ic_geF h2) rfl <|
  mm_E.lload_n (mm_atc mc104 rfl) rfl <|
  mm_E.iload (mm_atc mc104 rfl) rfl <|
  mm_E.i2l h0 (mm_atc mc104 rfl) <|
  mm_E.lload (mm_atc mc104 rfl) rfl <|
  mm_E.lmul (mm_atc mc104 rfl) <|
  mm_E.lif (mm_atc mc104 rfl) (mm_atc mc104 rfl) h3 h4 (ic_leT h5) rfl <|
  mm_E.iconst (mm_atc mc104 rfl) <|
  mm_E.istore mx104 rfl (mm_atc mc104 rfl) <|
  show mm_E _ _ 104 36 [(11, mI 0), (0, .ref 77), (1, mI x1), (2, mJ y2), (4, mJ y4), (6, mJ y6), (8, mJ y8), (10, mI x10)] _ _ _ from
  mm_E.lload (mm_atc mc104 rfl) rfl <|
  mm_E.iload (mm_atc mc104 rfl) rfl <|
  mm_E.iconst (mm_atc mc104 rfl) <|
  mm_E.iadd (mm_atc mc104 rfl) <|
  mm_E.i2l h6 (mm_atc mc104 rfl) <|
  mm_E.lload (mm_atc mc104 rfl) rfl <|
  mm_E.lmul (mm_atc mc104 rfl) <|
  mm_E.lif (mm_atc mc104 rfl) (mm_atc mc104 rfl) h7 h8 (ic_geT h9) rfl <|
  mm_E.iconst (mm_atc mc104 rfl) <|
  mm_E.istore mx104 rfl (mm_atc mc104 rfl) <|
  show mm_E _ _ 104 57 [(12, mI 0), (11, mI 0), (0, .ref 77), (1, mI x1), (2, mJ y2), (4, mJ y4), (6, mJ y6), (8, mJ y8), (10, mI x10)] _ _ _ from
  mm_E.lload_n (mm_atc mc104 rfl) rfl <|
  mm_E.iload (mm_atc mc104 rfl) rfl <|
  mm_E.iconst (mm_atc mc104 rfl) <|
  mm_E.iadd (mm_atc mc104 rfl) <|
  mm_E.i2l h6 (mm_atc mc104 rfl) <|
  mm_E.lload (mm_atc mc104 rfl) rfl <|
  mm_E.lmul (mm_atc mc104 rfl) <|
  mm_E.lif (mm_atc mc104 rfl) (mm_atc mc104 rfl) h3 h10 (ic_geF h11) rfl <|
  mm_E.lload (mm_atc mc104 rfl) rfl <|
  mm_E.iload (mm_atc mc104 rfl) rfl <|
  mm_E.i2l h0 (mm_atc mc104 rfl) <|
  mm_E.lload (mm_atc mc104 rfl) rfl <|
  mm_E.lmul (mm_atc mc104 rfl) <|
  mm_E.lif (mm_atc mc104 rfl) (mm_atc mc104 rfl) h7 h12 (ic_leT h13) rfl <|
  mm_E.inc mx104 rfl (mm_atc mc104 rfl) rfl <|
  show mm_E _ _ 104 166 [(10, mI (x10 + 1)), (12, mI 0), (11, mI 0), (0, .ref 77), (1, mI x1), (2, mJ y2), (4, mJ y4), (6, mJ y6), (8, mJ y8)] _ _ _ from
  mm_E.goto (mm_atc mc104 rfl) rfl <|
  mm_E.to h ⟨rfl, rfl, rfl, rfl, rfl, rfl, rfl, trivial⟩
theorem p104_9_3 {d : Nat} {X : List Value} {A : MF} {r : MR} {x1 y2 y4 y6 y8 x10 : Int} {A0 A1 : MF} (s0 : mm_E 1 d 103 0 [(0, .ref 77), (1, mJ ((x10 + 1) * (A 88 ((16 * x1) + x10)))), (3, mJ 1)] [] (mm_w X A) (.inl (none), mm_w X A0, 0, 0)) (s1 : mm_E 1 d 103 0 [(0, .ref 77), (1, mJ ((-x10) * (A 88 ((16 * x1) + x10)))), (3, mJ 1)] [] (mm_w X A0) (.inl (none), mm_w X A1, 0, 0)) (H : R32 x10 ∧ R32 (A 77 15) ∧ x10 < A 77 15 ∧ R64 y2 ∧ R64 (x10 * y4) ∧ y2 ≤ x10 * y4 ∧ R32 (x10 + 1) ∧ R64 y6 ∧ R64 ((x10 + 1) * y8) ∧ (x10 + 1) * y8 ≤ y6 ∧ R64 ((x10 + 1) * y4) ∧ y2 < (x10 + 1) * y4 ∧ R64 (x10 * y8) ∧ x10 * y8 < y6 ∧ 0 ≤ (16 * x1) + x10 ∧ (16 * x1) + x10 < 96 ∧ R32 (A 88 ((16 * x1) + x10))) (h : mm_E 1 (d + 1) 104 9 [(0, .ref 77), (1, mI x1), (2, mJ y2), (4, mJ y4), (6, mJ y6), (8, mJ y8), (10, mI (x10 + 1))] [] (mm_w X A1) r) : mm_E 1 (d + 1) 104 9 [(0, .ref 77), (1, mI x1), (2, mJ y2), (4, mJ y4), (6, mJ y6), (8, mJ y8), (10, mI x10)] [] (mm_w X A) r := by
  obtain ⟨h0, h1, h2, h3, h4, h5, h6, h7, h8, h9, h10, h11, h12, h13, h14, h15, h16⟩ := H
  exact mm_E.iload (mm_atc mc104 rfl) rfl <|
  mm_E.aload_n (mm_atc mc104 rfl) rfl <|
  mm_E.getI (z := A 77 15) (mm_atc mc104 rfl) (mm_plc mp104 rfl) rfl ly77 rfl (rfl) <|
  mm_E.if2 (mm_atc mc104 rfl) h0 h1 (ic_geF h2) rfl <|
  mm_E.lload_n (mm_atc mc104 rfl) rfl <|
  mm_E.iload (mm_atc mc104 rfl) rfl <|
  mm_E.i2l h0 (mm_atc mc104 rfl) <|
  mm_E.lload (mm_atc mc104 rfl) rfl <|
  mm_E.lmul (mm_atc mc104 rfl) <|
  mm_E.lif (mm_atc mc104 rfl) (mm_atc mc104 rfl) h3 h4 (ic_leT h5) rfl <|
  mm_E.iconst (mm_atc mc104 rfl) <|
  mm_E.istore mx104 rfl (mm_atc mc104 rfl) <|
  show mm_E _ _ 104 36 [(11, mI 0), (0, .ref 77), (1, mI x1), (2, mJ y2), (4, mJ y4), (6, mJ y6), (8, mJ y8), (10, mI x10)] _ _ _ from
  mm_E.lload (mm_atc mc104 rfl) rfl <|
  mm_E.iload (mm_atc mc104 rfl) rfl <|
  mm_E.iconst (mm_atc mc104 rfl) <|
  mm_E.iadd (mm_atc mc104 rfl) <|
  mm_E.i2l h6 (mm_atc mc104 rfl) <|
  mm_E.lload (mm_atc mc104 rfl) rfl <|
  mm_E.lmul (mm_atc mc104 rfl) <|
  mm_E.lif (mm_atc mc104 rfl) (mm_atc mc104 rfl) h7 h8 (ic_geT h9) rfl <|
  mm_E.iconst (mm_atc mc104 rfl) <|
  mm_E.istore mx104 rfl (mm_atc mc104 rfl) <|
  show mm_E _ _ 104 57 [(12, mI 0), (11, mI 0), (0, .ref 77), (1, mI x1), (2, mJ y2), (4, mJ y4), (6, mJ y6), (8, mJ y8), (10, mI x10)] _ _ _ from
  mm_E.lload_n (mm_atc mc104 rfl) rfl <|
  mm_E.iload (mm_atc mc104 rfl) rfl <|
  mm_E.iconst (mm_atc mc104 rfl) <|
  mm_E.iadd (mm_atc mc104 rfl) <|
  mm_E.i2l h6 (mm_atc mc104 rfl) <|
  mm_E.lload (mm_atc mc104 rfl) rfl <|
  mm_E.lmul (mm_atc mc104 rfl) <|
  mm_E.lif (mm_atc mc104 rfl) (mm_atc mc104 rfl) h3 h10 (ic_geF h11) rfl <|
  mm_E.lload (mm_atc mc104 rfl) rfl <|
  mm_E.iload (mm_atc mc104 rfl) rfl <|
  mm_E.i2l h0 (mm_atc mc104 rfl) <|
  mm_E.lload (mm_atc mc104 rfl) rfl <|
  mm_E.lmul (mm_atc mc104 rfl) <|
  mm_E.lif (mm_atc mc104 rfl) (mm_atc mc104 rfl) h7 h12 (ic_leF h13) rfl <|
  mm_E.aload_n (mm_atc mc104 rfl) rfl <|
  mm_E.getR (b := 88) (mm_atc mc104 rfl) (mm_plc mp104 rfl) rfl ly77 rfl <|
  mm_E.bipush (mm_atc mc104 rfl) rfl <|
  mm_E.iload_n (mm_atc mc104 rfl) rfl <|
  mm_E.imul (mm_atc mc104 rfl) <|
  mm_E.iload (mm_atc mc104 rfl) rfl <|
  mm_E.iadd (mm_atc mc104 rfl) <|
  mm_E.iaload (e := (16 * x1) + x10) (mm_atc mc104 rfl) ly88 rfl h14 h15 rfl (rfl) <|
  mm_E.istore mx104 rfl (mm_atc mc104 rfl) <|
  show mm_E _ _ 104 96 [(13, mI (A 88 ((16 * x1) + x10))), (12, mI 0), (11, mI 0), (0, .ref 77), (1, mI x1), (2, mJ y2), (4, mJ y4), (6, mJ y6), (8, mJ y8), (10, mI x10)] _ _ _ from
  mm_E.iload (mm_atc mc104 rfl) rfl <|
  mm_E.if1 (mm_atc mc104 rfl) (by decide) (ic_eqT (by decide)) rfl <|
  mm_E.aload_n (mm_atc mc104 rfl) rfl <|
  mm_E.iload (mm_atc mc104 rfl) rfl <|
  mm_E.i2l h0 (mm_atc mc104 rfl) <|
  mm_E.lconst (z := 1) (mm_atc mc104 rfl) rfl <|
  mm_E.ladd (mm_atc mc104 rfl) <|
  mm_E.iload (mm_atc mc104 rfl) rfl <|
  mm_E.i2l h16 (mm_atc mc104 rfl) <|
  mm_E.lmul (mm_atc mc104 rfl) <|
  mm_E.lconst (z := 1) (mm_atc mc104 rfl) rfl <|
  mm_E.callV0 (mm_atc mc104 rfl) (mm_plc mp104 rfl) rfl mk103 ly77 rfl mx103 rfl rfl s0 (by omega) <|
  show mm_E _ _ 104 130 _ _ _ _ from
  mm_E.iload (mm_atc mc104 rfl) rfl <|
  mm_E.if1 (mm_atc mc104 rfl) (by decide) (ic_eqT (by decide)) rfl <|
  mm_E.aload_n (mm_atc mc104 rfl) rfl <|
  mm_E.iload (mm_atc mc104 rfl) rfl <|
  mm_E.i2l h0 (mm_atc mc104 rfl) <|
  mm_E.lneg (mm_atc mc104 rfl) <|
  mm_E.iload (mm_atc mc104 rfl) rfl <|
  mm_E.i2l h16 (mm_atc mc104 rfl) <|
  mm_E.lmul (mm_atc mc104 rfl) <|
  mm_E.lconst (z := 1) (mm_atc mc104 rfl) rfl <|
  mm_E.callV0 (mm_atc mc104 rfl) (mm_plc mp104 rfl) rfl mk103 ly77 rfl mx103 rfl rfl s1 (by omega) <|
  show mm_E _ _ 104 163 _ _ _ _ from
  mm_E.inc mx104 rfl (mm_atc mc104 rfl) rfl <|
  show mm_E _ _ 104 166 [(10, mI (x10 + 1)), (13, mI (A 88 ((16 * x1) + x10))), (12, mI 0), (11, mI 0), (0, .ref 77), (1, mI x1), (2, mJ y2), (4, mJ y4), (6, mJ y6), (8, mJ y8)] _ _ _ from
  mm_E.goto (mm_atc mc104 rfl) rfl <|
  mm_E.to h ⟨rfl, rfl, rfl, rfl, rfl, rfl, rfl, trivial⟩
theorem p104_9_4 {w d : Nat} {X : List Value} {A : MF} {r : MR} {x1 y2 y4 y6 y8 x10 : Int} (H : R32 x10 ∧ R32 (A 77 15) ∧ x10 < A 77 15 ∧ R64 y2 ∧ R64 (x10 * y4) ∧ y2 ≤ x10 * y4 ∧ R32 (x10 + 1) ∧ R64 y6 ∧ R64 ((x10 + 1) * y8) ∧ y6 < (x10 + 1) * y8 ∧ R64 ((x10 + 1) * y4) ∧ (x10 + 1) * y4 ≤ y2) (h : mm_E w d 104 9 [(0, .ref 77), (1, mI x1), (2, mJ y2), (4, mJ y4), (6, mJ y6), (8, mJ y8), (10, mI (x10 + 1))] [] (mm_w X A) r) : mm_E w d 104 9 [(0, .ref 77), (1, mI x1), (2, mJ y2), (4, mJ y4), (6, mJ y6), (8, mJ y8), (10, mI x10)] [] (mm_w X A) r := by
  obtain ⟨h0, h1, h2, h3, h4, h5, h6, h7, h8, h9, h10, h11⟩ := H
  exact mm_E.iload (mm_atc mc104 rfl) rfl <|
  mm_E.aload_n (mm_atc mc104 rfl) rfl <|
  mm_E.getI (z := A 77 15) (mm_atc mc104 rfl) (mm_plc mp104 rfl) rfl ly77 rfl (rfl) <|
  mm_E.if2 (mm_atc mc104 rfl) h0 h1 (ic_geF h2) rfl <|
  mm_E.lload_n (mm_atc mc104 rfl) rfl <|
  mm_E.iload (mm_atc mc104 rfl) rfl <|
  mm_E.i2l h0 (mm_atc mc104 rfl) <|
  mm_E.lload (mm_atc mc104 rfl) rfl <|
  mm_E.lmul (mm_atc mc104 rfl) <|
  mm_E.lif (mm_atc mc104 rfl) (mm_atc mc104 rfl) h3 h4 (ic_leT h5) rfl <|
  mm_E.iconst (mm_atc mc104 rfl) <|
  mm_E.istore mx104 rfl (mm_atc mc104 rfl) <|
  show mm_E _ _ 104 36 [(11, mI 0), (0, .ref 77), (1, mI x1), (2, mJ y2), (4, mJ y4), (6, mJ y6), (8, mJ y8), (10, mI x10)] _ _ _ from
  mm_E.lload (mm_atc mc104 rfl) rfl <|
  mm_E.iload (mm_atc mc104 rfl) rfl <|
  mm_E.iconst (mm_atc mc104 rfl) <|
  mm_E.iadd (mm_atc mc104 rfl) <|
  mm_E.i2l h6 (mm_atc mc104 rfl) <|
  mm_E.lload (mm_atc mc104 rfl) rfl <|
  mm_E.lmul (mm_atc mc104 rfl) <|
  mm_E.lif (mm_atc mc104 rfl) (mm_atc mc104 rfl) h7 h8 (ic_geF h9) rfl <|
  mm_E.iconst (mm_atc mc104 rfl) <|
  mm_E.goto (mm_atc mc104 rfl) rfl <|
  mm_E.istore mx104 rfl (mm_atc mc104 rfl) <|
  show mm_E _ _ 104 57 [(12, mI 1), (11, mI 0), (0, .ref 77), (1, mI x1), (2, mJ y2), (4, mJ y4), (6, mJ y6), (8, mJ y8), (10, mI x10)] _ _ _ from
  mm_E.lload_n (mm_atc mc104 rfl) rfl <|
  mm_E.iload (mm_atc mc104 rfl) rfl <|
  mm_E.iconst (mm_atc mc104 rfl) <|
  mm_E.iadd (mm_atc mc104 rfl) <|
  mm_E.i2l h6 (mm_atc mc104 rfl) <|
  mm_E.lload (mm_atc mc104 rfl) rfl <|
  mm_E.lmul (mm_atc mc104 rfl) <|
  mm_E.lif (mm_atc mc104 rfl) (mm_atc mc104 rfl) h3 h10 (ic_geT h11) rfl <|
  mm_E.inc mx104 rfl (mm_atc mc104 rfl) rfl <|
  show mm_E _ _ 104 166 [(10, mI (x10 + 1)), (12, mI 1), (11, mI 0), (0, .ref 77), (1, mI x1), (2, mJ y2), (4, mJ y4), (6, mJ y6), (8, mJ y8)] _ _ _ from
  mm_E.goto (mm_atc mc104 rfl) rfl <|
  mm_E.to h ⟨rfl, rfl, rfl, rfl, rfl, rfl, rfl, trivial⟩
theorem p104_9_5 {w d : Nat} {X : List Value} {A : MF} {r : MR} {x1 y2 y4 y6 y8 x10 : Int} (H : R32 x10 ∧ R32 (A 77 15) ∧ x10 < A 77 15 ∧ R64 y2 ∧ R64 (x10 * y4) ∧ y2 ≤ x10 * y4 ∧ R32 (x10 + 1) ∧ R64 y6 ∧ R64 ((x10 + 1) * y8) ∧ y6 < (x10 + 1) * y8 ∧ R64 ((x10 + 1) * y4) ∧ y2 < (x10 + 1) * y4 ∧ R64 (x10 * y8) ∧ y6 ≤ x10 * y8) (h : mm_E w d 104 9 [(0, .ref 77), (1, mI x1), (2, mJ y2), (4, mJ y4), (6, mJ y6), (8, mJ y8), (10, mI (x10 + 1))] [] (mm_w X A) r) : mm_E w d 104 9 [(0, .ref 77), (1, mI x1), (2, mJ y2), (4, mJ y4), (6, mJ y6), (8, mJ y8), (10, mI x10)] [] (mm_w X A) r := by
  obtain ⟨h0, h1, h2, h3, h4, h5, h6, h7, h8, h9, h10, h11, h12, h13⟩ := H
  exact mm_E.iload (mm_atc mc104 rfl) rfl <|
  mm_E.aload_n (mm_atc mc104 rfl) rfl <|
  mm_E.getI (z := A 77 15) (mm_atc mc104 rfl) (mm_plc mp104 rfl) rfl ly77 rfl (rfl) <|
  mm_E.if2 (mm_atc mc104 rfl) h0 h1 (ic_geF h2) rfl <|
  mm_E.lload_n (mm_atc mc104 rfl) rfl <|
  mm_E.iload (mm_atc mc104 rfl) rfl <|
  mm_E.i2l h0 (mm_atc mc104 rfl) <|
  mm_E.lload (mm_atc mc104 rfl) rfl <|
  mm_E.lmul (mm_atc mc104 rfl) <|
  mm_E.lif (mm_atc mc104 rfl) (mm_atc mc104 rfl) h3 h4 (ic_leT h5) rfl <|
  mm_E.iconst (mm_atc mc104 rfl) <|
  mm_E.istore mx104 rfl (mm_atc mc104 rfl) <|
  show mm_E _ _ 104 36 [(11, mI 0), (0, .ref 77), (1, mI x1), (2, mJ y2), (4, mJ y4), (6, mJ y6), (8, mJ y8), (10, mI x10)] _ _ _ from
  mm_E.lload (mm_atc mc104 rfl) rfl <|
  mm_E.iload (mm_atc mc104 rfl) rfl <|
  mm_E.iconst (mm_atc mc104 rfl) <|
  mm_E.iadd (mm_atc mc104 rfl) <|
  mm_E.i2l h6 (mm_atc mc104 rfl) <|
  mm_E.lload (mm_atc mc104 rfl) rfl <|
  mm_E.lmul (mm_atc mc104 rfl) <|
  mm_E.lif (mm_atc mc104 rfl) (mm_atc mc104 rfl) h7 h8 (ic_geF h9) rfl <|
  mm_E.iconst (mm_atc mc104 rfl) <|
  mm_E.goto (mm_atc mc104 rfl) rfl <|
  mm_E.istore mx104 rfl (mm_atc mc104 rfl) <|
  show mm_E _ _ 104 57 [(12, mI 1), (11, mI 0), (0, .ref 77), (1, mI x1), (2, mJ y2), (4, mJ y4), (6, mJ y6), (8, mJ y8), (10, mI x10)] _ _ _ from
  mm_E.lload_n (mm_atc mc104 rfl) rfl <|
  mm_E.iload (mm_atc mc104 rfl) rfl <|
  mm_E.iconst (mm_atc mc104 rfl) <|
  mm_E.iadd (mm_atc mc104 rfl) <|
  mm_E.i2l h6 (mm_atc mc104 rfl) <|
  mm_E.lload (mm_atc mc104 rfl) rfl <|
  mm_E.lmul (mm_atc mc104 rfl) <|
  mm_E.lif (mm_atc mc104 rfl) (mm_atc mc104 rfl) h3 h10 (ic_geF h11) rfl <|
  mm_E.lload (mm_atc mc104 rfl) rfl <|
  mm_E.iload (mm_atc mc104 rfl) rfl <|
  mm_E.i2l h0 (mm_atc mc104 rfl) <|
  mm_E.lload (mm_atc mc104 rfl) rfl <|
  mm_E.lmul (mm_atc mc104 rfl) <|
  mm_E.lif (mm_atc mc104 rfl) (mm_atc mc104 rfl) h7 h12 (ic_leT h13) rfl <|
  mm_E.inc mx104 rfl (mm_atc mc104 rfl) rfl <|
  show mm_E _ _ 104 166 [(10, mI (x10 + 1)), (12, mI 1), (11, mI 0), (0, .ref 77), (1, mI x1), (2, mJ y2), (4, mJ y4), (6, mJ y6), (8, mJ y8)] _ _ _ from
  mm_E.goto (mm_atc mc104 rfl) rfl <|
  mm_E.to h ⟨rfl, rfl, rfl, rfl, rfl, rfl, rfl, trivial⟩
theorem p104_9_6 {d : Nat} {X : List Value} {A : MF} {r : MR} {x1 y2 y4 y6 y8 x10 : Int} {A0 A1 : MF} (s0 : mm_E 1 d 103 0 [(0, .ref 77), (1, mJ (y6 * (A 88 ((16 * x1) + x10)))), (3, mJ y8)] [] (mm_w X A) (.inl (none), mm_w X A0, 0, 0)) (s1 : mm_E 1 d 103 0 [(0, .ref 77), (1, mJ ((-x10) * (A 88 ((16 * x1) + x10)))), (3, mJ 1)] [] (mm_w X A0) (.inl (none), mm_w X A1, 0, 0)) (H : R32 x10 ∧ R32 (A 77 15) ∧ x10 < A 77 15 ∧ R64 y2 ∧ R64 (x10 * y4) ∧ y2 ≤ x10 * y4 ∧ R32 (x10 + 1) ∧ R64 y6 ∧ R64 ((x10 + 1) * y8) ∧ y6 < (x10 + 1) * y8 ∧ R64 ((x10 + 1) * y4) ∧ y2 < (x10 + 1) * y4 ∧ R64 (x10 * y8) ∧ x10 * y8 < y6 ∧ 0 ≤ (16 * x1) + x10 ∧ (16 * x1) + x10 < 96 ∧ R32 (A 88 ((16 * x1) + x10))) (h : mm_E 1 (d + 1) 104 9 [(0, .ref 77), (1, mI x1), (2, mJ y2), (4, mJ y4), (6, mJ y6), (8, mJ y8), (10, mI (x10 + 1))] [] (mm_w X A1) r) : mm_E 1 (d + 1) 104 9 [(0, .ref 77), (1, mI x1), (2, mJ y2), (4, mJ y4), (6, mJ y6), (8, mJ y8), (10, mI x10)] [] (mm_w X A) r := by
  obtain ⟨h0, h1, h2, h3, h4, h5, h6, h7, h8, h9, h10, h11, h12, h13, h14, h15, h16⟩ := H
  exact mm_E.iload (mm_atc mc104 rfl) rfl <|
  mm_E.aload_n (mm_atc mc104 rfl) rfl <|
  mm_E.getI (z := A 77 15) (mm_atc mc104 rfl) (mm_plc mp104 rfl) rfl ly77 rfl (rfl) <|
  mm_E.if2 (mm_atc mc104 rfl) h0 h1 (ic_geF h2) rfl <|
  mm_E.lload_n (mm_atc mc104 rfl) rfl <|
  mm_E.iload (mm_atc mc104 rfl) rfl <|
  mm_E.i2l h0 (mm_atc mc104 rfl) <|
  mm_E.lload (mm_atc mc104 rfl) rfl <|
  mm_E.lmul (mm_atc mc104 rfl) <|
  mm_E.lif (mm_atc mc104 rfl) (mm_atc mc104 rfl) h3 h4 (ic_leT h5) rfl <|
  mm_E.iconst (mm_atc mc104 rfl) <|
  mm_E.istore mx104 rfl (mm_atc mc104 rfl) <|
  show mm_E _ _ 104 36 [(11, mI 0), (0, .ref 77), (1, mI x1), (2, mJ y2), (4, mJ y4), (6, mJ y6), (8, mJ y8), (10, mI x10)] _ _ _ from
  mm_E.lload (mm_atc mc104 rfl) rfl <|
  mm_E.iload (mm_atc mc104 rfl) rfl <|
  mm_E.iconst (mm_atc mc104 rfl) <|
  mm_E.iadd (mm_atc mc104 rfl) <|
  mm_E.i2l h6 (mm_atc mc104 rfl) <|
  mm_E.lload (mm_atc mc104 rfl) rfl <|
  mm_E.lmul (mm_atc mc104 rfl) <|
  mm_E.lif (mm_atc mc104 rfl) (mm_atc mc104 rfl) h7 h8 (ic_geF h9) rfl <|
  mm_E.iconst (mm_atc mc104 rfl) <|
  mm_E.goto (mm_atc mc104 rfl) rfl <|
  mm_E.istore mx104 rfl (mm_atc mc104 rfl) <|
  show mm_E _ _ 104 57 [(12, mI 1), (11, mI 0), (0, .ref 77), (1, mI x1), (2, mJ y2), (4, mJ y4), (6, mJ y6), (8, mJ y8), (10, mI x10)] _ _ _ from
  mm_E.lload_n (mm_atc mc104 rfl) rfl <|
  mm_E.iload (mm_atc mc104 rfl) rfl <|
  mm_E.iconst (mm_atc mc104 rfl) <|
  mm_E.iadd (mm_atc mc104 rfl) <|
  mm_E.i2l h6 (mm_atc mc104 rfl) <|
  mm_E.lload (mm_atc mc104 rfl) rfl <|
  mm_E.lmul (mm_atc mc104 rfl) <|
  mm_E.lif (mm_atc mc104 rfl) (mm_atc mc104 rfl) h3 h10 (ic_geF h11) rfl <|
  mm_E.lload (mm_atc mc104 rfl) rfl <|
  mm_E.iload (mm_atc mc104 rfl) rfl <|
  mm_E.i2l h0 (mm_atc mc104 rfl) <|
  mm_E.lload (mm_atc mc104 rfl) rfl <|
  mm_E.lmul (mm_atc mc104 rfl) <|
  mm_E.lif (mm_atc mc104 rfl) (mm_atc mc104 rfl) h7 h12 (ic_leF h13) rfl <|
  mm_E.aload_n (mm_atc mc104 rfl) rfl <|
  mm_E.getR (b := 88) (mm_atc mc104 rfl) (mm_plc mp104 rfl) rfl ly77 rfl <|
  mm_E.bipush (mm_atc mc104 rfl) rfl <|
  mm_E.iload_n (mm_atc mc104 rfl) rfl <|
  mm_E.imul (mm_atc mc104 rfl) <|
  mm_E.iload (mm_atc mc104 rfl) rfl <|
  mm_E.iadd (mm_atc mc104 rfl) <|
  mm_E.iaload (e := (16 * x1) + x10) (mm_atc mc104 rfl) ly88 rfl h14 h15 rfl (rfl) <|
  mm_E.istore mx104 rfl (mm_atc mc104 rfl) <|
  show mm_E _ _ 104 96 [(13, mI (A 88 ((16 * x1) + x10))), (12, mI 1), (11, mI 0), (0, .ref 77), (1, mI x1), (2, mJ y2), (4, mJ y4), (6, mJ y6), (8, mJ y8), (10, mI x10)] _ _ _ from
  mm_E.iload (mm_atc mc104 rfl) rfl <|
  mm_E.if1 (mm_atc mc104 rfl) (by decide) (ic_eqF (by decide)) rfl <|
  mm_E.aload_n (mm_atc mc104 rfl) rfl <|
  mm_E.lload (mm_atc mc104 rfl) rfl <|
  mm_E.iload (mm_atc mc104 rfl) rfl <|
  mm_E.i2l h16 (mm_atc mc104 rfl) <|
  mm_E.lmul (mm_atc mc104 rfl) <|
  mm_E.lload (mm_atc mc104 rfl) rfl <|
  mm_E.callV0 (mm_atc mc104 rfl) (mm_plc mp104 rfl) rfl mk103 ly77 rfl mx103 rfl rfl s0 (by omega) <|
  show mm_E _ _ 104 113 _ _ _ _ from
  mm_E.goto (mm_atc mc104 rfl) rfl <|
  mm_E.iload (mm_atc mc104 rfl) rfl <|
  mm_E.if1 (mm_atc mc104 rfl) (by decide) (ic_eqT (by decide)) rfl <|
  mm_E.aload_n (mm_atc mc104 rfl) rfl <|
  mm_E.iload (mm_atc mc104 rfl) rfl <|
  mm_E.i2l h0 (mm_atc mc104 rfl) <|
  mm_E.lneg (mm_atc mc104 rfl) <|
  mm_E.iload (mm_atc mc104 rfl) rfl <|
  mm_E.i2l h16 (mm_atc mc104 rfl) <|
  mm_E.lmul (mm_atc mc104 rfl) <|
  mm_E.lconst (z := 1) (mm_atc mc104 rfl) rfl <|
  mm_E.callV0 (mm_atc mc104 rfl) (mm_plc mp104 rfl) rfl mk103 ly77 rfl mx103 rfl rfl s1 (by omega) <|
  show mm_E _ _ 104 163 _ _ _ _ from
  mm_E.inc mx104 rfl (mm_atc mc104 rfl) rfl <|
  show mm_E _ _ 104 166 [(10, mI (x10 + 1)), (13, mI (A 88 ((16 * x1) + x10))), (12, mI 1), (11, mI 0), (0, .ref 77), (1, mI x1), (2, mJ y2), (4, mJ y4), (6, mJ y6), (8, mJ y8)] _ _ _ from
  mm_E.goto (mm_atc mc104 rfl) rfl <|
  mm_E.to h ⟨rfl, rfl, rfl, rfl, rfl, rfl, rfl, trivial⟩
theorem p104_9_7 {w d : Nat} {X : List Value} {A : MF} {r : MR} {x1 y2 y4 y6 y8 x10 : Int} (H : R32 x10 ∧ R32 (A 77 15) ∧ x10 < A 77 15 ∧ R64 y2 ∧ R64 (x10 * y4) ∧ x10 * y4 < y2 ∧ R32 (x10 + 1) ∧ R64 y6 ∧ R64 ((x10 + 1) * y8) ∧ (x10 + 1) * y8 ≤ y6 ∧ R64 ((x10 + 1) * y4) ∧ (x10 + 1) * y4 ≤ y2) (h : mm_E w d 104 9 [(0, .ref 77), (1, mI x1), (2, mJ y2), (4, mJ y4), (6, mJ y6), (8, mJ y8), (10, mI (x10 + 1))] [] (mm_w X A) r) : mm_E w d 104 9 [(0, .ref 77), (1, mI x1), (2, mJ y2), (4, mJ y4), (6, mJ y6), (8, mJ y8), (10, mI x10)] [] (mm_w X A) r := by
  obtain ⟨h0, h1, h2, h3, h4, h5, h6, h7, h8, h9, h10, h11⟩ := H
  exact mm_E.iload (mm_atc mc104 rfl) rfl <|
  mm_E.aload_n (mm_atc mc104 rfl) rfl <|
  mm_E.getI (z := A 77 15) (mm_atc mc104 rfl) (mm_plc mp104 rfl) rfl ly77 rfl (rfl) <|
  mm_E.if2 (mm_atc mc104 rfl) h0 h1 (ic_geF h2) rfl <|
  mm_E.lload_n (mm_atc mc104 rfl) rfl <|
  mm_E.iload (mm_atc mc104 rfl) rfl <|
  mm_E.i2l h0 (mm_atc mc104 rfl) <|
  mm_E.lload (mm_atc mc104 rfl) rfl <|
  mm_E.lmul (mm_atc mc104 rfl) <|
  mm_E.lif (mm_atc mc104 rfl) (mm_atc mc104 rfl) h3 h4 (ic_leF h5) rfl <|
  mm_E.iconst (mm_atc mc104 rfl) <|
  mm_E.goto (mm_atc mc104 rfl) rfl <|
  mm_E.istore mx104 rfl (mm_atc mc104 rfl) <|
  show mm_E _ _ 104 36 [(11, mI 1), (0, .ref 77), (1, mI x1), (2, mJ y2), (4, mJ y4), (6, mJ y6), (8, mJ y8), (10, mI x10)] _ _ _ from
  mm_E.lload (mm_atc mc104 rfl) rfl <|
  mm_E.iload (mm_atc mc104 rfl) rfl <|
  mm_E.iconst (mm_atc mc104 rfl) <|
  mm_E.iadd (mm_atc mc104 rfl) <|
  mm_E.i2l h6 (mm_atc mc104 rfl) <|
  mm_E.lload (mm_atc mc104 rfl) rfl <|
  mm_E.lmul (mm_atc mc104 rfl) <|
  mm_E.lif (mm_atc mc104 rfl) (mm_atc mc104 rfl) h7 h8 (ic_geT h9) rfl <|
  mm_E.iconst (mm_atc mc104 rfl) <|
  mm_E.istore mx104 rfl (mm_atc mc104 rfl) <|
  show mm_E _ _ 104 57 [(12, mI 0), (11, mI 1), (0, .ref 77), (1, mI x1), (2, mJ y2), (4, mJ y4), (6, mJ y6), (8, mJ y8), (10, mI x10)] _ _ _ from
  mm_E.lload_n (mm_atc mc104 rfl) rfl <|
  mm_E.iload (mm_atc mc104 rfl) rfl <|
  mm_E.iconst (mm_atc mc104 rfl) <|
  mm_E.iadd (mm_atc mc104 rfl) <|
  mm_E.i2l h6 (mm_atc mc104 rfl) <|
  mm_E.lload (mm_atc mc104 rfl) rfl <|
  mm_E.lmul (mm_atc mc104 rfl) <|
  mm_E.lif (mm_atc mc104 rfl) (mm_atc mc104 rfl) h3 h10 (ic_geT h11) rfl <|
  mm_E.inc mx104 rfl (mm_atc mc104 rfl) rfl <|
  show mm_E _ _ 104 166 [(10, mI (x10 + 1)), (12, mI 0), (11, mI 1), (0, .ref 77), (1, mI x1), (2, mJ y2), (4, mJ y4), (6, mJ y6), (8, mJ y8)] _ _ _ from
  mm_E.goto (mm_atc mc104 rfl) rfl <|
  mm_E.to h ⟨rfl, rfl, rfl, rfl, rfl, rfl, rfl, trivial⟩
theorem p104_9_8 {w d : Nat} {X : List Value} {A : MF} {r : MR} {x1 y2 y4 y6 y8 x10 : Int} (H : R32 x10 ∧ R32 (A 77 15) ∧ x10 < A 77 15 ∧ R64 y2 ∧ R64 (x10 * y4) ∧ x10 * y4 < y2 ∧ R32 (x10 + 1) ∧ R64 y6 ∧ R64 ((x10 + 1) * y8) ∧ (x10 + 1) * y8 ≤ y6 ∧ R64 ((x10 + 1) * y4) ∧ y2 < (x10 + 1) * y4 ∧ R64 (x10 * y8) ∧ y6 ≤ x10 * y8) (h : mm_E w d 104 9 [(0, .ref 77), (1, mI x1), (2, mJ y2), (4, mJ y4), (6, mJ y6), (8, mJ y8), (10, mI (x10 + 1))] [] (mm_w X A) r) : mm_E w d 104 9 [(0, .ref 77), (1, mI x1), (2, mJ y2), (4, mJ y4), (6, mJ y6), (8, mJ y8), (10, mI x10)] [] (mm_w X A) r := by
  obtain ⟨h0, h1, h2, h3, h4, h5, h6, h7, h8, h9, h10, h11, h12, h13⟩ := H
  exact mm_E.iload (mm_atc mc104 rfl) rfl <|
  mm_E.aload_n (mm_atc mc104 rfl) rfl <|
  mm_E.getI (z := A 77 15) (mm_atc mc104 rfl) (mm_plc mp104 rfl) rfl ly77 rfl (rfl) <|
  mm_E.if2 (mm_atc mc104 rfl) h0 h1 (ic_geF h2) rfl <|
  mm_E.lload_n (mm_atc mc104 rfl) rfl <|
  mm_E.iload (mm_atc mc104 rfl) rfl <|
  mm_E.i2l h0 (mm_atc mc104 rfl) <|
  mm_E.lload (mm_atc mc104 rfl) rfl <|
  mm_E.lmul (mm_atc mc104 rfl) <|
  mm_E.lif (mm_atc mc104 rfl) (mm_atc mc104 rfl) h3 h4 (ic_leF h5) rfl <|
  mm_E.iconst (mm_atc mc104 rfl) <|
  mm_E.goto (mm_atc mc104 rfl) rfl <|
  mm_E.istore mx104 rfl (mm_atc mc104 rfl) <|
  show mm_E _ _ 104 36 [(11, mI 1), (0, .ref 77), (1, mI x1), (2, mJ y2), (4, mJ y4), (6, mJ y6), (8, mJ y8), (10, mI x10)] _ _ _ from
  mm_E.lload (mm_atc mc104 rfl) rfl <|
  mm_E.iload (mm_atc mc104 rfl) rfl <|
  mm_E.iconst (mm_atc mc104 rfl) <|
  mm_E.iadd (mm_atc mc104 rfl) <|
  mm_E.i2l h6 (mm_atc mc104 rfl) <|
  mm_E.lload (mm_atc mc104 rfl) rfl <|
  mm_E.lmul (mm_atc mc104 rfl) <|
  mm_E.lif (mm_atc mc104 rfl) (mm_atc mc104 rfl) h7 h8 (ic_geT h9) rfl <|
  mm_E.iconst (mm_atc mc104 rfl) <|
  mm_E.istore mx104 rfl (mm_atc mc104 rfl) <|
  show mm_E _ _ 104 57 [(12, mI 0), (11, mI 1), (0, .ref 77), (1, mI x1), (2, mJ y2), (4, mJ y4), (6, mJ y6), (8, mJ y8), (10, mI x10)] _ _ _ from
  mm_E.lload_n (mm_atc mc104 rfl) rfl <|
  mm_E.iload (mm_atc mc104 rfl) rfl <|
  mm_E.iconst (mm_atc mc104 rfl) <|
  mm_E.iadd (mm_atc mc104 rfl) <|
  mm_E.i2l h6 (mm_atc mc104 rfl) <|
  mm_E.lload (mm_atc mc104 rfl) rfl <|
  mm_E.lmul (mm_atc mc104 rfl) <|
  mm_E.lif (mm_atc mc104 rfl) (mm_atc mc104 rfl) h3 h10 (ic_geF h11) rfl <|
  mm_E.lload (mm_atc mc104 rfl) rfl <|
  mm_E.iload (mm_atc mc104 rfl) rfl <|
  mm_E.i2l h0 (mm_atc mc104 rfl) <|
  mm_E.lload (mm_atc mc104 rfl) rfl <|
  mm_E.lmul (mm_atc mc104 rfl) <|
  mm_E.lif (mm_atc mc104 rfl) (mm_atc mc104 rfl) h7 h12 (ic_leT h13) rfl <|
  mm_E.inc mx104 rfl (mm_atc mc104 rfl) rfl <|
  show mm_E _ _ 104 166 [(10, mI (x10 + 1)), (12, mI 0), (11, mI 1), (0, .ref 77), (1, mI x1), (2, mJ y2), (4, mJ y4), (6, mJ y6), (8, mJ y8)] _ _ _ from
  mm_E.goto (mm_atc mc104 rfl) rfl <|
  mm_E.to h ⟨rfl, rfl, rfl, rfl, rfl, rfl, rfl, trivial⟩
theorem p104_9_9 {d : Nat} {X : List Value} {A : MF} {r : MR} {x1 y2 y4 y6 y8 x10 : Int} {A0 A1 : MF} (s0 : mm_E 1 d 103 0 [(0, .ref 77), (1, mJ ((x10 + 1) * (A 88 ((16 * x1) + x10)))), (3, mJ 1)] [] (mm_w X A) (.inl (none), mm_w X A0, 0, 0)) (s1 : mm_E 1 d 103 0 [(0, .ref 77), (1, mJ ((-y2) * (A 88 ((16 * x1) + x10)))), (3, mJ y4)] [] (mm_w X A0) (.inl (none), mm_w X A1, 0, 0)) (H : R32 x10 ∧ R32 (A 77 15) ∧ x10 < A 77 15 ∧ R64 y2 ∧ R64 (x10 * y4) ∧ x10 * y4 < y2 ∧ R32 (x10 + 1) ∧ R64 y6 ∧ R64 ((x10 + 1) * y8) ∧ (x10 + 1) * y8 ≤ y6 ∧ R64 ((x10 + 1) * y4) ∧ y2 < (x10 + 1) * y4 ∧ R64 (x10 * y8) ∧ x10 * y8 < y6 ∧ 0 ≤ (16 * x1) + x10 ∧ (16 * x1) + x10 < 96 ∧ R32 (A 88 ((16 * x1) + x10))) (h : mm_E 1 (d + 1) 104 9 [(0, .ref 77), (1, mI x1), (2, mJ y2), (4, mJ y4), (6, mJ y6), (8, mJ y8), (10, mI (x10 + 1))] [] (mm_w X A1) r) : mm_E 1 (d + 1) 104 9 [(0, .ref 77), (1, mI x1), (2, mJ y2), (4, mJ y4), (6, mJ y6), (8, mJ y8), (10, mI x10)] [] (mm_w X A) r := by
  obtain ⟨h0, h1, h2, h3, h4, h5, h6, h7, h8, h9, h10, h11, h12, h13, h14, h15, h16⟩ := H
  exact mm_E.iload (mm_atc mc104 rfl) rfl <|
  mm_E.aload_n (mm_atc mc104 rfl) rfl <|
  mm_E.getI (z := A 77 15) (mm_atc mc104 rfl) (mm_plc mp104 rfl) rfl ly77 rfl (rfl) <|
  mm_E.if2 (mm_atc mc104 rfl) h0 h1 (ic_geF h2) rfl <|
  mm_E.lload_n (mm_atc mc104 rfl) rfl <|
  mm_E.iload (mm_atc mc104 rfl) rfl <|
  mm_E.i2l h0 (mm_atc mc104 rfl) <|
  mm_E.lload (mm_atc mc104 rfl) rfl <|
  mm_E.lmul (mm_atc mc104 rfl) <|
  mm_E.lif (mm_atc mc104 rfl) (mm_atc mc104 rfl) h3 h4 (ic_leF h5) rfl <|
  mm_E.iconst (mm_atc mc104 rfl) <|
  mm_E.goto (mm_atc mc104 rfl) rfl <|
  mm_E.istore mx104 rfl (mm_atc mc104 rfl) <|
  show mm_E _ _ 104 36 [(11, mI 1), (0, .ref 77), (1, mI x1), (2, mJ y2), (4, mJ y4), (6, mJ y6), (8, mJ y8), (10, mI x10)] _ _ _ from
  mm_E.lload (mm_atc mc104 rfl) rfl <|
  mm_E.iload (mm_atc mc104 rfl) rfl <|
  mm_E.iconst (mm_atc mc104 rfl) <|
  mm_E.iadd (mm_atc mc104 rfl) <|
  mm_E.i2l h6 (mm_atc mc104 rfl) <|
  mm_E.lload (mm_atc mc104 rfl) rfl <|
  mm_E.lmul (mm_atc mc104 rfl) <|
  mm_E.lif (mm_atc mc104 rfl) (mm_atc mc104 rfl) h7 h8 (ic_geT h9) rfl <|
  mm_E.iconst (mm_atc mc104 rfl) <|
  mm_E.istore mx104 rfl (mm_atc mc104 rfl) <|
  show mm_E _ _ 104 57 [(12, mI 0), (11, mI 1), (0, .ref 77), (1, mI x1), (2, mJ y2), (4, mJ y4), (6, mJ y6), (8, mJ y8), (10, mI x10)] _ _ _ from
  mm_E.lload_n (mm_atc mc104 rfl) rfl <|
  mm_E.iload (mm_atc mc104 rfl) rfl <|
  mm_E.iconst (mm_atc mc104 rfl) <|
  mm_E.iadd (mm_atc mc104 rfl) <|
  mm_E.i2l h6 (mm_atc mc104 rfl) <|
  mm_E.lload (mm_atc mc104 rfl) rfl <|
  mm_E.lmul (mm_atc mc104 rfl) <|
  mm_E.lif (mm_atc mc104 rfl) (mm_atc mc104 rfl) h3 h10 (ic_geF h11) rfl <|
  mm_E.lload (mm_atc mc104 rfl) rfl <|
  mm_E.iload (mm_atc mc104 rfl) rfl <|
  mm_E.i2l h0 (mm_atc mc104 rfl) <|
  mm_E.lload (mm_atc mc104 rfl) rfl <|
  mm_E.lmul (mm_atc mc104 rfl) <|
  mm_E.lif (mm_atc mc104 rfl) (mm_atc mc104 rfl) h7 h12 (ic_leF h13) rfl <|
  mm_E.aload_n (mm_atc mc104 rfl) rfl <|
  mm_E.getR (b := 88) (mm_atc mc104 rfl) (mm_plc mp104 rfl) rfl ly77 rfl <|
  mm_E.bipush (mm_atc mc104 rfl) rfl <|
  mm_E.iload_n (mm_atc mc104 rfl) rfl <|
  mm_E.imul (mm_atc mc104 rfl) <|
  mm_E.iload (mm_atc mc104 rfl) rfl <|
  mm_E.iadd (mm_atc mc104 rfl) <|
  mm_E.iaload (e := (16 * x1) + x10) (mm_atc mc104 rfl) ly88 rfl h14 h15 rfl (rfl) <|
  mm_E.istore mx104 rfl (mm_atc mc104 rfl) <|
  show mm_E _ _ 104 96 [(13, mI (A 88 ((16 * x1) + x10))), (12, mI 0), (11, mI 1), (0, .ref 77), (1, mI x1), (2, mJ y2), (4, mJ y4), (6, mJ y6), (8, mJ y8), (10, mI x10)] _ _ _ from
  mm_E.iload (mm_atc mc104 rfl) rfl <|
  mm_E.if1 (mm_atc mc104 rfl) (by decide) (ic_eqT (by decide)) rfl <|
  mm_E.aload_n (mm_atc mc104 rfl) rfl <|
  mm_E.iload (mm_atc mc104 rfl) rfl <|
  mm_E.i2l h0 (mm_atc mc104 rfl) <|
  mm_E.lconst (z := 1) (mm_atc mc104 rfl) rfl <|
  mm_E.ladd (mm_atc mc104 rfl) <|
  mm_E.iload (mm_atc mc104 rfl) rfl <|
  mm_E.i2l h16 (mm_atc mc104 rfl) <|
  mm_E.lmul (mm_atc mc104 rfl) <|
  mm_E.lconst (z := 1) (mm_atc mc104 rfl) rfl <|
  mm_E.callV0 (mm_atc mc104 rfl) (mm_plc mp104 rfl) rfl mk103 ly77 rfl mx103 rfl rfl s0 (by omega) <|
  show mm_E _ _ 104 130 _ _ _ _ from
  mm_E.iload (mm_atc mc104 rfl) rfl <|
  mm_E.if1 (mm_atc mc104 rfl) (by decide) (ic_eqF (by decide)) rfl <|
  mm_E.aload_n (mm_atc mc104 rfl) rfl <|
  mm_E.lload_n (mm_atc mc104 rfl) rfl <|
  mm_E.lneg (mm_atc mc104 rfl) <|
  mm_E.iload (mm_atc mc104 rfl) rfl <|
  mm_E.i2l h16 (mm_atc mc104 rfl) <|
  mm_E.lmul (mm_atc mc104 rfl) <|
  mm_E.lload (mm_atc mc104 rfl) rfl <|
  mm_E.callV0 (mm_atc mc104 rfl) (mm_plc mp104 rfl) rfl mk103 ly77 rfl mx103 rfl rfl s1 (by omega) <|
  show mm_E _ _ 104 147 _ _ _ _ from
  mm_E.goto (mm_atc mc104 rfl) rfl <|
  mm_E.inc mx104 rfl (mm_atc mc104 rfl) rfl <|
  show mm_E _ _ 104 166 [(10, mI (x10 + 1)), (13, mI (A 88 ((16 * x1) + x10))), (12, mI 0), (11, mI 1), (0, .ref 77), (1, mI x1), (2, mJ y2), (4, mJ y4), (6, mJ y6), (8, mJ y8)] _ _ _ from
  mm_E.goto (mm_atc mc104 rfl) rfl <|
  mm_E.to h ⟨rfl, rfl, rfl, rfl, rfl, rfl, rfl, trivial⟩
theorem p104_9_10 {w d : Nat} {X : List Value} {A : MF} {r : MR} {x1 y2 y4 y6 y8 x10 : Int} (H : R32 x10 ∧ R32 (A 77 15) ∧ x10 < A 77 15 ∧ R64 y2 ∧ R64 (x10 * y4) ∧ x10 * y4 < y2 ∧ R32 (x10 + 1) ∧ R64 y6 ∧ R64 ((x10 + 1) * y8) ∧ y6 < (x10 + 1) * y8 ∧ R64 ((x10 + 1) * y4) ∧ (x10 + 1) * y4 ≤ y2) (h : mm_E w d 104 9 [(0, .ref 77), (1, mI x1), (2, mJ y2), (4, mJ y4), (6, mJ y6), (8, mJ y8), (10, mI (x10 + 1))] [] (mm_w X A) r) : mm_E w d 104 9 [(0, .ref 77), (1, mI x1), (2, mJ y2), (4, mJ y4), (6, mJ y6), (8, mJ y8), (10, mI x10)] [] (mm_w X A) r := by
  obtain ⟨h0, h1, h2, h3, h4, h5, h6, h7, h8, h9, h10, h11⟩ := H
  exact mm_E.iload (mm_atc mc104 rfl) rfl <|
  mm_E.aload_n (mm_atc mc104 rfl) rfl <|
  mm_E.getI (z := A 77 15) (mm_atc mc104 rfl) (mm_plc mp104 rfl) rfl ly77 rfl (rfl) <|
  mm_E.if2 (mm_atc mc104 rfl) h0 h1 (ic_geF h2) rfl <|
  mm_E.lload_n (mm_atc mc104 rfl) rfl <|
  mm_E.iload (mm_atc mc104 rfl) rfl <|
  mm_E.i2l h0 (mm_atc mc104 rfl) <|
  mm_E.lload (mm_atc mc104 rfl) rfl <|
  mm_E.lmul (mm_atc mc104 rfl) <|
  mm_E.lif (mm_atc mc104 rfl) (mm_atc mc104 rfl) h3 h4 (ic_leF h5) rfl <|
  mm_E.iconst (mm_atc mc104 rfl) <|
  mm_E.goto (mm_atc mc104 rfl) rfl <|
  mm_E.istore mx104 rfl (mm_atc mc104 rfl) <|
  show mm_E _ _ 104 36 [(11, mI 1), (0, .ref 77), (1, mI x1), (2, mJ y2), (4, mJ y4), (6, mJ y6), (8, mJ y8), (10, mI x10)] _ _ _ from
  mm_E.lload (mm_atc mc104 rfl) rfl <|
  mm_E.iload (mm_atc mc104 rfl) rfl <|
  mm_E.iconst (mm_atc mc104 rfl) <|
  mm_E.iadd (mm_atc mc104 rfl) <|
  mm_E.i2l h6 (mm_atc mc104 rfl) <|
  mm_E.lload (mm_atc mc104 rfl) rfl <|
  mm_E.lmul (mm_atc mc104 rfl) <|
  mm_E.lif (mm_atc mc104 rfl) (mm_atc mc104 rfl) h7 h8 (ic_geF h9) rfl <|
  mm_E.iconst (mm_atc mc104 rfl) <|
  mm_E.goto (mm_atc mc104 rfl) rfl <|
  mm_E.istore mx104 rfl (mm_atc mc104 rfl) <|
  show mm_E _ _ 104 57 [(12, mI 1), (11, mI 1), (0, .ref 77), (1, mI x1), (2, mJ y2), (4, mJ y4), (6, mJ y6), (8, mJ y8), (10, mI x10)] _ _ _ from
  mm_E.lload_n (mm_atc mc104 rfl) rfl <|
  mm_E.iload (mm_atc mc104 rfl) rfl <|
  mm_E.iconst (mm_atc mc104 rfl) <|
  mm_E.iadd (mm_atc mc104 rfl) <|
  mm_E.i2l h6 (mm_atc mc104 rfl) <|
  mm_E.lload (mm_atc mc104 rfl) rfl <|
  mm_E.lmul (mm_atc mc104 rfl) <|
  mm_E.lif (mm_atc mc104 rfl) (mm_atc mc104 rfl) h3 h10 (ic_geT h11) rfl <|
  mm_E.inc mx104 rfl (mm_atc mc104 rfl) rfl <|
  show mm_E _ _ 104 166 [(10, mI (x10 + 1)), (12, mI 1), (11, mI 1), (0, .ref 77), (1, mI x1), (2, mJ y2), (4, mJ y4), (6, mJ y6), (8, mJ y8)] _ _ _ from
  mm_E.goto (mm_atc mc104 rfl) rfl <|
  mm_E.to h ⟨rfl, rfl, rfl, rfl, rfl, rfl, rfl, trivial⟩
theorem p104_9_11 {w d : Nat} {X : List Value} {A : MF} {r : MR} {x1 y2 y4 y6 y8 x10 : Int} (H : R32 x10 ∧ R32 (A 77 15) ∧ x10 < A 77 15 ∧ R64 y2 ∧ R64 (x10 * y4) ∧ x10 * y4 < y2 ∧ R32 (x10 + 1) ∧ R64 y6 ∧ R64 ((x10 + 1) * y8) ∧ y6 < (x10 + 1) * y8 ∧ R64 ((x10 + 1) * y4) ∧ y2 < (x10 + 1) * y4 ∧ R64 (x10 * y8) ∧ y6 ≤ x10 * y8) (h : mm_E w d 104 9 [(0, .ref 77), (1, mI x1), (2, mJ y2), (4, mJ y4), (6, mJ y6), (8, mJ y8), (10, mI (x10 + 1))] [] (mm_w X A) r) : mm_E w d 104 9 [(0, .ref 77), (1, mI x1), (2, mJ y2), (4, mJ y4), (6, mJ y6), (8, mJ y8), (10, mI x10)] [] (mm_w X A) r := by
  obtain ⟨h0, h1, h2, h3, h4, h5, h6, h7, h8, h9, h10, h11, h12, h13⟩ := H
  exact mm_E.iload (mm_atc mc104 rfl) rfl <|
  mm_E.aload_n (mm_atc mc104 rfl) rfl <|
  mm_E.getI (z := A 77 15) (mm_atc mc104 rfl) (mm_plc mp104 rfl) rfl ly77 rfl (rfl) <|
  mm_E.if2 (mm_atc mc104 rfl) h0 h1 (ic_geF h2) rfl <|
  mm_E.lload_n (mm_atc mc104 rfl) rfl <|
  mm_E.iload (mm_atc mc104 rfl) rfl <|
  mm_E.i2l h0 (mm_atc mc104 rfl) <|
  mm_E.lload (mm_atc mc104 rfl) rfl <|
  mm_E.lmul (mm_atc mc104 rfl) <|
  mm_E.lif (mm_atc mc104 rfl) (mm_atc mc104 rfl) h3 h4 (ic_leF h5) rfl <|
  mm_E.iconst (mm_atc mc104 rfl) <|
  mm_E.goto (mm_atc mc104 rfl) rfl <|
  mm_E.istore mx104 rfl (mm_atc mc104 rfl) <|
  show mm_E _ _ 104 36 [(11, mI 1), (0, .ref 77), (1, mI x1), (2, mJ y2), (4, mJ y4), (6, mJ y6), (8, mJ y8), (10, mI x10)] _ _ _ from
  mm_E.lload (mm_atc mc104 rfl) rfl <|
  mm_E.iload (mm_atc mc104 rfl) rfl <|
  mm_E.iconst (mm_atc mc104 rfl) <|
  mm_E.iadd (mm_atc mc104 rfl) <|
  mm_E.i2l h6 (mm_atc mc104 rfl) <|
  mm_E.lload (mm_atc mc104 rfl) rfl <|
  mm_E.lmul (mm_atc mc104 rfl) <|
  mm_E.lif (mm_atc mc104 rfl) (mm_atc mc104 rfl) h7 h8 (ic_geF h9) rfl <|
  mm_E.iconst (mm_atc mc104 rfl) <|
  mm_E.goto (mm_atc mc104 rfl) rfl <|
  mm_E.istore mx104 rfl (mm_atc mc104 rfl) <|
  show mm_E _ _ 104 57 [(12, mI 1), (11, mI 1), (0, .ref 77), (1, mI x1), (2, mJ y2), (4, mJ y4), (6, mJ y6), (8, mJ y8), (10, mI x10)] _ _ _ from
  mm_E.lload_n (mm_atc mc104 rfl) rfl <|
  mm_E.iload (mm_atc mc104 rfl) rfl <|
  mm_E.iconst (mm_atc mc104 rfl) <|
  mm_E.iadd (mm_atc mc104 rfl) <|
  mm_E.i2l h6 (mm_atc mc104 rfl) <|
  mm_E.lload (mm_atc mc104 rfl) rfl <|
  mm_E.lmul (mm_atc mc104 rfl) <|
  mm_E.lif (mm_atc mc104 rfl) (mm_atc mc104 rfl) h3 h10 (ic_geF h11) rfl <|
  mm_E.lload (mm_atc mc104 rfl) rfl <|
  mm_E.iload (mm_atc mc104 rfl) rfl <|
  mm_E.i2l h0 (mm_atc mc104 rfl) <|
  mm_E.lload (mm_atc mc104 rfl) rfl <|
  mm_E.lmul (mm_atc mc104 rfl) <|
  mm_E.lif (mm_atc mc104 rfl) (mm_atc mc104 rfl) h7 h12 (ic_leT h13) rfl <|
  mm_E.inc mx104 rfl (mm_atc mc104 rfl) rfl <|
  show mm_E _ _ 104 166 [(10, mI (x10 + 1)), (12, mI 1), (11, mI 1), (0, .ref 77), (1, mI x1), (2, mJ y2), (4, mJ y4), (6, mJ y6), (8, mJ y8)] _ _ _ from
  mm_E.goto (mm_atc mc104 rfl) rfl <|
  mm_E.to h ⟨rfl, rfl, rfl, rfl, rfl, rfl, rfl, trivial⟩
theorem p104_9_12 {d : Nat} {X : List Value} {A : MF} {r : MR} {x1 y2 y4 y6 y8 x10 : Int} {A0 A1 : MF} (s0 : mm_E 1 d 103 0 [(0, .ref 77), (1, mJ (y6 * (A 88 ((16 * x1) + x10)))), (3, mJ y8)] [] (mm_w X A) (.inl (none), mm_w X A0, 0, 0)) (s1 : mm_E 1 d 103 0 [(0, .ref 77), (1, mJ ((-y2) * (A 88 ((16 * x1) + x10)))), (3, mJ y4)] [] (mm_w X A0) (.inl (none), mm_w X A1, 0, 0)) (H : R32 x10 ∧ R32 (A 77 15) ∧ x10 < A 77 15 ∧ R64 y2 ∧ R64 (x10 * y4) ∧ x10 * y4 < y2 ∧ R32 (x10 + 1) ∧ R64 y6 ∧ R64 ((x10 + 1) * y8) ∧ y6 < (x10 + 1) * y8 ∧ R64 ((x10 + 1) * y4) ∧ y2 < (x10 + 1) * y4 ∧ R64 (x10 * y8) ∧ x10 * y8 < y6 ∧ 0 ≤ (16 * x1) + x10 ∧ (16 * x1) + x10 < 96 ∧ R32 (A 88 ((16 * x1) + x10))) (h : mm_E 1 (d + 1) 104 9 [(0, .ref 77), (1, mI x1), (2, mJ y2), (4, mJ y4), (6, mJ y6), (8, mJ y8), (10, mI (x10 + 1))] [] (mm_w X A1) r) : mm_E 1 (d + 1) 104 9 [(0, .ref 77), (1, mI x1), (2, mJ y2), (4, mJ y4), (6, mJ y6), (8, mJ y8), (10, mI x10)] [] (mm_w X A) r := by
  obtain ⟨h0, h1, h2, h3, h4, h5, h6, h7, h8, h9, h10, h11, h12, h13, h14, h15, h16⟩ := H
  exact mm_E.iload (mm_atc mc104 rfl) rfl <|
  mm_E.aload_n (mm_atc mc104 rfl) rfl <|
  mm_E.getI (z := A 77 15) (mm_atc mc104 rfl) (mm_plc mp104 rfl) rfl ly77 rfl (rfl) <|
  mm_E.if2 (mm_atc mc104 rfl) h0 h1 (ic_geF h2) rfl <|
  mm_E.lload_n (mm_atc mc104 rfl) rfl <|
  mm_E.iload (mm_atc mc104 rfl) rfl <|
  mm_E.i2l h0 (mm_atc mc104 rfl) <|
  mm_E.lload (mm_atc mc104 rfl) rfl <|
  mm_E.lmul (mm_atc mc104 rfl) <|
  mm_E.lif (mm_atc mc104 rfl) (mm_atc mc104 rfl) h3 h4 (ic_leF h5) rfl <|
  mm_E.iconst (mm_atc mc104 rfl) <|
  mm_E.goto (mm_atc mc104 rfl) rfl <|
  mm_E.istore mx104 rfl (mm_atc mc104 rfl) <|
  show mm_E _ _ 104 36 [(11, mI 1), (0, .ref 77), (1, mI x1), (2, mJ y2), (4, mJ y4), (6, mJ y6), (8, mJ y8), (10, mI x10)] _ _ _ from
  mm_E.lload (mm_atc mc104 rfl) rfl <|
  mm_E.iload (mm_atc mc104 rfl) rfl <|
  mm_E.iconst (mm_atc mc104 rfl) <|
  mm_E.iadd (mm_atc mc104 rfl) <|
  mm_E.i2l h6 (mm_atc mc104 rfl) <|
  mm_E.lload (mm_atc mc104 rfl) rfl <|
  mm_E.lmul (mm_atc mc104 rfl) <|
  mm_E.lif (mm_atc mc104 rfl) (mm_atc mc104 rfl) h7 h8 (ic_geF h9) rfl <|
  mm_E.iconst (mm_atc mc104 rfl) <|
  mm_E.goto (mm_atc mc104 rfl) rfl <|
  mm_E.istore mx104 rfl (mm_atc mc104 rfl) <|
  show mm_E _ _ 104 57 [(12, mI 1), (11, mI 1), (0, .ref 77), (1, mI x1), (2, mJ y2), (4, mJ y4), (6, mJ y6), (8, mJ y8), (10, mI x10)] _ _ _ from
  mm_E.lload_n (mm_atc mc104 rfl) rfl <|
  mm_E.iload (mm_atc mc104 rfl) rfl <|
  mm_E.iconst (mm_atc mc104 rfl) <|
  mm_E.iadd (mm_atc mc104 rfl) <|
  mm_E.i2l h6 (mm_atc mc104 rfl) <|
  mm_E.lload (mm_atc mc104 rfl) rfl <|
  mm_E.lmul (mm_atc mc104 rfl) <|
  mm_E.lif (mm_atc mc104 rfl) (mm_atc mc104 rfl) h3 h10 (ic_geF h11) rfl <|
  mm_E.lload (mm_atc mc104 rfl) rfl <|
  mm_E.iload (mm_atc mc104 rfl) rfl <|
  mm_E.i2l h0 (mm_atc mc104 rfl) <|
  mm_E.lload (mm_atc mc104 rfl) rfl <|
  mm_E.lmul (mm_atc mc104 rfl) <|
  mm_E.lif (mm_atc mc104 rfl) (mm_atc mc104 rfl) h7 h12 (ic_leF h13) rfl <|
  mm_E.aload_n (mm_atc mc104 rfl) rfl <|
  mm_E.getR (b := 88) (mm_atc mc104 rfl) (mm_plc mp104 rfl) rfl ly77 rfl <|
  mm_E.bipush (mm_atc mc104 rfl) rfl <|
  mm_E.iload_n (mm_atc mc104 rfl) rfl <|
  mm_E.imul (mm_atc mc104 rfl) <|
  mm_E.iload (mm_atc mc104 rfl) rfl <|
  mm_E.iadd (mm_atc mc104 rfl) <|
  mm_E.iaload (e := (16 * x1) + x10) (mm_atc mc104 rfl) ly88 rfl h14 h15 rfl (rfl) <|
  mm_E.istore mx104 rfl (mm_atc mc104 rfl) <|
  show mm_E _ _ 104 96 [(13, mI (A 88 ((16 * x1) + x10))), (12, mI 1), (11, mI 1), (0, .ref 77), (1, mI x1), (2, mJ y2), (4, mJ y4), (6, mJ y6), (8, mJ y8), (10, mI x10)] _ _ _ from
  mm_E.iload (mm_atc mc104 rfl) rfl <|
  mm_E.if1 (mm_atc mc104 rfl) (by decide) (ic_eqF (by decide)) rfl <|
  mm_E.aload_n (mm_atc mc104 rfl) rfl <|
  mm_E.lload (mm_atc mc104 rfl) rfl <|
  mm_E.iload (mm_atc mc104 rfl) rfl <|
  mm_E.i2l h16 (mm_atc mc104 rfl) <|
  mm_E.lmul (mm_atc mc104 rfl) <|
  mm_E.lload (mm_atc mc104 rfl) rfl <|
  mm_E.callV0 (mm_atc mc104 rfl) (mm_plc mp104 rfl) rfl mk103 ly77 rfl mx103 rfl rfl s0 (by omega) <|
  show mm_E _ _ 104 113 _ _ _ _ from
  mm_E.goto (mm_atc mc104 rfl) rfl <|
  mm_E.iload (mm_atc mc104 rfl) rfl <|
  mm_E.if1 (mm_atc mc104 rfl) (by decide) (ic_eqF (by decide)) rfl <|
  mm_E.aload_n (mm_atc mc104 rfl) rfl <|
  mm_E.lload_n (mm_atc mc104 rfl) rfl <|
  mm_E.lneg (mm_atc mc104 rfl) <|
  mm_E.iload (mm_atc mc104 rfl) rfl <|
  mm_E.i2l h16 (mm_atc mc104 rfl) <|
  mm_E.lmul (mm_atc mc104 rfl) <|
  mm_E.lload (mm_atc mc104 rfl) rfl <|
  mm_E.callV0 (mm_atc mc104 rfl) (mm_plc mp104 rfl) rfl mk103 ly77 rfl mx103 rfl rfl s1 (by omega) <|
  show mm_E _ _ 104 147 _ _ _ _ from
  mm_E.goto (mm_atc mc104 rfl) rfl <|
  mm_E.inc mx104 rfl (mm_atc mc104 rfl) rfl <|
  show mm_E _ _ 104 166 [(10, mI (x10 + 1)), (13, mI (A 88 ((16 * x1) + x10))), (12, mI 1), (11, mI 1), (0, .ref 77), (1, mI x1), (2, mJ y2), (4, mJ y4), (6, mJ y6), (8, mJ y8)] _ _ _ from
  mm_E.goto (mm_atc mc104 rfl) rfl <|
  mm_E.to h ⟨rfl, rfl, rfl, rfl, rfl, rfl, rfl, trivial⟩
theorem p105_0_0 {w d : Nat} {X : List Value} {A : MF} {r : MR} {x1 y2 y4 y6 y8 : Int} (H : R64 y6 ∧ y6 ≠ 0) (h : mm_E w d 105 18 [(0, .ref 77), (1, mI x1), (2, mJ y2), (4, mJ y4), (6, mJ y6), (8, mJ y8), (10, mI 0)] [] (mm_w X A) r) : mm_E w d 105 0 [(0, .ref 77), (1, mI x1), (2, mJ y2), (4, mJ y4), (6, mJ y6), (8, mJ y8)] [] (mm_w X A) r := by
  obtain ⟨h0, h1⟩ := H
  exact mm_E.lload (mm_atc mc105 rfl) rfl <|
  mm_E.lconst (z := 0) (mm_atc mc105 rfl) rfl <|
  mm_E.lif (mm_atc mc105 rfl) (mm_atc mc105 rfl) h0 (by decide) (ic_neT h1) rfl <|
  mm_E.iconst (mm_atc mc105 rfl) <|
  mm_E.istore mx105 rfl (mm_atc mc105 rfl) <|
  show mm_E _ _ 105 18 [(10, mI 0), (0, .ref 77), (1, mI x1), (2, mJ y2), (4, mJ y4), (6, mJ y6), (8, mJ y8)] _ _ _ from
  mm_E.to h ⟨rfl, rfl, rfl, rfl, rfl, rfl, rfl, trivial⟩
theorem p105_0_1 {d : Nat} {X : List Value} {A : MF} {x1 y2 y4 y6 y8 : Int} {A0 : MF} (s0 : mm_E 1 d 102 0 [(0, .ref 77), (1, mJ y2), (3, mJ y4)] [] (mm_w X A) (.inl (none), mm_w X A0, 0, 0)) (H : R64 y6 ∧ y6 = 0) : mm_E 1 (d + 1) 105 0 [(0, .ref 77), (1, mI x1), (2, mJ y2), (4, mJ y4), (6, mJ y6), (8, mJ y8)] [] (mm_w X A) (.inl (none), mm_w X A0, 0, 0) := by
  obtain ⟨h0, h1⟩ := H
  exact mm_E.lload (mm_atc mc105 rfl) rfl <|
  mm_E.lconst (z := 0) (mm_atc mc105 rfl) rfl <|
  mm_E.lif (mm_atc mc105 rfl) (mm_atc mc105 rfl) h0 (by decide) (ic_neF h1) rfl <|
  mm_E.aload_n (mm_atc mc105 rfl) rfl <|
  mm_E.lload_n (mm_atc mc105 rfl) rfl <|
  mm_E.lload (mm_atc mc105 rfl) rfl <|
  mm_E.callV0 (mm_atc mc105 rfl) (mm_plc mp105 rfl) rfl mk102 ly77 rfl mx102 rfl rfl s0 (by omega) <|
  show mm_E _ _ 105 14 _ _ _ _ from
  mm_E.vret (mm_atc mc105 rfl) mr105
theorem p105_18_0 {d : Nat} {X : List Value} {A : MF} {x1 y2 y4 y6 y8 x10 : Int} {A0 : MF} (s0 : mm_E 1 d 102 0 [(0, .ref 77), (1, mJ (A 77 15)), (3, mJ 1)] [] (mm_w X A) (.inl (none), mm_w X A0, 0, 0)) (H : R32 x10 ∧ R32 (A 77 15) ∧ A 77 15 ≤ x10) : mm_E 1 (d + 1) 105 18 [(0, .ref 77), (1, mI x1), (2, mJ y2), (4, mJ y4), (6, mJ y6), (8, mJ y8), (10, mI x10)] [] (mm_w X A) (.inl (none), mm_w X A0, 0, 0) := by
  obtain ⟨h0, h1, h2⟩ := H
  exact mm_E.iload (mm_atc mc105 rfl) rfl <|
  mm_E.aload_n (mm_atc mc105 rfl) rfl <|
  mm_E.getI (z := A 77 15) (mm_atc mc105 rfl) (mm_plc mp105 rfl) rfl ly77 rfl (rfl) <|
  mm_E.if2 (mm_atc mc105 rfl) h0 h1 (ic_geT h2) rfl <|
  mm_E.aload_n (mm_atc mc105 rfl) rfl <|
  mm_E.aload_n (mm_atc mc105 rfl) rfl <|
  mm_E.getI (z := A 77 15) (mm_atc mc105 rfl) (mm_plc mp105 rfl) rfl ly77 rfl (rfl) <|
  mm_E.i2l h1 (mm_atc mc105 rfl) <|
  mm_E.lconst (z := 1) (mm_atc mc105 rfl) rfl <|
  mm_E.callV0 (mm_atc mc105 rfl) (mm_plc mp105 rfl) rfl mk102 ly77 rfl mx102 rfl rfl s0 (by omega) <|
  show mm_E _ _ 105 152 _ _ _ _ from
  mm_E.vret (mm_atc mc105 rfl) mr105
theorem p105_18_1 {d : Nat} {X : List Value} {A : MF} {r : MR} {x1 y2 y4 y6 y8 x10 : Int} {A0 : MF} (s0 : mm_E 1 d 104 0 [(0, .ref 77), (1, mI x1), (2, mJ y2), (4, mJ y4), (6, mJ (x10 + 1)), (8, mJ 1)] [] (mm_w X A) (.inl (none), mm_w X A0, 0, 0)) (H : R32 x10 ∧ R32 (A 77 15) ∧ x10 < A 77 15 ∧ R32 (x10 + 1) ∧ R64 y2 ∧ R64 ((x10 + 1) * y4) ∧ (x10 + 1) * y4 ≤ y2) (h : mm_E 1 (d + 1) 105 18 [(0, .ref 77), (1, mI x1), (2, mJ y2), (4, mJ y4), (6, mJ y6), (8, mJ y8), (10, mI (x10 + 1))] [] (mm_w X A0) r) : mm_E 1 (d + 1) 105 18 [(0, .ref 77), (1, mI x1), (2, mJ y2), (4, mJ y4), (6, mJ y6), (8, mJ y8), (10, mI x10)] [] (mm_w X A) r := by
  obtain ⟨h0, h1, h2, h3, h4, h5, h6⟩ := H
  exact mm_E.iload (mm_atc mc105 rfl) rfl <|
  mm_E.aload_n (mm_atc mc105 rfl) rfl <|
  mm_E.getI (z := A 77 15) (mm_atc mc105 rfl) (mm_plc mp105 rfl) rfl ly77 rfl (rfl) <|
  mm_E.if2 (mm_atc mc105 rfl) h0 h1 (ic_geF h2) rfl <|
  mm_E.aload_n (mm_atc mc105 rfl) rfl <|
  mm_E.iload_n (mm_atc mc105 rfl) rfl <|
  mm_E.lload_n (mm_atc mc105 rfl) rfl <|
  mm_E.lload (mm_atc mc105 rfl) rfl <|
  mm_E.iload (mm_atc mc105 rfl) rfl <|
  mm_E.i2l h0 (mm_atc mc105 rfl) <|
  mm_E.lconst (z := 1) (mm_atc mc105 rfl) rfl <|
  mm_E.ladd (mm_atc mc105 rfl) <|
  mm_E.lconst (z := 1) (mm_atc mc105 rfl) rfl <|
  mm_E.callV0 (mm_atc mc105 rfl) (mm_plc mp105 rfl) rfl mk104 ly77 rfl mx104 rfl rfl s0 (by omega) <|
  show mm_E _ _ 105 41 _ _ _ _ from
  mm_E.lload_n (mm_atc mc105 rfl) rfl <|
  mm_E.iload (mm_atc mc105 rfl) rfl <|
  mm_E.iconst (mm_atc mc105 rfl) <|
  mm_E.iadd (mm_atc mc105 rfl) <|
  mm_E.i2l h3 (mm_atc mc105 rfl) <|
  mm_E.lload (mm_atc mc105 rfl) rfl <|
  mm_E.lmul (mm_atc mc105 rfl) <|
  mm_E.lif (mm_atc mc105 rfl) (mm_atc mc105 rfl) h4 h5 (ic_geT h6) rfl <|
  mm_E.inc mx105 rfl (mm_atc mc105 rfl) rfl <|
  show mm_E _ _ 105 139 [(10, mI (x10 + 1)), (0, .ref 77), (1, mI x1), (2, mJ y2), (4, mJ y4), (6, mJ y6), (8, mJ y8)] _ _ _ from
  mm_E.goto (mm_atc mc105 rfl) rfl <|
  mm_E.to h ⟨rfl, rfl, rfl, rfl, rfl, rfl, rfl, trivial⟩
theorem p105_18_2 {d : Nat} {X : List Value} {A : MF} {r : MR} {x1 y2 y4 y6 y8 x10 : Int} {A0 : MF} (s0 : mm_E 1 d 104 0 [(0, .ref 77), (1, mI x1), (2, mJ y2), (4, mJ y4), (6, mJ (x10 + 1)), (8, mJ 1)] [] (mm_w X A) (.inl (none), mm_w X A0, 0, 0)) (H : R32 x10 ∧ R32 (A 77 15) ∧ x10 < A 77 15 ∧ R32 (x10 + 1) ∧ R64 y2 ∧ R64 ((x10 + 1) * y4) ∧ y2 < (x10 + 1) * y4 ∧ R64 ((A0 77 24) * y8) ∧ R64 (y6 * (A0 77 25)) ∧ (A0 77 24) * y8 < y6 * (A0 77 25)) (h : mm_E 1 (d + 1) 105 18 [(0, .ref 77), (1, mI x1), (2, mJ y2), (4, mJ y4), (6, mJ y6), (8, mJ y8), (10, mI (x10 + 1))] [] (mm_w X A0) r) : mm_E 1 (d + 1) 105 18 [(0, .ref 77), (1, mI x1), (2, mJ y2), (4, mJ y4), (6, mJ y6), (8, mJ y8), (10, mI x10)] [] (mm_w X A) r := by
  obtain ⟨h0, h1, h2, h3, h4, h5, h6, h7, h8, h9⟩ := H
  exact mm_E.iload (mm_atc mc105 rfl) rfl <|
  mm_E.aload_n (mm_atc mc105 rfl) rfl <|
  mm_E.getI (z := A 77 15) (mm_atc mc105 rfl) (mm_plc mp105 rfl) rfl ly77 rfl (rfl) <|
  mm_E.if2 (mm_atc mc105 rfl) h0 h1 (ic_geF h2) rfl <|
  mm_E.aload_n (mm_atc mc105 rfl) rfl <|
  mm_E.iload_n (mm_atc mc105 rfl) rfl <|
  mm_E.lload_n (mm_atc mc105 rfl) rfl <|
  mm_E.lload (mm_atc mc105 rfl) rfl <|
  mm_E.iload (mm_atc mc105 rfl) rfl <|
  mm_E.i2l h0 (mm_atc mc105 rfl) <|
  mm_E.lconst (z := 1) (mm_atc mc105 rfl) rfl <|
  mm_E.ladd (mm_atc mc105 rfl) <|
  mm_E.lconst (z := 1) (mm_atc mc105 rfl) rfl <|
  mm_E.callV0 (mm_atc mc105 rfl) (mm_plc mp105 rfl) rfl mk104 ly77 rfl mx104 rfl rfl s0 (by omega) <|
  show mm_E _ _ 105 41 _ _ _ _ from
  mm_E.lload_n (mm_atc mc105 rfl) rfl <|
  mm_E.iload (mm_atc mc105 rfl) rfl <|
  mm_E.iconst (mm_atc mc105 rfl) <|
  mm_E.iadd (mm_atc mc105 rfl) <|
  mm_E.i2l h3 (mm_atc mc105 rfl) <|
  mm_E.lload (mm_atc mc105 rfl) rfl <|
  mm_E.lmul (mm_atc mc105 rfl) <|
  mm_E.lif (mm_atc mc105 rfl) (mm_atc mc105 rfl) h4 h5 (ic_geF h6) rfl <|
  mm_E.aload_n (mm_atc mc105 rfl) rfl <|
  mm_E.getJ (z := A0 77 24) (mm_atc mc105 rfl) (mm_plc mp105 rfl) rfl ly77 rfl (rfl) <|
  mm_E.lload (mm_atc mc105 rfl) rfl <|
  mm_E.lmul (mm_atc mc105 rfl) <|
  mm_E.lload (mm_atc mc105 rfl) rfl <|
  mm_E.aload_n (mm_atc mc105 rfl) rfl <|
  mm_E.getJ (z := A0 77 25) (mm_atc mc105 rfl) (mm_plc mp105 rfl) rfl ly77 rfl (rfl) <|
  mm_E.lmul (mm_atc mc105 rfl) <|
  mm_E.lif (mm_atc mc105 rfl) (mm_atc mc105 rfl) h7 h8 (ic_ltT h9) rfl <|
  mm_E.inc mx105 rfl (mm_atc mc105 rfl) rfl <|
  show mm_E _ _ 105 139 [(10, mI (x10 + 1)), (0, .ref 77), (1, mI x1), (2, mJ y2), (4, mJ y4), (6, mJ y6), (8, mJ y8)] _ _ _ from
  mm_E.goto (mm_atc mc105 rfl) rfl <|
  mm_E.to h ⟨rfl, rfl, rfl, rfl, rfl, rfl, rfl, trivial⟩
theorem p105_18_3 {d : Nat} {X : List Value} {A : MF} {x1 y2 y4 y6 y8 x10 : Int} {A0 A1 A2 : MF} (s0 : mm_E 1 d 104 0 [(0, .ref 77), (1, mI x1), (2, mJ y2), (4, mJ y4), (6, mJ (x10 + 1)), (8, mJ 1)] [] (mm_w X A) (.inl (none), mm_w X A0, 0, 0)) (s1 : mm_E 1 d 102 0 [(0, .ref 77), (1, mJ (x10 + 1)), (3, mJ 1)] [] (mm_w X A0) (.inl (none), mm_w X A1, 0, 0)) (s2 : mm_E 1 d 103 0 [(0, .ref 77), (1, mJ (-(((A0 77 24) * y8) - (y6 * (A0 77 25))))), (3, mJ ((y8 * (A0 77 25)) * (A0 88 ((16 * x1) + x10))))] [] (mm_w X A1) (.inl (none), mm_w X A2, 0, 0)) (H : R32 x10 ∧ R32 (A 77 15) ∧ x10 < A 77 15 ∧ R32 (x10 + 1) ∧ R64 y2 ∧ R64 ((x10 + 1) * y4) ∧ y2 < (x10 + 1) * y4 ∧ R64 ((A0 77 24) * y8) ∧ R64 (y6 * (A0 77 25)) ∧ y6 * (A0 77 25) ≤ (A0 77 24) * y8 ∧ 0 ≤ (16 * x1) + x10 ∧ (16 * x1) + x10 < 96 ∧ R32 (A0 88 ((16 * x1) + x10))) : mm_E 1 (d + 1) 105 18 [(0, .ref 77), (1, mI x1), (2, mJ y2), (4, mJ y4), (6, mJ y6), (8, mJ y8), (10, mI x10)] [] (mm_w X A) (.inl (none), mm_w X A2, 0, 0) := by
  obtain ⟨h0, h1, h2, h3, h4, h5, h6, h7, h8, h9, h10, h11, h12⟩ := H
  exact mm_E.iload (mm_atc mc105 rfl) rfl <|
  mm_E.aload_n (mm_atc mc105 rfl) rfl <|
  mm_E.getI (z := A 77 15) (mm_atc mc105 rfl) (mm_plc mp105 rfl) rfl ly77 rfl (rfl) <|
  mm_E.if2 (mm_atc mc105 rfl) h0 h1 (ic_geF h2) rfl <|
  mm_E.aload_n (mm_atc mc105 rfl) rfl <|
  mm_E.iload_n (mm_atc mc105 rfl) rfl <|
  mm_E.lload_n (mm_atc mc105 rfl) rfl <|
  mm_E.lload (mm_atc mc105 rfl) rfl <|
  mm_E.iload (mm_atc mc105 rfl) rfl <|
  mm_E.i2l h0 (mm_atc mc105 rfl) <|
  mm_E.lconst (z := 1) (mm_atc mc105 rfl) rfl <|
  mm_E.ladd (mm_atc mc105 rfl) <|
  mm_E.lconst (z := 1) (mm_atc mc105 rfl) rfl <|
  mm_E.callV0 (mm_atc mc105 rfl) (mm_plc mp105 rfl) rfl mk104 ly77 rfl mx104 rfl rfl s0 (by omega) <|
  show mm_E _ _ 105 41 _ _ _ _ from
  mm_E.lload_n (mm_atc mc105 rfl) rfl <|
  mm_E.iload (mm_atc mc105 rfl) rfl <|
  mm_E.iconst (mm_atc mc105 rfl) <|
  mm_E.iadd (mm_atc mc105 rfl) <|
  mm_E.i2l h3 (mm_atc mc105 rfl) <|
  mm_E.lload (mm_atc mc105 rfl) rfl <|
  mm_E.lmul (mm_atc mc105 rfl) <|
  mm_E.lif (mm_atc mc105 rfl) (mm_atc mc105 rfl) h4 h5 (ic_geF h6) rfl <|
  mm_E.aload_n (mm_atc mc105 rfl) rfl <|
  mm_E.getJ (z := A0 77 24) (mm_atc mc105 rfl) (mm_plc mp105 rfl) rfl ly77 rfl (rfl) <|
  mm_E.lload (mm_atc mc105 rfl) rfl <|
  mm_E.lmul (mm_atc mc105 rfl) <|
  mm_E.lload (mm_atc mc105 rfl) rfl <|
  mm_E.aload_n (mm_atc mc105 rfl) rfl <|
  mm_E.getJ (z := A0 77 25) (mm_atc mc105 rfl) (mm_plc mp105 rfl) rfl ly77 rfl (rfl) <|
  mm_E.lmul (mm_atc mc105 rfl) <|
  mm_E.lif (mm_atc mc105 rfl) (mm_atc mc105 rfl) h7 h8 (ic_ltF h9) rfl <|
  mm_E.aload_n (mm_atc mc105 rfl) rfl <|
  mm_E.getR (b := 88) (mm_atc mc105 rfl) (mm_plc mp105 rfl) rfl ly77 rfl <|
  mm_E.bipush (mm_atc mc105 rfl) rfl <|
  mm_E.iload_n (mm_atc mc105 rfl) rfl <|
  mm_E.imul (mm_atc mc105 rfl) <|
  mm_E.iload (mm_atc mc105 rfl) rfl <|
  mm_E.iadd (mm_atc mc105 rfl) <|
  mm_E.iaload (e := (16 * x1) + x10) (mm_atc mc105 rfl) ly88 rfl h10 h11 rfl (rfl) <|
  mm_E.istore mx105 rfl (mm_atc mc105 rfl) <|
  show mm_E _ _ 105 86 [(11, mI (A0 88 ((16 * x1) + x10))), (0, .ref 77), (1, mI x1), (2, mJ y2), (4, mJ y4), (6, mJ y6), (8, mJ y8), (10, mI x10)] _ _ _ from
  mm_E.aload_n (mm_atc mc105 rfl) rfl <|
  mm_E.getJ (z := A0 77 24) (mm_atc mc105 rfl) (mm_plc mp105 rfl) rfl ly77 rfl (rfl) <|
  mm_E.lload (mm_atc mc105 rfl) rfl <|
  mm_E.lmul (mm_atc mc105 rfl) <|
  mm_E.lload (mm_atc mc105 rfl) rfl <|
  mm_E.aload_n (mm_atc mc105 rfl) rfl <|
  mm_E.getJ (z := A0 77 25) (mm_atc mc105 rfl) (mm_plc mp105 rfl) rfl ly77 rfl (rfl) <|
  mm_E.lmul (mm_atc mc105 rfl) <|
  mm_E.lsub (mm_atc mc105 rfl) <|
  mm_E.lstore mx105 rfl (mm_atc mc105 rfl) <|
  show mm_E _ _ 105 103 [(12, mJ (((A0 77 24) * y8) - (y6 * (A0 77 25)))), (11, mI (A0 88 ((16 * x1) + x10))), (0, .ref 77), (1, mI x1), (2, mJ y2), (4, mJ y4), (6, mJ y6), (8, mJ y8), (10, mI x10)] _ _ _ from
  mm_E.lload (mm_atc mc105 rfl) rfl <|
  mm_E.aload_n (mm_atc mc105 rfl) rfl <|
  mm_E.getJ (z := A0 77 25) (mm_atc mc105 rfl) (mm_plc mp105 rfl) rfl ly77 rfl (rfl) <|
  mm_E.lmul (mm_atc mc105 rfl) <|
  mm_E.iload (mm_atc mc105 rfl) rfl <|
  mm_E.i2l h12 (mm_atc mc105 rfl) <|
  mm_E.lmul (mm_atc mc105 rfl) <|
  mm_E.lstore mx105 rfl (mm_atc mc105 rfl) <|
  show mm_E _ _ 105 116 [(14, mJ ((y8 * (A0 77 25)) * (A0 88 ((16 * x1) + x10)))), (12, mJ (((A0 77 24) * y8) - (y6 * (A0 77 25)))), (11, mI (A0 88 ((16 * x1) + x10))), (0, .ref 77), (1, mI x1), (2, mJ y2), (4, mJ y4), (6, mJ y6), (8, mJ y8), (10, mI x10)] _ _ _ from
  mm_E.aload_n (mm_atc mc105 rfl) rfl <|
  mm_E.iload (mm_atc mc105 rfl) rfl <|
  mm_E.i2l h0 (mm_atc mc105 rfl) <|
  mm_E.lconst (z := 1) (mm_atc mc105 rfl) rfl <|
  mm_E.ladd (mm_atc mc105 rfl) <|
  mm_E.lconst (z := 1) (mm_atc mc105 rfl) rfl <|
  mm_E.callV0 (mm_atc mc105 rfl) (mm_plc mp105 rfl) rfl mk102 ly77 rfl mx102 rfl rfl s1 (by omega) <|
  show mm_E _ _ 105 126 _ _ _ _ from
  mm_E.aload_n (mm_atc mc105 rfl) rfl <|
  mm_E.lload (mm_atc mc105 rfl) rfl <|
  mm_E.lneg (mm_atc mc105 rfl) <|
  mm_E.lload (mm_atc mc105 rfl) rfl <|
  mm_E.callV0 (mm_atc mc105 rfl) (mm_plc mp105 rfl) rfl mk103 ly77 rfl mx103 rfl rfl s2 (by omega) <|
  show mm_E _ _ 105 135 _ _ _ _ from
  mm_E.vret (mm_atc mc105 rfl) mr105
theorem p106_0_0 {w d : Nat} {X : List Value} {A : MF} {r : MR}  (h : mm_E w d 106 20 [(0, .ref 77), (1, mI ((mm_shl 1 (A 77 1)) - 1)), (2, mJ 0), (4, mJ 1), (6, mI (A 77 1))] [] (mm_w X A) r) : mm_E w d 106 0 [(0, .ref 77)] [] (mm_w X A) r := by
  exact mm_E.iconst (mm_atc mc106 rfl) <|
  mm_E.aload_n (mm_atc mc106 rfl) rfl <|
  mm_E.getI (z := A 77 1) (mm_atc mc106 rfl) (mm_plc mp106 rfl) rfl ly77 rfl (rfl) <|
  mm_E.ishl (mm_atc mc106 rfl) <|
  mm_E.iconst (mm_atc mc106 rfl) <|
  mm_E.isub (mm_atc mc106 rfl) <|
  mm_E.istore_n mx106 rfl (mm_atc mc106 rfl) <|
  show mm_E _ _ 106 9 [(1, mI ((mm_shl 1 (A 77 1)) - 1)), (0, .ref 77)] _ _ _ from
  mm_E.lconst (z := 0) (mm_atc mc106 rfl) rfl <|
  mm_E.lstore_n mx106 rfl (mm_atc mc106 rfl) <|
  show mm_E _ _ 106 11 [(2, mJ 0), (1, mI ((mm_shl 1 (A 77 1)) - 1)), (0, .ref 77)] _ _ _ from
  mm_E.lconst (z := 1) (mm_atc mc106 rfl) rfl <|
  mm_E.lstore mx106 rfl (mm_atc mc106 rfl) <|
  show mm_E _ _ 106 14 [(4, mJ 1), (2, mJ 0), (1, mI ((mm_shl 1 (A 77 1)) - 1)), (0, .ref 77)] _ _ _ from
  mm_E.aload_n (mm_atc mc106 rfl) rfl <|
  mm_E.getI (z := A 77 1) (mm_atc mc106 rfl) (mm_plc mp106 rfl) rfl ly77 rfl (rfl) <|
  mm_E.istore mx106 rfl (mm_atc mc106 rfl) <|
  show mm_E _ _ 106 20 [(6, mI (A 77 1)), (4, mJ 1), (2, mJ 0), (1, mI ((mm_shl 1 (A 77 1)) - 1)), (0, .ref 77)] _ _ _ from
  mm_E.to h ⟨rfl, rfl, rfl, rfl, rfl, trivial⟩
theorem p106_20_0 {w d : Nat} {X : List Value} {A : MF} {r : MR} {x1 y2 y4 x6 : Int} (H : R32 x6 ∧ x6 ≤ 1) (h : mm_E w d 106 217 [(0, .ref 77), (1, mI x1), (2, mJ y2), (4, mJ y4), (6, mI 0)] [] (mm_w X A) r) : mm_E w d 106 20 [(0, .ref 77), (1, mI x1), (2, mJ y2), (4, mJ y4), (6, mI x6)] [] (mm_w X A) r := by
  obtain ⟨h0, h1⟩ := H
  exact mm_E.iload (mm_atc mc106 rfl) rfl <|
  mm_E.iconst (mm_atc mc106 rfl) <|
  mm_E.if2 (mm_atc mc106 rfl) h0 (by decide) (ic_leT h1) rfl <|
  mm_E.iconst (mm_atc mc106 rfl) <|
  mm_E.istore mx106 rfl (mm_atc mc106 rfl) <|
  show mm_E _ _ 106 217 [(6, mI 0), (0, .ref 77), (1, mI x1), (2, mJ y2), (4, mJ y4)] _ _ _ from
  mm_E.to h ⟨rfl, rfl, rfl, rfl, rfl, trivial⟩
theorem p106_20_1 {w d : Nat} {X : List Value} {A : MF} {r : MR} {x1 y2 y4 x6 : Int} (H : R32 x6 ∧ 1 < x6) (h : mm_E w d 106 32 [(0, .ref 77), (1, mI x1), (2, mJ y2), (4, mJ y4), (6, mI x6), (7, mI (-1)), (8, mI 0)] [] (mm_w X A) r) : mm_E w d 106 20 [(0, .ref 77), (1, mI x1), (2, mJ y2), (4, mJ y4), (6, mI x6)] [] (mm_w X A) r := by
  obtain ⟨h0, h1⟩ := H
  exact mm_E.iload (mm_atc mc106 rfl) rfl <|
  mm_E.iconst (mm_atc mc106 rfl) <|
  mm_E.if2 (mm_atc mc106 rfl) h0 (by decide) (ic_leF h1) rfl <|
  mm_E.iconst (mm_atc mc106 rfl) <|
  mm_E.istore mx106 rfl (mm_atc mc106 rfl) <|
  show mm_E _ _ 106 29 [(7, mI (-1)), (0, .ref 77), (1, mI x1), (2, mJ y2), (4, mJ y4), (6, mI x6)] _ _ _ from
  mm_E.iconst (mm_atc mc106 rfl) <|
  mm_E.istore mx106 rfl (mm_atc mc106 rfl) <|
  show mm_E _ _ 106 32 [(8, mI 0), (7, mI (-1)), (0, .ref 77), (1, mI x1), (2, mJ y2), (4, mJ y4), (6, mI x6)] _ _ _ from
  mm_E.to h ⟨rfl, rfl, rfl, rfl, rfl, rfl, rfl, trivial⟩
theorem p107_0_0 {d : Nat} {X : List Value} {A : MF} {x1 y2 y4 y6 y8 : Int} (H : 0 ≤ x1 ∧ x1 < 6) : mm_E 1 d 107 0 [(0, .ref 77), (1, mI x1), (2, mJ y2), (4, mJ y4), (6, mJ y6), (8, mJ y8)] [] (mm_w X A) (.inl (none), mm_w X (mm_u (mm_u (mm_u (mm_u A 89 x1 y2) 90 x1 y4) 91 x1 y6) 92 x1 y8), 0, 0) := by
  obtain ⟨h0, h1⟩ := H
  exact mm_E.aload_n (mm_atc mc107 rfl) rfl <|
  mm_E.getR (b := 89) (mm_atc mc107 rfl) (mm_plc mp107 rfl) rfl ly77 rfl <|
  mm_E.iload_n (mm_atc mc107 rfl) rfl <|
  mm_E.lload_n (mm_atc mc107 rfl) rfl <|
  mm_E.lastore (e := x1) (z := y2) (mm_atc mc107 rfl) ly89 rfl h0 h1 rfl rfl <|
  mm_E.aload_n (mm_atc mc107 rfl) rfl <|
  mm_E.getR (b := 90) (mm_atc mc107 rfl) (mm_plc mp107 rfl) rfl ly77 rfl <|
  mm_E.iload_n (mm_atc mc107 rfl) rfl <|
  mm_E.lload (mm_atc mc107 rfl) rfl <|
  mm_E.lastore (e := x1) (z := y4) (mm_atc mc107 rfl) ly90 rfl h0 h1 rfl rfl <|
  mm_E.aload_n (mm_atc mc107 rfl) rfl <|
  mm_E.getR (b := 91) (mm_atc mc107 rfl) (mm_plc mp107 rfl) rfl ly77 rfl <|
  mm_E.iload_n (mm_atc mc107 rfl) rfl <|
  mm_E.lload (mm_atc mc107 rfl) rfl <|
  mm_E.lastore (e := x1) (z := y6) (mm_atc mc107 rfl) ly91 rfl h0 h1 rfl rfl <|
  mm_E.aload_n (mm_atc mc107 rfl) rfl <|
  mm_E.getR (b := 92) (mm_atc mc107 rfl) (mm_plc mp107 rfl) rfl ly77 rfl <|
  mm_E.iload_n (mm_atc mc107 rfl) rfl <|
  mm_E.lload (mm_atc mc107 rfl) rfl <|
  mm_E.lastore (e := x1) (z := y8) (mm_atc mc107 rfl) ly92 rfl h0 h1 rfl rfl <|
  mm_E.vret (mm_atc mc107 rfl) mr107
theorem p106_217_0 {w d : Nat} {X : List Value} {A : MF} {x1 y2 y4 x6 : Int} (H : R32 x6 ∧ R32 (A 77 1) ∧ A 77 1 ≤ x6) : mm_E w d 106 217 [(0, .ref 77), (1, mI x1), (2, mJ y2), (4, mJ y4), (6, mI x6)] [] (mm_w X A) (.inl (none), mm_w X A, 0, 0) := by
  obtain ⟨h0, h1, h2⟩ := H
  exact mm_E.iload (mm_atc mc106 rfl) rfl <|
  mm_E.aload_n (mm_atc mc106 rfl) rfl <|
  mm_E.getI (z := A 77 1) (mm_atc mc106 rfl) (mm_plc mp106 rfl) rfl ly77 rfl (rfl) <|
  mm_E.if2 (mm_atc mc106 rfl) h0 h1 (ic_geT h2) rfl <|
  mm_E.vret (mm_atc mc106 rfl) mr106
theorem p106_217_1 {w d : Nat} {X : List Value} {A : MF} {r : MR} {x1 y2 y4 x6 : Int} (H : R32 x6 ∧ R32 (A 77 1) ∧ x6 < A 77 1 ∧ R32 (mm_and (mm_shr x1 x6) 1) ∧ mm_and (mm_shr x1 x6) 1 ≠ 1) (h : mm_E w d 106 217 [(0, .ref 77), (1, mI x1), (2, mJ y2), (4, mJ y4), (6, mI (x6 + 1))] [] (mm_w X A) r) : mm_E w d 106 217 [(0, .ref 77), (1, mI x1), (2, mJ y2), (4, mJ y4), (6, mI x6)] [] (mm_w X A) r := by
  obtain ⟨h0, h1, h2, h3, h4⟩ := H
  exact mm_E.iload (mm_atc mc106 rfl) rfl <|
  mm_E.aload_n (mm_atc mc106 rfl) rfl <|
  mm_E.getI (z := A 77 1) (mm_atc mc106 rfl) (mm_plc mp106 rfl) rfl ly77 rfl (rfl) <|
  mm_E.if2 (mm_atc mc106 rfl) h0 h1 (ic_geF h2) rfl <|
  mm_E.iload_n (mm_atc mc106 rfl) rfl <|
  mm_E.iload (mm_atc mc106 rfl) rfl <|
  mm_E.ishr (mm_atc mc106 rfl) <|
  mm_E.iconst (mm_atc mc106 rfl) <|
  mm_E.iand (mm_atc mc106 rfl) <|
  mm_E.iconst (mm_atc mc106 rfl) <|
  mm_E.if2 (mm_atc mc106 rfl) h3 (by decide) (ic_neT h4) rfl <|
  mm_E.inc mx106 rfl (mm_atc mc106 rfl) rfl <|
  show mm_E _ _ 106 254 [(6, mI (x6 + 1)), (0, .ref 77), (1, mI x1), (2, mJ y2), (4, mJ y4)] _ _ _ from
  mm_E.goto (mm_atc mc106 rfl) rfl <|
  mm_E.to h ⟨rfl, rfl, rfl, rfl, rfl, trivial⟩
theorem p106_217_2 {d : Nat} {X : List Value} {A : MF} {r : MR} {x1 y2 y4 x6 : Int} (H : R32 x6 ∧ R32 (A 77 1) ∧ x6 < A 77 1 ∧ R32 (mm_and (mm_shr x1 x6) 1) ∧ mm_and (mm_shr x1 x6) 1 = 1 ∧ R32 (A 77 15) ∧ 0 ≤ x6 ∧ x6 < 6) (h : mm_E 1 (d + 1) 106 217 [(0, .ref 77), (1, mI x1), (2, mJ y2), (4, mJ y4), (6, mI (x6 + 1))] [] (mm_w X (mm_u (mm_u (mm_u (mm_u A 89 x6 y2) 90 x6 y4) 91 x6 (A 77 15)) 92 x6 1)) r) : mm_E 1 (d + 1) 106 217 [(0, .ref 77), (1, mI x1), (2, mJ y2), (4, mJ y4), (6, mI x6)] [] (mm_w X A) r := by
  obtain ⟨h0, h1, h2, h3, h4, h5, h6, h7⟩ := H
  exact mm_E.iload (mm_atc mc106 rfl) rfl <|
  mm_E.aload_n (mm_atc mc106 rfl) rfl <|
  mm_E.getI (z := A 77 1) (mm_atc mc106 rfl) (mm_plc mp106 rfl) rfl ly77 rfl (rfl) <|
  mm_E.if2 (mm_atc mc106 rfl) h0 h1 (ic_geF h2) rfl <|
  mm_E.iload_n (mm_atc mc106 rfl) rfl <|
  mm_E.iload (mm_atc mc106 rfl) rfl <|
  mm_E.ishr (mm_atc mc106 rfl) <|
  mm_E.iconst (mm_atc mc106 rfl) <|
  mm_E.iand (mm_atc mc106 rfl) <|
  mm_E.iconst (mm_atc mc106 rfl) <|
  mm_E.if2 (mm_atc mc106 rfl) h3 (by decide) (ic_neF h4) rfl <|
  mm_E.aload_n (mm_atc mc106 rfl) rfl <|
  mm_E.iload (mm_atc mc106 rfl) rfl <|
  mm_E.lload_n (mm_atc mc106 rfl) rfl <|
  mm_E.lload (mm_atc mc106 rfl) rfl <|
  mm_E.aload_n (mm_atc mc106 rfl) rfl <|
  mm_E.getI (z := A 77 15) (mm_atc mc106 rfl) (mm_plc mp106 rfl) rfl ly77 rfl (rfl) <|
  mm_E.i2l h5 (mm_atc mc106 rfl) <|
  mm_E.lconst (z := 1) (mm_atc mc106 rfl) rfl <|
  mm_E.callV0 (mm_atc mc106 rfl) (mm_plc mp106 rfl) rfl mk107 ly77 rfl mx107 rfl rfl (p107_0_0 (d := d) ⟨h6, h7⟩) (by omega) <|
  show mm_E _ _ 106 251 _ _ _ _ from
  mm_E.inc mx106 rfl (mm_atc mc106 rfl) rfl <|
  show mm_E _ _ 106 254 [(6, mI (x6 + 1)), (0, .ref 77), (1, mI x1), (2, mJ y2), (4, mJ y4)] _ _ _ from
  mm_E.goto (mm_atc mc106 rfl) rfl <|
  mm_E.to h ⟨rfl, rfl, rfl, rfl, rfl, trivial⟩
theorem p106_32_0 {d : Nat} {X : List Value} {A : MF} {r : MR} {x1 y2 y4 x6 x7 x8 : Int} (H : R32 x8 ∧ R32 (A 77 1) ∧ A 77 1 ≤ x8 ∧ 0 ≤ x7 ∧ x7 < 6) (h : mm_E 1 (d + 1) 106 20 [(0, .ref 77), (1, mI (mm_and x1 (mm_xor (mm_shl 1 x7) (-1)))), (2, mJ (A 93 x7)), (4, mJ (A 94 x7)), (6, mI (x6 + (-1)))] [] (mm_w X (mm_u (mm_u (mm_u (mm_u A 89 x7 y2) 90 x7 y4) 91 x7 (A 93 x7)) 92 x7 (A 94 x7))) r) : mm_E 1 (d + 1) 106 32 [(0, .ref 77), (1, mI x1), (2, mJ y2), (4, mJ y4), (6, mI x6), (7, mI x7), (8, mI x8)] [] (mm_w X A) r := by
  obtain ⟨h0, h1, h2, h3, h4⟩ := H
  exact mm_E.iload (mm_atc mc106 rfl) rfl <|
  mm_E.aload_n (mm_atc mc106 rfl) rfl <|
  mm_E.getI (z := A 77 1) (mm_atc mc106 rfl) (mm_plc mp106 rfl) rfl ly77 rfl (rfl) <|
  mm_E.if2 (mm_atc mc106 rfl) h0 h1 (ic_geT h2) rfl <|
  mm_E.aload_n (mm_atc mc106 rfl) rfl <|
  mm_E.iload (mm_atc mc106 rfl) rfl <|
  mm_E.lload_n (mm_atc mc106 rfl) rfl <|
  mm_E.lload (mm_atc mc106 rfl) rfl <|
  mm_E.aload_n (mm_atc mc106 rfl) rfl <|
  mm_E.getR (b := 93) (mm_atc mc106 rfl) (mm_plc mp106 rfl) rfl ly77 rfl <|
  mm_E.iload (mm_atc mc106 rfl) rfl <|
  mm_E.laload (e := x7) (mm_atc mc106 rfl) ly93 rfl h3 h4 rfl (rfl) <|
  mm_E.aload_n (mm_atc mc106 rfl) rfl <|
  mm_E.getR (b := 94) (mm_atc mc106 rfl) (mm_plc mp106 rfl) rfl ly77 rfl <|
  mm_E.iload (mm_atc mc106 rfl) rfl <|
  mm_E.laload (e := x7) (mm_atc mc106 rfl) ly94 rfl h3 h4 rfl (rfl) <|
  mm_E.callV0 (mm_atc mc106 rfl) (mm_plc mp106 rfl) rfl mk107 ly77 rfl mx107 rfl rfl (p107_0_0 (d := d) ⟨h3, h4⟩) (by omega) <|
  show mm_E _ _ 106 182 _ _ _ _ from
  mm_E.aload_n (mm_atc mc106 rfl) rfl <|
  mm_E.getR (b := 93) (mm_atc mc106 rfl) (mm_plc mp106 rfl) rfl ly77 rfl <|
  mm_E.iload (mm_atc mc106 rfl) rfl <|
  mm_E.laload (e := x7) (mm_atc mc106 rfl) ly93 rfl h3 h4 rfl ((mm_u_ne (.inl (by decide))).trans ((mm_u_ne (.inl (by decide))).trans ((mm_u_ne (.inl (by decide))).trans ((mm_u_ne (.inl (by decide))).trans (rfl))))) <|
  mm_E.lstore_n mx106 rfl (mm_atc mc106 rfl) <|
  show mm_E _ _ 106 190 [(2, mJ (A 93 x7)), (0, .ref 77), (1, mI x1), (4, mJ y4), (6, mI x6), (7, mI x7), (8, mI x8)] _ _ _ from
  mm_E.aload_n (mm_atc mc106 rfl) rfl <|
  mm_E.getR (b := 94) (mm_atc mc106 rfl) (mm_plc mp106 rfl) rfl ly77 rfl <|
  mm_E.iload (mm_atc mc106 rfl) rfl <|
  mm_E.laload (e := x7) (mm_atc mc106 rfl) ly94 rfl h3 h4 rfl ((mm_u_ne (.inl (by decide))).trans ((mm_u_ne (.inl (by decide))).trans ((mm_u_ne (.inl (by decide))).trans ((mm_u_ne (.inl (by decide))).trans (rfl))))) <|
  mm_E.lstore mx106 rfl (mm_atc mc106 rfl) <|
  show mm_E _ _ 106 199 [(4, mJ (A 94 x7)), (2, mJ (A 93 x7)), (0, .ref 77), (1, mI x1), (6, mI x6), (7, mI x7), (8, mI x8)] _ _ _ from
  mm_E.iload_n (mm_atc mc106 rfl) rfl <|
  mm_E.iconst (mm_atc mc106 rfl) <|
  mm_E.iload (mm_atc mc106 rfl) rfl <|
  mm_E.ishl (mm_atc mc106 rfl) <|
  mm_E.iconst (mm_atc mc106 rfl) <|
  mm_E.ixor (mm_atc mc106 rfl) <|
  mm_E.iand (mm_atc mc106 rfl) <|
  mm_E.istore_n mx106 rfl (mm_atc mc106 rfl) <|
  show mm_E _ _ 106 208 [(1, mI (mm_and x1 (mm_xor (mm_shl 1 x7) (-1)))), (4, mJ (A 94 x7)), (2, mJ (A 93 x7)), (0, .ref 77), (6, mI x6), (7, mI x7), (8, mI x8)] _ _ _ from
  mm_E.inc mx106 rfl (mm_atc mc106 rfl) rfl <|
  show mm_E _ _ 106 211 [(6, mI (x6 + (-1))), (1, mI (mm_and x1 (mm_xor (mm_shl 1 x7) (-1)))), (4, mJ (A 94 x7)), (2, mJ (A 93 x7)), (0, .ref 77), (7, mI x7), (8, mI x8)] _ _ _ from
  mm_E.goto (mm_atc mc106 rfl) rfl <|
  mm_E.to h ⟨rfl, rfl, rfl, rfl, rfl, trivial⟩
theorem p106_32_1 {w d : Nat} {X : List Value} {A : MF} {r : MR} {x1 y2 y4 x6 x7 x8 : Int} (H : R32 x8 ∧ R32 (A 77 1) ∧ x8 < A 77 1 ∧ R32 (mm_and (mm_shr x1 x8) 1) ∧ mm_and (mm_shr x1 x8) 1 ≠ 1) (h : mm_E w d 106 32 [(0, .ref 77), (1, mI x1), (2, mJ y2), (4, mJ y4), (6, mI x6), (7, mI x7), (8, mI (x8 + 1))] [] (mm_w X A) r) : mm_E w d 106 32 [(0, .ref 77), (1, mI x1), (2, mJ y2), (4, mJ y4), (6, mI x6), (7, mI x7), (8, mI x8)] [] (mm_w X A) r := by
  obtain ⟨h0, h1, h2, h3, h4⟩ := H
  exact mm_E.iload (mm_atc mc106 rfl) rfl <|
  mm_E.aload_n (mm_atc mc106 rfl) rfl <|
  mm_E.getI (z := A 77 1) (mm_atc mc106 rfl) (mm_plc mp106 rfl) rfl ly77 rfl (rfl) <|
  mm_E.if2 (mm_atc mc106 rfl) h0 h1 (ic_geF h2) rfl <|
  mm_E.iload_n (mm_atc mc106 rfl) rfl <|
  mm_E.iload (mm_atc mc106 rfl) rfl <|
  mm_E.ishr (mm_atc mc106 rfl) <|
  mm_E.iconst (mm_atc mc106 rfl) <|
  mm_E.iand (mm_atc mc106 rfl) <|
  mm_E.iconst (mm_atc mc106 rfl) <|
  mm_E.if2 (mm_atc mc106 rfl) h3 (by decide) (ic_neT h4) rfl <|
  mm_E.inc mx106 rfl (mm_atc mc106 rfl) rfl <|
  show mm_E _ _ 106 156 [(8, mI (x8 + 1)), (0, .ref 77), (1, mI x1), (2, mJ y2), (4, mJ y4), (6, mI x6), (7, mI x7)] _ _ _ from
  mm_E.goto (mm_atc mc106 rfl) rfl <|
  mm_E.to h ⟨rfl, rfl, rfl, rfl, rfl, rfl, rfl, trivial⟩
theorem p106_32_2 {d : Nat} {X : List Value} {A : MF} {r : MR} {x1 y2 y4 x6 x7 x8 : Int} {A0 A1 : MF} (s0 : mm_E 1 d 104 0 [(0, .ref 77), (1, mI x8), (2, mJ 0), (4, mJ 1), (6, mJ (A 77 15)), (8, mJ 1)] [] (mm_w X A) (.inl (none), mm_w X A0, 0, 0)) (s1 : mm_E 1 d 105 0 [(0, .ref 77), (1, mI x8), (2, mJ y2), (4, mJ y4), (6, mJ (A0 77 24)), (8, mJ ((A0 77 25) * (A0 77 1)))] [] (mm_w X A0) (.inl (none), mm_w X A1, 0, 0)) (H : R32 x8 ∧ R32 (A 77 1) ∧ x8 < A 77 1 ∧ R32 (mm_and (mm_shr x1 x8) 1) ∧ mm_and (mm_shr x1 x8) 1 = 1 ∧ R32 (A 77 15) ∧ R32 (A0 77 1) ∧ 0 ≤ x8 ∧ x8 < 6 ∧ R32 x7 ∧ x7 < 0) (h : mm_E 1 (d + 1) 106 32 [(0, .ref 77), (1, mI x1), (2, mJ y2), (4, mJ y4), (6, mI x6), (7, mI x8), (8, mI (x8 + 1))] [] (mm_w X (mm_u (mm_u A1 93 x8 (A1 77 24)) 94 x8 (A1 77 25))) r) : mm_E 1 (d + 1) 106 32 [(0, .ref 77), (1, mI x1), (2, mJ y2), (4, mJ y4), (6, mI x6), (7, mI x7), (8, mI x8)] [] (mm_w X A) r := by
  obtain ⟨h0, h1, h2, h3, h4, h5, h6, h7, h8, h9, h10⟩ := H
  exact mm_E.iload (mm_atc mc106 rfl) rfl <|
  mm_E.aload_n (mm_atc mc106 rfl) rfl <|
  mm_E.getI (z := A 77 1) (mm_atc mc106 rfl) (mm_plc mp106 rfl) rfl ly77 rfl (rfl) <|
  mm_E.if2 (mm_atc mc106 rfl) h0 h1 (ic_geF h2) rfl <|
  mm_E.iload_n (mm_atc mc106 rfl) rfl <|
  mm_E.iload (mm_atc mc106 rfl) rfl <|
  mm_E.ishr (mm_atc mc106 rfl) <|
  mm_E.iconst (mm_atc mc106 rfl) <|
  mm_E.iand (mm_atc mc106 rfl) <|
  mm_E.iconst (mm_atc mc106 rfl) <|
  mm_E.if2 (mm_atc mc106 rfl) h3 (by decide) (ic_neF h4) rfl <|
  mm_E.aload_n (mm_atc mc106 rfl) rfl <|
  mm_E.iload (mm_atc mc106 rfl) rfl <|
  mm_E.lconst (z := 0) (mm_atc mc106 rfl) rfl <|
  mm_E.lconst (z := 1) (mm_atc mc106 rfl) rfl <|
  mm_E.aload_n (mm_atc mc106 rfl) rfl <|
  mm_E.getI (z := A 77 15) (mm_atc mc106 rfl) (mm_plc mp106 rfl) rfl ly77 rfl (rfl) <|
  mm_E.i2l h5 (mm_atc mc106 rfl) <|
  mm_E.lconst (z := 1) (mm_atc mc106 rfl) rfl <|
  mm_E.callV0 (mm_atc mc106 rfl) (mm_plc mp106 rfl) rfl mk104 ly77 rfl mx104 rfl rfl s0 (by omega) <|
  show mm_E _ _ 106 65 _ _ _ _ from
  mm_E.aload_n (mm_atc mc106 rfl) rfl <|
  mm_E.iload (mm_atc mc106 rfl) rfl <|
  mm_E.lload_n (mm_atc mc106 rfl) rfl <|
  mm_E.lload (mm_atc mc106 rfl) rfl <|
  mm_E.aload_n (mm_atc mc106 rfl) rfl <|
  mm_E.getJ (z := A0 77 24) (mm_atc mc106 rfl) (mm_plc mp106 rfl) rfl ly77 rfl (rfl) <|
  mm_E.aload_n (mm_atc mc106 rfl) rfl <|
  mm_E.getJ (z := A0 77 25) (mm_atc mc106 rfl) (mm_plc mp106 rfl) rfl ly77 rfl (rfl) <|
  mm_E.aload_n (mm_atc mc106 rfl) rfl <|
  mm_E.getI (z := A0 77 1) (mm_atc mc106 rfl) (mm_plc mp106 rfl) rfl ly77 rfl (rfl) <|
  mm_E.i2l h6 (mm_atc mc106 rfl) <|
  mm_E.lmul (mm_atc mc106 rfl) <|
  mm_E.callV0 (mm_atc mc106 rfl) (mm_plc mp106 rfl) rfl mk105 ly77 rfl mx105 rfl rfl s1 (by omega) <|
  show mm_E _ _ 106 88 _ _ _ _ from
  mm_E.aload_n (mm_atc mc106 rfl) rfl <|
  mm_E.getR (b := 93) (mm_atc mc106 rfl) (mm_plc mp106 rfl) rfl ly77 rfl <|
  mm_E.iload (mm_atc mc106 rfl) rfl <|
  mm_E.aload_n (mm_atc mc106 rfl) rfl <|
  mm_E.getJ (z := A1 77 24) (mm_atc mc106 rfl) (mm_plc mp106 rfl) rfl ly77 rfl (rfl) <|
  mm_E.lastore (e := x8) (z := A1 77 24) (mm_atc mc106 rfl) ly93 rfl h7 h8 rfl rfl <|
  mm_E.aload_n (mm_atc mc106 rfl) rfl <|
  mm_E.getR (b := 94) (mm_atc mc106 rfl) (mm_plc mp106 rfl) rfl ly77 rfl <|
  mm_E.iload (mm_atc mc106 rfl) rfl <|
  mm_E.aload_n (mm_atc mc106 rfl) rfl <|
  mm_E.getJ (z := A1 77 25) (mm_atc mc106 rfl) (mm_plc mp106 rfl) rfl ly77 rfl ((mm_u_ne (.inl (by decide))).trans (rfl)) <|
  mm_E.lastore (e := x8) (z := A1 77 25) (mm_atc mc106 rfl) ly94 rfl h7 h8 rfl rfl <|
  mm_E.iload (mm_atc mc106 rfl) rfl <|
  mm_E.if1 (mm_atc mc106 rfl) h9 (ic_ltT h10) rfl <|
  mm_E.iload (mm_atc mc106 rfl) rfl <|
  mm_E.istore mx106 rfl (mm_atc mc106 rfl) <|
  show mm_E _ _ 106 153 [(7, mI x8), (0, .ref 77), (1, mI x1), (2, mJ y2), (4, mJ y4), (6, mI x6), (8, mI x8)] _ _ _ from
  mm_E.inc mx106 rfl (mm_atc mc106 rfl) rfl <|
  show mm_E _ _ 106 156 [(8, mI (x8 + 1)), (7, mI x8), (0, .ref 77), (1, mI x1), (2, mJ y2), (4, mJ y4), (6, mI x6)] _ _ _ from
  mm_E.goto (mm_atc mc106 rfl) rfl <|
  mm_E.to h ⟨rfl, rfl, rfl, rfl, rfl, rfl, rfl, trivial⟩
theorem p106_32_3 {d : Nat} {X : List Value} {A : MF} {r : MR} {x1 y2 y4 x6 x7 x8 : Int} {A0 A1 : MF} (s0 : mm_E 1 d 104 0 [(0, .ref 77), (1, mI x8), (2, mJ 0), (4, mJ 1), (6, mJ (A 77 15)), (8, mJ 1)] [] (mm_w X A) (.inl (none), mm_w X A0, 0, 0)) (s1 : mm_E 1 d 105 0 [(0, .ref 77), (1, mI x8), (2, mJ y2), (4, mJ y4), (6, mJ (A0 77 24)), (8, mJ ((A0 77 25) * (A0 77 1)))] [] (mm_w X A0) (.inl (none), mm_w X A1, 0, 0)) (H : R32 x8 ∧ R32 (A 77 1) ∧ x8 < A 77 1 ∧ R32 (mm_and (mm_shr x1 x8) 1) ∧ mm_and (mm_shr x1 x8) 1 = 1 ∧ R32 (A 77 15) ∧ R32 (A0 77 1) ∧ 0 ≤ x8 ∧ x8 < 6 ∧ R32 x7 ∧ 0 ≤ x7 ∧ x7 < 6 ∧ R64 ((A1 77 24) * ((mm_u (mm_u A1 93 x8 (A1 77 24)) 94 x8 (A1 77 25)) 94 x7)) ∧ R64 (((mm_u A1 93 x8 (A1 77 24)) 93 x7) * (A1 77 25)) ∧ ((mm_u A1 93 x8 (A1 77 24)) 93 x7) * (A1 77 25) ≤ (A1 77 24) * ((mm_u (mm_u A1 93 x8 (A1 77 24)) 94 x8 (A1 77 25)) 94 x7)) (h : mm_E 1 (d + 1) 106 32 [(0, .ref 77), (1, mI x1), (2, mJ y2), (4, mJ y4), (6, mI x6), (7, mI x7), (8, mI (x8 + 1))] [] (mm_w X (mm_u (mm_u A1 93 x8 (A1 77 24)) 94 x8 (A1 77 25))) r) : mm_E 1 (d + 1) 106 32 [(0, .ref 77), (1, mI x1), (2, mJ y2), (4, mJ y4), (6, mI x6), (7, mI x7), (8, mI x8)] [] (mm_w X A) r := by
  obtain ⟨h0, h1, h2, h3, h4, h5, h6, h7, h8, h9, h10, h11, h12, h13, h14⟩ := H
  exact mm_E.iload (mm_atc mc106 rfl) rfl <|
  mm_E.aload_n (mm_atc mc106 rfl) rfl <|
  mm_E.getI (z := A 77 1) (mm_atc mc106 rfl) (mm_plc mp106 rfl) rfl ly77 rfl (rfl) <|
  mm_E.if2 (mm_atc mc106 rfl) h0 h1 (ic_geF h2) rfl <|
  mm_E.iload_n (mm_atc mc106 rfl) rfl <|
  mm_E.iload (mm_atc mc106 rfl) rfl <|
  mm_E.ishr (mm_atc mc106 rfl) <|
  mm_E.iconst (mm_atc mc106 rfl) <|
  mm_E.iand (mm_atc mc106 rfl) <|
  mm_E.iconst (mm_atc mc106 rfl) <|
  mm_E.if2 (mm_atc mc106 rfl) h3 (by decide) (ic_neF h4) rfl <|
  mm_E.aload_n (mm_atc mc106 rfl) rfl <|
  mm_E.iload (mm_atc mc106 rfl) rfl <|
  mm_E.lconst (z := 0) (mm_atc mc106 rfl) rfl <|
  mm_E.lconst (z := 1) (mm_atc mc106 rfl) rfl <|
  mm_E.aload_n (mm_atc mc106 rfl) rfl <|
  mm_E.getI (z := A 77 15) (mm_atc mc106 rfl) (mm_plc mp106 rfl) rfl ly77 rfl (rfl) <|
  mm_E.i2l h5 (mm_atc mc106 rfl) <|
  mm_E.lconst (z := 1) (mm_atc mc106 rfl) rfl <|
  mm_E.callV0 (mm_atc mc106 rfl) (mm_plc mp106 rfl) rfl mk104 ly77 rfl mx104 rfl rfl s0 (by omega) <|
  show mm_E _ _ 106 65 _ _ _ _ from
  mm_E.aload_n (mm_atc mc106 rfl) rfl <|
  mm_E.iload (mm_atc mc106 rfl) rfl <|
  mm_E.lload_n (mm_atc mc106 rfl) rfl <|
  mm_E.lload (mm_atc mc106 rfl) rfl <|
  mm_E.aload_n (mm_atc mc106 rfl) rfl <|
  mm_E.getJ (z := A0 77 24) (mm_atc mc106 rfl) (mm_plc mp106 rfl) rfl ly77 rfl (rfl) <|
  mm_E.aload_n (mm_atc mc106 rfl) rfl <|
  mm_E.getJ (z := A0 77 25) (mm_atc mc106 rfl) (mm_plc mp106 rfl) rfl ly77 rfl (rfl) <|
  mm_E.aload_n (mm_atc mc106 rfl) rfl <|
  mm_E.getI (z := A0 77 1) (mm_atc mc106 rfl) (mm_plc mp106 rfl) rfl ly77 rfl (rfl) <|
  mm_E.i2l h6 (mm_atc mc106 rfl) <|
  mm_E.lmul (mm_atc mc106 rfl) <|
  mm_E.callV0 (mm_atc mc106 rfl) (mm_plc mp106 rfl) rfl mk105 ly77 rfl mx105 rfl rfl s1 (by omega) <|
  show mm_E _ _ 106 88 _ _ _ _ from
  mm_E.aload_n (mm_atc mc106 rfl) rfl <|
  mm_E.getR (b := 93) (mm_atc mc106 rfl) (mm_plc mp106 rfl) rfl ly77 rfl <|
  mm_E.iload (mm_atc mc106 rfl) rfl <|
  mm_E.aload_n (mm_atc mc106 rfl) rfl <|
  mm_E.getJ (z := A1 77 24) (mm_atc mc106 rfl) (mm_plc mp106 rfl) rfl ly77 rfl (rfl) <|
  mm_E.lastore (e := x8) (z := A1 77 24) (mm_atc mc106 rfl) ly93 rfl h7 h8 rfl rfl <|
  mm_E.aload_n (mm_atc mc106 rfl) rfl <|
  mm_E.getR (b := 94) (mm_atc mc106 rfl) (mm_plc mp106 rfl) rfl ly77 rfl <|
  mm_E.iload (mm_atc mc106 rfl) rfl <|
  mm_E.aload_n (mm_atc mc106 rfl) rfl <|
  mm_E.getJ (z := A1 77 25) (mm_atc mc106 rfl) (mm_plc mp106 rfl) rfl ly77 rfl ((mm_u_ne (.inl (by decide))).trans (rfl)) <|
  mm_E.lastore (e := x8) (z := A1 77 25) (mm_atc mc106 rfl) ly94 rfl h7 h8 rfl rfl <|
  mm_E.iload (mm_atc mc106 rfl) rfl <|
  mm_E.if1 (mm_atc mc106 rfl) h9 (ic_ltF h10) rfl <|
  mm_E.aload_n (mm_atc mc106 rfl) rfl <|
  mm_E.getR (b := 93) (mm_atc mc106 rfl) (mm_plc mp106 rfl) rfl ly77 rfl <|
  mm_E.iload (mm_atc mc106 rfl) rfl <|
  mm_E.laload (e := x8) (mm_atc mc106 rfl) ly93 rfl h7 h8 rfl ((mm_u_ne (.inl (by decide))).trans (mm_u_same)) <|
  mm_E.aload_n (mm_atc mc106 rfl) rfl <|
  mm_E.getR (b := 94) (mm_atc mc106 rfl) (mm_plc mp106 rfl) rfl ly77 rfl <|
  mm_E.iload (mm_atc mc106 rfl) rfl <|
  mm_E.laload (e := x7) (mm_atc mc106 rfl) ly94 rfl h10 h11 rfl (rfl) <|
  mm_E.lmul (mm_atc mc106 rfl) <|
  mm_E.aload_n (mm_atc mc106 rfl) rfl <|
  mm_E.getR (b := 93) (mm_atc mc106 rfl) (mm_plc mp106 rfl) rfl ly77 rfl <|
  mm_E.iload (mm_atc mc106 rfl) rfl <|
  mm_E.laload (e := x7) (mm_atc mc106 rfl) ly93 rfl h10 h11 rfl ((mm_u_ne (.inl (by decide))).trans (rfl)) <|
  mm_E.aload_n (mm_atc mc106 rfl) rfl <|
  mm_E.getR (b := 94) (mm_atc mc106 rfl) (mm_plc mp106 rfl) rfl ly77 rfl <|
  mm_E.iload (mm_atc mc106 rfl) rfl <|
  mm_E.laload (e := x8) (mm_atc mc106 rfl) ly94 rfl h7 h8 rfl (mm_u_same) <|
  mm_E.lmul (mm_atc mc106 rfl) <|
  mm_E.lif (mm_atc mc106 rfl) (mm_atc mc106 rfl) h12 h13 (ic_geT h14) rfl <|
  mm_E.inc mx106 rfl (mm_atc mc106 rfl) rfl <|
  show mm_E _ _ 106 156 [(8, mI (x8 + 1)), (0, .ref 77), (1, mI x1), (2, mJ y2), (4, mJ y4), (6, mI x6), (7, mI x7)] _ _ _ from
  mm_E.goto (mm_atc mc106 rfl) rfl <|
  mm_E.to h ⟨rfl, rfl, rfl, rfl, rfl, rfl, rfl, trivial⟩
theorem p106_32_4 {d : Nat} {X : List Value} {A : MF} {r : MR} {x1 y2 y4 x6 x7 x8 : Int} {A0 A1 : MF} (s0 : mm_E 1 d 104 0 [(0, .ref 77), (1, mI x8), (2, mJ 0), (4, mJ 1), (6, mJ (A 77 15)), (8, mJ 1)] [] (mm_w X A) (.inl (none), mm_w X A0, 0, 0)) (s1 : mm_E 1 d 105 0 [(0, .ref 77), (1, mI x8), (2, mJ y2), (4, mJ y4), (6, mJ (A0 77 24)), (8, mJ ((A0 77 25) * (A0 77 1)))] [] (mm_w X A0) (.inl (none), mm_w X A1, 0, 0)) (H : R32 x8 ∧ R32 (A 77 1) ∧ x8 < A 77 1 ∧ R32 (mm_and (mm_shr x1 x8) 1) ∧ mm_and (mm_shr x1 x8) 1 = 1 ∧ R32 (A 77 15) ∧ R32 (A0 77 1) ∧ 0 ≤ x8 ∧ x8 < 6 ∧ R32 x7 ∧ 0 ≤ x7 ∧ x7 < 6 ∧ R64 ((A1 77 24) * ((mm_u (mm_u A1 93 x8 (A1 77 24)) 94 x8 (A1 77 25)) 94 x7)) ∧ R64 (((mm_u A1 93 x8 (A1 77 24)) 93 x7) * (A1 77 25)) ∧ (A1 77 24) * ((mm_u (mm_u A1 93 x8 (A1 77 24)) 94 x8 (A1 77 25)) 94 x7) < ((mm_u A1 93 x8 (A1 77 24)) 93 x7) * (A1 77 25)) (h : mm_E 1 (d + 1) 106 32 [(0, .ref 77), (1, mI x1), (2, mJ y2), (4, mJ y4), (6, mI x6), (7, mI x8), (8, mI (x8 + 1))] [] (mm_w X (mm_u (mm_u A1 93 x8 (A1 77 24)) 94 x8 (A1 77 25))) r) : mm_E 1 (d + 1) 106 32 [(0, .ref 77), (1, mI x1), (2, mJ y2), (4, mJ y4), (6, mI x6), (7, mI x7), (8, mI x8)] [] (mm_w X A) r := by
  obtain ⟨h0, h1, h2, h3, h4, h5, h6, h7, h8, h9, h10, h11, h12, h13, h14⟩ := H
  exact mm_E.iload (mm_atc mc106 rfl) rfl <|
  mm_E.aload_n (mm_atc mc106 rfl) rfl <|
  mm_E.getI (z := A 77 1) (mm_atc mc106 rfl) (mm_plc mp106 rfl) rfl ly77 rfl (rfl) <|
  mm_E.if2 (mm_atc mc106 rfl) h0 h1 (ic_geF h2) rfl <|
  mm_E.iload_n (mm_atc mc106 rfl) rfl <|
  mm_E.iload (mm_atc mc106 rfl) rfl <|
  mm_E.ishr (mm_atc mc106 rfl) <|
  mm_E.iconst (mm_atc mc106 rfl) <|
  mm_E.iand (mm_atc mc106 rfl) <|
  mm_E.iconst (mm_atc mc106 rfl) <|
  mm_E.if2 (mm_atc mc106 rfl) h3 (by decide) (ic_neF h4) rfl <|
  mm_E.aload_n (mm_atc mc106 rfl) rfl <|
  mm_E.iload (mm_atc mc106 rfl) rfl <|
  mm_E.lconst (z := 0) (mm_atc mc106 rfl) rfl <|
  mm_E.lconst (z := 1) (mm_atc mc106 rfl) rfl <|
  mm_E.aload_n (mm_atc mc106 rfl) rfl <|
  mm_E.getI (z := A 77 15) (mm_atc mc106 rfl) (mm_plc mp106 rfl) rfl ly77 rfl (rfl) <|
  mm_E.i2l h5 (mm_atc mc106 rfl) <|
  mm_E.lconst (z := 1) (mm_atc mc106 rfl) rfl <|
  mm_E.callV0 (mm_atc mc106 rfl) (mm_plc mp106 rfl) rfl mk104 ly77 rfl mx104 rfl rfl s0 (by omega) <|
  show mm_E _ _ 106 65 _ _ _ _ from
  mm_E.aload_n (mm_atc mc106 rfl) rfl <|
  mm_E.iload (mm_atc mc106 rfl) rfl <|
  mm_E.lload_n (mm_atc mc106 rfl) rfl <|
  mm_E.lload (mm_atc mc106 rfl) rfl <|
  mm_E.aload_n (mm_atc mc106 rfl) rfl <|
  mm_E.getJ (z := A0 77 24) (mm_atc mc106 rfl) (mm_plc mp106 rfl) rfl ly77 rfl (rfl) <|
  mm_E.aload_n (mm_atc mc106 rfl) rfl <|
  mm_E.getJ (z := A0 77 25) (mm_atc mc106 rfl) (mm_plc mp106 rfl) rfl ly77 rfl (rfl) <|
  mm_E.aload_n (mm_atc mc106 rfl) rfl <|
  mm_E.getI (z := A0 77 1) (mm_atc mc106 rfl) (mm_plc mp106 rfl) rfl ly77 rfl (rfl) <|
  mm_E.i2l h6 (mm_atc mc106 rfl) <|
  mm_E.lmul (mm_atc mc106 rfl) <|
  mm_E.callV0 (mm_atc mc106 rfl) (mm_plc mp106 rfl) rfl mk105 ly77 rfl mx105 rfl rfl s1 (by omega) <|
  show mm_E _ _ 106 88 _ _ _ _ from
  mm_E.aload_n (mm_atc mc106 rfl) rfl <|
  mm_E.getR (b := 93) (mm_atc mc106 rfl) (mm_plc mp106 rfl) rfl ly77 rfl <|
  mm_E.iload (mm_atc mc106 rfl) rfl <|
  mm_E.aload_n (mm_atc mc106 rfl) rfl <|
  mm_E.getJ (z := A1 77 24) (mm_atc mc106 rfl) (mm_plc mp106 rfl) rfl ly77 rfl (rfl) <|
  mm_E.lastore (e := x8) (z := A1 77 24) (mm_atc mc106 rfl) ly93 rfl h7 h8 rfl rfl <|
  mm_E.aload_n (mm_atc mc106 rfl) rfl <|
  mm_E.getR (b := 94) (mm_atc mc106 rfl) (mm_plc mp106 rfl) rfl ly77 rfl <|
  mm_E.iload (mm_atc mc106 rfl) rfl <|
  mm_E.aload_n (mm_atc mc106 rfl) rfl <|
  mm_E.getJ (z := A1 77 25) (mm_atc mc106 rfl) (mm_plc mp106 rfl) rfl ly77 rfl ((mm_u_ne (.inl (by decide))).trans (rfl)) <|
  mm_E.lastore (e := x8) (z := A1 77 25) (mm_atc mc106 rfl) ly94 rfl h7 h8 rfl rfl <|
  mm_E.iload (mm_atc mc106 rfl) rfl <|
  mm_E.if1 (mm_atc mc106 rfl) h9 (ic_ltF h10) rfl <|
  mm_E.aload_n (mm_atc mc106 rfl) rfl <|
  mm_E.getR (b := 93) (mm_atc mc106 rfl) (mm_plc mp106 rfl) rfl ly77 rfl <|
  mm_E.iload (mm_atc mc106 rfl) rfl <|
  mm_E.laload (e := x8) (mm_atc mc106 rfl) ly93 rfl h7 h8 rfl ((mm_u_ne (.inl (by decide))).trans (mm_u_same)) <|
  mm_E.aload_n (mm_atc mc106 rfl) rfl <|
  mm_E.getR (b := 94) (mm_atc mc106 rfl) (mm_plc mp106 rfl) rfl ly77 rfl <|
  mm_E.iload (mm_atc mc106 rfl) rfl <|
  mm_E.laload (e := x7) (mm_atc mc106 rfl) ly94 rfl h10 h11 rfl (rfl) <|
  mm_E.lmul (mm_atc mc106 rfl) <|
  mm_E.aload_n (mm_atc mc106 rfl) rfl <|
  mm_E.getR (b := 93) (mm_atc mc106 rfl) (mm_plc mp106 rfl) rfl ly77 rfl <|
  mm_E.iload (mm_atc mc106 rfl) rfl <|
  mm_E.laload (e := x7) (mm_atc mc106 rfl) ly93 rfl h10 h11 rfl ((mm_u_ne (.inl (by decide))).trans (rfl)) <|
  mm_E.aload_n (mm_atc mc106 rfl) rfl <|
  mm_E.getR (b := 94) (mm_atc mc106 rfl) (mm_plc mp106 rfl) rfl ly77 rfl <|
  mm_E.iload (mm_atc mc106 rfl) rfl <|
  mm_E.laload (e := x8) (mm_atc mc106 rfl) ly94 rfl h7 h8 rfl (mm_u_same) <|
  mm_E.lmul (mm_atc mc106 rfl) <|
  mm_E.lif (mm_atc mc106 rfl) (mm_atc mc106 rfl) h12 h13 (ic_geF h14) rfl <|
  mm_E.iload (mm_atc mc106 rfl) rfl <|
  mm_E.istore mx106 rfl (mm_atc mc106 rfl) <|
  show mm_E _ _ 106 153 [(7, mI x8), (0, .ref 77), (1, mI x1), (2, mJ y2), (4, mJ y4), (6, mI x6), (8, mI x8)] _ _ _ from
  mm_E.inc mx106 rfl (mm_atc mc106 rfl) rfl <|
  show mm_E _ _ 106 156 [(8, mI (x8 + 1)), (7, mI x8), (0, .ref 77), (1, mI x1), (2, mJ y2), (4, mJ y4), (6, mI x6)] _ _ _ from
  mm_E.goto (mm_atc mc106 rfl) rfl <|
  mm_E.to h ⟨rfl, rfl, rfl, rfl, rfl, rfl, rfl, trivial⟩
theorem p108_0_0 {w d : Nat} {X : List Value} {A : MF} {r : MR} {x0 : Int} (h : mm_E w d 108 4 [(0, mI x0), (1, mI 0), (2, mI 0)] [] (mm_w X A) r) : mm_E w d 108 0 [(0, mI x0)] [] (mm_w X A) r := by
  exact mm_E.iconst (mm_atc mc108 rfl) <|
  mm_E.istore_n mx108 rfl (mm_atc mc108 rfl) <|
  show mm_E _ _ 108 2 [(1, mI 0), (0, mI x0)] _ _ _ from
  mm_E.iconst (mm_atc mc108 rfl) <|
  mm_E.istore_n mx108 rfl (mm_atc mc108 rfl) <|
  show mm_E _ _ 108 4 [(2, mI 0), (1, mI 0), (0, mI x0)] _ _ _ from
  mm_E.to h ⟨rfl, rfl, rfl, trivial⟩
theorem p108_4_0 {w d : Nat} {X : List Value} {A : MF} {x0 x1 x2 : Int} (H : R32 x2 ∧ 6 ≤ x2) : mm_E w d 108 4 [(0, mI x0), (1, mI x1), (2, mI x2)] [] (mm_w X A) (.inl (some (mI x1)), mm_w X A, 0, 0) := by
  obtain ⟨h0, h1⟩ := H
  exact mm_E.iload_n (mm_atc mc108 rfl) rfl <|
  mm_E.bipush (mm_atc mc108 rfl) rfl <|
  mm_E.if2 (mm_atc mc108 rfl) h0 (by decide) (ic_geT h1) rfl <|
  mm_E.iload_n (mm_atc mc108 rfl) rfl <|
  mm_E.iret (mm_atc mc108 rfl) mr108 rfl
theorem p108_4_1 {w d : Nat} {X : List Value} {A : MF} {r : MR} {x0 x1 x2 : Int} (H : R32 x2 ∧ x2 < 6) (h : mm_E w d 108 4 [(0, mI x0), (1, mI (x1 + (mm_and (mm_shr x0 x2) 1))), (2, mI (x2 + 1))] [] (mm_w X A) r) : mm_E w d 108 4 [(0, mI x0), (1, mI x1), (2, mI x2)] [] (mm_w X A) r := by
  obtain ⟨h0, h1⟩ := H
  exact mm_E.iload_n (mm_atc mc108 rfl) rfl <|
  mm_E.bipush (mm_atc mc108 rfl) rfl <|
  mm_E.if2 (mm_atc mc108 rfl) h0 (by decide) (ic_geF h1) rfl <|
  mm_E.iload_n (mm_atc mc108 rfl) rfl <|
  mm_E.iload_n (mm_atc mc108 rfl) rfl <|
  mm_E.iload_n (mm_atc mc108 rfl) rfl <|
  mm_E.ishr (mm_atc mc108 rfl) <|
  mm_E.iconst (mm_atc mc108 rfl) <|
  mm_E.iand (mm_atc mc108 rfl) <|
  mm_E.iadd (mm_atc mc108 rfl) <|
  mm_E.istore_n mx108 rfl (mm_atc mc108 rfl) <|
  show mm_E _ _ 108 18 [(1, mI (x1 + (mm_and (mm_shr x0 x2) 1))), (0, mI x0), (2, mI x2)] _ _ _ from
  mm_E.inc mx108 rfl (mm_atc mc108 rfl) rfl <|
  show mm_E _ _ 108 21 [(2, mI (x2 + 1)), (1, mI (x1 + (mm_and (mm_shr x0 x2) 1))), (0, mI x0)] _ _ _ from
  mm_E.goto (mm_atc mc108 rfl) rfl <|
  mm_E.to h ⟨rfl, rfl, rfl, trivial⟩
theorem p109_0_0 {d : Nat} {X : List Value} {A : MF} {r : MR}  (h : mm_E 1 d 109 18 [(0, .ref 77), (1, mI 1), (2, mI 0)] [] (mm_w X (mm_u A 95 0 ((mm_shl 1 (A 77 1)) - 1))) r) : mm_E 1 d 109 0 [(0, .ref 77)] [] (mm_w X A) r := by
  exact mm_E.iconst (mm_atc mc109 rfl) <|
  mm_E.istore_n mx109 rfl (mm_atc mc109 rfl) <|
  show mm_E _ _ 109 2 [(1, mI 1), (0, .ref 77)] _ _ _ from
  mm_E.aload_n (mm_atc mc109 rfl) rfl <|
  mm_E.getR (b := 95) (mm_atc mc109 rfl) (mm_plc mp109 rfl) rfl ly77 rfl <|
  mm_E.iconst (mm_atc mc109 rfl) <|
  mm_E.iconst (mm_atc mc109 rfl) <|
  mm_E.aload_n (mm_atc mc109 rfl) rfl <|
  mm_E.getI (z := A 77 1) (mm_atc mc109 rfl) (mm_plc mp109 rfl) rfl ly77 rfl (rfl) <|
  mm_E.ishl (mm_atc mc109 rfl) <|
  mm_E.iconst (mm_atc mc109 rfl) <|
  mm_E.isub (mm_atc mc109 rfl) <|
  mm_E.iastore (e := 0) (z := (mm_shl 1 (A 77 1)) - 1) (mm_atc mc109 rfl) ly95 rfl (by decide) (by decide) rfl rfl <|
  mm_E.iconst (mm_atc mc109 rfl) <|
  mm_E.istore_n mx109 rfl (mm_atc mc109 rfl) <|
  show mm_E _ _ 109 18 [(2, mI 0), (1, mI 1), (0, .ref 77)] _ _ _ from
  mm_E.to h ⟨rfl, rfl, rfl, trivial⟩
theorem p109_18_0 {w d : Nat} {X : List Value} {A : MF} {r : MR} {x1 x2 : Int} (H : R32 x2 ∧ R32 (A 77 1) ∧ A 77 1 ≤ x2) (h : mm_E w d 109 45 [(0, .ref 77), (1, mI x1)] [] (mm_w X A) r) : mm_E w d 109 18 [(0, .ref 77), (1, mI x1), (2, mI x2)] [] (mm_w X A) r := by
  obtain ⟨h0, h1, h2⟩ := H
  exact mm_E.iload_n (mm_atc mc109 rfl) rfl <|
  mm_E.aload_n (mm_atc mc109 rfl) rfl <|
  mm_E.getI (z := A 77 1) (mm_atc mc109 rfl) (mm_plc mp109 rfl) rfl ly77 rfl (rfl) <|
  mm_E.if2 (mm_atc mc109 rfl) h0 h1 (ic_geT h2) rfl <|
  mm_E.to h ⟨rfl, rfl, trivial⟩
theorem p109_18_1 {d : Nat} {X : List Value} {A : MF} {r : MR} {x1 x2 : Int} (H : R32 x2 ∧ R32 (A 77 1) ∧ x2 < A 77 1 ∧ R32 (A 77 15) ∧ 0 ≤ x2 ∧ x2 < 6) (h : mm_E 1 (d + 1) 109 18 [(0, .ref 77), (1, mI x1), (2, mI (x2 + 1))] [] (mm_w X (mm_u (mm_u (mm_u (mm_u A 89 x2 0) 90 x2 1) 91 x2 (A 77 15)) 92 x2 1)) r) : mm_E 1 (d + 1) 109 18 [(0, .ref 77), (1, mI x1), (2, mI x2)] [] (mm_w X A) r := by
  obtain ⟨h0, h1, h2, h3, h4, h5⟩ := H
  exact mm_E.iload_n (mm_atc mc109 rfl) rfl <|
  mm_E.aload_n (mm_atc mc109 rfl) rfl <|
  mm_E.getI (z := A 77 1) (mm_atc mc109 rfl) (mm_plc mp109 rfl) rfl ly77 rfl (rfl) <|
  mm_E.if2 (mm_atc mc109 rfl) h0 h1 (ic_geF h2) rfl <|
  mm_E.aload_n (mm_atc mc109 rfl) rfl <|
  mm_E.iload_n (mm_atc mc109 rfl) rfl <|
  mm_E.lconst (z := 0) (mm_atc mc109 rfl) rfl <|
  mm_E.lconst (z := 1) (mm_atc mc109 rfl) rfl <|
  mm_E.aload_n (mm_atc mc109 rfl) rfl <|
  mm_E.getI (z := A 77 15) (mm_atc mc109 rfl) (mm_plc mp109 rfl) rfl ly77 rfl (rfl) <|
  mm_E.i2l h3 (mm_atc mc109 rfl) <|
  mm_E.lconst (z := 1) (mm_atc mc109 rfl) rfl <|
  mm_E.callV0 (mm_atc mc109 rfl) (mm_plc mp109 rfl) rfl mk107 ly77 rfl mx107 rfl rfl (p107_0_0 (d := d) ⟨h4, h5⟩) (by omega) <|
  show mm_E _ _ 109 39 _ _ _ _ from
  mm_E.inc mx109 rfl (mm_atc mc109 rfl) rfl <|
  show mm_E _ _ 109 42 [(2, mI (x2 + 1)), (0, .ref 77), (1, mI x1)] _ _ _ from
  mm_E.goto (mm_atc mc109 rfl) rfl <|
  mm_E.to h ⟨rfl, rfl, rfl, trivial⟩
theorem p109_45_0 {w d : Nat} {X : List Value} {A : MF} {x1 : Int} (H : R32 x1 ∧ x1 ≤ 0) : mm_E w d 109 45 [(0, .ref 77), (1, mI x1)] [] (mm_w X A) (.inl (none), mm_w X A, 0, 0) := by
  obtain ⟨h0, h1⟩ := H
  exact mm_E.iload_n (mm_atc mc109 rfl) rfl <|
  mm_E.if1 (mm_atc mc109 rfl) h0 (ic_leT h1) rfl <|
  mm_E.vret (mm_atc mc109 rfl) mr109
theorem p109_45_1 {w d : Nat} {X : List Value} {A : MF} {r : MR} {x1 z0 : Int} (s0 : mm_E w d 108 0 [(0, mI (A 95 (x1 + (-1))))] [] (mm_w X A) (.inl (some (mI z0)), mm_w X A, 0, 0)) (H : R32 x1 ∧ 0 < x1 ∧ 0 ≤ x1 + (-1) ∧ x1 + (-1) < 6 ∧ R32 z0 ∧ z0 ≤ 1) (h : mm_E w (d + 1) 109 45 [(0, .ref 77), (1, mI (x1 + (-1)))] [] (mm_w X A) r) : mm_E w (d + 1) 109 45 [(0, .ref 77), (1, mI x1)] [] (mm_w X A) r := by
  obtain ⟨h0, h1, h2, h3, h4, h5⟩ := H
  exact mm_E.iload_n (mm_atc mc109 rfl) rfl <|
  mm_E.if1 (mm_atc mc109 rfl) h0 (ic_leF h1) rfl <|
  mm_E.inc mx109 rfl (mm_atc mc109 rfl) rfl <|
  show mm_E _ _ 109 52 [(1, mI (x1 + (-1))), (0, .ref 77)] _ _ _ from
  mm_E.aload_n (mm_atc mc109 rfl) rfl <|
  mm_E.getR (b := 95) (mm_atc mc109 rfl) (mm_plc mp109 rfl) rfl ly77 rfl <|
  mm_E.iload_n (mm_atc mc109 rfl) rfl <|
  mm_E.iaload (e := x1 + (-1)) (mm_atc mc109 rfl) ly95 rfl h2 h3 rfl (rfl) <|
  mm_E.istore_n mx109 rfl (mm_atc mc109 rfl) <|
  show mm_E _ _ 109 59 [(2, mI (A 95 (x1 + (-1)))), (1, mI (x1 + (-1))), (0, .ref 77)] _ _ _ from
  mm_E.iload_n (mm_atc mc109 rfl) rfl <|
  mm_E.callS0 (mm_atc mc109 rfl) (mm_plc mp109 rfl) mx108 rfl rfl s0 (by omega) <|
  show mm_E _ _ 109 63 _ _ _ _ from
  mm_E.istore_n mx109 rfl (mm_atc mc109 rfl) <|
  show mm_E _ _ 109 64 [(3, mI z0), (2, mI (A 95 (x1 + (-1)))), (1, mI (x1 + (-1))), (0, .ref 77)] _ _ _ from
  mm_E.iload_n (mm_atc mc109 rfl) rfl <|
  mm_E.iconst (mm_atc mc109 rfl) <|
  mm_E.if2 (mm_atc mc109 rfl) h4 (by decide) (ic_leT h5) rfl <|
  mm_E.goto (mm_atc mc109 rfl) rfl <|
  mm_E.to h ⟨rfl, rfl, trivial⟩
theorem p109_45_2 {d : Nat} {X : List Value} {A : MF} {r : MR} {x1 z0 z2 : Int} {A1 : MF} (s0 : mm_E 1 d 108 0 [(0, mI (A 95 (x1 + (-1))))] [] (mm_w X A) (.inl (some (mI z0)), mm_w X A, 0, 0)) (s1 : mm_E 1 d 110 0 [(0, .ref 77), (1, mI (A 95 (x1 + (-1)))), (2, mI z0)] [] (mm_w X A) (.inl (some (mI z2)), mm_w X A1, 0, 0)) (H : R32 x1 ∧ 0 < x1 ∧ 0 ≤ x1 + (-1) ∧ x1 + (-1) < 6 ∧ R32 z0 ∧ 1 < z0 ∧ 0 ≤ (x1 + (-1)) + 1 ∧ (x1 + (-1)) + 1 < 6) (h : mm_E 1 (d + 1) 109 45 [(0, .ref 77), (1, mI ((x1 + (-1)) + 2))] [] (mm_w X (mm_u (mm_u A1 95 (x1 + (-1)) z2) 95 ((x1 + (-1)) + 1) (mm_and (A 95 (x1 + (-1))) (mm_xor z2 (-1))))) r) : mm_E 1 (d + 1) 109 45 [(0, .ref 77), (1, mI x1)] [] (mm_w X A) r := by
  obtain ⟨h0, h1, h2, h3, h4, h5, h6, h7⟩ := H
  exact mm_E.iload_n (mm_atc mc109 rfl) rfl <|
  mm_E.if1 (mm_atc mc109 rfl) h0 (ic_leF h1) rfl <|
  mm_E.inc mx109 rfl (mm_atc mc109 rfl) rfl <|
  show mm_E _ _ 109 52 [(1, mI (x1 + (-1))), (0, .ref 77)] _ _ _ from
  mm_E.aload_n (mm_atc mc109 rfl) rfl <|
  mm_E.getR (b := 95) (mm_atc mc109 rfl) (mm_plc mp109 rfl) rfl ly77 rfl <|
  mm_E.iload_n (mm_atc mc109 rfl) rfl <|
  mm_E.iaload (e := x1 + (-1)) (mm_atc mc109 rfl) ly95 rfl h2 h3 rfl (rfl) <|
  mm_E.istore_n mx109 rfl (mm_atc mc109 rfl) <|
  show mm_E _ _ 109 59 [(2, mI (A 95 (x1 + (-1)))), (1, mI (x1 + (-1))), (0, .ref 77)] _ _ _ from
  mm_E.iload_n (mm_atc mc109 rfl) rfl <|
  mm_E.callS0 (mm_atc mc109 rfl) (mm_plc mp109 rfl) mx108 rfl rfl s0 (by omega) <|
  show mm_E _ _ 109 63 _ _ _ _ from
  mm_E.istore_n mx109 rfl (mm_atc mc109 rfl) <|
  show mm_E _ _ 109 64 [(3, mI z0), (2, mI (A 95 (x1 + (-1)))), (1, mI (x1 + (-1))), (0, .ref 77)] _ _ _ from
  mm_E.iload_n (mm_atc mc109 rfl) rfl <|
  mm_E.iconst (mm_atc mc109 rfl) <|
  mm_E.if2 (mm_atc mc109 rfl) h4 (by decide) (ic_leF h5) rfl <|
  mm_E.aload_n (mm_atc mc109 rfl) rfl <|
  mm_E.iload_n (mm_atc mc109 rfl) rfl <|
  mm_E.iload_n (mm_atc mc109 rfl) rfl <|
  mm_E.callV0 (mm_atc mc109 rfl) (mm_plc mp109 rfl) rfl mk110 ly77 rfl mx110 rfl rfl s1 (by omega) <|
  show mm_E _ _ 109 75 _ _ _ _ from
  mm_E.istore mx109 rfl (mm_atc mc109 rfl) <|
  show mm_E _ _ 109 77 [(4, mI z2), (3, mI z0), (2, mI (A 95 (x1 + (-1)))), (1, mI (x1 + (-1))), (0, .ref 77)] _ _ _ from
  mm_E.aload_n (mm_atc mc109 rfl) rfl <|
  mm_E.getR (b := 95) (mm_atc mc109 rfl) (mm_plc mp109 rfl) rfl ly77 rfl <|
  mm_E.iload_n (mm_atc mc109 rfl) rfl <|
  mm_E.iload (mm_atc mc109 rfl) rfl <|
  mm_E.iastore (e := x1 + (-1)) (z := z2) (mm_atc mc109 rfl) ly95 rfl h2 h3 rfl rfl <|
  mm_E.aload_n (mm_atc mc109 rfl) rfl <|
  mm_E.getR (b := 95) (mm_atc mc109 rfl) (mm_plc mp109 rfl) rfl ly77 rfl <|
  mm_E.iload_n (mm_atc mc109 rfl) rfl <|
  mm_E.iconst (mm_atc mc109 rfl) <|
  mm_E.iadd (mm_atc mc109 rfl) <|
  mm_E.iload_n (mm_atc mc109 rfl) rfl <|
  mm_E.iload (mm_atc mc109 rfl) rfl <|
  mm_E.iconst (mm_atc mc109 rfl) <|
  mm_E.ixor (mm_atc mc109 rfl) <|
  mm_E.iand (mm_atc mc109 rfl) <|
  mm_E.iastore (e := (x1 + (-1)) + 1) (z := mm_and (A 95 (x1 + (-1))) (mm_xor z2 (-1))) (mm_atc mc109 rfl) ly95 rfl h6 h7 rfl rfl <|
  mm_E.inc mx109 rfl (mm_atc mc109 rfl) rfl <|
  show mm_E _ _ 109 102 [(1, mI ((x1 + (-1)) + 2)), (4, mI z2), (3, mI z0), (2, mI (A 95 (x1 + (-1)))), (0, .ref 77)] _ _ _ from
  mm_E.goto (mm_atc mc109 rfl) rfl <|
  mm_E.to h ⟨rfl, rfl, trivial⟩
theorem p110_0_0 {w d : Nat} {X : List Value} {A : MF} {r : MR} {x1 x2 : Int} (H : R32 x2 ∧ 0 ≤ x2) (h : mm_E w d 110 7 [(0, .ref 77), (1, mI x1), (2, mI x2), (3, mI (x2 / 2)), (4, mI 0)] [] (mm_w X A) r) : mm_E w d 110 0 [(0, .ref 77), (1, mI x1), (2, mI x2)] [] (mm_w X A) r := by
  obtain ⟨h0, h1⟩ := H
  exact mm_E.iload_n (mm_atc mc110 rfl) rfl <|
  mm_E.iconst (mm_atc mc110 rfl) <|
  mm_E.idiv h0 (by decide) h1 (by decide) (mm_atc mc110 rfl) <|
  mm_E.istore_n mx110 rfl (mm_atc mc110 rfl) <|
  show mm_E _ _ 110 4 [(3, mI (x2 / 2)), (0, .ref 77), (1, mI x1), (2, mI x2)] _ _ _ from
  mm_E.iconst (mm_atc mc110 rfl) <|
  mm_E.istore mx110 rfl (mm_atc mc110 rfl) <|
  show mm_E _ _ 110 7 [(4, mI 0), (3, mI (x2 / 2)), (0, .ref 77), (1, mI x1), (2, mI x2)] _ _ _ from
  mm_E.to h ⟨rfl, rfl, rfl, rfl, rfl, trivial⟩
theorem p110_7_0 {w d : Nat} {X : List Value} {A : MF} {r : MR} {x1 x2 x3 x4 : Int} (H : R32 x4 ∧ 6 ≤ x4) (h : mm_E w d 110 129 [(0, .ref 77), (1, mI x1), (3, mI x3), (4, mI 0), (5, mI 0), (6, mI 0)] [] (mm_w X A) r) : mm_E w d 110 7 [(0, .ref 77), (1, mI x1), (2, mI x2), (3, mI x3), (4, mI x4)] [] (mm_w X A) r := by
  obtain ⟨h0, h1⟩ := H
  exact mm_E.iload (mm_atc mc110 rfl) rfl <|
  mm_E.bipush (mm_atc mc110 rfl) rfl <|
  mm_E.if2 (mm_atc mc110 rfl) h0 (by decide) (ic_geT h1) rfl <|
  mm_E.iconst (mm_atc mc110 rfl) <|
  mm_E.istore mx110 rfl (mm_atc mc110 rfl) <|
  show mm_E _ _ 110 123 [(4, mI 0), (0, .ref 77), (1, mI x1), (2, mI x2), (3, mI x3)] _ _ _ from
  mm_E.iconst (mm_atc mc110 rfl) <|
  mm_E.istore mx110 rfl (mm_atc mc110 rfl) <|
  show mm_E _ _ 110 126 [(5, mI 0), (4, mI 0), (0, .ref 77), (1, mI x1), (2, mI x2), (3, mI x3)] _ _ _ from
  mm_E.iconst (mm_atc mc110 rfl) <|
  mm_E.istore mx110 rfl (mm_atc mc110 rfl) <|
  show mm_E _ _ 110 129 [(6, mI 0), (5, mI 0), (4, mI 0), (0, .ref 77), (1, mI x1), (2, mI x2), (3, mI x3)] _ _ _ from
  mm_E.to h ⟨rfl, rfl, rfl, rfl, rfl, rfl, trivial⟩
theorem p110_7_1 {w d : Nat} {X : List Value} {A : MF} {r : MR} {x1 x2 x3 x4 : Int} (H : R32 x4 ∧ x4 < 6 ∧ R32 (mm_and (mm_shr x1 x4) 1) ∧ mm_and (mm_shr x1 x4) 1 ≠ 1) (h : mm_E w d 110 7 [(0, .ref 77), (1, mI x1), (2, mI x2), (3, mI x3), (4, mI (x4 + 1))] [] (mm_w X A) r) : mm_E w d 110 7 [(0, .ref 77), (1, mI x1), (2, mI x2), (3, mI x3), (4, mI x4)] [] (mm_w X A) r := by
  obtain ⟨h0, h1, h2, h3⟩ := H
  exact mm_E.iload (mm_atc mc110 rfl) rfl <|
  mm_E.bipush (mm_atc mc110 rfl) rfl <|
  mm_E.if2 (mm_atc mc110 rfl) h0 (by decide) (ic_geF h1) rfl <|
  mm_E.iload_n (mm_atc mc110 rfl) rfl <|
  mm_E.iload (mm_atc mc110 rfl) rfl <|
  mm_E.ishr (mm_atc mc110 rfl) <|
  mm_E.iconst (mm_atc mc110 rfl) <|
  mm_E.iand (mm_atc mc110 rfl) <|
  mm_E.iconst (mm_atc mc110 rfl) <|
  mm_E.if2 (mm_atc mc110 rfl) h2 (by decide) (ic_neT h3) rfl <|
  mm_E.inc mx110 rfl (mm_atc mc110 rfl) rfl <|
  show mm_E _ _ 110 117 [(4, mI (x4 + 1)), (0, .ref 77), (1, mI x1), (2, mI x2), (3, mI x3)] _ _ _ from
  mm_E.goto (mm_atc mc110 rfl) rfl <|
  mm_E.to h ⟨rfl, rfl, rfl, rfl, rfl, trivial⟩
theorem p110_7_2 {d : Nat} {X : List Value} {A : MF} {r : MR} {x1 x2 x3 x4 : Int} {A0 A1 : MF} (s0 : mm_E 1 d 104 0 [(0, .ref 77), (1, mI x4), (2, mJ (A 89 x4)), (4, mJ (A 90 x4)), (6, mJ (A 91 x4)), (8, mJ (A 92 x4))] [] (mm_w X A) (.inl (none), mm_w X A0, 0, 0)) (s1 : mm_E 1 d 105 0 [(0, .ref 77), (1, mI x4), (2, mJ (A0 89 x4)), (4, mJ (A0 90 x4)), (6, mJ ((A0 77 24) * x3)), (8, mJ ((A0 77 25) * x2))] [] (mm_w X A0) (.inl (none), mm_w X A1, 0, 0)) (H : R32 x4 ∧ x4 < 6 ∧ R32 (mm_and (mm_shr x1 x4) 1) ∧ mm_and (mm_shr x1 x4) 1 = 1 ∧ 0 ≤ x4 ∧ R32 x3 ∧ R32 x2) (h : mm_E 1 (d + 1) 110 7 [(0, .ref 77), (1, mI x1), (2, mI x2), (3, mI x3), (4, mI (x4 + 1))] [] (mm_w X (mm_u (mm_u A1 93 x4 (A1 77 24)) 94 x4 (A1 77 25))) r) : mm_E 1 (d + 1) 110 7 [(0, .ref 77), (1, mI x1), (2, mI x2), (3, mI x3), (4, mI x4)] [] (mm_w X A) r := by
  obtain ⟨h0, h1, h2, h3, h4, h5, h6⟩ := H
  exact mm_E.iload (mm_atc mc110 rfl) rfl <|
  mm_E.bipush (mm_atc mc110 rfl) rfl <|
  mm_E.if2 (mm_atc mc110 rfl) h0 (by decide) (ic_geF h1) rfl <|
  mm_E.iload_n (mm_atc mc110 rfl) rfl <|
  mm_E.iload (mm_atc mc110 rfl) rfl <|
  mm_E.ishr (mm_atc mc110 rfl) <|
  mm_E.iconst (mm_atc mc110 rfl) <|
  mm_E.iand (mm_atc mc110 rfl) <|
  mm_E.iconst (mm_atc mc110 rfl) <|
  mm_E.if2 (mm_atc mc110 rfl) h2 (by decide) (ic_neF h3) rfl <|
  mm_E.aload_n (mm_atc mc110 rfl) rfl <|
  mm_E.iload (mm_atc mc110 rfl) rfl <|
  mm_E.aload_n (mm_atc mc110 rfl) rfl <|
  mm_E.getR (b := 89) (mm_atc mc110 rfl) (mm_plc mp110 rfl) rfl ly77 rfl <|
  mm_E.iload (mm_atc mc110 rfl) rfl <|
  mm_E.laload (e := x4) (mm_atc mc110 rfl) ly89 rfl h4 h1 rfl (rfl) <|
  mm_E.aload_n (mm_atc mc110 rfl) rfl <|
  mm_E.getR (b := 90) (mm_atc mc110 rfl) (mm_plc mp110 rfl) rfl ly77 rfl <|
  mm_E.iload (mm_atc mc110 rfl) rfl <|
  mm_E.laload (e := x4) (mm_atc mc110 rfl) ly90 rfl h4 h1 rfl (rfl) <|
  mm_E.aload_n (mm_atc mc110 rfl) rfl <|
  mm_E.getR (b := 91) (mm_atc mc110 rfl) (mm_plc mp110 rfl) rfl ly77 rfl <|
  mm_E.iload (mm_atc mc110 rfl) rfl <|
  mm_E.laload (e := x4) (mm_atc mc110 rfl) ly91 rfl h4 h1 rfl (rfl) <|
  mm_E.aload_n (mm_atc mc110 rfl) rfl <|
  mm_E.getR (b := 92) (mm_atc mc110 rfl) (mm_plc mp110 rfl) rfl ly77 rfl <|
  mm_E.iload (mm_atc mc110 rfl) rfl <|
  mm_E.laload (e := x4) (mm_atc mc110 rfl) ly92 rfl h4 h1 rfl (rfl) <|
  mm_E.callV0 (mm_atc mc110 rfl) (mm_plc mp110 rfl) rfl mk104 ly77 rfl mx104 rfl rfl s0 (by omega) <|
  show mm_E _ _ 110 58 _ _ _ _ from
  mm_E.aload_n (mm_atc mc110 rfl) rfl <|
  mm_E.iload (mm_atc mc110 rfl) rfl <|
  mm_E.aload_n (mm_atc mc110 rfl) rfl <|
  mm_E.getR (b := 89) (mm_atc mc110 rfl) (mm_plc mp110 rfl) rfl ly77 rfl <|
  mm_E.iload (mm_atc mc110 rfl) rfl <|
  mm_E.laload (e := x4) (mm_atc mc110 rfl) ly89 rfl h4 h1 rfl (rfl) <|
  mm_E.aload_n (mm_atc mc110 rfl) rfl <|
  mm_E.getR (b := 90) (mm_atc mc110 rfl) (mm_plc mp110 rfl) rfl ly77 rfl <|
  mm_E.iload (mm_atc mc110 rfl) rfl <|
  mm_E.laload (e := x4) (mm_atc mc110 rfl) ly90 rfl h4 h1 rfl (rfl) <|
  mm_E.aload_n (mm_atc mc110 rfl) rfl <|
  mm_E.getJ (z := A0 77 24) (mm_atc mc110 rfl) (mm_plc mp110 rfl) rfl ly77 rfl (rfl) <|
  mm_E.iload_n (mm_atc mc110 rfl) rfl <|
  mm_E.i2l h5 (mm_atc mc110 rfl) <|
  mm_E.lmul (mm_atc mc110 rfl) <|
  mm_E.aload_n (mm_atc mc110 rfl) rfl <|
  mm_E.getJ (z := A0 77 25) (mm_atc mc110 rfl) (mm_plc mp110 rfl) rfl ly77 rfl (rfl) <|
  mm_E.iload_n (mm_atc mc110 rfl) rfl <|
  mm_E.i2l h6 (mm_atc mc110 rfl) <|
  mm_E.lmul (mm_atc mc110 rfl) <|
  mm_E.callV0 (mm_atc mc110 rfl) (mm_plc mp110 rfl) rfl mk105 ly77 rfl mx105 rfl rfl s1 (by omega) <|
  show mm_E _ _ 110 92 _ _ _ _ from
  mm_E.aload_n (mm_atc mc110 rfl) rfl <|
  mm_E.getR (b := 93) (mm_atc mc110 rfl) (mm_plc mp110 rfl) rfl ly77 rfl <|
  mm_E.iload (mm_atc mc110 rfl) rfl <|
  mm_E.aload_n (mm_atc mc110 rfl) rfl <|
  mm_E.getJ (z := A1 77 24) (mm_atc mc110 rfl) (mm_plc mp110 rfl) rfl ly77 rfl (rfl) <|
  mm_E.lastore (e := x4) (z := A1 77 24) (mm_atc mc110 rfl) ly93 rfl h4 h1 rfl rfl <|
  mm_E.aload_n (mm_atc mc110 rfl) rfl <|
  mm_E.getR (b := 94) (mm_atc mc110 rfl) (mm_plc mp110 rfl) rfl ly77 rfl <|
  mm_E.iload (mm_atc mc110 rfl) rfl <|
  mm_E.aload_n (mm_atc mc110 rfl) rfl <|
  mm_E.getJ (z := A1 77 25) (mm_atc mc110 rfl) (mm_plc mp110 rfl) rfl ly77 rfl ((mm_u_ne (.inl (by decide))).trans (rfl)) <|
  mm_E.lastore (e := x4) (z := A1 77 25) (mm_atc mc110 rfl) ly94 rfl h4 h1 rfl rfl <|
  mm_E.inc mx110 rfl (mm_atc mc110 rfl) rfl <|
  show mm_E _ _ 110 117 [(4, mI (x4 + 1)), (0, .ref 77), (1, mI x1), (2, mI x2), (3, mI x3)] _ _ _ from
  mm_E.goto (mm_atc mc110 rfl) rfl <|
  mm_E.to h ⟨rfl, rfl, rfl, rfl, rfl, trivial⟩
theorem p110_129_0 {w d : Nat} {X : List Value} {A : MF} {r : MR} {x1 x3 x4 x5 x6 : Int} (H : R32 x6 ∧ R32 x3 ∧ x3 ≤ x6) (h : mm_E w d 110 246 [(0, .ref 77), (1, mI x1), (4, mI x4), (5, mI x5), (6, mI 0)] [] (mm_w X A) r) : mm_E w d 110 129 [(0, .ref 77), (1, mI x1), (3, mI x3), (4, mI x4), (5, mI x5), (6, mI x6)] [] (mm_w X A) r := by
  obtain ⟨h0, h1, h2⟩ := H
  exact mm_E.iload (mm_atc mc110 rfl) rfl <|
  mm_E.iload_n (mm_atc mc110 rfl) rfl <|
  mm_E.if2 (mm_atc mc110 rfl) h0 h1 (ic_geT h2) rfl <|
  mm_E.iconst (mm_atc mc110 rfl) <|
  mm_E.istore mx110 rfl (mm_atc mc110 rfl) <|
  show mm_E _ _ 110 246 [(6, mI 0), (0, .ref 77), (1, mI x1), (3, mI x3), (4, mI x4), (5, mI x5)] _ _ _ from
  mm_E.to h ⟨rfl, rfl, rfl, rfl, rfl, trivial⟩
theorem p110_129_1 {w d : Nat} {X : List Value} {A : MF} {r : MR} {x1 x3 x4 x5 x6 : Int} (H : R32 x6 ∧ R32 x3 ∧ x6 < x3) (h : mm_E w d 110 141 [(0, .ref 77), (1, mI x1), (3, mI x3), (4, mI x4), (6, mI x6), (7, mI (-1)), (8, mI 0)] [] (mm_w X A) r) : mm_E w d 110 129 [(0, .ref 77), (1, mI x1), (3, mI x3), (4, mI x4), (5, mI x5), (6, mI x6)] [] (mm_w X A) r := by
  obtain ⟨h0, h1, h2⟩ := H
  exact mm_E.iload (mm_atc mc110 rfl) rfl <|
  mm_E.iload_n (mm_atc mc110 rfl) rfl <|
  mm_E.if2 (mm_atc mc110 rfl) h0 h1 (ic_geF h2) rfl <|
  mm_E.iconst (mm_atc mc110 rfl) <|
  mm_E.istore mx110 rfl (mm_atc mc110 rfl) <|
  show mm_E _ _ 110 138 [(7, mI (-1)), (0, .ref 77), (1, mI x1), (3, mI x3), (4, mI x4), (5, mI x5), (6, mI x6)] _ _ _ from
  mm_E.iconst (mm_atc mc110 rfl) <|
  mm_E.istore mx110 rfl (mm_atc mc110 rfl) <|
  show mm_E _ _ 110 141 [(8, mI 0), (7, mI (-1)), (0, .ref 77), (1, mI x1), (3, mI x3), (4, mI x4), (5, mI x5), (6, mI x6)] _ _ _ from
  mm_E.to h ⟨rfl, rfl, rfl, rfl, rfl, rfl, rfl, trivial⟩
theorem p110_246_0 {w d : Nat} {X : List Value} {A : MF} {x1 x4 x5 x6 : Int} (H : R32 x6 ∧ 6 ≤ x6) : mm_E w d 110 246 [(0, .ref 77), (1, mI x1), (4, mI x4), (5, mI x5), (6, mI x6)] [] (mm_w X A) (.inl (some (mI x4)), mm_w X A, 0, 0) := by
  obtain ⟨h0, h1⟩ := H
  exact mm_E.iload (mm_atc mc110 rfl) rfl <|
  mm_E.bipush (mm_atc mc110 rfl) rfl <|
  mm_E.if2 (mm_atc mc110 rfl) h0 (by decide) (ic_geT h1) rfl <|
  mm_E.iload (mm_atc mc110 rfl) rfl <|
  mm_E.iret (mm_atc mc110 rfl) mr110 rfl
theorem p110_246_1 {w d : Nat} {X : List Value} {A : MF} {r : MR} {x1 x4 x5 x6 : Int} (H : R32 x6 ∧ x6 < 6 ∧ R32 (mm_and (mm_shr x4 x6) 1) ∧ mm_and (mm_shr x4 x6) 1 ≠ 1 ∧ R32 (mm_and (mm_shr x1 x6) 1) ∧ mm_and (mm_shr x1 x6) 1 ≠ 1) (h : mm_E w d 110 246 [(0, .ref 77), (1, mI x1), (4, mI x4), (5, mI x5), (6, mI (x6 + 1))] [] (mm_w X A) r) : mm_E w d 110 246 [(0, .ref 77), (1, mI x1), (4, mI x4), (5, mI x5), (6, mI x6)] [] (mm_w X A) r := by
  obtain ⟨h0, h1, h2, h3, h4, h5⟩ := H
  exact mm_E.iload (mm_atc mc110 rfl) rfl <|
  mm_E.bipush (mm_atc mc110 rfl) rfl <|
  mm_E.if2 (mm_atc mc110 rfl) h0 (by decide) (ic_geF h1) rfl <|
  mm_E.iload (mm_atc mc110 rfl) rfl <|
  mm_E.iload (mm_atc mc110 rfl) rfl <|
  mm_E.ishr (mm_atc mc110 rfl) <|
  mm_E.iconst (mm_atc mc110 rfl) <|
  mm_E.iand (mm_atc mc110 rfl) <|
  mm_E.iconst (mm_atc mc110 rfl) <|
  mm_E.if2 (mm_atc mc110 rfl) h2 (by decide) (ic_neT h3) rfl <|
  mm_E.iload_n (mm_atc mc110 rfl) rfl <|
  mm_E.iload (mm_atc mc110 rfl) rfl <|
  mm_E.ishr (mm_atc mc110 rfl) <|
  mm_E.iconst (mm_atc mc110 rfl) <|
  mm_E.iand (mm_atc mc110 rfl) <|
  mm_E.iconst (mm_atc mc110 rfl) <|
  mm_E.if2 (mm_atc mc110 rfl) h4 (by decide) (ic_neT h5) rfl <|
  mm_E.inc mx110 rfl (mm_atc mc110 rfl) rfl <|
  show mm_E _ _ 110 336 [(6, mI (x6 + 1)), (0, .ref 77), (1, mI x1), (4, mI x4), (5, mI x5)] _ _ _ from
  mm_E.goto (mm_atc mc110 rfl) rfl <|
  mm_E.to h ⟨rfl, rfl, rfl, rfl, rfl, trivial⟩
theorem p110_246_2 {d : Nat} {X : List Value} {A : MF} {r : MR} {x1 x4 x5 x6 : Int} (H : R32 x6 ∧ x6 < 6 ∧ R32 (mm_and (mm_shr x4 x6) 1) ∧ mm_and (mm_shr x4 x6) 1 ≠ 1 ∧ R32 (mm_and (mm_shr x1 x6) 1) ∧ mm_and (mm_shr x1 x6) 1 = 1 ∧ 0 ≤ x5 ∧ x5 < 6 ∧ 0 ≤ x6) (h : mm_E 1 d 110 246 [(0, .ref 77), (1, mI x1), (4, mI x4), (5, mI x5), (6, mI (x6 + 1))] [] (mm_w X (mm_u (mm_u A 89 x6 (A 93 x5)) 90 x6 (A 94 x5))) r) : mm_E 1 d 110 246 [(0, .ref 77), (1, mI x1), (4, mI x4), (5, mI x5), (6, mI x6)] [] (mm_w X A) r := by
  obtain ⟨h0, h1, h2, h3, h4, h5, h6, h7, h8⟩ := H
  exact mm_E.iload (mm_atc mc110 rfl) rfl <|
  mm_E.bipush (mm_atc mc110 rfl) rfl <|
  mm_E.if2 (mm_atc mc110 rfl) h0 (by decide) (ic_geF h1) rfl <|
  mm_E.iload (mm_atc mc110 rfl) rfl <|
  mm_E.iload (mm_atc mc110 rfl) rfl <|
  mm_E.ishr (mm_atc mc110 rfl) <|
  mm_E.iconst (mm_atc mc110 rfl) <|
  mm_E.iand (mm_atc mc110 rfl) <|
  mm_E.iconst (mm_atc mc110 rfl) <|
  mm_E.if2 (mm_atc mc110 rfl) h2 (by decide) (ic_neT h3) rfl <|
  mm_E.iload_n (mm_atc mc110 rfl) rfl <|
  mm_E.iload (mm_atc mc110 rfl) rfl <|
  mm_E.ishr (mm_atc mc110 rfl) <|
  mm_E.iconst (mm_atc mc110 rfl) <|
  mm_E.iand (mm_atc mc110 rfl) <|
  mm_E.iconst (mm_atc mc110 rfl) <|
  mm_E.if2 (mm_atc mc110 rfl) h4 (by decide) (ic_neF h5) rfl <|
  mm_E.aload_n (mm_atc mc110 rfl) rfl <|
  mm_E.getR (b := 89) (mm_atc mc110 rfl) (mm_plc mp110 rfl) rfl ly77 rfl <|
  mm_E.iload (mm_atc mc110 rfl) rfl <|
  mm_E.aload_n (mm_atc mc110 rfl) rfl <|
  mm_E.getR (b := 93) (mm_atc mc110 rfl) (mm_plc mp110 rfl) rfl ly77 rfl <|
  mm_E.iload (mm_atc mc110 rfl) rfl <|
  mm_E.laload (e := x5) (mm_atc mc110 rfl) ly93 rfl h6 h7 rfl (rfl) <|
  mm_E.lastore (e := x6) (z := A 93 x5) (mm_atc mc110 rfl) ly89 rfl h8 h1 rfl rfl <|
  mm_E.aload_n (mm_atc mc110 rfl) rfl <|
  mm_E.getR (b := 90) (mm_atc mc110 rfl) (mm_plc mp110 rfl) rfl ly77 rfl <|
  mm_E.iload (mm_atc mc110 rfl) rfl <|
  mm_E.aload_n (mm_atc mc110 rfl) rfl <|
  mm_E.getR (b := 94) (mm_atc mc110 rfl) (mm_plc mp110 rfl) rfl ly77 rfl <|
  mm_E.iload (mm_atc mc110 rfl) rfl <|
  mm_E.laload (e := x5) (mm_atc mc110 rfl) ly94 rfl h6 h7 rfl ((mm_u_ne (.inl (by decide))).trans (rfl)) <|
  mm_E.lastore (e := x6) (z := A 94 x5) (mm_atc mc110 rfl) ly90 rfl h8 h1 rfl rfl <|
  mm_E.inc mx110 rfl (mm_atc mc110 rfl) rfl <|
  show mm_E _ _ 110 336 [(6, mI (x6 + 1)), (0, .ref 77), (1, mI x1), (4, mI x4), (5, mI x5)] _ _ _ from
  mm_E.goto (mm_atc mc110 rfl) rfl <|
  mm_E.to h ⟨rfl, rfl, rfl, rfl, rfl, trivial⟩
theorem p110_246_3 {d : Nat} {X : List Value} {A : MF} {r : MR} {x1 x4 x5 x6 : Int} (H : R32 x6 ∧ x6 < 6 ∧ R32 (mm_and (mm_shr x4 x6) 1) ∧ mm_and (mm_shr x4 x6) 1 = 1 ∧ 0 ≤ x5 ∧ x5 < 6 ∧ 0 ≤ x6) (h : mm_E 1 d 110 246 [(0, .ref 77), (1, mI x1), (4, mI x4), (5, mI x5), (6, mI (x6 + 1))] [] (mm_w X (mm_u (mm_u A 91 x6 (A 93 x5)) 92 x6 (A 94 x5))) r) : mm_E 1 d 110 246 [(0, .ref 77), (1, mI x1), (4, mI x4), (5, mI x5), (6, mI x6)] [] (mm_w X A) r := by
  obtain ⟨h0, h1, h2, h3, h4, h5, h6⟩ := H
  exact mm_E.iload (mm_atc mc110 rfl) rfl <|
  mm_E.bipush (mm_atc mc110 rfl) rfl <|
  mm_E.if2 (mm_atc mc110 rfl) h0 (by decide) (ic_geF h1) rfl <|
  mm_E.iload (mm_atc mc110 rfl) rfl <|
  mm_E.iload (mm_atc mc110 rfl) rfl <|
  mm_E.ishr (mm_atc mc110 rfl) <|
  mm_E.iconst (mm_atc mc110 rfl) <|
  mm_E.iand (mm_atc mc110 rfl) <|
  mm_E.iconst (mm_atc mc110 rfl) <|
  mm_E.if2 (mm_atc mc110 rfl) h2 (by decide) (ic_neF h3) rfl <|
  mm_E.aload_n (mm_atc mc110 rfl) rfl <|
  mm_E.getR (b := 91) (mm_atc mc110 rfl) (mm_plc mp110 rfl) rfl ly77 rfl <|
  mm_E.iload (mm_atc mc110 rfl) rfl <|
  mm_E.aload_n (mm_atc mc110 rfl) rfl <|
  mm_E.getR (b := 93) (mm_atc mc110 rfl) (mm_plc mp110 rfl) rfl ly77 rfl <|
  mm_E.iload (mm_atc mc110 rfl) rfl <|
  mm_E.laload (e := x5) (mm_atc mc110 rfl) ly93 rfl h4 h5 rfl (rfl) <|
  mm_E.lastore (e := x6) (z := A 93 x5) (mm_atc mc110 rfl) ly91 rfl h6 h1 rfl rfl <|
  mm_E.aload_n (mm_atc mc110 rfl) rfl <|
  mm_E.getR (b := 92) (mm_atc mc110 rfl) (mm_plc mp110 rfl) rfl ly77 rfl <|
  mm_E.iload (mm_atc mc110 rfl) rfl <|
  mm_E.aload_n (mm_atc mc110 rfl) rfl <|
  mm_E.getR (b := 94) (mm_atc mc110 rfl) (mm_plc mp110 rfl) rfl ly77 rfl <|
  mm_E.iload (mm_atc mc110 rfl) rfl <|
  mm_E.laload (e := x5) (mm_atc mc110 rfl) ly94 rfl h4 h5 rfl ((mm_u_ne (.inl (by decide))).trans (rfl)) <|
  mm_E.lastore (e := x6) (z := A 94 x5) (mm_atc mc110 rfl) ly92 rfl h6 h1 rfl rfl <|
  mm_E.goto (mm_atc mc110 rfl) rfl <|
  mm_E.inc mx110 rfl (mm_atc mc110 rfl) rfl <|
  show mm_E _ _ 110 336 [(6, mI (x6 + 1)), (0, .ref 77), (1, mI x1), (4, mI x4), (5, mI x5)] _ _ _ from
  mm_E.goto (mm_atc mc110 rfl) rfl <|
  mm_E.to h ⟨rfl, rfl, rfl, rfl, rfl, trivial⟩
theorem p110_141_0 {w d : Nat} {X : List Value} {A : MF} {r : MR} {x1 x3 x4 x6 x7 x8 : Int} (H : R32 x8 ∧ 6 ≤ x8) (h : mm_E w d 110 129 [(0, .ref 77), (1, mI x1), (3, mI x3), (4, mI (mm_or x4 (mm_shl 1 x7))), (5, mI x7), (6, mI (x6 + 1))] [] (mm_w X A) r) : mm_E w d 110 141 [(0, .ref 77), (1, mI x1), (3, mI x3), (4, mI x4), (6, mI x6), (7, mI x7), (8, mI x8)] [] (mm_w X A) r := by
  obtain ⟨h0, h1⟩ := H
  exact mm_E.iload (mm_atc mc110 rfl) rfl <|
  mm_E.bipush (mm_atc mc110 rfl) rfl <|
  mm_E.if2 (mm_atc mc110 rfl) h0 (by decide) (ic_geT h1) rfl <|
  mm_E.iload (mm_atc mc110 rfl) rfl <|
  mm_E.iconst (mm_atc mc110 rfl) <|
  mm_E.iload (mm_atc mc110 rfl) rfl <|
  mm_E.ishl (mm_atc mc110 rfl) <|
  mm_E.ior (mm_atc mc110 rfl) <|
  mm_E.istore mx110 rfl (mm_atc mc110 rfl) <|
  show mm_E _ _ 110 233 [(4, mI (mm_or x4 (mm_shl 1 x7))), (0, .ref 77), (1, mI x1), (3, mI x3), (6, mI x6), (7, mI x7), (8, mI x8)] _ _ _ from
  mm_E.iload (mm_atc mc110 rfl) rfl <|
  mm_E.istore mx110 rfl (mm_atc mc110 rfl) <|
  show mm_E _ _ 110 237 [(5, mI x7), (4, mI (mm_or x4 (mm_shl 1 x7))), (0, .ref 77), (1, mI x1), (3, mI x3), (6, mI x6), (7, mI x7), (8, mI x8)] _ _ _ from
  mm_E.inc mx110 rfl (mm_atc mc110 rfl) rfl <|
  show mm_E _ _ 110 240 [(6, mI (x6 + 1)), (5, mI x7), (4, mI (mm_or x4 (mm_shl 1 x7))), (0, .ref 77), (1, mI x1), (3, mI x3), (7, mI x7), (8, mI x8)] _ _ _ from
  mm_E.goto (mm_atc mc110 rfl) rfl <|
  mm_E.to h ⟨rfl, rfl, rfl, rfl, rfl, rfl, trivial⟩
theorem p110_141_1 {w d : Nat} {X : List Value} {A : MF} {r : MR} {x1 x3 x4 x6 x7 x8 : Int} (H : R32 x8 ∧ x8 < 6 ∧ R32 (mm_and (mm_shr (mm_and x1 (mm_xor x4 (-1))) x8) 1) ∧ mm_and (mm_shr (mm_and x1 (mm_xor x4 (-1))) x8) 1 ≠ 1) (h : mm_E w d 110 141 [(0, .ref 77), (1, mI x1), (3, mI x3), (4, mI x4), (6, mI x6), (7, mI x7), (8, mI (x8 + 1))] [] (mm_w X A) r) : mm_E w d 110 141 [(0, .ref 77), (1, mI x1), (3, mI x3), (4, mI x4), (6, mI x6), (7, mI x7), (8, mI x8)] [] (mm_w X A) r := by
  obtain ⟨h0, h1, h2, h3⟩ := H
  exact mm_E.iload (mm_atc mc110 rfl) rfl <|
  mm_E.bipush (mm_atc mc110 rfl) rfl <|
  mm_E.if2 (mm_atc mc110 rfl) h0 (by decide) (ic_geF h1) rfl <|
  mm_E.iload_n (mm_atc mc110 rfl) rfl <|
  mm_E.iload (mm_atc mc110 rfl) rfl <|
  mm_E.iconst (mm_atc mc110 rfl) <|
  mm_E.ixor (mm_atc mc110 rfl) <|
  mm_E.iand (mm_atc mc110 rfl) <|
  mm_E.iload (mm_atc mc110 rfl) rfl <|
  mm_E.ishr (mm_atc mc110 rfl) <|
  mm_E.iconst (mm_atc mc110 rfl) <|
  mm_E.iand (mm_atc mc110 rfl) <|
  mm_E.iconst (mm_atc mc110 rfl) <|
  mm_E.if2 (mm_atc mc110 rfl) h2 (by decide) (ic_neT h3) rfl <|
  mm_E.iconst (mm_atc mc110 rfl) <|
  mm_E.istore mx110 rfl (mm_atc mc110 rfl) <|
  show mm_E _ _ 110 170 [(9, mI 0), (0, .ref 77), (1, mI x1), (3, mI x3), (4, mI x4), (6, mI x6), (7, mI x7), (8, mI x8)] _ _ _ from
  mm_E.iload (mm_atc mc110 rfl) rfl <|
  mm_E.if1 (mm_atc mc110 rfl) (by decide) (ic_eqT (by decide)) rfl <|
  mm_E.inc mx110 rfl (mm_atc mc110 rfl) rfl <|
  show mm_E _ _ 110 221 [(8, mI (x8 + 1)), (9, mI 0), (0, .ref 77), (1, mI x1), (3, mI x3), (4, mI x4), (6, mI x6), (7, mI x7)] _ _ _ from
  mm_E.goto (mm_atc mc110 rfl) rfl <|
  mm_E.to h ⟨rfl, rfl, rfl, rfl, rfl, rfl, rfl, trivial⟩
theorem p110_141_2 {w d : Nat} {X : List Value} {A : MF} {r : MR} {x1 x3 x4 x6 x7 x8 : Int} (H : R32 x8 ∧ x8 < 6 ∧ R32 (mm_and (mm_shr (mm_and x1 (mm_xor x4 (-1))) x8) 1) ∧ mm_and (mm_shr (mm_and x1 (mm_xor x4 (-1))) x8) 1 = 1 ∧ R32 x7 ∧ x7 < 0) (h : mm_E w d 110 141 [(0, .ref 77), (1, mI x1), (3, mI x3), (4, mI x4), (6, mI x6), (7, mI x8), (8, mI (x8 + 1))] [] (mm_w X A) r) : mm_E w d 110 141 [(0, .ref 77), (1, mI x1), (3, mI x3), (4, mI x4), (6, mI x6), (7, mI x7), (8, mI x8)] [] (mm_w X A) r := by
  obtain ⟨h0, h1, h2, h3, h4, h5⟩ := H
  exact mm_E.iload (mm_atc mc110 rfl) rfl <|
  mm_E.bipush (mm_atc mc110 rfl) rfl <|
  mm_E.if2 (mm_atc mc110 rfl) h0 (by decide) (ic_geF h1) rfl <|
  mm_E.iload_n (mm_atc mc110 rfl) rfl <|
  mm_E.iload (mm_atc mc110 rfl) rfl <|
  mm_E.iconst (mm_atc mc110 rfl) <|
  mm_E.ixor (mm_atc mc110 rfl) <|
  mm_E.iand (mm_atc mc110 rfl) <|
  mm_E.iload (mm_atc mc110 rfl) rfl <|
  mm_E.ishr (mm_atc mc110 rfl) <|
  mm_E.iconst (mm_atc mc110 rfl) <|
  mm_E.iand (mm_atc mc110 rfl) <|
  mm_E.iconst (mm_atc mc110 rfl) <|
  mm_E.if2 (mm_atc mc110 rfl) h2 (by decide) (ic_neF h3) rfl <|
  mm_E.iconst (mm_atc mc110 rfl) <|
  mm_E.goto (mm_atc mc110 rfl) rfl <|
  mm_E.istore mx110 rfl (mm_atc mc110 rfl) <|
  show mm_E _ _ 110 170 [(9, mI 1), (0, .ref 77), (1, mI x1), (3, mI x3), (4, mI x4), (6, mI x6), (7, mI x7), (8, mI x8)] _ _ _ from
  mm_E.iload (mm_atc mc110 rfl) rfl <|
  mm_E.if1 (mm_atc mc110 rfl) (by decide) (ic_eqF (by decide)) rfl <|
  mm_E.iload (mm_atc mc110 rfl) rfl <|
  mm_E.if1 (mm_atc mc110 rfl) h4 (ic_ltT h5) rfl <|
  mm_E.iload (mm_atc mc110 rfl) rfl <|
  mm_E.istore mx110 rfl (mm_atc mc110 rfl) <|
  show mm_E _ _ 110 218 [(7, mI x8), (9, mI 1), (0, .ref 77), (1, mI x1), (3, mI x3), (4, mI x4), (6, mI x6), (8, mI x8)] _ _ _ from
  mm_E.inc mx110 rfl (mm_atc mc110 rfl) rfl <|
  show mm_E _ _ 110 221 [(8, mI (x8 + 1)), (7, mI x8), (9, mI 1), (0, .ref 77), (1, mI x1), (3, mI x3), (4, mI x4), (6, mI x6)] _ _ _ from
  mm_E.goto (mm_atc mc110 rfl) rfl <|
  mm_E.to h ⟨rfl, rfl, rfl, rfl, rfl, rfl, rfl, trivial⟩
theorem p110_141_3 {w d : Nat} {X : List Value} {A : MF} {r : MR} {x1 x3 x4 x6 x7 x8 : Int} (H : R32 x8 ∧ x8 < 6 ∧ R32 (mm_and (mm_shr (mm_and x1 (mm_xor x4 (-1))) x8) 1) ∧ mm_and (mm_shr (mm_and x1 (mm_xor x4 (-1))) x8) 1 = 1 ∧ R32 x7 ∧ 0 ≤ x7 ∧ 0 ≤ x8 ∧ x7 < 6 ∧ R64 ((A 93 x8) * (A 94 x7)) ∧ R64 ((A 93 x7) * (A 94 x8)) ∧ (A 93 x7) * (A 94 x8) ≤ (A 93 x8) * (A 94 x7)) (h : mm_E w d 110 141 [(0, .ref 77), (1, mI x1), (3, mI x3), (4, mI x4), (6, mI x6), (7, mI x7), (8, mI (x8 + 1))] [] (mm_w X A) r) : mm_E w d 110 141 [(0, .ref 77), (1, mI x1), (3, mI x3), (4, mI x4), (6, mI x6), (7, mI x7), (8, mI x8)] [] (mm_w X A) r := by
  obtain ⟨h0, h1, h2, h3, h4, h5, h6, h7, h8, h9, h10⟩ := H
  exact mm_E.iload (mm_atc mc110 rfl) rfl <|
  mm_E.bipush (mm_atc mc110 rfl) rfl <|
  mm_E.if2 (mm_atc mc110 rfl) h0 (by decide) (ic_geF h1) rfl <|
  mm_E.iload_n (mm_atc mc110 rfl) rfl <|
  mm_E.iload (mm_atc mc110 rfl) rfl <|
  mm_E.iconst (mm_atc mc110 rfl) <|
  mm_E.ixor (mm_atc mc110 rfl) <|
  mm_E.iand (mm_atc mc110 rfl) <|
  mm_E.iload (mm_atc mc110 rfl) rfl <|
  mm_E.ishr (mm_atc mc110 rfl) <|
  mm_E.iconst (mm_atc mc110 rfl) <|
  mm_E.iand (mm_atc mc110 rfl) <|
  mm_E.iconst (mm_atc mc110 rfl) <|
  mm_E.if2 (mm_atc mc110 rfl) h2 (by decide) (ic_neF h3) rfl <|
  mm_E.iconst (mm_atc mc110 rfl) <|
  mm_E.goto (mm_atc mc110 rfl) rfl <|
  mm_E.istore mx110 rfl (mm_atc mc110 rfl) <|
  show mm_E _ _ 110 170 [(9, mI 1), (0, .ref 77), (1, mI x1), (3, mI x3), (4, mI x4), (6, mI x6), (7, mI x7), (8, mI x8)] _ _ _ from
  mm_E.iload (mm_atc mc110 rfl) rfl <|
  mm_E.if1 (mm_atc mc110 rfl) (by decide) (ic_eqF (by decide)) rfl <|
  mm_E.iload (mm_atc mc110 rfl) rfl <|
  mm_E.if1 (mm_atc mc110 rfl) h4 (ic_ltF h5) rfl <|
  mm_E.aload_n (mm_atc mc110 rfl) rfl <|
  mm_E.getR (b := 93) (mm_atc mc110 rfl) (mm_plc mp110 rfl) rfl ly77 rfl <|
  mm_E.iload (mm_atc mc110 rfl) rfl <|
  mm_E.laload (e := x8) (mm_atc mc110 rfl) ly93 rfl h6 h1 rfl (rfl) <|
  mm_E.aload_n (mm_atc mc110 rfl) rfl <|
  mm_E.getR (b := 94) (mm_atc mc110 rfl) (mm_plc mp110 rfl) rfl ly77 rfl <|
  mm_E.iload (mm_atc mc110 rfl) rfl <|
  mm_E.laload (e := x7) (mm_atc mc110 rfl) ly94 rfl h5 h7 rfl (rfl) <|
  mm_E.lmul (mm_atc mc110 rfl) <|
  mm_E.aload_n (mm_atc mc110 rfl) rfl <|
  mm_E.getR (b := 93) (mm_atc mc110 rfl) (mm_plc mp110 rfl) rfl ly77 rfl <|
  mm_E.iload (mm_atc mc110 rfl) rfl <|
  mm_E.laload (e := x7) (mm_atc mc110 rfl) ly93 rfl h5 h7 rfl (rfl) <|
  mm_E.aload_n (mm_atc mc110 rfl) rfl <|
  mm_E.getR (b := 94) (mm_atc mc110 rfl) (mm_plc mp110 rfl) rfl ly77 rfl <|
  mm_E.iload (mm_atc mc110 rfl) rfl <|
  mm_E.laload (e := x8) (mm_atc mc110 rfl) ly94 rfl h6 h1 rfl (rfl) <|
  mm_E.lmul (mm_atc mc110 rfl) <|
  mm_E.lif (mm_atc mc110 rfl) (mm_atc mc110 rfl) h8 h9 (ic_geT h10) rfl <|
  mm_E.inc mx110 rfl (mm_atc mc110 rfl) rfl <|
  show mm_E _ _ 110 221 [(8, mI (x8 + 1)), (9, mI 1), (0, .ref 77), (1, mI x1), (3, mI x3), (4, mI x4), (6, mI x6), (7, mI x7)] _ _ _ from
  mm_E.goto (mm_atc mc110 rfl) rfl <|
  mm_E.to h ⟨rfl, rfl, rfl, rfl, rfl, rfl, rfl, trivial⟩
theorem p110_141_4 {w d : Nat} {X : List Value} {A : MF} {r : MR} {x1 x3 x4 x6 x7 x8 : Int} (H : R32 x8 ∧ x8 < 6 ∧ R32 (mm_and (mm_shr (mm_and x1 (mm_xor x4 (-1))) x8) 1) ∧ mm_and (mm_shr (mm_and x1 (mm_xor x4 (-1))) x8) 1 = 1 ∧ R32 x7 ∧ 0 ≤ x7 ∧ 0 ≤ x8 ∧ x7 < 6 ∧ R64 ((A 93 x8) * (A 94 x7)) ∧ R64 ((A 93 x7) * (A 94 x8)) ∧ (A 93 x8) * (A 94 x7) < (A 93 x7) * (A 94 x8)) (h : mm_E w d 110 141 [(0, .ref 77), (1, mI x1), (3, mI x3), (4, mI x4), (6, mI x6), (7, mI x8), (8, mI (x8 + 1))] [] (mm_w X A) r) : mm_E w d 110 141 [(0, .ref 77), (1, mI x1), (3, mI x3), (4, mI x4), (6, mI x6), (7, mI x7), (8, mI x8)] [] (mm_w X A) r := by
  obtain ⟨h0, h1, h2, h3, h4, h5, h6, h7, h8, h9, h10⟩ := H
  exact mm_E.iload (mm_atc mc110 rfl) rfl <|
  mm_E.bipush (mm_atc mc110 rfl) rfl <|
  mm_E.if2 (mm_atc mc110 rfl) h0 (by decide) (ic_geF h1) rfl <|
  mm_E.iload_n (mm_atc mc110 rfl) rfl <|
  mm_E.iload (mm_atc mc110 rfl) rfl <|
  mm_E.iconst (mm_atc mc110 rfl) <|
  mm_E.ixor (mm_atc mc110 rfl) <|
  mm_E.iand (mm_atc mc110 rfl) <|
  mm_E.iload (mm_atc mc110 rfl) rfl <|
  mm_E.ishr (mm_atc mc110 rfl) <|
  mm_E.iconst (mm_atc mc110 rfl) <|
  mm_E.iand (mm_atc mc110 rfl) <|
  mm_E.iconst (mm_atc mc110 rfl) <|
  mm_E.if2 (mm_atc mc110 rfl) h2 (by decide) (ic_neF h3) rfl <|
  mm_E.iconst (mm_atc mc110 rfl) <|
  mm_E.goto (mm_atc mc110 rfl) rfl <|
  mm_E.istore mx110 rfl (mm_atc mc110 rfl) <|
  show mm_E _ _ 110 170 [(9, mI 1), (0, .ref 77), (1, mI x1), (3, mI x3), (4, mI x4), (6, mI x6), (7, mI x7), (8, mI x8)] _ _ _ from
  mm_E.iload (mm_atc mc110 rfl) rfl <|
  mm_E.if1 (mm_atc mc110 rfl) (by decide) (ic_eqF (by decide)) rfl <|
  mm_E.iload (mm_atc mc110 rfl) rfl <|
  mm_E.if1 (mm_atc mc110 rfl) h4 (ic_ltF h5) rfl <|
  mm_E.aload_n (mm_atc mc110 rfl) rfl <|
  mm_E.getR (b := 93) (mm_atc mc110 rfl) (mm_plc mp110 rfl) rfl ly77 rfl <|
  mm_E.iload (mm_atc mc110 rfl) rfl <|
  mm_E.laload (e := x8) (mm_atc mc110 rfl) ly93 rfl h6 h1 rfl (rfl) <|
  mm_E.aload_n (mm_atc mc110 rfl) rfl <|
  mm_E.getR (b := 94) (mm_atc mc110 rfl) (mm_plc mp110 rfl) rfl ly77 rfl <|
  mm_E.iload (mm_atc mc110 rfl) rfl <|
  mm_E.laload (e := x7) (mm_atc mc110 rfl) ly94 rfl h5 h7 rfl (rfl) <|
  mm_E.lmul (mm_atc mc110 rfl) <|
  mm_E.aload_n (mm_atc mc110 rfl) rfl <|
  mm_E.getR (b := 93) (mm_atc mc110 rfl) (mm_plc mp110 rfl) rfl ly77 rfl <|
  mm_E.iload (mm_atc mc110 rfl) rfl <|
  mm_E.laload (e := x7) (mm_atc mc110 rfl) ly93 rfl h5 h7 rfl (rfl) <|
  mm_E.aload_n (mm_atc mc110 rfl) rfl <|
  mm_E.getR (b := 94) (mm_atc mc110 rfl) (mm_plc mp110 rfl) rfl ly77 rfl <|
  mm_E.iload (mm_atc mc110 rfl) rfl <|
  mm_E.laload (e := x8) (mm_atc mc110 rfl) ly94 rfl h6 h1 rfl (rfl) <|
  mm_E.lmul (mm_atc mc110 rfl) <|
  mm_E.lif (mm_atc mc110 rfl) (mm_atc mc110 rfl) h8 h9 (ic_geF h10) rfl <|
  mm_E.iload (mm_atc mc110 rfl) rfl <|
  mm_E.istore mx110 rfl (mm_atc mc110 rfl) <|
  show mm_E _ _ 110 218 [(7, mI x8), (9, mI 1), (0, .ref 77), (1, mI x1), (3, mI x3), (4, mI x4), (6, mI x6), (8, mI x8)] _ _ _ from
  mm_E.inc mx110 rfl (mm_atc mc110 rfl) rfl <|
  show mm_E _ _ 110 221 [(8, mI (x8 + 1)), (7, mI x8), (9, mI 1), (0, .ref 77), (1, mI x1), (3, mI x3), (4, mI x4), (6, mI x6)] _ _ _ from
  mm_E.goto (mm_atc mc110 rfl) rfl <|
  mm_E.to h ⟨rfl, rfl, rfl, rfl, rfl, rfl, rfl, trivial⟩
theorem p111_0_0 {w d : Nat} {X : List Value} {A : MF}  : mm_E w d 111 0 [(0, .ref 77)] [] (mm_w X A) (.inl (some (mI (A 77 0))), mm_w X A, 0, 0) := by
  exact mm_E.aload_n (mm_atc mc111 rfl) rfl <|
  mm_E.getI (z := A 77 0) (mm_atc mc111 rfl) (mm_plc mp111 rfl) rfl ly77 rfl (rfl) <|
  mm_E.iret (mm_atc mc111 rfl) mr111 rfl
