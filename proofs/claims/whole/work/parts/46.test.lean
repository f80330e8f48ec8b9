theorem p61_0_0 {w d : Nat} {X : List Value} {A : MF} {r : MR} {x1 x2 : Int} (h : mm_E w d 61 5 [(0, .ref 2), (1, mI x1), (2, mI x2), (3, mI 0), (4, mI 0)] [] (mm_w X A) r) : mm_E w d 61 0 [(0, .ref 2), (1, mI x1), (2, mI x2)] [] (mm_w X A) r := by
  exact mm_E.iconst (mm_atc mc61 rfl) <|
  mm_E.istore_n mx61 rfl (mm_atc mc61 rfl) <|
  show mm_E _ _ 61 2 [(3, mI 0), (0, .ref 2), (1, mI x1), (2, mI x2)] _ _ _ from
  mm_E.iconst (mm_atc mc61 rfl) <|
  mm_E.istore mx61 rfl (mm_atc mc61 rfl) <|
  show mm_E _ _ 61 5 [(4, mI 0), (3, mI 0), (0, .ref 2), (1, mI x1), (2, mI x2)] _ _ _ from
  mm_E.to h ⟨rfl, rfl, rfl, rfl, rfl, trivial⟩
theorem p61_5_0 {w d : Nat} {X : List Value} {A : MF} {x1 x2 x3 x4 : Int} (H : R32 x4 ∧ R32 (A 2 1) ∧ A 2 1 ≤ x4) : mm_E w d 61 5 [(0, .ref 2), (1, mI x1), (2, mI x2), (3, mI x3), (4, mI x4)] [] (mm_w X A) (.inl (some (mI x3)), mm_w X A, 0, 0) := by
  obtain ⟨h0, h1, h2⟩ := H
  exact mm_E.iload (mm_atc mc61 rfl) rfl <|
  mm_E.aload_n (mm_atc mc61 rfl) rfl <|
  mm_E.getI (z := A 2 1) (mm_atc mc61 rfl) (mm_plc mp61 rfl) rfl ly2 rfl (rfl) <|
  mm_E.if2 (mm_atc mc61 rfl) h0 h1 (ic_geT h2) rfl <|
  mm_E.iload_n (mm_atc mc61 rfl) rfl <|
  mm_E.iret (mm_atc mc61 rfl) mr61 rfl
theorem p61_5_1 {w d : Nat} {X : List Value} {A : MF} {r : MR} {x1 x2 x3 x4 : Int} (H : R32 x4 ∧ R32 (A 2 1) ∧ x4 < A 2 1 ∧ 0 ≤ x4 ∧ x4 < 12 ∧ R32 (A 10 x4) ∧ R32 x2 ∧ A 10 x4 ≠ x2) (h : mm_E w d 61 5 [(0, .ref 2), (1, mI x1), (2, mI x2), (3, mI x3), (4, mI (x4 + 1))] [] (mm_w X A) r) : mm_E w d 61 5 [(0, .ref 2), (1, mI x1), (2, mI x2), (3, mI x3), (4, mI x4)] [] (mm_w X A) r := by
  obtain ⟨h0, h1, h2, h3, h4, h5, h6, h7⟩ := H
  exact mm_E.iload (mm_atc mc61 rfl) rfl <|
  mm_E.aload_n (mm_atc mc61 rfl) rfl <|
  mm_E.getI (z := A 2 1) (mm_atc mc61 rfl) (mm_plc mp61 rfl) rfl ly2 rfl (rfl) <|
  mm_E.if2 (mm_atc mc61 rfl) h0 h1 (ic_geF h2) rfl <|
  mm_E.aload_n (mm_atc mc61 rfl) rfl <|
  mm_E.getR (b := 10) (mm_atc mc61 rfl) (mm_plc mp61 rfl) rfl ly2 rfl <|
  mm_E.iload (mm_atc mc61 rfl) rfl <|
  mm_E.iaload (e := x4) (mm_atc mc61 rfl) ly10 rfl h3 h4 rfl (rfl) <|
  mm_E.iload_n (mm_atc mc61 rfl) rfl <|
  mm_E.if2 (mm_atc mc61 rfl) h5 h6 (ic_neT h7) rfl <|
  mm_E.inc mx61 rfl (mm_atc mc61 rfl) rfl <|
  show mm_E _ _ 61 40 [(4, mI (x4 + 1)), (0, .ref 2), (1, mI x1), (2, mI x2), (3, mI x3)] _ _ _ from
  mm_E.goto (mm_atc mc61 rfl) rfl <|
  mm_E.to h ⟨rfl, rfl, rfl, rfl, rfl, trivial⟩
theorem p61_5_2 {w d : Nat} {X : List Value} {A : MF} {r : MR} {x1 x2 x3 x4 : Int} (H : R32 x4 ∧ R32 (A 2 1) ∧ x4 < A 2 1 ∧ 0 ≤ x4 ∧ x4 < 12 ∧ R32 (A 10 x4) ∧ R32 x2 ∧ A 10 x4 = x2 ∧ 0 ≤ x1 ∧ x1 < 6) (h : mm_E w d 61 5 [(0, .ref 2), (1, mI x1), (2, mI x2), (3, mI (x3 + (A (4 + x1.toNat) x4))), (4, mI (x4 + 1))] [] (mm_w X A) r) : mm_E w d 61 5 [(0, .ref 2), (1, mI x1), (2, mI x2), (3, mI x3), (4, mI x4)] [] (mm_w X A) r := by
  obtain ⟨h0, h1, h2, h3, h4, h5, h6, h7, h8, h9⟩ := H
  exact mm_E.iload (mm_atc mc61 rfl) rfl <|
  mm_E.aload_n (mm_atc mc61 rfl) rfl <|
  mm_E.getI (z := A 2 1) (mm_atc mc61 rfl) (mm_plc mp61 rfl) rfl ly2 rfl (rfl) <|
  mm_E.if2 (mm_atc mc61 rfl) h0 h1 (ic_geF h2) rfl <|
  mm_E.aload_n (mm_atc mc61 rfl) rfl <|
  mm_E.getR (b := 10) (mm_atc mc61 rfl) (mm_plc mp61 rfl) rfl ly2 rfl <|
  mm_E.iload (mm_atc mc61 rfl) rfl <|
  mm_E.iaload (e := x4) (mm_atc mc61 rfl) ly10 rfl h3 h4 rfl (rfl) <|
  mm_E.iload_n (mm_atc mc61 rfl) rfl <|
  mm_E.if2 (mm_atc mc61 rfl) h5 h6 (ic_neF h7) rfl <|
  mm_E.iload_n (mm_atc mc61 rfl) rfl <|
  mm_E.aload_n (mm_atc mc61 rfl) rfl <|
  mm_E.getR (b := 3) (mm_atc mc61 rfl) (mm_plc mp61 rfl) rfl ly2 rfl <|
  mm_E.iload_n (mm_atc mc61 rfl) rfl <|
  mm_E.aaload (mm_atc mc61 rfl) ly3 rfl h8 h9 (la4 h8 h9) <|
  mm_E.iload (mm_atc mc61 rfl) rfl <|
  mm_E.iaload (e := x4) (mm_atc mc61 rfl) (lr4 h8 h9) rfl h3 h4 rfl (rfl) <|
  mm_E.iadd (mm_atc mc61 rfl) <|
  mm_E.istore_n mx61 rfl (mm_atc mc61 rfl) <|
  show mm_E _ _ 61 37 [(3, mI (x3 + (A (4 + x1.toNat) x4))), (0, .ref 2), (1, mI x1), (2, mI x2), (4, mI x4)] _ _ _ from
  mm_E.inc mx61 rfl (mm_atc mc61 rfl) rfl <|
  show mm_E _ _ 61 40 [(4, mI (x4 + 1)), (3, mI (x3 + (A (4 + x1.toNat) x4))), (0, .ref 2), (1, mI x1), (2, mI x2)] _ _ _ from
  mm_E.goto (mm_atc mc61 rfl) rfl <|
  mm_E.to h ⟨rfl, rfl, rfl, rfl, rfl, trivial⟩
theorem p62_0_0 {w d : Nat} {X : List Value} {A : MF} {x1 x2 x3 z0 z1 : Int} (s0 : mm_E w d 61 0 [(0, .ref 2), (1, mI x1), (2, mI x2)] [] (mm_w X A) (.inl (some (mI z0)), mm_w X A, 0, 0)) (s1 : mm_E w d 61 0 [(0, .ref 2), (1, mI x1), (2, mI x1)] [] (mm_w X A) (.inl (some (mI z1)), mm_w X A, 0, 0)) (H : R32 x3 ∧ x3 = 0 ∧ R32 (z0 - z1)) : mm_E w (d + 1) 62 0 [(0, .ref 2), (1, mI x1), (2, mI x2), (3, mI x3)] [] (mm_w X A) (.inl (some (mI (max 0 (z0 - z1)))), mm_w X A, 0, 0) := by
  obtain ⟨h0, h1, h2⟩ := H
  exact mm_E.aload_n (mm_atc mc62 rfl) rfl <|
  mm_E.iload_n (mm_atc mc62 rfl) rfl <|
  mm_E.iload_n (mm_atc mc62 rfl) rfl <|
  mm_E.callV0 (mm_atc mc62 rfl) (mm_plc mp62 rfl) rfl mk61 ly2 rfl mx61 rfl rfl s0 (by omega) <|
  show mm_E _ _ 62 6 _ _ _ _ from
  mm_E.istore mx62 rfl (mm_atc mc62 rfl) <|
  show mm_E _ _ 62 8 [(4, mI z0), (0, .ref 2), (1, mI x1), (2, mI x2), (3, mI x3)] _ _ _ from
  mm_E.iload_n (mm_atc mc62 rfl) rfl <|
  mm_E.if1 (mm_atc mc62 rfl) h0 (ic_eqT h1) rfl <|
  mm_E.iconst (mm_atc mc62 rfl) <|
  mm_E.iload (mm_atc mc62 rfl) rfl <|
  mm_E.aload_n (mm_atc mc62 rfl) rfl <|
  mm_E.iload_n (mm_atc mc62 rfl) rfl <|
  mm_E.iload_n (mm_atc mc62 rfl) rfl <|
  mm_E.callV0 (mm_atc mc62 rfl) (mm_plc mp62 rfl) rfl mk61 ly2 rfl mx61 rfl rfl s1 (by omega) <|
  show mm_E _ _ 62 32 _ _ _ _ from
  mm_E.isub (mm_atc mc62 rfl) <|
  mm_E.maxI (by decide) h2 (mm_atc mc62 rfl) (mm_plc mp62 rfl) rfl <|
  mm_E.iret (mm_atc mc62 rfl) mr62 rfl
theorem p62_0_1 {w d : Nat} {X : List Value} {A : MF} {x1 x2 x3 z0 z1 z2 : Int} (s0 : mm_E w d 61 0 [(0, .ref 2), (1, mI x1), (2, mI x2)] [] (mm_w X A) (.inl (some (mI z0)), mm_w X A, 0, 0)) (s1 : mm_E w d 63 0 [(0, .ref 2), (1, mI x1), (2, mI x2)] [] (mm_w X A) (.inl (some (mI z1)), mm_w X A, 0, 0)) (s2 : mm_E w d 61 0 [(0, .ref 2), (1, mI x1), (2, mI x1)] [] (mm_w X A) (.inl (some (mI z2)), mm_w X A, 0, 0)) (H : R32 x3 ∧ x3 ≠ 0 ∧ R32 ((z0 - z1) - z2)) : mm_E w (d + 1) 62 0 [(0, .ref 2), (1, mI x1), (2, mI x2), (3, mI x3)] [] (mm_w X A) (.inl (some (mI (max 0 ((z0 - z1) - z2)))), mm_w X A, 0, 0) := by
  obtain ⟨h0, h1, h2⟩ := H
  exact mm_E.aload_n (mm_atc mc62 rfl) rfl <|
  mm_E.iload_n (mm_atc mc62 rfl) rfl <|
  mm_E.iload_n (mm_atc mc62 rfl) rfl <|
  mm_E.callV0 (mm_atc mc62 rfl) (mm_plc mp62 rfl) rfl mk61 ly2 rfl mx61 rfl rfl s0 (by omega) <|
  show mm_E _ _ 62 6 _ _ _ _ from
  mm_E.istore mx62 rfl (mm_atc mc62 rfl) <|
  show mm_E _ _ 62 8 [(4, mI z0), (0, .ref 2), (1, mI x1), (2, mI x2), (3, mI x3)] _ _ _ from
  mm_E.iload_n (mm_atc mc62 rfl) rfl <|
  mm_E.if1 (mm_atc mc62 rfl) h0 (ic_eqF h1) rfl <|
  mm_E.iload (mm_atc mc62 rfl) rfl <|
  mm_E.aload_n (mm_atc mc62 rfl) rfl <|
  mm_E.iload_n (mm_atc mc62 rfl) rfl <|
  mm_E.iload_n (mm_atc mc62 rfl) rfl <|
  mm_E.callV0 (mm_atc mc62 rfl) (mm_plc mp62 rfl) rfl mk63 ly2 rfl mx63 rfl rfl s1 (by omega) <|
  show mm_E _ _ 62 20 _ _ _ _ from
  mm_E.isub (mm_atc mc62 rfl) <|
  mm_E.istore mx62 rfl (mm_atc mc62 rfl) <|
  show mm_E _ _ 62 23 [(4, mI (z0 - z1)), (0, .ref 2), (1, mI x1), (2, mI x2), (3, mI x3)] _ _ _ from
  mm_E.iconst (mm_atc mc62 rfl) <|
  mm_E.iload (mm_atc mc62 rfl) rfl <|
  mm_E.aload_n (mm_atc mc62 rfl) rfl <|
  mm_E.iload_n (mm_atc mc62 rfl) rfl <|
  mm_E.iload_n (mm_atc mc62 rfl) rfl <|
  mm_E.callV0 (mm_atc mc62 rfl) (mm_plc mp62 rfl) rfl mk61 ly2 rfl mx61 rfl rfl s2 (by omega) <|
  show mm_E _ _ 62 32 _ _ _ _ from
  mm_E.isub (mm_atc mc62 rfl) <|
  mm_E.maxI (by decide) h2 (mm_atc mc62 rfl) (mm_plc mp62 rfl) rfl <|
  mm_E.iret (mm_atc mc62 rfl) mr62 rfl
theorem p63_0_0 {w d : Nat} {X : List Value} {A : MF} {r : MR} {x1 x2 : Int} (h : mm_E w d 63 5 [(0, .ref 2), (1, mI x1), (2, mI x2), (3, mI 0), (4, mI 0)] [] (mm_w X A) r) : mm_E w d 63 0 [(0, .ref 2), (1, mI x1), (2, mI x2)] [] (mm_w X A) r := by
  exact mm_E.iconst (mm_atc mc63 rfl) <|
  mm_E.istore_n mx63 rfl (mm_atc mc63 rfl) <|
  show mm_E _ _ 63 2 [(3, mI 0), (0, .ref 2), (1, mI x1), (2, mI x2)] _ _ _ from
  mm_E.iconst (mm_atc mc63 rfl) <|
  mm_E.istore mx63 rfl (mm_atc mc63 rfl) <|
  show mm_E _ _ 63 5 [(4, mI 0), (3, mI 0), (0, .ref 2), (1, mI x1), (2, mI x2)] _ _ _ from
  mm_E.to h ⟨rfl, rfl, rfl, rfl, rfl, trivial⟩
theorem p63_5_0 {w d : Nat} {X : List Value} {A : MF} {x1 x2 x3 x4 : Int} (H : R32 x4 ∧ R32 (A 2 1) ∧ A 2 1 ≤ x4) : mm_E w d 63 5 [(0, .ref 2), (1, mI x1), (2, mI x2), (3, mI x3), (4, mI x4)] [] (mm_w X A) (.inl (some (mI x3)), mm_w X A, 0, 0) := by
  obtain ⟨h0, h1, h2⟩ := H
  exact mm_E.iload (mm_atc mc63 rfl) rfl <|
  mm_E.aload_n (mm_atc mc63 rfl) rfl <|
  mm_E.getI (z := A 2 1) (mm_atc mc63 rfl) (mm_plc mp63 rfl) rfl ly2 rfl (rfl) <|
  mm_E.if2 (mm_atc mc63 rfl) h0 h1 (ic_geT h2) rfl <|
  mm_E.iload_n (mm_atc mc63 rfl) rfl <|
  mm_E.iret (mm_atc mc63 rfl) mr63 rfl
theorem p63_5_1 {w d : Nat} {X : List Value} {A : MF} {r : MR} {x1 x2 x3 x4 : Int} (H : R32 x4 ∧ R32 (A 2 1) ∧ x4 < A 2 1 ∧ 0 ≤ x4 ∧ x4 < 12 ∧ R32 (A 10 x4) ∧ R32 x2 ∧ A 10 x4 ≠ x2) (h : mm_E w d 63 5 [(0, .ref 2), (1, mI x1), (2, mI x2), (3, mI x3), (4, mI (x4 + 1))] [] (mm_w X A) r) : mm_E w d 63 5 [(0, .ref 2), (1, mI x1), (2, mI x2), (3, mI x3), (4, mI x4)] [] (mm_w X A) r := by
  obtain ⟨h0, h1, h2, h3, h4, h5, h6, h7⟩ := H
  exact mm_E.iload (mm_atc mc63 rfl) rfl <|
  mm_E.aload_n (mm_atc mc63 rfl) rfl <|
  mm_E.getI (z := A 2 1) (mm_atc mc63 rfl) (mm_plc mp63 rfl) rfl ly2 rfl (rfl) <|
  mm_E.if2 (mm_atc mc63 rfl) h0 h1 (ic_geF h2) rfl <|
  mm_E.aload_n (mm_atc mc63 rfl) rfl <|
  mm_E.getR (b := 10) (mm_atc mc63 rfl) (mm_plc mp63 rfl) rfl ly2 rfl <|
  mm_E.iload (mm_atc mc63 rfl) rfl <|
  mm_E.iaload (e := x4) (mm_atc mc63 rfl) ly10 rfl h3 h4 rfl (rfl) <|
  mm_E.iload_n (mm_atc mc63 rfl) rfl <|
  mm_E.if2 (mm_atc mc63 rfl) h5 h6 (ic_neT h7) rfl <|
  mm_E.inc mx63 rfl (mm_atc mc63 rfl) rfl <|
  show mm_E _ _ 63 42 [(4, mI (x4 + 1)), (0, .ref 2), (1, mI x1), (2, mI x2), (3, mI x3)] _ _ _ from
  mm_E.goto (mm_atc mc63 rfl) rfl <|
  mm_E.to h ⟨rfl, rfl, rfl, rfl, rfl, trivial⟩
theorem p63_5_2 {w d : Nat} {X : List Value} {A : MF} {r : MR} {x1 x2 x3 x4 : Int} (H : R32 x4 ∧ R32 (A 2 1) ∧ x4 < A 2 1 ∧ 0 ≤ x4 ∧ x4 < 12 ∧ R32 (A 10 x4) ∧ R32 x2 ∧ A 10 x4 = x2 ∧ 0 ≤ x1 ∧ x1 < 6 ∧ R32 x3 ∧ R32 (A (4 + x1.toNat) x4)) (h : mm_E w (d + 1) 63 5 [(0, .ref 2), (1, mI x1), (2, mI x2), (3, mI (max x3 (A (4 + x1.toNat) x4))), (4, mI (x4 + 1))] [] (mm_w X A) r) : mm_E w (d + 1) 63 5 [(0, .ref 2), (1, mI x1), (2, mI x2), (3, mI x3), (4, mI x4)] [] (mm_w X A) r := by
  obtain ⟨h0, h1, h2, h3, h4, h5, h6, h7, h8, h9, h10, h11⟩ := H
  exact mm_E.iload (mm_atc mc63 rfl) rfl <|
  mm_E.aload_n (mm_atc mc63 rfl) rfl <|
  mm_E.getI (z := A 2 1) (mm_atc mc63 rfl) (mm_plc mp63 rfl) rfl ly2 rfl (rfl) <|
  mm_E.if2 (mm_atc mc63 rfl) h0 h1 (ic_geF h2) rfl <|
  mm_E.aload_n (mm_atc mc63 rfl) rfl <|
  mm_E.getR (b := 10) (mm_atc mc63 rfl) (mm_plc mp63 rfl) rfl ly2 rfl <|
  mm_E.iload (mm_atc mc63 rfl) rfl <|
  mm_E.iaload (e := x4) (mm_atc mc63 rfl) ly10 rfl h3 h4 rfl (rfl) <|
  mm_E.iload_n (mm_atc mc63 rfl) rfl <|
  mm_E.if2 (mm_atc mc63 rfl) h5 h6 (ic_neF h7) rfl <|
  mm_E.iload_n (mm_atc mc63 rfl) rfl <|
  mm_E.aload_n (mm_atc mc63 rfl) rfl <|
  mm_E.getR (b := 3) (mm_atc mc63 rfl) (mm_plc mp63 rfl) rfl ly2 rfl <|
  mm_E.iload_n (mm_atc mc63 rfl) rfl <|
  mm_E.aaload (mm_atc mc63 rfl) ly3 rfl h8 h9 (la4 h8 h9) <|
  mm_E.iload (mm_atc mc63 rfl) rfl <|
  mm_E.iaload (e := x4) (mm_atc mc63 rfl) (lr4 h8 h9) rfl h3 h4 rfl (rfl) <|
  mm_E.maxI h10 h11 (mm_atc mc63 rfl) (mm_plc mp63 rfl) rfl <|
  mm_E.istore_n mx63 rfl (mm_atc mc63 rfl) <|
  show mm_E _ _ 63 39 [(3, mI (max x3 (A (4 + x1.toNat) x4))), (0, .ref 2), (1, mI x1), (2, mI x2), (4, mI x4)] _ _ _ from
  mm_E.inc mx63 rfl (mm_atc mc63 rfl) rfl <|
  show mm_E _ _ 63 42 [(4, mI (x4 + 1)), (3, mI (max x3 (A (4 + x1.toNat) x4))), (0, .ref 2), (1, mI x1), (2, mI x2)] _ _ _ from
  mm_E.goto (mm_atc mc63 rfl) rfl <|
  mm_E.to h ⟨rfl, rfl, rfl, rfl, rfl, trivial⟩
theorem p23_0_0 {w d : Nat} {X : List Value} {A : MF} {x0 x1 x2 : Int} (H : R32 x1 ∧ R32 x0 ∧ x0 < x1) : mm_E w d 23 0 [(0, mI x0), (1, mI x1), (2, mI x2)] [] (mm_w X A) (.inl (some (mI 0)), mm_w X A, 0, 0) := by
  obtain ⟨h0, h1, h2⟩ := H
  exact mm_E.iload_n (mm_atc mc23 rfl) rfl <|
  mm_E.iload_n (mm_atc mc23 rfl) rfl <|
  mm_E.if2 (mm_atc mc23 rfl) h0 h1 (ic_gtT h2) rfl <|
  mm_E.iconst (mm_atc mc23 rfl) <|
  mm_E.iret (mm_atc mc23 rfl) mr23 rfl
theorem p23_0_1 {w d : Nat} {X : List Value} {A : MF} {x0 x1 x2 : Int} (H : R32 x1 ∧ R32 x0 ∧ x1 ≤ x0 ∧ R32 x2 ∧ x2 < x0) : mm_E w d 23 0 [(0, mI x0), (1, mI x1), (2, mI x2)] [] (mm_w X A) (.inl (some (mI 0)), mm_w X A, 0, 0) := by
  obtain ⟨h0, h1, h2, h3, h4⟩ := H
  exact mm_E.iload_n (mm_atc mc23 rfl) rfl <|
  mm_E.iload_n (mm_atc mc23 rfl) rfl <|
  mm_E.if2 (mm_atc mc23 rfl) h0 h1 (ic_gtF h2) rfl <|
  mm_E.iload_n (mm_atc mc23 rfl) rfl <|
  mm_E.iload_n (mm_atc mc23 rfl) rfl <|
  mm_E.if2 (mm_atc mc23 rfl) h1 h3 (ic_gtT h4) rfl <|
  mm_E.iconst (mm_atc mc23 rfl) <|
  mm_E.iret (mm_atc mc23 rfl) mr23 rfl
theorem p23_0_2 {w d : Nat} {X : List Value} {A : MF} {x0 x1 x2 : Int} (H : R32 x1 ∧ R32 x0 ∧ x1 ≤ x0 ∧ R32 x2 ∧ x0 ≤ x2) : mm_E w d 23 0 [(0, mI x0), (1, mI x1), (2, mI x2)] [] (mm_w X A) (.inl (some (mI 1)), mm_w X A, 0, 0) := by
  obtain ⟨h0, h1, h2, h3, h4⟩ := H
  exact mm_E.iload_n (mm_atc mc23 rfl) rfl <|
  mm_E.iload_n (mm_atc mc23 rfl) rfl <|
  mm_E.if2 (mm_atc mc23 rfl) h0 h1 (ic_gtF h2) rfl <|
  mm_E.iload_n (mm_atc mc23 rfl) rfl <|
  mm_E.iload_n (mm_atc mc23 rfl) rfl <|
  mm_E.if2 (mm_atc mc23 rfl) h1 h3 (ic_gtF h4) rfl <|
  mm_E.iconst (mm_atc mc23 rfl) <|
  mm_E.goto (mm_atc mc23 rfl) rfl <|
  mm_E.iret (mm_atc mc23 rfl) mr23 rfl
theorem p66_0_0 {w d : Nat} {X : List Value} {A : MF} {r : MR} {x1 : Int} (h : mm_E w d 66 4 [(0, .ref 2), (1, mI x1), (2, mI (-1)), (3, mI 0)] [] (mm_w X A) r) : mm_E w d 66 0 [(0, .ref 2), (1, mI x1)] [] (mm_w X A) r := by
  exact mm_E.iconst (mm_atc mc66 rfl) <|
  mm_E.istore_n mx66 rfl (mm_atc mc66 rfl) <|
  show mm_E _ _ 66 2 [(2, mI (-1)), (0, .ref 2), (1, mI x1)] _ _ _ from
  mm_E.iconst (mm_atc mc66 rfl) <|
  mm_E.istore_n mx66 rfl (mm_atc mc66 rfl) <|
  show mm_E _ _ 66 4 [(3, mI 0), (2, mI (-1)), (0, .ref 2), (1, mI x1)] _ _ _ from
  mm_E.to h ⟨rfl, rfl, rfl, rfl, trivial⟩
theorem p66_4_0 {w d : Nat} {X : List Value} {A : MF} {x1 x2 x3 : Int} (H : R32 x3 ∧ R32 (A 2 1) ∧ A 2 1 ≤ x3) : mm_E w d 66 4 [(0, .ref 2), (1, mI x1), (2, mI x2), (3, mI x3)] [] (mm_w X A) (.inl (some (mI x2)), mm_w X A, 0, 0) := by
  obtain ⟨h0, h1, h2⟩ := H
  exact mm_E.iload_n (mm_atc mc66 rfl) rfl <|
  mm_E.aload_n (mm_atc mc66 rfl) rfl <|
  mm_E.getI (z := A 2 1) (mm_atc mc66 rfl) (mm_plc mp66 rfl) rfl ly2 rfl (rfl) <|
  mm_E.if2 (mm_atc mc66 rfl) h0 h1 (ic_geT h2) rfl <|
  mm_E.iload_n (mm_atc mc66 rfl) rfl <|
  mm_E.iret (mm_atc mc66 rfl) mr66 rfl
theorem p66_4_1 {w d : Nat} {X : List Value} {A : MF} {r : MR} {x1 x2 x3 : Int} (H : R32 x3 ∧ R32 (A 2 1) ∧ x3 < A 2 1 ∧ 0 ≤ x3 ∧ x3 < 12 ∧ R32 (A 10 x3) ∧ A 10 x3 ≠ (-1)) (h : mm_E w d 66 4 [(0, .ref 2), (1, mI x1), (2, mI x2), (3, mI (x3 + 1))] [] (mm_w X A) r) : mm_E w d 66 4 [(0, .ref 2), (1, mI x1), (2, mI x2), (3, mI x3)] [] (mm_w X A) r := by
  obtain ⟨h0, h1, h2, h3, h4, h5, h6⟩ := H
  exact mm_E.iload_n (mm_atc mc66 rfl) rfl <|
  mm_E.aload_n (mm_atc mc66 rfl) rfl <|
  mm_E.getI (z := A 2 1) (mm_atc mc66 rfl) (mm_plc mp66 rfl) rfl ly2 rfl (rfl) <|
  mm_E.if2 (mm_atc mc66 rfl) h0 h1 (ic_geF h2) rfl <|
  mm_E.aload_n (mm_atc mc66 rfl) rfl <|
  mm_E.getR (b := 10) (mm_atc mc66 rfl) (mm_plc mp66 rfl) rfl ly2 rfl <|
  mm_E.iload_n (mm_atc mc66 rfl) rfl <|
  mm_E.iaload (e := x3) (mm_atc mc66 rfl) ly10 rfl h3 h4 rfl (rfl) <|
  mm_E.iconst (mm_atc mc66 rfl) <|
  mm_E.if2 (mm_atc mc66 rfl) h5 (by decide) (ic_neT h6) rfl <|
  mm_E.inc mx66 rfl (mm_atc mc66 rfl) rfl <|
  show mm_E _ _ 66 51 [(3, mI (x3 + 1)), (0, .ref 2), (1, mI x1), (2, mI x2)] _ _ _ from
  mm_E.goto (mm_atc mc66 rfl) rfl <|
  mm_E.to h ⟨rfl, rfl, rfl, rfl, trivial⟩
theorem p66_4_2 {w d : Nat} {X : List Value} {A : MF} {r : MR} {x1 x2 x3 : Int} (H : R32 x3 ∧ R32 (A 2 1) ∧ x3 < A 2 1 ∧ 0 ≤ x3 ∧ x3 < 12 ∧ R32 (A 10 x3) ∧ A 10 x3 = (-1) ∧ R32 x2 ∧ x2 = (-1)) (h : mm_E w d 66 4 [(0, .ref 2), (1, mI x1), (2, mI x3), (3, mI (x3 + 1))] [] (mm_w X A) r) : mm_E w d 66 4 [(0, .ref 2), (1, mI x1), (2, mI x2), (3, mI x3)] [] (mm_w X A) r := by
  obtain ⟨h0, h1, h2, h3, h4, h5, h6, h7, h8⟩ := H
  exact mm_E.iload_n (mm_atc mc66 rfl) rfl <|
  mm_E.aload_n (mm_atc mc66 rfl) rfl <|
  mm_E.getI (z := A 2 1) (mm_atc mc66 rfl) (mm_plc mp66 rfl) rfl ly2 rfl (rfl) <|
  mm_E.if2 (mm_atc mc66 rfl) h0 h1 (ic_geF h2) rfl <|
  mm_E.aload_n (mm_atc mc66 rfl) rfl <|
  mm_E.getR (b := 10) (mm_atc mc66 rfl) (mm_plc mp66 rfl) rfl ly2 rfl <|
  mm_E.iload_n (mm_atc mc66 rfl) rfl <|
  mm_E.iaload (e := x3) (mm_atc mc66 rfl) ly10 rfl h3 h4 rfl (rfl) <|
  mm_E.iconst (mm_atc mc66 rfl) <|
  mm_E.if2 (mm_atc mc66 rfl) h5 (by decide) (ic_neF h6) rfl <|
  mm_E.iload_n (mm_atc mc66 rfl) rfl <|
  mm_E.iconst (mm_atc mc66 rfl) <|
  mm_E.if2 (mm_atc mc66 rfl) h7 (by decide) (ic_eqT h8) rfl <|
  mm_E.iload_n (mm_atc mc66 rfl) rfl <|
  mm_E.istore_n mx66 rfl (mm_atc mc66 rfl) <|
  show mm_E _ _ 66 48 [(2, mI x3), (0, .ref 2), (1, mI x1), (3, mI x3)] _ _ _ from
  mm_E.inc mx66 rfl (mm_atc mc66 rfl) rfl <|
  show mm_E _ _ 66 51 [(3, mI (x3 + 1)), (2, mI x3), (0, .ref 2), (1, mI x1)] _ _ _ from
  mm_E.goto (mm_atc mc66 rfl) rfl <|
  mm_E.to h ⟨rfl, rfl, rfl, rfl, trivial⟩
theorem p66_4_3 {w d : Nat} {X : List Value} {A : MF} {r : MR} {x1 x2 x3 : Int} (H : R32 x3 ∧ R32 (A 2 1) ∧ x3 < A 2 1 ∧ 0 ≤ x3 ∧ x3 < 12 ∧ R32 (A 10 x3) ∧ A 10 x3 = (-1) ∧ R32 x2 ∧ x2 ≠ (-1) ∧ 0 ≤ x1 ∧ x1 < 6 ∧ 0 ≤ x2 ∧ x2 < 12 ∧ R32 (A (4 + x1.toNat) x3) ∧ R32 (A (4 + x1.toNat) x2) ∧ A (4 + x1.toNat) x3 ≤ A (4 + x1.toNat) x2) (h : mm_E w d 66 4 [(0, .ref 2), (1, mI x1), (2, mI x2), (3, mI (x3 + 1))] [] (mm_w X A) r) : mm_E w d 66 4 [(0, .ref 2), (1, mI x1), (2, mI x2), (3, mI x3)] [] (mm_w X A) r := by
  obtain ⟨h0, h1, h2, h3, h4, h5, h6, h7, h8, h9, h10, h11, h12, h13, h14, h15⟩ := H
  exact mm_E.iload_n (mm_atc mc66 rfl) rfl <|
  mm_E.aload_n (mm_atc mc66 rfl) rfl <|
  mm_E.getI (z := A 2 1) (mm_atc mc66 rfl) (mm_plc mp66 rfl) rfl ly2 rfl (rfl) <|
  mm_E.if2 (mm_atc mc66 rfl) h0 h1 (ic_geF h2) rfl <|
  mm_E.aload_n (mm_atc mc66 rfl) rfl <|
  mm_E.getR (b := 10) (mm_atc mc66 rfl) (mm_plc mp66 rfl) rfl ly2 rfl <|
  mm_E.iload_n (mm_atc mc66 rfl) rfl <|
  mm_E.iaload (e := x3) (mm_atc mc66 rfl) ly10 rfl h3 h4 rfl (rfl) <|
  mm_E.iconst (mm_atc mc66 rfl) <|
  mm_E.if2 (mm_atc mc66 rfl) h5 (by decide) (ic_neF h6) rfl <|
  mm_E.iload_n (mm_atc mc66 rfl) rfl <|
  mm_E.iconst (mm_atc mc66 rfl) <|
  mm_E.if2 (mm_atc mc66 rfl) h7 (by decide) (ic_eqF h8) rfl <|
  mm_E.aload_n (mm_atc mc66 rfl) rfl <|
  mm_E.getR (b := 3) (mm_atc mc66 rfl) (mm_plc mp66 rfl) rfl ly2 rfl <|
  mm_E.iload_n (mm_atc mc66 rfl) rfl <|
  mm_E.aaload (mm_atc mc66 rfl) ly3 rfl h9 h10 (la4 h9 h10) <|
  mm_E.iload_n (mm_atc mc66 rfl) rfl <|
  mm_E.iaload (e := x3) (mm_atc mc66 rfl) (lr4 h9 h10) rfl h3 h4 rfl (rfl) <|
  mm_E.aload_n (mm_atc mc66 rfl) rfl <|
  mm_E.getR (b := 3) (mm_atc mc66 rfl) (mm_plc mp66 rfl) rfl ly2 rfl <|
  mm_E.iload_n (mm_atc mc66 rfl) rfl <|
  mm_E.aaload (mm_atc mc66 rfl) ly3 rfl h9 h10 (la4 h9 h10) <|
  mm_E.iload_n (mm_atc mc66 rfl) rfl <|
  mm_E.iaload (e := x2) (mm_atc mc66 rfl) (lr4 h9 h10) rfl h11 h12 rfl (rfl) <|
  mm_E.if2 (mm_atc mc66 rfl) h13 h14 (ic_leT h15) rfl <|
  mm_E.inc mx66 rfl (mm_atc mc66 rfl) rfl <|
  show mm_E _ _ 66 51 [(3, mI (x3 + 1)), (0, .ref 2), (1, mI x1), (2, mI x2)] _ _ _ from
  mm_E.goto (mm_atc mc66 rfl) rfl <|
  mm_E.to h ⟨rfl, rfl, rfl, rfl, trivial⟩
theorem p66_4_4 {w d : Nat} {X : List Value} {A : MF} {r : MR} {x1 x2 x3 : Int} (H : R32 x3 ∧ R32 (A 2 1) ∧ x3 < A 2 1 ∧ 0 ≤ x3 ∧ x3 < 12 ∧ R32 (A 10 x3) ∧ A 10 x3 = (-1) ∧ R32 x2 ∧ x2 ≠ (-1) ∧ 0 ≤ x1 ∧ x1 < 6 ∧ 0 ≤ x2 ∧ x2 < 12 ∧ R32 (A (4 + x1.toNat) x3) ∧ R32 (A (4 + x1.toNat) x2) ∧ A (4 + x1.toNat) x2 < A (4 + x1.toNat) x3) (h : mm_E w d 66 4 [(0, .ref 2), (1, mI x1), (2, mI x3), (3, mI (x3 + 1))] [] (mm_w X A) r) : mm_E w d 66 4 [(0, .ref 2), (1, mI x1), (2, mI x2), (3, mI x3)] [] (mm_w X A) r := by
  obtain ⟨h0, h1, h2, h3, h4, h5, h6, h7, h8, h9, h10, h11, h12, h13, h14, h15⟩ := H
  exact mm_E.iload_n (mm_atc mc66 rfl) rfl <|
  mm_E.aload_n (mm_atc mc66 rfl) rfl <|
  mm_E.getI (z := A 2 1) (mm_atc mc66 rfl) (mm_plc mp66 rfl) rfl ly2 rfl (rfl) <|
  mm_E.if2 (mm_atc mc66 rfl) h0 h1 (ic_geF h2) rfl <|
  mm_E.aload_n (mm_atc mc66 rfl) rfl <|
  mm_E.getR (b := 10) (mm_atc mc66 rfl) (mm_plc mp66 rfl) rfl ly2 rfl <|
  mm_E.iload_n (mm_atc mc66 rfl) rfl <|
  mm_E.iaload (e := x3) (mm_atc mc66 rfl) ly10 rfl h3 h4 rfl (rfl) <|
  mm_E.iconst (mm_atc mc66 rfl) <|
  mm_E.if2 (mm_atc mc66 rfl) h5 (by decide) (ic_neF h6) rfl <|
  mm_E.iload_n (mm_atc mc66 rfl) rfl <|
  mm_E.iconst (mm_atc mc66 rfl) <|
  mm_E.if2 (mm_atc mc66 rfl) h7 (by decide) (ic_eqF h8) rfl <|
  mm_E.aload_n (mm_atc mc66 rfl) rfl <|
  mm_E.getR (b := 3) (mm_atc mc66 rfl) (mm_plc mp66 rfl) rfl ly2 rfl <|
  mm_E.iload_n (mm_atc mc66 rfl) rfl <|
  mm_E.aaload (mm_atc mc66 rfl) ly3 rfl h9 h10 (la4 h9 h10) <|
  mm_E.iload_n (mm_atc mc66 rfl) rfl <|
  mm_E.iaload (e := x3) (mm_atc mc66 rfl) (lr4 h9 h10) rfl h3 h4 rfl (rfl) <|
  mm_E.aload_n (mm_atc mc66 rfl) rfl <|
  mm_E.getR (b := 3) (mm_atc mc66 rfl) (mm_plc mp66 rfl) rfl ly2 rfl <|
  mm_E.iload_n (mm_atc mc66 rfl) rfl <|
  mm_E.aaload (mm_atc mc66 rfl) ly3 rfl h9 h10 (la4 h9 h10) <|
  mm_E.iload_n (mm_atc mc66 rfl) rfl <|
  mm_E.iaload (e := x2) (mm_atc mc66 rfl) (lr4 h9 h10) rfl h11 h12 rfl (rfl) <|
  mm_E.if2 (mm_atc mc66 rfl) h13 h14 (ic_leF h15) rfl <|
  mm_E.iload_n (mm_atc mc66 rfl) rfl <|
  mm_E.istore_n mx66 rfl (mm_atc mc66 rfl) <|
  show mm_E _ _ 66 48 [(2, mI x3), (0, .ref 2), (1, mI x1), (3, mI x3)] _ _ _ from
  mm_E.inc mx66 rfl (mm_atc mc66 rfl) rfl <|
  show mm_E _ _ 66 51 [(3, mI (x3 + 1)), (2, mI x3), (0, .ref 2), (1, mI x1)] _ _ _ from
  mm_E.goto (mm_atc mc66 rfl) rfl <|
  mm_E.to h ⟨rfl, rfl, rfl, rfl, trivial⟩
