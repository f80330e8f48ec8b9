/-! Paths of the methods, from each entry and loop head to the next; written by a program of our own (wip/whole/src/gen.py). -/
theorem p23_0_0 {w d : Nat} {X : List Value} {A : MF} {x0 x1 x2 : Int} (H : R32 x1 ∧ R32 x0 ∧ x0 < x1) : mm_E w d 23 0 [(0, mI x0), (1, mI x1), (2, mI x2)] [] (mm_w X A) (.inl (some (mI 0)), mm_w X A, 0, 0) := by
  obtain ⟨h0, h1, h2⟩ := H
  exact mm_E.iload_n (mm_atc mc23 rfl) rfl <|
  mm_E.iload_n (mm_atc mc23 rfl) rfl <|
  mm_E.if2 (mm_atc mc23 rfl) h0 h1 (ic_gtT h2) rfl <|
  mm_E.iconst (mm_atc mc23 rfl) <|
  mm_E.iret (mm_atc mc23 rfl) mr23 rfl
theorem p23_0_1 {w d : Nat} {X : List Value} {A : MF} {x0 x1 x2 : Int} (H : R32 x1 ∧ R32 x0 ∧ x1 ≤ x0 ∧ R32 x2 ∧ x2 < x0) : mm_E w d 23 0 [(0, mI x0), (1, mI x1), (2, mI x2)] [] (mm_w X A) (.inl (some (mI 0)), mm_w X A, 0, 0) := by
  obtain ⟨h0, h1, h2, h3, h4⟩ := H
  exact mm_E.iload_n (mm_atc mc23 rfl) rfl <|
  mm_E.iload_n (mm_atc mc23 rfl) rfl <|
  mm_E.if2 (mm_atc mc23 rfl) h0 h1 (ic_gtF h2) rfl <|
  mm_E.iload_n (mm_atc mc23 rfl) rfl <|
  mm_E.iload_n (mm_atc mc23 rfl) rfl <|
  mm_E.if2 (mm_atc mc23 rfl) h1 h3 (ic_gtT h4) rfl <|
  mm_E.iconst (mm_atc mc23 rfl) <|
  mm_E.iret (mm_atc mc23 rfl) mr23 rfl
theorem p23_0_2 {w d : Nat} {X : List Value} {A : MF} {x0 x1 x2 : Int} (H : R32 x1 ∧ R32 x0 ∧ x1 ≤ x0 ∧ R32 x2 ∧ x0 ≤ x2) : mm_E w d 23 0 [(0, mI x0), (1, mI x1), (2, mI x2)] [] (mm_w X A) (.inl (some (mI 1)), mm_w X A, 0, 0) := by
  obtain ⟨h0, h1, h2, h3, h4⟩ := H
  exact mm_E.iload_n (mm_atc mc23 rfl) rfl <|
  mm_E.iload_n (mm_atc mc23 rfl) rfl <|
  mm_E.if2 (mm_atc mc23 rfl) h0 h1 (ic_gtF h2) rfl <|
  mm_E.iload_n (mm_atc mc23 rfl) rfl <|
  mm_E.iload_n (mm_atc mc23 rfl) rfl <|
  mm_E.if2 (mm_atc mc23 rfl) h1 h3 (ic_gtF h4) rfl <|
  mm_E.iconst (mm_atc mc23 rfl) <|
  mm_E.goto (mm_atc mc23 rfl) rfl <|
  mm_E.iret (mm_atc mc23 rfl) mr23 rfl
theorem p1_0_0 {w d : Nat} {X : List Value} {A : MF} {x1 : Int} (H : R32 x1 ∧ x1 < 1) : mm_E w (d + 8) 1 0 [(0, .ref 1), (1, mI x1)] [] (mm_w X A) (.inr 0, mm_w X A, 1, 6) := by
  obtain ⟨h0, h1⟩ := H
  exact mm_E.iload_n (mm_atc mc1 rfl) rfl <|
  mm_E.iconst (mm_atc mc1 rfl) <|
  mm_E.bipush (mm_atc mc1 rfl) rfl <|
  mm_E.callS0 (mm_atc mc1 rfl) (mm_plc mp1 rfl) mx23 rfl rfl (p23_0_0 (d := d) ⟨(by decide), h0, h1⟩) (by omega) <|
  show mm_E _ _ 1 7 _ _ _ _ from
  mm_E.if1 (mm_atc mc1 rfl) (by decide) (ic_neF (by decide)) rfl <|
  mm_E.thr (mm_atc mc1 rfl) (mm_plc mp1 rfl) rfl (by omega)
theorem p1_0_1 {w d : Nat} {X : List Value} {A : MF} {x1 : Int} (H : R32 x1 ∧ 1 ≤ x1 ∧ 6 < x1) : mm_E w (d + 8) 1 0 [(0, .ref 1), (1, mI x1)] [] (mm_w X A) (.inr 0, mm_w X A, 1, 6) := by
  obtain ⟨h0, h1, h2⟩ := H
  exact mm_E.iload_n (mm_atc mc1 rfl) rfl <|
  mm_E.iconst (mm_atc mc1 rfl) <|
  mm_E.bipush (mm_atc mc1 rfl) rfl <|
  mm_E.callS0 (mm_atc mc1 rfl) (mm_plc mp1 rfl) mx23 rfl rfl (p23_0_1 (d := d) ⟨(by decide), h0, h1, (by decide), h2⟩) (by omega) <|
  show mm_E _ _ 1 7 _ _ _ _ from
  mm_E.if1 (mm_atc mc1 rfl) (by decide) (ic_neF (by decide)) rfl <|
  mm_E.thr (mm_atc mc1 rfl) (mm_plc mp1 rfl) rfl (by omega)
theorem p1_0_2 {d : Nat} {X : List Value} {A : MF} {x1 : Int} {A0 A1 A2 : MF} (s0 : mm_E 1 d 55 0 [(0, .ref 2), (1, mI x1)] [] (mm_w X (mm_u A 1 3 x1)) (.inl (none), mm_w X A0, 0, 0)) (s1 : mm_E 1 d 75 0 [(0, .ref 25), (1, mI x1)] [] (mm_w X A0) (.inl (none), mm_w X A1, 0, 0)) (s2 : mm_E 1 d 28 0 [(0, .ref 43), (1, mI x1)] [] (mm_w X A1) (.inl (none), mm_w X A2, 0, 0)) (H : R32 x1 ∧ 1 ≤ x1 ∧ x1 ≤ 6) : mm_E 1 (d + 1) 1 0 [(0, .ref 1), (1, mI x1)] [] (mm_w X A) (.inl (none), mm_w X A2, 0, 0) := by
  obtain ⟨h0, h1, h2⟩ := H
  exact mm_E.iload_n (mm_atc mc1 rfl) rfl <|
  mm_E.iconst (mm_atc mc1 rfl) <|
  mm_E.bipush (mm_atc mc1 rfl) rfl <|
  mm_E.callS0 (mm_atc mc1 rfl) (mm_plc mp1 rfl) mx23 rfl rfl (p23_0_2 (d := d) ⟨(by decide), h0, h1, (by decide), h2⟩) (by omega) <|
  show mm_E _ _ 1 7 _ _ _ _ from
  mm_E.if1 (mm_atc mc1 rfl) (by decide) (ic_neT (by decide)) rfl <|
  mm_E.aload_n (mm_atc mc1 rfl) rfl <|
  mm_E.iload_n (mm_atc mc1 rfl) rfl <|
  mm_E.putI (fi := 3) (z := x1) (mm_atc mc1 rfl) (mm_plc mp1 rfl) ly1 rfl rfl rfl (mm_fit_i rfl) rfl <|
  mm_E.aload_n (mm_atc mc1 rfl) rfl <|
  mm_E.getR (b := 2) (mm_atc mc1 rfl) (mm_plc mp1 rfl) rfl ly1 rfl <|
  mm_E.iload_n (mm_atc mc1 rfl) rfl <|
  mm_E.callV0 (mm_atc mc1 rfl) (mm_plc mp1 rfl) rfl mk55 ly2 rfl mx55 rfl rfl s0 (by omega) <|
  show mm_E _ _ 1 33 _ _ _ _ from
  mm_E.aload_n (mm_atc mc1 rfl) rfl <|
  mm_E.getR (b := 25) (mm_atc mc1 rfl) (mm_plc mp1 rfl) rfl ly1 rfl <|
  mm_E.iload_n (mm_atc mc1 rfl) rfl <|
  mm_E.callV0 (mm_atc mc1 rfl) (mm_plc mp1 rfl) rfl mk75 ly25 rfl mx75 rfl rfl s1 (by omega) <|
  show mm_E _ _ 1 41 _ _ _ _ from
  mm_E.aload_n (mm_atc mc1 rfl) rfl <|
  mm_E.getR (b := 43) (mm_atc mc1 rfl) (mm_plc mp1 rfl) rfl ly1 rfl <|
  mm_E.iload_n (mm_atc mc1 rfl) rfl <|
  mm_E.callV0 (mm_atc mc1 rfl) (mm_plc mp1 rfl) rfl mk28 ly43 rfl mx28 rfl rfl s2 (by omega) <|
  show mm_E _ _ 1 49 _ _ _ _ from
  mm_E.vret (mm_atc mc1 rfl) mr1
theorem p2_0_0 {w d : Nat} {X : List Value} {A : MF} {x1 : Int} (H : R32 x1 ∧ x1 < 0) : mm_E w (d + 8) 2 0 [(0, .ref 1), (1, mI x1)] [] (mm_w X A) (.inr 0, mm_w X A, 1, 6) := by
  obtain ⟨h0, h1⟩ := H
  exact mm_E.iload_n (mm_atc mc2 rfl) rfl <|
  mm_E.iconst (mm_atc mc2 rfl) <|
  mm_E.bipush (mm_atc mc2 rfl) rfl <|
  mm_E.callS0 (mm_atc mc2 rfl) (mm_plc mp2 rfl) mx23 rfl rfl (p23_0_0 (d := d) ⟨(by decide), h0, h1⟩) (by omega) <|
  show mm_E _ _ 2 7 _ _ _ _ from
  mm_E.if1 (mm_atc mc2 rfl) (by decide) (ic_neF (by decide)) rfl <|
  mm_E.thr (mm_atc mc2 rfl) (mm_plc mp2 rfl) rfl (by omega)
theorem p2_0_1 {w d : Nat} {X : List Value} {A : MF} {x1 : Int} (H : R32 x1 ∧ 0 ≤ x1 ∧ 12 < x1) : mm_E w (d + 8) 2 0 [(0, .ref 1), (1, mI x1)] [] (mm_w X A) (.inr 0, mm_w X A, 1, 6) := by
  obtain ⟨h0, h1, h2⟩ := H
  exact mm_E.iload_n (mm_atc mc2 rfl) rfl <|
  mm_E.iconst (mm_atc mc2 rfl) <|
  mm_E.bipush (mm_atc mc2 rfl) rfl <|
  mm_E.callS0 (mm_atc mc2 rfl) (mm_plc mp2 rfl) mx23 rfl rfl (p23_0_1 (d := d) ⟨(by decide), h0, h1, (by decide), h2⟩) (by omega) <|
  show mm_E _ _ 2 7 _ _ _ _ from
  mm_E.if1 (mm_atc mc2 rfl) (by decide) (ic_neF (by decide)) rfl <|
  mm_E.thr (mm_atc mc2 rfl) (mm_plc mp2 rfl) rfl (by omega)
theorem p2_0_2 {d : Nat} {X : List Value} {A : MF} {x1 : Int} {A0 : MF} (s0 : mm_E 1 d 56 0 [(0, .ref 2), (1, mI x1)] [] (mm_w X A) (.inl (none), mm_w X A0, 0, 0)) (H : R32 x1 ∧ 0 ≤ x1 ∧ x1 ≤ 12) : mm_E 1 (d + 1) 2 0 [(0, .ref 1), (1, mI x1)] [] (mm_w X A) (.inl (none), mm_w X A0, 0, 0) := by
  obtain ⟨h0, h1, h2⟩ := H
  exact mm_E.iload_n (mm_atc mc2 rfl) rfl <|
  mm_E.iconst (mm_atc mc2 rfl) <|
  mm_E.bipush (mm_atc mc2 rfl) rfl <|
  mm_E.callS0 (mm_atc mc2 rfl) (mm_plc mp2 rfl) mx23 rfl rfl (p23_0_2 (d := d) ⟨(by decide), h0, h1, (by decide), h2⟩) (by omega) <|
  show mm_E _ _ 2 7 _ _ _ _ from
  mm_E.if1 (mm_atc mc2 rfl) (by decide) (ic_neT (by decide)) rfl <|
  mm_E.aload_n (mm_atc mc2 rfl) rfl <|
  mm_E.getR (b := 2) (mm_atc mc2 rfl) (mm_plc mp2 rfl) rfl ly1 rfl <|
  mm_E.iload_n (mm_atc mc2 rfl) rfl <|
  mm_E.callV0 (mm_atc mc2 rfl) (mm_plc mp2 rfl) rfl mk56 ly2 rfl mx56 rfl rfl s0 (by omega) <|
  show mm_E _ _ 2 28 _ _ _ _ from
  mm_E.vret (mm_atc mc2 rfl) mr2
theorem p21_0_0 {w d : Nat} {X : List Value} {A : MF} {x1 : Int} (H : R32 x1 ∧ x1 < 0) : mm_E w (d + 1) 21 0 [(0, .ref 1), (1, mI x1)] [] (mm_w X A) (.inl (some (mI 0)), mm_w X A, 0, 0) := by
  obtain ⟨h0, h1⟩ := H
  exact mm_E.iload_n (mm_atc mc21 rfl) rfl <|
  mm_E.iconst (mm_atc mc21 rfl) <|
  mm_E.aload_n (mm_atc mc21 rfl) rfl <|
  mm_E.getI (z := A 1 3) (mm_atc mc21 rfl) (mm_plc mp21 rfl) rfl ly1 rfl (rfl) <|
  mm_E.iconst (mm_atc mc21 rfl) <|
  mm_E.isub (mm_atc mc21 rfl) <|
  mm_E.callS0 (mm_atc mc21 rfl) (mm_plc mp21 rfl) mx23 rfl rfl (p23_0_0 (d := d) ⟨(by decide), h0, h1⟩) (by omega) <|
  show mm_E _ _ 21 11 _ _ _ _ from
  mm_E.iret (mm_atc mc21 rfl) mr21 rfl
theorem p21_0_1 {w d : Nat} {X : List Value} {A : MF} {x1 : Int} (H : R32 x1 ∧ 0 ≤ x1 ∧ R32 ((A 1 3) - 1) ∧ ((A 1 3) - 1) < x1) : mm_E w (d + 1) 21 0 [(0, .ref 1), (1, mI x1)] [] (mm_w X A) (.inl (some (mI 0)), mm_w X A, 0, 0) := by
  obtain ⟨h0, h1, h2, h3⟩ := H
  exact mm_E.iload_n (mm_atc mc21 rfl) rfl <|
  mm_E.iconst (mm_atc mc21 rfl) <|
  mm_E.aload_n (mm_atc mc21 rfl) rfl <|
  mm_E.getI (z := A 1 3) (mm_atc mc21 rfl) (mm_plc mp21 rfl) rfl ly1 rfl (rfl) <|
  mm_E.iconst (mm_atc mc21 rfl) <|
  mm_E.isub (mm_atc mc21 rfl) <|
  mm_E.callS0 (mm_atc mc21 rfl) (mm_plc mp21 rfl) mx23 rfl rfl (p23_0_1 (d := d) ⟨(by decide), h0, h1, h2, h3⟩) (by omega) <|
  show mm_E _ _ 21 11 _ _ _ _ from
  mm_E.iret (mm_atc mc21 rfl) mr21 rfl
theorem p21_0_2 {w d : Nat} {X : List Value} {A : MF} {x1 : Int} (H : R32 x1 ∧ 0 ≤ x1 ∧ R32 ((A 1 3) - 1) ∧ x1 ≤ ((A 1 3) - 1)) : mm_E w (d + 1) 21 0 [(0, .ref 1), (1, mI x1)] [] (mm_w X A) (.inl (some (mI 1)), mm_w X A, 0, 0) := by
  obtain ⟨h0, h1, h2, h3⟩ := H
  exact mm_E.iload_n (mm_atc mc21 rfl) rfl <|
  mm_E.iconst (mm_atc mc21 rfl) <|
  mm_E.aload_n (mm_atc mc21 rfl) rfl <|
  mm_E.getI (z := A 1 3) (mm_atc mc21 rfl) (mm_plc mp21 rfl) rfl ly1 rfl (rfl) <|
  mm_E.iconst (mm_atc mc21 rfl) <|
  mm_E.isub (mm_atc mc21 rfl) <|
  mm_E.callS0 (mm_atc mc21 rfl) (mm_plc mp21 rfl) mx23 rfl rfl (p23_0_2 (d := d) ⟨(by decide), h0, h1, h2, h3⟩) (by omega) <|
  show mm_E _ _ 21 11 _ _ _ _ from
  mm_E.iret (mm_atc mc21 rfl) mr21 rfl
theorem p57_0_0 {w d : Nat} {X : List Value} {A : MF}  : mm_E w d 57 0 [(0, .ref 2)] [] (mm_w X A) (.inl (some (mI (A 2 1))), mm_w X A, 0, 0) := by
  exact mm_E.aload_n (mm_atc mc57 rfl) rfl <|
  mm_E.getI (z := A 2 1) (mm_atc mc57 rfl) (mm_plc mp57 rfl) rfl ly2 rfl (rfl) <|
  mm_E.iret (mm_atc mc57 rfl) mr57 rfl
theorem p22_0_0 {w d : Nat} {X : List Value} {A : MF} {x1 : Int} (H : R32 x1 ∧ x1 < 0) : mm_E w (d + 1) 22 0 [(0, .ref 1), (1, mI x1)] [] (mm_w X A) (.inl (some (mI 0)), mm_w X A, 0, 0) := by
  obtain ⟨h0, h1⟩ := H
  exact mm_E.iload_n (mm_atc mc22 rfl) rfl <|
  mm_E.iconst (mm_atc mc22 rfl) <|
  mm_E.aload_n (mm_atc mc22 rfl) rfl <|
  mm_E.getR (b := 2) (mm_atc mc22 rfl) (mm_plc mp22 rfl) rfl ly1 rfl <|
  mm_E.callV0 (mm_atc mc22 rfl) (mm_plc mp22 rfl) rfl mk57 ly2 rfl mx57 rfl rfl (p57_0_0 (d := d)) (by omega) <|
  show mm_E _ _ 22 9 _ _ _ _ from
  mm_E.iconst (mm_atc mc22 rfl) <|
  mm_E.isub (mm_atc mc22 rfl) <|
  mm_E.callS0 (mm_atc mc22 rfl) (mm_plc mp22 rfl) mx23 rfl rfl (p23_0_0 (d := d) ⟨(by decide), h0, h1⟩) (by omega) <|
  show mm_E _ _ 22 14 _ _ _ _ from
  mm_E.iret (mm_atc mc22 rfl) mr22 rfl
theorem p22_0_1 {w d : Nat} {X : List Value} {A : MF} {x1 : Int} (H : R32 x1 ∧ 0 ≤ x1 ∧ R32 ((A 2 1) - 1) ∧ ((A 2 1) - 1) < x1) : mm_E w (d + 1) 22 0 [(0, .ref 1), (1, mI x1)] [] (mm_w X A) (.inl (some (mI 0)), mm_w X A, 0, 0) := by
  obtain ⟨h0, h1, h2, h3⟩ := H
  exact mm_E.iload_n (mm_atc mc22 rfl) rfl <|
  mm_E.iconst (mm_atc mc22 rfl) <|
  mm_E.aload_n (mm_atc mc22 rfl) rfl <|
  mm_E.getR (b := 2) (mm_atc mc22 rfl) (mm_plc mp22 rfl) rfl ly1 rfl <|
  mm_E.callV0 (mm_atc mc22 rfl) (mm_plc mp22 rfl) rfl mk57 ly2 rfl mx57 rfl rfl (p57_0_0 (d := d)) (by omega) <|
  show mm_E _ _ 22 9 _ _ _ _ from
  mm_E.iconst (mm_atc mc22 rfl) <|
  mm_E.isub (mm_atc mc22 rfl) <|
  mm_E.callS0 (mm_atc mc22 rfl) (mm_plc mp22 rfl) mx23 rfl rfl (p23_0_1 (d := d) ⟨(by decide), h0, h1, h2, h3⟩) (by omega) <|
  show mm_E _ _ 22 14 _ _ _ _ from
  mm_E.iret (mm_atc mc22 rfl) mr22 rfl
theorem p22_0_2 {w d : Nat} {X : List Value} {A : MF} {x1 : Int} (H : R32 x1 ∧ 0 ≤ x1 ∧ R32 ((A 2 1) - 1) ∧ x1 ≤ ((A 2 1) - 1)) : mm_E w (d + 1) 22 0 [(0, .ref 1), (1, mI x1)] [] (mm_w X A) (.inl (some (mI 1)), mm_w X A, 0, 0) := by
  obtain ⟨h0, h1, h2, h3⟩ := H
  exact mm_E.iload_n (mm_atc mc22 rfl) rfl <|
  mm_E.iconst (mm_atc mc22 rfl) <|
  mm_E.aload_n (mm_atc mc22 rfl) rfl <|
  mm_E.getR (b := 2) (mm_atc mc22 rfl) (mm_plc mp22 rfl) rfl ly1 rfl <|
  mm_E.callV0 (mm_atc mc22 rfl) (mm_plc mp22 rfl) rfl mk57 ly2 rfl mx57 rfl rfl (p57_0_0 (d := d)) (by omega) <|
  show mm_E _ _ 22 9 _ _ _ _ from
  mm_E.iconst (mm_atc mc22 rfl) <|
  mm_E.isub (mm_atc mc22 rfl) <|
  mm_E.callS0 (mm_atc mc22 rfl) (mm_plc mp22 rfl) mx23 rfl rfl (p23_0_2 (d := d) ⟨(by decide), h0, h1, h2, h3⟩) (by omega) <|
  show mm_E _ _ 22 14 _ _ _ _ from
  mm_E.iret (mm_atc mc22 rfl) mr22 rfl
theorem p58_0_0 {d : Nat} {X : List Value} {A : MF} {x1 x2 x3 : Int} (H : 0 ≤ x1 ∧ x1 < 6 ∧ 0 ≤ x2 ∧ x2 < 12) : mm_E 1 d 58 0 [(0, .ref 2), (1, mI x1), (2, mI x2), (3, mI x3)] [] (mm_w X A) (.inl (some (mI (A (4 + x1.toNat) x2))), mm_w X (mm_u A (4 + x1.toNat) x2 x3), 0, 0) := by
  obtain ⟨h0, h1, h2, h3⟩ := H
  exact mm_E.aload_n (mm_atc mc58 rfl) rfl <|
  mm_E.getR (b := 3) (mm_atc mc58 rfl) (mm_plc mp58 rfl) rfl ly2 rfl <|
  mm_E.iload_n (mm_atc mc58 rfl) rfl <|
  mm_E.aaload (mm_atc mc58 rfl) ly3 rfl h0 h1 (la4 h0 h1) <|
  mm_E.iload_n (mm_atc mc58 rfl) rfl <|
  mm_E.iaload (e := x2) (mm_atc mc58 rfl) (lr4 h0 h1) rfl h2 h3 rfl (rfl) <|
  mm_E.istore mx58 rfl (mm_atc mc58 rfl) <|
  show mm_E _ _ 58 10 [(4, mI (A (4 + x1.toNat) x2)), (0, .ref 2), (1, mI x1), (2, mI x2), (3, mI x3)] _ _ _ from
  mm_E.aload_n (mm_atc mc58 rfl) rfl <|
  mm_E.getR (b := 3) (mm_atc mc58 rfl) (mm_plc mp58 rfl) rfl ly2 rfl <|
  mm_E.iload_n (mm_atc mc58 rfl) rfl <|
  mm_E.aaload (mm_atc mc58 rfl) ly3 rfl h0 h1 (la4 h0 h1) <|
  mm_E.iload_n (mm_atc mc58 rfl) rfl <|
  mm_E.iload_n (mm_atc mc58 rfl) rfl <|
  mm_E.iastore (e := x2) (z := x3) (mm_atc mc58 rfl) (lr4 h0 h1) rfl h2 h3 rfl (mm_ly_pos (lr4 h0 h1)) <|
  mm_E.iload (mm_atc mc58 rfl) rfl <|
  mm_E.iret (mm_atc mc58 rfl) mr58 rfl
theorem p3_0_0 {w d : Nat} {X : List Value} {A : MF} {x1 x2 x3 : Int} (H : R32 x3 ∧ x3 < 0) : mm_E w (d + 8) 3 0 [(0, .ref 1), (1, mI x1), (2, mI x2), (3, mI x3)] [] (mm_w X A) (.inr 0, mm_w X A, 1, 6) := by
  obtain ⟨h0, h1⟩ := H
  exact mm_E.iload_n (mm_atc mc3 rfl) rfl <|
  mm_E.iconst (mm_atc mc3 rfl) <|
  mm_E.sipush (mm_atc mc3 rfl) rfl <|
  mm_E.callS0 (mm_atc mc3 rfl) (mm_plc mp3 rfl) mx23 rfl rfl (p23_0_0 (d := d) ⟨(by decide), h0, h1⟩) (by omega) <|
  show mm_E _ _ 3 8 _ _ _ _ from
  mm_E.if1 (mm_atc mc3 rfl) (by decide) (ic_neF (by decide)) rfl <|
  mm_E.thr (mm_atc mc3 rfl) (mm_plc mp3 rfl) rfl (by omega)
theorem p3_0_1 {w d : Nat} {X : List Value} {A : MF} {x1 x2 x3 : Int} (H : R32 x3 ∧ 0 ≤ x3 ∧ 1000 < x3) : mm_E w (d + 8) 3 0 [(0, .ref 1), (1, mI x1), (2, mI x2), (3, mI x3)] [] (mm_w X A) (.inr 0, mm_w X A, 1, 6) := by
  obtain ⟨h0, h1, h2⟩ := H
  exact mm_E.iload_n (mm_atc mc3 rfl) rfl <|
  mm_E.iconst (mm_atc mc3 rfl) <|
  mm_E.sipush (mm_atc mc3 rfl) rfl <|
  mm_E.callS0 (mm_atc mc3 rfl) (mm_plc mp3 rfl) mx23 rfl rfl (p23_0_1 (d := d) ⟨(by decide), h0, h1, (by decide), h2⟩) (by omega) <|
  show mm_E _ _ 3 8 _ _ _ _ from
  mm_E.if1 (mm_atc mc3 rfl) (by decide) (ic_neF (by decide)) rfl <|
  mm_E.thr (mm_atc mc3 rfl) (mm_plc mp3 rfl) rfl (by omega)
theorem p3_0_2 {w d : Nat} {X : List Value} {A : MF} {x1 x2 x3 : Int} (H : R32 x3 ∧ 0 ≤ x3 ∧ x3 ≤ 1000 ∧ R32 x1 ∧ x1 < 0) : mm_E w (d + 8) 3 0 [(0, .ref 1), (1, mI x1), (2, mI x2), (3, mI x3)] [] (mm_w X A) (.inr 1, mm_w X A, 1, 6) := by
  obtain ⟨h0, h1, h2, h3, h4⟩ := H
  exact mm_E.iload_n (mm_atc mc3 rfl) rfl <|
  mm_E.iconst (mm_atc mc3 rfl) <|
  mm_E.sipush (mm_atc mc3 rfl) rfl <|
  mm_E.callS0 (mm_atc mc3 rfl) (mm_plc mp3 rfl) mx23 rfl rfl (p23_0_2 (d := d) ⟨(by decide), h0, h1, (by decide), h2⟩) (by omega) <|
  show mm_E _ _ 3 8 _ _ _ _ from
  mm_E.if1 (mm_atc mc3 rfl) (by decide) (ic_neT (by decide)) rfl <|
  mm_E.aload_n (mm_atc mc3 rfl) rfl <|
  mm_E.iload_n (mm_atc mc3 rfl) rfl <|
  mm_E.callV0 (mm_atc mc3 rfl) (mm_plc mp3 rfl) rfl mk21 ly1 rfl mx21 rfl rfl (p21_0_0 (d := d) ⟨h3, h4⟩) (by omega) <|
  show mm_E _ _ 3 26 _ _ _ _ from
  mm_E.if1 (mm_atc mc3 rfl) (by decide) (ic_eqT (by decide)) rfl <|
  mm_E.thr (mm_atc mc3 rfl) (mm_plc mp3 rfl) rfl (by omega)
theorem p3_0_3 {w d : Nat} {X : List Value} {A : MF} {x1 x2 x3 : Int} (H : R32 x3 ∧ 0 ≤ x3 ∧ x3 ≤ 1000 ∧ R32 x1 ∧ 0 ≤ x1 ∧ R32 ((A 1 3) - 1) ∧ ((A 1 3) - 1) < x1) : mm_E w (d + 8) 3 0 [(0, .ref 1), (1, mI x1), (2, mI x2), (3, mI x3)] [] (mm_w X A) (.inr 1, mm_w X A, 1, 6) := by
  obtain ⟨h0, h1, h2, h3, h4, h5, h6⟩ := H
  exact mm_E.iload_n (mm_atc mc3 rfl) rfl <|
  mm_E.iconst (mm_atc mc3 rfl) <|
  mm_E.sipush (mm_atc mc3 rfl) rfl <|
  mm_E.callS0 (mm_atc mc3 rfl) (mm_plc mp3 rfl) mx23 rfl rfl (p23_0_2 (d := d) ⟨(by decide), h0, h1, (by decide), h2⟩) (by omega) <|
  show mm_E _ _ 3 8 _ _ _ _ from
  mm_E.if1 (mm_atc mc3 rfl) (by decide) (ic_neT (by decide)) rfl <|
  mm_E.aload_n (mm_atc mc3 rfl) rfl <|
  mm_E.iload_n (mm_atc mc3 rfl) rfl <|
  mm_E.callV0 (mm_atc mc3 rfl) (mm_plc mp3 rfl) rfl mk21 ly1 rfl mx21 rfl rfl (p21_0_1 (d := d) ⟨h3, h4, h5, h6⟩) (by omega) <|
  show mm_E _ _ 3 26 _ _ _ _ from
  mm_E.if1 (mm_atc mc3 rfl) (by decide) (ic_eqT (by decide)) rfl <|
  mm_E.thr (mm_atc mc3 rfl) (mm_plc mp3 rfl) rfl (by omega)
theorem p3_0_4 {w d : Nat} {X : List Value} {A : MF} {x1 x2 x3 : Int} (H : R32 x3 ∧ 0 ≤ x3 ∧ x3 ≤ 1000 ∧ R32 x1 ∧ 0 ≤ x1 ∧ R32 ((A 1 3) - 1) ∧ x1 ≤ ((A 1 3) - 1) ∧ R32 x2 ∧ x2 < 0) : mm_E w (d + 8) 3 0 [(0, .ref 1), (1, mI x1), (2, mI x2), (3, mI x3)] [] (mm_w X A) (.inr 1, mm_w X A, 1, 6) := by
  obtain ⟨h0, h1, h2, h3, h4, h5, h6, h7, h8⟩ := H
  exact mm_E.iload_n (mm_atc mc3 rfl) rfl <|
  mm_E.iconst (mm_atc mc3 rfl) <|
  mm_E.sipush (mm_atc mc3 rfl) rfl <|
  mm_E.callS0 (mm_atc mc3 rfl) (mm_plc mp3 rfl) mx23 rfl rfl (p23_0_2 (d := d) ⟨(by decide), h0, h1, (by decide), h2⟩) (by omega) <|
  show mm_E _ _ 3 8 _ _ _ _ from
  mm_E.if1 (mm_atc mc3 rfl) (by decide) (ic_neT (by decide)) rfl <|
  mm_E.aload_n (mm_atc mc3 rfl) rfl <|
  mm_E.iload_n (mm_atc mc3 rfl) rfl <|
  mm_E.callV0 (mm_atc mc3 rfl) (mm_plc mp3 rfl) rfl mk21 ly1 rfl mx21 rfl rfl (p21_0_2 (d := d) ⟨h3, h4, h5, h6⟩) (by omega) <|
  show mm_E _ _ 3 26 _ _ _ _ from
  mm_E.if1 (mm_atc mc3 rfl) (by decide) (ic_eqF (by decide)) rfl <|
  mm_E.aload_n (mm_atc mc3 rfl) rfl <|
  mm_E.iload_n (mm_atc mc3 rfl) rfl <|
  mm_E.callV0 (mm_atc mc3 rfl) (mm_plc mp3 rfl) rfl mk22 ly1 rfl mx22 rfl rfl (p22_0_0 (d := d) ⟨h7, h8⟩) (by omega) <|
  show mm_E _ _ 3 34 _ _ _ _ from
  mm_E.if1 (mm_atc mc3 rfl) (by decide) (ic_neF (by decide)) rfl <|
  mm_E.thr (mm_atc mc3 rfl) (mm_plc mp3 rfl) rfl (by omega)
theorem p3_0_5 {w d : Nat} {X : List Value} {A : MF} {x1 x2 x3 : Int} (H : R32 x3 ∧ 0 ≤ x3 ∧ x3 ≤ 1000 ∧ R32 x1 ∧ 0 ≤ x1 ∧ R32 ((A 1 3) - 1) ∧ x1 ≤ ((A 1 3) - 1) ∧ R32 x2 ∧ 0 ≤ x2 ∧ R32 ((A 2 1) - 1) ∧ ((A 2 1) - 1) < x2) : mm_E w (d + 8) 3 0 [(0, .ref 1), (1, mI x1), (2, mI x2), (3, mI x3)] [] (mm_w X A) (.inr 1, mm_w X A, 1, 6) := by
  obtain ⟨h0, h1, h2, h3, h4, h5, h6, h7, h8, h9, h10⟩ := H
  exact mm_E.iload_n (mm_atc mc3 rfl) rfl <|
  mm_E.iconst (mm_atc mc3 rfl) <|
  mm_E.sipush (mm_atc mc3 rfl) rfl <|
  mm_E.callS0 (mm_atc mc3 rfl) (mm_plc mp3 rfl) mx23 rfl rfl (p23_0_2 (d := d) ⟨(by decide), h0, h1, (by decide), h2⟩) (by omega) <|
  show mm_E _ _ 3 8 _ _ _ _ from
  mm_E.if1 (mm_atc mc3 rfl) (by decide) (ic_neT (by decide)) rfl <|
  mm_E.aload_n (mm_atc mc3 rfl) rfl <|
  mm_E.iload_n (mm_atc mc3 rfl) rfl <|
  mm_E.callV0 (mm_atc mc3 rfl) (mm_plc mp3 rfl) rfl mk21 ly1 rfl mx21 rfl rfl (p21_0_2 (d := d) ⟨h3, h4, h5, h6⟩) (by omega) <|
  show mm_E _ _ 3 26 _ _ _ _ from
  mm_E.if1 (mm_atc mc3 rfl) (by decide) (ic_eqF (by decide)) rfl <|
  mm_E.aload_n (mm_atc mc3 rfl) rfl <|
  mm_E.iload_n (mm_atc mc3 rfl) rfl <|
  mm_E.callV0 (mm_atc mc3 rfl) (mm_plc mp3 rfl) rfl mk22 ly1 rfl mx22 rfl rfl (p22_0_1 (d := d) ⟨h7, h8, h9, h10⟩) (by omega) <|
  show mm_E _ _ 3 34 _ _ _ _ from
  mm_E.if1 (mm_atc mc3 rfl) (by decide) (ic_neF (by decide)) rfl <|
  mm_E.thr (mm_atc mc3 rfl) (mm_plc mp3 rfl) rfl (by omega)
theorem p3_0_6 {d : Nat} {X : List Value} {A : MF} {x1 x2 x3 : Int} (H : R32 x3 ∧ 0 ≤ x3 ∧ x3 ≤ 1000 ∧ R32 x1 ∧ 0 ≤ x1 ∧ R32 ((A 1 3) - 1) ∧ x1 ≤ ((A 1 3) - 1) ∧ R32 x2 ∧ 0 ≤ x2 ∧ R32 ((A 2 1) - 1) ∧ x2 ≤ ((A 2 1) - 1) ∧ x1 < 6 ∧ x2 < 12) : mm_E 1 (d + 2) 3 0 [(0, .ref 1), (1, mI x1), (2, mI x2), (3, mI x3)] [] (mm_w X A) (.inl (some (mI (A (4 + x1.toNat) x2))), mm_w X (mm_u A (4 + x1.toNat) x2 x3), 0, 0) := by
  obtain ⟨h0, h1, h2, h3, h4, h5, h6, h7, h8, h9, h10, h11, h12⟩ := H
  exact mm_E.iload_n (mm_atc mc3 rfl) rfl <|
  mm_E.iconst (mm_atc mc3 rfl) <|
  mm_E.sipush (mm_atc mc3 rfl) rfl <|
  mm_E.callS0 (mm_atc mc3 rfl) (mm_plc mp3 rfl) mx23 rfl rfl (p23_0_2 (d := d) ⟨(by decide), h0, h1, (by decide), h2⟩) (by omega) <|
  show mm_E _ _ 3 8 _ _ _ _ from
  mm_E.if1 (mm_atc mc3 rfl) (by decide) (ic_neT (by decide)) rfl <|
  mm_E.aload_n (mm_atc mc3 rfl) rfl <|
  mm_E.iload_n (mm_atc mc3 rfl) rfl <|
  mm_E.callV0 (mm_atc mc3 rfl) (mm_plc mp3 rfl) rfl mk21 ly1 rfl mx21 rfl rfl (p21_0_2 (d := d) ⟨h3, h4, h5, h6⟩) (by omega) <|
  show mm_E _ _ 3 26 _ _ _ _ from
  mm_E.if1 (mm_atc mc3 rfl) (by decide) (ic_eqF (by decide)) rfl <|
  mm_E.aload_n (mm_atc mc3 rfl) rfl <|
  mm_E.iload_n (mm_atc mc3 rfl) rfl <|
  mm_E.callV0 (mm_atc mc3 rfl) (mm_plc mp3 rfl) rfl mk22 ly1 rfl mx22 rfl rfl (p22_0_2 (d := d) ⟨h7, h8, h9, h10⟩) (by omega) <|
  show mm_E _ _ 3 34 _ _ _ _ from
  mm_E.if1 (mm_atc mc3 rfl) (by decide) (ic_neT (by decide)) rfl <|
  mm_E.aload_n (mm_atc mc3 rfl) rfl <|
  mm_E.getR (b := 2) (mm_atc mc3 rfl) (mm_plc mp3 rfl) rfl ly1 rfl <|
  mm_E.iload_n (mm_atc mc3 rfl) rfl <|
  mm_E.iload_n (mm_atc mc3 rfl) rfl <|
  mm_E.iload_n (mm_atc mc3 rfl) rfl <|
  mm_E.callV0 (mm_atc mc3 rfl) (mm_plc mp3 rfl) rfl mk58 ly2 rfl mx58 rfl rfl (p58_0_0 (d := d) ⟨h4, h11, h8, h12⟩) (by omega) <|
  show mm_E _ _ 3 57 _ _ _ _ from
  mm_E.iret (mm_atc mc3 rfl) mr3 rfl
theorem p4_0_0 {w d : Nat} {X : List Value} {A : MF} {x1 : Int} (H : R32 x1 ∧ x1 < 0) : mm_E w (d + 8) 4 0 [(0, .ref 1), (1, mI x1)] [] (mm_w X A) (.inr 1, mm_w X A, 1, 6) := by
  obtain ⟨h0, h1⟩ := H
  exact mm_E.aload_n (mm_atc mc4 rfl) rfl <|
  mm_E.iload_n (mm_atc mc4 rfl) rfl <|
  mm_E.callV0 (mm_atc mc4 rfl) (mm_plc mp4 rfl) rfl mk21 ly1 rfl mx21 rfl rfl (p21_0_0 (d := d) ⟨h0, h1⟩) (by omega) <|
  show mm_E _ _ 4 5 _ _ _ _ from
  mm_E.if1 (mm_atc mc4 rfl) (by decide) (ic_neF (by decide)) rfl <|
  mm_E.thr (mm_atc mc4 rfl) (mm_plc mp4 rfl) rfl (by omega)
theorem p4_0_1 {w d : Nat} {X : List Value} {A : MF} {x1 : Int} (H : R32 x1 ∧ 0 ≤ x1 ∧ R32 ((A 1 3) - 1) ∧ ((A 1 3) - 1) < x1) : mm_E w (d + 8) 4 0 [(0, .ref 1), (1, mI x1)] [] (mm_w X A) (.inr 1, mm_w X A, 1, 6) := by
  obtain ⟨h0, h1, h2, h3⟩ := H
  exact mm_E.aload_n (mm_atc mc4 rfl) rfl <|
  mm_E.iload_n (mm_atc mc4 rfl) rfl <|
  mm_E.callV0 (mm_atc mc4 rfl) (mm_plc mp4 rfl) rfl mk21 ly1 rfl mx21 rfl rfl (p21_0_1 (d := d) ⟨h0, h1, h2, h3⟩) (by omega) <|
  show mm_E _ _ 4 5 _ _ _ _ from
  mm_E.if1 (mm_atc mc4 rfl) (by decide) (ic_neF (by decide)) rfl <|
  mm_E.thr (mm_atc mc4 rfl) (mm_plc mp4 rfl) rfl (by omega)
theorem p4_0_2 {d : Nat} {X : List Value} {A : MF} {x1 : Int} {A0 : MF} (s0 : mm_E 1 (d + 1) 65 0 [(0, .ref 2), (1, mI x1)] [] (mm_w X A) (.inl (none), mm_w X A0, 0, 0)) (H : R32 x1 ∧ 0 ≤ x1 ∧ R32 ((A 1 3) - 1) ∧ x1 ≤ ((A 1 3) - 1)) : mm_E 1 (d + 2) 4 0 [(0, .ref 1), (1, mI x1)] [] (mm_w X A) (.inl (none), mm_w X A0, 0, 0) := by
  obtain ⟨h0, h1, h2, h3⟩ := H
  exact mm_E.aload_n (mm_atc mc4 rfl) rfl <|
  mm_E.iload_n (mm_atc mc4 rfl) rfl <|
  mm_E.callV0 (mm_atc mc4 rfl) (mm_plc mp4 rfl) rfl mk21 ly1 rfl mx21 rfl rfl (p21_0_2 (d := d) ⟨h0, h1, h2, h3⟩) (by omega) <|
  show mm_E _ _ 4 5 _ _ _ _ from
  mm_E.if1 (mm_atc mc4 rfl) (by decide) (ic_neT (by decide)) rfl <|
  mm_E.aload_n (mm_atc mc4 rfl) rfl <|
  mm_E.getR (b := 2) (mm_atc mc4 rfl) (mm_plc mp4 rfl) rfl ly1 rfl <|
  mm_E.iload_n (mm_atc mc4 rfl) rfl <|
  mm_E.callV0 (mm_atc mc4 rfl) (mm_plc mp4 rfl) rfl mk65 ly2 rfl mx65 rfl rfl s0 (by omega) <|
  show mm_E _ _ 4 26 _ _ _ _ from
  mm_E.vret (mm_atc mc4 rfl) mr4
theorem p5_0_0 {d : Nat} {X : List Value} {A : MF} {A0 : MF} {z1 : Int} (s0 : mm_E 1 d 67 0 [(0, .ref 2)] [] (mm_w X A) (.inl (some (mI z1)), mm_w X A0, 0, 0)) : mm_E 1 (d + 1) 5 0 [(0, .ref 1)] [] (mm_w X A) (.inl (some (mI z1)), mm_w X A0, 0, 0) := by
  exact mm_E.aload_n (mm_atc mc5 rfl) rfl <|
  mm_E.getR (b := 2) (mm_atc mc5 rfl) (mm_plc mp5 rfl) rfl ly1 rfl <|
  mm_E.callV0 (mm_atc mc5 rfl) (mm_plc mp5 rfl) rfl mk67 ly2 rfl mx67 rfl rfl s0 (by omega) <|
  show mm_E _ _ 5 7 _ _ _ _ from
  mm_E.iret (mm_atc mc5 rfl) mr5 rfl
theorem p6_0_0 {d : Nat} {X : List Value} {A : MF} {z0 z2 : Int} {A1 : MF} (s0 : mm_E 1 d 64 0 [(0, .ref 2)] [] (mm_w X A) (.inl (some (mI z0)), mm_w X A, 0, 0)) (s1 : mm_E 1 d 71 0 [(0, .ref 2)] [] (mm_w X A) (.inl (some (mJ z2)), mm_w X A1, 0, 0)) (H : R32 z0 ∧ z0 ≠ 0) : mm_E 1 (d + 1) 6 0 [(0, .ref 1)] [] (mm_w X A) (.inl (some (mJ z2)), mm_w X A1, 0, 0) := by
  obtain ⟨h0, h1⟩ := H
  exact mm_E.aload_n (mm_atc mc6 rfl) rfl <|
  mm_E.getR (b := 2) (mm_atc mc6 rfl) (mm_plc mp6 rfl) rfl ly1 rfl <|
  mm_E.callV0 (mm_atc mc6 rfl) (mm_plc mp6 rfl) rfl mk64 ly2 rfl mx64 rfl rfl s0 (by omega) <|
  show mm_E _ _ 6 7 _ _ _ _ from
  mm_E.if1 (mm_atc mc6 rfl) h0 (ic_neT h1) rfl <|
  mm_E.aload_n (mm_atc mc6 rfl) rfl <|
  mm_E.getR (b := 2) (mm_atc mc6 rfl) (mm_plc mp6 rfl) rfl ly1 rfl <|
  mm_E.callV0 (mm_atc mc6 rfl) (mm_plc mp6 rfl) rfl mk71 ly2 rfl mx71 rfl rfl s1 (by omega) <|
  show mm_E _ _ 6 27 _ _ _ _ from
  mm_E.lret (mm_atc mc6 rfl) mr6
theorem p6_0_1 {w d : Nat} {X : List Value} {A : MF} {z0 : Int} (s0 : mm_E w (d + 7) 64 0 [(0, .ref 2)] [] (mm_w X A) (.inl (some (mI z0)), mm_w X A, 0, 0)) (H : R32 z0 ∧ z0 = 0) : mm_E w (d + 8) 6 0 [(0, .ref 1)] [] (mm_w X A) (.inr 2, mm_w X A, 1, 6) := by
  obtain ⟨h0, h1⟩ := H
  exact mm_E.aload_n (mm_atc mc6 rfl) rfl <|
  mm_E.getR (b := 2) (mm_atc mc6 rfl) (mm_plc mp6 rfl) rfl ly1 rfl <|
  mm_E.callV0 (mm_atc mc6 rfl) (mm_plc mp6 rfl) rfl mk64 ly2 rfl mx64 rfl rfl s0 (by omega) <|
  show mm_E _ _ 6 7 _ _ _ _ from
  mm_E.if1 (mm_atc mc6 rfl) h0 (ic_neF h1) rfl <|
  mm_E.thr (mm_atc mc6 rfl) (mm_plc mp6 rfl) rfl (by omega)
theorem p59_0_0 {d : Nat} {X : List Value} {A : MF} {x1 x2 : Int} (H : 0 ≤ x1 ∧ x1 < 12) : mm_E 1 d 59 0 [(0, .ref 2), (1, mI x1), (2, mI x2)] [] (mm_w X A) (.inl (some (mI (A 10 x1))), mm_w X (mm_u A 10 x1 x2), 0, 0) := by
  obtain ⟨h0, h1⟩ := H
  exact mm_E.aload_n (mm_atc mc59 rfl) rfl <|
  mm_E.getR (b := 10) (mm_atc mc59 rfl) (mm_plc mp59 rfl) rfl ly2 rfl <|
  mm_E.iload_n (mm_atc mc59 rfl) rfl <|
  mm_E.iaload (e := x1) (mm_atc mc59 rfl) ly10 rfl h0 h1 rfl (rfl) <|
  mm_E.istore_n mx59 rfl (mm_atc mc59 rfl) <|
  show mm_E _ _ 59 7 [(3, mI (A 10 x1)), (0, .ref 2), (1, mI x1), (2, mI x2)] _ _ _ from
  mm_E.aload_n (mm_atc mc59 rfl) rfl <|
  mm_E.getR (b := 10) (mm_atc mc59 rfl) (mm_plc mp59 rfl) rfl ly2 rfl <|
  mm_E.iload_n (mm_atc mc59 rfl) rfl <|
  mm_E.iload_n (mm_atc mc59 rfl) rfl <|
  mm_E.iastore (e := x1) (z := x2) (mm_atc mc59 rfl) ly10 rfl h0 h1 rfl rfl <|
  mm_E.iload_n (mm_atc mc59 rfl) rfl <|
  mm_E.iret (mm_atc mc59 rfl) mr59 rfl
theorem p7_0_0 {w d : Nat} {X : List Value} {A : MF} {x1 x2 : Int} (H : R32 x1 ∧ x1 < 0) : mm_E w (d + 8) 7 0 [(0, .ref 1), (1, mI x1), (2, mI x2)] [] (mm_w X A) (.inr 1, mm_w X A, 1, 6) := by
  obtain ⟨h0, h1⟩ := H
  exact mm_E.aload_n (mm_atc mc7 rfl) rfl <|
  mm_E.iload_n (mm_atc mc7 rfl) rfl <|
  mm_E.callV0 (mm_atc mc7 rfl) (mm_plc mp7 rfl) rfl mk22 ly1 rfl mx22 rfl rfl (p22_0_0 (d := d) ⟨h0, h1⟩) (by omega) <|
  show mm_E _ _ 7 5 _ _ _ _ from
  mm_E.if1 (mm_atc mc7 rfl) (by decide) (ic_eqT (by decide)) rfl <|
  mm_E.thr (mm_atc mc7 rfl) (mm_plc mp7 rfl) rfl (by omega)
theorem p7_0_1 {w d : Nat} {X : List Value} {A : MF} {x1 x2 : Int} (H : R32 x1 ∧ 0 ≤ x1 ∧ R32 ((A 2 1) - 1) ∧ ((A 2 1) - 1) < x1) : mm_E w (d + 8) 7 0 [(0, .ref 1), (1, mI x1), (2, mI x2)] [] (mm_w X A) (.inr 1, mm_w X A, 1, 6) := by
  obtain ⟨h0, h1, h2, h3⟩ := H
  exact mm_E.aload_n (mm_atc mc7 rfl) rfl <|
  mm_E.iload_n (mm_atc mc7 rfl) rfl <|
  mm_E.callV0 (mm_atc mc7 rfl) (mm_plc mp7 rfl) rfl mk22 ly1 rfl mx22 rfl rfl (p22_0_1 (d := d) ⟨h0, h1, h2, h3⟩) (by omega) <|
  show mm_E _ _ 7 5 _ _ _ _ from
  mm_E.if1 (mm_atc mc7 rfl) (by decide) (ic_eqT (by decide)) rfl <|
  mm_E.thr (mm_atc mc7 rfl) (mm_plc mp7 rfl) rfl (by omega)
theorem p7_0_2 {d : Nat} {X : List Value} {A : MF} {x1 x2 : Int} (H : R32 x1 ∧ 0 ≤ x1 ∧ R32 ((A 2 1) - 1) ∧ x1 ≤ ((A 2 1) - 1) ∧ R32 x2 ∧ x2 < 0 ∧ x2 = (-1) ∧ x1 < 12) : mm_E 1 (d + 2) 7 0 [(0, .ref 1), (1, mI x1), (2, mI x2)] [] (mm_w X A) (.inl (some (mI (A 10 x1))), mm_w X (mm_u A 10 x1 x2), 0, 0) := by
  obtain ⟨h0, h1, h2, h3, h4, h5, h6, h7⟩ := H
  exact mm_E.aload_n (mm_atc mc7 rfl) rfl <|
  mm_E.iload_n (mm_atc mc7 rfl) rfl <|
  mm_E.callV0 (mm_atc mc7 rfl) (mm_plc mp7 rfl) rfl mk22 ly1 rfl mx22 rfl rfl (p22_0_2 (d := d) ⟨h0, h1, h2, h3⟩) (by omega) <|
  show mm_E _ _ 7 5 _ _ _ _ from
  mm_E.if1 (mm_atc mc7 rfl) (by decide) (ic_eqF (by decide)) rfl <|
  mm_E.aload_n (mm_atc mc7 rfl) rfl <|
  mm_E.iload_n (mm_atc mc7 rfl) rfl <|
  mm_E.callV0 (mm_atc mc7 rfl) (mm_plc mp7 rfl) rfl mk21 ly1 rfl mx21 rfl rfl (p21_0_0 (d := d) ⟨h4, h5⟩) (by omega) <|
  show mm_E _ _ 7 13 _ _ _ _ from
  mm_E.if1 (mm_atc mc7 rfl) (by decide) (ic_neF (by decide)) rfl <|
  mm_E.iload_n (mm_atc mc7 rfl) rfl <|
  mm_E.iconst (mm_atc mc7 rfl) <|
  mm_E.if2 (mm_atc mc7 rfl) h4 (by decide) (ic_eqT h6) rfl <|
  mm_E.aload_n (mm_atc mc7 rfl) rfl <|
  mm_E.getR (b := 2) (mm_atc mc7 rfl) (mm_plc mp7 rfl) rfl ly1 rfl <|
  mm_E.iload_n (mm_atc mc7 rfl) rfl <|
  mm_E.iload_n (mm_atc mc7 rfl) rfl <|
  mm_E.callV0 (mm_atc mc7 rfl) (mm_plc mp7 rfl) rfl mk59 ly2 rfl mx59 rfl rfl (p59_0_0 (d := d) ⟨h1, h7⟩) (by omega) <|
  show mm_E _ _ 7 40 _ _ _ _ from
  mm_E.iret (mm_atc mc7 rfl) mr7 rfl
theorem p7_0_3 {w d : Nat} {X : List Value} {A : MF} {x1 x2 : Int} (H : R32 x1 ∧ 0 ≤ x1 ∧ R32 ((A 2 1) - 1) ∧ x1 ≤ ((A 2 1) - 1) ∧ R32 x2 ∧ x2 < 0 ∧ x2 ≠ (-1)) : mm_E w (d + 8) 7 0 [(0, .ref 1), (1, mI x1), (2, mI x2)] [] (mm_w X A) (.inr 1, mm_w X A, 1, 6) := by
  obtain ⟨h0, h1, h2, h3, h4, h5, h6⟩ := H
  exact mm_E.aload_n (mm_atc mc7 rfl) rfl <|
  mm_E.iload_n (mm_atc mc7 rfl) rfl <|
  mm_E.callV0 (mm_atc mc7 rfl) (mm_plc mp7 rfl) rfl mk22 ly1 rfl mx22 rfl rfl (p22_0_2 (d := d) ⟨h0, h1, h2, h3⟩) (by omega) <|
  show mm_E _ _ 7 5 _ _ _ _ from
  mm_E.if1 (mm_atc mc7 rfl) (by decide) (ic_eqF (by decide)) rfl <|
  mm_E.aload_n (mm_atc mc7 rfl) rfl <|
  mm_E.iload_n (mm_atc mc7 rfl) rfl <|
  mm_E.callV0 (mm_atc mc7 rfl) (mm_plc mp7 rfl) rfl mk21 ly1 rfl mx21 rfl rfl (p21_0_0 (d := d) ⟨h4, h5⟩) (by omega) <|
  show mm_E _ _ 7 13 _ _ _ _ from
  mm_E.if1 (mm_atc mc7 rfl) (by decide) (ic_neF (by decide)) rfl <|
  mm_E.iload_n (mm_atc mc7 rfl) rfl <|
  mm_E.iconst (mm_atc mc7 rfl) <|
  mm_E.if2 (mm_atc mc7 rfl) h4 (by decide) (ic_eqF h6) rfl <|
  mm_E.thr (mm_atc mc7 rfl) (mm_plc mp7 rfl) rfl (by omega)
theorem p7_0_4 {d : Nat} {X : List Value} {A : MF} {x1 x2 : Int} (H : R32 x1 ∧ 0 ≤ x1 ∧ R32 ((A 2 1) - 1) ∧ x1 ≤ ((A 2 1) - 1) ∧ R32 x2 ∧ 0 ≤ x2 ∧ R32 ((A 1 3) - 1) ∧ ((A 1 3) - 1) < x2 ∧ x2 = (-1) ∧ x1 < 12) : mm_E 1 (d + 2) 7 0 [(0, .ref 1), (1, mI x1), (2, mI x2)] [] (mm_w X A) (.inl (some (mI (A 10 x1))), mm_w X (mm_u A 10 x1 x2), 0, 0) := by
  obtain ⟨h0, h1, h2, h3, h4, h5, h6, h7, h8, h9⟩ := H
  exact mm_E.aload_n (mm_atc mc7 rfl) rfl <|
  mm_E.iload_n (mm_atc mc7 rfl) rfl <|
  mm_E.callV0 (mm_atc mc7 rfl) (mm_plc mp7 rfl) rfl mk22 ly1 rfl mx22 rfl rfl (p22_0_2 (d := d) ⟨h0, h1, h2, h3⟩) (by omega) <|
  show mm_E _ _ 7 5 _ _ _ _ from
  mm_E.if1 (mm_atc mc7 rfl) (by decide) (ic_eqF (by decide)) rfl <|
  mm_E.aload_n (mm_atc mc7 rfl) rfl <|
  mm_E.iload_n (mm_atc mc7 rfl) rfl <|
  mm_E.callV0 (mm_atc mc7 rfl) (mm_plc mp7 rfl) rfl mk21 ly1 rfl mx21 rfl rfl (p21_0_1 (d := d) ⟨h4, h5, h6, h7⟩) (by omega) <|
  show mm_E _ _ 7 13 _ _ _ _ from
  mm_E.if1 (mm_atc mc7 rfl) (by decide) (ic_neF (by decide)) rfl <|
  mm_E.iload_n (mm_atc mc7 rfl) rfl <|
  mm_E.iconst (mm_atc mc7 rfl) <|
  mm_E.if2 (mm_atc mc7 rfl) h4 (by decide) (ic_eqT h8) rfl <|
  mm_E.aload_n (mm_atc mc7 rfl) rfl <|
  mm_E.getR (b := 2) (mm_atc mc7 rfl) (mm_plc mp7 rfl) rfl ly1 rfl <|
  mm_E.iload_n (mm_atc mc7 rfl) rfl <|
  mm_E.iload_n (mm_atc mc7 rfl) rfl <|
  mm_E.callV0 (mm_atc mc7 rfl) (mm_plc mp7 rfl) rfl mk59 ly2 rfl mx59 rfl rfl (p59_0_0 (d := d) ⟨h1, h9⟩) (by omega) <|
  show mm_E _ _ 7 40 _ _ _ _ from
  mm_E.iret (mm_atc mc7 rfl) mr7 rfl
theorem p7_0_5 {w d : Nat} {X : List Value} {A : MF} {x1 x2 : Int} (H : R32 x1 ∧ 0 ≤ x1 ∧ R32 ((A 2 1) - 1) ∧ x1 ≤ ((A 2 1) - 1) ∧ R32 x2 ∧ 0 ≤ x2 ∧ R32 ((A 1 3) - 1) ∧ ((A 1 3) - 1) < x2 ∧ x2 ≠ (-1)) : mm_E w (d + 8) 7 0 [(0, .ref 1), (1, mI x1), (2, mI x2)] [] (mm_w X A) (.inr 1, mm_w X A, 1, 6) := by
  obtain ⟨h0, h1, h2, h3, h4, h5, h6, h7, h8⟩ := H
  exact mm_E.aload_n (mm_atc mc7 rfl) rfl <|
  mm_E.iload_n (mm_atc mc7 rfl) rfl <|
  mm_E.callV0 (mm_atc mc7 rfl) (mm_plc mp7 rfl) rfl mk22 ly1 rfl mx22 rfl rfl (p22_0_2 (d := d) ⟨h0, h1, h2, h3⟩) (by omega) <|
  show mm_E _ _ 7 5 _ _ _ _ from
  mm_E.if1 (mm_atc mc7 rfl) (by decide) (ic_eqF (by decide)) rfl <|
  mm_E.aload_n (mm_atc mc7 rfl) rfl <|
  mm_E.iload_n (mm_atc mc7 rfl) rfl <|
  mm_E.callV0 (mm_atc mc7 rfl) (mm_plc mp7 rfl) rfl mk21 ly1 rfl mx21 rfl rfl (p21_0_1 (d := d) ⟨h4, h5, h6, h7⟩) (by omega) <|
  show mm_E _ _ 7 13 _ _ _ _ from
  mm_E.if1 (mm_atc mc7 rfl) (by decide) (ic_neF (by decide)) rfl <|
  mm_E.iload_n (mm_atc mc7 rfl) rfl <|
  mm_E.iconst (mm_atc mc7 rfl) <|
  mm_E.if2 (mm_atc mc7 rfl) h4 (by decide) (ic_eqF h8) rfl <|
  mm_E.thr (mm_atc mc7 rfl) (mm_plc mp7 rfl) rfl (by omega)
theorem p7_0_6 {d : Nat} {X : List Value} {A : MF} {x1 x2 : Int} (H : R32 x1 ∧ 0 ≤ x1 ∧ R32 ((A 2 1) - 1) ∧ x1 ≤ ((A 2 1) - 1) ∧ R32 x2 ∧ 0 ≤ x2 ∧ R32 ((A 1 3) - 1) ∧ x2 ≤ ((A 1 3) - 1) ∧ x1 < 12) : mm_E 1 (d + 2) 7 0 [(0, .ref 1), (1, mI x1), (2, mI x2)] [] (mm_w X A) (.inl (some (mI (A 10 x1))), mm_w X (mm_u A 10 x1 x2), 0, 0) := by
  obtain ⟨h0, h1, h2, h3, h4, h5, h6, h7, h8⟩ := H
  exact mm_E.aload_n (mm_atc mc7 rfl) rfl <|
  mm_E.iload_n (mm_atc mc7 rfl) rfl <|
  mm_E.callV0 (mm_atc mc7 rfl) (mm_plc mp7 rfl) rfl mk22 ly1 rfl mx22 rfl rfl (p22_0_2 (d := d) ⟨h0, h1, h2, h3⟩) (by omega) <|
  show mm_E _ _ 7 5 _ _ _ _ from
  mm_E.if1 (mm_atc mc7 rfl) (by decide) (ic_eqF (by decide)) rfl <|
  mm_E.aload_n (mm_atc mc7 rfl) rfl <|
  mm_E.iload_n (mm_atc mc7 rfl) rfl <|
  mm_E.callV0 (mm_atc mc7 rfl) (mm_plc mp7 rfl) rfl mk21 ly1 rfl mx21 rfl rfl (p21_0_2 (d := d) ⟨h4, h5, h6, h7⟩) (by omega) <|
  show mm_E _ _ 7 13 _ _ _ _ from
  mm_E.if1 (mm_atc mc7 rfl) (by decide) (ic_neT (by decide)) rfl <|
  mm_E.aload_n (mm_atc mc7 rfl) rfl <|
  mm_E.getR (b := 2) (mm_atc mc7 rfl) (mm_plc mp7 rfl) rfl ly1 rfl <|
  mm_E.iload_n (mm_atc mc7 rfl) rfl <|
  mm_E.iload_n (mm_atc mc7 rfl) rfl <|
  mm_E.callV0 (mm_atc mc7 rfl) (mm_plc mp7 rfl) rfl mk59 ly2 rfl mx59 rfl rfl (p59_0_0 (d := d) ⟨h1, h8⟩) (by omega) <|
  show mm_E _ _ 7 40 _ _ _ _ from
  mm_E.iret (mm_atc mc7 rfl) mr7 rfl
theorem p60_0_0 {w d : Nat} {X : List Value} {A : MF} {x1 : Int} (H : 0 ≤ x1 ∧ x1 < 12) : mm_E w d 60 0 [(0, .ref 2), (1, mI x1)] [] (mm_w X A) (.inl (some (mI (A 10 x1))), mm_w X A, 0, 0) := by
  obtain ⟨h0, h1⟩ := H
  exact mm_E.aload_n (mm_atc mc60 rfl) rfl <|
  mm_E.getR (b := 10) (mm_atc mc60 rfl) (mm_plc mp60 rfl) rfl ly2 rfl <|
  mm_E.iload_n (mm_atc mc60 rfl) rfl <|
  mm_E.iaload (e := x1) (mm_atc mc60 rfl) ly10 rfl h0 h1 rfl (rfl) <|
  mm_E.iret (mm_atc mc60 rfl) mr60 rfl
theorem p8_0_0 {w d : Nat} {X : List Value} {A : MF} {x1 : Int} (H : R32 x1 ∧ x1 < 0) : mm_E w (d + 8) 8 0 [(0, .ref 1), (1, mI x1)] [] (mm_w X A) (.inr 1, mm_w X A, 1, 6) := by
  obtain ⟨h0, h1⟩ := H
  exact mm_E.aload_n (mm_atc mc8 rfl) rfl <|
  mm_E.iload_n (mm_atc mc8 rfl) rfl <|
  mm_E.callV0 (mm_atc mc8 rfl) (mm_plc mp8 rfl) rfl mk22 ly1 rfl mx22 rfl rfl (p22_0_0 (d := d) ⟨h0, h1⟩) (by omega) <|
  show mm_E _ _ 8 5 _ _ _ _ from
  mm_E.if1 (mm_atc mc8 rfl) (by decide) (ic_neF (by decide)) rfl <|
  mm_E.thr (mm_atc mc8 rfl) (mm_plc mp8 rfl) rfl (by omega)
theorem p8_0_1 {w d : Nat} {X : List Value} {A : MF} {x1 : Int} (H : R32 x1 ∧ 0 ≤ x1 ∧ R32 ((A 2 1) - 1) ∧ ((A 2 1) - 1) < x1) : mm_E w (d + 8) 8 0 [(0, .ref 1), (1, mI x1)] [] (mm_w X A) (.inr 1, mm_w X A, 1, 6) := by
  obtain ⟨h0, h1, h2, h3⟩ := H
  exact mm_E.aload_n (mm_atc mc8 rfl) rfl <|
  mm_E.iload_n (mm_atc mc8 rfl) rfl <|
  mm_E.callV0 (mm_atc mc8 rfl) (mm_plc mp8 rfl) rfl mk22 ly1 rfl mx22 rfl rfl (p22_0_1 (d := d) ⟨h0, h1, h2, h3⟩) (by omega) <|
  show mm_E _ _ 8 5 _ _ _ _ from
  mm_E.if1 (mm_atc mc8 rfl) (by decide) (ic_neF (by decide)) rfl <|
  mm_E.thr (mm_atc mc8 rfl) (mm_plc mp8 rfl) rfl (by omega)
theorem p8_0_2 {w d : Nat} {X : List Value} {A : MF} {x1 : Int} (H : R32 x1 ∧ 0 ≤ x1 ∧ R32 ((A 2 1) - 1) ∧ x1 ≤ ((A 2 1) - 1) ∧ x1 < 12) : mm_E w (d + 2) 8 0 [(0, .ref 1), (1, mI x1)] [] (mm_w X A) (.inl (some (mI (A 10 x1))), mm_w X A, 0, 0) := by
  obtain ⟨h0, h1, h2, h3, h4⟩ := H
  exact mm_E.aload_n (mm_atc mc8 rfl) rfl <|
  mm_E.iload_n (mm_atc mc8 rfl) rfl <|
  mm_E.callV0 (mm_atc mc8 rfl) (mm_plc mp8 rfl) rfl mk22 ly1 rfl mx22 rfl rfl (p22_0_2 (d := d) ⟨h0, h1, h2, h3⟩) (by omega) <|
  show mm_E _ _ 8 5 _ _ _ _ from
  mm_E.if1 (mm_atc mc8 rfl) (by decide) (ic_neT (by decide)) rfl <|
  mm_E.aload_n (mm_atc mc8 rfl) rfl <|
  mm_E.getR (b := 2) (mm_atc mc8 rfl) (mm_plc mp8 rfl) rfl ly1 rfl <|
  mm_E.iload_n (mm_atc mc8 rfl) rfl <|
  mm_E.callV0 (mm_atc mc8 rfl) (mm_plc mp8 rfl) rfl mk60 ly2 rfl mx60 rfl rfl (p60_0_0 (d := d) ⟨h1, h4⟩) (by omega) <|
  show mm_E _ _ 8 26 _ _ _ _ from
  mm_E.iret (mm_atc mc8 rfl) mr8 rfl
theorem p9_0_0 {w d : Nat} {X : List Value} {A : MF} {x1 x2 : Int} (H : R32 x1 ∧ x1 < 0) : mm_E w (d + 8) 9 0 [(0, .ref 1), (1, mI x1), (2, mI x2)] [] (mm_w X A) (.inr 1, mm_w X A, 1, 6) := by
  obtain ⟨h0, h1⟩ := H
  exact mm_E.aload_n (mm_atc mc9 rfl) rfl <|
  mm_E.iload_n (mm_atc mc9 rfl) rfl <|
  mm_E.callV0 (mm_atc mc9 rfl) (mm_plc mp9 rfl) rfl mk21 ly1 rfl mx21 rfl rfl (p21_0_0 (d := d) ⟨h0, h1⟩) (by omega) <|
  show mm_E _ _ 9 5 _ _ _ _ from
  mm_E.if1 (mm_atc mc9 rfl) (by decide) (ic_eqT (by decide)) rfl <|
  mm_E.thr (mm_atc mc9 rfl) (mm_plc mp9 rfl) rfl (by omega)
theorem p9_0_1 {w d : Nat} {X : List Value} {A : MF} {x1 x2 : Int} (H : R32 x1 ∧ 0 ≤ x1 ∧ R32 ((A 1 3) - 1) ∧ ((A 1 3) - 1) < x1) : mm_E w (d + 8) 9 0 [(0, .ref 1), (1, mI x1), (2, mI x2)] [] (mm_w X A) (.inr 1, mm_w X A, 1, 6) := by
  obtain ⟨h0, h1, h2, h3⟩ := H
  exact mm_E.aload_n (mm_atc mc9 rfl) rfl <|
  mm_E.iload_n (mm_atc mc9 rfl) rfl <|
  mm_E.callV0 (mm_atc mc9 rfl) (mm_plc mp9 rfl) rfl mk21 ly1 rfl mx21 rfl rfl (p21_0_1 (d := d) ⟨h0, h1, h2, h3⟩) (by omega) <|
  show mm_E _ _ 9 5 _ _ _ _ from
  mm_E.if1 (mm_atc mc9 rfl) (by decide) (ic_eqT (by decide)) rfl <|
  mm_E.thr (mm_atc mc9 rfl) (mm_plc mp9 rfl) rfl (by omega)
theorem p9_0_2 {w d : Nat} {X : List Value} {A : MF} {x1 x2 : Int} (H : R32 x1 ∧ 0 ≤ x1 ∧ R32 ((A 1 3) - 1) ∧ x1 ≤ ((A 1 3) - 1) ∧ R32 x2 ∧ x2 < 0) : mm_E w (d + 8) 9 0 [(0, .ref 1), (1, mI x1), (2, mI x2)] [] (mm_w X A) (.inr 1, mm_w X A, 1, 6) := by
  obtain ⟨h0, h1, h2, h3, h4, h5⟩ := H
  exact mm_E.aload_n (mm_atc mc9 rfl) rfl <|
  mm_E.iload_n (mm_atc mc9 rfl) rfl <|
  mm_E.callV0 (mm_atc mc9 rfl) (mm_plc mp9 rfl) rfl mk21 ly1 rfl mx21 rfl rfl (p21_0_2 (d := d) ⟨h0, h1, h2, h3⟩) (by omega) <|
  show mm_E _ _ 9 5 _ _ _ _ from
  mm_E.if1 (mm_atc mc9 rfl) (by decide) (ic_eqF (by decide)) rfl <|
  mm_E.aload_n (mm_atc mc9 rfl) rfl <|
  mm_E.iload_n (mm_atc mc9 rfl) rfl <|
  mm_E.callV0 (mm_atc mc9 rfl) (mm_plc mp9 rfl) rfl mk21 ly1 rfl mx21 rfl rfl (p21_0_0 (d := d) ⟨h4, h5⟩) (by omega) <|
  show mm_E _ _ 9 13 _ _ _ _ from
  mm_E.if1 (mm_atc mc9 rfl) (by decide) (ic_neF (by decide)) rfl <|
  mm_E.thr (mm_atc mc9 rfl) (mm_plc mp9 rfl) rfl (by omega)
theorem p9_0_3 {w d : Nat} {X : List Value} {A : MF} {x1 x2 : Int} (H : R32 x1 ∧ 0 ≤ x1 ∧ R32 ((A 1 3) - 1) ∧ x1 ≤ ((A 1 3) - 1) ∧ R32 x2 ∧ 0 ≤ x2 ∧ ((A 1 3) - 1) < x2) : mm_E w (d + 8) 9 0 [(0, .ref 1), (1, mI x1), (2, mI x2)] [] (mm_w X A) (.inr 1, mm_w X A, 1, 6) := by
  obtain ⟨h0, h1, h2, h3, h4, h5, h6⟩ := H
  exact mm_E.aload_n (mm_atc mc9 rfl) rfl <|
  mm_E.iload_n (mm_atc mc9 rfl) rfl <|
  mm_E.callV0 (mm_atc mc9 rfl) (mm_plc mp9 rfl) rfl mk21 ly1 rfl mx21 rfl rfl (p21_0_2 (d := d) ⟨h0, h1, h2, h3⟩) (by omega) <|
  show mm_E _ _ 9 5 _ _ _ _ from
  mm_E.if1 (mm_atc mc9 rfl) (by decide) (ic_eqF (by decide)) rfl <|
  mm_E.aload_n (mm_atc mc9 rfl) rfl <|
  mm_E.iload_n (mm_atc mc9 rfl) rfl <|
  mm_E.callV0 (mm_atc mc9 rfl) (mm_plc mp9 rfl) rfl mk21 ly1 rfl mx21 rfl rfl (p21_0_1 (d := d) ⟨h4, h5, h2, h6⟩) (by omega) <|
  show mm_E _ _ 9 13 _ _ _ _ from
  mm_E.if1 (mm_atc mc9 rfl) (by decide) (ic_neF (by decide)) rfl <|
  mm_E.thr (mm_atc mc9 rfl) (mm_plc mp9 rfl) rfl (by omega)
theorem p9_0_4 {w d : Nat} {X : List Value} {A : MF} {x1 x2 z0 : Int} (s0 : mm_E w (d + 1) 61 0 [(0, .ref 2), (1, mI x1), (2, mI x2)] [] (mm_w X A) (.inl (some (mI z0)), mm_w X A, 0, 0)) (H : R32 x1 ∧ 0 ≤ x1 ∧ R32 ((A 1 3) - 1) ∧ x1 ≤ ((A 1 3) - 1) ∧ R32 x2 ∧ 0 ≤ x2 ∧ x2 ≤ ((A 1 3) - 1)) : mm_E w (d + 2) 9 0 [(0, .ref 1), (1, mI x1), (2, mI x2)] [] (mm_w X A) (.inl (some (mI z0)), mm_w X A, 0, 0) := by
  obtain ⟨h0, h1, h2, h3, h4, h5, h6⟩ := H
  exact mm_E.aload_n (mm_atc mc9 rfl) rfl <|
  mm_E.iload_n (mm_atc mc9 rfl) rfl <|
  mm_E.callV0 (mm_atc mc9 rfl) (mm_plc mp9 rfl) rfl mk21 ly1 rfl mx21 rfl rfl (p21_0_2 (d := d) ⟨h0, h1, h2, h3⟩) (by omega) <|
  show mm_E _ _ 9 5 _ _ _ _ from
  mm_E.if1 (mm_atc mc9 rfl) (by decide) (ic_eqF (by decide)) rfl <|
  mm_E.aload_n (mm_atc mc9 rfl) rfl <|
  mm_E.iload_n (mm_atc mc9 rfl) rfl <|
  mm_E.callV0 (mm_atc mc9 rfl) (mm_plc mp9 rfl) rfl mk21 ly1 rfl mx21 rfl rfl (p21_0_2 (d := d) ⟨h4, h5, h2, h6⟩) (by omega) <|
  show mm_E _ _ 9 13 _ _ _ _ from
  mm_E.if1 (mm_atc mc9 rfl) (by decide) (ic_neT (by decide)) rfl <|
  mm_E.aload_n (mm_atc mc9 rfl) rfl <|
  mm_E.getR (b := 2) (mm_atc mc9 rfl) (mm_plc mp9 rfl) rfl ly1 rfl <|
  mm_E.iload_n (mm_atc mc9 rfl) rfl <|
  mm_E.iload_n (mm_atc mc9 rfl) rfl <|
  mm_E.callV0 (mm_atc mc9 rfl) (mm_plc mp9 rfl) rfl mk61 ly2 rfl mx61 rfl rfl s0 (by omega) <|
  show mm_E _ _ 9 35 _ _ _ _ from
  mm_E.iret (mm_atc mc9 rfl) mr9 rfl
theorem p10_0_0 {w d : Nat} {X : List Value} {A : MF} {x1 x2 x3 : Int} (H : R32 x1 ∧ x1 < 0) : mm_E w (d + 8) 10 0 [(0, .ref 1), (1, mI x1), (2, mI x2), (3, mI x3)] [] (mm_w X A) (.inr 1, mm_w X A, 1, 6) := by
  obtain ⟨h0, h1⟩ := H
  exact mm_E.aload_n (mm_atc mc10 rfl) rfl <|
  mm_E.iload_n (mm_atc mc10 rfl) rfl <|
  mm_E.callV0 (mm_atc mc10 rfl) (mm_plc mp10 rfl) rfl mk21 ly1 rfl mx21 rfl rfl (p21_0_0 (d := d) ⟨h0, h1⟩) (by omega) <|
  show mm_E _ _ 10 5 _ _ _ _ from
  mm_E.if1 (mm_atc mc10 rfl) (by decide) (ic_eqT (by decide)) rfl <|
  mm_E.thr (mm_atc mc10 rfl) (mm_plc mp10 rfl) rfl (by omega)
theorem p10_0_1 {w d : Nat} {X : List Value} {A : MF} {x1 x2 x3 : Int} (H : R32 x1 ∧ 0 ≤ x1 ∧ R32 ((A 1 3) - 1) ∧ ((A 1 3) - 1) < x1) : mm_E w (d + 8) 10 0 [(0, .ref 1), (1, mI x1), (2, mI x2), (3, mI x3)] [] (mm_w X A) (.inr 1, mm_w X A, 1, 6) := by
  obtain ⟨h0, h1, h2, h3⟩ := H
  exact mm_E.aload_n (mm_atc mc10 rfl) rfl <|
  mm_E.iload_n (mm_atc mc10 rfl) rfl <|
  mm_E.callV0 (mm_atc mc10 rfl) (mm_plc mp10 rfl) rfl mk21 ly1 rfl mx21 rfl rfl (p21_0_1 (d := d) ⟨h0, h1, h2, h3⟩) (by omega) <|
  show mm_E _ _ 10 5 _ _ _ _ from
  mm_E.if1 (mm_atc mc10 rfl) (by decide) (ic_eqT (by decide)) rfl <|
  mm_E.thr (mm_atc mc10 rfl) (mm_plc mp10 rfl) rfl (by omega)
theorem p10_0_2 {w d : Nat} {X : List Value} {A : MF} {x1 x2 x3 : Int} (H : R32 x1 ∧ 0 ≤ x1 ∧ R32 ((A 1 3) - 1) ∧ x1 ≤ ((A 1 3) - 1) ∧ R32 x2 ∧ x2 < 0) : mm_E w (d + 8) 10 0 [(0, .ref 1), (1, mI x1), (2, mI x2), (3, mI x3)] [] (mm_w X A) (.inr 1, mm_w X A, 1, 6) := by
  obtain ⟨h0, h1, h2, h3, h4, h5⟩ := H
  exact mm_E.aload_n (mm_atc mc10 rfl) rfl <|
  mm_E.iload_n (mm_atc mc10 rfl) rfl <|
  mm_E.callV0 (mm_atc mc10 rfl) (mm_plc mp10 rfl) rfl mk21 ly1 rfl mx21 rfl rfl (p21_0_2 (d := d) ⟨h0, h1, h2, h3⟩) (by omega) <|
  show mm_E _ _ 10 5 _ _ _ _ from
  mm_E.if1 (mm_atc mc10 rfl) (by decide) (ic_eqF (by decide)) rfl <|
  mm_E.aload_n (mm_atc mc10 rfl) rfl <|
  mm_E.iload_n (mm_atc mc10 rfl) rfl <|
  mm_E.callV0 (mm_atc mc10 rfl) (mm_plc mp10 rfl) rfl mk21 ly1 rfl mx21 rfl rfl (p21_0_0 (d := d) ⟨h4, h5⟩) (by omega) <|
  show mm_E _ _ 10 13 _ _ _ _ from
  mm_E.if1 (mm_atc mc10 rfl) (by decide) (ic_neF (by decide)) rfl <|
  mm_E.thr (mm_atc mc10 rfl) (mm_plc mp10 rfl) rfl (by omega)
theorem p10_0_3 {w d : Nat} {X : List Value} {A : MF} {x1 x2 x3 : Int} (H : R32 x1 ∧ 0 ≤ x1 ∧ R32 ((A 1 3) - 1) ∧ x1 ≤ ((A 1 3) - 1) ∧ R32 x2 ∧ 0 ≤ x2 ∧ ((A 1 3) - 1) < x2) : mm_E w (d + 8) 10 0 [(0, .ref 1), (1, mI x1), (2, mI x2), (3, mI x3)] [] (mm_w X A) (.inr 1, mm_w X A, 1, 6) := by
  obtain ⟨h0, h1, h2, h3, h4, h5, h6⟩ := H
  exact mm_E.aload_n (mm_atc mc10 rfl) rfl <|
  mm_E.iload_n (mm_atc mc10 rfl) rfl <|
  mm_E.callV0 (mm_atc mc10 rfl) (mm_plc mp10 rfl) rfl mk21 ly1 rfl mx21 rfl rfl (p21_0_2 (d := d) ⟨h0, h1, h2, h3⟩) (by omega) <|
  show mm_E _ _ 10 5 _ _ _ _ from
  mm_E.if1 (mm_atc mc10 rfl) (by decide) (ic_eqF (by decide)) rfl <|
  mm_E.aload_n (mm_atc mc10 rfl) rfl <|
  mm_E.iload_n (mm_atc mc10 rfl) rfl <|
  mm_E.callV0 (mm_atc mc10 rfl) (mm_plc mp10 rfl) rfl mk21 ly1 rfl mx21 rfl rfl (p21_0_1 (d := d) ⟨h4, h5, h2, h6⟩) (by omega) <|
  show mm_E _ _ 10 13 _ _ _ _ from
  mm_E.if1 (mm_atc mc10 rfl) (by decide) (ic_neF (by decide)) rfl <|
  mm_E.thr (mm_atc mc10 rfl) (mm_plc mp10 rfl) rfl (by omega)
theorem p10_0_4 {w d : Nat} {X : List Value} {A : MF} {x1 x2 x3 z0 : Int} (s0 : mm_E w (d + 1) 62 0 [(0, .ref 2), (1, mI x1), (2, mI x2), (3, mI x3)] [] (mm_w X A) (.inl (some (mI z0)), mm_w X A, 0, 0)) (H : R32 x1 ∧ 0 ≤ x1 ∧ R32 ((A 1 3) - 1) ∧ x1 ≤ ((A 1 3) - 1) ∧ R32 x2 ∧ 0 ≤ x2 ∧ x2 ≤ ((A 1 3) - 1)) : mm_E w (d + 2) 10 0 [(0, .ref 1), (1, mI x1), (2, mI x2), (3, mI x3)] [] (mm_w X A) (.inl (some (mI z0)), mm_w X A, 0, 0) := by
  obtain ⟨h0, h1, h2, h3, h4, h5, h6⟩ := H
  exact mm_E.aload_n (mm_atc mc10 rfl) rfl <|
  mm_E.iload_n (mm_atc mc10 rfl) rfl <|
  mm_E.callV0 (mm_atc mc10 rfl) (mm_plc mp10 rfl) rfl mk21 ly1 rfl mx21 rfl rfl (p21_0_2 (d := d) ⟨h0, h1, h2, h3⟩) (by omega) <|
  show mm_E _ _ 10 5 _ _ _ _ from
  mm_E.if1 (mm_atc mc10 rfl) (by decide) (ic_eqF (by decide)) rfl <|
  mm_E.aload_n (mm_atc mc10 rfl) rfl <|
  mm_E.iload_n (mm_atc mc10 rfl) rfl <|
  mm_E.callV0 (mm_atc mc10 rfl) (mm_plc mp10 rfl) rfl mk21 ly1 rfl mx21 rfl rfl (p21_0_2 (d := d) ⟨h4, h5, h2, h6⟩) (by omega) <|
  show mm_E _ _ 10 13 _ _ _ _ from
  mm_E.if1 (mm_atc mc10 rfl) (by decide) (ic_neT (by decide)) rfl <|
  mm_E.aload_n (mm_atc mc10 rfl) rfl <|
  mm_E.getR (b := 2) (mm_atc mc10 rfl) (mm_plc mp10 rfl) rfl ly1 rfl <|
  mm_E.iload_n (mm_atc mc10 rfl) rfl <|
  mm_E.iload_n (mm_atc mc10 rfl) rfl <|
  mm_E.iload_n (mm_atc mc10 rfl) rfl <|
  mm_E.callV0 (mm_atc mc10 rfl) (mm_plc mp10 rfl) rfl mk62 ly2 rfl mx62 rfl rfl s0 (by omega) <|
  show mm_E _ _ 10 36 _ _ _ _ from
  mm_E.iret (mm_atc mc10 rfl) mr10 rfl
theorem p11_0_0 {w d : Nat} {X : List Value} {A : MF} {x1 : Int} (H : R32 x1 ∧ x1 < 0) : mm_E w (d + 8) 11 0 [(0, .ref 1), (1, mI x1)] [] (mm_w X A) (.inr 1, mm_w X A, 1, 6) := by
  obtain ⟨h0, h1⟩ := H
  exact mm_E.aload_n (mm_atc mc11 rfl) rfl <|
  mm_E.iload_n (mm_atc mc11 rfl) rfl <|
  mm_E.callV0 (mm_atc mc11 rfl) (mm_plc mp11 rfl) rfl mk21 ly1 rfl mx21 rfl rfl (p21_0_0 (d := d) ⟨h0, h1⟩) (by omega) <|
  show mm_E _ _ 11 5 _ _ _ _ from
  mm_E.if1 (mm_atc mc11 rfl) (by decide) (ic_neF (by decide)) rfl <|
  mm_E.thr (mm_atc mc11 rfl) (mm_plc mp11 rfl) rfl (by omega)
theorem p11_0_1 {w d : Nat} {X : List Value} {A : MF} {x1 : Int} (H : R32 x1 ∧ 0 ≤ x1 ∧ R32 ((A 1 3) - 1) ∧ ((A 1 3) - 1) < x1) : mm_E w (d + 8) 11 0 [(0, .ref 1), (1, mI x1)] [] (mm_w X A) (.inr 1, mm_w X A, 1, 6) := by
  obtain ⟨h0, h1, h2, h3⟩ := H
  exact mm_E.aload_n (mm_atc mc11 rfl) rfl <|
  mm_E.iload_n (mm_atc mc11 rfl) rfl <|
  mm_E.callV0 (mm_atc mc11 rfl) (mm_plc mp11 rfl) rfl mk21 ly1 rfl mx21 rfl rfl (p21_0_1 (d := d) ⟨h0, h1, h2, h3⟩) (by omega) <|
  show mm_E _ _ 11 5 _ _ _ _ from
  mm_E.if1 (mm_atc mc11 rfl) (by decide) (ic_neF (by decide)) rfl <|
  mm_E.thr (mm_atc mc11 rfl) (mm_plc mp11 rfl) rfl (by omega)
theorem p11_0_2 {d : Nat} {X : List Value} {A : MF} {x1 z0 z2 : Int} {A1 : MF} (s0 : mm_E 1 (d + 1) 64 0 [(0, .ref 2)] [] (mm_w X A) (.inl (some (mI z0)), mm_w X A, 0, 0)) (s1 : mm_E 1 (d + 1) 72 0 [(0, .ref 2), (1, mI x1)] [] (mm_w X A) (.inl (some (mI z2)), mm_w X A1, 0, 0)) (H : R32 x1 ∧ 0 ≤ x1 ∧ R32 ((A 1 3) - 1) ∧ x1 ≤ ((A 1 3) - 1) ∧ R32 z0 ∧ z0 ≠ 0) : mm_E 1 (d + 2) 11 0 [(0, .ref 1), (1, mI x1)] [] (mm_w X A) (.inl (some (mI z2)), mm_w X A1, 0, 0) := by
  obtain ⟨h0, h1, h2, h3, h4, h5⟩ := H
  exact mm_E.aload_n (mm_atc mc11 rfl) rfl <|
  mm_E.iload_n (mm_atc mc11 rfl) rfl <|
  mm_E.callV0 (mm_atc mc11 rfl) (mm_plc mp11 rfl) rfl mk21 ly1 rfl mx21 rfl rfl (p21_0_2 (d := d) ⟨h0, h1, h2, h3⟩) (by omega) <|
  show mm_E _ _ 11 5 _ _ _ _ from
  mm_E.if1 (mm_atc mc11 rfl) (by decide) (ic_neT (by decide)) rfl <|
  mm_E.aload_n (mm_atc mc11 rfl) rfl <|
  mm_E.getR (b := 2) (mm_atc mc11 rfl) (mm_plc mp11 rfl) rfl ly1 rfl <|
  mm_E.callV0 (mm_atc mc11 rfl) (mm_plc mp11 rfl) rfl mk64 ly2 rfl mx64 rfl rfl s0 (by omega) <|
  show mm_E _ _ 11 25 _ _ _ _ from
  mm_E.if1 (mm_atc mc11 rfl) h4 (ic_neT h5) rfl <|
  mm_E.aload_n (mm_atc mc11 rfl) rfl <|
  mm_E.getR (b := 2) (mm_atc mc11 rfl) (mm_plc mp11 rfl) rfl ly1 rfl <|
  mm_E.iload_n (mm_atc mc11 rfl) rfl <|
  mm_E.callV0 (mm_atc mc11 rfl) (mm_plc mp11 rfl) rfl mk72 ly2 rfl mx72 rfl rfl s1 (by omega) <|
  show mm_E _ _ 11 46 _ _ _ _ from
  mm_E.iret (mm_atc mc11 rfl) mr11 rfl
theorem p11_0_3 {w d : Nat} {X : List Value} {A : MF} {x1 z0 : Int} (s0 : mm_E w (d + 7) 64 0 [(0, .ref 2)] [] (mm_w X A) (.inl (some (mI z0)), mm_w X A, 0, 0)) (H : R32 x1 ∧ 0 ≤ x1 ∧ R32 ((A 1 3) - 1) ∧ x1 ≤ ((A 1 3) - 1) ∧ R32 z0 ∧ z0 = 0) : mm_E w (d + 8) 11 0 [(0, .ref 1), (1, mI x1)] [] (mm_w X A) (.inr 2, mm_w X A, 1, 6) := by
  obtain ⟨h0, h1, h2, h3, h4, h5⟩ := H
  exact mm_E.aload_n (mm_atc mc11 rfl) rfl <|
  mm_E.iload_n (mm_atc mc11 rfl) rfl <|
  mm_E.callV0 (mm_atc mc11 rfl) (mm_plc mp11 rfl) rfl mk21 ly1 rfl mx21 rfl rfl (p21_0_2 (d := d) ⟨h0, h1, h2, h3⟩) (by omega) <|
  show mm_E _ _ 11 5 _ _ _ _ from
  mm_E.if1 (mm_atc mc11 rfl) (by decide) (ic_neT (by decide)) rfl <|
  mm_E.aload_n (mm_atc mc11 rfl) rfl <|
  mm_E.getR (b := 2) (mm_atc mc11 rfl) (mm_plc mp11 rfl) rfl ly1 rfl <|
  mm_E.callV0 (mm_atc mc11 rfl) (mm_plc mp11 rfl) rfl mk64 ly2 rfl mx64 rfl rfl s0 (by omega) <|
  show mm_E _ _ 11 25 _ _ _ _ from
  mm_E.if1 (mm_atc mc11 rfl) h4 (ic_neF h5) rfl <|
  mm_E.thr (mm_atc mc11 rfl) (mm_plc mp11 rfl) rfl (by omega)
theorem p76_0_0 {d : Nat} {X : List Value} {A : MF} {x1 x2 x3 : Int} (H : 0 ≤ x1 ∧ x1 < 6 ∧ 0 ≤ x2 ∧ x2 < 6) : mm_E 1 d 76 0 [(0, .ref 25), (1, mI x1), (2, mI x2), (3, mI x3)] [] (mm_w X A) (.inl (some (mI (A (27 + x1.toNat) x2))), mm_w X (mm_u A (27 + x1.toNat) x2 x3), 0, 0) := by
  obtain ⟨h0, h1, h2, h3⟩ := H
  exact mm_E.aload_n (mm_atc mc76 rfl) rfl <|
  mm_E.getR (b := 26) (mm_atc mc76 rfl) (mm_plc mp76 rfl) rfl ly25 rfl <|
  mm_E.iload_n (mm_atc mc76 rfl) rfl <|
  mm_E.aaload (mm_atc mc76 rfl) ly26 rfl h0 h1 (la27 h0 h1) <|
  mm_E.iload_n (mm_atc mc76 rfl) rfl <|
  mm_E.iaload (e := x2) (mm_atc mc76 rfl) (lr27 h0 h1) rfl h2 h3 rfl (rfl) <|
  mm_E.istore mx76 rfl (mm_atc mc76 rfl) <|
  show mm_E _ _ 76 10 [(4, mI (A (27 + x1.toNat) x2)), (0, .ref 25), (1, mI x1), (2, mI x2), (3, mI x3)] _ _ _ from
  mm_E.aload_n (mm_atc mc76 rfl) rfl <|
  mm_E.getR (b := 26) (mm_atc mc76 rfl) (mm_plc mp76 rfl) rfl ly25 rfl <|
  mm_E.iload_n (mm_atc mc76 rfl) rfl <|
  mm_E.aaload (mm_atc mc76 rfl) ly26 rfl h0 h1 (la27 h0 h1) <|
  mm_E.iload_n (mm_atc mc76 rfl) rfl <|
  mm_E.iload_n (mm_atc mc76 rfl) rfl <|
  mm_E.iastore (e := x2) (z := x3) (mm_atc mc76 rfl) (lr27 h0 h1) rfl h2 h3 rfl (mm_ly_pos (lr27 h0 h1)) <|
  mm_E.iload (mm_atc mc76 rfl) rfl <|
  mm_E.iret (mm_atc mc76 rfl) mr76 rfl
theorem p12_0_0 {w d : Nat} {X : List Value} {A : MF} {x1 x2 x3 : Int} (H : R32 x3 ∧ x3 < 0) : mm_E w (d + 8) 12 0 [(0, .ref 1), (1, mI x1), (2, mI x2), (3, mI x3)] [] (mm_w X A) (.inr 0, mm_w X A, 1, 6) := by
  obtain ⟨h0, h1⟩ := H
  exact mm_E.iload_n (mm_atc mc12 rfl) rfl <|
  mm_E.iconst (mm_atc mc12 rfl) <|
  mm_E.ldc (mm_atc mc12 rfl) (mm_plc mp12 rfl) <|
  mm_E.callS0 (mm_atc mc12 rfl) (mm_plc mp12 rfl) mx23 rfl rfl (p23_0_0 (d := d) ⟨(by decide), h0, h1⟩) (by omega) <|
  show mm_E _ _ 12 7 _ _ _ _ from
  mm_E.if1 (mm_atc mc12 rfl) (by decide) (ic_neF (by decide)) rfl <|
  mm_E.thr (mm_atc mc12 rfl) (mm_plc mp12 rfl) rfl (by omega)
theorem p12_0_1 {w d : Nat} {X : List Value} {A : MF} {x1 x2 x3 : Int} (H : R32 x3 ∧ 0 ≤ x3 ∧ 100000 < x3) : mm_E w (d + 8) 12 0 [(0, .ref 1), (1, mI x1), (2, mI x2), (3, mI x3)] [] (mm_w X A) (.inr 0, mm_w X A, 1, 6) := by
  obtain ⟨h0, h1, h2⟩ := H
  exact mm_E.iload_n (mm_atc mc12 rfl) rfl <|
  mm_E.iconst (mm_atc mc12 rfl) <|
  mm_E.ldc (mm_atc mc12 rfl) (mm_plc mp12 rfl) <|
  mm_E.callS0 (mm_atc mc12 rfl) (mm_plc mp12 rfl) mx23 rfl rfl (p23_0_1 (d := d) ⟨(by decide), h0, h1, (by decide), h2⟩) (by omega) <|
  show mm_E _ _ 12 7 _ _ _ _ from
  mm_E.if1 (mm_atc mc12 rfl) (by decide) (ic_neF (by decide)) rfl <|
  mm_E.thr (mm_atc mc12 rfl) (mm_plc mp12 rfl) rfl (by omega)
theorem p12_0_2 {w d : Nat} {X : List Value} {A : MF} {x1 x2 x3 : Int} (H : R32 x3 ∧ 0 ≤ x3 ∧ x3 ≤ 100000 ∧ R32 x1 ∧ x1 < 0) : mm_E w (d + 8) 12 0 [(0, .ref 1), (1, mI x1), (2, mI x2), (3, mI x3)] [] (mm_w X A) (.inr 1, mm_w X A, 1, 6) := by
  obtain ⟨h0, h1, h2, h3, h4⟩ := H
  exact mm_E.iload_n (mm_atc mc12 rfl) rfl <|
  mm_E.iconst (mm_atc mc12 rfl) <|
  mm_E.ldc (mm_atc mc12 rfl) (mm_plc mp12 rfl) <|
  mm_E.callS0 (mm_atc mc12 rfl) (mm_plc mp12 rfl) mx23 rfl rfl (p23_0_2 (d := d) ⟨(by decide), h0, h1, (by decide), h2⟩) (by omega) <|
  show mm_E _ _ 12 7 _ _ _ _ from
  mm_E.if1 (mm_atc mc12 rfl) (by decide) (ic_neT (by decide)) rfl <|
  mm_E.aload_n (mm_atc mc12 rfl) rfl <|
  mm_E.iload_n (mm_atc mc12 rfl) rfl <|
  mm_E.callV0 (mm_atc mc12 rfl) (mm_plc mp12 rfl) rfl mk21 ly1 rfl mx21 rfl rfl (p21_0_0 (d := d) ⟨h3, h4⟩) (by omega) <|
  show mm_E _ _ 12 25 _ _ _ _ from
  mm_E.if1 (mm_atc mc12 rfl) (by decide) (ic_eqT (by decide)) rfl <|
  mm_E.thr (mm_atc mc12 rfl) (mm_plc mp12 rfl) rfl (by omega)
theorem p12_0_3 {w d : Nat} {X : List Value} {A : MF} {x1 x2 x3 : Int} (H : R32 x3 ∧ 0 ≤ x3 ∧ x3 ≤ 100000 ∧ R32 x1 ∧ 0 ≤ x1 ∧ R32 ((A 1 3) - 1) ∧ ((A 1 3) - 1) < x1) : mm_E w (d + 8) 12 0 [(0, .ref 1), (1, mI x1), (2, mI x2), (3, mI x3)] [] (mm_w X A) (.inr 1, mm_w X A, 1, 6) := by
  obtain ⟨h0, h1, h2, h3, h4, h5, h6⟩ := H
  exact mm_E.iload_n (mm_atc mc12 rfl) rfl <|
  mm_E.iconst (mm_atc mc12 rfl) <|
  mm_E.ldc (mm_atc mc12 rfl) (mm_plc mp12 rfl) <|
  mm_E.callS0 (mm_atc mc12 rfl) (mm_plc mp12 rfl) mx23 rfl rfl (p23_0_2 (d := d) ⟨(by decide), h0, h1, (by decide), h2⟩) (by omega) <|
  show mm_E _ _ 12 7 _ _ _ _ from
  mm_E.if1 (mm_atc mc12 rfl) (by decide) (ic_neT (by decide)) rfl <|
  mm_E.aload_n (mm_atc mc12 rfl) rfl <|
  mm_E.iload_n (mm_atc mc12 rfl) rfl <|
  mm_E.callV0 (mm_atc mc12 rfl) (mm_plc mp12 rfl) rfl mk21 ly1 rfl mx21 rfl rfl (p21_0_1 (d := d) ⟨h3, h4, h5, h6⟩) (by omega) <|
  show mm_E _ _ 12 25 _ _ _ _ from
  mm_E.if1 (mm_atc mc12 rfl) (by decide) (ic_eqT (by decide)) rfl <|
  mm_E.thr (mm_atc mc12 rfl) (mm_plc mp12 rfl) rfl (by omega)
theorem p12_0_4 {w d : Nat} {X : List Value} {A : MF} {x1 x2 x3 : Int} (H : R32 x3 ∧ 0 ≤ x3 ∧ x3 ≤ 100000 ∧ R32 x1 ∧ 0 ≤ x1 ∧ R32 ((A 1 3) - 1) ∧ x1 ≤ ((A 1 3) - 1) ∧ R32 x2 ∧ x2 < 0) : mm_E w (d + 8) 12 0 [(0, .ref 1), (1, mI x1), (2, mI x2), (3, mI x3)] [] (mm_w X A) (.inr 1, mm_w X A, 1, 6) := by
  obtain ⟨h0, h1, h2, h3, h4, h5, h6, h7, h8⟩ := H
  exact mm_E.iload_n (mm_atc mc12 rfl) rfl <|
  mm_E.iconst (mm_atc mc12 rfl) <|
  mm_E.ldc (mm_atc mc12 rfl) (mm_plc mp12 rfl) <|
  mm_E.callS0 (mm_atc mc12 rfl) (mm_plc mp12 rfl) mx23 rfl rfl (p23_0_2 (d := d) ⟨(by decide), h0, h1, (by decide), h2⟩) (by omega) <|
  show mm_E _ _ 12 7 _ _ _ _ from
  mm_E.if1 (mm_atc mc12 rfl) (by decide) (ic_neT (by decide)) rfl <|
  mm_E.aload_n (mm_atc mc12 rfl) rfl <|
  mm_E.iload_n (mm_atc mc12 rfl) rfl <|
  mm_E.callV0 (mm_atc mc12 rfl) (mm_plc mp12 rfl) rfl mk21 ly1 rfl mx21 rfl rfl (p21_0_2 (d := d) ⟨h3, h4, h5, h6⟩) (by omega) <|
  show mm_E _ _ 12 25 _ _ _ _ from
  mm_E.if1 (mm_atc mc12 rfl) (by decide) (ic_eqF (by decide)) rfl <|
  mm_E.aload_n (mm_atc mc12 rfl) rfl <|
  mm_E.iload_n (mm_atc mc12 rfl) rfl <|
  mm_E.callV0 (mm_atc mc12 rfl) (mm_plc mp12 rfl) rfl mk21 ly1 rfl mx21 rfl rfl (p21_0_0 (d := d) ⟨h7, h8⟩) (by omega) <|
  show mm_E _ _ 12 33 _ _ _ _ from
  mm_E.if1 (mm_atc mc12 rfl) (by decide) (ic_neF (by decide)) rfl <|
  mm_E.thr (mm_atc mc12 rfl) (mm_plc mp12 rfl) rfl (by omega)
theorem p12_0_5 {w d : Nat} {X : List Value} {A : MF} {x1 x2 x3 : Int} (H : R32 x3 ∧ 0 ≤ x3 ∧ x3 ≤ 100000 ∧ R32 x1 ∧ 0 ≤ x1 ∧ R32 ((A 1 3) - 1) ∧ x1 ≤ ((A 1 3) - 1) ∧ R32 x2 ∧ 0 ≤ x2 ∧ ((A 1 3) - 1) < x2) : mm_E w (d + 8) 12 0 [(0, .ref 1), (1, mI x1), (2, mI x2), (3, mI x3)] [] (mm_w X A) (.inr 1, mm_w X A, 1, 6) := by
  obtain ⟨h0, h1, h2, h3, h4, h5, h6, h7, h8, h9⟩ := H
  exact mm_E.iload_n (mm_atc mc12 rfl) rfl <|
  mm_E.iconst (mm_atc mc12 rfl) <|
  mm_E.ldc (mm_atc mc12 rfl) (mm_plc mp12 rfl) <|
  mm_E.callS0 (mm_atc mc12 rfl) (mm_plc mp12 rfl) mx23 rfl rfl (p23_0_2 (d := d) ⟨(by decide), h0, h1, (by decide), h2⟩) (by omega) <|
  show mm_E _ _ 12 7 _ _ _ _ from
  mm_E.if1 (mm_atc mc12 rfl) (by decide) (ic_neT (by decide)) rfl <|
  mm_E.aload_n (mm_atc mc12 rfl) rfl <|
  mm_E.iload_n (mm_atc mc12 rfl) rfl <|
  mm_E.callV0 (mm_atc mc12 rfl) (mm_plc mp12 rfl) rfl mk21 ly1 rfl mx21 rfl rfl (p21_0_2 (d := d) ⟨h3, h4, h5, h6⟩) (by omega) <|
  show mm_E _ _ 12 25 _ _ _ _ from
  mm_E.if1 (mm_atc mc12 rfl) (by decide) (ic_eqF (by decide)) rfl <|
  mm_E.aload_n (mm_atc mc12 rfl) rfl <|
  mm_E.iload_n (mm_atc mc12 rfl) rfl <|
  mm_E.callV0 (mm_atc mc12 rfl) (mm_plc mp12 rfl) rfl mk21 ly1 rfl mx21 rfl rfl (p21_0_1 (d := d) ⟨h7, h8, h5, h9⟩) (by omega) <|
  show mm_E _ _ 12 33 _ _ _ _ from
  mm_E.if1 (mm_atc mc12 rfl) (by decide) (ic_neF (by decide)) rfl <|
  mm_E.thr (mm_atc mc12 rfl) (mm_plc mp12 rfl) rfl (by omega)
theorem p12_0_6 {d : Nat} {X : List Value} {A : MF} {x1 x2 x3 : Int} (H : R32 x3 ∧ 0 ≤ x3 ∧ x3 ≤ 100000 ∧ R32 x1 ∧ 0 ≤ x1 ∧ R32 ((A 1 3) - 1) ∧ x1 ≤ ((A 1 3) - 1) ∧ R32 x2 ∧ 0 ≤ x2 ∧ x2 ≤ ((A 1 3) - 1) ∧ x1 < 6 ∧ x2 < 6) : mm_E 1 (d + 2) 12 0 [(0, .ref 1), (1, mI x1), (2, mI x2), (3, mI x3)] [] (mm_w X A) (.inl (some (mI (A (27 + x1.toNat) x2))), mm_w X (mm_u A (27 + x1.toNat) x2 x3), 0, 0) := by
  obtain ⟨h0, h1, h2, h3, h4, h5, h6, h7, h8, h9, h10, h11⟩ := H
  exact mm_E.iload_n (mm_atc mc12 rfl) rfl <|
  mm_E.iconst (mm_atc mc12 rfl) <|
  mm_E.ldc (mm_atc mc12 rfl) (mm_plc mp12 rfl) <|
  mm_E.callS0 (mm_atc mc12 rfl) (mm_plc mp12 rfl) mx23 rfl rfl (p23_0_2 (d := d) ⟨(by decide), h0, h1, (by decide), h2⟩) (by omega) <|
  show mm_E _ _ 12 7 _ _ _ _ from
  mm_E.if1 (mm_atc mc12 rfl) (by decide) (ic_neT (by decide)) rfl <|
  mm_E.aload_n (mm_atc mc12 rfl) rfl <|
  mm_E.iload_n (mm_atc mc12 rfl) rfl <|
  mm_E.callV0 (mm_atc mc12 rfl) (mm_plc mp12 rfl) rfl mk21 ly1 rfl mx21 rfl rfl (p21_0_2 (d := d) ⟨h3, h4, h5, h6⟩) (by omega) <|
  show mm_E _ _ 12 25 _ _ _ _ from
  mm_E.if1 (mm_atc mc12 rfl) (by decide) (ic_eqF (by decide)) rfl <|
  mm_E.aload_n (mm_atc mc12 rfl) rfl <|
  mm_E.iload_n (mm_atc mc12 rfl) rfl <|
  mm_E.callV0 (mm_atc mc12 rfl) (mm_plc mp12 rfl) rfl mk21 ly1 rfl mx21 rfl rfl (p21_0_2 (d := d) ⟨h7, h8, h5, h9⟩) (by omega) <|
  show mm_E _ _ 12 33 _ _ _ _ from
  mm_E.if1 (mm_atc mc12 rfl) (by decide) (ic_neT (by decide)) rfl <|
  mm_E.aload_n (mm_atc mc12 rfl) rfl <|
  mm_E.getR (b := 25) (mm_atc mc12 rfl) (mm_plc mp12 rfl) rfl ly1 rfl <|
  mm_E.iload_n (mm_atc mc12 rfl) rfl <|
  mm_E.iload_n (mm_atc mc12 rfl) rfl <|
  mm_E.iload_n (mm_atc mc12 rfl) rfl <|
  mm_E.callV0 (mm_atc mc12 rfl) (mm_plc mp12 rfl) rfl mk76 ly25 rfl mx76 rfl rfl (p76_0_0 (d := d) ⟨h4, h10, h8, h11⟩) (by omega) <|
  show mm_E _ _ 12 56 _ _ _ _ from
  mm_E.iret (mm_atc mc12 rfl) mr12 rfl
theorem p77_0_0 {d : Nat} {X : List Value} {A : MF} {x1 : Int} : mm_E 1 d 77 0 [(0, .ref 25), (1, mI x1)] [] (mm_w X A) (.inl (some (mI (A 25 1))), mm_w X (mm_u A 25 1 x1), 0, 0) := by
  exact mm_E.aload_n (mm_atc mc77 rfl) rfl <|
  mm_E.getI (z := A 25 1) (mm_atc mc77 rfl) (mm_plc mp77 rfl) rfl ly25 rfl (rfl) <|
  mm_E.istore_n mx77 rfl (mm_atc mc77 rfl) <|
  show mm_E _ _ 77 5 [(2, mI (A 25 1)), (0, .ref 25), (1, mI x1)] _ _ _ from
  mm_E.aload_n (mm_atc mc77 rfl) rfl <|
  mm_E.iload_n (mm_atc mc77 rfl) rfl <|
  mm_E.putI (fi := 1) (z := x1) (mm_atc mc77 rfl) (mm_plc mp77 rfl) ly25 rfl rfl rfl (mm_fit_i rfl) rfl <|
  mm_E.iload_n (mm_atc mc77 rfl) rfl <|
  mm_E.iret (mm_atc mc77 rfl) mr77 rfl
theorem p13_0_0 {w d : Nat} {X : List Value} {A : MF} {x1 : Int} (H : R32 x1 ∧ x1 < 0) : mm_E w (d + 8) 13 0 [(0, .ref 1), (1, mI x1)] [] (mm_w X A) (.inr 0, mm_w X A, 1, 6) := by
  obtain ⟨h0, h1⟩ := H
  exact mm_E.iload_n (mm_atc mc13 rfl) rfl <|
  mm_E.iconst (mm_atc mc13 rfl) <|
  mm_E.ldc (mm_atc mc13 rfl) (mm_plc mp13 rfl) <|
  mm_E.callS0 (mm_atc mc13 rfl) (mm_plc mp13 rfl) mx23 rfl rfl (p23_0_0 (d := d) ⟨(by decide), h0, h1⟩) (by omega) <|
  show mm_E _ _ 13 7 _ _ _ _ from
  mm_E.if1 (mm_atc mc13 rfl) (by decide) (ic_neF (by decide)) rfl <|
  mm_E.thr (mm_atc mc13 rfl) (mm_plc mp13 rfl) rfl (by omega)
theorem p13_0_1 {w d : Nat} {X : List Value} {A : MF} {x1 : Int} (H : R32 x1 ∧ 0 ≤ x1 ∧ 600000 < x1) : mm_E w (d + 8) 13 0 [(0, .ref 1), (1, mI x1)] [] (mm_w X A) (.inr 0, mm_w X A, 1, 6) := by
  obtain ⟨h0, h1, h2⟩ := H
  exact mm_E.iload_n (mm_atc mc13 rfl) rfl <|
  mm_E.iconst (mm_atc mc13 rfl) <|
  mm_E.ldc (mm_atc mc13 rfl) (mm_plc mp13 rfl) <|
  mm_E.callS0 (mm_atc mc13 rfl) (mm_plc mp13 rfl) mx23 rfl rfl (p23_0_1 (d := d) ⟨(by decide), h0, h1, (by decide), h2⟩) (by omega) <|
  show mm_E _ _ 13 7 _ _ _ _ from
  mm_E.if1 (mm_atc mc13 rfl) (by decide) (ic_neF (by decide)) rfl <|
  mm_E.thr (mm_atc mc13 rfl) (mm_plc mp13 rfl) rfl (by omega)
theorem p13_0_2 {d : Nat} {X : List Value} {A : MF} {x1 : Int} (H : R32 x1 ∧ 0 ≤ x1 ∧ x1 ≤ 600000) : mm_E 1 (d + 1) 13 0 [(0, .ref 1), (1, mI x1)] [] (mm_w X A) (.inl (some (mI (A 25 1))), mm_w X (mm_u A 25 1 x1), 0, 0) := by
  obtain ⟨h0, h1, h2⟩ := H
  exact mm_E.iload_n (mm_atc mc13 rfl) rfl <|
  mm_E.iconst (mm_atc mc13 rfl) <|
  mm_E.ldc (mm_atc mc13 rfl) (mm_plc mp13 rfl) <|
  mm_E.callS0 (mm_atc mc13 rfl) (mm_plc mp13 rfl) mx23 rfl rfl (p23_0_2 (d := d) ⟨(by decide), h0, h1, (by decide), h2⟩) (by omega) <|
  show mm_E _ _ 13 7 _ _ _ _ from
  mm_E.if1 (mm_atc mc13 rfl) (by decide) (ic_neT (by decide)) rfl <|
  mm_E.aload_n (mm_atc mc13 rfl) rfl <|
  mm_E.getR (b := 25) (mm_atc mc13 rfl) (mm_plc mp13 rfl) rfl ly1 rfl <|
  mm_E.iload_n (mm_atc mc13 rfl) rfl <|
  mm_E.callV0 (mm_atc mc13 rfl) (mm_plc mp13 rfl) rfl mk77 ly25 rfl mx77 rfl rfl (p77_0_0 (d := d)) (by omega) <|
  show mm_E _ _ 13 28 _ _ _ _ from
  mm_E.iret (mm_atc mc13 rfl) mr13 rfl
theorem p14_0_0 {d : Nat} {X : List Value} {A : MF} {z0 z2 : Int} {A1 : MF} (s0 : mm_E 1 d 78 0 [(0, .ref 25)] [] (mm_w X A) (.inl (some (mI z0)), mm_w X A, 0, 0)) (s1 : mm_E 1 d 82 0 [(0, .ref 25)] [] (mm_w X A) (.inl (some (mI z2)), mm_w X A1, 0, 0)) (H : R32 z0 ∧ z0 ≠ 0) : mm_E 1 (d + 1) 14 0 [(0, .ref 1)] [] (mm_w X A) (.inl (some (mI z2)), mm_w X A1, 0, 0) := by
  obtain ⟨h0, h1⟩ := H
  exact mm_E.aload_n (mm_atc mc14 rfl) rfl <|
  mm_E.getR (b := 25) (mm_atc mc14 rfl) (mm_plc mp14 rfl) rfl ly1 rfl <|
  mm_E.callV0 (mm_atc mc14 rfl) (mm_plc mp14 rfl) rfl mk78 ly25 rfl mx78 rfl rfl s0 (by omega) <|
  show mm_E _ _ 14 7 _ _ _ _ from
  mm_E.if1 (mm_atc mc14 rfl) h0 (ic_neT h1) rfl <|
  mm_E.aload_n (mm_atc mc14 rfl) rfl <|
  mm_E.getR (b := 25) (mm_atc mc14 rfl) (mm_plc mp14 rfl) rfl ly1 rfl <|
  mm_E.callV0 (mm_atc mc14 rfl) (mm_plc mp14 rfl) rfl mk82 ly25 rfl mx82 rfl rfl s1 (by omega) <|
  show mm_E _ _ 14 27 _ _ _ _ from
  mm_E.iret (mm_atc mc14 rfl) mr14 rfl
theorem p14_0_1 {w d : Nat} {X : List Value} {A : MF} {z0 : Int} (s0 : mm_E w (d + 7) 78 0 [(0, .ref 25)] [] (mm_w X A) (.inl (some (mI z0)), mm_w X A, 0, 0)) (H : R32 z0 ∧ z0 = 0) : mm_E w (d + 8) 14 0 [(0, .ref 1)] [] (mm_w X A) (.inr 2, mm_w X A, 1, 6) := by
  obtain ⟨h0, h1⟩ := H
  exact mm_E.aload_n (mm_atc mc14 rfl) rfl <|
  mm_E.getR (b := 25) (mm_atc mc14 rfl) (mm_plc mp14 rfl) rfl ly1 rfl <|
  mm_E.callV0 (mm_atc mc14 rfl) (mm_plc mp14 rfl) rfl mk78 ly25 rfl mx78 rfl rfl s0 (by omega) <|
  show mm_E _ _ 14 7 _ _ _ _ from
  mm_E.if1 (mm_atc mc14 rfl) h0 (ic_neF h1) rfl <|
  mm_E.thr (mm_atc mc14 rfl) (mm_plc mp14 rfl) rfl (by omega)
theorem p79_0_0 {w d : Nat} {X : List Value} {A : MF}  (H : (A 25 2 = 0 ∨ A 25 2 = 1)) : mm_E w d 79 0 [(0, .ref 25)] [] (mm_w X A) (.inl (some (mI (A 25 2))), mm_w X A, 0, 0) := by
  have h0 := H
  exact mm_E.aload_n (mm_atc mc79 rfl) rfl <|
  mm_E.getI (z := A 25 2) (mm_atc mc79 rfl) (mm_plc mp79 rfl) rfl ly25 rfl (rfl) <|
  mm_E.iret (mm_atc mc79 rfl) mr79 (mm_nz h0)
theorem p81_0_0 {w d : Nat} {X : List Value} {A : MF} {x1 : Int} (H : 0 ≤ x1 ∧ x1 < 6) : mm_E w d 81 0 [(0, .ref 25), (1, mI x1)] [] (mm_w X A) (.inl (some (.ref (37 + x1.toNat))), mm_w X A, 0, 0) := by
  obtain ⟨h0, h1⟩ := H
  exact mm_E.aload_n (mm_atc mc81 rfl) rfl <|
  mm_E.getR (b := 36) (mm_atc mc81 rfl) (mm_plc mp81 rfl) rfl ly25 rfl <|
  mm_E.iload_n (mm_atc mc81 rfl) rfl <|
  mm_E.aaload (mm_atc mc81 rfl) ly36 rfl h0 h1 (la37 h0 h1) <|
  mm_E.aret (mm_atc mc81 rfl) mr81
theorem p49_0_0 {w d : Nat} {X : List Value} {A : MF} {a : Nat} {x1 : Int} (la : mm_ly a = some (3, [1, 1])) (H : R32 x1 ∧ x1 ≠ 0) : mm_E w d 49 0 [(0, .ref a), (1, mI x1)] [] (mm_w X A) (.inl (some (mJ (A a 1))), mm_w X A, 0, 0) := by
  obtain ⟨h0, h1⟩ := H
  exact mm_E.iload_n (mm_atc mc49 rfl) rfl <|
  mm_E.if1 (mm_atc mc49 rfl) h0 (ic_neT h1) rfl <|
  mm_E.aload_n (mm_atc mc49 rfl) rfl <|
  mm_E.getJ (z := A a 1) (mm_atc mc49 rfl) (mm_plc mp49 rfl) rfl la rfl (rfl) <|
  mm_E.lret (mm_atc mc49 rfl) mr49
theorem p49_0_1 {w d : Nat} {X : List Value} {A : MF} {a : Nat} {x1 : Int} (la : mm_ly a = some (3, [1, 1])) (H : R32 x1 ∧ x1 = 0) : mm_E w d 49 0 [(0, .ref a), (1, mI x1)] [] (mm_w X A) (.inl (some (mJ (A a 0))), mm_w X A, 0, 0) := by
  obtain ⟨h0, h1⟩ := H
  exact mm_E.iload_n (mm_atc mc49 rfl) rfl <|
  mm_E.if1 (mm_atc mc49 rfl) h0 (ic_neF h1) rfl <|
  mm_E.aload_n (mm_atc mc49 rfl) rfl <|
  mm_E.getJ (z := A a 0) (mm_atc mc49 rfl) (mm_plc mp49 rfl) rfl la rfl (rfl) <|
  mm_E.goto (mm_atc mc49 rfl) rfl <|
  mm_E.lret (mm_atc mc49 rfl) mr49
theorem p80_0_0 {w d : Nat} {X : List Value} {A : MF} {x1 : Int} (H : 0 ≤ x1 ∧ x1 < 6) : mm_E w d 80 0 [(0, .ref 25), (1, mI x1)] [] (mm_w X A) (.inl (some (mI (A 34 x1))), mm_w X A, 0, 0) := by
  obtain ⟨h0, h1⟩ := H
  exact mm_E.aload_n (mm_atc mc80 rfl) rfl <|
  mm_E.getR (b := 34) (mm_atc mc80 rfl) (mm_plc mp80 rfl) rfl ly25 rfl <|
  mm_E.iload_n (mm_atc mc80 rfl) rfl <|
  mm_E.iaload (e := x1) (mm_atc mc80 rfl) ly34 rfl h0 h1 rfl (rfl) <|
  mm_E.iret (mm_atc mc80 rfl) mr80 rfl
theorem p15_0_0 {w d : Nat} {X : List Value} {A : MF} {x1 x2 : Int} (H : R32 x1 ∧ x1 < 0) : mm_E w (d + 8) 15 0 [(0, .ref 1), (1, mI x1), (2, mI x2)] [] (mm_w X A) (.inr 1, mm_w X A, 1, 6) := by
  obtain ⟨h0, h1⟩ := H
  exact mm_E.aload_n (mm_atc mc15 rfl) rfl <|
  mm_E.iload_n (mm_atc mc15 rfl) rfl <|
  mm_E.callV0 (mm_atc mc15 rfl) (mm_plc mp15 rfl) rfl mk21 ly1 rfl mx21 rfl rfl (p21_0_0 (d := d) ⟨h0, h1⟩) (by omega) <|
  show mm_E _ _ 15 5 _ _ _ _ from
  mm_E.if1 (mm_atc mc15 rfl) (by decide) (ic_eqT (by decide)) rfl <|
  mm_E.thr (mm_atc mc15 rfl) (mm_plc mp15 rfl) rfl (by omega)
theorem p15_0_1 {w d : Nat} {X : List Value} {A : MF} {x1 x2 : Int} (H : R32 x1 ∧ 0 ≤ x1 ∧ R32 ((A 1 3) - 1) ∧ ((A 1 3) - 1) < x1) : mm_E w (d + 8) 15 0 [(0, .ref 1), (1, mI x1), (2, mI x2)] [] (mm_w X A) (.inr 1, mm_w X A, 1, 6) := by
  obtain ⟨h0, h1, h2, h3⟩ := H
  exact mm_E.aload_n (mm_atc mc15 rfl) rfl <|
  mm_E.iload_n (mm_atc mc15 rfl) rfl <|
  mm_E.callV0 (mm_atc mc15 rfl) (mm_plc mp15 rfl) rfl mk21 ly1 rfl mx21 rfl rfl (p21_0_1 (d := d) ⟨h0, h1, h2, h3⟩) (by omega) <|
  show mm_E _ _ 15 5 _ _ _ _ from
  mm_E.if1 (mm_atc mc15 rfl) (by decide) (ic_eqT (by decide)) rfl <|
  mm_E.thr (mm_atc mc15 rfl) (mm_plc mp15 rfl) rfl (by omega)
theorem p15_0_2 {w d : Nat} {X : List Value} {A : MF} {x1 x2 : Int} (H : R32 x1 ∧ 0 ≤ x1 ∧ R32 ((A 1 3) - 1) ∧ x1 ≤ ((A 1 3) - 1) ∧ R32 x2 ∧ x2 < 0) : mm_E w (d + 8) 15 0 [(0, .ref 1), (1, mI x1), (2, mI x2)] [] (mm_w X A) (.inr 1, mm_w X A, 1, 6) := by
  obtain ⟨h0, h1, h2, h3, h4, h5⟩ := H
  exact mm_E.aload_n (mm_atc mc15 rfl) rfl <|
  mm_E.iload_n (mm_atc mc15 rfl) rfl <|
  mm_E.callV0 (mm_atc mc15 rfl) (mm_plc mp15 rfl) rfl mk21 ly1 rfl mx21 rfl rfl (p21_0_2 (d := d) ⟨h0, h1, h2, h3⟩) (by omega) <|
  show mm_E _ _ 15 5 _ _ _ _ from
  mm_E.if1 (mm_atc mc15 rfl) (by decide) (ic_eqF (by decide)) rfl <|
  mm_E.iload_n (mm_atc mc15 rfl) rfl <|
  mm_E.iconst (mm_atc mc15 rfl) <|
  mm_E.iconst (mm_atc mc15 rfl) <|
  mm_E.callS0 (mm_atc mc15 rfl) (mm_plc mp15 rfl) mx23 rfl rfl (p23_0_0 (d := d) ⟨(by decide), h4, h5⟩) (by omega) <|
  show mm_E _ _ 15 14 _ _ _ _ from
  mm_E.if1 (mm_atc mc15 rfl) (by decide) (ic_neF (by decide)) rfl <|
  mm_E.thr (mm_atc mc15 rfl) (mm_plc mp15 rfl) rfl (by omega)
theorem p15_0_3 {w d : Nat} {X : List Value} {A : MF} {x1 x2 : Int} (H : R32 x1 ∧ 0 ≤ x1 ∧ R32 ((A 1 3) - 1) ∧ x1 ≤ ((A 1 3) - 1) ∧ R32 x2 ∧ 0 ≤ x2 ∧ 2 < x2) : mm_E w (d + 8) 15 0 [(0, .ref 1), (1, mI x1), (2, mI x2)] [] (mm_w X A) (.inr 1, mm_w X A, 1, 6) := by
  obtain ⟨h0, h1, h2, h3, h4, h5, h6⟩ := H
  exact mm_E.aload_n (mm_atc mc15 rfl) rfl <|
  mm_E.iload_n (mm_atc mc15 rfl) rfl <|
  mm_E.callV0 (mm_atc mc15 rfl) (mm_plc mp15 rfl) rfl mk21 ly1 rfl mx21 rfl rfl (p21_0_2 (d := d) ⟨h0, h1, h2, h3⟩) (by omega) <|
  show mm_E _ _ 15 5 _ _ _ _ from
  mm_E.if1 (mm_atc mc15 rfl) (by decide) (ic_eqF (by decide)) rfl <|
  mm_E.iload_n (mm_atc mc15 rfl) rfl <|
  mm_E.iconst (mm_atc mc15 rfl) <|
  mm_E.iconst (mm_atc mc15 rfl) <|
  mm_E.callS0 (mm_atc mc15 rfl) (mm_plc mp15 rfl) mx23 rfl rfl (p23_0_1 (d := d) ⟨(by decide), h4, h5, (by decide), h6⟩) (by omega) <|
  show mm_E _ _ 15 14 _ _ _ _ from
  mm_E.if1 (mm_atc mc15 rfl) (by decide) (ic_neF (by decide)) rfl <|
  mm_E.thr (mm_atc mc15 rfl) (mm_plc mp15 rfl) rfl (by omega)
theorem p15_0_4 {w d : Nat} {X : List Value} {A : MF} {x1 x2 : Int} (H : R32 x1 ∧ 0 ≤ x1 ∧ R32 ((A 1 3) - 1) ∧ x1 ≤ ((A 1 3) - 1) ∧ R32 x2 ∧ 0 ≤ x2 ∧ x2 ≤ 2 ∧ (A 25 2 = 0 ∨ A 25 2 = 1) ∧ R32 (A 25 2) ∧ A 25 2 ≠ 0 ∧ x2 ≠ 0 ∧ x1 < 6 ∧ R32 (x2 - 1) ∧ (x2 - 1) ≠ 0) : mm_E w (d + 2) 15 0 [(0, .ref 1), (1, mI x1), (2, mI x2)] [] (mm_w X A) (.inl (some (mJ (A (37 + x1.toNat) 1))), mm_w X A, 0, 0) := by
  obtain ⟨h0, h1, h2, h3, h4, h5, h6, h7, h8, h9, h10, h11, h12, h13⟩ := H
  exact mm_E.aload_n (mm_atc mc15 rfl) rfl <|
  mm_E.iload_n (mm_atc mc15 rfl) rfl <|
  mm_E.callV0 (mm_atc mc15 rfl) (mm_plc mp15 rfl) rfl mk21 ly1 rfl mx21 rfl rfl (p21_0_2 (d := d) ⟨h0, h1, h2, h3⟩) (by omega) <|
  show mm_E _ _ 15 5 _ _ _ _ from
  mm_E.if1 (mm_atc mc15 rfl) (by decide) (ic_eqF (by decide)) rfl <|
  mm_E.iload_n (mm_atc mc15 rfl) rfl <|
  mm_E.iconst (mm_atc mc15 rfl) <|
  mm_E.iconst (mm_atc mc15 rfl) <|
  mm_E.callS0 (mm_atc mc15 rfl) (mm_plc mp15 rfl) mx23 rfl rfl (p23_0_2 (d := d) ⟨(by decide), h4, h5, (by decide), h6⟩) (by omega) <|
  show mm_E _ _ 15 14 _ _ _ _ from
  mm_E.if1 (mm_atc mc15 rfl) (by decide) (ic_neT (by decide)) rfl <|
  mm_E.aload_n (mm_atc mc15 rfl) rfl <|
  mm_E.getR (b := 25) (mm_atc mc15 rfl) (mm_plc mp15 rfl) rfl ly1 rfl <|
  mm_E.callV0 (mm_atc mc15 rfl) (mm_plc mp15 rfl) rfl mk79 ly25 rfl mx79 rfl rfl (p79_0_0 (d := d) h7) (by omega) <|
  show mm_E _ _ 15 34 _ _ _ _ from
  mm_E.if1 (mm_atc mc15 rfl) h8 (ic_neT h9) rfl <|
  mm_E.iload_n (mm_atc mc15 rfl) rfl <|
  mm_E.if1 (mm_atc mc15 rfl) h4 (ic_neT h10) rfl <|
  mm_E.aload_n (mm_atc mc15 rfl) rfl <|
  mm_E.getR (b := 25) (mm_atc mc15 rfl) (mm_plc mp15 rfl) rfl ly1 rfl <|
  mm_E.iload_n (mm_atc mc15 rfl) rfl <|
  mm_E.callV0 (mm_atc mc15 rfl) (mm_plc mp15 rfl) rfl mk81 ly25 rfl mx81 rfl rfl (p81_0_0 (d := d) ⟨h1, h11⟩) (by omega) <|
  show mm_E _ _ 15 71 _ _ _ _ from
  mm_E.iload_n (mm_atc mc15 rfl) rfl <|
  mm_E.iconst (mm_atc mc15 rfl) <|
  mm_E.isub (mm_atc mc15 rfl) <|
  mm_E.callV0 (mm_atc mc15 rfl) (mm_plc mp15 rfl) rfl mk49 (lr37 (by omega) (by omega)) rfl mx49 rfl rfl (p49_0_0 (d := d) (lr37 (by omega) (by omega)) ⟨h12, h13⟩) (by omega) <|
  show mm_E _ _ 15 77 _ _ _ _ from
  mm_E.lret (mm_atc mc15 rfl) mr15
theorem p15_0_5 {w d : Nat} {X : List Value} {A : MF} {x1 x2 : Int} (H : R32 x1 ∧ 0 ≤ x1 ∧ R32 ((A 1 3) - 1) ∧ x1 ≤ ((A 1 3) - 1) ∧ R32 x2 ∧ 0 ≤ x2 ∧ x2 ≤ 2 ∧ (A 25 2 = 0 ∨ A 25 2 = 1) ∧ R32 (A 25 2) ∧ A 25 2 ≠ 0 ∧ x2 ≠ 0 ∧ x1 < 6 ∧ R32 (x2 - 1) ∧ (x2 - 1) = 0) : mm_E w (d + 2) 15 0 [(0, .ref 1), (1, mI x1), (2, mI x2)] [] (mm_w X A) (.inl (some (mJ (A (37 + x1.toNat) 0))), mm_w X A, 0, 0) := by
  obtain ⟨h0, h1, h2, h3, h4, h5, h6, h7, h8, h9, h10, h11, h12, h13⟩ := H
  exact mm_E.aload_n (mm_atc mc15 rfl) rfl <|
  mm_E.iload_n (mm_atc mc15 rfl) rfl <|
  mm_E.callV0 (mm_atc mc15 rfl) (mm_plc mp15 rfl) rfl mk21 ly1 rfl mx21 rfl rfl (p21_0_2 (d := d) ⟨h0, h1, h2, h3⟩) (by omega) <|
  show mm_E _ _ 15 5 _ _ _ _ from
  mm_E.if1 (mm_atc mc15 rfl) (by decide) (ic_eqF (by decide)) rfl <|
  mm_E.iload_n (mm_atc mc15 rfl) rfl <|
  mm_E.iconst (mm_atc mc15 rfl) <|
  mm_E.iconst (mm_atc mc15 rfl) <|
  mm_E.callS0 (mm_atc mc15 rfl) (mm_plc mp15 rfl) mx23 rfl rfl (p23_0_2 (d := d) ⟨(by decide), h4, h5, (by decide), h6⟩) (by omega) <|
  show mm_E _ _ 15 14 _ _ _ _ from
  mm_E.if1 (mm_atc mc15 rfl) (by decide) (ic_neT (by decide)) rfl <|
  mm_E.aload_n (mm_atc mc15 rfl) rfl <|
  mm_E.getR (b := 25) (mm_atc mc15 rfl) (mm_plc mp15 rfl) rfl ly1 rfl <|
  mm_E.callV0 (mm_atc mc15 rfl) (mm_plc mp15 rfl) rfl mk79 ly25 rfl mx79 rfl rfl (p79_0_0 (d := d) h7) (by omega) <|
  show mm_E _ _ 15 34 _ _ _ _ from
  mm_E.if1 (mm_atc mc15 rfl) h8 (ic_neT h9) rfl <|
  mm_E.iload_n (mm_atc mc15 rfl) rfl <|
  mm_E.if1 (mm_atc mc15 rfl) h4 (ic_neT h10) rfl <|
  mm_E.aload_n (mm_atc mc15 rfl) rfl <|
  mm_E.getR (b := 25) (mm_atc mc15 rfl) (mm_plc mp15 rfl) rfl ly1 rfl <|
  mm_E.iload_n (mm_atc mc15 rfl) rfl <|
  mm_E.callV0 (mm_atc mc15 rfl) (mm_plc mp15 rfl) rfl mk81 ly25 rfl mx81 rfl rfl (p81_0_0 (d := d) ⟨h1, h11⟩) (by omega) <|
  show mm_E _ _ 15 71 _ _ _ _ from
  mm_E.iload_n (mm_atc mc15 rfl) rfl <|
  mm_E.iconst (mm_atc mc15 rfl) <|
  mm_E.isub (mm_atc mc15 rfl) <|
  mm_E.callV0 (mm_atc mc15 rfl) (mm_plc mp15 rfl) rfl mk49 (lr37 (by omega) (by omega)) rfl mx49 rfl rfl (p49_0_1 (d := d) (lr37 (by omega) (by omega)) ⟨h12, h13⟩) (by omega) <|
  show mm_E _ _ 15 77 _ _ _ _ from
  mm_E.lret (mm_atc mc15 rfl) mr15
theorem p15_0_6 {w d : Nat} {X : List Value} {A : MF} {x1 x2 : Int} (H : R32 x1 ∧ 0 ≤ x1 ∧ R32 ((A 1 3) - 1) ∧ x1 ≤ ((A 1 3) - 1) ∧ R32 x2 ∧ 0 ≤ x2 ∧ x2 ≤ 2 ∧ (A 25 2 = 0 ∨ A 25 2 = 1) ∧ R32 (A 25 2) ∧ A 25 2 ≠ 0 ∧ x2 = 0 ∧ x1 < 6 ∧ R32 (A 34 x1)) : mm_E w (d + 2) 15 0 [(0, .ref 1), (1, mI x1), (2, mI x2)] [] (mm_w X A) (.inl (some (mJ (A 34 x1))), mm_w X A, 0, 0) := by
  obtain ⟨h0, h1, h2, h3, h4, h5, h6, h7, h8, h9, h10, h11, h12⟩ := H
  exact mm_E.aload_n (mm_atc mc15 rfl) rfl <|
  mm_E.iload_n (mm_atc mc15 rfl) rfl <|
  mm_E.callV0 (mm_atc mc15 rfl) (mm_plc mp15 rfl) rfl mk21 ly1 rfl mx21 rfl rfl (p21_0_2 (d := d) ⟨h0, h1, h2, h3⟩) (by omega) <|
  show mm_E _ _ 15 5 _ _ _ _ from
  mm_E.if1 (mm_atc mc15 rfl) (by decide) (ic_eqF (by decide)) rfl <|
  mm_E.iload_n (mm_atc mc15 rfl) rfl <|
  mm_E.iconst (mm_atc mc15 rfl) <|
  mm_E.iconst (mm_atc mc15 rfl) <|
  mm_E.callS0 (mm_atc mc15 rfl) (mm_plc mp15 rfl) mx23 rfl rfl (p23_0_2 (d := d) ⟨(by decide), h4, h5, (by decide), h6⟩) (by omega) <|
  show mm_E _ _ 15 14 _ _ _ _ from
  mm_E.if1 (mm_atc mc15 rfl) (by decide) (ic_neT (by decide)) rfl <|
  mm_E.aload_n (mm_atc mc15 rfl) rfl <|
  mm_E.getR (b := 25) (mm_atc mc15 rfl) (mm_plc mp15 rfl) rfl ly1 rfl <|
  mm_E.callV0 (mm_atc mc15 rfl) (mm_plc mp15 rfl) rfl mk79 ly25 rfl mx79 rfl rfl (p79_0_0 (d := d) h7) (by omega) <|
  show mm_E _ _ 15 34 _ _ _ _ from
  mm_E.if1 (mm_atc mc15 rfl) h8 (ic_neT h9) rfl <|
  mm_E.iload_n (mm_atc mc15 rfl) rfl <|
  mm_E.if1 (mm_atc mc15 rfl) h4 (ic_neF h10) rfl <|
  mm_E.aload_n (mm_atc mc15 rfl) rfl <|
  mm_E.getR (b := 25) (mm_atc mc15 rfl) (mm_plc mp15 rfl) rfl ly1 rfl <|
  mm_E.iload_n (mm_atc mc15 rfl) rfl <|
  mm_E.callV0 (mm_atc mc15 rfl) (mm_plc mp15 rfl) rfl mk80 ly25 rfl mx80 rfl rfl (p80_0_0 (d := d) ⟨h1, h11⟩) (by omega) <|
  show mm_E _ _ 15 59 _ _ _ _ from
  mm_E.i2l h12 (mm_atc mc15 rfl) <|
  mm_E.goto (mm_atc mc15 rfl) rfl <|
  mm_E.lret (mm_atc mc15 rfl) mr15
theorem p15_0_7 {w d : Nat} {X : List Value} {A : MF} {x1 x2 : Int} (H : R32 x1 ∧ 0 ≤ x1 ∧ R32 ((A 1 3) - 1) ∧ x1 ≤ ((A 1 3) - 1) ∧ R32 x2 ∧ 0 ≤ x2 ∧ x2 ≤ 2 ∧ (A 25 2 = 0 ∨ A 25 2 = 1) ∧ R32 (A 25 2) ∧ A 25 2 = 0) : mm_E w (d + 8) 15 0 [(0, .ref 1), (1, mI x1), (2, mI x2)] [] (mm_w X A) (.inr 2, mm_w X A, 1, 6) := by
  obtain ⟨h0, h1, h2, h3, h4, h5, h6, h7, h8, h9⟩ := H
  exact mm_E.aload_n (mm_atc mc15 rfl) rfl <|
  mm_E.iload_n (mm_atc mc15 rfl) rfl <|
  mm_E.callV0 (mm_atc mc15 rfl) (mm_plc mp15 rfl) rfl mk21 ly1 rfl mx21 rfl rfl (p21_0_2 (d := d) ⟨h0, h1, h2, h3⟩) (by omega) <|
  show mm_E _ _ 15 5 _ _ _ _ from
  mm_E.if1 (mm_atc mc15 rfl) (by decide) (ic_eqF (by decide)) rfl <|
  mm_E.iload_n (mm_atc mc15 rfl) rfl <|
  mm_E.iconst (mm_atc mc15 rfl) <|
  mm_E.iconst (mm_atc mc15 rfl) <|
  mm_E.callS0 (mm_atc mc15 rfl) (mm_plc mp15 rfl) mx23 rfl rfl (p23_0_2 (d := d) ⟨(by decide), h4, h5, (by decide), h6⟩) (by omega) <|
  show mm_E _ _ 15 14 _ _ _ _ from
  mm_E.if1 (mm_atc mc15 rfl) (by decide) (ic_neT (by decide)) rfl <|
  mm_E.aload_n (mm_atc mc15 rfl) rfl <|
  mm_E.getR (b := 25) (mm_atc mc15 rfl) (mm_plc mp15 rfl) rfl ly1 rfl <|
  mm_E.callV0 (mm_atc mc15 rfl) (mm_plc mp15 rfl) rfl mk79 ly25 rfl mx79 rfl rfl (p79_0_0 (d := d) h7) (by omega) <|
  show mm_E _ _ 15 34 _ _ _ _ from
  mm_E.if1 (mm_atc mc15 rfl) h8 (ic_neF h9) rfl <|
  mm_E.thr (mm_atc mc15 rfl) (mm_plc mp15 rfl) rfl (by omega)
theorem p29_0_0 {d : Nat} {X : List Value} {A : MF} {x1 : Int} : mm_E 1 d 29 0 [(0, .ref 43), (1, mI x1)] [] (mm_w X A) (.inl (none), mm_w X (mm_u (mm_u A 43 1 x1) 43 2 0), 0, 0) := by
  exact mm_E.aload_n (mm_atc mc29 rfl) rfl <|
  mm_E.iload_n (mm_atc mc29 rfl) rfl <|
  mm_E.putI (fi := 1) (z := x1) (mm_atc mc29 rfl) (mm_plc mp29 rfl) ly43 rfl rfl rfl (mm_fit_i rfl) rfl <|
  mm_E.aload_n (mm_atc mc29 rfl) rfl <|
  mm_E.iconst (mm_atc mc29 rfl) <|
  mm_E.putI (fi := 2) (z := 0) (mm_atc mc29 rfl) (mm_plc mp29 rfl) ly43 rfl rfl rfl rfl rfl <|
  mm_E.vret (mm_atc mc29 rfl) mr29
theorem p16_0_0 {w d : Nat} {X : List Value} {A : MF} {x1 : Int} (H : R32 x1 ∧ x1 < 1) : mm_E w (d + 8) 16 0 [(0, .ref 1), (1, mI x1)] [] (mm_w X A) (.inr 0, mm_w X A, 1, 6) := by
  obtain ⟨h0, h1⟩ := H
  exact mm_E.iload_n (mm_atc mc16 rfl) rfl <|
  mm_E.iconst (mm_atc mc16 rfl) <|
  mm_E.bipush (mm_atc mc16 rfl) rfl <|
  mm_E.callS0 (mm_atc mc16 rfl) (mm_plc mp16 rfl) mx23 rfl rfl (p23_0_0 (d := d) ⟨(by decide), h0, h1⟩) (by omega) <|
  show mm_E _ _ 16 7 _ _ _ _ from
  mm_E.if1 (mm_atc mc16 rfl) (by decide) (ic_neF (by decide)) rfl <|
  mm_E.thr (mm_atc mc16 rfl) (mm_plc mp16 rfl) rfl (by omega)
theorem p16_0_1 {w d : Nat} {X : List Value} {A : MF} {x1 : Int} (H : R32 x1 ∧ 1 ≤ x1 ∧ 16 < x1) : mm_E w (d + 8) 16 0 [(0, .ref 1), (1, mI x1)] [] (mm_w X A) (.inr 0, mm_w X A, 1, 6) := by
  obtain ⟨h0, h1, h2⟩ := H
  exact mm_E.iload_n (mm_atc mc16 rfl) rfl <|
  mm_E.iconst (mm_atc mc16 rfl) <|
  mm_E.bipush (mm_atc mc16 rfl) rfl <|
  mm_E.callS0 (mm_atc mc16 rfl) (mm_plc mp16 rfl) mx23 rfl rfl (p23_0_1 (d := d) ⟨(by decide), h0, h1, (by decide), h2⟩) (by omega) <|
  show mm_E _ _ 16 7 _ _ _ _ from
  mm_E.if1 (mm_atc mc16 rfl) (by decide) (ic_neF (by decide)) rfl <|
  mm_E.thr (mm_atc mc16 rfl) (mm_plc mp16 rfl) rfl (by omega)
theorem p16_0_2 {d : Nat} {X : List Value} {A : MF} {x1 : Int} (H : R32 x1 ∧ 1 ≤ x1 ∧ x1 ≤ 16) : mm_E 1 (d + 1) 16 0 [(0, .ref 1), (1, mI x1)] [] (mm_w X A) (.inl (none), mm_w X (mm_u (mm_u A 43 1 x1) 43 2 0), 0, 0) := by
  obtain ⟨h0, h1, h2⟩ := H
  exact mm_E.iload_n (mm_atc mc16 rfl) rfl <|
  mm_E.iconst (mm_atc mc16 rfl) <|
  mm_E.bipush (mm_atc mc16 rfl) rfl <|
  mm_E.callS0 (mm_atc mc16 rfl) (mm_plc mp16 rfl) mx23 rfl rfl (p23_0_2 (d := d) ⟨(by decide), h0, h1, (by decide), h2⟩) (by omega) <|
  show mm_E _ _ 16 7 _ _ _ _ from
  mm_E.if1 (mm_atc mc16 rfl) (by decide) (ic_neT (by decide)) rfl <|
  mm_E.aload_n (mm_atc mc16 rfl) rfl <|
  mm_E.getR (b := 43) (mm_atc mc16 rfl) (mm_plc mp16 rfl) rfl ly1 rfl <|
  mm_E.iload_n (mm_atc mc16 rfl) rfl <|
  mm_E.callV0 (mm_atc mc16 rfl) (mm_plc mp16 rfl) rfl mk29 ly43 rfl mx29 rfl rfl (p29_0_0 (d := d)) (by omega) <|
  show mm_E _ _ 16 28 _ _ _ _ from
  mm_E.vret (mm_atc mc16 rfl) mr16
theorem p30_0_0 {d : Nat} {X : List Value} {A : MF} {x1 x2 x3 : Int} (H : 0 ≤ x1 ∧ x1 < 6 ∧ 0 ≤ x2 ∧ x2 < 16) : mm_E 1 d 30 0 [(0, .ref 43), (1, mI x1), (2, mI x2), (3, mI x3)] [] (mm_w X A) (.inl (some (mI (A (45 + x1.toNat) x2))), mm_w X (mm_u A (45 + x1.toNat) x2 x3), 0, 0) := by
  obtain ⟨h0, h1, h2, h3⟩ := H
  exact mm_E.aload_n (mm_atc mc30 rfl) rfl <|
  mm_E.getR (b := 44) (mm_atc mc30 rfl) (mm_plc mp30 rfl) rfl ly43 rfl <|
  mm_E.iload_n (mm_atc mc30 rfl) rfl <|
  mm_E.aaload (mm_atc mc30 rfl) ly44 rfl h0 h1 (la45 h0 h1) <|
  mm_E.iload_n (mm_atc mc30 rfl) rfl <|
  mm_E.iaload (e := x2) (mm_atc mc30 rfl) (lr45 h0 h1) rfl h2 h3 rfl (rfl) <|
  mm_E.istore mx30 rfl (mm_atc mc30 rfl) <|
  show mm_E _ _ 30 10 [(4, mI (A (45 + x1.toNat) x2)), (0, .ref 43), (1, mI x1), (2, mI x2), (3, mI x3)] _ _ _ from
  mm_E.aload_n (mm_atc mc30 rfl) rfl <|
  mm_E.getR (b := 44) (mm_atc mc30 rfl) (mm_plc mp30 rfl) rfl ly43 rfl <|
  mm_E.iload_n (mm_atc mc30 rfl) rfl <|
  mm_E.aaload (mm_atc mc30 rfl) ly44 rfl h0 h1 (la45 h0 h1) <|
  mm_E.iload_n (mm_atc mc30 rfl) rfl <|
  mm_E.iload_n (mm_atc mc30 rfl) rfl <|
  mm_E.iastore (e := x2) (z := x3) (mm_atc mc30 rfl) (lr45 h0 h1) rfl h2 h3 rfl (mm_ly_pos (lr45 h0 h1)) <|
  mm_E.iload (mm_atc mc30 rfl) rfl <|
  mm_E.iret (mm_atc mc30 rfl) mr30 rfl
theorem p17_0_0 {w d : Nat} {X : List Value} {A : MF} {x1 x2 x3 : Int} (H : R32 x3 ∧ x3 < 0) : mm_E w (d + 8) 17 0 [(0, .ref 1), (1, mI x1), (2, mI x2), (3, mI x3)] [] (mm_w X A) (.inr 0, mm_w X A, 1, 6) := by
  obtain ⟨h0, h1⟩ := H
  exact mm_E.iload_n (mm_atc mc17 rfl) rfl <|
  mm_E.iconst (mm_atc mc17 rfl) <|
  mm_E.bipush (mm_atc mc17 rfl) rfl <|
  mm_E.callS0 (mm_atc mc17 rfl) (mm_plc mp17 rfl) mx23 rfl rfl (p23_0_0 (d := d) ⟨(by decide), h0, h1⟩) (by omega) <|
  show mm_E _ _ 17 7 _ _ _ _ from
  mm_E.if1 (mm_atc mc17 rfl) (by decide) (ic_neF (by decide)) rfl <|
  mm_E.thr (mm_atc mc17 rfl) (mm_plc mp17 rfl) rfl (by omega)
theorem p17_0_1 {w d : Nat} {X : List Value} {A : MF} {x1 x2 x3 : Int} (H : R32 x3 ∧ 0 ≤ x3 ∧ 12 < x3) : mm_E w (d + 8) 17 0 [(0, .ref 1), (1, mI x1), (2, mI x2), (3, mI x3)] [] (mm_w X A) (.inr 0, mm_w X A, 1, 6) := by
  obtain ⟨h0, h1, h2⟩ := H
  exact mm_E.iload_n (mm_atc mc17 rfl) rfl <|
  mm_E.iconst (mm_atc mc17 rfl) <|
  mm_E.bipush (mm_atc mc17 rfl) rfl <|
  mm_E.callS0 (mm_atc mc17 rfl) (mm_plc mp17 rfl) mx23 rfl rfl (p23_0_1 (d := d) ⟨(by decide), h0, h1, (by decide), h2⟩) (by omega) <|
  show mm_E _ _ 17 7 _ _ _ _ from
  mm_E.if1 (mm_atc mc17 rfl) (by decide) (ic_neF (by decide)) rfl <|
  mm_E.thr (mm_atc mc17 rfl) (mm_plc mp17 rfl) rfl (by omega)
theorem p17_0_2 {w d : Nat} {X : List Value} {A : MF} {x1 x2 x3 : Int} (H : R32 x3 ∧ 0 ≤ x3 ∧ x3 ≤ 12 ∧ R32 x1 ∧ x1 < 0) : mm_E w (d + 8) 17 0 [(0, .ref 1), (1, mI x1), (2, mI x2), (3, mI x3)] [] (mm_w X A) (.inr 1, mm_w X A, 1, 6) := by
  obtain ⟨h0, h1, h2, h3, h4⟩ := H
  exact mm_E.iload_n (mm_atc mc17 rfl) rfl <|
  mm_E.iconst (mm_atc mc17 rfl) <|
  mm_E.bipush (mm_atc mc17 rfl) rfl <|
  mm_E.callS0 (mm_atc mc17 rfl) (mm_plc mp17 rfl) mx23 rfl rfl (p23_0_2 (d := d) ⟨(by decide), h0, h1, (by decide), h2⟩) (by omega) <|
  show mm_E _ _ 17 7 _ _ _ _ from
  mm_E.if1 (mm_atc mc17 rfl) (by decide) (ic_neT (by decide)) rfl <|
  mm_E.aload_n (mm_atc mc17 rfl) rfl <|
  mm_E.iload_n (mm_atc mc17 rfl) rfl <|
  mm_E.callV0 (mm_atc mc17 rfl) (mm_plc mp17 rfl) rfl mk21 ly1 rfl mx21 rfl rfl (p21_0_0 (d := d) ⟨h3, h4⟩) (by omega) <|
  show mm_E _ _ 17 25 _ _ _ _ from
  mm_E.if1 (mm_atc mc17 rfl) (by decide) (ic_eqT (by decide)) rfl <|
  mm_E.thr (mm_atc mc17 rfl) (mm_plc mp17 rfl) rfl (by omega)
theorem p17_0_3 {w d : Nat} {X : List Value} {A : MF} {x1 x2 x3 : Int} (H : R32 x3 ∧ 0 ≤ x3 ∧ x3 ≤ 12 ∧ R32 x1 ∧ 0 ≤ x1 ∧ R32 ((A 1 3) - 1) ∧ ((A 1 3) - 1) < x1) : mm_E w (d + 8) 17 0 [(0, .ref 1), (1, mI x1), (2, mI x2), (3, mI x3)] [] (mm_w X A) (.inr 1, mm_w X A, 1, 6) := by
  obtain ⟨h0, h1, h2, h3, h4, h5, h6⟩ := H
  exact mm_E.iload_n (mm_atc mc17 rfl) rfl <|
  mm_E.iconst (mm_atc mc17 rfl) <|
  mm_E.bipush (mm_atc mc17 rfl) rfl <|
  mm_E.callS0 (mm_atc mc17 rfl) (mm_plc mp17 rfl) mx23 rfl rfl (p23_0_2 (d := d) ⟨(by decide), h0, h1, (by decide), h2⟩) (by omega) <|
  show mm_E _ _ 17 7 _ _ _ _ from
  mm_E.if1 (mm_atc mc17 rfl) (by decide) (ic_neT (by decide)) rfl <|
  mm_E.aload_n (mm_atc mc17 rfl) rfl <|
  mm_E.iload_n (mm_atc mc17 rfl) rfl <|
  mm_E.callV0 (mm_atc mc17 rfl) (mm_plc mp17 rfl) rfl mk21 ly1 rfl mx21 rfl rfl (p21_0_1 (d := d) ⟨h3, h4, h5, h6⟩) (by omega) <|
  show mm_E _ _ 17 25 _ _ _ _ from
  mm_E.if1 (mm_atc mc17 rfl) (by decide) (ic_eqT (by decide)) rfl <|
  mm_E.thr (mm_atc mc17 rfl) (mm_plc mp17 rfl) rfl (by omega)
theorem p17_0_4 {w d : Nat} {X : List Value} {A : MF} {x1 x2 x3 : Int} (H : R32 x3 ∧ 0 ≤ x3 ∧ x3 ≤ 12 ∧ R32 x1 ∧ 0 ≤ x1 ∧ R32 ((A 1 3) - 1) ∧ x1 ≤ ((A 1 3) - 1) ∧ R32 x2 ∧ x2 < 0) : mm_E w (d + 8) 17 0 [(0, .ref 1), (1, mI x1), (2, mI x2), (3, mI x3)] [] (mm_w X A) (.inr 1, mm_w X A, 1, 6) := by
  obtain ⟨h0, h1, h2, h3, h4, h5, h6, h7, h8⟩ := H
  exact mm_E.iload_n (mm_atc mc17 rfl) rfl <|
  mm_E.iconst (mm_atc mc17 rfl) <|
  mm_E.bipush (mm_atc mc17 rfl) rfl <|
  mm_E.callS0 (mm_atc mc17 rfl) (mm_plc mp17 rfl) mx23 rfl rfl (p23_0_2 (d := d) ⟨(by decide), h0, h1, (by decide), h2⟩) (by omega) <|
  show mm_E _ _ 17 7 _ _ _ _ from
  mm_E.if1 (mm_atc mc17 rfl) (by decide) (ic_neT (by decide)) rfl <|
  mm_E.aload_n (mm_atc mc17 rfl) rfl <|
  mm_E.iload_n (mm_atc mc17 rfl) rfl <|
  mm_E.callV0 (mm_atc mc17 rfl) (mm_plc mp17 rfl) rfl mk21 ly1 rfl mx21 rfl rfl (p21_0_2 (d := d) ⟨h3, h4, h5, h6⟩) (by omega) <|
  show mm_E _ _ 17 25 _ _ _ _ from
  mm_E.if1 (mm_atc mc17 rfl) (by decide) (ic_eqF (by decide)) rfl <|
  mm_E.iload_n (mm_atc mc17 rfl) rfl <|
  mm_E.iconst (mm_atc mc17 rfl) <|
  mm_E.bipush (mm_atc mc17 rfl) rfl <|
  mm_E.callS0 (mm_atc mc17 rfl) (mm_plc mp17 rfl) mx23 rfl rfl (p23_0_0 (d := d) ⟨(by decide), h7, h8⟩) (by omega) <|
  show mm_E _ _ 17 35 _ _ _ _ from
  mm_E.if1 (mm_atc mc17 rfl) (by decide) (ic_neF (by decide)) rfl <|
  mm_E.thr (mm_atc mc17 rfl) (mm_plc mp17 rfl) rfl (by omega)
theorem p17_0_5 {w d : Nat} {X : List Value} {A : MF} {x1 x2 x3 : Int} (H : R32 x3 ∧ 0 ≤ x3 ∧ x3 ≤ 12 ∧ R32 x1 ∧ 0 ≤ x1 ∧ R32 ((A 1 3) - 1) ∧ x1 ≤ ((A 1 3) - 1) ∧ R32 x2 ∧ 0 ≤ x2 ∧ 15 < x2) : mm_E w (d + 8) 17 0 [(0, .ref 1), (1, mI x1), (2, mI x2), (3, mI x3)] [] (mm_w X A) (.inr 1, mm_w X A, 1, 6) := by
  obtain ⟨h0, h1, h2, h3, h4, h5, h6, h7, h8, h9⟩ := H
  exact mm_E.iload_n (mm_atc mc17 rfl) rfl <|
  mm_E.iconst (mm_atc mc17 rfl) <|
  mm_E.bipush (mm_atc mc17 rfl) rfl <|
  mm_E.callS0 (mm_atc mc17 rfl) (mm_plc mp17 rfl) mx23 rfl rfl (p23_0_2 (d := d) ⟨(by decide), h0, h1, (by decide), h2⟩) (by omega) <|
  show mm_E _ _ 17 7 _ _ _ _ from
  mm_E.if1 (mm_atc mc17 rfl) (by decide) (ic_neT (by decide)) rfl <|
  mm_E.aload_n (mm_atc mc17 rfl) rfl <|
  mm_E.iload_n (mm_atc mc17 rfl) rfl <|
  mm_E.callV0 (mm_atc mc17 rfl) (mm_plc mp17 rfl) rfl mk21 ly1 rfl mx21 rfl rfl (p21_0_2 (d := d) ⟨h3, h4, h5, h6⟩) (by omega) <|
  show mm_E _ _ 17 25 _ _ _ _ from
  mm_E.if1 (mm_atc mc17 rfl) (by decide) (ic_eqF (by decide)) rfl <|
  mm_E.iload_n (mm_atc mc17 rfl) rfl <|
  mm_E.iconst (mm_atc mc17 rfl) <|
  mm_E.bipush (mm_atc mc17 rfl) rfl <|
  mm_E.callS0 (mm_atc mc17 rfl) (mm_plc mp17 rfl) mx23 rfl rfl (p23_0_1 (d := d) ⟨(by decide), h7, h8, (by decide), h9⟩) (by omega) <|
  show mm_E _ _ 17 35 _ _ _ _ from
  mm_E.if1 (mm_atc mc17 rfl) (by decide) (ic_neF (by decide)) rfl <|
  mm_E.thr (mm_atc mc17 rfl) (mm_plc mp17 rfl) rfl (by omega)
theorem p17_0_6 {d : Nat} {X : List Value} {A : MF} {x1 x2 x3 : Int} (H : R32 x3 ∧ 0 ≤ x3 ∧ x3 ≤ 12 ∧ R32 x1 ∧ 0 ≤ x1 ∧ R32 ((A 1 3) - 1) ∧ x1 ≤ ((A 1 3) - 1) ∧ R32 x2 ∧ 0 ≤ x2 ∧ x2 ≤ 15 ∧ x1 < 6 ∧ x2 < 16) : mm_E 1 (d + 2) 17 0 [(0, .ref 1), (1, mI x1), (2, mI x2), (3, mI x3)] [] (mm_w X A) (.inl (some (mI (A (45 + x1.toNat) x2))), mm_w X (mm_u A (45 + x1.toNat) x2 x3), 0, 0) := by
  obtain ⟨h0, h1, h2, h3, h4, h5, h6, h7, h8, h9, h10, h11⟩ := H
  exact mm_E.iload_n (mm_atc mc17 rfl) rfl <|
  mm_E.iconst (mm_atc mc17 rfl) <|
  mm_E.bipush (mm_atc mc17 rfl) rfl <|
  mm_E.callS0 (mm_atc mc17 rfl) (mm_plc mp17 rfl) mx23 rfl rfl (p23_0_2 (d := d) ⟨(by decide), h0, h1, (by decide), h2⟩) (by omega) <|
  show mm_E _ _ 17 7 _ _ _ _ from
  mm_E.if1 (mm_atc mc17 rfl) (by decide) (ic_neT (by decide)) rfl <|
  mm_E.aload_n (mm_atc mc17 rfl) rfl <|
  mm_E.iload_n (mm_atc mc17 rfl) rfl <|
  mm_E.callV0 (mm_atc mc17 rfl) (mm_plc mp17 rfl) rfl mk21 ly1 rfl mx21 rfl rfl (p21_0_2 (d := d) ⟨h3, h4, h5, h6⟩) (by omega) <|
  show mm_E _ _ 17 25 _ _ _ _ from
  mm_E.if1 (mm_atc mc17 rfl) (by decide) (ic_eqF (by decide)) rfl <|
  mm_E.iload_n (mm_atc mc17 rfl) rfl <|
  mm_E.iconst (mm_atc mc17 rfl) <|
  mm_E.bipush (mm_atc mc17 rfl) rfl <|
  mm_E.callS0 (mm_atc mc17 rfl) (mm_plc mp17 rfl) mx23 rfl rfl (p23_0_2 (d := d) ⟨(by decide), h7, h8, (by decide), h9⟩) (by omega) <|
  show mm_E _ _ 17 35 _ _ _ _ from
  mm_E.if1 (mm_atc mc17 rfl) (by decide) (ic_neT (by decide)) rfl <|
  mm_E.aload_n (mm_atc mc17 rfl) rfl <|
  mm_E.getR (b := 43) (mm_atc mc17 rfl) (mm_plc mp17 rfl) rfl ly1 rfl <|
  mm_E.iload_n (mm_atc mc17 rfl) rfl <|
  mm_E.iload_n (mm_atc mc17 rfl) rfl <|
  mm_E.iload_n (mm_atc mc17 rfl) rfl <|
  mm_E.callV0 (mm_atc mc17 rfl) (mm_plc mp17 rfl) rfl mk30 ly43 rfl mx30 rfl rfl (p30_0_0 (d := d) ⟨h4, h10, h8, h11⟩) (by omega) <|
  show mm_E _ _ 17 58 _ _ _ _ from
  mm_E.iret (mm_atc mc17 rfl) mr17 rfl
theorem p18_0_0 {d : Nat} {X : List Value} {A : MF} {x1 : Int} {A0 : MF} (s0 : mm_E 1 d 35 0 [(0, .ref 43)] [] (mm_w X A) (.inl (none), mm_w X A0, 0, 0)) (H : R32 x1 ∧ x1 = 0) : mm_E 1 (d + 1) 18 0 [(0, .ref 1), (1, mI x1)] [] (mm_w X A) (.inl (none), mm_w X A0, 0, 0) := by
  obtain ⟨h0, h1⟩ := H
  exact mm_E.iload_n (mm_atc mc18 rfl) rfl <|
  mm_E.if1 (mm_atc mc18 rfl) h0 (ic_eqT h1) rfl <|
  mm_E.aload_n (mm_atc mc18 rfl) rfl <|
  mm_E.getR (b := 43) (mm_atc mc18 rfl) (mm_plc mp18 rfl) rfl ly1 rfl <|
  mm_E.callV0 (mm_atc mc18 rfl) (mm_plc mp18 rfl) rfl mk35 ly43 rfl mx35 rfl rfl s0 (by omega) <|
  show mm_E _ _ 18 21 _ _ _ _ from
  mm_E.vret (mm_atc mc18 rfl) mr18
theorem p18_0_1 {d : Nat} {X : List Value} {A : MF} {x1 : Int} {A0 : MF} (s0 : mm_E 1 d 39 0 [(0, .ref 43)] [] (mm_w X A) (.inl (none), mm_w X A0, 0, 0)) (H : R32 x1 ∧ x1 ≠ 0) : mm_E 1 (d + 1) 18 0 [(0, .ref 1), (1, mI x1)] [] (mm_w X A) (.inl (none), mm_w X A0, 0, 0) := by
  obtain ⟨h0, h1⟩ := H
  exact mm_E.iload_n (mm_atc mc18 rfl) rfl <|
  mm_E.if1 (mm_atc mc18 rfl) h0 (ic_eqF h1) rfl <|
  mm_E.aload_n (mm_atc mc18 rfl) rfl <|
  mm_E.getR (b := 43) (mm_atc mc18 rfl) (mm_plc mp18 rfl) rfl ly1 rfl <|
  mm_E.callV0 (mm_atc mc18 rfl) (mm_plc mp18 rfl) rfl mk39 ly43 rfl mx39 rfl rfl s0 (by omega) <|
  show mm_E _ _ 18 11 _ _ _ _ from
  mm_E.goto (mm_atc mc18 rfl) rfl <|
  mm_E.vret (mm_atc mc18 rfl) mr18
theorem p31_0_0 {w d : Nat} {X : List Value} {A : MF}  (H : (A 43 2 = 0 ∨ A 43 2 = 1)) : mm_E w d 31 0 [(0, .ref 43)] [] (mm_w X A) (.inl (some (mI (A 43 2))), mm_w X A, 0, 0) := by
  have h0 := H
  exact mm_E.aload_n (mm_atc mc31 rfl) rfl <|
  mm_E.getI (z := A 43 2) (mm_atc mc31 rfl) (mm_plc mp31 rfl) rfl ly43 rfl (rfl) <|
  mm_E.iret (mm_atc mc31 rfl) mr31 (mm_nz h0)
theorem p33_0_0 {w d : Nat} {X : List Value} {A : MF} {x1 : Int} (H : 0 ≤ x1 ∧ x1 < 6) : mm_E w d 33 0 [(0, .ref 43), (1, mI x1)] [] (mm_w X A) (.inl (some (.ref (60 + 3 * x1.toNat))), mm_w X A, 0, 0) := by
  obtain ⟨h0, h1⟩ := H
  exact mm_E.aload_n (mm_atc mc33 rfl) rfl <|
  mm_E.getR (b := 52) (mm_atc mc33 rfl) (mm_plc mp33 rfl) rfl ly43 rfl <|
  mm_E.iload_n (mm_atc mc33 rfl) rfl <|
  mm_E.aaload (mm_atc mc33 rfl) ly52 rfl h0 h1 (la60 h0 h1) <|
  mm_E.aret (mm_atc mc33 rfl) mr33
theorem p32_0_0 {w d : Nat} {X : List Value} {A : MF} {x1 : Int} (H : 0 ≤ x1 ∧ x1 < 6) : mm_E w d 32 0 [(0, .ref 43), (1, mI x1)] [] (mm_w X A) (.inl (some (.ref (59 + 3 * x1.toNat))), mm_w X A, 0, 0) := by
  obtain ⟨h0, h1⟩ := H
  exact mm_E.aload_n (mm_atc mc32 rfl) rfl <|
  mm_E.getR (b := 51) (mm_atc mc32 rfl) (mm_plc mp32 rfl) rfl ly43 rfl <|
  mm_E.iload_n (mm_atc mc32 rfl) rfl <|
  mm_E.aaload (mm_atc mc32 rfl) ly51 rfl h0 h1 (la59 h0 h1) <|
  mm_E.aret (mm_atc mc32 rfl) mr32
theorem p19_0_0 {w d : Nat} {X : List Value} {A : MF} {x1 x2 : Int} (H : R32 x1 ∧ x1 < 0) : mm_E w (d + 8) 19 0 [(0, .ref 1), (1, mI x1), (2, mI x2)] [] (mm_w X A) (.inr 1, mm_w X A, 1, 6) := by
  obtain ⟨h0, h1⟩ := H
  exact mm_E.aload_n (mm_atc mc19 rfl) rfl <|
  mm_E.iload_n (mm_atc mc19 rfl) rfl <|
  mm_E.callV0 (mm_atc mc19 rfl) (mm_plc mp19 rfl) rfl mk21 ly1 rfl mx21 rfl rfl (p21_0_0 (d := d) ⟨h0, h1⟩) (by omega) <|
  show mm_E _ _ 19 5 _ _ _ _ from
  mm_E.if1 (mm_atc mc19 rfl) (by decide) (ic_eqT (by decide)) rfl <|
  mm_E.thr (mm_atc mc19 rfl) (mm_plc mp19 rfl) rfl (by omega)
theorem p19_0_1 {w d : Nat} {X : List Value} {A : MF} {x1 x2 : Int} (H : R32 x1 ∧ 0 ≤ x1 ∧ R32 ((A 1 3) - 1) ∧ ((A 1 3) - 1) < x1) : mm_E w (d + 8) 19 0 [(0, .ref 1), (1, mI x1), (2, mI x2)] [] (mm_w X A) (.inr 1, mm_w X A, 1, 6) := by
  obtain ⟨h0, h1, h2, h3⟩ := H
  exact mm_E.aload_n (mm_atc mc19 rfl) rfl <|
  mm_E.iload_n (mm_atc mc19 rfl) rfl <|
  mm_E.callV0 (mm_atc mc19 rfl) (mm_plc mp19 rfl) rfl mk21 ly1 rfl mx21 rfl rfl (p21_0_1 (d := d) ⟨h0, h1, h2, h3⟩) (by omega) <|
  show mm_E _ _ 19 5 _ _ _ _ from
  mm_E.if1 (mm_atc mc19 rfl) (by decide) (ic_eqT (by decide)) rfl <|
  mm_E.thr (mm_atc mc19 rfl) (mm_plc mp19 rfl) rfl (by omega)
theorem p19_0_2 {w d : Nat} {X : List Value} {A : MF} {x1 x2 : Int} (H : R32 x1 ∧ 0 ≤ x1 ∧ R32 ((A 1 3) - 1) ∧ x1 ≤ ((A 1 3) - 1) ∧ R32 x2 ∧ x2 < 0) : mm_E w (d + 8) 19 0 [(0, .ref 1), (1, mI x1), (2, mI x2)] [] (mm_w X A) (.inr 1, mm_w X A, 1, 6) := by
  obtain ⟨h0, h1, h2, h3, h4, h5⟩ := H
  exact mm_E.aload_n (mm_atc mc19 rfl) rfl <|
  mm_E.iload_n (mm_atc mc19 rfl) rfl <|
  mm_E.callV0 (mm_atc mc19 rfl) (mm_plc mp19 rfl) rfl mk21 ly1 rfl mx21 rfl rfl (p21_0_2 (d := d) ⟨h0, h1, h2, h3⟩) (by omega) <|
  show mm_E _ _ 19 5 _ _ _ _ from
  mm_E.if1 (mm_atc mc19 rfl) (by decide) (ic_eqF (by decide)) rfl <|
  mm_E.iload_n (mm_atc mc19 rfl) rfl <|
  mm_E.iconst (mm_atc mc19 rfl) <|
  mm_E.iconst (mm_atc mc19 rfl) <|
  mm_E.callS0 (mm_atc mc19 rfl) (mm_plc mp19 rfl) mx23 rfl rfl (p23_0_0 (d := d) ⟨(by decide), h4, h5⟩) (by omega) <|
  show mm_E _ _ 19 14 _ _ _ _ from
  mm_E.if1 (mm_atc mc19 rfl) (by decide) (ic_neF (by decide)) rfl <|
  mm_E.thr (mm_atc mc19 rfl) (mm_plc mp19 rfl) rfl (by omega)
theorem p19_0_3 {w d : Nat} {X : List Value} {A : MF} {x1 x2 : Int} (H : R32 x1 ∧ 0 ≤ x1 ∧ R32 ((A 1 3) - 1) ∧ x1 ≤ ((A 1 3) - 1) ∧ R32 x2 ∧ 0 ≤ x2 ∧ 3 < x2) : mm_E w (d + 8) 19 0 [(0, .ref 1), (1, mI x1), (2, mI x2)] [] (mm_w X A) (.inr 1, mm_w X A, 1, 6) := by
  obtain ⟨h0, h1, h2, h3, h4, h5, h6⟩ := H
  exact mm_E.aload_n (mm_atc mc19 rfl) rfl <|
  mm_E.iload_n (mm_atc mc19 rfl) rfl <|
  mm_E.callV0 (mm_atc mc19 rfl) (mm_plc mp19 rfl) rfl mk21 ly1 rfl mx21 rfl rfl (p21_0_2 (d := d) ⟨h0, h1, h2, h3⟩) (by omega) <|
  show mm_E _ _ 19 5 _ _ _ _ from
  mm_E.if1 (mm_atc mc19 rfl) (by decide) (ic_eqF (by decide)) rfl <|
  mm_E.iload_n (mm_atc mc19 rfl) rfl <|
  mm_E.iconst (mm_atc mc19 rfl) <|
  mm_E.iconst (mm_atc mc19 rfl) <|
  mm_E.callS0 (mm_atc mc19 rfl) (mm_plc mp19 rfl) mx23 rfl rfl (p23_0_1 (d := d) ⟨(by decide), h4, h5, (by decide), h6⟩) (by omega) <|
  show mm_E _ _ 19 14 _ _ _ _ from
  mm_E.if1 (mm_atc mc19 rfl) (by decide) (ic_neF (by decide)) rfl <|
  mm_E.thr (mm_atc mc19 rfl) (mm_plc mp19 rfl) rfl (by omega)
theorem p19_0_4 {w d : Nat} {X : List Value} {A : MF} {x1 x2 : Int} (H : R32 x1 ∧ 0 ≤ x1 ∧ R32 ((A 1 3) - 1) ∧ x1 ≤ ((A 1 3) - 1) ∧ R32 x2 ∧ 0 ≤ x2 ∧ x2 ≤ 3 ∧ (A 43 2 = 0 ∨ A 43 2 = 1) ∧ R32 (A 43 2) ∧ A 43 2 ≠ 0 ∧ 2 ≤ x2 ∧ x1 < 6 ∧ R32 (x2 - 2) ∧ (x2 - 2) ≠ 0) : mm_E w (d + 2) 19 0 [(0, .ref 1), (1, mI x1), (2, mI x2)] [] (mm_w X A) (.inl (some (mJ (A (60 + 3 * x1.toNat) 1))), mm_w X A, 0, 0) := by
  obtain ⟨h0, h1, h2, h3, h4, h5, h6, h7, h8, h9, h10, h11, h12, h13⟩ := H
  exact mm_E.aload_n (mm_atc mc19 rfl) rfl <|
  mm_E.iload_n (mm_atc mc19 rfl) rfl <|
  mm_E.callV0 (mm_atc mc19 rfl) (mm_plc mp19 rfl) rfl mk21 ly1 rfl mx21 rfl rfl (p21_0_2 (d := d) ⟨h0, h1, h2, h3⟩) (by omega) <|
  show mm_E _ _ 19 5 _ _ _ _ from
  mm_E.if1 (mm_atc mc19 rfl) (by decide) (ic_eqF (by decide)) rfl <|
  mm_E.iload_n (mm_atc mc19 rfl) rfl <|
  mm_E.iconst (mm_atc mc19 rfl) <|
  mm_E.iconst (mm_atc mc19 rfl) <|
  mm_E.callS0 (mm_atc mc19 rfl) (mm_plc mp19 rfl) mx23 rfl rfl (p23_0_2 (d := d) ⟨(by decide), h4, h5, (by decide), h6⟩) (by omega) <|
  show mm_E _ _ 19 14 _ _ _ _ from
  mm_E.if1 (mm_atc mc19 rfl) (by decide) (ic_neT (by decide)) rfl <|
  mm_E.aload_n (mm_atc mc19 rfl) rfl <|
  mm_E.getR (b := 43) (mm_atc mc19 rfl) (mm_plc mp19 rfl) rfl ly1 rfl <|
  mm_E.callV0 (mm_atc mc19 rfl) (mm_plc mp19 rfl) rfl mk31 ly43 rfl mx31 rfl rfl (p31_0_0 (d := d) h7) (by omega) <|
  show mm_E _ _ 19 34 _ _ _ _ from
  mm_E.if1 (mm_atc mc19 rfl) h8 (ic_neT h9) rfl <|
  mm_E.iload_n (mm_atc mc19 rfl) rfl <|
  mm_E.iconst (mm_atc mc19 rfl) <|
  mm_E.if2 (mm_atc mc19 rfl) h4 (by decide) (ic_geT h10) rfl <|
  mm_E.aload_n (mm_atc mc19 rfl) rfl <|
  mm_E.getR (b := 43) (mm_atc mc19 rfl) (mm_plc mp19 rfl) rfl ly1 rfl <|
  mm_E.iload_n (mm_atc mc19 rfl) rfl <|
  mm_E.callV0 (mm_atc mc19 rfl) (mm_plc mp19 rfl) rfl mk33 ly43 rfl mx33 rfl rfl (p33_0_0 (d := d) ⟨h1, h11⟩) (by omega) <|
  show mm_E _ _ 19 75 _ _ _ _ from
  mm_E.iload_n (mm_atc mc19 rfl) rfl <|
  mm_E.iconst (mm_atc mc19 rfl) <|
  mm_E.isub (mm_atc mc19 rfl) <|
  mm_E.callV0 (mm_atc mc19 rfl) (mm_plc mp19 rfl) rfl mk49 (lr60 (by omega) (by omega)) rfl mx49 rfl rfl (p49_0_0 (d := d) (lr60 (by omega) (by omega)) ⟨h12, h13⟩) (by omega) <|
  show mm_E _ _ 19 81 _ _ _ _ from
  mm_E.lret (mm_atc mc19 rfl) mr19
theorem p19_0_5 {w d : Nat} {X : List Value} {A : MF} {x1 x2 : Int} (H : R32 x1 ∧ 0 ≤ x1 ∧ R32 ((A 1 3) - 1) ∧ x1 ≤ ((A 1 3) - 1) ∧ R32 x2 ∧ 0 ≤ x2 ∧ x2 ≤ 3 ∧ (A 43 2 = 0 ∨ A 43 2 = 1) ∧ R32 (A 43 2) ∧ A 43 2 ≠ 0 ∧ 2 ≤ x2 ∧ x1 < 6 ∧ R32 (x2 - 2) ∧ (x2 - 2) = 0) : mm_E w (d + 2) 19 0 [(0, .ref 1), (1, mI x1), (2, mI x2)] [] (mm_w X A) (.inl (some (mJ (A (60 + 3 * x1.toNat) 0))), mm_w X A, 0, 0) := by
  obtain ⟨h0, h1, h2, h3, h4, h5, h6, h7, h8, h9, h10, h11, h12, h13⟩ := H
  exact mm_E.aload_n (mm_atc mc19 rfl) rfl <|
  mm_E.iload_n (mm_atc mc19 rfl) rfl <|
  mm_E.callV0 (mm_atc mc19 rfl) (mm_plc mp19 rfl) rfl mk21 ly1 rfl mx21 rfl rfl (p21_0_2 (d := d) ⟨h0, h1, h2, h3⟩) (by omega) <|
  show mm_E _ _ 19 5 _ _ _ _ from
  mm_E.if1 (mm_atc mc19 rfl) (by decide) (ic_eqF (by decide)) rfl <|
  mm_E.iload_n (mm_atc mc19 rfl) rfl <|
  mm_E.iconst (mm_atc mc19 rfl) <|
  mm_E.iconst (mm_atc mc19 rfl) <|
  mm_E.callS0 (mm_atc mc19 rfl) (mm_plc mp19 rfl) mx23 rfl rfl (p23_0_2 (d := d) ⟨(by decide), h4, h5, (by decide), h6⟩) (by omega) <|
  show mm_E _ _ 19 14 _ _ _ _ from
  mm_E.if1 (mm_atc mc19 rfl) (by decide) (ic_neT (by decide)) rfl <|
  mm_E.aload_n (mm_atc mc19 rfl) rfl <|
  mm_E.getR (b := 43) (mm_atc mc19 rfl) (mm_plc mp19 rfl) rfl ly1 rfl <|
  mm_E.callV0 (mm_atc mc19 rfl) (mm_plc mp19 rfl) rfl mk31 ly43 rfl mx31 rfl rfl (p31_0_0 (d := d) h7) (by omega) <|
  show mm_E _ _ 19 34 _ _ _ _ from
  mm_E.if1 (mm_atc mc19 rfl) h8 (ic_neT h9) rfl <|
  mm_E.iload_n (mm_atc mc19 rfl) rfl <|
  mm_E.iconst (mm_atc mc19 rfl) <|
  mm_E.if2 (mm_atc mc19 rfl) h4 (by decide) (ic_geT h10) rfl <|
  mm_E.aload_n (mm_atc mc19 rfl) rfl <|
  mm_E.getR (b := 43) (mm_atc mc19 rfl) (mm_plc mp19 rfl) rfl ly1 rfl <|
  mm_E.iload_n (mm_atc mc19 rfl) rfl <|
  mm_E.callV0 (mm_atc mc19 rfl) (mm_plc mp19 rfl) rfl mk33 ly43 rfl mx33 rfl rfl (p33_0_0 (d := d) ⟨h1, h11⟩) (by omega) <|
  show mm_E _ _ 19 75 _ _ _ _ from
  mm_E.iload_n (mm_atc mc19 rfl) rfl <|
  mm_E.iconst (mm_atc mc19 rfl) <|
  mm_E.isub (mm_atc mc19 rfl) <|
  mm_E.callV0 (mm_atc mc19 rfl) (mm_plc mp19 rfl) rfl mk49 (lr60 (by omega) (by omega)) rfl mx49 rfl rfl (p49_0_1 (d := d) (lr60 (by omega) (by omega)) ⟨h12, h13⟩) (by omega) <|
  show mm_E _ _ 19 81 _ _ _ _ from
  mm_E.lret (mm_atc mc19 rfl) mr19
theorem p19_0_6 {w d : Nat} {X : List Value} {A : MF} {x1 x2 : Int} (H : R32 x1 ∧ 0 ≤ x1 ∧ R32 ((A 1 3) - 1) ∧ x1 ≤ ((A 1 3) - 1) ∧ R32 x2 ∧ 0 ≤ x2 ∧ x2 ≤ 3 ∧ (A 43 2 = 0 ∨ A 43 2 = 1) ∧ R32 (A 43 2) ∧ A 43 2 ≠ 0 ∧ x2 < 2 ∧ x1 < 6 ∧ x2 ≠ 0) : mm_E w (d + 2) 19 0 [(0, .ref 1), (1, mI x1), (2, mI x2)] [] (mm_w X A) (.inl (some (mJ (A (59 + 3 * x1.toNat) 1))), mm_w X A, 0, 0) := by
  obtain ⟨h0, h1, h2, h3, h4, h5, h6, h7, h8, h9, h10, h11, h12⟩ := H
  exact mm_E.aload_n (mm_atc mc19 rfl) rfl <|
  mm_E.iload_n (mm_atc mc19 rfl) rfl <|
  mm_E.callV0 (mm_atc mc19 rfl) (mm_plc mp19 rfl) rfl mk21 ly1 rfl mx21 rfl rfl (p21_0_2 (d := d) ⟨h0, h1, h2, h3⟩) (by omega) <|
  show mm_E _ _ 19 5 _ _ _ _ from
  mm_E.if1 (mm_atc mc19 rfl) (by decide) (ic_eqF (by decide)) rfl <|
  mm_E.iload_n (mm_atc mc19 rfl) rfl <|
  mm_E.iconst (mm_atc mc19 rfl) <|
  mm_E.iconst (mm_atc mc19 rfl) <|
  mm_E.callS0 (mm_atc mc19 rfl) (mm_plc mp19 rfl) mx23 rfl rfl (p23_0_2 (d := d) ⟨(by decide), h4, h5, (by decide), h6⟩) (by omega) <|
  show mm_E _ _ 19 14 _ _ _ _ from
  mm_E.if1 (mm_atc mc19 rfl) (by decide) (ic_neT (by decide)) rfl <|
  mm_E.aload_n (mm_atc mc19 rfl) rfl <|
  mm_E.getR (b := 43) (mm_atc mc19 rfl) (mm_plc mp19 rfl) rfl ly1 rfl <|
  mm_E.callV0 (mm_atc mc19 rfl) (mm_plc mp19 rfl) rfl mk31 ly43 rfl mx31 rfl rfl (p31_0_0 (d := d) h7) (by omega) <|
  show mm_E _ _ 19 34 _ _ _ _ from
  mm_E.if1 (mm_atc mc19 rfl) h8 (ic_neT h9) rfl <|
  mm_E.iload_n (mm_atc mc19 rfl) rfl <|
  mm_E.iconst (mm_atc mc19 rfl) <|
  mm_E.if2 (mm_atc mc19 rfl) h4 (by decide) (ic_geF h10) rfl <|
  mm_E.aload_n (mm_atc mc19 rfl) rfl <|
  mm_E.getR (b := 43) (mm_atc mc19 rfl) (mm_plc mp19 rfl) rfl ly1 rfl <|
  mm_E.iload_n (mm_atc mc19 rfl) rfl <|
  mm_E.callV0 (mm_atc mc19 rfl) (mm_plc mp19 rfl) rfl mk32 ly43 rfl mx32 rfl rfl (p32_0_0 (d := d) ⟨h1, h11⟩) (by omega) <|
  show mm_E _ _ 19 60 _ _ _ _ from
  mm_E.iload_n (mm_atc mc19 rfl) rfl <|
  mm_E.callV0 (mm_atc mc19 rfl) (mm_plc mp19 rfl) rfl mk49 (lr59 (by omega) (by omega)) rfl mx49 rfl rfl (p49_0_0 (d := d) (lr59 (by omega) (by omega)) ⟨h4, h12⟩) (by omega) <|
  show mm_E _ _ 19 64 _ _ _ _ from
  mm_E.goto (mm_atc mc19 rfl) rfl <|
  mm_E.lret (mm_atc mc19 rfl) mr19
theorem p19_0_7 {w d : Nat} {X : List Value} {A : MF} {x1 x2 : Int} (H : R32 x1 ∧ 0 ≤ x1 ∧ R32 ((A 1 3) - 1) ∧ x1 ≤ ((A 1 3) - 1) ∧ R32 x2 ∧ 0 ≤ x2 ∧ x2 ≤ 3 ∧ (A 43 2 = 0 ∨ A 43 2 = 1) ∧ R32 (A 43 2) ∧ A 43 2 ≠ 0 ∧ x2 < 2 ∧ x1 < 6 ∧ x2 = 0) : mm_E w (d + 2) 19 0 [(0, .ref 1), (1, mI x1), (2, mI x2)] [] (mm_w X A) (.inl (some (mJ (A (59 + 3 * x1.toNat) 0))), mm_w X A, 0, 0) := by
  obtain ⟨h0, h1, h2, h3, h4, h5, h6, h7, h8, h9, h10, h11, h12⟩ := H
  exact mm_E.aload_n (mm_atc mc19 rfl) rfl <|
  mm_E.iload_n (mm_atc mc19 rfl) rfl <|
  mm_E.callV0 (mm_atc mc19 rfl) (mm_plc mp19 rfl) rfl mk21 ly1 rfl mx21 rfl rfl (p21_0_2 (d := d) ⟨h0, h1, h2, h3⟩) (by omega) <|
  show mm_E _ _ 19 5 _ _ _ _ from
  mm_E.if1 (mm_atc mc19 rfl) (by decide) (ic_eqF (by decide)) rfl <|
  mm_E.iload_n (mm_atc mc19 rfl) rfl <|
  mm_E.iconst (mm_atc mc19 rfl) <|
  mm_E.iconst (mm_atc mc19 rfl) <|
  mm_E.callS0 (mm_atc mc19 rfl) (mm_plc mp19 rfl) mx23 rfl rfl (p23_0_2 (d := d) ⟨(by decide), h4, h5, (by decide), h6⟩) (by omega) <|
  show mm_E _ _ 19 14 _ _ _ _ from
  mm_E.if1 (mm_atc mc19 rfl) (by decide) (ic_neT (by decide)) rfl <|
  mm_E.aload_n (mm_atc mc19 rfl) rfl <|
  mm_E.getR (b := 43) (mm_atc mc19 rfl) (mm_plc mp19 rfl) rfl ly1 rfl <|
  mm_E.callV0 (mm_atc mc19 rfl) (mm_plc mp19 rfl) rfl mk31 ly43 rfl mx31 rfl rfl (p31_0_0 (d := d) h7) (by omega) <|
  show mm_E _ _ 19 34 _ _ _ _ from
  mm_E.if1 (mm_atc mc19 rfl) h8 (ic_neT h9) rfl <|
  mm_E.iload_n (mm_atc mc19 rfl) rfl <|
  mm_E.iconst (mm_atc mc19 rfl) <|
  mm_E.if2 (mm_atc mc19 rfl) h4 (by decide) (ic_geF h10) rfl <|
  mm_E.aload_n (mm_atc mc19 rfl) rfl <|
  mm_E.getR (b := 43) (mm_atc mc19 rfl) (mm_plc mp19 rfl) rfl ly1 rfl <|
  mm_E.iload_n (mm_atc mc19 rfl) rfl <|
  mm_E.callV0 (mm_atc mc19 rfl) (mm_plc mp19 rfl) rfl mk32 ly43 rfl mx32 rfl rfl (p32_0_0 (d := d) ⟨h1, h11⟩) (by omega) <|
  show mm_E _ _ 19 60 _ _ _ _ from
  mm_E.iload_n (mm_atc mc19 rfl) rfl <|
  mm_E.callV0 (mm_atc mc19 rfl) (mm_plc mp19 rfl) rfl mk49 (lr59 (by omega) (by omega)) rfl mx49 rfl rfl (p49_0_1 (d := d) (lr59 (by omega) (by omega)) ⟨h4, h12⟩) (by omega) <|
  show mm_E _ _ 19 64 _ _ _ _ from
  mm_E.goto (mm_atc mc19 rfl) rfl <|
  mm_E.lret (mm_atc mc19 rfl) mr19
theorem p19_0_8 {w d : Nat} {X : List Value} {A : MF} {x1 x2 : Int} (H : R32 x1 ∧ 0 ≤ x1 ∧ R32 ((A 1 3) - 1) ∧ x1 ≤ ((A 1 3) - 1) ∧ R32 x2 ∧ 0 ≤ x2 ∧ x2 ≤ 3 ∧ (A 43 2 = 0 ∨ A 43 2 = 1) ∧ R32 (A 43 2) ∧ A 43 2 = 0) : mm_E w (d + 8) 19 0 [(0, .ref 1), (1, mI x1), (2, mI x2)] [] (mm_w X A) (.inr 2, mm_w X A, 1, 6) := by
  obtain ⟨h0, h1, h2, h3, h4, h5, h6, h7, h8, h9⟩ := H
  exact mm_E.aload_n (mm_atc mc19 rfl) rfl <|
  mm_E.iload_n (mm_atc mc19 rfl) rfl <|
  mm_E.callV0 (mm_atc mc19 rfl) (mm_plc mp19 rfl) rfl mk21 ly1 rfl mx21 rfl rfl (p21_0_2 (d := d) ⟨h0, h1, h2, h3⟩) (by omega) <|
  show mm_E _ _ 19 5 _ _ _ _ from
  mm_E.if1 (mm_atc mc19 rfl) (by decide) (ic_eqF (by decide)) rfl <|
  mm_E.iload_n (mm_atc mc19 rfl) rfl <|
  mm_E.iconst (mm_atc mc19 rfl) <|
  mm_E.iconst (mm_atc mc19 rfl) <|
  mm_E.callS0 (mm_atc mc19 rfl) (mm_plc mp19 rfl) mx23 rfl rfl (p23_0_2 (d := d) ⟨(by decide), h4, h5, (by decide), h6⟩) (by omega) <|
  show mm_E _ _ 19 14 _ _ _ _ from
  mm_E.if1 (mm_atc mc19 rfl) (by decide) (ic_neT (by decide)) rfl <|
  mm_E.aload_n (mm_atc mc19 rfl) rfl <|
  mm_E.getR (b := 43) (mm_atc mc19 rfl) (mm_plc mp19 rfl) rfl ly1 rfl <|
  mm_E.callV0 (mm_atc mc19 rfl) (mm_plc mp19 rfl) rfl mk31 ly43 rfl mx31 rfl rfl (p31_0_0 (d := d) h7) (by omega) <|
  show mm_E _ _ 19 34 _ _ _ _ from
  mm_E.if1 (mm_atc mc19 rfl) h8 (ic_neF h9) rfl <|
  mm_E.thr (mm_atc mc19 rfl) (mm_plc mp19 rfl) rfl (by omega)
theorem p20_0_0 {w d : Nat} {X : List Value} {A : MF} {x1 x2 x3 : Int} (H : R32 x1 ∧ x1 < 0) : mm_E w (d + 8) 20 0 [(0, .ref 1), (1, mI x1), (2, mI x2), (3, mI x3)] [] (mm_w X A) (.inr 1, mm_w X A, 1, 6) := by
  obtain ⟨h0, h1⟩ := H
  exact mm_E.aload_n (mm_atc mc20 rfl) rfl <|
  mm_E.iload_n (mm_atc mc20 rfl) rfl <|
  mm_E.callV0 (mm_atc mc20 rfl) (mm_plc mp20 rfl) rfl mk21 ly1 rfl mx21 rfl rfl (p21_0_0 (d := d) ⟨h0, h1⟩) (by omega) <|
  show mm_E _ _ 20 5 _ _ _ _ from
  mm_E.if1 (mm_atc mc20 rfl) (by decide) (ic_eqT (by decide)) rfl <|
  mm_E.thr (mm_atc mc20 rfl) (mm_plc mp20 rfl) rfl (by omega)
theorem p20_0_1 {w d : Nat} {X : List Value} {A : MF} {x1 x2 x3 : Int} (H : R32 x1 ∧ 0 ≤ x1 ∧ R32 ((A 1 3) - 1) ∧ ((A 1 3) - 1) < x1) : mm_E w (d + 8) 20 0 [(0, .ref 1), (1, mI x1), (2, mI x2), (3, mI x3)] [] (mm_w X A) (.inr 1, mm_w X A, 1, 6) := by
  obtain ⟨h0, h1, h2, h3⟩ := H
  exact mm_E.aload_n (mm_atc mc20 rfl) rfl <|
  mm_E.iload_n (mm_atc mc20 rfl) rfl <|
  mm_E.callV0 (mm_atc mc20 rfl) (mm_plc mp20 rfl) rfl mk21 ly1 rfl mx21 rfl rfl (p21_0_1 (d := d) ⟨h0, h1, h2, h3⟩) (by omega) <|
  show mm_E _ _ 20 5 _ _ _ _ from
  mm_E.if1 (mm_atc mc20 rfl) (by decide) (ic_eqT (by decide)) rfl <|
  mm_E.thr (mm_atc mc20 rfl) (mm_plc mp20 rfl) rfl (by omega)
theorem p20_0_2 {w d : Nat} {X : List Value} {A : MF} {x1 x2 x3 : Int} (H : R32 x1 ∧ 0 ≤ x1 ∧ R32 ((A 1 3) - 1) ∧ x1 ≤ ((A 1 3) - 1) ∧ R32 x2 ∧ x2 < 0) : mm_E w (d + 8) 20 0 [(0, .ref 1), (1, mI x1), (2, mI x2), (3, mI x3)] [] (mm_w X A) (.inr 1, mm_w X A, 1, 6) := by
  obtain ⟨h0, h1, h2, h3, h4, h5⟩ := H
  exact mm_E.aload_n (mm_atc mc20 rfl) rfl <|
  mm_E.iload_n (mm_atc mc20 rfl) rfl <|
  mm_E.callV0 (mm_atc mc20 rfl) (mm_plc mp20 rfl) rfl mk21 ly1 rfl mx21 rfl rfl (p21_0_2 (d := d) ⟨h0, h1, h2, h3⟩) (by omega) <|
  show mm_E _ _ 20 5 _ _ _ _ from
  mm_E.if1 (mm_atc mc20 rfl) (by decide) (ic_eqF (by decide)) rfl <|
  mm_E.aload_n (mm_atc mc20 rfl) rfl <|
  mm_E.iload_n (mm_atc mc20 rfl) rfl <|
  mm_E.callV0 (mm_atc mc20 rfl) (mm_plc mp20 rfl) rfl mk21 ly1 rfl mx21 rfl rfl (p21_0_0 (d := d) ⟨h4, h5⟩) (by omega) <|
  show mm_E _ _ 20 13 _ _ _ _ from
  mm_E.if1 (mm_atc mc20 rfl) (by decide) (ic_eqT (by decide)) rfl <|
  mm_E.thr (mm_atc mc20 rfl) (mm_plc mp20 rfl) rfl (by omega)
theorem p20_0_3 {w d : Nat} {X : List Value} {A : MF} {x1 x2 x3 : Int} (H : R32 x1 ∧ 0 ≤ x1 ∧ R32 ((A 1 3) - 1) ∧ x1 ≤ ((A 1 3) - 1) ∧ R32 x2 ∧ 0 ≤ x2 ∧ ((A 1 3) - 1) < x2) : mm_E w (d + 8) 20 0 [(0, .ref 1), (1, mI x1), (2, mI x2), (3, mI x3)] [] (mm_w X A) (.inr 1, mm_w X A, 1, 6) := by
  obtain ⟨h0, h1, h2, h3, h4, h5, h6⟩ := H
  exact mm_E.aload_n (mm_atc mc20 rfl) rfl <|
  mm_E.iload_n (mm_atc mc20 rfl) rfl <|
  mm_E.callV0 (mm_atc mc20 rfl) (mm_plc mp20 rfl) rfl mk21 ly1 rfl mx21 rfl rfl (p21_0_2 (d := d) ⟨h0, h1, h2, h3⟩) (by omega) <|
  show mm_E _ _ 20 5 _ _ _ _ from
  mm_E.if1 (mm_atc mc20 rfl) (by decide) (ic_eqF (by decide)) rfl <|
  mm_E.aload_n (mm_atc mc20 rfl) rfl <|
  mm_E.iload_n (mm_atc mc20 rfl) rfl <|
  mm_E.callV0 (mm_atc mc20 rfl) (mm_plc mp20 rfl) rfl mk21 ly1 rfl mx21 rfl rfl (p21_0_1 (d := d) ⟨h4, h5, h2, h6⟩) (by omega) <|
  show mm_E _ _ 20 13 _ _ _ _ from
  mm_E.if1 (mm_atc mc20 rfl) (by decide) (ic_eqT (by decide)) rfl <|
  mm_E.thr (mm_atc mc20 rfl) (mm_plc mp20 rfl) rfl (by omega)
theorem p20_0_4 {w d : Nat} {X : List Value} {A : MF} {x1 x2 x3 : Int} (H : R32 x1 ∧ 0 ≤ x1 ∧ R32 ((A 1 3) - 1) ∧ x1 ≤ ((A 1 3) - 1) ∧ R32 x2 ∧ 0 ≤ x2 ∧ x2 ≤ ((A 1 3) - 1) ∧ R32 x3 ∧ x3 < 0) : mm_E w (d + 8) 20 0 [(0, .ref 1), (1, mI x1), (2, mI x2), (3, mI x3)] [] (mm_w X A) (.inr 1, mm_w X A, 1, 6) := by
  obtain ⟨h0, h1, h2, h3, h4, h5, h6, h7, h8⟩ := H
  exact mm_E.aload_n (mm_atc mc20 rfl) rfl <|
  mm_E.iload_n (mm_atc mc20 rfl) rfl <|
  mm_E.callV0 (mm_atc mc20 rfl) (mm_plc mp20 rfl) rfl mk21 ly1 rfl mx21 rfl rfl (p21_0_2 (d := d) ⟨h0, h1, h2, h3⟩) (by omega) <|
  show mm_E _ _ 20 5 _ _ _ _ from
  mm_E.if1 (mm_atc mc20 rfl) (by decide) (ic_eqF (by decide)) rfl <|
  mm_E.aload_n (mm_atc mc20 rfl) rfl <|
  mm_E.iload_n (mm_atc mc20 rfl) rfl <|
  mm_E.callV0 (mm_atc mc20 rfl) (mm_plc mp20 rfl) rfl mk21 ly1 rfl mx21 rfl rfl (p21_0_2 (d := d) ⟨h4, h5, h2, h6⟩) (by omega) <|
  show mm_E _ _ 20 13 _ _ _ _ from
  mm_E.if1 (mm_atc mc20 rfl) (by decide) (ic_eqF (by decide)) rfl <|
  mm_E.iload_n (mm_atc mc20 rfl) rfl <|
  mm_E.iconst (mm_atc mc20 rfl) <|
  mm_E.iconst (mm_atc mc20 rfl) <|
  mm_E.callS0 (mm_atc mc20 rfl) (mm_plc mp20 rfl) mx23 rfl rfl (p23_0_0 (d := d) ⟨(by decide), h7, h8⟩) (by omega) <|
  show mm_E _ _ 20 22 _ _ _ _ from
  mm_E.if1 (mm_atc mc20 rfl) (by decide) (ic_neF (by decide)) rfl <|
  mm_E.thr (mm_atc mc20 rfl) (mm_plc mp20 rfl) rfl (by omega)
theorem p20_0_5 {w d : Nat} {X : List Value} {A : MF} {x1 x2 x3 : Int} (H : R32 x1 ∧ 0 ≤ x1 ∧ R32 ((A 1 3) - 1) ∧ x1 ≤ ((A 1 3) - 1) ∧ R32 x2 ∧ 0 ≤ x2 ∧ x2 ≤ ((A 1 3) - 1) ∧ R32 x3 ∧ 0 ≤ x3 ∧ 1 < x3) : mm_E w (d + 8) 20 0 [(0, .ref 1), (1, mI x1), (2, mI x2), (3, mI x3)] [] (mm_w X A) (.inr 1, mm_w X A, 1, 6) := by
  obtain ⟨h0, h1, h2, h3, h4, h5, h6, h7, h8, h9⟩ := H
  exact mm_E.aload_n (mm_atc mc20 rfl) rfl <|
  mm_E.iload_n (mm_atc mc20 rfl) rfl <|
  mm_E.callV0 (mm_atc mc20 rfl) (mm_plc mp20 rfl) rfl mk21 ly1 rfl mx21 rfl rfl (p21_0_2 (d := d) ⟨h0, h1, h2, h3⟩) (by omega) <|
  show mm_E _ _ 20 5 _ _ _ _ from
  mm_E.if1 (mm_atc mc20 rfl) (by decide) (ic_eqF (by decide)) rfl <|
  mm_E.aload_n (mm_atc mc20 rfl) rfl <|
  mm_E.iload_n (mm_atc mc20 rfl) rfl <|
  mm_E.callV0 (mm_atc mc20 rfl) (mm_plc mp20 rfl) rfl mk21 ly1 rfl mx21 rfl rfl (p21_0_2 (d := d) ⟨h4, h5, h2, h6⟩) (by omega) <|
  show mm_E _ _ 20 13 _ _ _ _ from
  mm_E.if1 (mm_atc mc20 rfl) (by decide) (ic_eqF (by decide)) rfl <|
  mm_E.iload_n (mm_atc mc20 rfl) rfl <|
  mm_E.iconst (mm_atc mc20 rfl) <|
  mm_E.iconst (mm_atc mc20 rfl) <|
  mm_E.callS0 (mm_atc mc20 rfl) (mm_plc mp20 rfl) mx23 rfl rfl (p23_0_1 (d := d) ⟨(by decide), h7, h8, (by decide), h9⟩) (by omega) <|
  show mm_E _ _ 20 22 _ _ _ _ from
  mm_E.if1 (mm_atc mc20 rfl) (by decide) (ic_neF (by decide)) rfl <|
  mm_E.thr (mm_atc mc20 rfl) (mm_plc mp20 rfl) rfl (by omega)
theorem p20_0_6 {d : Nat} {X : List Value} {A : MF} {x1 x2 x3 : Int} {A0 : MF} (s0 : mm_E 1 (d + 1) 34 0 [(0, .ref 43), (1, mI x1), (2, mI x2)] [] (mm_w X A) (.inl (some (.ref 58)), mm_w X A0, 0, 0)) (H : R32 x1 ∧ 0 ≤ x1 ∧ R32 ((A 1 3) - 1) ∧ x1 ≤ ((A 1 3) - 1) ∧ R32 x2 ∧ 0 ≤ x2 ∧ x2 ≤ ((A 1 3) - 1) ∧ R32 x3 ∧ 0 ≤ x3 ∧ x3 ≤ 1 ∧ (A 43 2 = 0 ∨ A 43 2 = 1) ∧ R32 (A 43 2) ∧ A 43 2 ≠ 0 ∧ x3 ≠ 0) : mm_E 1 (d + 2) 20 0 [(0, .ref 1), (1, mI x1), (2, mI x2), (3, mI x3)] [] (mm_w X A) (.inl (some (mJ (A0 58 1))), mm_w X A0, 0, 0) := by
  obtain ⟨h0, h1, h2, h3, h4, h5, h6, h7, h8, h9, h10, h11, h12, h13⟩ := H
  exact mm_E.aload_n (mm_atc mc20 rfl) rfl <|
  mm_E.iload_n (mm_atc mc20 rfl) rfl <|
  mm_E.callV0 (mm_atc mc20 rfl) (mm_plc mp20 rfl) rfl mk21 ly1 rfl mx21 rfl rfl (p21_0_2 (d := d) ⟨h0, h1, h2, h3⟩) (by omega) <|
  show mm_E _ _ 20 5 _ _ _ _ from
  mm_E.if1 (mm_atc mc20 rfl) (by decide) (ic_eqF (by decide)) rfl <|
  mm_E.aload_n (mm_atc mc20 rfl) rfl <|
  mm_E.iload_n (mm_atc mc20 rfl) rfl <|
  mm_E.callV0 (mm_atc mc20 rfl) (mm_plc mp20 rfl) rfl mk21 ly1 rfl mx21 rfl rfl (p21_0_2 (d := d) ⟨h4, h5, h2, h6⟩) (by omega) <|
  show mm_E _ _ 20 13 _ _ _ _ from
  mm_E.if1 (mm_atc mc20 rfl) (by decide) (ic_eqF (by decide)) rfl <|
  mm_E.iload_n (mm_atc mc20 rfl) rfl <|
  mm_E.iconst (mm_atc mc20 rfl) <|
  mm_E.iconst (mm_atc mc20 rfl) <|
  mm_E.callS0 (mm_atc mc20 rfl) (mm_plc mp20 rfl) mx23 rfl rfl (p23_0_2 (d := d) ⟨(by decide), h7, h8, (by decide), h9⟩) (by omega) <|
  show mm_E _ _ 20 22 _ _ _ _ from
  mm_E.if1 (mm_atc mc20 rfl) (by decide) (ic_neT (by decide)) rfl <|
  mm_E.aload_n (mm_atc mc20 rfl) rfl <|
  mm_E.getR (b := 43) (mm_atc mc20 rfl) (mm_plc mp20 rfl) rfl ly1 rfl <|
  mm_E.callV0 (mm_atc mc20 rfl) (mm_plc mp20 rfl) rfl mk31 ly43 rfl mx31 rfl rfl (p31_0_0 (d := d) h10) (by omega) <|
  show mm_E _ _ 20 42 _ _ _ _ from
  mm_E.if1 (mm_atc mc20 rfl) h11 (ic_neT h12) rfl <|
  mm_E.aload_n (mm_atc mc20 rfl) rfl <|
  mm_E.getR (b := 43) (mm_atc mc20 rfl) (mm_plc mp20 rfl) rfl ly1 rfl <|
  mm_E.iload_n (mm_atc mc20 rfl) rfl <|
  mm_E.iload_n (mm_atc mc20 rfl) rfl <|
  mm_E.callV0 (mm_atc mc20 rfl) (mm_plc mp20 rfl) rfl mk34 ly43 rfl mx34 rfl rfl s0 (by omega) <|
  show mm_E _ _ 20 64 _ _ _ _ from
  mm_E.iload_n (mm_atc mc20 rfl) rfl <|
  mm_E.callV0 (mm_atc mc20 rfl) (mm_plc mp20 rfl) rfl mk49 ly58 rfl mx49 rfl rfl (p49_0_0 (d := d) ly58 ⟨h7, h13⟩) (by omega) <|
  show mm_E _ _ 20 68 _ _ _ _ from
  mm_E.lret (mm_atc mc20 rfl) mr20
theorem p20_0_7 {d : Nat} {X : List Value} {A : MF} {x1 x2 x3 : Int} {A0 : MF} (s0 : mm_E 1 (d + 1) 34 0 [(0, .ref 43), (1, mI x1), (2, mI x2)] [] (mm_w X A) (.inl (some (.ref 58)), mm_w X A0, 0, 0)) (H : R32 x1 ∧ 0 ≤ x1 ∧ R32 ((A 1 3) - 1) ∧ x1 ≤ ((A 1 3) - 1) ∧ R32 x2 ∧ 0 ≤ x2 ∧ x2 ≤ ((A 1 3) - 1) ∧ R32 x3 ∧ 0 ≤ x3 ∧ x3 ≤ 1 ∧ (A 43 2 = 0 ∨ A 43 2 = 1) ∧ R32 (A 43 2) ∧ A 43 2 ≠ 0 ∧ x3 = 0) : mm_E 1 (d + 2) 20 0 [(0, .ref 1), (1, mI x1), (2, mI x2), (3, mI x3)] [] (mm_w X A) (.inl (some (mJ (A0 58 0))), mm_w X A0, 0, 0) := by
  obtain ⟨h0, h1, h2, h3, h4, h5, h6, h7, h8, h9, h10, h11, h12, h13⟩ := H
  exact mm_E.aload_n (mm_atc mc20 rfl) rfl <|
  mm_E.iload_n (mm_atc mc20 rfl) rfl <|
  mm_E.callV0 (mm_atc mc20 rfl) (mm_plc mp20 rfl) rfl mk21 ly1 rfl mx21 rfl rfl (p21_0_2 (d := d) ⟨h0, h1, h2, h3⟩) (by omega) <|
  show mm_E _ _ 20 5 _ _ _ _ from
  mm_E.if1 (mm_atc mc20 rfl) (by decide) (ic_eqF (by decide)) rfl <|
  mm_E.aload_n (mm_atc mc20 rfl) rfl <|
  mm_E.iload_n (mm_atc mc20 rfl) rfl <|
  mm_E.callV0 (mm_atc mc20 rfl) (mm_plc mp20 rfl) rfl mk21 ly1 rfl mx21 rfl rfl (p21_0_2 (d := d) ⟨h4, h5, h2, h6⟩) (by omega) <|
  show mm_E _ _ 20 13 _ _ _ _ from
  mm_E.if1 (mm_atc mc20 rfl) (by decide) (ic_eqF (by decide)) rfl <|
  mm_E.iload_n (mm_atc mc20 rfl) rfl <|
  mm_E.iconst (mm_atc mc20 rfl) <|
  mm_E.iconst (mm_atc mc20 rfl) <|
  mm_E.callS0 (mm_atc mc20 rfl) (mm_plc mp20 rfl) mx23 rfl rfl (p23_0_2 (d := d) ⟨(by decide), h7, h8, (by decide), h9⟩) (by omega) <|
  show mm_E _ _ 20 22 _ _ _ _ from
  mm_E.if1 (mm_atc mc20 rfl) (by decide) (ic_neT (by decide)) rfl <|
  mm_E.aload_n (mm_atc mc20 rfl) rfl <|
  mm_E.getR (b := 43) (mm_atc mc20 rfl) (mm_plc mp20 rfl) rfl ly1 rfl <|
  mm_E.callV0 (mm_atc mc20 rfl) (mm_plc mp20 rfl) rfl mk31 ly43 rfl mx31 rfl rfl (p31_0_0 (d := d) h10) (by omega) <|
  show mm_E _ _ 20 42 _ _ _ _ from
  mm_E.if1 (mm_atc mc20 rfl) h11 (ic_neT h12) rfl <|
  mm_E.aload_n (mm_atc mc20 rfl) rfl <|
  mm_E.getR (b := 43) (mm_atc mc20 rfl) (mm_plc mp20 rfl) rfl ly1 rfl <|
  mm_E.iload_n (mm_atc mc20 rfl) rfl <|
  mm_E.iload_n (mm_atc mc20 rfl) rfl <|
  mm_E.callV0 (mm_atc mc20 rfl) (mm_plc mp20 rfl) rfl mk34 ly43 rfl mx34 rfl rfl s0 (by omega) <|
  show mm_E _ _ 20 64 _ _ _ _ from
  mm_E.iload_n (mm_atc mc20 rfl) rfl <|
  mm_E.callV0 (mm_atc mc20 rfl) (mm_plc mp20 rfl) rfl mk49 ly58 rfl mx49 rfl rfl (p49_0_1 (d := d) ly58 ⟨h7, h13⟩) (by omega) <|
  show mm_E _ _ 20 68 _ _ _ _ from
  mm_E.lret (mm_atc mc20 rfl) mr20
theorem p20_0_8 {w d : Nat} {X : List Value} {A : MF} {x1 x2 x3 : Int} (H : R32 x1 ∧ 0 ≤ x1 ∧ R32 ((A 1 3) - 1) ∧ x1 ≤ ((A 1 3) - 1) ∧ R32 x2 ∧ 0 ≤ x2 ∧ x2 ≤ ((A 1 3) - 1) ∧ R32 x3 ∧ 0 ≤ x3 ∧ x3 ≤ 1 ∧ (A 43 2 = 0 ∨ A 43 2 = 1) ∧ R32 (A 43 2) ∧ A 43 2 = 0) : mm_E w (d + 8) 20 0 [(0, .ref 1), (1, mI x1), (2, mI x2), (3, mI x3)] [] (mm_w X A) (.inr 2, mm_w X A, 1, 6) := by
  obtain ⟨h0, h1, h2, h3, h4, h5, h6, h7, h8, h9, h10, h11, h12⟩ := H
  exact mm_E.aload_n (mm_atc mc20 rfl) rfl <|
  mm_E.iload_n (mm_atc mc20 rfl) rfl <|
  mm_E.callV0 (mm_atc mc20 rfl) (mm_plc mp20 rfl) rfl mk21 ly1 rfl mx21 rfl rfl (p21_0_2 (d := d) ⟨h0, h1, h2, h3⟩) (by omega) <|
  show mm_E _ _ 20 5 _ _ _ _ from
  mm_E.if1 (mm_atc mc20 rfl) (by decide) (ic_eqF (by decide)) rfl <|
  mm_E.aload_n (mm_atc mc20 rfl) rfl <|
  mm_E.iload_n (mm_atc mc20 rfl) rfl <|
  mm_E.callV0 (mm_atc mc20 rfl) (mm_plc mp20 rfl) rfl mk21 ly1 rfl mx21 rfl rfl (p21_0_2 (d := d) ⟨h4, h5, h2, h6⟩) (by omega) <|
  show mm_E _ _ 20 13 _ _ _ _ from
  mm_E.if1 (mm_atc mc20 rfl) (by decide) (ic_eqF (by decide)) rfl <|
  mm_E.iload_n (mm_atc mc20 rfl) rfl <|
  mm_E.iconst (mm_atc mc20 rfl) <|
  mm_E.iconst (mm_atc mc20 rfl) <|
  mm_E.callS0 (mm_atc mc20 rfl) (mm_plc mp20 rfl) mx23 rfl rfl (p23_0_2 (d := d) ⟨(by decide), h7, h8, (by decide), h9⟩) (by omega) <|
  show mm_E _ _ 20 22 _ _ _ _ from
  mm_E.if1 (mm_atc mc20 rfl) (by decide) (ic_neT (by decide)) rfl <|
  mm_E.aload_n (mm_atc mc20 rfl) rfl <|
  mm_E.getR (b := 43) (mm_atc mc20 rfl) (mm_plc mp20 rfl) rfl ly1 rfl <|
  mm_E.callV0 (mm_atc mc20 rfl) (mm_plc mp20 rfl) rfl mk31 ly43 rfl mx31 rfl rfl (p31_0_0 (d := d) h10) (by omega) <|
  show mm_E _ _ 20 42 _ _ _ _ from
  mm_E.if1 (mm_atc mc20 rfl) h11 (ic_neF h12) rfl <|
  mm_E.thr (mm_atc mc20 rfl) (mm_plc mp20 rfl) rfl (by omega)
theorem p25_0_0 {d : Nat} {X : List Value} {A : MF} {r : MR} {a1 : Nat} {x2 x3 : Int} (la1 : mm_ly a1 = some (50, List.replicate 12 0)) (h : mm_E 1 d 25 26 [(0, .ref 23), (4, mI 0), (5, mI 0)] [] (mm_w X (mm_u (mm_u (mm_u (mm_u A 23 0 x2) 23 1 x3) 23 2 (a1 : Nat)) 23 3 0)) r) : mm_E 1 d 25 0 [(0, .ref 23), (1, .ref a1), (2, mI x2), (3, mI x3)] [] (mm_w X A) r := by
  exact mm_E.aload_n (mm_atc mc25 rfl) rfl <|
  mm_E.iload_n (mm_atc mc25 rfl) rfl <|
  mm_E.putI (fi := 0) (z := x2) (mm_atc mc25 rfl) (mm_plc mp25 rfl) ly23 rfl rfl rfl (mm_fit_i rfl) rfl <|
  mm_E.aload_n (mm_atc mc25 rfl) rfl <|
  mm_E.iload_n (mm_atc mc25 rfl) rfl <|
  mm_E.putI (fi := 1) (z := x3) (mm_atc mc25 rfl) (mm_plc mp25 rfl) ly23 rfl rfl rfl (mm_fit_i rfl) rfl <|
  mm_E.aload_n (mm_atc mc25 rfl) rfl <|
  mm_E.aload_n (mm_atc mc25 rfl) rfl <|
  mm_E.putM (fi := 2) (mm_atc mc25 rfl) (mm_plc mp25 rfl) ly23 rfl rfl rfl (mm_fit_a rfl) rfl <|
  mm_E.aload_n (mm_atc mc25 rfl) rfl <|
  mm_E.iconst (mm_atc mc25 rfl) <|
  mm_E.putI (fi := 3) (z := 0) (mm_atc mc25 rfl) (mm_plc mp25 rfl) ly23 rfl rfl rfl (mm_fit_i rfl) rfl <|
  mm_E.iconst (mm_atc mc25 rfl) <|
  mm_E.istore mx25 rfl (mm_atc mc25 rfl) <|
  show mm_E _ _ 25 23 [(4, mI 0), (0, .ref 23), (1, .ref a1), (2, mI x2), (3, mI x3)] _ _ _ from
  mm_E.iconst (mm_atc mc25 rfl) <|
  mm_E.istore mx25 rfl (mm_atc mc25 rfl) <|
  show mm_E _ _ 25 26 [(5, mI 0), (4, mI 0), (0, .ref 23), (1, .ref a1), (2, mI x2), (3, mI x3)] _ _ _ from
  mm_E.to h ⟨rfl, rfl, rfl, trivial⟩
theorem p25_26_0 {w d : Nat} {X : List Value} {A : MF} {r : MR} {x4 x5 : Int} (H : R32 x5 ∧ R32 (A 23 0) ∧ A 23 0 ≤ x5) (h : mm_E w d 25 52 [(0, .ref 23), (4, mI x4), (5, mI 0)] [] (mm_w X A) r) : mm_E w d 25 26 [(0, .ref 23), (4, mI x4), (5, mI x5)] [] (mm_w X A) r := by
  obtain ⟨h0, h1, h2⟩ := H
  exact mm_E.iload (mm_atc mc25 rfl) rfl <|
  mm_E.aload_n (mm_atc mc25 rfl) rfl <|
  mm_E.getI (z := A 23 0) (mm_atc mc25 rfl) (mm_plc mp25 rfl) rfl ly23 rfl (rfl) <|
  mm_E.if2 (mm_atc mc25 rfl) h0 h1 (ic_geT h2) rfl <|
  mm_E.iconst (mm_atc mc25 rfl) <|
  mm_E.istore mx25 rfl (mm_atc mc25 rfl) <|
  show mm_E _ _ 25 52 [(5, mI 0), (0, .ref 23), (4, mI x4)] _ _ _ from
  mm_E.to h ⟨rfl, rfl, rfl, trivial⟩
theorem p25_26_1 {d : Nat} {X : List Value} {A : MF} {r : MR} {x4 x5 : Int} (H : R32 x5 ∧ R32 (A 23 0) ∧ x5 < A 23 0 ∧ 0 ≤ x5 ∧ x5 < 6) (h : mm_E 1 d 25 26 [(0, .ref 23), (4, mI x4), (5, mI (x5 + 1))] [] (mm_w X (mm_u A 24 x5 0)) r) : mm_E 1 d 25 26 [(0, .ref 23), (4, mI x4), (5, mI x5)] [] (mm_w X A) r := by
  obtain ⟨h0, h1, h2, h3, h4⟩ := H
  exact mm_E.iload (mm_atc mc25 rfl) rfl <|
  mm_E.aload_n (mm_atc mc25 rfl) rfl <|
  mm_E.getI (z := A 23 0) (mm_atc mc25 rfl) (mm_plc mp25 rfl) rfl ly23 rfl (rfl) <|
  mm_E.if2 (mm_atc mc25 rfl) h0 h1 (ic_geF h2) rfl <|
  mm_E.aload_n (mm_atc mc25 rfl) rfl <|
  mm_E.getR (b := 24) (mm_atc mc25 rfl) (mm_plc mp25 rfl) rfl ly23 rfl <|
  mm_E.iload (mm_atc mc25 rfl) rfl <|
  mm_E.iconst (mm_atc mc25 rfl) <|
  mm_E.iastore (e := x5) (z := 0) (mm_atc mc25 rfl) ly24 rfl h3 h4 rfl rfl <|
  mm_E.inc mx25 rfl (mm_atc mc25 rfl) rfl <|
  show mm_E _ _ 25 46 [(5, mI (x5 + 1)), (0, .ref 23), (4, mI x4)] _ _ _ from
  mm_E.goto (mm_atc mc25 rfl) rfl <|
  mm_E.to h ⟨rfl, rfl, rfl, trivial⟩
theorem p25_52_0 {d : Nat} {X : List Value} {A : MF} {x4 x5 : Int} {A0 : MF} (s0 : mm_E 1 d 26 0 [(0, .ref 23), (1, mI 0), (2, mI 0), (3, mI x4)] [] (mm_w X A) (.inl (none), mm_w X A0, 0, 0)) (H : R32 x5 ∧ R32 (A 23 1) ∧ A 23 1 ≤ x5) : mm_E 1 (d + 1) 25 52 [(0, .ref 23), (4, mI x4), (5, mI x5)] [] (mm_w X A) (.inl (some (mI (A0 23 3))), mm_w X A0, 0, 0) := by
  obtain ⟨h0, h1, h2⟩ := H
  exact mm_E.iload (mm_atc mc25 rfl) rfl <|
  mm_E.aload_n (mm_atc mc25 rfl) rfl <|
  mm_E.getI (z := A 23 1) (mm_atc mc25 rfl) (mm_plc mp25 rfl) rfl ly23 rfl (rfl) <|
  mm_E.if2 (mm_atc mc25 rfl) h0 h1 (ic_geT h2) rfl <|
  mm_E.aload_n (mm_atc mc25 rfl) rfl <|
  mm_E.iconst (mm_atc mc25 rfl) <|
  mm_E.iconst (mm_atc mc25 rfl) <|
  mm_E.iload (mm_atc mc25 rfl) rfl <|
  mm_E.callV0 (mm_atc mc25 rfl) (mm_plc mp25 rfl) rfl mk26 ly23 rfl mx26 rfl rfl s0 (by omega) <|
  show mm_E _ _ 25 87 _ _ _ _ from
  mm_E.aload_n (mm_atc mc25 rfl) rfl <|
  mm_E.getI (z := A0 23 3) (mm_atc mc25 rfl) (mm_plc mp25 rfl) rfl ly23 rfl (rfl) <|
  mm_E.iret (mm_atc mc25 rfl) mr25 rfl
theorem p25_52_1 {w d : Nat} {X : List Value} {A : MF} {r : MR} {x4 x5 : Int} {b : Nat} (lb : mm_ly b = some (50, List.replicate 12 0)) (H : R32 x5 ∧ R32 (A 23 1) ∧ x5 < A 23 1 ∧ A 23 2 = (b : Int) ∧ 0 ≤ x5 ∧ x5 < 12) (h : mm_E w d 25 52 [(0, .ref 23), (4, mI (x4 + (A b x5))), (5, mI (x5 + 1))] [] (mm_w X A) r) : mm_E w d 25 52 [(0, .ref 23), (4, mI x4), (5, mI x5)] [] (mm_w X A) r := by
  obtain ⟨h0, h1, h2, h3, h4, h5⟩ := H
  exact mm_E.iload (mm_atc mc25 rfl) rfl <|
  mm_E.aload_n (mm_atc mc25 rfl) rfl <|
  mm_E.getI (z := A 23 1) (mm_atc mc25 rfl) (mm_plc mp25 rfl) rfl ly23 rfl (rfl) <|
  mm_E.if2 (mm_atc mc25 rfl) h0 h1 (ic_geF h2) rfl <|
  mm_E.iload (mm_atc mc25 rfl) rfl <|
  mm_E.aload_n (mm_atc mc25 rfl) rfl <|
  mm_E.getM (b := b) (mm_atc mc25 rfl) (mm_plc mp25 rfl) rfl ly23 rfl ((show _ = A 23 2 from rfl).trans h3) <|
  mm_E.iload (mm_atc mc25 rfl) rfl <|
  mm_E.iaload (e := x5) (mm_atc mc25 rfl) lb rfl h4 h5 rfl (rfl) <|
  mm_E.iadd (mm_atc mc25 rfl) <|
  mm_E.istore mx25 rfl (mm_atc mc25 rfl) <|
  show mm_E _ _ 25 73 [(4, mI (x4 + (A b x5))), (0, .ref 23), (5, mI x5)] _ _ _ from
  mm_E.inc mx25 rfl (mm_atc mc25 rfl) rfl <|
  show mm_E _ _ 25 76 [(5, mI (x5 + 1)), (4, mI (x4 + (A b x5))), (0, .ref 23)] _ _ _ from
  mm_E.goto (mm_atc mc25 rfl) rfl <|
  mm_E.to h ⟨rfl, rfl, rfl, trivial⟩
theorem p26_0_0 {w d : Nat} {X : List Value} {A : MF} {r : MR} {x1 x2 x3 : Int} (h : mm_E w d 26 11 [(0, .ref 23), (1, mI x1), (2, mI x2), (3, mI x3), (4, mI (A 24 0)), (5, mI 1)] [] (mm_w X A) r) : mm_E w d 26 0 [(0, .ref 23), (1, mI x1), (2, mI x2), (3, mI x3)] [] (mm_w X A) r := by
  exact mm_E.aload_n (mm_atc mc26 rfl) rfl <|
  mm_E.getR (b := 24) (mm_atc mc26 rfl) (mm_plc mp26 rfl) rfl ly23 rfl <|
  mm_E.iconst (mm_atc mc26 rfl) <|
  mm_E.iaload (e := 0) (mm_atc mc26 rfl) ly24 rfl (by decide) (by decide) rfl (rfl) <|
  mm_E.istore mx26 rfl (mm_atc mc26 rfl) <|
  show mm_E _ _ 26 8 [(4, mI (A 24 0)), (0, .ref 23), (1, mI x1), (2, mI x2), (3, mI x3)] _ _ _ from
  mm_E.iconst (mm_atc mc26 rfl) <|
  mm_E.istore mx26 rfl (mm_atc mc26 rfl) <|
  show mm_E _ _ 26 11 [(5, mI 1), (4, mI (A 24 0)), (0, .ref 23), (1, mI x1), (2, mI x2), (3, mI x3)] _ _ _ from
  mm_E.to h ⟨rfl, rfl, rfl, rfl, rfl, rfl, trivial⟩
theorem p26_11_0 {w d : Nat} {X : List Value} {A : MF} {r : MR} {x1 x2 x3 x4 x5 : Int} (H : R32 x5 ∧ R32 (A 23 0) ∧ A 23 0 ≤ x5 ∧ R32 (x4 + x3) ∧ R32 (A 23 3) ∧ A 23 3 < x4 + x3 ∧ R32 x1 ∧ R32 (A 23 1) ∧ x1 < A 23 1 ∧ R32 (x2 + 1)) (h : mm_E w (d + 1) 26 82 [(0, .ref 23), (1, mI x1), (2, mI x2), (3, mI x3), (5, mI (min (x2 + 1) (A 23 0))), (6, mI 0)] [] (mm_w X A) r) : mm_E w (d + 1) 26 11 [(0, .ref 23), (1, mI x1), (2, mI x2), (3, mI x3), (4, mI x4), (5, mI x5)] [] (mm_w X A) r := by
  obtain ⟨h0, h1, h2, h3, h4, h5, h6, h7, h8, h9⟩ := H
  exact mm_E.iload (mm_atc mc26 rfl) rfl <|
  mm_E.aload_n (mm_atc mc26 rfl) rfl <|
  mm_E.getI (z := A 23 0) (mm_atc mc26 rfl) (mm_plc mp26 rfl) rfl ly23 rfl (rfl) <|
  mm_E.if2 (mm_atc mc26 rfl) h0 h1 (ic_geT h2) rfl <|
  mm_E.iload (mm_atc mc26 rfl) rfl <|
  mm_E.iload_n (mm_atc mc26 rfl) rfl <|
  mm_E.iadd (mm_atc mc26 rfl) <|
  mm_E.aload_n (mm_atc mc26 rfl) rfl <|
  mm_E.getI (z := A 23 3) (mm_atc mc26 rfl) (mm_plc mp26 rfl) rfl ly23 rfl (rfl) <|
  mm_E.if2 (mm_atc mc26 rfl) h3 h4 (ic_gtT h5) rfl <|
  mm_E.iload_n (mm_atc mc26 rfl) rfl <|
  mm_E.aload_n (mm_atc mc26 rfl) rfl <|
  mm_E.getI (z := A 23 1) (mm_atc mc26 rfl) (mm_plc mp26 rfl) rfl ly23 rfl (rfl) <|
  mm_E.if2 (mm_atc mc26 rfl) h6 h7 (ic_ltT h8) rfl <|
  mm_E.iload_n (mm_atc mc26 rfl) rfl <|
  mm_E.iconst (mm_atc mc26 rfl) <|
  mm_E.iadd (mm_atc mc26 rfl) <|
  mm_E.aload_n (mm_atc mc26 rfl) rfl <|
  mm_E.getI (z := A 23 0) (mm_atc mc26 rfl) (mm_plc mp26 rfl) rfl ly23 rfl (rfl) <|
  mm_E.minI h9 h1 (mm_atc mc26 rfl) (mm_plc mp26 rfl) rfl <|
  mm_E.istore mx26 rfl (mm_atc mc26 rfl) <|
  show mm_E _ _ 26 79 [(5, mI (min (x2 + 1) (A 23 0))), (0, .ref 23), (1, mI x1), (2, mI x2), (3, mI x3), (4, mI x4)] _ _ _ from
  mm_E.iconst (mm_atc mc26 rfl) <|
  mm_E.istore mx26 rfl (mm_atc mc26 rfl) <|
  show mm_E _ _ 26 82 [(6, mI 0), (5, mI (min (x2 + 1) (A 23 0))), (0, .ref 23), (1, mI x1), (2, mI x2), (3, mI x3), (4, mI x4)] _ _ _ from
  mm_E.to h ⟨rfl, rfl, rfl, rfl, rfl, rfl, trivial⟩
theorem p26_11_1 {d : Nat} {X : List Value} {A : MF} {x1 x2 x3 x4 x5 : Int} (H : R32 x5 ∧ R32 (A 23 0) ∧ A 23 0 ≤ x5 ∧ R32 (x4 + x3) ∧ R32 (A 23 3) ∧ A 23 3 < x4 + x3 ∧ R32 x1 ∧ R32 (A 23 1) ∧ A 23 1 ≤ x1) : mm_E 1 d 26 11 [(0, .ref 23), (1, mI x1), (2, mI x2), (3, mI x3), (4, mI x4), (5, mI x5)] [] (mm_w X A) (.inl (none), mm_w X (mm_u A 23 3 x4), 0, 0) := by
  obtain ⟨h0, h1, h2, h3, h4, h5, h6, h7, h8⟩ := H
  exact mm_E.iload (mm_atc mc26 rfl) rfl <|
  mm_E.aload_n (mm_atc mc26 rfl) rfl <|
  mm_E.getI (z := A 23 0) (mm_atc mc26 rfl) (mm_plc mp26 rfl) rfl ly23 rfl (rfl) <|
  mm_E.if2 (mm_atc mc26 rfl) h0 h1 (ic_geT h2) rfl <|
  mm_E.iload (mm_atc mc26 rfl) rfl <|
  mm_E.iload_n (mm_atc mc26 rfl) rfl <|
  mm_E.iadd (mm_atc mc26 rfl) <|
  mm_E.aload_n (mm_atc mc26 rfl) rfl <|
  mm_E.getI (z := A 23 3) (mm_atc mc26 rfl) (mm_plc mp26 rfl) rfl ly23 rfl (rfl) <|
  mm_E.if2 (mm_atc mc26 rfl) h3 h4 (ic_gtT h5) rfl <|
  mm_E.iload_n (mm_atc mc26 rfl) rfl <|
  mm_E.aload_n (mm_atc mc26 rfl) rfl <|
  mm_E.getI (z := A 23 1) (mm_atc mc26 rfl) (mm_plc mp26 rfl) rfl ly23 rfl (rfl) <|
  mm_E.if2 (mm_atc mc26 rfl) h6 h7 (ic_ltF h8) rfl <|
  mm_E.aload_n (mm_atc mc26 rfl) rfl <|
  mm_E.iload (mm_atc mc26 rfl) rfl <|
  mm_E.putI (fi := 3) (z := x4) (mm_atc mc26 rfl) (mm_plc mp26 rfl) ly23 rfl rfl rfl (mm_fit_i rfl) rfl <|
  mm_E.vret (mm_atc mc26 rfl) mr26
theorem p26_11_2 {w d : Nat} {X : List Value} {A : MF} {x1 x2 x3 x4 x5 : Int} (H : R32 x5 ∧ R32 (A 23 0) ∧ A 23 0 ≤ x5 ∧ R32 (x4 + x3) ∧ R32 (A 23 3) ∧ x4 + x3 ≤ A 23 3) : mm_E w d 26 11 [(0, .ref 23), (1, mI x1), (2, mI x2), (3, mI x3), (4, mI x4), (5, mI x5)] [] (mm_w X A) (.inl (none), mm_w X A, 0, 0) := by
  obtain ⟨h0, h1, h2, h3, h4, h5⟩ := H
  exact mm_E.iload (mm_atc mc26 rfl) rfl <|
  mm_E.aload_n (mm_atc mc26 rfl) rfl <|
  mm_E.getI (z := A 23 0) (mm_atc mc26 rfl) (mm_plc mp26 rfl) rfl ly23 rfl (rfl) <|
  mm_E.if2 (mm_atc mc26 rfl) h0 h1 (ic_geT h2) rfl <|
  mm_E.iload (mm_atc mc26 rfl) rfl <|
  mm_E.iload_n (mm_atc mc26 rfl) rfl <|
  mm_E.iadd (mm_atc mc26 rfl) <|
  mm_E.aload_n (mm_atc mc26 rfl) rfl <|
  mm_E.getI (z := A 23 3) (mm_atc mc26 rfl) (mm_plc mp26 rfl) rfl ly23 rfl (rfl) <|
  mm_E.if2 (mm_atc mc26 rfl) h3 h4 (ic_gtF h5) rfl <|
  mm_E.vret (mm_atc mc26 rfl) mr26
theorem p26_11_3 {w d : Nat} {X : List Value} {A : MF} {r : MR} {x1 x2 x3 x4 x5 : Int} (H : R32 x5 ∧ R32 (A 23 0) ∧ x5 < A 23 0 ∧ 0 ≤ x5 ∧ x5 < 6 ∧ R32 x4 ∧ R32 (A 24 x5)) (h : mm_E w (d + 1) 26 11 [(0, .ref 23), (1, mI x1), (2, mI x2), (3, mI x3), (4, mI (min x4 (A 24 x5))), (5, mI (x5 + 1))] [] (mm_w X A) r) : mm_E w (d + 1) 26 11 [(0, .ref 23), (1, mI x1), (2, mI x2), (3, mI x3), (4, mI x4), (5, mI x5)] [] (mm_w X A) r := by
  obtain ⟨h0, h1, h2, h3, h4, h5, h6⟩ := H
  exact mm_E.iload (mm_atc mc26 rfl) rfl <|
  mm_E.aload_n (mm_atc mc26 rfl) rfl <|
  mm_E.getI (z := A 23 0) (mm_atc mc26 rfl) (mm_plc mp26 rfl) rfl ly23 rfl (rfl) <|
  mm_E.if2 (mm_atc mc26 rfl) h0 h1 (ic_geF h2) rfl <|
  mm_E.iload (mm_atc mc26 rfl) rfl <|
  mm_E.aload_n (mm_atc mc26 rfl) rfl <|
  mm_E.getR (b := 24) (mm_atc mc26 rfl) (mm_plc mp26 rfl) rfl ly23 rfl <|
  mm_E.iload (mm_atc mc26 rfl) rfl <|
  mm_E.iaload (e := x5) (mm_atc mc26 rfl) ly24 rfl h3 h4 rfl (rfl) <|
  mm_E.minI h5 h6 (mm_atc mc26 rfl) (mm_plc mp26 rfl) rfl <|
  mm_E.istore mx26 rfl (mm_atc mc26 rfl) <|
  show mm_E _ _ 26 34 [(4, mI (min x4 (A 24 x5))), (0, .ref 23), (1, mI x1), (2, mI x2), (3, mI x3), (5, mI x5)] _ _ _ from
  mm_E.inc mx26 rfl (mm_atc mc26 rfl) rfl <|
  show mm_E _ _ 26 37 [(5, mI (x5 + 1)), (4, mI (min x4 (A 24 x5))), (0, .ref 23), (1, mI x1), (2, mI x2), (3, mI x3)] _ _ _ from
  mm_E.goto (mm_atc mc26 rfl) rfl <|
  mm_E.to h ⟨rfl, rfl, rfl, rfl, rfl, rfl, trivial⟩
theorem p26_82_0 {w d : Nat} {X : List Value} {A : MF} {x1 x2 x3 x5 x6 : Int} (H : R32 x6 ∧ R32 x5 ∧ x5 ≤ x6) : mm_E w d 26 82 [(0, .ref 23), (1, mI x1), (2, mI x2), (3, mI x3), (5, mI x5), (6, mI x6)] [] (mm_w X A) (.inl (none), mm_w X A, 0, 0) := by
  obtain ⟨h0, h1, h2⟩ := H
  exact mm_E.iload (mm_atc mc26 rfl) rfl <|
  mm_E.iload (mm_atc mc26 rfl) rfl <|
  mm_E.if2 (mm_atc mc26 rfl) h0 h1 (ic_geT h2) rfl <|
  mm_E.vret (mm_atc mc26 rfl) mr26
theorem p26_82_1 {d : Nat} {X : List Value} {A : MF} {r : MR} {x1 x2 x3 x5 x6 : Int} {b : Nat} {A0 : MF} (lb : mm_ly b = some (50, List.replicate 12 0)) (s0 : mm_E 1 d 26 0 [(0, .ref 23), (1, mI (x1 + 1)), (2, mI x2), (3, mI (x3 - ((mm_u A 24 x6 ((A 24 x6) + (A b x1))) b x1)))] [] (mm_w X (mm_u A 24 x6 ((A 24 x6) + (A b x1)))) (.inl (none), mm_w X A0, 0, 0)) (H : R32 x6 ∧ R32 x5 ∧ x6 < x5 ∧ 0 ≤ x6 ∧ x6 < 6 ∧ A 23 2 = (b : Int) ∧ 0 ≤ x1 ∧ x1 < 12 ∧ R32 x2 ∧ x6 ≠ x2 ∧ A0 23 2 = (b : Int)) (h : mm_E 1 (d + 1) 26 82 [(0, .ref 23), (1, mI x1), (2, mI x2), (3, mI x3), (5, mI x5), (6, mI (x6 + 1))] [] (mm_w X (mm_u A0 24 x6 ((A0 24 x6) - (A0 b x1)))) r) : mm_E 1 (d + 1) 26 82 [(0, .ref 23), (1, mI x1), (2, mI x2), (3, mI x3), (5, mI x5), (6, mI x6)] [] (mm_w X A) r := by
  obtain ⟨h0, h1, h2, h3, h4, h5, h6, h7, h8, h9, h10⟩ := H
  exact mm_E.iload (mm_atc mc26 rfl) rfl <|
  mm_E.iload (mm_atc mc26 rfl) rfl <|
  mm_E.if2 (mm_atc mc26 rfl) h0 h1 (ic_geF h2) rfl <|
  mm_E.aload_n (mm_atc mc26 rfl) rfl <|
  mm_E.getR (b := 24) (mm_atc mc26 rfl) (mm_plc mp26 rfl) rfl ly23 rfl <|
  mm_E.iload (mm_atc mc26 rfl) rfl <|
  mm_E.dup2 (mm_atc mc26 rfl) <|
  mm_E.iaload (e := x6) (mm_atc mc26 rfl) ly24 rfl h3 h4 rfl (rfl) <|
  mm_E.aload_n (mm_atc mc26 rfl) rfl <|
  mm_E.getM (b := b) (mm_atc mc26 rfl) (mm_plc mp26 rfl) rfl ly23 rfl ((show _ = A 23 2 from rfl).trans h5) <|
  mm_E.iload_n (mm_atc mc26 rfl) rfl <|
  mm_E.iaload (e := x1) (mm_atc mc26 rfl) lb rfl h6 h7 rfl (rfl) <|
  mm_E.iadd (mm_atc mc26 rfl) <|
  mm_E.iastore (e := x6) (z := (A 24 x6) + (A b x1)) (mm_atc mc26 rfl) ly24 rfl h3 h4 rfl rfl <|
  mm_E.aload_n (mm_atc mc26 rfl) rfl <|
  mm_E.iload_n (mm_atc mc26 rfl) rfl <|
  mm_E.iconst (mm_atc mc26 rfl) <|
  mm_E.iadd (mm_atc mc26 rfl) <|
  mm_E.iload (mm_atc mc26 rfl) rfl <|
  mm_E.iload_n (mm_atc mc26 rfl) rfl <|
  mm_E.if2 (mm_atc mc26 rfl) h0 h8 (ic_neT h9) rfl <|
  mm_E.iload_n (mm_atc mc26 rfl) rfl <|
  mm_E.iload_n (mm_atc mc26 rfl) rfl <|
  mm_E.aload_n (mm_atc mc26 rfl) rfl <|
  mm_E.getM (b := b) (mm_atc mc26 rfl) (mm_plc mp26 rfl) rfl ly23 rfl ((show _ = A 23 2 from (mm_u_ne (.inl (by decide))).trans (rfl)).trans h5) <|
  mm_E.iload_n (mm_atc mc26 rfl) rfl <|
  mm_E.iaload (e := x1) (mm_atc mc26 rfl) lb rfl h6 h7 rfl (rfl) <|
  mm_E.isub (mm_atc mc26 rfl) <|
  mm_E.callV0 (mm_atc mc26 rfl) (mm_plc mp26 rfl) rfl mk26 ly23 rfl mx26 rfl rfl s0 (by omega) <|
  show mm_E _ _ 26 133 _ _ _ _ from
  mm_E.aload_n (mm_atc mc26 rfl) rfl <|
  mm_E.getR (b := 24) (mm_atc mc26 rfl) (mm_plc mp26 rfl) rfl ly23 rfl <|
  mm_E.iload (mm_atc mc26 rfl) rfl <|
  mm_E.dup2 (mm_atc mc26 rfl) <|
  mm_E.iaload (e := x6) (mm_atc mc26 rfl) ly24 rfl h3 h4 rfl (rfl) <|
  mm_E.aload_n (mm_atc mc26 rfl) rfl <|
  mm_E.getM (b := b) (mm_atc mc26 rfl) (mm_plc mp26 rfl) rfl ly23 rfl ((show _ = A0 23 2 from rfl).trans h10) <|
  mm_E.iload_n (mm_atc mc26 rfl) rfl <|
  mm_E.iaload (e := x1) (mm_atc mc26 rfl) lb rfl h6 h7 rfl (rfl) <|
  mm_E.isub (mm_atc mc26 rfl) <|
  mm_E.iastore (e := x6) (z := (A0 24 x6) - (A0 b x1)) (mm_atc mc26 rfl) ly24 rfl h3 h4 rfl rfl <|
  mm_E.inc mx26 rfl (mm_atc mc26 rfl) rfl <|
  show mm_E _ _ 26 152 [(6, mI (x6 + 1)), (0, .ref 23), (1, mI x1), (2, mI x2), (3, mI x3), (5, mI x5)] _ _ _ from
  mm_E.goto (mm_atc mc26 rfl) rfl <|
  mm_E.to h ⟨rfl, rfl, rfl, rfl, rfl, rfl, trivial⟩
theorem p26_82_2 {d : Nat} {X : List Value} {A : MF} {r : MR} {x1 x2 x3 x5 x6 : Int} {b : Nat} {A0 : MF} (lb : mm_ly b = some (50, List.replicate 12 0)) (s0 : mm_E 1 d 26 0 [(0, .ref 23), (1, mI (x1 + 1)), (2, mI (x2 + 1)), (3, mI (x3 - ((mm_u A 24 x6 ((A 24 x6) + (A b x1))) b x1)))] [] (mm_w X (mm_u A 24 x6 ((A 24 x6) + (A b x1)))) (.inl (none), mm_w X A0, 0, 0)) (H : R32 x6 ∧ R32 x5 ∧ x6 < x5 ∧ 0 ≤ x6 ∧ x6 < 6 ∧ A 23 2 = (b : Int) ∧ 0 ≤ x1 ∧ x1 < 12 ∧ R32 x2 ∧ x6 = x2 ∧ A0 23 2 = (b : Int)) (h : mm_E 1 (d + 1) 26 82 [(0, .ref 23), (1, mI x1), (2, mI x2), (3, mI x3), (5, mI x5), (6, mI (x6 + 1))] [] (mm_w X (mm_u A0 24 x6 ((A0 24 x6) - (A0 b x1)))) r) : mm_E 1 (d + 1) 26 82 [(0, .ref 23), (1, mI x1), (2, mI x2), (3, mI x3), (5, mI x5), (6, mI x6)] [] (mm_w X A) r := by
  obtain ⟨h0, h1, h2, h3, h4, h5, h6, h7, h8, h9, h10⟩ := H
  exact mm_E.iload (mm_atc mc26 rfl) rfl <|
  mm_E.iload (mm_atc mc26 rfl) rfl <|
  mm_E.if2 (mm_atc mc26 rfl) h0 h1 (ic_geF h2) rfl <|
  mm_E.aload_n (mm_atc mc26 rfl) rfl <|
  mm_E.getR (b := 24) (mm_atc mc26 rfl) (mm_plc mp26 rfl) rfl ly23 rfl <|
  mm_E.iload (mm_atc mc26 rfl) rfl <|
  mm_E.dup2 (mm_atc mc26 rfl) <|
  mm_E.iaload (e := x6) (mm_atc mc26 rfl) ly24 rfl h3 h4 rfl (rfl) <|
  mm_E.aload_n (mm_atc mc26 rfl) rfl <|
  mm_E.getM (b := b) (mm_atc mc26 rfl) (mm_plc mp26 rfl) rfl ly23 rfl ((show _ = A 23 2 from rfl).trans h5) <|
  mm_E.iload_n (mm_atc mc26 rfl) rfl <|
  mm_E.iaload (e := x1) (mm_atc mc26 rfl) lb rfl h6 h7 rfl (rfl) <|
  mm_E.iadd (mm_atc mc26 rfl) <|
  mm_E.iastore (e := x6) (z := (A 24 x6) + (A b x1)) (mm_atc mc26 rfl) ly24 rfl h3 h4 rfl rfl <|
  mm_E.aload_n (mm_atc mc26 rfl) rfl <|
  mm_E.iload_n (mm_atc mc26 rfl) rfl <|
  mm_E.iconst (mm_atc mc26 rfl) <|
  mm_E.iadd (mm_atc mc26 rfl) <|
  mm_E.iload (mm_atc mc26 rfl) rfl <|
  mm_E.iload_n (mm_atc mc26 rfl) rfl <|
  mm_E.if2 (mm_atc mc26 rfl) h0 h8 (ic_neF h9) rfl <|
  mm_E.iload_n (mm_atc mc26 rfl) rfl <|
  mm_E.iconst (mm_atc mc26 rfl) <|
  mm_E.iadd (mm_atc mc26 rfl) <|
  mm_E.goto (mm_atc mc26 rfl) rfl <|
  mm_E.iload_n (mm_atc mc26 rfl) rfl <|
  mm_E.aload_n (mm_atc mc26 rfl) rfl <|
  mm_E.getM (b := b) (mm_atc mc26 rfl) (mm_plc mp26 rfl) rfl ly23 rfl ((show _ = A 23 2 from (mm_u_ne (.inl (by decide))).trans (rfl)).trans h5) <|
  mm_E.iload_n (mm_atc mc26 rfl) rfl <|
  mm_E.iaload (e := x1) (mm_atc mc26 rfl) lb rfl h6 h7 rfl (rfl) <|
  mm_E.isub (mm_atc mc26 rfl) <|
  mm_E.callV0 (mm_atc mc26 rfl) (mm_plc mp26 rfl) rfl mk26 ly23 rfl mx26 rfl rfl s0 (by omega) <|
  show mm_E _ _ 26 133 _ _ _ _ from
  mm_E.aload_n (mm_atc mc26 rfl) rfl <|
  mm_E.getR (b := 24) (mm_atc mc26 rfl) (mm_plc mp26 rfl) rfl ly23 rfl <|
  mm_E.iload (mm_atc mc26 rfl) rfl <|
  mm_E.dup2 (mm_atc mc26 rfl) <|
  mm_E.iaload (e := x6) (mm_atc mc26 rfl) ly24 rfl h3 h4 rfl (rfl) <|
  mm_E.aload_n (mm_atc mc26 rfl) rfl <|
  mm_E.getM (b := b) (mm_atc mc26 rfl) (mm_plc mp26 rfl) rfl ly23 rfl ((show _ = A0 23 2 from rfl).trans h10) <|
  mm_E.iload_n (mm_atc mc26 rfl) rfl <|
  mm_E.iaload (e := x1) (mm_atc mc26 rfl) lb rfl h6 h7 rfl (rfl) <|
  mm_E.isub (mm_atc mc26 rfl) <|
  mm_E.iastore (e := x6) (z := (A0 24 x6) - (A0 b x1)) (mm_atc mc26 rfl) ly24 rfl h3 h4 rfl rfl <|
  mm_E.inc mx26 rfl (mm_atc mc26 rfl) rfl <|
  show mm_E _ _ 26 152 [(6, mI (x6 + 1)), (0, .ref 23), (1, mI x1), (2, mI x2), (3, mI x3), (5, mI x5)] _ _ _ from
  mm_E.goto (mm_atc mc26 rfl) rfl <|
  mm_E.to h ⟨rfl, rfl, rfl, rfl, rfl, rfl, trivial⟩
theorem p28_0_0 {d : Nat} {X : List Value} {A : MF} {r : MR} {x1 : Int} (h : mm_E 1 (d + 1) 28 12 [(0, .ref 43), (2, mI 0)] [] (mm_w X (mm_u (mm_u (mm_u A 43 0 x1) 43 1 1) 43 2 0)) r) : mm_E 1 (d + 1) 28 0 [(0, .ref 43), (1, mI x1)] [] (mm_w X A) r := by
  exact mm_E.aload_n (mm_atc mc28 rfl) rfl <|
  mm_E.iload_n (mm_atc mc28 rfl) rfl <|
  mm_E.putI (fi := 0) (z := x1) (mm_atc mc28 rfl) (mm_plc mp28 rfl) ly43 rfl rfl rfl (mm_fit_i rfl) rfl <|
  mm_E.aload_n (mm_atc mc28 rfl) rfl <|
  mm_E.iconst (mm_atc mc28 rfl) <|
  mm_E.callV0 (mm_atc mc28 rfl) (mm_plc mp28 rfl) rfl mk29 ly43 rfl mx29 rfl rfl (p29_0_0 (d := d)) (by omega) <|
  show mm_E _ _ 28 10 _ _ _ _ from
  mm_E.iconst (mm_atc mc28 rfl) <|
  mm_E.istore_n mx28 rfl (mm_atc mc28 rfl) <|
  show mm_E _ _ 28 12 [(2, mI 0), (0, .ref 43), (1, mI x1)] _ _ _ from
  mm_E.to h ⟨rfl, rfl, trivial⟩
theorem p28_12_0 {w d : Nat} {X : List Value} {A : MF} {x2 : Int} (H : R32 x2 ∧ 6 ≤ x2) : mm_E w d 28 12 [(0, .ref 43), (2, mI x2)] [] (mm_w X A) (.inl (none), mm_w X A, 0, 0) := by
  obtain ⟨h0, h1⟩ := H
  exact mm_E.iload_n (mm_atc mc28 rfl) rfl <|
  mm_E.bipush (mm_atc mc28 rfl) rfl <|
  mm_E.if2 (mm_atc mc28 rfl) h0 (by decide) (ic_geT h1) rfl <|
  mm_E.vret (mm_atc mc28 rfl) mr28
theorem p28_12_1 {w d : Nat} {X : List Value} {A : MF} {r : MR} {x2 : Int} (H : R32 x2 ∧ x2 < 6) (h : mm_E w d 28 20 [(0, .ref 43), (2, mI x2), (3, mI 0)] [] (mm_w X A) r) : mm_E w d 28 12 [(0, .ref 43), (2, mI x2)] [] (mm_w X A) r := by
  obtain ⟨h0, h1⟩ := H
  exact mm_E.iload_n (mm_atc mc28 rfl) rfl <|
  mm_E.bipush (mm_atc mc28 rfl) rfl <|
  mm_E.if2 (mm_atc mc28 rfl) h0 (by decide) (ic_geF h1) rfl <|
  mm_E.iconst (mm_atc mc28 rfl) <|
  mm_E.istore_n mx28 rfl (mm_atc mc28 rfl) <|
  show mm_E _ _ 28 20 [(3, mI 0), (0, .ref 43), (2, mI x2)] _ _ _ from
  mm_E.to h ⟨rfl, rfl, rfl, trivial⟩
theorem p28_20_0 {w d : Nat} {X : List Value} {A : MF} {r : MR} {x2 x3 : Int} (H : R32 x3 ∧ 16 ≤ x3) (h : mm_E w d 28 12 [(0, .ref 43), (2, mI (x2 + 1))] [] (mm_w X A) r) : mm_E w d 28 20 [(0, .ref 43), (2, mI x2), (3, mI x3)] [] (mm_w X A) r := by
  obtain ⟨h0, h1⟩ := H
  exact mm_E.iload_n (mm_atc mc28 rfl) rfl <|
  mm_E.bipush (mm_atc mc28 rfl) rfl <|
  mm_E.if2 (mm_atc mc28 rfl) h0 (by decide) (ic_geT h1) rfl <|
  mm_E.inc mx28 rfl (mm_atc mc28 rfl) rfl <|
  show mm_E _ _ 28 44 [(2, mI (x2 + 1)), (0, .ref 43), (3, mI x3)] _ _ _ from
  mm_E.goto (mm_atc mc28 rfl) rfl <|
  mm_E.to h ⟨rfl, rfl, trivial⟩
theorem p28_20_1 {d : Nat} {X : List Value} {A : MF} {r : MR} {x2 x3 : Int} (H : R32 x3 ∧ x3 < 16 ∧ 0 ≤ x2 ∧ x2 < 6 ∧ 0 ≤ x3) (h : mm_E 1 d 28 20 [(0, .ref 43), (2, mI x2), (3, mI (x3 + 1))] [] (mm_w X (mm_u A (45 + x2.toNat) x3 0)) r) : mm_E 1 d 28 20 [(0, .ref 43), (2, mI x2), (3, mI x3)] [] (mm_w X A) r := by
  obtain ⟨h0, h1, h2, h3, h4⟩ := H
  exact mm_E.iload_n (mm_atc mc28 rfl) rfl <|
  mm_E.bipush (mm_atc mc28 rfl) rfl <|
  mm_E.if2 (mm_atc mc28 rfl) h0 (by decide) (ic_geF h1) rfl <|
  mm_E.aload_n (mm_atc mc28 rfl) rfl <|
  mm_E.getR (b := 44) (mm_atc mc28 rfl) (mm_plc mp28 rfl) rfl ly43 rfl <|
  mm_E.iload_n (mm_atc mc28 rfl) rfl <|
  mm_E.aaload (mm_atc mc28 rfl) ly44 rfl h2 h3 (la45 h2 h3) <|
  mm_E.iload_n (mm_atc mc28 rfl) rfl <|
  mm_E.iconst (mm_atc mc28 rfl) <|
  mm_E.iastore (e := x3) (z := 0) (mm_atc mc28 rfl) (lr45 h2 h3) rfl h4 h1 rfl (mm_ly_pos (lr45 h2 h3)) <|
  mm_E.inc mx28 rfl (mm_atc mc28 rfl) rfl <|
  show mm_E _ _ 28 38 [(3, mI (x3 + 1)), (0, .ref 43), (2, mI x2)] _ _ _ from
  mm_E.goto (mm_atc mc28 rfl) rfl <|
  mm_E.to h ⟨rfl, rfl, rfl, trivial⟩
theorem p34_0_0 {d : Nat} {X : List Value} {A : MF} {x1 x2 : Int} {A0 : MF} (s0 : mm_E 1 d 43 0 [(0, .ref 43), (1, mI x1), (2, .ref (59 + 3 * x2.toNat)), (3, .ref (60 + 3 * x2.toNat)), (4, .ref 58)] [] (mm_w X A) (.inl (none), mm_w X A0, 0, 0)) (H : 0 ≤ x2 ∧ x2 < 6) : mm_E 1 (d + 1) 34 0 [(0, .ref 43), (1, mI x1), (2, mI x2)] [] (mm_w X A) (.inl (some (.ref 58)), mm_w X A0, 0, 0) := by
  obtain ⟨h0, h1⟩ := H
  exact mm_E.aload_n (mm_atc mc34 rfl) rfl <|
  mm_E.iload_n (mm_atc mc34 rfl) rfl <|
  mm_E.aload_n (mm_atc mc34 rfl) rfl <|
  mm_E.getR (b := 51) (mm_atc mc34 rfl) (mm_plc mp34 rfl) rfl ly43 rfl <|
  mm_E.iload_n (mm_atc mc34 rfl) rfl <|
  mm_E.aaload (mm_atc mc34 rfl) ly51 rfl h0 h1 (la59 h0 h1) <|
  mm_E.aload_n (mm_atc mc34 rfl) rfl <|
  mm_E.getR (b := 52) (mm_atc mc34 rfl) (mm_plc mp34 rfl) rfl ly43 rfl <|
  mm_E.iload_n (mm_atc mc34 rfl) rfl <|
  mm_E.aaload (mm_atc mc34 rfl) ly52 rfl h0 h1 (la60 h0 h1) <|
  mm_E.aload_n (mm_atc mc34 rfl) rfl <|
  mm_E.getR (b := 58) (mm_atc mc34 rfl) (mm_plc mp34 rfl) rfl ly43 rfl <|
  mm_E.callV0 (mm_atc mc34 rfl) (mm_plc mp34 rfl) rfl mk43 ly43 rfl mx43 rfl rfl s0 (by omega) <|
  show mm_E _ _ 34 21 _ _ _ _ from
  mm_E.aload_n (mm_atc mc34 rfl) rfl <|
  mm_E.getR (b := 58) (mm_atc mc34 rfl) (mm_plc mp34 rfl) rfl ly43 rfl <|
  mm_E.aret (mm_atc mc34 rfl) mr34
theorem p35_0_0 {w d : Nat} {X : List Value} {A : MF} {r : MR}  (h : mm_E w d 35 2 [(0, .ref 43), (1, mI 0)] [] (mm_w X A) r) : mm_E w d 35 0 [(0, .ref 43)] [] (mm_w X A) r := by
  exact mm_E.iconst (mm_atc mc35 rfl) <|
  mm_E.istore_n mx35 rfl (mm_atc mc35 rfl) <|
  show mm_E _ _ 35 2 [(1, mI 0), (0, .ref 43)] _ _ _ from
  mm_E.to h ⟨rfl, rfl, trivial⟩
theorem p35_2_0 {d : Nat} {X : List Value} {A : MF} {r : MR} {x1 : Int} {A0 : MF} (s0 : mm_E 1 d 46 0 [(0, .ref 56), (1, mJ 0), (3, mJ 1)] [] (mm_w X A) (.inl (none), mm_w X A0, 0, 0)) (H : R32 x1 ∧ R32 (A 43 0) ∧ A 43 0 ≤ x1) (h : mm_E 1 (d + 1) 35 37 [(0, .ref 43), (1, mI (A0 43 0))] [] (mm_w X A0) r) : mm_E 1 (d + 1) 35 2 [(0, .ref 43), (1, mI x1)] [] (mm_w X A) r := by
  obtain ⟨h0, h1, h2⟩ := H
  exact mm_E.iload_n (mm_atc mc35 rfl) rfl <|
  mm_E.aload_n (mm_atc mc35 rfl) rfl <|
  mm_E.getI (z := A 43 0) (mm_atc mc35 rfl) (mm_plc mp35 rfl) rfl ly43 rfl (rfl) <|
  mm_E.if2 (mm_atc mc35 rfl) h0 h1 (ic_geT h2) rfl <|
  mm_E.aload_n (mm_atc mc35 rfl) rfl <|
  mm_E.getR (b := 56) (mm_atc mc35 rfl) (mm_plc mp35 rfl) rfl ly43 rfl <|
  mm_E.lconst (z := 0) (mm_atc mc35 rfl) rfl <|
  mm_E.lconst (z := 1) (mm_atc mc35 rfl) rfl <|
  mm_E.callV0 (mm_atc mc35 rfl) (mm_plc mp35 rfl) rfl mk46 ly56 rfl mx46 rfl rfl s0 (by omega) <|
  show mm_E _ _ 35 32 _ _ _ _ from
  mm_E.aload_n (mm_atc mc35 rfl) rfl <|
  mm_E.getI (z := A0 43 0) (mm_atc mc35 rfl) (mm_plc mp35 rfl) rfl ly43 rfl (rfl) <|
  mm_E.istore_n mx35 rfl (mm_atc mc35 rfl) <|
  show mm_E _ _ 35 37 [(1, mI (A0 43 0)), (0, .ref 43)] _ _ _ from
  mm_E.to h ⟨rfl, rfl, trivial⟩
theorem p35_2_1 {d : Nat} {X : List Value} {A : MF} {r : MR} {x1 : Int} (H : R32 x1 ∧ R32 (A 43 0) ∧ x1 < A 43 0 ∧ 0 ≤ x1 ∧ x1 < 6) (h : mm_E 1 d 35 2 [(0, .ref 43), (1, mI (x1 + 1))] [] (mm_w X (mm_u A 54 x1 0)) r) : mm_E 1 d 35 2 [(0, .ref 43), (1, mI x1)] [] (mm_w X A) r := by
  obtain ⟨h0, h1, h2, h3, h4⟩ := H
  exact mm_E.iload_n (mm_atc mc35 rfl) rfl <|
  mm_E.aload_n (mm_atc mc35 rfl) rfl <|
  mm_E.getI (z := A 43 0) (mm_atc mc35 rfl) (mm_plc mp35 rfl) rfl ly43 rfl (rfl) <|
  mm_E.if2 (mm_atc mc35 rfl) h0 h1 (ic_geF h2) rfl <|
  mm_E.aload_n (mm_atc mc35 rfl) rfl <|
  mm_E.getR (b := 54) (mm_atc mc35 rfl) (mm_plc mp35 rfl) rfl ly43 rfl <|
  mm_E.iload_n (mm_atc mc35 rfl) rfl <|
  mm_E.iconst (mm_atc mc35 rfl) <|
  mm_E.bastore (e := x1) (z := 0) (mm_atc mc35 rfl) ly54 rfl h3 h4 rfl rfl rfl <|
  mm_E.inc mx35 rfl (mm_atc mc35 rfl) rfl <|
  show mm_E _ _ 35 20 [(1, mI (x1 + 1)), (0, .ref 43)] _ _ _ from
  mm_E.goto (mm_atc mc35 rfl) rfl <|
  mm_E.to h ⟨rfl, rfl, trivial⟩
theorem p35_37_0 {w d : Nat} {X : List Value} {A : MF} {r : MR} {x1 : Int} (H : R32 x1 ∧ x1 < 2) (h : mm_E w d 35 62 [(0, .ref 43), (1, mI 0)] [] (mm_w X A) r) : mm_E w d 35 37 [(0, .ref 43), (1, mI x1)] [] (mm_w X A) r := by
  obtain ⟨h0, h1⟩ := H
  exact mm_E.iload_n (mm_atc mc35 rfl) rfl <|
  mm_E.iconst (mm_atc mc35 rfl) <|
  mm_E.if2 (mm_atc mc35 rfl) h0 (by decide) (ic_ltT h1) rfl <|
  mm_E.iconst (mm_atc mc35 rfl) <|
  mm_E.istore_n mx35 rfl (mm_atc mc35 rfl) <|
  show mm_E _ _ 35 62 [(1, mI 0), (0, .ref 43)] _ _ _ from
  mm_E.to h ⟨rfl, rfl, trivial⟩
theorem p35_37_1 {d : Nat} {X : List Value} {A : MF} {r : MR} {x1 z1 : Int} {A0 A2 : MF} (s0 : mm_E 1 d 36 0 [(0, .ref 43)] [] (mm_w X A) (.inl (none), mm_w X A0, 0, 0)) (s1 : mm_E 1 d 37 0 [(0, .ref 43)] [] (mm_w X A0) (.inl (some (mI z1)), mm_w X A0, 0, 0)) (s2 : mm_E 1 d 38 0 [(0, .ref 43), (1, mI z1)] [] (mm_w X A0) (.inl (none), mm_w X A2, 0, 0)) (H : R32 x1 ∧ 2 ≤ x1) (h : mm_E 1 (d + 1) 35 37 [(0, .ref 43), (1, mI (x1 + (-1)))] [] (mm_w X A2) r) : mm_E 1 (d + 1) 35 37 [(0, .ref 43), (1, mI x1)] [] (mm_w X A) r := by
  obtain ⟨h0, h1⟩ := H
  exact mm_E.iload_n (mm_atc mc35 rfl) rfl <|
  mm_E.iconst (mm_atc mc35 rfl) <|
  mm_E.if2 (mm_atc mc35 rfl) h0 (by decide) (ic_ltF h1) rfl <|
  mm_E.aload_n (mm_atc mc35 rfl) rfl <|
  mm_E.callV0 (mm_atc mc35 rfl) (mm_plc mp35 rfl) rfl mk36 ly43 rfl mx36 rfl rfl s0 (by omega) <|
  show mm_E _ _ 35 46 _ _ _ _ from
  mm_E.aload_n (mm_atc mc35 rfl) rfl <|
  mm_E.aload_n (mm_atc mc35 rfl) rfl <|
  mm_E.callV0 (mm_atc mc35 rfl) (mm_plc mp35 rfl) rfl mk37 ly43 rfl mx37 rfl rfl s1 (by omega) <|
  show mm_E _ _ 35 51 _ _ _ _ from
  mm_E.callV0 (mm_atc mc35 rfl) (mm_plc mp35 rfl) rfl mk38 ly43 rfl mx38 rfl rfl s2 (by omega) <|
  show mm_E _ _ 35 54 _ _ _ _ from
  mm_E.inc mx35 rfl (mm_atc mc35 rfl) rfl <|
  show mm_E _ _ 35 57 [(1, mI (x1 + (-1))), (0, .ref 43)] _ _ _ from
  mm_E.goto (mm_atc mc35 rfl) rfl <|
  mm_E.to h ⟨rfl, rfl, trivial⟩
theorem p35_62_0 {d : Nat} {X : List Value} {A : MF} {x1 z0 : Int} {A1 : MF} (s0 : mm_E 1 d 37 0 [(0, .ref 43)] [] (mm_w X A) (.inl (some (mI z0)), mm_w X A, 0, 0)) (s1 : mm_E 1 d 38 0 [(0, .ref 43), (1, mI z0)] [] (mm_w X A) (.inl (none), mm_w X A1, 0, 0)) (H : R32 x1 ∧ R32 (A 43 0) ∧ A 43 0 ≤ x1) : mm_E 1 (d + 1) 35 62 [(0, .ref 43), (1, mI x1)] [] (mm_w X A) (.inl (none), mm_w X (mm_u A1 43 2 1), 0, 0) := by
  obtain ⟨h0, h1, h2⟩ := H
  exact mm_E.iload_n (mm_atc mc35 rfl) rfl <|
  mm_E.aload_n (mm_atc mc35 rfl) rfl <|
  mm_E.getI (z := A 43 0) (mm_atc mc35 rfl) (mm_plc mp35 rfl) rfl ly43 rfl (rfl) <|
  mm_E.if2 (mm_atc mc35 rfl) h0 h1 (ic_geT h2) rfl <|
  mm_E.aload_n (mm_atc mc35 rfl) rfl <|
  mm_E.aload_n (mm_atc mc35 rfl) rfl <|
  mm_E.callV0 (mm_atc mc35 rfl) (mm_plc mp35 rfl) rfl mk37 ly43 rfl mx37 rfl rfl s0 (by omega) <|
  show mm_E _ _ 35 96 _ _ _ _ from
  mm_E.callV0 (mm_atc mc35 rfl) (mm_plc mp35 rfl) rfl mk38 ly43 rfl mx38 rfl rfl s1 (by omega) <|
  show mm_E _ _ 35 99 _ _ _ _ from
  mm_E.aload_n (mm_atc mc35 rfl) rfl <|
  mm_E.iconst (mm_atc mc35 rfl) <|
  mm_E.putI (fi := 2) (z := 1) (mm_atc mc35 rfl) (mm_plc mp35 rfl) ly43 rfl rfl rfl rfl rfl <|
  mm_E.vret (mm_atc mc35 rfl) mr35
theorem p35_62_1 {d : Nat} {X : List Value} {A : MF} {r : MR} {x1 : Int} {A0 : MF} (s0 : mm_E 1 d 46 0 [(0, .ref (61 + 3 * x1.toNat)), (1, mJ (A 43 1)), (3, mJ 1)] [] (mm_w X A) (.inl (none), mm_w X A0, 0, 0)) (H : R32 x1 ∧ R32 (A 43 0) ∧ x1 < A 43 0 ∧ 0 ≤ x1 ∧ x1 < 6 ∧ R32 (A 43 1)) (h : mm_E 1 (d + 1) 35 62 [(0, .ref 43), (1, mI (x1 + 1))] [] (mm_w X A0) r) : mm_E 1 (d + 1) 35 62 [(0, .ref 43), (1, mI x1)] [] (mm_w X A) r := by
  obtain ⟨h0, h1, h2, h3, h4, h5⟩ := H
  exact mm_E.iload_n (mm_atc mc35 rfl) rfl <|
  mm_E.aload_n (mm_atc mc35 rfl) rfl <|
  mm_E.getI (z := A 43 0) (mm_atc mc35 rfl) (mm_plc mp35 rfl) rfl ly43 rfl (rfl) <|
  mm_E.if2 (mm_atc mc35 rfl) h0 h1 (ic_geF h2) rfl <|
  mm_E.aload_n (mm_atc mc35 rfl) rfl <|
  mm_E.getR (b := 53) (mm_atc mc35 rfl) (mm_plc mp35 rfl) rfl ly43 rfl <|
  mm_E.iload_n (mm_atc mc35 rfl) rfl <|
  mm_E.aaload (mm_atc mc35 rfl) ly53 rfl h3 h4 (la61 h3 h4) <|
  mm_E.aload_n (mm_atc mc35 rfl) rfl <|
  mm_E.getI (z := A 43 1) (mm_atc mc35 rfl) (mm_plc mp35 rfl) rfl ly43 rfl (rfl) <|
  mm_E.i2l h5 (mm_atc mc35 rfl) <|
  mm_E.lconst (z := 1) (mm_atc mc35 rfl) rfl <|
  mm_E.callV0 (mm_atc mc35 rfl) (mm_plc mp35 rfl) rfl mk46 (lr61 h3 h4) rfl mx46 rfl rfl s0 (by omega) <|
  show mm_E _ _ 35 85 _ _ _ _ from
  mm_E.inc mx35 rfl (mm_atc mc35 rfl) rfl <|
  show mm_E _ _ 35 88 [(1, mI (x1 + 1)), (0, .ref 43)] _ _ _ from
  mm_E.goto (mm_atc mc35 rfl) rfl <|
  mm_E.to h ⟨rfl, rfl, trivial⟩
theorem p36_0_0 {w d : Nat} {X : List Value} {A : MF} {r : MR}  (h : mm_E w d 36 2 [(0, .ref 43), (1, mI 0)] [] (mm_w X A) r) : mm_E w d 36 0 [(0, .ref 43)] [] (mm_w X A) r := by
  exact mm_E.iconst (mm_atc mc36 rfl) <|
  mm_E.istore_n mx36 rfl (mm_atc mc36 rfl) <|
  show mm_E _ _ 36 2 [(1, mI 0), (0, .ref 43)] _ _ _ from
  mm_E.to h ⟨rfl, rfl, trivial⟩
theorem p36_2_0 {w d : Nat} {X : List Value} {A : MF} {x1 : Int} (H : R32 x1 ∧ R32 (A 43 0) ∧ A 43 0 ≤ x1) : mm_E w d 36 2 [(0, .ref 43), (1, mI x1)] [] (mm_w X A) (.inl (none), mm_w X A, 0, 0) := by
  obtain ⟨h0, h1, h2⟩ := H
  exact mm_E.iload_n (mm_atc mc36 rfl) rfl <|
  mm_E.aload_n (mm_atc mc36 rfl) rfl <|
  mm_E.getI (z := A 43 0) (mm_atc mc36 rfl) (mm_plc mp36 rfl) rfl ly43 rfl (rfl) <|
  mm_E.if2 (mm_atc mc36 rfl) h0 h1 (ic_geT h2) rfl <|
  mm_E.vret (mm_atc mc36 rfl) mr36
theorem p36_2_1 {w d : Nat} {X : List Value} {A : MF} {r : MR} {x1 : Int} (H : R32 x1 ∧ R32 (A 43 0) ∧ x1 < A 43 0 ∧ 0 ≤ x1 ∧ x1 < 6 ∧ R32 (A 54 x1) ∧ A 54 x1 ≠ 0) (h : mm_E w d 36 2 [(0, .ref 43), (1, mI (x1 + 1))] [] (mm_w X A) r) : mm_E w d 36 2 [(0, .ref 43), (1, mI x1)] [] (mm_w X A) r := by
  obtain ⟨h0, h1, h2, h3, h4, h5, h6⟩ := H
  exact mm_E.iload_n (mm_atc mc36 rfl) rfl <|
  mm_E.aload_n (mm_atc mc36 rfl) rfl <|
  mm_E.getI (z := A 43 0) (mm_atc mc36 rfl) (mm_plc mp36 rfl) rfl ly43 rfl (rfl) <|
  mm_E.if2 (mm_atc mc36 rfl) h0 h1 (ic_geF h2) rfl <|
  mm_E.aload_n (mm_atc mc36 rfl) rfl <|
  mm_E.getR (b := 54) (mm_atc mc36 rfl) (mm_plc mp36 rfl) rfl ly43 rfl <|
  mm_E.iload_n (mm_atc mc36 rfl) rfl <|
  mm_E.baload (e := x1) (mm_atc mc36 rfl) ly54 rfl h3 h4 rfl (rfl) <|
  mm_E.if1 (mm_atc mc36 rfl) h5 (ic_neT h6) rfl <|
  mm_E.inc mx36 rfl (mm_atc mc36 rfl) rfl <|
  show mm_E _ _ 36 74 [(1, mI (x1 + 1)), (0, .ref 43)] _ _ _ from
  mm_E.goto (mm_atc mc36 rfl) rfl <|
  mm_E.to h ⟨rfl, rfl, trivial⟩
theorem p36_2_2 {w d : Nat} {X : List Value} {A : MF} {r : MR} {x1 : Int} (H : R32 x1 ∧ R32 (A 43 0) ∧ x1 < A 43 0 ∧ 0 ≤ x1 ∧ x1 < 6 ∧ R32 (A 54 x1) ∧ A 54 x1 = 0) (h : mm_E w d 36 23 [(0, .ref 43), (1, mI x1), (2, mI 0), (3, mI 0)] [] (mm_w X A) r) : mm_E w d 36 2 [(0, .ref 43), (1, mI x1)] [] (mm_w X A) r := by
  obtain ⟨h0, h1, h2, h3, h4, h5, h6⟩ := H
  exact mm_E.iload_n (mm_atc mc36 rfl) rfl <|
  mm_E.aload_n (mm_atc mc36 rfl) rfl <|
  mm_E.getI (z := A 43 0) (mm_atc mc36 rfl) (mm_plc mp36 rfl) rfl ly43 rfl (rfl) <|
  mm_E.if2 (mm_atc mc36 rfl) h0 h1 (ic_geF h2) rfl <|
  mm_E.aload_n (mm_atc mc36 rfl) rfl <|
  mm_E.getR (b := 54) (mm_atc mc36 rfl) (mm_plc mp36 rfl) rfl ly43 rfl <|
  mm_E.iload_n (mm_atc mc36 rfl) rfl <|
  mm_E.baload (e := x1) (mm_atc mc36 rfl) ly54 rfl h3 h4 rfl (rfl) <|
  mm_E.if1 (mm_atc mc36 rfl) h5 (ic_neF h6) rfl <|
  mm_E.iconst (mm_atc mc36 rfl) <|
  mm_E.istore_n mx36 rfl (mm_atc mc36 rfl) <|
  show mm_E _ _ 36 21 [(2, mI 0), (0, .ref 43), (1, mI x1)] _ _ _ from
  mm_E.iconst (mm_atc mc36 rfl) <|
  mm_E.istore_n mx36 rfl (mm_atc mc36 rfl) <|
  show mm_E _ _ 36 23 [(3, mI 0), (2, mI 0), (0, .ref 43), (1, mI x1)] _ _ _ from
  mm_E.to h ⟨rfl, rfl, rfl, rfl, trivial⟩
theorem p36_23_0 {d : Nat} {X : List Value} {A : MF} {r : MR} {x1 x2 x3 : Int} {A0 A1 : MF} (s0 : mm_E 1 d 46 0 [(0, .ref 57), (1, mJ x2), (3, mJ (A 43 0))] [] (mm_w X A) (.inl (none), mm_w X A0, 0, 0)) (s1 : mm_E 1 d 44 0 [(0, .ref 43), (1, mI x1), (2, .ref 56)] [] (mm_w X A0) (.inl (none), mm_w X A1, 0, 0)) (H : R32 x3 ∧ R32 (A 43 1) ∧ A 43 1 ≤ x3 ∧ R32 x2 ∧ R32 (A 43 0)) (h : mm_E 1 (d + 1) 36 2 [(0, .ref 43), (1, mI (x1 + 1))] [] (mm_w X A1) r) : mm_E 1 (d + 1) 36 23 [(0, .ref 43), (1, mI x1), (2, mI x2), (3, mI x3)] [] (mm_w X A) r := by
  obtain ⟨h0, h1, h2, h3, h4⟩ := H
  exact mm_E.iload_n (mm_atc mc36 rfl) rfl <|
  mm_E.aload_n (mm_atc mc36 rfl) rfl <|
  mm_E.getI (z := A 43 1) (mm_atc mc36 rfl) (mm_plc mp36 rfl) rfl ly43 rfl (rfl) <|
  mm_E.if2 (mm_atc mc36 rfl) h0 h1 (ic_geT h2) rfl <|
  mm_E.aload_n (mm_atc mc36 rfl) rfl <|
  mm_E.getR (b := 57) (mm_atc mc36 rfl) (mm_plc mp36 rfl) rfl ly43 rfl <|
  mm_E.iload_n (mm_atc mc36 rfl) rfl <|
  mm_E.i2l h3 (mm_atc mc36 rfl) <|
  mm_E.aload_n (mm_atc mc36 rfl) rfl <|
  mm_E.getI (z := A 43 0) (mm_atc mc36 rfl) (mm_plc mp36 rfl) rfl ly43 rfl (rfl) <|
  mm_E.i2l h4 (mm_atc mc36 rfl) <|
  mm_E.callV0 (mm_atc mc36 rfl) (mm_plc mp36 rfl) rfl mk46 ly57 rfl mx46 rfl rfl s0 (by omega) <|
  show mm_E _ _ 36 62 _ _ _ _ from
  mm_E.aload_n (mm_atc mc36 rfl) rfl <|
  mm_E.iload_n (mm_atc mc36 rfl) rfl <|
  mm_E.aload_n (mm_atc mc36 rfl) rfl <|
  mm_E.getR (b := 56) (mm_atc mc36 rfl) (mm_plc mp36 rfl) rfl ly43 rfl <|
  mm_E.callV0 (mm_atc mc36 rfl) (mm_plc mp36 rfl) rfl mk44 ly43 rfl mx44 rfl rfl s1 (by omega) <|
  show mm_E _ _ 36 71 _ _ _ _ from
  mm_E.inc mx36 rfl (mm_atc mc36 rfl) rfl <|
  show mm_E _ _ 36 74 [(1, mI (x1 + 1)), (0, .ref 43), (2, mI x2), (3, mI x3)] _ _ _ from
  mm_E.goto (mm_atc mc36 rfl) rfl <|
  mm_E.to h ⟨rfl, rfl, trivial⟩
theorem p36_23_1 {w d : Nat} {X : List Value} {A : MF} {r : MR} {x1 x2 x3 : Int} (H : R32 x3 ∧ R32 (A 43 1) ∧ x3 < A 43 1 ∧ 0 ≤ x1 ∧ x1 < 6 ∧ 0 ≤ x3 ∧ x3 < 16) (h : mm_E w d 36 23 [(0, .ref 43), (1, mI x1), (2, mI (x2 + (A (45 + x1.toNat) x3))), (3, mI (x3 + 1))] [] (mm_w X A) r) : mm_E w d 36 23 [(0, .ref 43), (1, mI x1), (2, mI x2), (3, mI x3)] [] (mm_w X A) r := by
  obtain ⟨h0, h1, h2, h3, h4, h5, h6⟩ := H
  exact mm_E.iload_n (mm_atc mc36 rfl) rfl <|
  mm_E.aload_n (mm_atc mc36 rfl) rfl <|
  mm_E.getI (z := A 43 1) (mm_atc mc36 rfl) (mm_plc mp36 rfl) rfl ly43 rfl (rfl) <|
  mm_E.if2 (mm_atc mc36 rfl) h0 h1 (ic_geF h2) rfl <|
  mm_E.iload_n (mm_atc mc36 rfl) rfl <|
  mm_E.aload_n (mm_atc mc36 rfl) rfl <|
  mm_E.getR (b := 44) (mm_atc mc36 rfl) (mm_plc mp36 rfl) rfl ly43 rfl <|
  mm_E.iload_n (mm_atc mc36 rfl) rfl <|
  mm_E.aaload (mm_atc mc36 rfl) ly44 rfl h3 h4 (la45 h3 h4) <|
  mm_E.iload_n (mm_atc mc36 rfl) rfl <|
  mm_E.iaload (e := x3) (mm_atc mc36 rfl) (lr45 h3 h4) rfl h5 h6 rfl (rfl) <|
  mm_E.iadd (mm_atc mc36 rfl) <|
  mm_E.istore_n mx36 rfl (mm_atc mc36 rfl) <|
  show mm_E _ _ 36 42 [(2, mI (x2 + (A (45 + x1.toNat) x3))), (0, .ref 43), (1, mI x1), (3, mI x3)] _ _ _ from
  mm_E.inc mx36 rfl (mm_atc mc36 rfl) rfl <|
  show mm_E _ _ 36 45 [(3, mI (x3 + 1)), (2, mI (x2 + (A (45 + x1.toNat) x3))), (0, .ref 43), (1, mI x1)] _ _ _ from
  mm_E.goto (mm_atc mc36 rfl) rfl <|
  mm_E.to h ⟨rfl, rfl, rfl, rfl, trivial⟩
theorem p37_0_0 {w d : Nat} {X : List Value} {A : MF} {r : MR}  (h : mm_E w d 37 4 [(0, .ref 43), (1, mI (-1)), (2, mI 0)] [] (mm_w X A) r) : mm_E w d 37 0 [(0, .ref 43)] [] (mm_w X A) r := by
  exact mm_E.iconst (mm_atc mc37 rfl) <|
  mm_E.istore_n mx37 rfl (mm_atc mc37 rfl) <|
  show mm_E _ _ 37 2 [(1, mI (-1)), (0, .ref 43)] _ _ _ from
  mm_E.iconst (mm_atc mc37 rfl) <|
  mm_E.istore_n mx37 rfl (mm_atc mc37 rfl) <|
  show mm_E _ _ 37 4 [(2, mI 0), (1, mI (-1)), (0, .ref 43)] _ _ _ from
  mm_E.to h ⟨rfl, rfl, rfl, trivial⟩
theorem p50_0_0 {w d : Nat} {X : List Value} {A : MF} {a a1 : Nat} (la : mm_ly a = some (3, [1, 1])) (la1 : mm_ly a1 = some (3, [1, 1])) (H : R64 ((A a 0) * (A a1 1)) ∧ R64 ((A a1 0) * (A a 1)) ∧ (A a1 0) * (A a 1) ≤ (A a 0) * (A a1 1)) : mm_E w d 50 0 [(0, .ref a), (1, .ref a1)] [] (mm_w X A) (.inl (some (mI 0)), mm_w X A, 0, 0) := by
  obtain ⟨h0, h1, h2⟩ := H
  exact mm_E.aload_n (mm_atc mc50 rfl) rfl <|
  mm_E.getJ (z := A a 0) (mm_atc mc50 rfl) (mm_plc mp50 rfl) rfl la rfl (rfl) <|
  mm_E.aload_n (mm_atc mc50 rfl) rfl <|
  mm_E.getJ (z := A a1 1) (mm_atc mc50 rfl) (mm_plc mp50 rfl) rfl la1 rfl (rfl) <|
  mm_E.lmul (mm_atc mc50 rfl) <|
  mm_E.aload_n (mm_atc mc50 rfl) rfl <|
  mm_E.getJ (z := A a1 0) (mm_atc mc50 rfl) (mm_plc mp50 rfl) rfl la1 rfl (rfl) <|
  mm_E.aload_n (mm_atc mc50 rfl) rfl <|
  mm_E.getJ (z := A a 1) (mm_atc mc50 rfl) (mm_plc mp50 rfl) rfl la rfl (rfl) <|
  mm_E.lmul (mm_atc mc50 rfl) <|
  mm_E.lif (mm_atc mc50 rfl) (mm_atc mc50 rfl) h0 h1 (ic_geT h2) rfl <|
  mm_E.iconst (mm_atc mc50 rfl) <|
  mm_E.iret (mm_atc mc50 rfl) mr50 rfl
theorem p50_0_1 {w d : Nat} {X : List Value} {A : MF} {a a1 : Nat} (la : mm_ly a = some (3, [1, 1])) (la1 : mm_ly a1 = some (3, [1, 1])) (H : R64 ((A a 0) * (A a1 1)) ∧ R64 ((A a1 0) * (A a 1)) ∧ (A a 0) * (A a1 1) < (A a1 0) * (A a 1)) : mm_E w d 50 0 [(0, .ref a), (1, .ref a1)] [] (mm_w X A) (.inl (some (mI 1)), mm_w X A, 0, 0) := by
  obtain ⟨h0, h1, h2⟩ := H
  exact mm_E.aload_n (mm_atc mc50 rfl) rfl <|
  mm_E.getJ (z := A a 0) (mm_atc mc50 rfl) (mm_plc mp50 rfl) rfl la rfl (rfl) <|
  mm_E.aload_n (mm_atc mc50 rfl) rfl <|
  mm_E.getJ (z := A a1 1) (mm_atc mc50 rfl) (mm_plc mp50 rfl) rfl la1 rfl (rfl) <|
  mm_E.lmul (mm_atc mc50 rfl) <|
  mm_E.aload_n (mm_atc mc50 rfl) rfl <|
  mm_E.getJ (z := A a1 0) (mm_atc mc50 rfl) (mm_plc mp50 rfl) rfl la1 rfl (rfl) <|
  mm_E.aload_n (mm_atc mc50 rfl) rfl <|
  mm_E.getJ (z := A a 1) (mm_atc mc50 rfl) (mm_plc mp50 rfl) rfl la rfl (rfl) <|
  mm_E.lmul (mm_atc mc50 rfl) <|
  mm_E.lif (mm_atc mc50 rfl) (mm_atc mc50 rfl) h0 h1 (ic_geF h2) rfl <|
  mm_E.iconst (mm_atc mc50 rfl) <|
  mm_E.goto (mm_atc mc50 rfl) rfl <|
  mm_E.iret (mm_atc mc50 rfl) mr50 rfl
theorem p37_4_0 {w d : Nat} {X : List Value} {A : MF} {x1 x2 : Int} (H : R32 x2 ∧ R32 (A 43 0) ∧ A 43 0 ≤ x2) : mm_E w d 37 4 [(0, .ref 43), (1, mI x1), (2, mI x2)] [] (mm_w X A) (.inl (some (mI x1)), mm_w X A, 0, 0) := by
  obtain ⟨h0, h1, h2⟩ := H
  exact mm_E.iload_n (mm_atc mc37 rfl) rfl <|
  mm_E.aload_n (mm_atc mc37 rfl) rfl <|
  mm_E.getI (z := A 43 0) (mm_atc mc37 rfl) (mm_plc mp37 rfl) rfl ly43 rfl (rfl) <|
  mm_E.if2 (mm_atc mc37 rfl) h0 h1 (ic_geT h2) rfl <|
  mm_E.iload_n (mm_atc mc37 rfl) rfl <|
  mm_E.iret (mm_atc mc37 rfl) mr37 rfl
theorem p37_4_1 {w d : Nat} {X : List Value} {A : MF} {r : MR} {x1 x2 : Int} (H : R32 x2 ∧ R32 (A 43 0) ∧ x2 < A 43 0 ∧ 0 ≤ x2 ∧ x2 < 6 ∧ R32 (A 54 x2) ∧ A 54 x2 ≠ 0) (h : mm_E w d 37 4 [(0, .ref 43), (1, mI x1), (2, mI (x2 + 1))] [] (mm_w X A) r) : mm_E w d 37 4 [(0, .ref 43), (1, mI x1), (2, mI x2)] [] (mm_w X A) r := by
  obtain ⟨h0, h1, h2, h3, h4, h5, h6⟩ := H
  exact mm_E.iload_n (mm_atc mc37 rfl) rfl <|
  mm_E.aload_n (mm_atc mc37 rfl) rfl <|
  mm_E.getI (z := A 43 0) (mm_atc mc37 rfl) (mm_plc mp37 rfl) rfl ly43 rfl (rfl) <|
  mm_E.if2 (mm_atc mc37 rfl) h0 h1 (ic_geF h2) rfl <|
  mm_E.aload_n (mm_atc mc37 rfl) rfl <|
  mm_E.getR (b := 54) (mm_atc mc37 rfl) (mm_plc mp37 rfl) rfl ly43 rfl <|
  mm_E.iload_n (mm_atc mc37 rfl) rfl <|
  mm_E.baload (e := x2) (mm_atc mc37 rfl) ly54 rfl h3 h4 rfl (rfl) <|
  mm_E.if1 (mm_atc mc37 rfl) h5 (ic_neT h6) rfl <|
  mm_E.inc mx37 rfl (mm_atc mc37 rfl) rfl <|
  show mm_E _ _ 37 49 [(2, mI (x2 + 1)), (0, .ref 43), (1, mI x1)] _ _ _ from
  mm_E.goto (mm_atc mc37 rfl) rfl <|
  mm_E.to h ⟨rfl, rfl, rfl, trivial⟩
theorem p37_4_2 {w d : Nat} {X : List Value} {A : MF} {r : MR} {x1 x2 : Int} (H : R32 x2 ∧ R32 (A 43 0) ∧ x2 < A 43 0 ∧ 0 ≤ x2 ∧ x2 < 6 ∧ R32 (A 54 x2) ∧ A 54 x2 = 0 ∧ R32 x1 ∧ x1 = (-1)) (h : mm_E w d 37 4 [(0, .ref 43), (1, mI x2), (2, mI (x2 + 1))] [] (mm_w X A) r) : mm_E w d 37 4 [(0, .ref 43), (1, mI x1), (2, mI x2)] [] (mm_w X A) r := by
  obtain ⟨h0, h1, h2, h3, h4, h5, h6, h7, h8⟩ := H
  exact mm_E.iload_n (mm_atc mc37 rfl) rfl <|
  mm_E.aload_n (mm_atc mc37 rfl) rfl <|
  mm_E.getI (z := A 43 0) (mm_atc mc37 rfl) (mm_plc mp37 rfl) rfl ly43 rfl (rfl) <|
  mm_E.if2 (mm_atc mc37 rfl) h0 h1 (ic_geF h2) rfl <|
  mm_E.aload_n (mm_atc mc37 rfl) rfl <|
  mm_E.getR (b := 54) (mm_atc mc37 rfl) (mm_plc mp37 rfl) rfl ly43 rfl <|
  mm_E.iload_n (mm_atc mc37 rfl) rfl <|
  mm_E.baload (e := x2) (mm_atc mc37 rfl) ly54 rfl h3 h4 rfl (rfl) <|
  mm_E.if1 (mm_atc mc37 rfl) h5 (ic_neF h6) rfl <|
  mm_E.iload_n (mm_atc mc37 rfl) rfl <|
  mm_E.iconst (mm_atc mc37 rfl) <|
  mm_E.if2 (mm_atc mc37 rfl) h7 (by decide) (ic_eqT h8) rfl <|
  mm_E.iload_n (mm_atc mc37 rfl) rfl <|
  mm_E.istore_n mx37 rfl (mm_atc mc37 rfl) <|
  show mm_E _ _ 37 46 [(1, mI x2), (0, .ref 43), (2, mI x2)] _ _ _ from
  mm_E.inc mx37 rfl (mm_atc mc37 rfl) rfl <|
  show mm_E _ _ 37 49 [(2, mI (x2 + 1)), (1, mI x2), (0, .ref 43)] _ _ _ from
  mm_E.goto (mm_atc mc37 rfl) rfl <|
  mm_E.to h ⟨rfl, rfl, rfl, trivial⟩
theorem p37_4_3 {w d : Nat} {X : List Value} {A : MF} {r : MR} {x1 x2 : Int} (H : R32 x2 ∧ R32 (A 43 0) ∧ x2 < A 43 0 ∧ 0 ≤ x2 ∧ x2 < 6 ∧ R32 (A 54 x2) ∧ A 54 x2 = 0 ∧ R32 x1 ∧ x1 ≠ (-1) ∧ 0 ≤ x1 ∧ x1 < 6 ∧ R64 ((A (61 + 3 * x2.toNat) 0) * (A (61 + 3 * x1.toNat) 1)) ∧ R64 ((A (61 + 3 * x1.toNat) 0) * (A (61 + 3 * x2.toNat) 1)) ∧ (A (61 + 3 * x1.toNat) 0) * (A (61 + 3 * x2.toNat) 1) ≤ (A (61 + 3 * x2.toNat) 0) * (A (61 + 3 * x1.toNat) 1)) (h : mm_E w (d + 1) 37 4 [(0, .ref 43), (1, mI x1), (2, mI (x2 + 1))] [] (mm_w X A) r) : mm_E w (d + 1) 37 4 [(0, .ref 43), (1, mI x1), (2, mI x2)] [] (mm_w X A) r := by
  obtain ⟨h0, h1, h2, h3, h4, h5, h6, h7, h8, h9, h10, h11, h12, h13⟩ := H
  exact mm_E.iload_n (mm_atc mc37 rfl) rfl <|
  mm_E.aload_n (mm_atc mc37 rfl) rfl <|
  mm_E.getI (z := A 43 0) (mm_atc mc37 rfl) (mm_plc mp37 rfl) rfl ly43 rfl (rfl) <|
  mm_E.if2 (mm_atc mc37 rfl) h0 h1 (ic_geF h2) rfl <|
  mm_E.aload_n (mm_atc mc37 rfl) rfl <|
  mm_E.getR (b := 54) (mm_atc mc37 rfl) (mm_plc mp37 rfl) rfl ly43 rfl <|
  mm_E.iload_n (mm_atc mc37 rfl) rfl <|
  mm_E.baload (e := x2) (mm_atc mc37 rfl) ly54 rfl h3 h4 rfl (rfl) <|
  mm_E.if1 (mm_atc mc37 rfl) h5 (ic_neF h6) rfl <|
  mm_E.iload_n (mm_atc mc37 rfl) rfl <|
  mm_E.iconst (mm_atc mc37 rfl) <|
  mm_E.if2 (mm_atc mc37 rfl) h7 (by decide) (ic_eqF h8) rfl <|
  mm_E.aload_n (mm_atc mc37 rfl) rfl <|
  mm_E.getR (b := 53) (mm_atc mc37 rfl) (mm_plc mp37 rfl) rfl ly43 rfl <|
  mm_E.iload_n (mm_atc mc37 rfl) rfl <|
  mm_E.aaload (mm_atc mc37 rfl) ly53 rfl h3 h4 (la61 h3 h4) <|
  mm_E.aload_n (mm_atc mc37 rfl) rfl <|
  mm_E.getR (b := 53) (mm_atc mc37 rfl) (mm_plc mp37 rfl) rfl ly43 rfl <|
  mm_E.iload_n (mm_atc mc37 rfl) rfl <|
  mm_E.aaload (mm_atc mc37 rfl) ly53 rfl h9 h10 (la61 h9 h10) <|
  mm_E.callV0 (mm_atc mc37 rfl) (mm_plc mp37 rfl) rfl mk50 (lr61 h3 h4) rfl mx50 rfl rfl (p50_0_0 (d := d) (lr61 h3 h4) (lr61 h9 h10) ⟨h11, h12, h13⟩) (by omega) <|
  show mm_E _ _ 37 41 _ _ _ _ from
  mm_E.if1 (mm_atc mc37 rfl) (by decide) (ic_eqT (by decide)) rfl <|
  mm_E.inc mx37 rfl (mm_atc mc37 rfl) rfl <|
  show mm_E _ _ 37 49 [(2, mI (x2 + 1)), (0, .ref 43), (1, mI x1)] _ _ _ from
  mm_E.goto (mm_atc mc37 rfl) rfl <|
  mm_E.to h ⟨rfl, rfl, rfl, trivial⟩
theorem p37_4_4 {w d : Nat} {X : List Value} {A : MF} {r : MR} {x1 x2 : Int} (H : R32 x2 ∧ R32 (A 43 0) ∧ x2 < A 43 0 ∧ 0 ≤ x2 ∧ x2 < 6 ∧ R32 (A 54 x2) ∧ A 54 x2 = 0 ∧ R32 x1 ∧ x1 ≠ (-1) ∧ 0 ≤ x1 ∧ x1 < 6 ∧ R64 ((A (61 + 3 * x2.toNat) 0) * (A (61 + 3 * x1.toNat) 1)) ∧ R64 ((A (61 + 3 * x1.toNat) 0) * (A (61 + 3 * x2.toNat) 1)) ∧ (A (61 + 3 * x2.toNat) 0) * (A (61 + 3 * x1.toNat) 1) < (A (61 + 3 * x1.toNat) 0) * (A (61 + 3 * x2.toNat) 1)) (h : mm_E w (d + 1) 37 4 [(0, .ref 43), (1, mI x2), (2, mI (x2 + 1))] [] (mm_w X A) r) : mm_E w (d + 1) 37 4 [(0, .ref 43), (1, mI x1), (2, mI x2)] [] (mm_w X A) r := by
  obtain ⟨h0, h1, h2, h3, h4, h5, h6, h7, h8, h9, h10, h11, h12, h13⟩ := H
  exact mm_E.iload_n (mm_atc mc37 rfl) rfl <|
  mm_E.aload_n (mm_atc mc37 rfl) rfl <|
  mm_E.getI (z := A 43 0) (mm_atc mc37 rfl) (mm_plc mp37 rfl) rfl ly43 rfl (rfl) <|
  mm_E.if2 (mm_atc mc37 rfl) h0 h1 (ic_geF h2) rfl <|
  mm_E.aload_n (mm_atc mc37 rfl) rfl <|
  mm_E.getR (b := 54) (mm_atc mc37 rfl) (mm_plc mp37 rfl) rfl ly43 rfl <|
  mm_E.iload_n (mm_atc mc37 rfl) rfl <|
  mm_E.baload (e := x2) (mm_atc mc37 rfl) ly54 rfl h3 h4 rfl (rfl) <|
  mm_E.if1 (mm_atc mc37 rfl) h5 (ic_neF h6) rfl <|
  mm_E.iload_n (mm_atc mc37 rfl) rfl <|
  mm_E.iconst (mm_atc mc37 rfl) <|
  mm_E.if2 (mm_atc mc37 rfl) h7 (by decide) (ic_eqF h8) rfl <|
  mm_E.aload_n (mm_atc mc37 rfl) rfl <|
  mm_E.getR (b := 53) (mm_atc mc37 rfl) (mm_plc mp37 rfl) rfl ly43 rfl <|
  mm_E.iload_n (mm_atc mc37 rfl) rfl <|
  mm_E.aaload (mm_atc mc37 rfl) ly53 rfl h3 h4 (la61 h3 h4) <|
  mm_E.aload_n (mm_atc mc37 rfl) rfl <|
  mm_E.getR (b := 53) (mm_atc mc37 rfl) (mm_plc mp37 rfl) rfl ly43 rfl <|
  mm_E.iload_n (mm_atc mc37 rfl) rfl <|
  mm_E.aaload (mm_atc mc37 rfl) ly53 rfl h9 h10 (la61 h9 h10) <|
  mm_E.callV0 (mm_atc mc37 rfl) (mm_plc mp37 rfl) rfl mk50 (lr61 h3 h4) rfl mx50 rfl rfl (p50_0_1 (d := d) (lr61 h3 h4) (lr61 h9 h10) ⟨h11, h12, h13⟩) (by omega) <|
  show mm_E _ _ 37 41 _ _ _ _ from
  mm_E.if1 (mm_atc mc37 rfl) (by decide) (ic_eqF (by decide)) rfl <|
  mm_E.iload_n (mm_atc mc37 rfl) rfl <|
  mm_E.istore_n mx37 rfl (mm_atc mc37 rfl) <|
  show mm_E _ _ 37 46 [(1, mI x2), (0, .ref 43), (2, mI x2)] _ _ _ from
  mm_E.inc mx37 rfl (mm_atc mc37 rfl) rfl <|
  show mm_E _ _ 37 49 [(2, mI (x2 + 1)), (1, mI x2), (0, .ref 43)] _ _ _ from
  mm_E.goto (mm_atc mc37 rfl) rfl <|
  mm_E.to h ⟨rfl, rfl, rfl, trivial⟩
theorem p48_0_0 {d : Nat} {X : List Value} {A : MF} {a a1 : Nat} (la : mm_ly a = some (3, [1, 1])) (la1 : mm_ly a1 = some (3, [1, 1])) : mm_E 1 d 48 0 [(0, .ref a), (1, .ref a1)] [] (mm_w X A) (.inl (none), mm_w X (mm_u (mm_u A a 0 (A a1 0)) a 1 (A a1 1)), 0, 0) := by
  exact mm_E.aload_n (mm_atc mc48 rfl) rfl <|
  mm_E.aload_n (mm_atc mc48 rfl) rfl <|
  mm_E.getJ (z := A a1 0) (mm_atc mc48 rfl) (mm_plc mp48 rfl) rfl la1 rfl (rfl) <|
  mm_E.putJ (fi := 0) (z := A a1 0) (mm_atc mc48 rfl) (mm_plc mp48 rfl) la rfl rfl rfl (mm_fit_l rfl) (mm_ly_pos la) <|
  mm_E.aload_n (mm_atc mc48 rfl) rfl <|
  mm_E.aload_n (mm_atc mc48 rfl) rfl <|
  mm_E.getJ (z := A a1 1) (mm_atc mc48 rfl) (mm_plc mp48 rfl) rfl la1 rfl ((mm_u_ne (.inr (by decide))).trans (rfl)) <|
  mm_E.putJ (fi := 1) (z := A a1 1) (mm_atc mc48 rfl) (mm_plc mp48 rfl) la rfl rfl rfl (mm_fit_l rfl) (mm_ly_pos la) <|
  mm_E.vret (mm_atc mc48 rfl) mr48
theorem p38_0_0 {w d : Nat} {X : List Value} {A : MF} {x1 : Int} (H : R32 x1 ∧ x1 = (-1)) : mm_E w d 38 0 [(0, .ref 43), (1, mI x1)] [] (mm_w X A) (.inl (none), mm_w X A, 0, 0) := by
  obtain ⟨h0, h1⟩ := H
  exact mm_E.iload_n (mm_atc mc38 rfl) rfl <|
  mm_E.iconst (mm_atc mc38 rfl) <|
  mm_E.if2 (mm_atc mc38 rfl) h0 (by decide) (ic_eqT h1) rfl <|
  mm_E.vret (mm_atc mc38 rfl) mr38
theorem p38_0_1 {d : Nat} {X : List Value} {A : MF} {x1 : Int} (H : R32 x1 ∧ x1 ≠ (-1) ∧ 0 ≤ x1 ∧ x1 < 6) : mm_E 1 (d + 1) 38 0 [(0, .ref 43), (1, mI x1)] [] (mm_w X A) (.inl (none), mm_w X (mm_u (mm_u (mm_u (mm_u (mm_u (mm_u (mm_u A (59 + 3 * x1.toNat) 0 (A 56 0)) (59 + 3 * x1.toNat) 1 (A 56 1)) (60 + 3 * x1.toNat) 0 ((mm_u (mm_u A (59 + 3 * x1.toNat) 0 (A 56 0)) (59 + 3 * x1.toNat) 1 (A 56 1)) (61 + 3 * x1.toNat) 0)) (60 + 3 * x1.toNat) 1 ((mm_u (mm_u A (59 + 3 * x1.toNat) 0 (A 56 0)) (59 + 3 * x1.toNat) 1 (A 56 1)) (61 + 3 * x1.toNat) 1)) 56 0 ((mm_u (mm_u (mm_u (mm_u A (59 + 3 * x1.toNat) 0 (A 56 0)) (59 + 3 * x1.toNat) 1 (A 56 1)) (60 + 3 * x1.toNat) 0 ((mm_u (mm_u A (59 + 3 * x1.toNat) 0 (A 56 0)) (59 + 3 * x1.toNat) 1 (A 56 1)) (61 + 3 * x1.toNat) 0)) (60 + 3 * x1.toNat) 1 ((mm_u (mm_u A (59 + 3 * x1.toNat) 0 (A 56 0)) (59 + 3 * x1.toNat) 1 (A 56 1)) (61 + 3 * x1.toNat) 1)) (61 + 3 * x1.toNat) 0)) 56 1 ((mm_u (mm_u (mm_u (mm_u A (59 + 3 * x1.toNat) 0 (A 56 0)) (59 + 3 * x1.toNat) 1 (A 56 1)) (60 + 3 * x1.toNat) 0 ((mm_u (mm_u A (59 + 3 * x1.toNat) 0 (A 56 0)) (59 + 3 * x1.toNat) 1 (A 56 1)) (61 + 3 * x1.toNat) 0)) (60 + 3 * x1.toNat) 1 ((mm_u (mm_u A (59 + 3 * x1.toNat) 0 (A 56 0)) (59 + 3 * x1.toNat) 1 (A 56 1)) (61 + 3 * x1.toNat) 1)) (61 + 3 * x1.toNat) 1)) 54 x1 1), 0, 0) := by
  obtain ⟨h0, h1, h2, h3⟩ := H
  exact mm_E.iload_n (mm_atc mc38 rfl) rfl <|
  mm_E.iconst (mm_atc mc38 rfl) <|
  mm_E.if2 (mm_atc mc38 rfl) h0 (by decide) (ic_eqF h1) rfl <|
  mm_E.aload_n (mm_atc mc38 rfl) rfl <|
  mm_E.getR (b := 51) (mm_atc mc38 rfl) (mm_plc mp38 rfl) rfl ly43 rfl <|
  mm_E.iload_n (mm_atc mc38 rfl) rfl <|
  mm_E.aaload (mm_atc mc38 rfl) ly51 rfl h2 h3 (la59 h2 h3) <|
  mm_E.aload_n (mm_atc mc38 rfl) rfl <|
  mm_E.getR (b := 56) (mm_atc mc38 rfl) (mm_plc mp38 rfl) rfl ly43 rfl <|
  mm_E.callV0 (mm_atc mc38 rfl) (mm_plc mp38 rfl) rfl mk48 (lr59 h2 h3) rfl mx48 rfl rfl (p48_0_0 (d := d) (lr59 h2 h3) ly56) (by omega) <|
  show mm_E _ _ 38 18 _ _ _ _ from
  mm_E.aload_n (mm_atc mc38 rfl) rfl <|
  mm_E.getR (b := 52) (mm_atc mc38 rfl) (mm_plc mp38 rfl) rfl ly43 rfl <|
  mm_E.iload_n (mm_atc mc38 rfl) rfl <|
  mm_E.aaload (mm_atc mc38 rfl) ly52 rfl h2 h3 (la60 h2 h3) <|
  mm_E.aload_n (mm_atc mc38 rfl) rfl <|
  mm_E.getR (b := 53) (mm_atc mc38 rfl) (mm_plc mp38 rfl) rfl ly43 rfl <|
  mm_E.iload_n (mm_atc mc38 rfl) rfl <|
  mm_E.aaload (mm_atc mc38 rfl) ly53 rfl h2 h3 (la61 h2 h3) <|
  mm_E.callV0 (mm_atc mc38 rfl) (mm_plc mp38 rfl) rfl mk48 (lr60 h2 h3) rfl mx48 rfl rfl (p48_0_0 (d := d) (lr60 h2 h3) (lr61 h2 h3)) (by omega) <|
  show mm_E _ _ 38 33 _ _ _ _ from
  mm_E.aload_n (mm_atc mc38 rfl) rfl <|
  mm_E.getR (b := 56) (mm_atc mc38 rfl) (mm_plc mp38 rfl) rfl ly43 rfl <|
  mm_E.aload_n (mm_atc mc38 rfl) rfl <|
  mm_E.getR (b := 53) (mm_atc mc38 rfl) (mm_plc mp38 rfl) rfl ly43 rfl <|
  mm_E.iload_n (mm_atc mc38 rfl) rfl <|
  mm_E.aaload (mm_atc mc38 rfl) ly53 rfl h2 h3 (la61 h2 h3) <|
  mm_E.callV0 (mm_atc mc38 rfl) (mm_plc mp38 rfl) rfl mk48 ly56 rfl mx48 rfl rfl (p48_0_0 (d := d) ly56 (lr61 h2 h3)) (by omega) <|
  show mm_E _ _ 38 46 _ _ _ _ from
  mm_E.aload_n (mm_atc mc38 rfl) rfl <|
  mm_E.getR (b := 54) (mm_atc mc38 rfl) (mm_plc mp38 rfl) rfl ly43 rfl <|
  mm_E.iload_n (mm_atc mc38 rfl) rfl <|
  mm_E.iconst (mm_atc mc38 rfl) <|
  mm_E.bastore (e := x1) (z := 1) (mm_atc mc38 rfl) ly54 rfl h2 h3 rfl rfl rfl <|
  mm_E.vret (mm_atc mc38 rfl) mr38
theorem p39_0_0 {w d : Nat} {X : List Value} {A : MF} {r : MR}  (h : mm_E w d 39 2 [(0, .ref 43), (1, mI 0)] [] (mm_w X A) r) : mm_E w d 39 0 [(0, .ref 43)] [] (mm_w X A) r := by
  exact mm_E.iconst (mm_atc mc39 rfl) <|
  mm_E.istore_n mx39 rfl (mm_atc mc39 rfl) <|
  show mm_E _ _ 39 2 [(1, mI 0), (0, .ref 43)] _ _ _ from
  mm_E.to h ⟨rfl, rfl, trivial⟩
theorem p39_2_0 {d : Nat} {X : List Value} {A : MF} {x1 : Int} {A0 : MF} (s0 : mm_E 1 d 40 0 [(0, .ref 43), (1, mI 0), (2, mI (A 43 0)), (3, mI 0)] [] (mm_w X A) (.inl (none), mm_w X A0, 0, 0)) (H : R32 x1 ∧ R32 (A 43 0) ∧ A 43 0 ≤ x1) : mm_E 1 (d + 1) 39 2 [(0, .ref 43), (1, mI x1)] [] (mm_w X A) (.inl (none), mm_w X (mm_u A0 43 2 1), 0, 0) := by
  obtain ⟨h0, h1, h2⟩ := H
  exact mm_E.iload_n (mm_atc mc39 rfl) rfl <|
  mm_E.aload_n (mm_atc mc39 rfl) rfl <|
  mm_E.getI (z := A 43 0) (mm_atc mc39 rfl) (mm_plc mp39 rfl) rfl ly43 rfl (rfl) <|
  mm_E.if2 (mm_atc mc39 rfl) h0 h1 (ic_geT h2) rfl <|
  mm_E.aload_n (mm_atc mc39 rfl) rfl <|
  mm_E.iconst (mm_atc mc39 rfl) <|
  mm_E.aload_n (mm_atc mc39 rfl) rfl <|
  mm_E.getI (z := A 43 0) (mm_atc mc39 rfl) (mm_plc mp39 rfl) rfl ly43 rfl (rfl) <|
  mm_E.iconst (mm_atc mc39 rfl) <|
  mm_E.callV0 (mm_atc mc39 rfl) (mm_plc mp39 rfl) rfl mk40 ly43 rfl mx40 rfl rfl s0 (by omega) <|
  show mm_E _ _ 39 59 _ _ _ _ from
  mm_E.aload_n (mm_atc mc39 rfl) rfl <|
  mm_E.iconst (mm_atc mc39 rfl) <|
  mm_E.putI (fi := 2) (z := 1) (mm_atc mc39 rfl) (mm_plc mp39 rfl) ly43 rfl rfl rfl rfl rfl <|
  mm_E.vret (mm_atc mc39 rfl) mr39
theorem p39_2_1 {d : Nat} {X : List Value} {A : MF} {r : MR} {x1 : Int} {A0 A1 : MF} (s0 : mm_E 1 d 46 0 [(0, .ref (59 + 3 * x1.toNat)), (1, mJ 0), (3, mJ 1)] [] (mm_w X (mm_u A 55 x1 x1)) (.inl (none), mm_w X A0, 0, 0)) (s1 : mm_E 1 d 46 0 [(0, .ref (60 + 3 * x1.toNat)), (1, mJ (A0 43 1)), (3, mJ 1)] [] (mm_w X A0) (.inl (none), mm_w X A1, 0, 0)) (H : R32 x1 ∧ R32 (A 43 0) ∧ x1 < A 43 0 ∧ 0 ≤ x1 ∧ x1 < 6 ∧ R32 (A0 43 1)) (h : mm_E 1 (d + 1) 39 2 [(0, .ref 43), (1, mI (x1 + 1))] [] (mm_w X A1) r) : mm_E 1 (d + 1) 39 2 [(0, .ref 43), (1, mI x1)] [] (mm_w X A) r := by
  obtain ⟨h0, h1, h2, h3, h4, h5⟩ := H
  exact mm_E.iload_n (mm_atc mc39 rfl) rfl <|
  mm_E.aload_n (mm_atc mc39 rfl) rfl <|
  mm_E.getI (z := A 43 0) (mm_atc mc39 rfl) (mm_plc mp39 rfl) rfl ly43 rfl (rfl) <|
  mm_E.if2 (mm_atc mc39 rfl) h0 h1 (ic_geF h2) rfl <|
  mm_E.aload_n (mm_atc mc39 rfl) rfl <|
  mm_E.getR (b := 55) (mm_atc mc39 rfl) (mm_plc mp39 rfl) rfl ly43 rfl <|
  mm_E.iload_n (mm_atc mc39 rfl) rfl <|
  mm_E.iload_n (mm_atc mc39 rfl) rfl <|
  mm_E.iastore (e := x1) (z := x1) (mm_atc mc39 rfl) ly55 rfl h3 h4 rfl rfl <|
  mm_E.aload_n (mm_atc mc39 rfl) rfl <|
  mm_E.getR (b := 51) (mm_atc mc39 rfl) (mm_plc mp39 rfl) rfl ly43 rfl <|
  mm_E.iload_n (mm_atc mc39 rfl) rfl <|
  mm_E.aaload (mm_atc mc39 rfl) ly51 rfl h3 h4 (la59 h3 h4) <|
  mm_E.lconst (z := 0) (mm_atc mc39 rfl) rfl <|
  mm_E.lconst (z := 1) (mm_atc mc39 rfl) rfl <|
  mm_E.callV0 (mm_atc mc39 rfl) (mm_plc mp39 rfl) rfl mk46 (lr59 h3 h4) rfl mx46 rfl rfl s0 (by omega) <|
  show mm_E _ _ 39 28 _ _ _ _ from
  mm_E.aload_n (mm_atc mc39 rfl) rfl <|
  mm_E.getR (b := 52) (mm_atc mc39 rfl) (mm_plc mp39 rfl) rfl ly43 rfl <|
  mm_E.iload_n (mm_atc mc39 rfl) rfl <|
  mm_E.aaload (mm_atc mc39 rfl) ly52 rfl h3 h4 (la60 h3 h4) <|
  mm_E.aload_n (mm_atc mc39 rfl) rfl <|
  mm_E.getI (z := A0 43 1) (mm_atc mc39 rfl) (mm_plc mp39 rfl) rfl ly43 rfl (rfl) <|
  mm_E.i2l h5 (mm_atc mc39 rfl) <|
  mm_E.lconst (z := 1) (mm_atc mc39 rfl) rfl <|
  mm_E.callV0 (mm_atc mc39 rfl) (mm_plc mp39 rfl) rfl mk46 (lr60 h3 h4) rfl mx46 rfl rfl s1 (by omega) <|
  show mm_E _ _ 39 43 _ _ _ _ from
  mm_E.inc mx39 rfl (mm_atc mc39 rfl) rfl <|
  show mm_E _ _ 39 46 [(1, mI (x1 + 1)), (0, .ref 43)] _ _ _ from
  mm_E.goto (mm_atc mc39 rfl) rfl <|
  mm_E.to h ⟨rfl, rfl, trivial⟩
theorem p40_0_0 {w d : Nat} {X : List Value} {A : MF} {x1 x2 x3 : Int} (H : R32 (x2 - x1) ∧ x2 - x1 < 2) : mm_E w d 40 0 [(0, .ref 43), (1, mI x1), (2, mI x2), (3, mI x3)] [] (mm_w X A) (.inl (none), mm_w X A, 0, 0) := by
  obtain ⟨h0, h1⟩ := H
  exact mm_E.iload_n (mm_atc mc40 rfl) rfl <|
  mm_E.iload_n (mm_atc mc40 rfl) rfl <|
  mm_E.isub (mm_atc mc40 rfl) <|
  mm_E.istore mx40 rfl (mm_atc mc40 rfl) <|
  show mm_E _ _ 40 5 [(4, mI (x2 - x1)), (0, .ref 43), (1, mI x1), (2, mI x2), (3, mI x3)] _ _ _ from
  mm_E.iload (mm_atc mc40 rfl) rfl <|
  mm_E.iconst (mm_atc mc40 rfl) <|
  mm_E.if2 (mm_atc mc40 rfl) h0 (by decide) (ic_ltT h1) rfl <|
  mm_E.vret (mm_atc mc40 rfl) mr40
theorem p40_0_1 {w d : Nat} {X : List Value} {A : MF} {r : MR} {x1 x2 x3 : Int} (H : R32 (x2 - x1) ∧ 2 ≤ x2 - x1 ∧ R32 x3 ∧ x3 < 3 ∧ 0 ≤ x2 - x1) (h : mm_E w d 40 26 [(0, .ref 43), (1, mI x1), (2, mI x2), (3, mI x3), (4, mI (x2 - x1)), (5, mI ((x2 - x1) / 2)), (6, mI x1)] [] (mm_w X A) r) : mm_E w d 40 0 [(0, .ref 43), (1, mI x1), (2, mI x2), (3, mI x3)] [] (mm_w X A) r := by
  obtain ⟨h0, h1, h2, h3, h4⟩ := H
  exact mm_E.iload_n (mm_atc mc40 rfl) rfl <|
  mm_E.iload_n (mm_atc mc40 rfl) rfl <|
  mm_E.isub (mm_atc mc40 rfl) <|
  mm_E.istore mx40 rfl (mm_atc mc40 rfl) <|
  show mm_E _ _ 40 5 [(4, mI (x2 - x1)), (0, .ref 43), (1, mI x1), (2, mI x2), (3, mI x3)] _ _ _ from
  mm_E.iload (mm_atc mc40 rfl) rfl <|
  mm_E.iconst (mm_atc mc40 rfl) <|
  mm_E.if2 (mm_atc mc40 rfl) h0 (by decide) (ic_ltF h1) rfl <|
  mm_E.iload_n (mm_atc mc40 rfl) rfl <|
  mm_E.iconst (mm_atc mc40 rfl) <|
  mm_E.if2 (mm_atc mc40 rfl) h2 (by decide) (ic_ltT h3) rfl <|
  mm_E.iload (mm_atc mc40 rfl) rfl <|
  mm_E.iconst (mm_atc mc40 rfl) <|
  mm_E.idiv h0 (by decide) h4 (by decide) (mm_atc mc40 rfl) <|
  mm_E.istore mx40 rfl (mm_atc mc40 rfl) <|
  show mm_E _ _ 40 23 [(5, mI ((x2 - x1) / 2)), (4, mI (x2 - x1)), (0, .ref 43), (1, mI x1), (2, mI x2), (3, mI x3)] _ _ _ from
  mm_E.iload_n (mm_atc mc40 rfl) rfl <|
  mm_E.istore mx40 rfl (mm_atc mc40 rfl) <|
  show mm_E _ _ 40 26 [(6, mI x1), (5, mI ((x2 - x1) / 2)), (4, mI (x2 - x1)), (0, .ref 43), (1, mI x1), (2, mI x2), (3, mI x3)] _ _ _ from
  mm_E.to h ⟨rfl, rfl, rfl, rfl, rfl, rfl, rfl, trivial⟩
theorem p40_0_2 {w d : Nat} {X : List Value} {A : MF} {x1 x2 x3 : Int} (H : R32 (x2 - x1) ∧ 2 ≤ x2 - x1 ∧ R32 x3 ∧ 3 ≤ x3) : mm_E w d 40 0 [(0, .ref 43), (1, mI x1), (2, mI x2), (3, mI x3)] [] (mm_w X A) (.inl (none), mm_w X A, 0, 0) := by
  obtain ⟨h0, h1, h2, h3⟩ := H
  exact mm_E.iload_n (mm_atc mc40 rfl) rfl <|
  mm_E.iload_n (mm_atc mc40 rfl) rfl <|
  mm_E.isub (mm_atc mc40 rfl) <|
  mm_E.istore mx40 rfl (mm_atc mc40 rfl) <|
  show mm_E _ _ 40 5 [(4, mI (x2 - x1)), (0, .ref 43), (1, mI x1), (2, mI x2), (3, mI x3)] _ _ _ from
  mm_E.iload (mm_atc mc40 rfl) rfl <|
  mm_E.iconst (mm_atc mc40 rfl) <|
  mm_E.if2 (mm_atc mc40 rfl) h0 (by decide) (ic_ltF h1) rfl <|
  mm_E.iload_n (mm_atc mc40 rfl) rfl <|
  mm_E.iconst (mm_atc mc40 rfl) <|
  mm_E.if2 (mm_atc mc40 rfl) h2 (by decide) (ic_ltF h3) rfl <|
  mm_E.vret (mm_atc mc40 rfl) mr40
theorem p40_26_0 {d : Nat} {X : List Value} {A : MF} {r : MR} {x1 x2 x3 x4 x5 x6 : Int} {A0 : MF} (s0 : mm_E 1 d 41 0 [(0, .ref 43), (1, mI x1), (2, mI x2)] [] (mm_w X A) (.inl (none), mm_w X A0, 0, 0)) (H : R32 x6 ∧ R32 x2 ∧ x2 ≤ x6 ∧ 0 ≤ (x1 + x5) - 1 ∧ (x1 + x5) - 1 < 6 ∧ 0 ≤ A0 55 ((x1 + x5) - 1) ∧ A0 55 ((x1 + x5) - 1) < 6) (h : mm_E 1 (d + 1) 40 128 [(0, .ref 43), (1, mI x1), (2, mI x2), (3, mI x3), (6, mI (x1 + x5)), (7, .ref (61 + 3 * (A0 55 ((x1 + x5) - 1)).toNat)), (8, mI x1)] [] (mm_w X A0) r) : mm_E 1 (d + 1) 40 26 [(0, .ref 43), (1, mI x1), (2, mI x2), (3, mI x3), (4, mI x4), (5, mI x5), (6, mI x6)] [] (mm_w X A) r := by
  obtain ⟨h0, h1, h2, h3, h4, h5, h6⟩ := H
  exact mm_E.iload (mm_atc mc40 rfl) rfl <|
  mm_E.iload_n (mm_atc mc40 rfl) rfl <|
  mm_E.if2 (mm_atc mc40 rfl) h0 h1 (ic_geT h2) rfl <|
  mm_E.aload_n (mm_atc mc40 rfl) rfl <|
  mm_E.iload_n (mm_atc mc40 rfl) rfl <|
  mm_E.iload_n (mm_atc mc40 rfl) rfl <|
  mm_E.callV0 (mm_atc mc40 rfl) (mm_plc mp40 rfl) rfl mk41 ly43 rfl mx41 rfl rfl s0 (by omega) <|
  show mm_E _ _ 40 103 _ _ _ _ from
  mm_E.iload_n (mm_atc mc40 rfl) rfl <|
  mm_E.iload (mm_atc mc40 rfl) rfl <|
  mm_E.iadd (mm_atc mc40 rfl) <|
  mm_E.istore mx40 rfl (mm_atc mc40 rfl) <|
  show mm_E _ _ 40 109 [(6, mI (x1 + x5)), (0, .ref 43), (1, mI x1), (2, mI x2), (3, mI x3), (4, mI x4), (5, mI x5)] _ _ _ from
  mm_E.aload_n (mm_atc mc40 rfl) rfl <|
  mm_E.getR (b := 53) (mm_atc mc40 rfl) (mm_plc mp40 rfl) rfl ly43 rfl <|
  mm_E.aload_n (mm_atc mc40 rfl) rfl <|
  mm_E.getR (b := 55) (mm_atc mc40 rfl) (mm_plc mp40 rfl) rfl ly43 rfl <|
  mm_E.iload (mm_atc mc40 rfl) rfl <|
  mm_E.iconst (mm_atc mc40 rfl) <|
  mm_E.isub (mm_atc mc40 rfl) <|
  mm_E.iaload (e := (x1 + x5) - 1) (mm_atc mc40 rfl) ly55 rfl h3 h4 rfl (rfl) <|
  mm_E.aaload (mm_atc mc40 rfl) ly53 rfl h5 h6 (la61 h5 h6) <|
  mm_E.astore mx40 rfl (mm_atc mc40 rfl) <|
  show mm_E _ _ 40 125 [(7, .ref (61 + 3 * (A0 55 ((x1 + x5) - 1)).toNat)), (6, mI (x1 + x5)), (0, .ref 43), (1, mI x1), (2, mI x2), (3, mI x3), (4, mI x4), (5, mI x5)] _ _ _ from
  mm_E.iload_n (mm_atc mc40 rfl) rfl <|
  mm_E.istore mx40 rfl (mm_atc mc40 rfl) <|
  show mm_E _ _ 40 128 [(8, mI x1), (7, .ref (61 + 3 * (A0 55 ((x1 + x5) - 1)).toNat)), (6, mI (x1 + x5)), (0, .ref 43), (1, mI x1), (2, mI x2), (3, mI x3), (4, mI x4), (5, mI x5)] _ _ _ from
  mm_E.to h ⟨rfl, rfl, rfl, rfl, rfl, rfl, rfl, trivial⟩
theorem p40_26_1 {d : Nat} {X : List Value} {A : MF} {r : MR} {x1 x2 x3 x4 x5 x6 : Int} {A0 A1 A2 : MF} (s0 : mm_E 1 d 43 0 [(0, .ref 43), (1, mI (A 55 x6)), (2, .ref (59 + 3 * (A 55 x6).toNat)), (3, .ref (60 + 3 * (A 55 x6).toNat)), (4, .ref 57)] [] (mm_w X A) (.inl (none), mm_w X A0, 0, 0)) (s1 : mm_E 1 d 47 0 [(0, .ref 57), (1, mJ x5), (3, mJ x4)] [] (mm_w X A0) (.inl (none), mm_w X A1, 0, 0)) (s2 : mm_E 1 d 44 0 [(0, .ref 43), (1, mI (A 55 x6)), (2, .ref (59 + 3 * (A 55 x6).toNat))] [] (mm_w X A1) (.inl (none), mm_w X A2, 0, 0)) (H : R32 x6 ∧ R32 x2 ∧ x6 < x2 ∧ 0 ≤ x6 ∧ x6 < 6 ∧ 0 ≤ A 55 x6 ∧ A 55 x6 < 6 ∧ R32 x5 ∧ R32 x4) (h : mm_E 1 (d + 1) 40 26 [(0, .ref 43), (1, mI x1), (2, mI x2), (3, mI x3), (4, mI x4), (5, mI x5), (6, mI (x6 + 1))] [] (mm_w X A2) r) : mm_E 1 (d + 1) 40 26 [(0, .ref 43), (1, mI x1), (2, mI x2), (3, mI x3), (4, mI x4), (5, mI x5), (6, mI x6)] [] (mm_w X A) r := by
  obtain ⟨h0, h1, h2, h3, h4, h5, h6, h7, h8⟩ := H
  exact mm_E.iload (mm_atc mc40 rfl) rfl <|
  mm_E.iload_n (mm_atc mc40 rfl) rfl <|
  mm_E.if2 (mm_atc mc40 rfl) h0 h1 (ic_geF h2) rfl <|
  mm_E.aload_n (mm_atc mc40 rfl) rfl <|
  mm_E.getR (b := 55) (mm_atc mc40 rfl) (mm_plc mp40 rfl) rfl ly43 rfl <|
  mm_E.iload (mm_atc mc40 rfl) rfl <|
  mm_E.iaload (e := x6) (mm_atc mc40 rfl) ly55 rfl h3 h4 rfl (rfl) <|
  mm_E.istore mx40 rfl (mm_atc mc40 rfl) <|
  show mm_E _ _ 40 41 [(7, mI (A 55 x6)), (0, .ref 43), (1, mI x1), (2, mI x2), (3, mI x3), (4, mI x4), (5, mI x5), (6, mI x6)] _ _ _ from
  mm_E.aload_n (mm_atc mc40 rfl) rfl <|
  mm_E.iload (mm_atc mc40 rfl) rfl <|
  mm_E.aload_n (mm_atc mc40 rfl) rfl <|
  mm_E.getR (b := 51) (mm_atc mc40 rfl) (mm_plc mp40 rfl) rfl ly43 rfl <|
  mm_E.iload (mm_atc mc40 rfl) rfl <|
  mm_E.aaload (mm_atc mc40 rfl) ly51 rfl h5 h6 (la59 h5 h6) <|
  mm_E.aload_n (mm_atc mc40 rfl) rfl <|
  mm_E.getR (b := 52) (mm_atc mc40 rfl) (mm_plc mp40 rfl) rfl ly43 rfl <|
  mm_E.iload (mm_atc mc40 rfl) rfl <|
  mm_E.aaload (mm_atc mc40 rfl) ly52 rfl h5 h6 (la60 h5 h6) <|
  mm_E.aload_n (mm_atc mc40 rfl) rfl <|
  mm_E.getR (b := 57) (mm_atc mc40 rfl) (mm_plc mp40 rfl) rfl ly43 rfl <|
  mm_E.callV0 (mm_atc mc40 rfl) (mm_plc mp40 rfl) rfl mk43 ly43 rfl mx43 rfl rfl s0 (by omega) <|
  show mm_E _ _ 40 65 _ _ _ _ from
  mm_E.aload_n (mm_atc mc40 rfl) rfl <|
  mm_E.getR (b := 57) (mm_atc mc40 rfl) (mm_plc mp40 rfl) rfl ly43 rfl <|
  mm_E.iload (mm_atc mc40 rfl) rfl <|
  mm_E.i2l h7 (mm_atc mc40 rfl) <|
  mm_E.iload (mm_atc mc40 rfl) rfl <|
  mm_E.i2l h8 (mm_atc mc40 rfl) <|
  mm_E.callV0 (mm_atc mc40 rfl) (mm_plc mp40 rfl) rfl mk47 ly57 rfl mx47 rfl rfl s1 (by omega) <|
  show mm_E _ _ 40 78 _ _ _ _ from
  mm_E.aload_n (mm_atc mc40 rfl) rfl <|
  mm_E.iload (mm_atc mc40 rfl) rfl <|
  mm_E.aload_n (mm_atc mc40 rfl) rfl <|
  mm_E.getR (b := 51) (mm_atc mc40 rfl) (mm_plc mp40 rfl) rfl ly43 rfl <|
  mm_E.iload (mm_atc mc40 rfl) rfl <|
  mm_E.aaload (mm_atc mc40 rfl) ly51 rfl h5 h6 (la59 h5 h6) <|
  mm_E.callV0 (mm_atc mc40 rfl) (mm_plc mp40 rfl) rfl mk44 ly43 rfl mx44 rfl rfl s2 (by omega) <|
  show mm_E _ _ 40 91 _ _ _ _ from
  mm_E.inc mx40 rfl (mm_atc mc40 rfl) rfl <|
  show mm_E _ _ 40 94 [(6, mI (x6 + 1)), (7, mI (A 55 x6)), (0, .ref 43), (1, mI x1), (2, mI x2), (3, mI x3), (4, mI x4), (5, mI x5)] _ _ _ from
  mm_E.goto (mm_atc mc40 rfl) rfl <|
  mm_E.to h ⟨rfl, rfl, rfl, rfl, rfl, rfl, rfl, trivial⟩
theorem p40_128_0 {w d : Nat} {X : List Value} {A : MF} {r : MR} {x1 x2 x3 x6 x8 : Int} {a7 : Nat} (la7 : mm_ly a7 = some (3, [1, 1])) (H : R32 x8 ∧ R32 x6 ∧ x6 ≤ x8) (h : mm_E w d 40 162 [(0, .ref 43), (1, mI x1), (2, mI x2), (3, mI x3), (6, mI x6), (7, .ref a7), (8, mI x6)] [] (mm_w X A) r) : mm_E w d 40 128 [(0, .ref 43), (1, mI x1), (2, mI x2), (3, mI x3), (6, mI x6), (7, .ref a7), (8, mI x8)] [] (mm_w X A) r := by
  obtain ⟨h0, h1, h2⟩ := H
  exact mm_E.iload (mm_atc mc40 rfl) rfl <|
  mm_E.iload (mm_atc mc40 rfl) rfl <|
  mm_E.if2 (mm_atc mc40 rfl) h0 h1 (ic_geT h2) rfl <|
  mm_E.iload (mm_atc mc40 rfl) rfl <|
  mm_E.istore mx40 rfl (mm_atc mc40 rfl) <|
  show mm_E _ _ 40 162 [(8, mI x6), (0, .ref 43), (1, mI x1), (2, mI x2), (3, mI x3), (6, mI x6), (7, .ref a7)] _ _ _ from
  mm_E.to h ⟨rfl, rfl, rfl, rfl, rfl, rfl, rfl, trivial⟩
theorem p40_128_1 {d : Nat} {X : List Value} {A : MF} {r : MR} {x1 x2 x3 x6 x8 : Int} {a7 : Nat} (la7 : mm_ly a7 = some (3, [1, 1])) (H : R32 x8 ∧ R32 x6 ∧ x8 < x6 ∧ 0 ≤ x8 ∧ x8 < 6 ∧ 0 ≤ A 55 x8 ∧ A 55 x8 < 6) (h : mm_E 1 (d + 1) 40 128 [(0, .ref 43), (1, mI x1), (2, mI x2), (3, mI x3), (6, mI x6), (7, .ref a7), (8, mI (x8 + 1))] [] (mm_w X (mm_u (mm_u A (60 + 3 * (A 55 x8).toNat) 0 (A a7 0)) (60 + 3 * (A 55 x8).toNat) 1 (A a7 1))) r) : mm_E 1 (d + 1) 40 128 [(0, .ref 43), (1, mI x1), (2, mI x2), (3, mI x3), (6, mI x6), (7, .ref a7), (8, mI x8)] [] (mm_w X A) r := by
  obtain ⟨h0, h1, h2, h3, h4, h5, h6⟩ := H
  exact mm_E.iload (mm_atc mc40 rfl) rfl <|
  mm_E.iload (mm_atc mc40 rfl) rfl <|
  mm_E.if2 (mm_atc mc40 rfl) h0 h1 (ic_geF h2) rfl <|
  mm_E.aload_n (mm_atc mc40 rfl) rfl <|
  mm_E.getR (b := 52) (mm_atc mc40 rfl) (mm_plc mp40 rfl) rfl ly43 rfl <|
  mm_E.aload_n (mm_atc mc40 rfl) rfl <|
  mm_E.getR (b := 55) (mm_atc mc40 rfl) (mm_plc mp40 rfl) rfl ly43 rfl <|
  mm_E.iload (mm_atc mc40 rfl) rfl <|
  mm_E.iaload (e := x8) (mm_atc mc40 rfl) ly55 rfl h3 h4 rfl (rfl) <|
  mm_E.aaload (mm_atc mc40 rfl) ly52 rfl h5 h6 (la60 h5 h6) <|
  mm_E.aload (mm_atc mc40 rfl) rfl <|
  mm_E.callV0 (mm_atc mc40 rfl) (mm_plc mp40 rfl) rfl mk48 (lr60 h5 h6) rfl mx48 rfl rfl (p48_0_0 (d := d) (lr60 h5 h6) la7) (by omega) <|
  show mm_E _ _ 40 152 _ _ _ _ from
  mm_E.inc mx40 rfl (mm_atc mc40 rfl) rfl <|
  show mm_E _ _ 40 155 [(8, mI (x8 + 1)), (0, .ref 43), (1, mI x1), (2, mI x2), (3, mI x3), (6, mI x6), (7, .ref a7)] _ _ _ from
  mm_E.goto (mm_atc mc40 rfl) rfl <|
  mm_E.to h ⟨rfl, rfl, rfl, rfl, rfl, rfl, rfl, trivial⟩
theorem p40_162_0 {d : Nat} {X : List Value} {A : MF} {x1 x2 x3 x6 x8 : Int} {a7 : Nat} {A0 A1 : MF} (la7 : mm_ly a7 = some (3, [1, 1])) (s0 : mm_E 1 d 40 0 [(0, .ref 43), (1, mI x1), (2, mI x6), (3, mI (x3 + 1))] [] (mm_w X A) (.inl (none), mm_w X A0, 0, 0)) (s1 : mm_E 1 d 40 0 [(0, .ref 43), (1, mI x6), (2, mI x2), (3, mI (x3 + 1))] [] (mm_w X A0) (.inl (none), mm_w X A1, 0, 0)) (H : R32 x8 ∧ R32 x2 ∧ x2 ≤ x8) : mm_E 1 (d + 1) 40 162 [(0, .ref 43), (1, mI x1), (2, mI x2), (3, mI x3), (6, mI x6), (7, .ref a7), (8, mI x8)] [] (mm_w X A) (.inl (none), mm_w X A1, 0, 0) := by
  obtain ⟨h0, h1, h2⟩ := H
  exact mm_E.iload (mm_atc mc40 rfl) rfl <|
  mm_E.iload_n (mm_atc mc40 rfl) rfl <|
  mm_E.if2 (mm_atc mc40 rfl) h0 h1 (ic_geT h2) rfl <|
  mm_E.aload_n (mm_atc mc40 rfl) rfl <|
  mm_E.iload_n (mm_atc mc40 rfl) rfl <|
  mm_E.iload (mm_atc mc40 rfl) rfl <|
  mm_E.iload_n (mm_atc mc40 rfl) rfl <|
  mm_E.iconst (mm_atc mc40 rfl) <|
  mm_E.iadd (mm_atc mc40 rfl) <|
  mm_E.callV0 (mm_atc mc40 rfl) (mm_plc mp40 rfl) rfl mk40 ly43 rfl mx40 rfl rfl s0 (by omega) <|
  show mm_E _ _ 40 201 _ _ _ _ from
  mm_E.aload_n (mm_atc mc40 rfl) rfl <|
  mm_E.iload (mm_atc mc40 rfl) rfl <|
  mm_E.iload_n (mm_atc mc40 rfl) rfl <|
  mm_E.iload_n (mm_atc mc40 rfl) rfl <|
  mm_E.iconst (mm_atc mc40 rfl) <|
  mm_E.iadd (mm_atc mc40 rfl) <|
  mm_E.callV0 (mm_atc mc40 rfl) (mm_plc mp40 rfl) rfl mk40 ly43 rfl mx40 rfl rfl s1 (by omega) <|
  show mm_E _ _ 40 211 _ _ _ _ from
  mm_E.vret (mm_atc mc40 rfl) mr40
theorem p40_162_1 {d : Nat} {X : List Value} {A : MF} {r : MR} {x1 x2 x3 x6 x8 : Int} {a7 : Nat} (la7 : mm_ly a7 = some (3, [1, 1])) (H : R32 x8 ∧ R32 x2 ∧ x8 < x2 ∧ 0 ≤ x8 ∧ x8 < 6 ∧ 0 ≤ A 55 x8 ∧ A 55 x8 < 6) (h : mm_E 1 (d + 1) 40 162 [(0, .ref 43), (1, mI x1), (2, mI x2), (3, mI x3), (6, mI x6), (7, .ref a7), (8, mI (x8 + 1))] [] (mm_w X (mm_u (mm_u A (59 + 3 * (A 55 x8).toNat) 0 (A a7 0)) (59 + 3 * (A 55 x8).toNat) 1 (A a7 1))) r) : mm_E 1 (d + 1) 40 162 [(0, .ref 43), (1, mI x1), (2, mI x2), (3, mI x3), (6, mI x6), (7, .ref a7), (8, mI x8)] [] (mm_w X A) r := by
  obtain ⟨h0, h1, h2, h3, h4, h5, h6⟩ := H
  exact mm_E.iload (mm_atc mc40 rfl) rfl <|
  mm_E.iload_n (mm_atc mc40 rfl) rfl <|
  mm_E.if2 (mm_atc mc40 rfl) h0 h1 (ic_geF h2) rfl <|
  mm_E.aload_n (mm_atc mc40 rfl) rfl <|
  mm_E.getR (b := 51) (mm_atc mc40 rfl) (mm_plc mp40 rfl) rfl ly43 rfl <|
  mm_E.aload_n (mm_atc mc40 rfl) rfl <|
  mm_E.getR (b := 55) (mm_atc mc40 rfl) (mm_plc mp40 rfl) rfl ly43 rfl <|
  mm_E.iload (mm_atc mc40 rfl) rfl <|
  mm_E.iaload (e := x8) (mm_atc mc40 rfl) ly55 rfl h3 h4 rfl (rfl) <|
  mm_E.aaload (mm_atc mc40 rfl) ly51 rfl h5 h6 (la59 h5 h6) <|
  mm_E.aload (mm_atc mc40 rfl) rfl <|
  mm_E.callV0 (mm_atc mc40 rfl) (mm_plc mp40 rfl) rfl mk48 (lr59 h5 h6) rfl mx48 rfl rfl (p48_0_0 (d := d) (lr59 h5 h6) la7) (by omega) <|
  show mm_E _ _ 40 185 _ _ _ _ from
  mm_E.inc mx40 rfl (mm_atc mc40 rfl) rfl <|
  show mm_E _ _ 40 188 [(8, mI (x8 + 1)), (0, .ref 43), (1, mI x1), (2, mI x2), (3, mI x3), (6, mI x6), (7, .ref a7)] _ _ _ from
  mm_E.goto (mm_atc mc40 rfl) rfl <|
  mm_E.to h ⟨rfl, rfl, rfl, rfl, rfl, rfl, rfl, trivial⟩
theorem p41_0_0 {w d : Nat} {X : List Value} {A : MF} {r : MR} {x1 x2 : Int} (h : mm_E w d 41 4 [(0, .ref 43), (1, mI x1), (2, mI x2), (3, mI (x1 + 1))] [] (mm_w X A) r) : mm_E w d 41 0 [(0, .ref 43), (1, mI x1), (2, mI x2)] [] (mm_w X A) r := by
  exact mm_E.iload_n (mm_atc mc41 rfl) rfl <|
  mm_E.iconst (mm_atc mc41 rfl) <|
  mm_E.iadd (mm_atc mc41 rfl) <|
  mm_E.istore_n mx41 rfl (mm_atc mc41 rfl) <|
  show mm_E _ _ 41 4 [(3, mI (x1 + 1)), (0, .ref 43), (1, mI x1), (2, mI x2)] _ _ _ from
  mm_E.to h ⟨rfl, rfl, rfl, rfl, trivial⟩
theorem p41_4_0 {w d : Nat} {X : List Value} {A : MF} {x1 x2 x3 : Int} (H : R32 x3 ∧ R32 x2 ∧ x2 ≤ x3) : mm_E w d 41 4 [(0, .ref 43), (1, mI x1), (2, mI x2), (3, mI x3)] [] (mm_w X A) (.inl (none), mm_w X A, 0, 0) := by
  obtain ⟨h0, h1, h2⟩ := H
  exact mm_E.iload_n (mm_atc mc41 rfl) rfl <|
  mm_E.iload_n (mm_atc mc41 rfl) rfl <|
  mm_E.if2 (mm_atc mc41 rfl) h0 h1 (ic_geT h2) rfl <|
  mm_E.vret (mm_atc mc41 rfl) mr41
theorem p41_4_1 {w d : Nat} {X : List Value} {A : MF} {r : MR} {x1 x2 x3 : Int} (H : R32 x3 ∧ R32 x2 ∧ x3 < x2) (h : mm_E w d 41 12 [(0, .ref 43), (1, mI x1), (2, mI x2), (3, mI x3), (4, mI x3)] [] (mm_w X A) r) : mm_E w d 41 4 [(0, .ref 43), (1, mI x1), (2, mI x2), (3, mI x3)] [] (mm_w X A) r := by
  obtain ⟨h0, h1, h2⟩ := H
  exact mm_E.iload_n (mm_atc mc41 rfl) rfl <|
  mm_E.iload_n (mm_atc mc41 rfl) rfl <|
  mm_E.if2 (mm_atc mc41 rfl) h0 h1 (ic_geF h2) rfl <|
  mm_E.iload_n (mm_atc mc41 rfl) rfl <|
  mm_E.istore mx41 rfl (mm_atc mc41 rfl) <|
  show mm_E _ _ 41 12 [(4, mI x3), (0, .ref 43), (1, mI x1), (2, mI x2), (3, mI x3)] _ _ _ from
  mm_E.to h ⟨rfl, rfl, rfl, rfl, rfl, trivial⟩
theorem p41_12_0 {w d : Nat} {X : List Value} {A : MF} {r : MR} {x1 x2 x3 x4 : Int} (H : R32 x4 ∧ R32 x1 ∧ x4 ≤ x1) (h : mm_E w d 41 4 [(0, .ref 43), (1, mI x1), (2, mI x2), (3, mI (x3 + 1))] [] (mm_w X A) r) : mm_E w d 41 12 [(0, .ref 43), (1, mI x1), (2, mI x2), (3, mI x3), (4, mI x4)] [] (mm_w X A) r := by
  obtain ⟨h0, h1, h2⟩ := H
  exact mm_E.iload (mm_atc mc41 rfl) rfl <|
  mm_E.iload_n (mm_atc mc41 rfl) rfl <|
  mm_E.if2 (mm_atc mc41 rfl) h0 h1 (ic_leT h2) rfl <|
  mm_E.inc mx41 rfl (mm_atc mc41 rfl) rfl <|
  show mm_E _ _ 41 86 [(3, mI (x3 + 1)), (0, .ref 43), (1, mI x1), (2, mI x2), (4, mI x4)] _ _ _ from
  mm_E.goto (mm_atc mc41 rfl) rfl <|
  mm_E.to h ⟨rfl, rfl, rfl, rfl, trivial⟩
theorem p41_12_1 {w d : Nat} {X : List Value} {A : MF} {r : MR} {x1 x2 x3 x4 z0 : Int} (s0 : mm_E w d 42 0 [(0, .ref 43), (1, mI (A 55 x4)), (2, mI (A 55 (x4 - 1)))] [] (mm_w X A) (.inl (some (mI z0)), mm_w X A, 0, 0)) (H : R32 x4 ∧ R32 x1 ∧ x1 < x4 ∧ 0 ≤ x4 ∧ x4 < 6 ∧ 0 ≤ x4 - 1 ∧ x4 - 1 < 6 ∧ R32 z0 ∧ z0 = 0) (h : mm_E w (d + 1) 41 4 [(0, .ref 43), (1, mI x1), (2, mI x2), (3, mI (x3 + 1))] [] (mm_w X A) r) : mm_E w (d + 1) 41 12 [(0, .ref 43), (1, mI x1), (2, mI x2), (3, mI x3), (4, mI x4)] [] (mm_w X A) r := by
  obtain ⟨h0, h1, h2, h3, h4, h5, h6, h7, h8⟩ := H
  exact mm_E.iload (mm_atc mc41 rfl) rfl <|
  mm_E.iload_n (mm_atc mc41 rfl) rfl <|
  mm_E.if2 (mm_atc mc41 rfl) h0 h1 (ic_leF h2) rfl <|
  mm_E.aload_n (mm_atc mc41 rfl) rfl <|
  mm_E.aload_n (mm_atc mc41 rfl) rfl <|
  mm_E.getR (b := 55) (mm_atc mc41 rfl) (mm_plc mp41 rfl) rfl ly43 rfl <|
  mm_E.iload (mm_atc mc41 rfl) rfl <|
  mm_E.iaload (e := x4) (mm_atc mc41 rfl) ly55 rfl h3 h4 rfl (rfl) <|
  mm_E.aload_n (mm_atc mc41 rfl) rfl <|
  mm_E.getR (b := 55) (mm_atc mc41 rfl) (mm_plc mp41 rfl) rfl ly43 rfl <|
  mm_E.iload (mm_atc mc41 rfl) rfl <|
  mm_E.iconst (mm_atc mc41 rfl) <|
  mm_E.isub (mm_atc mc41 rfl) <|
  mm_E.iaload (e := x4 - 1) (mm_atc mc41 rfl) ly55 rfl h5 h6 rfl (rfl) <|
  mm_E.callV0 (mm_atc mc41 rfl) (mm_plc mp41 rfl) rfl mk42 ly43 rfl mx42 rfl rfl s0 (by omega) <|
  show mm_E _ _ 41 38 _ _ _ _ from
  mm_E.if1 (mm_atc mc41 rfl) h7 (ic_eqT h8) rfl <|
  mm_E.inc mx41 rfl (mm_atc mc41 rfl) rfl <|
  show mm_E _ _ 41 86 [(3, mI (x3 + 1)), (0, .ref 43), (1, mI x1), (2, mI x2), (4, mI x4)] _ _ _ from
  mm_E.goto (mm_atc mc41 rfl) rfl <|
  mm_E.to h ⟨rfl, rfl, rfl, rfl, trivial⟩
theorem p41_12_2 {d : Nat} {X : List Value} {A : MF} {r : MR} {x1 x2 x3 x4 z0 : Int} (s0 : mm_E 1 d 42 0 [(0, .ref 43), (1, mI (A 55 x4)), (2, mI (A 55 (x4 - 1)))] [] (mm_w X A) (.inl (some (mI z0)), mm_w X A, 0, 0)) (H : R32 x4 ∧ R32 x1 ∧ x1 < x4 ∧ 0 ≤ x4 ∧ x4 < 6 ∧ 0 ≤ x4 - 1 ∧ x4 - 1 < 6 ∧ R32 z0 ∧ z0 ≠ 0) (h : mm_E 1 (d + 1) 41 12 [(0, .ref 43), (1, mI x1), (2, mI x2), (3, mI x3), (4, mI (x4 + (-1)))] [] (mm_w X (mm_u (mm_u A 55 x4 (A 55 (x4 - 1))) 55 (x4 - 1) (A 55 x4))) r) : mm_E 1 (d + 1) 41 12 [(0, .ref 43), (1, mI x1), (2, mI x2), (3, mI x3), (4, mI x4)] [] (mm_w X A) r := by
  obtain ⟨h0, h1, h2, h3, h4, h5, h6, h7, h8⟩ := H
  exact mm_E.iload (mm_atc mc41 rfl) rfl <|
  mm_E.iload_n (mm_atc mc41 rfl) rfl <|
  mm_E.if2 (mm_atc mc41 rfl) h0 h1 (ic_leF h2) rfl <|
  mm_E.aload_n (mm_atc mc41 rfl) rfl <|
  mm_E.aload_n (mm_atc mc41 rfl) rfl <|
  mm_E.getR (b := 55) (mm_atc mc41 rfl) (mm_plc mp41 rfl) rfl ly43 rfl <|
  mm_E.iload (mm_atc mc41 rfl) rfl <|
  mm_E.iaload (e := x4) (mm_atc mc41 rfl) ly55 rfl h3 h4 rfl (rfl) <|
  mm_E.aload_n (mm_atc mc41 rfl) rfl <|
  mm_E.getR (b := 55) (mm_atc mc41 rfl) (mm_plc mp41 rfl) rfl ly43 rfl <|
  mm_E.iload (mm_atc mc41 rfl) rfl <|
  mm_E.iconst (mm_atc mc41 rfl) <|
  mm_E.isub (mm_atc mc41 rfl) <|
  mm_E.iaload (e := x4 - 1) (mm_atc mc41 rfl) ly55 rfl h5 h6 rfl (rfl) <|
  mm_E.callV0 (mm_atc mc41 rfl) (mm_plc mp41 rfl) rfl mk42 ly43 rfl mx42 rfl rfl s0 (by omega) <|
  show mm_E _ _ 41 38 _ _ _ _ from
  mm_E.if1 (mm_atc mc41 rfl) h7 (ic_eqF h8) rfl <|
  mm_E.aload_n (mm_atc mc41 rfl) rfl <|
  mm_E.getR (b := 55) (mm_atc mc41 rfl) (mm_plc mp41 rfl) rfl ly43 rfl <|
  mm_E.iload (mm_atc mc41 rfl) rfl <|
  mm_E.iaload (e := x4) (mm_atc mc41 rfl) ly55 rfl h3 h4 rfl (rfl) <|
  mm_E.istore mx41 rfl (mm_atc mc41 rfl) <|
  show mm_E _ _ 41 50 [(5, mI (A 55 x4)), (0, .ref 43), (1, mI x1), (2, mI x2), (3, mI x3), (4, mI x4)] _ _ _ from
  mm_E.aload_n (mm_atc mc41 rfl) rfl <|
  mm_E.getR (b := 55) (mm_atc mc41 rfl) (mm_plc mp41 rfl) rfl ly43 rfl <|
  mm_E.iload (mm_atc mc41 rfl) rfl <|
  mm_E.aload_n (mm_atc mc41 rfl) rfl <|
  mm_E.getR (b := 55) (mm_atc mc41 rfl) (mm_plc mp41 rfl) rfl ly43 rfl <|
  mm_E.iload (mm_atc mc41 rfl) rfl <|
  mm_E.iconst (mm_atc mc41 rfl) <|
  mm_E.isub (mm_atc mc41 rfl) <|
  mm_E.iaload (e := x4 - 1) (mm_atc mc41 rfl) ly55 rfl h5 h6 rfl (rfl) <|
  mm_E.iastore (e := x4) (z := A 55 (x4 - 1)) (mm_atc mc41 rfl) ly55 rfl h3 h4 rfl rfl <|
  mm_E.aload_n (mm_atc mc41 rfl) rfl <|
  mm_E.getR (b := 55) (mm_atc mc41 rfl) (mm_plc mp41 rfl) rfl ly43 rfl <|
  mm_E.iload (mm_atc mc41 rfl) rfl <|
  mm_E.iconst (mm_atc mc41 rfl) <|
  mm_E.isub (mm_atc mc41 rfl) <|
  mm_E.iload (mm_atc mc41 rfl) rfl <|
  mm_E.iastore (e := x4 - 1) (z := A 55 x4) (mm_atc mc41 rfl) ly55 rfl h5 h6 rfl rfl <|
  mm_E.inc mx41 rfl (mm_atc mc41 rfl) rfl <|
  show mm_E _ _ 41 80 [(4, mI (x4 + (-1))), (5, mI (A 55 x4)), (0, .ref 43), (1, mI x1), (2, mI x2), (3, mI x3)] _ _ _ from
  mm_E.goto (mm_atc mc41 rfl) rfl <|
  mm_E.to h ⟨rfl, rfl, rfl, rfl, rfl, trivial⟩
theorem p42_0_0 {w d : Nat} {X : List Value} {A : MF} {x1 x2 : Int} (H : 0 ≤ x1 ∧ x1 < 6 ∧ 0 ≤ x2 ∧ x2 < 6 ∧ R64 ((A (61 + 3 * x1.toNat) 0) * (A (61 + 3 * x2.toNat) 1)) ∧ R64 ((A (61 + 3 * x2.toNat) 0) * (A (61 + 3 * x1.toNat) 1)) ∧ (A (61 + 3 * x2.toNat) 0) * (A (61 + 3 * x1.toNat) 1) ≤ (A (61 + 3 * x1.toNat) 0) * (A (61 + 3 * x2.toNat) 1) ∧ R32 x1 ∧ R32 x2 ∧ x2 ≤ x1) : mm_E w (d + 1) 42 0 [(0, .ref 43), (1, mI x1), (2, mI x2)] [] (mm_w X A) (.inl (some (mI 0)), mm_w X A, 0, 0) := by
  obtain ⟨h0, h1, h2, h3, h4, h5, h6, h7, h8, h9⟩ := H
  exact mm_E.aload_n (mm_atc mc42 rfl) rfl <|
  mm_E.getR (b := 53) (mm_atc mc42 rfl) (mm_plc mp42 rfl) rfl ly43 rfl <|
  mm_E.iload_n (mm_atc mc42 rfl) rfl <|
  mm_E.aaload (mm_atc mc42 rfl) ly53 rfl h0 h1 (la61 h0 h1) <|
  mm_E.aload_n (mm_atc mc42 rfl) rfl <|
  mm_E.getR (b := 53) (mm_atc mc42 rfl) (mm_plc mp42 rfl) rfl ly43 rfl <|
  mm_E.iload_n (mm_atc mc42 rfl) rfl <|
  mm_E.aaload (mm_atc mc42 rfl) ly53 rfl h2 h3 (la61 h2 h3) <|
  mm_E.callV0 (mm_atc mc42 rfl) (mm_plc mp42 rfl) rfl mk50 (lr61 h0 h1) rfl mx50 rfl rfl (p50_0_0 (d := d) (lr61 h0 h1) (lr61 h2 h3) ⟨h4, h5, h6⟩) (by omega) <|
  show mm_E _ _ 42 15 _ _ _ _ from
  mm_E.if1 (mm_atc mc42 rfl) (by decide) (ic_eqT (by decide)) rfl <|
  mm_E.iload_n (mm_atc mc42 rfl) rfl <|
  mm_E.iload_n (mm_atc mc42 rfl) rfl <|
  mm_E.if2 (mm_atc mc42 rfl) h7 h8 (ic_geT h9) rfl <|
  mm_E.iconst (mm_atc mc42 rfl) <|
  mm_E.iret (mm_atc mc42 rfl) mr42 rfl
theorem p42_0_1 {w d : Nat} {X : List Value} {A : MF} {x1 x2 : Int} (H : 0 ≤ x1 ∧ x1 < 6 ∧ 0 ≤ x2 ∧ x2 < 6 ∧ R64 ((A (61 + 3 * x1.toNat) 0) * (A (61 + 3 * x2.toNat) 1)) ∧ R64 ((A (61 + 3 * x2.toNat) 0) * (A (61 + 3 * x1.toNat) 1)) ∧ (A (61 + 3 * x2.toNat) 0) * (A (61 + 3 * x1.toNat) 1) ≤ (A (61 + 3 * x1.toNat) 0) * (A (61 + 3 * x2.toNat) 1) ∧ R32 x1 ∧ R32 x2 ∧ x1 < x2 ∧ (A (61 + 3 * x1.toNat) 0) * (A (61 + 3 * x2.toNat) 1) ≤ (A (61 + 3 * x2.toNat) 0) * (A (61 + 3 * x1.toNat) 1)) : mm_E w (d + 1) 42 0 [(0, .ref 43), (1, mI x1), (2, mI x2)] [] (mm_w X A) (.inl (some (mI 1)), mm_w X A, 0, 0) := by
  obtain ⟨h0, h1, h2, h3, h4, h5, h6, h7, h8, h9, h10⟩ := H
  exact mm_E.aload_n (mm_atc mc42 rfl) rfl <|
  mm_E.getR (b := 53) (mm_atc mc42 rfl) (mm_plc mp42 rfl) rfl ly43 rfl <|
  mm_E.iload_n (mm_atc mc42 rfl) rfl <|
  mm_E.aaload (mm_atc mc42 rfl) ly53 rfl h0 h1 (la61 h0 h1) <|
  mm_E.aload_n (mm_atc mc42 rfl) rfl <|
  mm_E.getR (b := 53) (mm_atc mc42 rfl) (mm_plc mp42 rfl) rfl ly43 rfl <|
  mm_E.iload_n (mm_atc mc42 rfl) rfl <|
  mm_E.aaload (mm_atc mc42 rfl) ly53 rfl h2 h3 (la61 h2 h3) <|
  mm_E.callV0 (mm_atc mc42 rfl) (mm_plc mp42 rfl) rfl mk50 (lr61 h0 h1) rfl mx50 rfl rfl (p50_0_0 (d := d) (lr61 h0 h1) (lr61 h2 h3) ⟨h4, h5, h6⟩) (by omega) <|
  show mm_E _ _ 42 15 _ _ _ _ from
  mm_E.if1 (mm_atc mc42 rfl) (by decide) (ic_eqT (by decide)) rfl <|
  mm_E.iload_n (mm_atc mc42 rfl) rfl <|
  mm_E.iload_n (mm_atc mc42 rfl) rfl <|
  mm_E.if2 (mm_atc mc42 rfl) h7 h8 (ic_geF h9) rfl <|
  mm_E.aload_n (mm_atc mc42 rfl) rfl <|
  mm_E.getR (b := 53) (mm_atc mc42 rfl) (mm_plc mp42 rfl) rfl ly43 rfl <|
  mm_E.iload_n (mm_atc mc42 rfl) rfl <|
  mm_E.aaload (mm_atc mc42 rfl) ly53 rfl h2 h3 (la61 h2 h3) <|
  mm_E.aload_n (mm_atc mc42 rfl) rfl <|
  mm_E.getR (b := 53) (mm_atc mc42 rfl) (mm_plc mp42 rfl) rfl ly43 rfl <|
  mm_E.iload_n (mm_atc mc42 rfl) rfl <|
  mm_E.aaload (mm_atc mc42 rfl) ly53 rfl h0 h1 (la61 h0 h1) <|
  mm_E.callV0 (mm_atc mc42 rfl) (mm_plc mp42 rfl) rfl mk50 (lr61 h2 h3) rfl mx50 rfl rfl (p50_0_0 (d := d) (lr61 h2 h3) (lr61 h0 h1) ⟨h5, h4, h10⟩) (by omega) <|
  show mm_E _ _ 42 40 _ _ _ _ from
  mm_E.if1 (mm_atc mc42 rfl) (by decide) (ic_neF (by decide)) rfl <|
  mm_E.iconst (mm_atc mc42 rfl) <|
  mm_E.goto (mm_atc mc42 rfl) rfl <|
  mm_E.iret (mm_atc mc42 rfl) mr42 rfl
theorem p42_0_2 {w d : Nat} {X : List Value} {A : MF} {x1 x2 : Int} (H : 0 ≤ x1 ∧ x1 < 6 ∧ 0 ≤ x2 ∧ x2 < 6 ∧ R64 ((A (61 + 3 * x1.toNat) 0) * (A (61 + 3 * x2.toNat) 1)) ∧ R64 ((A (61 + 3 * x2.toNat) 0) * (A (61 + 3 * x1.toNat) 1)) ∧ (A (61 + 3 * x2.toNat) 0) * (A (61 + 3 * x1.toNat) 1) ≤ (A (61 + 3 * x1.toNat) 0) * (A (61 + 3 * x2.toNat) 1) ∧ R32 x1 ∧ R32 x2 ∧ x1 < x2 ∧ (A (61 + 3 * x2.toNat) 0) * (A (61 + 3 * x1.toNat) 1) < (A (61 + 3 * x1.toNat) 0) * (A (61 + 3 * x2.toNat) 1)) : mm_E w (d + 1) 42 0 [(0, .ref 43), (1, mI x1), (2, mI x2)] [] (mm_w X A) (.inl (some (mI 0)), mm_w X A, 0, 0) := by
  obtain ⟨h0, h1, h2, h3, h4, h5, h6, h7, h8, h9, h10⟩ := H
  exact mm_E.aload_n (mm_atc mc42 rfl) rfl <|
  mm_E.getR (b := 53) (mm_atc mc42 rfl) (mm_plc mp42 rfl) rfl ly43 rfl <|
  mm_E.iload_n (mm_atc mc42 rfl) rfl <|
  mm_E.aaload (mm_atc mc42 rfl) ly53 rfl h0 h1 (la61 h0 h1) <|
  mm_E.aload_n (mm_atc mc42 rfl) rfl <|
  mm_E.getR (b := 53) (mm_atc mc42 rfl) (mm_plc mp42 rfl) rfl ly43 rfl <|
  mm_E.iload_n (mm_atc mc42 rfl) rfl <|
  mm_E.aaload (mm_atc mc42 rfl) ly53 rfl h2 h3 (la61 h2 h3) <|
  mm_E.callV0 (mm_atc mc42 rfl) (mm_plc mp42 rfl) rfl mk50 (lr61 h0 h1) rfl mx50 rfl rfl (p50_0_0 (d := d) (lr61 h0 h1) (lr61 h2 h3) ⟨h4, h5, h6⟩) (by omega) <|
  show mm_E _ _ 42 15 _ _ _ _ from
  mm_E.if1 (mm_atc mc42 rfl) (by decide) (ic_eqT (by decide)) rfl <|
  mm_E.iload_n (mm_atc mc42 rfl) rfl <|
  mm_E.iload_n (mm_atc mc42 rfl) rfl <|
  mm_E.if2 (mm_atc mc42 rfl) h7 h8 (ic_geF h9) rfl <|
  mm_E.aload_n (mm_atc mc42 rfl) rfl <|
  mm_E.getR (b := 53) (mm_atc mc42 rfl) (mm_plc mp42 rfl) rfl ly43 rfl <|
  mm_E.iload_n (mm_atc mc42 rfl) rfl <|
  mm_E.aaload (mm_atc mc42 rfl) ly53 rfl h2 h3 (la61 h2 h3) <|
  mm_E.aload_n (mm_atc mc42 rfl) rfl <|
  mm_E.getR (b := 53) (mm_atc mc42 rfl) (mm_plc mp42 rfl) rfl ly43 rfl <|
  mm_E.iload_n (mm_atc mc42 rfl) rfl <|
  mm_E.aaload (mm_atc mc42 rfl) ly53 rfl h0 h1 (la61 h0 h1) <|
  mm_E.callV0 (mm_atc mc42 rfl) (mm_plc mp42 rfl) rfl mk50 (lr61 h2 h3) rfl mx50 rfl rfl (p50_0_1 (d := d) (lr61 h2 h3) (lr61 h0 h1) ⟨h5, h4, h10⟩) (by omega) <|
  show mm_E _ _ 42 40 _ _ _ _ from
  mm_E.if1 (mm_atc mc42 rfl) (by decide) (ic_neT (by decide)) rfl <|
  mm_E.iconst (mm_atc mc42 rfl) <|
  mm_E.iret (mm_atc mc42 rfl) mr42 rfl
theorem p42_0_3 {w d : Nat} {X : List Value} {A : MF} {x1 x2 : Int} (H : 0 ≤ x1 ∧ x1 < 6 ∧ 0 ≤ x2 ∧ x2 < 6 ∧ R64 ((A (61 + 3 * x1.toNat) 0) * (A (61 + 3 * x2.toNat) 1)) ∧ R64 ((A (61 + 3 * x2.toNat) 0) * (A (61 + 3 * x1.toNat) 1)) ∧ (A (61 + 3 * x1.toNat) 0) * (A (61 + 3 * x2.toNat) 1) < (A (61 + 3 * x2.toNat) 0) * (A (61 + 3 * x1.toNat) 1)) : mm_E w (d + 1) 42 0 [(0, .ref 43), (1, mI x1), (2, mI x2)] [] (mm_w X A) (.inl (some (mI 1)), mm_w X A, 0, 0) := by
  obtain ⟨h0, h1, h2, h3, h4, h5, h6⟩ := H
  exact mm_E.aload_n (mm_atc mc42 rfl) rfl <|
  mm_E.getR (b := 53) (mm_atc mc42 rfl) (mm_plc mp42 rfl) rfl ly43 rfl <|
  mm_E.iload_n (mm_atc mc42 rfl) rfl <|
  mm_E.aaload (mm_atc mc42 rfl) ly53 rfl h0 h1 (la61 h0 h1) <|
  mm_E.aload_n (mm_atc mc42 rfl) rfl <|
  mm_E.getR (b := 53) (mm_atc mc42 rfl) (mm_plc mp42 rfl) rfl ly43 rfl <|
  mm_E.iload_n (mm_atc mc42 rfl) rfl <|
  mm_E.aaload (mm_atc mc42 rfl) ly53 rfl h2 h3 (la61 h2 h3) <|
  mm_E.callV0 (mm_atc mc42 rfl) (mm_plc mp42 rfl) rfl mk50 (lr61 h0 h1) rfl mx50 rfl rfl (p50_0_1 (d := d) (lr61 h0 h1) (lr61 h2 h3) ⟨h4, h5, h6⟩) (by omega) <|
  show mm_E _ _ 42 15 _ _ _ _ from
  mm_E.if1 (mm_atc mc42 rfl) (by decide) (ic_eqF (by decide)) rfl <|
  mm_E.iconst (mm_atc mc42 rfl) <|
  mm_E.iret (mm_atc mc42 rfl) mr42 rfl
theorem p43_0_0 {w d : Nat} {X : List Value} {A : MF} {r : MR} {x1 z0 z1 z2 : Int} {a2 a3 a4 : Nat} (la2 : mm_ly a2 = some (3, [1, 1])) (la3 : mm_ly a3 = some (3, [1, 1])) (la4 : mm_ly a4 = some (3, [1, 1])) (s0 : mm_E w d 51 0 [(0, .ref a2), (1, .ref a3)] [] (mm_w X A) (.inl (some (mJ z0)), mm_w X A, 0, 0)) (s1 : mm_E w d 52 0 [(0, .ref a2), (1, mJ z0)] [] (mm_w X A) (.inl (some (mJ z1)), mm_w X A, 0, 0)) (s2 : mm_E w d 52 0 [(0, .ref a3), (1, mJ z0)] [] (mm_w X A) (.inl (some (mJ z2)), mm_w X A, 0, 0)) (h : mm_E w (d + 1) 43 29 [(0, .ref 43), (1, mI x1), (4, .ref a4), (5, mJ z0), (7, mJ z1), (9, mJ z2), (11, mJ 0), (13, mI 0)] [] (mm_w X A) r) : mm_E w (d + 1) 43 0 [(0, .ref 43), (1, mI x1), (2, .ref a2), (3, .ref a3), (4, .ref a4)] [] (mm_w X A) r := by
  exact mm_E.aload_n (mm_atc mc43 rfl) rfl <|
  mm_E.aload_n (mm_atc mc43 rfl) rfl <|
  mm_E.callV0 (mm_atc mc43 rfl) (mm_plc mp43 rfl) rfl mk51 la2 rfl mx51 rfl rfl s0 (by omega) <|
  show mm_E _ _ 43 5 _ _ _ _ from
  mm_E.lstore mx43 rfl (mm_atc mc43 rfl) <|
  show mm_E _ _ 43 7 [(5, mJ z0), (0, .ref 43), (1, mI x1), (2, .ref a2), (3, .ref a3), (4, .ref a4)] _ _ _ from
  mm_E.aload_n (mm_atc mc43 rfl) rfl <|
  mm_E.lload (mm_atc mc43 rfl) rfl <|
  mm_E.callV0 (mm_atc mc43 rfl) (mm_plc mp43 rfl) rfl mk52 la2 rfl mx52 rfl rfl s1 (by omega) <|
  show mm_E _ _ 43 13 _ _ _ _ from
  mm_E.lstore mx43 rfl (mm_atc mc43 rfl) <|
  show mm_E _ _ 43 15 [(7, mJ z1), (5, mJ z0), (0, .ref 43), (1, mI x1), (2, .ref a2), (3, .ref a3), (4, .ref a4)] _ _ _ from
  mm_E.aload_n (mm_atc mc43 rfl) rfl <|
  mm_E.lload (mm_atc mc43 rfl) rfl <|
  mm_E.callV0 (mm_atc mc43 rfl) (mm_plc mp43 rfl) rfl mk52 la3 rfl mx52 rfl rfl s2 (by omega) <|
  show mm_E _ _ 43 21 _ _ _ _ from
  mm_E.lstore mx43 rfl (mm_atc mc43 rfl) <|
  show mm_E _ _ 43 23 [(9, mJ z2), (7, mJ z1), (5, mJ z0), (0, .ref 43), (1, mI x1), (2, .ref a2), (3, .ref a3), (4, .ref a4)] _ _ _ from
  mm_E.lconst (z := 0) (mm_atc mc43 rfl) rfl <|
  mm_E.lstore mx43 rfl (mm_atc mc43 rfl) <|
  show mm_E _ _ 43 26 [(11, mJ 0), (9, mJ z2), (7, mJ z1), (5, mJ z0), (0, .ref 43), (1, mI x1), (2, .ref a2), (3, .ref a3), (4, .ref a4)] _ _ _ from
  mm_E.iconst (mm_atc mc43 rfl) <|
  mm_E.istore mx43 rfl (mm_atc mc43 rfl) <|
  show mm_E _ _ 43 29 [(13, mI 0), (11, mJ 0), (9, mJ z2), (7, mJ z1), (5, mJ z0), (0, .ref 43), (1, mI x1), (2, .ref a2), (3, .ref a3), (4, .ref a4)] _ _ _ from
  mm_E.to h ⟨rfl, rfl, rfl, rfl, rfl, rfl, rfl, rfl, trivial⟩
theorem p43_29_0 {d : Nat} {X : List Value} {A : MF} {x1 y5 y7 y9 y11 x13 : Int} {a4 : Nat} {A0 : MF} (la4 : mm_ly a4 = some (3, [1, 1])) (s0 : mm_E 1 d 46 0 [(0, .ref a4), (1, mJ y11), (3, mJ y5)] [] (mm_w X A) (.inl (none), mm_w X A0, 0, 0)) (H : R32 x13 ∧ R32 (A 43 1) ∧ A 43 1 ≤ x13) : mm_E 1 (d + 1) 43 29 [(0, .ref 43), (1, mI x1), (4, .ref a4), (5, mJ y5), (7, mJ y7), (9, mJ y9), (11, mJ y11), (13, mI x13)] [] (mm_w X A) (.inl (none), mm_w X A0, 0, 0) := by
  obtain ⟨h0, h1, h2⟩ := H
  exact mm_E.iload (mm_atc mc43 rfl) rfl <|
  mm_E.aload_n (mm_atc mc43 rfl) rfl <|
  mm_E.getI (z := A 43 1) (mm_atc mc43 rfl) (mm_plc mp43 rfl) rfl ly43 rfl (rfl) <|
  mm_E.if2 (mm_atc mc43 rfl) h0 h1 (ic_geT h2) rfl <|
  mm_E.aload (mm_atc mc43 rfl) rfl <|
  mm_E.lload (mm_atc mc43 rfl) rfl <|
  mm_E.lload (mm_atc mc43 rfl) rfl <|
  mm_E.callV0 (mm_atc mc43 rfl) (mm_plc mp43 rfl) rfl mk46 la4 rfl mx46 rfl rfl s0 (by omega) <|
  show mm_E _ _ 43 105 _ _ _ _ from
  mm_E.vret (mm_atc mc43 rfl) mr43
theorem p43_29_1 {w d : Nat} {X : List Value} {A : MF} {r : MR} {x1 y5 y7 y9 y11 x13 : Int} {a4 : Nat} (la4 : mm_ly a4 = some (3, [1, 1])) (H : R32 x13 ∧ R32 (A 43 1) ∧ x13 < A 43 1 ∧ R32 (x13 + 1) ∧ R64 y9 ∧ R64 ((x13 + 1) * y5) ∧ R64 y7 ∧ R64 (x13 * y5) ∧ R64 ((min y9 ((x13 + 1) * y5)) - (max y7 (x13 * y5))) ∧ (min y9 ((x13 + 1) * y5)) - (max y7 (x13 * y5)) ≤ 0) (h : mm_E w (d + 1) 43 29 [(0, .ref 43), (1, mI x1), (4, .ref a4), (5, mJ y5), (7, mJ y7), (9, mJ y9), (11, mJ y11), (13, mI (x13 + 1))] [] (mm_w X A) r) : mm_E w (d + 1) 43 29 [(0, .ref 43), (1, mI x1), (4, .ref a4), (5, mJ y5), (7, mJ y7), (9, mJ y9), (11, mJ y11), (13, mI x13)] [] (mm_w X A) r := by
  obtain ⟨h0, h1, h2, h3, h4, h5, h6, h7, h8, h9⟩ := H
  exact mm_E.iload (mm_atc mc43 rfl) rfl <|
  mm_E.aload_n (mm_atc mc43 rfl) rfl <|
  mm_E.getI (z := A 43 1) (mm_atc mc43 rfl) (mm_plc mp43 rfl) rfl ly43 rfl (rfl) <|
  mm_E.if2 (mm_atc mc43 rfl) h0 h1 (ic_geF h2) rfl <|
  mm_E.lload (mm_atc mc43 rfl) rfl <|
  mm_E.iload (mm_atc mc43 rfl) rfl <|
  mm_E.iconst (mm_atc mc43 rfl) <|
  mm_E.iadd (mm_atc mc43 rfl) <|
  mm_E.i2l h3 (mm_atc mc43 rfl) <|
  mm_E.lload (mm_atc mc43 rfl) rfl <|
  mm_E.lmul (mm_atc mc43 rfl) <|
  mm_E.minL h4 h5 (mm_atc mc43 rfl) (mm_plc mp43 rfl) rfl <|
  mm_E.lload (mm_atc mc43 rfl) rfl <|
  mm_E.iload (mm_atc mc43 rfl) rfl <|
  mm_E.i2l h0 (mm_atc mc43 rfl) <|
  mm_E.lload (mm_atc mc43 rfl) rfl <|
  mm_E.lmul (mm_atc mc43 rfl) <|
  mm_E.maxL h6 h7 (mm_atc mc43 rfl) (mm_plc mp43 rfl) rfl <|
  mm_E.lsub (mm_atc mc43 rfl) <|
  mm_E.lstore mx43 rfl (mm_atc mc43 rfl) <|
  show mm_E _ _ 43 65 [(14, mJ ((min y9 ((x13 + 1) * y5)) - (max y7 (x13 * y5)))), (0, .ref 43), (1, mI x1), (4, .ref a4), (5, mJ y5), (7, mJ y7), (9, mJ y9), (11, mJ y11), (13, mI x13)] _ _ _ from
  mm_E.lload (mm_atc mc43 rfl) rfl <|
  mm_E.lconst (z := 0) (mm_atc mc43 rfl) rfl <|
  mm_E.lif (mm_atc mc43 rfl) (mm_atc mc43 rfl) h8 (by decide) (ic_leT h9) rfl <|
  mm_E.inc mx43 rfl (mm_atc mc43 rfl) rfl <|
  show mm_E _ _ 43 93 [(13, mI (x13 + 1)), (14, mJ ((min y9 ((x13 + 1) * y5)) - (max y7 (x13 * y5)))), (0, .ref 43), (1, mI x1), (4, .ref a4), (5, mJ y5), (7, mJ y7), (9, mJ y9), (11, mJ y11)] _ _ _ from
  mm_E.goto (mm_atc mc43 rfl) rfl <|
  mm_E.to h ⟨rfl, rfl, rfl, rfl, rfl, rfl, rfl, rfl, trivial⟩
theorem p43_29_2 {w d : Nat} {X : List Value} {A : MF} {r : MR} {x1 y5 y7 y9 y11 x13 : Int} {a4 : Nat} (la4 : mm_ly a4 = some (3, [1, 1])) (H : R32 x13 ∧ R32 (A 43 1) ∧ x13 < A 43 1 ∧ R32 (x13 + 1) ∧ R64 y9 ∧ R64 ((x13 + 1) * y5) ∧ R64 y7 ∧ R64 (x13 * y5) ∧ R64 ((min y9 ((x13 + 1) * y5)) - (max y7 (x13 * y5))) ∧ 0 < (min y9 ((x13 + 1) * y5)) - (max y7 (x13 * y5)) ∧ 0 ≤ x1 ∧ x1 < 6 ∧ 0 ≤ x13 ∧ x13 < 16 ∧ R32 (A (45 + x1.toNat) x13)) (h : mm_E w (d + 1) 43 29 [(0, .ref 43), (1, mI x1), (4, .ref a4), (5, mJ y5), (7, mJ y7), (9, mJ y9), (11, mJ (y11 + (((min y9 ((x13 + 1) * y5)) - (max y7 (x13 * y5))) * (A (45 + x1.toNat) x13)))), (13, mI (x13 + 1))] [] (mm_w X A) r) : mm_E w (d + 1) 43 29 [(0, .ref 43), (1, mI x1), (4, .ref a4), (5, mJ y5), (7, mJ y7), (9, mJ y9), (11, mJ y11), (13, mI x13)] [] (mm_w X A) r := by
  obtain ⟨h0, h1, h2, h3, h4, h5, h6, h7, h8, h9, h10, h11, h12, h13, h14⟩ := H
  exact mm_E.iload (mm_atc mc43 rfl) rfl <|
  mm_E.aload_n (mm_atc mc43 rfl) rfl <|
  mm_E.getI (z := A 43 1) (mm_atc mc43 rfl) (mm_plc mp43 rfl) rfl ly43 rfl (rfl) <|
  mm_E.if2 (mm_atc mc43 rfl) h0 h1 (ic_geF h2) rfl <|
  mm_E.lload (mm_atc mc43 rfl) rfl <|
  mm_E.iload (mm_atc mc43 rfl) rfl <|
  mm_E.iconst (mm_atc mc43 rfl) <|
  mm_E.iadd (mm_atc mc43 rfl) <|
  mm_E.i2l h3 (mm_atc mc43 rfl) <|
  mm_E.lload (mm_atc mc43 rfl) rfl <|
  mm_E.lmul (mm_atc mc43 rfl) <|
  mm_E.minL h4 h5 (mm_atc mc43 rfl) (mm_plc mp43 rfl) rfl <|
  mm_E.lload (mm_atc mc43 rfl) rfl <|
  mm_E.iload (mm_atc mc43 rfl) rfl <|
  mm_E.i2l h0 (mm_atc mc43 rfl) <|
  mm_E.lload (mm_atc mc43 rfl) rfl <|
  mm_E.lmul (mm_atc mc43 rfl) <|
  mm_E.maxL h6 h7 (mm_atc mc43 rfl) (mm_plc mp43 rfl) rfl <|
  mm_E.lsub (mm_atc mc43 rfl) <|
  mm_E.lstore mx43 rfl (mm_atc mc43 rfl) <|
  show mm_E _ _ 43 65 [(14, mJ ((min y9 ((x13 + 1) * y5)) - (max y7 (x13 * y5)))), (0, .ref 43), (1, mI x1), (4, .ref a4), (5, mJ y5), (7, mJ y7), (9, mJ y9), (11, mJ y11), (13, mI x13)] _ _ _ from
  mm_E.lload (mm_atc mc43 rfl) rfl <|
  mm_E.lconst (z := 0) (mm_atc mc43 rfl) rfl <|
  mm_E.lif (mm_atc mc43 rfl) (mm_atc mc43 rfl) h8 (by decide) (ic_leF h9) rfl <|
  mm_E.lload (mm_atc mc43 rfl) rfl <|
  mm_E.lload (mm_atc mc43 rfl) rfl <|
  mm_E.aload_n (mm_atc mc43 rfl) rfl <|
  mm_E.getR (b := 44) (mm_atc mc43 rfl) (mm_plc mp43 rfl) rfl ly43 rfl <|
  mm_E.iload_n (mm_atc mc43 rfl) rfl <|
  mm_E.aaload (mm_atc mc43 rfl) ly44 rfl h10 h11 (la45 h10 h11) <|
  mm_E.iload (mm_atc mc43 rfl) rfl <|
  mm_E.iaload (e := x13) (mm_atc mc43 rfl) (lr45 h10 h11) rfl h12 h13 rfl (rfl) <|
  mm_E.i2l h14 (mm_atc mc43 rfl) <|
  mm_E.lmul (mm_atc mc43 rfl) <|
  mm_E.ladd (mm_atc mc43 rfl) <|
  mm_E.lstore mx43 rfl (mm_atc mc43 rfl) <|
  show mm_E _ _ 43 90 [(11, mJ (y11 + (((min y9 ((x13 + 1) * y5)) - (max y7 (x13 * y5))) * (A (45 + x1.toNat) x13)))), (14, mJ ((min y9 ((x13 + 1) * y5)) - (max y7 (x13 * y5)))), (0, .ref 43), (1, mI x1), (4, .ref a4), (5, mJ y5), (7, mJ y7), (9, mJ y9), (13, mI x13)] _ _ _ from
  mm_E.inc mx43 rfl (mm_atc mc43 rfl) rfl <|
  show mm_E _ _ 43 93 [(13, mI (x13 + 1)), (11, mJ (y11 + (((min y9 ((x13 + 1) * y5)) - (max y7 (x13 * y5))) * (A (45 + x1.toNat) x13)))), (14, mJ ((min y9 ((x13 + 1) * y5)) - (max y7 (x13 * y5)))), (0, .ref 43), (1, mI x1), (4, .ref a4), (5, mJ y5), (7, mJ y7), (9, mJ y9)] _ _ _ from
  mm_E.goto (mm_atc mc43 rfl) rfl <|
  mm_E.to h ⟨rfl, rfl, rfl, rfl, rfl, rfl, rfl, rfl, trivial⟩
theorem p44_0_0 {d : Nat} {X : List Value} {A : MF} {r : MR} {x1 z0 z1 z2 : Int} {a2 : Nat} (la2 : mm_ly a2 = some (3, [1, 1])) (s0 : mm_E 1 d 51 0 [(0, .ref a2), (1, .ref 57)] [] (mm_w X (mm_u (mm_u A (61 + 3 * x1.toNat) 0 (A a2 0)) (61 + 3 * x1.toNat) 1 (A a2 1))) (.inl (some (mJ z0)), mm_w X (mm_u (mm_u A (61 + 3 * x1.toNat) 0 (A a2 0)) (61 + 3 * x1.toNat) 1 (A a2 1)), 0, 0)) (s1 : mm_E 1 d 52 0 [(0, .ref a2), (1, mJ z0)] [] (mm_w X (mm_u (mm_u A (61 + 3 * x1.toNat) 0 (A a2 0)) (61 + 3 * x1.toNat) 1 (A a2 1))) (.inl (some (mJ z1)), mm_w X (mm_u (mm_u A (61 + 3 * x1.toNat) 0 (A a2 0)) (61 + 3 * x1.toNat) 1 (A a2 1)), 0, 0)) (s2 : mm_E 1 d 52 0 [(0, .ref 57), (1, mJ z0)] [] (mm_w X (mm_u (mm_u A (61 + 3 * x1.toNat) 0 (A a2 0)) (61 + 3 * x1.toNat) 1 (A a2 1))) (.inl (some (mJ z2)), mm_w X (mm_u (mm_u A (61 + 3 * x1.toNat) 0 (A a2 0)) (61 + 3 * x1.toNat) 1 (A a2 1)), 0, 0)) (H : 0 ≤ x1 ∧ x1 < 6) (h : mm_E 1 (d + 1) 44 39 [(0, .ref 43), (1, mI x1), (3, mJ z0), (5, mJ z1), (7, mJ z2), (9, mI 0)] [] (mm_w X (mm_u (mm_u A (61 + 3 * x1.toNat) 0 (A a2 0)) (61 + 3 * x1.toNat) 1 (A a2 1))) r) : mm_E 1 (d + 1) 44 0 [(0, .ref 43), (1, mI x1), (2, .ref a2)] [] (mm_w X A) r := by
  obtain ⟨h0, h1⟩ := H
  exact mm_E.aload_n (mm_atc mc44 rfl) rfl <|
  mm_E.getR (b := 53) (mm_atc mc44 rfl) (mm_plc mp44 rfl) rfl ly43 rfl <|
  mm_E.iload_n (mm_atc mc44 rfl) rfl <|
  mm_E.aaload (mm_atc mc44 rfl) ly53 rfl h0 h1 (la61 h0 h1) <|
  mm_E.aload_n (mm_atc mc44 rfl) rfl <|
  mm_E.callV0 (mm_atc mc44 rfl) (mm_plc mp44 rfl) rfl mk48 (lr61 h0 h1) rfl mx48 rfl rfl (p48_0_0 (d := d) (lr61 h0 h1) la2) (by omega) <|
  show mm_E _ _ 44 10 _ _ _ _ from
  mm_E.aload_n (mm_atc mc44 rfl) rfl <|
  mm_E.aload_n (mm_atc mc44 rfl) rfl <|
  mm_E.getR (b := 57) (mm_atc mc44 rfl) (mm_plc mp44 rfl) rfl ly43 rfl <|
  mm_E.callV0 (mm_atc mc44 rfl) (mm_plc mp44 rfl) rfl mk51 la2 rfl mx51 rfl rfl s0 (by omega) <|
  show mm_E _ _ 44 18 _ _ _ _ from
  mm_E.lstore_n mx44 rfl (mm_atc mc44 rfl) <|
  show mm_E _ _ 44 19 [(3, mJ z0), (0, .ref 43), (1, mI x1), (2, .ref a2)] _ _ _ from
  mm_E.aload_n (mm_atc mc44 rfl) rfl <|
  mm_E.lload_n (mm_atc mc44 rfl) rfl <|
  mm_E.callV0 (mm_atc mc44 rfl) (mm_plc mp44 rfl) rfl mk52 la2 rfl mx52 rfl rfl s1 (by omega) <|
  show mm_E _ _ 44 24 _ _ _ _ from
  mm_E.lstore mx44 rfl (mm_atc mc44 rfl) <|
  show mm_E _ _ 44 26 [(5, mJ z1), (3, mJ z0), (0, .ref 43), (1, mI x1), (2, .ref a2)] _ _ _ from
  mm_E.aload_n (mm_atc mc44 rfl) rfl <|
  mm_E.getR (b := 57) (mm_atc mc44 rfl) (mm_plc mp44 rfl) rfl ly43 rfl <|
  mm_E.lload_n (mm_atc mc44 rfl) rfl <|
  mm_E.callV0 (mm_atc mc44 rfl) (mm_plc mp44 rfl) rfl mk52 ly57 rfl mx52 rfl rfl s2 (by omega) <|
  show mm_E _ _ 44 34 _ _ _ _ from
  mm_E.lstore mx44 rfl (mm_atc mc44 rfl) <|
  show mm_E _ _ 44 36 [(7, mJ z2), (5, mJ z1), (3, mJ z0), (0, .ref 43), (1, mI x1), (2, .ref a2)] _ _ _ from
  mm_E.iconst (mm_atc mc44 rfl) <|
  mm_E.istore mx44 rfl (mm_atc mc44 rfl) <|
  show mm_E _ _ 44 39 [(9, mI 0), (7, mJ z2), (5, mJ z1), (3, mJ z0), (0, .ref 43), (1, mI x1), (2, .ref a2)] _ _ _ from
  mm_E.to h ⟨rfl, rfl, rfl, rfl, rfl, rfl, trivial⟩
theorem p44_39_0 {w d : Nat} {X : List Value} {A : MF} {x1 y3 y5 y7 x9 : Int} (H : R32 x9 ∧ R32 (A 43 1) ∧ A 43 1 ≤ x9) : mm_E w d 44 39 [(0, .ref 43), (1, mI x1), (3, mJ y3), (5, mJ y5), (7, mJ y7), (9, mI x9)] [] (mm_w X A) (.inl (none), mm_w X A, 0, 0) := by
  obtain ⟨h0, h1, h2⟩ := H
  exact mm_E.iload (mm_atc mc44 rfl) rfl <|
  mm_E.aload_n (mm_atc mc44 rfl) rfl <|
  mm_E.getI (z := A 43 1) (mm_atc mc44 rfl) (mm_plc mp44 rfl) rfl ly43 rfl (rfl) <|
  mm_E.if2 (mm_atc mc44 rfl) h0 h1 (ic_geT h2) rfl <|
  mm_E.vret (mm_atc mc44 rfl) mr44
theorem p44_39_1 {w d : Nat} {X : List Value} {A : MF} {x1 y3 y5 y7 x9 : Int} (H : R32 x9 ∧ R32 (A 43 1) ∧ x9 < A 43 1 ∧ R64 y7 ∧ y7 ≤ 0) : mm_E w d 44 39 [(0, .ref 43), (1, mI x1), (3, mJ y3), (5, mJ y5), (7, mJ y7), (9, mI x9)] [] (mm_w X A) (.inl (none), mm_w X A, 0, 0) := by
  obtain ⟨h0, h1, h2, h3, h4⟩ := H
  exact mm_E.iload (mm_atc mc44 rfl) rfl <|
  mm_E.aload_n (mm_atc mc44 rfl) rfl <|
  mm_E.getI (z := A 43 1) (mm_atc mc44 rfl) (mm_plc mp44 rfl) rfl ly43 rfl (rfl) <|
  mm_E.if2 (mm_atc mc44 rfl) h0 h1 (ic_geF h2) rfl <|
  mm_E.lload (mm_atc mc44 rfl) rfl <|
  mm_E.lconst (z := 0) (mm_atc mc44 rfl) rfl <|
  mm_E.lif (mm_atc mc44 rfl) (mm_atc mc44 rfl) h3 (by decide) (ic_leT h4) rfl <|
  mm_E.vret (mm_atc mc44 rfl) mr44
theorem p44_39_2 {w d : Nat} {X : List Value} {A : MF} {r : MR} {x1 y3 y5 y7 x9 : Int} (H : R32 x9 ∧ R32 (A 43 1) ∧ x9 < A 43 1 ∧ R64 y7 ∧ 0 < y7 ∧ R64 y5 ∧ R64 (x9 * y3) ∧ 0 ≤ x1 ∧ x1 < 6 ∧ 0 ≤ x9 ∧ x9 < 16 ∧ R32 (x9 + 1) ∧ R64 (((x9 + 1) * y3) - (max y5 (x9 * y3))) ∧ R32 (A (45 + x1.toNat) x9) ∧ R64 ((max 0 (((x9 + 1) * y3) - (max y5 (x9 * y3)))) * (A (45 + x1.toNat) x9)) ∧ (max 0 (((x9 + 1) * y3) - (max y5 (x9 * y3)))) * (A (45 + x1.toNat) x9) < y7) (h : mm_E w (d + 1) 44 39 [(0, .ref 43), (1, mI x1), (3, mJ y3), (5, mJ y5), (7, mJ (y7 - ((max 0 (((x9 + 1) * y3) - (max y5 (x9 * y3)))) * (A (45 + x1.toNat) x9)))), (9, mI (x9 + 1))] [] (mm_w X A) r) : mm_E w (d + 1) 44 39 [(0, .ref 43), (1, mI x1), (3, mJ y3), (5, mJ y5), (7, mJ y7), (9, mI x9)] [] (mm_w X A) r := by
  obtain ⟨h0, h1, h2, h3, h4, h5, h6, h7, h8, h9, h10, h11, h12, h13, h14, h15⟩ := H
  exact mm_E.iload (mm_atc mc44 rfl) rfl <|
  mm_E.aload_n (mm_atc mc44 rfl) rfl <|
  mm_E.getI (z := A 43 1) (mm_atc mc44 rfl) (mm_plc mp44 rfl) rfl ly43 rfl (rfl) <|
  mm_E.if2 (mm_atc mc44 rfl) h0 h1 (ic_geF h2) rfl <|
  mm_E.lload (mm_atc mc44 rfl) rfl <|
  mm_E.lconst (z := 0) (mm_atc mc44 rfl) rfl <|
  mm_E.lif (mm_atc mc44 rfl) (mm_atc mc44 rfl) h3 (by decide) (ic_leF h4) rfl <|
  mm_E.lload (mm_atc mc44 rfl) rfl <|
  mm_E.iload (mm_atc mc44 rfl) rfl <|
  mm_E.i2l h0 (mm_atc mc44 rfl) <|
  mm_E.lload_n (mm_atc mc44 rfl) rfl <|
  mm_E.lmul (mm_atc mc44 rfl) <|
  mm_E.maxL h5 h6 (mm_atc mc44 rfl) (mm_plc mp44 rfl) rfl <|
  mm_E.lstore mx44 rfl (mm_atc mc44 rfl) <|
  show mm_E _ _ 44 67 [(10, mJ (max y5 (x9 * y3))), (0, .ref 43), (1, mI x1), (3, mJ y3), (5, mJ y5), (7, mJ y7), (9, mI x9)] _ _ _ from
  mm_E.aload_n (mm_atc mc44 rfl) rfl <|
  mm_E.getR (b := 44) (mm_atc mc44 rfl) (mm_plc mp44 rfl) rfl ly43 rfl <|
  mm_E.iload_n (mm_atc mc44 rfl) rfl <|
  mm_E.aaload (mm_atc mc44 rfl) ly44 rfl h7 h8 (la45 h7 h8) <|
  mm_E.iload (mm_atc mc44 rfl) rfl <|
  mm_E.iaload (e := x9) (mm_atc mc44 rfl) (lr45 h7 h8) rfl h9 h10 rfl (rfl) <|
  mm_E.istore mx44 rfl (mm_atc mc44 rfl) <|
  show mm_E _ _ 44 78 [(12, mI (A (45 + x1.toNat) x9)), (10, mJ (max y5 (x9 * y3))), (0, .ref 43), (1, mI x1), (3, mJ y3), (5, mJ y5), (7, mJ y7), (9, mI x9)] _ _ _ from
  mm_E.lconst (z := 0) (mm_atc mc44 rfl) rfl <|
  mm_E.iload (mm_atc mc44 rfl) rfl <|
  mm_E.iconst (mm_atc mc44 rfl) <|
  mm_E.iadd (mm_atc mc44 rfl) <|
  mm_E.i2l h11 (mm_atc mc44 rfl) <|
  mm_E.lload_n (mm_atc mc44 rfl) rfl <|
  mm_E.lmul (mm_atc mc44 rfl) <|
  mm_E.lload (mm_atc mc44 rfl) rfl <|
  mm_E.lsub (mm_atc mc44 rfl) <|
  mm_E.maxL (by decide) h12 (mm_atc mc44 rfl) (mm_plc mp44 rfl) rfl <|
  mm_E.iload (mm_atc mc44 rfl) rfl <|
  mm_E.i2l h13 (mm_atc mc44 rfl) <|
  mm_E.lmul (mm_atc mc44 rfl) <|
  mm_E.lstore mx44 rfl (mm_atc mc44 rfl) <|
  show mm_E _ _ 44 98 [(13, mJ ((max 0 (((x9 + 1) * y3) - (max y5 (x9 * y3)))) * (A (45 + x1.toNat) x9))), (12, mI (A (45 + x1.toNat) x9)), (10, mJ (max y5 (x9 * y3))), (0, .ref 43), (1, mI x1), (3, mJ y3), (5, mJ y5), (7, mJ y7), (9, mI x9)] _ _ _ from
  mm_E.lload (mm_atc mc44 rfl) rfl <|
  mm_E.lload (mm_atc mc44 rfl) rfl <|
  mm_E.lif (mm_atc mc44 rfl) (mm_atc mc44 rfl) h14 h3 (ic_ltT h15) rfl <|
  mm_E.lload (mm_atc mc44 rfl) rfl <|
  mm_E.lload (mm_atc mc44 rfl) rfl <|
  mm_E.lsub (mm_atc mc44 rfl) <|
  mm_E.lstore mx44 rfl (mm_atc mc44 rfl) <|
  show mm_E _ _ 44 136 [(7, mJ (y7 - ((max 0 (((x9 + 1) * y3) - (max y5 (x9 * y3)))) * (A (45 + x1.toNat) x9)))), (13, mJ ((max 0 (((x9 + 1) * y3) - (max y5 (x9 * y3)))) * (A (45 + x1.toNat) x9))), (12, mI (A (45 + x1.toNat) x9)), (10, mJ (max y5 (x9 * y3))), (0, .ref 43), (1, mI x1), (3, mJ y3), (5, mJ y5), (9, mI x9)] _ _ _ from
  mm_E.inc mx44 rfl (mm_atc mc44 rfl) rfl <|
  show mm_E _ _ 44 139 [(9, mI (x9 + 1)), (7, mJ (y7 - ((max 0 (((x9 + 1) * y3) - (max y5 (x9 * y3)))) * (A (45 + x1.toNat) x9)))), (13, mJ ((max 0 (((x9 + 1) * y3) - (max y5 (x9 * y3)))) * (A (45 + x1.toNat) x9))), (12, mI (A (45 + x1.toNat) x9)), (10, mJ (max y5 (x9 * y3))), (0, .ref 43), (1, mI x1), (3, mJ y3), (5, mJ y5)] _ _ _ from
  mm_E.goto (mm_atc mc44 rfl) rfl <|
  mm_E.to h ⟨rfl, rfl, rfl, rfl, rfl, rfl, trivial⟩
theorem p44_39_3 {d : Nat} {X : List Value} {A : MF} {r : MR} {x1 y3 y5 y7 x9 : Int} {A0 : MF} (s0 : mm_E 1 d 46 0 [(0, .ref (61 + 3 * x1.toNat)), (1, mJ (((max y5 (x9 * y3)) * (A (45 + x1.toNat) x9)) + y7)), (3, mJ (y3 * (A (45 + x1.toNat) x9)))] [] (mm_w X A) (.inl (none), mm_w X A0, 0, 0)) (H : R32 x9 ∧ R32 (A 43 1) ∧ x9 < A 43 1 ∧ R64 y7 ∧ 0 < y7 ∧ R64 y5 ∧ R64 (x9 * y3) ∧ 0 ≤ x1 ∧ x1 < 6 ∧ 0 ≤ x9 ∧ x9 < 16 ∧ R32 (x9 + 1) ∧ R64 (((x9 + 1) * y3) - (max y5 (x9 * y3))) ∧ R32 (A (45 + x1.toNat) x9) ∧ R64 ((max 0 (((x9 + 1) * y3) - (max y5 (x9 * y3)))) * (A (45 + x1.toNat) x9)) ∧ y7 ≤ (max 0 (((x9 + 1) * y3) - (max y5 (x9 * y3)))) * (A (45 + x1.toNat) x9)) (h : mm_E 1 (d + 1) 44 39 [(0, .ref 43), (1, mI x1), (3, mJ y3), (5, mJ y5), (7, mJ (y7 - ((max 0 (((x9 + 1) * y3) - (max y5 (x9 * y3)))) * (A (45 + x1.toNat) x9)))), (9, mI (x9 + 1))] [] (mm_w X A0) r) : mm_E 1 (d + 1) 44 39 [(0, .ref 43), (1, mI x1), (3, mJ y3), (5, mJ y5), (7, mJ y7), (9, mI x9)] [] (mm_w X A) r := by
  obtain ⟨h0, h1, h2, h3, h4, h5, h6, h7, h8, h9, h10, h11, h12, h13, h14, h15⟩ := H
  exact mm_E.iload (mm_atc mc44 rfl) rfl <|
  mm_E.aload_n (mm_atc mc44 rfl) rfl <|
  mm_E.getI (z := A 43 1) (mm_atc mc44 rfl) (mm_plc mp44 rfl) rfl ly43 rfl (rfl) <|
  mm_E.if2 (mm_atc mc44 rfl) h0 h1 (ic_geF h2) rfl <|
  mm_E.lload (mm_atc mc44 rfl) rfl <|
  mm_E.lconst (z := 0) (mm_atc mc44 rfl) rfl <|
  mm_E.lif (mm_atc mc44 rfl) (mm_atc mc44 rfl) h3 (by decide) (ic_leF h4) rfl <|
  mm_E.lload (mm_atc mc44 rfl) rfl <|
  mm_E.iload (mm_atc mc44 rfl) rfl <|
  mm_E.i2l h0 (mm_atc mc44 rfl) <|
  mm_E.lload_n (mm_atc mc44 rfl) rfl <|
  mm_E.lmul (mm_atc mc44 rfl) <|
  mm_E.maxL h5 h6 (mm_atc mc44 rfl) (mm_plc mp44 rfl) rfl <|
  mm_E.lstore mx44 rfl (mm_atc mc44 rfl) <|
  show mm_E _ _ 44 67 [(10, mJ (max y5 (x9 * y3))), (0, .ref 43), (1, mI x1), (3, mJ y3), (5, mJ y5), (7, mJ y7), (9, mI x9)] _ _ _ from
  mm_E.aload_n (mm_atc mc44 rfl) rfl <|
  mm_E.getR (b := 44) (mm_atc mc44 rfl) (mm_plc mp44 rfl) rfl ly43 rfl <|
  mm_E.iload_n (mm_atc mc44 rfl) rfl <|
  mm_E.aaload (mm_atc mc44 rfl) ly44 rfl h7 h8 (la45 h7 h8) <|
  mm_E.iload (mm_atc mc44 rfl) rfl <|
  mm_E.iaload (e := x9) (mm_atc mc44 rfl) (lr45 h7 h8) rfl h9 h10 rfl (rfl) <|
  mm_E.istore mx44 rfl (mm_atc mc44 rfl) <|
  show mm_E _ _ 44 78 [(12, mI (A (45 + x1.toNat) x9)), (10, mJ (max y5 (x9 * y3))), (0, .ref 43), (1, mI x1), (3, mJ y3), (5, mJ y5), (7, mJ y7), (9, mI x9)] _ _ _ from
  mm_E.lconst (z := 0) (mm_atc mc44 rfl) rfl <|
  mm_E.iload (mm_atc mc44 rfl) rfl <|
  mm_E.iconst (mm_atc mc44 rfl) <|
  mm_E.iadd (mm_atc mc44 rfl) <|
  mm_E.i2l h11 (mm_atc mc44 rfl) <|
  mm_E.lload_n (mm_atc mc44 rfl) rfl <|
  mm_E.lmul (mm_atc mc44 rfl) <|
  mm_E.lload (mm_atc mc44 rfl) rfl <|
  mm_E.lsub (mm_atc mc44 rfl) <|
  mm_E.maxL (by decide) h12 (mm_atc mc44 rfl) (mm_plc mp44 rfl) rfl <|
  mm_E.iload (mm_atc mc44 rfl) rfl <|
  mm_E.i2l h13 (mm_atc mc44 rfl) <|
  mm_E.lmul (mm_atc mc44 rfl) <|
  mm_E.lstore mx44 rfl (mm_atc mc44 rfl) <|
  show mm_E _ _ 44 98 [(13, mJ ((max 0 (((x9 + 1) * y3) - (max y5 (x9 * y3)))) * (A (45 + x1.toNat) x9))), (12, mI (A (45 + x1.toNat) x9)), (10, mJ (max y5 (x9 * y3))), (0, .ref 43), (1, mI x1), (3, mJ y3), (5, mJ y5), (7, mJ y7), (9, mI x9)] _ _ _ from
  mm_E.lload (mm_atc mc44 rfl) rfl <|
  mm_E.lload (mm_atc mc44 rfl) rfl <|
  mm_E.lif (mm_atc mc44 rfl) (mm_atc mc44 rfl) h14 h3 (ic_ltF h15) rfl <|
  mm_E.aload_n (mm_atc mc44 rfl) rfl <|
  mm_E.getR (b := 53) (mm_atc mc44 rfl) (mm_plc mp44 rfl) rfl ly43 rfl <|
  mm_E.iload_n (mm_atc mc44 rfl) rfl <|
  mm_E.aaload (mm_atc mc44 rfl) ly53 rfl h7 h8 (la61 h7 h8) <|
  mm_E.lload (mm_atc mc44 rfl) rfl <|
  mm_E.iload (mm_atc mc44 rfl) rfl <|
  mm_E.i2l h13 (mm_atc mc44 rfl) <|
  mm_E.lmul (mm_atc mc44 rfl) <|
  mm_E.lload (mm_atc mc44 rfl) rfl <|
  mm_E.ladd (mm_atc mc44 rfl) <|
  mm_E.lload_n (mm_atc mc44 rfl) rfl <|
  mm_E.iload (mm_atc mc44 rfl) rfl <|
  mm_E.i2l h13 (mm_atc mc44 rfl) <|
  mm_E.lmul (mm_atc mc44 rfl) <|
  mm_E.callV0 (mm_atc mc44 rfl) (mm_plc mp44 rfl) rfl mk46 (lr61 h7 h8) rfl mx46 rfl rfl s0 (by omega) <|
  show mm_E _ _ 44 129 _ _ _ _ from
  mm_E.lload (mm_atc mc44 rfl) rfl <|
  mm_E.lload (mm_atc mc44 rfl) rfl <|
  mm_E.lsub (mm_atc mc44 rfl) <|
  mm_E.lstore mx44 rfl (mm_atc mc44 rfl) <|
  show mm_E _ _ 44 136 [(7, mJ (y7 - ((max 0 (((x9 + 1) * y3) - (max y5 (x9 * y3)))) * (A (45 + x1.toNat) x9)))), (13, mJ ((max 0 (((x9 + 1) * y3) - (max y5 (x9 * y3)))) * (A (45 + x1.toNat) x9))), (12, mI (A (45 + x1.toNat) x9)), (10, mJ (max y5 (x9 * y3))), (0, .ref 43), (1, mI x1), (3, mJ y3), (5, mJ y5), (9, mI x9)] _ _ _ from
  mm_E.inc mx44 rfl (mm_atc mc44 rfl) rfl <|
  show mm_E _ _ 44 139 [(9, mI (x9 + 1)), (7, mJ (y7 - ((max 0 (((x9 + 1) * y3) - (max y5 (x9 * y3)))) * (A (45 + x1.toNat) x9)))), (13, mJ ((max 0 (((x9 + 1) * y3) - (max y5 (x9 * y3)))) * (A (45 + x1.toNat) x9))), (12, mI (A (45 + x1.toNat) x9)), (10, mJ (max y5 (x9 * y3))), (0, .ref 43), (1, mI x1), (3, mJ y3), (5, mJ y5)] _ _ _ from
  mm_E.goto (mm_atc mc44 rfl) rfl <|
  mm_E.to h ⟨rfl, rfl, rfl, rfl, rfl, rfl, trivial⟩
