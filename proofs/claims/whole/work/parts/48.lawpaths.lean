/-! Paths of the law and its helpers; written by a program of our own (wip/whole/src/gen.py). -/
theorem p134_0_0 {w d : Nat} {X : List Value} {A : MF} {x1 : Int} (H : R32 x1 ∧ x1 < 1) : mm_E w (d + 9) 134 0 [(0, .ref 1), (1, mI x1)] [] (mm_w X A) (.inl (some (mI 1)), mm_w X A, 1, 6) := by
  obtain ⟨h0, h1⟩ := H
  exact mm_E.aload_n (mm_atc mc134 rfl) rfl <|
  mm_E.iload_n (mm_atc mc134 rfl) rfl <|
  mm_E.catchV1 (mm_atc mc134 rfl) (mm_plc mp134 rfl) rfl mk1 ly1 rfl mx1 rfl rfl (p1_0_0 (d := d) ⟨h0, h1⟩) (p1_0_0 (d := d) ⟨h0, h1⟩) (by omega) rfl rfl <|
  show mm_E _ _ 134 9 [(0, .ref 1), (1, mI x1)] _ _ _ from
  mm_E.iconst (mm_atc mc134 rfl) <|
  mm_E.iret (mm_atc mc134 rfl) mr134 rfl
theorem p134_0_1 {w d : Nat} {X : List Value} {A : MF} {x1 : Int} (H : R32 x1 ∧ 1 ≤ x1 ∧ 6 < x1) : mm_E w (d + 9) 134 0 [(0, .ref 1), (1, mI x1)] [] (mm_w X A) (.inl (some (mI 1)), mm_w X A, 1, 6) := by
  obtain ⟨h0, h1, h2⟩ := H
  exact mm_E.aload_n (mm_atc mc134 rfl) rfl <|
  mm_E.iload_n (mm_atc mc134 rfl) rfl <|
  mm_E.catchV1 (mm_atc mc134 rfl) (mm_plc mp134 rfl) rfl mk1 ly1 rfl mx1 rfl rfl (p1_0_1 (d := d) ⟨h0, h1, h2⟩) (p1_0_1 (d := d) ⟨h0, h1, h2⟩) (by omega) rfl rfl <|
  show mm_E _ _ 134 9 [(0, .ref 1), (1, mI x1)] _ _ _ from
  mm_E.iconst (mm_atc mc134 rfl) <|
  mm_E.iret (mm_atc mc134 rfl) mr134 rfl
theorem p134_0_2 {d : Nat} {X : List Value} {A : MF} {x1 : Int} {A0 : MF} (s0 : mm_E 1 d 1 0 [(0, .ref 1), (1, mI x1)] [] (mm_w X A) (.inl (none), mm_w X A0, 0, 0)) : mm_E 1 (d + 1) 134 0 [(0, .ref 1), (1, mI x1)] [] (mm_w X A) (.inl (some (mI 0)), mm_w X A0, 0, 0) := by
  exact mm_E.aload_n (mm_atc mc134 rfl) rfl <|
  mm_E.iload_n (mm_atc mc134 rfl) rfl <|
  mm_E.callV0 (mm_atc mc134 rfl) (mm_plc mp134 rfl) rfl mk1 ly1 rfl mx1 rfl rfl s0 (by omega) <|
  show mm_E _ _ 134 5 _ _ _ _ from
  mm_E.goto (mm_atc mc134 rfl) rfl <|
  mm_E.iconst (mm_atc mc134 rfl) <|
  mm_E.iret (mm_atc mc134 rfl) mr134 rfl
theorem p135_0_0 {w d : Nat} {X : List Value} {A : MF} {x1 : Int} (H : R32 x1 ∧ x1 < 0) : mm_E w (d + 9) 135 0 [(0, .ref 1), (1, mI x1)] [] (mm_w X A) (.inl (some (mI 1)), mm_w X A, 1, 6) := by
  obtain ⟨h0, h1⟩ := H
  exact mm_E.aload_n (mm_atc mc135 rfl) rfl <|
  mm_E.iload_n (mm_atc mc135 rfl) rfl <|
  mm_E.catchV1 (mm_atc mc135 rfl) (mm_plc mp135 rfl) rfl mk2 ly1 rfl mx2 rfl rfl (p2_0_0 (d := d) ⟨h0, h1⟩) (p2_0_0 (d := d) ⟨h0, h1⟩) (by omega) rfl rfl <|
  show mm_E _ _ 135 9 [(0, .ref 1), (1, mI x1)] _ _ _ from
  mm_E.iconst (mm_atc mc135 rfl) <|
  mm_E.iret (mm_atc mc135 rfl) mr135 rfl
theorem p135_0_1 {w d : Nat} {X : List Value} {A : MF} {x1 : Int} (H : R32 x1 ∧ 0 ≤ x1 ∧ 12 < x1) : mm_E w (d + 9) 135 0 [(0, .ref 1), (1, mI x1)] [] (mm_w X A) (.inl (some (mI 1)), mm_w X A, 1, 6) := by
  obtain ⟨h0, h1, h2⟩ := H
  exact mm_E.aload_n (mm_atc mc135 rfl) rfl <|
  mm_E.iload_n (mm_atc mc135 rfl) rfl <|
  mm_E.catchV1 (mm_atc mc135 rfl) (mm_plc mp135 rfl) rfl mk2 ly1 rfl mx2 rfl rfl (p2_0_1 (d := d) ⟨h0, h1, h2⟩) (p2_0_1 (d := d) ⟨h0, h1, h2⟩) (by omega) rfl rfl <|
  show mm_E _ _ 135 9 [(0, .ref 1), (1, mI x1)] _ _ _ from
  mm_E.iconst (mm_atc mc135 rfl) <|
  mm_E.iret (mm_atc mc135 rfl) mr135 rfl
theorem p135_0_2 {d : Nat} {X : List Value} {A : MF} {x1 : Int} {A0 : MF} (s0 : mm_E 1 d 2 0 [(0, .ref 1), (1, mI x1)] [] (mm_w X A) (.inl (none), mm_w X A0, 0, 0)) : mm_E 1 (d + 1) 135 0 [(0, .ref 1), (1, mI x1)] [] (mm_w X A) (.inl (some (mI 0)), mm_w X A0, 0, 0) := by
  exact mm_E.aload_n (mm_atc mc135 rfl) rfl <|
  mm_E.iload_n (mm_atc mc135 rfl) rfl <|
  mm_E.callV0 (mm_atc mc135 rfl) (mm_plc mp135 rfl) rfl mk2 ly1 rfl mx2 rfl rfl s0 (by omega) <|
  show mm_E _ _ 135 5 _ _ _ _ from
  mm_E.goto (mm_atc mc135 rfl) rfl <|
  mm_E.iconst (mm_atc mc135 rfl) <|
  mm_E.iret (mm_atc mc135 rfl) mr135 rfl
theorem p136_0_0 {w d : Nat} {X : List Value} {A : MF} {x1 x2 x3 : Int} (H : R32 x3 ∧ x3 < 0) : mm_E w (d + 9) 136 0 [(0, .ref 1), (1, mI x1), (2, mI x2), (3, mI x3), (4, .ref 96)] [] (mm_w X A) (.inl (some (mI 1)), mm_w X A, 1, 6) := by
  obtain ⟨h0, h1⟩ := H
  exact mm_E.aload (mm_atc mc136 rfl) rfl <|
  mm_E.iconst (mm_atc mc136 rfl) <|
  mm_E.aload_n (mm_atc mc136 rfl) rfl <|
  mm_E.iload_n (mm_atc mc136 rfl) rfl <|
  mm_E.iload_n (mm_atc mc136 rfl) rfl <|
  mm_E.iload_n (mm_atc mc136 rfl) rfl <|
  mm_E.catchV1 (mm_atc mc136 rfl) (mm_plc mp136 rfl) rfl mk3 ly1 rfl mx3 rfl rfl (p3_0_0 (d := d) ⟨h0, h1⟩) (p3_0_0 (d := d) ⟨h0, h1⟩) (by omega) rfl rfl <|
  show mm_E _ _ 136 17 [(0, .ref 1), (1, mI x1), (2, mI x2), (3, mI x3), (4, .ref 96)] _ _ _ from
  mm_E.iconst (mm_atc mc136 rfl) <|
  mm_E.iret (mm_atc mc136 rfl) mr136 rfl
theorem p136_0_1 {w d : Nat} {X : List Value} {A : MF} {x1 x2 x3 : Int} (H : R32 x3 ∧ 0 ≤ x3 ∧ 1000 < x3) : mm_E w (d + 9) 136 0 [(0, .ref 1), (1, mI x1), (2, mI x2), (3, mI x3), (4, .ref 96)] [] (mm_w X A) (.inl (some (mI 1)), mm_w X A, 1, 6) := by
  obtain ⟨h0, h1, h2⟩ := H
  exact mm_E.aload (mm_atc mc136 rfl) rfl <|
  mm_E.iconst (mm_atc mc136 rfl) <|
  mm_E.aload_n (mm_atc mc136 rfl) rfl <|
  mm_E.iload_n (mm_atc mc136 rfl) rfl <|
  mm_E.iload_n (mm_atc mc136 rfl) rfl <|
  mm_E.iload_n (mm_atc mc136 rfl) rfl <|
  mm_E.catchV1 (mm_atc mc136 rfl) (mm_plc mp136 rfl) rfl mk3 ly1 rfl mx3 rfl rfl (p3_0_1 (d := d) ⟨h0, h1, h2⟩) (p3_0_1 (d := d) ⟨h0, h1, h2⟩) (by omega) rfl rfl <|
  show mm_E _ _ 136 17 [(0, .ref 1), (1, mI x1), (2, mI x2), (3, mI x3), (4, .ref 96)] _ _ _ from
  mm_E.iconst (mm_atc mc136 rfl) <|
  mm_E.iret (mm_atc mc136 rfl) mr136 rfl
theorem p136_0_2 {w d : Nat} {X : List Value} {A : MF} {x1 x2 x3 : Int} (H : R32 x3 ∧ 0 ≤ x3 ∧ x3 ≤ 1000 ∧ R32 x1 ∧ x1 < 0) : mm_E w (d + 9) 136 0 [(0, .ref 1), (1, mI x1), (2, mI x2), (3, mI x3), (4, .ref 96)] [] (mm_w X A) (.inl (some (mI 2)), mm_w X A, 1, 6) := by
  obtain ⟨h0, h1, h2, h3, h4⟩ := H
  exact mm_E.aload (mm_atc mc136 rfl) rfl <|
  mm_E.iconst (mm_atc mc136 rfl) <|
  mm_E.aload_n (mm_atc mc136 rfl) rfl <|
  mm_E.iload_n (mm_atc mc136 rfl) rfl <|
  mm_E.iload_n (mm_atc mc136 rfl) rfl <|
  mm_E.iload_n (mm_atc mc136 rfl) rfl <|
  mm_E.catchV1 (mm_atc mc136 rfl) (mm_plc mp136 rfl) rfl mk3 ly1 rfl mx3 rfl rfl (p3_0_2 (d := d) ⟨h0, h1, h2, h3, h4⟩) (p3_0_2 (d := d) ⟨h0, h1, h2, h3, h4⟩) (by omega) rfl rfl <|
  show mm_E _ _ 136 21 [(0, .ref 1), (1, mI x1), (2, mI x2), (3, mI x3), (4, .ref 96)] _ _ _ from
  mm_E.iconst (mm_atc mc136 rfl) <|
  mm_E.iret (mm_atc mc136 rfl) mr136 rfl
theorem p136_0_3 {w d : Nat} {X : List Value} {A : MF} {x1 x2 x3 : Int} (H : R32 x3 ∧ 0 ≤ x3 ∧ x3 ≤ 1000 ∧ R32 x1 ∧ 0 ≤ x1 ∧ R32 ((A 1 3) - 1) ∧ ((A 1 3) - 1) < x1) : mm_E w (d + 9) 136 0 [(0, .ref 1), (1, mI x1), (2, mI x2), (3, mI x3), (4, .ref 96)] [] (mm_w X A) (.inl (some (mI 2)), mm_w X A, 1, 6) := by
  obtain ⟨h0, h1, h2, h3, h4, h5, h6⟩ := H
  exact mm_E.aload (mm_atc mc136 rfl) rfl <|
  mm_E.iconst (mm_atc mc136 rfl) <|
  mm_E.aload_n (mm_atc mc136 rfl) rfl <|
  mm_E.iload_n (mm_atc mc136 rfl) rfl <|
  mm_E.iload_n (mm_atc mc136 rfl) rfl <|
  mm_E.iload_n (mm_atc mc136 rfl) rfl <|
  mm_E.catchV1 (mm_atc mc136 rfl) (mm_plc mp136 rfl) rfl mk3 ly1 rfl mx3 rfl rfl (p3_0_3 (d := d) ⟨h0, h1, h2, h3, h4, h5, h6⟩) (p3_0_3 (d := d) ⟨h0, h1, h2, h3, h4, h5, h6⟩) (by omega) rfl rfl <|
  show mm_E _ _ 136 21 [(0, .ref 1), (1, mI x1), (2, mI x2), (3, mI x3), (4, .ref 96)] _ _ _ from
  mm_E.iconst (mm_atc mc136 rfl) <|
  mm_E.iret (mm_atc mc136 rfl) mr136 rfl
theorem p136_0_4 {w d : Nat} {X : List Value} {A : MF} {x1 x2 x3 : Int} (H : R32 x3 ∧ 0 ≤ x3 ∧ x3 ≤ 1000 ∧ R32 x1 ∧ 0 ≤ x1 ∧ R32 ((A 1 3) - 1) ∧ x1 ≤ ((A 1 3) - 1) ∧ R32 x2 ∧ x2 < 0) : mm_E w (d + 9) 136 0 [(0, .ref 1), (1, mI x1), (2, mI x2), (3, mI x3), (4, .ref 96)] [] (mm_w X A) (.inl (some (mI 2)), mm_w X A, 1, 6) := by
  obtain ⟨h0, h1, h2, h3, h4, h5, h6, h7, h8⟩ := H
  exact mm_E.aload (mm_atc mc136 rfl) rfl <|
  mm_E.iconst (mm_atc mc136 rfl) <|
  mm_E.aload_n (mm_atc mc136 rfl) rfl <|
  mm_E.iload_n (mm_atc mc136 rfl) rfl <|
  mm_E.iload_n (mm_atc mc136 rfl) rfl <|
  mm_E.iload_n (mm_atc mc136 rfl) rfl <|
  mm_E.catchV1 (mm_atc mc136 rfl) (mm_plc mp136 rfl) rfl mk3 ly1 rfl mx3 rfl rfl (p3_0_4 (d := d) ⟨h0, h1, h2, h3, h4, h5, h6, h7, h8⟩) (p3_0_4 (d := d) ⟨h0, h1, h2, h3, h4, h5, h6, h7, h8⟩) (by omega) rfl rfl <|
  show mm_E _ _ 136 21 [(0, .ref 1), (1, mI x1), (2, mI x2), (3, mI x3), (4, .ref 96)] _ _ _ from
  mm_E.iconst (mm_atc mc136 rfl) <|
  mm_E.iret (mm_atc mc136 rfl) mr136 rfl
theorem p136_0_5 {w d : Nat} {X : List Value} {A : MF} {x1 x2 x3 : Int} (H : R32 x3 ∧ 0 ≤ x3 ∧ x3 ≤ 1000 ∧ R32 x1 ∧ 0 ≤ x1 ∧ R32 ((A 1 3) - 1) ∧ x1 ≤ ((A 1 3) - 1) ∧ R32 x2 ∧ 0 ≤ x2 ∧ R32 ((A 2 1) - 1) ∧ ((A 2 1) - 1) < x2) : mm_E w (d + 9) 136 0 [(0, .ref 1), (1, mI x1), (2, mI x2), (3, mI x3), (4, .ref 96)] [] (mm_w X A) (.inl (some (mI 2)), mm_w X A, 1, 6) := by
  obtain ⟨h0, h1, h2, h3, h4, h5, h6, h7, h8, h9, h10⟩ := H
  exact mm_E.aload (mm_atc mc136 rfl) rfl <|
  mm_E.iconst (mm_atc mc136 rfl) <|
  mm_E.aload_n (mm_atc mc136 rfl) rfl <|
  mm_E.iload_n (mm_atc mc136 rfl) rfl <|
  mm_E.iload_n (mm_atc mc136 rfl) rfl <|
  mm_E.iload_n (mm_atc mc136 rfl) rfl <|
  mm_E.catchV1 (mm_atc mc136 rfl) (mm_plc mp136 rfl) rfl mk3 ly1 rfl mx3 rfl rfl (p3_0_5 (d := d) ⟨h0, h1, h2, h3, h4, h5, h6, h7, h8, h9, h10⟩) (p3_0_5 (d := d) ⟨h0, h1, h2, h3, h4, h5, h6, h7, h8, h9, h10⟩) (by omega) rfl rfl <|
  show mm_E _ _ 136 21 [(0, .ref 1), (1, mI x1), (2, mI x2), (3, mI x3), (4, .ref 96)] _ _ _ from
  mm_E.iconst (mm_atc mc136 rfl) <|
  mm_E.iret (mm_atc mc136 rfl) mr136 rfl
theorem p136_0_6 {d : Nat} {X : List Value} {A : MF} {x1 x2 x3 z1 : Int} {A0 : MF} (s0 : mm_E 1 d 3 0 [(0, .ref 1), (1, mI x1), (2, mI x2), (3, mI x3)] [] (mm_w X A) (.inl (some (mI z1)), mm_w X A0, 0, 0)) (H : R32 z1) : mm_E 1 (d + 1) 136 0 [(0, .ref 1), (1, mI x1), (2, mI x2), (3, mI x3), (4, .ref 96)] [] (mm_w X A) (.inl (some (mI 0)), mm_w X (mm_u A0 96 0 z1), 0, 0) := by
  have h0 := H
  exact mm_E.aload (mm_atc mc136 rfl) rfl <|
  mm_E.iconst (mm_atc mc136 rfl) <|
  mm_E.aload_n (mm_atc mc136 rfl) rfl <|
  mm_E.iload_n (mm_atc mc136 rfl) rfl <|
  mm_E.iload_n (mm_atc mc136 rfl) rfl <|
  mm_E.iload_n (mm_atc mc136 rfl) rfl <|
  mm_E.callV0 (mm_atc mc136 rfl) (mm_plc mp136 rfl) rfl mk3 ly1 rfl mx3 rfl rfl s0 (by omega) <|
  show mm_E _ _ 136 10 _ _ _ _ from
  mm_E.i2l h0 (mm_atc mc136 rfl) <|
  mm_E.lastore (e := 0) (z := z1) (mm_atc mc136 rfl) ly96 rfl (by decide) (by decide) rfl rfl <|
  mm_E.goto (mm_atc mc136 rfl) rfl <|
  mm_E.iconst (mm_atc mc136 rfl) <|
  mm_E.iret (mm_atc mc136 rfl) mr136 rfl
theorem p137_0_0 {w d : Nat} {X : List Value} {A : MF} {x1 : Int} (H : R32 x1 ∧ x1 < 0) : mm_E w (d + 9) 137 0 [(0, .ref 1), (1, mI x1)] [] (mm_w X A) (.inl (some (mI 1)), mm_w X A, 1, 6) := by
  obtain ⟨h0, h1⟩ := H
  exact mm_E.aload_n (mm_atc mc137 rfl) rfl <|
  mm_E.iload_n (mm_atc mc137 rfl) rfl <|
  mm_E.catchV1 (mm_atc mc137 rfl) (mm_plc mp137 rfl) rfl mk4 ly1 rfl mx4 rfl rfl (p4_0_0 (d := d) ⟨h0, h1⟩) (p4_0_0 (d := d) ⟨h0, h1⟩) (by omega) rfl rfl <|
  show mm_E _ _ 137 9 [(0, .ref 1), (1, mI x1)] _ _ _ from
  mm_E.iconst (mm_atc mc137 rfl) <|
  mm_E.iret (mm_atc mc137 rfl) mr137 rfl
theorem p137_0_1 {w d : Nat} {X : List Value} {A : MF} {x1 : Int} (H : R32 x1 ∧ 0 ≤ x1 ∧ R32 ((A 1 3) - 1) ∧ ((A 1 3) - 1) < x1) : mm_E w (d + 9) 137 0 [(0, .ref 1), (1, mI x1)] [] (mm_w X A) (.inl (some (mI 1)), mm_w X A, 1, 6) := by
  obtain ⟨h0, h1, h2, h3⟩ := H
  exact mm_E.aload_n (mm_atc mc137 rfl) rfl <|
  mm_E.iload_n (mm_atc mc137 rfl) rfl <|
  mm_E.catchV1 (mm_atc mc137 rfl) (mm_plc mp137 rfl) rfl mk4 ly1 rfl mx4 rfl rfl (p4_0_1 (d := d) ⟨h0, h1, h2, h3⟩) (p4_0_1 (d := d) ⟨h0, h1, h2, h3⟩) (by omega) rfl rfl <|
  show mm_E _ _ 137 9 [(0, .ref 1), (1, mI x1)] _ _ _ from
  mm_E.iconst (mm_atc mc137 rfl) <|
  mm_E.iret (mm_atc mc137 rfl) mr137 rfl
theorem p137_0_2 {d : Nat} {X : List Value} {A : MF} {x1 : Int} {A0 : MF} (s0 : mm_E 1 d 4 0 [(0, .ref 1), (1, mI x1)] [] (mm_w X A) (.inl (none), mm_w X A0, 0, 0)) : mm_E 1 (d + 1) 137 0 [(0, .ref 1), (1, mI x1)] [] (mm_w X A) (.inl (some (mI 0)), mm_w X A0, 0, 0) := by
  exact mm_E.aload_n (mm_atc mc137 rfl) rfl <|
  mm_E.iload_n (mm_atc mc137 rfl) rfl <|
  mm_E.callV0 (mm_atc mc137 rfl) (mm_plc mp137 rfl) rfl mk4 ly1 rfl mx4 rfl rfl s0 (by omega) <|
  show mm_E _ _ 137 5 _ _ _ _ from
  mm_E.goto (mm_atc mc137 rfl) rfl <|
  mm_E.iconst (mm_atc mc137 rfl) <|
  mm_E.iret (mm_atc mc137 rfl) mr137 rfl
theorem p138_0_0 {d : Nat} {X : List Value} {A : MF} {A0 : MF} {z1 : Int} (s0 : mm_E 1 d 6 0 [(0, .ref 1)] [] (mm_w X A) (.inl (some (mJ z1)), mm_w X A0, 0, 0)) : mm_E 1 (d + 1) 138 0 [(0, .ref 1), (1, .ref 96)] [] (mm_w X A) (.inl (some (mI 0)), mm_w X (mm_u A0 96 0 z1), 0, 0) := by
  exact mm_E.aload_n (mm_atc mc138 rfl) rfl <|
  mm_E.iconst (mm_atc mc138 rfl) <|
  mm_E.aload_n (mm_atc mc138 rfl) rfl <|
  mm_E.callV0 (mm_atc mc138 rfl) (mm_plc mp138 rfl) rfl mk6 ly1 rfl mx6 rfl rfl s0 (by omega) <|
  show mm_E _ _ 138 6 _ _ _ _ from
  mm_E.lastore (e := 0) (z := z1) (mm_atc mc138 rfl) ly96 rfl (by decide) (by decide) rfl rfl <|
  mm_E.goto (mm_atc mc138 rfl) rfl <|
  mm_E.iconst (mm_atc mc138 rfl) <|
  mm_E.iret (mm_atc mc138 rfl) mr138 rfl
theorem p139_0_0 {w d : Nat} {X : List Value} {A : MF} {x1 x2 : Int} (H : R32 x1 ∧ x1 < 0) : mm_E w (d + 9) 139 0 [(0, .ref 1), (1, mI x1), (2, mI x2), (3, .ref 96)] [] (mm_w X A) (.inl (some (mI 1)), mm_w X A, 1, 6) := by
  obtain ⟨h0, h1⟩ := H
  exact mm_E.aload_n (mm_atc mc139 rfl) rfl <|
  mm_E.iconst (mm_atc mc139 rfl) <|
  mm_E.aload_n (mm_atc mc139 rfl) rfl <|
  mm_E.iload_n (mm_atc mc139 rfl) rfl <|
  mm_E.iload_n (mm_atc mc139 rfl) rfl <|
  mm_E.catchV1 (mm_atc mc139 rfl) (mm_plc mp139 rfl) rfl mk7 ly1 rfl mx7 rfl rfl (p7_0_0 (d := d) ⟨h0, h1⟩) (p7_0_0 (d := d) ⟨h0, h1⟩) (by omega) rfl rfl <|
  show mm_E _ _ 139 15 [(0, .ref 1), (1, mI x1), (2, mI x2), (3, .ref 96)] _ _ _ from
  mm_E.iconst (mm_atc mc139 rfl) <|
  mm_E.iret (mm_atc mc139 rfl) mr139 rfl
theorem p139_0_1 {w d : Nat} {X : List Value} {A : MF} {x1 x2 : Int} (H : R32 x1 ∧ 0 ≤ x1 ∧ R32 ((A 2 1) - 1) ∧ ((A 2 1) - 1) < x1) : mm_E w (d + 9) 139 0 [(0, .ref 1), (1, mI x1), (2, mI x2), (3, .ref 96)] [] (mm_w X A) (.inl (some (mI 1)), mm_w X A, 1, 6) := by
  obtain ⟨h0, h1, h2, h3⟩ := H
  exact mm_E.aload_n (mm_atc mc139 rfl) rfl <|
  mm_E.iconst (mm_atc mc139 rfl) <|
  mm_E.aload_n (mm_atc mc139 rfl) rfl <|
  mm_E.iload_n (mm_atc mc139 rfl) rfl <|
  mm_E.iload_n (mm_atc mc139 rfl) rfl <|
  mm_E.catchV1 (mm_atc mc139 rfl) (mm_plc mp139 rfl) rfl mk7 ly1 rfl mx7 rfl rfl (p7_0_1 (d := d) ⟨h0, h1, h2, h3⟩) (p7_0_1 (d := d) ⟨h0, h1, h2, h3⟩) (by omega) rfl rfl <|
  show mm_E _ _ 139 15 [(0, .ref 1), (1, mI x1), (2, mI x2), (3, .ref 96)] _ _ _ from
  mm_E.iconst (mm_atc mc139 rfl) <|
  mm_E.iret (mm_atc mc139 rfl) mr139 rfl
theorem p139_0_2 {w d : Nat} {X : List Value} {A : MF} {x1 x2 : Int} (H : R32 x1 ∧ 0 ≤ x1 ∧ R32 ((A 2 1) - 1) ∧ x1 ≤ ((A 2 1) - 1) ∧ R32 x2 ∧ x2 < 0 ∧ x2 ≠ (-1)) : mm_E w (d + 9) 139 0 [(0, .ref 1), (1, mI x1), (2, mI x2), (3, .ref 96)] [] (mm_w X A) (.inl (some (mI 1)), mm_w X A, 1, 6) := by
  obtain ⟨h0, h1, h2, h3, h4, h5, h6⟩ := H
  exact mm_E.aload_n (mm_atc mc139 rfl) rfl <|
  mm_E.iconst (mm_atc mc139 rfl) <|
  mm_E.aload_n (mm_atc mc139 rfl) rfl <|
  mm_E.iload_n (mm_atc mc139 rfl) rfl <|
  mm_E.iload_n (mm_atc mc139 rfl) rfl <|
  mm_E.catchV1 (mm_atc mc139 rfl) (mm_plc mp139 rfl) rfl mk7 ly1 rfl mx7 rfl rfl (p7_0_3 (d := d) ⟨h0, h1, h2, h3, h4, h5, h6⟩) (p7_0_3 (d := d) ⟨h0, h1, h2, h3, h4, h5, h6⟩) (by omega) rfl rfl <|
  show mm_E _ _ 139 15 [(0, .ref 1), (1, mI x1), (2, mI x2), (3, .ref 96)] _ _ _ from
  mm_E.iconst (mm_atc mc139 rfl) <|
  mm_E.iret (mm_atc mc139 rfl) mr139 rfl
theorem p139_0_3 {w d : Nat} {X : List Value} {A : MF} {x1 x2 : Int} (H : R32 x1 ∧ 0 ≤ x1 ∧ R32 ((A 2 1) - 1) ∧ x1 ≤ ((A 2 1) - 1) ∧ R32 x2 ∧ 0 ≤ x2 ∧ R32 ((A 1 3) - 1) ∧ ((A 1 3) - 1) < x2 ∧ x2 ≠ (-1)) : mm_E w (d + 9) 139 0 [(0, .ref 1), (1, mI x1), (2, mI x2), (3, .ref 96)] [] (mm_w X A) (.inl (some (mI 1)), mm_w X A, 1, 6) := by
  obtain ⟨h0, h1, h2, h3, h4, h5, h6, h7, h8⟩ := H
  exact mm_E.aload_n (mm_atc mc139 rfl) rfl <|
  mm_E.iconst (mm_atc mc139 rfl) <|
  mm_E.aload_n (mm_atc mc139 rfl) rfl <|
  mm_E.iload_n (mm_atc mc139 rfl) rfl <|
  mm_E.iload_n (mm_atc mc139 rfl) rfl <|
  mm_E.catchV1 (mm_atc mc139 rfl) (mm_plc mp139 rfl) rfl mk7 ly1 rfl mx7 rfl rfl (p7_0_5 (d := d) ⟨h0, h1, h2, h3, h4, h5, h6, h7, h8⟩) (p7_0_5 (d := d) ⟨h0, h1, h2, h3, h4, h5, h6, h7, h8⟩) (by omega) rfl rfl <|
  show mm_E _ _ 139 15 [(0, .ref 1), (1, mI x1), (2, mI x2), (3, .ref 96)] _ _ _ from
  mm_E.iconst (mm_atc mc139 rfl) <|
  mm_E.iret (mm_atc mc139 rfl) mr139 rfl
theorem p139_0_4 {d : Nat} {X : List Value} {A : MF} {x1 x2 z1 : Int} {A0 : MF} (s0 : mm_E 1 d 7 0 [(0, .ref 1), (1, mI x1), (2, mI x2)] [] (mm_w X A) (.inl (some (mI z1)), mm_w X A0, 0, 0)) (H : R32 z1) : mm_E 1 (d + 1) 139 0 [(0, .ref 1), (1, mI x1), (2, mI x2), (3, .ref 96)] [] (mm_w X A) (.inl (some (mI 0)), mm_w X (mm_u A0 96 0 z1), 0, 0) := by
  have h0 := H
  exact mm_E.aload_n (mm_atc mc139 rfl) rfl <|
  mm_E.iconst (mm_atc mc139 rfl) <|
  mm_E.aload_n (mm_atc mc139 rfl) rfl <|
  mm_E.iload_n (mm_atc mc139 rfl) rfl <|
  mm_E.iload_n (mm_atc mc139 rfl) rfl <|
  mm_E.callV0 (mm_atc mc139 rfl) (mm_plc mp139 rfl) rfl mk7 ly1 rfl mx7 rfl rfl s0 (by omega) <|
  show mm_E _ _ 139 8 _ _ _ _ from
  mm_E.i2l h0 (mm_atc mc139 rfl) <|
  mm_E.lastore (e := 0) (z := z1) (mm_atc mc139 rfl) ly96 rfl (by decide) (by decide) rfl rfl <|
  mm_E.goto (mm_atc mc139 rfl) rfl <|
  mm_E.iconst (mm_atc mc139 rfl) <|
  mm_E.iret (mm_atc mc139 rfl) mr139 rfl
theorem p140_0_0 {w d : Nat} {X : List Value} {A : MF} {x1 : Int} (H : R32 x1 ∧ x1 < 0) : mm_E w (d + 9) 140 0 [(0, .ref 1), (1, mI x1), (2, .ref 96)] [] (mm_w X A) (.inl (some (mI 1)), mm_w X A, 1, 6) := by
  obtain ⟨h0, h1⟩ := H
  exact mm_E.aload_n (mm_atc mc140 rfl) rfl <|
  mm_E.iconst (mm_atc mc140 rfl) <|
  mm_E.aload_n (mm_atc mc140 rfl) rfl <|
  mm_E.iload_n (mm_atc mc140 rfl) rfl <|
  mm_E.catchV1 (mm_atc mc140 rfl) (mm_plc mp140 rfl) rfl mk8 ly1 rfl mx8 rfl rfl (p8_0_0 (d := d) ⟨h0, h1⟩) (p8_0_0 (d := d) ⟨h0, h1⟩) (by omega) rfl rfl <|
  show mm_E _ _ 140 13 [(0, .ref 1), (1, mI x1), (2, .ref 96)] _ _ _ from
  mm_E.iconst (mm_atc mc140 rfl) <|
  mm_E.iret (mm_atc mc140 rfl) mr140 rfl
theorem p140_0_1 {w d : Nat} {X : List Value} {A : MF} {x1 : Int} (H : R32 x1 ∧ 0 ≤ x1 ∧ R32 ((A 2 1) - 1) ∧ ((A 2 1) - 1) < x1) : mm_E w (d + 9) 140 0 [(0, .ref 1), (1, mI x1), (2, .ref 96)] [] (mm_w X A) (.inl (some (mI 1)), mm_w X A, 1, 6) := by
  obtain ⟨h0, h1, h2, h3⟩ := H
  exact mm_E.aload_n (mm_atc mc140 rfl) rfl <|
  mm_E.iconst (mm_atc mc140 rfl) <|
  mm_E.aload_n (mm_atc mc140 rfl) rfl <|
  mm_E.iload_n (mm_atc mc140 rfl) rfl <|
  mm_E.catchV1 (mm_atc mc140 rfl) (mm_plc mp140 rfl) rfl mk8 ly1 rfl mx8 rfl rfl (p8_0_1 (d := d) ⟨h0, h1, h2, h3⟩) (p8_0_1 (d := d) ⟨h0, h1, h2, h3⟩) (by omega) rfl rfl <|
  show mm_E _ _ 140 13 [(0, .ref 1), (1, mI x1), (2, .ref 96)] _ _ _ from
  mm_E.iconst (mm_atc mc140 rfl) <|
  mm_E.iret (mm_atc mc140 rfl) mr140 rfl
theorem p140_0_2 {d : Nat} {X : List Value} {A : MF} {x1 z1 : Int} {A0 : MF} (s0 : mm_E 1 d 8 0 [(0, .ref 1), (1, mI x1)] [] (mm_w X A) (.inl (some (mI z1)), mm_w X A0, 0, 0)) (H : R32 z1) : mm_E 1 (d + 1) 140 0 [(0, .ref 1), (1, mI x1), (2, .ref 96)] [] (mm_w X A) (.inl (some (mI 0)), mm_w X (mm_u A0 96 0 z1), 0, 0) := by
  have h0 := H
  exact mm_E.aload_n (mm_atc mc140 rfl) rfl <|
  mm_E.iconst (mm_atc mc140 rfl) <|
  mm_E.aload_n (mm_atc mc140 rfl) rfl <|
  mm_E.iload_n (mm_atc mc140 rfl) rfl <|
  mm_E.callV0 (mm_atc mc140 rfl) (mm_plc mp140 rfl) rfl mk8 ly1 rfl mx8 rfl rfl s0 (by omega) <|
  show mm_E _ _ 140 7 _ _ _ _ from
  mm_E.i2l h0 (mm_atc mc140 rfl) <|
  mm_E.lastore (e := 0) (z := z1) (mm_atc mc140 rfl) ly96 rfl (by decide) (by decide) rfl rfl <|
  mm_E.goto (mm_atc mc140 rfl) rfl <|
  mm_E.iconst (mm_atc mc140 rfl) <|
  mm_E.iret (mm_atc mc140 rfl) mr140 rfl
theorem p141_0_0 {w d : Nat} {X : List Value} {A : MF} {x1 x2 : Int} (H : R32 x1 ∧ x1 < 0) : mm_E w (d + 9) 141 0 [(0, .ref 1), (1, mI x1), (2, mI x2), (3, .ref 96)] [] (mm_w X A) (.inl (some (mI 1)), mm_w X A, 1, 6) := by
  obtain ⟨h0, h1⟩ := H
  exact mm_E.aload_n (mm_atc mc141 rfl) rfl <|
  mm_E.iconst (mm_atc mc141 rfl) <|
  mm_E.aload_n (mm_atc mc141 rfl) rfl <|
  mm_E.iload_n (mm_atc mc141 rfl) rfl <|
  mm_E.iload_n (mm_atc mc141 rfl) rfl <|
  mm_E.catchV1 (mm_atc mc141 rfl) (mm_plc mp141 rfl) rfl mk9 ly1 rfl mx9 rfl rfl (p9_0_0 (d := d) ⟨h0, h1⟩) (p9_0_0 (d := d) ⟨h0, h1⟩) (by omega) rfl rfl <|
  show mm_E _ _ 141 15 [(0, .ref 1), (1, mI x1), (2, mI x2), (3, .ref 96)] _ _ _ from
  mm_E.iconst (mm_atc mc141 rfl) <|
  mm_E.iret (mm_atc mc141 rfl) mr141 rfl
theorem p141_0_1 {w d : Nat} {X : List Value} {A : MF} {x1 x2 : Int} (H : R32 x1 ∧ 0 ≤ x1 ∧ R32 ((A 1 3) - 1) ∧ ((A 1 3) - 1) < x1) : mm_E w (d + 9) 141 0 [(0, .ref 1), (1, mI x1), (2, mI x2), (3, .ref 96)] [] (mm_w X A) (.inl (some (mI 1)), mm_w X A, 1, 6) := by
  obtain ⟨h0, h1, h2, h3⟩ := H
  exact mm_E.aload_n (mm_atc mc141 rfl) rfl <|
  mm_E.iconst (mm_atc mc141 rfl) <|
  mm_E.aload_n (mm_atc mc141 rfl) rfl <|
  mm_E.iload_n (mm_atc mc141 rfl) rfl <|
  mm_E.iload_n (mm_atc mc141 rfl) rfl <|
  mm_E.catchV1 (mm_atc mc141 rfl) (mm_plc mp141 rfl) rfl mk9 ly1 rfl mx9 rfl rfl (p9_0_1 (d := d) ⟨h0, h1, h2, h3⟩) (p9_0_1 (d := d) ⟨h0, h1, h2, h3⟩) (by omega) rfl rfl <|
  show mm_E _ _ 141 15 [(0, .ref 1), (1, mI x1), (2, mI x2), (3, .ref 96)] _ _ _ from
  mm_E.iconst (mm_atc mc141 rfl) <|
  mm_E.iret (mm_atc mc141 rfl) mr141 rfl
theorem p141_0_2 {w d : Nat} {X : List Value} {A : MF} {x1 x2 : Int} (H : R32 x1 ∧ 0 ≤ x1 ∧ R32 ((A 1 3) - 1) ∧ x1 ≤ ((A 1 3) - 1) ∧ R32 x2 ∧ x2 < 0) : mm_E w (d + 9) 141 0 [(0, .ref 1), (1, mI x1), (2, mI x2), (3, .ref 96)] [] (mm_w X A) (.inl (some (mI 1)), mm_w X A, 1, 6) := by
  obtain ⟨h0, h1, h2, h3, h4, h5⟩ := H
  exact mm_E.aload_n (mm_atc mc141 rfl) rfl <|
  mm_E.iconst (mm_atc mc141 rfl) <|
  mm_E.aload_n (mm_atc mc141 rfl) rfl <|
  mm_E.iload_n (mm_atc mc141 rfl) rfl <|
  mm_E.iload_n (mm_atc mc141 rfl) rfl <|
  mm_E.catchV1 (mm_atc mc141 rfl) (mm_plc mp141 rfl) rfl mk9 ly1 rfl mx9 rfl rfl (p9_0_2 (d := d) ⟨h0, h1, h2, h3, h4, h5⟩) (p9_0_2 (d := d) ⟨h0, h1, h2, h3, h4, h5⟩) (by omega) rfl rfl <|
  show mm_E _ _ 141 15 [(0, .ref 1), (1, mI x1), (2, mI x2), (3, .ref 96)] _ _ _ from
  mm_E.iconst (mm_atc mc141 rfl) <|
  mm_E.iret (mm_atc mc141 rfl) mr141 rfl
theorem p141_0_3 {w d : Nat} {X : List Value} {A : MF} {x1 x2 : Int} (H : R32 x1 ∧ 0 ≤ x1 ∧ R32 ((A 1 3) - 1) ∧ x1 ≤ ((A 1 3) - 1) ∧ R32 x2 ∧ 0 ≤ x2 ∧ ((A 1 3) - 1) < x2) : mm_E w (d + 9) 141 0 [(0, .ref 1), (1, mI x1), (2, mI x2), (3, .ref 96)] [] (mm_w X A) (.inl (some (mI 1)), mm_w X A, 1, 6) := by
  obtain ⟨h0, h1, h2, h3, h4, h5, h6⟩ := H
  exact mm_E.aload_n (mm_atc mc141 rfl) rfl <|
  mm_E.iconst (mm_atc mc141 rfl) <|
  mm_E.aload_n (mm_atc mc141 rfl) rfl <|
  mm_E.iload_n (mm_atc mc141 rfl) rfl <|
  mm_E.iload_n (mm_atc mc141 rfl) rfl <|
  mm_E.catchV1 (mm_atc mc141 rfl) (mm_plc mp141 rfl) rfl mk9 ly1 rfl mx9 rfl rfl (p9_0_3 (d := d) ⟨h0, h1, h2, h3, h4, h5, h6⟩) (p9_0_3 (d := d) ⟨h0, h1, h2, h3, h4, h5, h6⟩) (by omega) rfl rfl <|
  show mm_E _ _ 141 15 [(0, .ref 1), (1, mI x1), (2, mI x2), (3, .ref 96)] _ _ _ from
  mm_E.iconst (mm_atc mc141 rfl) <|
  mm_E.iret (mm_atc mc141 rfl) mr141 rfl
theorem p141_0_4 {d : Nat} {X : List Value} {A : MF} {x1 x2 z1 : Int} {A0 : MF} (s0 : mm_E 1 d 9 0 [(0, .ref 1), (1, mI x1), (2, mI x2)] [] (mm_w X A) (.inl (some (mI z1)), mm_w X A0, 0, 0)) (H : R32 z1) : mm_E 1 (d + 1) 141 0 [(0, .ref 1), (1, mI x1), (2, mI x2), (3, .ref 96)] [] (mm_w X A) (.inl (some (mI 0)), mm_w X (mm_u A0 96 0 z1), 0, 0) := by
  have h0 := H
  exact mm_E.aload_n (mm_atc mc141 rfl) rfl <|
  mm_E.iconst (mm_atc mc141 rfl) <|
  mm_E.aload_n (mm_atc mc141 rfl) rfl <|
  mm_E.iload_n (mm_atc mc141 rfl) rfl <|
  mm_E.iload_n (mm_atc mc141 rfl) rfl <|
  mm_E.callV0 (mm_atc mc141 rfl) (mm_plc mp141 rfl) rfl mk9 ly1 rfl mx9 rfl rfl s0 (by omega) <|
  show mm_E _ _ 141 8 _ _ _ _ from
  mm_E.i2l h0 (mm_atc mc141 rfl) <|
  mm_E.lastore (e := 0) (z := z1) (mm_atc mc141 rfl) ly96 rfl (by decide) (by decide) rfl rfl <|
  mm_E.goto (mm_atc mc141 rfl) rfl <|
  mm_E.iconst (mm_atc mc141 rfl) <|
  mm_E.iret (mm_atc mc141 rfl) mr141 rfl
theorem p142_0_0 {w d : Nat} {X : List Value} {A : MF} {x1 x2 x3 : Int} (H : R32 x1 ∧ x1 < 0) : mm_E w (d + 9) 142 0 [(0, .ref 1), (1, mI x1), (2, mI x2), (3, mI x3), (4, .ref 96)] [] (mm_w X A) (.inl (some (mI 1)), mm_w X A, 1, 6) := by
  obtain ⟨h0, h1⟩ := H
  exact mm_E.aload (mm_atc mc142 rfl) rfl <|
  mm_E.iconst (mm_atc mc142 rfl) <|
  mm_E.aload_n (mm_atc mc142 rfl) rfl <|
  mm_E.iload_n (mm_atc mc142 rfl) rfl <|
  mm_E.iload_n (mm_atc mc142 rfl) rfl <|
  mm_E.iload_n (mm_atc mc142 rfl) rfl <|
  mm_E.catchV1 (mm_atc mc142 rfl) (mm_plc mp142 rfl) rfl mk10 ly1 rfl mx10 rfl rfl (p10_0_0 (d := d) ⟨h0, h1⟩) (p10_0_0 (d := d) ⟨h0, h1⟩) (by omega) rfl rfl <|
  show mm_E _ _ 142 17 [(0, .ref 1), (1, mI x1), (2, mI x2), (3, mI x3), (4, .ref 96)] _ _ _ from
  mm_E.iconst (mm_atc mc142 rfl) <|
  mm_E.iret (mm_atc mc142 rfl) mr142 rfl
theorem p142_0_1 {w d : Nat} {X : List Value} {A : MF} {x1 x2 x3 : Int} (H : R32 x1 ∧ 0 ≤ x1 ∧ R32 ((A 1 3) - 1) ∧ ((A 1 3) - 1) < x1) : mm_E w (d + 9) 142 0 [(0, .ref 1), (1, mI x1), (2, mI x2), (3, mI x3), (4, .ref 96)] [] (mm_w X A) (.inl (some (mI 1)), mm_w X A, 1, 6) := by
  obtain ⟨h0, h1, h2, h3⟩ := H
  exact mm_E.aload (mm_atc mc142 rfl) rfl <|
  mm_E.iconst (mm_atc mc142 rfl) <|
  mm_E.aload_n (mm_atc mc142 rfl) rfl <|
  mm_E.iload_n (mm_atc mc142 rfl) rfl <|
  mm_E.iload_n (mm_atc mc142 rfl) rfl <|
  mm_E.iload_n (mm_atc mc142 rfl) rfl <|
  mm_E.catchV1 (mm_atc mc142 rfl) (mm_plc mp142 rfl) rfl mk10 ly1 rfl mx10 rfl rfl (p10_0_1 (d := d) ⟨h0, h1, h2, h3⟩) (p10_0_1 (d := d) ⟨h0, h1, h2, h3⟩) (by omega) rfl rfl <|
  show mm_E _ _ 142 17 [(0, .ref 1), (1, mI x1), (2, mI x2), (3, mI x3), (4, .ref 96)] _ _ _ from
  mm_E.iconst (mm_atc mc142 rfl) <|
  mm_E.iret (mm_atc mc142 rfl) mr142 rfl
theorem p142_0_2 {w d : Nat} {X : List Value} {A : MF} {x1 x2 x3 : Int} (H : R32 x1 ∧ 0 ≤ x1 ∧ R32 ((A 1 3) - 1) ∧ x1 ≤ ((A 1 3) - 1) ∧ R32 x2 ∧ x2 < 0) : mm_E w (d + 9) 142 0 [(0, .ref 1), (1, mI x1), (2, mI x2), (3, mI x3), (4, .ref 96)] [] (mm_w X A) (.inl (some (mI 1)), mm_w X A, 1, 6) := by
  obtain ⟨h0, h1, h2, h3, h4, h5⟩ := H
  exact mm_E.aload (mm_atc mc142 rfl) rfl <|
  mm_E.iconst (mm_atc mc142 rfl) <|
  mm_E.aload_n (mm_atc mc142 rfl) rfl <|
  mm_E.iload_n (mm_atc mc142 rfl) rfl <|
  mm_E.iload_n (mm_atc mc142 rfl) rfl <|
  mm_E.iload_n (mm_atc mc142 rfl) rfl <|
  mm_E.catchV1 (mm_atc mc142 rfl) (mm_plc mp142 rfl) rfl mk10 ly1 rfl mx10 rfl rfl (p10_0_2 (d := d) ⟨h0, h1, h2, h3, h4, h5⟩) (p10_0_2 (d := d) ⟨h0, h1, h2, h3, h4, h5⟩) (by omega) rfl rfl <|
  show mm_E _ _ 142 17 [(0, .ref 1), (1, mI x1), (2, mI x2), (3, mI x3), (4, .ref 96)] _ _ _ from
  mm_E.iconst (mm_atc mc142 rfl) <|
  mm_E.iret (mm_atc mc142 rfl) mr142 rfl
theorem p142_0_3 {w d : Nat} {X : List Value} {A : MF} {x1 x2 x3 : Int} (H : R32 x1 ∧ 0 ≤ x1 ∧ R32 ((A 1 3) - 1) ∧ x1 ≤ ((A 1 3) - 1) ∧ R32 x2 ∧ 0 ≤ x2 ∧ ((A 1 3) - 1) < x2) : mm_E w (d + 9) 142 0 [(0, .ref 1), (1, mI x1), (2, mI x2), (3, mI x3), (4, .ref 96)] [] (mm_w X A) (.inl (some (mI 1)), mm_w X A, 1, 6) := by
  obtain ⟨h0, h1, h2, h3, h4, h5, h6⟩ := H
  exact mm_E.aload (mm_atc mc142 rfl) rfl <|
  mm_E.iconst (mm_atc mc142 rfl) <|
  mm_E.aload_n (mm_atc mc142 rfl) rfl <|
  mm_E.iload_n (mm_atc mc142 rfl) rfl <|
  mm_E.iload_n (mm_atc mc142 rfl) rfl <|
  mm_E.iload_n (mm_atc mc142 rfl) rfl <|
  mm_E.catchV1 (mm_atc mc142 rfl) (mm_plc mp142 rfl) rfl mk10 ly1 rfl mx10 rfl rfl (p10_0_3 (d := d) ⟨h0, h1, h2, h3, h4, h5, h6⟩) (p10_0_3 (d := d) ⟨h0, h1, h2, h3, h4, h5, h6⟩) (by omega) rfl rfl <|
  show mm_E _ _ 142 17 [(0, .ref 1), (1, mI x1), (2, mI x2), (3, mI x3), (4, .ref 96)] _ _ _ from
  mm_E.iconst (mm_atc mc142 rfl) <|
  mm_E.iret (mm_atc mc142 rfl) mr142 rfl
theorem p142_0_4 {d : Nat} {X : List Value} {A : MF} {x1 x2 x3 z1 : Int} {A0 : MF} (s0 : mm_E 1 d 10 0 [(0, .ref 1), (1, mI x1), (2, mI x2), (3, mI x3)] [] (mm_w X A) (.inl (some (mI z1)), mm_w X A0, 0, 0)) (H : R32 z1) : mm_E 1 (d + 1) 142 0 [(0, .ref 1), (1, mI x1), (2, mI x2), (3, mI x3), (4, .ref 96)] [] (mm_w X A) (.inl (some (mI 0)), mm_w X (mm_u A0 96 0 z1), 0, 0) := by
  have h0 := H
  exact mm_E.aload (mm_atc mc142 rfl) rfl <|
  mm_E.iconst (mm_atc mc142 rfl) <|
  mm_E.aload_n (mm_atc mc142 rfl) rfl <|
  mm_E.iload_n (mm_atc mc142 rfl) rfl <|
  mm_E.iload_n (mm_atc mc142 rfl) rfl <|
  mm_E.iload_n (mm_atc mc142 rfl) rfl <|
  mm_E.callV0 (mm_atc mc142 rfl) (mm_plc mp142 rfl) rfl mk10 ly1 rfl mx10 rfl rfl s0 (by omega) <|
  show mm_E _ _ 142 10 _ _ _ _ from
  mm_E.i2l h0 (mm_atc mc142 rfl) <|
  mm_E.lastore (e := 0) (z := z1) (mm_atc mc142 rfl) ly96 rfl (by decide) (by decide) rfl rfl <|
  mm_E.goto (mm_atc mc142 rfl) rfl <|
  mm_E.iconst (mm_atc mc142 rfl) <|
  mm_E.iret (mm_atc mc142 rfl) mr142 rfl
theorem p143_0_0 {w d : Nat} {X : List Value} {A : MF} {x1 : Int} (H : R32 x1 ∧ x1 < 0) : mm_E w (d + 9) 143 0 [(0, .ref 1), (1, mI x1), (2, .ref 96)] [] (mm_w X A) (.inl (some (mI 1)), mm_w X A, 1, 6) := by
  obtain ⟨h0, h1⟩ := H
  exact mm_E.aload_n (mm_atc mc143 rfl) rfl <|
  mm_E.iconst (mm_atc mc143 rfl) <|
  mm_E.aload_n (mm_atc mc143 rfl) rfl <|
  mm_E.iload_n (mm_atc mc143 rfl) rfl <|
  mm_E.catchV1 (mm_atc mc143 rfl) (mm_plc mp143 rfl) rfl mk11 ly1 rfl mx11 rfl rfl (p11_0_0 (d := d) ⟨h0, h1⟩) (p11_0_0 (d := d) ⟨h0, h1⟩) (by omega) rfl rfl <|
  show mm_E _ _ 143 13 [(0, .ref 1), (1, mI x1), (2, .ref 96)] _ _ _ from
  mm_E.iconst (mm_atc mc143 rfl) <|
  mm_E.iret (mm_atc mc143 rfl) mr143 rfl
theorem p143_0_1 {w d : Nat} {X : List Value} {A : MF} {x1 : Int} (H : R32 x1 ∧ 0 ≤ x1 ∧ R32 ((A 1 3) - 1) ∧ ((A 1 3) - 1) < x1) : mm_E w (d + 9) 143 0 [(0, .ref 1), (1, mI x1), (2, .ref 96)] [] (mm_w X A) (.inl (some (mI 1)), mm_w X A, 1, 6) := by
  obtain ⟨h0, h1, h2, h3⟩ := H
  exact mm_E.aload_n (mm_atc mc143 rfl) rfl <|
  mm_E.iconst (mm_atc mc143 rfl) <|
  mm_E.aload_n (mm_atc mc143 rfl) rfl <|
  mm_E.iload_n (mm_atc mc143 rfl) rfl <|
  mm_E.catchV1 (mm_atc mc143 rfl) (mm_plc mp143 rfl) rfl mk11 ly1 rfl mx11 rfl rfl (p11_0_1 (d := d) ⟨h0, h1, h2, h3⟩) (p11_0_1 (d := d) ⟨h0, h1, h2, h3⟩) (by omega) rfl rfl <|
  show mm_E _ _ 143 13 [(0, .ref 1), (1, mI x1), (2, .ref 96)] _ _ _ from
  mm_E.iconst (mm_atc mc143 rfl) <|
  mm_E.iret (mm_atc mc143 rfl) mr143 rfl
theorem p143_0_2 {d : Nat} {X : List Value} {A : MF} {x1 z1 : Int} {A0 : MF} (s0 : mm_E 1 d 11 0 [(0, .ref 1), (1, mI x1)] [] (mm_w X A) (.inl (some (mI z1)), mm_w X A0, 0, 0)) (H : R32 z1) : mm_E 1 (d + 1) 143 0 [(0, .ref 1), (1, mI x1), (2, .ref 96)] [] (mm_w X A) (.inl (some (mI 0)), mm_w X (mm_u A0 96 0 z1), 0, 0) := by
  have h0 := H
  exact mm_E.aload_n (mm_atc mc143 rfl) rfl <|
  mm_E.iconst (mm_atc mc143 rfl) <|
  mm_E.aload_n (mm_atc mc143 rfl) rfl <|
  mm_E.iload_n (mm_atc mc143 rfl) rfl <|
  mm_E.callV0 (mm_atc mc143 rfl) (mm_plc mp143 rfl) rfl mk11 ly1 rfl mx11 rfl rfl s0 (by omega) <|
  show mm_E _ _ 143 7 _ _ _ _ from
  mm_E.i2l h0 (mm_atc mc143 rfl) <|
  mm_E.lastore (e := 0) (z := z1) (mm_atc mc143 rfl) ly96 rfl (by decide) (by decide) rfl rfl <|
  mm_E.goto (mm_atc mc143 rfl) rfl <|
  mm_E.iconst (mm_atc mc143 rfl) <|
  mm_E.iret (mm_atc mc143 rfl) mr143 rfl
theorem p144_0_0 {w d : Nat} {X : List Value} {A : MF} {x1 x2 x3 : Int} (H : R32 x3 ∧ x3 < 0) : mm_E w (d + 9) 144 0 [(0, .ref 1), (1, mI x1), (2, mI x2), (3, mI x3), (4, .ref 96)] [] (mm_w X A) (.inl (some (mI 1)), mm_w X A, 1, 6) := by
  obtain ⟨h0, h1⟩ := H
  exact mm_E.aload (mm_atc mc144 rfl) rfl <|
  mm_E.iconst (mm_atc mc144 rfl) <|
  mm_E.aload_n (mm_atc mc144 rfl) rfl <|
  mm_E.iload_n (mm_atc mc144 rfl) rfl <|
  mm_E.iload_n (mm_atc mc144 rfl) rfl <|
  mm_E.iload_n (mm_atc mc144 rfl) rfl <|
  mm_E.catchV1 (mm_atc mc144 rfl) (mm_plc mp144 rfl) rfl mk12 ly1 rfl mx12 rfl rfl (p12_0_0 (d := d) ⟨h0, h1⟩) (p12_0_0 (d := d) ⟨h0, h1⟩) (by omega) rfl rfl <|
  show mm_E _ _ 144 17 [(0, .ref 1), (1, mI x1), (2, mI x2), (3, mI x3), (4, .ref 96)] _ _ _ from
  mm_E.iconst (mm_atc mc144 rfl) <|
  mm_E.iret (mm_atc mc144 rfl) mr144 rfl
theorem p144_0_1 {w d : Nat} {X : List Value} {A : MF} {x1 x2 x3 : Int} (H : R32 x3 ∧ 0 ≤ x3 ∧ 100000 < x3) : mm_E w (d + 9) 144 0 [(0, .ref 1), (1, mI x1), (2, mI x2), (3, mI x3), (4, .ref 96)] [] (mm_w X A) (.inl (some (mI 1)), mm_w X A, 1, 6) := by
  obtain ⟨h0, h1, h2⟩ := H
  exact mm_E.aload (mm_atc mc144 rfl) rfl <|
  mm_E.iconst (mm_atc mc144 rfl) <|
  mm_E.aload_n (mm_atc mc144 rfl) rfl <|
  mm_E.iload_n (mm_atc mc144 rfl) rfl <|
  mm_E.iload_n (mm_atc mc144 rfl) rfl <|
  mm_E.iload_n (mm_atc mc144 rfl) rfl <|
  mm_E.catchV1 (mm_atc mc144 rfl) (mm_plc mp144 rfl) rfl mk12 ly1 rfl mx12 rfl rfl (p12_0_1 (d := d) ⟨h0, h1, h2⟩) (p12_0_1 (d := d) ⟨h0, h1, h2⟩) (by omega) rfl rfl <|
  show mm_E _ _ 144 17 [(0, .ref 1), (1, mI x1), (2, mI x2), (3, mI x3), (4, .ref 96)] _ _ _ from
  mm_E.iconst (mm_atc mc144 rfl) <|
  mm_E.iret (mm_atc mc144 rfl) mr144 rfl
theorem p144_0_2 {w d : Nat} {X : List Value} {A : MF} {x1 x2 x3 : Int} (H : R32 x3 ∧ 0 ≤ x3 ∧ x3 ≤ 100000 ∧ R32 x1 ∧ x1 < 0) : mm_E w (d + 9) 144 0 [(0, .ref 1), (1, mI x1), (2, mI x2), (3, mI x3), (4, .ref 96)] [] (mm_w X A) (.inl (some (mI 2)), mm_w X A, 1, 6) := by
  obtain ⟨h0, h1, h2, h3, h4⟩ := H
  exact mm_E.aload (mm_atc mc144 rfl) rfl <|
  mm_E.iconst (mm_atc mc144 rfl) <|
  mm_E.aload_n (mm_atc mc144 rfl) rfl <|
  mm_E.iload_n (mm_atc mc144 rfl) rfl <|
  mm_E.iload_n (mm_atc mc144 rfl) rfl <|
  mm_E.iload_n (mm_atc mc144 rfl) rfl <|
  mm_E.catchV1 (mm_atc mc144 rfl) (mm_plc mp144 rfl) rfl mk12 ly1 rfl mx12 rfl rfl (p12_0_2 (d := d) ⟨h0, h1, h2, h3, h4⟩) (p12_0_2 (d := d) ⟨h0, h1, h2, h3, h4⟩) (by omega) rfl rfl <|
  show mm_E _ _ 144 21 [(0, .ref 1), (1, mI x1), (2, mI x2), (3, mI x3), (4, .ref 96)] _ _ _ from
  mm_E.iconst (mm_atc mc144 rfl) <|
  mm_E.iret (mm_atc mc144 rfl) mr144 rfl
theorem p144_0_3 {w d : Nat} {X : List Value} {A : MF} {x1 x2 x3 : Int} (H : R32 x3 ∧ 0 ≤ x3 ∧ x3 ≤ 100000 ∧ R32 x1 ∧ 0 ≤ x1 ∧ R32 ((A 1 3) - 1) ∧ ((A 1 3) - 1) < x1) : mm_E w (d + 9) 144 0 [(0, .ref 1), (1, mI x1), (2, mI x2), (3, mI x3), (4, .ref 96)] [] (mm_w X A) (.inl (some (mI 2)), mm_w X A, 1, 6) := by
  obtain ⟨h0, h1, h2, h3, h4, h5, h6⟩ := H
  exact mm_E.aload (mm_atc mc144 rfl) rfl <|
  mm_E.iconst (mm_atc mc144 rfl) <|
  mm_E.aload_n (mm_atc mc144 rfl) rfl <|
  mm_E.iload_n (mm_atc mc144 rfl) rfl <|
  mm_E.iload_n (mm_atc mc144 rfl) rfl <|
  mm_E.iload_n (mm_atc mc144 rfl) rfl <|
  mm_E.catchV1 (mm_atc mc144 rfl) (mm_plc mp144 rfl) rfl mk12 ly1 rfl mx12 rfl rfl (p12_0_3 (d := d) ⟨h0, h1, h2, h3, h4, h5, h6⟩) (p12_0_3 (d := d) ⟨h0, h1, h2, h3, h4, h5, h6⟩) (by omega) rfl rfl <|
  show mm_E _ _ 144 21 [(0, .ref 1), (1, mI x1), (2, mI x2), (3, mI x3), (4, .ref 96)] _ _ _ from
  mm_E.iconst (mm_atc mc144 rfl) <|
  mm_E.iret (mm_atc mc144 rfl) mr144 rfl
theorem p144_0_4 {w d : Nat} {X : List Value} {A : MF} {x1 x2 x3 : Int} (H : R32 x3 ∧ 0 ≤ x3 ∧ x3 ≤ 100000 ∧ R32 x1 ∧ 0 ≤ x1 ∧ R32 ((A 1 3) - 1) ∧ x1 ≤ ((A 1 3) - 1) ∧ R32 x2 ∧ x2 < 0) : mm_E w (d + 9) 144 0 [(0, .ref 1), (1, mI x1), (2, mI x2), (3, mI x3), (4, .ref 96)] [] (mm_w X A) (.inl (some (mI 2)), mm_w X A, 1, 6) := by
  obtain ⟨h0, h1, h2, h3, h4, h5, h6, h7, h8⟩ := H
  exact mm_E.aload (mm_atc mc144 rfl) rfl <|
  mm_E.iconst (mm_atc mc144 rfl) <|
  mm_E.aload_n (mm_atc mc144 rfl) rfl <|
  mm_E.iload_n (mm_atc mc144 rfl) rfl <|
  mm_E.iload_n (mm_atc mc144 rfl) rfl <|
  mm_E.iload_n (mm_atc mc144 rfl) rfl <|
  mm_E.catchV1 (mm_atc mc144 rfl) (mm_plc mp144 rfl) rfl mk12 ly1 rfl mx12 rfl rfl (p12_0_4 (d := d) ⟨h0, h1, h2, h3, h4, h5, h6, h7, h8⟩) (p12_0_4 (d := d) ⟨h0, h1, h2, h3, h4, h5, h6, h7, h8⟩) (by omega) rfl rfl <|
  show mm_E _ _ 144 21 [(0, .ref 1), (1, mI x1), (2, mI x2), (3, mI x3), (4, .ref 96)] _ _ _ from
  mm_E.iconst (mm_atc mc144 rfl) <|
  mm_E.iret (mm_atc mc144 rfl) mr144 rfl
theorem p144_0_5 {w d : Nat} {X : List Value} {A : MF} {x1 x2 x3 : Int} (H : R32 x3 ∧ 0 ≤ x3 ∧ x3 ≤ 100000 ∧ R32 x1 ∧ 0 ≤ x1 ∧ R32 ((A 1 3) - 1) ∧ x1 ≤ ((A 1 3) - 1) ∧ R32 x2 ∧ 0 ≤ x2 ∧ ((A 1 3) - 1) < x2) : mm_E w (d + 9) 144 0 [(0, .ref 1), (1, mI x1), (2, mI x2), (3, mI x3), (4, .ref 96)] [] (mm_w X A) (.inl (some (mI 2)), mm_w X A, 1, 6) := by
  obtain ⟨h0, h1, h2, h3, h4, h5, h6, h7, h8, h9⟩ := H
  exact mm_E.aload (mm_atc mc144 rfl) rfl <|
  mm_E.iconst (mm_atc mc144 rfl) <|
  mm_E.aload_n (mm_atc mc144 rfl) rfl <|
  mm_E.iload_n (mm_atc mc144 rfl) rfl <|
  mm_E.iload_n (mm_atc mc144 rfl) rfl <|
  mm_E.iload_n (mm_atc mc144 rfl) rfl <|
  mm_E.catchV1 (mm_atc mc144 rfl) (mm_plc mp144 rfl) rfl mk12 ly1 rfl mx12 rfl rfl (p12_0_5 (d := d) ⟨h0, h1, h2, h3, h4, h5, h6, h7, h8, h9⟩) (p12_0_5 (d := d) ⟨h0, h1, h2, h3, h4, h5, h6, h7, h8, h9⟩) (by omega) rfl rfl <|
  show mm_E _ _ 144 21 [(0, .ref 1), (1, mI x1), (2, mI x2), (3, mI x3), (4, .ref 96)] _ _ _ from
  mm_E.iconst (mm_atc mc144 rfl) <|
  mm_E.iret (mm_atc mc144 rfl) mr144 rfl
theorem p144_0_6 {d : Nat} {X : List Value} {A : MF} {x1 x2 x3 z1 : Int} {A0 : MF} (s0 : mm_E 1 d 12 0 [(0, .ref 1), (1, mI x1), (2, mI x2), (3, mI x3)] [] (mm_w X A) (.inl (some (mI z1)), mm_w X A0, 0, 0)) (H : R32 z1) : mm_E 1 (d + 1) 144 0 [(0, .ref 1), (1, mI x1), (2, mI x2), (3, mI x3), (4, .ref 96)] [] (mm_w X A) (.inl (some (mI 0)), mm_w X (mm_u A0 96 0 z1), 0, 0) := by
  have h0 := H
  exact mm_E.aload (mm_atc mc144 rfl) rfl <|
  mm_E.iconst (mm_atc mc144 rfl) <|
  mm_E.aload_n (mm_atc mc144 rfl) rfl <|
  mm_E.iload_n (mm_atc mc144 rfl) rfl <|
  mm_E.iload_n (mm_atc mc144 rfl) rfl <|
  mm_E.iload_n (mm_atc mc144 rfl) rfl <|
  mm_E.callV0 (mm_atc mc144 rfl) (mm_plc mp144 rfl) rfl mk12 ly1 rfl mx12 rfl rfl s0 (by omega) <|
  show mm_E _ _ 144 10 _ _ _ _ from
  mm_E.i2l h0 (mm_atc mc144 rfl) <|
  mm_E.lastore (e := 0) (z := z1) (mm_atc mc144 rfl) ly96 rfl (by decide) (by decide) rfl rfl <|
  mm_E.goto (mm_atc mc144 rfl) rfl <|
  mm_E.iconst (mm_atc mc144 rfl) <|
  mm_E.iret (mm_atc mc144 rfl) mr144 rfl
theorem p145_0_0 {w d : Nat} {X : List Value} {A : MF} {x1 : Int} (H : R32 x1 ∧ x1 < 0) : mm_E w (d + 9) 145 0 [(0, .ref 1), (1, mI x1), (2, .ref 96)] [] (mm_w X A) (.inl (some (mI 1)), mm_w X A, 1, 6) := by
  obtain ⟨h0, h1⟩ := H
  exact mm_E.aload_n (mm_atc mc145 rfl) rfl <|
  mm_E.iconst (mm_atc mc145 rfl) <|
  mm_E.aload_n (mm_atc mc145 rfl) rfl <|
  mm_E.iload_n (mm_atc mc145 rfl) rfl <|
  mm_E.catchV1 (mm_atc mc145 rfl) (mm_plc mp145 rfl) rfl mk13 ly1 rfl mx13 rfl rfl (p13_0_0 (d := d) ⟨h0, h1⟩) (p13_0_0 (d := d) ⟨h0, h1⟩) (by omega) rfl rfl <|
  show mm_E _ _ 145 13 [(0, .ref 1), (1, mI x1), (2, .ref 96)] _ _ _ from
  mm_E.iconst (mm_atc mc145 rfl) <|
  mm_E.iret (mm_atc mc145 rfl) mr145 rfl
theorem p145_0_1 {w d : Nat} {X : List Value} {A : MF} {x1 : Int} (H : R32 x1 ∧ 0 ≤ x1 ∧ 600000 < x1) : mm_E w (d + 9) 145 0 [(0, .ref 1), (1, mI x1), (2, .ref 96)] [] (mm_w X A) (.inl (some (mI 1)), mm_w X A, 1, 6) := by
  obtain ⟨h0, h1, h2⟩ := H
  exact mm_E.aload_n (mm_atc mc145 rfl) rfl <|
  mm_E.iconst (mm_atc mc145 rfl) <|
  mm_E.aload_n (mm_atc mc145 rfl) rfl <|
  mm_E.iload_n (mm_atc mc145 rfl) rfl <|
  mm_E.catchV1 (mm_atc mc145 rfl) (mm_plc mp145 rfl) rfl mk13 ly1 rfl mx13 rfl rfl (p13_0_1 (d := d) ⟨h0, h1, h2⟩) (p13_0_1 (d := d) ⟨h0, h1, h2⟩) (by omega) rfl rfl <|
  show mm_E _ _ 145 13 [(0, .ref 1), (1, mI x1), (2, .ref 96)] _ _ _ from
  mm_E.iconst (mm_atc mc145 rfl) <|
  mm_E.iret (mm_atc mc145 rfl) mr145 rfl
theorem p145_0_2 {d : Nat} {X : List Value} {A : MF} {x1 z1 : Int} {A0 : MF} (s0 : mm_E 1 d 13 0 [(0, .ref 1), (1, mI x1)] [] (mm_w X A) (.inl (some (mI z1)), mm_w X A0, 0, 0)) (H : R32 z1) : mm_E 1 (d + 1) 145 0 [(0, .ref 1), (1, mI x1), (2, .ref 96)] [] (mm_w X A) (.inl (some (mI 0)), mm_w X (mm_u A0 96 0 z1), 0, 0) := by
  have h0 := H
  exact mm_E.aload_n (mm_atc mc145 rfl) rfl <|
  mm_E.iconst (mm_atc mc145 rfl) <|
  mm_E.aload_n (mm_atc mc145 rfl) rfl <|
  mm_E.iload_n (mm_atc mc145 rfl) rfl <|
  mm_E.callV0 (mm_atc mc145 rfl) (mm_plc mp145 rfl) rfl mk13 ly1 rfl mx13 rfl rfl s0 (by omega) <|
  show mm_E _ _ 145 7 _ _ _ _ from
  mm_E.i2l h0 (mm_atc mc145 rfl) <|
  mm_E.lastore (e := 0) (z := z1) (mm_atc mc145 rfl) ly96 rfl (by decide) (by decide) rfl rfl <|
  mm_E.goto (mm_atc mc145 rfl) rfl <|
  mm_E.iconst (mm_atc mc145 rfl) <|
  mm_E.iret (mm_atc mc145 rfl) mr145 rfl
theorem p146_0_0 {d : Nat} {X : List Value} {A : MF} {A0 : MF} {z1 : Int} (s0 : mm_E 1 d 14 0 [(0, .ref 1)] [] (mm_w X A) (.inl (some (mI z1)), mm_w X A0, 0, 0)) (H : R32 z1) : mm_E 1 (d + 1) 146 0 [(0, .ref 1), (1, .ref 96)] [] (mm_w X A) (.inl (some (mI 0)), mm_w X (mm_u A0 96 0 z1), 0, 0) := by
  have h0 := H
  exact mm_E.aload_n (mm_atc mc146 rfl) rfl <|
  mm_E.iconst (mm_atc mc146 rfl) <|
  mm_E.aload_n (mm_atc mc146 rfl) rfl <|
  mm_E.callV0 (mm_atc mc146 rfl) (mm_plc mp146 rfl) rfl mk14 ly1 rfl mx14 rfl rfl s0 (by omega) <|
  show mm_E _ _ 146 6 _ _ _ _ from
  mm_E.i2l h0 (mm_atc mc146 rfl) <|
  mm_E.lastore (e := 0) (z := z1) (mm_atc mc146 rfl) ly96 rfl (by decide) (by decide) rfl rfl <|
  mm_E.goto (mm_atc mc146 rfl) rfl <|
  mm_E.iconst (mm_atc mc146 rfl) <|
  mm_E.iret (mm_atc mc146 rfl) mr146 rfl
theorem p147_0_0 {w d : Nat} {X : List Value} {A : MF} {x1 x2 : Int} (H : R32 x1 ∧ x1 < 0) : mm_E w (d + 9) 147 0 [(0, .ref 1), (1, mI x1), (2, mI x2), (3, .ref 96)] [] (mm_w X A) (.inl (some (mI 1)), mm_w X A, 1, 6) := by
  obtain ⟨h0, h1⟩ := H
  exact mm_E.aload_n (mm_atc mc147 rfl) rfl <|
  mm_E.iconst (mm_atc mc147 rfl) <|
  mm_E.aload_n (mm_atc mc147 rfl) rfl <|
  mm_E.iload_n (mm_atc mc147 rfl) rfl <|
  mm_E.iload_n (mm_atc mc147 rfl) rfl <|
  mm_E.catchV1 (mm_atc mc147 rfl) (mm_plc mp147 rfl) rfl mk15 ly1 rfl mx15 rfl rfl (p15_0_0 (d := d) ⟨h0, h1⟩) (p15_0_0 (d := d) ⟨h0, h1⟩) (by omega) rfl rfl <|
  show mm_E _ _ 147 14 [(0, .ref 1), (1, mI x1), (2, mI x2), (3, .ref 96)] _ _ _ from
  mm_E.iconst (mm_atc mc147 rfl) <|
  mm_E.iret (mm_atc mc147 rfl) mr147 rfl
theorem p147_0_1 {w d : Nat} {X : List Value} {A : MF} {x1 x2 : Int} (H : R32 x1 ∧ 0 ≤ x1 ∧ R32 ((A 1 3) - 1) ∧ ((A 1 3) - 1) < x1) : mm_E w (d + 9) 147 0 [(0, .ref 1), (1, mI x1), (2, mI x2), (3, .ref 96)] [] (mm_w X A) (.inl (some (mI 1)), mm_w X A, 1, 6) := by
  obtain ⟨h0, h1, h2, h3⟩ := H
  exact mm_E.aload_n (mm_atc mc147 rfl) rfl <|
  mm_E.iconst (mm_atc mc147 rfl) <|
  mm_E.aload_n (mm_atc mc147 rfl) rfl <|
  mm_E.iload_n (mm_atc mc147 rfl) rfl <|
  mm_E.iload_n (mm_atc mc147 rfl) rfl <|
  mm_E.catchV1 (mm_atc mc147 rfl) (mm_plc mp147 rfl) rfl mk15 ly1 rfl mx15 rfl rfl (p15_0_1 (d := d) ⟨h0, h1, h2, h3⟩) (p15_0_1 (d := d) ⟨h0, h1, h2, h3⟩) (by omega) rfl rfl <|
  show mm_E _ _ 147 14 [(0, .ref 1), (1, mI x1), (2, mI x2), (3, .ref 96)] _ _ _ from
  mm_E.iconst (mm_atc mc147 rfl) <|
  mm_E.iret (mm_atc mc147 rfl) mr147 rfl
theorem p147_0_2 {w d : Nat} {X : List Value} {A : MF} {x1 x2 : Int} (H : R32 x1 ∧ 0 ≤ x1 ∧ R32 ((A 1 3) - 1) ∧ x1 ≤ ((A 1 3) - 1) ∧ R32 x2 ∧ x2 < 0) : mm_E w (d + 9) 147 0 [(0, .ref 1), (1, mI x1), (2, mI x2), (3, .ref 96)] [] (mm_w X A) (.inl (some (mI 1)), mm_w X A, 1, 6) := by
  obtain ⟨h0, h1, h2, h3, h4, h5⟩ := H
  exact mm_E.aload_n (mm_atc mc147 rfl) rfl <|
  mm_E.iconst (mm_atc mc147 rfl) <|
  mm_E.aload_n (mm_atc mc147 rfl) rfl <|
  mm_E.iload_n (mm_atc mc147 rfl) rfl <|
  mm_E.iload_n (mm_atc mc147 rfl) rfl <|
  mm_E.catchV1 (mm_atc mc147 rfl) (mm_plc mp147 rfl) rfl mk15 ly1 rfl mx15 rfl rfl (p15_0_2 (d := d) ⟨h0, h1, h2, h3, h4, h5⟩) (p15_0_2 (d := d) ⟨h0, h1, h2, h3, h4, h5⟩) (by omega) rfl rfl <|
  show mm_E _ _ 147 14 [(0, .ref 1), (1, mI x1), (2, mI x2), (3, .ref 96)] _ _ _ from
  mm_E.iconst (mm_atc mc147 rfl) <|
  mm_E.iret (mm_atc mc147 rfl) mr147 rfl
theorem p147_0_3 {w d : Nat} {X : List Value} {A : MF} {x1 x2 : Int} (H : R32 x1 ∧ 0 ≤ x1 ∧ R32 ((A 1 3) - 1) ∧ x1 ≤ ((A 1 3) - 1) ∧ R32 x2 ∧ 0 ≤ x2 ∧ 2 < x2) : mm_E w (d + 9) 147 0 [(0, .ref 1), (1, mI x1), (2, mI x2), (3, .ref 96)] [] (mm_w X A) (.inl (some (mI 1)), mm_w X A, 1, 6) := by
  obtain ⟨h0, h1, h2, h3, h4, h5, h6⟩ := H
  exact mm_E.aload_n (mm_atc mc147 rfl) rfl <|
  mm_E.iconst (mm_atc mc147 rfl) <|
  mm_E.aload_n (mm_atc mc147 rfl) rfl <|
  mm_E.iload_n (mm_atc mc147 rfl) rfl <|
  mm_E.iload_n (mm_atc mc147 rfl) rfl <|
  mm_E.catchV1 (mm_atc mc147 rfl) (mm_plc mp147 rfl) rfl mk15 ly1 rfl mx15 rfl rfl (p15_0_3 (d := d) ⟨h0, h1, h2, h3, h4, h5, h6⟩) (p15_0_3 (d := d) ⟨h0, h1, h2, h3, h4, h5, h6⟩) (by omega) rfl rfl <|
  show mm_E _ _ 147 14 [(0, .ref 1), (1, mI x1), (2, mI x2), (3, .ref 96)] _ _ _ from
  mm_E.iconst (mm_atc mc147 rfl) <|
  mm_E.iret (mm_atc mc147 rfl) mr147 rfl
theorem p147_0_4 {w d : Nat} {X : List Value} {A : MF} {x1 x2 : Int} (H : R32 x1 ∧ 0 ≤ x1 ∧ R32 ((A 1 3) - 1) ∧ x1 ≤ ((A 1 3) - 1) ∧ R32 x2 ∧ 0 ≤ x2 ∧ x2 ≤ 2 ∧ (A 25 2 = 0 ∨ A 25 2 = 1) ∧ R32 (A 25 2) ∧ A 25 2 = 0) : mm_E w (d + 9) 147 0 [(0, .ref 1), (1, mI x1), (2, mI x2), (3, .ref 96)] [] (mm_w X A) (.inl (some (mI 2)), mm_w X A, 1, 6) := by
  obtain ⟨h0, h1, h2, h3, h4, h5, h6, h7, h8, h9⟩ := H
  exact mm_E.aload_n (mm_atc mc147 rfl) rfl <|
  mm_E.iconst (mm_atc mc147 rfl) <|
  mm_E.aload_n (mm_atc mc147 rfl) rfl <|
  mm_E.iload_n (mm_atc mc147 rfl) rfl <|
  mm_E.iload_n (mm_atc mc147 rfl) rfl <|
  mm_E.catchV1 (mm_atc mc147 rfl) (mm_plc mp147 rfl) rfl mk15 ly1 rfl mx15 rfl rfl (p15_0_7 (d := d) ⟨h0, h1, h2, h3, h4, h5, h6, h7, h8, h9⟩) (p15_0_7 (d := d) ⟨h0, h1, h2, h3, h4, h5, h6, h7, h8, h9⟩) (by omega) rfl rfl <|
  show mm_E _ _ 147 18 [(0, .ref 1), (1, mI x1), (2, mI x2), (3, .ref 96)] _ _ _ from
  mm_E.iconst (mm_atc mc147 rfl) <|
  mm_E.iret (mm_atc mc147 rfl) mr147 rfl
theorem p147_0_5 {d : Nat} {X : List Value} {A : MF} {x1 x2 z1 : Int} {A0 : MF} (s0 : mm_E 1 d 15 0 [(0, .ref 1), (1, mI x1), (2, mI x2)] [] (mm_w X A) (.inl (some (mJ z1)), mm_w X A0, 0, 0)) : mm_E 1 (d + 1) 147 0 [(0, .ref 1), (1, mI x1), (2, mI x2), (3, .ref 96)] [] (mm_w X A) (.inl (some (mI 0)), mm_w X (mm_u A0 96 0 z1), 0, 0) := by
  exact mm_E.aload_n (mm_atc mc147 rfl) rfl <|
  mm_E.iconst (mm_atc mc147 rfl) <|
  mm_E.aload_n (mm_atc mc147 rfl) rfl <|
  mm_E.iload_n (mm_atc mc147 rfl) rfl <|
  mm_E.iload_n (mm_atc mc147 rfl) rfl <|
  mm_E.callV0 (mm_atc mc147 rfl) (mm_plc mp147 rfl) rfl mk15 ly1 rfl mx15 rfl rfl s0 (by omega) <|
  show mm_E _ _ 147 8 _ _ _ _ from
  mm_E.lastore (e := 0) (z := z1) (mm_atc mc147 rfl) ly96 rfl (by decide) (by decide) rfl rfl <|
  mm_E.goto (mm_atc mc147 rfl) rfl <|
  mm_E.iconst (mm_atc mc147 rfl) <|
  mm_E.iret (mm_atc mc147 rfl) mr147 rfl
theorem p148_0_0 {w d : Nat} {X : List Value} {A : MF} {x1 : Int} (H : R32 x1 ∧ x1 < 1) : mm_E w (d + 9) 148 0 [(0, .ref 1), (1, mI x1)] [] (mm_w X A) (.inl (some (mI 1)), mm_w X A, 1, 6) := by
  obtain ⟨h0, h1⟩ := H
  exact mm_E.aload_n (mm_atc mc148 rfl) rfl <|
  mm_E.iload_n (mm_atc mc148 rfl) rfl <|
  mm_E.catchV1 (mm_atc mc148 rfl) (mm_plc mp148 rfl) rfl mk16 ly1 rfl mx16 rfl rfl (p16_0_0 (d := d) ⟨h0, h1⟩) (p16_0_0 (d := d) ⟨h0, h1⟩) (by omega) rfl rfl <|
  show mm_E _ _ 148 9 [(0, .ref 1), (1, mI x1)] _ _ _ from
  mm_E.iconst (mm_atc mc148 rfl) <|
  mm_E.iret (mm_atc mc148 rfl) mr148 rfl
theorem p148_0_1 {w d : Nat} {X : List Value} {A : MF} {x1 : Int} (H : R32 x1 ∧ 1 ≤ x1 ∧ 16 < x1) : mm_E w (d + 9) 148 0 [(0, .ref 1), (1, mI x1)] [] (mm_w X A) (.inl (some (mI 1)), mm_w X A, 1, 6) := by
  obtain ⟨h0, h1, h2⟩ := H
  exact mm_E.aload_n (mm_atc mc148 rfl) rfl <|
  mm_E.iload_n (mm_atc mc148 rfl) rfl <|
  mm_E.catchV1 (mm_atc mc148 rfl) (mm_plc mp148 rfl) rfl mk16 ly1 rfl mx16 rfl rfl (p16_0_1 (d := d) ⟨h0, h1, h2⟩) (p16_0_1 (d := d) ⟨h0, h1, h2⟩) (by omega) rfl rfl <|
  show mm_E _ _ 148 9 [(0, .ref 1), (1, mI x1)] _ _ _ from
  mm_E.iconst (mm_atc mc148 rfl) <|
  mm_E.iret (mm_atc mc148 rfl) mr148 rfl
theorem p148_0_2 {d : Nat} {X : List Value} {A : MF} {x1 : Int} {A0 : MF} (s0 : mm_E 1 d 16 0 [(0, .ref 1), (1, mI x1)] [] (mm_w X A) (.inl (none), mm_w X A0, 0, 0)) : mm_E 1 (d + 1) 148 0 [(0, .ref 1), (1, mI x1)] [] (mm_w X A) (.inl (some (mI 0)), mm_w X A0, 0, 0) := by
  exact mm_E.aload_n (mm_atc mc148 rfl) rfl <|
  mm_E.iload_n (mm_atc mc148 rfl) rfl <|
  mm_E.callV0 (mm_atc mc148 rfl) (mm_plc mp148 rfl) rfl mk16 ly1 rfl mx16 rfl rfl s0 (by omega) <|
  show mm_E _ _ 148 5 _ _ _ _ from
  mm_E.goto (mm_atc mc148 rfl) rfl <|
  mm_E.iconst (mm_atc mc148 rfl) <|
  mm_E.iret (mm_atc mc148 rfl) mr148 rfl
theorem p149_0_0 {w d : Nat} {X : List Value} {A : MF} {x1 x2 x3 : Int} (H : R32 x3 ∧ x3 < 0) : mm_E w (d + 9) 149 0 [(0, .ref 1), (1, mI x1), (2, mI x2), (3, mI x3), (4, .ref 96)] [] (mm_w X A) (.inl (some (mI 1)), mm_w X A, 1, 6) := by
  obtain ⟨h0, h1⟩ := H
  exact mm_E.aload (mm_atc mc149 rfl) rfl <|
  mm_E.iconst (mm_atc mc149 rfl) <|
  mm_E.aload_n (mm_atc mc149 rfl) rfl <|
  mm_E.iload_n (mm_atc mc149 rfl) rfl <|
  mm_E.iload_n (mm_atc mc149 rfl) rfl <|
  mm_E.iload_n (mm_atc mc149 rfl) rfl <|
  mm_E.catchV1 (mm_atc mc149 rfl) (mm_plc mp149 rfl) rfl mk17 ly1 rfl mx17 rfl rfl (p17_0_0 (d := d) ⟨h0, h1⟩) (p17_0_0 (d := d) ⟨h0, h1⟩) (by omega) rfl rfl <|
  show mm_E _ _ 149 17 [(0, .ref 1), (1, mI x1), (2, mI x2), (3, mI x3), (4, .ref 96)] _ _ _ from
  mm_E.iconst (mm_atc mc149 rfl) <|
  mm_E.iret (mm_atc mc149 rfl) mr149 rfl
theorem p149_0_1 {w d : Nat} {X : List Value} {A : MF} {x1 x2 x3 : Int} (H : R32 x3 ∧ 0 ≤ x3 ∧ 12 < x3) : mm_E w (d + 9) 149 0 [(0, .ref 1), (1, mI x1), (2, mI x2), (3, mI x3), (4, .ref 96)] [] (mm_w X A) (.inl (some (mI 1)), mm_w X A, 1, 6) := by
  obtain ⟨h0, h1, h2⟩ := H
  exact mm_E.aload (mm_atc mc149 rfl) rfl <|
  mm_E.iconst (mm_atc mc149 rfl) <|
  mm_E.aload_n (mm_atc mc149 rfl) rfl <|
  mm_E.iload_n (mm_atc mc149 rfl) rfl <|
  mm_E.iload_n (mm_atc mc149 rfl) rfl <|
  mm_E.iload_n (mm_atc mc149 rfl) rfl <|
  mm_E.catchV1 (mm_atc mc149 rfl) (mm_plc mp149 rfl) rfl mk17 ly1 rfl mx17 rfl rfl (p17_0_1 (d := d) ⟨h0, h1, h2⟩) (p17_0_1 (d := d) ⟨h0, h1, h2⟩) (by omega) rfl rfl <|
  show mm_E _ _ 149 17 [(0, .ref 1), (1, mI x1), (2, mI x2), (3, mI x3), (4, .ref 96)] _ _ _ from
  mm_E.iconst (mm_atc mc149 rfl) <|
  mm_E.iret (mm_atc mc149 rfl) mr149 rfl
theorem p149_0_2 {w d : Nat} {X : List Value} {A : MF} {x1 x2 x3 : Int} (H : R32 x3 ∧ 0 ≤ x3 ∧ x3 ≤ 12 ∧ R32 x1 ∧ x1 < 0) : mm_E w (d + 9) 149 0 [(0, .ref 1), (1, mI x1), (2, mI x2), (3, mI x3), (4, .ref 96)] [] (mm_w X A) (.inl (some (mI 2)), mm_w X A, 1, 6) := by
  obtain ⟨h0, h1, h2, h3, h4⟩ := H
  exact mm_E.aload (mm_atc mc149 rfl) rfl <|
  mm_E.iconst (mm_atc mc149 rfl) <|
  mm_E.aload_n (mm_atc mc149 rfl) rfl <|
  mm_E.iload_n (mm_atc mc149 rfl) rfl <|
  mm_E.iload_n (mm_atc mc149 rfl) rfl <|
  mm_E.iload_n (mm_atc mc149 rfl) rfl <|
  mm_E.catchV1 (mm_atc mc149 rfl) (mm_plc mp149 rfl) rfl mk17 ly1 rfl mx17 rfl rfl (p17_0_2 (d := d) ⟨h0, h1, h2, h3, h4⟩) (p17_0_2 (d := d) ⟨h0, h1, h2, h3, h4⟩) (by omega) rfl rfl <|
  show mm_E _ _ 149 21 [(0, .ref 1), (1, mI x1), (2, mI x2), (3, mI x3), (4, .ref 96)] _ _ _ from
  mm_E.iconst (mm_atc mc149 rfl) <|
  mm_E.iret (mm_atc mc149 rfl) mr149 rfl
theorem p149_0_3 {w d : Nat} {X : List Value} {A : MF} {x1 x2 x3 : Int} (H : R32 x3 ∧ 0 ≤ x3 ∧ x3 ≤ 12 ∧ R32 x1 ∧ 0 ≤ x1 ∧ R32 ((A 1 3) - 1) ∧ ((A 1 3) - 1) < x1) : mm_E w (d + 9) 149 0 [(0, .ref 1), (1, mI x1), (2, mI x2), (3, mI x3), (4, .ref 96)] [] (mm_w X A) (.inl (some (mI 2)), mm_w X A, 1, 6) := by
  obtain ⟨h0, h1, h2, h3, h4, h5, h6⟩ := H
  exact mm_E.aload (mm_atc mc149 rfl) rfl <|
  mm_E.iconst (mm_atc mc149 rfl) <|
  mm_E.aload_n (mm_atc mc149 rfl) rfl <|
  mm_E.iload_n (mm_atc mc149 rfl) rfl <|
  mm_E.iload_n (mm_atc mc149 rfl) rfl <|
  mm_E.iload_n (mm_atc mc149 rfl) rfl <|
  mm_E.catchV1 (mm_atc mc149 rfl) (mm_plc mp149 rfl) rfl mk17 ly1 rfl mx17 rfl rfl (p17_0_3 (d := d) ⟨h0, h1, h2, h3, h4, h5, h6⟩) (p17_0_3 (d := d) ⟨h0, h1, h2, h3, h4, h5, h6⟩) (by omega) rfl rfl <|
  show mm_E _ _ 149 21 [(0, .ref 1), (1, mI x1), (2, mI x2), (3, mI x3), (4, .ref 96)] _ _ _ from
  mm_E.iconst (mm_atc mc149 rfl) <|
  mm_E.iret (mm_atc mc149 rfl) mr149 rfl
theorem p149_0_4 {w d : Nat} {X : List Value} {A : MF} {x1 x2 x3 : Int} (H : R32 x3 ∧ 0 ≤ x3 ∧ x3 ≤ 12 ∧ R32 x1 ∧ 0 ≤ x1 ∧ R32 ((A 1 3) - 1) ∧ x1 ≤ ((A 1 3) - 1) ∧ R32 x2 ∧ x2 < 0) : mm_E w (d + 9) 149 0 [(0, .ref 1), (1, mI x1), (2, mI x2), (3, mI x3), (4, .ref 96)] [] (mm_w X A) (.inl (some (mI 2)), mm_w X A, 1, 6) := by
  obtain ⟨h0, h1, h2, h3, h4, h5, h6, h7, h8⟩ := H
  exact mm_E.aload (mm_atc mc149 rfl) rfl <|
  mm_E.iconst (mm_atc mc149 rfl) <|
  mm_E.aload_n (mm_atc mc149 rfl) rfl <|
  mm_E.iload_n (mm_atc mc149 rfl) rfl <|
  mm_E.iload_n (mm_atc mc149 rfl) rfl <|
  mm_E.iload_n (mm_atc mc149 rfl) rfl <|
  mm_E.catchV1 (mm_atc mc149 rfl) (mm_plc mp149 rfl) rfl mk17 ly1 rfl mx17 rfl rfl (p17_0_4 (d := d) ⟨h0, h1, h2, h3, h4, h5, h6, h7, h8⟩) (p17_0_4 (d := d) ⟨h0, h1, h2, h3, h4, h5, h6, h7, h8⟩) (by omega) rfl rfl <|
  show mm_E _ _ 149 21 [(0, .ref 1), (1, mI x1), (2, mI x2), (3, mI x3), (4, .ref 96)] _ _ _ from
  mm_E.iconst (mm_atc mc149 rfl) <|
  mm_E.iret (mm_atc mc149 rfl) mr149 rfl
theorem p149_0_5 {w d : Nat} {X : List Value} {A : MF} {x1 x2 x3 : Int} (H : R32 x3 ∧ 0 ≤ x3 ∧ x3 ≤ 12 ∧ R32 x1 ∧ 0 ≤ x1 ∧ R32 ((A 1 3) - 1) ∧ x1 ≤ ((A 1 3) - 1) ∧ R32 x2 ∧ 0 ≤ x2 ∧ 15 < x2) : mm_E w (d + 9) 149 0 [(0, .ref 1), (1, mI x1), (2, mI x2), (3, mI x3), (4, .ref 96)] [] (mm_w X A) (.inl (some (mI 2)), mm_w X A, 1, 6) := by
  obtain ⟨h0, h1, h2, h3, h4, h5, h6, h7, h8, h9⟩ := H
  exact mm_E.aload (mm_atc mc149 rfl) rfl <|
  mm_E.iconst (mm_atc mc149 rfl) <|
  mm_E.aload_n (mm_atc mc149 rfl) rfl <|
  mm_E.iload_n (mm_atc mc149 rfl) rfl <|
  mm_E.iload_n (mm_atc mc149 rfl) rfl <|
  mm_E.iload_n (mm_atc mc149 rfl) rfl <|
  mm_E.catchV1 (mm_atc mc149 rfl) (mm_plc mp149 rfl) rfl mk17 ly1 rfl mx17 rfl rfl (p17_0_5 (d := d) ⟨h0, h1, h2, h3, h4, h5, h6, h7, h8, h9⟩) (p17_0_5 (d := d) ⟨h0, h1, h2, h3, h4, h5, h6, h7, h8, h9⟩) (by omega) rfl rfl <|
  show mm_E _ _ 149 21 [(0, .ref 1), (1, mI x1), (2, mI x2), (3, mI x3), (4, .ref 96)] _ _ _ from
  mm_E.iconst (mm_atc mc149 rfl) <|
  mm_E.iret (mm_atc mc149 rfl) mr149 rfl
theorem p149_0_6 {d : Nat} {X : List Value} {A : MF} {x1 x2 x3 z1 : Int} {A0 : MF} (s0 : mm_E 1 d 17 0 [(0, .ref 1), (1, mI x1), (2, mI x2), (3, mI x3)] [] (mm_w X A) (.inl (some (mI z1)), mm_w X A0, 0, 0)) (H : R32 z1) : mm_E 1 (d + 1) 149 0 [(0, .ref 1), (1, mI x1), (2, mI x2), (3, mI x3), (4, .ref 96)] [] (mm_w X A) (.inl (some (mI 0)), mm_w X (mm_u A0 96 0 z1), 0, 0) := by
  have h0 := H
  exact mm_E.aload (mm_atc mc149 rfl) rfl <|
  mm_E.iconst (mm_atc mc149 rfl) <|
  mm_E.aload_n (mm_atc mc149 rfl) rfl <|
  mm_E.iload_n (mm_atc mc149 rfl) rfl <|
  mm_E.iload_n (mm_atc mc149 rfl) rfl <|
  mm_E.iload_n (mm_atc mc149 rfl) rfl <|
  mm_E.callV0 (mm_atc mc149 rfl) (mm_plc mp149 rfl) rfl mk17 ly1 rfl mx17 rfl rfl s0 (by omega) <|
  show mm_E _ _ 149 10 _ _ _ _ from
  mm_E.i2l h0 (mm_atc mc149 rfl) <|
  mm_E.lastore (e := 0) (z := z1) (mm_atc mc149 rfl) ly96 rfl (by decide) (by decide) rfl rfl <|
  mm_E.goto (mm_atc mc149 rfl) rfl <|
  mm_E.iconst (mm_atc mc149 rfl) <|
  mm_E.iret (mm_atc mc149 rfl) mr149 rfl
theorem p150_0_0 {w d : Nat} {X : List Value} {A : MF} {x1 x2 : Int} (H : R32 x1 ∧ x1 < 0) : mm_E w (d + 9) 150 0 [(0, .ref 1), (1, mI x1), (2, mI x2), (3, .ref 96)] [] (mm_w X A) (.inl (some (mI 1)), mm_w X A, 1, 6) := by
  obtain ⟨h0, h1⟩ := H
  exact mm_E.aload_n (mm_atc mc150 rfl) rfl <|
  mm_E.iconst (mm_atc mc150 rfl) <|
  mm_E.aload_n (mm_atc mc150 rfl) rfl <|
  mm_E.iload_n (mm_atc mc150 rfl) rfl <|
  mm_E.iload_n (mm_atc mc150 rfl) rfl <|
  mm_E.catchV1 (mm_atc mc150 rfl) (mm_plc mp150 rfl) rfl mk19 ly1 rfl mx19 rfl rfl (p19_0_0 (d := d) ⟨h0, h1⟩) (p19_0_0 (d := d) ⟨h0, h1⟩) (by omega) rfl rfl <|
  show mm_E _ _ 150 14 [(0, .ref 1), (1, mI x1), (2, mI x2), (3, .ref 96)] _ _ _ from
  mm_E.iconst (mm_atc mc150 rfl) <|
  mm_E.iret (mm_atc mc150 rfl) mr150 rfl
theorem p150_0_1 {w d : Nat} {X : List Value} {A : MF} {x1 x2 : Int} (H : R32 x1 ∧ 0 ≤ x1 ∧ R32 ((A 1 3) - 1) ∧ ((A 1 3) - 1) < x1) : mm_E w (d + 9) 150 0 [(0, .ref 1), (1, mI x1), (2, mI x2), (3, .ref 96)] [] (mm_w X A) (.inl (some (mI 1)), mm_w X A, 1, 6) := by
  obtain ⟨h0, h1, h2, h3⟩ := H
  exact mm_E.aload_n (mm_atc mc150 rfl) rfl <|
  mm_E.iconst (mm_atc mc150 rfl) <|
  mm_E.aload_n (mm_atc mc150 rfl) rfl <|
  mm_E.iload_n (mm_atc mc150 rfl) rfl <|
  mm_E.iload_n (mm_atc mc150 rfl) rfl <|
  mm_E.catchV1 (mm_atc mc150 rfl) (mm_plc mp150 rfl) rfl mk19 ly1 rfl mx19 rfl rfl (p19_0_1 (d := d) ⟨h0, h1, h2, h3⟩) (p19_0_1 (d := d) ⟨h0, h1, h2, h3⟩) (by omega) rfl rfl <|
  show mm_E _ _ 150 14 [(0, .ref 1), (1, mI x1), (2, mI x2), (3, .ref 96)] _ _ _ from
  mm_E.iconst (mm_atc mc150 rfl) <|
  mm_E.iret (mm_atc mc150 rfl) mr150 rfl
theorem p150_0_2 {w d : Nat} {X : List Value} {A : MF} {x1 x2 : Int} (H : R32 x1 ∧ 0 ≤ x1 ∧ R32 ((A 1 3) - 1) ∧ x1 ≤ ((A 1 3) - 1) ∧ R32 x2 ∧ x2 < 0) : mm_E w (d + 9) 150 0 [(0, .ref 1), (1, mI x1), (2, mI x2), (3, .ref 96)] [] (mm_w X A) (.inl (some (mI 1)), mm_w X A, 1, 6) := by
  obtain ⟨h0, h1, h2, h3, h4, h5⟩ := H
  exact mm_E.aload_n (mm_atc mc150 rfl) rfl <|
  mm_E.iconst (mm_atc mc150 rfl) <|
  mm_E.aload_n (mm_atc mc150 rfl) rfl <|
  mm_E.iload_n (mm_atc mc150 rfl) rfl <|
  mm_E.iload_n (mm_atc mc150 rfl) rfl <|
  mm_E.catchV1 (mm_atc mc150 rfl) (mm_plc mp150 rfl) rfl mk19 ly1 rfl mx19 rfl rfl (p19_0_2 (d := d) ⟨h0, h1, h2, h3, h4, h5⟩) (p19_0_2 (d := d) ⟨h0, h1, h2, h3, h4, h5⟩) (by omega) rfl rfl <|
  show mm_E _ _ 150 14 [(0, .ref 1), (1, mI x1), (2, mI x2), (3, .ref 96)] _ _ _ from
  mm_E.iconst (mm_atc mc150 rfl) <|
  mm_E.iret (mm_atc mc150 rfl) mr150 rfl
theorem p150_0_3 {w d : Nat} {X : List Value} {A : MF} {x1 x2 : Int} (H : R32 x1 ∧ 0 ≤ x1 ∧ R32 ((A 1 3) - 1) ∧ x1 ≤ ((A 1 3) - 1) ∧ R32 x2 ∧ 0 ≤ x2 ∧ 3 < x2) : mm_E w (d + 9) 150 0 [(0, .ref 1), (1, mI x1), (2, mI x2), (3, .ref 96)] [] (mm_w X A) (.inl (some (mI 1)), mm_w X A, 1, 6) := by
  obtain ⟨h0, h1, h2, h3, h4, h5, h6⟩ := H
  exact mm_E.aload_n (mm_atc mc150 rfl) rfl <|
  mm_E.iconst (mm_atc mc150 rfl) <|
  mm_E.aload_n (mm_atc mc150 rfl) rfl <|
  mm_E.iload_n (mm_atc mc150 rfl) rfl <|
  mm_E.iload_n (mm_atc mc150 rfl) rfl <|
  mm_E.catchV1 (mm_atc mc150 rfl) (mm_plc mp150 rfl) rfl mk19 ly1 rfl mx19 rfl rfl (p19_0_3 (d := d) ⟨h0, h1, h2, h3, h4, h5, h6⟩) (p19_0_3 (d := d) ⟨h0, h1, h2, h3, h4, h5, h6⟩) (by omega) rfl rfl <|
  show mm_E _ _ 150 14 [(0, .ref 1), (1, mI x1), (2, mI x2), (3, .ref 96)] _ _ _ from
  mm_E.iconst (mm_atc mc150 rfl) <|
  mm_E.iret (mm_atc mc150 rfl) mr150 rfl
theorem p150_0_4 {w d : Nat} {X : List Value} {A : MF} {x1 x2 : Int} (H : R32 x1 ∧ 0 ≤ x1 ∧ R32 ((A 1 3) - 1) ∧ x1 ≤ ((A 1 3) - 1) ∧ R32 x2 ∧ 0 ≤ x2 ∧ x2 ≤ 3 ∧ (A 43 2 = 0 ∨ A 43 2 = 1) ∧ R32 (A 43 2) ∧ A 43 2 = 0) : mm_E w (d + 9) 150 0 [(0, .ref 1), (1, mI x1), (2, mI x2), (3, .ref 96)] [] (mm_w X A) (.inl (some (mI 2)), mm_w X A, 1, 6) := by
  obtain ⟨h0, h1, h2, h3, h4, h5, h6, h7, h8, h9⟩ := H
  exact mm_E.aload_n (mm_atc mc150 rfl) rfl <|
  mm_E.iconst (mm_atc mc150 rfl) <|
  mm_E.aload_n (mm_atc mc150 rfl) rfl <|
  mm_E.iload_n (mm_atc mc150 rfl) rfl <|
  mm_E.iload_n (mm_atc mc150 rfl) rfl <|
  mm_E.catchV1 (mm_atc mc150 rfl) (mm_plc mp150 rfl) rfl mk19 ly1 rfl mx19 rfl rfl (p19_0_8 (d := d) ⟨h0, h1, h2, h3, h4, h5, h6, h7, h8, h9⟩) (p19_0_8 (d := d) ⟨h0, h1, h2, h3, h4, h5, h6, h7, h8, h9⟩) (by omega) rfl rfl <|
  show mm_E _ _ 150 18 [(0, .ref 1), (1, mI x1), (2, mI x2), (3, .ref 96)] _ _ _ from
  mm_E.iconst (mm_atc mc150 rfl) <|
  mm_E.iret (mm_atc mc150 rfl) mr150 rfl
theorem p150_0_5 {d : Nat} {X : List Value} {A : MF} {x1 x2 z1 : Int} {A0 : MF} (s0 : mm_E 1 d 19 0 [(0, .ref 1), (1, mI x1), (2, mI x2)] [] (mm_w X A) (.inl (some (mJ z1)), mm_w X A0, 0, 0)) : mm_E 1 (d + 1) 150 0 [(0, .ref 1), (1, mI x1), (2, mI x2), (3, .ref 96)] [] (mm_w X A) (.inl (some (mI 0)), mm_w X (mm_u A0 96 0 z1), 0, 0) := by
  exact mm_E.aload_n (mm_atc mc150 rfl) rfl <|
  mm_E.iconst (mm_atc mc150 rfl) <|
  mm_E.aload_n (mm_atc mc150 rfl) rfl <|
  mm_E.iload_n (mm_atc mc150 rfl) rfl <|
  mm_E.iload_n (mm_atc mc150 rfl) rfl <|
  mm_E.callV0 (mm_atc mc150 rfl) (mm_plc mp150 rfl) rfl mk19 ly1 rfl mx19 rfl rfl s0 (by omega) <|
  show mm_E _ _ 150 8 _ _ _ _ from
  mm_E.lastore (e := 0) (z := z1) (mm_atc mc150 rfl) ly96 rfl (by decide) (by decide) rfl rfl <|
  mm_E.goto (mm_atc mc150 rfl) rfl <|
  mm_E.iconst (mm_atc mc150 rfl) <|
  mm_E.iret (mm_atc mc150 rfl) mr150 rfl
theorem p151_0_0 {w d : Nat} {X : List Value} {A : MF} {x1 x2 x3 : Int} (H : R32 x1 ∧ x1 < 0) : mm_E w (d + 9) 151 0 [(0, .ref 1), (1, mI x1), (2, mI x2), (3, mI x3), (4, .ref 96)] [] (mm_w X A) (.inl (some (mI 1)), mm_w X A, 1, 6) := by
  obtain ⟨h0, h1⟩ := H
  exact mm_E.aload (mm_atc mc151 rfl) rfl <|
  mm_E.iconst (mm_atc mc151 rfl) <|
  mm_E.aload_n (mm_atc mc151 rfl) rfl <|
  mm_E.iload_n (mm_atc mc151 rfl) rfl <|
  mm_E.iload_n (mm_atc mc151 rfl) rfl <|
  mm_E.iload_n (mm_atc mc151 rfl) rfl <|
  mm_E.catchV1 (mm_atc mc151 rfl) (mm_plc mp151 rfl) rfl mk20 ly1 rfl mx20 rfl rfl (p20_0_0 (d := d) ⟨h0, h1⟩) (p20_0_0 (d := d) ⟨h0, h1⟩) (by omega) rfl rfl <|
  show mm_E _ _ 151 16 [(0, .ref 1), (1, mI x1), (2, mI x2), (3, mI x3), (4, .ref 96)] _ _ _ from
  mm_E.iconst (mm_atc mc151 rfl) <|
  mm_E.iret (mm_atc mc151 rfl) mr151 rfl
theorem p151_0_1 {w d : Nat} {X : List Value} {A : MF} {x1 x2 x3 : Int} (H : R32 x1 ∧ 0 ≤ x1 ∧ R32 ((A 1 3) - 1) ∧ ((A 1 3) - 1) < x1) : mm_E w (d + 9) 151 0 [(0, .ref 1), (1, mI x1), (2, mI x2), (3, mI x3), (4, .ref 96)] [] (mm_w X A) (.inl (some (mI 1)), mm_w X A, 1, 6) := by
  obtain ⟨h0, h1, h2, h3⟩ := H
  exact mm_E.aload (mm_atc mc151 rfl) rfl <|
  mm_E.iconst (mm_atc mc151 rfl) <|
  mm_E.aload_n (mm_atc mc151 rfl) rfl <|
  mm_E.iload_n (mm_atc mc151 rfl) rfl <|
  mm_E.iload_n (mm_atc mc151 rfl) rfl <|
  mm_E.iload_n (mm_atc mc151 rfl) rfl <|
  mm_E.catchV1 (mm_atc mc151 rfl) (mm_plc mp151 rfl) rfl mk20 ly1 rfl mx20 rfl rfl (p20_0_1 (d := d) ⟨h0, h1, h2, h3⟩) (p20_0_1 (d := d) ⟨h0, h1, h2, h3⟩) (by omega) rfl rfl <|
  show mm_E _ _ 151 16 [(0, .ref 1), (1, mI x1), (2, mI x2), (3, mI x3), (4, .ref 96)] _ _ _ from
  mm_E.iconst (mm_atc mc151 rfl) <|
  mm_E.iret (mm_atc mc151 rfl) mr151 rfl
theorem p151_0_2 {w d : Nat} {X : List Value} {A : MF} {x1 x2 x3 : Int} (H : R32 x1 ∧ 0 ≤ x1 ∧ R32 ((A 1 3) - 1) ∧ x1 ≤ ((A 1 3) - 1) ∧ R32 x2 ∧ x2 < 0) : mm_E w (d + 9) 151 0 [(0, .ref 1), (1, mI x1), (2, mI x2), (3, mI x3), (4, .ref 96)] [] (mm_w X A) (.inl (some (mI 1)), mm_w X A, 1, 6) := by
  obtain ⟨h0, h1, h2, h3, h4, h5⟩ := H
  exact mm_E.aload (mm_atc mc151 rfl) rfl <|
  mm_E.iconst (mm_atc mc151 rfl) <|
  mm_E.aload_n (mm_atc mc151 rfl) rfl <|
  mm_E.iload_n (mm_atc mc151 rfl) rfl <|
  mm_E.iload_n (mm_atc mc151 rfl) rfl <|
  mm_E.iload_n (mm_atc mc151 rfl) rfl <|
  mm_E.catchV1 (mm_atc mc151 rfl) (mm_plc mp151 rfl) rfl mk20 ly1 rfl mx20 rfl rfl (p20_0_2 (d := d) ⟨h0, h1, h2, h3, h4, h5⟩) (p20_0_2 (d := d) ⟨h0, h1, h2, h3, h4, h5⟩) (by omega) rfl rfl <|
  show mm_E _ _ 151 16 [(0, .ref 1), (1, mI x1), (2, mI x2), (3, mI x3), (4, .ref 96)] _ _ _ from
  mm_E.iconst (mm_atc mc151 rfl) <|
  mm_E.iret (mm_atc mc151 rfl) mr151 rfl
theorem p151_0_3 {w d : Nat} {X : List Value} {A : MF} {x1 x2 x3 : Int} (H : R32 x1 ∧ 0 ≤ x1 ∧ R32 ((A 1 3) - 1) ∧ x1 ≤ ((A 1 3) - 1) ∧ R32 x2 ∧ 0 ≤ x2 ∧ ((A 1 3) - 1) < x2) : mm_E w (d + 9) 151 0 [(0, .ref 1), (1, mI x1), (2, mI x2), (3, mI x3), (4, .ref 96)] [] (mm_w X A) (.inl (some (mI 1)), mm_w X A, 1, 6) := by
  obtain ⟨h0, h1, h2, h3, h4, h5, h6⟩ := H
  exact mm_E.aload (mm_atc mc151 rfl) rfl <|
  mm_E.iconst (mm_atc mc151 rfl) <|
  mm_E.aload_n (mm_atc mc151 rfl) rfl <|
  mm_E.iload_n (mm_atc mc151 rfl) rfl <|
  mm_E.iload_n (mm_atc mc151 rfl) rfl <|
  mm_E.iload_n (mm_atc mc151 rfl) rfl <|
  mm_E.catchV1 (mm_atc mc151 rfl) (mm_plc mp151 rfl) rfl mk20 ly1 rfl mx20 rfl rfl (p20_0_3 (d := d) ⟨h0, h1, h2, h3, h4, h5, h6⟩) (p20_0_3 (d := d) ⟨h0, h1, h2, h3, h4, h5, h6⟩) (by omega) rfl rfl <|
  show mm_E _ _ 151 16 [(0, .ref 1), (1, mI x1), (2, mI x2), (3, mI x3), (4, .ref 96)] _ _ _ from
  mm_E.iconst (mm_atc mc151 rfl) <|
  mm_E.iret (mm_atc mc151 rfl) mr151 rfl
theorem p151_0_4 {w d : Nat} {X : List Value} {A : MF} {x1 x2 x3 : Int} (H : R32 x1 ∧ 0 ≤ x1 ∧ R32 ((A 1 3) - 1) ∧ x1 ≤ ((A 1 3) - 1) ∧ R32 x2 ∧ 0 ≤ x2 ∧ x2 ≤ ((A 1 3) - 1) ∧ R32 x3 ∧ x3 < 0) : mm_E w (d + 9) 151 0 [(0, .ref 1), (1, mI x1), (2, mI x2), (3, mI x3), (4, .ref 96)] [] (mm_w X A) (.inl (some (mI 1)), mm_w X A, 1, 6) := by
  obtain ⟨h0, h1, h2, h3, h4, h5, h6, h7, h8⟩ := H
  exact mm_E.aload (mm_atc mc151 rfl) rfl <|
  mm_E.iconst (mm_atc mc151 rfl) <|
  mm_E.aload_n (mm_atc mc151 rfl) rfl <|
  mm_E.iload_n (mm_atc mc151 rfl) rfl <|
  mm_E.iload_n (mm_atc mc151 rfl) rfl <|
  mm_E.iload_n (mm_atc mc151 rfl) rfl <|
  mm_E.catchV1 (mm_atc mc151 rfl) (mm_plc mp151 rfl) rfl mk20 ly1 rfl mx20 rfl rfl (p20_0_4 (d := d) ⟨h0, h1, h2, h3, h4, h5, h6, h7, h8⟩) (p20_0_4 (d := d) ⟨h0, h1, h2, h3, h4, h5, h6, h7, h8⟩) (by omega) rfl rfl <|
  show mm_E _ _ 151 16 [(0, .ref 1), (1, mI x1), (2, mI x2), (3, mI x3), (4, .ref 96)] _ _ _ from
  mm_E.iconst (mm_atc mc151 rfl) <|
  mm_E.iret (mm_atc mc151 rfl) mr151 rfl
theorem p151_0_5 {w d : Nat} {X : List Value} {A : MF} {x1 x2 x3 : Int} (H : R32 x1 ∧ 0 ≤ x1 ∧ R32 ((A 1 3) - 1) ∧ x1 ≤ ((A 1 3) - 1) ∧ R32 x2 ∧ 0 ≤ x2 ∧ x2 ≤ ((A 1 3) - 1) ∧ R32 x3 ∧ 0 ≤ x3 ∧ 1 < x3) : mm_E w (d + 9) 151 0 [(0, .ref 1), (1, mI x1), (2, mI x2), (3, mI x3), (4, .ref 96)] [] (mm_w X A) (.inl (some (mI 1)), mm_w X A, 1, 6) := by
  obtain ⟨h0, h1, h2, h3, h4, h5, h6, h7, h8, h9⟩ := H
  exact mm_E.aload (mm_atc mc151 rfl) rfl <|
  mm_E.iconst (mm_atc mc151 rfl) <|
  mm_E.aload_n (mm_atc mc151 rfl) rfl <|
  mm_E.iload_n (mm_atc mc151 rfl) rfl <|
  mm_E.iload_n (mm_atc mc151 rfl) rfl <|
  mm_E.iload_n (mm_atc mc151 rfl) rfl <|
  mm_E.catchV1 (mm_atc mc151 rfl) (mm_plc mp151 rfl) rfl mk20 ly1 rfl mx20 rfl rfl (p20_0_5 (d := d) ⟨h0, h1, h2, h3, h4, h5, h6, h7, h8, h9⟩) (p20_0_5 (d := d) ⟨h0, h1, h2, h3, h4, h5, h6, h7, h8, h9⟩) (by omega) rfl rfl <|
  show mm_E _ _ 151 16 [(0, .ref 1), (1, mI x1), (2, mI x2), (3, mI x3), (4, .ref 96)] _ _ _ from
  mm_E.iconst (mm_atc mc151 rfl) <|
  mm_E.iret (mm_atc mc151 rfl) mr151 rfl
theorem p151_0_6 {w d : Nat} {X : List Value} {A : MF} {x1 x2 x3 : Int} (H : R32 x1 ∧ 0 ≤ x1 ∧ R32 ((A 1 3) - 1) ∧ x1 ≤ ((A 1 3) - 1) ∧ R32 x2 ∧ 0 ≤ x2 ∧ x2 ≤ ((A 1 3) - 1) ∧ R32 x3 ∧ 0 ≤ x3 ∧ x3 ≤ 1 ∧ (A 43 2 = 0 ∨ A 43 2 = 1) ∧ R32 (A 43 2) ∧ A 43 2 = 0) : mm_E w (d + 9) 151 0 [(0, .ref 1), (1, mI x1), (2, mI x2), (3, mI x3), (4, .ref 96)] [] (mm_w X A) (.inl (some (mI 2)), mm_w X A, 1, 6) := by
  obtain ⟨h0, h1, h2, h3, h4, h5, h6, h7, h8, h9, h10, h11, h12⟩ := H
  exact mm_E.aload (mm_atc mc151 rfl) rfl <|
  mm_E.iconst (mm_atc mc151 rfl) <|
  mm_E.aload_n (mm_atc mc151 rfl) rfl <|
  mm_E.iload_n (mm_atc mc151 rfl) rfl <|
  mm_E.iload_n (mm_atc mc151 rfl) rfl <|
  mm_E.iload_n (mm_atc mc151 rfl) rfl <|
  mm_E.catchV1 (mm_atc mc151 rfl) (mm_plc mp151 rfl) rfl mk20 ly1 rfl mx20 rfl rfl (p20_0_8 (d := d) ⟨h0, h1, h2, h3, h4, h5, h6, h7, h8, h9, h10, h11, h12⟩) (p20_0_8 (d := d) ⟨h0, h1, h2, h3, h4, h5, h6, h7, h8, h9, h10, h11, h12⟩) (by omega) rfl rfl <|
  show mm_E _ _ 151 20 [(0, .ref 1), (1, mI x1), (2, mI x2), (3, mI x3), (4, .ref 96)] _ _ _ from
  mm_E.iconst (mm_atc mc151 rfl) <|
  mm_E.iret (mm_atc mc151 rfl) mr151 rfl
theorem p151_0_7 {d : Nat} {X : List Value} {A : MF} {x1 x2 x3 z1 : Int} {A0 : MF} (s0 : mm_E 1 d 20 0 [(0, .ref 1), (1, mI x1), (2, mI x2), (3, mI x3)] [] (mm_w X A) (.inl (some (mJ z1)), mm_w X A0, 0, 0)) : mm_E 1 (d + 1) 151 0 [(0, .ref 1), (1, mI x1), (2, mI x2), (3, mI x3), (4, .ref 96)] [] (mm_w X A) (.inl (some (mI 0)), mm_w X (mm_u A0 96 0 z1), 0, 0) := by
  exact mm_E.aload (mm_atc mc151 rfl) rfl <|
  mm_E.iconst (mm_atc mc151 rfl) <|
  mm_E.aload_n (mm_atc mc151 rfl) rfl <|
  mm_E.iload_n (mm_atc mc151 rfl) rfl <|
  mm_E.iload_n (mm_atc mc151 rfl) rfl <|
  mm_E.iload_n (mm_atc mc151 rfl) rfl <|
  mm_E.callV0 (mm_atc mc151 rfl) (mm_plc mp151 rfl) rfl mk20 ly1 rfl mx20 rfl rfl s0 (by omega) <|
  show mm_E _ _ 151 10 _ _ _ _ from
  mm_E.lastore (e := 0) (z := z1) (mm_atc mc151 rfl) ly96 rfl (by decide) (by decide) rfl rfl <|
  mm_E.goto (mm_atc mc151 rfl) rfl <|
  mm_E.iconst (mm_atc mc151 rfl) <|
  mm_E.iret (mm_atc mc151 rfl) mr151 rfl
set_option maxRecDepth 100000 in
theorem qe_1 {w d : Nat} {X : List Value} {A : MF} {x4 : Int} (hxl : Nat.blt X.length 100000 = true) (H : R32 x4 ∧ R32 ((X.length : Int) - 4) ∧ (X.length : Int) - 4 < x4) : mm_E w d 152 23 [(0, .ref 0), (1, .ref 1), (2, .ref 77), (3, .ref 96), (4, mI x4)] [] (mm_w X A) (.inl (some (mI 1)), mm_w X A, 0, 0) := by
  obtain ⟨h0, h1, h2⟩ := H
  exact mm_E.iload (mm_atc mc152 rfl) rfl <|
  mm_E.aload_n (mm_atc mc152 rfl) rfl <|
  mm_E.xlen (mm_atc mc152 rfl) hxl <|
  mm_E.iconst (mm_atc mc152 rfl) <|
  mm_E.isub (mm_atc mc152 rfl) <|
  mm_E.if2 (mm_atc mc152 rfl) h0 h1 (ic_gtT h2) rfl <|
  mm_E.iconst (mm_atc mc152 rfl) <|
  mm_E.iret (mm_atc mc152 rfl) mr152 rfl
set_option maxRecDepth 100000 in
theorem q0_1 {d : Nat} {X : List Value} {A : MF} {o : Option Value ⊕ Nat} {M2 : MH} {a2 b2 : Nat} {x4 z0 z1 z3 : Int} {A2 A4 : MF} {a1 b1 : Nat} (hxl : Nat.blt X.length 100000 = true) (hxz0 : X[Int.toNat x4]? = some (mI z0)) (hxz1 : X[Int.toNat (x4 + 1)]? = some (mI z1)) (s0 : mm_E 1 d 134 0 [(0, .ref 1), (1, mI z1)] [] (mm_w X A) (.inl (some (mI z3)), mm_w X A2, a1, b1)) (s1 : mm_E 1 d 114 0 [(0, .ref 77), (1, mI z1)] [] (mm_w X A2) (.inl (none), mm_w X A4, 0, 0)) (H : R32 x4 ∧ R32 ((X.length : Int) - 4) ∧ x4 ≤ (X.length : Int) - 4 ∧ 0 ≤ x4 ∧ mm_and z0 31 = 0 ∧ 0 ≤ x4 + 1 ∧ R32 (x4 + 1) ∧ R32 (A4 77 0) ∧ R32 z3 ∧ (A4 77 0) = z3) (h : mm_E 1 (d + 1) 152 23 [(0, .ref 0), (1, .ref 1), (2, .ref 77), (3, .ref 96), (4, mI (x4 + 4))] [] (mm_w X A4) (o, M2, a2, b2)) : mm_E 1 (d + 1) 152 23 [(0, .ref 0), (1, .ref 1), (2, .ref 77), (3, .ref 96), (4, mI x4)] [] (mm_w X A) (o, M2, a1 + a2, b1 + b2) := by
  obtain ⟨h0, h1, h2, h3, h4, h5, h6, h7, h8, h9⟩ := H
  exact mm_E.iload (mm_atc mc152 rfl) rfl <|
  mm_E.aload_n (mm_atc mc152 rfl) rfl <|
  mm_E.xlen (mm_atc mc152 rfl) hxl <|
  mm_E.iconst (mm_atc mc152 rfl) <|
  mm_E.isub (mm_atc mc152 rfl) <|
  mm_E.if2 (mm_atc mc152 rfl) h0 h1 (ic_gtF h2) rfl <|
  mm_E.aload_n (mm_atc mc152 rfl) rfl <|
  mm_E.iload (mm_atc mc152 rfl) rfl <|
  mm_E.xload (mm_atc mc152 rfl) h3 h0 hxz0 <|
  mm_E.bipush (mm_atc mc152 rfl) rfl <|
  mm_E.iand (mm_atc mc152 rfl) <|
  mm_E.tswK (off := 93) (mm_atc mc152 rfl) h4 (by decide) (by decide) (by decide) (by decide) rfl <|
  show mm_E _ _ 152 132 _ _ _ _ from
  mm_E.aload_n (mm_atc mc152 rfl) rfl <|
  mm_E.aload_n (mm_atc mc152 rfl) rfl <|
  mm_E.iload (mm_atc mc152 rfl) rfl <|
  mm_E.iconst (mm_atc mc152 rfl) <|
  mm_E.iadd (mm_atc mc152 rfl) <|
  mm_E.xload (mm_atc mc152 rfl) h5 h6 hxz1 <|
  mm_E.callS (mm_atc mc152 rfl) (mm_plc mp152 rfl) mx134 rfl rfl s0 (by omega) <|
  show mm_E _ _ 152 142 _ _ _ _ from
  mm_E.istore mx152 rfl (mm_atc mc152 rfl) <|
  show mm_E _ _ 152 144 [(5, mI z3), (0, .ref 0), (1, .ref 1), (2, .ref 77), (3, .ref 96), (4, mI x4)] _ _ _ from
  mm_E.aload_n (mm_atc mc152 rfl) rfl <|
  mm_E.aload_n (mm_atc mc152 rfl) rfl <|
  mm_E.iload (mm_atc mc152 rfl) rfl <|
  mm_E.iconst (mm_atc mc152 rfl) <|
  mm_E.iadd (mm_atc mc152 rfl) <|
  mm_E.xload (mm_atc mc152 rfl) h5 h6 hxz1 <|
  mm_E.callV0 (mm_atc mc152 rfl) (mm_plc mp152 rfl) rfl mk114 ly77 rfl mx114 rfl rfl s1 (by omega) <|
  show mm_E _ _ 152 154 _ _ _ _ from
  mm_E.aload_n (mm_atc mc152 rfl) rfl <|
  mm_E.callV0 (mm_atc mc152 rfl) (mm_plc mp152 rfl) rfl mk111 ly77 rfl mx111 rfl rfl (p111_0_0 (d := d)) (by omega) <|
  show mm_E _ _ 152 158 _ _ _ _ from
  mm_E.iload (mm_atc mc152 rfl) rfl <|
  mm_E.if2 (mm_atc mc152 rfl) h7 h8 (ic_eqT h9) rfl <|
  mm_E.goto (mm_atc mc152 rfl) rfl <|
  mm_E.inc mx152 rfl (mm_atc mc152 rfl) rfl <|
  show mm_E _ _ 152 1271 [(4, mI (x4 + 4)), (5, mI z3), (0, .ref 0), (1, .ref 1), (2, .ref 77), (3, .ref 96)] _ _ _ from
  mm_E.goto (mm_atc mc152 rfl) rfl <|
  mm_E.to h ⟨rfl, rfl, rfl, rfl, rfl, trivial⟩
set_option maxRecDepth 100000 in
theorem q1_1 {d : Nat} {X : List Value} {A : MF} {o : Option Value ⊕ Nat} {M2 : MH} {a2 b2 : Nat} {x4 z0 z1 z3 : Int} {A2 A4 : MF} {a1 b1 : Nat} (hxl : Nat.blt X.length 100000 = true) (hxz0 : X[Int.toNat x4]? = some (mI z0)) (hxz1 : X[Int.toNat (x4 + 1)]? = some (mI z1)) (s0 : mm_E 1 d 135 0 [(0, .ref 1), (1, mI z1)] [] (mm_w X A) (.inl (some (mI z3)), mm_w X A2, a1, b1)) (s1 : mm_E 1 d 115 0 [(0, .ref 77), (1, mI z1)] [] (mm_w X A2) (.inl (none), mm_w X A4, 0, 0)) (H : R32 x4 ∧ R32 ((X.length : Int) - 4) ∧ x4 ≤ (X.length : Int) - 4 ∧ 0 ≤ x4 ∧ mm_and z0 31 = 1 ∧ 0 ≤ x4 + 1 ∧ R32 (x4 + 1) ∧ R32 (A4 77 0) ∧ R32 z3 ∧ (A4 77 0) = z3) (h : mm_E 1 (d + 1) 152 23 [(0, .ref 0), (1, .ref 1), (2, .ref 77), (3, .ref 96), (4, mI (x4 + 4))] [] (mm_w X A4) (o, M2, a2, b2)) : mm_E 1 (d + 1) 152 23 [(0, .ref 0), (1, .ref 1), (2, .ref 77), (3, .ref 96), (4, mI x4)] [] (mm_w X A) (o, M2, a1 + a2, b1 + b2) := by
  obtain ⟨h0, h1, h2, h3, h4, h5, h6, h7, h8, h9⟩ := H
  exact mm_E.iload (mm_atc mc152 rfl) rfl <|
  mm_E.aload_n (mm_atc mc152 rfl) rfl <|
  mm_E.xlen (mm_atc mc152 rfl) hxl <|
  mm_E.iconst (mm_atc mc152 rfl) <|
  mm_E.isub (mm_atc mc152 rfl) <|
  mm_E.if2 (mm_atc mc152 rfl) h0 h1 (ic_gtF h2) rfl <|
  mm_E.aload_n (mm_atc mc152 rfl) rfl <|
  mm_E.iload (mm_atc mc152 rfl) rfl <|
  mm_E.xload (mm_atc mc152 rfl) h3 h0 hxz0 <|
  mm_E.bipush (mm_atc mc152 rfl) rfl <|
  mm_E.iand (mm_atc mc152 rfl) <|
  mm_E.tswK (off := 129) (mm_atc mc152 rfl) h4 (by decide) (by decide) (by decide) (by decide) rfl <|
  show mm_E _ _ 152 168 _ _ _ _ from
  mm_E.aload_n (mm_atc mc152 rfl) rfl <|
  mm_E.aload_n (mm_atc mc152 rfl) rfl <|
  mm_E.iload (mm_atc mc152 rfl) rfl <|
  mm_E.iconst (mm_atc mc152 rfl) <|
  mm_E.iadd (mm_atc mc152 rfl) <|
  mm_E.xload (mm_atc mc152 rfl) h5 h6 hxz1 <|
  mm_E.callS (mm_atc mc152 rfl) (mm_plc mp152 rfl) mx135 rfl rfl s0 (by omega) <|
  show mm_E _ _ 152 178 _ _ _ _ from
  mm_E.istore mx152 rfl (mm_atc mc152 rfl) <|
  show mm_E _ _ 152 180 [(5, mI z3), (0, .ref 0), (1, .ref 1), (2, .ref 77), (3, .ref 96), (4, mI x4)] _ _ _ from
  mm_E.aload_n (mm_atc mc152 rfl) rfl <|
  mm_E.aload_n (mm_atc mc152 rfl) rfl <|
  mm_E.iload (mm_atc mc152 rfl) rfl <|
  mm_E.iconst (mm_atc mc152 rfl) <|
  mm_E.iadd (mm_atc mc152 rfl) <|
  mm_E.xload (mm_atc mc152 rfl) h5 h6 hxz1 <|
  mm_E.callV0 (mm_atc mc152 rfl) (mm_plc mp152 rfl) rfl mk115 ly77 rfl mx115 rfl rfl s1 (by omega) <|
  show mm_E _ _ 152 190 _ _ _ _ from
  mm_E.aload_n (mm_atc mc152 rfl) rfl <|
  mm_E.callV0 (mm_atc mc152 rfl) (mm_plc mp152 rfl) rfl mk111 ly77 rfl mx111 rfl rfl (p111_0_0 (d := d)) (by omega) <|
  show mm_E _ _ 152 194 _ _ _ _ from
  mm_E.iload (mm_atc mc152 rfl) rfl <|
  mm_E.if2 (mm_atc mc152 rfl) h7 h8 (ic_eqT h9) rfl <|
  mm_E.goto (mm_atc mc152 rfl) rfl <|
  mm_E.inc mx152 rfl (mm_atc mc152 rfl) rfl <|
  show mm_E _ _ 152 1271 [(4, mI (x4 + 4)), (5, mI z3), (0, .ref 0), (1, .ref 1), (2, .ref 77), (3, .ref 96)] _ _ _ from
  mm_E.goto (mm_atc mc152 rfl) rfl <|
  mm_E.to h ⟨rfl, rfl, rfl, rfl, rfl, trivial⟩
set_option maxRecDepth 100000 in
theorem q2_1 {d : Nat} {X : List Value} {A : MF} {o : Option Value ⊕ Nat} {M2 : MH} {a2 b2 : Nat} {x4 z0 z1 z2 z3 z5 z7 : Int} {A4 A6 : MF} {a1 b1 : Nat} (hxl : Nat.blt X.length 100000 = true) (hxz0 : X[Int.toNat x4]? = some (mI z0)) (hxz1 : X[Int.toNat (x4 + 1)]? = some (mI z1)) (hxz2 : X[Int.toNat (x4 + 2)]? = some (mI z2)) (hxz3 : X[Int.toNat (x4 + 3)]? = some (mI z3)) (s0 : mm_E 1 d 136 0 [(0, .ref 1), (1, mI z1), (2, mI z2), (3, mI z3), (4, .ref 96)] [] (mm_w X A) (.inl (some (mI z5)), mm_w X A4, a1, b1)) (s1 : mm_E 1 d 116 0 [(0, .ref 77), (1, mI z1), (2, mI z2), (3, mI z3)] [] (mm_w X A4) (.inl (some (mI z7)), mm_w X A6, 0, 0)) (H : R32 x4 ∧ R32 ((X.length : Int) - 4) ∧ x4 ≤ (X.length : Int) - 4 ∧ 0 ≤ x4 ∧ mm_and z0 31 = 2 ∧ 0 ≤ x4 + 1 ∧ R32 (x4 + 1) ∧ 0 ≤ x4 + 2 ∧ R32 (x4 + 2) ∧ 0 ≤ x4 + 3 ∧ R32 (x4 + 3) ∧ R32 (A6 77 0) ∧ R32 z5 ∧ (A6 77 0) = z5 ∧ z5 ≠ 0) (h : mm_E 1 (d + 1) 152 23 [(0, .ref 0), (1, .ref 1), (2, .ref 77), (3, .ref 96), (4, mI (x4 + 4))] [] (mm_w X A6) (o, M2, a2, b2)) : mm_E 1 (d + 1) 152 23 [(0, .ref 0), (1, .ref 1), (2, .ref 77), (3, .ref 96), (4, mI x4)] [] (mm_w X A) (o, M2, a1 + a2, b1 + b2) := by
  obtain ⟨h0, h1, h2, h3, h4, h5, h6, h7, h8, h9, h10, h11, h12, h13, h14⟩ := H
  exact mm_E.iload (mm_atc mc152 rfl) rfl <|
  mm_E.aload_n (mm_atc mc152 rfl) rfl <|
  mm_E.xlen (mm_atc mc152 rfl) hxl <|
  mm_E.iconst (mm_atc mc152 rfl) <|
  mm_E.isub (mm_atc mc152 rfl) <|
  mm_E.if2 (mm_atc mc152 rfl) h0 h1 (ic_gtF h2) rfl <|
  mm_E.aload_n (mm_atc mc152 rfl) rfl <|
  mm_E.iload (mm_atc mc152 rfl) rfl <|
  mm_E.xload (mm_atc mc152 rfl) h3 h0 hxz0 <|
  mm_E.bipush (mm_atc mc152 rfl) rfl <|
  mm_E.iand (mm_atc mc152 rfl) <|
  mm_E.tswK (off := 165) (mm_atc mc152 rfl) h4 (by decide) (by decide) (by decide) (by decide) rfl <|
  show mm_E _ _ 152 204 _ _ _ _ from
  mm_E.aload_n (mm_atc mc152 rfl) rfl <|
  mm_E.aload_n (mm_atc mc152 rfl) rfl <|
  mm_E.iload (mm_atc mc152 rfl) rfl <|
  mm_E.iconst (mm_atc mc152 rfl) <|
  mm_E.iadd (mm_atc mc152 rfl) <|
  mm_E.xload (mm_atc mc152 rfl) h5 h6 hxz1 <|
  mm_E.aload_n (mm_atc mc152 rfl) rfl <|
  mm_E.iload (mm_atc mc152 rfl) rfl <|
  mm_E.iconst (mm_atc mc152 rfl) <|
  mm_E.iadd (mm_atc mc152 rfl) <|
  mm_E.xload (mm_atc mc152 rfl) h7 h8 hxz2 <|
  mm_E.aload_n (mm_atc mc152 rfl) rfl <|
  mm_E.iload (mm_atc mc152 rfl) rfl <|
  mm_E.iconst (mm_atc mc152 rfl) <|
  mm_E.iadd (mm_atc mc152 rfl) <|
  mm_E.xload (mm_atc mc152 rfl) h9 h10 hxz3 <|
  mm_E.aload_n (mm_atc mc152 rfl) rfl <|
  mm_E.callS (mm_atc mc152 rfl) (mm_plc mp152 rfl) mx136 rfl rfl s0 (by omega) <|
  show mm_E _ _ 152 227 _ _ _ _ from
  mm_E.istore mx152 rfl (mm_atc mc152 rfl) <|
  show mm_E _ _ 152 229 [(5, mI z5), (0, .ref 0), (1, .ref 1), (2, .ref 77), (3, .ref 96), (4, mI x4)] _ _ _ from
  mm_E.aload_n (mm_atc mc152 rfl) rfl <|
  mm_E.aload_n (mm_atc mc152 rfl) rfl <|
  mm_E.iload (mm_atc mc152 rfl) rfl <|
  mm_E.iconst (mm_atc mc152 rfl) <|
  mm_E.iadd (mm_atc mc152 rfl) <|
  mm_E.xload (mm_atc mc152 rfl) h5 h6 hxz1 <|
  mm_E.aload_n (mm_atc mc152 rfl) rfl <|
  mm_E.iload (mm_atc mc152 rfl) rfl <|
  mm_E.iconst (mm_atc mc152 rfl) <|
  mm_E.iadd (mm_atc mc152 rfl) <|
  mm_E.xload (mm_atc mc152 rfl) h7 h8 hxz2 <|
  mm_E.aload_n (mm_atc mc152 rfl) rfl <|
  mm_E.iload (mm_atc mc152 rfl) rfl <|
  mm_E.iconst (mm_atc mc152 rfl) <|
  mm_E.iadd (mm_atc mc152 rfl) <|
  mm_E.xload (mm_atc mc152 rfl) h9 h10 hxz3 <|
  mm_E.callV0 (mm_atc mc152 rfl) (mm_plc mp152 rfl) rfl mk116 ly77 rfl mx116 rfl rfl s1 (by omega) <|
  show mm_E _ _ 152 251 _ _ _ _ from
  mm_E.istore mx152 rfl (mm_atc mc152 rfl) <|
  show mm_E _ _ 152 253 [(6, mI z7), (5, mI z5), (0, .ref 0), (1, .ref 1), (2, .ref 77), (3, .ref 96), (4, mI x4)] _ _ _ from
  mm_E.aload_n (mm_atc mc152 rfl) rfl <|
  mm_E.callV0 (mm_atc mc152 rfl) (mm_plc mp152 rfl) rfl mk111 ly77 rfl mx111 rfl rfl (p111_0_0 (d := d)) (by omega) <|
  show mm_E _ _ 152 257 _ _ _ _ from
  mm_E.iload (mm_atc mc152 rfl) rfl <|
  mm_E.if2 (mm_atc mc152 rfl) h11 h12 (ic_eqT h13) rfl <|
  mm_E.iload (mm_atc mc152 rfl) rfl <|
  mm_E.if1 (mm_atc mc152 rfl) h12 (ic_neT h14) rfl <|
  mm_E.goto (mm_atc mc152 rfl) rfl <|
  mm_E.inc mx152 rfl (mm_atc mc152 rfl) rfl <|
  show mm_E _ _ 152 1271 [(4, mI (x4 + 4)), (6, mI z7), (5, mI z5), (0, .ref 0), (1, .ref 1), (2, .ref 77), (3, .ref 96)] _ _ _ from
  mm_E.goto (mm_atc mc152 rfl) rfl <|
  mm_E.to h ⟨rfl, rfl, rfl, rfl, rfl, trivial⟩
set_option maxRecDepth 100000 in
theorem q2_2 {d : Nat} {X : List Value} {A : MF} {o : Option Value ⊕ Nat} {M2 : MH} {a2 b2 : Nat} {x4 z0 z1 z2 z3 z5 z7 : Int} {A4 A6 : MF} {a1 b1 : Nat} (hxl : Nat.blt X.length 100000 = true) (hxz0 : X[Int.toNat x4]? = some (mI z0)) (hxz1 : X[Int.toNat (x4 + 1)]? = some (mI z1)) (hxz2 : X[Int.toNat (x4 + 2)]? = some (mI z2)) (hxz3 : X[Int.toNat (x4 + 3)]? = some (mI z3)) (s0 : mm_E 1 d 136 0 [(0, .ref 1), (1, mI z1), (2, mI z2), (3, mI z3), (4, .ref 96)] [] (mm_w X A) (.inl (some (mI z5)), mm_w X A4, a1, b1)) (s1 : mm_E 1 d 116 0 [(0, .ref 77), (1, mI z1), (2, mI z2), (3, mI z3)] [] (mm_w X A4) (.inl (some (mI z7)), mm_w X A6, 0, 0)) (H : R32 x4 ∧ R32 ((X.length : Int) - 4) ∧ x4 ≤ (X.length : Int) - 4 ∧ 0 ≤ x4 ∧ mm_and z0 31 = 2 ∧ 0 ≤ x4 + 1 ∧ R32 (x4 + 1) ∧ 0 ≤ x4 + 2 ∧ R32 (x4 + 2) ∧ 0 ≤ x4 + 3 ∧ R32 (x4 + 3) ∧ R32 (A6 77 0) ∧ R32 z5 ∧ (A6 77 0) = z5 ∧ z5 = 0 ∧ R32 z7 ∧ R64 (A6 96 0) ∧ R64 z7 ∧ A6 96 0 = z7) (h : mm_E 1 (d + 1) 152 23 [(0, .ref 0), (1, .ref 1), (2, .ref 77), (3, .ref 96), (4, mI (x4 + 4))] [] (mm_w X A6) (o, M2, a2, b2)) : mm_E 1 (d + 1) 152 23 [(0, .ref 0), (1, .ref 1), (2, .ref 77), (3, .ref 96), (4, mI x4)] [] (mm_w X A) (o, M2, a1 + a2, b1 + b2) := by
  obtain ⟨h0, h1, h2, h3, h4, h5, h6, h7, h8, h9, h10, h11, h12, h13, h14, h15, h16, h17, h18⟩ := H
  exact mm_E.iload (mm_atc mc152 rfl) rfl <|
  mm_E.aload_n (mm_atc mc152 rfl) rfl <|
  mm_E.xlen (mm_atc mc152 rfl) hxl <|
  mm_E.iconst (mm_atc mc152 rfl) <|
  mm_E.isub (mm_atc mc152 rfl) <|
  mm_E.if2 (mm_atc mc152 rfl) h0 h1 (ic_gtF h2) rfl <|
  mm_E.aload_n (mm_atc mc152 rfl) rfl <|
  mm_E.iload (mm_atc mc152 rfl) rfl <|
  mm_E.xload (mm_atc mc152 rfl) h3 h0 hxz0 <|
  mm_E.bipush (mm_atc mc152 rfl) rfl <|
  mm_E.iand (mm_atc mc152 rfl) <|
  mm_E.tswK (off := 165) (mm_atc mc152 rfl) h4 (by decide) (by decide) (by decide) (by decide) rfl <|
  show mm_E _ _ 152 204 _ _ _ _ from
  mm_E.aload_n (mm_atc mc152 rfl) rfl <|
  mm_E.aload_n (mm_atc mc152 rfl) rfl <|
  mm_E.iload (mm_atc mc152 rfl) rfl <|
  mm_E.iconst (mm_atc mc152 rfl) <|
  mm_E.iadd (mm_atc mc152 rfl) <|
  mm_E.xload (mm_atc mc152 rfl) h5 h6 hxz1 <|
  mm_E.aload_n (mm_atc mc152 rfl) rfl <|
  mm_E.iload (mm_atc mc152 rfl) rfl <|
  mm_E.iconst (mm_atc mc152 rfl) <|
  mm_E.iadd (mm_atc mc152 rfl) <|
  mm_E.xload (mm_atc mc152 rfl) h7 h8 hxz2 <|
  mm_E.aload_n (mm_atc mc152 rfl) rfl <|
  mm_E.iload (mm_atc mc152 rfl) rfl <|
  mm_E.iconst (mm_atc mc152 rfl) <|
  mm_E.iadd (mm_atc mc152 rfl) <|
  mm_E.xload (mm_atc mc152 rfl) h9 h10 hxz3 <|
  mm_E.aload_n (mm_atc mc152 rfl) rfl <|
  mm_E.callS (mm_atc mc152 rfl) (mm_plc mp152 rfl) mx136 rfl rfl s0 (by omega) <|
  show mm_E _ _ 152 227 _ _ _ _ from
  mm_E.istore mx152 rfl (mm_atc mc152 rfl) <|
  show mm_E _ _ 152 229 [(5, mI z5), (0, .ref 0), (1, .ref 1), (2, .ref 77), (3, .ref 96), (4, mI x4)] _ _ _ from
  mm_E.aload_n (mm_atc mc152 rfl) rfl <|
  mm_E.aload_n (mm_atc mc152 rfl) rfl <|
  mm_E.iload (mm_atc mc152 rfl) rfl <|
  mm_E.iconst (mm_atc mc152 rfl) <|
  mm_E.iadd (mm_atc mc152 rfl) <|
  mm_E.xload (mm_atc mc152 rfl) h5 h6 hxz1 <|
  mm_E.aload_n (mm_atc mc152 rfl) rfl <|
  mm_E.iload (mm_atc mc152 rfl) rfl <|
  mm_E.iconst (mm_atc mc152 rfl) <|
  mm_E.iadd (mm_atc mc152 rfl) <|
  mm_E.xload (mm_atc mc152 rfl) h7 h8 hxz2 <|
  mm_E.aload_n (mm_atc mc152 rfl) rfl <|
  mm_E.iload (mm_atc mc152 rfl) rfl <|
  mm_E.iconst (mm_atc mc152 rfl) <|
  mm_E.iadd (mm_atc mc152 rfl) <|
  mm_E.xload (mm_atc mc152 rfl) h9 h10 hxz3 <|
  mm_E.callV0 (mm_atc mc152 rfl) (mm_plc mp152 rfl) rfl mk116 ly77 rfl mx116 rfl rfl s1 (by omega) <|
  show mm_E _ _ 152 251 _ _ _ _ from
  mm_E.istore mx152 rfl (mm_atc mc152 rfl) <|
  show mm_E _ _ 152 253 [(6, mI z7), (5, mI z5), (0, .ref 0), (1, .ref 1), (2, .ref 77), (3, .ref 96), (4, mI x4)] _ _ _ from
  mm_E.aload_n (mm_atc mc152 rfl) rfl <|
  mm_E.callV0 (mm_atc mc152 rfl) (mm_plc mp152 rfl) rfl mk111 ly77 rfl mx111 rfl rfl (p111_0_0 (d := d)) (by omega) <|
  show mm_E _ _ 152 257 _ _ _ _ from
  mm_E.iload (mm_atc mc152 rfl) rfl <|
  mm_E.if2 (mm_atc mc152 rfl) h11 h12 (ic_eqT h13) rfl <|
  mm_E.iload (mm_atc mc152 rfl) rfl <|
  mm_E.if1 (mm_atc mc152 rfl) h12 (ic_neF h14) rfl <|
  mm_E.aload_n (mm_atc mc152 rfl) rfl <|
  mm_E.iconst (mm_atc mc152 rfl) <|
  mm_E.laload (e := 0) (mm_atc mc152 rfl) ly96 rfl (by decide) (by decide) rfl (rfl) <|
  mm_E.iload (mm_atc mc152 rfl) rfl <|
  mm_E.i2l h15 (mm_atc mc152 rfl) <|
  mm_E.lif (mm_atc mc152 rfl) (mm_atc mc152 rfl) h16 h17 (ic_eqT h18) rfl <|
  mm_E.goto (mm_atc mc152 rfl) rfl <|
  mm_E.inc mx152 rfl (mm_atc mc152 rfl) rfl <|
  show mm_E _ _ 152 1271 [(4, mI (x4 + 4)), (6, mI z7), (5, mI z5), (0, .ref 0), (1, .ref 1), (2, .ref 77), (3, .ref 96)] _ _ _ from
  mm_E.goto (mm_atc mc152 rfl) rfl <|
  mm_E.to h ⟨rfl, rfl, rfl, rfl, rfl, trivial⟩
set_option maxRecDepth 100000 in
theorem q3_1 {d : Nat} {X : List Value} {A : MF} {o : Option Value ⊕ Nat} {M2 : MH} {a2 b2 : Nat} {x4 z0 z1 z3 : Int} {A2 A4 : MF} {a1 b1 : Nat} (hxl : Nat.blt X.length 100000 = true) (hxz0 : X[Int.toNat x4]? = some (mI z0)) (hxz1 : X[Int.toNat (x4 + 1)]? = some (mI z1)) (s0 : mm_E 1 d 137 0 [(0, .ref 1), (1, mI z1)] [] (mm_w X A) (.inl (some (mI z3)), mm_w X A2, a1, b1)) (s1 : mm_E 1 d 117 0 [(0, .ref 77), (1, mI z1)] [] (mm_w X A2) (.inl (none), mm_w X A4, 0, 0)) (H : R32 x4 ∧ R32 ((X.length : Int) - 4) ∧ x4 ≤ (X.length : Int) - 4 ∧ 0 ≤ x4 ∧ mm_and z0 31 = 3 ∧ 0 ≤ x4 + 1 ∧ R32 (x4 + 1) ∧ R32 (A4 77 0) ∧ R32 z3 ∧ (A4 77 0) = z3) (h : mm_E 1 (d + 1) 152 23 [(0, .ref 0), (1, .ref 1), (2, .ref 77), (3, .ref 96), (4, mI (x4 + 4))] [] (mm_w X A4) (o, M2, a2, b2)) : mm_E 1 (d + 1) 152 23 [(0, .ref 0), (1, .ref 1), (2, .ref 77), (3, .ref 96), (4, mI x4)] [] (mm_w X A) (o, M2, a1 + a2, b1 + b2) := by
  obtain ⟨h0, h1, h2, h3, h4, h5, h6, h7, h8, h9⟩ := H
  exact mm_E.iload (mm_atc mc152 rfl) rfl <|
  mm_E.aload_n (mm_atc mc152 rfl) rfl <|
  mm_E.xlen (mm_atc mc152 rfl) hxl <|
  mm_E.iconst (mm_atc mc152 rfl) <|
  mm_E.isub (mm_atc mc152 rfl) <|
  mm_E.if2 (mm_atc mc152 rfl) h0 h1 (ic_gtF h2) rfl <|
  mm_E.aload_n (mm_atc mc152 rfl) rfl <|
  mm_E.iload (mm_atc mc152 rfl) rfl <|
  mm_E.xload (mm_atc mc152 rfl) h3 h0 hxz0 <|
  mm_E.bipush (mm_atc mc152 rfl) rfl <|
  mm_E.iand (mm_atc mc152 rfl) <|
  mm_E.tswK (off := 245) (mm_atc mc152 rfl) h4 (by decide) (by decide) (by decide) (by decide) rfl <|
  show mm_E _ _ 152 284 _ _ _ _ from
  mm_E.aload_n (mm_atc mc152 rfl) rfl <|
  mm_E.aload_n (mm_atc mc152 rfl) rfl <|
  mm_E.iload (mm_atc mc152 rfl) rfl <|
  mm_E.iconst (mm_atc mc152 rfl) <|
  mm_E.iadd (mm_atc mc152 rfl) <|
  mm_E.xload (mm_atc mc152 rfl) h5 h6 hxz1 <|
  mm_E.callS (mm_atc mc152 rfl) (mm_plc mp152 rfl) mx137 rfl rfl s0 (by omega) <|
  show mm_E _ _ 152 294 _ _ _ _ from
  mm_E.istore mx152 rfl (mm_atc mc152 rfl) <|
  show mm_E _ _ 152 296 [(5, mI z3), (0, .ref 0), (1, .ref 1), (2, .ref 77), (3, .ref 96), (4, mI x4)] _ _ _ from
  mm_E.aload_n (mm_atc mc152 rfl) rfl <|
  mm_E.aload_n (mm_atc mc152 rfl) rfl <|
  mm_E.iload (mm_atc mc152 rfl) rfl <|
  mm_E.iconst (mm_atc mc152 rfl) <|
  mm_E.iadd (mm_atc mc152 rfl) <|
  mm_E.xload (mm_atc mc152 rfl) h5 h6 hxz1 <|
  mm_E.callV0 (mm_atc mc152 rfl) (mm_plc mp152 rfl) rfl mk117 ly77 rfl mx117 rfl rfl s1 (by omega) <|
  show mm_E _ _ 152 306 _ _ _ _ from
  mm_E.aload_n (mm_atc mc152 rfl) rfl <|
  mm_E.callV0 (mm_atc mc152 rfl) (mm_plc mp152 rfl) rfl mk111 ly77 rfl mx111 rfl rfl (p111_0_0 (d := d)) (by omega) <|
  show mm_E _ _ 152 310 _ _ _ _ from
  mm_E.iload (mm_atc mc152 rfl) rfl <|
  mm_E.if2 (mm_atc mc152 rfl) h7 h8 (ic_eqT h9) rfl <|
  mm_E.goto (mm_atc mc152 rfl) rfl <|
  mm_E.inc mx152 rfl (mm_atc mc152 rfl) rfl <|
  show mm_E _ _ 152 1271 [(4, mI (x4 + 4)), (5, mI z3), (0, .ref 0), (1, .ref 1), (2, .ref 77), (3, .ref 96)] _ _ _ from
  mm_E.goto (mm_atc mc152 rfl) rfl <|
  mm_E.to h ⟨rfl, rfl, rfl, rfl, rfl, trivial⟩
set_option maxRecDepth 100000 in
theorem q4_1 {d : Nat} {X : List Value} {A : MF} {r : MR} {x4 z0 z2 z4 : Int} {A1 A3 : MF} (hxl : Nat.blt X.length 100000 = true) (hxz0 : X[Int.toNat x4]? = some (mI z0)) (s0 : mm_E 1 d 5 0 [(0, .ref 1)] [] (mm_w X A) (.inl (some (mI z2)), mm_w X A1, 0, 0)) (s1 : mm_E 1 d 118 0 [(0, .ref 77)] [] (mm_w X A1) (.inl (some (mI z4)), mm_w X A3, 0, 0)) (H : R32 x4 ∧ R32 ((X.length : Int) - 4) ∧ x4 ≤ (X.length : Int) - 4 ∧ 0 ≤ x4 ∧ mm_and z0 31 = 4 ∧ R32 z2 ∧ R32 z4 ∧ z2 = z4) (h : mm_E 1 (d + 1) 152 23 [(0, .ref 0), (1, .ref 1), (2, .ref 77), (3, .ref 96), (4, mI (x4 + 4))] [] (mm_w X A3) r) : mm_E 1 (d + 1) 152 23 [(0, .ref 0), (1, .ref 1), (2, .ref 77), (3, .ref 96), (4, mI x4)] [] (mm_w X A) r := by
  obtain ⟨h0, h1, h2, h3, h4, h5, h6, h7⟩ := H
  exact mm_E.iload (mm_atc mc152 rfl) rfl <|
  mm_E.aload_n (mm_atc mc152 rfl) rfl <|
  mm_E.xlen (mm_atc mc152 rfl) hxl <|
  mm_E.iconst (mm_atc mc152 rfl) <|
  mm_E.isub (mm_atc mc152 rfl) <|
  mm_E.if2 (mm_atc mc152 rfl) h0 h1 (ic_gtF h2) rfl <|
  mm_E.aload_n (mm_atc mc152 rfl) rfl <|
  mm_E.iload (mm_atc mc152 rfl) rfl <|
  mm_E.xload (mm_atc mc152 rfl) h3 h0 hxz0 <|
  mm_E.bipush (mm_atc mc152 rfl) rfl <|
  mm_E.iand (mm_atc mc152 rfl) <|
  mm_E.tswK (off := 281) (mm_atc mc152 rfl) h4 (by decide) (by decide) (by decide) (by decide) rfl <|
  show mm_E _ _ 152 320 _ _ _ _ from
  mm_E.aload_n (mm_atc mc152 rfl) rfl <|
  mm_E.callV0 (mm_atc mc152 rfl) (mm_plc mp152 rfl) rfl mk5 ly1 rfl mx5 rfl rfl s0 (by omega) <|
  show mm_E _ _ 152 324 _ _ _ _ from
  mm_E.aload_n (mm_atc mc152 rfl) rfl <|
  mm_E.callV0 (mm_atc mc152 rfl) (mm_plc mp152 rfl) rfl mk118 ly77 rfl mx118 rfl rfl s1 (by omega) <|
  show mm_E _ _ 152 328 _ _ _ _ from
  mm_E.if2 (mm_atc mc152 rfl) h5 h6 (ic_eqT h7) rfl <|
  mm_E.inc mx152 rfl (mm_atc mc152 rfl) rfl <|
  show mm_E _ _ 152 1271 [(4, mI (x4 + 4)), (0, .ref 0), (1, .ref 1), (2, .ref 77), (3, .ref 96)] _ _ _ from
  mm_E.goto (mm_atc mc152 rfl) rfl <|
  mm_E.to h ⟨rfl, rfl, rfl, rfl, rfl, trivial⟩
set_option maxRecDepth 100000 in
theorem q5_1 {d : Nat} {X : List Value} {A : MF} {o : Option Value ⊕ Nat} {M2 : MH} {a2 b2 : Nat} {x4 z0 z2 z4 : Int} {A1 A3 : MF} {a1 b1 : Nat} (hxl : Nat.blt X.length 100000 = true) (hxz0 : X[Int.toNat x4]? = some (mI z0)) (s0 : mm_E 1 d 138 0 [(0, .ref 1), (1, .ref 96)] [] (mm_w X A) (.inl (some (mI z2)), mm_w X A1, a1, b1)) (s1 : mm_E 1 d 119 0 [(0, .ref 77)] [] (mm_w X A1) (.inl (some (mJ z4)), mm_w X A3, 0, 0)) (H : R32 x4 ∧ R32 ((X.length : Int) - 4) ∧ x4 ≤ (X.length : Int) - 4 ∧ 0 ≤ x4 ∧ mm_and z0 31 = 5 ∧ R32 (A3 77 0) ∧ R32 z2 ∧ (A3 77 0) = z2 ∧ z2 ≠ 0) (h : mm_E 1 (d + 1) 152 23 [(0, .ref 0), (1, .ref 1), (2, .ref 77), (3, .ref 96), (4, mI (x4 + 4))] [] (mm_w X A3) (o, M2, a2, b2)) : mm_E 1 (d + 1) 152 23 [(0, .ref 0), (1, .ref 1), (2, .ref 77), (3, .ref 96), (4, mI x4)] [] (mm_w X A) (o, M2, a1 + a2, b1 + b2) := by
  obtain ⟨h0, h1, h2, h3, h4, h5, h6, h7, h8⟩ := H
  exact mm_E.iload (mm_atc mc152 rfl) rfl <|
  mm_E.aload_n (mm_atc mc152 rfl) rfl <|
  mm_E.xlen (mm_atc mc152 rfl) hxl <|
  mm_E.iconst (mm_atc mc152 rfl) <|
  mm_E.isub (mm_atc mc152 rfl) <|
  mm_E.if2 (mm_atc mc152 rfl) h0 h1 (ic_gtF h2) rfl <|
  mm_E.aload_n (mm_atc mc152 rfl) rfl <|
  mm_E.iload (mm_atc mc152 rfl) rfl <|
  mm_E.xload (mm_atc mc152 rfl) h3 h0 hxz0 <|
  mm_E.bipush (mm_atc mc152 rfl) rfl <|
  mm_E.iand (mm_atc mc152 rfl) <|
  mm_E.tswK (off := 294) (mm_atc mc152 rfl) h4 (by decide) (by decide) (by decide) (by decide) rfl <|
  show mm_E _ _ 152 333 _ _ _ _ from
  mm_E.aload_n (mm_atc mc152 rfl) rfl <|
  mm_E.aload_n (mm_atc mc152 rfl) rfl <|
  mm_E.callS (mm_atc mc152 rfl) (mm_plc mp152 rfl) mx138 rfl rfl s0 (by omega) <|
  show mm_E _ _ 152 338 _ _ _ _ from
  mm_E.istore mx152 rfl (mm_atc mc152 rfl) <|
  show mm_E _ _ 152 340 [(5, mI z2), (0, .ref 0), (1, .ref 1), (2, .ref 77), (3, .ref 96), (4, mI x4)] _ _ _ from
  mm_E.aload_n (mm_atc mc152 rfl) rfl <|
  mm_E.callV0 (mm_atc mc152 rfl) (mm_plc mp152 rfl) rfl mk119 ly77 rfl mx119 rfl rfl s1 (by omega) <|
  show mm_E _ _ 152 344 _ _ _ _ from
  mm_E.lstore mx152 rfl (mm_atc mc152 rfl) <|
  show mm_E _ _ 152 346 [(6, mJ z4), (5, mI z2), (0, .ref 0), (1, .ref 1), (2, .ref 77), (3, .ref 96), (4, mI x4)] _ _ _ from
  mm_E.aload_n (mm_atc mc152 rfl) rfl <|
  mm_E.callV0 (mm_atc mc152 rfl) (mm_plc mp152 rfl) rfl mk111 ly77 rfl mx111 rfl rfl (p111_0_0 (d := d)) (by omega) <|
  show mm_E _ _ 152 350 _ _ _ _ from
  mm_E.iload (mm_atc mc152 rfl) rfl <|
  mm_E.if2 (mm_atc mc152 rfl) h5 h6 (ic_eqT h7) rfl <|
  mm_E.iload (mm_atc mc152 rfl) rfl <|
  mm_E.if1 (mm_atc mc152 rfl) h6 (ic_neT h8) rfl <|
  mm_E.goto (mm_atc mc152 rfl) rfl <|
  mm_E.inc mx152 rfl (mm_atc mc152 rfl) rfl <|
  show mm_E _ _ 152 1271 [(4, mI (x4 + 4)), (6, mJ z4), (5, mI z2), (0, .ref 0), (1, .ref 1), (2, .ref 77), (3, .ref 96)] _ _ _ from
  mm_E.goto (mm_atc mc152 rfl) rfl <|
  mm_E.to h ⟨rfl, rfl, rfl, rfl, rfl, trivial⟩
set_option maxRecDepth 100000 in
theorem q5_2 {d : Nat} {X : List Value} {A : MF} {o : Option Value ⊕ Nat} {M2 : MH} {a2 b2 : Nat} {x4 z0 z2 z4 : Int} {A1 A3 : MF} {a1 b1 : Nat} (hxl : Nat.blt X.length 100000 = true) (hxz0 : X[Int.toNat x4]? = some (mI z0)) (s0 : mm_E 1 d 138 0 [(0, .ref 1), (1, .ref 96)] [] (mm_w X A) (.inl (some (mI z2)), mm_w X A1, a1, b1)) (s1 : mm_E 1 d 119 0 [(0, .ref 77)] [] (mm_w X A1) (.inl (some (mJ z4)), mm_w X A3, 0, 0)) (H : R32 x4 ∧ R32 ((X.length : Int) - 4) ∧ x4 ≤ (X.length : Int) - 4 ∧ 0 ≤ x4 ∧ mm_and z0 31 = 5 ∧ R32 (A3 77 0) ∧ R32 z2 ∧ (A3 77 0) = z2 ∧ z2 = 0 ∧ R64 (A3 96 0) ∧ R64 z4 ∧ A3 96 0 = z4) (h : mm_E 1 (d + 1) 152 23 [(0, .ref 0), (1, .ref 1), (2, .ref 77), (3, .ref 96), (4, mI (x4 + 4))] [] (mm_w X A3) (o, M2, a2, b2)) : mm_E 1 (d + 1) 152 23 [(0, .ref 0), (1, .ref 1), (2, .ref 77), (3, .ref 96), (4, mI x4)] [] (mm_w X A) (o, M2, a1 + a2, b1 + b2) := by
  obtain ⟨h0, h1, h2, h3, h4, h5, h6, h7, h8, h9, h10, h11⟩ := H
  exact mm_E.iload (mm_atc mc152 rfl) rfl <|
  mm_E.aload_n (mm_atc mc152 rfl) rfl <|
  mm_E.xlen (mm_atc mc152 rfl) hxl <|
  mm_E.iconst (mm_atc mc152 rfl) <|
  mm_E.isub (mm_atc mc152 rfl) <|
  mm_E.if2 (mm_atc mc152 rfl) h0 h1 (ic_gtF h2) rfl <|
  mm_E.aload_n (mm_atc mc152 rfl) rfl <|
  mm_E.iload (mm_atc mc152 rfl) rfl <|
  mm_E.xload (mm_atc mc152 rfl) h3 h0 hxz0 <|
  mm_E.bipush (mm_atc mc152 rfl) rfl <|
  mm_E.iand (mm_atc mc152 rfl) <|
  mm_E.tswK (off := 294) (mm_atc mc152 rfl) h4 (by decide) (by decide) (by decide) (by decide) rfl <|
  show mm_E _ _ 152 333 _ _ _ _ from
  mm_E.aload_n (mm_atc mc152 rfl) rfl <|
  mm_E.aload_n (mm_atc mc152 rfl) rfl <|
  mm_E.callS (mm_atc mc152 rfl) (mm_plc mp152 rfl) mx138 rfl rfl s0 (by omega) <|
  show mm_E _ _ 152 338 _ _ _ _ from
  mm_E.istore mx152 rfl (mm_atc mc152 rfl) <|
  show mm_E _ _ 152 340 [(5, mI z2), (0, .ref 0), (1, .ref 1), (2, .ref 77), (3, .ref 96), (4, mI x4)] _ _ _ from
  mm_E.aload_n (mm_atc mc152 rfl) rfl <|
  mm_E.callV0 (mm_atc mc152 rfl) (mm_plc mp152 rfl) rfl mk119 ly77 rfl mx119 rfl rfl s1 (by omega) <|
  show mm_E _ _ 152 344 _ _ _ _ from
  mm_E.lstore mx152 rfl (mm_atc mc152 rfl) <|
  show mm_E _ _ 152 346 [(6, mJ z4), (5, mI z2), (0, .ref 0), (1, .ref 1), (2, .ref 77), (3, .ref 96), (4, mI x4)] _ _ _ from
  mm_E.aload_n (mm_atc mc152 rfl) rfl <|
  mm_E.callV0 (mm_atc mc152 rfl) (mm_plc mp152 rfl) rfl mk111 ly77 rfl mx111 rfl rfl (p111_0_0 (d := d)) (by omega) <|
  show mm_E _ _ 152 350 _ _ _ _ from
  mm_E.iload (mm_atc mc152 rfl) rfl <|
  mm_E.if2 (mm_atc mc152 rfl) h5 h6 (ic_eqT h7) rfl <|
  mm_E.iload (mm_atc mc152 rfl) rfl <|
  mm_E.if1 (mm_atc mc152 rfl) h6 (ic_neF h8) rfl <|
  mm_E.aload_n (mm_atc mc152 rfl) rfl <|
  mm_E.iconst (mm_atc mc152 rfl) <|
  mm_E.laload (e := 0) (mm_atc mc152 rfl) ly96 rfl (by decide) (by decide) rfl (rfl) <|
  mm_E.lload (mm_atc mc152 rfl) rfl <|
  mm_E.lif (mm_atc mc152 rfl) (mm_atc mc152 rfl) h9 h10 (ic_eqT h11) rfl <|
  mm_E.goto (mm_atc mc152 rfl) rfl <|
  mm_E.inc mx152 rfl (mm_atc mc152 rfl) rfl <|
  show mm_E _ _ 152 1271 [(4, mI (x4 + 4)), (6, mJ z4), (5, mI z2), (0, .ref 0), (1, .ref 1), (2, .ref 77), (3, .ref 96)] _ _ _ from
  mm_E.goto (mm_atc mc152 rfl) rfl <|
  mm_E.to h ⟨rfl, rfl, rfl, rfl, rfl, trivial⟩
set_option maxRecDepth 100000 in
theorem q6_1 {d : Nat} {X : List Value} {A : MF} {o : Option Value ⊕ Nat} {M2 : MH} {a2 b2 : Nat} {x4 z0 z1 z2 z4 z6 : Int} {A3 A5 : MF} {a1 b1 : Nat} (hxl : Nat.blt X.length 100000 = true) (hxz0 : X[Int.toNat x4]? = some (mI z0)) (hxz1 : X[Int.toNat (x4 + 1)]? = some (mI z1)) (hxz2 : X[Int.toNat (x4 + 2)]? = some (mI z2)) (s0 : mm_E 1 d 139 0 [(0, .ref 1), (1, mI z1), (2, mI z2), (3, .ref 96)] [] (mm_w X A) (.inl (some (mI z4)), mm_w X A3, a1, b1)) (s1 : mm_E 1 d 120 0 [(0, .ref 77), (1, mI z1), (2, mI z2)] [] (mm_w X A3) (.inl (some (mI z6)), mm_w X A5, 0, 0)) (H : R32 x4 ∧ R32 ((X.length : Int) - 4) ∧ x4 ≤ (X.length : Int) - 4 ∧ 0 ≤ x4 ∧ mm_and z0 31 = 6 ∧ 0 ≤ x4 + 1 ∧ R32 (x4 + 1) ∧ 0 ≤ x4 + 2 ∧ R32 (x4 + 2) ∧ R32 (A5 77 0) ∧ R32 z4 ∧ (A5 77 0) = z4 ∧ z4 ≠ 0) (h : mm_E 1 (d + 1) 152 23 [(0, .ref 0), (1, .ref 1), (2, .ref 77), (3, .ref 96), (4, mI (x4 + 4))] [] (mm_w X A5) (o, M2, a2, b2)) : mm_E 1 (d + 1) 152 23 [(0, .ref 0), (1, .ref 1), (2, .ref 77), (3, .ref 96), (4, mI x4)] [] (mm_w X A) (o, M2, a1 + a2, b1 + b2) := by
  obtain ⟨h0, h1, h2, h3, h4, h5, h6, h7, h8, h9, h10, h11, h12⟩ := H
  exact mm_E.iload (mm_atc mc152 rfl) rfl <|
  mm_E.aload_n (mm_atc mc152 rfl) rfl <|
  mm_E.xlen (mm_atc mc152 rfl) hxl <|
  mm_E.iconst (mm_atc mc152 rfl) <|
  mm_E.isub (mm_atc mc152 rfl) <|
  mm_E.if2 (mm_atc mc152 rfl) h0 h1 (ic_gtF h2) rfl <|
  mm_E.aload_n (mm_atc mc152 rfl) rfl <|
  mm_E.iload (mm_atc mc152 rfl) rfl <|
  mm_E.xload (mm_atc mc152 rfl) h3 h0 hxz0 <|
  mm_E.bipush (mm_atc mc152 rfl) rfl <|
  mm_E.iand (mm_atc mc152 rfl) <|
  mm_E.tswK (off := 337) (mm_atc mc152 rfl) h4 (by decide) (by decide) (by decide) (by decide) rfl <|
  show mm_E _ _ 152 376 _ _ _ _ from
  mm_E.aload_n (mm_atc mc152 rfl) rfl <|
  mm_E.aload_n (mm_atc mc152 rfl) rfl <|
  mm_E.iload (mm_atc mc152 rfl) rfl <|
  mm_E.iconst (mm_atc mc152 rfl) <|
  mm_E.iadd (mm_atc mc152 rfl) <|
  mm_E.xload (mm_atc mc152 rfl) h5 h6 hxz1 <|
  mm_E.aload_n (mm_atc mc152 rfl) rfl <|
  mm_E.iload (mm_atc mc152 rfl) rfl <|
  mm_E.iconst (mm_atc mc152 rfl) <|
  mm_E.iadd (mm_atc mc152 rfl) <|
  mm_E.xload (mm_atc mc152 rfl) h7 h8 hxz2 <|
  mm_E.aload_n (mm_atc mc152 rfl) rfl <|
  mm_E.callS (mm_atc mc152 rfl) (mm_plc mp152 rfl) mx139 rfl rfl s0 (by omega) <|
  show mm_E _ _ 152 393 _ _ _ _ from
  mm_E.istore mx152 rfl (mm_atc mc152 rfl) <|
  show mm_E _ _ 152 395 [(5, mI z4), (0, .ref 0), (1, .ref 1), (2, .ref 77), (3, .ref 96), (4, mI x4)] _ _ _ from
  mm_E.aload_n (mm_atc mc152 rfl) rfl <|
  mm_E.aload_n (mm_atc mc152 rfl) rfl <|
  mm_E.iload (mm_atc mc152 rfl) rfl <|
  mm_E.iconst (mm_atc mc152 rfl) <|
  mm_E.iadd (mm_atc mc152 rfl) <|
  mm_E.xload (mm_atc mc152 rfl) h5 h6 hxz1 <|
  mm_E.aload_n (mm_atc mc152 rfl) rfl <|
  mm_E.iload (mm_atc mc152 rfl) rfl <|
  mm_E.iconst (mm_atc mc152 rfl) <|
  mm_E.iadd (mm_atc mc152 rfl) <|
  mm_E.xload (mm_atc mc152 rfl) h7 h8 hxz2 <|
  mm_E.callV0 (mm_atc mc152 rfl) (mm_plc mp152 rfl) rfl mk120 ly77 rfl mx120 rfl rfl s1 (by omega) <|
  show mm_E _ _ 152 411 _ _ _ _ from
  mm_E.istore mx152 rfl (mm_atc mc152 rfl) <|
  show mm_E _ _ 152 413 [(6, mI z6), (5, mI z4), (0, .ref 0), (1, .ref 1), (2, .ref 77), (3, .ref 96), (4, mI x4)] _ _ _ from
  mm_E.aload_n (mm_atc mc152 rfl) rfl <|
  mm_E.callV0 (mm_atc mc152 rfl) (mm_plc mp152 rfl) rfl mk111 ly77 rfl mx111 rfl rfl (p111_0_0 (d := d)) (by omega) <|
  show mm_E _ _ 152 417 _ _ _ _ from
  mm_E.iload (mm_atc mc152 rfl) rfl <|
  mm_E.if2 (mm_atc mc152 rfl) h9 h10 (ic_eqT h11) rfl <|
  mm_E.iload (mm_atc mc152 rfl) rfl <|
  mm_E.if1 (mm_atc mc152 rfl) h10 (ic_neT h12) rfl <|
  mm_E.goto (mm_atc mc152 rfl) rfl <|
  mm_E.inc mx152 rfl (mm_atc mc152 rfl) rfl <|
  show mm_E _ _ 152 1271 [(4, mI (x4 + 4)), (6, mI z6), (5, mI z4), (0, .ref 0), (1, .ref 1), (2, .ref 77), (3, .ref 96)] _ _ _ from
  mm_E.goto (mm_atc mc152 rfl) rfl <|
  mm_E.to h ⟨rfl, rfl, rfl, rfl, rfl, trivial⟩
set_option maxRecDepth 100000 in
theorem q6_2 {d : Nat} {X : List Value} {A : MF} {o : Option Value ⊕ Nat} {M2 : MH} {a2 b2 : Nat} {x4 z0 z1 z2 z4 z6 : Int} {A3 A5 : MF} {a1 b1 : Nat} (hxl : Nat.blt X.length 100000 = true) (hxz0 : X[Int.toNat x4]? = some (mI z0)) (hxz1 : X[Int.toNat (x4 + 1)]? = some (mI z1)) (hxz2 : X[Int.toNat (x4 + 2)]? = some (mI z2)) (s0 : mm_E 1 d 139 0 [(0, .ref 1), (1, mI z1), (2, mI z2), (3, .ref 96)] [] (mm_w X A) (.inl (some (mI z4)), mm_w X A3, a1, b1)) (s1 : mm_E 1 d 120 0 [(0, .ref 77), (1, mI z1), (2, mI z2)] [] (mm_w X A3) (.inl (some (mI z6)), mm_w X A5, 0, 0)) (H : R32 x4 ∧ R32 ((X.length : Int) - 4) ∧ x4 ≤ (X.length : Int) - 4 ∧ 0 ≤ x4 ∧ mm_and z0 31 = 6 ∧ 0 ≤ x4 + 1 ∧ R32 (x4 + 1) ∧ 0 ≤ x4 + 2 ∧ R32 (x4 + 2) ∧ R32 (A5 77 0) ∧ R32 z4 ∧ (A5 77 0) = z4 ∧ z4 = 0 ∧ R32 z6 ∧ R64 (A5 96 0) ∧ R64 z6 ∧ A5 96 0 = z6) (h : mm_E 1 (d + 1) 152 23 [(0, .ref 0), (1, .ref 1), (2, .ref 77), (3, .ref 96), (4, mI (x4 + 4))] [] (mm_w X A5) (o, M2, a2, b2)) : mm_E 1 (d + 1) 152 23 [(0, .ref 0), (1, .ref 1), (2, .ref 77), (3, .ref 96), (4, mI x4)] [] (mm_w X A) (o, M2, a1 + a2, b1 + b2) := by
  obtain ⟨h0, h1, h2, h3, h4, h5, h6, h7, h8, h9, h10, h11, h12, h13, h14, h15, h16⟩ := H
  exact mm_E.iload (mm_atc mc152 rfl) rfl <|
  mm_E.aload_n (mm_atc mc152 rfl) rfl <|
  mm_E.xlen (mm_atc mc152 rfl) hxl <|
  mm_E.iconst (mm_atc mc152 rfl) <|
  mm_E.isub (mm_atc mc152 rfl) <|
  mm_E.if2 (mm_atc mc152 rfl) h0 h1 (ic_gtF h2) rfl <|
  mm_E.aload_n (mm_atc mc152 rfl) rfl <|
  mm_E.iload (mm_atc mc152 rfl) rfl <|
  mm_E.xload (mm_atc mc152 rfl) h3 h0 hxz0 <|
  mm_E.bipush (mm_atc mc152 rfl) rfl <|
  mm_E.iand (mm_atc mc152 rfl) <|
  mm_E.tswK (off := 337) (mm_atc mc152 rfl) h4 (by decide) (by decide) (by decide) (by decide) rfl <|
  show mm_E _ _ 152 376 _ _ _ _ from
  mm_E.aload_n (mm_atc mc152 rfl) rfl <|
  mm_E.aload_n (mm_atc mc152 rfl) rfl <|
  mm_E.iload (mm_atc mc152 rfl) rfl <|
  mm_E.iconst (mm_atc mc152 rfl) <|
  mm_E.iadd (mm_atc mc152 rfl) <|
  mm_E.xload (mm_atc mc152 rfl) h5 h6 hxz1 <|
  mm_E.aload_n (mm_atc mc152 rfl) rfl <|
  mm_E.iload (mm_atc mc152 rfl) rfl <|
  mm_E.iconst (mm_atc mc152 rfl) <|
  mm_E.iadd (mm_atc mc152 rfl) <|
  mm_E.xload (mm_atc mc152 rfl) h7 h8 hxz2 <|
  mm_E.aload_n (mm_atc mc152 rfl) rfl <|
  mm_E.callS (mm_atc mc152 rfl) (mm_plc mp152 rfl) mx139 rfl rfl s0 (by omega) <|
  show mm_E _ _ 152 393 _ _ _ _ from
  mm_E.istore mx152 rfl (mm_atc mc152 rfl) <|
  show mm_E _ _ 152 395 [(5, mI z4), (0, .ref 0), (1, .ref 1), (2, .ref 77), (3, .ref 96), (4, mI x4)] _ _ _ from
  mm_E.aload_n (mm_atc mc152 rfl) rfl <|
  mm_E.aload_n (mm_atc mc152 rfl) rfl <|
  mm_E.iload (mm_atc mc152 rfl) rfl <|
  mm_E.iconst (mm_atc mc152 rfl) <|
  mm_E.iadd (mm_atc mc152 rfl) <|
  mm_E.xload (mm_atc mc152 rfl) h5 h6 hxz1 <|
  mm_E.aload_n (mm_atc mc152 rfl) rfl <|
  mm_E.iload (mm_atc mc152 rfl) rfl <|
  mm_E.iconst (mm_atc mc152 rfl) <|
  mm_E.iadd (mm_atc mc152 rfl) <|
  mm_E.xload (mm_atc mc152 rfl) h7 h8 hxz2 <|
  mm_E.callV0 (mm_atc mc152 rfl) (mm_plc mp152 rfl) rfl mk120 ly77 rfl mx120 rfl rfl s1 (by omega) <|
  show mm_E _ _ 152 411 _ _ _ _ from
  mm_E.istore mx152 rfl (mm_atc mc152 rfl) <|
  show mm_E _ _ 152 413 [(6, mI z6), (5, mI z4), (0, .ref 0), (1, .ref 1), (2, .ref 77), (3, .ref 96), (4, mI x4)] _ _ _ from
  mm_E.aload_n (mm_atc mc152 rfl) rfl <|
  mm_E.callV0 (mm_atc mc152 rfl) (mm_plc mp152 rfl) rfl mk111 ly77 rfl mx111 rfl rfl (p111_0_0 (d := d)) (by omega) <|
  show mm_E _ _ 152 417 _ _ _ _ from
  mm_E.iload (mm_atc mc152 rfl) rfl <|
  mm_E.if2 (mm_atc mc152 rfl) h9 h10 (ic_eqT h11) rfl <|
  mm_E.iload (mm_atc mc152 rfl) rfl <|
  mm_E.if1 (mm_atc mc152 rfl) h10 (ic_neF h12) rfl <|
  mm_E.aload_n (mm_atc mc152 rfl) rfl <|
  mm_E.iconst (mm_atc mc152 rfl) <|
  mm_E.laload (e := 0) (mm_atc mc152 rfl) ly96 rfl (by decide) (by decide) rfl (rfl) <|
  mm_E.iload (mm_atc mc152 rfl) rfl <|
  mm_E.i2l h13 (mm_atc mc152 rfl) <|
  mm_E.lif (mm_atc mc152 rfl) (mm_atc mc152 rfl) h14 h15 (ic_eqT h16) rfl <|
  mm_E.goto (mm_atc mc152 rfl) rfl <|
  mm_E.inc mx152 rfl (mm_atc mc152 rfl) rfl <|
  show mm_E _ _ 152 1271 [(4, mI (x4 + 4)), (6, mI z6), (5, mI z4), (0, .ref 0), (1, .ref 1), (2, .ref 77), (3, .ref 96)] _ _ _ from
  mm_E.goto (mm_atc mc152 rfl) rfl <|
  mm_E.to h ⟨rfl, rfl, rfl, rfl, rfl, trivial⟩
set_option maxRecDepth 100000 in
theorem q7_1 {d : Nat} {X : List Value} {A : MF} {o : Option Value ⊕ Nat} {M2 : MH} {a2 b2 : Nat} {x4 z0 z1 z3 z5 : Int} {A2 A4 : MF} {a1 b1 : Nat} (hxl : Nat.blt X.length 100000 = true) (hxz0 : X[Int.toNat x4]? = some (mI z0)) (hxz1 : X[Int.toNat (x4 + 1)]? = some (mI z1)) (s0 : mm_E 1 d 140 0 [(0, .ref 1), (1, mI z1), (2, .ref 96)] [] (mm_w X A) (.inl (some (mI z3)), mm_w X A2, a1, b1)) (s1 : mm_E 1 d 121 0 [(0, .ref 77), (1, mI z1)] [] (mm_w X A2) (.inl (some (mI z5)), mm_w X A4, 0, 0)) (H : R32 x4 ∧ R32 ((X.length : Int) - 4) ∧ x4 ≤ (X.length : Int) - 4 ∧ 0 ≤ x4 ∧ mm_and z0 31 = 7 ∧ 0 ≤ x4 + 1 ∧ R32 (x4 + 1) ∧ R32 (A4 77 0) ∧ R32 z3 ∧ (A4 77 0) = z3 ∧ z3 ≠ 0) (h : mm_E 1 (d + 1) 152 23 [(0, .ref 0), (1, .ref 1), (2, .ref 77), (3, .ref 96), (4, mI (x4 + 4))] [] (mm_w X A4) (o, M2, a2, b2)) : mm_E 1 (d + 1) 152 23 [(0, .ref 0), (1, .ref 1), (2, .ref 77), (3, .ref 96), (4, mI x4)] [] (mm_w X A) (o, M2, a1 + a2, b1 + b2) := by
  obtain ⟨h0, h1, h2, h3, h4, h5, h6, h7, h8, h9, h10⟩ := H
  exact mm_E.iload (mm_atc mc152 rfl) rfl <|
  mm_E.aload_n (mm_atc mc152 rfl) rfl <|
  mm_E.xlen (mm_atc mc152 rfl) hxl <|
  mm_E.iconst (mm_atc mc152 rfl) <|
  mm_E.isub (mm_atc mc152 rfl) <|
  mm_E.if2 (mm_atc mc152 rfl) h0 h1 (ic_gtF h2) rfl <|
  mm_E.aload_n (mm_atc mc152 rfl) rfl <|
  mm_E.iload (mm_atc mc152 rfl) rfl <|
  mm_E.xload (mm_atc mc152 rfl) h3 h0 hxz0 <|
  mm_E.bipush (mm_atc mc152 rfl) rfl <|
  mm_E.iand (mm_atc mc152 rfl) <|
  mm_E.tswK (off := 405) (mm_atc mc152 rfl) h4 (by decide) (by decide) (by decide) (by decide) rfl <|
  show mm_E _ _ 152 444 _ _ _ _ from
  mm_E.aload_n (mm_atc mc152 rfl) rfl <|
  mm_E.aload_n (mm_atc mc152 rfl) rfl <|
  mm_E.iload (mm_atc mc152 rfl) rfl <|
  mm_E.iconst (mm_atc mc152 rfl) <|
  mm_E.iadd (mm_atc mc152 rfl) <|
  mm_E.xload (mm_atc mc152 rfl) h5 h6 hxz1 <|
  mm_E.aload_n (mm_atc mc152 rfl) rfl <|
  mm_E.callS (mm_atc mc152 rfl) (mm_plc mp152 rfl) mx140 rfl rfl s0 (by omega) <|
  show mm_E _ _ 152 455 _ _ _ _ from
  mm_E.istore mx152 rfl (mm_atc mc152 rfl) <|
  show mm_E _ _ 152 457 [(5, mI z3), (0, .ref 0), (1, .ref 1), (2, .ref 77), (3, .ref 96), (4, mI x4)] _ _ _ from
  mm_E.aload_n (mm_atc mc152 rfl) rfl <|
  mm_E.aload_n (mm_atc mc152 rfl) rfl <|
  mm_E.iload (mm_atc mc152 rfl) rfl <|
  mm_E.iconst (mm_atc mc152 rfl) <|
  mm_E.iadd (mm_atc mc152 rfl) <|
  mm_E.xload (mm_atc mc152 rfl) h5 h6 hxz1 <|
  mm_E.callV0 (mm_atc mc152 rfl) (mm_plc mp152 rfl) rfl mk121 ly77 rfl mx121 rfl rfl s1 (by omega) <|
  show mm_E _ _ 152 467 _ _ _ _ from
  mm_E.istore mx152 rfl (mm_atc mc152 rfl) <|
  show mm_E _ _ 152 469 [(6, mI z5), (5, mI z3), (0, .ref 0), (1, .ref 1), (2, .ref 77), (3, .ref 96), (4, mI x4)] _ _ _ from
  mm_E.aload_n (mm_atc mc152 rfl) rfl <|
  mm_E.callV0 (mm_atc mc152 rfl) (mm_plc mp152 rfl) rfl mk111 ly77 rfl mx111 rfl rfl (p111_0_0 (d := d)) (by omega) <|
  show mm_E _ _ 152 473 _ _ _ _ from
  mm_E.iload (mm_atc mc152 rfl) rfl <|
  mm_E.if2 (mm_atc mc152 rfl) h7 h8 (ic_eqT h9) rfl <|
  mm_E.iload (mm_atc mc152 rfl) rfl <|
  mm_E.if1 (mm_atc mc152 rfl) h8 (ic_neT h10) rfl <|
  mm_E.goto (mm_atc mc152 rfl) rfl <|
  mm_E.inc mx152 rfl (mm_atc mc152 rfl) rfl <|
  show mm_E _ _ 152 1271 [(4, mI (x4 + 4)), (6, mI z5), (5, mI z3), (0, .ref 0), (1, .ref 1), (2, .ref 77), (3, .ref 96)] _ _ _ from
  mm_E.goto (mm_atc mc152 rfl) rfl <|
  mm_E.to h ⟨rfl, rfl, rfl, rfl, rfl, trivial⟩
set_option maxRecDepth 100000 in
theorem q7_2 {d : Nat} {X : List Value} {A : MF} {o : Option Value ⊕ Nat} {M2 : MH} {a2 b2 : Nat} {x4 z0 z1 z3 z5 : Int} {A2 A4 : MF} {a1 b1 : Nat} (hxl : Nat.blt X.length 100000 = true) (hxz0 : X[Int.toNat x4]? = some (mI z0)) (hxz1 : X[Int.toNat (x4 + 1)]? = some (mI z1)) (s0 : mm_E 1 d 140 0 [(0, .ref 1), (1, mI z1), (2, .ref 96)] [] (mm_w X A) (.inl (some (mI z3)), mm_w X A2, a1, b1)) (s1 : mm_E 1 d 121 0 [(0, .ref 77), (1, mI z1)] [] (mm_w X A2) (.inl (some (mI z5)), mm_w X A4, 0, 0)) (H : R32 x4 ∧ R32 ((X.length : Int) - 4) ∧ x4 ≤ (X.length : Int) - 4 ∧ 0 ≤ x4 ∧ mm_and z0 31 = 7 ∧ 0 ≤ x4 + 1 ∧ R32 (x4 + 1) ∧ R32 (A4 77 0) ∧ R32 z3 ∧ (A4 77 0) = z3 ∧ z3 = 0 ∧ R32 z5 ∧ R64 (A4 96 0) ∧ R64 z5 ∧ A4 96 0 = z5) (h : mm_E 1 (d + 1) 152 23 [(0, .ref 0), (1, .ref 1), (2, .ref 77), (3, .ref 96), (4, mI (x4 + 4))] [] (mm_w X A4) (o, M2, a2, b2)) : mm_E 1 (d + 1) 152 23 [(0, .ref 0), (1, .ref 1), (2, .ref 77), (3, .ref 96), (4, mI x4)] [] (mm_w X A) (o, M2, a1 + a2, b1 + b2) := by
  obtain ⟨h0, h1, h2, h3, h4, h5, h6, h7, h8, h9, h10, h11, h12, h13, h14⟩ := H
  exact mm_E.iload (mm_atc mc152 rfl) rfl <|
  mm_E.aload_n (mm_atc mc152 rfl) rfl <|
  mm_E.xlen (mm_atc mc152 rfl) hxl <|
  mm_E.iconst (mm_atc mc152 rfl) <|
  mm_E.isub (mm_atc mc152 rfl) <|
  mm_E.if2 (mm_atc mc152 rfl) h0 h1 (ic_gtF h2) rfl <|
  mm_E.aload_n (mm_atc mc152 rfl) rfl <|
  mm_E.iload (mm_atc mc152 rfl) rfl <|
  mm_E.xload (mm_atc mc152 rfl) h3 h0 hxz0 <|
  mm_E.bipush (mm_atc mc152 rfl) rfl <|
  mm_E.iand (mm_atc mc152 rfl) <|
  mm_E.tswK (off := 405) (mm_atc mc152 rfl) h4 (by decide) (by decide) (by decide) (by decide) rfl <|
  show mm_E _ _ 152 444 _ _ _ _ from
  mm_E.aload_n (mm_atc mc152 rfl) rfl <|
  mm_E.aload_n (mm_atc mc152 rfl) rfl <|
  mm_E.iload (mm_atc mc152 rfl) rfl <|
  mm_E.iconst (mm_atc mc152 rfl) <|
  mm_E.iadd (mm_atc mc152 rfl) <|
  mm_E.xload (mm_atc mc152 rfl) h5 h6 hxz1 <|
  mm_E.aload_n (mm_atc mc152 rfl) rfl <|
  mm_E.callS (mm_atc mc152 rfl) (mm_plc mp152 rfl) mx140 rfl rfl s0 (by omega) <|
  show mm_E _ _ 152 455 _ _ _ _ from
  mm_E.istore mx152 rfl (mm_atc mc152 rfl) <|
  show mm_E _ _ 152 457 [(5, mI z3), (0, .ref 0), (1, .ref 1), (2, .ref 77), (3, .ref 96), (4, mI x4)] _ _ _ from
  mm_E.aload_n (mm_atc mc152 rfl) rfl <|
  mm_E.aload_n (mm_atc mc152 rfl) rfl <|
  mm_E.iload (mm_atc mc152 rfl) rfl <|
  mm_E.iconst (mm_atc mc152 rfl) <|
  mm_E.iadd (mm_atc mc152 rfl) <|
  mm_E.xload (mm_atc mc152 rfl) h5 h6 hxz1 <|
  mm_E.callV0 (mm_atc mc152 rfl) (mm_plc mp152 rfl) rfl mk121 ly77 rfl mx121 rfl rfl s1 (by omega) <|
  show mm_E _ _ 152 467 _ _ _ _ from
  mm_E.istore mx152 rfl (mm_atc mc152 rfl) <|
  show mm_E _ _ 152 469 [(6, mI z5), (5, mI z3), (0, .ref 0), (1, .ref 1), (2, .ref 77), (3, .ref 96), (4, mI x4)] _ _ _ from
  mm_E.aload_n (mm_atc mc152 rfl) rfl <|
  mm_E.callV0 (mm_atc mc152 rfl) (mm_plc mp152 rfl) rfl mk111 ly77 rfl mx111 rfl rfl (p111_0_0 (d := d)) (by omega) <|
  show mm_E _ _ 152 473 _ _ _ _ from
  mm_E.iload (mm_atc mc152 rfl) rfl <|
  mm_E.if2 (mm_atc mc152 rfl) h7 h8 (ic_eqT h9) rfl <|
  mm_E.iload (mm_atc mc152 rfl) rfl <|
  mm_E.if1 (mm_atc mc152 rfl) h8 (ic_neF h10) rfl <|
  mm_E.aload_n (mm_atc mc152 rfl) rfl <|
  mm_E.iconst (mm_atc mc152 rfl) <|
  mm_E.laload (e := 0) (mm_atc mc152 rfl) ly96 rfl (by decide) (by decide) rfl (rfl) <|
  mm_E.iload (mm_atc mc152 rfl) rfl <|
  mm_E.i2l h11 (mm_atc mc152 rfl) <|
  mm_E.lif (mm_atc mc152 rfl) (mm_atc mc152 rfl) h12 h13 (ic_eqT h14) rfl <|
  mm_E.goto (mm_atc mc152 rfl) rfl <|
  mm_E.inc mx152 rfl (mm_atc mc152 rfl) rfl <|
  show mm_E _ _ 152 1271 [(4, mI (x4 + 4)), (6, mI z5), (5, mI z3), (0, .ref 0), (1, .ref 1), (2, .ref 77), (3, .ref 96)] _ _ _ from
  mm_E.goto (mm_atc mc152 rfl) rfl <|
  mm_E.to h ⟨rfl, rfl, rfl, rfl, rfl, trivial⟩
set_option maxRecDepth 100000 in
theorem q8_1 {d : Nat} {X : List Value} {A : MF} {o : Option Value ⊕ Nat} {M2 : MH} {a2 b2 : Nat} {x4 z0 z1 z2 z4 z6 : Int} {A3 A5 : MF} {a1 b1 : Nat} (hxl : Nat.blt X.length 100000 = true) (hxz0 : X[Int.toNat x4]? = some (mI z0)) (hxz1 : X[Int.toNat (x4 + 1)]? = some (mI z1)) (hxz2 : X[Int.toNat (x4 + 2)]? = some (mI z2)) (s0 : mm_E 1 d 141 0 [(0, .ref 1), (1, mI z1), (2, mI z2), (3, .ref 96)] [] (mm_w X A) (.inl (some (mI z4)), mm_w X A3, a1, b1)) (s1 : mm_E 1 d 122 0 [(0, .ref 77), (1, mI z1), (2, mI z2)] [] (mm_w X A3) (.inl (some (mI z6)), mm_w X A5, 0, 0)) (H : R32 x4 ∧ R32 ((X.length : Int) - 4) ∧ x4 ≤ (X.length : Int) - 4 ∧ 0 ≤ x4 ∧ mm_and z0 31 = 8 ∧ 0 ≤ x4 + 1 ∧ R32 (x4 + 1) ∧ 0 ≤ x4 + 2 ∧ R32 (x4 + 2) ∧ R32 (A5 77 0) ∧ R32 z4 ∧ (A5 77 0) = z4 ∧ z4 ≠ 0) (h : mm_E 1 (d + 1) 152 23 [(0, .ref 0), (1, .ref 1), (2, .ref 77), (3, .ref 96), (4, mI (x4 + 4))] [] (mm_w X A5) (o, M2, a2, b2)) : mm_E 1 (d + 1) 152 23 [(0, .ref 0), (1, .ref 1), (2, .ref 77), (3, .ref 96), (4, mI x4)] [] (mm_w X A) (o, M2, a1 + a2, b1 + b2) := by
  obtain ⟨h0, h1, h2, h3, h4, h5, h6, h7, h8, h9, h10, h11, h12⟩ := H
  exact mm_E.iload (mm_atc mc152 rfl) rfl <|
  mm_E.aload_n (mm_atc mc152 rfl) rfl <|
  mm_E.xlen (mm_atc mc152 rfl) hxl <|
  mm_E.iconst (mm_atc mc152 rfl) <|
  mm_E.isub (mm_atc mc152 rfl) <|
  mm_E.if2 (mm_atc mc152 rfl) h0 h1 (ic_gtF h2) rfl <|
  mm_E.aload_n (mm_atc mc152 rfl) rfl <|
  mm_E.iload (mm_atc mc152 rfl) rfl <|
  mm_E.xload (mm_atc mc152 rfl) h3 h0 hxz0 <|
  mm_E.bipush (mm_atc mc152 rfl) rfl <|
  mm_E.iand (mm_atc mc152 rfl) <|
  mm_E.tswK (off := 461) (mm_atc mc152 rfl) h4 (by decide) (by decide) (by decide) (by decide) rfl <|
  show mm_E _ _ 152 500 _ _ _ _ from
  mm_E.aload_n (mm_atc mc152 rfl) rfl <|
  mm_E.aload_n (mm_atc mc152 rfl) rfl <|
  mm_E.iload (mm_atc mc152 rfl) rfl <|
  mm_E.iconst (mm_atc mc152 rfl) <|
  mm_E.iadd (mm_atc mc152 rfl) <|
  mm_E.xload (mm_atc mc152 rfl) h5 h6 hxz1 <|
  mm_E.aload_n (mm_atc mc152 rfl) rfl <|
  mm_E.iload (mm_atc mc152 rfl) rfl <|
  mm_E.iconst (mm_atc mc152 rfl) <|
  mm_E.iadd (mm_atc mc152 rfl) <|
  mm_E.xload (mm_atc mc152 rfl) h7 h8 hxz2 <|
  mm_E.aload_n (mm_atc mc152 rfl) rfl <|
  mm_E.callS (mm_atc mc152 rfl) (mm_plc mp152 rfl) mx141 rfl rfl s0 (by omega) <|
  show mm_E _ _ 152 517 _ _ _ _ from
  mm_E.istore mx152 rfl (mm_atc mc152 rfl) <|
  show mm_E _ _ 152 519 [(5, mI z4), (0, .ref 0), (1, .ref 1), (2, .ref 77), (3, .ref 96), (4, mI x4)] _ _ _ from
  mm_E.aload_n (mm_atc mc152 rfl) rfl <|
  mm_E.aload_n (mm_atc mc152 rfl) rfl <|
  mm_E.iload (mm_atc mc152 rfl) rfl <|
  mm_E.iconst (mm_atc mc152 rfl) <|
  mm_E.iadd (mm_atc mc152 rfl) <|
  mm_E.xload (mm_atc mc152 rfl) h5 h6 hxz1 <|
  mm_E.aload_n (mm_atc mc152 rfl) rfl <|
  mm_E.iload (mm_atc mc152 rfl) rfl <|
  mm_E.iconst (mm_atc mc152 rfl) <|
  mm_E.iadd (mm_atc mc152 rfl) <|
  mm_E.xload (mm_atc mc152 rfl) h7 h8 hxz2 <|
  mm_E.callV0 (mm_atc mc152 rfl) (mm_plc mp152 rfl) rfl mk122 ly77 rfl mx122 rfl rfl s1 (by omega) <|
  show mm_E _ _ 152 535 _ _ _ _ from
  mm_E.istore mx152 rfl (mm_atc mc152 rfl) <|
  show mm_E _ _ 152 537 [(6, mI z6), (5, mI z4), (0, .ref 0), (1, .ref 1), (2, .ref 77), (3, .ref 96), (4, mI x4)] _ _ _ from
  mm_E.aload_n (mm_atc mc152 rfl) rfl <|
  mm_E.callV0 (mm_atc mc152 rfl) (mm_plc mp152 rfl) rfl mk111 ly77 rfl mx111 rfl rfl (p111_0_0 (d := d)) (by omega) <|
  show mm_E _ _ 152 541 _ _ _ _ from
  mm_E.iload (mm_atc mc152 rfl) rfl <|
  mm_E.if2 (mm_atc mc152 rfl) h9 h10 (ic_eqT h11) rfl <|
  mm_E.iload (mm_atc mc152 rfl) rfl <|
  mm_E.if1 (mm_atc mc152 rfl) h10 (ic_neT h12) rfl <|
  mm_E.goto (mm_atc mc152 rfl) rfl <|
  mm_E.inc mx152 rfl (mm_atc mc152 rfl) rfl <|
  show mm_E _ _ 152 1271 [(4, mI (x4 + 4)), (6, mI z6), (5, mI z4), (0, .ref 0), (1, .ref 1), (2, .ref 77), (3, .ref 96)] _ _ _ from
  mm_E.goto (mm_atc mc152 rfl) rfl <|
  mm_E.to h ⟨rfl, rfl, rfl, rfl, rfl, trivial⟩
set_option maxRecDepth 100000 in
theorem q8_2 {d : Nat} {X : List Value} {A : MF} {o : Option Value ⊕ Nat} {M2 : MH} {a2 b2 : Nat} {x4 z0 z1 z2 z4 z6 : Int} {A3 A5 : MF} {a1 b1 : Nat} (hxl : Nat.blt X.length 100000 = true) (hxz0 : X[Int.toNat x4]? = some (mI z0)) (hxz1 : X[Int.toNat (x4 + 1)]? = some (mI z1)) (hxz2 : X[Int.toNat (x4 + 2)]? = some (mI z2)) (s0 : mm_E 1 d 141 0 [(0, .ref 1), (1, mI z1), (2, mI z2), (3, .ref 96)] [] (mm_w X A) (.inl (some (mI z4)), mm_w X A3, a1, b1)) (s1 : mm_E 1 d 122 0 [(0, .ref 77), (1, mI z1), (2, mI z2)] [] (mm_w X A3) (.inl (some (mI z6)), mm_w X A5, 0, 0)) (H : R32 x4 ∧ R32 ((X.length : Int) - 4) ∧ x4 ≤ (X.length : Int) - 4 ∧ 0 ≤ x4 ∧ mm_and z0 31 = 8 ∧ 0 ≤ x4 + 1 ∧ R32 (x4 + 1) ∧ 0 ≤ x4 + 2 ∧ R32 (x4 + 2) ∧ R32 (A5 77 0) ∧ R32 z4 ∧ (A5 77 0) = z4 ∧ z4 = 0 ∧ R32 z6 ∧ R64 (A5 96 0) ∧ R64 z6 ∧ A5 96 0 = z6) (h : mm_E 1 (d + 1) 152 23 [(0, .ref 0), (1, .ref 1), (2, .ref 77), (3, .ref 96), (4, mI (x4 + 4))] [] (mm_w X A5) (o, M2, a2, b2)) : mm_E 1 (d + 1) 152 23 [(0, .ref 0), (1, .ref 1), (2, .ref 77), (3, .ref 96), (4, mI x4)] [] (mm_w X A) (o, M2, a1 + a2, b1 + b2) := by
  obtain ⟨h0, h1, h2, h3, h4, h5, h6, h7, h8, h9, h10, h11, h12, h13, h14, h15, h16⟩ := H
  exact mm_E.iload (mm_atc mc152 rfl) rfl <|
  mm_E.aload_n (mm_atc mc152 rfl) rfl <|
  mm_E.xlen (mm_atc mc152 rfl) hxl <|
  mm_E.iconst (mm_atc mc152 rfl) <|
  mm_E.isub (mm_atc mc152 rfl) <|
  mm_E.if2 (mm_atc mc152 rfl) h0 h1 (ic_gtF h2) rfl <|
  mm_E.aload_n (mm_atc mc152 rfl) rfl <|
  mm_E.iload (mm_atc mc152 rfl) rfl <|
  mm_E.xload (mm_atc mc152 rfl) h3 h0 hxz0 <|
  mm_E.bipush (mm_atc mc152 rfl) rfl <|
  mm_E.iand (mm_atc mc152 rfl) <|
  mm_E.tswK (off := 461) (mm_atc mc152 rfl) h4 (by decide) (by decide) (by decide) (by decide) rfl <|
  show mm_E _ _ 152 500 _ _ _ _ from
  mm_E.aload_n (mm_atc mc152 rfl) rfl <|
  mm_E.aload_n (mm_atc mc152 rfl) rfl <|
  mm_E.iload (mm_atc mc152 rfl) rfl <|
  mm_E.iconst (mm_atc mc152 rfl) <|
  mm_E.iadd (mm_atc mc152 rfl) <|
  mm_E.xload (mm_atc mc152 rfl) h5 h6 hxz1 <|
  mm_E.aload_n (mm_atc mc152 rfl) rfl <|
  mm_E.iload (mm_atc mc152 rfl) rfl <|
  mm_E.iconst (mm_atc mc152 rfl) <|
  mm_E.iadd (mm_atc mc152 rfl) <|
  mm_E.xload (mm_atc mc152 rfl) h7 h8 hxz2 <|
  mm_E.aload_n (mm_atc mc152 rfl) rfl <|
  mm_E.callS (mm_atc mc152 rfl) (mm_plc mp152 rfl) mx141 rfl rfl s0 (by omega) <|
  show mm_E _ _ 152 517 _ _ _ _ from
  mm_E.istore mx152 rfl (mm_atc mc152 rfl) <|
  show mm_E _ _ 152 519 [(5, mI z4), (0, .ref 0), (1, .ref 1), (2, .ref 77), (3, .ref 96), (4, mI x4)] _ _ _ from
  mm_E.aload_n (mm_atc mc152 rfl) rfl <|
  mm_E.aload_n (mm_atc mc152 rfl) rfl <|
  mm_E.iload (mm_atc mc152 rfl) rfl <|
  mm_E.iconst (mm_atc mc152 rfl) <|
  mm_E.iadd (mm_atc mc152 rfl) <|
  mm_E.xload (mm_atc mc152 rfl) h5 h6 hxz1 <|
  mm_E.aload_n (mm_atc mc152 rfl) rfl <|
  mm_E.iload (mm_atc mc152 rfl) rfl <|
  mm_E.iconst (mm_atc mc152 rfl) <|
  mm_E.iadd (mm_atc mc152 rfl) <|
  mm_E.xload (mm_atc mc152 rfl) h7 h8 hxz2 <|
  mm_E.callV0 (mm_atc mc152 rfl) (mm_plc mp152 rfl) rfl mk122 ly77 rfl mx122 rfl rfl s1 (by omega) <|
  show mm_E _ _ 152 535 _ _ _ _ from
  mm_E.istore mx152 rfl (mm_atc mc152 rfl) <|
  show mm_E _ _ 152 537 [(6, mI z6), (5, mI z4), (0, .ref 0), (1, .ref 1), (2, .ref 77), (3, .ref 96), (4, mI x4)] _ _ _ from
  mm_E.aload_n (mm_atc mc152 rfl) rfl <|
  mm_E.callV0 (mm_atc mc152 rfl) (mm_plc mp152 rfl) rfl mk111 ly77 rfl mx111 rfl rfl (p111_0_0 (d := d)) (by omega) <|
  show mm_E _ _ 152 541 _ _ _ _ from
  mm_E.iload (mm_atc mc152 rfl) rfl <|
  mm_E.if2 (mm_atc mc152 rfl) h9 h10 (ic_eqT h11) rfl <|
  mm_E.iload (mm_atc mc152 rfl) rfl <|
  mm_E.if1 (mm_atc mc152 rfl) h10 (ic_neF h12) rfl <|
  mm_E.aload_n (mm_atc mc152 rfl) rfl <|
  mm_E.iconst (mm_atc mc152 rfl) <|
  mm_E.laload (e := 0) (mm_atc mc152 rfl) ly96 rfl (by decide) (by decide) rfl (rfl) <|
  mm_E.iload (mm_atc mc152 rfl) rfl <|
  mm_E.i2l h13 (mm_atc mc152 rfl) <|
  mm_E.lif (mm_atc mc152 rfl) (mm_atc mc152 rfl) h14 h15 (ic_eqT h16) rfl <|
  mm_E.goto (mm_atc mc152 rfl) rfl <|
  mm_E.inc mx152 rfl (mm_atc mc152 rfl) rfl <|
  show mm_E _ _ 152 1271 [(4, mI (x4 + 4)), (6, mI z6), (5, mI z4), (0, .ref 0), (1, .ref 1), (2, .ref 77), (3, .ref 96)] _ _ _ from
  mm_E.goto (mm_atc mc152 rfl) rfl <|
  mm_E.to h ⟨rfl, rfl, rfl, rfl, rfl, trivial⟩
set_option maxRecDepth 100000 in
theorem q9_1 {d : Nat} {X : List Value} {A : MF} {o : Option Value ⊕ Nat} {M2 : MH} {a2 b2 : Nat} {x4 z0 z1 z2 z3 z5 z7 : Int} {A4 A6 : MF} {a1 b1 : Nat} (hxl : Nat.blt X.length 100000 = true) (hxz0 : X[Int.toNat x4]? = some (mI z0)) (hxz1 : X[Int.toNat (x4 + 1)]? = some (mI z1)) (hxz2 : X[Int.toNat (x4 + 2)]? = some (mI z2)) (hxz3 : X[Int.toNat (x4 + 3)]? = some (mI z3)) (s0 : mm_E 1 d 142 0 [(0, .ref 1), (1, mI z1), (2, mI z2), (3, mI 0), (4, .ref 96)] [] (mm_w X A) (.inl (some (mI z5)), mm_w X A4, a1, b1)) (s1 : mm_E 1 d 123 0 [(0, .ref 77), (1, mI z1), (2, mI z2), (3, mI 0)] [] (mm_w X A4) (.inl (some (mI z7)), mm_w X A6, 0, 0)) (H : R32 x4 ∧ R32 ((X.length : Int) - 4) ∧ x4 ≤ (X.length : Int) - 4 ∧ 0 ≤ x4 ∧ mm_and z0 31 = 9 ∧ 0 ≤ x4 + 1 ∧ R32 (x4 + 1) ∧ 0 ≤ x4 + 2 ∧ R32 (x4 + 2) ∧ 0 ≤ x4 + 3 ∧ R32 (x4 + 3) ∧ R32 z3 ∧ z3 = 0 ∧ R32 (A6 77 0) ∧ R32 z5 ∧ (A6 77 0) = z5 ∧ z5 ≠ 0) (h : mm_E 1 (d + 1) 152 23 [(0, .ref 0), (1, .ref 1), (2, .ref 77), (3, .ref 96), (4, mI (x4 + 4))] [] (mm_w X A6) (o, M2, a2, b2)) : mm_E 1 (d + 1) 152 23 [(0, .ref 0), (1, .ref 1), (2, .ref 77), (3, .ref 96), (4, mI x4)] [] (mm_w X A) (o, M2, a1 + a2, b1 + b2) := by
  obtain ⟨h0, h1, h2, h3, h4, h5, h6, h7, h8, h9, h10, h11, h12, h13, h14, h15, h16⟩ := H
  exact mm_E.iload (mm_atc mc152 rfl) rfl <|
  mm_E.aload_n (mm_atc mc152 rfl) rfl <|
  mm_E.xlen (mm_atc mc152 rfl) hxl <|
  mm_E.iconst (mm_atc mc152 rfl) <|
  mm_E.isub (mm_atc mc152 rfl) <|
  mm_E.if2 (mm_atc mc152 rfl) h0 h1 (ic_gtF h2) rfl <|
  mm_E.aload_n (mm_atc mc152 rfl) rfl <|
  mm_E.iload (mm_atc mc152 rfl) rfl <|
  mm_E.xload (mm_atc mc152 rfl) h3 h0 hxz0 <|
  mm_E.bipush (mm_atc mc152 rfl) rfl <|
  mm_E.iand (mm_atc mc152 rfl) <|
  mm_E.tswK (off := 529) (mm_atc mc152 rfl) h4 (by decide) (by decide) (by decide) (by decide) rfl <|
  show mm_E _ _ 152 568 _ _ _ _ from
  mm_E.aload_n (mm_atc mc152 rfl) rfl <|
  mm_E.aload_n (mm_atc mc152 rfl) rfl <|
  mm_E.iload (mm_atc mc152 rfl) rfl <|
  mm_E.iconst (mm_atc mc152 rfl) <|
  mm_E.iadd (mm_atc mc152 rfl) <|
  mm_E.xload (mm_atc mc152 rfl) h5 h6 hxz1 <|
  mm_E.aload_n (mm_atc mc152 rfl) rfl <|
  mm_E.iload (mm_atc mc152 rfl) rfl <|
  mm_E.iconst (mm_atc mc152 rfl) <|
  mm_E.iadd (mm_atc mc152 rfl) <|
  mm_E.xload (mm_atc mc152 rfl) h7 h8 hxz2 <|
  mm_E.aload_n (mm_atc mc152 rfl) rfl <|
  mm_E.iload (mm_atc mc152 rfl) rfl <|
  mm_E.iconst (mm_atc mc152 rfl) <|
  mm_E.iadd (mm_atc mc152 rfl) <|
  mm_E.xload (mm_atc mc152 rfl) h9 h10 hxz3 <|
  mm_E.if1 (mm_atc mc152 rfl) h11 (ic_eqT h12) rfl <|
  mm_E.iconst (mm_atc mc152 rfl) <|
  mm_E.aload_n (mm_atc mc152 rfl) rfl <|
  mm_E.callS (mm_atc mc152 rfl) (mm_plc mp152 rfl) mx142 rfl rfl s0 (by omega) <|
  show mm_E _ _ 152 599 _ _ _ _ from
  mm_E.istore mx152 rfl (mm_atc mc152 rfl) <|
  show mm_E _ _ 152 601 [(5, mI z5), (0, .ref 0), (1, .ref 1), (2, .ref 77), (3, .ref 96), (4, mI x4)] _ _ _ from
  mm_E.aload_n (mm_atc mc152 rfl) rfl <|
  mm_E.aload_n (mm_atc mc152 rfl) rfl <|
  mm_E.iload (mm_atc mc152 rfl) rfl <|
  mm_E.iconst (mm_atc mc152 rfl) <|
  mm_E.iadd (mm_atc mc152 rfl) <|
  mm_E.xload (mm_atc mc152 rfl) h5 h6 hxz1 <|
  mm_E.aload_n (mm_atc mc152 rfl) rfl <|
  mm_E.iload (mm_atc mc152 rfl) rfl <|
  mm_E.iconst (mm_atc mc152 rfl) <|
  mm_E.iadd (mm_atc mc152 rfl) <|
  mm_E.xload (mm_atc mc152 rfl) h7 h8 hxz2 <|
  mm_E.aload_n (mm_atc mc152 rfl) rfl <|
  mm_E.iload (mm_atc mc152 rfl) rfl <|
  mm_E.iconst (mm_atc mc152 rfl) <|
  mm_E.iadd (mm_atc mc152 rfl) <|
  mm_E.xload (mm_atc mc152 rfl) h9 h10 hxz3 <|
  mm_E.if1 (mm_atc mc152 rfl) h11 (ic_eqT h12) rfl <|
  mm_E.iconst (mm_atc mc152 rfl) <|
  mm_E.callV0 (mm_atc mc152 rfl) (mm_plc mp152 rfl) rfl mk123 ly77 rfl mx123 rfl rfl s1 (by omega) <|
  show mm_E _ _ 152 631 _ _ _ _ from
  mm_E.istore mx152 rfl (mm_atc mc152 rfl) <|
  show mm_E _ _ 152 633 [(6, mI z7), (5, mI z5), (0, .ref 0), (1, .ref 1), (2, .ref 77), (3, .ref 96), (4, mI x4)] _ _ _ from
  mm_E.aload_n (mm_atc mc152 rfl) rfl <|
  mm_E.callV0 (mm_atc mc152 rfl) (mm_plc mp152 rfl) rfl mk111 ly77 rfl mx111 rfl rfl (p111_0_0 (d := d)) (by omega) <|
  show mm_E _ _ 152 637 _ _ _ _ from
  mm_E.iload (mm_atc mc152 rfl) rfl <|
  mm_E.if2 (mm_atc mc152 rfl) h13 h14 (ic_eqT h15) rfl <|
  mm_E.iload (mm_atc mc152 rfl) rfl <|
  mm_E.if1 (mm_atc mc152 rfl) h14 (ic_neT h16) rfl <|
  mm_E.goto (mm_atc mc152 rfl) rfl <|
  mm_E.inc mx152 rfl (mm_atc mc152 rfl) rfl <|
  show mm_E _ _ 152 1271 [(4, mI (x4 + 4)), (6, mI z7), (5, mI z5), (0, .ref 0), (1, .ref 1), (2, .ref 77), (3, .ref 96)] _ _ _ from
  mm_E.goto (mm_atc mc152 rfl) rfl <|
  mm_E.to h ⟨rfl, rfl, rfl, rfl, rfl, trivial⟩
set_option maxRecDepth 100000 in
theorem q9_2 {d : Nat} {X : List Value} {A : MF} {o : Option Value ⊕ Nat} {M2 : MH} {a2 b2 : Nat} {x4 z0 z1 z2 z3 z5 z7 : Int} {A4 A6 : MF} {a1 b1 : Nat} (hxl : Nat.blt X.length 100000 = true) (hxz0 : X[Int.toNat x4]? = some (mI z0)) (hxz1 : X[Int.toNat (x4 + 1)]? = some (mI z1)) (hxz2 : X[Int.toNat (x4 + 2)]? = some (mI z2)) (hxz3 : X[Int.toNat (x4 + 3)]? = some (mI z3)) (s0 : mm_E 1 d 142 0 [(0, .ref 1), (1, mI z1), (2, mI z2), (3, mI 0), (4, .ref 96)] [] (mm_w X A) (.inl (some (mI z5)), mm_w X A4, a1, b1)) (s1 : mm_E 1 d 123 0 [(0, .ref 77), (1, mI z1), (2, mI z2), (3, mI 0)] [] (mm_w X A4) (.inl (some (mI z7)), mm_w X A6, 0, 0)) (H : R32 x4 ∧ R32 ((X.length : Int) - 4) ∧ x4 ≤ (X.length : Int) - 4 ∧ 0 ≤ x4 ∧ mm_and z0 31 = 9 ∧ 0 ≤ x4 + 1 ∧ R32 (x4 + 1) ∧ 0 ≤ x4 + 2 ∧ R32 (x4 + 2) ∧ 0 ≤ x4 + 3 ∧ R32 (x4 + 3) ∧ R32 z3 ∧ z3 = 0 ∧ R32 (A6 77 0) ∧ R32 z5 ∧ (A6 77 0) = z5 ∧ z5 = 0 ∧ R32 z7 ∧ R64 (A6 96 0) ∧ R64 z7 ∧ A6 96 0 = z7) (h : mm_E 1 (d + 1) 152 23 [(0, .ref 0), (1, .ref 1), (2, .ref 77), (3, .ref 96), (4, mI (x4 + 4))] [] (mm_w X A6) (o, M2, a2, b2)) : mm_E 1 (d + 1) 152 23 [(0, .ref 0), (1, .ref 1), (2, .ref 77), (3, .ref 96), (4, mI x4)] [] (mm_w X A) (o, M2, a1 + a2, b1 + b2) := by
  obtain ⟨h0, h1, h2, h3, h4, h5, h6, h7, h8, h9, h10, h11, h12, h13, h14, h15, h16, h17, h18, h19, h20⟩ := H
  exact mm_E.iload (mm_atc mc152 rfl) rfl <|
  mm_E.aload_n (mm_atc mc152 rfl) rfl <|
  mm_E.xlen (mm_atc mc152 rfl) hxl <|
  mm_E.iconst (mm_atc mc152 rfl) <|
  mm_E.isub (mm_atc mc152 rfl) <|
  mm_E.if2 (mm_atc mc152 rfl) h0 h1 (ic_gtF h2) rfl <|
  mm_E.aload_n (mm_atc mc152 rfl) rfl <|
  mm_E.iload (mm_atc mc152 rfl) rfl <|
  mm_E.xload (mm_atc mc152 rfl) h3 h0 hxz0 <|
  mm_E.bipush (mm_atc mc152 rfl) rfl <|
  mm_E.iand (mm_atc mc152 rfl) <|
  mm_E.tswK (off := 529) (mm_atc mc152 rfl) h4 (by decide) (by decide) (by decide) (by decide) rfl <|
  show mm_E _ _ 152 568 _ _ _ _ from
  mm_E.aload_n (mm_atc mc152 rfl) rfl <|
  mm_E.aload_n (mm_atc mc152 rfl) rfl <|
  mm_E.iload (mm_atc mc152 rfl) rfl <|
  mm_E.iconst (mm_atc mc152 rfl) <|
  mm_E.iadd (mm_atc mc152 rfl) <|
  mm_E.xload (mm_atc mc152 rfl) h5 h6 hxz1 <|
  mm_E.aload_n (mm_atc mc152 rfl) rfl <|
  mm_E.iload (mm_atc mc152 rfl) rfl <|
  mm_E.iconst (mm_atc mc152 rfl) <|
  mm_E.iadd (mm_atc mc152 rfl) <|
  mm_E.xload (mm_atc mc152 rfl) h7 h8 hxz2 <|
  mm_E.aload_n (mm_atc mc152 rfl) rfl <|
  mm_E.iload (mm_atc mc152 rfl) rfl <|
  mm_E.iconst (mm_atc mc152 rfl) <|
  mm_E.iadd (mm_atc mc152 rfl) <|
  mm_E.xload (mm_atc mc152 rfl) h9 h10 hxz3 <|
  mm_E.if1 (mm_atc mc152 rfl) h11 (ic_eqT h12) rfl <|
  mm_E.iconst (mm_atc mc152 rfl) <|
  mm_E.aload_n (mm_atc mc152 rfl) rfl <|
  mm_E.callS (mm_atc mc152 rfl) (mm_plc mp152 rfl) mx142 rfl rfl s0 (by omega) <|
  show mm_E _ _ 152 599 _ _ _ _ from
  mm_E.istore mx152 rfl (mm_atc mc152 rfl) <|
  show mm_E _ _ 152 601 [(5, mI z5), (0, .ref 0), (1, .ref 1), (2, .ref 77), (3, .ref 96), (4, mI x4)] _ _ _ from
  mm_E.aload_n (mm_atc mc152 rfl) rfl <|
  mm_E.aload_n (mm_atc mc152 rfl) rfl <|
  mm_E.iload (mm_atc mc152 rfl) rfl <|
  mm_E.iconst (mm_atc mc152 rfl) <|
  mm_E.iadd (mm_atc mc152 rfl) <|
  mm_E.xload (mm_atc mc152 rfl) h5 h6 hxz1 <|
  mm_E.aload_n (mm_atc mc152 rfl) rfl <|
  mm_E.iload (mm_atc mc152 rfl) rfl <|
  mm_E.iconst (mm_atc mc152 rfl) <|
  mm_E.iadd (mm_atc mc152 rfl) <|
  mm_E.xload (mm_atc mc152 rfl) h7 h8 hxz2 <|
  mm_E.aload_n (mm_atc mc152 rfl) rfl <|
  mm_E.iload (mm_atc mc152 rfl) rfl <|
  mm_E.iconst (mm_atc mc152 rfl) <|
  mm_E.iadd (mm_atc mc152 rfl) <|
  mm_E.xload (mm_atc mc152 rfl) h9 h10 hxz3 <|
  mm_E.if1 (mm_atc mc152 rfl) h11 (ic_eqT h12) rfl <|
  mm_E.iconst (mm_atc mc152 rfl) <|
  mm_E.callV0 (mm_atc mc152 rfl) (mm_plc mp152 rfl) rfl mk123 ly77 rfl mx123 rfl rfl s1 (by omega) <|
  show mm_E _ _ 152 631 _ _ _ _ from
  mm_E.istore mx152 rfl (mm_atc mc152 rfl) <|
  show mm_E _ _ 152 633 [(6, mI z7), (5, mI z5), (0, .ref 0), (1, .ref 1), (2, .ref 77), (3, .ref 96), (4, mI x4)] _ _ _ from
  mm_E.aload_n (mm_atc mc152 rfl) rfl <|
  mm_E.callV0 (mm_atc mc152 rfl) (mm_plc mp152 rfl) rfl mk111 ly77 rfl mx111 rfl rfl (p111_0_0 (d := d)) (by omega) <|
  show mm_E _ _ 152 637 _ _ _ _ from
  mm_E.iload (mm_atc mc152 rfl) rfl <|
  mm_E.if2 (mm_atc mc152 rfl) h13 h14 (ic_eqT h15) rfl <|
  mm_E.iload (mm_atc mc152 rfl) rfl <|
  mm_E.if1 (mm_atc mc152 rfl) h14 (ic_neF h16) rfl <|
  mm_E.aload_n (mm_atc mc152 rfl) rfl <|
  mm_E.iconst (mm_atc mc152 rfl) <|
  mm_E.laload (e := 0) (mm_atc mc152 rfl) ly96 rfl (by decide) (by decide) rfl (rfl) <|
  mm_E.iload (mm_atc mc152 rfl) rfl <|
  mm_E.i2l h17 (mm_atc mc152 rfl) <|
  mm_E.lif (mm_atc mc152 rfl) (mm_atc mc152 rfl) h18 h19 (ic_eqT h20) rfl <|
  mm_E.goto (mm_atc mc152 rfl) rfl <|
  mm_E.inc mx152 rfl (mm_atc mc152 rfl) rfl <|
  show mm_E _ _ 152 1271 [(4, mI (x4 + 4)), (6, mI z7), (5, mI z5), (0, .ref 0), (1, .ref 1), (2, .ref 77), (3, .ref 96)] _ _ _ from
  mm_E.goto (mm_atc mc152 rfl) rfl <|
  mm_E.to h ⟨rfl, rfl, rfl, rfl, rfl, trivial⟩
set_option maxRecDepth 100000 in
theorem q9_3 {d : Nat} {X : List Value} {A : MF} {o : Option Value ⊕ Nat} {M2 : MH} {a2 b2 : Nat} {x4 z0 z1 z2 z3 z5 z7 : Int} {A4 A6 : MF} {a1 b1 : Nat} (hxl : Nat.blt X.length 100000 = true) (hxz0 : X[Int.toNat x4]? = some (mI z0)) (hxz1 : X[Int.toNat (x4 + 1)]? = some (mI z1)) (hxz2 : X[Int.toNat (x4 + 2)]? = some (mI z2)) (hxz3 : X[Int.toNat (x4 + 3)]? = some (mI z3)) (s0 : mm_E 1 d 142 0 [(0, .ref 1), (1, mI z1), (2, mI z2), (3, mI 1), (4, .ref 96)] [] (mm_w X A) (.inl (some (mI z5)), mm_w X A4, a1, b1)) (s1 : mm_E 1 d 123 0 [(0, .ref 77), (1, mI z1), (2, mI z2), (3, mI 1)] [] (mm_w X A4) (.inl (some (mI z7)), mm_w X A6, 0, 0)) (H : R32 x4 ∧ R32 ((X.length : Int) - 4) ∧ x4 ≤ (X.length : Int) - 4 ∧ 0 ≤ x4 ∧ mm_and z0 31 = 9 ∧ 0 ≤ x4 + 1 ∧ R32 (x4 + 1) ∧ 0 ≤ x4 + 2 ∧ R32 (x4 + 2) ∧ 0 ≤ x4 + 3 ∧ R32 (x4 + 3) ∧ R32 z3 ∧ z3 ≠ 0 ∧ R32 (A6 77 0) ∧ R32 z5 ∧ (A6 77 0) = z5 ∧ z5 ≠ 0) (h : mm_E 1 (d + 1) 152 23 [(0, .ref 0), (1, .ref 1), (2, .ref 77), (3, .ref 96), (4, mI (x4 + 4))] [] (mm_w X A6) (o, M2, a2, b2)) : mm_E 1 (d + 1) 152 23 [(0, .ref 0), (1, .ref 1), (2, .ref 77), (3, .ref 96), (4, mI x4)] [] (mm_w X A) (o, M2, a1 + a2, b1 + b2) := by
  obtain ⟨h0, h1, h2, h3, h4, h5, h6, h7, h8, h9, h10, h11, h12, h13, h14, h15, h16⟩ := H
  exact mm_E.iload (mm_atc mc152 rfl) rfl <|
  mm_E.aload_n (mm_atc mc152 rfl) rfl <|
  mm_E.xlen (mm_atc mc152 rfl) hxl <|
  mm_E.iconst (mm_atc mc152 rfl) <|
  mm_E.isub (mm_atc mc152 rfl) <|
  mm_E.if2 (mm_atc mc152 rfl) h0 h1 (ic_gtF h2) rfl <|
  mm_E.aload_n (mm_atc mc152 rfl) rfl <|
  mm_E.iload (mm_atc mc152 rfl) rfl <|
  mm_E.xload (mm_atc mc152 rfl) h3 h0 hxz0 <|
  mm_E.bipush (mm_atc mc152 rfl) rfl <|
  mm_E.iand (mm_atc mc152 rfl) <|
  mm_E.tswK (off := 529) (mm_atc mc152 rfl) h4 (by decide) (by decide) (by decide) (by decide) rfl <|
  show mm_E _ _ 152 568 _ _ _ _ from
  mm_E.aload_n (mm_atc mc152 rfl) rfl <|
  mm_E.aload_n (mm_atc mc152 rfl) rfl <|
  mm_E.iload (mm_atc mc152 rfl) rfl <|
  mm_E.iconst (mm_atc mc152 rfl) <|
  mm_E.iadd (mm_atc mc152 rfl) <|
  mm_E.xload (mm_atc mc152 rfl) h5 h6 hxz1 <|
  mm_E.aload_n (mm_atc mc152 rfl) rfl <|
  mm_E.iload (mm_atc mc152 rfl) rfl <|
  mm_E.iconst (mm_atc mc152 rfl) <|
  mm_E.iadd (mm_atc mc152 rfl) <|
  mm_E.xload (mm_atc mc152 rfl) h7 h8 hxz2 <|
  mm_E.aload_n (mm_atc mc152 rfl) rfl <|
  mm_E.iload (mm_atc mc152 rfl) rfl <|
  mm_E.iconst (mm_atc mc152 rfl) <|
  mm_E.iadd (mm_atc mc152 rfl) <|
  mm_E.xload (mm_atc mc152 rfl) h9 h10 hxz3 <|
  mm_E.if1 (mm_atc mc152 rfl) h11 (ic_eqF h12) rfl <|
  mm_E.iconst (mm_atc mc152 rfl) <|
  mm_E.goto (mm_atc mc152 rfl) rfl <|
  mm_E.aload_n (mm_atc mc152 rfl) rfl <|
  mm_E.callS (mm_atc mc152 rfl) (mm_plc mp152 rfl) mx142 rfl rfl s0 (by omega) <|
  show mm_E _ _ 152 599 _ _ _ _ from
  mm_E.istore mx152 rfl (mm_atc mc152 rfl) <|
  show mm_E _ _ 152 601 [(5, mI z5), (0, .ref 0), (1, .ref 1), (2, .ref 77), (3, .ref 96), (4, mI x4)] _ _ _ from
  mm_E.aload_n (mm_atc mc152 rfl) rfl <|
  mm_E.aload_n (mm_atc mc152 rfl) rfl <|
  mm_E.iload (mm_atc mc152 rfl) rfl <|
  mm_E.iconst (mm_atc mc152 rfl) <|
  mm_E.iadd (mm_atc mc152 rfl) <|
  mm_E.xload (mm_atc mc152 rfl) h5 h6 hxz1 <|
  mm_E.aload_n (mm_atc mc152 rfl) rfl <|
  mm_E.iload (mm_atc mc152 rfl) rfl <|
  mm_E.iconst (mm_atc mc152 rfl) <|
  mm_E.iadd (mm_atc mc152 rfl) <|
  mm_E.xload (mm_atc mc152 rfl) h7 h8 hxz2 <|
  mm_E.aload_n (mm_atc mc152 rfl) rfl <|
  mm_E.iload (mm_atc mc152 rfl) rfl <|
  mm_E.iconst (mm_atc mc152 rfl) <|
  mm_E.iadd (mm_atc mc152 rfl) <|
  mm_E.xload (mm_atc mc152 rfl) h9 h10 hxz3 <|
  mm_E.if1 (mm_atc mc152 rfl) h11 (ic_eqF h12) rfl <|
  mm_E.iconst (mm_atc mc152 rfl) <|
  mm_E.goto (mm_atc mc152 rfl) rfl <|
  mm_E.callV0 (mm_atc mc152 rfl) (mm_plc mp152 rfl) rfl mk123 ly77 rfl mx123 rfl rfl s1 (by omega) <|
  show mm_E _ _ 152 631 _ _ _ _ from
  mm_E.istore mx152 rfl (mm_atc mc152 rfl) <|
  show mm_E _ _ 152 633 [(6, mI z7), (5, mI z5), (0, .ref 0), (1, .ref 1), (2, .ref 77), (3, .ref 96), (4, mI x4)] _ _ _ from
  mm_E.aload_n (mm_atc mc152 rfl) rfl <|
  mm_E.callV0 (mm_atc mc152 rfl) (mm_plc mp152 rfl) rfl mk111 ly77 rfl mx111 rfl rfl (p111_0_0 (d := d)) (by omega) <|
  show mm_E _ _ 152 637 _ _ _ _ from
  mm_E.iload (mm_atc mc152 rfl) rfl <|
  mm_E.if2 (mm_atc mc152 rfl) h13 h14 (ic_eqT h15) rfl <|
  mm_E.iload (mm_atc mc152 rfl) rfl <|
  mm_E.if1 (mm_atc mc152 rfl) h14 (ic_neT h16) rfl <|
  mm_E.goto (mm_atc mc152 rfl) rfl <|
  mm_E.inc mx152 rfl (mm_atc mc152 rfl) rfl <|
  show mm_E _ _ 152 1271 [(4, mI (x4 + 4)), (6, mI z7), (5, mI z5), (0, .ref 0), (1, .ref 1), (2, .ref 77), (3, .ref 96)] _ _ _ from
  mm_E.goto (mm_atc mc152 rfl) rfl <|
  mm_E.to h ⟨rfl, rfl, rfl, rfl, rfl, trivial⟩
set_option maxRecDepth 100000 in
theorem q9_4 {d : Nat} {X : List Value} {A : MF} {o : Option Value ⊕ Nat} {M2 : MH} {a2 b2 : Nat} {x4 z0 z1 z2 z3 z5 z7 : Int} {A4 A6 : MF} {a1 b1 : Nat} (hxl : Nat.blt X.length 100000 = true) (hxz0 : X[Int.toNat x4]? = some (mI z0)) (hxz1 : X[Int.toNat (x4 + 1)]? = some (mI z1)) (hxz2 : X[Int.toNat (x4 + 2)]? = some (mI z2)) (hxz3 : X[Int.toNat (x4 + 3)]? = some (mI z3)) (s0 : mm_E 1 d 142 0 [(0, .ref 1), (1, mI z1), (2, mI z2), (3, mI 1), (4, .ref 96)] [] (mm_w X A) (.inl (some (mI z5)), mm_w X A4, a1, b1)) (s1 : mm_E 1 d 123 0 [(0, .ref 77), (1, mI z1), (2, mI z2), (3, mI 1)] [] (mm_w X A4) (.inl (some (mI z7)), mm_w X A6, 0, 0)) (H : R32 x4 ∧ R32 ((X.length : Int) - 4) ∧ x4 ≤ (X.length : Int) - 4 ∧ 0 ≤ x4 ∧ mm_and z0 31 = 9 ∧ 0 ≤ x4 + 1 ∧ R32 (x4 + 1) ∧ 0 ≤ x4 + 2 ∧ R32 (x4 + 2) ∧ 0 ≤ x4 + 3 ∧ R32 (x4 + 3) ∧ R32 z3 ∧ z3 ≠ 0 ∧ R32 (A6 77 0) ∧ R32 z5 ∧ (A6 77 0) = z5 ∧ z5 = 0 ∧ R32 z7 ∧ R64 (A6 96 0) ∧ R64 z7 ∧ A6 96 0 = z7) (h : mm_E 1 (d + 1) 152 23 [(0, .ref 0), (1, .ref 1), (2, .ref 77), (3, .ref 96), (4, mI (x4 + 4))] [] (mm_w X A6) (o, M2, a2, b2)) : mm_E 1 (d + 1) 152 23 [(0, .ref 0), (1, .ref 1), (2, .ref 77), (3, .ref 96), (4, mI x4)] [] (mm_w X A) (o, M2, a1 + a2, b1 + b2) := by
  obtain ⟨h0, h1, h2, h3, h4, h5, h6, h7, h8, h9, h10, h11, h12, h13, h14, h15, h16, h17, h18, h19, h20⟩ := H
  exact mm_E.iload (mm_atc mc152 rfl) rfl <|
  mm_E.aload_n (mm_atc mc152 rfl) rfl <|
  mm_E.xlen (mm_atc mc152 rfl) hxl <|
  mm_E.iconst (mm_atc mc152 rfl) <|
  mm_E.isub (mm_atc mc152 rfl) <|
  mm_E.if2 (mm_atc mc152 rfl) h0 h1 (ic_gtF h2) rfl <|
  mm_E.aload_n (mm_atc mc152 rfl) rfl <|
  mm_E.iload (mm_atc mc152 rfl) rfl <|
  mm_E.xload (mm_atc mc152 rfl) h3 h0 hxz0 <|
  mm_E.bipush (mm_atc mc152 rfl) rfl <|
  mm_E.iand (mm_atc mc152 rfl) <|
  mm_E.tswK (off := 529) (mm_atc mc152 rfl) h4 (by decide) (by decide) (by decide) (by decide) rfl <|
  show mm_E _ _ 152 568 _ _ _ _ from
  mm_E.aload_n (mm_atc mc152 rfl) rfl <|
  mm_E.aload_n (mm_atc mc152 rfl) rfl <|
  mm_E.iload (mm_atc mc152 rfl) rfl <|
  mm_E.iconst (mm_atc mc152 rfl) <|
  mm_E.iadd (mm_atc mc152 rfl) <|
  mm_E.xload (mm_atc mc152 rfl) h5 h6 hxz1 <|
  mm_E.aload_n (mm_atc mc152 rfl) rfl <|
  mm_E.iload (mm_atc mc152 rfl) rfl <|
  mm_E.iconst (mm_atc mc152 rfl) <|
  mm_E.iadd (mm_atc mc152 rfl) <|
  mm_E.xload (mm_atc mc152 rfl) h7 h8 hxz2 <|
  mm_E.aload_n (mm_atc mc152 rfl) rfl <|
  mm_E.iload (mm_atc mc152 rfl) rfl <|
  mm_E.iconst (mm_atc mc152 rfl) <|
  mm_E.iadd (mm_atc mc152 rfl) <|
  mm_E.xload (mm_atc mc152 rfl) h9 h10 hxz3 <|
  mm_E.if1 (mm_atc mc152 rfl) h11 (ic_eqF h12) rfl <|
  mm_E.iconst (mm_atc mc152 rfl) <|
  mm_E.goto (mm_atc mc152 rfl) rfl <|
  mm_E.aload_n (mm_atc mc152 rfl) rfl <|
  mm_E.callS (mm_atc mc152 rfl) (mm_plc mp152 rfl) mx142 rfl rfl s0 (by omega) <|
  show mm_E _ _ 152 599 _ _ _ _ from
  mm_E.istore mx152 rfl (mm_atc mc152 rfl) <|
  show mm_E _ _ 152 601 [(5, mI z5), (0, .ref 0), (1, .ref 1), (2, .ref 77), (3, .ref 96), (4, mI x4)] _ _ _ from
  mm_E.aload_n (mm_atc mc152 rfl) rfl <|
  mm_E.aload_n (mm_atc mc152 rfl) rfl <|
  mm_E.iload (mm_atc mc152 rfl) rfl <|
  mm_E.iconst (mm_atc mc152 rfl) <|
  mm_E.iadd (mm_atc mc152 rfl) <|
  mm_E.xload (mm_atc mc152 rfl) h5 h6 hxz1 <|
  mm_E.aload_n (mm_atc mc152 rfl) rfl <|
  mm_E.iload (mm_atc mc152 rfl) rfl <|
  mm_E.iconst (mm_atc mc152 rfl) <|
  mm_E.iadd (mm_atc mc152 rfl) <|
  mm_E.xload (mm_atc mc152 rfl) h7 h8 hxz2 <|
  mm_E.aload_n (mm_atc mc152 rfl) rfl <|
  mm_E.iload (mm_atc mc152 rfl) rfl <|
  mm_E.iconst (mm_atc mc152 rfl) <|
  mm_E.iadd (mm_atc mc152 rfl) <|
  mm_E.xload (mm_atc mc152 rfl) h9 h10 hxz3 <|
  mm_E.if1 (mm_atc mc152 rfl) h11 (ic_eqF h12) rfl <|
  mm_E.iconst (mm_atc mc152 rfl) <|
  mm_E.goto (mm_atc mc152 rfl) rfl <|
  mm_E.callV0 (mm_atc mc152 rfl) (mm_plc mp152 rfl) rfl mk123 ly77 rfl mx123 rfl rfl s1 (by omega) <|
  show mm_E _ _ 152 631 _ _ _ _ from
  mm_E.istore mx152 rfl (mm_atc mc152 rfl) <|
  show mm_E _ _ 152 633 [(6, mI z7), (5, mI z5), (0, .ref 0), (1, .ref 1), (2, .ref 77), (3, .ref 96), (4, mI x4)] _ _ _ from
  mm_E.aload_n (mm_atc mc152 rfl) rfl <|
  mm_E.callV0 (mm_atc mc152 rfl) (mm_plc mp152 rfl) rfl mk111 ly77 rfl mx111 rfl rfl (p111_0_0 (d := d)) (by omega) <|
  show mm_E _ _ 152 637 _ _ _ _ from
  mm_E.iload (mm_atc mc152 rfl) rfl <|
  mm_E.if2 (mm_atc mc152 rfl) h13 h14 (ic_eqT h15) rfl <|
  mm_E.iload (mm_atc mc152 rfl) rfl <|
  mm_E.if1 (mm_atc mc152 rfl) h14 (ic_neF h16) rfl <|
  mm_E.aload_n (mm_atc mc152 rfl) rfl <|
  mm_E.iconst (mm_atc mc152 rfl) <|
  mm_E.laload (e := 0) (mm_atc mc152 rfl) ly96 rfl (by decide) (by decide) rfl (rfl) <|
  mm_E.iload (mm_atc mc152 rfl) rfl <|
  mm_E.i2l h17 (mm_atc mc152 rfl) <|
  mm_E.lif (mm_atc mc152 rfl) (mm_atc mc152 rfl) h18 h19 (ic_eqT h20) rfl <|
  mm_E.goto (mm_atc mc152 rfl) rfl <|
  mm_E.inc mx152 rfl (mm_atc mc152 rfl) rfl <|
  show mm_E _ _ 152 1271 [(4, mI (x4 + 4)), (6, mI z7), (5, mI z5), (0, .ref 0), (1, .ref 1), (2, .ref 77), (3, .ref 96)] _ _ _ from
  mm_E.goto (mm_atc mc152 rfl) rfl <|
  mm_E.to h ⟨rfl, rfl, rfl, rfl, rfl, trivial⟩
set_option maxRecDepth 100000 in
theorem q10_1 {d : Nat} {X : List Value} {A : MF} {o : Option Value ⊕ Nat} {M2 : MH} {a2 b2 : Nat} {x4 z0 z1 z3 z5 : Int} {A2 A4 : MF} {a1 b1 : Nat} (hxl : Nat.blt X.length 100000 = true) (hxz0 : X[Int.toNat x4]? = some (mI z0)) (hxz1 : X[Int.toNat (x4 + 1)]? = some (mI z1)) (s0 : mm_E 1 d 143 0 [(0, .ref 1), (1, mI z1), (2, .ref 96)] [] (mm_w X A) (.inl (some (mI z3)), mm_w X A2, a1, b1)) (s1 : mm_E 1 d 124 0 [(0, .ref 77), (1, mI z1)] [] (mm_w X A2) (.inl (some (mI z5)), mm_w X A4, 0, 0)) (H : R32 x4 ∧ R32 ((X.length : Int) - 4) ∧ x4 ≤ (X.length : Int) - 4 ∧ 0 ≤ x4 ∧ mm_and z0 31 = 10 ∧ 0 ≤ x4 + 1 ∧ R32 (x4 + 1) ∧ R32 (A4 77 0) ∧ R32 z3 ∧ (A4 77 0) = z3 ∧ z3 ≠ 0) (h : mm_E 1 (d + 1) 152 23 [(0, .ref 0), (1, .ref 1), (2, .ref 77), (3, .ref 96), (4, mI (x4 + 4))] [] (mm_w X A4) (o, M2, a2, b2)) : mm_E 1 (d + 1) 152 23 [(0, .ref 0), (1, .ref 1), (2, .ref 77), (3, .ref 96), (4, mI x4)] [] (mm_w X A) (o, M2, a1 + a2, b1 + b2) := by
  obtain ⟨h0, h1, h2, h3, h4, h5, h6, h7, h8, h9, h10⟩ := H
  exact mm_E.iload (mm_atc mc152 rfl) rfl <|
  mm_E.aload_n (mm_atc mc152 rfl) rfl <|
  mm_E.xlen (mm_atc mc152 rfl) hxl <|
  mm_E.iconst (mm_atc mc152 rfl) <|
  mm_E.isub (mm_atc mc152 rfl) <|
  mm_E.if2 (mm_atc mc152 rfl) h0 h1 (ic_gtF h2) rfl <|
  mm_E.aload_n (mm_atc mc152 rfl) rfl <|
  mm_E.iload (mm_atc mc152 rfl) rfl <|
  mm_E.xload (mm_atc mc152 rfl) h3 h0 hxz0 <|
  mm_E.bipush (mm_atc mc152 rfl) rfl <|
  mm_E.iand (mm_atc mc152 rfl) <|
  mm_E.tswK (off := 625) (mm_atc mc152 rfl) h4 (by decide) (by decide) (by decide) (by decide) rfl <|
  show mm_E _ _ 152 664 _ _ _ _ from
  mm_E.aload_n (mm_atc mc152 rfl) rfl <|
  mm_E.aload_n (mm_atc mc152 rfl) rfl <|
  mm_E.iload (mm_atc mc152 rfl) rfl <|
  mm_E.iconst (mm_atc mc152 rfl) <|
  mm_E.iadd (mm_atc mc152 rfl) <|
  mm_E.xload (mm_atc mc152 rfl) h5 h6 hxz1 <|
  mm_E.aload_n (mm_atc mc152 rfl) rfl <|
  mm_E.callS (mm_atc mc152 rfl) (mm_plc mp152 rfl) mx143 rfl rfl s0 (by omega) <|
  show mm_E _ _ 152 675 _ _ _ _ from
  mm_E.istore mx152 rfl (mm_atc mc152 rfl) <|
  show mm_E _ _ 152 677 [(5, mI z3), (0, .ref 0), (1, .ref 1), (2, .ref 77), (3, .ref 96), (4, mI x4)] _ _ _ from
  mm_E.aload_n (mm_atc mc152 rfl) rfl <|
  mm_E.aload_n (mm_atc mc152 rfl) rfl <|
  mm_E.iload (mm_atc mc152 rfl) rfl <|
  mm_E.iconst (mm_atc mc152 rfl) <|
  mm_E.iadd (mm_atc mc152 rfl) <|
  mm_E.xload (mm_atc mc152 rfl) h5 h6 hxz1 <|
  mm_E.callV0 (mm_atc mc152 rfl) (mm_plc mp152 rfl) rfl mk124 ly77 rfl mx124 rfl rfl s1 (by omega) <|
  show mm_E _ _ 152 687 _ _ _ _ from
  mm_E.istore mx152 rfl (mm_atc mc152 rfl) <|
  show mm_E _ _ 152 689 [(6, mI z5), (5, mI z3), (0, .ref 0), (1, .ref 1), (2, .ref 77), (3, .ref 96), (4, mI x4)] _ _ _ from
  mm_E.aload_n (mm_atc mc152 rfl) rfl <|
  mm_E.callV0 (mm_atc mc152 rfl) (mm_plc mp152 rfl) rfl mk111 ly77 rfl mx111 rfl rfl (p111_0_0 (d := d)) (by omega) <|
  show mm_E _ _ 152 693 _ _ _ _ from
  mm_E.iload (mm_atc mc152 rfl) rfl <|
  mm_E.if2 (mm_atc mc152 rfl) h7 h8 (ic_eqT h9) rfl <|
  mm_E.iload (mm_atc mc152 rfl) rfl <|
  mm_E.if1 (mm_atc mc152 rfl) h8 (ic_neT h10) rfl <|
  mm_E.goto (mm_atc mc152 rfl) rfl <|
  mm_E.inc mx152 rfl (mm_atc mc152 rfl) rfl <|
  show mm_E _ _ 152 1271 [(4, mI (x4 + 4)), (6, mI z5), (5, mI z3), (0, .ref 0), (1, .ref 1), (2, .ref 77), (3, .ref 96)] _ _ _ from
  mm_E.goto (mm_atc mc152 rfl) rfl <|
  mm_E.to h ⟨rfl, rfl, rfl, rfl, rfl, trivial⟩
set_option maxRecDepth 100000 in
theorem q10_2 {d : Nat} {X : List Value} {A : MF} {o : Option Value ⊕ Nat} {M2 : MH} {a2 b2 : Nat} {x4 z0 z1 z3 z5 : Int} {A2 A4 : MF} {a1 b1 : Nat} (hxl : Nat.blt X.length 100000 = true) (hxz0 : X[Int.toNat x4]? = some (mI z0)) (hxz1 : X[Int.toNat (x4 + 1)]? = some (mI z1)) (s0 : mm_E 1 d 143 0 [(0, .ref 1), (1, mI z1), (2, .ref 96)] [] (mm_w X A) (.inl (some (mI z3)), mm_w X A2, a1, b1)) (s1 : mm_E 1 d 124 0 [(0, .ref 77), (1, mI z1)] [] (mm_w X A2) (.inl (some (mI z5)), mm_w X A4, 0, 0)) (H : R32 x4 ∧ R32 ((X.length : Int) - 4) ∧ x4 ≤ (X.length : Int) - 4 ∧ 0 ≤ x4 ∧ mm_and z0 31 = 10 ∧ 0 ≤ x4 + 1 ∧ R32 (x4 + 1) ∧ R32 (A4 77 0) ∧ R32 z3 ∧ (A4 77 0) = z3 ∧ z3 = 0 ∧ R32 z5 ∧ R64 (A4 96 0) ∧ R64 z5 ∧ A4 96 0 = z5) (h : mm_E 1 (d + 1) 152 23 [(0, .ref 0), (1, .ref 1), (2, .ref 77), (3, .ref 96), (4, mI (x4 + 4))] [] (mm_w X A4) (o, M2, a2, b2)) : mm_E 1 (d + 1) 152 23 [(0, .ref 0), (1, .ref 1), (2, .ref 77), (3, .ref 96), (4, mI x4)] [] (mm_w X A) (o, M2, a1 + a2, b1 + b2) := by
  obtain ⟨h0, h1, h2, h3, h4, h5, h6, h7, h8, h9, h10, h11, h12, h13, h14⟩ := H
  exact mm_E.iload (mm_atc mc152 rfl) rfl <|
  mm_E.aload_n (mm_atc mc152 rfl) rfl <|
  mm_E.xlen (mm_atc mc152 rfl) hxl <|
  mm_E.iconst (mm_atc mc152 rfl) <|
  mm_E.isub (mm_atc mc152 rfl) <|
  mm_E.if2 (mm_atc mc152 rfl) h0 h1 (ic_gtF h2) rfl <|
  mm_E.aload_n (mm_atc mc152 rfl) rfl <|
  mm_E.iload (mm_atc mc152 rfl) rfl <|
  mm_E.xload (mm_atc mc152 rfl) h3 h0 hxz0 <|
  mm_E.bipush (mm_atc mc152 rfl) rfl <|
  mm_E.iand (mm_atc mc152 rfl) <|
  mm_E.tswK (off := 625) (mm_atc mc152 rfl) h4 (by decide) (by decide) (by decide) (by decide) rfl <|
  show mm_E _ _ 152 664 _ _ _ _ from
  mm_E.aload_n (mm_atc mc152 rfl) rfl <|
  mm_E.aload_n (mm_atc mc152 rfl) rfl <|
  mm_E.iload (mm_atc mc152 rfl) rfl <|
  mm_E.iconst (mm_atc mc152 rfl) <|
  mm_E.iadd (mm_atc mc152 rfl) <|
  mm_E.xload (mm_atc mc152 rfl) h5 h6 hxz1 <|
  mm_E.aload_n (mm_atc mc152 rfl) rfl <|
  mm_E.callS (mm_atc mc152 rfl) (mm_plc mp152 rfl) mx143 rfl rfl s0 (by omega) <|
  show mm_E _ _ 152 675 _ _ _ _ from
  mm_E.istore mx152 rfl (mm_atc mc152 rfl) <|
  show mm_E _ _ 152 677 [(5, mI z3), (0, .ref 0), (1, .ref 1), (2, .ref 77), (3, .ref 96), (4, mI x4)] _ _ _ from
  mm_E.aload_n (mm_atc mc152 rfl) rfl <|
  mm_E.aload_n (mm_atc mc152 rfl) rfl <|
  mm_E.iload (mm_atc mc152 rfl) rfl <|
  mm_E.iconst (mm_atc mc152 rfl) <|
  mm_E.iadd (mm_atc mc152 rfl) <|
  mm_E.xload (mm_atc mc152 rfl) h5 h6 hxz1 <|
  mm_E.callV0 (mm_atc mc152 rfl) (mm_plc mp152 rfl) rfl mk124 ly77 rfl mx124 rfl rfl s1 (by omega) <|
  show mm_E _ _ 152 687 _ _ _ _ from
  mm_E.istore mx152 rfl (mm_atc mc152 rfl) <|
  show mm_E _ _ 152 689 [(6, mI z5), (5, mI z3), (0, .ref 0), (1, .ref 1), (2, .ref 77), (3, .ref 96), (4, mI x4)] _ _ _ from
  mm_E.aload_n (mm_atc mc152 rfl) rfl <|
  mm_E.callV0 (mm_atc mc152 rfl) (mm_plc mp152 rfl) rfl mk111 ly77 rfl mx111 rfl rfl (p111_0_0 (d := d)) (by omega) <|
  show mm_E _ _ 152 693 _ _ _ _ from
  mm_E.iload (mm_atc mc152 rfl) rfl <|
  mm_E.if2 (mm_atc mc152 rfl) h7 h8 (ic_eqT h9) rfl <|
  mm_E.iload (mm_atc mc152 rfl) rfl <|
  mm_E.if1 (mm_atc mc152 rfl) h8 (ic_neF h10) rfl <|
  mm_E.aload_n (mm_atc mc152 rfl) rfl <|
  mm_E.iconst (mm_atc mc152 rfl) <|
  mm_E.laload (e := 0) (mm_atc mc152 rfl) ly96 rfl (by decide) (by decide) rfl (rfl) <|
  mm_E.iload (mm_atc mc152 rfl) rfl <|
  mm_E.i2l h11 (mm_atc mc152 rfl) <|
  mm_E.lif (mm_atc mc152 rfl) (mm_atc mc152 rfl) h12 h13 (ic_eqT h14) rfl <|
  mm_E.goto (mm_atc mc152 rfl) rfl <|
  mm_E.inc mx152 rfl (mm_atc mc152 rfl) rfl <|
  show mm_E _ _ 152 1271 [(4, mI (x4 + 4)), (6, mI z5), (5, mI z3), (0, .ref 0), (1, .ref 1), (2, .ref 77), (3, .ref 96)] _ _ _ from
  mm_E.goto (mm_atc mc152 rfl) rfl <|
  mm_E.to h ⟨rfl, rfl, rfl, rfl, rfl, trivial⟩
set_option maxRecDepth 100000 in
theorem q11_1 {d : Nat} {X : List Value} {A : MF} {o : Option Value ⊕ Nat} {M2 : MH} {a2 b2 : Nat} {x4 z0 z1 z2 z3 z5 z7 : Int} {A4 A6 : MF} {a1 b1 : Nat} (hxl : Nat.blt X.length 100000 = true) (hxz0 : X[Int.toNat x4]? = some (mI z0)) (hxz1 : X[Int.toNat (x4 + 1)]? = some (mI z1)) (hxz2 : X[Int.toNat (x4 + 2)]? = some (mI z2)) (hxz3 : X[Int.toNat (x4 + 3)]? = some (mI z3)) (s0 : mm_E 1 d 144 0 [(0, .ref 1), (1, mI z1), (2, mI z2), (3, mI z3), (4, .ref 96)] [] (mm_w X A) (.inl (some (mI z5)), mm_w X A4, a1, b1)) (s1 : mm_E 1 d 125 0 [(0, .ref 77), (1, mI z1), (2, mI z2), (3, mI z3)] [] (mm_w X A4) (.inl (some (mI z7)), mm_w X A6, 0, 0)) (H : R32 x4 ∧ R32 ((X.length : Int) - 4) ∧ x4 ≤ (X.length : Int) - 4 ∧ 0 ≤ x4 ∧ mm_and z0 31 = 11 ∧ 0 ≤ x4 + 1 ∧ R32 (x4 + 1) ∧ 0 ≤ x4 + 2 ∧ R32 (x4 + 2) ∧ 0 ≤ x4 + 3 ∧ R32 (x4 + 3) ∧ R32 (A6 77 0) ∧ R32 z5 ∧ (A6 77 0) = z5 ∧ z5 ≠ 0) (h : mm_E 1 (d + 1) 152 23 [(0, .ref 0), (1, .ref 1), (2, .ref 77), (3, .ref 96), (4, mI (x4 + 4))] [] (mm_w X A6) (o, M2, a2, b2)) : mm_E 1 (d + 1) 152 23 [(0, .ref 0), (1, .ref 1), (2, .ref 77), (3, .ref 96), (4, mI x4)] [] (mm_w X A) (o, M2, a1 + a2, b1 + b2) := by
  obtain ⟨h0, h1, h2, h3, h4, h5, h6, h7, h8, h9, h10, h11, h12, h13, h14⟩ := H
  exact mm_E.iload (mm_atc mc152 rfl) rfl <|
  mm_E.aload_n (mm_atc mc152 rfl) rfl <|
  mm_E.xlen (mm_atc mc152 rfl) hxl <|
  mm_E.iconst (mm_atc mc152 rfl) <|
  mm_E.isub (mm_atc mc152 rfl) <|
  mm_E.if2 (mm_atc mc152 rfl) h0 h1 (ic_gtF h2) rfl <|
  mm_E.aload_n (mm_atc mc152 rfl) rfl <|
  mm_E.iload (mm_atc mc152 rfl) rfl <|
  mm_E.xload (mm_atc mc152 rfl) h3 h0 hxz0 <|
  mm_E.bipush (mm_atc mc152 rfl) rfl <|
  mm_E.iand (mm_atc mc152 rfl) <|
  mm_E.tswK (off := 681) (mm_atc mc152 rfl) h4 (by decide) (by decide) (by decide) (by decide) rfl <|
  show mm_E _ _ 152 720 _ _ _ _ from
  mm_E.aload_n (mm_atc mc152 rfl) rfl <|
  mm_E.aload_n (mm_atc mc152 rfl) rfl <|
  mm_E.iload (mm_atc mc152 rfl) rfl <|
  mm_E.iconst (mm_atc mc152 rfl) <|
  mm_E.iadd (mm_atc mc152 rfl) <|
  mm_E.xload (mm_atc mc152 rfl) h5 h6 hxz1 <|
  mm_E.aload_n (mm_atc mc152 rfl) rfl <|
  mm_E.iload (mm_atc mc152 rfl) rfl <|
  mm_E.iconst (mm_atc mc152 rfl) <|
  mm_E.iadd (mm_atc mc152 rfl) <|
  mm_E.xload (mm_atc mc152 rfl) h7 h8 hxz2 <|
  mm_E.aload_n (mm_atc mc152 rfl) rfl <|
  mm_E.iload (mm_atc mc152 rfl) rfl <|
  mm_E.iconst (mm_atc mc152 rfl) <|
  mm_E.iadd (mm_atc mc152 rfl) <|
  mm_E.xload (mm_atc mc152 rfl) h9 h10 hxz3 <|
  mm_E.aload_n (mm_atc mc152 rfl) rfl <|
  mm_E.callS (mm_atc mc152 rfl) (mm_plc mp152 rfl) mx144 rfl rfl s0 (by omega) <|
  show mm_E _ _ 152 743 _ _ _ _ from
  mm_E.istore mx152 rfl (mm_atc mc152 rfl) <|
  show mm_E _ _ 152 745 [(5, mI z5), (0, .ref 0), (1, .ref 1), (2, .ref 77), (3, .ref 96), (4, mI x4)] _ _ _ from
  mm_E.aload_n (mm_atc mc152 rfl) rfl <|
  mm_E.aload_n (mm_atc mc152 rfl) rfl <|
  mm_E.iload (mm_atc mc152 rfl) rfl <|
  mm_E.iconst (mm_atc mc152 rfl) <|
  mm_E.iadd (mm_atc mc152 rfl) <|
  mm_E.xload (mm_atc mc152 rfl) h5 h6 hxz1 <|
  mm_E.aload_n (mm_atc mc152 rfl) rfl <|
  mm_E.iload (mm_atc mc152 rfl) rfl <|
  mm_E.iconst (mm_atc mc152 rfl) <|
  mm_E.iadd (mm_atc mc152 rfl) <|
  mm_E.xload (mm_atc mc152 rfl) h7 h8 hxz2 <|
  mm_E.aload_n (mm_atc mc152 rfl) rfl <|
  mm_E.iload (mm_atc mc152 rfl) rfl <|
  mm_E.iconst (mm_atc mc152 rfl) <|
  mm_E.iadd (mm_atc mc152 rfl) <|
  mm_E.xload (mm_atc mc152 rfl) h9 h10 hxz3 <|
  mm_E.callV0 (mm_atc mc152 rfl) (mm_plc mp152 rfl) rfl mk125 ly77 rfl mx125 rfl rfl s1 (by omega) <|
  show mm_E _ _ 152 767 _ _ _ _ from
  mm_E.istore mx152 rfl (mm_atc mc152 rfl) <|
  show mm_E _ _ 152 769 [(6, mI z7), (5, mI z5), (0, .ref 0), (1, .ref 1), (2, .ref 77), (3, .ref 96), (4, mI x4)] _ _ _ from
  mm_E.aload_n (mm_atc mc152 rfl) rfl <|
  mm_E.callV0 (mm_atc mc152 rfl) (mm_plc mp152 rfl) rfl mk111 ly77 rfl mx111 rfl rfl (p111_0_0 (d := d)) (by omega) <|
  show mm_E _ _ 152 773 _ _ _ _ from
  mm_E.iload (mm_atc mc152 rfl) rfl <|
  mm_E.if2 (mm_atc mc152 rfl) h11 h12 (ic_eqT h13) rfl <|
  mm_E.iload (mm_atc mc152 rfl) rfl <|
  mm_E.if1 (mm_atc mc152 rfl) h12 (ic_neT h14) rfl <|
  mm_E.goto (mm_atc mc152 rfl) rfl <|
  mm_E.inc mx152 rfl (mm_atc mc152 rfl) rfl <|
  show mm_E _ _ 152 1271 [(4, mI (x4 + 4)), (6, mI z7), (5, mI z5), (0, .ref 0), (1, .ref 1), (2, .ref 77), (3, .ref 96)] _ _ _ from
  mm_E.goto (mm_atc mc152 rfl) rfl <|
  mm_E.to h ⟨rfl, rfl, rfl, rfl, rfl, trivial⟩
set_option maxRecDepth 100000 in
theorem q11_2 {d : Nat} {X : List Value} {A : MF} {o : Option Value ⊕ Nat} {M2 : MH} {a2 b2 : Nat} {x4 z0 z1 z2 z3 z5 z7 : Int} {A4 A6 : MF} {a1 b1 : Nat} (hxl : Nat.blt X.length 100000 = true) (hxz0 : X[Int.toNat x4]? = some (mI z0)) (hxz1 : X[Int.toNat (x4 + 1)]? = some (mI z1)) (hxz2 : X[Int.toNat (x4 + 2)]? = some (mI z2)) (hxz3 : X[Int.toNat (x4 + 3)]? = some (mI z3)) (s0 : mm_E 1 d 144 0 [(0, .ref 1), (1, mI z1), (2, mI z2), (3, mI z3), (4, .ref 96)] [] (mm_w X A) (.inl (some (mI z5)), mm_w X A4, a1, b1)) (s1 : mm_E 1 d 125 0 [(0, .ref 77), (1, mI z1), (2, mI z2), (3, mI z3)] [] (mm_w X A4) (.inl (some (mI z7)), mm_w X A6, 0, 0)) (H : R32 x4 ∧ R32 ((X.length : Int) - 4) ∧ x4 ≤ (X.length : Int) - 4 ∧ 0 ≤ x4 ∧ mm_and z0 31 = 11 ∧ 0 ≤ x4 + 1 ∧ R32 (x4 + 1) ∧ 0 ≤ x4 + 2 ∧ R32 (x4 + 2) ∧ 0 ≤ x4 + 3 ∧ R32 (x4 + 3) ∧ R32 (A6 77 0) ∧ R32 z5 ∧ (A6 77 0) = z5 ∧ z5 = 0 ∧ R32 z7 ∧ R64 (A6 96 0) ∧ R64 z7 ∧ A6 96 0 = z7) (h : mm_E 1 (d + 1) 152 23 [(0, .ref 0), (1, .ref 1), (2, .ref 77), (3, .ref 96), (4, mI (x4 + 4))] [] (mm_w X A6) (o, M2, a2, b2)) : mm_E 1 (d + 1) 152 23 [(0, .ref 0), (1, .ref 1), (2, .ref 77), (3, .ref 96), (4, mI x4)] [] (mm_w X A) (o, M2, a1 + a2, b1 + b2) := by
  obtain ⟨h0, h1, h2, h3, h4, h5, h6, h7, h8, h9, h10, h11, h12, h13, h14, h15, h16, h17, h18⟩ := H
  exact mm_E.iload (mm_atc mc152 rfl) rfl <|
  mm_E.aload_n (mm_atc mc152 rfl) rfl <|
  mm_E.xlen (mm_atc mc152 rfl) hxl <|
  mm_E.iconst (mm_atc mc152 rfl) <|
  mm_E.isub (mm_atc mc152 rfl) <|
  mm_E.if2 (mm_atc mc152 rfl) h0 h1 (ic_gtF h2) rfl <|
  mm_E.aload_n (mm_atc mc152 rfl) rfl <|
  mm_E.iload (mm_atc mc152 rfl) rfl <|
  mm_E.xload (mm_atc mc152 rfl) h3 h0 hxz0 <|
  mm_E.bipush (mm_atc mc152 rfl) rfl <|
  mm_E.iand (mm_atc mc152 rfl) <|
  mm_E.tswK (off := 681) (mm_atc mc152 rfl) h4 (by decide) (by decide) (by decide) (by decide) rfl <|
  show mm_E _ _ 152 720 _ _ _ _ from
  mm_E.aload_n (mm_atc mc152 rfl) rfl <|
  mm_E.aload_n (mm_atc mc152 rfl) rfl <|
  mm_E.iload (mm_atc mc152 rfl) rfl <|
  mm_E.iconst (mm_atc mc152 rfl) <|
  mm_E.iadd (mm_atc mc152 rfl) <|
  mm_E.xload (mm_atc mc152 rfl) h5 h6 hxz1 <|
  mm_E.aload_n (mm_atc mc152 rfl) rfl <|
  mm_E.iload (mm_atc mc152 rfl) rfl <|
  mm_E.iconst (mm_atc mc152 rfl) <|
  mm_E.iadd (mm_atc mc152 rfl) <|
  mm_E.xload (mm_atc mc152 rfl) h7 h8 hxz2 <|
  mm_E.aload_n (mm_atc mc152 rfl) rfl <|
  mm_E.iload (mm_atc mc152 rfl) rfl <|
  mm_E.iconst (mm_atc mc152 rfl) <|
  mm_E.iadd (mm_atc mc152 rfl) <|
  mm_E.xload (mm_atc mc152 rfl) h9 h10 hxz3 <|
  mm_E.aload_n (mm_atc mc152 rfl) rfl <|
  mm_E.callS (mm_atc mc152 rfl) (mm_plc mp152 rfl) mx144 rfl rfl s0 (by omega) <|
  show mm_E _ _ 152 743 _ _ _ _ from
  mm_E.istore mx152 rfl (mm_atc mc152 rfl) <|
  show mm_E _ _ 152 745 [(5, mI z5), (0, .ref 0), (1, .ref 1), (2, .ref 77), (3, .ref 96), (4, mI x4)] _ _ _ from
  mm_E.aload_n (mm_atc mc152 rfl) rfl <|
  mm_E.aload_n (mm_atc mc152 rfl) rfl <|
  mm_E.iload (mm_atc mc152 rfl) rfl <|
  mm_E.iconst (mm_atc mc152 rfl) <|
  mm_E.iadd (mm_atc mc152 rfl) <|
  mm_E.xload (mm_atc mc152 rfl) h5 h6 hxz1 <|
  mm_E.aload_n (mm_atc mc152 rfl) rfl <|
  mm_E.iload (mm_atc mc152 rfl) rfl <|
  mm_E.iconst (mm_atc mc152 rfl) <|
  mm_E.iadd (mm_atc mc152 rfl) <|
  mm_E.xload (mm_atc mc152 rfl) h7 h8 hxz2 <|
  mm_E.aload_n (mm_atc mc152 rfl) rfl <|
  mm_E.iload (mm_atc mc152 rfl) rfl <|
  mm_E.iconst (mm_atc mc152 rfl) <|
  mm_E.iadd (mm_atc mc152 rfl) <|
  mm_E.xload (mm_atc mc152 rfl) h9 h10 hxz3 <|
  mm_E.callV0 (mm_atc mc152 rfl) (mm_plc mp152 rfl) rfl mk125 ly77 rfl mx125 rfl rfl s1 (by omega) <|
  show mm_E _ _ 152 767 _ _ _ _ from
  mm_E.istore mx152 rfl (mm_atc mc152 rfl) <|
  show mm_E _ _ 152 769 [(6, mI z7), (5, mI z5), (0, .ref 0), (1, .ref 1), (2, .ref 77), (3, .ref 96), (4, mI x4)] _ _ _ from
  mm_E.aload_n (mm_atc mc152 rfl) rfl <|
  mm_E.callV0 (mm_atc mc152 rfl) (mm_plc mp152 rfl) rfl mk111 ly77 rfl mx111 rfl rfl (p111_0_0 (d := d)) (by omega) <|
  show mm_E _ _ 152 773 _ _ _ _ from
  mm_E.iload (mm_atc mc152 rfl) rfl <|
  mm_E.if2 (mm_atc mc152 rfl) h11 h12 (ic_eqT h13) rfl <|
  mm_E.iload (mm_atc mc152 rfl) rfl <|
  mm_E.if1 (mm_atc mc152 rfl) h12 (ic_neF h14) rfl <|
  mm_E.aload_n (mm_atc mc152 rfl) rfl <|
  mm_E.iconst (mm_atc mc152 rfl) <|
  mm_E.laload (e := 0) (mm_atc mc152 rfl) ly96 rfl (by decide) (by decide) rfl (rfl) <|
  mm_E.iload (mm_atc mc152 rfl) rfl <|
  mm_E.i2l h15 (mm_atc mc152 rfl) <|
  mm_E.lif (mm_atc mc152 rfl) (mm_atc mc152 rfl) h16 h17 (ic_eqT h18) rfl <|
  mm_E.goto (mm_atc mc152 rfl) rfl <|
  mm_E.inc mx152 rfl (mm_atc mc152 rfl) rfl <|
  show mm_E _ _ 152 1271 [(4, mI (x4 + 4)), (6, mI z7), (5, mI z5), (0, .ref 0), (1, .ref 1), (2, .ref 77), (3, .ref 96)] _ _ _ from
  mm_E.goto (mm_atc mc152 rfl) rfl <|
  mm_E.to h ⟨rfl, rfl, rfl, rfl, rfl, trivial⟩
set_option maxRecDepth 100000 in
theorem q12_1 {d : Nat} {X : List Value} {A : MF} {o : Option Value ⊕ Nat} {M2 : MH} {a2 b2 : Nat} {x4 z0 z1 z3 z5 : Int} {A2 A4 : MF} {a1 b1 : Nat} (hxl : Nat.blt X.length 100000 = true) (hxz0 : X[Int.toNat x4]? = some (mI z0)) (hxz1 : X[Int.toNat (x4 + 1)]? = some (mI z1)) (s0 : mm_E 1 d 145 0 [(0, .ref 1), (1, mI z1), (2, .ref 96)] [] (mm_w X A) (.inl (some (mI z3)), mm_w X A2, a1, b1)) (s1 : mm_E 1 d 126 0 [(0, .ref 77), (1, mI z1)] [] (mm_w X A2) (.inl (some (mI z5)), mm_w X A4, 0, 0)) (H : R32 x4 ∧ R32 ((X.length : Int) - 4) ∧ x4 ≤ (X.length : Int) - 4 ∧ 0 ≤ x4 ∧ mm_and z0 31 = 12 ∧ 0 ≤ x4 + 1 ∧ R32 (x4 + 1) ∧ R32 (A4 77 0) ∧ R32 z3 ∧ (A4 77 0) = z3 ∧ z3 ≠ 0) (h : mm_E 1 (d + 1) 152 23 [(0, .ref 0), (1, .ref 1), (2, .ref 77), (3, .ref 96), (4, mI (x4 + 4))] [] (mm_w X A4) (o, M2, a2, b2)) : mm_E 1 (d + 1) 152 23 [(0, .ref 0), (1, .ref 1), (2, .ref 77), (3, .ref 96), (4, mI x4)] [] (mm_w X A) (o, M2, a1 + a2, b1 + b2) := by
  obtain ⟨h0, h1, h2, h3, h4, h5, h6, h7, h8, h9, h10⟩ := H
  exact mm_E.iload (mm_atc mc152 rfl) rfl <|
  mm_E.aload_n (mm_atc mc152 rfl) rfl <|
  mm_E.xlen (mm_atc mc152 rfl) hxl <|
  mm_E.iconst (mm_atc mc152 rfl) <|
  mm_E.isub (mm_atc mc152 rfl) <|
  mm_E.if2 (mm_atc mc152 rfl) h0 h1 (ic_gtF h2) rfl <|
  mm_E.aload_n (mm_atc mc152 rfl) rfl <|
  mm_E.iload (mm_atc mc152 rfl) rfl <|
  mm_E.xload (mm_atc mc152 rfl) h3 h0 hxz0 <|
  mm_E.bipush (mm_atc mc152 rfl) rfl <|
  mm_E.iand (mm_atc mc152 rfl) <|
  mm_E.tswK (off := 761) (mm_atc mc152 rfl) h4 (by decide) (by decide) (by decide) (by decide) rfl <|
  show mm_E _ _ 152 800 _ _ _ _ from
  mm_E.aload_n (mm_atc mc152 rfl) rfl <|
  mm_E.aload_n (mm_atc mc152 rfl) rfl <|
  mm_E.iload (mm_atc mc152 rfl) rfl <|
  mm_E.iconst (mm_atc mc152 rfl) <|
  mm_E.iadd (mm_atc mc152 rfl) <|
  mm_E.xload (mm_atc mc152 rfl) h5 h6 hxz1 <|
  mm_E.aload_n (mm_atc mc152 rfl) rfl <|
  mm_E.callS (mm_atc mc152 rfl) (mm_plc mp152 rfl) mx145 rfl rfl s0 (by omega) <|
  show mm_E _ _ 152 811 _ _ _ _ from
  mm_E.istore mx152 rfl (mm_atc mc152 rfl) <|
  show mm_E _ _ 152 813 [(5, mI z3), (0, .ref 0), (1, .ref 1), (2, .ref 77), (3, .ref 96), (4, mI x4)] _ _ _ from
  mm_E.aload_n (mm_atc mc152 rfl) rfl <|
  mm_E.aload_n (mm_atc mc152 rfl) rfl <|
  mm_E.iload (mm_atc mc152 rfl) rfl <|
  mm_E.iconst (mm_atc mc152 rfl) <|
  mm_E.iadd (mm_atc mc152 rfl) <|
  mm_E.xload (mm_atc mc152 rfl) h5 h6 hxz1 <|
  mm_E.callV0 (mm_atc mc152 rfl) (mm_plc mp152 rfl) rfl mk126 ly77 rfl mx126 rfl rfl s1 (by omega) <|
  show mm_E _ _ 152 823 _ _ _ _ from
  mm_E.istore mx152 rfl (mm_atc mc152 rfl) <|
  show mm_E _ _ 152 825 [(6, mI z5), (5, mI z3), (0, .ref 0), (1, .ref 1), (2, .ref 77), (3, .ref 96), (4, mI x4)] _ _ _ from
  mm_E.aload_n (mm_atc mc152 rfl) rfl <|
  mm_E.callV0 (mm_atc mc152 rfl) (mm_plc mp152 rfl) rfl mk111 ly77 rfl mx111 rfl rfl (p111_0_0 (d := d)) (by omega) <|
  show mm_E _ _ 152 829 _ _ _ _ from
  mm_E.iload (mm_atc mc152 rfl) rfl <|
  mm_E.if2 (mm_atc mc152 rfl) h7 h8 (ic_eqT h9) rfl <|
  mm_E.iload (mm_atc mc152 rfl) rfl <|
  mm_E.if1 (mm_atc mc152 rfl) h8 (ic_neT h10) rfl <|
  mm_E.goto (mm_atc mc152 rfl) rfl <|
  mm_E.inc mx152 rfl (mm_atc mc152 rfl) rfl <|
  show mm_E _ _ 152 1271 [(4, mI (x4 + 4)), (6, mI z5), (5, mI z3), (0, .ref 0), (1, .ref 1), (2, .ref 77), (3, .ref 96)] _ _ _ from
  mm_E.goto (mm_atc mc152 rfl) rfl <|
  mm_E.to h ⟨rfl, rfl, rfl, rfl, rfl, trivial⟩
set_option maxRecDepth 100000 in
theorem q12_2 {d : Nat} {X : List Value} {A : MF} {o : Option Value ⊕ Nat} {M2 : MH} {a2 b2 : Nat} {x4 z0 z1 z3 z5 : Int} {A2 A4 : MF} {a1 b1 : Nat} (hxl : Nat.blt X.length 100000 = true) (hxz0 : X[Int.toNat x4]? = some (mI z0)) (hxz1 : X[Int.toNat (x4 + 1)]? = some (mI z1)) (s0 : mm_E 1 d 145 0 [(0, .ref 1), (1, mI z1), (2, .ref 96)] [] (mm_w X A) (.inl (some (mI z3)), mm_w X A2, a1, b1)) (s1 : mm_E 1 d 126 0 [(0, .ref 77), (1, mI z1)] [] (mm_w X A2) (.inl (some (mI z5)), mm_w X A4, 0, 0)) (H : R32 x4 ∧ R32 ((X.length : Int) - 4) ∧ x4 ≤ (X.length : Int) - 4 ∧ 0 ≤ x4 ∧ mm_and z0 31 = 12 ∧ 0 ≤ x4 + 1 ∧ R32 (x4 + 1) ∧ R32 (A4 77 0) ∧ R32 z3 ∧ (A4 77 0) = z3 ∧ z3 = 0 ∧ R32 z5 ∧ R64 (A4 96 0) ∧ R64 z5 ∧ A4 96 0 = z5) (h : mm_E 1 (d + 1) 152 23 [(0, .ref 0), (1, .ref 1), (2, .ref 77), (3, .ref 96), (4, mI (x4 + 4))] [] (mm_w X A4) (o, M2, a2, b2)) : mm_E 1 (d + 1) 152 23 [(0, .ref 0), (1, .ref 1), (2, .ref 77), (3, .ref 96), (4, mI x4)] [] (mm_w X A) (o, M2, a1 + a2, b1 + b2) := by
  obtain ⟨h0, h1, h2, h3, h4, h5, h6, h7, h8, h9, h10, h11, h12, h13, h14⟩ := H
  exact mm_E.iload (mm_atc mc152 rfl) rfl <|
  mm_E.aload_n (mm_atc mc152 rfl) rfl <|
  mm_E.xlen (mm_atc mc152 rfl) hxl <|
  mm_E.iconst (mm_atc mc152 rfl) <|
  mm_E.isub (mm_atc mc152 rfl) <|
  mm_E.if2 (mm_atc mc152 rfl) h0 h1 (ic_gtF h2) rfl <|
  mm_E.aload_n (mm_atc mc152 rfl) rfl <|
  mm_E.iload (mm_atc mc152 rfl) rfl <|
  mm_E.xload (mm_atc mc152 rfl) h3 h0 hxz0 <|
  mm_E.bipush (mm_atc mc152 rfl) rfl <|
  mm_E.iand (mm_atc mc152 rfl) <|
  mm_E.tswK (off := 761) (mm_atc mc152 rfl) h4 (by decide) (by decide) (by decide) (by decide) rfl <|
  show mm_E _ _ 152 800 _ _ _ _ from
  mm_E.aload_n (mm_atc mc152 rfl) rfl <|
  mm_E.aload_n (mm_atc mc152 rfl) rfl <|
  mm_E.iload (mm_atc mc152 rfl) rfl <|
  mm_E.iconst (mm_atc mc152 rfl) <|
  mm_E.iadd (mm_atc mc152 rfl) <|
  mm_E.xload (mm_atc mc152 rfl) h5 h6 hxz1 <|
  mm_E.aload_n (mm_atc mc152 rfl) rfl <|
  mm_E.callS (mm_atc mc152 rfl) (mm_plc mp152 rfl) mx145 rfl rfl s0 (by omega) <|
  show mm_E _ _ 152 811 _ _ _ _ from
  mm_E.istore mx152 rfl (mm_atc mc152 rfl) <|
  show mm_E _ _ 152 813 [(5, mI z3), (0, .ref 0), (1, .ref 1), (2, .ref 77), (3, .ref 96), (4, mI x4)] _ _ _ from
  mm_E.aload_n (mm_atc mc152 rfl) rfl <|
  mm_E.aload_n (mm_atc mc152 rfl) rfl <|
  mm_E.iload (mm_atc mc152 rfl) rfl <|
  mm_E.iconst (mm_atc mc152 rfl) <|
  mm_E.iadd (mm_atc mc152 rfl) <|
  mm_E.xload (mm_atc mc152 rfl) h5 h6 hxz1 <|
  mm_E.callV0 (mm_atc mc152 rfl) (mm_plc mp152 rfl) rfl mk126 ly77 rfl mx126 rfl rfl s1 (by omega) <|
  show mm_E _ _ 152 823 _ _ _ _ from
  mm_E.istore mx152 rfl (mm_atc mc152 rfl) <|
  show mm_E _ _ 152 825 [(6, mI z5), (5, mI z3), (0, .ref 0), (1, .ref 1), (2, .ref 77), (3, .ref 96), (4, mI x4)] _ _ _ from
  mm_E.aload_n (mm_atc mc152 rfl) rfl <|
  mm_E.callV0 (mm_atc mc152 rfl) (mm_plc mp152 rfl) rfl mk111 ly77 rfl mx111 rfl rfl (p111_0_0 (d := d)) (by omega) <|
  show mm_E _ _ 152 829 _ _ _ _ from
  mm_E.iload (mm_atc mc152 rfl) rfl <|
  mm_E.if2 (mm_atc mc152 rfl) h7 h8 (ic_eqT h9) rfl <|
  mm_E.iload (mm_atc mc152 rfl) rfl <|
  mm_E.if1 (mm_atc mc152 rfl) h8 (ic_neF h10) rfl <|
  mm_E.aload_n (mm_atc mc152 rfl) rfl <|
  mm_E.iconst (mm_atc mc152 rfl) <|
  mm_E.laload (e := 0) (mm_atc mc152 rfl) ly96 rfl (by decide) (by decide) rfl (rfl) <|
  mm_E.iload (mm_atc mc152 rfl) rfl <|
  mm_E.i2l h11 (mm_atc mc152 rfl) <|
  mm_E.lif (mm_atc mc152 rfl) (mm_atc mc152 rfl) h12 h13 (ic_eqT h14) rfl <|
  mm_E.goto (mm_atc mc152 rfl) rfl <|
  mm_E.inc mx152 rfl (mm_atc mc152 rfl) rfl <|
  show mm_E _ _ 152 1271 [(4, mI (x4 + 4)), (6, mI z5), (5, mI z3), (0, .ref 0), (1, .ref 1), (2, .ref 77), (3, .ref 96)] _ _ _ from
  mm_E.goto (mm_atc mc152 rfl) rfl <|
  mm_E.to h ⟨rfl, rfl, rfl, rfl, rfl, trivial⟩
set_option maxRecDepth 100000 in
theorem q13_1 {d : Nat} {X : List Value} {A : MF} {o : Option Value ⊕ Nat} {M2 : MH} {a2 b2 : Nat} {x4 z0 z2 z4 : Int} {A1 A3 : MF} {a1 b1 : Nat} (hxl : Nat.blt X.length 100000 = true) (hxz0 : X[Int.toNat x4]? = some (mI z0)) (s0 : mm_E 1 d 146 0 [(0, .ref 1), (1, .ref 96)] [] (mm_w X A) (.inl (some (mI z2)), mm_w X A1, a1, b1)) (s1 : mm_E 1 d 127 0 [(0, .ref 77)] [] (mm_w X A1) (.inl (some (mI z4)), mm_w X A3, 0, 0)) (H : R32 x4 ∧ R32 ((X.length : Int) - 4) ∧ x4 ≤ (X.length : Int) - 4 ∧ 0 ≤ x4 ∧ mm_and z0 31 = 13 ∧ R32 (A3 77 0) ∧ R32 z2 ∧ (A3 77 0) = z2 ∧ z2 ≠ 0) (h : mm_E 1 (d + 1) 152 23 [(0, .ref 0), (1, .ref 1), (2, .ref 77), (3, .ref 96), (4, mI (x4 + 4))] [] (mm_w X A3) (o, M2, a2, b2)) : mm_E 1 (d + 1) 152 23 [(0, .ref 0), (1, .ref 1), (2, .ref 77), (3, .ref 96), (4, mI x4)] [] (mm_w X A) (o, M2, a1 + a2, b1 + b2) := by
  obtain ⟨h0, h1, h2, h3, h4, h5, h6, h7, h8⟩ := H
  exact mm_E.iload (mm_atc mc152 rfl) rfl <|
  mm_E.aload_n (mm_atc mc152 rfl) rfl <|
  mm_E.xlen (mm_atc mc152 rfl) hxl <|
  mm_E.iconst (mm_atc mc152 rfl) <|
  mm_E.isub (mm_atc mc152 rfl) <|
  mm_E.if2 (mm_atc mc152 rfl) h0 h1 (ic_gtF h2) rfl <|
  mm_E.aload_n (mm_atc mc152 rfl) rfl <|
  mm_E.iload (mm_atc mc152 rfl) rfl <|
  mm_E.xload (mm_atc mc152 rfl) h3 h0 hxz0 <|
  mm_E.bipush (mm_atc mc152 rfl) rfl <|
  mm_E.iand (mm_atc mc152 rfl) <|
  mm_E.tswK (off := 817) (mm_atc mc152 rfl) h4 (by decide) (by decide) (by decide) (by decide) rfl <|
  show mm_E _ _ 152 856 _ _ _ _ from
  mm_E.aload_n (mm_atc mc152 rfl) rfl <|
  mm_E.aload_n (mm_atc mc152 rfl) rfl <|
  mm_E.callS (mm_atc mc152 rfl) (mm_plc mp152 rfl) mx146 rfl rfl s0 (by omega) <|
  show mm_E _ _ 152 861 _ _ _ _ from
  mm_E.istore mx152 rfl (mm_atc mc152 rfl) <|
  show mm_E _ _ 152 863 [(5, mI z2), (0, .ref 0), (1, .ref 1), (2, .ref 77), (3, .ref 96), (4, mI x4)] _ _ _ from
  mm_E.aload_n (mm_atc mc152 rfl) rfl <|
  mm_E.callV0 (mm_atc mc152 rfl) (mm_plc mp152 rfl) rfl mk127 ly77 rfl mx127 rfl rfl s1 (by omega) <|
  show mm_E _ _ 152 867 _ _ _ _ from
  mm_E.istore mx152 rfl (mm_atc mc152 rfl) <|
  show mm_E _ _ 152 869 [(6, mI z4), (5, mI z2), (0, .ref 0), (1, .ref 1), (2, .ref 77), (3, .ref 96), (4, mI x4)] _ _ _ from
  mm_E.aload_n (mm_atc mc152 rfl) rfl <|
  mm_E.callV0 (mm_atc mc152 rfl) (mm_plc mp152 rfl) rfl mk111 ly77 rfl mx111 rfl rfl (p111_0_0 (d := d)) (by omega) <|
  show mm_E _ _ 152 873 _ _ _ _ from
  mm_E.iload (mm_atc mc152 rfl) rfl <|
  mm_E.if2 (mm_atc mc152 rfl) h5 h6 (ic_eqT h7) rfl <|
  mm_E.iload (mm_atc mc152 rfl) rfl <|
  mm_E.if1 (mm_atc mc152 rfl) h6 (ic_neT h8) rfl <|
  mm_E.goto (mm_atc mc152 rfl) rfl <|
  mm_E.inc mx152 rfl (mm_atc mc152 rfl) rfl <|
  show mm_E _ _ 152 1271 [(4, mI (x4 + 4)), (6, mI z4), (5, mI z2), (0, .ref 0), (1, .ref 1), (2, .ref 77), (3, .ref 96)] _ _ _ from
  mm_E.goto (mm_atc mc152 rfl) rfl <|
  mm_E.to h ⟨rfl, rfl, rfl, rfl, rfl, trivial⟩
set_option maxRecDepth 100000 in
theorem q13_2 {d : Nat} {X : List Value} {A : MF} {o : Option Value ⊕ Nat} {M2 : MH} {a2 b2 : Nat} {x4 z0 z2 z4 : Int} {A1 A3 : MF} {a1 b1 : Nat} (hxl : Nat.blt X.length 100000 = true) (hxz0 : X[Int.toNat x4]? = some (mI z0)) (s0 : mm_E 1 d 146 0 [(0, .ref 1), (1, .ref 96)] [] (mm_w X A) (.inl (some (mI z2)), mm_w X A1, a1, b1)) (s1 : mm_E 1 d 127 0 [(0, .ref 77)] [] (mm_w X A1) (.inl (some (mI z4)), mm_w X A3, 0, 0)) (H : R32 x4 ∧ R32 ((X.length : Int) - 4) ∧ x4 ≤ (X.length : Int) - 4 ∧ 0 ≤ x4 ∧ mm_and z0 31 = 13 ∧ R32 (A3 77 0) ∧ R32 z2 ∧ (A3 77 0) = z2 ∧ z2 = 0 ∧ R32 z4 ∧ R64 (A3 96 0) ∧ R64 z4 ∧ A3 96 0 = z4) (h : mm_E 1 (d + 1) 152 23 [(0, .ref 0), (1, .ref 1), (2, .ref 77), (3, .ref 96), (4, mI (x4 + 4))] [] (mm_w X A3) (o, M2, a2, b2)) : mm_E 1 (d + 1) 152 23 [(0, .ref 0), (1, .ref 1), (2, .ref 77), (3, .ref 96), (4, mI x4)] [] (mm_w X A) (o, M2, a1 + a2, b1 + b2) := by
  obtain ⟨h0, h1, h2, h3, h4, h5, h6, h7, h8, h9, h10, h11, h12⟩ := H
  exact mm_E.iload (mm_atc mc152 rfl) rfl <|
  mm_E.aload_n (mm_atc mc152 rfl) rfl <|
  mm_E.xlen (mm_atc mc152 rfl) hxl <|
  mm_E.iconst (mm_atc mc152 rfl) <|
  mm_E.isub (mm_atc mc152 rfl) <|
  mm_E.if2 (mm_atc mc152 rfl) h0 h1 (ic_gtF h2) rfl <|
  mm_E.aload_n (mm_atc mc152 rfl) rfl <|
  mm_E.iload (mm_atc mc152 rfl) rfl <|
  mm_E.xload (mm_atc mc152 rfl) h3 h0 hxz0 <|
  mm_E.bipush (mm_atc mc152 rfl) rfl <|
  mm_E.iand (mm_atc mc152 rfl) <|
  mm_E.tswK (off := 817) (mm_atc mc152 rfl) h4 (by decide) (by decide) (by decide) (by decide) rfl <|
  show mm_E _ _ 152 856 _ _ _ _ from
  mm_E.aload_n (mm_atc mc152 rfl) rfl <|
  mm_E.aload_n (mm_atc mc152 rfl) rfl <|
  mm_E.callS (mm_atc mc152 rfl) (mm_plc mp152 rfl) mx146 rfl rfl s0 (by omega) <|
  show mm_E _ _ 152 861 _ _ _ _ from
  mm_E.istore mx152 rfl (mm_atc mc152 rfl) <|
  show mm_E _ _ 152 863 [(5, mI z2), (0, .ref 0), (1, .ref 1), (2, .ref 77), (3, .ref 96), (4, mI x4)] _ _ _ from
  mm_E.aload_n (mm_atc mc152 rfl) rfl <|
  mm_E.callV0 (mm_atc mc152 rfl) (mm_plc mp152 rfl) rfl mk127 ly77 rfl mx127 rfl rfl s1 (by omega) <|
  show mm_E _ _ 152 867 _ _ _ _ from
  mm_E.istore mx152 rfl (mm_atc mc152 rfl) <|
  show mm_E _ _ 152 869 [(6, mI z4), (5, mI z2), (0, .ref 0), (1, .ref 1), (2, .ref 77), (3, .ref 96), (4, mI x4)] _ _ _ from
  mm_E.aload_n (mm_atc mc152 rfl) rfl <|
  mm_E.callV0 (mm_atc mc152 rfl) (mm_plc mp152 rfl) rfl mk111 ly77 rfl mx111 rfl rfl (p111_0_0 (d := d)) (by omega) <|
  show mm_E _ _ 152 873 _ _ _ _ from
  mm_E.iload (mm_atc mc152 rfl) rfl <|
  mm_E.if2 (mm_atc mc152 rfl) h5 h6 (ic_eqT h7) rfl <|
  mm_E.iload (mm_atc mc152 rfl) rfl <|
  mm_E.if1 (mm_atc mc152 rfl) h6 (ic_neF h8) rfl <|
  mm_E.aload_n (mm_atc mc152 rfl) rfl <|
  mm_E.iconst (mm_atc mc152 rfl) <|
  mm_E.laload (e := 0) (mm_atc mc152 rfl) ly96 rfl (by decide) (by decide) rfl (rfl) <|
  mm_E.iload (mm_atc mc152 rfl) rfl <|
  mm_E.i2l h9 (mm_atc mc152 rfl) <|
  mm_E.lif (mm_atc mc152 rfl) (mm_atc mc152 rfl) h10 h11 (ic_eqT h12) rfl <|
  mm_E.goto (mm_atc mc152 rfl) rfl <|
  mm_E.inc mx152 rfl (mm_atc mc152 rfl) rfl <|
  show mm_E _ _ 152 1271 [(4, mI (x4 + 4)), (6, mI z4), (5, mI z2), (0, .ref 0), (1, .ref 1), (2, .ref 77), (3, .ref 96)] _ _ _ from
  mm_E.goto (mm_atc mc152 rfl) rfl <|
  mm_E.to h ⟨rfl, rfl, rfl, rfl, rfl, trivial⟩
set_option maxRecDepth 100000 in
theorem q14_1 {d : Nat} {X : List Value} {A : MF} {o : Option Value ⊕ Nat} {M2 : MH} {a2 b2 : Nat} {x4 z0 z1 z2 z4 z6 : Int} {A3 A5 : MF} {a1 b1 : Nat} (hxl : Nat.blt X.length 100000 = true) (hxz0 : X[Int.toNat x4]? = some (mI z0)) (hxz1 : X[Int.toNat (x4 + 1)]? = some (mI z1)) (hxz2 : X[Int.toNat (x4 + 2)]? = some (mI z2)) (s0 : mm_E 1 d 147 0 [(0, .ref 1), (1, mI z1), (2, mI z2), (3, .ref 96)] [] (mm_w X A) (.inl (some (mI z4)), mm_w X A3, a1, b1)) (s1 : mm_E 1 d 128 0 [(0, .ref 77), (1, mI z1), (2, mI z2)] [] (mm_w X A3) (.inl (some (mJ z6)), mm_w X A5, 0, 0)) (H : R32 x4 ∧ R32 ((X.length : Int) - 4) ∧ x4 ≤ (X.length : Int) - 4 ∧ 0 ≤ x4 ∧ mm_and z0 31 = 14 ∧ 0 ≤ x4 + 1 ∧ R32 (x4 + 1) ∧ 0 ≤ x4 + 2 ∧ R32 (x4 + 2) ∧ R32 (A5 77 0) ∧ R32 z4 ∧ (A5 77 0) = z4 ∧ z4 ≠ 0) (h : mm_E 1 (d + 1) 152 23 [(0, .ref 0), (1, .ref 1), (2, .ref 77), (3, .ref 96), (4, mI (x4 + 4))] [] (mm_w X A5) (o, M2, a2, b2)) : mm_E 1 (d + 1) 152 23 [(0, .ref 0), (1, .ref 1), (2, .ref 77), (3, .ref 96), (4, mI x4)] [] (mm_w X A) (o, M2, a1 + a2, b1 + b2) := by
  obtain ⟨h0, h1, h2, h3, h4, h5, h6, h7, h8, h9, h10, h11, h12⟩ := H
  exact mm_E.iload (mm_atc mc152 rfl) rfl <|
  mm_E.aload_n (mm_atc mc152 rfl) rfl <|
  mm_E.xlen (mm_atc mc152 rfl) hxl <|
  mm_E.iconst (mm_atc mc152 rfl) <|
  mm_E.isub (mm_atc mc152 rfl) <|
  mm_E.if2 (mm_atc mc152 rfl) h0 h1 (ic_gtF h2) rfl <|
  mm_E.aload_n (mm_atc mc152 rfl) rfl <|
  mm_E.iload (mm_atc mc152 rfl) rfl <|
  mm_E.xload (mm_atc mc152 rfl) h3 h0 hxz0 <|
  mm_E.bipush (mm_atc mc152 rfl) rfl <|
  mm_E.iand (mm_atc mc152 rfl) <|
  mm_E.tswK (off := 861) (mm_atc mc152 rfl) h4 (by decide) (by decide) (by decide) (by decide) rfl <|
  show mm_E _ _ 152 900 _ _ _ _ from
  mm_E.aload_n (mm_atc mc152 rfl) rfl <|
  mm_E.aload_n (mm_atc mc152 rfl) rfl <|
  mm_E.iload (mm_atc mc152 rfl) rfl <|
  mm_E.iconst (mm_atc mc152 rfl) <|
  mm_E.iadd (mm_atc mc152 rfl) <|
  mm_E.xload (mm_atc mc152 rfl) h5 h6 hxz1 <|
  mm_E.aload_n (mm_atc mc152 rfl) rfl <|
  mm_E.iload (mm_atc mc152 rfl) rfl <|
  mm_E.iconst (mm_atc mc152 rfl) <|
  mm_E.iadd (mm_atc mc152 rfl) <|
  mm_E.xload (mm_atc mc152 rfl) h7 h8 hxz2 <|
  mm_E.aload_n (mm_atc mc152 rfl) rfl <|
  mm_E.callS (mm_atc mc152 rfl) (mm_plc mp152 rfl) mx147 rfl rfl s0 (by omega) <|
  show mm_E _ _ 152 917 _ _ _ _ from
  mm_E.istore mx152 rfl (mm_atc mc152 rfl) <|
  show mm_E _ _ 152 919 [(5, mI z4), (0, .ref 0), (1, .ref 1), (2, .ref 77), (3, .ref 96), (4, mI x4)] _ _ _ from
  mm_E.aload_n (mm_atc mc152 rfl) rfl <|
  mm_E.aload_n (mm_atc mc152 rfl) rfl <|
  mm_E.iload (mm_atc mc152 rfl) rfl <|
  mm_E.iconst (mm_atc mc152 rfl) <|
  mm_E.iadd (mm_atc mc152 rfl) <|
  mm_E.xload (mm_atc mc152 rfl) h5 h6 hxz1 <|
  mm_E.aload_n (mm_atc mc152 rfl) rfl <|
  mm_E.iload (mm_atc mc152 rfl) rfl <|
  mm_E.iconst (mm_atc mc152 rfl) <|
  mm_E.iadd (mm_atc mc152 rfl) <|
  mm_E.xload (mm_atc mc152 rfl) h7 h8 hxz2 <|
  mm_E.callV0 (mm_atc mc152 rfl) (mm_plc mp152 rfl) rfl mk128 ly77 rfl mx128 rfl rfl s1 (by omega) <|
  show mm_E _ _ 152 935 _ _ _ _ from
  mm_E.lstore mx152 rfl (mm_atc mc152 rfl) <|
  show mm_E _ _ 152 937 [(6, mJ z6), (5, mI z4), (0, .ref 0), (1, .ref 1), (2, .ref 77), (3, .ref 96), (4, mI x4)] _ _ _ from
  mm_E.aload_n (mm_atc mc152 rfl) rfl <|
  mm_E.callV0 (mm_atc mc152 rfl) (mm_plc mp152 rfl) rfl mk111 ly77 rfl mx111 rfl rfl (p111_0_0 (d := d)) (by omega) <|
  show mm_E _ _ 152 941 _ _ _ _ from
  mm_E.iload (mm_atc mc152 rfl) rfl <|
  mm_E.if2 (mm_atc mc152 rfl) h9 h10 (ic_eqT h11) rfl <|
  mm_E.iload (mm_atc mc152 rfl) rfl <|
  mm_E.if1 (mm_atc mc152 rfl) h10 (ic_neT h12) rfl <|
  mm_E.goto (mm_atc mc152 rfl) rfl <|
  mm_E.inc mx152 rfl (mm_atc mc152 rfl) rfl <|
  show mm_E _ _ 152 1271 [(4, mI (x4 + 4)), (6, mJ z6), (5, mI z4), (0, .ref 0), (1, .ref 1), (2, .ref 77), (3, .ref 96)] _ _ _ from
  mm_E.goto (mm_atc mc152 rfl) rfl <|
  mm_E.to h ⟨rfl, rfl, rfl, rfl, rfl, trivial⟩
set_option maxRecDepth 100000 in
theorem q14_2 {d : Nat} {X : List Value} {A : MF} {o : Option Value ⊕ Nat} {M2 : MH} {a2 b2 : Nat} {x4 z0 z1 z2 z4 z6 : Int} {A3 A5 : MF} {a1 b1 : Nat} (hxl : Nat.blt X.length 100000 = true) (hxz0 : X[Int.toNat x4]? = some (mI z0)) (hxz1 : X[Int.toNat (x4 + 1)]? = some (mI z1)) (hxz2 : X[Int.toNat (x4 + 2)]? = some (mI z2)) (s0 : mm_E 1 d 147 0 [(0, .ref 1), (1, mI z1), (2, mI z2), (3, .ref 96)] [] (mm_w X A) (.inl (some (mI z4)), mm_w X A3, a1, b1)) (s1 : mm_E 1 d 128 0 [(0, .ref 77), (1, mI z1), (2, mI z2)] [] (mm_w X A3) (.inl (some (mJ z6)), mm_w X A5, 0, 0)) (H : R32 x4 ∧ R32 ((X.length : Int) - 4) ∧ x4 ≤ (X.length : Int) - 4 ∧ 0 ≤ x4 ∧ mm_and z0 31 = 14 ∧ 0 ≤ x4 + 1 ∧ R32 (x4 + 1) ∧ 0 ≤ x4 + 2 ∧ R32 (x4 + 2) ∧ R32 (A5 77 0) ∧ R32 z4 ∧ (A5 77 0) = z4 ∧ z4 = 0 ∧ R64 (A5 96 0) ∧ R64 z6 ∧ A5 96 0 = z6) (h : mm_E 1 (d + 1) 152 23 [(0, .ref 0), (1, .ref 1), (2, .ref 77), (3, .ref 96), (4, mI (x4 + 4))] [] (mm_w X A5) (o, M2, a2, b2)) : mm_E 1 (d + 1) 152 23 [(0, .ref 0), (1, .ref 1), (2, .ref 77), (3, .ref 96), (4, mI x4)] [] (mm_w X A) (o, M2, a1 + a2, b1 + b2) := by
  obtain ⟨h0, h1, h2, h3, h4, h5, h6, h7, h8, h9, h10, h11, h12, h13, h14, h15⟩ := H
  exact mm_E.iload (mm_atc mc152 rfl) rfl <|
  mm_E.aload_n (mm_atc mc152 rfl) rfl <|
  mm_E.xlen (mm_atc mc152 rfl) hxl <|
  mm_E.iconst (mm_atc mc152 rfl) <|
  mm_E.isub (mm_atc mc152 rfl) <|
  mm_E.if2 (mm_atc mc152 rfl) h0 h1 (ic_gtF h2) rfl <|
  mm_E.aload_n (mm_atc mc152 rfl) rfl <|
  mm_E.iload (mm_atc mc152 rfl) rfl <|
  mm_E.xload (mm_atc mc152 rfl) h3 h0 hxz0 <|
  mm_E.bipush (mm_atc mc152 rfl) rfl <|
  mm_E.iand (mm_atc mc152 rfl) <|
  mm_E.tswK (off := 861) (mm_atc mc152 rfl) h4 (by decide) (by decide) (by decide) (by decide) rfl <|
  show mm_E _ _ 152 900 _ _ _ _ from
  mm_E.aload_n (mm_atc mc152 rfl) rfl <|
  mm_E.aload_n (mm_atc mc152 rfl) rfl <|
  mm_E.iload (mm_atc mc152 rfl) rfl <|
  mm_E.iconst (mm_atc mc152 rfl) <|
  mm_E.iadd (mm_atc mc152 rfl) <|
  mm_E.xload (mm_atc mc152 rfl) h5 h6 hxz1 <|
  mm_E.aload_n (mm_atc mc152 rfl) rfl <|
  mm_E.iload (mm_atc mc152 rfl) rfl <|
  mm_E.iconst (mm_atc mc152 rfl) <|
  mm_E.iadd (mm_atc mc152 rfl) <|
  mm_E.xload (mm_atc mc152 rfl) h7 h8 hxz2 <|
  mm_E.aload_n (mm_atc mc152 rfl) rfl <|
  mm_E.callS (mm_atc mc152 rfl) (mm_plc mp152 rfl) mx147 rfl rfl s0 (by omega) <|
  show mm_E _ _ 152 917 _ _ _ _ from
  mm_E.istore mx152 rfl (mm_atc mc152 rfl) <|
  show mm_E _ _ 152 919 [(5, mI z4), (0, .ref 0), (1, .ref 1), (2, .ref 77), (3, .ref 96), (4, mI x4)] _ _ _ from
  mm_E.aload_n (mm_atc mc152 rfl) rfl <|
  mm_E.aload_n (mm_atc mc152 rfl) rfl <|
  mm_E.iload (mm_atc mc152 rfl) rfl <|
  mm_E.iconst (mm_atc mc152 rfl) <|
  mm_E.iadd (mm_atc mc152 rfl) <|
  mm_E.xload (mm_atc mc152 rfl) h5 h6 hxz1 <|
  mm_E.aload_n (mm_atc mc152 rfl) rfl <|
  mm_E.iload (mm_atc mc152 rfl) rfl <|
  mm_E.iconst (mm_atc mc152 rfl) <|
  mm_E.iadd (mm_atc mc152 rfl) <|
  mm_E.xload (mm_atc mc152 rfl) h7 h8 hxz2 <|
  mm_E.callV0 (mm_atc mc152 rfl) (mm_plc mp152 rfl) rfl mk128 ly77 rfl mx128 rfl rfl s1 (by omega) <|
  show mm_E _ _ 152 935 _ _ _ _ from
  mm_E.lstore mx152 rfl (mm_atc mc152 rfl) <|
  show mm_E _ _ 152 937 [(6, mJ z6), (5, mI z4), (0, .ref 0), (1, .ref 1), (2, .ref 77), (3, .ref 96), (4, mI x4)] _ _ _ from
  mm_E.aload_n (mm_atc mc152 rfl) rfl <|
  mm_E.callV0 (mm_atc mc152 rfl) (mm_plc mp152 rfl) rfl mk111 ly77 rfl mx111 rfl rfl (p111_0_0 (d := d)) (by omega) <|
  show mm_E _ _ 152 941 _ _ _ _ from
  mm_E.iload (mm_atc mc152 rfl) rfl <|
  mm_E.if2 (mm_atc mc152 rfl) h9 h10 (ic_eqT h11) rfl <|
  mm_E.iload (mm_atc mc152 rfl) rfl <|
  mm_E.if1 (mm_atc mc152 rfl) h10 (ic_neF h12) rfl <|
  mm_E.aload_n (mm_atc mc152 rfl) rfl <|
  mm_E.iconst (mm_atc mc152 rfl) <|
  mm_E.laload (e := 0) (mm_atc mc152 rfl) ly96 rfl (by decide) (by decide) rfl (rfl) <|
  mm_E.lload (mm_atc mc152 rfl) rfl <|
  mm_E.lif (mm_atc mc152 rfl) (mm_atc mc152 rfl) h13 h14 (ic_eqT h15) rfl <|
  mm_E.goto (mm_atc mc152 rfl) rfl <|
  mm_E.inc mx152 rfl (mm_atc mc152 rfl) rfl <|
  show mm_E _ _ 152 1271 [(4, mI (x4 + 4)), (6, mJ z6), (5, mI z4), (0, .ref 0), (1, .ref 1), (2, .ref 77), (3, .ref 96)] _ _ _ from
  mm_E.goto (mm_atc mc152 rfl) rfl <|
  mm_E.to h ⟨rfl, rfl, rfl, rfl, rfl, trivial⟩
set_option maxRecDepth 100000 in
theorem q15_1 {d : Nat} {X : List Value} {A : MF} {o : Option Value ⊕ Nat} {M2 : MH} {a2 b2 : Nat} {x4 z0 z1 z3 : Int} {A2 A4 : MF} {a1 b1 : Nat} (hxl : Nat.blt X.length 100000 = true) (hxz0 : X[Int.toNat x4]? = some (mI z0)) (hxz1 : X[Int.toNat (x4 + 1)]? = some (mI z1)) (s0 : mm_E 1 d 148 0 [(0, .ref 1), (1, mI z1)] [] (mm_w X A) (.inl (some (mI z3)), mm_w X A2, a1, b1)) (s1 : mm_E 1 d 129 0 [(0, .ref 77), (1, mI z1)] [] (mm_w X A2) (.inl (none), mm_w X A4, 0, 0)) (H : R32 x4 ∧ R32 ((X.length : Int) - 4) ∧ x4 ≤ (X.length : Int) - 4 ∧ 0 ≤ x4 ∧ mm_and z0 31 = 15 ∧ 0 ≤ x4 + 1 ∧ R32 (x4 + 1) ∧ R32 (A4 77 0) ∧ R32 z3 ∧ (A4 77 0) = z3) (h : mm_E 1 (d + 1) 152 23 [(0, .ref 0), (1, .ref 1), (2, .ref 77), (3, .ref 96), (4, mI (x4 + 4))] [] (mm_w X A4) (o, M2, a2, b2)) : mm_E 1 (d + 1) 152 23 [(0, .ref 0), (1, .ref 1), (2, .ref 77), (3, .ref 96), (4, mI x4)] [] (mm_w X A) (o, M2, a1 + a2, b1 + b2) := by
  obtain ⟨h0, h1, h2, h3, h4, h5, h6, h7, h8, h9⟩ := H
  exact mm_E.iload (mm_atc mc152 rfl) rfl <|
  mm_E.aload_n (mm_atc mc152 rfl) rfl <|
  mm_E.xlen (mm_atc mc152 rfl) hxl <|
  mm_E.iconst (mm_atc mc152 rfl) <|
  mm_E.isub (mm_atc mc152 rfl) <|
  mm_E.if2 (mm_atc mc152 rfl) h0 h1 (ic_gtF h2) rfl <|
  mm_E.aload_n (mm_atc mc152 rfl) rfl <|
  mm_E.iload (mm_atc mc152 rfl) rfl <|
  mm_E.xload (mm_atc mc152 rfl) h3 h0 hxz0 <|
  mm_E.bipush (mm_atc mc152 rfl) rfl <|
  mm_E.iand (mm_atc mc152 rfl) <|
  mm_E.tswK (off := 928) (mm_atc mc152 rfl) h4 (by decide) (by decide) (by decide) (by decide) rfl <|
  show mm_E _ _ 152 967 _ _ _ _ from
  mm_E.aload_n (mm_atc mc152 rfl) rfl <|
  mm_E.aload_n (mm_atc mc152 rfl) rfl <|
  mm_E.iload (mm_atc mc152 rfl) rfl <|
  mm_E.iconst (mm_atc mc152 rfl) <|
  mm_E.iadd (mm_atc mc152 rfl) <|
  mm_E.xload (mm_atc mc152 rfl) h5 h6 hxz1 <|
  mm_E.callS (mm_atc mc152 rfl) (mm_plc mp152 rfl) mx148 rfl rfl s0 (by omega) <|
  show mm_E _ _ 152 977 _ _ _ _ from
  mm_E.istore mx152 rfl (mm_atc mc152 rfl) <|
  show mm_E _ _ 152 979 [(5, mI z3), (0, .ref 0), (1, .ref 1), (2, .ref 77), (3, .ref 96), (4, mI x4)] _ _ _ from
  mm_E.aload_n (mm_atc mc152 rfl) rfl <|
  mm_E.aload_n (mm_atc mc152 rfl) rfl <|
  mm_E.iload (mm_atc mc152 rfl) rfl <|
  mm_E.iconst (mm_atc mc152 rfl) <|
  mm_E.iadd (mm_atc mc152 rfl) <|
  mm_E.xload (mm_atc mc152 rfl) h5 h6 hxz1 <|
  mm_E.callV0 (mm_atc mc152 rfl) (mm_plc mp152 rfl) rfl mk129 ly77 rfl mx129 rfl rfl s1 (by omega) <|
  show mm_E _ _ 152 989 _ _ _ _ from
  mm_E.aload_n (mm_atc mc152 rfl) rfl <|
  mm_E.callV0 (mm_atc mc152 rfl) (mm_plc mp152 rfl) rfl mk111 ly77 rfl mx111 rfl rfl (p111_0_0 (d := d)) (by omega) <|
  show mm_E _ _ 152 993 _ _ _ _ from
  mm_E.iload (mm_atc mc152 rfl) rfl <|
  mm_E.if2 (mm_atc mc152 rfl) h7 h8 (ic_eqT h9) rfl <|
  mm_E.goto (mm_atc mc152 rfl) rfl <|
  mm_E.inc mx152 rfl (mm_atc mc152 rfl) rfl <|
  show mm_E _ _ 152 1271 [(4, mI (x4 + 4)), (5, mI z3), (0, .ref 0), (1, .ref 1), (2, .ref 77), (3, .ref 96)] _ _ _ from
  mm_E.goto (mm_atc mc152 rfl) rfl <|
  mm_E.to h ⟨rfl, rfl, rfl, rfl, rfl, trivial⟩
set_option maxRecDepth 100000 in
theorem q16_1 {d : Nat} {X : List Value} {A : MF} {o : Option Value ⊕ Nat} {M2 : MH} {a2 b2 : Nat} {x4 z0 z1 z2 z3 z5 z7 : Int} {A4 A6 : MF} {a1 b1 : Nat} (hxl : Nat.blt X.length 100000 = true) (hxz0 : X[Int.toNat x4]? = some (mI z0)) (hxz1 : X[Int.toNat (x4 + 1)]? = some (mI z1)) (hxz2 : X[Int.toNat (x4 + 2)]? = some (mI z2)) (hxz3 : X[Int.toNat (x4 + 3)]? = some (mI z3)) (s0 : mm_E 1 d 149 0 [(0, .ref 1), (1, mI z1), (2, mI z2), (3, mI z3), (4, .ref 96)] [] (mm_w X A) (.inl (some (mI z5)), mm_w X A4, a1, b1)) (s1 : mm_E 1 d 130 0 [(0, .ref 77), (1, mI z1), (2, mI z2), (3, mI z3)] [] (mm_w X A4) (.inl (some (mI z7)), mm_w X A6, 0, 0)) (H : R32 x4 ∧ R32 ((X.length : Int) - 4) ∧ x4 ≤ (X.length : Int) - 4 ∧ 0 ≤ x4 ∧ mm_and z0 31 = 16 ∧ 0 ≤ x4 + 1 ∧ R32 (x4 + 1) ∧ 0 ≤ x4 + 2 ∧ R32 (x4 + 2) ∧ 0 ≤ x4 + 3 ∧ R32 (x4 + 3) ∧ R32 (A6 77 0) ∧ R32 z5 ∧ (A6 77 0) = z5 ∧ z5 ≠ 0) (h : mm_E 1 (d + 1) 152 23 [(0, .ref 0), (1, .ref 1), (2, .ref 77), (3, .ref 96), (4, mI (x4 + 4))] [] (mm_w X A6) (o, M2, a2, b2)) : mm_E 1 (d + 1) 152 23 [(0, .ref 0), (1, .ref 1), (2, .ref 77), (3, .ref 96), (4, mI x4)] [] (mm_w X A) (o, M2, a1 + a2, b1 + b2) := by
  obtain ⟨h0, h1, h2, h3, h4, h5, h6, h7, h8, h9, h10, h11, h12, h13, h14⟩ := H
  exact mm_E.iload (mm_atc mc152 rfl) rfl <|
  mm_E.aload_n (mm_atc mc152 rfl) rfl <|
  mm_E.xlen (mm_atc mc152 rfl) hxl <|
  mm_E.iconst (mm_atc mc152 rfl) <|
  mm_E.isub (mm_atc mc152 rfl) <|
  mm_E.if2 (mm_atc mc152 rfl) h0 h1 (ic_gtF h2) rfl <|
  mm_E.aload_n (mm_atc mc152 rfl) rfl <|
  mm_E.iload (mm_atc mc152 rfl) rfl <|
  mm_E.xload (mm_atc mc152 rfl) h3 h0 hxz0 <|
  mm_E.bipush (mm_atc mc152 rfl) rfl <|
  mm_E.iand (mm_atc mc152 rfl) <|
  mm_E.tswK (off := 964) (mm_atc mc152 rfl) h4 (by decide) (by decide) (by decide) (by decide) rfl <|
  show mm_E _ _ 152 1003 _ _ _ _ from
  mm_E.aload_n (mm_atc mc152 rfl) rfl <|
  mm_E.aload_n (mm_atc mc152 rfl) rfl <|
  mm_E.iload (mm_atc mc152 rfl) rfl <|
  mm_E.iconst (mm_atc mc152 rfl) <|
  mm_E.iadd (mm_atc mc152 rfl) <|
  mm_E.xload (mm_atc mc152 rfl) h5 h6 hxz1 <|
  mm_E.aload_n (mm_atc mc152 rfl) rfl <|
  mm_E.iload (mm_atc mc152 rfl) rfl <|
  mm_E.iconst (mm_atc mc152 rfl) <|
  mm_E.iadd (mm_atc mc152 rfl) <|
  mm_E.xload (mm_atc mc152 rfl) h7 h8 hxz2 <|
  mm_E.aload_n (mm_atc mc152 rfl) rfl <|
  mm_E.iload (mm_atc mc152 rfl) rfl <|
  mm_E.iconst (mm_atc mc152 rfl) <|
  mm_E.iadd (mm_atc mc152 rfl) <|
  mm_E.xload (mm_atc mc152 rfl) h9 h10 hxz3 <|
  mm_E.aload_n (mm_atc mc152 rfl) rfl <|
  mm_E.callS (mm_atc mc152 rfl) (mm_plc mp152 rfl) mx149 rfl rfl s0 (by omega) <|
  show mm_E _ _ 152 1026 _ _ _ _ from
  mm_E.istore mx152 rfl (mm_atc mc152 rfl) <|
  show mm_E _ _ 152 1028 [(5, mI z5), (0, .ref 0), (1, .ref 1), (2, .ref 77), (3, .ref 96), (4, mI x4)] _ _ _ from
  mm_E.aload_n (mm_atc mc152 rfl) rfl <|
  mm_E.aload_n (mm_atc mc152 rfl) rfl <|
  mm_E.iload (mm_atc mc152 rfl) rfl <|
  mm_E.iconst (mm_atc mc152 rfl) <|
  mm_E.iadd (mm_atc mc152 rfl) <|
  mm_E.xload (mm_atc mc152 rfl) h5 h6 hxz1 <|
  mm_E.aload_n (mm_atc mc152 rfl) rfl <|
  mm_E.iload (mm_atc mc152 rfl) rfl <|
  mm_E.iconst (mm_atc mc152 rfl) <|
  mm_E.iadd (mm_atc mc152 rfl) <|
  mm_E.xload (mm_atc mc152 rfl) h7 h8 hxz2 <|
  mm_E.aload_n (mm_atc mc152 rfl) rfl <|
  mm_E.iload (mm_atc mc152 rfl) rfl <|
  mm_E.iconst (mm_atc mc152 rfl) <|
  mm_E.iadd (mm_atc mc152 rfl) <|
  mm_E.xload (mm_atc mc152 rfl) h9 h10 hxz3 <|
  mm_E.callV0 (mm_atc mc152 rfl) (mm_plc mp152 rfl) rfl mk130 ly77 rfl mx130 rfl rfl s1 (by omega) <|
  show mm_E _ _ 152 1050 _ _ _ _ from
  mm_E.istore mx152 rfl (mm_atc mc152 rfl) <|
  show mm_E _ _ 152 1052 [(6, mI z7), (5, mI z5), (0, .ref 0), (1, .ref 1), (2, .ref 77), (3, .ref 96), (4, mI x4)] _ _ _ from
  mm_E.aload_n (mm_atc mc152 rfl) rfl <|
  mm_E.callV0 (mm_atc mc152 rfl) (mm_plc mp152 rfl) rfl mk111 ly77 rfl mx111 rfl rfl (p111_0_0 (d := d)) (by omega) <|
  show mm_E _ _ 152 1056 _ _ _ _ from
  mm_E.iload (mm_atc mc152 rfl) rfl <|
  mm_E.if2 (mm_atc mc152 rfl) h11 h12 (ic_eqT h13) rfl <|
  mm_E.iload (mm_atc mc152 rfl) rfl <|
  mm_E.if1 (mm_atc mc152 rfl) h12 (ic_neT h14) rfl <|
  mm_E.goto (mm_atc mc152 rfl) rfl <|
  mm_E.inc mx152 rfl (mm_atc mc152 rfl) rfl <|
  show mm_E _ _ 152 1271 [(4, mI (x4 + 4)), (6, mI z7), (5, mI z5), (0, .ref 0), (1, .ref 1), (2, .ref 77), (3, .ref 96)] _ _ _ from
  mm_E.goto (mm_atc mc152 rfl) rfl <|
  mm_E.to h ⟨rfl, rfl, rfl, rfl, rfl, trivial⟩
set_option maxRecDepth 100000 in
theorem q16_2 {d : Nat} {X : List Value} {A : MF} {o : Option Value ⊕ Nat} {M2 : MH} {a2 b2 : Nat} {x4 z0 z1 z2 z3 z5 z7 : Int} {A4 A6 : MF} {a1 b1 : Nat} (hxl : Nat.blt X.length 100000 = true) (hxz0 : X[Int.toNat x4]? = some (mI z0)) (hxz1 : X[Int.toNat (x4 + 1)]? = some (mI z1)) (hxz2 : X[Int.toNat (x4 + 2)]? = some (mI z2)) (hxz3 : X[Int.toNat (x4 + 3)]? = some (mI z3)) (s0 : mm_E 1 d 149 0 [(0, .ref 1), (1, mI z1), (2, mI z2), (3, mI z3), (4, .ref 96)] [] (mm_w X A) (.inl (some (mI z5)), mm_w X A4, a1, b1)) (s1 : mm_E 1 d 130 0 [(0, .ref 77), (1, mI z1), (2, mI z2), (3, mI z3)] [] (mm_w X A4) (.inl (some (mI z7)), mm_w X A6, 0, 0)) (H : R32 x4 ∧ R32 ((X.length : Int) - 4) ∧ x4 ≤ (X.length : Int) - 4 ∧ 0 ≤ x4 ∧ mm_and z0 31 = 16 ∧ 0 ≤ x4 + 1 ∧ R32 (x4 + 1) ∧ 0 ≤ x4 + 2 ∧ R32 (x4 + 2) ∧ 0 ≤ x4 + 3 ∧ R32 (x4 + 3) ∧ R32 (A6 77 0) ∧ R32 z5 ∧ (A6 77 0) = z5 ∧ z5 = 0 ∧ R32 z7 ∧ R64 (A6 96 0) ∧ R64 z7 ∧ A6 96 0 = z7) (h : mm_E 1 (d + 1) 152 23 [(0, .ref 0), (1, .ref 1), (2, .ref 77), (3, .ref 96), (4, mI (x4 + 4))] [] (mm_w X A6) (o, M2, a2, b2)) : mm_E 1 (d + 1) 152 23 [(0, .ref 0), (1, .ref 1), (2, .ref 77), (3, .ref 96), (4, mI x4)] [] (mm_w X A) (o, M2, a1 + a2, b1 + b2) := by
  obtain ⟨h0, h1, h2, h3, h4, h5, h6, h7, h8, h9, h10, h11, h12, h13, h14, h15, h16, h17, h18⟩ := H
  exact mm_E.iload (mm_atc mc152 rfl) rfl <|
  mm_E.aload_n (mm_atc mc152 rfl) rfl <|
  mm_E.xlen (mm_atc mc152 rfl) hxl <|
  mm_E.iconst (mm_atc mc152 rfl) <|
  mm_E.isub (mm_atc mc152 rfl) <|
  mm_E.if2 (mm_atc mc152 rfl) h0 h1 (ic_gtF h2) rfl <|
  mm_E.aload_n (mm_atc mc152 rfl) rfl <|
  mm_E.iload (mm_atc mc152 rfl) rfl <|
  mm_E.xload (mm_atc mc152 rfl) h3 h0 hxz0 <|
  mm_E.bipush (mm_atc mc152 rfl) rfl <|
  mm_E.iand (mm_atc mc152 rfl) <|
  mm_E.tswK (off := 964) (mm_atc mc152 rfl) h4 (by decide) (by decide) (by decide) (by decide) rfl <|
  show mm_E _ _ 152 1003 _ _ _ _ from
  mm_E.aload_n (mm_atc mc152 rfl) rfl <|
  mm_E.aload_n (mm_atc mc152 rfl) rfl <|
  mm_E.iload (mm_atc mc152 rfl) rfl <|
  mm_E.iconst (mm_atc mc152 rfl) <|
  mm_E.iadd (mm_atc mc152 rfl) <|
  mm_E.xload (mm_atc mc152 rfl) h5 h6 hxz1 <|
  mm_E.aload_n (mm_atc mc152 rfl) rfl <|
  mm_E.iload (mm_atc mc152 rfl) rfl <|
  mm_E.iconst (mm_atc mc152 rfl) <|
  mm_E.iadd (mm_atc mc152 rfl) <|
  mm_E.xload (mm_atc mc152 rfl) h7 h8 hxz2 <|
  mm_E.aload_n (mm_atc mc152 rfl) rfl <|
  mm_E.iload (mm_atc mc152 rfl) rfl <|
  mm_E.iconst (mm_atc mc152 rfl) <|
  mm_E.iadd (mm_atc mc152 rfl) <|
  mm_E.xload (mm_atc mc152 rfl) h9 h10 hxz3 <|
  mm_E.aload_n (mm_atc mc152 rfl) rfl <|
  mm_E.callS (mm_atc mc152 rfl) (mm_plc mp152 rfl) mx149 rfl rfl s0 (by omega) <|
  show mm_E _ _ 152 1026 _ _ _ _ from
  mm_E.istore mx152 rfl (mm_atc mc152 rfl) <|
  show mm_E _ _ 152 1028 [(5, mI z5), (0, .ref 0), (1, .ref 1), (2, .ref 77), (3, .ref 96), (4, mI x4)] _ _ _ from
  mm_E.aload_n (mm_atc mc152 rfl) rfl <|
  mm_E.aload_n (mm_atc mc152 rfl) rfl <|
  mm_E.iload (mm_atc mc152 rfl) rfl <|
  mm_E.iconst (mm_atc mc152 rfl) <|
  mm_E.iadd (mm_atc mc152 rfl) <|
  mm_E.xload (mm_atc mc152 rfl) h5 h6 hxz1 <|
  mm_E.aload_n (mm_atc mc152 rfl) rfl <|
  mm_E.iload (mm_atc mc152 rfl) rfl <|
  mm_E.iconst (mm_atc mc152 rfl) <|
  mm_E.iadd (mm_atc mc152 rfl) <|
  mm_E.xload (mm_atc mc152 rfl) h7 h8 hxz2 <|
  mm_E.aload_n (mm_atc mc152 rfl) rfl <|
  mm_E.iload (mm_atc mc152 rfl) rfl <|
  mm_E.iconst (mm_atc mc152 rfl) <|
  mm_E.iadd (mm_atc mc152 rfl) <|
  mm_E.xload (mm_atc mc152 rfl) h9 h10 hxz3 <|
  mm_E.callV0 (mm_atc mc152 rfl) (mm_plc mp152 rfl) rfl mk130 ly77 rfl mx130 rfl rfl s1 (by omega) <|
  show mm_E _ _ 152 1050 _ _ _ _ from
  mm_E.istore mx152 rfl (mm_atc mc152 rfl) <|
  show mm_E _ _ 152 1052 [(6, mI z7), (5, mI z5), (0, .ref 0), (1, .ref 1), (2, .ref 77), (3, .ref 96), (4, mI x4)] _ _ _ from
  mm_E.aload_n (mm_atc mc152 rfl) rfl <|
  mm_E.callV0 (mm_atc mc152 rfl) (mm_plc mp152 rfl) rfl mk111 ly77 rfl mx111 rfl rfl (p111_0_0 (d := d)) (by omega) <|
  show mm_E _ _ 152 1056 _ _ _ _ from
  mm_E.iload (mm_atc mc152 rfl) rfl <|
  mm_E.if2 (mm_atc mc152 rfl) h11 h12 (ic_eqT h13) rfl <|
  mm_E.iload (mm_atc mc152 rfl) rfl <|
  mm_E.if1 (mm_atc mc152 rfl) h12 (ic_neF h14) rfl <|
  mm_E.aload_n (mm_atc mc152 rfl) rfl <|
  mm_E.iconst (mm_atc mc152 rfl) <|
  mm_E.laload (e := 0) (mm_atc mc152 rfl) ly96 rfl (by decide) (by decide) rfl (rfl) <|
  mm_E.iload (mm_atc mc152 rfl) rfl <|
  mm_E.i2l h15 (mm_atc mc152 rfl) <|
  mm_E.lif (mm_atc mc152 rfl) (mm_atc mc152 rfl) h16 h17 (ic_eqT h18) rfl <|
  mm_E.goto (mm_atc mc152 rfl) rfl <|
  mm_E.inc mx152 rfl (mm_atc mc152 rfl) rfl <|
  show mm_E _ _ 152 1271 [(4, mI (x4 + 4)), (6, mI z7), (5, mI z5), (0, .ref 0), (1, .ref 1), (2, .ref 77), (3, .ref 96)] _ _ _ from
  mm_E.goto (mm_atc mc152 rfl) rfl <|
  mm_E.to h ⟨rfl, rfl, rfl, rfl, rfl, trivial⟩
set_option maxRecDepth 100000 in
theorem q17_1 {d : Nat} {X : List Value} {A : MF} {r : MR} {x4 z0 z1 : Int} {A2 A3 : MF} (hxl : Nat.blt X.length 100000 = true) (hxz0 : X[Int.toNat x4]? = some (mI z0)) (hxz1 : X[Int.toNat (x4 + 1)]? = some (mI z1)) (s0 : mm_E 1 d 18 0 [(0, .ref 1), (1, mI 0)] [] (mm_w X A) (.inl (none), mm_w X A2, 0, 0)) (s1 : mm_E 1 d 131 0 [(0, .ref 77), (1, mI 0)] [] (mm_w X A2) (.inl (none), mm_w X A3, 0, 0)) (H : R32 x4 ∧ R32 ((X.length : Int) - 4) ∧ x4 ≤ (X.length : Int) - 4 ∧ 0 ≤ x4 ∧ mm_and z0 31 = 17 ∧ 0 ≤ x4 + 1 ∧ R32 (x4 + 1) ∧ R32 z1 ∧ z1 = 0) (h : mm_E 1 (d + 1) 152 23 [(0, .ref 0), (1, .ref 1), (2, .ref 77), (3, .ref 96), (4, mI (x4 + 4))] [] (mm_w X A3) r) : mm_E 1 (d + 1) 152 23 [(0, .ref 0), (1, .ref 1), (2, .ref 77), (3, .ref 96), (4, mI x4)] [] (mm_w X A) r := by
  obtain ⟨h0, h1, h2, h3, h4, h5, h6, h7, h8⟩ := H
  exact mm_E.iload (mm_atc mc152 rfl) rfl <|
  mm_E.aload_n (mm_atc mc152 rfl) rfl <|
  mm_E.xlen (mm_atc mc152 rfl) hxl <|
  mm_E.iconst (mm_atc mc152 rfl) <|
  mm_E.isub (mm_atc mc152 rfl) <|
  mm_E.if2 (mm_atc mc152 rfl) h0 h1 (ic_gtF h2) rfl <|
  mm_E.aload_n (mm_atc mc152 rfl) rfl <|
  mm_E.iload (mm_atc mc152 rfl) rfl <|
  mm_E.xload (mm_atc mc152 rfl) h3 h0 hxz0 <|
  mm_E.bipush (mm_atc mc152 rfl) rfl <|
  mm_E.iand (mm_atc mc152 rfl) <|
  mm_E.tswK (off := 1044) (mm_atc mc152 rfl) h4 (by decide) (by decide) (by decide) (by decide) rfl <|
  show mm_E _ _ 152 1083 _ _ _ _ from
  mm_E.aload_n (mm_atc mc152 rfl) rfl <|
  mm_E.aload_n (mm_atc mc152 rfl) rfl <|
  mm_E.iload (mm_atc mc152 rfl) rfl <|
  mm_E.iconst (mm_atc mc152 rfl) <|
  mm_E.iadd (mm_atc mc152 rfl) <|
  mm_E.xload (mm_atc mc152 rfl) h5 h6 hxz1 <|
  mm_E.if1 (mm_atc mc152 rfl) h7 (ic_eqT h8) rfl <|
  mm_E.iconst (mm_atc mc152 rfl) <|
  mm_E.callV0 (mm_atc mc152 rfl) (mm_plc mp152 rfl) rfl mk18 ly1 rfl mx18 rfl rfl s0 (by omega) <|
  show mm_E _ _ 152 1101 _ _ _ _ from
  mm_E.aload_n (mm_atc mc152 rfl) rfl <|
  mm_E.aload_n (mm_atc mc152 rfl) rfl <|
  mm_E.iload (mm_atc mc152 rfl) rfl <|
  mm_E.iconst (mm_atc mc152 rfl) <|
  mm_E.iadd (mm_atc mc152 rfl) <|
  mm_E.xload (mm_atc mc152 rfl) h5 h6 hxz1 <|
  mm_E.if1 (mm_atc mc152 rfl) h7 (ic_eqT h8) rfl <|
  mm_E.iconst (mm_atc mc152 rfl) <|
  mm_E.callV0 (mm_atc mc152 rfl) (mm_plc mp152 rfl) rfl mk131 ly77 rfl mx131 rfl rfl s1 (by omega) <|
  show mm_E _ _ 152 1119 _ _ _ _ from
  mm_E.goto (mm_atc mc152 rfl) rfl <|
  mm_E.inc mx152 rfl (mm_atc mc152 rfl) rfl <|
  show mm_E _ _ 152 1271 [(4, mI (x4 + 4)), (0, .ref 0), (1, .ref 1), (2, .ref 77), (3, .ref 96)] _ _ _ from
  mm_E.goto (mm_atc mc152 rfl) rfl <|
  mm_E.to h ⟨rfl, rfl, rfl, rfl, rfl, trivial⟩
set_option maxRecDepth 100000 in
theorem q17_2 {d : Nat} {X : List Value} {A : MF} {r : MR} {x4 z0 z1 : Int} {A2 A3 : MF} (hxl : Nat.blt X.length 100000 = true) (hxz0 : X[Int.toNat x4]? = some (mI z0)) (hxz1 : X[Int.toNat (x4 + 1)]? = some (mI z1)) (s0 : mm_E 1 d 18 0 [(0, .ref 1), (1, mI 1)] [] (mm_w X A) (.inl (none), mm_w X A2, 0, 0)) (s1 : mm_E 1 d 131 0 [(0, .ref 77), (1, mI 1)] [] (mm_w X A2) (.inl (none), mm_w X A3, 0, 0)) (H : R32 x4 ∧ R32 ((X.length : Int) - 4) ∧ x4 ≤ (X.length : Int) - 4 ∧ 0 ≤ x4 ∧ mm_and z0 31 = 17 ∧ 0 ≤ x4 + 1 ∧ R32 (x4 + 1) ∧ R32 z1 ∧ z1 ≠ 0) (h : mm_E 1 (d + 1) 152 23 [(0, .ref 0), (1, .ref 1), (2, .ref 77), (3, .ref 96), (4, mI (x4 + 4))] [] (mm_w X A3) r) : mm_E 1 (d + 1) 152 23 [(0, .ref 0), (1, .ref 1), (2, .ref 77), (3, .ref 96), (4, mI x4)] [] (mm_w X A) r := by
  obtain ⟨h0, h1, h2, h3, h4, h5, h6, h7, h8⟩ := H
  exact mm_E.iload (mm_atc mc152 rfl) rfl <|
  mm_E.aload_n (mm_atc mc152 rfl) rfl <|
  mm_E.xlen (mm_atc mc152 rfl) hxl <|
  mm_E.iconst (mm_atc mc152 rfl) <|
  mm_E.isub (mm_atc mc152 rfl) <|
  mm_E.if2 (mm_atc mc152 rfl) h0 h1 (ic_gtF h2) rfl <|
  mm_E.aload_n (mm_atc mc152 rfl) rfl <|
  mm_E.iload (mm_atc mc152 rfl) rfl <|
  mm_E.xload (mm_atc mc152 rfl) h3 h0 hxz0 <|
  mm_E.bipush (mm_atc mc152 rfl) rfl <|
  mm_E.iand (mm_atc mc152 rfl) <|
  mm_E.tswK (off := 1044) (mm_atc mc152 rfl) h4 (by decide) (by decide) (by decide) (by decide) rfl <|
  show mm_E _ _ 152 1083 _ _ _ _ from
  mm_E.aload_n (mm_atc mc152 rfl) rfl <|
  mm_E.aload_n (mm_atc mc152 rfl) rfl <|
  mm_E.iload (mm_atc mc152 rfl) rfl <|
  mm_E.iconst (mm_atc mc152 rfl) <|
  mm_E.iadd (mm_atc mc152 rfl) <|
  mm_E.xload (mm_atc mc152 rfl) h5 h6 hxz1 <|
  mm_E.if1 (mm_atc mc152 rfl) h7 (ic_eqF h8) rfl <|
  mm_E.iconst (mm_atc mc152 rfl) <|
  mm_E.goto (mm_atc mc152 rfl) rfl <|
  mm_E.callV0 (mm_atc mc152 rfl) (mm_plc mp152 rfl) rfl mk18 ly1 rfl mx18 rfl rfl s0 (by omega) <|
  show mm_E _ _ 152 1101 _ _ _ _ from
  mm_E.aload_n (mm_atc mc152 rfl) rfl <|
  mm_E.aload_n (mm_atc mc152 rfl) rfl <|
  mm_E.iload (mm_atc mc152 rfl) rfl <|
  mm_E.iconst (mm_atc mc152 rfl) <|
  mm_E.iadd (mm_atc mc152 rfl) <|
  mm_E.xload (mm_atc mc152 rfl) h5 h6 hxz1 <|
  mm_E.if1 (mm_atc mc152 rfl) h7 (ic_eqF h8) rfl <|
  mm_E.iconst (mm_atc mc152 rfl) <|
  mm_E.goto (mm_atc mc152 rfl) rfl <|
  mm_E.callV0 (mm_atc mc152 rfl) (mm_plc mp152 rfl) rfl mk131 ly77 rfl mx131 rfl rfl s1 (by omega) <|
  show mm_E _ _ 152 1119 _ _ _ _ from
  mm_E.goto (mm_atc mc152 rfl) rfl <|
  mm_E.inc mx152 rfl (mm_atc mc152 rfl) rfl <|
  show mm_E _ _ 152 1271 [(4, mI (x4 + 4)), (0, .ref 0), (1, .ref 1), (2, .ref 77), (3, .ref 96)] _ _ _ from
  mm_E.goto (mm_atc mc152 rfl) rfl <|
  mm_E.to h ⟨rfl, rfl, rfl, rfl, rfl, trivial⟩
set_option maxRecDepth 100000 in
theorem q18_1 {d : Nat} {X : List Value} {A : MF} {o : Option Value ⊕ Nat} {M2 : MH} {a2 b2 : Nat} {x4 z0 z1 z2 z4 z6 : Int} {A3 A5 : MF} {a1 b1 : Nat} (hxl : Nat.blt X.length 100000 = true) (hxz0 : X[Int.toNat x4]? = some (mI z0)) (hxz1 : X[Int.toNat (x4 + 1)]? = some (mI z1)) (hxz2 : X[Int.toNat (x4 + 2)]? = some (mI z2)) (s0 : mm_E 1 d 150 0 [(0, .ref 1), (1, mI z1), (2, mI z2), (3, .ref 96)] [] (mm_w X A) (.inl (some (mI z4)), mm_w X A3, a1, b1)) (s1 : mm_E 1 d 132 0 [(0, .ref 77), (1, mI z1), (2, mI z2)] [] (mm_w X A3) (.inl (some (mJ z6)), mm_w X A5, 0, 0)) (H : R32 x4 ∧ R32 ((X.length : Int) - 4) ∧ x4 ≤ (X.length : Int) - 4 ∧ 0 ≤ x4 ∧ mm_and z0 31 = 18 ∧ 0 ≤ x4 + 1 ∧ R32 (x4 + 1) ∧ 0 ≤ x4 + 2 ∧ R32 (x4 + 2) ∧ R32 (A5 77 0) ∧ R32 z4 ∧ (A5 77 0) = z4 ∧ z4 ≠ 0) (h : mm_E 1 (d + 1) 152 23 [(0, .ref 0), (1, .ref 1), (2, .ref 77), (3, .ref 96), (4, mI (x4 + 4))] [] (mm_w X A5) (o, M2, a2, b2)) : mm_E 1 (d + 1) 152 23 [(0, .ref 0), (1, .ref 1), (2, .ref 77), (3, .ref 96), (4, mI x4)] [] (mm_w X A) (o, M2, a1 + a2, b1 + b2) := by
  obtain ⟨h0, h1, h2, h3, h4, h5, h6, h7, h8, h9, h10, h11, h12⟩ := H
  exact mm_E.iload (mm_atc mc152 rfl) rfl <|
  mm_E.aload_n (mm_atc mc152 rfl) rfl <|
  mm_E.xlen (mm_atc mc152 rfl) hxl <|
  mm_E.iconst (mm_atc mc152 rfl) <|
  mm_E.isub (mm_atc mc152 rfl) <|
  mm_E.if2 (mm_atc mc152 rfl) h0 h1 (ic_gtF h2) rfl <|
  mm_E.aload_n (mm_atc mc152 rfl) rfl <|
  mm_E.iload (mm_atc mc152 rfl) rfl <|
  mm_E.xload (mm_atc mc152 rfl) h3 h0 hxz0 <|
  mm_E.bipush (mm_atc mc152 rfl) rfl <|
  mm_E.iand (mm_atc mc152 rfl) <|
  mm_E.tswK (off := 1083) (mm_atc mc152 rfl) h4 (by decide) (by decide) (by decide) (by decide) rfl <|
  show mm_E _ _ 152 1122 _ _ _ _ from
  mm_E.aload_n (mm_atc mc152 rfl) rfl <|
  mm_E.aload_n (mm_atc mc152 rfl) rfl <|
  mm_E.iload (mm_atc mc152 rfl) rfl <|
  mm_E.iconst (mm_atc mc152 rfl) <|
  mm_E.iadd (mm_atc mc152 rfl) <|
  mm_E.xload (mm_atc mc152 rfl) h5 h6 hxz1 <|
  mm_E.aload_n (mm_atc mc152 rfl) rfl <|
  mm_E.iload (mm_atc mc152 rfl) rfl <|
  mm_E.iconst (mm_atc mc152 rfl) <|
  mm_E.iadd (mm_atc mc152 rfl) <|
  mm_E.xload (mm_atc mc152 rfl) h7 h8 hxz2 <|
  mm_E.aload_n (mm_atc mc152 rfl) rfl <|
  mm_E.callS (mm_atc mc152 rfl) (mm_plc mp152 rfl) mx150 rfl rfl s0 (by omega) <|
  show mm_E _ _ 152 1139 _ _ _ _ from
  mm_E.istore mx152 rfl (mm_atc mc152 rfl) <|
  show mm_E _ _ 152 1141 [(5, mI z4), (0, .ref 0), (1, .ref 1), (2, .ref 77), (3, .ref 96), (4, mI x4)] _ _ _ from
  mm_E.aload_n (mm_atc mc152 rfl) rfl <|
  mm_E.aload_n (mm_atc mc152 rfl) rfl <|
  mm_E.iload (mm_atc mc152 rfl) rfl <|
  mm_E.iconst (mm_atc mc152 rfl) <|
  mm_E.iadd (mm_atc mc152 rfl) <|
  mm_E.xload (mm_atc mc152 rfl) h5 h6 hxz1 <|
  mm_E.aload_n (mm_atc mc152 rfl) rfl <|
  mm_E.iload (mm_atc mc152 rfl) rfl <|
  mm_E.iconst (mm_atc mc152 rfl) <|
  mm_E.iadd (mm_atc mc152 rfl) <|
  mm_E.xload (mm_atc mc152 rfl) h7 h8 hxz2 <|
  mm_E.callV0 (mm_atc mc152 rfl) (mm_plc mp152 rfl) rfl mk132 ly77 rfl mx132 rfl rfl s1 (by omega) <|
  show mm_E _ _ 152 1157 _ _ _ _ from
  mm_E.lstore mx152 rfl (mm_atc mc152 rfl) <|
  show mm_E _ _ 152 1159 [(6, mJ z6), (5, mI z4), (0, .ref 0), (1, .ref 1), (2, .ref 77), (3, .ref 96), (4, mI x4)] _ _ _ from
  mm_E.aload_n (mm_atc mc152 rfl) rfl <|
  mm_E.callV0 (mm_atc mc152 rfl) (mm_plc mp152 rfl) rfl mk111 ly77 rfl mx111 rfl rfl (p111_0_0 (d := d)) (by omega) <|
  show mm_E _ _ 152 1163 _ _ _ _ from
  mm_E.iload (mm_atc mc152 rfl) rfl <|
  mm_E.if2 (mm_atc mc152 rfl) h9 h10 (ic_eqT h11) rfl <|
  mm_E.iload (mm_atc mc152 rfl) rfl <|
  mm_E.if1 (mm_atc mc152 rfl) h10 (ic_neT h12) rfl <|
  mm_E.goto (mm_atc mc152 rfl) rfl <|
  mm_E.inc mx152 rfl (mm_atc mc152 rfl) rfl <|
  show mm_E _ _ 152 1271 [(4, mI (x4 + 4)), (6, mJ z6), (5, mI z4), (0, .ref 0), (1, .ref 1), (2, .ref 77), (3, .ref 96)] _ _ _ from
  mm_E.goto (mm_atc mc152 rfl) rfl <|
  mm_E.to h ⟨rfl, rfl, rfl, rfl, rfl, trivial⟩
set_option maxRecDepth 100000 in
theorem q18_2 {d : Nat} {X : List Value} {A : MF} {o : Option Value ⊕ Nat} {M2 : MH} {a2 b2 : Nat} {x4 z0 z1 z2 z4 z6 : Int} {A3 A5 : MF} {a1 b1 : Nat} (hxl : Nat.blt X.length 100000 = true) (hxz0 : X[Int.toNat x4]? = some (mI z0)) (hxz1 : X[Int.toNat (x4 + 1)]? = some (mI z1)) (hxz2 : X[Int.toNat (x4 + 2)]? = some (mI z2)) (s0 : mm_E 1 d 150 0 [(0, .ref 1), (1, mI z1), (2, mI z2), (3, .ref 96)] [] (mm_w X A) (.inl (some (mI z4)), mm_w X A3, a1, b1)) (s1 : mm_E 1 d 132 0 [(0, .ref 77), (1, mI z1), (2, mI z2)] [] (mm_w X A3) (.inl (some (mJ z6)), mm_w X A5, 0, 0)) (H : R32 x4 ∧ R32 ((X.length : Int) - 4) ∧ x4 ≤ (X.length : Int) - 4 ∧ 0 ≤ x4 ∧ mm_and z0 31 = 18 ∧ 0 ≤ x4 + 1 ∧ R32 (x4 + 1) ∧ 0 ≤ x4 + 2 ∧ R32 (x4 + 2) ∧ R32 (A5 77 0) ∧ R32 z4 ∧ (A5 77 0) = z4 ∧ z4 = 0 ∧ R64 (A5 96 0) ∧ R64 z6 ∧ A5 96 0 = z6) (h : mm_E 1 (d + 1) 152 23 [(0, .ref 0), (1, .ref 1), (2, .ref 77), (3, .ref 96), (4, mI (x4 + 4))] [] (mm_w X A5) (o, M2, a2, b2)) : mm_E 1 (d + 1) 152 23 [(0, .ref 0), (1, .ref 1), (2, .ref 77), (3, .ref 96), (4, mI x4)] [] (mm_w X A) (o, M2, a1 + a2, b1 + b2) := by
  obtain ⟨h0, h1, h2, h3, h4, h5, h6, h7, h8, h9, h10, h11, h12, h13, h14, h15⟩ := H
  exact mm_E.iload (mm_atc mc152 rfl) rfl <|
  mm_E.aload_n (mm_atc mc152 rfl) rfl <|
  mm_E.xlen (mm_atc mc152 rfl) hxl <|
  mm_E.iconst (mm_atc mc152 rfl) <|
  mm_E.isub (mm_atc mc152 rfl) <|
  mm_E.if2 (mm_atc mc152 rfl) h0 h1 (ic_gtF h2) rfl <|
  mm_E.aload_n (mm_atc mc152 rfl) rfl <|
  mm_E.iload (mm_atc mc152 rfl) rfl <|
  mm_E.xload (mm_atc mc152 rfl) h3 h0 hxz0 <|
  mm_E.bipush (mm_atc mc152 rfl) rfl <|
  mm_E.iand (mm_atc mc152 rfl) <|
  mm_E.tswK (off := 1083) (mm_atc mc152 rfl) h4 (by decide) (by decide) (by decide) (by decide) rfl <|
  show mm_E _ _ 152 1122 _ _ _ _ from
  mm_E.aload_n (mm_atc mc152 rfl) rfl <|
  mm_E.aload_n (mm_atc mc152 rfl) rfl <|
  mm_E.iload (mm_atc mc152 rfl) rfl <|
  mm_E.iconst (mm_atc mc152 rfl) <|
  mm_E.iadd (mm_atc mc152 rfl) <|
  mm_E.xload (mm_atc mc152 rfl) h5 h6 hxz1 <|
  mm_E.aload_n (mm_atc mc152 rfl) rfl <|
  mm_E.iload (mm_atc mc152 rfl) rfl <|
  mm_E.iconst (mm_atc mc152 rfl) <|
  mm_E.iadd (mm_atc mc152 rfl) <|
  mm_E.xload (mm_atc mc152 rfl) h7 h8 hxz2 <|
  mm_E.aload_n (mm_atc mc152 rfl) rfl <|
  mm_E.callS (mm_atc mc152 rfl) (mm_plc mp152 rfl) mx150 rfl rfl s0 (by omega) <|
  show mm_E _ _ 152 1139 _ _ _ _ from
  mm_E.istore mx152 rfl (mm_atc mc152 rfl) <|
  show mm_E _ _ 152 1141 [(5, mI z4), (0, .ref 0), (1, .ref 1), (2, .ref 77), (3, .ref 96), (4, mI x4)] _ _ _ from
  mm_E.aload_n (mm_atc mc152 rfl) rfl <|
  mm_E.aload_n (mm_atc mc152 rfl) rfl <|
  mm_E.iload (mm_atc mc152 rfl) rfl <|
  mm_E.iconst (mm_atc mc152 rfl) <|
  mm_E.iadd (mm_atc mc152 rfl) <|
  mm_E.xload (mm_atc mc152 rfl) h5 h6 hxz1 <|
  mm_E.aload_n (mm_atc mc152 rfl) rfl <|
  mm_E.iload (mm_atc mc152 rfl) rfl <|
  mm_E.iconst (mm_atc mc152 rfl) <|
  mm_E.iadd (mm_atc mc152 rfl) <|
  mm_E.xload (mm_atc mc152 rfl) h7 h8 hxz2 <|
  mm_E.callV0 (mm_atc mc152 rfl) (mm_plc mp152 rfl) rfl mk132 ly77 rfl mx132 rfl rfl s1 (by omega) <|
  show mm_E _ _ 152 1157 _ _ _ _ from
  mm_E.lstore mx152 rfl (mm_atc mc152 rfl) <|
  show mm_E _ _ 152 1159 [(6, mJ z6), (5, mI z4), (0, .ref 0), (1, .ref 1), (2, .ref 77), (3, .ref 96), (4, mI x4)] _ _ _ from
  mm_E.aload_n (mm_atc mc152 rfl) rfl <|
  mm_E.callV0 (mm_atc mc152 rfl) (mm_plc mp152 rfl) rfl mk111 ly77 rfl mx111 rfl rfl (p111_0_0 (d := d)) (by omega) <|
  show mm_E _ _ 152 1163 _ _ _ _ from
  mm_E.iload (mm_atc mc152 rfl) rfl <|
  mm_E.if2 (mm_atc mc152 rfl) h9 h10 (ic_eqT h11) rfl <|
  mm_E.iload (mm_atc mc152 rfl) rfl <|
  mm_E.if1 (mm_atc mc152 rfl) h10 (ic_neF h12) rfl <|
  mm_E.aload_n (mm_atc mc152 rfl) rfl <|
  mm_E.iconst (mm_atc mc152 rfl) <|
  mm_E.laload (e := 0) (mm_atc mc152 rfl) ly96 rfl (by decide) (by decide) rfl (rfl) <|
  mm_E.lload (mm_atc mc152 rfl) rfl <|
  mm_E.lif (mm_atc mc152 rfl) (mm_atc mc152 rfl) h13 h14 (ic_eqT h15) rfl <|
  mm_E.goto (mm_atc mc152 rfl) rfl <|
  mm_E.inc mx152 rfl (mm_atc mc152 rfl) rfl <|
  show mm_E _ _ 152 1271 [(4, mI (x4 + 4)), (6, mJ z6), (5, mI z4), (0, .ref 0), (1, .ref 1), (2, .ref 77), (3, .ref 96)] _ _ _ from
  mm_E.goto (mm_atc mc152 rfl) rfl <|
  mm_E.to h ⟨rfl, rfl, rfl, rfl, rfl, trivial⟩
set_option maxRecDepth 100000 in
theorem q19_1 {d : Nat} {X : List Value} {A : MF} {o : Option Value ⊕ Nat} {M2 : MH} {a2 b2 : Nat} {x4 z0 z1 z2 z3 z5 z7 : Int} {A4 A6 : MF} {a1 b1 : Nat} (hxl : Nat.blt X.length 100000 = true) (hxz0 : X[Int.toNat x4]? = some (mI z0)) (hxz1 : X[Int.toNat (x4 + 1)]? = some (mI z1)) (hxz2 : X[Int.toNat (x4 + 2)]? = some (mI z2)) (hxz3 : X[Int.toNat (x4 + 3)]? = some (mI z3)) (s0 : mm_E 1 d 151 0 [(0, .ref 1), (1, mI z1), (2, mI z2), (3, mI z3), (4, .ref 96)] [] (mm_w X A) (.inl (some (mI z5)), mm_w X A4, a1, b1)) (s1 : mm_E 1 d 133 0 [(0, .ref 77), (1, mI z1), (2, mI z2), (3, mI z3)] [] (mm_w X A4) (.inl (some (mJ z7)), mm_w X A6, 0, 0)) (H : R32 x4 ∧ R32 ((X.length : Int) - 4) ∧ x4 ≤ (X.length : Int) - 4 ∧ 0 ≤ x4 ∧ mm_and z0 31 = 19 ∧ 0 ≤ x4 + 1 ∧ R32 (x4 + 1) ∧ 0 ≤ x4 + 2 ∧ R32 (x4 + 2) ∧ 0 ≤ x4 + 3 ∧ R32 (x4 + 3) ∧ R32 (A6 77 0) ∧ R32 z5 ∧ (A6 77 0) = z5 ∧ z5 ≠ 0) (h : mm_E 1 (d + 1) 152 23 [(0, .ref 0), (1, .ref 1), (2, .ref 77), (3, .ref 96), (4, mI (x4 + 4))] [] (mm_w X A6) (o, M2, a2, b2)) : mm_E 1 (d + 1) 152 23 [(0, .ref 0), (1, .ref 1), (2, .ref 77), (3, .ref 96), (4, mI x4)] [] (mm_w X A) (o, M2, a1 + a2, b1 + b2) := by
  obtain ⟨h0, h1, h2, h3, h4, h5, h6, h7, h8, h9, h10, h11, h12, h13, h14⟩ := H
  exact mm_E.iload (mm_atc mc152 rfl) rfl <|
  mm_E.aload_n (mm_atc mc152 rfl) rfl <|
  mm_E.xlen (mm_atc mc152 rfl) hxl <|
  mm_E.iconst (mm_atc mc152 rfl) <|
  mm_E.isub (mm_atc mc152 rfl) <|
  mm_E.if2 (mm_atc mc152 rfl) h0 h1 (ic_gtF h2) rfl <|
  mm_E.aload_n (mm_atc mc152 rfl) rfl <|
  mm_E.iload (mm_atc mc152 rfl) rfl <|
  mm_E.xload (mm_atc mc152 rfl) h3 h0 hxz0 <|
  mm_E.bipush (mm_atc mc152 rfl) rfl <|
  mm_E.iand (mm_atc mc152 rfl) <|
  mm_E.tswK (off := 1150) (mm_atc mc152 rfl) h4 (by decide) (by decide) (by decide) (by decide) rfl <|
  show mm_E _ _ 152 1189 _ _ _ _ from
  mm_E.aload_n (mm_atc mc152 rfl) rfl <|
  mm_E.aload_n (mm_atc mc152 rfl) rfl <|
  mm_E.iload (mm_atc mc152 rfl) rfl <|
  mm_E.iconst (mm_atc mc152 rfl) <|
  mm_E.iadd (mm_atc mc152 rfl) <|
  mm_E.xload (mm_atc mc152 rfl) h5 h6 hxz1 <|
  mm_E.aload_n (mm_atc mc152 rfl) rfl <|
  mm_E.iload (mm_atc mc152 rfl) rfl <|
  mm_E.iconst (mm_atc mc152 rfl) <|
  mm_E.iadd (mm_atc mc152 rfl) <|
  mm_E.xload (mm_atc mc152 rfl) h7 h8 hxz2 <|
  mm_E.aload_n (mm_atc mc152 rfl) rfl <|
  mm_E.iload (mm_atc mc152 rfl) rfl <|
  mm_E.iconst (mm_atc mc152 rfl) <|
  mm_E.iadd (mm_atc mc152 rfl) <|
  mm_E.xload (mm_atc mc152 rfl) h9 h10 hxz3 <|
  mm_E.aload_n (mm_atc mc152 rfl) rfl <|
  mm_E.callS (mm_atc mc152 rfl) (mm_plc mp152 rfl) mx151 rfl rfl s0 (by omega) <|
  show mm_E _ _ 152 1212 _ _ _ _ from
  mm_E.istore mx152 rfl (mm_atc mc152 rfl) <|
  show mm_E _ _ 152 1214 [(5, mI z5), (0, .ref 0), (1, .ref 1), (2, .ref 77), (3, .ref 96), (4, mI x4)] _ _ _ from
  mm_E.aload_n (mm_atc mc152 rfl) rfl <|
  mm_E.aload_n (mm_atc mc152 rfl) rfl <|
  mm_E.iload (mm_atc mc152 rfl) rfl <|
  mm_E.iconst (mm_atc mc152 rfl) <|
  mm_E.iadd (mm_atc mc152 rfl) <|
  mm_E.xload (mm_atc mc152 rfl) h5 h6 hxz1 <|
  mm_E.aload_n (mm_atc mc152 rfl) rfl <|
  mm_E.iload (mm_atc mc152 rfl) rfl <|
  mm_E.iconst (mm_atc mc152 rfl) <|
  mm_E.iadd (mm_atc mc152 rfl) <|
  mm_E.xload (mm_atc mc152 rfl) h7 h8 hxz2 <|
  mm_E.aload_n (mm_atc mc152 rfl) rfl <|
  mm_E.iload (mm_atc mc152 rfl) rfl <|
  mm_E.iconst (mm_atc mc152 rfl) <|
  mm_E.iadd (mm_atc mc152 rfl) <|
  mm_E.xload (mm_atc mc152 rfl) h9 h10 hxz3 <|
  mm_E.callV0 (mm_atc mc152 rfl) (mm_plc mp152 rfl) rfl mk133 ly77 rfl mx133 rfl rfl s1 (by omega) <|
  show mm_E _ _ 152 1236 _ _ _ _ from
  mm_E.lstore mx152 rfl (mm_atc mc152 rfl) <|
  show mm_E _ _ 152 1238 [(6, mJ z7), (5, mI z5), (0, .ref 0), (1, .ref 1), (2, .ref 77), (3, .ref 96), (4, mI x4)] _ _ _ from
  mm_E.aload_n (mm_atc mc152 rfl) rfl <|
  mm_E.callV0 (mm_atc mc152 rfl) (mm_plc mp152 rfl) rfl mk111 ly77 rfl mx111 rfl rfl (p111_0_0 (d := d)) (by omega) <|
  show mm_E _ _ 152 1242 _ _ _ _ from
  mm_E.iload (mm_atc mc152 rfl) rfl <|
  mm_E.if2 (mm_atc mc152 rfl) h11 h12 (ic_eqT h13) rfl <|
  mm_E.iload (mm_atc mc152 rfl) rfl <|
  mm_E.if1 (mm_atc mc152 rfl) h12 (ic_neT h14) rfl <|
  mm_E.goto (mm_atc mc152 rfl) rfl <|
  mm_E.inc mx152 rfl (mm_atc mc152 rfl) rfl <|
  show mm_E _ _ 152 1271 [(4, mI (x4 + 4)), (6, mJ z7), (5, mI z5), (0, .ref 0), (1, .ref 1), (2, .ref 77), (3, .ref 96)] _ _ _ from
  mm_E.goto (mm_atc mc152 rfl) rfl <|
  mm_E.to h ⟨rfl, rfl, rfl, rfl, rfl, trivial⟩
set_option maxRecDepth 100000 in
theorem q19_2 {d : Nat} {X : List Value} {A : MF} {o : Option Value ⊕ Nat} {M2 : MH} {a2 b2 : Nat} {x4 z0 z1 z2 z3 z5 z7 : Int} {A4 A6 : MF} {a1 b1 : Nat} (hxl : Nat.blt X.length 100000 = true) (hxz0 : X[Int.toNat x4]? = some (mI z0)) (hxz1 : X[Int.toNat (x4 + 1)]? = some (mI z1)) (hxz2 : X[Int.toNat (x4 + 2)]? = some (mI z2)) (hxz3 : X[Int.toNat (x4 + 3)]? = some (mI z3)) (s0 : mm_E 1 d 151 0 [(0, .ref 1), (1, mI z1), (2, mI z2), (3, mI z3), (4, .ref 96)] [] (mm_w X A) (.inl (some (mI z5)), mm_w X A4, a1, b1)) (s1 : mm_E 1 d 133 0 [(0, .ref 77), (1, mI z1), (2, mI z2), (3, mI z3)] [] (mm_w X A4) (.inl (some (mJ z7)), mm_w X A6, 0, 0)) (H : R32 x4 ∧ R32 ((X.length : Int) - 4) ∧ x4 ≤ (X.length : Int) - 4 ∧ 0 ≤ x4 ∧ mm_and z0 31 = 19 ∧ 0 ≤ x4 + 1 ∧ R32 (x4 + 1) ∧ 0 ≤ x4 + 2 ∧ R32 (x4 + 2) ∧ 0 ≤ x4 + 3 ∧ R32 (x4 + 3) ∧ R32 (A6 77 0) ∧ R32 z5 ∧ (A6 77 0) = z5 ∧ z5 = 0 ∧ R64 (A6 96 0) ∧ R64 z7 ∧ A6 96 0 = z7) (h : mm_E 1 (d + 1) 152 23 [(0, .ref 0), (1, .ref 1), (2, .ref 77), (3, .ref 96), (4, mI (x4 + 4))] [] (mm_w X A6) (o, M2, a2, b2)) : mm_E 1 (d + 1) 152 23 [(0, .ref 0), (1, .ref 1), (2, .ref 77), (3, .ref 96), (4, mI x4)] [] (mm_w X A) (o, M2, a1 + a2, b1 + b2) := by
  obtain ⟨h0, h1, h2, h3, h4, h5, h6, h7, h8, h9, h10, h11, h12, h13, h14, h15, h16, h17⟩ := H
  exact mm_E.iload (mm_atc mc152 rfl) rfl <|
  mm_E.aload_n (mm_atc mc152 rfl) rfl <|
  mm_E.xlen (mm_atc mc152 rfl) hxl <|
  mm_E.iconst (mm_atc mc152 rfl) <|
  mm_E.isub (mm_atc mc152 rfl) <|
  mm_E.if2 (mm_atc mc152 rfl) h0 h1 (ic_gtF h2) rfl <|
  mm_E.aload_n (mm_atc mc152 rfl) rfl <|
  mm_E.iload (mm_atc mc152 rfl) rfl <|
  mm_E.xload (mm_atc mc152 rfl) h3 h0 hxz0 <|
  mm_E.bipush (mm_atc mc152 rfl) rfl <|
  mm_E.iand (mm_atc mc152 rfl) <|
  mm_E.tswK (off := 1150) (mm_atc mc152 rfl) h4 (by decide) (by decide) (by decide) (by decide) rfl <|
  show mm_E _ _ 152 1189 _ _ _ _ from
  mm_E.aload_n (mm_atc mc152 rfl) rfl <|
  mm_E.aload_n (mm_atc mc152 rfl) rfl <|
  mm_E.iload (mm_atc mc152 rfl) rfl <|
  mm_E.iconst (mm_atc mc152 rfl) <|
  mm_E.iadd (mm_atc mc152 rfl) <|
  mm_E.xload (mm_atc mc152 rfl) h5 h6 hxz1 <|
  mm_E.aload_n (mm_atc mc152 rfl) rfl <|
  mm_E.iload (mm_atc mc152 rfl) rfl <|
  mm_E.iconst (mm_atc mc152 rfl) <|
  mm_E.iadd (mm_atc mc152 rfl) <|
  mm_E.xload (mm_atc mc152 rfl) h7 h8 hxz2 <|
  mm_E.aload_n (mm_atc mc152 rfl) rfl <|
  mm_E.iload (mm_atc mc152 rfl) rfl <|
  mm_E.iconst (mm_atc mc152 rfl) <|
  mm_E.iadd (mm_atc mc152 rfl) <|
  mm_E.xload (mm_atc mc152 rfl) h9 h10 hxz3 <|
  mm_E.aload_n (mm_atc mc152 rfl) rfl <|
  mm_E.callS (mm_atc mc152 rfl) (mm_plc mp152 rfl) mx151 rfl rfl s0 (by omega) <|
  show mm_E _ _ 152 1212 _ _ _ _ from
  mm_E.istore mx152 rfl (mm_atc mc152 rfl) <|
  show mm_E _ _ 152 1214 [(5, mI z5), (0, .ref 0), (1, .ref 1), (2, .ref 77), (3, .ref 96), (4, mI x4)] _ _ _ from
  mm_E.aload_n (mm_atc mc152 rfl) rfl <|
  mm_E.aload_n (mm_atc mc152 rfl) rfl <|
  mm_E.iload (mm_atc mc152 rfl) rfl <|
  mm_E.iconst (mm_atc mc152 rfl) <|
  mm_E.iadd (mm_atc mc152 rfl) <|
  mm_E.xload (mm_atc mc152 rfl) h5 h6 hxz1 <|
  mm_E.aload_n (mm_atc mc152 rfl) rfl <|
  mm_E.iload (mm_atc mc152 rfl) rfl <|
  mm_E.iconst (mm_atc mc152 rfl) <|
  mm_E.iadd (mm_atc mc152 rfl) <|
  mm_E.xload (mm_atc mc152 rfl) h7 h8 hxz2 <|
  mm_E.aload_n (mm_atc mc152 rfl) rfl <|
  mm_E.iload (mm_atc mc152 rfl) rfl <|
  mm_E.iconst (mm_atc mc152 rfl) <|
  mm_E.iadd (mm_atc mc152 rfl) <|
  mm_E.xload (mm_atc mc152 rfl) h9 h10 hxz3 <|
  mm_E.callV0 (mm_atc mc152 rfl) (mm_plc mp152 rfl) rfl mk133 ly77 rfl mx133 rfl rfl s1 (by omega) <|
  show mm_E _ _ 152 1236 _ _ _ _ from
  mm_E.lstore mx152 rfl (mm_atc mc152 rfl) <|
  show mm_E _ _ 152 1238 [(6, mJ z7), (5, mI z5), (0, .ref 0), (1, .ref 1), (2, .ref 77), (3, .ref 96), (4, mI x4)] _ _ _ from
  mm_E.aload_n (mm_atc mc152 rfl) rfl <|
  mm_E.callV0 (mm_atc mc152 rfl) (mm_plc mp152 rfl) rfl mk111 ly77 rfl mx111 rfl rfl (p111_0_0 (d := d)) (by omega) <|
  show mm_E _ _ 152 1242 _ _ _ _ from
  mm_E.iload (mm_atc mc152 rfl) rfl <|
  mm_E.if2 (mm_atc mc152 rfl) h11 h12 (ic_eqT h13) rfl <|
  mm_E.iload (mm_atc mc152 rfl) rfl <|
  mm_E.if1 (mm_atc mc152 rfl) h12 (ic_neF h14) rfl <|
  mm_E.aload_n (mm_atc mc152 rfl) rfl <|
  mm_E.iconst (mm_atc mc152 rfl) <|
  mm_E.laload (e := 0) (mm_atc mc152 rfl) ly96 rfl (by decide) (by decide) rfl (rfl) <|
  mm_E.lload (mm_atc mc152 rfl) rfl <|
  mm_E.lif (mm_atc mc152 rfl) (mm_atc mc152 rfl) h15 h16 (ic_eqT h17) rfl <|
  mm_E.goto (mm_atc mc152 rfl) rfl <|
  mm_E.inc mx152 rfl (mm_atc mc152 rfl) rfl <|
  show mm_E _ _ 152 1271 [(4, mI (x4 + 4)), (6, mJ z7), (5, mI z5), (0, .ref 0), (1, .ref 1), (2, .ref 77), (3, .ref 96)] _ _ _ from
  mm_E.goto (mm_atc mc152 rfl) rfl <|
  mm_E.to h ⟨rfl, rfl, rfl, rfl, rfl, trivial⟩
set_option maxRecDepth 100000 in
theorem qd_1 {w d : Nat} {X : List Value} {A : MF} {r : MR} {x4 z0 : Int} (hxl : Nat.blt X.length 100000 = true) (hxz0 : X[Int.toNat x4]? = some (mI z0)) (H : R32 x4 ∧ R32 ((X.length : Int) - 4) ∧ x4 ≤ (X.length : Int) - 4 ∧ 0 ≤ x4 ∧ R32 (mm_and z0 31) ∧ 19 < mm_and z0 31) (h : mm_E w d 152 23 [(0, .ref 0), (1, .ref 1), (2, .ref 77), (3, .ref 96), (4, mI (x4 + 4))] [] (mm_w X A) r) : mm_E w d 152 23 [(0, .ref 0), (1, .ref 1), (2, .ref 77), (3, .ref 96), (4, mI x4)] [] (mm_w X A) r := by
  obtain ⟨h0, h1, h2, h3, h4, h5⟩ := H
  exact mm_E.iload (mm_atc mc152 rfl) rfl <|
  mm_E.aload_n (mm_atc mc152 rfl) rfl <|
  mm_E.xlen (mm_atc mc152 rfl) hxl <|
  mm_E.iconst (mm_atc mc152 rfl) <|
  mm_E.isub (mm_atc mc152 rfl) <|
  mm_E.if2 (mm_atc mc152 rfl) h0 h1 (ic_gtF h2) rfl <|
  mm_E.aload_n (mm_atc mc152 rfl) rfl <|
  mm_E.iload (mm_atc mc152 rfl) rfl <|
  mm_E.xload (mm_atc mc152 rfl) h3 h0 hxz0 <|
  mm_E.bipush (mm_atc mc152 rfl) rfl <|
  mm_E.iand (mm_atc mc152 rfl) <|
  mm_E.tswD (mm_atc mc152 rfl) h4 h5 rfl <|
  show mm_E _ _ 152 1268 _ _ _ _ from
  mm_E.inc mx152 rfl (mm_atc mc152 rfl) rfl <|
  show mm_E _ _ 152 1271 [(4, mI (x4 + 4)), (0, .ref 0), (1, .ref 1), (2, .ref 77), (3, .ref 96)] _ _ _ from
  mm_E.goto (mm_atc mc152 rfl) rfl <|
  mm_E.to h ⟨rfl, rfl, rfl, rfl, rfl, trivial⟩
