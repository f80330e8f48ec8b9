/-! The helpers where a contract makes the class throw. -/
theorem p138_t {w d : Nat} {X : List Value} {A : MF} (s0 : ∀ w, mm_E w (d + 7) 64 0 [(0, .ref 2)] [] (mm_w X A) (.inl (some (mI 0)), mm_w X A, 0, 0)) : mm_E w (d + 9) 138 0 [(0, .ref 1), (1, .ref 96)] [] (mm_w X A) (.inl (some (mI 1)), mm_w X A, 1, 6) := by
  exact mm_E.aload_n (mm_atc mc138 rfl) rfl <|
  mm_E.iconst (mm_atc mc138 rfl) <|
  mm_E.aload_n (mm_atc mc138 rfl) rfl <|
  mm_E.catchV1 (mm_atc mc138 rfl) (mm_plc mp138 rfl) rfl mk6 ly1 rfl mx6 rfl rfl (p6_0_1 (d := d) (s0 _) (by omega)) (p6_0_1 (d := d) (s0 _) (by omega)) (by omega) rfl rfl <|
  show mm_E _ _ 138 11 [(0, .ref 1), (1, .ref 96)] _ _ _ from
  mm_E.iconst (mm_atc mc138 rfl) <|
  mm_E.iret (mm_atc mc138 rfl) mr138 rfl
theorem p143_t {w d : Nat} {X : List Value} {A : MF} {x1 : Int} (s0 : ∀ w, mm_E w (d + 7) 64 0 [(0, .ref 2)] [] (mm_w X A) (.inl (some (mI 0)), mm_w X A, 0, 0)) (H : R32 x1 ∧ 0 ≤ x1 ∧ R32 ((A 1 3) - 1) ∧ x1 ≤ ((A 1 3) - 1)) : mm_E w (d + 9) 143 0 [(0, .ref 1), (1, mI x1), (2, .ref 96)] [] (mm_w X A) (.inl (some (mI 2)), mm_w X A, 1, 6) := by
  exact mm_E.aload_n (mm_atc mc143 rfl) rfl <|
  mm_E.iconst (mm_atc mc143 rfl) <|
  mm_E.aload_n (mm_atc mc143 rfl) rfl <|
  mm_E.iload_n (mm_atc mc143 rfl) rfl <|
  mm_E.catchV1 (mm_atc mc143 rfl) (mm_plc mp143 rfl) rfl mk11 ly1 rfl mx11 rfl rfl (p11_0_3 (d := d) (s0 _) (by omega)) (p11_0_3 (d := d) (s0 _) (by omega)) (by omega) rfl rfl <|
  show mm_E _ _ 143 16 [(0, .ref 1), (1, mI x1), (2, .ref 96)] _ _ _ from
  mm_E.iconst (mm_atc mc143 rfl) <|
  mm_E.iret (mm_atc mc143 rfl) mr143 rfl
theorem p146_t {w d : Nat} {X : List Value} {A : MF} (s0 : ∀ w, mm_E w (d + 7) 78 0 [(0, .ref 25)] [] (mm_w X A) (.inl (some (mI 0)), mm_w X A, 0, 0)) : mm_E w (d + 9) 146 0 [(0, .ref 1), (1, .ref 96)] [] (mm_w X A) (.inl (some (mI 1)), mm_w X A, 1, 6) := by
  exact mm_E.aload_n (mm_atc mc146 rfl) rfl <|
  mm_E.iconst (mm_atc mc146 rfl) <|
  mm_E.aload_n (mm_atc mc146 rfl) rfl <|
  mm_E.catchV1 (mm_atc mc146 rfl) (mm_plc mp146 rfl) rfl mk14 ly1 rfl mx14 rfl rfl (p14_0_1 (d := d) (s0 _) (by omega)) (p14_0_1 (d := d) (s0 _) (by omega)) (by omega) rfl rfl <|
  show mm_E _ _ 146 12 [(0, .ref 1), (1, .ref 96)] _ _ _ from
  mm_E.iconst (mm_atc mc146 rfl) <|
  mm_E.iret (mm_atc mc146 rfl) mr146 rfl
