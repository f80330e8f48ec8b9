/-! A round of each kind: where both throw, where both answer. -/
section OP
variable {X : List Value} {d : Nat} {x4 z0 z1 z2 z3 : Int} {A A1 A2 : MF} {k z v : Int}
theorem thr0 (hI : Inv A) (hs : mm_sc X x4 z0 z1 z2 z3) (h0 : mm_and z0 31 = 0) (hk : 1 ≤ k ∧ k ≤ 2) (s0 : mm_E 1 (d + 39) 134 0 [(0, .ref 1), (1, mI z1)] [] (mm_w X A) (.inl (some (mI k)), mm_w X A, 1, 6)) (s1 : mm_E 1 (d + 39) 114 0 [(0, .ref 77), (1, mI z1)] [] (mm_w X A) (.inl (none), mm_w X (mm_u A 77 0 k), 0, 0)) : mm_rd X d x4 A := by
  obtain ⟨g3, g4, g5, g6, g7, g8, g9⟩ := hs.2.2.2.2.2
  have e : mm_u A 77 0 k 77 0 = k := mm_u_same
  exact ⟨_, hI.thr, 1, 6, by omega, by omega, fun o M2 a2 b2 h => q0_1 hs.1 hs.2.1 hs.2.2.1 s0 s1 (by omega) h⟩
theorem ok0 (hI : Inv A2) (hs : mm_sc X x4 z0 z1 z2 z3) (h0 : mm_and z0 31 = 0) (s0 : mm_E 1 (d + 39) 134 0 [(0, .ref 1), (1, mI z1)] [] (mm_w X A) (.inl (some (mI 0)), mm_w X A1, 0, 0)) (s1 : mm_E 1 (d + 39) 114 0 [(0, .ref 77), (1, mI z1)] [] (mm_w X A1) (.inl (none), mm_w X A2, 0, 0)) (ht : A2 77 0 = 0) : mm_rd X d x4 A := by
  obtain ⟨g3, g4, g5, g6, g7, g8, g9⟩ := hs.2.2.2.2.2
  exact ⟨_, hI, 0, 0, by omega, by omega, fun o M2 a2 b2 h => q0_1 hs.1 hs.2.1 hs.2.2.1 s0 s1 (by omega) h⟩
theorem thr1 (hI : Inv A) (hs : mm_sc X x4 z0 z1 z2 z3) (h0 : mm_and z0 31 = 1) (hk : 1 ≤ k ∧ k ≤ 2) (s0 : mm_E 1 (d + 39) 135 0 [(0, .ref 1), (1, mI z1)] [] (mm_w X A) (.inl (some (mI k)), mm_w X A, 1, 6)) (s1 : mm_E 1 (d + 39) 115 0 [(0, .ref 77), (1, mI z1)] [] (mm_w X A) (.inl (none), mm_w X (mm_u A 77 0 k), 0, 0)) : mm_rd X d x4 A := by
  obtain ⟨g3, g4, g5, g6, g7, g8, g9⟩ := hs.2.2.2.2.2
  have e : mm_u A 77 0 k 77 0 = k := mm_u_same
  exact ⟨_, hI.thr, 1, 6, by omega, by omega, fun o M2 a2 b2 h => q1_1 hs.1 hs.2.1 hs.2.2.1 s0 s1 (by omega) h⟩
theorem ok1 (hI : Inv A2) (hs : mm_sc X x4 z0 z1 z2 z3) (h0 : mm_and z0 31 = 1) (s0 : mm_E 1 (d + 39) 135 0 [(0, .ref 1), (1, mI z1)] [] (mm_w X A) (.inl (some (mI 0)), mm_w X A1, 0, 0)) (s1 : mm_E 1 (d + 39) 115 0 [(0, .ref 77), (1, mI z1)] [] (mm_w X A1) (.inl (none), mm_w X A2, 0, 0)) (ht : A2 77 0 = 0) : mm_rd X d x4 A := by
  obtain ⟨g3, g4, g5, g6, g7, g8, g9⟩ := hs.2.2.2.2.2
  exact ⟨_, hI, 0, 0, by omega, by omega, fun o M2 a2 b2 h => q1_1 hs.1 hs.2.1 hs.2.2.1 s0 s1 (by omega) h⟩
theorem thr2 (hI : Inv A) (hs : mm_sc X x4 z0 z1 z2 z3) (h0 : mm_and z0 31 = 2) (hk : 1 ≤ k ∧ k ≤ 2) (s0 : mm_E 1 (d + 39) 136 0 [(0, .ref 1), (1, mI z1), (2, mI z2), (3, mI z3), (4, .ref 96)] [] (mm_w X A) (.inl (some (mI k)), mm_w X A, 1, 6)) (s1 : mm_E 1 (d + 39) 116 0 [(0, .ref 77), (1, mI z1), (2, mI z2), (3, mI z3)] [] (mm_w X A) (.inl (some (mI v)), mm_w X (mm_u A 77 0 k), 0, 0)) : mm_rd X d x4 A := by
  obtain ⟨g3, g4, g5, g6, g7, g8, g9⟩ := hs.2.2.2.2.2
  have e : mm_u A 77 0 k 77 0 = k := mm_u_same
  exact ⟨_, hI.thr, 1, 6, by omega, by omega, fun o M2 a2 b2 h => q2_1 hs.1 hs.2.1 hs.2.2.1 hs.2.2.2.1 hs.2.2.2.2.1 s0 s1 (by omega) h⟩
theorem ok2 (hI : Inv A2) (hs : mm_sc X x4 z0 z1 z2 z3) (h0 : mm_and z0 31 = 2) (s0 : mm_E 1 (d + 39) 136 0 [(0, .ref 1), (1, mI z1), (2, mI z2), (3, mI z3), (4, .ref 96)] [] (mm_w X A) (.inl (some (mI 0)), mm_w X A1, 0, 0)) (s1 : mm_E 1 (d + 39) 116 0 [(0, .ref 77), (1, mI z1), (2, mI z2), (3, mI z3)] [] (mm_w X A1) (.inl (some (mI z)), mm_w X A2, 0, 0)) (ht : A2 77 0 = 0) (ho : A2 96 0 = z) (hz : R32 z) : mm_rd X d x4 A := by
  obtain ⟨g3, g4, g5, g6, g7, g8, g9⟩ := hs.2.2.2.2.2
  exact ⟨_, hI, 0, 0, by omega, by omega, fun o M2 a2 b2 h => q2_2 hs.1 hs.2.1 hs.2.2.1 hs.2.2.2.1 hs.2.2.2.2.1 s0 s1 (by omega) h⟩
theorem thr3 (hI : Inv A) (hs : mm_sc X x4 z0 z1 z2 z3) (h0 : mm_and z0 31 = 3) (hk : 1 ≤ k ∧ k ≤ 2) (s0 : mm_E 1 (d + 39) 137 0 [(0, .ref 1), (1, mI z1)] [] (mm_w X A) (.inl (some (mI k)), mm_w X A, 1, 6)) (s1 : mm_E 1 (d + 39) 117 0 [(0, .ref 77), (1, mI z1)] [] (mm_w X A) (.inl (none), mm_w X (mm_u A 77 0 k), 0, 0)) : mm_rd X d x4 A := by
  obtain ⟨g3, g4, g5, g6, g7, g8, g9⟩ := hs.2.2.2.2.2
  have e : mm_u A 77 0 k 77 0 = k := mm_u_same
  exact ⟨_, hI.thr, 1, 6, by omega, by omega, fun o M2 a2 b2 h => q3_1 hs.1 hs.2.1 hs.2.2.1 s0 s1 (by omega) h⟩
theorem ok3 (hI : Inv A2) (hs : mm_sc X x4 z0 z1 z2 z3) (h0 : mm_and z0 31 = 3) (s0 : mm_E 1 (d + 39) 137 0 [(0, .ref 1), (1, mI z1)] [] (mm_w X A) (.inl (some (mI 0)), mm_w X A1, 0, 0)) (s1 : mm_E 1 (d + 39) 117 0 [(0, .ref 77), (1, mI z1)] [] (mm_w X A1) (.inl (none), mm_w X A2, 0, 0)) (ht : A2 77 0 = 0) : mm_rd X d x4 A := by
  obtain ⟨g3, g4, g5, g6, g7, g8, g9⟩ := hs.2.2.2.2.2
  exact ⟨_, hI, 0, 0, by omega, by omega, fun o M2 a2 b2 h => q3_1 hs.1 hs.2.1 hs.2.2.1 s0 s1 (by omega) h⟩
theorem ok4 (hI : Inv A2) (hs : mm_sc X x4 z0 z1 z2 z3) (h0 : mm_and z0 31 = 4) (s0 : mm_E 1 (d + 39) 5 0 [(0, .ref 1)] [] (mm_w X A) (.inl (some (mI z)), mm_w X A1, 0, 0)) (s1 : mm_E 1 (d + 39) 118 0 [(0, .ref 77)] [] (mm_w X A1) (.inl (some (mI z)), mm_w X A2, 0, 0)) (hz : R32 z) : mm_rd X d x4 A := by
  obtain ⟨g3, g4, g5, g6, g7, g8, g9⟩ := hs.2.2.2.2.2
  exact mm_rd.zero hI fun r h => q4_1 hs.1 hs.2.1 s0 s1 (by omega) h
theorem thr5 (hI : Inv A) (hs : mm_sc X x4 z0 z1 z2 z3) (h0 : mm_and z0 31 = 5) (hk : 1 ≤ k ∧ k ≤ 2) (s0 : mm_E 1 (d + 39) 138 0 [(0, .ref 1), (1, .ref 96)] [] (mm_w X A) (.inl (some (mI k)), mm_w X A, 1, 6)) (s1 : mm_E 1 (d + 39) 119 0 [(0, .ref 77)] [] (mm_w X A) (.inl (some (mJ v)), mm_w X (mm_u A 77 0 k), 0, 0)) : mm_rd X d x4 A := by
  obtain ⟨g3, g4, g5, g6, g7, g8, g9⟩ := hs.2.2.2.2.2
  have e : mm_u A 77 0 k 77 0 = k := mm_u_same
  exact ⟨_, hI.thr, 1, 6, by omega, by omega, fun o M2 a2 b2 h => q5_1 hs.1 hs.2.1 s0 s1 (by omega) h⟩
theorem ok5 (hI : Inv A2) (hs : mm_sc X x4 z0 z1 z2 z3) (h0 : mm_and z0 31 = 5) (s0 : mm_E 1 (d + 39) 138 0 [(0, .ref 1), (1, .ref 96)] [] (mm_w X A) (.inl (some (mI 0)), mm_w X A1, 0, 0)) (s1 : mm_E 1 (d + 39) 119 0 [(0, .ref 77)] [] (mm_w X A1) (.inl (some (mJ z)), mm_w X A2, 0, 0)) (ht : A2 77 0 = 0) (ho : A2 96 0 = z) (hz : R64 z) : mm_rd X d x4 A := by
  obtain ⟨g3, g4, g5, g6, g7, g8, g9⟩ := hs.2.2.2.2.2
  exact ⟨_, hI, 0, 0, by omega, by omega, fun o M2 a2 b2 h => q5_2 hs.1 hs.2.1 s0 s1 (by omega) h⟩
theorem thr6 (hI : Inv A) (hs : mm_sc X x4 z0 z1 z2 z3) (h0 : mm_and z0 31 = 6) (hk : 1 ≤ k ∧ k ≤ 2) (s0 : mm_E 1 (d + 39) 139 0 [(0, .ref 1), (1, mI z1), (2, mI z2), (3, .ref 96)] [] (mm_w X A) (.inl (some (mI k)), mm_w X A, 1, 6)) (s1 : mm_E 1 (d + 39) 120 0 [(0, .ref 77), (1, mI z1), (2, mI z2)] [] (mm_w X A) (.inl (some (mI v)), mm_w X (mm_u A 77 0 k), 0, 0)) : mm_rd X d x4 A := by
  obtain ⟨g3, g4, g5, g6, g7, g8, g9⟩ := hs.2.2.2.2.2
  have e : mm_u A 77 0 k 77 0 = k := mm_u_same
  exact ⟨_, hI.thr, 1, 6, by omega, by omega, fun o M2 a2 b2 h => q6_1 hs.1 hs.2.1 hs.2.2.1 hs.2.2.2.1 s0 s1 (by omega) h⟩
theorem ok6 (hI : Inv A2) (hs : mm_sc X x4 z0 z1 z2 z3) (h0 : mm_and z0 31 = 6) (s0 : mm_E 1 (d + 39) 139 0 [(0, .ref 1), (1, mI z1), (2, mI z2), (3, .ref 96)] [] (mm_w X A) (.inl (some (mI 0)), mm_w X A1, 0, 0)) (s1 : mm_E 1 (d + 39) 120 0 [(0, .ref 77), (1, mI z1), (2, mI z2)] [] (mm_w X A1) (.inl (some (mI z)), mm_w X A2, 0, 0)) (ht : A2 77 0 = 0) (ho : A2 96 0 = z) (hz : R32 z) : mm_rd X d x4 A := by
  obtain ⟨g3, g4, g5, g6, g7, g8, g9⟩ := hs.2.2.2.2.2
  exact ⟨_, hI, 0, 0, by omega, by omega, fun o M2 a2 b2 h => q6_2 hs.1 hs.2.1 hs.2.2.1 hs.2.2.2.1 s0 s1 (by omega) h⟩
theorem thr7 (hI : Inv A) (hs : mm_sc X x4 z0 z1 z2 z3) (h0 : mm_and z0 31 = 7) (hk : 1 ≤ k ∧ k ≤ 2) (s0 : mm_E 1 (d + 39) 140 0 [(0, .ref 1), (1, mI z1), (2, .ref 96)] [] (mm_w X A) (.inl (some (mI k)), mm_w X A, 1, 6)) (s1 : mm_E 1 (d + 39) 121 0 [(0, .ref 77), (1, mI z1)] [] (mm_w X A) (.inl (some (mI v)), mm_w X (mm_u A 77 0 k), 0, 0)) : mm_rd X d x4 A := by
  obtain ⟨g3, g4, g5, g6, g7, g8, g9⟩ := hs.2.2.2.2.2
  have e : mm_u A 77 0 k 77 0 = k := mm_u_same
  exact ⟨_, hI.thr, 1, 6, by omega, by omega, fun o M2 a2 b2 h => q7_1 hs.1 hs.2.1 hs.2.2.1 s0 s1 (by omega) h⟩
theorem ok7 (hI : Inv A2) (hs : mm_sc X x4 z0 z1 z2 z3) (h0 : mm_and z0 31 = 7) (s0 : mm_E 1 (d + 39) 140 0 [(0, .ref 1), (1, mI z1), (2, .ref 96)] [] (mm_w X A) (.inl (some (mI 0)), mm_w X A1, 0, 0)) (s1 : mm_E 1 (d + 39) 121 0 [(0, .ref 77), (1, mI z1)] [] (mm_w X A1) (.inl (some (mI z)), mm_w X A2, 0, 0)) (ht : A2 77 0 = 0) (ho : A2 96 0 = z) (hz : R32 z) : mm_rd X d x4 A := by
  obtain ⟨g3, g4, g5, g6, g7, g8, g9⟩ := hs.2.2.2.2.2
  exact ⟨_, hI, 0, 0, by omega, by omega, fun o M2 a2 b2 h => q7_2 hs.1 hs.2.1 hs.2.2.1 s0 s1 (by omega) h⟩
theorem thr8 (hI : Inv A) (hs : mm_sc X x4 z0 z1 z2 z3) (h0 : mm_and z0 31 = 8) (hk : 1 ≤ k ∧ k ≤ 2) (s0 : mm_E 1 (d + 39) 141 0 [(0, .ref 1), (1, mI z1), (2, mI z2), (3, .ref 96)] [] (mm_w X A) (.inl (some (mI k)), mm_w X A, 1, 6)) (s1 : mm_E 1 (d + 39) 122 0 [(0, .ref 77), (1, mI z1), (2, mI z2)] [] (mm_w X A) (.inl (some (mI v)), mm_w X (mm_u A 77 0 k), 0, 0)) : mm_rd X d x4 A := by
  obtain ⟨g3, g4, g5, g6, g7, g8, g9⟩ := hs.2.2.2.2.2
  have e : mm_u A 77 0 k 77 0 = k := mm_u_same
  exact ⟨_, hI.thr, 1, 6, by omega, by omega, fun o M2 a2 b2 h => q8_1 hs.1 hs.2.1 hs.2.2.1 hs.2.2.2.1 s0 s1 (by omega) h⟩
theorem ok8 (hI : Inv A2) (hs : mm_sc X x4 z0 z1 z2 z3) (h0 : mm_and z0 31 = 8) (s0 : mm_E 1 (d + 39) 141 0 [(0, .ref 1), (1, mI z1), (2, mI z2), (3, .ref 96)] [] (mm_w X A) (.inl (some (mI 0)), mm_w X A1, 0, 0)) (s1 : mm_E 1 (d + 39) 122 0 [(0, .ref 77), (1, mI z1), (2, mI z2)] [] (mm_w X A1) (.inl (some (mI z)), mm_w X A2, 0, 0)) (ht : A2 77 0 = 0) (ho : A2 96 0 = z) (hz : R32 z) : mm_rd X d x4 A := by
  obtain ⟨g3, g4, g5, g6, g7, g8, g9⟩ := hs.2.2.2.2.2
  exact ⟨_, hI, 0, 0, by omega, by omega, fun o M2 a2 b2 h => q8_2 hs.1 hs.2.1 hs.2.2.1 hs.2.2.2.1 s0 s1 (by omega) h⟩
theorem thr9a (hI : Inv A) (hs : mm_sc X x4 z0 z1 z2 z3) (h0 : mm_and z0 31 = 9) (hz3 : z3 = 0) (hk : 1 ≤ k ∧ k ≤ 2) (s0 : mm_E 1 (d + 39) 142 0 [(0, .ref 1), (1, mI z1), (2, mI z2), (3, mI 0), (4, .ref 96)] [] (mm_w X A) (.inl (some (mI k)), mm_w X A, 1, 6)) (s1 : mm_E 1 (d + 39) 123 0 [(0, .ref 77), (1, mI z1), (2, mI z2), (3, mI 0)] [] (mm_w X A) (.inl (some (mI v)), mm_w X (mm_u A 77 0 k), 0, 0)) : mm_rd X d x4 A := by
  obtain ⟨g3, g4, g5, g6, g7, g8, g9⟩ := hs.2.2.2.2.2
  have e : mm_u A 77 0 k 77 0 = k := mm_u_same
  exact ⟨_, hI.thr, 1, 6, by omega, by omega, fun o M2 a2 b2 h => q9_1 hs.1 hs.2.1 hs.2.2.1 hs.2.2.2.1 hs.2.2.2.2.1 s0 s1 (by omega) h⟩
theorem ok9a (hI : Inv A2) (hs : mm_sc X x4 z0 z1 z2 z3) (h0 : mm_and z0 31 = 9) (hz3 : z3 = 0) (s0 : mm_E 1 (d + 39) 142 0 [(0, .ref 1), (1, mI z1), (2, mI z2), (3, mI 0), (4, .ref 96)] [] (mm_w X A) (.inl (some (mI 0)), mm_w X A1, 0, 0)) (s1 : mm_E 1 (d + 39) 123 0 [(0, .ref 77), (1, mI z1), (2, mI z2), (3, mI 0)] [] (mm_w X A1) (.inl (some (mI z)), mm_w X A2, 0, 0)) (ht : A2 77 0 = 0) (ho : A2 96 0 = z) (hz : R32 z) : mm_rd X d x4 A := by
  obtain ⟨g3, g4, g5, g6, g7, g8, g9⟩ := hs.2.2.2.2.2
  exact ⟨_, hI, 0, 0, by omega, by omega, fun o M2 a2 b2 h => q9_2 hs.1 hs.2.1 hs.2.2.1 hs.2.2.2.1 hs.2.2.2.2.1 s0 s1 (by omega) h⟩
theorem thr9b (hI : Inv A) (hs : mm_sc X x4 z0 z1 z2 z3) (h0 : mm_and z0 31 = 9) (hz3 : z3 ≠ 0) (hk : 1 ≤ k ∧ k ≤ 2) (s0 : mm_E 1 (d + 39) 142 0 [(0, .ref 1), (1, mI z1), (2, mI z2), (3, mI 1), (4, .ref 96)] [] (mm_w X A) (.inl (some (mI k)), mm_w X A, 1, 6)) (s1 : mm_E 1 (d + 39) 123 0 [(0, .ref 77), (1, mI z1), (2, mI z2), (3, mI 1)] [] (mm_w X A) (.inl (some (mI v)), mm_w X (mm_u A 77 0 k), 0, 0)) : mm_rd X d x4 A := by
  obtain ⟨g3, g4, g5, g6, g7, g8, g9⟩ := hs.2.2.2.2.2
  have e : mm_u A 77 0 k 77 0 = k := mm_u_same
  exact ⟨_, hI.thr, 1, 6, by omega, by omega, fun o M2 a2 b2 h => q9_3 hs.1 hs.2.1 hs.2.2.1 hs.2.2.2.1 hs.2.2.2.2.1 s0 s1 (by omega) h⟩
theorem ok9b (hI : Inv A2) (hs : mm_sc X x4 z0 z1 z2 z3) (h0 : mm_and z0 31 = 9) (hz3 : z3 ≠ 0) (s0 : mm_E 1 (d + 39) 142 0 [(0, .ref 1), (1, mI z1), (2, mI z2), (3, mI 1), (4, .ref 96)] [] (mm_w X A) (.inl (some (mI 0)), mm_w X A1, 0, 0)) (s1 : mm_E 1 (d + 39) 123 0 [(0, .ref 77), (1, mI z1), (2, mI z2), (3, mI 1)] [] (mm_w X A1) (.inl (some (mI z)), mm_w X A2, 0, 0)) (ht : A2 77 0 = 0) (ho : A2 96 0 = z) (hz : R32 z) : mm_rd X d x4 A := by
  obtain ⟨g3, g4, g5, g6, g7, g8, g9⟩ := hs.2.2.2.2.2
  exact ⟨_, hI, 0, 0, by omega, by omega, fun o M2 a2 b2 h => q9_4 hs.1 hs.2.1 hs.2.2.1 hs.2.2.2.1 hs.2.2.2.2.1 s0 s1 (by omega) h⟩
theorem thr10 (hI : Inv A) (hs : mm_sc X x4 z0 z1 z2 z3) (h0 : mm_and z0 31 = 10) (hk : 1 ≤ k ∧ k ≤ 2) (s0 : mm_E 1 (d + 39) 143 0 [(0, .ref 1), (1, mI z1), (2, .ref 96)] [] (mm_w X A) (.inl (some (mI k)), mm_w X A, 1, 6)) (s1 : mm_E 1 (d + 39) 124 0 [(0, .ref 77), (1, mI z1)] [] (mm_w X A) (.inl (some (mI v)), mm_w X (mm_u A 77 0 k), 0, 0)) : mm_rd X d x4 A := by
  obtain ⟨g3, g4, g5, g6, g7, g8, g9⟩ := hs.2.2.2.2.2
  have e : mm_u A 77 0 k 77 0 = k := mm_u_same
  exact ⟨_, hI.thr, 1, 6, by omega, by omega, fun o M2 a2 b2 h => q10_1 hs.1 hs.2.1 hs.2.2.1 s0 s1 (by omega) h⟩
theorem ok10 (hI : Inv A2) (hs : mm_sc X x4 z0 z1 z2 z3) (h0 : mm_and z0 31 = 10) (s0 : mm_E 1 (d + 39) 143 0 [(0, .ref 1), (1, mI z1), (2, .ref 96)] [] (mm_w X A) (.inl (some (mI 0)), mm_w X A1, 0, 0)) (s1 : mm_E 1 (d + 39) 124 0 [(0, .ref 77), (1, mI z1)] [] (mm_w X A1) (.inl (some (mI z)), mm_w X A2, 0, 0)) (ht : A2 77 0 = 0) (ho : A2 96 0 = z) (hz : R32 z) : mm_rd X d x4 A := by
  obtain ⟨g3, g4, g5, g6, g7, g8, g9⟩ := hs.2.2.2.2.2
  exact ⟨_, hI, 0, 0, by omega, by omega, fun o M2 a2 b2 h => q10_2 hs.1 hs.2.1 hs.2.2.1 s0 s1 (by omega) h⟩
theorem thr11 (hI : Inv A) (hs : mm_sc X x4 z0 z1 z2 z3) (h0 : mm_and z0 31 = 11) (hk : 1 ≤ k ∧ k ≤ 2) (s0 : mm_E 1 (d + 39) 144 0 [(0, .ref 1), (1, mI z1), (2, mI z2), (3, mI z3), (4, .ref 96)] [] (mm_w X A) (.inl (some (mI k)), mm_w X A, 1, 6)) (s1 : mm_E 1 (d + 39) 125 0 [(0, .ref 77), (1, mI z1), (2, mI z2), (3, mI z3)] [] (mm_w X A) (.inl (some (mI v)), mm_w X (mm_u A 77 0 k), 0, 0)) : mm_rd X d x4 A := by
  obtain ⟨g3, g4, g5, g6, g7, g8, g9⟩ := hs.2.2.2.2.2
  have e : mm_u A 77 0 k 77 0 = k := mm_u_same
  exact ⟨_, hI.thr, 1, 6, by omega, by omega, fun o M2 a2 b2 h => q11_1 hs.1 hs.2.1 hs.2.2.1 hs.2.2.2.1 hs.2.2.2.2.1 s0 s1 (by omega) h⟩
theorem ok11 (hI : Inv A2) (hs : mm_sc X x4 z0 z1 z2 z3) (h0 : mm_and z0 31 = 11) (s0 : mm_E 1 (d + 39) 144 0 [(0, .ref 1), (1, mI z1), (2, mI z2), (3, mI z3), (4, .ref 96)] [] (mm_w X A) (.inl (some (mI 0)), mm_w X A1, 0, 0)) (s1 : mm_E 1 (d + 39) 125 0 [(0, .ref 77), (1, mI z1), (2, mI z2), (3, mI z3)] [] (mm_w X A1) (.inl (some (mI z)), mm_w X A2, 0, 0)) (ht : A2 77 0 = 0) (ho : A2 96 0 = z) (hz : R32 z) : mm_rd X d x4 A := by
  obtain ⟨g3, g4, g5, g6, g7, g8, g9⟩ := hs.2.2.2.2.2
  exact ⟨_, hI, 0, 0, by omega, by omega, fun o M2 a2 b2 h => q11_2 hs.1 hs.2.1 hs.2.2.1 hs.2.2.2.1 hs.2.2.2.2.1 s0 s1 (by omega) h⟩
theorem thr12 (hI : Inv A) (hs : mm_sc X x4 z0 z1 z2 z3) (h0 : mm_and z0 31 = 12) (hk : 1 ≤ k ∧ k ≤ 2) (s0 : mm_E 1 (d + 39) 145 0 [(0, .ref 1), (1, mI z1), (2, .ref 96)] [] (mm_w X A) (.inl (some (mI k)), mm_w X A, 1, 6)) (s1 : mm_E 1 (d + 39) 126 0 [(0, .ref 77), (1, mI z1)] [] (mm_w X A) (.inl (some (mI v)), mm_w X (mm_u A 77 0 k), 0, 0)) : mm_rd X d x4 A := by
  obtain ⟨g3, g4, g5, g6, g7, g8, g9⟩ := hs.2.2.2.2.2
  have e : mm_u A 77 0 k 77 0 = k := mm_u_same
  exact ⟨_, hI.thr, 1, 6, by omega, by omega, fun o M2 a2 b2 h => q12_1 hs.1 hs.2.1 hs.2.2.1 s0 s1 (by omega) h⟩
theorem ok12 (hI : Inv A2) (hs : mm_sc X x4 z0 z1 z2 z3) (h0 : mm_and z0 31 = 12) (s0 : mm_E 1 (d + 39) 145 0 [(0, .ref 1), (1, mI z1), (2, .ref 96)] [] (mm_w X A) (.inl (some (mI 0)), mm_w X A1, 0, 0)) (s1 : mm_E 1 (d + 39) 126 0 [(0, .ref 77), (1, mI z1)] [] (mm_w X A1) (.inl (some (mI z)), mm_w X A2, 0, 0)) (ht : A2 77 0 = 0) (ho : A2 96 0 = z) (hz : R32 z) : mm_rd X d x4 A := by
  obtain ⟨g3, g4, g5, g6, g7, g8, g9⟩ := hs.2.2.2.2.2
  exact ⟨_, hI, 0, 0, by omega, by omega, fun o M2 a2 b2 h => q12_2 hs.1 hs.2.1 hs.2.2.1 s0 s1 (by omega) h⟩
theorem thr13 (hI : Inv A) (hs : mm_sc X x4 z0 z1 z2 z3) (h0 : mm_and z0 31 = 13) (hk : 1 ≤ k ∧ k ≤ 2) (s0 : mm_E 1 (d + 39) 146 0 [(0, .ref 1), (1, .ref 96)] [] (mm_w X A) (.inl (some (mI k)), mm_w X A, 1, 6)) (s1 : mm_E 1 (d + 39) 127 0 [(0, .ref 77)] [] (mm_w X A) (.inl (some (mI v)), mm_w X (mm_u A 77 0 k), 0, 0)) : mm_rd X d x4 A := by
  obtain ⟨g3, g4, g5, g6, g7, g8, g9⟩ := hs.2.2.2.2.2
  have e : mm_u A 77 0 k 77 0 = k := mm_u_same
  exact ⟨_, hI.thr, 1, 6, by omega, by omega, fun o M2 a2 b2 h => q13_1 hs.1 hs.2.1 s0 s1 (by omega) h⟩
theorem ok13 (hI : Inv A2) (hs : mm_sc X x4 z0 z1 z2 z3) (h0 : mm_and z0 31 = 13) (s0 : mm_E 1 (d + 39) 146 0 [(0, .ref 1), (1, .ref 96)] [] (mm_w X A) (.inl (some (mI 0)), mm_w X A1, 0, 0)) (s1 : mm_E 1 (d + 39) 127 0 [(0, .ref 77)] [] (mm_w X A1) (.inl (some (mI z)), mm_w X A2, 0, 0)) (ht : A2 77 0 = 0) (ho : A2 96 0 = z) (hz : R32 z) : mm_rd X d x4 A := by
  obtain ⟨g3, g4, g5, g6, g7, g8, g9⟩ := hs.2.2.2.2.2
  exact ⟨_, hI, 0, 0, by omega, by omega, fun o M2 a2 b2 h => q13_2 hs.1 hs.2.1 s0 s1 (by omega) h⟩
theorem thr14 (hI : Inv A) (hs : mm_sc X x4 z0 z1 z2 z3) (h0 : mm_and z0 31 = 14) (hk : 1 ≤ k ∧ k ≤ 2) (s0 : mm_E 1 (d + 39) 147 0 [(0, .ref 1), (1, mI z1), (2, mI z2), (3, .ref 96)] [] (mm_w X A) (.inl (some (mI k)), mm_w X A, 1, 6)) (s1 : mm_E 1 (d + 39) 128 0 [(0, .ref 77), (1, mI z1), (2, mI z2)] [] (mm_w X A) (.inl (some (mJ v)), mm_w X (mm_u A 77 0 k), 0, 0)) : mm_rd X d x4 A := by
  obtain ⟨g3, g4, g5, g6, g7, g8, g9⟩ := hs.2.2.2.2.2
  have e : mm_u A 77 0 k 77 0 = k := mm_u_same
  exact ⟨_, hI.thr, 1, 6, by omega, by omega, fun o M2 a2 b2 h => q14_1 hs.1 hs.2.1 hs.2.2.1 hs.2.2.2.1 s0 s1 (by omega) h⟩
theorem ok14 (hI : Inv A2) (hs : mm_sc X x4 z0 z1 z2 z3) (h0 : mm_and z0 31 = 14) (s0 : mm_E 1 (d + 39) 147 0 [(0, .ref 1), (1, mI z1), (2, mI z2), (3, .ref 96)] [] (mm_w X A) (.inl (some (mI 0)), mm_w X A1, 0, 0)) (s1 : mm_E 1 (d + 39) 128 0 [(0, .ref 77), (1, mI z1), (2, mI z2)] [] (mm_w X A1) (.inl (some (mJ z)), mm_w X A2, 0, 0)) (ht : A2 77 0 = 0) (ho : A2 96 0 = z) (hz : R64 z) : mm_rd X d x4 A := by
  obtain ⟨g3, g4, g5, g6, g7, g8, g9⟩ := hs.2.2.2.2.2
  exact ⟨_, hI, 0, 0, by omega, by omega, fun o M2 a2 b2 h => q14_2 hs.1 hs.2.1 hs.2.2.1 hs.2.2.2.1 s0 s1 (by omega) h⟩
theorem thr15 (hI : Inv A) (hs : mm_sc X x4 z0 z1 z2 z3) (h0 : mm_and z0 31 = 15) (hk : 1 ≤ k ∧ k ≤ 2) (s0 : mm_E 1 (d + 39) 148 0 [(0, .ref 1), (1, mI z1)] [] (mm_w X A) (.inl (some (mI k)), mm_w X A, 1, 6)) (s1 : mm_E 1 (d + 39) 129 0 [(0, .ref 77), (1, mI z1)] [] (mm_w X A) (.inl (none), mm_w X (mm_u A 77 0 k), 0, 0)) : mm_rd X d x4 A := by
  obtain ⟨g3, g4, g5, g6, g7, g8, g9⟩ := hs.2.2.2.2.2
  have e : mm_u A 77 0 k 77 0 = k := mm_u_same
  exact ⟨_, hI.thr, 1, 6, by omega, by omega, fun o M2 a2 b2 h => q15_1 hs.1 hs.2.1 hs.2.2.1 s0 s1 (by omega) h⟩
theorem ok15 (hI : Inv A2) (hs : mm_sc X x4 z0 z1 z2 z3) (h0 : mm_and z0 31 = 15) (s0 : mm_E 1 (d + 39) 148 0 [(0, .ref 1), (1, mI z1)] [] (mm_w X A) (.inl (some (mI 0)), mm_w X A1, 0, 0)) (s1 : mm_E 1 (d + 39) 129 0 [(0, .ref 77), (1, mI z1)] [] (mm_w X A1) (.inl (none), mm_w X A2, 0, 0)) (ht : A2 77 0 = 0) : mm_rd X d x4 A := by
  obtain ⟨g3, g4, g5, g6, g7, g8, g9⟩ := hs.2.2.2.2.2
  exact ⟨_, hI, 0, 0, by omega, by omega, fun o M2 a2 b2 h => q15_1 hs.1 hs.2.1 hs.2.2.1 s0 s1 (by omega) h⟩
theorem thr16 (hI : Inv A) (hs : mm_sc X x4 z0 z1 z2 z3) (h0 : mm_and z0 31 = 16) (hk : 1 ≤ k ∧ k ≤ 2) (s0 : mm_E 1 (d + 39) 149 0 [(0, .ref 1), (1, mI z1), (2, mI z2), (3, mI z3), (4, .ref 96)] [] (mm_w X A) (.inl (some (mI k)), mm_w X A, 1, 6)) (s1 : mm_E 1 (d + 39) 130 0 [(0, .ref 77), (1, mI z1), (2, mI z2), (3, mI z3)] [] (mm_w X A) (.inl (some (mI v)), mm_w X (mm_u A 77 0 k), 0, 0)) : mm_rd X d x4 A := by
  obtain ⟨g3, g4, g5, g6, g7, g8, g9⟩ := hs.2.2.2.2.2
  have e : mm_u A 77 0 k 77 0 = k := mm_u_same
  exact ⟨_, hI.thr, 1, 6, by omega, by omega, fun o M2 a2 b2 h => q16_1 hs.1 hs.2.1 hs.2.2.1 hs.2.2.2.1 hs.2.2.2.2.1 s0 s1 (by omega) h⟩
theorem ok16 (hI : Inv A2) (hs : mm_sc X x4 z0 z1 z2 z3) (h0 : mm_and z0 31 = 16) (s0 : mm_E 1 (d + 39) 149 0 [(0, .ref 1), (1, mI z1), (2, mI z2), (3, mI z3), (4, .ref 96)] [] (mm_w X A) (.inl (some (mI 0)), mm_w X A1, 0, 0)) (s1 : mm_E 1 (d + 39) 130 0 [(0, .ref 77), (1, mI z1), (2, mI z2), (3, mI z3)] [] (mm_w X A1) (.inl (some (mI z)), mm_w X A2, 0, 0)) (ht : A2 77 0 = 0) (ho : A2 96 0 = z) (hz : R32 z) : mm_rd X d x4 A := by
  obtain ⟨g3, g4, g5, g6, g7, g8, g9⟩ := hs.2.2.2.2.2
  exact ⟨_, hI, 0, 0, by omega, by omega, fun o M2 a2 b2 h => q16_2 hs.1 hs.2.1 hs.2.2.1 hs.2.2.2.1 hs.2.2.2.2.1 s0 s1 (by omega) h⟩
theorem ok17_1 (hI : Inv A2) (hs : mm_sc X x4 z0 z1 z2 z3) (h0 : mm_and z0 31 = 17) (hz1 : z1 = 0) (s0 : mm_E 1 (d + 39) 18 0 [(0, .ref 1), (1, mI 0)] [] (mm_w X A) (.inl (none), mm_w X A1, 0, 0)) (s1 : mm_E 1 (d + 39) 131 0 [(0, .ref 77), (1, mI 0)] [] (mm_w X A1) (.inl (none), mm_w X A2, 0, 0)) : mm_rd X d x4 A := by
  obtain ⟨g3, g4, g5, g6, g7, g8, g9⟩ := hs.2.2.2.2.2
  exact mm_rd.zero hI fun r h => q17_1 hs.1 hs.2.1 hs.2.2.1 s0 s1 (by omega) h
theorem ok17_2 (hI : Inv A2) (hs : mm_sc X x4 z0 z1 z2 z3) (h0 : mm_and z0 31 = 17) (hz1 : z1 ≠ 0) (s0 : mm_E 1 (d + 39) 18 0 [(0, .ref 1), (1, mI 1)] [] (mm_w X A) (.inl (none), mm_w X A1, 0, 0)) (s1 : mm_E 1 (d + 39) 131 0 [(0, .ref 77), (1, mI 1)] [] (mm_w X A1) (.inl (none), mm_w X A2, 0, 0)) : mm_rd X d x4 A := by
  obtain ⟨g3, g4, g5, g6, g7, g8, g9⟩ := hs.2.2.2.2.2
  exact mm_rd.zero hI fun r h => q17_2 hs.1 hs.2.1 hs.2.2.1 s0 s1 (by omega) h
theorem thr18 (hI : Inv A) (hs : mm_sc X x4 z0 z1 z2 z3) (h0 : mm_and z0 31 = 18) (hk : 1 ≤ k ∧ k ≤ 2) (s0 : mm_E 1 (d + 39) 150 0 [(0, .ref 1), (1, mI z1), (2, mI z2), (3, .ref 96)] [] (mm_w X A) (.inl (some (mI k)), mm_w X A, 1, 6)) (s1 : mm_E 1 (d + 39) 132 0 [(0, .ref 77), (1, mI z1), (2, mI z2)] [] (mm_w X A) (.inl (some (mJ v)), mm_w X (mm_u A 77 0 k), 0, 0)) : mm_rd X d x4 A := by
  obtain ⟨g3, g4, g5, g6, g7, g8, g9⟩ := hs.2.2.2.2.2
  have e : mm_u A 77 0 k 77 0 = k := mm_u_same
  exact ⟨_, hI.thr, 1, 6, by omega, by omega, fun o M2 a2 b2 h => q18_1 hs.1 hs.2.1 hs.2.2.1 hs.2.2.2.1 s0 s1 (by omega) h⟩
theorem ok18 (hI : Inv A2) (hs : mm_sc X x4 z0 z1 z2 z3) (h0 : mm_and z0 31 = 18) (s0 : mm_E 1 (d + 39) 150 0 [(0, .ref 1), (1, mI z1), (2, mI z2), (3, .ref 96)] [] (mm_w X A) (.inl (some (mI 0)), mm_w X A1, 0, 0)) (s1 : mm_E 1 (d + 39) 132 0 [(0, .ref 77), (1, mI z1), (2, mI z2)] [] (mm_w X A1) (.inl (some (mJ z)), mm_w X A2, 0, 0)) (ht : A2 77 0 = 0) (ho : A2 96 0 = z) (hz : R64 z) : mm_rd X d x4 A := by
  obtain ⟨g3, g4, g5, g6, g7, g8, g9⟩ := hs.2.2.2.2.2
  exact ⟨_, hI, 0, 0, by omega, by omega, fun o M2 a2 b2 h => q18_2 hs.1 hs.2.1 hs.2.2.1 hs.2.2.2.1 s0 s1 (by omega) h⟩
theorem thr19 (hI : Inv A) (hs : mm_sc X x4 z0 z1 z2 z3) (h0 : mm_and z0 31 = 19) (hk : 1 ≤ k ∧ k ≤ 2) (s0 : mm_E 1 (d + 39) 151 0 [(0, .ref 1), (1, mI z1), (2, mI z2), (3, mI z3), (4, .ref 96)] [] (mm_w X A) (.inl (some (mI k)), mm_w X A, 1, 6)) (s1 : mm_E 1 (d + 39) 133 0 [(0, .ref 77), (1, mI z1), (2, mI z2), (3, mI z3)] [] (mm_w X A) (.inl (some (mJ v)), mm_w X (mm_u A 77 0 k), 0, 0)) : mm_rd X d x4 A := by
  obtain ⟨g3, g4, g5, g6, g7, g8, g9⟩ := hs.2.2.2.2.2
  have e : mm_u A 77 0 k 77 0 = k := mm_u_same
  exact ⟨_, hI.thr, 1, 6, by omega, by omega, fun o M2 a2 b2 h => q19_1 hs.1 hs.2.1 hs.2.2.1 hs.2.2.2.1 hs.2.2.2.2.1 s0 s1 (by omega) h⟩
theorem ok19 (hI : Inv A2) (hs : mm_sc X x4 z0 z1 z2 z3) (h0 : mm_and z0 31 = 19) (s0 : mm_E 1 (d + 39) 151 0 [(0, .ref 1), (1, mI z1), (2, mI z2), (3, mI z3), (4, .ref 96)] [] (mm_w X A) (.inl (some (mI 0)), mm_w X A1, 0, 0)) (s1 : mm_E 1 (d + 39) 133 0 [(0, .ref 77), (1, mI z1), (2, mI z2), (3, mI z3)] [] (mm_w X A1) (.inl (some (mJ z)), mm_w X A2, 0, 0)) (ht : A2 77 0 = 0) (ho : A2 96 0 = z) (hz : R64 z) : mm_rd X d x4 A := by
  obtain ⟨g3, g4, g5, g6, g7, g8, g9⟩ := hs.2.2.2.2.2
  exact ⟨_, hI, 0, 0, by omega, by omega, fun o M2 a2 b2 h => q19_2 hs.1 hs.2.1 hs.2.2.1 hs.2.2.2.1 hs.2.2.2.2.1 s0 s1 (by omega) h⟩
theorem okd (hI : Inv A) (hs : mm_sc X x4 z0 z1 z2 z3) (h1 : 19 < mm_and z0 31) (h2 : mm_and z0 31 < 32) : mm_rd X d x4 A := by
  obtain ⟨g3, g4, g5, g6, g7, g8, g9⟩ := hs.2.2.2.2.2
  exact mm_rd.zero hI fun r h => qd_1 hs.1 hs.2.1 (by omega) h
end OP
