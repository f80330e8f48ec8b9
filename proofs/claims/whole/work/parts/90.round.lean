/-! every round; the claim. -/
theorem and31 (z : Int) : 0 ≤ mm_and z 31 ∧ mm_and z 31 < 32 := by
  unfold mm_and
  generalize Int32.ofInt z = a
  have h : (a &&& Int32.ofInt 31).toInt = (a.toBitVec &&& (31 : BitVec 32)).toInt := rfl
  have n : (a.toBitVec &&& (31 : BitVec 32)).toNat ≤ 31 := by
    rw [BitVec.toNat_and]
    exact Nat.and_le_right
  rw [h, BitVec.toInt_eq_toNat_cond, if_pos (by omega)]
  omega
theorem mm_round {X : List Value} {d : Nat} (A : MF) (x4 z0 z1 z2 z3 : Int) (hI : Inv A) (hs : mm_sc X x4 z0 z1 z2 z3) : mm_rd X d x4 A := by
  have b := and31 z0
  by_cases h0 : mm_and z0 31 = 0
  · exact rd0 hI hs h0
  by_cases h1 : mm_and z0 31 = 1
  · exact rd1 hI hs h1
  by_cases h2 : mm_and z0 31 = 2
  · exact rd2 hI hs h2
  by_cases h3 : mm_and z0 31 = 3
  · exact rd3 hI hs h3
  by_cases h4 : mm_and z0 31 = 4
  · exact rd4 hI hs h4
  by_cases h5 : mm_and z0 31 = 5
  · exact rd5 hI hs h5
  by_cases h6 : mm_and z0 31 = 6
  · exact rd6 hI hs h6
  by_cases h7 : mm_and z0 31 = 7
  · exact rd7 hI hs h7
  by_cases h8 : mm_and z0 31 = 8
  · exact rd8 hI hs h8
  by_cases h9 : mm_and z0 31 = 9
  · exact rd9 hI hs h9
  by_cases h10 : mm_and z0 31 = 10
  · exact rd10 hI hs h10
  by_cases h11 : mm_and z0 31 = 11
  · exact rd11 hI hs h11
  by_cases h12 : mm_and z0 31 = 12
  · exact rd12 hI hs h12
  by_cases h13 : mm_and z0 31 = 13
  · exact rd13 hI hs h13
  by_cases h14 : mm_and z0 31 = 14
  · exact rd14 hI hs h14
  by_cases h15 : mm_and z0 31 = 15
  · exact rd15 hI hs h15
  by_cases h16 : mm_and z0 31 = 16
  · exact rd16 hI hs h16
  by_cases h17 : mm_and z0 31 = 17
  · exact rd17 hI hs h17
  by_cases h18 : mm_and z0 31 = 18
  · exact rd18 hI hs h18
  by_cases h19 : mm_and z0 31 = 19
  · exact rd19 hI hs h19
  exact okd hI hs (by omega) b.2
