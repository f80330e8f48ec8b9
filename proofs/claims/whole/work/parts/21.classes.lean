/-! What the tables say of the classes, the methods, the pools. -/
theorem mm_nm0 : ∀ a, a < 4 → ∀ b, b < 4 → a ≠ b → (mm_T0 a).2.1 ≠ (mm_T0 b).2.1 := by decide +kernel
theorem mm_tok0 : ∀ k, k < 4 → parseFieldDescriptor (mm_T0 k).2.2.1 = some (mm_ty0 k) := by decide +kernel
set_option maxRecDepth 100000 in
theorem mm_u0 : ∀ w ∈ u_ws "FairDesk" mm_T0 4, w ∈ mm_ws := by
  intro w hw
  have e : u_ws "FairDesk" mm_T0 4 = [.laysFinal "FairDesk" "FairDesk" "goods" "LFairDesk$Goods;", .laysFinal "FairDesk" "FairDesk" "house" "LFairDesk$House;", .laysFinal "FairDesk" "FairDesk" "cakeTable" "LFairDesk$CakeTable;", .lays "FairDesk" "FairDesk" "peopleCount" "I"] := rfl
  rw [e] at hw
  simp only [List.mem_cons, List.not_mem_nil, or_false] at hw
  rcases hw with rfl | rfl | rfl | rfl
  · exact mm_m 262 rfl rfl
  · exact mm_m 264 rfl rfl
  · exact mm_m 266 rfl rfl
  · exact mm_m 268 rfl rfl
theorem mm_df0 : (mm_def 0).length = 4 ∧ ∀ k, k < 4 → (mm_def 0)[k]? = some (defaultValue (mm_fty 0 k)) := by decide +kernel
theorem mm_nm1 : ∀ a, a < 5 → ∀ b, b < 5 → a ≠ b → (mm_T1 a).2.1 ≠ (mm_T1 b).2.1 := by decide +kernel
theorem mm_tok1 : ∀ k, k < 5 → parseFieldDescriptor (mm_T1 k).2.2.1 = some (mm_ty1 k) := by decide +kernel
set_option maxRecDepth 100000 in
theorem mm_u1 : ∀ w ∈ u_ws "FairDesk$BundleSearch" mm_T1 5, w ∈ mm_ws := by
  intro w hw
  have e : u_ws "FairDesk$BundleSearch" mm_T1 5 = [.lays "FairDesk$BundleSearch" "FairDesk$BundleSearch" "bundles" "I", .lays "FairDesk$BundleSearch" "FairDesk$BundleSearch" "items" "I", .lays "FairDesk$BundleSearch" "FairDesk$BundleSearch" "values" "[I", .lays "FairDesk$BundleSearch" "FairDesk$BundleSearch" "best" "I", .laysFinal "FairDesk$BundleSearch" "FairDesk$BundleSearch" "sums" "[I"] := rfl
  rw [e] at hw
  simp only [List.mem_cons, List.not_mem_nil, or_false] at hw
  rcases hw with rfl | rfl | rfl | rfl | rfl
  · exact mm_m 122 rfl rfl
  · exact mm_m 124 rfl rfl
  · exact mm_m 126 rfl rfl
  · exact mm_m 128 rfl rfl
  · exact mm_m 130 rfl rfl
theorem mm_df1 : (mm_def 1).length = 5 ∧ ∀ k, k < 5 → (mm_def 1)[k]? = some (defaultValue (mm_fty 1 k)) := by decide +kernel
theorem mm_nm2 : ∀ a, a < 12 → ∀ b, b < 12 → a ≠ b → (mm_T2 a).2.1 ≠ (mm_T2 b).2.1 := by decide +kernel
theorem mm_tok2 : ∀ k, k < 12 → parseFieldDescriptor (mm_T2 k).2.2.1 = some (mm_ty2 k) := by decide +kernel
set_option maxRecDepth 100000 in
theorem mm_u2 : ∀ w ∈ u_ws "FairDesk$CakeTable" mm_T2 12, w ∈ mm_ws := by
  intro w hw
  have e : u_ws "FairDesk$CakeTable" mm_T2 12 = [.lays "FairDesk$CakeTable" "FairDesk$CakeTable" "people" "I", .lays "FairDesk$CakeTable" "FairDesk$CakeTable" "length" "I", .lays "FairDesk$CakeTable" "FairDesk$CakeTable" "wasCut" "Z", .laysFinal "FairDesk$CakeTable" "FairDesk$CakeTable" "densities" "[[I", .laysFinal "FairDesk$CakeTable" "FairDesk$CakeTable" "begins" "[LFairDesk$Fraction;", .laysFinal "FairDesk$CakeTable" "FairDesk$CakeTable" "ends" "[LFairDesk$Fraction;", .laysFinal "FairDesk$CakeTable" "FairDesk$CakeTable" "marks" "[LFairDesk$Fraction;", .laysFinal "FairDesk$CakeTable" "FairDesk$CakeTable" "served" "[Z", .laysFinal "FairDesk$CakeTable" "FairDesk$CakeTable" "order" "[I", .laysFinal "FairDesk$CakeTable" "FairDesk$CakeTable" "here" "LFairDesk$Fraction;", .laysFinal "FairDesk$CakeTable" "FairDesk$CakeTable" "amount" "LFairDesk$Fraction;", .laysFinal "FairDesk$CakeTable" "FairDesk$CakeTable" "tasted" "LFairDesk$Fraction;"] := rfl
  rw [e] at hw
  simp only [List.mem_cons, List.not_mem_nil, or_false] at hw
  rcases hw with rfl | rfl | rfl | rfl | rfl | rfl | rfl | rfl | rfl | rfl | rfl | rfl
  · exact mm_m 232 rfl rfl
  · exact mm_m 234 rfl rfl
  · exact mm_m 236 rfl rfl
  · exact mm_m 238 rfl rfl
  · exact mm_m 240 rfl rfl
  · exact mm_m 242 rfl rfl
  · exact mm_m 244 rfl rfl
  · exact mm_m 246 rfl rfl
  · exact mm_m 248 rfl rfl
  · exact mm_m 250 rfl rfl
  · exact mm_m 252 rfl rfl
  · exact mm_m 254 rfl rfl
theorem mm_df2 : (mm_def 2).length = 12 ∧ ∀ k, k < 12 → (mm_def 2)[k]? = some (defaultValue (mm_fty 2 k)) := by decide +kernel
theorem mm_nm3 : ∀ a, a < 2 → ∀ b, b < 2 → a ≠ b → (mm_T3 a).2.1 ≠ (mm_T3 b).2.1 := by decide +kernel
theorem mm_tok3 : ∀ k, k < 2 → parseFieldDescriptor (mm_T3 k).2.2.1 = some (mm_ty3 k) := by decide +kernel
set_option maxRecDepth 100000 in
theorem mm_u3 : ∀ w ∈ u_ws "FairDesk$Fraction" mm_T3 2, w ∈ mm_ws := by
  intro w hw
  have e : u_ws "FairDesk$Fraction" mm_T3 2 = [.lays "FairDesk$Fraction" "FairDesk$Fraction" "top" "J", .lays "FairDesk$Fraction" "FairDesk$Fraction" "bottom" "J"] := rfl
  rw [e] at hw
  simp only [List.mem_cons, List.not_mem_nil, or_false] at hw
  rcases hw with rfl | rfl
  · exact mm_m 178 rfl rfl
  · exact mm_m 180 rfl rfl
theorem mm_df3 : (mm_def 3).length = 2 ∧ ∀ k, k < 2 → (mm_def 3)[k]? = some (defaultValue (mm_fty 3 k)) := by decide +kernel
theorem mm_nm4 : ∀ a, a < 8 → ∀ b, b < 8 → a ≠ b → (mm_T4 a).2.1 ≠ (mm_T4 b).2.1 := by decide +kernel
theorem mm_tok4 : ∀ k, k < 8 → parseFieldDescriptor (mm_T4 k).2.2.1 = some (mm_ty4 k) := by decide +kernel
set_option maxRecDepth 100000 in
theorem mm_u4 : ∀ w ∈ u_ws "FairDesk$Goods" mm_T4 8, w ∈ mm_ws := by
  intro w hw
  have e : u_ws "FairDesk$Goods" mm_T4 8 = [.lays "FairDesk$Goods" "FairDesk$Goods" "people" "I", .lays "FairDesk$Goods" "FairDesk$Goods" "items" "I", .laysFinal "FairDesk$Goods" "FairDesk$Goods" "values" "[[I", .laysFinal "FairDesk$Goods" "FairDesk$Goods" "holders" "[I", .laysFinal "FairDesk$Goods" "FairDesk$Goods" "enviers" "[I", .laysFinal "FairDesk$Goods" "FairDesk$Goods" "takers" "[I", .laysFinal "FairDesk$Goods" "FairDesk$Goods" "productSearch" "LFairDesk$ProductSearch;", .laysFinal "FairDesk$Goods" "FairDesk$Goods" "bundleSearch" "LFairDesk$BundleSearch;"] := rfl
  rw [e] at hw
  simp only [List.mem_cons, List.not_mem_nil, or_false] at hw
  rcases hw with rfl | rfl | rfl | rfl | rfl | rfl | rfl | rfl
  · exact mm_m 145 rfl rfl
  · exact mm_m 147 rfl rfl
  · exact mm_m 149 rfl rfl
  · exact mm_m 151 rfl rfl
  · exact mm_m 153 rfl rfl
  · exact mm_m 155 rfl rfl
  · exact mm_m 157 rfl rfl
  · exact mm_m 159 rfl rfl
theorem mm_df4 : (mm_def 4).length = 8 ∧ ∀ k, k < 8 → (mm_def 4)[k]? = some (defaultValue (mm_fty 4 k)) := by decide +kernel
theorem mm_nm5 : ∀ a, a < 9 → ∀ b, b < 9 → a ≠ b → (mm_T5 a).2.1 ≠ (mm_T5 b).2.1 := by decide +kernel
theorem mm_tok5 : ∀ k, k < 9 → parseFieldDescriptor (mm_T5 k).2.2.1 = some (mm_ty5 k) := by decide +kernel
set_option maxRecDepth 100000 in
theorem mm_u5 : ∀ w ∈ u_ws "FairDesk$House" mm_T5 9, w ∈ mm_ws := by
  intro w hw
  have e : u_ws "FairDesk$House" mm_T5 9 = [.lays "FairDesk$House" "FairDesk$House" "people" "I", .lays "FairDesk$House" "FairDesk$House" "totalRent" "I", .lays "FairDesk$House" "FairDesk$House" "divided" "Z", .lays "FairDesk$House" "FairDesk$House" "bestSum" "I", .laysFinal "FairDesk$House" "FairDesk$House" "values" "[[I", .laysFinal "FairDesk$House" "FairDesk$House" "roomsTried" "[I", .laysFinal "FairDesk$House" "FairDesk$House" "roomsGot" "[I", .laysFinal "FairDesk$House" "FairDesk$House" "leads" "[I", .laysFinal "FairDesk$House" "FairDesk$House" "rents" "[LFairDesk$Fraction;"] := rfl
  rw [e] at hw
  simp only [List.mem_cons, List.not_mem_nil, or_false] at hw
  rcases hw with rfl | rfl | rfl | rfl | rfl | rfl | rfl | rfl | rfl
  · exact mm_m 192 rfl rfl
  · exact mm_m 194 rfl rfl
  · exact mm_m 196 rfl rfl
  · exact mm_m 198 rfl rfl
  · exact mm_m 200 rfl rfl
  · exact mm_m 202 rfl rfl
  · exact mm_m 204 rfl rfl
  · exact mm_m 206 rfl rfl
  · exact mm_m 208 rfl rfl
theorem mm_df5 : (mm_def 5).length = 9 ∧ ∀ k, k < 9 → (mm_def 5)[k]? = some (defaultValue (mm_fty 5 k)) := by decide +kernel
theorem mm_nm6 : ∀ a, a < 9 → ∀ b, b < 9 → a ≠ b → (mm_T6 a).2.1 ≠ (mm_T6 b).2.1 := by decide +kernel
theorem mm_tok6 : ∀ k, k < 9 → parseFieldDescriptor (mm_T6 k).2.2.1 = some (mm_ty6 k) := by decide +kernel
set_option maxRecDepth 100000 in
theorem mm_u6 : ∀ w ∈ u_ws "FairDesk$ProductSearch" mm_T6 9, w ∈ mm_ws := by
  intro w hw
  have e : u_ws "FairDesk$ProductSearch" mm_T6 9 = [.lays "FairDesk$ProductSearch" "FairDesk$ProductSearch" "people" "I", .lays "FairDesk$ProductSearch" "FairDesk$ProductSearch" "items" "I", .lays "FairDesk$ProductSearch" "FairDesk$ProductSearch" "values" "[[I", .lays "FairDesk$ProductSearch" "FairDesk$ProductSearch" "bestHolders" "[I", .lays "FairDesk$ProductSearch" "FairDesk$ProductSearch" "bestCount" "I", .lays "FairDesk$ProductSearch" "FairDesk$ProductSearch" "bestProduct" "J", .laysFinal "FairDesk$ProductSearch" "FairDesk$ProductSearch" "holders" "[I", .laysFinal "FairDesk$ProductSearch" "FairDesk$ProductSearch" "held" "[I", .laysFinal "FairDesk$ProductSearch" "FairDesk$ProductSearch" "rest" "[[I"] := rfl
  rw [e] at hw
  simp only [List.mem_cons, List.not_mem_nil, or_false] at hw
  rcases hw with rfl | rfl | rfl | rfl | rfl | rfl | rfl | rfl | rfl
  · exact mm_m 91 rfl rfl
  · exact mm_m 93 rfl rfl
  · exact mm_m 95 rfl rfl
  · exact mm_m 97 rfl rfl
  · exact mm_m 99 rfl rfl
  · exact mm_m 101 rfl rfl
  · exact mm_m 103 rfl rfl
  · exact mm_m 105 rfl rfl
  · exact mm_m 107 rfl rfl
theorem mm_df6 : (mm_def 6).length = 9 ∧ ∀ k, k < 9 → (mm_def 6)[k]? = some (defaultValue (mm_fty 6 k)) := by decide +kernel
theorem mm_nm7 : ∀ a, a < 27 → ∀ b, b < 27 → a ≠ b → (mm_T7 a).2.1 ≠ (mm_T7 b).2.1 := by decide +kernel
theorem mm_tok7 : ∀ k, k < 27 → parseFieldDescriptor (mm_T7 k).2.2.1 = some (mm_ty7 k) := by decide +kernel
set_option maxRecDepth 100000 in
theorem mm_u7 : ∀ w ∈ u_ws "FairDeskModel" mm_T7 27, w ∈ mm_ws := by
  intro w hw
  have e : u_ws "FairDeskModel" mm_T7 27 = [.lays "FairDeskModel" "FairDeskModel" "thrownCode" "I", .lays "FairDeskModel" "FairDeskModel" "people" "I", .lays "FairDeskModel" "FairDeskModel" "items" "I", .laysFinal "FairDeskModel" "FairDeskModel" "values" "[I", .laysFinal "FairDeskModel" "FairDeskModel" "holder" "[I", .laysFinal "FairDeskModel" "FairDeskModel" "way" "[I", .laysFinal "FairDeskModel" "FairDeskModel" "worths" "[I", .laysFinal "FairDeskModel" "FairDeskModel" "rooms" "[I", .lays "FairDeskModel" "FairDeskModel" "total" "I", .lays "FairDeskModel" "FairDeskModel" "divided" "Z", .laysFinal "FairDeskModel" "FairDeskModel" "roomOf" "[I", .laysFinal "FairDeskModel" "FairDeskModel" "tryRoom" "[I", .laysFinal "FairDeskModel" "FairDeskModel" "more" "[I", .laysFinal "FairDeskModel" "FairDeskModel" "rentAbove" "[J", .laysFinal "FairDeskModel" "FairDeskModel" "rentBelow" "[J", .lays "FairDeskModel" "FairDeskModel" "length" "I", .laysFinal "FairDeskModel" "FairDeskModel" "density" "[I", .lays "FairDeskModel" "FairDeskModel" "isCut" "Z", .laysFinal "FairDeskModel" "FairDeskModel" "fromAbove" "[J", .laysFinal "FairDeskModel" "FairDeskModel" "fromBelow" "[J", .laysFinal "FairDeskModel" "FairDeskModel" "toAbove" "[J", .laysFinal "FairDeskModel" "FairDeskModel" "toBelow" "[J", .laysFinal "FairDeskModel" "FairDeskModel" "markAbove" "[J", .laysFinal "FairDeskModel" "FairDeskModel" "markBelow" "[J", .lays "FairDeskModel" "FairDeskModel" "above" "J", .lays "FairDeskModel" "FairDeskModel" "below" "J", .laysFinal "FairDeskModel" "FairDeskModel" "group" "[I"] := rfl
  rw [e] at hw
  simp only [List.mem_cons, List.not_mem_nil, or_false] at hw
  rcases hw with rfl | rfl | rfl | rfl | rfl | rfl | rfl | rfl | rfl | rfl | rfl | rfl | rfl | rfl | rfl | rfl | rfl | rfl | rfl | rfl | rfl | rfl | rfl | rfl | rfl | rfl | rfl
  · exact mm_m 836 rfl rfl
  · exact mm_m 838 rfl rfl
  · exact mm_m 840 rfl rfl
  · exact mm_m 842 rfl rfl
  · exact mm_m 844 rfl rfl
  · exact mm_m 846 rfl rfl
  · exact mm_m 848 rfl rfl
  · exact mm_m 850 rfl rfl
  · exact mm_m 852 rfl rfl
  · exact mm_m 854 rfl rfl
  · exact mm_m 856 rfl rfl
  · exact mm_m 858 rfl rfl
  · exact mm_m 860 rfl rfl
  · exact mm_m 862 rfl rfl
  · exact mm_m 864 rfl rfl
  · exact mm_m 866 rfl rfl
  · exact mm_m 868 rfl rfl
  · exact mm_m 870 rfl rfl
  · exact mm_m 872 rfl rfl
  · exact mm_m 874 rfl rfl
  · exact mm_m 876 rfl rfl
  · exact mm_m 878 rfl rfl
  · exact mm_m 880 rfl rfl
  · exact mm_m 882 rfl rfl
  · exact mm_m 884 rfl rfl
  · exact mm_m 886 rfl rfl
  · exact mm_m 888 rfl rfl
theorem mm_df7 : (mm_def 7).length = 27 ∧ ∀ k, k < 27 → (mm_def 7)[k]? = some (defaultValue (mm_fty 7 k)) := by decide +kernel
theorem mm_cl_ok {ci N : Nat} {C : String} {T : u_T} (h : mm_cl[ci]? = some (C, T, N)) : ci < 50 ∧ (∀ w ∈ u_ws C T N, w ∈ mm_ws) ∧ (∀ k, k < N → parseFieldDescriptor (T k).2.2.1 = some (mm_fty ci k)) ∧ (∀ a, a < N → ∀ b, b < N → a ≠ b → (T a).2.1 ≠ (T b).2.1) ∧ ((mm_def ci).length = N ∧ ∀ k, k < N → (mm_def ci)[k]? = some (defaultValue (mm_fty ci k))) := by
  match ci, h with
  | 0, h => cases h; exact ⟨by decide, mm_u0, mm_tok0, mm_nm0, mm_df0⟩
  | 1, h => cases h; exact ⟨by decide, mm_u1, mm_tok1, mm_nm1, mm_df1⟩
  | 2, h => cases h; exact ⟨by decide, mm_u2, mm_tok2, mm_nm2, mm_df2⟩
  | 3, h => cases h; exact ⟨by decide, mm_u3, mm_tok3, mm_nm3, mm_df3⟩
  | 4, h => cases h; exact ⟨by decide, mm_u4, mm_tok4, mm_nm4, mm_df4⟩
  | 5, h => cases h; exact ⟨by decide, mm_u5, mm_tok5, mm_nm5, mm_df5⟩
  | 6, h => cases h; exact ⟨by decide, mm_u6, mm_tok6, mm_nm6, mm_df6⟩
  | 7, h => cases h; exact ⟨by decide, mm_u7, mm_tok7, mm_nm7, mm_df7⟩
  | _ + 8, h => cases h
theorem mm_vr_def (ads : List Nat) (ty : FieldType) : mm_vr ads (defaultValue ty) (defaultValue ty) := by
  cases ty <;> rfl
theorem mm_comp_ok {k k2 : Nat} (h1 : mm_akd k = 4) (h2 : mm_comp k = k2) (h3 : k2 < 50) : ∃ t C T N, k = 50 + t ∧ mm_arr[t]? = some (.object C) ∧ mm_cl[k2]? = some (C, T, N) := by
  unfold mm_comp at h2
  split at h2
  · subst h2
    exact ⟨3, "FairDesk$Fraction", mm_T3, 2, rfl, rfl, rfl⟩
  · subst h2
    exact absurd h3 (by decide)
set_option maxRecDepth 100000 in
theorem mm_w_i : Cond.arrayClass .int ∈ mm_ws := mm_m 110 rfl rfl
set_option maxRecDepth 100000 in
theorem mm_w_l : Cond.arrayClass .long ∈ mm_ws := mm_m 891 rfl rfl
set_option maxRecDepth 100000 in
theorem mm_w_z : Cond.arrayClass .boolean ∈ mm_ws := mm_m 257 rfl rfl
