/-! What a program decides of the names. -/
def mm_dec (cc : ByteArray) (pc : Nat) (i : Instr) : Prop := ∃ len, decode cc pc = .ok (i, len) ∧ (mm_len i = 0 ∨ len = mm_len i)
def mm_ckd (cc : ByteArray) (pc : Nat) (i : Instr) : Bool := match decode cc pc with
  | .ok (i2, len) => decide (i2 = i) && (Nat.beq (mm_len i) 0 || Nat.beq len (mm_len i))
  | _ => false
theorem mm_ckd_ok {cc : ByteArray} {pc : Nat} {i : Instr} (h : mm_ckd cc pc i = true) : mm_dec cc pc i := by
  unfold mm_ckd at h
  split at h
  · rename_i i2 len he
    obtain ⟨a, b⟩ := Bool.and_eq_true_iff.mp h
    have e := of_decide_eq_true a
    subst e
    refine ⟨len, he, ?_⟩
    rcases Bool.or_eq_true_iff.mp b with z | z
    · exact Or.inl (Nat.eq_of_beq_eq_true z)
    · exact Or.inr (Nat.eq_of_beq_eq_true z)
  · cases h
theorem mm_lk_mem {α : Type} {i : Nat} {v : α} : ∀ {l : List (Nat × α)}, mm_lk l i = some v → (i, v) ∈ l
  | [], h => by simp [mm_lk] at h
  | q :: r, h => by
    unfold mm_lk at h
    split at h
    · rename_i e
      cases h
      have e := Nat.eq_of_beq_eq_true e
      subst e
      exact List.mem_cons_self
    · exact List.mem_cons_of_mem _ (mm_lk_mem h)
theorem mm_k0 : mm_c0.all (fun q => mm_ckd prog_1_method_1_code q.1 q.2) = true := by decide +kernel
theorem mm_k1 : mm_c1.all (fun q => mm_ckd prog_1_method_2_code q.1 q.2) = true := by decide +kernel
theorem mm_k2 : mm_c2.all (fun q => mm_ckd prog_1_method_3_code q.1 q.2) = true := by decide +kernel
theorem mm_k3 : mm_c3.all (fun q => mm_ckd prog_1_method_4_code q.1 q.2) = true := by decide +kernel
theorem mm_k4 : mm_c4.all (fun q => mm_ckd prog_1_method_5_code q.1 q.2) = true := by decide +kernel
theorem mm_k5 : mm_c5.all (fun q => mm_ckd prog_1_method_6_code q.1 q.2) = true := by decide +kernel
theorem mm_k6 : mm_c6.all (fun q => mm_ckd prog_1_method_7_code q.1 q.2) = true := by decide +kernel
theorem mm_k7 : mm_c7.all (fun q => mm_ckd prog_1_method_8_code q.1 q.2) = true := by decide +kernel
theorem mm_k8 : mm_c8.all (fun q => mm_ckd prog_1_method_9_code q.1 q.2) = true := by decide +kernel
theorem mm_k9 : mm_c9.all (fun q => mm_ckd prog_1_method_10_code q.1 q.2) = true := by decide +kernel
theorem mm_k10 : mm_c10.all (fun q => mm_ckd prog_1_method_11_code q.1 q.2) = true := by decide +kernel
theorem mm_k11 : mm_c11.all (fun q => mm_ckd prog_1_method_12_code q.1 q.2) = true := by decide +kernel
theorem mm_k12 : mm_c12.all (fun q => mm_ckd prog_1_method_13_code q.1 q.2) = true := by decide +kernel
theorem mm_k13 : mm_c13.all (fun q => mm_ckd prog_1_method_14_code q.1 q.2) = true := by decide +kernel
theorem mm_k14 : mm_c14.all (fun q => mm_ckd prog_1_method_15_code q.1 q.2) = true := by decide +kernel
theorem mm_k15 : mm_c15.all (fun q => mm_ckd prog_1_method_16_code q.1 q.2) = true := by decide +kernel
theorem mm_k16 : mm_c16.all (fun q => mm_ckd prog_1_method_17_code q.1 q.2) = true := by decide +kernel
theorem mm_k17 : mm_c17.all (fun q => mm_ckd prog_1_method_18_code q.1 q.2) = true := by decide +kernel
theorem mm_k18 : mm_c18.all (fun q => mm_ckd prog_1_method_19_code q.1 q.2) = true := by decide +kernel
theorem mm_k19 : mm_c19.all (fun q => mm_ckd prog_1_method_20_code q.1 q.2) = true := by decide +kernel
theorem mm_k20 : mm_c20.all (fun q => mm_ckd prog_1_method_21_code q.1 q.2) = true := by decide +kernel
theorem mm_k21 : mm_c21.all (fun q => mm_ckd prog_1_method_22_code q.1 q.2) = true := by decide +kernel
theorem mm_k22 : mm_c22.all (fun q => mm_ckd prog_1_method_23_code q.1 q.2) = true := by decide +kernel
theorem mm_k23 : mm_c23.all (fun q => mm_ckd prog_1_method_24_code q.1 q.2) = true := by decide +kernel
theorem mm_k24 : mm_c24.all (fun q => mm_ckd prog_2_method_1_code q.1 q.2) = true := by decide +kernel
theorem mm_k25 : mm_c25.all (fun q => mm_ckd prog_2_method_2_code q.1 q.2) = true := by decide +kernel
theorem mm_k26 : mm_c26.all (fun q => mm_ckd prog_2_method_3_code q.1 q.2) = true := by decide +kernel
theorem mm_k27 : mm_c27.all (fun q => mm_ckd prog_3_method_1_code q.1 q.2) = true := by decide +kernel
theorem mm_k28 : mm_c28.all (fun q => mm_ckd prog_3_method_2_code q.1 q.2) = true := by decide +kernel
theorem mm_k29 : mm_c29.all (fun q => mm_ckd prog_3_method_3_code q.1 q.2) = true := by decide +kernel
theorem mm_k30 : mm_c30.all (fun q => mm_ckd prog_3_method_4_code q.1 q.2) = true := by decide +kernel
theorem mm_k31 : mm_c31.all (fun q => mm_ckd prog_3_method_5_code q.1 q.2) = true := by decide +kernel
theorem mm_k32 : mm_c32.all (fun q => mm_ckd prog_3_method_6_code q.1 q.2) = true := by decide +kernel
theorem mm_k33 : mm_c33.all (fun q => mm_ckd prog_3_method_7_code q.1 q.2) = true := by decide +kernel
theorem mm_k34 : mm_c34.all (fun q => mm_ckd prog_3_method_8_code q.1 q.2) = true := by decide +kernel
theorem mm_k35 : mm_c35.all (fun q => mm_ckd prog_3_method_9_code q.1 q.2) = true := by decide +kernel
theorem mm_k36 : mm_c36.all (fun q => mm_ckd prog_3_method_10_code q.1 q.2) = true := by decide +kernel
theorem mm_k37 : mm_c37.all (fun q => mm_ckd prog_3_method_11_code q.1 q.2) = true := by decide +kernel
theorem mm_k38 : mm_c38.all (fun q => mm_ckd prog_3_method_12_code q.1 q.2) = true := by decide +kernel
theorem mm_k39 : mm_c39.all (fun q => mm_ckd prog_3_method_13_code q.1 q.2) = true := by decide +kernel
theorem mm_k40 : mm_c40.all (fun q => mm_ckd prog_3_method_14_code q.1 q.2) = true := by decide +kernel
theorem mm_k41 : mm_c41.all (fun q => mm_ckd prog_3_method_15_code q.1 q.2) = true := by decide +kernel
theorem mm_k42 : mm_c42.all (fun q => mm_ckd prog_3_method_16_code q.1 q.2) = true := by decide +kernel
theorem mm_k43 : mm_c43.all (fun q => mm_ckd prog_3_method_17_code q.1 q.2) = true := by decide +kernel
theorem mm_k44 : mm_c44.all (fun q => mm_ckd prog_3_method_18_code q.1 q.2) = true := by decide +kernel
theorem mm_k45 : mm_c45.all (fun q => mm_ckd prog_4_method_1_code q.1 q.2) = true := by decide +kernel
theorem mm_k46 : mm_c46.all (fun q => mm_ckd prog_4_method_2_code q.1 q.2) = true := by decide +kernel
theorem mm_k47 : mm_c47.all (fun q => mm_ckd prog_4_method_3_code q.1 q.2) = true := by decide +kernel
theorem mm_k48 : mm_c48.all (fun q => mm_ckd prog_4_method_4_code q.1 q.2) = true := by decide +kernel
theorem mm_k49 : mm_c49.all (fun q => mm_ckd prog_4_method_5_code q.1 q.2) = true := by decide +kernel
theorem mm_k50 : mm_c50.all (fun q => mm_ckd prog_4_method_6_code q.1 q.2) = true := by decide +kernel
theorem mm_k51 : mm_c51.all (fun q => mm_ckd prog_4_method_7_code q.1 q.2) = true := by decide +kernel
theorem mm_k52 : mm_c52.all (fun q => mm_ckd prog_4_method_8_code q.1 q.2) = true := by decide +kernel
theorem mm_k53 : mm_c53.all (fun q => mm_ckd prog_4_method_9_code q.1 q.2) = true := by decide +kernel
theorem mm_k54 : mm_c54.all (fun q => mm_ckd prog_5_method_1_code q.1 q.2) = true := by decide +kernel
theorem mm_k55 : mm_c55.all (fun q => mm_ckd prog_5_method_2_code q.1 q.2) = true := by decide +kernel
theorem mm_k56 : mm_c56.all (fun q => mm_ckd prog_5_method_3_code q.1 q.2) = true := by decide +kernel
theorem mm_k57 : mm_c57.all (fun q => mm_ckd prog_5_method_4_code q.1 q.2) = true := by decide +kernel
theorem mm_k58 : mm_c58.all (fun q => mm_ckd prog_5_method_5_code q.1 q.2) = true := by decide +kernel
theorem mm_k59 : mm_c59.all (fun q => mm_ckd prog_5_method_6_code q.1 q.2) = true := by decide +kernel
theorem mm_k60 : mm_c60.all (fun q => mm_ckd prog_5_method_7_code q.1 q.2) = true := by decide +kernel
theorem mm_k61 : mm_c61.all (fun q => mm_ckd prog_5_method_8_code q.1 q.2) = true := by decide +kernel
theorem mm_k62 : mm_c62.all (fun q => mm_ckd prog_5_method_9_code q.1 q.2) = true := by decide +kernel
theorem mm_k63 : mm_c63.all (fun q => mm_ckd prog_5_method_10_code q.1 q.2) = true := by decide +kernel
theorem mm_k64 : mm_c64.all (fun q => mm_ckd prog_5_method_11_code q.1 q.2) = true := by decide +kernel
theorem mm_k65 : mm_c65.all (fun q => mm_ckd prog_5_method_12_code q.1 q.2) = true := by decide +kernel
theorem mm_k66 : mm_c66.all (fun q => mm_ckd prog_5_method_13_code q.1 q.2) = true := by decide +kernel
theorem mm_k67 : mm_c67.all (fun q => mm_ckd prog_5_method_14_code q.1 q.2) = true := by decide +kernel
theorem mm_k68 : mm_c68.all (fun q => mm_ckd prog_5_method_15_code q.1 q.2) = true := by decide +kernel
theorem mm_k69 : mm_c69.all (fun q => mm_ckd prog_5_method_16_code q.1 q.2) = true := by decide +kernel
theorem mm_k70 : mm_c70.all (fun q => mm_ckd prog_5_method_17_code q.1 q.2) = true := by decide +kernel
theorem mm_k71 : mm_c71.all (fun q => mm_ckd prog_5_method_18_code q.1 q.2) = true := by decide +kernel
theorem mm_k72 : mm_c72.all (fun q => mm_ckd prog_5_method_19_code q.1 q.2) = true := by decide +kernel
theorem mm_k73 : mm_c73.all (fun q => mm_ckd prog_5_method_20_code q.1 q.2) = true := by decide +kernel
theorem mm_k74 : mm_c74.all (fun q => mm_ckd prog_6_method_1_code q.1 q.2) = true := by decide +kernel
theorem mm_k75 : mm_c75.all (fun q => mm_ckd prog_6_method_2_code q.1 q.2) = true := by decide +kernel
theorem mm_k76 : mm_c76.all (fun q => mm_ckd prog_6_method_3_code q.1 q.2) = true := by decide +kernel
theorem mm_k77 : mm_c77.all (fun q => mm_ckd prog_6_method_4_code q.1 q.2) = true := by decide +kernel
theorem mm_k78 : mm_c78.all (fun q => mm_ckd prog_6_method_5_code q.1 q.2) = true := by decide +kernel
theorem mm_k79 : mm_c79.all (fun q => mm_ckd prog_6_method_6_code q.1 q.2) = true := by decide +kernel
theorem mm_k80 : mm_c80.all (fun q => mm_ckd prog_6_method_7_code q.1 q.2) = true := by decide +kernel
theorem mm_k81 : mm_c81.all (fun q => mm_ckd prog_6_method_8_code q.1 q.2) = true := by decide +kernel
theorem mm_k82 : mm_c82.all (fun q => mm_ckd prog_6_method_9_code q.1 q.2) = true := by decide +kernel
theorem mm_k83 : mm_c83.all (fun q => mm_ckd prog_6_method_10_code q.1 q.2) = true := by decide +kernel
theorem mm_k84 : mm_c84.all (fun q => mm_ckd prog_6_method_11_code q.1 q.2) = true := by decide +kernel
theorem mm_k85 : mm_c85.all (fun q => mm_ckd prog_6_method_12_code q.1 q.2) = true := by decide +kernel
theorem mm_k86 : mm_c86.all (fun q => mm_ckd prog_7_method_1_code q.1 q.2) = true := by decide +kernel
theorem mm_k87 : mm_c87.all (fun q => mm_ckd prog_7_method_2_code q.1 q.2) = true := by decide +kernel
theorem mm_k88 : mm_c88.all (fun q => mm_ckd prog_7_method_3_code q.1 q.2) = true := by decide +kernel
theorem mm_k89 : mm_c89.all (fun q => mm_ckd prog_7_method_4_code q.1 q.2) = true := by decide +kernel
theorem mm_k90 : mm_c90.all (fun q => mm_ckd prog_9_method_1_code q.1 q.2) = true := by decide +kernel
theorem mm_k91 : mm_c91.all (fun q => mm_ckd prog_9_method_2_code q.1 q.2) = true := by decide +kernel
theorem mm_k92 : mm_c92.all (fun q => mm_ckd prog_9_method_3_code q.1 q.2) = true := by decide +kernel
theorem mm_k93 : mm_c93.all (fun q => mm_ckd prog_9_method_4_code q.1 q.2) = true := by decide +kernel
theorem mm_k94 : mm_c94.all (fun q => mm_ckd prog_9_method_5_code q.1 q.2) = true := by decide +kernel
theorem mm_k95 : mm_c95.all (fun q => mm_ckd prog_9_method_6_code q.1 q.2) = true := by decide +kernel
theorem mm_k96 : mm_c96.all (fun q => mm_ckd prog_9_method_7_code q.1 q.2) = true := by decide +kernel
theorem mm_k97 : mm_c97.all (fun q => mm_ckd prog_9_method_8_code q.1 q.2) = true := by decide +kernel
theorem mm_k98 : mm_c98.all (fun q => mm_ckd prog_9_method_9_code q.1 q.2) = true := by decide +kernel
theorem mm_k99 : mm_c99.all (fun q => mm_ckd prog_9_method_10_code q.1 q.2) = true := by decide +kernel
theorem mm_k100 : mm_c100.all (fun q => mm_ckd prog_9_method_11_code q.1 q.2) = true := by decide +kernel
theorem mm_k101 : mm_c101.all (fun q => mm_ckd prog_9_method_12_code q.1 q.2) = true := by decide +kernel
theorem mm_k102 : mm_c102.all (fun q => mm_ckd prog_9_method_13_code q.1 q.2) = true := by decide +kernel
theorem mm_k103 : mm_c103.all (fun q => mm_ckd prog_9_method_14_code q.1 q.2) = true := by decide +kernel
theorem mm_k104 : mm_c104.all (fun q => mm_ckd prog_9_method_15_code q.1 q.2) = true := by decide +kernel
theorem mm_k105 : mm_c105.all (fun q => mm_ckd prog_9_method_16_code q.1 q.2) = true := by decide +kernel
theorem mm_k106 : mm_c106.all (fun q => mm_ckd prog_9_method_17_code q.1 q.2) = true := by decide +kernel
theorem mm_k107 : mm_c107.all (fun q => mm_ckd prog_9_method_18_code q.1 q.2) = true := by decide +kernel
theorem mm_k108 : mm_c108.all (fun q => mm_ckd prog_9_method_19_code q.1 q.2) = true := by decide +kernel
theorem mm_k109 : mm_c109.all (fun q => mm_ckd prog_9_method_20_code q.1 q.2) = true := by decide +kernel
theorem mm_k110_0 : mm_c110_0.all (fun q => mm_ckd prog_9_method_21_code q.1 q.2) = true := by decide +kernel
theorem mm_k110_1 : mm_c110_1.all (fun q => mm_ckd prog_9_method_21_code q.1 q.2) = true := by decide +kernel
theorem mm_k110 : mm_c110.all (fun q => mm_ckd prog_9_method_21_code q.1 q.2) = true := by
  simp only [mm_c110, List.all_append, mm_k110_0, mm_k110_1, Bool.and_self]
theorem mm_k111 : mm_c111.all (fun q => mm_ckd prog_9_method_22_code q.1 q.2) = true := by decide +kernel
theorem mm_k112 : mm_c112.all (fun q => mm_ckd prog_9_method_23_code q.1 q.2) = true := by decide +kernel
theorem mm_k113 : mm_c113.all (fun q => mm_ckd prog_9_method_24_code q.1 q.2) = true := by decide +kernel
theorem mm_k114 : mm_c114.all (fun q => mm_ckd prog_9_method_25_code q.1 q.2) = true := by decide +kernel
theorem mm_k115 : mm_c115.all (fun q => mm_ckd prog_9_method_26_code q.1 q.2) = true := by decide +kernel
theorem mm_k116 : mm_c116.all (fun q => mm_ckd prog_9_method_27_code q.1 q.2) = true := by decide +kernel
theorem mm_k117 : mm_c117.all (fun q => mm_ckd prog_9_method_28_code q.1 q.2) = true := by decide +kernel
theorem mm_k118 : mm_c118.all (fun q => mm_ckd prog_9_method_29_code q.1 q.2) = true := by decide +kernel
theorem mm_k119 : mm_c119.all (fun q => mm_ckd prog_9_method_30_code q.1 q.2) = true := by decide +kernel
theorem mm_k120 : mm_c120.all (fun q => mm_ckd prog_9_method_31_code q.1 q.2) = true := by decide +kernel
theorem mm_k121 : mm_c121.all (fun q => mm_ckd prog_9_method_32_code q.1 q.2) = true := by decide +kernel
theorem mm_k122 : mm_c122.all (fun q => mm_ckd prog_9_method_33_code q.1 q.2) = true := by decide +kernel
theorem mm_k123 : mm_c123.all (fun q => mm_ckd prog_9_method_34_code q.1 q.2) = true := by decide +kernel
theorem mm_k124 : mm_c124.all (fun q => mm_ckd prog_9_method_35_code q.1 q.2) = true := by decide +kernel
theorem mm_k125 : mm_c125.all (fun q => mm_ckd prog_9_method_36_code q.1 q.2) = true := by decide +kernel
theorem mm_k126 : mm_c126.all (fun q => mm_ckd prog_9_method_37_code q.1 q.2) = true := by decide +kernel
theorem mm_k127_0 : mm_c127_0.all (fun q => mm_ckd prog_9_method_38_code q.1 q.2) = true := by decide +kernel
theorem mm_k127_1 : mm_c127_1.all (fun q => mm_ckd prog_9_method_38_code q.1 q.2) = true := by decide +kernel
theorem mm_k127 : mm_c127.all (fun q => mm_ckd prog_9_method_38_code q.1 q.2) = true := by
  simp only [mm_c127, List.all_append, mm_k127_0, mm_k127_1, Bool.and_self]
theorem mm_k128 : mm_c128.all (fun q => mm_ckd prog_9_method_39_code q.1 q.2) = true := by decide +kernel
theorem mm_k129 : mm_c129.all (fun q => mm_ckd prog_9_method_40_code q.1 q.2) = true := by decide +kernel
theorem mm_k130 : mm_c130.all (fun q => mm_ckd prog_9_method_41_code q.1 q.2) = true := by decide +kernel
theorem mm_k131 : mm_c131.all (fun q => mm_ckd prog_9_method_42_code q.1 q.2) = true := by decide +kernel
theorem mm_k132 : mm_c132.all (fun q => mm_ckd prog_9_method_43_code q.1 q.2) = true := by decide +kernel
theorem mm_k133 : mm_c133.all (fun q => mm_ckd prog_9_method_44_code q.1 q.2) = true := by decide +kernel
theorem mm_k134 : mm_c134.all (fun q => mm_ckd method_3_code q.1 q.2) = true := by decide +kernel
theorem mm_k135 : mm_c135.all (fun q => mm_ckd method_4_code q.1 q.2) = true := by decide +kernel
theorem mm_k136 : mm_c136.all (fun q => mm_ckd method_5_code q.1 q.2) = true := by decide +kernel
theorem mm_k137 : mm_c137.all (fun q => mm_ckd method_6_code q.1 q.2) = true := by decide +kernel
theorem mm_k138 : mm_c138.all (fun q => mm_ckd method_7_code q.1 q.2) = true := by decide +kernel
theorem mm_k139 : mm_c139.all (fun q => mm_ckd method_8_code q.1 q.2) = true := by decide +kernel
theorem mm_k140 : mm_c140.all (fun q => mm_ckd method_9_code q.1 q.2) = true := by decide +kernel
theorem mm_k141 : mm_c141.all (fun q => mm_ckd method_10_code q.1 q.2) = true := by decide +kernel
theorem mm_k142 : mm_c142.all (fun q => mm_ckd method_11_code q.1 q.2) = true := by decide +kernel
theorem mm_k143 : mm_c143.all (fun q => mm_ckd method_12_code q.1 q.2) = true := by decide +kernel
theorem mm_k144 : mm_c144.all (fun q => mm_ckd method_13_code q.1 q.2) = true := by decide +kernel
theorem mm_k145 : mm_c145.all (fun q => mm_ckd method_14_code q.1 q.2) = true := by decide +kernel
theorem mm_k146 : mm_c146.all (fun q => mm_ckd method_15_code q.1 q.2) = true := by decide +kernel
theorem mm_k147 : mm_c147.all (fun q => mm_ckd method_16_code q.1 q.2) = true := by decide +kernel
theorem mm_k148 : mm_c148.all (fun q => mm_ckd method_17_code q.1 q.2) = true := by decide +kernel
theorem mm_k149 : mm_c149.all (fun q => mm_ckd method_18_code q.1 q.2) = true := by decide +kernel
theorem mm_k150 : mm_c150.all (fun q => mm_ckd method_19_code q.1 q.2) = true := by decide +kernel
theorem mm_k151 : mm_c151.all (fun q => mm_ckd method_20_code q.1 q.2) = true := by decide +kernel
theorem mm_k152_0 : mm_c152_0.all (fun q => mm_ckd code q.1 q.2) = true := by decide +kernel
theorem mm_k152_1 : mm_c152_1.all (fun q => mm_ckd code q.1 q.2) = true := by decide +kernel
theorem mm_k152_2 : mm_c152_2.all (fun q => mm_ckd code q.1 q.2) = true := by decide +kernel
theorem mm_k152_3 : mm_c152_3.all (fun q => mm_ckd code q.1 q.2) = true := by decide +kernel
theorem mm_k152_4 : mm_c152_4.all (fun q => mm_ckd code q.1 q.2) = true := by decide +kernel
theorem mm_k152_5 : mm_c152_5.all (fun q => mm_ckd code q.1 q.2) = true := by decide +kernel
theorem mm_k152_6 : mm_c152_6.all (fun q => mm_ckd code q.1 q.2) = true := by decide +kernel
theorem mm_k152_7 : mm_c152_7.all (fun q => mm_ckd code q.1 q.2) = true := by decide +kernel
theorem mm_k152 : mm_c152.all (fun q => mm_ckd code q.1 q.2) = true := by
  simp only [mm_c152, List.all_append, mm_k152_0, mm_k152_1, mm_k152_2, mm_k152_3, mm_k152_4, mm_k152_5, mm_k152_6, mm_k152_7, Bool.and_self]
theorem mm_codes_ok : ∀ j : Nat, (mm_code j).all (fun q => mm_ckd (mm_bytes j) q.1 q.2) = true
  | 0 => mm_k0
  | 1 => mm_k1
  | 2 => mm_k2
  | 3 => mm_k3
  | 4 => mm_k4
  | 5 => mm_k5
  | 6 => mm_k6
  | 7 => mm_k7
  | 8 => mm_k8
  | 9 => mm_k9
  | 10 => mm_k10
  | 11 => mm_k11
  | 12 => mm_k12
  | 13 => mm_k13
  | 14 => mm_k14
  | 15 => mm_k15
  | 16 => mm_k16
  | 17 => mm_k17
  | 18 => mm_k18
  | 19 => mm_k19
  | 20 => mm_k20
  | 21 => mm_k21
  | 22 => mm_k22
  | 23 => mm_k23
  | 24 => mm_k24
  | 25 => mm_k25
  | 26 => mm_k26
  | 27 => mm_k27
  | 28 => mm_k28
  | 29 => mm_k29
  | 30 => mm_k30
  | 31 => mm_k31
  | 32 => mm_k32
  | 33 => mm_k33
  | 34 => mm_k34
  | 35 => mm_k35
  | 36 => mm_k36
  | 37 => mm_k37
  | 38 => mm_k38
  | 39 => mm_k39
  | 40 => mm_k40
  | 41 => mm_k41
  | 42 => mm_k42
  | 43 => mm_k43
  | 44 => mm_k44
  | 45 => mm_k45
  | 46 => mm_k46
  | 47 => mm_k47
  | 48 => mm_k48
  | 49 => mm_k49
  | 50 => mm_k50
  | 51 => mm_k51
  | 52 => mm_k52
  | 53 => mm_k53
  | 54 => mm_k54
  | 55 => mm_k55
  | 56 => mm_k56
  | 57 => mm_k57
  | 58 => mm_k58
  | 59 => mm_k59
  | 60 => mm_k60
  | 61 => mm_k61
  | 62 => mm_k62
  | 63 => mm_k63
  | 64 => mm_k64
  | 65 => mm_k65
  | 66 => mm_k66
  | 67 => mm_k67
  | 68 => mm_k68
  | 69 => mm_k69
  | 70 => mm_k70
  | 71 => mm_k71
  | 72 => mm_k72
  | 73 => mm_k73
  | 74 => mm_k74
  | 75 => mm_k75
  | 76 => mm_k76
  | 77 => mm_k77
  | 78 => mm_k78
  | 79 => mm_k79
  | 80 => mm_k80
  | 81 => mm_k81
  | 82 => mm_k82
  | 83 => mm_k83
  | 84 => mm_k84
  | 85 => mm_k85
  | 86 => mm_k86
  | 87 => mm_k87
  | 88 => mm_k88
  | 89 => mm_k89
  | 90 => mm_k90
  | 91 => mm_k91
  | 92 => mm_k92
  | 93 => mm_k93
  | 94 => mm_k94
  | 95 => mm_k95
  | 96 => mm_k96
  | 97 => mm_k97
  | 98 => mm_k98
  | 99 => mm_k99
  | 100 => mm_k100
  | 101 => mm_k101
  | 102 => mm_k102
  | 103 => mm_k103
  | 104 => mm_k104
  | 105 => mm_k105
  | 106 => mm_k106
  | 107 => mm_k107
  | 108 => mm_k108
  | 109 => mm_k109
  | 110 => mm_k110
  | 111 => mm_k111
  | 112 => mm_k112
  | 113 => mm_k113
  | 114 => mm_k114
  | 115 => mm_k115
  | 116 => mm_k116
  | 117 => mm_k117
  | 118 => mm_k118
  | 119 => mm_k119
  | 120 => mm_k120
  | 121 => mm_k121
  | 122 => mm_k122
  | 123 => mm_k123
  | 124 => mm_k124
  | 125 => mm_k125
  | 126 => mm_k126
  | 127 => mm_k127
  | 128 => mm_k128
  | 129 => mm_k129
  | 130 => mm_k130
  | 131 => mm_k131
  | 132 => mm_k132
  | 133 => mm_k133
  | 134 => mm_k134
  | 135 => mm_k135
  | 136 => mm_k136
  | 137 => mm_k137
  | 138 => mm_k138
  | 139 => mm_k139
  | 140 => mm_k140
  | 141 => mm_k141
  | 142 => mm_k142
  | 143 => mm_k143
  | 144 => mm_k144
  | 145 => mm_k145
  | 146 => mm_k146
  | 147 => mm_k147
  | 148 => mm_k148
  | 149 => mm_k149
  | 150 => mm_k150
  | 151 => mm_k151
  | _ + 152 => mm_k152
