/-! Who catches what, by the law's tables. -/
def mm_hok (j pc x to kx : Nat) : Prop := mm_own j = "FairDeskLaw" ∧ (∃ idx, mm_dec (mm_bytes j) pc (.invokevirtual idx)) ∧ ∃ (pre : List (Nat × Nat × Nat × Nat)) (a b hp ct : Nat) (rest : List (Nat × Nat × Nat × Nat)), mm_hh j = pre ++ (a, b, hp, ct) :: rest ∧ a ≤ pc ∧ pc < b ∧ ct ≠ 0 ∧ Cond.classLink "FairDeskLaw" ct (mm_xn x) ∈ mm_ws ∧ Cond.castable (mm_xn x) (mm_xn x) ∈ mm_xw ∧ (∀ q ∈ pre, q.2.2.2 ≠ 0 ∧ ∃ Y, Cond.classLink "FairDeskLaw" q.2.2.2 Y ∈ mm_ws ∧ (mm_xn x, Y) ∈ mm_nc) ∧ kx < mm_maxL j ∧ ((∃ z : Fin 4, (z : Nat) = kx ∧ mm_dec (mm_bytes j) hp (.astore_n z) ∧ to = hp + 1) ∨ (mm_dec (mm_bytes j) hp (.astore kx) ∧ to = hp + 2))
set_option maxRecDepth 100000 in
theorem mm_hd0 : mm_hok 134 2 0 9 2 := by
  refine ⟨rfl, ⟨_, mm_at_ok (j := 134) (pc := 2) rfl⟩, [], 0, 5, 8, 13, [], rfl, by decide, by decide, by decide, mm_m 391 rfl rfl, by decide, ?_, by decide, Or.inl ⟨2, rfl, mm_at_ok (j := 134) (pc := 8) rfl, rfl⟩⟩
  exact fun _ h => absurd h List.not_mem_nil
set_option maxRecDepth 100000 in
theorem mm_hd1 : mm_hok 135 2 0 9 2 := by
  refine ⟨rfl, ⟨_, mm_at_ok (j := 135) (pc := 2) rfl⟩, [], 0, 5, 8, 13, [], rfl, by decide, by decide, by decide, mm_m 391 rfl rfl, by decide, ?_, by decide, Or.inl ⟨2, rfl, mm_at_ok (j := 135) (pc := 8) rfl, rfl⟩⟩
  exact fun _ h => absurd h List.not_mem_nil
set_option maxRecDepth 100000 in
theorem mm_hd2 : mm_hok 136 7 0 17 5 := by
  refine ⟨rfl, ⟨_, mm_at_ok (j := 136) (pc := 7) rfl⟩, [], 0, 12, 15, 13, [(0, 12, 19, 22)], rfl, by decide, by decide, by decide, mm_m 391 rfl rfl, by decide, ?_, by decide, Or.inr ⟨mm_at_ok (j := 136) (pc := 15) rfl, rfl⟩⟩
  exact fun _ h => absurd h List.not_mem_nil
set_option maxRecDepth 100000 in
theorem mm_hd3 : mm_hok 136 7 1 21 5 := by
  refine ⟨rfl, ⟨_, mm_at_ok (j := 136) (pc := 7) rfl⟩, [(0, 12, 15, 13)], 0, 12, 19, 22, [], rfl, by decide, by decide, by decide, mm_m 499 rfl rfl, by decide, ?_, by decide, Or.inr ⟨mm_at_ok (j := 136) (pc := 19) rfl, rfl⟩⟩
  intro q hq
  rw [List.mem_singleton.mp hq]
  exact ⟨by decide, "java/lang/IllegalArgumentException", mm_m 391 rfl rfl, by decide⟩
set_option maxRecDepth 100000 in
theorem mm_hd4 : mm_hok 137 2 1 9 2 := by
  refine ⟨rfl, ⟨_, mm_at_ok (j := 137) (pc := 2) rfl⟩, [], 0, 5, 8, 22, [], rfl, by decide, by decide, by decide, mm_m 499 rfl rfl, by decide, ?_, by decide, Or.inl ⟨2, rfl, mm_at_ok (j := 137) (pc := 8) rfl, rfl⟩⟩
  exact fun _ h => absurd h List.not_mem_nil
set_option maxRecDepth 100000 in
theorem mm_hd5 : mm_hok 138 3 2 11 2 := by
  refine ⟨rfl, ⟨_, mm_at_ok (j := 138) (pc := 3) rfl⟩, [], 0, 7, 10, 31, [], rfl, by decide, by decide, by decide, mm_m 556 rfl rfl, by decide, ?_, by decide, Or.inl ⟨2, rfl, mm_at_ok (j := 138) (pc := 10) rfl, rfl⟩⟩
  exact fun _ h => absurd h List.not_mem_nil
set_option maxRecDepth 100000 in
theorem mm_hd6 : mm_hok 139 5 1 15 4 := by
  refine ⟨rfl, ⟨_, mm_at_ok (j := 139) (pc := 5) rfl⟩, [], 0, 10, 13, 22, [], rfl, by decide, by decide, by decide, mm_m 499 rfl rfl, by decide, ?_, by decide, Or.inr ⟨mm_at_ok (j := 139) (pc := 13) rfl, rfl⟩⟩
  exact fun _ h => absurd h List.not_mem_nil
set_option maxRecDepth 100000 in
theorem mm_hd7 : mm_hok 140 4 1 13 3 := by
  refine ⟨rfl, ⟨_, mm_at_ok (j := 140) (pc := 4) rfl⟩, [], 0, 9, 12, 22, [], rfl, by decide, by decide, by decide, mm_m 499 rfl rfl, by decide, ?_, by decide, Or.inl ⟨3, rfl, mm_at_ok (j := 140) (pc := 12) rfl, rfl⟩⟩
  exact fun _ h => absurd h List.not_mem_nil
set_option maxRecDepth 100000 in
theorem mm_hd8 : mm_hok 141 5 1 15 4 := by
  refine ⟨rfl, ⟨_, mm_at_ok (j := 141) (pc := 5) rfl⟩, [], 0, 10, 13, 22, [], rfl, by decide, by decide, by decide, mm_m 499 rfl rfl, by decide, ?_, by decide, Or.inr ⟨mm_at_ok (j := 141) (pc := 13) rfl, rfl⟩⟩
  exact fun _ h => absurd h List.not_mem_nil
set_option maxRecDepth 100000 in
theorem mm_hd9 : mm_hok 142 7 1 17 5 := by
  refine ⟨rfl, ⟨_, mm_at_ok (j := 142) (pc := 7) rfl⟩, [], 0, 12, 15, 22, [], rfl, by decide, by decide, by decide, mm_m 499 rfl rfl, by decide, ?_, by decide, Or.inr ⟨mm_at_ok (j := 142) (pc := 15) rfl, rfl⟩⟩
  exact fun _ h => absurd h List.not_mem_nil
set_option maxRecDepth 100000 in
theorem mm_hd10 : mm_hok 143 4 1 13 3 := by
  refine ⟨rfl, ⟨_, mm_at_ok (j := 143) (pc := 4) rfl⟩, [], 0, 9, 12, 22, [(0, 9, 15, 31)], rfl, by decide, by decide, by decide, mm_m 499 rfl rfl, by decide, ?_, by decide, Or.inl ⟨3, rfl, mm_at_ok (j := 143) (pc := 12) rfl, rfl⟩⟩
  exact fun _ h => absurd h List.not_mem_nil
set_option maxRecDepth 100000 in
theorem mm_hd11 : mm_hok 143 4 2 16 3 := by
  refine ⟨rfl, ⟨_, mm_at_ok (j := 143) (pc := 4) rfl⟩, [(0, 9, 12, 22)], 0, 9, 15, 31, [], rfl, by decide, by decide, by decide, mm_m 556 rfl rfl, by decide, ?_, by decide, Or.inl ⟨3, rfl, mm_at_ok (j := 143) (pc := 15) rfl, rfl⟩⟩
  intro q hq
  rw [List.mem_singleton.mp hq]
  exact ⟨by decide, "java/lang/IndexOutOfBoundsException", mm_m 499 rfl rfl, by decide⟩
set_option maxRecDepth 100000 in
theorem mm_hd12 : mm_hok 144 7 0 17 5 := by
  refine ⟨rfl, ⟨_, mm_at_ok (j := 144) (pc := 7) rfl⟩, [], 0, 12, 15, 13, [(0, 12, 19, 22)], rfl, by decide, by decide, by decide, mm_m 391 rfl rfl, by decide, ?_, by decide, Or.inr ⟨mm_at_ok (j := 144) (pc := 15) rfl, rfl⟩⟩
  exact fun _ h => absurd h List.not_mem_nil
set_option maxRecDepth 100000 in
theorem mm_hd13 : mm_hok 144 7 1 21 5 := by
  refine ⟨rfl, ⟨_, mm_at_ok (j := 144) (pc := 7) rfl⟩, [(0, 12, 15, 13)], 0, 12, 19, 22, [], rfl, by decide, by decide, by decide, mm_m 499 rfl rfl, by decide, ?_, by decide, Or.inr ⟨mm_at_ok (j := 144) (pc := 19) rfl, rfl⟩⟩
  intro q hq
  rw [List.mem_singleton.mp hq]
  exact ⟨by decide, "java/lang/IllegalArgumentException", mm_m 391 rfl rfl, by decide⟩
set_option maxRecDepth 100000 in
theorem mm_hd14 : mm_hok 145 4 0 13 3 := by
  refine ⟨rfl, ⟨_, mm_at_ok (j := 145) (pc := 4) rfl⟩, [], 0, 9, 12, 13, [], rfl, by decide, by decide, by decide, mm_m 391 rfl rfl, by decide, ?_, by decide, Or.inl ⟨3, rfl, mm_at_ok (j := 145) (pc := 12) rfl, rfl⟩⟩
  exact fun _ h => absurd h List.not_mem_nil
set_option maxRecDepth 100000 in
theorem mm_hd15 : mm_hok 146 3 2 12 2 := by
  refine ⟨rfl, ⟨_, mm_at_ok (j := 146) (pc := 3) rfl⟩, [], 0, 8, 11, 31, [], rfl, by decide, by decide, by decide, mm_m 556 rfl rfl, by decide, ?_, by decide, Or.inl ⟨2, rfl, mm_at_ok (j := 146) (pc := 11) rfl, rfl⟩⟩
  exact fun _ h => absurd h List.not_mem_nil
set_option maxRecDepth 100000 in
theorem mm_hd16 : mm_hok 147 5 1 14 4 := by
  refine ⟨rfl, ⟨_, mm_at_ok (j := 147) (pc := 5) rfl⟩, [], 0, 9, 12, 22, [(0, 9, 16, 31)], rfl, by decide, by decide, by decide, mm_m 499 rfl rfl, by decide, ?_, by decide, Or.inr ⟨mm_at_ok (j := 147) (pc := 12) rfl, rfl⟩⟩
  exact fun _ h => absurd h List.not_mem_nil
set_option maxRecDepth 100000 in
theorem mm_hd17 : mm_hok 147 5 2 18 4 := by
  refine ⟨rfl, ⟨_, mm_at_ok (j := 147) (pc := 5) rfl⟩, [(0, 9, 12, 22)], 0, 9, 16, 31, [], rfl, by decide, by decide, by decide, mm_m 556 rfl rfl, by decide, ?_, by decide, Or.inr ⟨mm_at_ok (j := 147) (pc := 16) rfl, rfl⟩⟩
  intro q hq
  rw [List.mem_singleton.mp hq]
  exact ⟨by decide, "java/lang/IndexOutOfBoundsException", mm_m 499 rfl rfl, by decide⟩
set_option maxRecDepth 100000 in
theorem mm_hd18 : mm_hok 148 2 0 9 2 := by
  refine ⟨rfl, ⟨_, mm_at_ok (j := 148) (pc := 2) rfl⟩, [], 0, 5, 8, 13, [], rfl, by decide, by decide, by decide, mm_m 391 rfl rfl, by decide, ?_, by decide, Or.inl ⟨2, rfl, mm_at_ok (j := 148) (pc := 8) rfl, rfl⟩⟩
  exact fun _ h => absurd h List.not_mem_nil
set_option maxRecDepth 100000 in
theorem mm_hd19 : mm_hok 149 7 0 17 5 := by
  refine ⟨rfl, ⟨_, mm_at_ok (j := 149) (pc := 7) rfl⟩, [], 0, 12, 15, 13, [(0, 12, 19, 22)], rfl, by decide, by decide, by decide, mm_m 391 rfl rfl, by decide, ?_, by decide, Or.inr ⟨mm_at_ok (j := 149) (pc := 15) rfl, rfl⟩⟩
  exact fun _ h => absurd h List.not_mem_nil
set_option maxRecDepth 100000 in
theorem mm_hd20 : mm_hok 149 7 1 21 5 := by
  refine ⟨rfl, ⟨_, mm_at_ok (j := 149) (pc := 7) rfl⟩, [(0, 12, 15, 13)], 0, 12, 19, 22, [], rfl, by decide, by decide, by decide, mm_m 499 rfl rfl, by decide, ?_, by decide, Or.inr ⟨mm_at_ok (j := 149) (pc := 19) rfl, rfl⟩⟩
  intro q hq
  rw [List.mem_singleton.mp hq]
  exact ⟨by decide, "java/lang/IllegalArgumentException", mm_m 391 rfl rfl, by decide⟩
set_option maxRecDepth 100000 in
theorem mm_hd21 : mm_hok 150 5 1 14 4 := by
  refine ⟨rfl, ⟨_, mm_at_ok (j := 150) (pc := 5) rfl⟩, [], 0, 9, 12, 22, [(0, 9, 16, 31)], rfl, by decide, by decide, by decide, mm_m 499 rfl rfl, by decide, ?_, by decide, Or.inr ⟨mm_at_ok (j := 150) (pc := 12) rfl, rfl⟩⟩
  exact fun _ h => absurd h List.not_mem_nil
set_option maxRecDepth 100000 in
theorem mm_hd22 : mm_hok 150 5 2 18 4 := by
  refine ⟨rfl, ⟨_, mm_at_ok (j := 150) (pc := 5) rfl⟩, [(0, 9, 12, 22)], 0, 9, 16, 31, [], rfl, by decide, by decide, by decide, mm_m 556 rfl rfl, by decide, ?_, by decide, Or.inr ⟨mm_at_ok (j := 150) (pc := 16) rfl, rfl⟩⟩
  intro q hq
  rw [List.mem_singleton.mp hq]
  exact ⟨by decide, "java/lang/IndexOutOfBoundsException", mm_m 499 rfl rfl, by decide⟩
set_option maxRecDepth 100000 in
theorem mm_hd23 : mm_hok 151 7 1 16 5 := by
  refine ⟨rfl, ⟨_, mm_at_ok (j := 151) (pc := 7) rfl⟩, [], 0, 11, 14, 22, [(0, 11, 18, 31)], rfl, by decide, by decide, by decide, mm_m 499 rfl rfl, by decide, ?_, by decide, Or.inr ⟨mm_at_ok (j := 151) (pc := 14) rfl, rfl⟩⟩
  exact fun _ h => absurd h List.not_mem_nil
set_option maxRecDepth 100000 in
theorem mm_hd24 : mm_hok 151 7 2 20 5 := by
  refine ⟨rfl, ⟨_, mm_at_ok (j := 151) (pc := 7) rfl⟩, [(0, 11, 14, 22)], 0, 11, 18, 31, [], rfl, by decide, by decide, by decide, mm_m 556 rfl rfl, by decide, ?_, by decide, Or.inr ⟨mm_at_ok (j := 151) (pc := 18) rfl, rfl⟩⟩
  intro q hq
  rw [List.mem_singleton.mp hq]
  exact ⟨by decide, "java/lang/IndexOutOfBoundsException", mm_m 499 rfl rfl, by decide⟩
theorem mm_hand_ok {j pc x to kx : Nat} (h : mm_hand j pc x = some (to, kx)) : mm_hok j pc x to kx := by
  unfold mm_hand at h
  split at h
  · cases h; exact mm_hd0
  · cases h; exact mm_hd1
  · cases h; exact mm_hd2
  · cases h; exact mm_hd3
  · cases h; exact mm_hd4
  · cases h; exact mm_hd5
  · cases h; exact mm_hd6
  · cases h; exact mm_hd7
  · cases h; exact mm_hd8
  · cases h; exact mm_hd9
  · cases h; exact mm_hd10
  · cases h; exact mm_hd11
  · cases h; exact mm_hd12
  · cases h; exact mm_hd13
  · cases h; exact mm_hd14
  · cases h; exact mm_hd15
  · cases h; exact mm_hd16
  · cases h; exact mm_hd17
  · cases h; exact mm_hd18
  · cases h; exact mm_hd19
  · cases h; exact mm_hd20
  · cases h; exact mm_hd21
  · cases h; exact mm_hd22
  · cases h; exact mm_hd23
  · cases h; exact mm_hd24
  · cases h
def mm_xsup : List String := ["java/lang/RuntimeException", "java/lang/Exception"]
def mm_zl : List Cond := [.laysStatic "java/lang/Throwable" "UNASSIGNED_STACK" "[Ljava/lang/StackTraceElement;", .isRef (.static "java/lang/Throwable" "UNASSIGNED_STACK" "[Ljava/lang/StackTraceElement;"), .laysStatic "java/lang/Throwable" "SUPPRESSED_SENTINEL" "Ljava/util/List;", .isRef (.static "java/lang/Throwable" "SUPPRESSED_SENTINEL" "Ljava/util/List;")]
theorem mm_oa0 : (Bundle.ownAtoms "FairDesk" 42 "java/lang/IllegalArgumentException" mm_xsup).all (fun a => (goodWord a && decide (a ∈ tables_1)) || decide (a ∈ mm_xw) || decide (a ∈ mm_zl)) = true := by decide +kernel
theorem mm_oa1 : (Bundle.ownAtoms "FairDesk" 69 "java/lang/IndexOutOfBoundsException" mm_xsup).all (fun a => (goodWord a && decide (a ∈ tables_1)) || decide (a ∈ mm_xw) || decide (a ∈ mm_zl)) = true := by decide +kernel
theorem mm_oa2 : (Bundle.ownAtoms "FairDesk" 91 "java/lang/IllegalStateException" mm_xsup).all (fun a => (goodWord a && decide (a ∈ tables_1)) || decide (a ∈ mm_xw) || decide (a ∈ mm_zl)) = true := by decide +kernel
theorem mm_oa_rest {own own2 : String} {ic ic2 : Nat} {X : String} {a : Cond} (h : a ∈ Bundle.ownAtoms own ic X mm_xsup) : a = .methodLink own ic (Bundle.initS X) ∨ a ∈ Bundle.ownAtoms own2 ic2 X mm_xsup := by
  simp only [Bundle.ownAtoms, List.mem_append, List.mem_cons] at h ⊢
  rcases h with h | h | h
  · exact Or.inr (Or.inl h)
  · exact Or.inl h
  · exact Or.inr (Or.inr (Or.inr h))
theorem mm_xw_use {w : Cond} (hw : w ∈ mm_xw) {args : Array Value} {s : State} (h : va_Nw w s) : w.before args s = true := by
  simp only [mm_xw, List.mem_cons, List.not_mem_nil, or_false] at hw
  rcases hw with rfl | rfl | rfl | rfl | rfl | rfl <;> exact va_Nw.use rfl h
theorem mm_atoms_of {D : va_G} {args : Array Value} {s : State} (hts : ∀ w ∈ mm_ws, w.before args s = true) (hK : mm_kn D s) {l : List Cond} (hl : l.all (fun a => (goodWord a && decide (a ∈ tables_1)) || decide (a ∈ mm_xw) || decide (a ∈ mm_zl)) = true) : ∀ a ∈ l, a.before args s = true := by
  intro a ha
  have h := List.all_eq_true.mp hl a ha
  rcases Bool.or_eq_true_iff.mp h with h | h
  · rcases Bool.or_eq_true_iff.mp h with h | h
    · obtain ⟨h1, h2⟩ := Bool.and_eq_true_iff.mp h
      exact hts a (List.mem_filter.mpr ⟨List.mem_append_right _ (of_decide_eq_true h2), h1⟩)
    · exact mm_xw_use (of_decide_eq_true h) (hK.2.2.2.2.2.2.2.1 a (of_decide_eq_true h))
  · have h := of_decide_eq_true h
    obtain ⟨-, -, -, -, -, -, e7, e8⟩ := hK.2.2.2
    simp only [mm_zl, List.mem_cons, List.not_mem_nil, or_false] at h
    rcases h with rfl | rfl | rfl | rfl
    · exact e7.1
    · exact e7.2
    · exact e8.1
    · exact e8.2
theorem mm_xn_two (n : Nat) : mm_xn (n + 2) = "java/lang/IllegalStateException" := rfl
theorem mm_atoms {D : va_G} {args : Array Value} {s : State} (hts : ∀ w ∈ mm_ws, w.before args s = true) (hK : mm_kn D s) {own : String} {ic x : Nat} (hx : Cond.methodLink own ic (Bundle.initS (mm_xn x)) ∈ mm_ws) : ∀ a ∈ Bundle.ownAtoms own ic (mm_xn x) mm_xsup, a.before args s = true := by
  intro a ha
  match x, hx, ha with
  | 0, hx, ha =>
    rcases mm_oa_rest (own2 := "FairDesk") (ic2 := 42) ha with rfl | ha
    · exact hts _ hx
    · exact mm_atoms_of hts hK mm_oa0 a ha
  | 1, hx, ha =>
    rcases mm_oa_rest (own2 := "FairDesk") (ic2 := 69) ha with rfl | ha
    · exact hts _ hx
    · exact mm_atoms_of hts hK mm_oa1 a ha
  | n + 2, hx, ha =>
    rcases mm_oa_rest (own2 := "FairDesk") (ic2 := 91) ha with rfl | ha
    · exact hts _ hx
    · exact mm_atoms_of hts hK mm_oa2 a ha
theorem mm_xn_fit (x : Nat) : Bundle.fit (mm_xn x) = true := by
  match x with
  | 0 => decide
  | 1 => decide
  | n + 2 => exact (by decide : Bundle.fit "java/lang/IllegalStateException" = true)
theorem mm_xsup_fit : ∀ n ∈ mm_xsup, Bundle.fit n = true := by decide
