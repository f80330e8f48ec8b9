/-! The two constructors: what lies there when the law's loop begins. -/
def mm_A0 : MF := fun a i => match a with
  | 1 => if i = 3 then 1 else 0
  | 2 => if i = 0 then 1 else 0
  | 10 => -1
  | 79 => -1
  | 13 => if i = 2 ∨ i = 3 then -1 else 0
  | 23 => if i = 2 then -1 else 0
  | 25 => if i = 0 then 1 else 0
  | 43 => if i = 0 ∨ i = 1 then 1 else 0
  | 77 => if i = 1 ∨ i = 15 ∨ i = 25 then 1 else 0
  | a => if (37 ≤ a ∧ a ≤ 42) ∨ (56 ≤ a ∧ a ≤ 76) then (if i = 1 then 1 else 0) else 0
def mm_chk (x : Option MR) (v : Option Value) (M : MH) (c n : Nat) : Bool := match x with
  | some (.inl v1, M1, c1, n1) => decide (v1 = v) && decide (M1 = M) && Nat.ble c1 c && Nat.ble n1 n
  | _ => false
theorem mm_chk_ok {x : Option MR} {v : Option Value} {M : MH} {c n : Nat} (h : mm_chk x v M c n = true) : ∃ c1 n1, x = some (.inl v, M, c1, n1) ∧ c1 ≤ c ∧ n1 ≤ n := by
  unfold mm_chk at h
  split at h
  · rename_i v1 M1 c1 n1
    simp only [Bool.and_eq_true, decide_eq_true_eq] at h
    obtain ⟨⟨⟨rfl, rfl⟩, h3⟩, h4⟩ := h
    exact ⟨c1, n1, rfl, Nat.le_of_ble_eq_true h3, Nat.le_of_ble_eq_true h4⟩
  · cases h
def mm_M1 : MH := mm_mk mm_A0 1 (mm_lays.take 76)
def mm_M2 : MH := mm_mk mm_A0 1 (mm_lays.take 95)
theorem mm_ctor1 : mm_chk (mm_run 20000 1 20 0 0 [(0, .ref 1)] [] ((98, []) :: [(0, mm_def 0)]) 0 0) none ((98, []) :: mm_M1) 100 5000 = true := by decide +kernel
theorem mm_ctor2 : mm_chk (mm_run 20000 1 20 90 0 [(0, .ref 77)] [] ((98, []) :: (mm_M1 ++ [(7, mm_def 7)])) 0 0) none ((98, []) :: mm_M2) 100 5000 = true := by decide +kernel
theorem mm_M1_len : mm_M1.length = 76 := by decide +kernel
theorem mm_M2_len : mm_M2.length = 95 := by decide +kernel
theorem mm_M3 : mm_M2 ++ [(51, [mJ 0])] = mm_mk mm_A0 1 mm_lays := by decide +kernel
theorem mm_E.of_chk {f d j : Nat} {V : ML} {v : Option Value} {M M1 : MH} {X : List Value} {c n : Nat} (h : mm_chk (mm_run f 1 d j 0 V [] ((98, []) :: M) 0 0) v ((98, []) :: M1) c n = true) : ∃ c1 n1, c1 ≤ c ∧ n1 ≤ n ∧ mm_E 1 d j 0 V [] ((99, X) :: M) (.inl v, (99, X) :: M1, c1, n1) := by
  obtain ⟨c1, n1, h1, h2, h3⟩ := mm_chk_ok h
  obtain ⟨M2, e1, e2⟩ := mm_lift f 1 d j 0 V [] M X 0 0 _ _ _ _ (Nat.le_refl _) h1
  cases e1
  exact ⟨c1, n1, h2, h3, .of_run e2⟩
theorem mm_E.alloc {w d j pc pc' dc dn : Nat} {i : Instr} {V : ML} {S S' : List Value} {M M' : MH} {o : Option Value ⊕ Nat} {M2 : MH} {a2 b2 : Nat} (hat : mm_at j pc = some i) (hact : ∀ L : ML, mm_act w d j i pc L S M = some (.inl (pc', L, S', M', dc + 1, dn))) (h : mm_E w d j pc' V S' M' (o, M2, a2, b2)) : mm_E w d j pc V S M (o, M2, dc + 1 + a2, dn + b2) := fun L hL => by
  obtain ⟨f, hf⟩ := h L hL
  refine ⟨f + 1, fun c n => ?_⟩
  have q := hf (c + (dc + 1)) (n + dn)
  unfold mm_run
  simp only [hat, hact]
  rw [q]
  simp only [Nat.add_assoc]
set_option maxRecDepth 100000 in
theorem mm_init {d : Nat} {X : List Value} {o : Option Value ⊕ Nat} {M2 : MH} {a2 b2 : Nat} (h : mm_E 1 (d + 21) 152 23 [(0, .ref 0), (1, .ref 1), (2, .ref 77), (3, .ref 96), (4, mI 0)] [] (mm_w X mm_A0) (o, M2, a2, b2)) : ∃ a b, a ≤ a2 + 300 ∧ b ≤ b2 + 12000 ∧ mm_E 1 (d + 21) 152 0 [(0, .ref 0)] [] [(99, X)] (o, M2, a, b) := by
  obtain ⟨c1, n1, g1, g2, k1⟩ := mm_E.of_chk (X := X) mm_ctor1
  obtain ⟨c2, n2, g3, g4, k2⟩ := mm_E.of_chk (X := X) mm_ctor2
  have e77 : ((99, X) :: (mm_M1 ++ [(7, mm_def 7)]) : MH)[77]? = some (7, mm_def 7) := by
    rw [show (77 : Nat) = 76 + 1 from rfl, List.getElem?_cons_succ, List.getElem?_append_right (by rw [mm_M1_len]; exact Nat.le_refl _), mm_M1_len]
    rfl
  have s9 : mm_E 1 (d + 21) 152 17 [(2, .ref 77), (1, .ref 1), (0, .ref 0)] [mI 1] ((99, X) :: mm_M2) (o, M2, 0 + 1 + a2, 1 + b2) := by
    refine mm_E.alloc (pc' := 19) (S' := [.ref 96]) (M' := mm_w X mm_A0) (dc := 0) (dn := 1) (mm_atc mc152 rfl) (fun L => ?_) ?_
    · have e1 : mm_newa 19 51 (.long 0) L [mI 1] ((99, X) :: mm_M2) = some (19, L, [.ref 96], mm_w X mm_A0, 1, 1) := by
        show some (19, L, [Value.ref (mm_M2.length + 1)], (99, X) :: (mm_M2 ++ [(51, [mJ 0])]), 1, 1) = _
        rw [mm_M3, mm_M2_len]
        rfl
      simp only [mm_act, mm_inl, mm_step, e1]
    · exact mm_E.astore_n mx152 rfl (mm_atc mc152 rfl) <| mm_E.iconst (mm_atc mc152 rfl) <| mm_E.istore mx152 rfl (mm_atc mc152 rfl) <| mm_E.to h ⟨rfl, rfl, rfl, rfl, rfl, trivial⟩
  have s5 : mm_E 1 (d + 21) 152 12 [(1, .ref 1), (0, .ref 0)] [.ref 77, .ref 77] ((99, X) :: (mm_M1 ++ [(7, mm_def 7)])) (o, M2, c2 + (0 + 1 + a2), n2 + (1 + b2)) := by
    refine mm_E.call (j' := 90) (as := [.ref 77]) (S' := [.ref 77]) (d0 := 20) (V0 := [(0, .ref 77)]) (v := none) (mm_atc mc152 rfl) (fun L => ?_) rfl k2 (by omega) ?_
    · have hp : mm_pool 152 81 = some (4, 90, 0, 0) := mm_plc mp152 rfl
      simp only [mm_act, hp, mk90, mm_callV, List.drop_zero, e77, mx90]
      rfl
    · exact mm_E.astore_n mx152 rfl (mm_atc mc152 rfl) <| mm_E.iconst (mm_atc mc152 rfl) <| s9
  have s4 : mm_E 1 (d + 21) 152 8 [(1, .ref 1), (0, .ref 0)] [] ((99, X) :: mm_M1) (o, M2, 0 + 1 + (c2 + (0 + 1 + a2)), 27 + (n2 + (1 + b2))) := by
    refine mm_E.alloc (pc' := 11) (S' := [.ref 77]) (M' := (99, X) :: (mm_M1 ++ [(7, mm_def 7)])) (dc := 0) (dn := 27) (mm_atc mc152 rfl) (fun L => ?_) ?_
    · have hp : mm_pool 152 79 = some (8, 7, 27, 0) := mm_plc mp152 rfl
      simp only [mm_act, hp, mm_inl]
      show (some (Sum.inl (11, L, [Value.ref (mm_M1.length + 1)], (99, X) :: (mm_M1 ++ [(7, mm_def 7)]), 1, 27)) : Option MA) = _
      rw [mm_M1_len]
    · exact mm_E.dupR (mm_atc mc152 rfl) s5
  have s1 : mm_E 1 (d + 21) 152 4 [(0, .ref 0)] [.ref 1, .ref 1] [(99, X), (0, mm_def 0)] (o, M2, c1 + (0 + 1 + (c2 + (0 + 1 + a2))), n1 + (27 + (n2 + (1 + b2)))) := by
    refine mm_E.call (j' := 0) (as := [.ref 1]) (S' := [.ref 1]) (d0 := 20) (V0 := [(0, .ref 1)]) (v := none) (mm_atc mc152 rfl) (fun L => ?_) rfl k1 (by omega) ?_
    · have hp : mm_pool 152 78 = some (4, 0, 0, 0) := mm_plc mp152 rfl
      simp only [mm_act, hp, mk0]
      rfl
    · exact mm_E.astore_n mx152 rfl (mm_atc mc152 rfl) s4
  refine ⟨0 + 1 + (c1 + (0 + 1 + (c2 + (0 + 1 + a2)))), 4 + (n1 + (27 + (n2 + (1 + b2)))), by omega, by omega, ?_⟩
  refine mm_E.alloc (pc' := 3) (S' := [.ref 1]) (M' := [(99, X), (0, mm_def 0)]) (dc := 0) (dn := 4) (mm_atc mc152 rfl) (fun L => ?_) ?_
  · have hp : mm_pool 152 8 = some (8, 0, 4, 0) := mm_plc mp152 rfl
    simp only [mm_act, hp, mm_inl]
    rfl
  · exact mm_E.dupR (mm_atc mc152 rfl) s1
