/-! What runs beside a cell that nobody looks into runs beside any script. -/
section LF
variable {w d j pc : Nat} {L : ML} {S : List Value} {M : MH} {X : List Value} {n : MN}
def mm_lf (X : List Value) (x y : Option MN) : Prop := ∀ n, x = some n → ∃ M1, n.2.2.2.1 = (98, []) :: M1 ∧ y = some (n.1, n.2.1, n.2.2.1, (99, X) :: M1, n.2.2.2.2)
theorem mm_lf.no {y : Option MN} : mm_lf X none y := fun _ h => by cases h
theorem mm_lf.go {to : Nat} : mm_lf X (mm_go to L S ((98, []) :: M)) (mm_go to L S ((99, X) :: M)) := fun _ h => by cases h; exact ⟨M, rfl, rfl⟩
theorem mm_lf_ald {kd : Nat} (hk : kd ≠ 0) : mm_lf X (mm_ald kd pc L S ((98, []) :: M)) (mm_ald kd pc L S ((99, X) :: M)) := by
  unfold mm_ald
  split
  · rename_i i a r
    cases a with
    | zero =>
      have e : Nat.beq (mm_akd 98) kd = false := by
        cases kd with
        | zero => exact absurd rfl hk
        | succ k => rfl
      intro n h
      simp [e] at h
    | succ a =>
      simp only [List.getElem?_cons_succ]
      split
      · split
        · split
          · exact .go
          · exact .no
        · exact .no
      · exact .no
  · exact .no
theorem mm_lf_ast {kd : Nat} {ok : Value → Bool} (hk : kd ≠ 0) : mm_lf X (mm_ast w kd ok pc L S ((98, []) :: M)) (mm_ast w kd ok pc L S ((99, X) :: M)) := by
  unfold mm_ast
  split
  · rename_i v i a r
    cases a with
    | zero =>
      have e : Nat.beq (mm_akd 98) kd = false := by
        cases kd with
        | zero => exact absurd rfl hk
        | succ k => rfl
      intro n h
      simp [e] at h
    | succ a =>
      simp only [List.getElem?_cons_succ]
      split
      · split
        · rename_i k vs hM b hb
          intro n h
          unfold mm_put at h ⊢
          simp only [List.getElem?_cons_succ, hM] at h ⊢
          cases h
          exact ⟨_, rfl, rfl⟩
        · exact .no
      · exact .no
  · exact .no
theorem mm_lf_getf {to ci k : Nat} : mm_lf X (mm_getf to ci k L S ((98, []) :: M)) (mm_getf to ci k L S ((99, X) :: M)) := by
  unfold mm_getf
  split
  · rename_i a r
    cases a with
    | zero =>
      intro n h
      simp at h
      split at h <;> cases h
    | succ a =>
      simp only [List.getElem?_cons_succ]
      split
      · split
        · split
          · exact .go
          · exact .no
        · exact .no
      · exact .no
  · exact .no
theorem mm_lf_putf {to ci k : Nat} {ok : Value → Bool} (hw : 1 ≤ w) : mm_lf X (mm_putf w to ci k ok L S ((98, []) :: M)) (mm_putf w to ci k ok L S ((99, X) :: M)) := by
  unfold mm_putf
  split
  · rename_i v a r
    cases a with
    | zero =>
      have e : Nat.ble w 0 = false := by
        cases w with
        | zero => omega
        | succ k => rfl
      intro n h
      simp [e] at h
    | succ a =>
      simp only [List.getElem?_cons_succ]
      split
      · split
        · rename_i kd fs hM b hb
          intro n h
          unfold mm_put at h ⊢
          simp only [List.getElem?_cons_succ, hM] at h ⊢
          cases h
          exact ⟨_, rfl, rfl⟩
        · exact .no
      · exact .no
  · exact .no
theorem mm_lf_new {to n : Nat} {c : MC} : mm_lf X (mm_new to c n L S ((98, []) :: M)) (mm_new to c n L S ((99, X) :: M)) := fun _ h => by cases h; exact ⟨M ++ [c], rfl, rfl⟩
theorem mm_lf_newa {to kd : Nat} {z : Value} : mm_lf X (mm_newa to kd z L S ((98, []) :: M)) (mm_newa to kd z L S ((99, X) :: M)) := by
  unfold mm_newa
  split
  · split
    · exact mm_lf_new
    · exact .no
  · exact .no
theorem mm_lf_multi {to ok ik : Nat} : mm_lf X (mm_multi to ok ik L S ((98, []) :: M)) (mm_multi to ok ik L S ((99, X) :: M)) := by
  unfold mm_multi
  split
  · split
    · intro n h
      cases h
      exact ⟨_, rfl, rfl⟩
    · exact .no
  · exact .no
theorem mm_lf_br {b : Bool} {off : Int} : mm_lf X (mm_br b pc off L S ((98, []) :: M)) (mm_br b pc off L S ((99, X) :: M)) := by
  unfold mm_br
  split
  · split <;> exact .go
  · exact .no
theorem mm_lf_jmp {off : Int} : mm_lf X (mm_jmp pc off L S ((98, []) :: M)) (mm_jmp pc off L S ((99, X) :: M)) := by
  unfold mm_jmp
  split
  · exact .go
  · exact .no
theorem mm_lf_nat {x : Nat} (hw : 1 ≤ w) : mm_lf X (mm_nat w d x pc L S ((98, []) :: M)) (mm_nat w d x pc L S ((99, X) :: M)) := by
  unfold mm_nat
  split
  · exact .no
  · split
    · split
      · exact .go
      · exact .no
    · split
      · exact .go
      · exact .no
    · split
      · exact .go
      · exact .no
    · split
      · exact .go
      · exact .no
    · split
      · exact .go
      · exact .no
    · rename_i n dp b sp a r
      cases a with
      | zero =>
        intro n h
        have e0 : ((98, []) :: M : MH)[Nat.zero]? = some (98, []) := rfl
        have e1 : Nat.beq (mm_akd 98) 1 = false := rfl
        rw [e0] at h
        split at h
        · rename_i h1 h2
          cases h1
          simp only [e1, Bool.and_false, Bool.false_and] at h
          cases h
        · cases h
      | succ a =>
        cases b with
        | zero =>
          intro n h
          have e : Nat.ble w 0 = false := by
            cases w with
            | zero => omega
            | succ k => rfl
          simp only [List.getElem?_cons_zero, List.getElem?_cons_succ] at h
          split at h
          · simp [e] at h
          · cases h
        | succ b =>
          simp only [List.getElem?_cons_succ]
          split
          · split
            · intro n h
              cases h
              exact ⟨_, rfl, rfl⟩
            · exact .no
          · exact .no
    · split
      · exact .go
      · exact .no
    · exact .no
theorem mm_lf_step {i : Instr} (hw : 1 ≤ w) : mm_lf X (mm_step w d j i pc L S ((98, []) :: M)) (mm_step w d j i pc L S ((99, X) :: M)) := by
  unfold mm_step
  split
  case _ => exact .go
  all_goals first
    | exact .go
    | exact .no
    | exact mm_lf_jmp
    | exact mm_lf_getf
    | exact mm_lf_newa
    | exact mm_lf_ald (by decide)
    | exact mm_lf_ast (by decide)
    | (unfold mm_iload; split <;> first | exact .go | exact .no)
    | (unfold mm_lload; split <;> first | exact .go | exact .no)
    | (unfold mm_aload; split <;> first | exact .go | exact .no)
    | (unfold mm_istore; split <;> first | exact .no | (split <;> first | exact .go | exact .no))
    | (unfold mm_lstore; split <;> first | exact .no | (split <;> first | exact .go | exact .no))
    | (unfold mm_astore; split <;> first | exact .no | (split <;> first | exact .go | exact .no))
    | (unfold mm_iinc; split <;> first | exact .no | (split <;> first | exact .go | exact .no))
    | (unfold mm_i2; split <;> first | exact .go | exact .no)
    | (unfold mm_i2z; split <;> first | exact .no | (split <;> first | exact .go | exact .no))
    | (unfold mm_l2; split <;> first | exact .go | exact .no)
    | (unfold mm_l2z; split <;> first | exact .no | (split <;> first | exact .go | exact .no))
    | (unfold mm_if1; split <;> first | exact mm_lf_br | exact .no)
    | (unfold mm_if2; split <;> first | exact mm_lf_br | exact .no)
    | (unfold mm_tsw; split <;> first | exact .no | (split <;> first | exact mm_lf_jmp | (split <;> first | exact mm_lf_jmp | exact .no)))
    | (split <;> first | exact .go | exact .no | exact mm_lf_getf | exact mm_lf_newa | exact mm_lf_multi | exact mm_lf_putf hw | (split <;> first | exact .go | exact .no | exact mm_lf_putf hw))
    | skip
  · split
    · rename_i v i a r
      intro n h
      split at h
      · rename_i k x1 k2 x2 h1 h2
        split at h
        · rename_i b hb
          simp only [Bool.and_eq_true] at hb
          have hk := Nat.le_of_ble_eq_true hb.2
          cases v with
          | zero =>
            cases h2
            exact absurd hk (by decide)
          | succ v =>
            cases a with
            | zero =>
              cases h1
              have hq := Nat.eq_of_beq_eq_true hb.1
              have : mm_comp 98 = 200 := rfl
              omega
            | succ a =>
              have g1 : ((99, X) :: M : MH)[a + 1]? = some (k, x1) := h1
              have g2 : ((99, X) :: M : MH)[v + 1]? = some (k2, x2) := h2
              have g3 : (Nat.beq (mm_comp k) k2 && Nat.blt k2 50) = true := by simp only [Bool.and_eq_true]; exact hb
              simp only [g1, g2, g3]
              exact mm_lf_ast (by decide) n h
        · cases h
      · cases h
    · exact .no
  · split
    · rename_i a r
      cases a with
      | zero =>
        intro n h
        have e0 : ((98, []) :: M : MH)[Nat.zero]? = some (98, []) := rfl
        have e1 : Nat.blt 0 (mm_akd 98) = false := rfl
        simp only [e0, e1, Bool.false_and] at h
        cases h
      | succ a =>
        simp only [List.getElem?_cons_succ]
        split
        · split
          · exact .go
          · exact .no
        · exact .no
    · exact .no
def mm_sh (X : List Value) : MA → MA
  | .inl n => .inl (n.1, n.2.1, n.2.2.1, (99, X) :: n.2.2.2.1.tail, n.2.2.2.2)
  | .inr x => .inr x
theorem mm_lf_inl {x y : Option MN} {a : MA} (h : mm_lf X x y) (hx : mm_inl x = some a) : (∃ n : MN, a = .inl n ∧ ∃ M1, n.2.2.2.1 = (98, []) :: M1 ∧ mm_inl y = some (.inl (n.1, n.2.1, n.2.2.1, (99, X) :: M1, n.2.2.2.2))) := by
  unfold mm_inl at hx
  split at hx
  · rename_i n
    cases hx
    obtain ⟨M1, h1, h2⟩ := h n rfl
    exact ⟨n, rfl, M1, h1, by rw [h2]; rfl⟩
  · cases hx
/-- both go on alike, or both end alike -/
def mm_la (X : List Value) (x y : Option MA) : Prop := ∀ a, x = some a → (∃ n : MN, a = .inl n ∧ ∃ M1, n.2.2.2.1 = (98, []) :: M1 ∧ y = some (.inl (n.1, n.2.1, n.2.2.1, (99, X) :: M1, n.2.2.2.2))) ∨ (∃ b, a = .inr b ∧ y = some (.inr b))
theorem mm_la.no {y : Option MA} : mm_la X none y := fun _ h => by cases h
theorem mm_la.inl {x y : Option MN} (h : mm_lf X x y) : mm_la X (mm_inl x) (mm_inl y) := fun _ ha => .inl (mm_lf_inl h ha)
theorem mm_la.same {x : Option MA} (h : ∀ a, x = some a → ∃ b, a = .inr b) : mm_la X x x := fun a ha => by
  obtain ⟨b, hb⟩ := h a ha
  exact .inr ⟨b, hb, by rw [ha, hb]⟩
set_option maxRecDepth 100000 in
theorem mm_cls_ne (j : Nat) : mm_cls j ≠ 98 := by
  unfold mm_cls
  split <;> decide
theorem mm_la_callV {j' n : Nat} : mm_la X (mm_callV j' n (mm_cls j') S ((98, []) :: M)) (mm_callV j' n (mm_cls j') S ((99, X) :: M)) := by
  unfold mm_callV
  split
  · rename_i a r hd
    cases a with
    | zero =>
      intro b h
      have e : Nat.beq 98 (mm_cls j') = false := by
        cases e : Nat.beq 98 (mm_cls j') with
        | true => exact absurd (Nat.eq_of_beq_eq_true e).symm (mm_cls_ne j')
        | false => rfl
      have e0 : ((98, []) :: M : MH)[Nat.zero]? = some (98, []) := rfl
      simp only [e0, e, Bool.false_and] at h
      cases h
    | succ a =>
      simp only [List.getElem?_cons_succ]
      split
      · split
        · exact .same fun a h => by cases h; exact ⟨_, rfl⟩
        · exact .no
      · exact .no
  · exact .no
theorem mm_la_act {i : Instr} (hw : 1 ≤ w) : mm_la X (mm_act w d j i pc L S ((98, []) :: M)) (mm_act w d j i pc L S ((99, X) :: M)) := by
  unfold mm_act
  split
  · split
    · exact .inl mm_lf_new
    · refine .same fun a h => ?_
      unfold mm_thr at h
      repeat' split at h
      all_goals first | (cases h; exact ⟨_, rfl⟩) | cases h
    · exact .no
  · split
    · exact mm_la_callV
    · exact mm_la_callV
    · exact .no
  · split
    · exact mm_la_callV
    · exact mm_la_callV
    · exact .inl (mm_lf_nat hw)
    · exact .no
  · split
    · refine .same fun a h => ?_
      unfold mm_callS at h
      split at h
      · cases h; exact ⟨_, rfl⟩
      · cases h
    · split
      · exact .inl (mm_lf_nat hw)
      · exact .no
    · exact .no
  · refine .same fun a h => ?_
    unfold mm_ret1 at h
    repeat' split at h
    all_goals first | (cases h; exact ⟨_, rfl⟩) | cases h
  · refine .same fun a h => ?_
    unfold mm_retl at h
    repeat' split at h
    all_goals first | (cases h; exact ⟨_, rfl⟩) | cases h
  · refine .same fun a h => ?_
    unfold mm_reta at h
    repeat' split at h
    all_goals first | (cases h; exact ⟨_, rfl⟩) | cases h
  · refine .same fun a h => ?_
    unfold mm_retv at h
    repeat' split at h
    all_goals first | (cases h; exact ⟨_, rfl⟩) | cases h
  · exact .inl (mm_lf_step hw)
end LF
theorem mm_lift : ∀ (f w d j pc : Nat) (L : ML) (S : List Value) (M : MH) (X : List Value) (c n : Nat) (o : Option Value ⊕ Nat) (M1 : MH) (c1 n1 : Nat), 1 ≤ w → mm_run f w d j pc L S ((98, []) :: M) c n = some (o, M1, c1, n1) → ∃ M2, M1 = (98, []) :: M2 ∧ mm_run f w d j pc L S ((99, X) :: M) c n = some (o, (99, X) :: M2, c1, n1)
  | 0, _, _, _, _, _, _, _, _, _, _, _, _, _, _, _, h => by cases h
  | f + 1, w, d, j, pc, L, S, M, X, c, n, o, M1, c1, n1, hw, h => by
    unfold mm_run at h
    split at h
    · cases h
    · rename_i i hi
      split at h
      · cases h
      · cases h
      · rename_i pc' L' S' M' hs
        rcases mm_la_act (X := X) hw _ hs with ⟨q, e1, M2, e2, e3⟩ | ⟨b, e1, e3⟩
        · cases e1
          cases e2
          obtain ⟨M3, r1, r2⟩ := mm_lift f _ _ _ _ _ _ _ X _ _ _ _ _ _ hw h
          refine ⟨M3, r1, ?_⟩
          unfold mm_run
          simp only [hi, e3]
          exact r2
        · cases e1
      · rename_i pc' L' S' M' ec en hs
        rcases mm_la_act (X := X) hw _ hs with ⟨q, e1, M2, e2, e3⟩ | ⟨b, e1, e3⟩
        · cases e1
          cases e2
          obtain ⟨M3, r1, r2⟩ := mm_lift f _ _ _ _ _ _ _ X _ _ _ _ _ _ hw h
          refine ⟨M3, r1, ?_⟩
          unfold mm_run
          simp only [hi, e3]
          exact r2
        · cases e1
      · rename_i v hs
        rcases mm_la_act (X := X) hw _ hs with ⟨q, e1, M2, e2, e3⟩ | ⟨b, e1, e3⟩
        · cases e1
        · cases e1
          cases h
          refine ⟨M, rfl, ?_⟩
          unfold mm_run
          simp only [hi, e3]
      · rename_i x hs
        rcases mm_la_act (X := X) hw _ hs with ⟨q, e1, M2, e2, e3⟩ | ⟨b, e1, e3⟩
        · cases e1
        · cases e1
          cases h
          refine ⟨M, rfl, ?_⟩
          unfold mm_run
          simp only [hi, e3]
      · rename_i j' as r hs
        rcases mm_la_act (X := X) hw _ hs with ⟨q, e1, M2, e2, e3⟩ | ⟨b, e1, e3⟩
        · cases e1
        · cases e1
          split at h
          · cases h
          · rename_i d'
            split at h
            · cases h
            · rename_i v M' c' n' hr
              obtain ⟨M2, rfl, g2⟩ := mm_lift f _ _ _ _ _ _ _ X _ _ _ _ _ _ hw hr
              obtain ⟨M3, r1, r2⟩ := mm_lift f _ _ _ _ _ _ _ X _ _ _ _ _ _ hw h
              refine ⟨M3, r1, ?_⟩
              unfold mm_run
              simp only [hi, e3, g2]
              exact r2
            · rename_i x0 M0 c00 n00 hr0
              split at h
              · rename_i x M' c' n' hr
                split at h
                · cases h
                · rename_i to kx hh
                  obtain ⟨M2, rfl, g2⟩ := mm_lift f _ _ _ _ _ _ _ X _ _ _ _ _ _ hw hr0
                  obtain ⟨M3, rfl, g3⟩ := mm_lift f _ _ _ _ _ _ _ X _ _ _ _ _ _ (by simp) hr
                  simp only [List.length_cons] at g3
                  obtain ⟨M4, r1, r2⟩ := mm_lift f _ _ _ _ _ _ _ X _ _ _ _ _ _ hw h
                  refine ⟨M4, r1, ?_⟩
                  unfold mm_run
                  simp only [hi, e3, g2, List.length_cons, g3, hh]
                  exact r2
              · cases h
