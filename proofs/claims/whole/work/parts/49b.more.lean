/-! More locals known do no harm. -/
def mm_kn2 (V L : ML) : Prop := ∀ q ∈ V, mm_look L q.1 = some q.2
section LW
variable {w d j pc : Nat} {V L : ML} {S : List Value} {M : MH}
def mm_lw (x y : Option MN) : Prop := ∀ n, x = some n → ∃ L', mm_kn2 n.2.1 L' ∧ y = some (n.1, L', n.2.2)
theorem mm_lw.no {y : Option MN} : mm_lw none y := fun _ h => by cases h
theorem mm_lw.go {to : Nat} (h : mm_kn2 V L) : mm_lw (mm_go to V S M) (mm_go to L S M) := fun _ q => by cases q; exact ⟨L, h, rfl⟩
theorem mm_lw.al {to a b : Nat} (h : mm_kn2 V L) : mm_lw (some (to, V, S, M, a, b)) (some (to, L, S, M, a, b)) := fun _ q => by cases q; exact ⟨L, h, rfl⟩
theorem mm_lw_br {b : Bool} {off : Int} (h : mm_kn2 V L) : mm_lw (mm_br b pc off V S M) (mm_br b pc off L S M) := by
  unfold mm_br
  split
  · split <;> exact .go h
  · exact .no
theorem mm_lw_jmp {off : Int} (h : mm_kn2 V L) : mm_lw (mm_jmp pc off V S M) (mm_jmp pc off L S M) := by
  unfold mm_jmp
  split
  · exact .go h
  · exact .no
theorem mm_lw_nat {x : Nat} (h : mm_kn2 V L) : mm_lw (mm_nat w d x pc V S M) (mm_nat w d x pc L S M) := by
  unfold mm_nat
  split
  · exact .no
  · split
    all_goals first
      | exact .no
      | (split <;> first | exact .go h | exact .no | (split <;> first | exact .go h | exact .no))
theorem mm_lw_new {to n : Nat} {c : MC} (h : mm_kn2 V L) : mm_lw (mm_new to c n V S M) (mm_new to c n L S M) := .al h
theorem mm_lw_newa {to kd : Nat} {z : Value} (h : mm_kn2 V L) : mm_lw (mm_newa to kd z V S M) (mm_newa to kd z L S M) := by
  unfold mm_newa
  split
  · split
    · exact mm_lw_new h
    · exact .no
  · exact .no
theorem mm_lw_multi {to ok ik : Nat} (h : mm_kn2 V L) : mm_lw (mm_multi to ok ik V S M) (mm_multi to ok ik L S M) := by
  unfold mm_multi
  split
  · split
    · exact .al h
    · exact .no
  · exact .no
theorem mm_lw_getf {to ci k : Nat} (h : mm_kn2 V L) : mm_lw (mm_getf to ci k V S M) (mm_getf to ci k L S M) := by
  unfold mm_getf
  split
  · split
    · split
      · split
        · exact .go h
        · exact .no
      · exact .no
    · exact .no
  · exact .no
theorem mm_lw_putf {to ci k : Nat} {ok : Value → Bool} (h : mm_kn2 V L) : mm_lw (mm_putf w to ci k ok V S M) (mm_putf w to ci k ok L S M) := by
  unfold mm_putf
  split
  · split
    · split
      · exact .go h
      · exact .no
    · exact .no
  · exact .no
theorem mm_lw_ald {kd : Nat} (h : mm_kn2 V L) : mm_lw (mm_ald kd pc V S M) (mm_ald kd pc L S M) := by
  unfold mm_ald
  split
  · split
    · split
      · split
        · exact .go h
        · exact .no
      · exact .no
    · exact .no
  · exact .no
theorem mm_lw_ast {kd : Nat} {ok : Value → Bool} (h : mm_kn2 V L) : mm_lw (mm_ast w kd ok pc V S M) (mm_ast w kd ok pc L S M) := by
  unfold mm_ast
  split
  · split
    · split
      · exact .go h
      · exact .no
    · exact .no
  · exact .no
theorem mm_lw_iload {to k : Nat} (h : mm_kn2 V L) : mm_lw (mm_iload to k V S M) (mm_iload to k L S M) := by
  unfold mm_iload
  split
  · rename_i x e
    rw [h _ (mm_look_mem e)]
    exact .go h
  · exact .no
theorem mm_lw_lload {to k : Nat} (h : mm_kn2 V L) : mm_lw (mm_lload to k V S M) (mm_lload to k L S M) := by
  unfold mm_lload
  split
  · rename_i x e
    rw [h _ (mm_look_mem e)]
    exact .go h
  · exact .no
theorem mm_lw_aload {to k : Nat} (h : mm_kn2 V L) : mm_lw (mm_aload to k V S M) (mm_aload to k L S M) := by
  unfold mm_aload
  split
  · rename_i x e
    rw [h _ (mm_look_mem e)]
    exact .go h
  · exact .no
theorem mm_lw_istore {mx to k : Nat} (h : mm_kn2 V L) : mm_lw (mm_istore mx to k V S M) (mm_istore mx to k L S M) := by
  unfold mm_istore
  split
  · split
    · exact .go (mm_inc1 h)
    · exact .no
  · exact .no
theorem mm_lw_lstore {mx to k : Nat} (h : mm_kn2 V L) : mm_lw (mm_lstore mx to k V S M) (mm_lstore mx to k L S M) := by
  unfold mm_lstore
  split
  · split
    · exact .go (mm_inc2 h)
    · exact .no
  · exact .no
theorem mm_lw_astore {mx to k : Nat} (h : mm_kn2 V L) : mm_lw (mm_astore mx to k V S M) (mm_astore mx to k L S M) := by
  unfold mm_astore
  split
  · split
    · exact .go (mm_inc1 h)
    · exact .no
  · exact .no
theorem mm_lw_iinc {mx k : Nat} {n : Int} (h : mm_kn2 V L) : mm_lw (mm_iinc mx pc k n V S M) (mm_iinc mx pc k n L S M) := by
  unfold mm_iinc
  split
  · rename_i x e
    rw [h _ (mm_look_mem e)]
    simp only
    split
    · exact .go (mm_inc1 h)
    · exact .no
  · exact .no
theorem mm_lw_step {i : Instr} (h : mm_kn2 V L) : mm_lw (mm_step w d j i pc V S M) (mm_step w d j i pc L S M) := by
  unfold mm_step
  split
  all_goals first
    | exact .go h
    | exact .no
    | exact mm_lw_iload h
    | exact mm_lw_lload h
    | exact mm_lw_aload h
    | exact mm_lw_istore h
    | exact mm_lw_lstore h
    | exact mm_lw_astore h
    | exact mm_lw_iinc h
    | exact mm_lw_jmp h
    | exact mm_lw_getf h
    | exact mm_lw_newa h
    | exact mm_lw_ald h
    | exact mm_lw_ast h
    | (unfold mm_i2; split <;> first | exact .go h | exact .no)
    | (unfold mm_i2z; split <;> first | exact .no | (split <;> first | exact .go h | exact .no))
    | (unfold mm_l2; split <;> first | exact .go h | exact .no)
    | (unfold mm_l2z; split <;> first | exact .no | (split <;> first | exact .go h | exact .no))
    | (unfold mm_if1; split <;> first | exact mm_lw_br h | exact .no)
    | (unfold mm_if2; split <;> first | exact mm_lw_br h | exact .no)
    | (unfold mm_tsw; split <;> first | exact .no | (split <;> first | exact mm_lw_jmp h | (split <;> first | exact mm_lw_jmp h | exact .no)))
    | (split <;> first | exact .go h | exact .no | exact mm_lw_getf h | exact mm_lw_newa h | exact mm_lw_multi h | exact mm_lw_putf h | (split <;> first | exact .go h | exact .no | exact mm_lw_putf h | (split <;> first | exact .go h | exact .no | exact mm_lw_ast h)))
def mm_lb (x y : Option MA) : Prop := ∀ a, x = some a → (∃ n : MN, a = .inl n ∧ ∃ L', mm_kn2 n.2.1 L' ∧ y = some (.inl (n.1, L', n.2.2))) ∨ (∃ b, a = .inr b ∧ y = some (.inr b))
theorem mm_lb.no {y : Option MA} : mm_lb none y := fun _ h => by cases h
theorem mm_lb.inl {x y : Option MN} (h : mm_lw x y) : mm_lb (mm_inl x) (mm_inl y) := fun a ha => by
  unfold mm_inl at ha
  split at ha
  · rename_i n
    cases ha
    obtain ⟨L', h1, h2⟩ := h n rfl
    exact .inl ⟨n, rfl, L', h1, by rw [h2]; rfl⟩
  · cases ha
theorem mm_lb.same {x : Option MA} (h : ∀ a, x = some a → ∃ b, a = .inr b) : mm_lb x x := fun a ha => by
  obtain ⟨b, hb⟩ := h a ha
  exact .inr ⟨b, hb, by rw [ha, hb]⟩
theorem mm_callV_r {j' n ci : Nat} : ∀ a, mm_callV j' n ci S M = some a → ∃ b, a = .inr b := by
  intro a h
  unfold mm_callV at h
  repeat' split at h
  all_goals first | (cases h; exact ⟨_, rfl⟩) | cases h
theorem mm_lb_act {i : Instr} (h : mm_kn2 V L) : mm_lb (mm_act w d j i pc V S M) (mm_act w d j i pc L S M) := by
  unfold mm_act
  split
  · split
    · exact .inl (mm_lw_new h)
    · refine .same fun a h => ?_
      unfold mm_thr at h
      repeat' split at h
      all_goals first | (cases h; exact ⟨_, rfl⟩) | cases h
    · exact .no
  · split
    · exact .same mm_callV_r
    · exact .same mm_callV_r
    · exact .no
  · split
    · exact .same mm_callV_r
    · exact .same mm_callV_r
    · exact .inl (mm_lw_nat h)
    · exact .no
  · split
    · refine .same fun a h => ?_
      unfold mm_callS at h
      split at h
      · cases h; exact ⟨_, rfl⟩
      · cases h
    · split
      · exact .inl (mm_lw_nat h)
      · exact .no
    · exact .no
  · refine .same fun a h => ?_
    unfold mm_ret1 at h
    repeat' split at h
    all_goals first | (cases h; exact ⟨_, rfl⟩) | cases h
  · refine .same fun a h => ?_
    unfold mm_retl at h
    repeat' split at h
    all_goals first | (cases h; exact ⟨_, rfl⟩) | cases h
  · refine .same fun a h => ?_
    unfold mm_reta at h
    repeat' split at h
    all_goals first | (cases h; exact ⟨_, rfl⟩) | cases h
  · refine .same fun a h => ?_
    unfold mm_retv at h
    repeat' split at h
    all_goals first | (cases h; exact ⟨_, rfl⟩) | cases h
  · exact .inl (mm_lw_step h)
end LW
theorem mm_run_more : ∀ (f w d j pc : Nat) (V L : ML) (S : List Value) (M : MH) (c n : Nat) (r : MR), mm_kn2 V L → mm_run f w d j pc V S M c n = some r → mm_run f w d j pc L S M c n = some r
  | 0, _, _, _, _, _, _, _, _, _, _, _, _, h => by cases h
  | f + 1, w, d, j, pc, V, L, S, M, c, n, r, hk, h => by
    unfold mm_run at h
    split at h
    · cases h
    · rename_i i hi
      split at h
      · cases h
      · cases h
      · rename_i pc' L' S' M' hs
        rcases mm_lb_act hk _ hs with ⟨q, e1, L2, e2, e3⟩ | ⟨b, e1, e3⟩
        · cases e1
          have r2 := mm_run_more f _ _ _ _ _ _ _ _ _ _ _ e2 h
          unfold mm_run
          simp only [hi, e3]
          exact r2
        · cases e1
      · rename_i pc' L' S' M' ec en hs
        rcases mm_lb_act hk _ hs with ⟨q, e1, L2, e2, e3⟩ | ⟨b, e1, e3⟩
        · cases e1
          have r2 := mm_run_more f _ _ _ _ _ _ _ _ _ _ _ e2 h
          unfold mm_run
          simp only [hi, e3]
          exact r2
        · cases e1
      · rename_i v hs
        rcases mm_lb_act hk _ hs with ⟨q, e1, L2, e2, e3⟩ | ⟨b, e1, e3⟩
        · cases e1
        · cases e1
          unfold mm_run
          simp only [hi, e3]
          exact h
      · rename_i x hs
        rcases mm_lb_act hk _ hs with ⟨q, e1, L2, e2, e3⟩ | ⟨b, e1, e3⟩
        · cases e1
        · cases e1
          unfold mm_run
          simp only [hi, e3]
          exact h
      · rename_i j' as r' hs
        rcases mm_lb_act hk _ hs with ⟨q, e1, L2, e2, e3⟩ | ⟨b, e1, e3⟩
        · cases e1
        · cases e1
          unfold mm_run
          simp only [hi, e3]
          split at h
          · cases h
          · rename_i d'
            split at h
            · cases h
            · rename_i v M' c' n' hr
              exact mm_run_more f _ _ _ _ _ _ _ _ _ _ _ hk h
            · rename_i x0 M0 c00 n00 hr0
              split at h
              · rename_i x M' c' n' hr
                split at h
                · cases h
                · rename_i to kx hh
                  exact mm_run_more f _ _ _ _ _ _ _ _ _ _ _ (fun q hq => by
                    obtain ⟨g1, g2⟩ := List.mem_filter.mp hq
                    exact mm_look_fil g2 (hk q g1)) h
              · cases h
/-- out of one closed run -/
theorem mm_E.of_run {f w d j pc : Nat} {V : ML} {S : List Value} {M : MH} {o : Option Value ⊕ Nat} {M1 : MH} {c1 n1 : Nat} (h : mm_run f w d j pc V S M 0 0 = some (o, M1, c1, n1)) : mm_E w d j pc V S M (o, M1, c1, n1) := fun L hL => by
  refine ⟨f, fun c n => mm_run_more f _ _ _ _ _ _ _ _ _ _ _ hL ?_⟩
  obtain ⟨dc, dn, e1, e2, e3⟩ := mm_run_shift f _ _ _ _ _ _ _ _ _ _ _ _ _ h
  rw [e3 c n, e1, e2, Nat.zero_add, Nat.zero_add]
