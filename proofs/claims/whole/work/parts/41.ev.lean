/-! Runs of the little machine, one after the other: fuel, depth and room out of sight. -/
theorem mm_act_d {w d d' j pc : Nat} {i : Instr} {L : ML} {S : List Value} {M : MH} {a : MA} (hd : d ≤ d') (h : mm_act w d j i pc L S M = some a) : mm_act w d' j i pc L S M = some a := by
  have hn : ∀ x, ∀ n, mm_nat w d x pc L S M = some n → mm_nat w d' x pc L S M = some n := by
    intro x n h
    unfold mm_nat at h ⊢
    split at h
    · cases h
    · rename_i k
      cases d' with
      | zero => omega
      | succ d' => exact h
  have hi : ∀ x, mm_inl (mm_nat w d x pc L S M) = some a → mm_inl (mm_nat w d' x pc L S M) = some a := by
    intro x h
    unfold mm_inl at h ⊢
    split at h
    · rename_i n hq
      rw [hn x n hq]
      exact h
    · cases h
  have ht : ∀ x, mm_thr d j pc x S = some a → mm_thr d' j pc x S = some a := by
    intro x h
    unfold mm_thr at h ⊢
    split at h
    · split at h
      · rename_i y u0 u1 u2 hp
        split at h
        · rename_i hb
          simp only [Bool.and_eq_true] at hb
          have e : (Nat.beq x y && Nat.ble 8 d' && Nat.ble (mm_words S) 6) = true := by
            simp only [Bool.and_eq_true]
            exact ⟨⟨hb.1.1, Nat.ble_eq_true_of_le (Nat.le_trans (Nat.le_of_ble_eq_true hb.1.2) hd)⟩, hb.2⟩
          rw [e]
          exact h
        · cases h
      · cases h
    · cases h
  unfold mm_act at h ⊢
  split at h
  · split at h
    · exact h
    · exact ht _ h
    · cases h
  · exact h
  · split at h
    · exact h
    · exact h
    · exact hi 6 h
    · cases h
  · split at h
    · exact h
    · split at h
      · exact hi _ h
      · cases h
    · cases h
  · exact h
  · exact h
  · exact h
  · exact h
  · exact h
theorem mm_run_mono : ∀ (f f' w d d' j pc : Nat) (L : ML) (S : List Value) (M : MH) (c n : Nat) (r : MR), f ≤ f' → d ≤ d' → mm_run f w d j pc L S M c n = some r → mm_run f' w d' j pc L S M c n = some r
  | 0, f', w, d, d', j, pc, L, S, M, c, n, r, _, _, h => by cases h
  | f + 1, 0, w, d, d', j, pc, L, S, M, c, n, r, hf, hd, h => by omega
  | f + 1, f' + 1, w, d, d', j, pc, L, S, M, c, n, r, hf, hd, h => by
    have hf : f ≤ f' := by omega
    unfold mm_run at h
    split at h
    · cases h
    · rename_i i hi
      split at h
      · cases h
      · cases h
      · rename_i pc' L' S' M' hs
        have q := mm_run_mono f f' _ _ d' _ _ _ _ _ _ _ _ hf hd h
        unfold mm_run
        simp only [hi, mm_act_d hd hs]
        exact q
      · rename_i pc' L' S' M' ec en hs
        have q := mm_run_mono f f' _ _ d' _ _ _ _ _ _ _ _ hf hd h
        unfold mm_run
        simp only [hi, mm_act_d hd hs]
        exact q
      · rename_i v hs
        cases h
        unfold mm_run
        simp only [hi, mm_act_d hd hs]
      · rename_i x hs
        cases h
        unfold mm_run
        simp only [hi, mm_act_d hd hs]
      · rename_i j' as r' hs
        split at h
        · cases h
        · rename_i k
          cases d' with
          | zero => omega
          | succ k' =>
            have hk : k ≤ k' := by omega
            split at h
            · cases h
            · rename_i v M' c' n' hr
              have q1 := mm_run_mono f f' _ _ k' _ _ _ _ _ _ _ _ hf hk hr
              have q2 := mm_run_mono f f' _ _ (k' + 1) _ _ _ _ _ _ _ _ hf hd h
              unfold mm_run
              simp only [hi, mm_act_d hd hs, q1]
              exact q2
            · rename_i x0 M0 c00 n00 hr0
              split at h
              · rename_i x M' c' n' hr
                split at h
                · cases h
                · rename_i to kx hh
                  have q0 := mm_run_mono f f' _ _ k' _ _ _ _ _ _ _ _ hf hk hr0
                  have q1 := mm_run_mono f f' _ _ k' _ _ _ _ _ _ _ _ hf hk hr
                  have q2 := mm_run_mono f f' _ _ (k' + 1) _ _ _ _ _ _ _ _ hf hd h
                  unfold mm_run
                  simp only [hi, mm_act_d hd hs, q0, q1, hh]
                  exact q2
              · cases h
def mm_e (w d j pc : Nat) (L : ML) (S : List Value) (M : MH) (r : MR) : Prop := ∃ f, ∀ c n, mm_run f w d j pc L S M c n = some (r.1, r.2.1, c + r.2.2.1, n + r.2.2.2)
/-- what is known of the locals is V -/
def mm_E (w d j pc : Nat) (V : ML) (S : List Value) (M : MH) (r : MR) : Prop := ∀ L : ML, (∀ q ∈ V, mm_look L q.1 = some q.2) → mm_e w d j pc L S M r
theorem mm_look_cons {α : Type} (q : Nat × α) (r : List (Nat × α)) (i : Nat) : mm_look (q :: r) i = if q.1 = i then some q.2 else mm_look r i := by
  show (match Nat.beq q.1 i with | true => some q.2 | false => mm_look r i) = _
  by_cases h : q.1 = i
  · have e : Nat.beq q.1 i = true := by rw [h]; exact Nat.beq_refl i
    rw [if_pos h, e]
  · rw [if_neg h]
    cases e : Nat.beq q.1 i with
    | true => exact absurd (Nat.eq_of_beq_eq_true e) h
    | false => rfl
theorem mm_look_mem {α : Type} : ∀ {V : List (Nat × α)} {k : Nat} {v : α}, mm_look V k = some v → (k, v) ∈ V
  | [], _, _, h => by cases h
  | q :: V, k, v, h => by
    rw [mm_look_cons] at h
    split at h
    · rename_i e
      cases h
      rw [← e]
      exact List.mem_cons_self
    · exact List.mem_cons_of_mem _ (mm_look_mem h)
theorem mm_look_fil {k : Nat} {v : Value} {p : Nat × Value → Bool} (hp : p (k, v) = true) : ∀ {L : ML}, mm_look L k = some v → mm_look (L.filter p) k = some v
  | [], h => by cases h
  | q :: L, h => by
    rw [mm_look_cons] at h
    split at h
    · rename_i e
      cases h
      have hq : p q = true := by rw [← e] at hp; exact hp
      rw [List.filter_cons_of_pos hq, mm_look_cons, if_pos e]
    · rename_i e
      cases hq : p q with
      | true => rw [List.filter_cons_of_pos hq, mm_look_cons, if_neg e]; exact mm_look_fil hp h
      | false => rw [List.filter_cons_of_neg (by rw [hq]; decide)]; exact mm_look_fil hp h
theorem mm_inc1 {V L : ML} {i : Nat} {v : Value} (h : ∀ q ∈ V, mm_look L q.1 = some q.2) : ∀ q ∈ mm_st1 V i v, mm_look (mm_st1 L i v) q.1 = some q.2 := by
  intro q hq
  unfold mm_st1 at hq ⊢
  rcases List.mem_cons.mp hq with rfl | hq
  · rw [mm_look_cons, if_pos rfl]
  · obtain ⟨h1, h2⟩ := List.mem_filter.mp hq
    have hne : ¬ i = q.1 := by
      intro e
      subst e
      simp at h2
    rw [mm_look_cons, if_neg hne]
    exact mm_look_fil h2 (h q h1)
theorem mm_inc2 {V L : ML} {i : Nat} {v : Value} (h : ∀ q ∈ V, mm_look L q.1 = some q.2) : ∀ q ∈ mm_st2 V i v, mm_look (mm_st2 L i v) q.1 = some q.2 := by
  intro q hq
  unfold mm_st2 at hq ⊢
  rcases List.mem_cons.mp hq with rfl | hq
  · rw [mm_look_cons, if_pos rfl]
  · obtain ⟨h1, h2⟩ := List.mem_filter.mp hq
    have hne : ¬ i = q.1 := by
      intro e
      subst e
      simp at h2
    rw [mm_look_cons, if_neg hne]
    exact mm_look_fil h2 (h q h1)
def mm_sub : ML → ML → Prop
  | [], _ => True
  | q :: r, V => mm_look V q.1 = some q.2 ∧ mm_sub r V
theorem mm_sub_of : ∀ {V' V : ML}, mm_sub V' V → ∀ q ∈ V', q ∈ V
  | [], _, _, q, hq => by cases hq
  | x :: r, V, h, q, hq => by
    rcases List.mem_cons.mp hq with rfl | hq
    · exact mm_look_mem h.1
    · exact mm_sub_of h.2 q hq
section EV
variable {w d j pc pc' k : Nat} {V V' L : ML} {S S' : List Value} {M M' : MH} {r : MR} {i : Instr}
theorem mm_E.sub (hs : mm_sub V' V) (h : mm_E w d j pc V' S M r) : mm_E w d j pc V S M r := fun L hL => h L fun q hq => hL q (mm_sub_of hs q hq)
theorem mm_atc {C : List (Nat × Instr)} (hc : mm_code j = C) (h : mm_lk C pc = some i) : mm_at j pc = some i := by
  unfold mm_at
  rw [hc]
  exact h
theorem mm_plc {P : List (Nat × Nat × Nat × Nat × Int)} {q : Nat × Nat × Nat × Int} (hp : mm_pl (mm_cn j) = P) (h : mm_lk P k = some q) : mm_pool j k = some q := by
  unfold mm_pool
  rw [hp]
  exact h
theorem mm_e.one (hat : mm_at j pc = some i) (hact : mm_act w d j i pc L S M = some (.inl (pc', V', S', M', 0, 0))) (h : mm_e w d j pc' V' S' M' r) : mm_e w d j pc L S M r := by
  obtain ⟨f, hf⟩ := h
  refine ⟨f + 1, fun c n => ?_⟩
  unfold mm_run
  simp only [hat, hact]
  exact hf c n
/-- a step that leaves the locals alone -/
theorem mm_E.step (hat : mm_at j pc = some i) (hact : ∀ L : ML, mm_act w d j i pc L S M = some (.inl (pc', L, S', M', 0, 0))) (h : mm_E w d j pc' V S' M' r) : mm_E w d j pc V S M r := fun L hL => mm_e.one hat (hact L) (h L hL)
theorem mm_E.mono {d' : Nat} (hd : d ≤ d') (h : mm_E w d j pc V S M r) : mm_E w d' j pc V S M r := fun L hL => by
  obtain ⟨f, hf⟩ := h L hL
  exact ⟨f, fun c n => mm_run_mono f f _ _ _ _ _ _ _ _ _ _ _ (Nat.le_refl _) hd (hf c n)⟩
theorem mm_E.iload {x : Int32} (hat : mm_at j pc = some (.iload k)) (hv : mm_look V k = some (.int x)) (h : mm_E w d j (pc + 2) V (.int x :: S) M r) : mm_E w d j pc V S M r := fun L hL => by
  refine mm_e.one hat ?_ (h L hL)
  simp only [mm_act, mm_inl, mm_step, mm_iload, hL _ (mm_look_mem hv), mm_go]
theorem mm_E.iload_n {k : Fin 4} {x : Int32} (hat : mm_at j pc = some (.iload_n k)) (hv : mm_look V k = some (.int x)) (h : mm_E w d j (pc + 1) V (.int x :: S) M r) : mm_E w d j pc V S M r := fun L hL => by
  refine mm_e.one hat ?_ (h L hL)
  simp only [mm_act, mm_inl, mm_step, mm_iload, hL _ (mm_look_mem hv), mm_go]
theorem mm_E.lload {x : Int64} (hat : mm_at j pc = some (.lload k)) (hv : mm_look V k = some (.long x)) (h : mm_E w d j (pc + 2) V (.long x :: S) M r) : mm_E w d j pc V S M r := fun L hL => by
  refine mm_e.one hat ?_ (h L hL)
  simp only [mm_act, mm_inl, mm_step, mm_lload, hL _ (mm_look_mem hv), mm_go]
theorem mm_E.lload_n {k : Fin 4} {x : Int64} (hat : mm_at j pc = some (.lload_n k)) (hv : mm_look V k = some (.long x)) (h : mm_E w d j (pc + 1) V (.long x :: S) M r) : mm_E w d j pc V S M r := fun L hL => by
  refine mm_e.one hat ?_ (h L hL)
  simp only [mm_act, mm_inl, mm_step, mm_lload, hL _ (mm_look_mem hv), mm_go]
theorem mm_E.aload {x : Nat} (hat : mm_at j pc = some (.aload k)) (hv : mm_look V k = some (.ref x)) (h : mm_E w d j (pc + 2) V (.ref x :: S) M r) : mm_E w d j pc V S M r := fun L hL => by
  refine mm_e.one hat ?_ (h L hL)
  simp only [mm_act, mm_inl, mm_step, mm_aload, hL _ (mm_look_mem hv), mm_go]
theorem mm_E.aload_n {k : Fin 4} {x : Nat} (hat : mm_at j pc = some (.aload_n k)) (hv : mm_look V k = some (.ref x)) (h : mm_E w d j (pc + 1) V (.ref x :: S) M r) : mm_E w d j pc V S M r := fun L hL => by
  refine mm_e.one hat ?_ (h L hL)
  simp only [mm_act, mm_inl, mm_step, mm_aload, hL _ (mm_look_mem hv), mm_go]
theorem mm_E.istore {x : Int32} {mx : Nat} (hmx : mm_maxL j = mx) (hb : Nat.blt k mx = true) (hat : mm_at j pc = some (.istore k)) (h : mm_E w d j (pc + 2) (mm_st1 V k (.int x)) S M r) : mm_E w d j pc V (.int x :: S) M r := fun L hL => by
  refine mm_e.one hat ?_ (h _ (mm_inc1 hL))
  simp only [mm_act, mm_inl, mm_step, mm_istore, hmx, hb, mm_go]
theorem mm_E.istore_n {k : Fin 4} {x : Int32} {mx : Nat} (hmx : mm_maxL j = mx) (hb : Nat.blt k mx = true) (hat : mm_at j pc = some (.istore_n k)) (h : mm_E w d j (pc + 1) (mm_st1 V k (.int x)) S M r) : mm_E w d j pc V (.int x :: S) M r := fun L hL => by
  refine mm_e.one hat ?_ (h _ (mm_inc1 hL))
  simp only [mm_act, mm_inl, mm_step, mm_istore, hmx, hb, mm_go]
theorem mm_E.lstore {x : Int64} {mx : Nat} (hmx : mm_maxL j = mx) (hb : Nat.blt (k + 1) mx = true) (hat : mm_at j pc = some (.lstore k)) (h : mm_E w d j (pc + 2) (mm_st2 V k (.long x)) S M r) : mm_E w d j pc V (.long x :: S) M r := fun L hL => by
  refine mm_e.one hat ?_ (h _ (mm_inc2 hL))
  simp only [mm_act, mm_inl, mm_step, mm_lstore, hmx, hb, mm_go]
theorem mm_E.lstore_n {k : Fin 4} {x : Int64} {mx : Nat} (hmx : mm_maxL j = mx) (hb : Nat.blt (k + 1) mx = true) (hat : mm_at j pc = some (.lstore_n k)) (h : mm_E w d j (pc + 1) (mm_st2 V k (.long x)) S M r) : mm_E w d j pc V (.long x :: S) M r := fun L hL => by
  refine mm_e.one hat ?_ (h _ (mm_inc2 hL))
  simp only [mm_act, mm_inl, mm_step, mm_lstore, hmx, hb, mm_go]
theorem mm_E.astore {x : Nat} {mx : Nat} (hmx : mm_maxL j = mx) (hb : Nat.blt k mx = true) (hat : mm_at j pc = some (.astore k)) (h : mm_E w d j (pc + 2) (mm_st1 V k (.ref x)) S M r) : mm_E w d j pc V (.ref x :: S) M r := fun L hL => by
  refine mm_e.one hat ?_ (h _ (mm_inc1 hL))
  simp only [mm_act, mm_inl, mm_step, mm_astore, hmx, hb, mm_go]
theorem mm_E.astore_n {k : Fin 4} {x : Nat} {mx : Nat} (hmx : mm_maxL j = mx) (hb : Nat.blt k mx = true) (hat : mm_at j pc = some (.astore_n k)) (h : mm_E w d j (pc + 1) (mm_st1 V k (.ref x)) S M r) : mm_E w d j pc V (.ref x :: S) M r := fun L hL => by
  refine mm_e.one hat ?_ (h _ (mm_inc1 hL))
  simp only [mm_act, mm_inl, mm_step, mm_astore, hmx, hb, mm_go]
theorem mm_E.iinc {x : Int32} {n : Int} {mx : Nat} (hmx : mm_maxL j = mx) (hb : Nat.blt k mx = true) (hat : mm_at j pc = some (.iinc k n)) (hv : mm_look V k = some (.int x)) (h : mm_E w d j (pc + 3) (mm_st1 V k (.int (x + Int32.ofInt n))) S M r) : mm_E w d j pc V S M r := fun L hL => by
  refine mm_e.one hat ?_ (h _ (mm_inc1 hL))
  simp only [mm_act, mm_inl, mm_step, mm_iinc, hL _ (mm_look_mem hv), hmx, hb, mm_go]
end EV
