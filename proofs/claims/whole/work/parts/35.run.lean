/-! A run of the little machine is a run of the real one. -/
theorem mm_run_shift : ∀ (f w d j pc : Nat) (L : ML) (S : List Value) (M : MH) (c n : Nat) (o : Option Value ⊕ Nat) (M1 : MH) (c1 n1 : Nat), mm_run f w d j pc L S M c n = some (o, M1, c1, n1) → ∃ dc dn, c1 = c + dc ∧ n1 = n + dn ∧ ∀ c2 n2, mm_run f w d j pc L S M c2 n2 = some (o, M1, c2 + dc, n2 + dn)
  | 0, w, d, j, pc, L, S, M, c, n, o, M1, c1, n1, h => by cases h
  | f + 1, w, d, j, pc, L, S, M, c, n, o, M1, c1, n1, h => by
    unfold mm_run at h
    split at h
    · cases h
    · rename_i i hi
      split at h
      · cases h
      · cases h
      · rename_i pc' L' S' M' hs
        obtain ⟨dc, dn, e1, e2, e3⟩ := mm_run_shift f _ _ _ _ _ _ _ _ _ _ _ _ _ h
        refine ⟨dc, dn, e1, e2, fun c2 n2 => ?_⟩
        unfold mm_run
        simp only [hi, hs]
        exact e3 c2 n2
      · rename_i pc' L' S' M' ec en hs
        obtain ⟨dc, dn, e1, e2, e3⟩ := mm_run_shift f _ _ _ _ _ _ _ _ _ _ _ _ _ h
        refine ⟨ec + 1 + dc, en + dn, by omega, by omega, fun c2 n2 => ?_⟩
        unfold mm_run
        simp only [hi, hs]
        rw [e3]
        simp only [Nat.add_assoc]
      · rename_i v hs
        cases h
        refine ⟨0, 0, rfl, rfl, fun c2 n2 => ?_⟩
        unfold mm_run
        simp only [hi, hs]
        rfl
      · rename_i x hs
        cases h
        refine ⟨1, 6, rfl, rfl, fun c2 n2 => ?_⟩
        unfold mm_run
        simp only [hi, hs]
      · rename_i j' as r hs
        split at h
        · cases h
        · rename_i d'
          split at h
          · cases h
          · rename_i v M' c' n' hr
            obtain ⟨dc, dn, e1, e2, e3⟩ := mm_run_shift f _ _ _ _ _ _ _ _ _ _ _ _ _ hr
            obtain ⟨fc, fn, g1, g2, g3⟩ := mm_run_shift f _ _ _ _ _ _ _ _ _ _ _ _ _ h
            refine ⟨dc + fc, dn + fn, by omega, by omega, fun c2 n2 => ?_⟩
            unfold mm_run
            simp only [hi, hs, e3]
            rw [g3]
            simp only [Nat.add_assoc]
          · rename_i x0 M0 c00 n00 hr0
            obtain ⟨dc0, dn0, -, -, e30⟩ := mm_run_shift f _ _ _ _ _ _ _ _ _ _ _ _ _ hr0
            split at h
            · rename_i x M' c' n' hr
              split at h
              · cases h
              · rename_i to kx hh
                obtain ⟨dc, dn, e1, e2, e3⟩ := mm_run_shift f _ _ _ _ _ _ _ _ _ _ _ _ _ hr
                obtain ⟨fc, fn, g1, g2, g3⟩ := mm_run_shift f _ _ _ _ _ _ _ _ _ _ _ _ _ h
                refine ⟨dc + fc, dn + fn, by omega, by omega, fun c2 n2 => ?_⟩
                unfold mm_run
                simp only [hi, hs, e30, e3, hh]
                rw [g3]
                simp only [Nat.add_assoc]
            · cases h
/-- the place is a return of that value -/
def mm_retI (j pc : Nat) (v : Option Value) : Prop := match v with
  | none => mm_dec (mm_bytes j) pc .return_ ∧ mm_ret j = none
  | some (.int x) => mm_dec (mm_bytes j) pc .ireturn ∧ ∃ ty, mm_ret j = some ty ∧ narrow ty (.int x) = .int x
  | some (.long _) => mm_dec (mm_bytes j) pc .lreturn ∧ mm_ret j = some .long
  | some (.ref _) => mm_dec (mm_bytes j) pc .areturn ∧ ∃ ty, mm_ret j = some ty ∧ ((∃ n, ty = .object n) ∨ ∃ t, ty = .array t)
  | _ => False
theorem mm_inl_inv {x : Option MN} {a : MA} (h : mm_inl x = some a) : ∃ n, x = some n ∧ a = .inl n := by
  cases x with
  | none => cases h
  | some n => cases h; exact ⟨n, rfl, rfl⟩
theorem mm_ret1_inv {j pc : Nat} {S : List Value} {a : MA} (hd : mm_dec (mm_bytes j) pc .ireturn) (h : mm_ret1 j S = some a) : ∃ v, a = .inr (.inl v) ∧ mm_retI j pc v ∧ S = v.toList := by
  unfold mm_ret1 at h
  split at h
  · split at h
    · rename_i ty hty
      split at h
      · rename_i hn
        cases h
        exact ⟨_, rfl, ⟨hd, ty, hty, of_decide_eq_true hn⟩, rfl⟩
      · cases h
    · cases h
  · cases h
theorem mm_retl_inv {j pc : Nat} {S : List Value} {a : MA} (hd : mm_dec (mm_bytes j) pc .lreturn) (h : mm_retl j S = some a) : ∃ v, a = .inr (.inl v) ∧ mm_retI j pc v ∧ S = v.toList := by
  unfold mm_retl at h
  split at h
  · split at h
    · rename_i hty
      cases h
      exact ⟨_, rfl, ⟨hd, hty⟩, rfl⟩
    · cases h
  · cases h
theorem mm_reta_inv {j pc : Nat} {S : List Value} {a : MA} (hd : mm_dec (mm_bytes j) pc .areturn) (h : mm_reta j S = some a) : ∃ v, a = .inr (.inl v) ∧ mm_retI j pc v ∧ S = v.toList := by
  unfold mm_reta at h
  split at h
  · split at h
    · rename_i o hty
      cases h
      exact ⟨_, rfl, ⟨hd, _, hty, Or.inl ⟨o, rfl⟩⟩, rfl⟩
    · rename_i o hty
      cases h
      exact ⟨_, rfl, ⟨hd, _, hty, Or.inr ⟨o, rfl⟩⟩, rfl⟩
    · cases h
  · cases h
theorem mm_retv_inv {j pc : Nat} {S : List Value} {a : MA} (hd : mm_dec (mm_bytes j) pc .return_) (h : mm_retv j S = some a) : ∃ v, a = .inr (.inl v) ∧ mm_retI j pc v ∧ S = v.toList := by
  unfold mm_retv at h
  split at h
  · split at h
    · rename_i hty
      cases h
      exact ⟨_, rfl, ⟨hd, hty⟩, rfl⟩
    · cases h
  · cases h
theorem mm_words_app (a b : List Value) : mm_words (a ++ b) = mm_words a + mm_words b := by simp [mm_words]
theorem mm_words_rev (a : List Value) : mm_words a.reverse = mm_words a := by
  induction a with
  | nil => rfl
  | cons x xs ih => rw [List.reverse_cons, mm_words_app, ih]; simp [mm_words]; omega
theorem mm_callV_inv {j' n ci : Nat} {S : List Value} {M : MH} {a : MA} (h : mm_callV j' n ci S M = some a) : ∃ (b : Nat) (As r : List Value), a = .inr (.inr (.inl (j', .ref b :: As, r))) ∧ S = As.reverse ++ .ref b :: r ∧ (∃ fs, M[b]? = some (ci, fs)) ∧ As.length = n ∧ mm_words r ≤ 8 ∧ mm_words (.ref b :: As) ≤ mm_maxL j' := by
  unfold mm_callV at h
  split at h
  · rename_i b r hS
    split at h
    · rename_i kd fs hM
      split at h
      · rename_i hq
        simp only [Bool.and_eq_true] at hq
        obtain ⟨⟨⟨q1, q2⟩, q3⟩, q4⟩ := hq
        cases h
        have q1 := Nat.eq_of_beq_eq_true q1
        have q3 := Nat.eq_of_beq_eq_true q3
        subst q1
        refine ⟨b, (S.take n).reverse, r, rfl, ?_, ⟨fs, hM⟩, by simpa using q3, Nat.le_of_ble_eq_true q2, ?_⟩
        · rw [List.reverse_reverse, ← hS, List.take_append_drop]
        · have := Nat.le_of_ble_eq_true q4
          rw [show mm_words (.ref b :: (S.take n).reverse) = 1 + mm_words (S.take n).reverse from by simp [mm_words, Value.category], mm_words_rev]
          exact this
      · cases h
    · cases h
  · cases h
theorem mm_callS_inv {j' n : Nat} {S : List Value} {a : MA} (h : mm_callS j' n S = some a) : ∃ (as r : List Value), a = .inr (.inr (.inl (j', as, r))) ∧ S = as.reverse ++ r ∧ as.length = n ∧ mm_words r ≤ 8 ∧ mm_words as ≤ mm_maxL j' := by
  unfold mm_callS at h
  split at h
  · rename_i hq
    simp only [Bool.and_eq_true] at hq
    obtain ⟨⟨q2, q3⟩, q4⟩ := hq
    cases h
    have q3 := Nat.eq_of_beq_eq_true q3
    refine ⟨(S.take n).reverse, S.drop n, rfl, by rw [List.reverse_reverse, List.take_append_drop], by simpa using q3, Nat.le_of_ble_eq_true q2, ?_⟩
    rw [mm_words_rev]
    exact Nat.le_of_ble_eq_true q4
  · cases h
/-- the place is where x is made and thrown -/
def mm_thrI (d j pc x : Nat) (S : List Value) : Prop := ∃ k1 k2 k3, mm_dec (mm_bytes j) pc (.new k1) ∧ mm_dec (mm_bytes j) (pc + 3) .dup ∧ mm_dec (mm_bytes j) (pc + 4) (.ldc k2) ∧ mm_dec (mm_bytes j) (pc + 6) (.invokespecial k3) ∧ mm_dec (mm_bytes j) (pc + 9) .athrow ∧ mm_xnok (mm_own j) k1 x ∧ mm_strok (mm_own j) k2 ∧ mm_xiok (mm_own j) k3 x ∧ 8 ≤ d ∧ mm_words S ≤ 6
theorem mm_thr_inv {d j pc x k1 : Nat} {S : List Value} {a : MA} (hd : mm_dec (mm_bytes j) pc (.new k1)) (hp : mm_xnok (mm_own j) k1 x) (h : mm_thr d j pc x S = some a) : a = .inr (.inr (.inr x)) ∧ mm_thrI d j pc x S := by
  unfold mm_thr at h
  split at h
  · rename_i k2 k3 a1 a2 a3 a4
    split at h
    · rename_i y p1 p2
      split at h
      · rename_i hq
        simp only [Bool.and_eq_true] at hq
        obtain ⟨⟨q1, q2⟩, q3⟩ := hq
        have q1 := Nat.eq_of_beq_eq_true q1
        subst q1
        cases h
        exact ⟨rfl, k1, k2, k3, hd, mm_at_ok a1, mm_at_ok a2, mm_at_ok a3, mm_at_ok a4, hp, mm_pool_ok p1, mm_pool_ok p2, Nat.le_of_ble_eq_true q2, Nat.le_of_ble_eq_true q3⟩
      · cases h
    · cases h
  · cases h
/-- what a step may be -/
theorem mm_act_inv {w d j pc : Nat} {i : Instr} {L : ML} {S : List Value} {M : MH} {a : MA} (hat : mm_at j pc = some i) (h : mm_act w d j i pc L S M = some a) :
    (∃ n, a = .inl n ∧ (mm_step w d j i pc L S M = some n ∨ (∃ k ci N, i = .new k ∧ mm_nok (mm_own j) k ci N ∧ mm_new (pc + 3) (ci, mm_def ci) N L S M = some n) ∨ (∃ k, i = .invokespecial k ∧ mm_oiok (mm_own j) k ∧ mm_nat w d 6 pc L S M = some n) ∨ (∃ k x, i = .invokestatic k ∧ x < 6 ∧ mm_natok (mm_own j) k x ∧ mm_nat w d x pc L S M = some n))) ∨
    (∃ v, a = .inr (.inl v) ∧ mm_retI j pc v ∧ S = v.toList) ∨ (∃ j' as r, a = .inr (.inr (.inl (j', as, r))) ∧ mm_callI j pc S M j' as r) ∨ (∃ x, a = .inr (.inr (.inr x)) ∧ mm_thrI d j pc x S) := by
  have hd := mm_at_ok hat
  unfold mm_act at h
  split at h
  · split at h
    · rename_i hp
      obtain ⟨n, h1, rfl⟩ := mm_inl_inv h
      exact Or.inl ⟨n, rfl, Or.inr (Or.inl ⟨_, _, _, rfl, mm_pool_ok hp, h1⟩)⟩
    · rename_i hp
      obtain ⟨h1, h2⟩ := mm_thr_inv hd (mm_pool_ok hp) h
      exact Or.inr (Or.inr (Or.inr ⟨_, h1, h2⟩))
    · cases h
  · split at h
    · rename_i hp
      obtain ⟨b, As, r, h1, h2, h3, h4, h5, h6⟩ := mm_callV_inv h
      exact Or.inr (Or.inr (Or.inl ⟨_, _, _, h1, h5, h6, Or.inl ⟨b, As, rfl, h2, h3, _, Or.inl ⟨hd, Or.inl (by rw [h4]; exact mm_pool_ok hp)⟩⟩⟩))
    · rename_i hp
      obtain ⟨b, As, r, h1, h2, h3, h4, h5, h6⟩ := mm_callV_inv h
      exact Or.inr (Or.inr (Or.inl ⟨_, _, _, h1, h5, h6, Or.inl ⟨b, As, rfl, h2, h3, _, Or.inl ⟨hd, Or.inr (by rw [h4]; exact mm_pool_ok hp)⟩⟩⟩))
    · cases h
  · split at h
    · rename_i hp
      obtain ⟨b, As, r, h1, h2, h3, h4, h5, h6⟩ := mm_callV_inv h
      exact Or.inr (Or.inr (Or.inl ⟨_, _, _, h1, h5, h6, Or.inl ⟨b, As, rfl, h2, h3, _, Or.inr ⟨hd, Or.inl (by rw [h4]; exact mm_pool_ok hp)⟩⟩⟩))
    · rename_i hp
      obtain ⟨b, As, r, h1, h2, h3, h4, h5, h6⟩ := mm_callV_inv h
      exact Or.inr (Or.inr (Or.inl ⟨_, _, _, h1, h5, h6, Or.inl ⟨b, As, rfl, h2, h3, _, Or.inr ⟨hd, Or.inr (by rw [h4]; exact mm_pool_ok hp)⟩⟩⟩))
    · rename_i hp
      obtain ⟨n, h1, rfl⟩ := mm_inl_inv h
      exact Or.inl ⟨n, rfl, Or.inr (Or.inr (Or.inl ⟨_, rfl, mm_pool_ok hp, h1⟩))⟩
    · cases h
  · split at h
    · rename_i hp
      obtain ⟨as, r, h1, h2, h4, h5, h6⟩ := mm_callS_inv h
      exact Or.inr (Or.inr (Or.inl ⟨_, _, _, h1, h5, h6, Or.inr ⟨h2, _, hd, by rw [h4]; exact mm_pool_ok hp⟩⟩))
    · rename_i hp
      split at h
      · rename_i hw
        obtain ⟨n, h1, rfl⟩ := mm_inl_inv h
        exact Or.inl ⟨n, rfl, Or.inr (Or.inr (Or.inr ⟨_, _, rfl, Nat.le_of_ble_eq_true hw, mm_pool_ok hp, h1⟩))⟩
      · cases h
    · cases h
  · exact Or.inr (Or.inl (mm_ret1_inv hd h))
  · exact Or.inr (Or.inl (mm_retl_inv hd h))
  · exact Or.inr (Or.inl (mm_reta_inv hd h))
  · exact Or.inr (Or.inl (mm_retv_inv hd h))
  · obtain ⟨n, h1, rfl⟩ := mm_inl_inv h
    exact Or.inl ⟨n, rfl, Or.inl h1⟩
