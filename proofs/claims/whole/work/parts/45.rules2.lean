/-! Calls that make nothing. -/
theorem mm_E.to {w d j pc : Nat} {V V' : ML} {S : List Value} {M : MH} {r : MR} (h : mm_E w d j pc V' S M r) (hs : mm_sub V' V) : mm_E w d j pc V S M r := h.sub hs
section RV
variable {w d j pc k : Nat} {V : ML} {S S' : List Value} {X : List Value} {A : MF} {M : MH} {r : MR} {a ci tp : Nat} {u : Int} {ts : List Nat}
theorem mm_E.callV0 {j' n d0 mx : Nat} {V0 : ML} {v : Option Value} {M' : MH} (hat : mm_at j pc = some (.invokevirtual k)) (hp : mm_pool j k = some (tp, j', n, u)) (ht : (Nat.beq tp 2 || Nat.beq tp 6) = true) (hc : mm_cls j' = ci) (hl : mm_ly a = some (ci, ts)) (hS : S.drop n = .ref a :: S') (hmx : mm_maxL j' = mx) (hb : (Nat.ble (mm_words S') 8 && Nat.beq (S.take n).length n && Nat.ble (1 + mm_words (S.take n)) mx) = true) (hV : lv_args 0 (.ref a :: (S.take n).reverse) = V0)
    (hs : mm_E w d0 j' 0 V0 [] (mm_w X A) (.inl v, M', 0, 0)) (hd : d0 ≤ d) (h : mm_E w (d + 1) j (pc + 3) V (v.toList ++ S') M' r) : mm_E w (d + 1) j pc V S (mm_w X A) r := by
  obtain ⟨o, M2, a2, b2⟩ := r
  have q := mm_E.callV hat hp ht hc hl hS hmx hb hV hs hd h
  rw [Nat.zero_add, Nat.zero_add] at q
  exact q
theorem mm_E.callP0 {j' n d0 mx : Nat} {V0 : ML} {v : Option Value} {M' : MH} (hat : mm_at j pc = some (.invokespecial k)) (hp : mm_pool j k = some (tp, j', n, u)) (ht : (Nat.beq tp 4 || Nat.beq tp 5) = true) (hc : mm_cls j' = ci) (hl : mm_ly a = some (ci, ts)) (hS : S.drop n = .ref a :: S') (hmx : mm_maxL j' = mx) (hb : (Nat.ble (mm_words S') 8 && Nat.beq (S.take n).length n && Nat.ble (1 + mm_words (S.take n)) mx) = true) (hV : lv_args 0 (.ref a :: (S.take n).reverse) = V0)
    (hs : mm_E w d0 j' 0 V0 [] (mm_w X A) (.inl v, M', 0, 0)) (hd : d0 ≤ d) (h : mm_E w (d + 1) j (pc + 3) V (v.toList ++ S') M' r) : mm_E w (d + 1) j pc V S (mm_w X A) r := by
  obtain ⟨o, M2, a2, b2⟩ := r
  have q := mm_E.callP hat hp ht hc hl hS hmx hb hV hs hd h
  rw [Nat.zero_add, Nat.zero_add] at q
  exact q
theorem mm_E.callS0 {j' n d0 mx : Nat} {V0 : ML} {v : Option Value} {M' : MH} (hat : mm_at j pc = some (.invokestatic k)) (hp : mm_pool j k = some (3, j', n, u)) (hmx : mm_maxL j' = mx) (hb : (Nat.ble (mm_words (S.drop n)) 8 && Nat.beq (S.take n).length n && Nat.ble (mm_words (S.take n)) mx) = true) (hV : lv_args 0 (S.take n).reverse = V0)
    (hs : mm_E w d0 j' 0 V0 [] M (.inl v, M', 0, 0)) (hd : d0 ≤ d) (h : mm_E w (d + 1) j (pc + 3) V (v.toList ++ S.drop n) M' r) : mm_E w (d + 1) j pc V S M r := by
  obtain ⟨o, M2, a2, b2⟩ := r
  have q := mm_E.callS hat hp hmx hb hV hs hd h
  rw [Nat.zero_add, Nat.zero_add] at q
  exact q
end RV
/-! A copy of ints from one array into another, both from 0 on. -/
def mm_cp (A : MF) (a b : Nat) (n : Int) : MF := fun c k => if c = b ∧ 0 ≤ k ∧ k < n then A a k else A c k
def mm_cpu (A : MF) (b : Nat) : Nat → List Int → MF
  | _, [] => A
  | k, z :: zs => mm_cpu (mm_u A b k z) b (k + 1) zs
theorem mm_cpu_at (b : Nat) : ∀ (zs : List Int) (A : MF) (k c : Nat) (i : Int), mm_cpu A b k zs c i = if c = b ∧ (k : Int) ≤ i ∧ i < k + zs.length then zs[(i - k).toNat]?.getD 0 else A c i
  | [], A, k, c, i => by
    rw [if_neg (by simp only [List.length_nil]; omega)]
    rfl
  | z :: zs, A, k, c, i => by
    show mm_cpu (mm_u A b k z) b (k + 1) zs c i = _
    rw [mm_cpu_at b zs]
    by_cases h : c = b ∧ (((k + 1 : Nat) : Int) ≤ i ∧ i < ((k + 1 : Nat) : Int) + zs.length)
    · rw [if_pos h, if_pos (by simp only [List.length_cons]; omega)]
      have e : (i - k).toNat = (i - ((k + 1 : Nat) : Int)).toNat + 1 := by omega
      rw [e, List.getElem?_cons_succ]
    · rw [if_neg h]
      by_cases g : c = b ∧ i = k
      · obtain ⟨rfl, rfl⟩ := g
        rw [mm_u_same, if_pos ⟨rfl, Int.le_refl _, by simp only [List.length_cons]; omega⟩]
        simp
      · rw [mm_u_ne (by omega), if_neg (by simp only [List.length_cons]; omega)]
theorem mm_w_same {X : List Value} {A : MF} {b kb : Nat} {ts : List Nat} (h : mm_ly b = some (kb, ts)) : (mm_w X A).set b (kb, mm_ss A b 0 ts) = mm_w X A := by
  have e := mm_w_get (X := X) (A := A) h
  obtain ⟨h1, h2⟩ := List.getElem?_eq_some_iff.mp e
  rw [← h2, List.set_getElem_self]
theorem mm_cpu_w {X : List Value} {b kb N : Nat} (h : mm_ly b = some (kb, List.replicate N 0)) : ∀ (zs : List Int) (A : MF) (k : Nat), k + zs.length ≤ N → (mm_w X A).set b (kb, mm_cpys (mm_ss A b 0 (List.replicate N 0)) k (zs.map mI)) = mm_w X (mm_cpu A b k zs)
  | [], A, k, _ => mm_w_same h
  | z :: zs, A, k, hk => by
    simp only [List.length_cons] at hk
    have ht : (List.replicate N 0)[k]? = some 0 := by rw [List.getElem?_replicate, if_pos (by omega)]
    have e := mm_ss_set (A := A) (a := b) (z := z) (n := 0) ht
    rw [Nat.zero_add] at e
    have e2 := mm_w_put (X := X) (A := A) (z := z) h ht
    have e3 : (mm_w X A).set b (kb, mm_ss (mm_u A b k z) b 0 (List.replicate N 0)) = mm_w X (mm_u A b k z) := by
      rw [← e2, ← e]
      unfold mm_put
      rw [mm_w_get h]
    have q := mm_cpu_w (X := X) h zs (mm_u A b k z) (k + 1) (by omega)
    rw [← e3, List.set_set] at q
    show (mm_w X A).set b (kb, mm_cpys ((mm_ss A b 0 (List.replicate N 0)).set k (mI z)) (k + 1) (zs.map mI)) = _
    rw [show (mI z) = mm_sv 0 z from rfl, e]
    exact q
theorem mm_ss_ints {A : MF} {a : Nat} : ∀ (N n : Nat), mm_ss A a n (List.replicate N 0) = ((List.range N).map fun i => A a ((n + i : Nat) : Int)).map mI
  | 0, _ => rfl
  | N + 1, n => by
    rw [List.replicate_succ, List.range_succ_eq_map]
    show mI (A a n) :: mm_ss A a (n + 1) (List.replicate N 0) = _
    rw [mm_ss_ints N (n + 1)]
    simp [Function.comp_def, Nat.add_assoc, Nat.add_comm 1]
theorem mm_E.copy {w d j pc k : Nat} {V : ML} {S X : List Value} {A : MF} {r : MR} {n u : Int} {a b ka kb N v1 : Nat} (hat : mm_at j pc = some (.invokestatic k)) (hp : mm_pool j k = some (7, 5, v1, u)) (hla : mm_ly a = some (ka, List.replicate N 0)) (hlb : mm_ly b = some (kb, List.replicate N 0)) (hka : mm_akd ka = 1) (hkb : mm_akd kb = 1) (h0 : 0 ≤ n) (h1 : n ≤ N) (hN : Nat.ble N 1000 = true) (hb : Nat.ble (mm_words S) 8 = true) (hw : Nat.ble w b = true) (h : mm_E w (d + 1) j (pc + 3) V S (mm_w X (mm_cp A a b n)) r) : mm_E w (d + 1) j pc V (mI n :: mI 0 :: .ref b :: mI 0 :: .ref a :: S) (mm_w X A) r := .step hat (fun L => by
  have hN := Nat.le_of_ble_eq_true hN
  have rn : R32 n := by omega
  have r0 : R32 0 := by decide
  have e1 : ((mm_ss A a 0 (List.replicate N 0)).all mm_isI) = true := by
    rw [mm_ss_ints]
    simp [mm_isI]
  have l1 : Nat.ble (Int.toNat 0 + n.toNat) N = true := Nat.ble_eq_true_of_le (by omega)
  have e2 : mm_cpy (mm_ss A a 0 (List.replicate N 0)) (mm_ss A b 0 (List.replicate N 0)) (Int.toNat 0) (Int.toNat 0) n.toNat = mm_cpys (mm_ss A b 0 (List.replicate N 0)) 0 (((List.range n.toNat).map fun i : Nat => A a (i : Int)).map mI) := by
    unfold mm_cpy
    congr 1
    rw [mm_ss_ints N 0, Int.toNat_zero, List.drop_zero, ← List.map_take, ← List.map_take, List.take_range, show min n.toNat N = n.toNat by omega]
    simp
  have e3 : mm_cpu A b 0 ((List.range n.toNat).map fun i : Nat => A a (i : Int)) = mm_cp A a b n := by
    funext c i
    rw [mm_cpu_at]
    unfold mm_cp
    simp only [List.length_map, List.length_range]
    by_cases g : c = b ∧ 0 ≤ i ∧ i < n
    · rw [if_pos g, if_pos (by omega), show ((i : Int) - ((0 : Nat) : Int)).toNat = i.toNat by omega]
      have hi : i.toNat < n.toNat := by omega
      simp [hi, Int.toNat_of_nonneg g.2.1]
    · rw [if_neg g, if_neg (by omega)]
  have e4 := mm_cpu_w (X := X) hlb ((List.range n.toNat).map fun i : Nat => A a (i : Int)) A 0 (by simp only [List.length_map, List.length_range]; omega)
  rw [e3, ← e2] at e4
  simp only [mm_act, hp, mm_inl, mm_nat, show Nat.blt 5 6 = true from rfl, mm_w_get hla, mm_w_get hlb, hb, hka, hkb, Nat.beq_refl, mm_neg32 rn h0, mm_neg32 r0 (Int.le_refl 0), mm_nat32 rn, mm_nat32 r0, mm_ss_len, List.length_replicate, l1, hw, e1, Bool.not_false, Bool.and_self, mm_go, e4]) h
