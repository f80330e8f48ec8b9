/-! cut by halves: sorting by marks. -/
section SO
variable {X : List Value} {d : Nat} {A : MF} {m : Int → Int × Int} {fr to : Nat}
/-- the marks of those in the order are known -/
def OM (m : Int → Int × Int) (fr to : Nat) (o : Nat → Nat) (A : MF) : Prop := (∀ i : Nat, fr ≤ i → i < to → A 55 i = o i ∧ o i < 6 ∧ A (61 + 3 * o i) 0 = (m (o i)).1 ∧ A (61 + 3 * o i) 1 = (m (o i)).2 ∧ 0 < (m (o i)).2 ∧ (m (o i)).2 ≤ 2000000 ∧ 0 ≤ (m (o i)).1 ∧ (m (o i)).1 ≤ 16 * (m (o i)).2) ∧ ∀ i j, fr ≤ i → i < j → j < to → o i ≠ o j
def sws (o : Nat → Nat) (j : Nat) : Nat → Nat := fun i => if i = j then o (j - 1) else if i = j - 1 then o j else o i
theorem sws_j {o : Nat → Nat} {j : Nat} : sws o j j = o (j - 1) := if_pos rfl
theorem sws_p {o : Nat → Nat} {j : Nat} (h : 1 ≤ j) : sws o j (j - 1) = o j := by
  unfold sws
  rw [if_neg (by omega), if_pos rfl]
theorem sws_ne {o : Nat → Nat} {j i : Nat} (h1 : i ≠ j) (h2 : i ≠ j - 1) : sws o j i = o i := by
  unfold sws
  rw [if_neg h1, if_neg h2]
theorem OM.in {o : Nat → Nat} (h : OM m fr to o A) {i j : Nat} (h1 : fr ≤ i) (h2 : i < to) (h3 : fr ≤ j) (h4 : j < to) (h5 : i ≠ j) : o i ≠ o j := by
  rcases Nat.lt_or_gt_of_ne h5 with k | k
  · exact h.2 i j h1 k h4
  · exact fun e => h.2 j i h3 k h2 e.symm
theorem OM.sw {o : Nat → Nat} (h : OM m fr to o A) {j : Nat} (h1 : fr < j) (h2 : j < to) : OM m fr to (sws o j) (mm_u (mm_u A 55 j (A 55 ((j : Int) - 1))) 55 ((j : Int) - 1) (A 55 j)) := by
  obtain ⟨a, b⟩ := h
  have ej : ((j - 1 : Nat) : Int) = (j : Int) - 1 := by omega
  have aj := a j (by omega) h2
  have ap := a (j - 1) (by omega) (by omega)
  rw [ej] at ap
  have fr' : ∀ c k, c ≠ 55 → mm_u (mm_u A 55 j (A 55 ((j : Int) - 1))) 55 ((j : Int) - 1) (A 55 j) c k = A c k := fun c k hc => mm_u2_ne (by omega) (by omega)
  refine ⟨fun i i1 i2 => ?_, fun i l i1 i2 i3 => ?_⟩
  · by_cases e1 : i = j
    · rw [e1, sws_j, fr' (61 + 3 * o (j - 1)) 0 (by omega), fr' (61 + 3 * o (j - 1)) 1 (by omega), mm_u_ne (by omega), mm_u_same, ap.1]
      exact ⟨rfl, ap.2⟩
    · by_cases e2 : i = j - 1
      · rw [e2, sws_p (by omega), fr' (61 + 3 * o j) 0 (by omega), fr' (61 + 3 * o j) 1 (by omega), ej, mm_u_same, aj.1]
        exact ⟨rfl, aj.2⟩
      · rw [sws_ne e1 e2, fr' (61 + 3 * o i) 0 (by omega), fr' (61 + 3 * o i) 1 (by omega), mm_u2_ne (by omega) (by omega)]
        exact a i i1 i2
  · have hin := fun (x y : Nat) (h1 : fr ≤ x) (h2 : x < to) (h3 : fr ≤ y) (h4 : y < to) (h5 : x ≠ y) => OM.in (A := A) ⟨a, b⟩ h1 h2 h3 h4 h5
    unfold sws
    split
    · split
      · omega
      · split
        · exact hin _ _ (by omega) (by omega) (by omega) (by omega) (by omega)
        · exact hin _ _ (by omega) (by omega) (by omega) (by omega) (by omega)
    · split
      · split
        · exact hin _ _ (by omega) (by omega) (by omega) (by omega) (by omega)
        · split
          · omega
          · exact hin _ _ (by omega) (by omega) (by omega) (by omega) (by omega)
      · split
        · exact hin _ _ (by omega) (by omega) (by omega) (by omega) (by omega)
        · split
          · exact hin _ _ (by omega) (by omega) (by omega) (by omega) (by omega)
          · exact hin _ _ (by omega) (by omega) (by omega) (by omega) (by omega)
theorem sws_mem {o : Nat → Nat} {j q : Nat} (h1 : fr < j) (h2 : j < to) : (∃ i, fr ≤ i ∧ i < to ∧ sws o j i = q) ↔ ∃ i, fr ≤ i ∧ i < to ∧ o i = q := by
  constructor
  · rintro ⟨i, i1, i2, i3⟩
    by_cases e1 : i = j
    · rw [e1, sws_j] at i3
      exact ⟨j - 1, by omega, by omega, i3⟩
    · by_cases e2 : i = j - 1
      · rw [e2, sws_p (by omega)] at i3
        exact ⟨j, by omega, h2, i3⟩
      · rw [sws_ne e1 e2] at i3
        exact ⟨i, i1, i2, i3⟩
  · rintro ⟨i, i1, i2, i3⟩
    by_cases e1 : i = j
    · exact ⟨j - 1, by omega, by omega, by rw [sws_p (by omega), ← e1, i3]⟩
    · by_cases e2 : i = j - 1
      · exact ⟨j, by omega, h2, by rw [sws_j, ← e2, i3]⟩
      · exact ⟨i, i1, i2, by rw [sws_ne e1 e2, i3]⟩
theorem c42 {w : Nat} {p q : Nat} (hp : p < 6) (hq : q < 6) (p1 : A (61 + 3 * p) 0 = (m p).1) (p2 : A (61 + 3 * p) 1 = (m p).2) (p3 : 0 < (m p).2) (p4 : (m p).2 ≤ 2000000) (p5 : 0 ≤ (m p).1) (p6 : (m p).1 ≤ 16 * (m p).2) (q1 : A (61 + 3 * q) 0 = (m q).1) (q2 : A (61 + 3 * q) 1 = (m q).2) (q3 : 0 < (m q).2) (q4 : (m q).2 ≤ 2000000) (q5 : 0 ≤ (m q).1) (q6 : (m q).1 ≤ 16 * (m q).2) : (lt m p q → mm_E w (d + 1) 42 0 [(0, .ref 43), (1, mI p), (2, mI q)] [] (mm_w X A) (.inl (some (mI 1)), mm_w X A, 0, 0)) ∧ (¬ lt m p q → mm_E w (d + 1) 42 0 [(0, .ref 43), (1, mI p), (2, mI q)] [] (mm_w X A) (.inl (some (mI 0)), mm_w X A, 0, 0)) := by
  have r1 : (m p).1 * (m q).2 ≤ 32000000 * 2000000 := Int.mul_le_mul (by omega) (by omega) (by omega) (by omega)
  have r2 : (m q).1 * (m p).2 ≤ 32000000 * 2000000 := Int.mul_le_mul (by omega) (by omega) (by omega) (by omega)
  have r3 : 0 ≤ (m p).1 * (m q).2 := Int.mul_nonneg p5 (by omega)
  have r4 : 0 ≤ (m q).1 * (m p).2 := Int.mul_nonneg q5 (by omega)
  have tp : 61 + 3 * (p : Int).toNat = 61 + 3 * p := by omega
  have tq : 61 + 3 * (q : Int).toNat = 61 + 3 * q := by omega
  unfold lt
  refine ⟨fun h => ?_, fun h => ?_⟩
  · by_cases c : (m p).1 * (m q).2 < (m q).1 * (m p).2
    · refine p42_0_3 ?_
      rw [tp, tq, p1, p2, q1, q2]
      omega
    · refine p42_0_1 ?_
      rw [tp, tq, p1, p2, q1, q2]
      omega
  · by_cases c : q ≤ p
    · refine p42_0_0 ?_
      rw [tp, tq, p1, p2, q1, q2]
      omega
    · refine p42_0_2 ?_
      rw [tp, tq, p1, p2, q1, q2]
      omega
theorem c41_i {i : Nat} (hto : to ≤ 6) (hi : i < to) : ∀ (n j : Nat) (o : Nat → Nat) (A : MF), fr + n = j → j ≤ i → OM m fr to o A → (∀ a b, fr ≤ a → a < b → b ≤ i → a ≠ j → b ≠ j → lt m (o a) (o b)) → (∀ b, j < b → b ≤ i → lt m (o j) (o b)) → ∃ (A' : MF) (o' : Nat → Nat), (∀ r, mm_E 1 (d + 2) 41 4 [(0, .ref 43), (1, mI fr), (2, mI to), (3, mI ((i : Int) + 1))] [] (mm_w X A') r → mm_E 1 (d + 2) 41 12 [(0, .ref 43), (1, mI fr), (2, mI to), (3, mI i), (4, mI j)] [] (mm_w X A) r) ∧ OM m fr to o' A' ∧ (∀ a b, fr ≤ a → a < b → b ≤ i → lt m (o' a) (o' b)) ∧ (∀ q, (∃ i, fr ≤ i ∧ i < to ∧ o' i = q) ↔ ∃ i, fr ≤ i ∧ i < to ∧ o i = q) ∧ ∀ (c : Nat) (k : Int), (c ≠ 55 ∨ k < fr ∨ to ≤ k) → A' c k = A c k
  | 0, j, o, A, hj, hji, hO, h1, h2 => by
    refine ⟨A, o, fun r k => p41_12_0 (by omega) k, hO, fun a b ha hab hb => ?_, fun q => Iff.rfl, fun _ _ _ => rfl⟩
    by_cases e : a = j
    · rw [e]
      exact h2 b (by omega) hb
    · exact h1 a b ha hab hb e (by omega)
  | n + 1, j, o, A, hj, hji, hO, h1, h2 => by
    obtain ⟨b1, b2, b3, b4, b5, b6, b7, b8⟩ := hO.1 j (by omega) (by omega)
    obtain ⟨c1, c2, c3, c4, c5, c6, c7, c8⟩ := hO.1 (j - 1) (by omega) (by omega)
    rw [show ((j - 1 : Nat) : Int) = (j : Int) - 1 by omega] at c1
    obtain ⟨s1, s2⟩ := c42 (X := X) (d := d) (A := A) (w := 1) (m := m) b2 c2 b3 b4 b5 b6 b7 b8 c3 c4 c5 c6 c7 c8
    rw [← b1, ← c1] at s1 s2
    by_cases c : lt m (o j) (o (j - 1))
    · obtain ⟨A', o', t1, t2, t3, t4, t5⟩ := c41_i hto hi n (j - 1) (sws o j) (mm_u (mm_u A 55 j (A 55 ((j : Int) - 1))) 55 ((j : Int) - 1) (A 55 j)) (by omega) (by omega) (hO.sw (by omega) (by omega)) (fun a b ha hab hb ha' hb' => by
        by_cases e1 : b = j
        · rw [e1, sws_j, sws_ne (by omega) (by omega)]
          exact h1 a (j - 1) ha (by omega) (by omega) (by omega) (by omega)
        · by_cases e2 : a = j
          · rw [e2, sws_j, sws_ne (by omega) (by omega)]
            exact h1 (j - 1) b (by omega) (by omega) hb (by omega) (by omega)
          · rw [sws_ne e2 ha', sws_ne e1 hb']
            exact h1 a b ha hab hb e2 e1) (fun b hb hb' => by
        rw [sws_p (by omega)]
        by_cases e1 : b = j
        · rw [e1, sws_j]
          exact c
        · rw [sws_ne e1 (by omega)]
          exact h2 b (by omega) hb')
      refine ⟨A', o', fun r k => ?_, t2, t3, fun q => (t4 q).trans (sws_mem (by omega) (by omega)), fun c k hc => by rw [t5 c k hc, mm_u2_ne (by omega) (by omega)]⟩
      have t6 := t1 r k
      rw [show ((j - 1 : Nat) : Int) = (j : Int) + -1 by omega] at t6
      exact p41_12_2 (s1 c) (by omega) t6
    · have c' : lt m (o (j - 1)) (o j) := (lt_tot (hO.in (by omega) (by omega) (by omega) (by omega) (by omega))).elim (fun k => absurd k c) id
      refine ⟨A, o, fun r k => p41_12_1 (s2 c) (by omega) k, hO, fun a b ha hab hb => ?_, fun q => Iff.rfl, fun _ _ _ => rfl⟩
      by_cases e1 : b = j
      · rw [e1]
        by_cases e2 : a = j - 1
        · rw [e2]
          exact c'
        · obtain ⟨d1, d2, d3, d4, d5, -⟩ := hO.1 a ha (by omega)
          exact lt_tr d5 c5 b5 (h1 a (j - 1) ha (by omega) (by omega) (by omega) (by omega)) c'
      · by_cases e2 : a = j
        · rw [e2]
          exact h2 b (by omega) hb
        · exact h1 a b ha hab hb e2 e1
theorem c41_l (hto : to ≤ 6) : ∀ (n i : Nat) (o : Nat → Nat) (A : MF), i + n = to → fr < i → OM m fr to o A → (∀ a b, fr ≤ a → a < b → b < i → lt m (o a) (o b)) → ∃ (A' : MF) (o' : Nat → Nat), mm_E 1 (d + 2) 41 4 [(0, .ref 43), (1, mI fr), (2, mI to), (3, mI i)] [] (mm_w X A) (.inl none, mm_w X A', 0, 0) ∧ OM m fr to o' A' ∧ (∀ a b, fr ≤ a → a < b → b < to → lt m (o' a) (o' b)) ∧ (∀ q, (∃ i, fr ≤ i ∧ i < to ∧ o' i = q) ↔ ∃ i, fr ≤ i ∧ i < to ∧ o i = q) ∧ ∀ (c : Nat) (k : Int), (c ≠ 55 ∨ k < fr ∨ to ≤ k) → A' c k = A c k
  | 0, i, o, A, h, hf, hO, hs => by
    rw [show i = to by omega] at hs ⊢
    exact ⟨A, o, p41_4_0 (by omega), hO, hs, fun q => Iff.rfl, fun _ _ _ => rfl⟩
  | n + 1, i, o, A, h, hf, hO, hs => by
    obtain ⟨A1, o1, t1, t2, t3, t4, t5⟩ := c41_i (X := X) (d := d) (i := i) hto (by omega) (i - fr) i o A (by omega) (Nat.le_refl _) hO (fun a b ha hab hb ha' hb' => hs a b ha hab (by omega)) (fun b h1 h2 => by omega)
    obtain ⟨A2, o2, u1, u2, u3, u4, u5⟩ := c41_l hto n (i + 1) o1 A1 (by omega) (by omega) t2 (fun a b ha hab hb => t3 a b ha hab (by omega))
    rw [show ((i + 1 : Nat) : Int) = (i : Int) + 1 by omega] at u1
    exact ⟨A2, o2, p41_4_1 (by omega) (t1 _ u1), u2, u3, fun q => (u4 q).trans (t4 q), fun c k hc => by rw [u5 c k hc, t5 c k hc]⟩
theorem c41 {o : Nat → Nat} (hto : to ≤ 6) (hf : fr < to) (hO : OM m fr to o A) : ∃ (A' : MF) (o' : Nat → Nat), mm_E 1 (d + 2) 41 0 [(0, .ref 43), (1, mI fr), (2, mI to)] [] (mm_w X A) (.inl none, mm_w X A', 0, 0) ∧ OM m fr to o' A' ∧ (∀ a b, fr ≤ a → a < b → b < to → lt m (o' a) (o' b)) ∧ (∀ q, (∃ i, fr ≤ i ∧ i < to ∧ o' i = q) ↔ ∃ i, fr ≤ i ∧ i < to ∧ o i = q) ∧ ∀ (c : Nat) (k : Int), (c ≠ 55 ∨ k < fr ∨ to ≤ k) → A' c k = A c k := by
  obtain ⟨A', o', t1, t2⟩ := c41_l (X := X) (d := d) hto (to - (fr + 1)) (fr + 1) o A (by omega) (by omega) hO (fun a b h1 h2 h3 => by omega)
  rw [show ((fr + 1 : Nat) : Int) = (fr : Int) + 1 by omega] at t1
  exact ⟨A', o', p41_0_0 t1, t2⟩
end SO
