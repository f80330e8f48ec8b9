/-! cut by halves: who comes first. -/
def svu (u v : Nat) : Int → Int := fun q => if ub u q.toNat = true ∧ ub v q.toNat ≠ true then 0 else 1
def vs (u : Nat) (m : Int → Int × Int) : Nat → Nat
  | 0 => 0
  | t + 1 => ua (vs u m t) (bs (svu u (vs u m t)) m 6).toNat
theorem vs_s {u : Nat} {m : Int → Int × Int} {t : Nat} : vs u m (t + 1) = ua (vs u m t) (bs (svu u (vs u m t)) m 6).toNat := rfl
theorem cb_mono {u v : Nat} : ∀ {n : Nat}, (∀ q, q < n → ub u q = true → ub v q = true) → cb u n ≤ cb v n
  | 0, _ => Nat.le_refl _
  | n + 1, h => by
    have i := cb_mono (u := u) (v := v) (n := n) fun q hq => h q (by omega)
    have hn := h n (by omega)
    rw [cb_s, cb_s]
    by_cases c : ub u n = true
    · rw [if_pos c, if_pos (hn c)]
      omega
    · rw [if_neg c]
      omega
theorem cb_0 : ∀ {n : Nat}, n ≤ 6 → cb 0 n = 0
  | 0, _ => rfl
  | n + 1, h => by
    rw [cb_s, cb_0 (n := n) (by omega), ub_0 (by omega)]
    rfl
section SE
variable {u : Nat} {m : Int → Int × Int}
theorem svu_0 {v q : Nat} : svu u v q = 0 ↔ (ub u q = true ∧ ub v q ≠ true) := by
  unfold svu
  rw [show ((q : Nat) : Int).toNat = q by omega]
  by_cases c : ub u q = true ∧ ub v q ≠ true
  · rw [if_pos c]
    exact ⟨fun _ => c, fun _ => rfl⟩
  · rw [if_neg c]
    exact ⟨fun k => by omega, fun k => absurd k c⟩
theorem svu_01 {v : Nat} {q : Int} : svu u v q = 0 ∨ svu u v q = 1 := by
  unfold svu
  split
  · exact .inl rfl
  · exact .inr rfl
theorem sel_1 {v : Nat} (hm : ∀ q : Nat, q < 6 → ub u q = true → 0 < (m q).2) (hc : cb v 6 < cb u 6) : ∃ r : Nat, r < 6 ∧ bs (svu u v) m 6 = r ∧ ub u r = true ∧ ub v r ≠ true ∧ ∀ q : Nat, q < 6 → ub u q = true → ub v q ≠ true → q ≠ r → lt m r q := by
  have hm' : ∀ p : Int, 0 ≤ p → p < ((6 : Nat) : Int) → svu u v p = 0 → 0 < (m p).2 := fun p h1 h2 h3 => by
    have e : ((p.toNat : Nat) : Int) = p := by omega
    rw [← e] at h3 ⊢
    exact hm p.toNat (by omega) (svu_0.mp h3).1
  rcases bs_bd (sv := svu u v) (m := m) (N := 6) hm' (n := 6) (Nat.le_refl _) with ⟨b1, b2⟩ | ⟨b1, b2, b3, b4⟩
  · have := cb_mono (u := u) (v := v) (n := 6) fun q hq h => by
      by_cases c : ub v q = true
      · exact c
      · exact absurd (svu_0.mpr ⟨h, c⟩) (b2 q (by omega) (by omega))
    omega
  · have lo := bs_lo (sv := svu u v) (m := m) (N := 6) hm' (n := 6) (Nat.le_refl _)
    generalize bs (svu u v) m 6 = j at b1 b2 b3 b4 lo
    have e : ((j.toNat : Nat) : Int) = j := by omega
    rw [← e] at b3
    obtain ⟨c1, c2⟩ := svu_0.mp b3
    refine ⟨j.toNat, by omega, e.symm, c1, c2, fun q q1 q2 q3 q4 => ?_⟩
    have q5 : svu u v q = 0 := svu_0.mpr ⟨q2, q3⟩
    have l1 := b4 q (by omega) (by omega) q5
    unfold lt
    rw [e]
    by_cases c : (q : Int) < j
    · exact .inl (lo q (by omega) (by omega) q5 c)
    · omega
theorem sel_v (hm : ∀ q : Nat, q < 6 → ub u q = true → 0 < (m q).2) : ∀ {t : Nat}, t ≤ cb u 6 → vs u m t < 64 ∧ (∀ q : Nat, q < 6 → ub (vs u m t) q = true → ub u q = true) ∧ cb (vs u m t) 6 = t
  | 0, _ => by
    refine ⟨by show 0 < 64; omega, fun q hq h => ?_, cb_0 (by omega)⟩
    have : ub (vs u m 0) q = false := ub_0 hq
    rw [this] at h
    exact Bool.noConfusion h
  | t + 1, h => by
    obtain ⟨i1, i2, i3⟩ := sel_v hm (t := t) (by omega)
    obtain ⟨r, r1, r2, r3, r4, -⟩ := sel_1 (v := vs u m t) hm (by omega)
    have e : vs u m (t + 1) = ua (vs u m t) r := by
      rw [vs_s, r2]
      rfl
    rw [e]
    have hb : ∀ q, q < 6 → (ub (ua (vs u m t) r) q = true ↔ (ub (vs u m t) q = true ∨ q = r)) := fun q hq => by
      rw [ua_b i1 r1 hq]
      simp
    refine ⟨ua_lt i1 r1, fun q hq k => ?_, ?_⟩
    · rcases (hb q hq).mp k with k | k
      · exact i2 q hq k
      · rw [k]
        exact r3
    · rw [cb_ins r4 hb, i3, if_pos r1]
theorem sel_t (hm : ∀ q : Nat, q < 6 → ub u q = true → 0 < (m q).2) {t : Nat} (ht : t < cb u 6) : ∃ r : Nat, r < 6 ∧ bs (svu u (vs u m t)) m 6 = r ∧ ub u r = true ∧ ub (vs u m t) r ≠ true ∧ (∀ q : Nat, q < 6 → ub u q = true → ub (vs u m t) q ≠ true → q ≠ r → lt m r q) ∧ vs u m (t + 1) = ua (vs u m t) r ∧ ∀ q, q < 6 → (ub (vs u m (t + 1)) q = true ↔ (ub (vs u m t) q = true ∨ q = r)) := by
  obtain ⟨i1, i2, i3⟩ := sel_v hm (t := t) (by omega)
  obtain ⟨r, r1, r2, r3, r4, r5⟩ := sel_1 (v := vs u m t) hm (by omega)
  have e : vs u m (t + 1) = ua (vs u m t) r := by
    rw [vs_s, r2]
    rfl
  refine ⟨r, r1, r2, r3, r4, r5, e, fun q hq => ?_⟩
  rw [e, ua_b i1 r1 hq]
  simp
/-- a sorted order lists them so -/
theorem sel_o (hm : ∀ q : Nat, q < 6 → ub u q = true → 0 < (m q).2) {fr to : Nat} {o : Nat → Nat} (hn : to - fr = cb u 6) (ho : ∀ i, fr ≤ i → i < to → o i < 6) (hs : ∀ a b, fr ≤ a → a < b → b < to → lt m (o a) (o b)) (hu : ∀ q, q < 6 → (ub u q = true ↔ ∃ i, fr ≤ i ∧ i < to ∧ o i = q)) : ∀ {t : Nat}, t ≤ cb u 6 → (∀ q, q < 6 → (ub (vs u m t) q = true ↔ ∃ i, fr ≤ i ∧ i < fr + t ∧ o i = q)) ∧ (t < cb u 6 → bs (svu u (vs u m t)) m 6 = o (fr + t))
  | t, h => by
    have inj : ∀ i j, fr ≤ i → i < to → fr ≤ j → j < to → o i = o j → i = j := fun i j h1 h2 h3 h4 e => by
      rcases Nat.lt_trichotomy i j with k | k | k
      · have := hs i j h1 k h4
        rw [e] at this
        exact absurd this lt_irr
      · exact k
      · have := hs j i h3 k h2
        rw [e] at this
        exact absurd this lt_irr
    have key : (∀ q, q < 6 → (ub (vs u m t) q = true ↔ ∃ i, fr ≤ i ∧ i < fr + t ∧ o i = q)) → t < cb u 6 → bs (svu u (vs u m t)) m 6 = o (fr + t) := fun hv ht => by
      obtain ⟨r, r1, r2, r3, r4, r5, -⟩ := sel_t hm ht
      rw [r2]
      have o6 := ho (fr + t) (by omega) (by omega)
      have ou : ub u (o (fr + t)) = true := (hu _ o6).mpr ⟨fr + t, by omega, by omega, rfl⟩
      have ov : ub (vs u m t) (o (fr + t)) ≠ true := fun k => by
        obtain ⟨i, i1, i2, i3⟩ := (hv _ o6).mp k
        have := inj i (fr + t) i1 (by omega) (by omega) (by omega) i3
        omega
      by_cases e : o (fr + t) = r
      · rw [e]
      · have l1 := r5 _ o6 ou ov e
        obtain ⟨j, j1, j2, j3⟩ := (hu r r1).mp r3
        have jt : fr + t < j := by
          rcases Nat.lt_trichotomy j (fr + t) with k | k | k
          · exact absurd ((hv r r1).mpr ⟨j, j1, k, j3⟩) r4
          · rw [k] at j3
            exact absurd j3 e
          · exact k
        have l2 := hs (fr + t) j (by omega) jt j2
        rw [j3] at l2
        exact absurd l1 (lt_as l2)
    match t, h with
    | 0, h =>
      have hv : ∀ q, q < 6 → (ub (vs u m 0) q = true ↔ ∃ i, fr ≤ i ∧ i < fr + 0 ∧ o i = q) := fun q hq => by
        have : ub (vs u m 0) q = false := ub_0 hq
        rw [this]
        exact ⟨fun k => Bool.noConfusion k, fun ⟨i, i1, i2, _⟩ => by omega⟩
      exact ⟨hv, key hv⟩
    | t + 1, h =>
      obtain ⟨i1, i2⟩ := sel_o hm hn ho hs hu (t := t) (by omega)
      obtain ⟨r, r1, r2, r3, r4, r5, r6, r7⟩ := sel_t hm (t := t) (u := u) (m := m) (by omega)
      have er : o (fr + t) = r := by
        have := i2 (by omega)
        rw [r2] at this
        omega
      have hv : ∀ q, q < 6 → (ub (vs u m (t + 1)) q = true ↔ ∃ i, fr ≤ i ∧ i < fr + (t + 1) ∧ o i = q) := fun q hq => by
        rw [r7 q hq, i1 q hq]
        constructor
        · rintro (⟨i, j1, j2, j3⟩ | k)
          · exact ⟨i, j1, by omega, j3⟩
          · exact ⟨fr + t, by omega, by omega, by rw [er, k]⟩
        · rintro ⟨i, j1, j2, j3⟩
          by_cases e : i = fr + t
          · exact .inr (by rw [← j3, e, er])
          · exact .inl ⟨i, j1, by omega, j3⟩
      exact ⟨hv, key hv⟩
end SE
