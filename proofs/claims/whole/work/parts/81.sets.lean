/-! cut by halves: the order by marks. -/
/-- how many of the first n are in u -/
def cb (u : Nat) : Nat → Nat
  | 0 => 0
  | n + 1 => cb u n + if ub u n = true then 1 else 0
theorem cb_s {u n : Nat} : cb u (n + 1) = cb u n + if ub u n = true then 1 else 0 := rfl
theorem cb_bd {u : Nat} : ∀ {n : Nat}, cb u n ≤ n
  | 0 => Nat.le_refl _
  | n + 1 => by
    have := cb_bd (u := u) (n := n)
    rw [cb_s]
    split <;> omega
theorem cb_eq {u v : Nat} : ∀ {n : Nat}, (∀ q, q < n → (ub u q = true ↔ ub v q = true)) → cb u n = cb v n
  | 0, _ => rfl
  | n + 1, h => by
    rw [cb_s, cb_s, cb_eq (n := n) fun q hq => h q (by omega)]
    by_cases c : ub u n = true
    · rw [if_pos c, if_pos ((h n (by omega)).mp c)]
    · rw [if_neg c, if_neg fun k => c ((h n (by omega)).mpr k)]
theorem cb_ins {u v r : Nat} : ∀ {n : Nat}, ub u r ≠ true → (∀ q, q < n → (ub v q = true ↔ (ub u q = true ∨ q = r))) → cb v n = cb u n + if r < n then 1 else 0
  | 0, _, _ => by
    rw [if_neg (by omega)]
    rfl
  | n + 1, hr, h => by
    have i := cb_ins (u := u) (v := v) (r := r) (n := n) hr fun q hq => h q (by omega)
    have hn := h n (by omega)
    rw [cb_s, cb_s, i]
    by_cases e : n = r
    · rw [if_pos (hn.mpr (.inr e)), if_neg (c := ub u n = true) (by rw [e]; exact hr), if_neg (by omega), if_pos (by omega)]
    · by_cases c : ub u n = true
      · rw [if_pos (hn.mpr (.inl c)), if_pos c]
        by_cases k : r < n
        · rw [if_pos k, if_pos (by omega)]
        · rw [if_neg k, if_neg (by omega)]
      · rw [if_neg fun k => (hn.mp k).elim c e, if_neg c]
        by_cases k : r < n
        · rw [if_pos k, if_pos (by omega)]
        · rw [if_neg k, if_neg (by omega)]
theorem cb_sub {u v w : Nat} : ∀ {n : Nat}, (∀ q, q < n → (ub v q = true → ub u q = true)) → (∀ q, q < n → (ub w q = true ↔ (ub u q = true ∧ ub v q ≠ true))) → cb w n + cb v n = cb u n
  | 0, _, _ => rfl
  | n + 1, h, k => by
    have i := cb_sub (u := u) (v := v) (w := w) (n := n) (fun q hq => h q (by omega)) fun q hq => k q (by omega)
    have kn := k n (by omega)
    have hn := h n (by omega)
    rw [cb_s, cb_s, cb_s]
    by_cases c : ub v n = true
    · rw [if_neg (c := ub w n = true) fun q => (kn.mp q).2 c, if_pos c, if_pos (hn c)]
      omega
    · by_cases c2 : ub u n = true
      · rw [if_pos (kn.mpr ⟨c2, c⟩), if_neg c, if_pos c2]
        omega
      · rw [if_neg fun q => c2 (kn.mp q).1, if_neg c, if_neg c2]
        omega
/-- marked before -/
def lt (m : Int → Int × Int) (p q : Nat) : Prop := (m p).1 * (m q).2 < (m q).1 * (m p).2 ∨ ((m p).1 * (m q).2 = (m q).1 * (m p).2 ∧ p < q)
section LO
variable {m : Int → Int × Int} {p q r : Nat}
theorem lt_irr : ¬ lt m p p := fun h => by
  rcases h with h | h <;> omega
theorem lt_tot (h : p ≠ q) : lt m p q ∨ lt m q p := by
  unfold lt
  omega
theorem lt_as (h : lt m p q) : ¬ lt m q p := fun k => by
  unfold lt at h k
  omega
theorem fr_lt {a b c e f g : Int} (hb : 0 < b) (he : 0 < e) (hg : 0 < g) (h1 : a * e < c * b) (h2 : c * g ≤ f * e) : a * g < f * b := by
  have l1 : a * e * g < c * b * g := Int.mul_lt_mul_of_pos_right h1 hg
  have l2 : c * g * b ≤ f * e * b := Int.mul_le_mul_of_nonneg_right h2 (by omega)
  have : a * g * e < f * b * e := by
    rw [show a * g * e = a * e * g by ac_rfl, show f * b * e = f * e * b by ac_rfl]
    rw [show c * b * g = c * g * b by ac_rfl] at l1
    omega
  exact Int.lt_of_mul_lt_mul_right this (by omega)
theorem fr_lt2 {a b c e f g : Int} (hb : 0 < b) (he : 0 < e) (hg : 0 < g) (h1 : a * e ≤ c * b) (h2 : c * g < f * e) : a * g < f * b := by
  have l1 : a * e * g ≤ c * b * g := Int.mul_le_mul_of_nonneg_right h1 (by omega)
  have l2 : c * g * b < f * e * b := Int.mul_lt_mul_of_pos_right h2 hb
  have : a * g * e < f * b * e := by
    rw [show a * g * e = a * e * g by ac_rfl, show f * b * e = f * e * b by ac_rfl]
    rw [show c * b * g = c * g * b by ac_rfl] at l1
    omega
  exact Int.lt_of_mul_lt_mul_right this (by omega)
theorem lt_tr (hp : 0 < (m p).2) (hq : 0 < (m q).2) (hr : 0 < (m r).2) (h1 : lt m p q) (h2 : lt m q r) : lt m p r := by
  rcases h1 with h1 | ⟨h1, h1'⟩
  · rcases h2 with h2 | ⟨h2, h2'⟩
    · exact .inl (fr_lt hp hq hr h1 (Int.le_of_lt h2))
    · exact .inl (fr_lt hp hq hr h1 (Int.le_of_eq h2))
  · rcases h2 with h2 | ⟨h2, h2'⟩
    · exact .inl (fr_lt2 hp hq hr (Int.le_of_eq h1) h2)
    · have a := fr_tr hp hq hr (Int.le_of_eq h1) (Int.le_of_eq h2)
      have b := fr_tr hr hq hp (Int.le_of_eq h2.symm) (Int.le_of_eq h1.symm)
      exact .inr ⟨by omega, by omega⟩
theorem bs_lo {sv : Int → Int} {N : Nat} (hm : ∀ p : Int, 0 ≤ p → p < N → sv p = 0 → 0 < (m p).2) : ∀ {n : Nat}, n ≤ N → ∀ q : Int, 0 ≤ q → q < n → sv q = 0 → q < bs sv m n → (m (bs sv m n)).1 * (m q).2 < (m q).1 * (m (bs sv m n)).2
  | 0, _, q, h1, h2, _, _ => by omega
  | n + 1, h, q, h1, h2, h3, h4 => by
    rw [bs_s] at h4 ⊢
    have i := bs_lo hm (n := n) (by omega)
    have j := bs_bd hm (n := n) (by omega)
    by_cases c : sv n = 0 ∧ (bs sv m n = -1 ∨ (m n).1 * (m (bs sv m n)).2 < (m (bs sv m n)).1 * (m n).2)
    · rw [if_pos c] at h4 ⊢
      rcases j with j | ⟨j1, j2, j3, j4⟩
      · exact absurd h3 (j.2 q h1 (by omega))
      · rcases c.2 with k | k
        · omega
        · exact fr_lt (hm n (by omega) (by omega) c.1) (hm _ j1 (by omega) j3) (hm q h1 (by omega) h3) k (j4 q h1 (by omega) h3)
    · rw [if_neg c] at h4 ⊢
      rcases j with j | ⟨j1, j2, j3, j4⟩
      · omega
      · exact i q h1 (by omega) h3 h4
/-- the one who is marked before all others is found -/
theorem bs_lt {sv : Int → Int} (hm : ∀ p : Int, 0 ≤ p → p < 6 → sv p = 0 → 0 < (m p).2) (hr : r < 6) (h0 : sv r = 0) (hl : ∀ q : Nat, q < 6 → sv q = 0 → q ≠ r → lt m r q) : bs sv m 6 = r := by
  rcases bs_bd (sv := sv) (m := m) (N := 6) (fun p h1 h2 h3 => hm p h1 (by omega) h3) (n := 6) (Nat.le_refl _) with ⟨b1, b2⟩ | ⟨b1, b2, b3, b4⟩
  · exact absurd h0 (b2 r (by omega) (by omega))
  · have lo := bs_lo (sv := sv) (m := m) (N := 6) (fun p h1 h2 h3 => hm p h1 (by omega) h3) (n := 6) (Nat.le_refl _) r (by omega) (by omega) h0
    have b5 := b4 r (by omega) (by omega) h0
    generalize bs sv m 6 = j at b1 b2 b3 b4 b5 lo
    by_cases e : j = r
    · exact e
    · have k := hl j.toNat (by omega) (by rw [show ((j.toNat : Nat) : Int) = j by omega]; exact b3) (by omega)
      unfold lt at k
      rw [show ((j.toNat : Nat) : Int) = j by omega] at k
      rcases k with k | ⟨k1, k2⟩
      · omega
      · have := lo (by omega)
        omega
end LO
