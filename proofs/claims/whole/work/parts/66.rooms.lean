/-! rooms: numbers as orders of the rooms. -/
/-- room r is taken in u -/
def ub (u r : Nat) : Bool := decide (mm_and (mm_shr u r) 1 = 1)
theorem ub_all : ∀ u : Fin 64, ∀ r : Fin 6, (mm_and (mm_shr (u.val : Int) (r.val : Int)) 1 = 0 ∨ mm_and (mm_shr (u.val : Int) (r.val : Int)) 1 = 1) ∧ mm_or (u.val : Int) (mm_shl 1 (r.val : Int)) = ((u.val ||| (1 <<< r.val) : Nat) : Int) ∧ (u.val ||| (1 <<< r.val)) < 64 ∧ ∀ q : Fin 6, ub (u.val ||| (1 <<< r.val)) q.val = (ub u.val q.val || decide (q.val = r.val)) := by
  decide +kernel
theorem ub0 : ∀ r : Fin 6, ub 0 r.val = false := by
  decide +kernel
def ua (u r : Nat) : Nat := u ||| (1 <<< r)
theorem ub_v {u r : Nat} (hu : u < 64) (hr : r < 6) : mm_and (mm_shr (u : Int) (r : Int)) 1 = if ub u r = true then 1 else 0 := by
  have h := (ub_all ⟨u, hu⟩ ⟨r, hr⟩).1
  simp only at h
  unfold ub
  by_cases c : mm_and (mm_shr (u : Int) (r : Int)) 1 = 1
  · rw [if_pos (decide_eq_true c), c]
  · rw [if_neg (by simp [c])]
    omega
theorem ua_or {u r : Nat} (hu : u < 64) (hr : r < 6) : mm_or (u : Int) (mm_shl 1 (r : Int)) = ((ua u r : Nat) : Int) := (ub_all ⟨u, hu⟩ ⟨r, hr⟩).2.1
theorem ua_lt {u r : Nat} (hu : u < 64) (hr : r < 6) : ua u r < 64 := (ub_all ⟨u, hu⟩ ⟨r, hr⟩).2.2.1
theorem ua_b {u r q : Nat} (hu : u < 64) (hr : r < 6) (hq : q < 6) : ub (ua u r) q = (ub u q || decide (q = r)) := (ub_all ⟨u, hu⟩ ⟨r, hr⟩).2.2.2 ⟨q, hq⟩
theorem ub_0 {r : Nat} (hr : r < 6) : ub 0 r = false := ub0 ⟨r, hr⟩
/-- how many of the first n rooms are free -/
def fc (u : Nat) : Nat → Nat
  | 0 => 0
  | n + 1 => fc u n + if ub u n = true then 0 else 1
theorem fc_s {u n : Nat} : fc u (n + 1) = fc u n + if ub u n = true then 0 else 1 := rfl
theorem fc_mono {u a : Nat} : ∀ {b : Nat}, fc u a ≤ fc u (a + b)
  | 0 => Nat.le_refl _
  | b + 1 => by
    have := fc_mono (u := u) (a := a) (b := b)
    rw [← Nat.add_assoc, fc_s]
    omega
theorem fc_ua {u r : Nat} (hu : u < 64) (hr : r < 6) (hf : ub u r = false) : ∀ {n : Nat}, n ≤ 6 → fc (ua u r) n + (if r < n then 1 else 0) = fc u n
  | 0, _ => by
    rw [if_neg (by omega)]
    rfl
  | n + 1, h => by
    have i := fc_ua hu hr hf (n := n) (by omega)
    rw [fc_s, fc_s, ua_b hu hr (by omega)]
    by_cases e : n = r
    · have e2 : decide (n = r) = true := by simp [e]
      rw [if_neg (c := r < n) (by omega)] at i
      rw [e2, Bool.or_true, if_pos rfl, if_pos (c := r < n + 1) (by omega), if_neg (c := ub u n = true) (by rw [e, hf]; simp)]
      omega
    · have e2 : decide (n = r) = false := by simp [e]
      rw [e2, Bool.or_false]
      by_cases c : r < n
      · rw [if_pos (c := r < n + 1) (by omega)]
        rw [if_pos c] at i
        omega
      · rw [if_neg (c := r < n + 1) (by omega)]
        rw [if_neg c] at i
        omega
theorem fc_0 : ∀ {n : Nat}, n ≤ 6 → fc 0 n = n
  | 0, _ => rfl
  | n + 1, h => by
    rw [fc_s, fc_0 (n := n) (by omega), ub_0 (by omega)]
    rfl
/-- the j-th free room from r on -/
def nx (u : Nat) : Nat → Nat → Nat → Nat
  | 0, r, _ => r
  | n + 1, r, j => if ub u r = true then nx u n (r + 1) j else if j = 0 then r else nx u n (r + 1) (j - 1)
theorem nx_s {u n r j : Nat} : nx u (n + 1) r j = if ub u r = true then nx u n (r + 1) j else if j = 0 then r else nx u n (r + 1) (j - 1) := rfl
theorem nx_bd {u N : Nat} : ∀ {n r j : Nat}, r + n = N → fc u r + j < fc u N → r ≤ nx u n r j ∧ nx u n r j < N ∧ ub u (nx u n r j) = false ∧ fc u (nx u n r j) = fc u r + j
  | 0, r, j, h, hj => by
    rw [show r = N by omega] at hj
    omega
  | n + 1, r, j, h, hj => by
    rw [nx_s]
    by_cases c : ub u r = true
    · rw [if_pos c]
      have e : fc u (r + 1) = fc u r := by rw [fc_s, if_pos c]; rfl
      have i := nx_bd (u := u) (N := N) (n := n) (r := r + 1) (j := j) (by omega) (by omega)
      rw [e] at i
      exact ⟨by omega, i.2.1, i.2.2.1, i.2.2.2⟩
    · rw [if_neg c]
      have e : fc u (r + 1) = fc u r + 1 := by rw [fc_s, if_neg c]
      by_cases c2 : j = 0
      · rw [if_pos c2]
        exact ⟨by omega, by omega, Bool.eq_false_iff.mpr c, by omega⟩
      · rw [if_neg c2]
        have i := nx_bd (u := u) (N := N) (n := n) (r := r + 1) (j := j - 1) (by omega) (by omega)
        exact ⟨by omega, i.2.1, i.2.2.1, by omega⟩
theorem fc_inj {u r q : Nat} (h1 : ub u r = false) (h2 : ub u q = false) (h : fc u r = fc u q) : r = q := by
  rcases Nat.lt_trichotomy r q with k | k | k
  · have := fc_mono (u := u) (a := r + 1) (b := q - (r + 1))
    rw [show r + 1 + (q - (r + 1)) = q by omega, fc_s, h1] at this
    simp at this
    omega
  · exact k
  · have := fc_mono (u := u) (a := q + 1) (b := r - (q + 1))
    rw [show q + 1 + (r - (q + 1)) = r by omega, fc_s, h2] at this
    simp at this
    omega
def fac : Nat → Nat
  | 0 => 1
  | n + 1 => (n + 1) * fac n
theorem fac_s {n : Nat} : fac (n + 1) = (n + 1) * fac n := rfl
theorem fac_pos : ∀ {n : Nat}, 0 < fac n
  | 0 => by decide
  | n + 1 => Nat.mul_pos (by omega) fac_pos
theorem fac_le : ∀ {n : Nat}, n ≤ 6 → fac n ≤ 720 := by
  decide
/-- what is left of k, and who is taken, when p people have theirs -/
def rs (N k : Nat) : Nat → Nat × Nat
  | 0 => (k, 0)
  | p + 1 => ((rs N k p).1 % fac (N - p - 1), ua (rs N k p).2 (nx (rs N k p).2 N 0 ((rs N k p).1 / fac (N - p - 1))))
def tr (N k p : Nat) : Nat := nx (rs N k p).2 N 0 ((rs N k p).1 / fac (N - p - 1))
theorem rs_s {N k p : Nat} : rs N k (p + 1) = ((rs N k p).1 % fac (N - p - 1), ua (rs N k p).2 (tr N k p)) := rfl
theorem rs_bd {N k : Nat} (hN : 1 ≤ N ∧ N ≤ 6) (hk : k < fac N) : ∀ {p : Nat}, p ≤ N → (rs N k p).1 < fac (N - p) ∧ (rs N k p).2 < 64 ∧ fc (rs N k p).2 N = N - p
  | 0, _ => ⟨hk, by show 0 < 64; omega, fc_0 hN.2⟩
  | p + 1, h => by
    obtain ⟨i1, i2, i3⟩ := rs_bd hN hk (p := p) (by omega)
    have f := fac_pos (n := N - p - 1)
    have hd : (rs N k p).1 / fac (N - p - 1) < N - p := by
      rw [Nat.div_lt_iff_lt_mul f]
      rw [show N - p = (N - p - 1) + 1 by omega, fac_s] at i1
      rw [show N - p = (N - p - 1) + 1 by omega]
      exact i1
    obtain ⟨j1, j2, j3, j4⟩ := nx_bd (u := (rs N k p).2) (N := N) (n := N) (r := 0) (j := (rs N k p).1 / fac (N - p - 1)) (by omega) (by rw [i3]; show 0 + _ < _; omega)
    rw [rs_s]
    refine ⟨?_, ua_lt i2 (by show nx _ _ _ _ < 6; omega), ?_⟩
    · show (rs N k p).1 % fac (N - p - 1) < fac (N - (p + 1))
      rw [show N - (p + 1) = N - p - 1 by omega]
      exact Nat.mod_lt _ f
    · have q := fc_ua i2 (r := tr N k p) (by show nx _ _ _ _ < 6; omega) j3 (n := N) hN.2
      rw [if_pos (by show nx _ _ _ _ < N; omega), i3] at q
      show fc (ua (rs N k p).2 (tr N k p)) N = _
      omega
theorem tr_bd {N k p : Nat} (hN : 1 ≤ N ∧ N ≤ 6) (hk : k < fac N) (hp : p < N) : tr N k p < N ∧ ub (rs N k p).2 (tr N k p) = false ∧ fc (rs N k p).2 (tr N k p) = (rs N k p).1 / fac (N - p - 1) := by
  obtain ⟨i1, i2, i3⟩ := rs_bd hN hk (p := p) (by omega)
  have f := fac_pos (n := N - p - 1)
  have hd : (rs N k p).1 / fac (N - p - 1) < N - p := by
    rw [Nat.div_lt_iff_lt_mul f]
    rw [show N - p = (N - p - 1) + 1 by omega, fac_s] at i1
    rw [show N - p = (N - p - 1) + 1 by omega]
    exact i1
  obtain ⟨j1, j2, j3, j4⟩ := nx_bd (u := (rs N k p).2) (N := N) (n := N) (r := 0) (j := (rs N k p).1 / fac (N - p - 1)) (by omega) (by rw [i3]; show 0 + _ < _; omega)
  refine ⟨j2, j3, ?_⟩
  have e : fc (rs N k p).2 0 = 0 := rfl
  rw [e, Nat.zero_add] at j4
  exact j4
theorem rs_ub {N k : Nat} (hN : 1 ≤ N ∧ N ≤ 6) (hk : k < fac N) {q : Nat} (hq : q < 6) : ∀ {p : Nat}, p ≤ N → (ub (rs N k p).2 q = true ↔ ∃ l, l < p ∧ tr N k l = q)
  | 0, _ => by
    have : ub (rs N k 0).2 q = false := ub_0 hq
    rw [this]
    exact ⟨fun h => Bool.noConfusion h, fun ⟨l, h, _⟩ => by omega⟩
  | p + 1, h => by
    have i := rs_ub hN hk hq (p := p) (by omega)
    obtain ⟨i1, i2, i3⟩ := rs_bd hN hk (p := p) (by omega)
    have j := tr_bd hN hk (p := p) (by omega)
    rw [rs_s]
    show ub (ua (rs N k p).2 (tr N k p)) q = true ↔ _
    rw [ua_b i2 (by omega) hq, Bool.or_eq_true, i, decide_eq_true_eq]
    constructor
    · rintro (⟨l, h1, h2⟩ | h1)
      · exact ⟨l, by omega, h2⟩
      · exact ⟨p, by omega, h1.symm⟩
    · rintro ⟨l, h1, h2⟩
      by_cases e : l = p
      · exact .inr (by rw [← h2, e])
      · exact .inl ⟨l, by omega, h2⟩
theorem tr_inj {N k p q : Nat} (hN : 1 ≤ N ∧ N ≤ 6) (hk : k < fac N) (hp : p < q) (hq : q < N) : tr N k p ≠ tr N k q := fun e => by
  have j := tr_bd hN hk (p := q) hq
  have i := (rs_ub hN hk (q := tr N k q) (by omega) (p := q) (by omega)).mpr ⟨p, hp, e⟩
  rw [j.2.1] at i
  cases i
/-- a node of the tree: all numbers from K on, n! of them, begin with the same p rooms -/
def nd (N p K u : Nat) : Prop := ∀ l, l < fac (N - p) → rs N (K + l) p = (l, u)
theorem nd_0 {N : Nat} : nd N 0 0 0 := fun l _ => by rw [Nat.zero_add]; rfl
theorem nd_s {N p K u r : Nat} (hN : 1 ≤ N ∧ N ≤ 6) (hp : p < N) (hK : K + fac (N - p) ≤ fac N) (h : nd N p K u) (hr : r < N) (hf : ub u r = false) : fc u r < N - p ∧ nd N (p + 1) (K + fc u r * fac (N - p - 1)) (ua u r) ∧ (∀ l, l < fac (N - p - 1) → tr N (K + fc u r * fac (N - p - 1) + l) p = r) ∧ K + fc u r * fac (N - p - 1) + fac (N - p - 1) ≤ fac N := by
  have f := fac_pos (n := N - p - 1)
  have hu := rs_bd hN (k := K + 0) (p := p) (by have := fac_pos (n := N - p); omega) (by omega)
  rw [h 0 fac_pos] at hu
  have hlt : fc u r < N - p := by
    have := fc_mono (u := u) (a := r + 1) (b := N - (r + 1))
    rw [show r + 1 + (N - (r + 1)) = N by omega, fc_s, hf, hu.2.2] at this
    simp at this
    omega
  have hle : fc u r * fac (N - p - 1) + fac (N - p - 1) ≤ fac (N - p) := by
    have : (fc u r + 1) * fac (N - p - 1) ≤ (N - p - 1 + 1) * fac (N - p - 1) := Nat.mul_le_mul_right _ (by omega)
    rw [← fac_s, Nat.add_mul, Nat.one_mul, show N - p - 1 + 1 = N - p by omega] at this
    exact this
  have key : ∀ l, l < fac (N - p - 1) → rs N (K + fc u r * fac (N - p - 1) + l) p = (fc u r * fac (N - p - 1) + l, u) ∧ tr N (K + fc u r * fac (N - p - 1) + l) p = r := fun l hl => by
    have e := h (fc u r * fac (N - p - 1) + l) (by omega)
    rw [← Nat.add_assoc] at e
    refine ⟨e, ?_⟩
    have t := tr_bd hN (k := K + fc u r * fac (N - p - 1) + l) (p := p) (by omega) hp
    rw [e] at t
    simp only at t
    rw [Nat.mul_comm (fc u r), Nat.mul_add_div f, Nat.div_eq_of_lt hl, Nat.add_zero, Nat.mul_comm (fac _)] at t
    exact fc_inj t.2.1 hf t.2.2
  refine ⟨hlt, fun l hl => ?_, fun l hl => (key l hl).2, by omega⟩
  rw [show N - (p + 1) = N - p - 1 by omega] at hl
  rw [rs_s, (key l hl).1, (key l hl).2]
  simp only
  rw [Nat.mul_comm (fc u r), Nat.mul_add_mod, Nat.mod_eq_of_lt hl]
/-- every order of the rooms has its number -/
theorem tr_sur {N : Nat} (hN : 1 ≤ N ∧ N ≤ 6) {ρ : Nat → Nat} (hρ : ∀ p, p < N → ρ p < N) (hi : ∀ p q, p < q → q < N → ρ p ≠ ρ q) : ∀ (n p K u : Nat), p + n = N → K + fac (N - p) ≤ fac N → nd N p K u → (∀ l q, l < fac (N - p) → q < p → tr N (K + l) q = ρ q) → ∃ k, k < fac N ∧ ∀ q, q < N → tr N k q = ρ q
  | 0, p, K, u, h, hK, hn, ht => by
    have f := fac_pos (n := N - p)
    exact ⟨K + 0, by omega, fun q hq => ht 0 q f (by omega)⟩
  | n + 1, p, K, u, h, hK, hn, ht => by
    have f := fac_pos (n := N - p)
    have hr := hρ p (by omega)
    have hf : ub u (ρ p) = false := by
      have i := rs_ub hN (k := K + 0) (by omega) (q := ρ p) (by omega) (p := p) (by omega)
      rw [hn 0 f] at i
      refine Bool.eq_false_iff.mpr fun k => ?_
      obtain ⟨l, l1, l2⟩ := i.mp k
      rw [ht 0 l f l1] at l2
      exact hi l p l1 (by omega) l2
    obtain ⟨s1, s2, s3, s4⟩ := nd_s hN (by omega) hK hn hr hf
    have hle : fc u (ρ p) * fac (N - p - 1) + fac (N - p - 1) ≤ fac (N - p) := by
      have : (fc u (ρ p) + 1) * fac (N - p - 1) ≤ (N - p - 1 + 1) * fac (N - p - 1) := Nat.mul_le_mul_right _ (by omega)
      rw [← fac_s, Nat.add_mul, Nat.one_mul, show N - p - 1 + 1 = N - p by omega] at this
      exact this
    refine tr_sur hN hρ hi n (p + 1) _ _ (by omega) (by rw [show N - (p + 1) = N - p - 1 by omega]; exact s4) s2 fun l q hl hq => ?_
    rw [show N - (p + 1) = N - p - 1 by omega] at hl
    by_cases e : q = p
    · rw [e, s3 l hl]
    · have := ht (fc u (ρ p) * fac (N - p - 1) + l) q (by omega) (by omega)
      rw [← Nat.add_assoc] at this
      exact this
