/-! Circles: what one turn of a circle is. -/
theorem pigeon : ∀ (N : Nat) (s : Nat → Int), (∀ k, k ≤ N → 0 ≤ s k ∧ s k < N) → ∃ a b, a < b ∧ b ≤ N ∧ s a = s b
  | 0, s, h => by
    have := h 0 (by omega)
    omega
  | N + 1, s, h => by
    by_cases c : ∃ a, a ≤ N ∧ s a = s (N + 1)
    · obtain ⟨a, h1, h2⟩ := c
      exact ⟨a, N + 1, by omega, by omega, h2⟩
    · have c' : ∀ a, a ≤ N → s a ≠ s (N + 1) := fun a h1 h2 => c ⟨a, h1, h2⟩
      have hv := h (N + 1) (by omega)
      obtain ⟨a, b, h1, h2, h3⟩ := pigeon N (fun k => if s k = N then s (N + 1) else s k) (fun k hk => by
        have q1 := h k (by omega)
        have q2 := c' k hk
        show 0 ≤ (if s k = (N : Int) then s (N + 1) else s k) ∧ (if s k = (N : Int) then s (N + 1) else s k) < N
        split <;> omega)
      have ha := c' a (by omega)
      have hb := c' b (by omega)
      refine ⟨a, b, h1, by omega, ?_⟩
      have h4 : (if s a = (N : Int) then s (N + 1) else s a) = (if s b = (N : Int) then s (N + 1) else s b) := h3
      revert h4
      split <;> split <;> omega
def it (e : Int → Int) : Nat → Int
  | 0 => 0
  | k + 1 => e (it e k)
section IT
variable {e : Int → Int}
theorem it_s {k : Nat} : it e (k + 1) = e (it e k) := rfl
theorem it_per {a b : Nat} (h : it e a = it e b) : ∀ k, it e (a + k) = it e (b + k)
  | 0 => h
  | k + 1 => by
    rw [← Nat.add_assoc, ← Nat.add_assoc, it_s, it_s, it_per h k]
theorem it_cl {i j : Nat} (hij : i < j) (h : it e j = it e i) : ∀ k, ∃ k', i ≤ k' ∧ k' < j ∧ it e (i + k) = it e k'
  | 0 => ⟨i, by omega, hij, rfl⟩
  | k + 1 => by
    obtain ⟨k', h1, h2, h3⟩ := it_cl hij h k
    by_cases c : k' + 1 < j
    · exact ⟨k' + 1, by omega, c, by rw [← Nat.add_assoc, it_s, it_s, h3]⟩
    · refine ⟨i, by omega, hij, ?_⟩
      rw [← Nat.add_assoc, it_s, h3]
      show it e (k' + 1) = it e i
      rw [show k' + 1 = j by omega, h]
theorem it_back {i j : Nat} (hij : i < j) (h : it e j = it e i) : ∀ (M k : Nat), i ≤ k → ∃ k', M ≤ k' ∧ i ≤ k' ∧ it e k = it e k'
  | 0, k, hk => ⟨k, by omega, hk, rfl⟩
  | M + 1, k, hk => by
    obtain ⟨k', h1, h2, h3⟩ := it_back hij h M k hk
    refine ⟨k' + (j - i), by omega, by omega, ?_⟩
    rw [h3]
    have q := it_per h.symm (k' - i)
    rw [show i + (k' - i) = k' by omega, show j + (k' - i) = k' + (j - i) by omega] at q
    exact q
/-- on the circle to which one comes from 0 -/
def cyc (e : Int → Int) (N : Nat) (x : Int) : Prop := ∃ k, N ≤ k ∧ x = it e k
theorem it_bd {N : Int} (hN : 1 ≤ N) (he : ∀ q, 0 ≤ q → q < N → 0 ≤ e q ∧ e q < N) : ∀ k, 0 ≤ it e k ∧ it e k < N
  | 0 => by
    show (0 : Int) ≤ 0 ∧ (0 : Int) < N
    omega
  | k + 1 => by
    have := it_bd hN he k
    exact he _ this.1 this.2
theorem it_rep {N : Int} (hN : 1 ≤ N) (he : ∀ q, 0 ≤ q → q < N → 0 ≤ e q ∧ e q < N) : ∃ a b, a < b ∧ b ≤ N.toNat ∧ it e a = it e b :=
  pigeon N.toNat (it e) fun k _ => by
    have := it_bd hN he k
    omega
theorem cyc_of {i j N : Nat} (hij : i < j) (hj : j ≤ N) (h : it e j = it e i) {x : Int} : cyc e N x ↔ ∃ k, i ≤ k ∧ k < j ∧ x = it e k := by
  constructor
  · rintro ⟨k, h1, h2⟩
    obtain ⟨k', q1, q2, q3⟩ := it_cl hij h (k - i)
    exact ⟨k', q1, q2, by rw [h2, ← q3, show i + (k - i) = k by omega]⟩
  · rintro ⟨k, h1, h2, h3⟩
    obtain ⟨k', q1, q2, q3⟩ := it_back hij h N k h1
    exact ⟨k', q1, by rw [h3, q3]⟩
theorem cyc_of2 {i j N : Nat} (hij : i < j) (h : it e (N + j) = it e (N + i)) {x : Int} : cyc e N x ↔ ∃ k, k < j ∧ x = it e (N + k) := by
  constructor
  · rintro ⟨k, h1, h2⟩
    by_cases c : k < N + i
    · exact ⟨k - N, by omega, by rw [h2, show N + (k - N) = k by omega]⟩
    · obtain ⟨k', q1, q2, q3⟩ := it_cl (e := e) (i := N + i) (j := N + j) (by omega) h (k - (N + i))
      exact ⟨k' - N, by omega, by rw [h2, show N + (k' - N) = k' by omega, ← q3, show N + i + (k - (N + i)) = k by omega]⟩
  · rintro ⟨k, h1, h2⟩
    exact ⟨N + k, by omega, h2⟩
theorem cyc_e {N : Nat} {x : Int} (h : cyc e N x) : cyc e N (e x) := by
  obtain ⟨k, h1, h2⟩ := h
  exact ⟨k + 1, by omega, by rw [it_s, h2]⟩
theorem cyc_inj {a b N : Nat} (hab : a < b) (hb : b ≤ N) (h : it e a = it e b) {x y : Int} (hx : cyc e N x) (hy : cyc e N y) (q : e x = e y) : x = y := by
  obtain ⟨k, h1, rfl⟩ := hx
  obtain ⟨l, h2, rfl⟩ := hy
  have q' : it e (k + 1) = it e (l + 1) := q
  have p1 := it_per q' (b - a - 1)
  have p2 := it_per h (k - a)
  have p3 := it_per h (l - a)
  rw [show k + 1 + (b - a - 1) = b + (k - a) by omega, show l + 1 + (b - a - 1) = b + (l - a) by omega] at p1
  rw [show a + (k - a) = k by omega] at p2
  rw [show a + (l - a) = l by omega] at p3
  rw [p2, p3, p1]
theorem cyc_pre {a b N : Nat} (hab : a < b) (hb : b ≤ N) (h : it e a = it e b) {p : Int} (hp : cyc e N p) : ∃ x, cyc e N x ∧ e x = p := by
  obtain ⟨k, h1, rfl⟩ := hp
  obtain ⟨k', q1, q2, q3⟩ := it_back hab h.symm (N + 1) k (by omega)
  refine ⟨it e (k' - 1), ⟨k' - 1, by omega, rfl⟩, ?_⟩
  show it e (k' - 1 + 1) = it e k
  rw [q3, show k' - 1 + 1 = k' by omega]
theorem cyc_bd {N : Int} (hN : 1 ≤ N) (he : ∀ q, 0 ≤ q → q < N → 0 ≤ e q ∧ e q < N) {x : Int} (h : cyc e N.toNat x) : 0 ≤ x ∧ x < N := by
  obtain ⟨k, -, rfl⟩ := h
  exact it_bd hN he k
end IT
/-- the first from i on, or -1 -/
def lo (P : Int → Bool) : Nat → Int → Int
  | 0, _ => -1
  | n + 1, i => if P i = true then i else lo P n (i + 1)
theorem lo_s {P : Int → Bool} {n : Nat} {i : Int} : lo P (n + 1) i = if P i = true then i else lo P n (i + 1) := rfl
theorem lo_bd {P : Int → Bool} : ∀ {n : Nat} {i : Int}, 0 ≤ i → (lo P n i = -1 ∧ ∀ k, i ≤ k → k < i + n → P k = false) ∨ (i ≤ lo P n i ∧ lo P n i < i + n ∧ P (lo P n i) = true)
  | 0, i, h => .inl ⟨rfl, fun k h1 h2 => by omega⟩
  | n + 1, i, h => by
    rw [lo_s]
    by_cases c : P i = true
    · rw [if_pos c]
      exact .inr ⟨by omega, by omega, c⟩
    · rw [if_neg c]
      rcases lo_bd (P := P) (n := n) (i := i + 1) (by omega) with q | q
      · refine .inl ⟨q.1, fun k h1 h2 => ?_⟩
        by_cases e : k = i
        · rw [e]
          exact Bool.eq_false_iff.mpr c
        · exact q.2 k (by omega) (by omega)
      · exact .inr ⟨by omega, by omega, q.2.2⟩
def Wv (V : Int → Int → Int) (g : Int → Int) (m p q : Int) : Int := ws (V p) g q m.toNat
def ev (V : Int → Int → Int) (g : Int → Int) (m p q : Int) : Bool := decide (Wv V g m p p < Wv V g m p q)
/-- the lowest envier of q -/
def le (V : Int → Int → Int) (g : Int → Int) (m N q : Int) : Int := lo (fun p => ev V g m p q) N.toNat 0
/-- the lowest whom nobody envies -/
def lu (V : Int → Int → Int) (g : Int → Int) (m N : Int) : Int := lo (fun q => decide (le V g m N q = -1)) N.toNat 0
/-- who has what after the turn -/
noncomputable def nh (V : Int → Int → Int) (g : Int → Int) (m N : Int) : Int → Int := fun i => @ite Int (i < m ∧ cyc (le V g m N) N.toNat (g i)) (Classical.propDecidable _) (le V g m N (g i)) (g i)
def ss (f : Int → Int) : Nat → Int
  | 0 => 0
  | k + 1 => ss f k + f k
theorem ss_s {f : Int → Int} {k : Nat} : ss f (k + 1) = ss f k + f k := rfl
theorem ss_le {f f' : Int → Int} : ∀ {n : Nat}, (∀ k : Int, 0 ≤ k → k < n → f k ≤ f' k) → ss f n ≤ ss f' n
  | 0, _ => Int.le_refl _
  | n + 1, h => by
    have := ss_le (n := n) fun k h1 h2 => h k h1 (by omega)
    have := h n (by omega) (by omega)
    rw [ss_s, ss_s]
    omega
theorem ss_lt {f f' : Int → Int} {c : Int} : ∀ {n : Nat}, (∀ k : Int, 0 ≤ k → k < n → f k ≤ f' k) → 0 ≤ c → c < n → f c < f' c → ss f n < ss f' n
  | 0, _, _, _, _ => by omega
  | n + 1, h, h0, h1, h2 => by
    rw [ss_s, ss_s]
    by_cases e : c = n
    · have := ss_le (n := n) fun k h1 h2 => h k h1 (by omega)
      rw [e] at h2
      omega
    · have := ss_lt (n := n) (fun k h1 h2 => h k h1 (by omega)) h0 (by omega) h2
      have := h n (by omega) (by omega)
      omega
theorem ss_bd {f : Int → Int} {b : Int} : ∀ {n : Nat}, (∀ k : Int, 0 ≤ k → k < n → 0 ≤ f k ∧ f k ≤ b) → 0 ≤ ss f n ∧ ss f n ≤ b * n
  | 0, _ => by simp [ss]
  | n + 1, h => by
    have := ss_bd (n := n) fun k h1 h2 => h k h1 (by omega)
    have := h n (by omega) (by omega)
    have e : b * ((n + 1 : Nat) : Int) = b * n + b := by
      rw [show ((n + 1 : Nat) : Int) = (n : Int) + 1 by omega, Int.mul_add, Int.mul_one]
    rw [ss_s, e]
    omega
/-- what people's own things are worth to them, together -/
def SS (V : Int → Int → Int) (g : Int → Int) (m N : Int) : Int := ss (fun p => Wv V g m p p) N.toNat
theorem ws_eq2 {f g g' : Int → Int} {q q' : Int} : ∀ {n : Nat}, (∀ k : Int, 0 ≤ k → k < n → (g k = q ↔ g' k = q')) → ws f g q n = ws f g' q' n
  | 0, _ => rfl
  | n + 1, h => by
    have e := h n (by omega) (by omega)
    rw [ws_s, ws_s, ws_eq2 (n := n) fun k h1 h2 => h k h1 (by omega)]
    by_cases c : g n = q
    · rw [if_pos c, if_pos (e.mp c)]
    · rw [if_neg c, if_neg fun k => c (e.mpr k)]
section NH
variable {V : Int → Int → Int} {g : Int → Int} {m N : Int}
theorem le_bd (hN : 1 ≤ N) {q : Int} (h : le V g m N q ≠ -1) : 0 ≤ le V g m N q ∧ le V g m N q < N ∧ Wv V g m (le V g m N q) (le V g m N q) < Wv V g m (le V g m N q) q := by
  rcases lo_bd (P := fun p => ev V g m p q) (n := N.toNat) (i := 0) (by omega) with k | k
  · exact absurd k.1 h
  · unfold le
    exact ⟨k.1, by omega, of_decide_eq_true k.2.2⟩
theorem lu_none (h : lu V g m N = -1) : ∀ q, 0 ≤ q → q < N → le V g m N q ≠ -1 := fun q h1 h2 => by
  rcases lo_bd (P := fun q => decide (le V g m N q = -1)) (n := N.toNat) (i := 0) (by omega) with k | k
  · exact of_decide_eq_false (k.2 q h1 (by omega))
  · unfold lu at h
    omega
theorem lu_bd (h : lu V g m N ≠ -1) : 0 ≤ lu V g m N ∧ lu V g m N < N := by
  rcases lo_bd (P := fun q => decide (le V g m N q = -1)) (n := N.toNat) (i := 0) (by omega) with k | k
  · exact absurd k.1 h
  · unfold lu
    omega
theorem nh_prog (hN : 1 ≤ N) (h : lu V g m N = -1) : SS V g m N + 1 ≤ SS V (nh V g m N) m N := by
  have hl := lu_none h
  have he : ∀ q, 0 ≤ q → q < N → 0 ≤ le V g m N q ∧ le V g m N q < N := fun q h1 h2 => by
    have := le_bd hN (hl q h1 h2)
    omega
  obtain ⟨a, b, hab, hb, hr⟩ := it_rep hN he
  have hc : ∀ p, cyc (le V g m N) N.toNat p → Wv V g m p p < Wv V (nh V g m N) m p p := fun p hp => by
    obtain ⟨x, hx, hxp⟩ := cyc_pre hab hb hr hp
    have bx := cyc_bd hN he hx
    have lx := le_bd hN (hl x bx.1 bx.2)
    rw [hxp] at lx
    have e : Wv V (nh V g m N) m p p = Wv V g m p x := ws_eq2 fun k h1 h2 => by
      unfold nh
      by_cases c : cyc (le V g m N) N.toNat (g k)
      · rw [if_pos ⟨by omega, c⟩]
        exact ⟨fun q => cyc_inj hab hb hr c hx (q.trans hxp.symm), fun q => by rw [q, hxp]⟩
      · rw [if_neg fun q => c q.2]
        exact ⟨fun q => absurd (q ▸ hp) c, fun q => absurd (q ▸ hx) c⟩
    rw [e]
    exact lx.2.2
  have hn : ∀ p, ¬ cyc (le V g m N) N.toNat p → Wv V (nh V g m N) m p p = Wv V g m p p := fun p hp => ws_eq2 fun k h1 h2 => by
    unfold nh
    by_cases c : cyc (le V g m N) N.toNat (g k)
    · rw [if_pos ⟨by omega, c⟩]
      exact ⟨fun q => absurd (q ▸ cyc_e c) hp, fun q => absurd (q ▸ c) hp⟩
    · rw [if_neg fun q => c q.2]
  have hz : cyc (le V g m N) N.toNat (it (le V g m N) N.toNat) := ⟨_, Nat.le_refl _, rfl⟩
  have bz := cyc_bd hN he hz
  unfold SS
  have := ss_lt (f := fun p => Wv V g m p p) (f' := fun p => Wv V (nh V g m N) m p p) (n := N.toNat) (c := it (le V g m N) N.toNat) (fun k h1 h2 => by
    by_cases c : cyc (le V g m N) N.toNat k
    · exact Int.le_of_lt (hc k c)
    · exact Int.le_of_eq (hn k c).symm) bz.1 (by omega) (hc _ hz)
  omega
end NH
