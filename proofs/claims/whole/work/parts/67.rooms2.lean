/-! rooms: the search, in both. -/
def sr (V : Int → Int → Int) (t : Nat → Nat) : Nat → Int
  | 0 => 0
  | n + 1 => sr V t n + V n (t n)
theorem sr_s {V : Int → Int → Int} {t : Nat → Nat} {n : Nat} : sr V t (n + 1) = sr V t n + V n (t n) := rfl
theorem sr_eq {V : Int → Int → Int} {t t' : Nat → Nat} : ∀ {n : Nat}, (∀ q, q < n → t q = t' q) → sr V t n = sr V t' n
  | 0, _ => rfl
  | n + 1, h => by rw [sr_s, sr_s, sr_eq fun q hq => h q (by omega), h n (by omega)]
def ZR (V : Int → Int → Int) (N : Nat) : Prop := ∀ p r : Int, 0 ≤ p → p < N → 0 ≤ r → r < N → 0 ≤ V p r ∧ V p r ≤ 100000
theorem sr_bd {V : Int → Int → Int} {N : Nat} (hV : ZR V N) {t : Nat → Nat} (ht : ∀ q, q < N → t q < N) : ∀ {n : Nat}, n ≤ N → 0 ≤ sr V t n ∧ sr V t n ≤ 100000 * n
  | 0, _ => by simp [sr]
  | n + 1, h => by
    have := sr_bd hV ht (n := n) (by omega)
    have h1 := ht n (by omega)
    have := hV n (t n) (by omega) (by omega) (by omega) (by omega)
    rw [sr_s]
    omega
abbrev SU : Type := Int × Nat
def stq (V : Int → Int → Int) (N : Nat) (s : SU) (k : Nat) : SU := if s.1 < sr V (tr N k) N then (sr V (tr N k) N, k) else s
def SQ (N : Nat) (s : SU) : Prop := -1 ≤ s.1 ∧ s.1 ≤ 600000 ∧ s.2 < fac N
def HS (V : Int → Int → Int) (N : Nat) (T : Nat → Nat) (p : Nat) (s : SU) (A : MF) : Prop := A 25 0 = N ∧ A 25 3 = s.1 ∧ (∀ q : Nat, q < p → A 33 q = T q) ∧ (∀ p r : Int, 0 ≤ p → p < N → 0 ≤ r → r < N → A (27 + p.toNat) r = V p r) ∧ (0 ≤ s.1 → ∀ q : Nat, q < N → A 34 q = tr N s.2 q)
section RM
variable {X : List Value} {d : Nat} {A B : MF} {V : Int → Int → Int} {N : Nat}
theorem stq_sq (hV : ZR V N) (hN : 1 ≤ N ∧ N ≤ 6) {s : SU} {k : Nat} (hk : k < fac N) (h : SQ N s) : SQ N (stq V N s k) := by
  have b := sr_bd hV (t := tr N k) (fun q hq => (tr_bd hN hk hq).1) (Nat.le_refl N)
  unfold stq
  split
  · exact ⟨by show -1 ≤ sr V (tr N k) N; omega, by show sr V (tr N k) N ≤ 600000; omega, hk⟩
  · exact h
theorem fo_sq (hV : ZR V N) (hN : 1 ≤ N ∧ N ≤ 6) {s : SU} {lo n : Nat} (hk : lo + n ≤ fac N) (h : SQ N s) : SQ N (fo (stq V N) s lo n) := fo_inv (Q := SQ N) h fun _ _ _ h2 q => stq_sq hV hN (by omega) q
theorem c83_b (hV : ZR V N) (hN : 1 ≤ N ∧ N ≤ 6) {n p K u : Nat} (h : p + (n + 1) = N) (hK : K + fac (n + 1) ≤ fac N) (hn : nd N p K u) (hu : u < 64) (hc : ∀ l q, l < fac (n + 1) → q < p → tr N (K + l) q = tr N K q) (ih : ∀ (K u : Nat) (s : SU) (A : MF), K + fac n ≤ fac N → nd N (p + 1) K u → u < 64 → (∀ l q, l < fac n → q < p + 1 → tr N (K + l) q = tr N K q) → SQ N s → HS V N (tr N K) (p + 1) s A → ∃ A' : MF, mm_E 1 (d + n + 1) 83 0 [(0, .ref 25), (1, mI (p + 1)), (2, mI u), (3, mI (sr V (tr N K) (p + 1)))] [] (mm_w X A) (.inl none, mm_w X A', 0, 0) ∧ HS V N (tr N K) (p + 1) (fo (stq V N) s K (fac n)) A' ∧ ∀ (b : Nat) (k : Int), (b ≠ 25 ∨ k ≠ 3) → b ≠ 33 → b ≠ 34 → A' b k = A b k) : ∀ (m r : Nat) (s : SU) (A : MF), r + m = N → SQ N s → HS V N (tr N K) p (fo (stq V N) s K (fc u r * fac n)) A → ∃ A' : MF, mm_E 1 (d + n + 1 + 1) 83 42 [(0, .ref 25), (1, mI p), (2, mI u), (3, mI (sr V (tr N K) p)), (4, mI r)] [] (mm_w X A) (.inl none, mm_w X A', 0, 0) ∧ HS V N (tr N K) p (fo (stq V N) s K (fc u N * fac n)) A' ∧ ∀ (b : Nat) (k : Int), (b ≠ 25 ∨ k ≠ 3) → b ≠ 33 → b ≠ 34 → A' b k = A b k
  | 0, r, s, A, hr, hs, hS => by
    have a0 := hS.1
    rw [show N = r by omega] at hS ⊢
    exact ⟨A, p83_42_0 (by omega), hS, fun _ _ _ _ _ => rfl⟩
  | m + 1, r, s, A, hr, hs, hS => by
    have hS' := hS
    obtain ⟨a0, a1, a2, a3, a4⟩ := hS'
    have bv := ub_v (u := u) (r := r) hu (by omega)
    by_cases c : ub u r = true
    · rw [if_pos c] at bv
      have e : fc u r = fc u (r + 1) := by rw [fc_s, if_pos c]; rfl
      rw [e] at hS
      obtain ⟨A', t1, t2, t3⟩ := c83_b hV hN h hK hn hu hc ih m (r + 1) s A (by omega) hs hS
      rw [show ((r + 1 : Nat) : Int) = (r : Int) + 1 by omega] at t1
      exact ⟨A', p83_42_1 (by omega) t1, t2, t3⟩
    · rw [if_neg c] at bv
      have cf : ub u r = false := Bool.eq_false_iff.mpr c
      rw [show n + 1 = N - p by omega] at hK hc
      obtain ⟨n1, n2, n3, n4⟩ := nd_s hN (by omega) hK hn (by omega) cf
      have f := fac_pos (n := n)
      rw [show N - p - 1 = n by omega] at n2 n3 n4
      have hle : fc u r * fac n + fac n ≤ fac (N - p) := by
        have : (fc u r + 1) * fac n ≤ (n + 1) * fac n := Nat.mul_le_mul_right _ (by omega)
        rw [← fac_s, Nat.add_mul, Nat.one_mul, show n + 1 = N - p by omega] at this
        exact this
      have hq : ∀ q, q < p → tr N (K + fc u r * fac n) q = tr N K q := fun q hq => hc _ q (by omega) hq
      have hq2 : ∀ l q, l < fac n → q < p + 1 → tr N (K + fc u r * fac n + l) q = tr N (K + fc u r * fac n) q := fun l q hl hq' => by
        by_cases e : q = p
        · have := n3 0 f
          rw [Nat.add_zero] at this
          rw [e, n3 l hl, this]
        · rw [Nat.add_assoc, hc _ q (by omega) (by omega), hq q (by omega)]
      have hp : tr N (K + fc u r * fac n) p = r := by
        have := n3 0 f
        rw [Nat.add_zero] at this
        exact this
      have hS1 : HS V N (tr N (K + fc u r * fac n)) (p + 1) (fo (stq V N) s K (fc u r * fac n)) (mm_u A 33 p r) := by
        refine ⟨by rw [mm_u_ne (by omega), a0], by rw [mm_u_ne (by omega), a1], fun q hq' => ?_, fun p r h1 h2 h3 h4 => by rw [mm_u_ne (by omega)]; exact a3 p r h1 h2 h3 h4, fun k q hq' => by rw [mm_u_ne (by omega)]; exact a4 k q hq'⟩
        by_cases e : q = p
        · rw [e, mm_u_same, hp]
        · rw [mm_u_ne (by omega), a2 q (by omega), hq q (by omega)]
      obtain ⟨A0, k1, k2, k3⟩ := ih (K + fc u r * fac n) (ua u r) _ _ n4 n2 (ua_lt hu (by omega)) hq2 (fo_sq hV hN (by omega) hs) hS1
      obtain ⟨b0, b1, b2, b3, b4⟩ := k2
      have ef : fo (stq V N) (fo (stq V N) s K (fc u r * fac n)) (K + fc u r * fac n) (fac n) = fo (stq V N) s K (fc u (r + 1) * fac n) := by
        rw [← fo_add, fc_s, if_neg c, Nat.add_mul, Nat.one_mul]
      rw [ef] at b1 b4
      obtain ⟨A', t1, t2, t3⟩ := c83_b hV hN h (by rw [show n + 1 = N - p by omega]; exact hK) hn hu (by rw [show n + 1 = N - p by omega]; exact hc) ih m (r + 1) s A0 (by omega) hs ⟨b0, b1, fun q hq' => by rw [b2 q (by omega), hq q hq'], b3, b4⟩
      rw [show ((r + 1 : Nat) : Int) = (r : Int) + 1 by omega] at t1
      refine ⟨A', p83_42_2 ?_ (by omega) t1, t2, fun b k h1 h2 h3 => by rw [t3 b k h1 h2 h3, k3 b k h1 h2 h3, mm_u_ne (by omega)]⟩
      rw [ua_or hu (by omega), a3 p r (by omega) (by omega) (by omega) (by omega)]
      rw [sr_s, hp, sr_eq hq] at k1
      exact k1
theorem c83 (hV : ZR V N) (hN : 1 ≤ N ∧ N ≤ 6) : ∀ (n p K u : Nat) (s : SU) (A : MF), p + n = N → K + fac n ≤ fac N → nd N p K u → u < 64 → (∀ l q, l < fac n → q < p → tr N (K + l) q = tr N K q) → SQ N s → HS V N (tr N K) p s A → ∃ A' : MF, mm_E 1 (d + n + 1) 83 0 [(0, .ref 25), (1, mI p), (2, mI u), (3, mI (sr V (tr N K) p))] [] (mm_w X A) (.inl none, mm_w X A', 0, 0) ∧ HS V N (tr N K) p (fo (stq V N) s K (fac n)) A' ∧ ∀ (b : Nat) (k : Int), (b ≠ 25 ∨ k ≠ 3) → b ≠ 33 → b ≠ 34 → A' b k = A b k
  | 0, p, K, u, s, A, h, hK, hn, hu, hc, hs, hS => by
    have hpN : p = N := by omega
    rw [hpN] at hS ⊢
    have hS' := hS
    obtain ⟨a0, a1, a2, a3, a4⟩ := hS'
    have hk : K < fac N := by
      have := fac_pos (n := 0)
      omega
    have b := sr_bd hV (t := tr N K) (fun q hq => (tr_bd hN hk hq).1) (Nat.le_refl N)
    have hs' := hs
    obtain ⟨s1, s2, s3⟩ := hs'
    rw [show fo (stq V N) s K (fac 0) = stq V N s K from rfl]
    unfold stq
    by_cases c : s.1 < sr V (tr N K) N
    · rw [if_pos c]
      refine ⟨_, p83_0_2 (by omega), ?_, fun b k h1 h2 h3 => ?_⟩
      · have e : ∀ (b : Nat) (k : Int), b ≠ 34 → (b ≠ 25 ∨ k ≠ 3) → mm_cp (mm_u A 25 3 (sr V (tr N K) N)) 33 34 (A 25 0) b k = A b k := fun b k h1 h2 => by
          unfold mm_cp
          rw [if_neg (by omega), mm_u_ne (by omega)]
        refine ⟨by rw [e _ _ (by omega) (by omega), a0], ?_, fun q hq => by rw [e _ _ (by omega) (by omega)]; exact a2 q hq, fun p r h1 h2 h3 h4 => by rw [e _ _ (by omega) (by omega)]; exact a3 p r h1 h2 h3 h4, fun _ q hq => ?_⟩
        · unfold mm_cp
          rw [if_neg (by omega), mm_u_same]
        · unfold mm_cp
          rw [if_pos (by omega), mm_u_ne (by omega)]
          exact a2 q hq
      · unfold mm_cp
        rw [if_neg (by omega), mm_u_ne (by omega)]
    · rw [if_neg c]
      exact ⟨A, p83_0_1 (by omega), hS, fun _ _ _ _ _ => rfl⟩
  | n + 1, p, K, u, s, A, h, hK, hn, hu, hc, hs, hS => by
    have a0 := hS.1
    obtain ⟨A', t1, t2, t3⟩ := c83_b (X := X) (d := d) hV hN h hK hn hu hc (fun K u s A q1 q2 q3 q4 q5 q6 => by
      have q := c83 hV hN n (p + 1) K u s A (by omega) q1 q2 q3 q4 q5 q6
      rw [show ((p + 1 : Nat) : Int) = (p : Int) + 1 by omega] at q
      exact q) N 0 s A (by omega) hs (by rw [show fc u 0 = 0 from rfl, Nat.zero_mul]; exact hS)
    have hf := rs_bd hN (k := K + 0) (p := p) (by have := fac_pos (n := n + 1); omega) (by omega)
    rw [hn 0 fac_pos] at hf
    have hf2 : fc u N = N - p := hf.2.2
    rw [hf2, show N - p = n + 1 by omega, ← fac_s] at t2
    exact ⟨A', p83_0_0 (by omega) t1, t2, t3⟩
/-! the reference -/
theorem c99_f {w : Nat} {p : Nat} {x2 x3 : Int} {r : MR} (hN : N ≤ 6) (hp : p < N) (h0 : A 77 1 = N) (h2 : 0 ≤ x2 ∧ x2 ≤ 100000) (k : mm_E w d 99 61 [(0, .ref 77), (2, mI (x2 % (fac (N - p - 1) : Nat))), (3, mI x3), (4, mI p), (6, mI (x2 / (fac (N - p - 1) : Nat))), (7, mI 0)] [] (mm_w X A) r) : ∀ (n j : Nat), 2 ≤ j → (j + n = N - p ∨ (n = 0 ∧ N - p = 1 ∧ j = 2)) → mm_E w d 99 22 [(0, .ref 77), (2, mI x2), (3, mI x3), (4, mI p), (5, mI (fac (j - 1) : Nat)), (6, mI j)] [] (mm_w X A) r
  | 0, j, h1, h => by
    have e : fac (j - 1) = fac (N - p - 1) := by
      rcases h with h | h
      · rw [show j - 1 = N - p - 1 by omega]
      · rw [h.2.2, show N - p - 1 = 0 by omega]
        rfl
    have f := fac_pos (n := N - p - 1)
    have f2 := fac_le (n := N - p - 1) (by omega)
    rw [e]
    exact p99_22_0 (by omega) k
  | n + 1, j, h1, h => by
    have q := c99_f hN hp h0 h2 k n (j + 1) (by omega) (by omega)
    rw [show j + 1 - 1 = (j - 1) + 1 by omega, fac_s, show j - 1 + 1 = j by omega, Nat.mul_comm, Int.natCast_mul, show ((j + 1 : Nat) : Int) = (j : Int) + 1 by omega] at q
    exact p99_22_1 (by omega) q
theorem c99_s {p u : Nat} {x2 : Int} {r : MR} (hN : N ≤ 6) (hp : p < N) (hu : u < 64) : ∀ (n q j : Nat), q + n = N → fc u q + j < fc u N → j ≤ 1000 → mm_E 1 d 99 7 [(0, .ref 77), (2, mI x2), (3, mI (ua u (nx u n q j))), (4, mI ((p : Int) + 1))] [] (mm_w X (mm_u A 84 p (nx u n q j))) r → mm_E 1 d 99 61 [(0, .ref 77), (2, mI x2), (3, mI u), (4, mI p), (6, mI j), (7, mI q)] [] (mm_w X A) r
  | 0, q, j, h, hj, hj2, k => by
    rw [show q = N by omega] at hj
    omega
  | n + 1, q, j, h, hj, hj2, k => by
    have bv := ub_v (u := u) (r := q) hu (by omega)
    rw [nx_s] at k
    by_cases c : ub u q = true
    · rw [if_pos c] at bv k
      have e : fc u (q + 1) = fc u q := by rw [fc_s, if_pos c]; rfl
      have i := c99_s hN hp hu n (q + 1) j (by omega) (by omega) hj2 k
      rw [show ((q + 1 : Nat) : Int) = (q : Int) + 1 by omega] at i
      exact p99_61_0 (by omega) i
    · rw [if_neg c] at bv k
      have e : fc u (q + 1) = fc u q + 1 := by rw [fc_s, if_neg c]
      by_cases c2 : j = 0
      · rw [if_pos c2] at k
        refine p99_61_2 (by omega) ?_
        rw [ua_or hu (by omega)]
        exact k
      · rw [if_neg c2] at k
        have i := c99_s hN hp hu n (q + 1) (j - 1) (by omega) (by omega) (by omega) k
        rw [show ((q + 1 : Nat) : Int) = (q : Int) + 1 by omega, show ((j - 1 : Nat) : Int) = (j : Int) + -1 by omega] at i
        exact p99_61_4 (by omega) i
theorem c99_l {k : Nat} (hN : 1 ≤ N ∧ N ≤ 6) (hk : k < fac N) : ∀ (n p : Nat) (A : MF), p + n = N → A 77 1 = N → (∀ q : Nat, q < p → A 84 q = tr N k q) → ∃ A' : MF, mm_E 1 d 99 7 [(0, .ref 77), (2, mI ((rs N k p).1 : Nat)), (3, mI ((rs N k p).2 : Nat)), (4, mI p)] [] (mm_w X A) (.inl none, mm_w X A', 0, 0) ∧ (∀ b j, b ≠ 84 → A' b j = A b j) ∧ ∀ q : Nat, q < N → A' 84 q = tr N k q
  | 0, p, A, h, h0, ht => ⟨A, p99_7_0 (by omega), fun _ _ _ => rfl, fun q hq => ht q (by omega)⟩
  | n + 1, p, A, h, h0, ht => by
    obtain ⟨i1, i2, i3⟩ := rs_bd hN hk (p := p) (by omega)
    have hfl := fac_le (n := N - p) (by omega)
    have f := fac_pos (n := N - p - 1)
    have hd : (rs N k p).1 / fac (N - p - 1) < N - p := by
      rw [Nat.div_lt_iff_lt_mul f]
      rw [show N - p = (N - p - 1) + 1 by omega, fac_s] at i1
      rw [show N - p = (N - p - 1) + 1 by omega]
      exact i1
    obtain ⟨A', k1, k2, k3⟩ := c99_l hN hk n (p + 1) (mm_u A 84 p (tr N k p)) (by omega) (by rw [mm_u_ne (by omega), h0]) (fun q hq => by
      by_cases e : q = p
      · rw [e, mm_u_same]
      · rw [mm_u_ne (by omega)]
        exact ht q (by omega))
    rw [rs_s, show ((p + 1 : Nat) : Int) = (p : Int) + 1 by omega] at k1
    have e0 : fc (rs N k p).2 0 = 0 := rfl
    have s := c99_s (X := X) (d := d) (A := A) (x2 := (((rs N k p).1 % fac (N - p - 1) : Nat) : Int)) hN.2 (show p < N by omega) i2 N 0 ((rs N k p).1 / fac (N - p - 1)) (by omega) (by rw [e0, i3]; omega) (by omega) k1
    refine ⟨A', p99_7_1 (by omega) ?_, fun b j hb => by rw [k2 b j hb, mm_u_ne (by omega)], k3⟩
    refine c99_f (N := N) (p := p) (x2 := (((rs N k p).1 : Nat) : Int)) hN.2 (by omega) h0 (by omega) ?_ (N - p - 2) 2 (by omega) (by omega)
    rw [← Int.natCast_emod, ← Int.natCast_ediv]
    exact s
theorem c99 {k : Nat} (hN : 1 ≤ N ∧ N ≤ 6) (hk : k < fac N) (h0 : A 77 1 = N) : ∃ A' : MF, mm_E 1 d 99 0 [(0, .ref 77), (1, mI k)] [] (mm_w X A) (.inl none, mm_w X A', 0, 0) ∧ (∀ b j, b ≠ 84 → A' b j = A b j) ∧ ∀ q : Nat, q < N → A' 84 q = tr N k q := by
  obtain ⟨A', k1, k2, k3⟩ := c99_l (X := X) (d := d) hN hk N 0 A (by omega) h0 (fun q hq => by omega)
  exact ⟨A', p99_0_0 k1, k2, k3⟩
/-! the reference's loop over the orders -/
def MR2 (V : Int → Int → Int) (N : Nat) (A : MF) : Prop := A 77 1 = N ∧ ∀ p r : Int, 0 ≤ p → p < N → 0 ≤ r → r < N → A 82 (6 * p + r) = V p r
theorem MR2.eqv (h : MR2 V N A) (e : ∀ b k, (b = 82 ∨ (b = 77 ∧ k = 1)) → B b k = A b k) : MR2 V N B := by
  obtain ⟨a1, a3⟩ := h
  refine ⟨by rw [e 77 1 (by omega), a1], fun p i h1 h2 h3 h4 => ?_⟩
  rw [e 82 _ (by omega)]
  exact a3 p i h1 h2 h3 h4
theorem c127_s {w : Nat} {x1 x2 x3 : Int} {t : Nat → Nat} {r : MR} (hN : 1 ≤ N ∧ N ≤ 6) (hM : MR2 V N A) (ht : ∀ q : Nat, q < N → A 84 q = t q ∧ t q < N) (k : mm_E w d 127 117 [(0, .ref 77), (1, mI x1), (2, mI x2), (3, mI x3), (4, mI (sr V t N)), (5, mI N)] [] (mm_w X A) r) : ∀ (n q : Nat), q + n = N → mm_E w d 127 117 [(0, .ref 77), (1, mI x1), (2, mI x2), (3, mI x3), (4, mI (sr V t q)), (5, mI q)] [] (mm_w X A) r
  | 0, q, h => by
    rw [show N = q by omega] at k
    exact k
  | n + 1, q, h => by
    have i := c127_s hN hM ht k n (q + 1) (by omega)
    obtain ⟨t1, t2⟩ := ht q (by omega)
    have a1 := hM.1
    have e : A 82 (6 * (q : Int) + A 84 q) = V q (t q) := by
      rw [t1]
      exact hM.2 q (t q) (by omega) (by omega) (by omega) (by omega)
    rw [sr_s, ← e, show ((q + 1 : Nat) : Int) = (q : Int) + 1 by omega] at i
    exact p127_117_2 (by omega) i
theorem c127_c {x1 x2 x3 : Int} (hN : 1 ≤ N ∧ N ≤ 6) : ∀ (n : Nat) (q : Int) (A : MF), 0 ≤ q → q + n = N → A 77 1 = N → ∃ A' : MF, (∀ r, mm_E 1 d 127 101 [(0, .ref 77), (1, mI x1), (2, mI x2), (3, mI (x3 + 1))] [] (mm_w X A') r → mm_E 1 d 127 167 [(0, .ref 77), (1, mI x1), (2, mI x2), (3, mI x3), (5, mI q)] [] (mm_w X A) r) ∧ (∀ b j, b ≠ 83 → A' b j = A b j) ∧ ∀ j : Int, (q ≤ j → j < N → A' 83 j = A 84 j) ∧ (j < q ∨ N ≤ j → A' 83 j = A 83 j)
  | 0, q, A, h0, h, h1 => ⟨A, fun r k => p127_167_0 (by omega) k, fun _ _ _ => rfl, fun j => ⟨fun _ _ => by omega, fun _ => rfl⟩⟩
  | n + 1, q, A, h0, h, h1 => by
    obtain ⟨A', k1, k2, k3⟩ := c127_c hN n (q + 1) (mm_u A 83 q (A 84 q)) (by omega) (by omega) (by rw [mm_u_ne (by omega), h1])
    refine ⟨A', fun r k => p127_167_1 (by omega) (k1 r k), fun b j hb => by rw [k2 b j hb, mm_u_ne (by omega)], fun j => ⟨fun j1 j2 => ?_, fun jj => ?_⟩⟩
    · by_cases e : j = q
      · rw [e, (k3 q).2 (by omega), mm_u_same]
      · rw [(k3 j).1 (by omega) j2, mm_u_ne (by omega)]
    · rw [(k3 j).2 (by omega), mm_u_ne (by omega)]
theorem c127_l (hV : ZR V N) (hN : 1 ≤ N ∧ N ≤ 6) : ∀ (n k : Nat) (s : SU) (A : MF), k + n = fac N → SQ N s → MR2 V N A → (0 ≤ s.1 → ∀ q : Nat, q < N → A 83 q = tr N s.2 q) → ∃ A' : MF, (∀ r, mm_E 1 (d + 1) 127 101 [(0, .ref 77), (1, mI (fac N : Nat)), (2, mI (fo (stq V N) s k n).1), (3, mI (fac N : Nat))] [] (mm_w X A') r → mm_E 1 (d + 1) 127 101 [(0, .ref 77), (1, mI (fac N : Nat)), (2, mI s.1), (3, mI k)] [] (mm_w X A) r) ∧ (∀ b j, b ≠ 83 → b ≠ 84 → A' b j = A b j) ∧ (0 ≤ (fo (stq V N) s k n).1 → ∀ q : Nat, q < N → A' 83 q = tr N (fo (stq V N) s k n).2 q)
  | 0, k, s, A, h, hs, hM, hg => by
    rw [show k = fac N by omega]
    exact ⟨A, fun r q => q, fun _ _ _ _ => rfl, hg⟩
  | n + 1, k, s, A, h, hs, hM, hg => by
    have hs' := hs
    obtain ⟨s1, s2, s3⟩ := hs'
    have fl := fac_le hN.2
    have hk : k < fac N := by omega
    obtain ⟨A1, k1, k2, k3⟩ := c99 (X := X) (d := d) hN hk hM.1
    have hM1 : MR2 V N A1 := hM.eqv fun b j hb => k2 b j (by omega)
    have b := sr_bd hV (t := tr N k) (fun q hq => (tr_bd hN hk hq).1) (Nat.le_refl N)
    have hf : fo (stq V N) s k (n + 1) = fo (stq V N) (stq V N s k) (k + 1) n := by
      rw [show n + 1 = 1 + n by omega, fo_add]
      rfl
    rw [hf]
    by_cases c : s.1 < sr V (tr N k) N
    · have e : stq V N s k = (sr V (tr N k) N, k) := if_pos c
      obtain ⟨A2, u1, u2, u3⟩ := c127_c (X := X) (d := d + 1) (x1 := (fac N : Nat)) (x2 := sr V (tr N k) N) (x3 := k) hN N 0 A1 (by omega) (by omega) hM1.1
      obtain ⟨A3, v1, v2, v3⟩ := c127_l hV hN n (k + 1) (stq V N s k) A2 (by omega) (stq_sq hV hN hk hs) (hM1.eqv fun b j hb => u2 b j (by omega)) (fun _ q hq => by
        rw [(u3 q).1 (by omega) (by omega), k3 q hq, e])
      refine ⟨A3, fun r kr => ?_, fun b j h1 h2 => by rw [v2 b j h1 h2, u2 b j h1, k2 b j h2], v3⟩
      have v4 := v1 r kr
      rw [e, show ((k + 1 : Nat) : Int) = (k : Int) + 1 by omega] at v4
      exact p127_101_1 k1 (by omega) (c127_s hN hM1 (fun q hq => ⟨k3 q hq, (tr_bd hN hk hq).1⟩) (p127_117_1 (by have := hM1.1; omega) (u1 r v4)) N 0 (by omega))
    · have e : stq V N s k = s := if_neg c
      obtain ⟨A3, v1, v2, v3⟩ := c127_l hV hN n (k + 1) (stq V N s k) A1 (by omega) (stq_sq hV hN hk hs) hM1 (fun h0 q hq => by
        rw [e] at h0 ⊢
        rw [k2 83 q (by omega)]
        exact hg h0 q hq)
      refine ⟨A3, fun r kr => ?_, fun b j h1 h2 => by rw [v2 b j h1 h2, k2 b j h2], v3⟩
      have v4 := v1 r kr
      rw [e, show ((k + 1 : Nat) : Int) = (k : Int) + 1 by omega] at v4
      exact p127_101_1 k1 (by omega) (c127_s hN hM1 (fun q hq => ⟨k3 q hq, (tr_bd hN hk hq).1⟩) (p127_117_0 (by have := hM1.1; omega) v4) N 0 (by omega))
end RM
