/-! rooms: leads and rents, the round. -/
section RL
variable {X : List Value} {d : Nat} {A B : MF} {V : Int → Int → Int} {N : Nat} {t : Nat → Nat} {x4 z0 z1 z2 z3 : Int}
theorem mm_u_u {a : Nat} {i y z : Int} : mm_u (mm_u A a i y) a i z = mm_u A a i z := by
  funext b k
  unfold mm_u
  split <;> rfl
/-- the leads' cells, in the class -/
def LC (V : Int → Int → Int) (N : Nat) (t : Nat → Nat) (L : Nat → Int) (A : MF) : Prop := A 25 0 = N ∧ (∀ q : Nat, q < N → A 34 q = t q ∧ t q < N) ∧ (∀ p r : Int, 0 ≤ p → p < N → 0 ≤ r → r < N → A (27 + p.toNat) r = V p r) ∧ ∀ q : Nat, q < N → A 35 q = L q
def LM (V : Int → Int → Int) (N : Nat) (t : Nat → Nat) (L : Nat → Int) (A : MF) : Prop := A 77 1 = N ∧ (∀ q : Nat, q < N → A 83 q = t q ∧ t q < N) ∧ (∀ p r : Int, 0 ≤ p → p < N → 0 ≤ r → r < N → A 82 (6 * p + r) = V p r) ∧ ∀ q : Nat, q < N → A 85 q = L q
theorem wq_bd (hV : ZR V N) (ht : ∀ q, q < N → t q < N) (p q : Nat) (hp : p < N) (hq : q < N) : wq V t p q ≤ 100000 ∧ -100000 ≤ wq V t p q := by
  have h := ht q hq
  have h1 := hV p (t q) (by omega) (by omega) (by omega) (by omega)
  have h2 := hV q (t q) (by omega) (by omega) (by omega) (by omega)
  show V p (t q) - V q (t q) ≤ 100000 ∧ -100000 ≤ V p (t q) - V q (t q)
  omega
theorem c84_q (hV : ZR V N) (hN : 1 ≤ N ∧ N ≤ 6) (ht : ∀ q, q < N → t q < N) (hc : NC (wq V t) N) {x1 : Int} {p : Nat} (hp : p < N) : ∀ (n q : Nat) (L : Nat → Int) (A : MF), q + n = N → Wk (wq V t) N L → LC V N t L A → ∃ A' : MF, (∀ r, mm_E 1 (d + 1) 84 35 [(0, .ref 25), (1, mI x1), (2, mI ((p : Int) + 1))] [] (mm_w X A') r → mm_E 1 (d + 1) 84 45 [(0, .ref 25), (1, mI x1), (2, mI p), (3, mI q)] [] (mm_w X A) r) ∧ LC V N t (pi (wq V t) p n q L) A' ∧ ∀ b k, b ≠ 35 → A' b k = A b k
  | 0, q, L, A, h, hW, hL => by
    have a0 := hL.1
    exact ⟨A, fun r k => p84_45_0 (by omega) k, hL, fun _ _ _ => rfl⟩
  | n + 1, q, L, A, h, hW, hL => by
    obtain ⟨a0, a1, a2, a3⟩ := hL
    obtain ⟨t1, t2⟩ := a1 q (by omega)
    have bw := wq_bd hV ht p q hp (by omega)
    have b1 := Wk_bd hN.2 hc (fun p q h1 h2 => (wq_bd hV ht p q h1 h2).1) hW hp
    have b2 := Wk_bd hN.2 hc (fun p q h1 h2 => (wq_bd hV ht p q h1 h2).1) hW (p := q) (by omega)
    have e : A 35 q + A (27 + (p : Int).toNat) (A 34 q) - A (27 + (q : Int).toNat) (A 34 q) = L q + wq V t p q := by
      rw [t1, a3 q (by omega), a2 p (t q) (by omega) (by omega) (by omega) (by omega), a2 q (t q) (by omega) (by omega) (by omega) (by omega)]
      show _ = L q + (V p (t q) - V q (t q))
      omega
    have ep := a3 p hp
    obtain ⟨A', k1, k2, k3⟩ := c84_q hV hN ht hc hp n (q + 1) (pq (wq V t) L p q) (mm_u A 35 p (max (A 35 p) (A 35 q + A (27 + (p : Int).toNat) (A 34 q) - A (27 + (q : Int).toNat) (A 34 q)))) (by omega) (Wk_pq hW (by omega)) ⟨by rw [mm_u_ne (by omega), a0], fun q hq => by rw [mm_u_ne (by omega)]; exact a1 q hq, fun p r h1 h2 h3 h4 => by rw [mm_u_ne (by omega)]; exact a2 p r h1 h2 h3 h4, fun i hi => by
      unfold pq upn
      by_cases ei : i = p
      · rw [ei, mm_u_same, if_pos rfl, e, ep]
      · rw [mm_u_ne (by omega), if_neg ei]
        exact a3 i hi⟩
    refine ⟨A', fun r k => ?_, k2, fun b k hb => by rw [k3 b k hb, mm_u_ne (by omega)]⟩
    have k4 := k1 r k
    rw [show ((q + 1 : Nat) : Int) = (q : Int) + 1 by omega] at k4
    refine p84_45_1 ?_ k4
    rw [e]
    omega
theorem c84_p (hV : ZR V N) (hN : 1 ≤ N ∧ N ≤ 6) (ht : ∀ q, q < N → t q < N) (hc : NC (wq V t) N) {x1 : Int} : ∀ (n p : Nat) (L : Nat → Int) (A : MF), p + n = N → Wk (wq V t) N L → LC V N t L A → ∃ A' : MF, (∀ r, mm_E 1 (d + 1) 84 25 [(0, .ref 25), (1, mI (x1 + 1))] [] (mm_w X A') r → mm_E 1 (d + 1) 84 35 [(0, .ref 25), (1, mI x1), (2, mI p)] [] (mm_w X A) r) ∧ LC V N t (po (wq V t) N n p L) A' ∧ ∀ b k, b ≠ 35 → A' b k = A b k
  | 0, p, L, A, h, hW, hL => by
    have a0 := hL.1
    exact ⟨A, fun r k => p84_35_0 (by omega) k, hL, fun _ _ _ => rfl⟩
  | n + 1, p, L, A, h, hW, hL => by
    have a0 := hL.1
    obtain ⟨A1, k1, k2, k3⟩ := c84_q (X := X) (d := d) (x1 := x1) hV hN ht hc (p := p) (by omega) N 0 L A (by omega) hW hL
    obtain ⟨A2, u1, u2, u3⟩ := c84_p hV hN ht hc n (p + 1) _ A1 (by omega) (Wk_pi hW (by omega)) k2
    refine ⟨A2, fun r k => ?_, u2, fun b k hb => by rw [u3 b k hb, k3 b k hb]⟩
    have u4 := u1 r k
    rw [show ((p + 1 : Nat) : Int) = (p : Int) + 1 by omega] at u4
    exact p84_35_1 (by omega) (k1 r u4)
theorem c84_k (hV : ZR V N) (hN : 1 ≤ N ∧ N ≤ 6) (ht : ∀ q, q < N → t q < N) (hc : NC (wq V t) N) : ∀ (n : Nat) (x1 : Int) (L : Nat → Int) (A : MF), 0 ≤ x1 → x1 + n = N → Wk (wq V t) N L → LC V N t L A → ∃ A' : MF, mm_E 1 (d + 1) 84 25 [(0, .ref 25), (1, mI x1)] [] (mm_w X A) (.inl none, mm_w X A', 0, 0) ∧ LC V N t (pn (wq V t) N n L) A' ∧ ∀ b k, b ≠ 35 → A' b k = A b k
  | 0, x1, L, A, h0, h, hW, hL => by
    have a0 := hL.1
    exact ⟨A, p84_25_0 (by omega), hL, fun _ _ _ => rfl⟩
  | n + 1, x1, L, A, h0, h, hW, hL => by
    have a0 := hL.1
    obtain ⟨A1, k1, k2, k3⟩ := c84_p (X := X) (d := d) (x1 := x1) hV hN ht hc N 0 L A (by omega) hW hL
    obtain ⟨A2, u1, u2, u3⟩ := c84_k hV hN ht hc n (x1 + 1) _ A1 (by omega) (by omega) (Wk_po hW) k2
    exact ⟨A2, p84_25_1 (by omega) (k1 _ u1), u2, fun b k hb => by rw [u3 b k hb, k3 b k hb]⟩
theorem c84_z {r : MR} (hN : 1 ≤ N ∧ N ≤ 6) (h0 : A 25 0 = N) (k : mm_E 1 d 84 25 [(0, .ref 25), (1, mI 1)] [] (mm_w X (mm_fr A 35 0 N 0)) r) : ∀ (n : Nat) (i : Int), 0 ≤ i → i + n = N → mm_E 1 d 84 2 [(0, .ref 25), (1, mI i)] [] (mm_w X (mm_fr A 35 0 i 0)) r
  | 0, i, hi, h => by
    rw [show i = N by omega]
    refine p84_2_0 ?_ k
    rw [mm_fr_out (by omega)]
    omega
  | n + 1, i, hi, h => by
    refine p84_2_1 ?_ ?_
    · rw [mm_fr_out (by omega)]
      omega
    · rw [mm_fr_s hi]
      exact c84_z hN h0 k n (i + 1) (by omega) (by omega)
/-- the leads -/
abbrev ld (V : Int → Int → Int) (N : Nat) (t : Nat → Nat) : Nat → Int := pn (wq V t) N (N - 1) (fun _ => 0)
theorem c84 (hV : ZR V N) (hN : 1 ≤ N ∧ N ≤ 6) (ht : ∀ q, q < N → t q < N) (hc : NC (wq V t) N) (h0 : A 25 0 = N) (h1 : ∀ q : Nat, q < N → A 34 q = t q) (h2 : ∀ p r : Int, 0 ≤ p → p < N → 0 ≤ r → r < N → A (27 + p.toNat) r = V p r) : ∃ A' : MF, mm_E 1 (d + 1) 84 0 [(0, .ref 25)] [] (mm_w X A) (.inl none, mm_w X A', 0, 0) ∧ LC V N t (ld V N t) A' ∧ ∀ b k, b ≠ 35 → A' b k = A b k := by
  obtain ⟨A', k1, k2, k3⟩ := c84_k (X := X) (d := d) hV hN ht hc (N - 1) 1 (fun _ => 0) (mm_fr A 35 0 N 0) (by omega) (by omega) Wk_zero ⟨by rw [mm_fr_out (by omega), h0], fun q hq => ⟨by rw [mm_fr_out (by omega)]; exact h1 q hq, ht q hq⟩, fun p r p1 p2 p3 p4 => by rw [mm_fr_out (by omega)]; exact h2 p r p1 p2 p3 p4, fun q hq => mm_fr_in (by omega) (by omega)⟩
  have z := c84_z (X := X) (d := d + 1) (A := A) hN h0 k1 N 0 (by omega) (by omega)
  rw [mm_fr_0] at z
  exact ⟨A', p84_0_0 z, k2, fun b k hb => by rw [k3 b k hb, mm_fr_out (by omega)]⟩
/-! the reference's leads -/
theorem c101_q (hV : ZR V N) (hN : 1 ≤ N ∧ N ≤ 6) (ht : ∀ q, q < N → t q < N) (hc : NC (wq V t) N) {x1 : Int} {p : Nat} (hp : p < N) : ∀ (n q : Nat) (L : Nat → Int) (A : MF), q + n = N → Wk (wq V t) N L → LM V N t L A → ∃ A' : MF, (∀ r, mm_E 1 (d + 1) 101 35 [(0, .ref 77), (1, mI x1), (2, mI ((p : Int) + 1))] [] (mm_w X A') r → mm_E 1 (d + 1) 101 45 [(0, .ref 77), (1, mI x1), (2, mI p), (3, mI q)] [] (mm_w X A) r) ∧ LM V N t (pi (wq V t) p n q L) A' ∧ ∀ b k, b ≠ 85 → A' b k = A b k
  | 0, q, L, A, h, hW, hL => by
    have a0 := hL.1
    exact ⟨A, fun r k => p101_45_0 (by omega) k, hL, fun _ _ _ => rfl⟩
  | n + 1, q, L, A, h, hW, hL => by
    have hL' := hL
    obtain ⟨a0, a1, a2, a3⟩ := hL'
    obtain ⟨t1, t2⟩ := a1 q (by omega)
    have bw := wq_bd hV ht p q hp (by omega)
    have b1 := Wk_bd hN.2 hc (fun p q h1 h2 => (wq_bd hV ht p q h1 h2).1) hW hp
    have b2 := Wk_bd hN.2 hc (fun p q h1 h2 => (wq_bd hV ht p q h1 h2).1) hW (p := q) (by omega)
    have e : A 85 q + A 82 (6 * (p : Int) + A 83 q) - A 82 (6 * (q : Int) + A 83 q) = L q + wq V t p q := by
      rw [t1, a3 q (by omega), a2 p (t q) (by omega) (by omega) (by omega) (by omega), a2 q (t q) (by omega) (by omega) (by omega) (by omega)]
      show _ = L q + (V p (t q) - V q (t q))
      omega
    have ep := a3 p hp
    by_cases c : L q + wq V t p q ≤ L p
    · obtain ⟨A', k1, k2, k3⟩ := c101_q hV hN ht hc hp n (q + 1) L A (by omega) hW hL
      refine ⟨A', fun r k => ?_, by show LM V N t (pi (wq V t) p n (q + 1) (pq (wq V t) L p q)) A'; rw [pq_id c]; exact k2, k3⟩
      have k4 := k1 r k
      rw [show ((q + 1 : Nat) : Int) = (q : Int) + 1 by omega] at k4
      refine p101_45_1 ?_ k4
      rw [e, t1]
      omega
    · obtain ⟨A', k1, k2, k3⟩ := c101_q hV hN ht hc hp n (q + 1) (pq (wq V t) L p q) (mm_u A 85 p (A 85 q + A 82 (6 * (p : Int) + A 83 q) - A 82 (6 * (q : Int) + A 83 q))) (by omega) (Wk_pq hW (by omega)) ⟨by rw [mm_u_ne (by omega), a0], fun q hq => by rw [mm_u_ne (by omega)]; exact a1 q hq, fun p r h1 h2 h3 h4 => by rw [mm_u_ne (by omega)]; exact a2 p r h1 h2 h3 h4, fun i hi => by
        unfold pq upn
        by_cases ei : i = p
        · rw [ei, mm_u_same, if_pos rfl, e]
          omega
        · rw [mm_u_ne (by omega), if_neg ei]
          exact a3 i hi⟩
      refine ⟨A', fun r k => ?_, k2, fun b k hb => by rw [k3 b k hb, mm_u_ne (by omega)]⟩
      have k4 := k1 r k
      rw [show ((q + 1 : Nat) : Int) = (q : Int) + 1 by omega] at k4
      refine p101_45_2 ?_ k4
      rw [e, t1]
      omega
theorem c101_p (hV : ZR V N) (hN : 1 ≤ N ∧ N ≤ 6) (ht : ∀ q, q < N → t q < N) (hc : NC (wq V t) N) {x1 : Int} : ∀ (n p : Nat) (L : Nat → Int) (A : MF), p + n = N → Wk (wq V t) N L → LM V N t L A → ∃ A' : MF, (∀ r, mm_E 1 (d + 1) 101 25 [(0, .ref 77), (1, mI (x1 + 1))] [] (mm_w X A') r → mm_E 1 (d + 1) 101 35 [(0, .ref 77), (1, mI x1), (2, mI p)] [] (mm_w X A) r) ∧ LM V N t (po (wq V t) N n p L) A' ∧ ∀ b k, b ≠ 85 → A' b k = A b k
  | 0, p, L, A, h, hW, hL => by
    have a0 := hL.1
    exact ⟨A, fun r k => p101_35_0 (by omega) k, hL, fun _ _ _ => rfl⟩
  | n + 1, p, L, A, h, hW, hL => by
    have a0 := hL.1
    obtain ⟨A1, k1, k2, k3⟩ := c101_q (X := X) (d := d) (x1 := x1) hV hN ht hc (p := p) (by omega) N 0 L A (by omega) hW hL
    obtain ⟨A2, u1, u2, u3⟩ := c101_p hV hN ht hc n (p + 1) _ A1 (by omega) (Wk_pi hW (by omega)) k2
    refine ⟨A2, fun r k => ?_, u2, fun b k hb => by rw [u3 b k hb, k3 b k hb]⟩
    have u4 := u1 r k
    rw [show ((p + 1 : Nat) : Int) = (p : Int) + 1 by omega] at u4
    exact p101_35_1 (by omega) (k1 r u4)
theorem c101_k (hV : ZR V N) (hN : 1 ≤ N ∧ N ≤ 6) (ht : ∀ q, q < N → t q < N) (hc : NC (wq V t) N) : ∀ (n : Nat) (x1 : Int) (L : Nat → Int) (A : MF), 0 ≤ x1 → x1 + n = N → Wk (wq V t) N L → LM V N t L A → ∃ A' : MF, mm_E 1 (d + 1) 101 25 [(0, .ref 77), (1, mI x1)] [] (mm_w X A) (.inl none, mm_w X A', 0, 0) ∧ LM V N t (pn (wq V t) N n L) A' ∧ ∀ b k, b ≠ 85 → A' b k = A b k
  | 0, x1, L, A, h0, h, hW, hL => by
    have a0 := hL.1
    exact ⟨A, p101_25_0 (by omega), hL, fun _ _ _ => rfl⟩
  | n + 1, x1, L, A, h0, h, hW, hL => by
    have a0 := hL.1
    obtain ⟨A1, k1, k2, k3⟩ := c101_p (X := X) (d := d) (x1 := x1) hV hN ht hc N 0 L A (by omega) hW hL
    obtain ⟨A2, u1, u2, u3⟩ := c101_k hV hN ht hc n (x1 + 1) _ A1 (by omega) (by omega) (Wk_po hW) k2
    exact ⟨A2, p101_25_1 (by omega) (k1 _ u1), u2, fun b k hb => by rw [u3 b k hb, k3 b k hb]⟩
theorem c101_z {r : MR} (hN : 1 ≤ N ∧ N ≤ 6) (h0 : A 77 1 = N) (k : mm_E 1 d 101 25 [(0, .ref 77), (1, mI 0)] [] (mm_w X (mm_fr A 85 0 N 0)) r) : ∀ (n : Nat) (i : Int), 0 ≤ i → i + n = N → mm_E 1 d 101 2 [(0, .ref 77), (1, mI i)] [] (mm_w X (mm_fr A 85 0 i 0)) r
  | 0, i, hi, h => by
    rw [show i = N by omega]
    refine p101_2_0 ?_ k
    rw [mm_fr_out (by omega)]
    omega
  | n + 1, i, hi, h => by
    refine p101_2_1 ?_ ?_
    · rw [mm_fr_out (by omega)]
      omega
    · rw [mm_fr_s hi]
      exact c101_z hN h0 k n (i + 1) (by omega) (by omega)
theorem c101 (hV : ZR V N) (hN : 1 ≤ N ∧ N ≤ 6) (ht : ∀ q, q < N → t q < N) (hc : NC (wq V t) N) (h0 : A 77 1 = N) (h1 : ∀ q : Nat, q < N → A 83 q = t q) (h2 : ∀ p r : Int, 0 ≤ p → p < N → 0 ≤ r → r < N → A 82 (6 * p + r) = V p r) : ∃ A' : MF, mm_E 1 (d + 1) 101 0 [(0, .ref 77)] [] (mm_w X A) (.inl none, mm_w X A', 0, 0) ∧ LM V N t (ld V N t) A' ∧ ∀ b k, b ≠ 85 → A' b k = A b k := by
  obtain ⟨A', k1, k2, k3⟩ := c101_k (X := X) (d := d) hV hN ht hc N 0 (fun _ => 0) (mm_fr A 85 0 N 0) (by omega) (by omega) Wk_zero ⟨by rw [mm_fr_out (by omega), h0], fun q hq => ⟨by rw [mm_fr_out (by omega)]; exact h1 q hq, ht q hq⟩, fun p r p1 p2 p3 p4 => by rw [mm_fr_out (by omega)]; exact h2 p r p1 p2 p3 p4, fun q hq => mm_fr_in (by omega) (by omega)⟩
  have z := c101_z (X := X) (d := d + 1) (A := A) hN h0 k1 N 0 (by omega) (by omega)
  rw [mm_fr_0] at z
  rw [pn_last hN.1 hc] at k2
  exact ⟨A', p101_0_0 z, k2, fun b k hb => by rw [k3 b k hb, mm_fr_out (by omega)]⟩
/-! rents -/
def sl (L : Nat → Int) : Nat → Int
  | 0 => 0
  | n + 1 => sl L n + L n
theorem sl_s {L : Nat → Int} {n : Nat} : sl L (n + 1) = sl L n + L n := rfl
theorem sl_bd {L : Nat → Int} : ∀ {n : Nat}, (∀ q, q < n → 0 ≤ L q ∧ L q ≤ 500000) → 0 ≤ sl L n ∧ sl L n ≤ 500000 * n
  | 0, _ => by simp [sl]
  | n + 1, h => by
    have := sl_bd (n := n) fun q hq => h q (by omega)
    have := h n (by omega)
    rw [sl_s]
    omega
/-- N times p's rent -/
abbrev rn (V : Int → Int → Int) (N : Nat) (t : Nat → Nat) (L : Nat → Int) (y : Int) (p : Nat) : Int := (V p (t p) - L p) * N - y
theorem rn_bd (hV : ZR V N) (hN : 1 ≤ N ∧ N ≤ 6) (ht : ∀ q, q < N → t q < N) {L : Nat → Int} (hL : ∀ q, q < N → 0 ≤ L q ∧ L q ≤ 500000) {y : Int} (hy : -10000000 ≤ y ∧ y ≤ 10000000) {p : Nat} (hp : p < N) : (rn V N t L y p).natAbs < 9223372036854775808 := by
  have h := ht p hp
  have h1 := hV p (t p) (by omega) (by omega) (by omega) (by omega)
  have h2 := hL p hp
  have h3 : (V p (t p) - L p) * N ≤ 100000 * N := Int.mul_le_mul_of_nonneg_right (by omega) (by omega)
  have h4 : -500000 * N ≤ (V p (t p) - L p) * N := Int.mul_le_mul_of_nonneg_right (by omega) (by omega)
  show ((V p (t p) - L p) * N - y).natAbs < 9223372036854775808
  omega
theorem c85_1 {w : Nat} {r : MR} {L : Nat → Int} {y : Int} (hN : 1 ≤ N ∧ N ≤ 6) (hb : ∀ q, q < N → 0 ≤ L q ∧ L q ≤ 500000) (hL : LC V N t L A) (k : mm_E w d 85 39 [(0, .ref 25), (1, mJ (y - sl L N)), (3, mI 0)] [] (mm_w X A) r) : ∀ (n i : Nat), i + n = N → mm_E w d 85 13 [(0, .ref 25), (1, mJ (y - sl L i)), (3, mI i)] [] (mm_w X A) r
  | 0, i, h => by
    have a0 := hL.1
    rw [show N = i by omega] at k
    exact p85_13_0 (by omega) k
  | n + 1, i, h => by
    have q := c85_1 hN hb hL k n (i + 1) (by omega)
    obtain ⟨a0, a1, a2, a3⟩ := hL
    have e := a3 i (by omega)
    have b := hb i (by omega)
    rw [sl_s, ← e, show y - (sl L i + A 35 i) = y - sl L i - A 35 i by omega, show ((i + 1 : Nat) : Int) = (i : Int) + 1 by omega] at q
    exact p85_13_1 (by omega) q
theorem c85_2 (hV : ZR V N) (hN : 1 ≤ N ∧ N ≤ 6) (ht : ∀ q, q < N → t q < N) {L : Nat → Int} (hb : ∀ q, q < N → 0 ≤ L q ∧ L q ≤ 500000) {y : Int} (hy : -10000000 ≤ y ∧ y ≤ 10000000) : ∀ (n p : Nat) (A : MF), p + n = N → LC V N t L A → (∀ q : Nat, q < p → A (37 + q) 0 = ft (rn V N t L y q) N ∧ A (37 + q) 1 = fb (rn V N t L y q) N) → ∃ A' : MF, mm_E 1 (d + 2) 85 39 [(0, .ref 25), (1, mJ y), (3, mI p)] [] (mm_w X A) (.inl none, mm_w X A', 0, 0) ∧ (∀ b k, ¬ (37 ≤ b ∧ b ≤ 42) → A' b k = A b k) ∧ ∀ q : Nat, q < N → A' (37 + q) 0 = ft (rn V N t L y q) N ∧ A' (37 + q) 1 = fb (rn V N t L y q) N
  | 0, p, A, h, hL, hr => by
    have a0 := hL.1
    exact ⟨A, p85_39_0 (by omega), fun _ _ _ => rfl, fun q hq => hr q (by omega)⟩
  | n + 1, p, A, h, hL, hr => by
    obtain ⟨a0, a1, a2, a3⟩ := hL
    obtain ⟨t1, t2⟩ := a1 p (by omega)
    have e1 := a3 p (by omega)
    have e2 : A (27 + (p : Int).toNat) (A 34 p) = V p (t p) := by rw [t1, a2 p (t p) (by omega) (by omega) (by omega) (by omega)]
    have bl := hb p (by omega)
    have bv := hV p (t p) (by omega) (by omega) (by omega) (by omega)
    have hq := rn_bd hV hN ht hb hy (p := p) (by omega)
    have k := c46 (X := X) (d := d) (A := A) (a := 37 + (p : Int).toNat) (y := rn V N t L y p) (b := N) (lr37 (by omega) (by omega)) hq (by omega) (by omega)
    have el : 37 + (p : Int).toNat = 37 + p := by omega
    rw [el] at k
    obtain ⟨A', u1, u2, u3⟩ := c85_2 hV hN ht hb hy n (p + 1) (mm_u (mm_u A (37 + p) 0 (ft (rn V N t L y p) N)) (37 + p) 1 (fb (rn V N t L y p) N)) (by omega) ⟨by rw [mm_u2_ne (by omega) (by omega), a0], fun q hq => by rw [mm_u2_ne (by omega) (by omega)]; exact a1 q hq, fun p' r h1 h2 h3 h4 => by rw [mm_u2_ne (by omega) (by omega)]; exact a2 p' r h1 h2 h3 h4, fun q hq => by rw [mm_u2_ne (by omega) (by omega)]; exact a3 q hq⟩ (fun q hq => by
      by_cases e : q = p
      · rw [e, mm_u_ne (by omega), mm_u_same, mm_u_same]
        exact ⟨rfl, rfl⟩
      · rw [mm_u2_ne (by omega) (by omega), mm_u2_ne (by omega) (by omega)]
        exact hr q (by omega))
    refine ⟨A', ?_, fun b k hb => by rw [u2 b k hb, mm_u2_ne (by omega) (by omega)], u3⟩
    rw [show ((p + 1 : Nat) : Int) = (p : Int) + 1 by omega] at u1
    refine p85_39_1 ?_ (by omega) u1
    rw [e2, e1, a0, el]
    exact k
theorem c127_o {w : Nat} {r : MR} {L : Nat → Int} {x2 y : Int} (hN : 1 ≤ N ∧ N ≤ 6) (hL : LM V N t L A) (k : mm_E w d 127 244 [(0, .ref 77), (2, mI x2), (3, mI (y - sl L N)), (4, mI 0)] [] (mm_w X A) r) : ∀ (n i : Nat), i + n = N → mm_E w d 127 216 [(0, .ref 77), (2, mI x2), (3, mI (y - sl L i)), (4, mI i)] [] (mm_w X A) r
  | 0, i, h => by
    have a0 := hL.1
    rw [show N = i by omega] at k
    exact p127_216_0 (by omega) k
  | n + 1, i, h => by
    have q := c127_o hN hL k n (i + 1) (by omega)
    obtain ⟨a0, a1, a2, a3⟩ := hL
    have e := a3 i (by omega)
    rw [sl_s, ← e, show y - (sl L i + A 85 i) = y - sl L i - A 85 i by omega, show ((i + 1 : Nat) : Int) = (i : Int) + 1 by omega] at q
    exact p127_216_1 (by omega) q
theorem c127_r (hV : ZR V N) (hN : 1 ≤ N ∧ N ≤ 6) (ht : ∀ q, q < N → t q < N) {L : Nat → Int} (hb : ∀ q, q < N → 0 ≤ L q ∧ L q ≤ 500000) {x2 y : Int} (hy : -10000000 ≤ y ∧ y ≤ 10000000) : ∀ (n p : Nat) (A : MF), p + n = N → LM V N t L A → (∀ q : Nat, q < p → A 86 q = ft (rn V N t L y q) N ∧ A 87 q = fb (rn V N t L y q) N) → ∃ A' : MF, mm_E 1 (d + 2) 127 244 [(0, .ref 77), (2, mI x2), (3, mI y), (4, mI p)] [] (mm_w X A) (.inl (some (mI x2)), mm_w X (mm_u A' 77 9 1), 0, 0) ∧ (∀ b k, b ≠ 86 → b ≠ 87 → (b ≠ 77 ∨ (k ≠ 24 ∧ k ≠ 25)) → A' b k = A b k) ∧ ∀ q : Nat, q < N → A' 86 q = ft (rn V N t L y q) N ∧ A' 87 q = fb (rn V N t L y q) N
  | 0, p, A, h, hL, hr => by
    have a0 := hL.1
    exact ⟨A, p127_244_0 (by omega), fun _ _ _ _ _ => rfl, fun q hq => hr q (by omega)⟩
  | n + 1, p, A, h, hL, hr => by
    obtain ⟨a0, a1, a2, a3⟩ := hL
    obtain ⟨t1, t2⟩ := a1 p (by omega)
    have e1 := a3 p (by omega)
    have e2 : A 82 (6 * (p : Int) + A 83 p) = V p (t p) := by rw [t1, a2 p (t p) (by omega) (by omega) (by omega) (by omega)]
    have bl := hb p (by omega)
    have bv := hV p (t p) (by omega) (by omega) (by omega) (by omega)
    have hq := rn_bd hV hN ht hb hy (p := p) (by omega)
    have k := c102 (X := X) (d := d) (A := A) (y := rn V N t L y p) (b := N) hq (by omega) (by omega)
    have f1 : mm_u (mm_u A 77 24 (ft (rn V N t L y p) N)) 77 25 (fb (rn V N t L y p) N) 77 24 = ft (rn V N t L y p) N := by rw [mm_u_ne (by omega), mm_u_same]
    have f2 : mm_u (mm_u A 77 24 (ft (rn V N t L y p) N)) 77 25 (fb (rn V N t L y p) N) 77 25 = fb (rn V N t L y p) N := mm_u_same
    have fr : ∀ b k, b ≠ 86 → b ≠ 87 → (b ≠ 77 ∨ (k ≠ 24 ∧ k ≠ 25)) → mm_u (mm_u (mm_u (mm_u A 77 24 (ft (rn V N t L y p) N)) 77 25 (fb (rn V N t L y p) N)) 86 p (ft (rn V N t L y p) N)) 87 p (fb (rn V N t L y p) N) b k = A b k := fun b k h1 h2 h3 => by
      rw [mm_u2_ne (by omega) (by omega), mm_u2_ne (by omega) (by omega)]
    obtain ⟨A', u1, u2, u3⟩ := c127_r hV hN ht hb hy n (p + 1) (mm_u (mm_u (mm_u (mm_u A 77 24 (ft (rn V N t L y p) N)) 77 25 (fb (rn V N t L y p) N)) 86 p (ft (rn V N t L y p) N)) 87 p (fb (rn V N t L y p) N)) (by omega) ⟨by rw [fr _ _ (by omega) (by omega) (by omega), a0], fun q hq => by rw [fr _ _ (by omega) (by omega) (by omega)]; exact a1 q hq, fun p' r h1 h2 h3 h4 => by rw [fr _ _ (by omega) (by omega) (by omega)]; exact a2 p' r h1 h2 h3 h4, fun q hq => by rw [fr _ _ (by omega) (by omega) (by omega)]; exact a3 q hq⟩ (fun q hq => by
      by_cases e : q = p
      · rw [e, mm_u_ne (by omega), mm_u_same, mm_u_same]
        exact ⟨rfl, rfl⟩
      · rw [mm_u2_ne (by omega) (by omega), mm_u2_ne (by omega) (by omega), mm_u2_ne (by omega) (by omega), mm_u2_ne (by omega) (by omega)]
        exact hr q (by omega))
    refine ⟨A', ?_, fun b k h1 h2 h3 => by rw [u2 b k h1 h2 h3, fr b k h1 h2 h3], u3⟩
    rw [show ((p + 1 : Nat) : Int) = (p : Int) + 1 by omega] at u1
    refine p127_244_1 (A0 := mm_u (mm_u A 77 24 (ft (rn V N t L y p) N)) 77 25 (fb (rn V N t L y p) N)) ?_ (by omega) ?_
    · rw [e2, e1, a0]
      exact k
    · rw [f1, f2]
      exact u1
end RL
