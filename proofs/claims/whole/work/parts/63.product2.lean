/-! product: the run, the reference, the round. -/
section PE2
variable {X : List Value} {d : Nat} {A B : MF} {U : Int → Int → Int} {N m : Nat} {x4 z0 z1 z2 z3 : Int}
theorem c87_i {p : Int} (hp : 0 ≤ p) (hp2 : p < 6) (hm : m ≤ 12) : ∀ (n : Nat) (A : MF), n ≤ m → A 13 2 = 3 → (∀ j : Nat, n ≤ j → j ≤ m → A (17 + p.toNat) j = gs (U p) j (m - j)) → (∀ i : Int, 0 ≤ i → i < 12 → A (4 + p.toNat) i = U p i) → ∃ A' : MF, (∀ r, mm_E 1 d 87 34 [(0, .ref 13), (5, mI (p + 1))] [] (mm_w X A') r → mm_E 1 d 87 72 [(0, .ref 13), (5, mI p), (6, mI ((n : Int) - 1))] [] (mm_w X A) r) ∧ (∀ b k, b ≠ 17 + p.toNat → A' b k = A b k) ∧ ∀ j : Nat, j ≤ m → A' (17 + p.toNat) j = gs (U p) j (m - j)
  | 0, A, h, h2, hg, hv => ⟨A, fun r k => p87_72_0 (by omega) k, fun _ _ _ => rfl, fun j hj => hg j (by omega) hj⟩
  | n + 1, A, h, h2, hg, hv => by
    have e : A (17 + p.toNat) ((n : Int) + 1) + A (4 + p.toNat) n = gs (U p) n (m - n) := by
      rw [show (n : Int) + 1 = ((n + 1 : Nat) : Int) by omega, hg (n + 1) (by omega) (by omega), hv n (by omega) (by omega), show m - n = (m - (n + 1)) + 1 by omega, gs_f]
    obtain ⟨A', k1, k2, k3⟩ := c87_i hp hp2 hm n (mm_u A (17 + p.toNat) n (gs (U p) n (m - n))) (by omega) (by rw [mm_u_ne (by omega), h2]) (fun j j1 j2 => by
      by_cases ej : j = n
      · rw [ej, mm_u_same]
      · rw [mm_u_ne (by omega)]
        exact hg j (by omega) j2) (fun i i1 i2 => by rw [mm_u_ne (by omega)]; exact hv i i1 i2)
    refine ⟨A', fun r k => ?_, fun b k hb => by rw [k2 b k hb, mm_u_ne (by omega)], k3⟩
    rw [show ((n + 1 : Nat) : Int) - 1 = n by omega]
    refine p87_72_1 (by omega) ?_
    rw [e, show (n : Int) + -1 = (n : Int) - 1 by omega]
    exact k1 r k
theorem c87_o (hN : 1 ≤ N ∧ N ≤ 6) (hm : m ≤ 12) : ∀ (n p : Nat) (A : MF), p + n = N → A 13 0 = N → A 13 1 = m → A 13 2 = 3 → (∀ p i : Int, 0 ≤ p → p < N → 0 ≤ i → i < 12 → A (4 + p.toNat) i = U p i) → (∀ q : Int, 0 ≤ q → q < p → A 15 q = 0 ∧ ∀ j : Nat, j ≤ m → A (17 + q.toNat) j = gs (U q) j (m - j)) → ∃ A' : MF, (∀ r, mm_E 1 d 87 34 [(0, .ref 13), (5, mI N)] [] (mm_w X A') r → mm_E 1 d 87 34 [(0, .ref 13), (5, mI p)] [] (mm_w X A) r) ∧ (∀ b k, b ≠ 15 → ¬ (17 ≤ b ∧ b ≤ 22) → A' b k = A b k) ∧ ∀ q : Int, 0 ≤ q → q < N → A' 15 q = 0 ∧ ∀ j : Nat, j ≤ m → A' (17 + q.toNat) j = gs (U q) j (m - j)
  | 0, p, A, h, h0, h1, h2, hv, hg => by
    rw [show p = N by omega] at hg ⊢
    exact ⟨A, fun r k => k, fun _ _ _ _ => rfl, hg⟩
  | n + 1, p, A, h, h0, h1, h2, hv, hg => by
    obtain ⟨A1, k1, k2, k3⟩ := c87_i (X := X) (d := d) (U := U) (p := p) (by omega) (by omega) hm m (mm_u (mm_u A 15 p 0) (17 + (p : Int).toNat) (A 13 1) 0) (by omega) (by rw [mm_u2_ne (by omega) (by omega), h2]) (fun j j1 j2 => by
      rw [show j = m by omega, ← h1, mm_u_same, Nat.sub_self]
      rfl) (fun i i1 i2 => by rw [mm_u2_ne (by omega) (by omega)]; exact hv p i (by omega) (by omega) i1 i2)
    obtain ⟨A2, t1, t2, t3⟩ := c87_o hN hm n (p + 1) A1 (by omega) (by rw [k2 _ _ (by omega), mm_u2_ne (by omega) (by omega), h0]) (by rw [k2 _ _ (by omega), mm_u2_ne (by omega) (by omega), h1]) (by rw [k2 _ _ (by omega), mm_u2_ne (by omega) (by omega), h2]) (fun p i p1 p2 p3 p4 => by
      rw [k2 _ _ (by omega), mm_u2_ne (by omega) (by omega)]
      exact hv p i p1 p2 p3 p4) (fun q q1 q2 => by
      by_cases e : q = p
      · rw [e]
        refine ⟨?_, k3⟩
        rw [k2 _ _ (by omega), mm_u_ne (by omega), mm_u_same]
      · have := hg q q1 (by omega)
        refine ⟨?_, fun j hj => ?_⟩
        · rw [k2 _ _ (by omega), mm_u2_ne (by omega) (by omega)]
          exact this.1
        · rw [k2 _ _ (by omega), mm_u2_ne (by omega) (by omega)]
          exact this.2 j hj)
    refine ⟨A2, fun r k => ?_, fun b k h1 h2 => by rw [t2 b k h1 h2, k2 b k (by omega), mm_u2_ne (by omega) (by omega)], t3⟩
    have t := t1 r k
    rw [show ((p + 1 : Nat) : Int) = (p : Int) + 1 by omega] at t
    refine p87_34_1 (by omega) ?_
    have k4 := k1 r t
    rw [h1] at k4 ⊢
    exact k4
theorem stp_pos {s : ST} {k : Nat} : 0 ≤ (stp U N m s k).1 := by
  have := ct_bd (h := sp U N m k) (n := N)
  unfold stp
  split
  · exact this.1
  · omega
/-- the best of all -/
abbrev bst (U : Int → Int → Int) (N m : Nat) : ST := fo (stp U N m) (-1, 0, 0) 0 (N ^ m)
theorem bst_pos (hN : 1 ≤ N) : 0 ≤ (bst U N m).1 := by
  have h : 0 < N ^ m := Nat.pow_pos hN
  unfold bst
  rw [show N ^ m = (N ^ m - 1) + 1 by omega, fo_s]
  exact stp_pos
theorem sr0 (hN : 1 ≤ N) : SR N m (-1, 0, 0) := ⟨Int.le_refl _, show (-1 : Int) ≤ 6 by omega, Int.le_refl _, show (0 : Int) ≤ 1000000000000000000 by omega, Nat.pow_pos hN⟩
theorem c87 (hU : UR U N) (hN : 1 ≤ N ∧ N ≤ 6) (hm : m ≤ 12) (hw : N ^ m ≤ 65536) (hv : ∀ p i : Int, 0 ≤ p → p < N → 0 ≤ i → i < 12 → A (4 + p.toNat) i = U p i) : ∃ A' : MF, mm_E 1 (d + m + 2) 87 0 [(0, .ref 13), (1, .ref 3), (2, mI N), (3, mI m), (4, .ref 10)] [] (mm_w X A) (.inl (some (mJ (bst U N m).2.1)), mm_w X A', 0, 0) ∧ (∀ b k, b ≠ 10 → ¬ (13 ≤ b ∧ b ≤ 22) → A' b k = A b k) ∧ (∀ j : Nat, j < m → A' 10 j = pd N m (bst U N m).2.2 j) ∧ ∀ j : Int, m ≤ j → A' 10 j = A 10 j := by
  have hC : ∀ b k, b ≠ 13 → mm_u (mm_u (mm_u (mm_u (mm_u (mm_u A 13 0 N) 13 1 m) 13 2 3) 13 3 10) 13 4 (-1)) 13 5 0 b k = A b k := fun b k h => by
    rw [mm_u2_ne (by omega) (by omega), mm_u2_ne (by omega) (by omega), mm_u2_ne (by omega) (by omega)]
  obtain ⟨A1, k1, k2, k3⟩ := c87_o (X := X) (d := d + m + 2) (U := U) hN hm N 0 (mm_u (mm_u (mm_u (mm_u (mm_u (mm_u A 13 0 N) 13 1 m) 13 2 3) 13 3 10) 13 4 (-1)) 13 5 0) (by omega) (by rw [mm_u2_ne (by omega) (by omega), mm_u2_ne (by omega) (by omega), mm_u_ne (by omega), mm_u_same]) (by rw [mm_u2_ne (by omega) (by omega), mm_u2_ne (by omega) (by omega), mm_u_same]) (by rw [mm_u2_ne (by omega) (by omega), mm_u_ne (by omega), mm_u_same]) (fun p i p1 p2 p3 p4 => by rw [hC _ _ (by omega)]; exact hv p i p1 p2 p3 p4) (fun q q1 q2 => by omega)
  obtain ⟨A2, t1, t2, t3⟩ := c88 (X := X) (d := d) hU hN hm hw m 0 0 (-1, 0, 0) A1 (by omega) (by rw [Nat.pow_zero]; omega) (sr0 hN.1) ⟨by rw [k2 _ _ (by omega) (by omega), mm_u2_ne (by omega) (by omega), mm_u2_ne (by omega) (by omega), mm_u_ne (by omega), mm_u_same], by rw [k2 _ _ (by omega) (by omega), mm_u2_ne (by omega) (by omega), mm_u2_ne (by omega) (by omega), mm_u_same], by rw [k2 _ _ (by omega) (by omega), mm_u2_ne (by omega) (by omega), mm_u_ne (by omega), mm_u_same], by rw [k2 _ _ (by omega) (by omega), mm_u2_ne (by omega) (by omega), mm_u_same], by rw [k2 _ _ (by omega) (by omega), mm_u_ne (by omega), mm_u_same], by rw [k2 _ _ (by omega) (by omega), mm_u_same], fun p p1 p2 => (k3 p p1 p2).1, fun j hj => by omega, fun p j p1 p2 p3 => (k3 p p1 p2).2 j p3, fun p i p1 p2 p3 p4 => by rw [k2 _ _ (by omega) (by omega), hC _ _ (by omega)]; exact hv p i p1 p2 p3 p4, fun q => absurd q (show ¬ (0 : Int) ≤ -1 by omega)⟩
  rw [Nat.zero_mul] at t2
  have a0 : A1 13 0 = N := by rw [k2 _ _ (by omega) (by omega), mm_u2_ne (by omega) (by omega), mm_u2_ne (by omega) (by omega), mm_u_ne (by omega), mm_u_same]
  have q := p87_34_0 (d := d + m + 1) (x5 := N) t1 (by omega)
  rw [t2.2.2.2.2.2.1] at q
  refine ⟨A2, p87_0_0 (k1 _ q), fun b k h1 h2 => by rw [t3 b k (by omega) (by omega) (by omega) (by omega), k2 b k (by omega) (by omega), hC b k (by omega)], fun j hj => t2.2.2.2.2.2.2.2.2.2.2 (bst_pos hN.1) j hj, fun j hj => by rw [t3 10 j (by omega) (by omega) (by omega) (by omega), k2 _ _ (by omega) (by omega), hC _ _ (by omega)]⟩
/-! the reference -/
def MS (U : Int → Int → Int) (N m : Nat) (A : MF) : Prop := A 77 1 = N ∧ A 77 2 = m ∧ ∀ p i : Int, 0 ≤ p → p < N → 0 ≤ i → i < 12 → A 78 (12 * p + i) = U p i
theorem MS.eqv (h : MS U N m A) (e : ∀ b k, (b = 78 ∨ (b = 77 ∧ (k = 1 ∨ k = 2))) → B b k = A b k) : MS U N m B := by
  obtain ⟨a1, a2, a3⟩ := h
  refine ⟨by rw [e 77 1 (by omega), a1], by rw [e 77 2 (by omega), a2], fun p i h1 h2 h3 h4 => ?_⟩
  rw [e 78 _ (by omega)]
  exact a3 p i h1 h2 h3 h4
section M119
variable {x1 x2 y3 x5 x6 : Int} {r : MR}
theorem c119_z (hN : 1 ≤ N ∧ N ≤ 6) (h0 : A 77 1 = N) (k : mm_E 1 d 119 80 [(0, .ref 77), (1, mI x1), (2, mI x2), (3, mJ y3), (5, mI x5), (6, mI x6), (7, mI 0)] [] (mm_w X (mm_fr A 81 0 N 0)) r) : ∀ (n : Nat) (i : Int), 0 ≤ i → i + n = N → mm_E 1 d 119 54 [(0, .ref 77), (1, mI x1), (2, mI x2), (3, mJ y3), (5, mI x5), (6, mI x6), (7, mI i)] [] (mm_w X (mm_fr A 81 0 i 0)) r
  | 0, i, hi, h => by
    rw [show i = N by omega]
    refine p119_54_0 ?_ k
    rw [mm_fr_out (by omega)]
    omega
  | n + 1, i, hi, h => by
    refine p119_54_1 ?_ ?_
    · rw [mm_fr_out (by omega)]
      omega
    · rw [mm_fr_s hi]
      exact c119_z hN h0 k n (i + 1) (by omega) (by omega)
theorem c119_w (hU : UR U N) (hN : 1 ≤ N ∧ N ≤ 6) (hm : m ≤ 12) {k : Nat} : ∀ (n t : Nat) (A : MF), t + n = m → MS U N m A → (∀ q : Int, 0 ≤ q → q < N → A 81 q = sp U N t (k / N ^ (m - t)) q) → (∀ j : Nat, j < m → A 80 j = pd N m k j) → ∃ A' : MF, (∀ r, mm_E 1 d 119 147 [(0, .ref 77), (1, mI x1), (2, mI x2), (3, mJ y3), (5, mI x5), (6, mI x6), (7, mI 0), (8, mJ 1), (10, mI 0)] [] (mm_w X A') r → mm_E 1 d 119 80 [(0, .ref 77), (1, mI x1), (2, mI x2), (3, mJ y3), (5, mI x5), (6, mI x6), (7, mI t)] [] (mm_w X A) r) ∧ (∀ b j, b ≠ 81 → A' b j = A b j) ∧ ∀ q : Int, 0 ≤ q → q < N → A' 81 q = sp U N m k q
  | 0, t, A, h, hM, hq, hd => by
    have a2 := hM.2.1
    refine ⟨A, fun r k => p119_80_0 (by omega) k, fun _ _ _ => rfl, fun q q1 q2 => ?_⟩
    rw [hq q q1 q2, show t = m by omega, Nat.sub_self, Nat.pow_zero, Nat.div_one]
  | n + 1, t, A, h, hM, hq, hd => by
    have a2 := hM.2.1
    have hb := pd_lt (i := m) (P := k) (j := t) (N := N) (by omega)
    have e0 := hd t (by omega)
    have e1 := hM.2.2 (pd N m k t) t (by omega) (by omega) (by omega) (by omega)
    have e2 := hq (pd N m k t) (by omega) (by omega)
    obtain ⟨A', k1, k2, k3⟩ := c119_w hU hN hm n (t + 1) (mm_u A 81 (pd N m k t) (A 81 (pd N m k t) + A 78 (12 * (pd N m k t : Int) + t))) (by omega) (hM.eqv fun b j hb => mm_u_ne (by omega)) (fun q q1 q2 => by
      rw [sp_s, Nat.div_div_eq_div_mul, ← Nat.pow_succ, show (m - (t + 1)).succ = m - t by omega, show k / N ^ (m - (t + 1)) % N = pd N m k t by unfold pd; rw [show m - 1 - t = m - (t + 1) by omega]]
      by_cases e : q = (pd N m k t : Int)
      · rw [e, mm_u_same, up_same, e1, e2]
      · rw [mm_u_ne (by omega), up_ne e]
        exact hq q q1 q2) (fun j hj => by rw [mm_u_ne (by omega)]; exact hd j hj)
    refine ⟨A', fun r k => ?_, fun b j hb => by rw [k2 b j hb, mm_u_ne (by omega)], k3⟩
    refine p119_80_1 (by omega) ?_
    rw [e0]
    have k4 := k1 r k
    rw [show ((t + 1 : Nat) : Int) = (t : Int) + 1 by omega] at k4
    exact k4
theorem c119_c {w : Nat} {k : Nat} (hU : UR U N) (hN : 1 ≤ N ∧ N ≤ 6) (hm : m ≤ 12) (h0 : A 77 1 = N) (hq : ∀ q : Int, 0 ≤ q → q < N → A 81 q = sp U N m k q) (kr : mm_E w d 119 147 [(0, .ref 77), (1, mI x1), (2, mI x2), (3, mJ y3), (5, mI x5), (6, mI x6), (7, mI (ct (sp U N m k) N)), (8, mJ (pr (sp U N m k) N)), (10, mI N)] [] (mm_w X A) r) : ∀ (n p : Nat), p + n = N → mm_E w d 119 147 [(0, .ref 77), (1, mI x1), (2, mI x2), (3, mJ y3), (5, mI x5), (6, mI x6), (7, mI (ct (sp U N m k) p)), (8, mJ (pr (sp U N m k) p)), (10, mI p)] [] (mm_w X A) r
  | 0, p, h => by
    rw [show N = p by omega] at kr ⊢
    exact kr
  | n + 1, p, h => by
    have q := c119_c hU hN hm h0 hq kr n (p + 1) (by omega)
    rw [ct_s, pr_s, show ((p + 1 : Nat) : Int) = (p : Int) + 1 by omega] at q
    have e := hq p (by omega) (by omega)
    have b := sp_bd hU (p := p) (by omega) (by omega) (by omega) m k hm
    by_cases c : 0 < sp U N m k p
    · rw [if_pos c, if_pos c] at q
      refine p119_147_5 (by omega) ?_
      rw [e]
      exact q
    · rw [if_neg c, if_neg c] at q
      exact p119_147_4 (by omega) q
theorem c119_f (hm : m ≤ 12) : ∀ (n : Nat) (i : Int) (A : MF), 0 ≤ i → i + n = m → A 77 2 = m → ∃ A' : MF, mm_E 1 d 119 232 [(0, .ref 77), (3, mJ y3), (6, mI i)] [] (mm_w X A) (.inl (some (mJ y3)), mm_w X A', 0, 0) ∧ (∀ b j, b ≠ 79 → A' b j = A b j) ∧ ∀ j : Int, (i ≤ j → j < m → A' 79 j = A 80 j) ∧ (j < i ∨ m ≤ j → A' 79 j = A 79 j)
  | 0, i, A, h0, h, h2 => ⟨A, p119_232_0 (by omega), fun _ _ _ => rfl, fun j => ⟨fun _ _ => by omega, fun _ => rfl⟩⟩
  | n + 1, i, A, h0, h, h2 => by
    obtain ⟨A', k1, k2, k3⟩ := c119_f hm n (i + 1) (mm_u A 79 i (A 80 i)) (by omega) (by omega) (by rw [mm_u_ne (by omega), h2])
    refine ⟨A', p119_232_1 (by omega) k1, fun b j hb => by rw [k2 b j hb, mm_u_ne (by omega)], fun j => ⟨fun j1 j2 => ?_, fun jj => ?_⟩⟩
    · by_cases e : j = i
      · rw [e, (k3 i).2 (by omega), mm_u_same]
      · rw [(k3 j).1 (by omega) j2, mm_u_ne (by omega)]
    · rw [(k3 j).2 (by omega), mm_u_ne (by omega)]
end M119
theorem c119_l (hU : UR U N) (hN : 1 ≤ N ∧ N ≤ 6) (hm : m ≤ 12) (hw : N ^ m ≤ 65536) : ∀ (n k : Nat) (s : ST) (A : MF), k + n = N ^ m → SR N m s → MS U N m A → ∃ A' : MF, mm_E 1 (d + 1) 119 39 [(0, .ref 77), (1, mI ((N ^ m : Nat) : Int)), (2, mI s.1), (3, mJ s.2.1), (5, mI s.2.2), (6, mI k)] [] (mm_w X A) (.inl (some (mJ (fo (stp U N m) s k n).2.1)), mm_w X A', 0, 0) ∧ (∀ b j, b ≠ 79 → b ≠ 80 → b ≠ 81 → A' b j = A b j) ∧ (∀ j : Nat, j < m → A' 79 j = pd N m (fo (stp U N m) s k n).2.2 j) ∧ ∀ j : Int, m ≤ j → A' 79 j = A 79 j
  | 0, k, s, A, h, hs, hM => by
    obtain ⟨a1, a2, a3⟩ := hM
    obtain ⟨r1, r2, r3, r4, r5⟩ := hs
    obtain ⟨A1, k1, k2, k3⟩ := c98 (X := X) (d := d) hN hm (k := s.2.2) (by omega) a1 a2
    obtain ⟨A2, t1, t2, t3⟩ := c119_f (X := X) (d := d + 1) (y3 := s.2.1) hm m 0 A1 (by omega) (by omega) (by rw [k2 _ _ (by omega), a2])
    refine ⟨A2, p119_39_0 k1 (by omega) t1, fun b j h1 h2 h3 => by rw [t2 b j h1, k2 b j h2], fun j hj => ?_, fun j hj => by rw [(t3 j).2 (by omega), k2 _ _ (by omega)]⟩
    rw [(t3 j).1 (by omega) (by omega)]
    exact k3 j hj
  | n + 1, k, s, A, h, hs, hM => by
    have hM' := hM
    obtain ⟨a1, a2, a3⟩ := hM'
    have hs' := hs
    obtain ⟨r1, r2, r3, r4, r5⟩ := hs'
    obtain ⟨A1, k1, k2, k3⟩ := c98 (X := X) (d := d) hN hm (k := k) (by omega) a1 a2
    have hM1 : MS U N m (mm_fr A1 81 0 N 0) := hM.eqv fun b j hb => by rw [mm_fr_out (by omega), k2 b j (by omega)]
    obtain ⟨A2, t1, t2, t3⟩ := c119_w (X := X) (d := d + 1) (x1 := ((N ^ m : Nat) : Int)) (x2 := s.1) (y3 := s.2.1) (x5 := s.2.2) (x6 := k) hU hN hm (k := k) m 0 (mm_fr A1 81 0 N 0) (by omega) hM1 (fun q q1 q2 => mm_fr_in q1 q2) (fun j hj => by rw [mm_fr_out (by omega)]; exact k3 j hj)
    have hM2 : MS U N m A2 := hM1.eqv fun b j hb => t2 b j (by omega)
    obtain ⟨A3, u1, u2, u3, u4⟩ := c119_l hU hN hm hw n (k + 1) (stp U N m s k) A2 (by omega) (stp_sr hU hN hm hw (by omega) hs) hM2
    have hf : fo (stp U N m) s k (n + 1) = fo (stp U N m) (stp U N m s k) (k + 1) n := by
      rw [show n + 1 = 1 + n by omega, fo_add]
      rfl
    rw [hf]
    refine ⟨A3, ?_, fun b j h1 h2 h3 => by rw [u2 b j h1 h2 h3, t2 b j h3, mm_fr_out (by omega), k2 b j h2], u3, fun j hj => by rw [u4 j hj, t2 79 j (by omega), mm_fr_out (by omega), k2 79 j (by omega)]⟩
    rw [show ((k + 1 : Nat) : Int) = (k : Int) + 1 by omega] at u1
    have b1 := ct_bd (h := sp U N m k) (n := N)
    have b2 := sp_pr (m := m) (k := k) hU hN.1 hN.2 hm hw
    have b3 := pr_pos (h := sp U N m k) (n := N)
    have c0 := hM2.1
    have ex : ∀ R : MR, mm_E 1 (d + 1) 119 39 [(0, .ref 77), (1, mI ((N ^ m : Nat) : Int)), (2, mI (stp U N m s k).1), (3, mJ (stp U N m s k).2.1), (5, mI (stp U N m s k).2.2), (6, mI ((k : Int) + 1))] [] (mm_w X A2) R → mm_E 1 (d + 1) 119 147 [(0, .ref 77), (1, mI ((N ^ m : Nat) : Int)), (2, mI s.1), (3, mJ s.2.1), (5, mI s.2.2), (6, mI k), (7, mI (ct (sp U N m k) N)), (8, mJ (pr (sp U N m k) N)), (10, mI N)] [] (mm_w X A2) R := fun R u => by
      unfold stp at u
      by_cases c1 : s.1 < ct (sp U N m k) N
      · rw [if_pos (.inl c1)] at u
        exact p119_147_0 (by omega) u
      by_cases c2 : ct (sp U N m k) N = s.1
      · by_cases c3 : s.2.1 < pr (sp U N m k) N
        · rw [if_pos (.inr ⟨c2, c3⟩)] at u
          exact p119_147_3 (by omega) u
        · rw [if_neg (by omega)] at u
          exact p119_147_2 (by omega) u
      · rw [if_neg (by omega)] at u
        exact p119_147_1 (by omega) u
    have z := c119_z (X := X) (d := d + 1) (A := A1) (x1 := ((N ^ m : Nat) : Int)) (x2 := s.1) (y3 := s.2.1) (x5 := s.2.2) (x6 := k) hN (by rw [k2 _ _ (by omega), a1]) (t1 _ (c119_c (X := X) (d := d + 1) (w := 1) hU hN hm c0 t3 (ex _ u1) N 0 (by omega))) N 0 (by omega) (by omega)
    rw [mm_fr_0] at z
    exact p119_39_1 k1 (by omega) z
theorem rd5 (hI : Inv A) (hs : mm_sc X x4 z0 z1 z2 z3) (h0 : mm_and z0 31 = 5) : mm_rd X d x4 A := by
  have hS := hI.1
  unfold Is at hS
  have hn : ((A 2 0).toNat : Int) = A 2 0 := by omega
  have hm' : ((A 2 1).toNat : Int) = A 2 1 := by omega
  have hN : 1 ≤ (A 2 0).toNat ∧ (A 2 0).toNat ≤ 6 := by omega
  have hm : (A 2 1).toNat ≤ 12 := by omega
  have s6 := fun (w d : Nat) => c64 (X := X) (d := d) (A := A) (w := w) hN hm hn.symm hm'.symm
  have hMA : ∀ B : MF, B 77 1 = A 77 1 → B 77 2 = A 77 2 → B 77 1 = (A 2 0).toNat ∧ B 77 2 = (A 2 1).toNat := fun B h1 h2 => by omega
  by_cases c : (A 2 0).toNat ^ (A 2 1).toNat ≤ 65536
  · have hU : UR (fun p i => A (4 + p.toNat) i) (A 2 0).toNat := fun p i h1 h2 h3 h4 => by
      have := hI.2.1 p i h1 (by omega) h3 h4
      show 0 ≤ A (4 + p.toNat) i ∧ A (4 + p.toNat) i ≤ 1000
      omega
    obtain ⟨A', k1, k2, k3, k4⟩ := c87 (X := X) (d := d + 34 - (A 2 1).toNat) (A := A) (U := fun p i => A (4 + p.toNat) i) hU hN hm c (fun _ _ _ _ _ _ => rfl)
    rw [hn, hm', show d + 34 - (A 2 1).toNat + (A 2 1).toNat + 2 = d + 36 by omega] at k1
    have hMS : MS (fun p i => A (4 + p.toNat) i) (A 2 0).toNat (A 2 1).toNat (mm_u (mm_u A' 96 0 (bst (fun p i => A (4 + p.toNat) i) (A 2 0).toNat (A 2 1).toNat).2.1) 77 0 0) := by
      refine ⟨?_, ?_, fun p i p1 p2 p3 p4 => ?_⟩
      · rw [mm_u2_ne (by omega) (by omega), k2 _ _ (by omega) (by omega)]
        omega
      · rw [mm_u2_ne (by omega) (by omega), k2 _ _ (by omega) (by omega)]
        omega
      · rw [mm_u2_ne (by omega) (by omega), k2 _ _ (by omega) (by omega)]
        exact (hI.2.1 p i p1 (by omega) p3 p4).1.symm
    obtain ⟨B', u1, u2, u3, u4⟩ := c119_l (X := X) (d := d + 37) hU hN hm c _ 0 (-1, 0, 0) _ (Nat.zero_add _) (sr0 hN.1) hMS
    have hsr : SR (A 2 0).toNat (A 2 1).toNat (bst (fun p i => A (4 + p.toNat) i) (A 2 0).toNat (A 2 1).toNat) := fo_sr hU hN hm c (by omega) (sr0 hN.1)
    have z := s6 1 (d + 37)
    rw [if_pos c] at z
    have e1 : mm_u A' 96 0 (bst (fun p i => A (4 + p.toNat) i) (A 2 0).toNat (A 2 1).toNat).2.1 77 1 = A 77 1 := by rw [mm_u_ne (by omega), k2 _ _ (by omega) (by omega)]
    have e2 : mm_u A' 96 0 (bst (fun p i => A (4 + p.toNat) i) (A 2 0).toNat (A 2 1).toNat).2.1 77 2 = A 77 2 := by rw [mm_u_ne (by omega), k2 _ _ (by omega) (by omega)]
    obtain ⟨y, y1, y2, y3, y4⟩ := c97 (X := X) (d := d + 37) (w := 1) hN hm (hMA _ e1 e2).1 (hMA _ e1 e2).2
    rw [y2 c] at y4
    have m1 := p119_0_0 (d := d + 37) y4 (by omega) u1
    have f : ∀ b k, ¬ mm_scr b k → b ≠ 10 → b ≠ 79 → B' b k = A b k := fun b k h1 h2 h3 => by
      unfold mm_scr at h1
      rw [u2 b k h3 (by omega) (by omega), mm_u2_ne (by omega) (by omega), k2 b k h2 (by omega)]
    refine ok5 ?_ hs h0 (p138_0_0 (p6_0_0 (d := d + 37) z (p71_0_0 k1) (by omega))) (m1.mono (by omega)) ?_ ?_ ?_
    · refine ⟨hI.1.eqv fun a k h => f a k (by unfold mm_scr; omega) (by omega) (by omega), hI.2.1.eqv fun a k h => f a k (by unfold mm_scr; omega) (by omega) (by omega), fun i q1 q2 => ?_, hI.2.2.2.1.eqv fun a k h => f a k (by unfold mm_scr; omega) (by omega) (by omega), hI.2.2.2.2.1.eqv fun a k h => f a k (by unfold mm_scr; omega) (by omega) (by omega), hI.2.2.2.2.2.1.eqv hI.n fun a k h => f a k (by unfold mm_scr; omega) (by omega) (by omega), hI.2.2.2.2.2.2.eqv hI.n fun a k h => f a k (by unfold mm_scr; omega) (by omega) (by omega)⟩
      have r2 : B' 77 1 = A 77 1 := f 77 1 (by unfold mm_scr; omega) (by omega) (by omega)
      have r1 : B' 10 i = A' 10 i := by rw [u2 10 i (by omega) (by omega) (by omega), mm_u2_ne (by omega) (by omega)]
      have r0 := hI.2.2.1 i q1 q2
      by_cases ci : i < A 2 1
      · have r3 := k3 i.toNat (by omega)
        have r4 := u3 i.toNat (by omega)
        rw [show ((i.toNat : Nat) : Int) = i by omega] at r3 r4
        have r5 := pd_lt (N := (A 2 0).toNat) (i := (A 2 1).toNat) (P := (bst (fun p i => A (4 + p.toNat) i) (A 2 0).toNat (A 2 1).toNat).2.2) (j := i.toNat) (by omega)
        rw [r1, r2, r3, r4]
        refine ⟨rfl, by omega, ?_⟩
        rw [show A 77 1 = ((A 2 0).toNat : Int) by omega]
        exact Int.ofNat_lt.mpr r5
      · have r3 := k4 i (by omega)
        have r4 := u4 i (by omega)
        rw [mm_u2_ne (by omega) (by omega), k2 _ _ (by omega) (by omega)] at r4
        rw [r1, r2, r3, r4]
        exact r0
    · rw [u2 77 0 (by omega) (by omega) (by omega), mm_u_same]
    · rw [u2 96 0 (by omega) (by omega) (by omega), mm_u_ne (by omega), mm_u_same]
    · have h1 := hsr.2.2.1
      have h2 := hsr.2.2.2.1
      exact ⟨Int.le_trans (by omega) h1, Int.le_trans h2 (by omega)⟩
  · obtain ⟨y, y1, y2, y3, y4⟩ := c97 (X := X) (d := d + 38) (w := 1) (A := A) hN hm (hMA _ rfl rfl).1 (hMA _ rfl rfl).2
    have y5 := y3 (by omega)
    refine thr5 (k := 1) hI hs h0 (by omega) (p138_t fun w => ?_) (p119_0_1 (d := d + 38) y4 (by omega))
    have z := s6 w (d + 37)
    rw [if_neg c] at z
    exact z
end PE2
