/-! rooms: the round. -/
section RR
variable {X : List Value} {d : Nat} {A B : MF} {V : Int → Int → Int} {N : Nat} {T : Int} {x4 z0 z1 z2 z3 : Int}
theorem mm_u_id {a : Nat} {i z : Int} (h : A a i = z) : mm_u A a i z = A := by
  funext b k
  unfold mm_u
  split
  · rename_i e
    rw [e.1, e.2, h]
  · rfl
theorem rw_bd (hV : ZR V N) {p : Nat} (hp : p < N) : ∀ {n : Nat}, n ≤ N → 0 ≤ ss (V p) n ∧ ss (V p) n ≤ 100000 * n
  | 0, _ => by simp [ss]
  | n + 1, h => by
    have := rw_bd hV hp (n := n) (by omega)
    have := hV p n (by omega) (by omega) (by omega) (by omega)
    rw [ss_s]
    omega
theorem c78_i {w : Nat} {r : MR} {p : Nat} (hN : 1 ≤ N ∧ N ≤ 6) (hp : p < N) (h0 : A 25 0 = N) (h2 : ∀ p r : Int, 0 ≤ p → p < N → 0 ≤ r → r < N → A (27 + p.toNat) r = V p r) (k : mm_E w d 78 14 [(0, .ref 25), (1, mI p), (2, mI (ss (V p) N)), (3, mI N)] [] (mm_w X A) r) : ∀ (n i : Nat), i + n = N → mm_E w d 78 14 [(0, .ref 25), (1, mI p), (2, mI (ss (V p) i)), (3, mI i)] [] (mm_w X A) r
  | 0, i, h => by
    rw [show N = i by omega] at k
    exact k
  | n + 1, i, h => by
    have q := c78_i hN hp h0 h2 k n (i + 1) (by omega)
    rw [ss_s, ← h2 p i (by omega) (by omega) (by omega) (by omega), show ((i + 1 : Nat) : Int) = (i : Int) + 1 by omega] at q
    exact p78_14_2 (by omega) q
theorem c78_l {w : Nat} (hV : ZR V N) (hN : 1 ≤ N ∧ N ≤ 6) (h0 : A 25 0 = N) (h1 : A 25 1 = T) (hT : 0 ≤ T ∧ T ≤ 600000) (h2 : ∀ p r : Int, 0 ≤ p → p < N → 0 ≤ r → r < N → A (27 + p.toNat) r = V p r) : ∀ (n p : Nat), p + n = N → ((∀ q : Nat, p ≤ q → q < N → ss (V q) N = T) → mm_E w d 78 2 [(0, .ref 25), (1, mI p)] [] (mm_w X A) (.inl (some (mI 1)), mm_w X A, 0, 0)) ∧ ((¬ ∀ q : Nat, p ≤ q → q < N → ss (V q) N = T) → mm_E w d 78 2 [(0, .ref 25), (1, mI p)] [] (mm_w X A) (.inl (some (mI 0)), mm_w X A, 0, 0))
  | 0, p, h => ⟨fun _ => p78_2_0 (by omega), fun k => absurd (fun q h1 h2 => by omega) k⟩
  | n + 1, p, h => by
    obtain ⟨i1, i2⟩ := c78_l (w := w) hV hN h0 h1 hT h2 n (p + 1) (by omega)
    have b := rw_bd hV (p := p) (by omega) (Nat.le_refl N)
    rw [show ((p + 1 : Nat) : Int) = (p : Int) + 1 by omega] at i1 i2
    by_cases c : ss (V p) N = T
    · refine ⟨fun k => p78_2_1 (by omega) (c78_i hN (by omega) h0 h2 (p78_14_0 (by omega) (i1 fun q q1 q2 => k q (by omega) q2)) N 0 (by omega)), fun k => p78_2_1 (by omega) (c78_i hN (by omega) h0 h2 (p78_14_0 (by omega) (i2 fun l => k fun q q1 q2 => ?_)) N 0 (by omega))⟩
      by_cases e : q = p
      · rw [e]
        exact c
      · exact l q (by omega) q2
    · exact ⟨fun k => absurd (k p (by omega) (by omega)) c, fun k => p78_2_1 (by omega) (c78_i hN (by omega) h0 h2 (p78_14_1 (by omega)) N 0 (by omega))⟩
theorem c127_i {w : Nat} {r : MR} {p : Nat} (hN : 1 ≤ N ∧ N ≤ 6) (hp : p < N) (hM : MR2 V N A) (k : mm_E w d 127 19 [(0, .ref 77), (1, mI p), (2, mI (ss (V p) N)), (3, mI N)] [] (mm_w X A) r) : ∀ (n i : Nat), i + n = N → mm_E w d 127 19 [(0, .ref 77), (1, mI p), (2, mI (ss (V p) i)), (3, mI i)] [] (mm_w X A) r
  | 0, i, h => by
    rw [show N = i by omega] at k
    exact k
  | n + 1, i, h => by
    have q := c127_i hN hp hM k n (i + 1) (by omega)
    obtain ⟨h0, h2⟩ := hM
    rw [ss_s, ← h2 p i (by omega) (by omega) (by omega) (by omega), show ((i + 1 : Nat) : Int) = (i : Int) + 1 by omega] at q
    exact p127_19_2 (by omega) q
theorem c127_h1 {w : Nat} {r : MR} (hV : ZR V N) (hN : 1 ≤ N ∧ N ≤ 6) (hM : MR2 V N A) (h8 : A 77 8 = T) (hT : 0 ≤ T ∧ T ≤ 600000) (h0 : A 77 0 = 0) (ha : ∀ q : Nat, q < N → ss (V q) N = T) (k : mm_E w d 127 79 [(0, .ref 77), (1, mI 1), (2, mI 2)] [] (mm_w X A) r) : ∀ (n p : Nat), p + n = N → mm_E w d 127 7 [(0, .ref 77), (1, mI p)] [] (mm_w X A) r
  | 0, p, h => by
    have a1 := hM.1
    exact p127_7_0 (by omega) k
  | n + 1, p, h => by
    have a1 := hM.1
    have i := c127_h1 hV hN hM h8 hT h0 ha k n (p + 1) (by omega)
    have b := ha p (by omega)
    rw [show ((p + 1 : Nat) : Int) = (p : Int) + 1 by omega] at i
    exact p127_7_2 (by omega) (c127_i hN (by omega) hM (p127_19_0 (by omega) i) N 0 (by omega))
theorem c127_h2 (hV : ZR V N) (hN : 1 ≤ N ∧ N ≤ 6) (hT : 0 ≤ T ∧ T ≤ 600000) : ∀ (n p : Nat) (A : MF), p + n = N → MR2 V N A → A 77 8 = T → (A 77 0 = 1 ∨ (A 77 0 = 0 ∧ ¬ ∀ q : Nat, p ≤ q → q < N → ss (V q) N = T)) → mm_E 1 d 127 7 [(0, .ref 77), (1, mI p)] [] (mm_w X A) (.inl (some (mI 0)), mm_w X (mm_u A 77 0 1), 0, 0)
  | 0, p, A, h, hM, h8, hc => by
    have a1 := hM.1
    rcases hc with c | c
    · rw [mm_u_id c]
      exact p127_7_1 (by omega)
    · exact absurd (fun q h1 h2 => by omega) c.2
  | n + 1, p, A, h, hM, h8, hc => by
    have a1 := hM.1
    have b := rw_bd hV (p := p) (by omega) (Nat.le_refl N)
    by_cases c : ss (V p) N = T
    · have i := c127_h2 hV hN hT n (p + 1) A (by omega) hM h8 (hc.imp id fun k => ⟨k.1, fun l => k.2 fun q q1 q2 => by
        by_cases e : q = p
        · rw [e]
          exact c
        · exact l q (by omega) q2⟩)
      rw [show ((p + 1 : Nat) : Int) = (p : Int) + 1 by omega] at i
      exact p127_7_2 (by omega) (c127_i hN (by omega) hM (p127_19_0 (by omega) i) N 0 (by omega))
    · have i := c127_h2 hV hN hT n (p + 1) (mm_u A 77 0 1) (by omega) (hM.eqv fun b k hb => mm_u_ne (by omega)) (by rw [mm_u_ne (by omega), h8]) (.inl mm_u_same)
      rw [mm_u_u, show ((p + 1 : Nat) : Int) = (p : Int) + 1 by omega] at i
      exact p127_7_2 (by omega) (c127_i hN (by omega) hM (p127_19_1 (by omega) i) N 0 (by omega))
theorem c127_f {w : Nat} {r : MR} (hN : 1 ≤ N ∧ N ≤ 6) (h0 : A 77 1 = N) (k : mm_E w d 127 101 [(0, .ref 77), (1, mI (fac N : Nat)), (2, mI (-1)), (3, mI 0)] [] (mm_w X A) r) : ∀ (n j : Nat), 2 ≤ j → j + n = N + 1 → mm_E w d 127 79 [(0, .ref 77), (1, mI (fac (j - 1) : Nat)), (2, mI j)] [] (mm_w X A) r
  | 0, j, h1, h => by
    rw [show j - 1 = N by omega]
    exact p127_79_0 (by omega) k
  | n + 1, j, h1, h => by
    have q := c127_f hN h0 k n (j + 1) (by omega) (by omega)
    rw [show j + 1 - 1 = (j - 1) + 1 by omega, fac_s, show j - 1 + 1 = j by omega, Nat.mul_comm, Int.natCast_mul, show ((j + 1 : Nat) : Int) = (j : Int) + 1 by omega] at q
    exact p127_79_1 (by omega) q
/-- the best division of the rooms -/
abbrev brm (V : Int → Int → Int) (N : Nat) : SU := fo (stq V N) (-1, 0) 0 (fac N)
theorem brm_l : ∀ {n : Nat}, (∀ k, k < n → sr V (tr N k) N ≤ (fo (stq V N) (-1, 0) 0 n).1) ∧ (fo (stq V N) (-1, 0) 0 n = (-1, 0) ∨ (fo (stq V N) (-1, 0) 0 n).1 = sr V (tr N (fo (stq V N) (-1, 0) 0 n).2) N)
  | 0 => ⟨fun k hk => by omega, .inl rfl⟩
  | n + 1 => by
    obtain ⟨i1, i2⟩ := brm_l (n := n)
    rw [fo_s, Nat.zero_add]
    generalize fo (stq V N) (-1, 0) 0 n = s at i1 i2
    unfold stq
    by_cases c : s.1 < sr V (tr N n) N
    · rw [if_pos c]
      refine ⟨fun k hk => ?_, .inr rfl⟩
      show sr V (tr N k) N ≤ sr V (tr N n) N
      by_cases e : k = n
      · rw [e]
        exact Int.le_refl _
      · have := i1 k (by omega)
        omega
    · rw [if_neg c]
      refine ⟨fun k hk => ?_, i2⟩
      by_cases e : k = n
      · rw [e]
        omega
      · exact i1 k (by omega)
theorem sq0 : SQ N (-1, 0) := ⟨Int.le_refl _, show (-1 : Int) ≤ 600000 by omega, fac_pos⟩
theorem rd13 (hI : Inv A) (hs : mm_sc X x4 z0 z1 z2 z3) (h0 : mm_and z0 31 = 13) : mm_rd X d x4 A := by
  have hS := hI.1
  unfold Is at hS
  have hg : ∃ N : Nat, (N : Int) = A 25 0 := ⟨(A 25 0).toNat, by omega⟩
  obtain ⟨N, hn⟩ := hg
  have hN : 1 ≤ N ∧ N ≤ 6 := by omega
  have hv : ∃ V : Int → Int → Int, V = fun p r => A (27 + p.toNat) r := ⟨_, rfl⟩
  obtain ⟨V, hVd⟩ := hv
  have hA2 : ∀ p r : Int, 0 ≤ p → p < N → 0 ≤ r → r < N → A (27 + p.toNat) r = V p r := fun p r _ _ _ _ => by rw [hVd]
  have hV : ZR V N := fun p r h1 h2 h3 h4 => by
    have := hI.2.2.2.1 p r h1 (by omega) h3 (by omega)
    rw [← hA2 p r h1 h2 h3 h4]
    omega
  have hM2 : ∀ p r : Int, 0 ≤ p → p < N → 0 ≤ r → r < N → A 82 (6 * p + r) = V p r := fun p r h1 h2 h3 h4 => by
    rw [← hA2 p r h1 h2 h3 h4]
    exact (hI.2.2.2.1 p r h1 (by omega) h3 (by omega)).1.symm
  have hT : 0 ≤ A 25 1 ∧ A 25 1 ≤ 600000 := by omega
  have k78 := fun (w d : Nat) => c78_l (X := X) (d := d) (A := A) (w := w) hV hN hn.symm rfl hT hA2 N 0 (by omega)
  by_cases hall : ∀ q : Nat, 0 ≤ q → q < N → ss (V q) N = A 25 1
  · have hsq : SQ N (brm V N) := fo_sq hV hN (by omega) sq0
    obtain ⟨o1, o2⟩ := brm_l (V := V) (N := N) (n := fac N)
    have hb0 : 0 ≤ (brm V N).1 := by
      have b := sr_bd hV (t := tr N 0) (fun q hq => (tr_bd hN fac_pos hq).1) (Nat.le_refl N)
      have := o1 0 fac_pos
      show 0 ≤ (fo (stq V N) (-1, 0) 0 (fac N)).1
      omega
    have hbe : (brm V N).1 = sr V (tr N (brm V N).2) N := by
      rcases o2 with o | o
      · have : (brm V N).1 = -1 := by
          show (fo (stq V N) (-1, 0) 0 (fac N)).1 = -1
          rw [o]
        omega
      · exact o
    have ht : ∀ q, q < N → tr N (brm V N).2 q < N := fun q hq => (tr_bd hN hsq.2.2 hq).1
    have hc : NC (wq V (tr N (brm V N).2)) N := best_nc hN ht (fun p q h1 h2 => tr_inj hN hsq.2.2 h1 h2) fun k hk => by
      have := o1 k hk
      rw [← hbe]
      exact this
    have hLb : ∀ q, q < N → 0 ≤ ld V N (tr N (brm V N).2) q ∧ ld V N (tr N (brm V N).2) q ≤ 500000 := fun q hq => Wk_bd hN.2 hc (fun p q h1 h2 => (wq_bd hV ht p q h1 h2).1) (Wk_pn Wk_zero) hq
    have hsl := sl_bd hLb
    generalize hbr : brm V N = s at hsq hb0 hbe ht hc hLb hsl
    obtain ⟨s1, s2, s3⟩ := hsq
    obtain ⟨A0, a1, a2, a3⟩ := c83 (X := X) (d := d + 35 - N) hV hN N 0 0 0 (-1, 0) (mm_u A 25 3 (-1)) (by omega) (by omega) nd_0 (by omega) (fun l q _ hq => by omega) sq0 ⟨by rw [mm_u_ne (by omega)]; exact hn.symm, mm_u_same, fun q hq => by omega, fun p r h1 h2 h3 h4 => by rw [mm_u_ne (by omega)]; exact hA2 p r h1 h2 h3 h4, fun k => absurd k (show ¬ (0 : Int) ≤ -1 by omega)⟩
    rw [show d + 35 - N + N + 1 = d + 36 by omega] at a1
    rw [show fo (stq V N) (-1, 0) 0 (fac N) = s from hbr] at a2
    obtain ⟨b0, b1, b2, b3, b4⟩ := a2
    obtain ⟨A1, c1, c2, c3⟩ := c84 (X := X) (d := d + 35) hV hN ht hc b0 (b4 hb0) b3
    have hA1 : ∀ b k, b ≠ 33 → b ≠ 34 → b ≠ 35 → (b ≠ 25 ∨ k ≠ 3) → A1 b k = A b k := fun b k h1 h2 h3 h4 => by rw [c3 b k h3, a3 b k h4 h1 h2, mm_u_ne (by omega)]
    have e3 : A1 25 3 = s.1 := by rw [c3 25 3 (by omega), b1]
    have e1 : A1 25 1 = A 25 1 := hA1 25 1 (by omega) (by omega) (by omega) (by omega)
    obtain ⟨A2, d1, d2, d3⟩ := c85_2 (X := X) (d := d + 34) hV hN ht hLb (y := s.1 - A 25 1 - sl (ld V N (tr N s.2)) N) (by omega) N 0 A1 (by omega) c2 (fun q hq => by omega)
    have k85 := c85_1 (X := X) (d := d + 36) (w := 1) (y := s.1 - A 25 1) hN hLb c2 d1 N 0 (by omega)
    rw [show s.1 - A 25 1 - sl (ld V N (tr N s.2)) 0 = A1 25 3 - A1 25 1 by rw [e3, e1]; exact Int.sub_zero _] at k85
    have k82 := p82_0_0 a1 c1 (p85_0_0 (by omega) k85)
    have e3' : A2 25 3 = s.1 := by rw [d2 25 3 (by omega), e3]
    rw [e3'] at k82
    have k14 := p14_0_0 (d := d + 37) (p78_0_0 ((k78 1 (d + 37)).1 hall)) k82 (by omega)
    have k146 := p146_0_0 (d := d + 38) k14 (by omega)
    have hC : ∀ b k, b ≠ 33 → b ≠ 34 → b ≠ 35 → ¬ (37 ≤ b ∧ b ≤ 42) → (b ≠ 25 ∨ (k ≠ 3 ∧ k ≠ 2)) → b ≠ 96 → (b ≠ 77 ∨ k ≠ 0) → mm_u (mm_u (mm_u A2 25 2 1) 96 0 s.1) 77 0 0 b k = A b k := fun b k h1 h2 h3 h4 h5 h6 h7 => by
      rw [mm_u2_ne (by omega) (by omega), mm_u_ne (by omega), d2 b k h4, hA1 b k h1 h2 h3 (by omega)]
    have hM : MR2 V N (mm_u (mm_u (mm_u A2 25 2 1) 96 0 s.1) 77 0 0) := ⟨by rw [hC _ _ (by omega) (by omega) (by omega) (by omega) (by omega) (by omega) (by omega)]; omega, fun p r h1 h2 h3 h4 => by
      rw [hC _ _ (by omega) (by omega) (by omega) (by omega) (by omega) (by omega) (by omega)]
      exact hM2 p r h1 h2 h3 h4⟩
    have e8 : mm_u (mm_u (mm_u A2 25 2 1) 96 0 s.1) 77 0 0 77 8 = A 25 1 := by
      rw [hC _ _ (by omega) (by omega) (by omega) (by omega) (by omega) (by omega) (by omega)]
      omega
    obtain ⟨M1, f1, f2, f3⟩ := c127_l (X := X) (d := d + 38) hV hN (fac N) 0 (-1, 0) _ (by omega) sq0 hM (fun k => absurd k (show ¬ (0 : Int) ≤ -1 by omega))
    rw [show fo (stq V N) (-1, 0) 0 (fac N) = s from hbr] at f1 f3
    obtain ⟨M2, g1, g2, g3⟩ := c101 (X := X) (d := d + 37) (A := M1) hV hN ht hc (by rw [f2 _ _ (by omega) (by omega)]; exact hM.1) (f3 hb0) (fun p r h1 h2 h3 h4 => by rw [f2 _ _ (by omega) (by omega)]; exact hM.2 p r h1 h2 h3 h4)
    have e9 : M2 77 8 = A 25 1 := by rw [g3 _ _ (by omega), f2 _ _ (by omega) (by omega), e8]
    obtain ⟨M3, i1, i2, i3⟩ := c127_r (X := X) (d := d + 37) (x2 := s.1) hV hN ht hLb (y := s.1 - A 25 1 - sl (ld V N (tr N s.2)) N) (by omega) N 0 M2 (by omega) g2 (fun q hq => by omega)
    have k216 := c127_o (X := X) (d := d + 39) (w := 1) (x2 := s.1) (y := s.1 - A 25 1) hN g2 i1 N 0 (by omega)
    rw [show s.1 - A 25 1 - sl (ld V N (tr N s.2)) 0 = s.1 - M2 77 8 by rw [e9]; exact Int.sub_zero _] at k216
    have fl := fac_le hN.2
    have k101 := f1 _ (p127_101_0 (d := d + 38) (x1 := (fac N : Nat)) (x3 := (fac N : Nat)) g1 (by omega) k216)
    have k79 := c127_f (X := X) (d := d + 39) (w := 1) hN hM.1 k101 (N - 1) 2 (by omega) (by omega)
    have kh := c127_h1 (X := X) (d := d + 39) (w := 1) hV hN hM e8 hT mm_u_same (fun q hq => hall q (by omega) hq) k79 N 0 (by omega)
    have k127 := p127_0_0 kh
    have hF : ∀ b k, b ≠ 33 → b ≠ 34 → b ≠ 35 → ¬ (37 ≤ b ∧ b ≤ 42) → (b ≠ 25 ∨ (k ≠ 3 ∧ k ≠ 2)) → b ≠ 96 → (b ≠ 77 ∨ (k ≠ 0 ∧ k ≠ 9 ∧ k ≠ 24 ∧ k ≠ 25)) → ¬ (83 ≤ b ∧ b ≤ 87) → mm_u M3 77 9 1 b k = A b k := fun b k h1 h2 h3 h4 h5 h6 h7 h8 => by
      rw [mm_u_ne (by omega), i2 b k (by omega) (by omega) (by omega), g3 b k (by omega), f2 b k (by omega) (by omega), hC b k h1 h2 h3 h4 h5 h6 (by omega)]
    have hK : ∀ b k, b < 77 → mm_u M3 77 9 1 b k = mm_u A2 25 2 1 b k := fun b k hb => by
      rw [mm_u_ne (by omega), i2 b k (by omega) (by omega) (by omega), g3 b k (by omega), f2 b k (by omega) (by omega), mm_u2_ne (by omega) (by omega)]
    refine ok13 ?_ hs h0 k146 k127 ?_ ?_ (by omega)
    · refine ⟨?_, hI.2.1.eqv fun a k h => hF a k (by omega) (by omega) (by omega) (by omega) (by omega) (by omega) (by omega) (by omega), hI.2.2.1.eqv fun a k h => hF a k (by omega) (by omega) (by omega) (by omega) (by omega) (by omega) (by omega) (by omega), hI.2.2.2.1.eqv fun a k h => hF a k (by omega) (by omega) (by omega) (by omega) (by omega) (by omega) (by omega) (by omega), hI.2.2.2.2.1.eqv fun a k h => hF a k (by omega) (by omega) (by omega) (by omega) (by omega) (by omega) (by omega) (by omega), fun _ p h1 h2 => ?_, hI.2.2.2.2.2.2.eqv hI.n fun a k h => hF a k (by omega) (by omega) (by omega) (by omega) (by omega) (by omega) (by omega) (by omega)⟩
      · have q1 := hF 77 1 (by omega) (by omega) (by omega) (by omega) (by omega) (by omega) (by omega) (by omega)
        have q2 := hF 1 3 (by omega) (by omega) (by omega) (by omega) (by omega) (by omega) (by omega) (by omega)
        have q3 := hF 2 0 (by omega) (by omega) (by omega) (by omega) (by omega) (by omega) (by omega) (by omega)
        have q4 := hF 25 0 (by omega) (by omega) (by omega) (by omega) (by omega) (by omega) (by omega) (by omega)
        have q5 := hF 43 0 (by omega) (by omega) (by omega) (by omega) (by omega) (by omega) (by omega) (by omega)
        have q6 := hF 77 2 (by omega) (by omega) (by omega) (by omega) (by omega) (by omega) (by omega) (by omega)
        have q7 := hF 2 1 (by omega) (by omega) (by omega) (by omega) (by omega) (by omega) (by omega) (by omega)
        have q8 := hF 77 8 (by omega) (by omega) (by omega) (by omega) (by omega) (by omega) (by omega) (by omega)
        have q9 := hF 25 1 (by omega) (by omega) (by omega) (by omega) (by omega) (by omega) (by omega) (by omega)
        have q10 := hF 77 15 (by omega) (by omega) (by omega) (by omega) (by omega) (by omega) (by omega) (by omega)
        have q11 := hF 43 1 (by omega) (by omega) (by omega) (by omega) (by omega) (by omega) (by omega) (by omega)
        have q12 := hF 77 17 (by omega) (by omega) (by omega) (by omega) (by omega) (by omega) (by omega) (by omega)
        have q13 := hF 43 2 (by omega) (by omega) (by omega) (by omega) (by omega) (by omega) (by omega) (by omega)
        have q14 : mm_u M3 77 9 1 77 9 = 1 := mm_u_same
        have q15 : mm_u M3 77 9 1 25 2 = 1 := by rw [hK 25 2 (by omega), mm_u_same]
        unfold Is
        rw [q1, q2, q3, q4, q5, q6, q7, q8, q9, q10, q11, q12, q13, q14, q15]
        omega
      · have q1 := hF 77 1 (by omega) (by omega) (by omega) (by omega) (by omega) (by omega) (by omega) (by omega)
        rw [q1] at h2
        have hpN : p.toNat < N := by omega
        have r1 := d3 p.toNat hpN
        have r2 := i3 p.toNat hpN
        have r3 := c2.2.1 p.toNat hpN
        have r4 := f3 hb0 p.toNat hpN
        have r5 := rn_bd (y := s.1 - A 25 1 - sl (ld V N (tr N s.2)) N) hV hN ht hLb (by omega) hpN
        have r6 := ft_abs (a := rn V N (tr N s.2) (ld V N (tr N s.2)) (s.1 - A 25 1 - sl (ld V N (tr N s.2)) N) p.toNat) (b := N)
        have r7 := fb_abs (a := rn V N (tr N s.2) (ld V N (tr N s.2)) (s.1 - A 25 1 - sl (ld V N (tr N s.2)) N) p.toNat) (b := N)
        rw [show ((p.toNat : Nat) : Int) = p by omega] at r2 r3 r4
        have w1 : mm_u M3 77 9 1 34 p = tr N s.2 p.toNat := by rw [hK 34 p (by omega), mm_u_ne (by omega), d2 34 p (by omega), r3.1]
        have w2 : mm_u M3 77 9 1 83 p = tr N s.2 p.toNat := by rw [mm_u_ne (by omega), i2 83 p (by omega) (by omega) (by omega), g3 83 p (by omega), r4]
        have w3 : mm_u M3 77 9 1 (37 + p.toNat) 0 = A2 (37 + p.toNat) 0 := by rw [hK _ _ (by omega), mm_u_ne (by omega)]
        have w4 : mm_u M3 77 9 1 (37 + p.toNat) 1 = A2 (37 + p.toNat) 1 := by rw [hK _ _ (by omega), mm_u_ne (by omega)]
        have w5 : mm_u M3 77 9 1 86 p = M3 86 p := mm_u_ne (by omega)
        have w6 : mm_u M3 77 9 1 87 p = M3 87 p := mm_u_ne (by omega)
        have ht' := ht p.toNat hpN
        rw [w1, w2, w3, w4, w5, w6, r1.1, r1.2, r2.1, r2.2]
        refine ⟨rfl, by omega, rfl, rfl, by omega, by omega⟩
    · rw [mm_u_ne (by omega), i2 77 0 (by omega) (by omega) (by omega), g3 77 0 (by omega), f2 77 0 (by omega) (by omega), mm_u_same]
    · rw [mm_u_ne (by omega), i2 96 0 (by omega) (by omega) (by omega), g3 96 0 (by omega), f2 96 0 (by omega) (by omega), mm_u_ne (by omega), mm_u_same]
  · refine thr13 (k := 1) hI hs h0 (by omega) (p146_t fun w => p78_0_0 ((k78 w (d + 37)).2 hall)) (v := 0) ?_
    have k := c127_h2 (X := X) (d := d + 39) hV hN hT N 0 (mm_u A 77 0 0) (by omega) ⟨by rw [mm_u_ne (by omega)]; omega, fun p r h1 h2 h3 h4 => by rw [mm_u_ne (by omega)]; exact hM2 p r h1 h2 h3 h4⟩ (by rw [mm_u_ne (by omega)]; omega) (.inr ⟨mm_u_same, hall⟩)
    rw [mm_u_u] at k
    exact p127_0_0 k
end RR
