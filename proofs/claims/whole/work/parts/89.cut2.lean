/-! cut: the round. -/
section CU
variable {X : List Value} {d : Nat} {A : MF} {dn : Int → Int → Int} {len N : Nat} {x4 z0 z1 z2 z3 : Int}
theorem ft01 : ft 0 1 = 0 ∧ fb 0 1 = 1 := ft1
/-- both halves of the round give the invariant -/
theorem cut_fin {A1 B1 : MF} {pc : Nat → Int → Int} (hI : Inv A) (hn : (N : Int) = A 77 1) (hip : ∀ p : Int, 0 ≤ p → p < N → Ip (pc 0 p) (pc 1 p) (pc 2 p) (pc 3 p)) (h1 : PCc N pc A1) (f1 : ∀ c k, ¬ cutc c → A1 c k = A c k) (h2 : PCm N pc B1) (f2 : ∀ c k, ¬ cutm c k → B1 c k = mm_u (mm_u A1 43 2 1) 77 0 0 c k) : Inv (mm_u B1 77 17 1) := by
  have hS := hI.1
  unfold Is at hS
  have hF : ∀ (c : Nat) (k : Int), ¬ cutc c → ¬ cutm c k → (c ≠ 43 ∨ k ≠ 2) → (c ≠ 77 ∨ (k ≠ 0 ∧ k ≠ 17)) → mm_u B1 77 17 1 c k = A c k := fun c k q1 q2 q3 q4 => by
    rw [mm_u_ne (by omega), f2 c k q2, mm_u2_ne (by omega) (by omega), f1 c k q1]
  unfold cutc cutm at hF
  refine ⟨?_, hI.2.1.eqv fun a k h => hF a k (by omega) (by omega) (by omega) (by omega), hI.2.2.1.eqv fun a k h => hF a k (by omega) (by omega) (by omega) (by omega), hI.2.2.2.1.eqv fun a k h => hF a k (by omega) (by omega) (by omega) (by omega), hI.2.2.2.2.1.eqv fun a k h => hF a k (by omega) (by omega) (by omega) (by omega), hI.2.2.2.2.2.1.eqv hI.n fun a k h => hF a k (by omega) (by omega) (by omega) (by omega), fun _ p p1 p2 => ?_⟩
  · have q1 := hF 77 1 (by omega) (by omega) (by omega) (by omega)
    have q2 := hF 1 3 (by omega) (by omega) (by omega) (by omega)
    have q3 := hF 2 0 (by omega) (by omega) (by omega) (by omega)
    have q4 := hF 25 0 (by omega) (by omega) (by omega) (by omega)
    have q5 := hF 43 0 (by omega) (by omega) (by omega) (by omega)
    have q6 := hF 77 2 (by omega) (by omega) (by omega) (by omega)
    have q7 := hF 2 1 (by omega) (by omega) (by omega) (by omega)
    have q8 := hF 77 8 (by omega) (by omega) (by omega) (by omega)
    have q9 := hF 25 1 (by omega) (by omega) (by omega) (by omega)
    have q10 := hF 77 9 (by omega) (by omega) (by omega) (by omega)
    have q11 := hF 25 2 (by omega) (by omega) (by omega) (by omega)
    have q12 := hF 77 15 (by omega) (by omega) (by omega) (by omega)
    have q13 := hF 43 1 (by omega) (by omega) (by omega) (by omega)
    have q14 : mm_u B1 77 17 1 77 17 = 1 := mm_u_same
    have q15 : mm_u B1 77 17 1 43 2 = 1 := by rw [mm_u_ne (by omega), f2 43 2 (by unfold cutm; omega), mm_u_ne (by omega), mm_u_same]
    unfold Is
    rw [q1, q2, q3, q4, q5, q6, q7, q8, q9, q10, q11, q12, q13, q14, q15]
    omega
  · rw [hF 77 1 (by omega) (by omega) (by omega) (by omega)] at p2
    have a := h1 p p1 (by omega)
    have b := h2 p p1 (by omega)
    have e : ∀ (c : Nat) (k : Int), 59 ≤ c → c ≤ 76 → mm_u B1 77 17 1 c k = A1 c k := fun c k q1 q2 => by
      rw [mm_u_ne (by omega), f2 c k (by unfold cutm; omega), mm_u2_ne (by omega) (by omega)]
    rw [e (59 + 3 * p.toNat) 0 (by omega) (by omega), e (59 + 3 * p.toNat) 1 (by omega) (by omega), e (60 + 3 * p.toNat) 0 (by omega) (by omega), e (60 + 3 * p.toNat) 1 (by omega) (by omega), mm_u_ne (b := 89) (by omega), mm_u_ne (b := 90) (by omega), mm_u_ne (b := 91) (by omega), mm_u_ne (b := 92) (by omega), a.1, a.2.1, a.2.2.1, a.2.2.2, b.1, b.2.1, b.2.2.1, b.2.2.2]
    exact ⟨rfl, rfl, rfl, rfl, hip p p1 (by omega)⟩
theorem c35_i {r : MR} {A0 : MF} (hN : 1 ≤ N ∧ N ≤ 6) (h0 : A 43 0 = N) (s0 : mm_E 1 d 46 0 [(0, .ref 56), (1, mJ 0), (3, mJ 1)] [] (mm_w X (mm_fr A 54 0 N 0)) (.inl none, mm_w X A0, 0, 0)) (k : mm_E 1 (d + 1) 35 37 [(0, .ref 43), (1, mI (A0 43 0))] [] (mm_w X A0) r) : ∀ (n : Nat) (i : Int), 0 ≤ i → i + n = N → mm_E 1 (d + 1) 35 2 [(0, .ref 43), (1, mI i)] [] (mm_w X (mm_fr A 54 0 i 0)) r
  | 0, i, hi, h => by
    rw [show i = N by omega]
    refine p35_2_0 s0 ?_ k
    rw [mm_fr_out (by omega)]
    omega
  | n + 1, i, hi, h => by
    refine p35_2_1 ?_ ?_
    · rw [mm_fr_out (by omega)]
      omega
    · rw [mm_fr_s hi]
      exact c35_i hN h0 s0 k n (i + 1) (by omega) (by omega)
theorem c39_i (hN : 1 ≤ N ∧ N ≤ 6) (hl : len ≤ 16) : ∀ (n p : Nat) (A : MF), p + n = N → A 43 0 = N → A 43 1 = len → (∀ i : Nat, i < p → A 55 i = i ∧ A (59 + 3 * i) 0 = 0 ∧ A (59 + 3 * i) 1 = 1 ∧ A (60 + 3 * i) 0 = len ∧ A (60 + 3 * i) 1 = 1) → ∃ A' : MF, (∀ r, mm_E 1 (d + 2) 39 2 [(0, .ref 43), (1, mI N)] [] (mm_w X A') r → mm_E 1 (d + 2) 39 2 [(0, .ref 43), (1, mI p)] [] (mm_w X A) r) ∧ (∀ i : Nat, i < N → A' 55 i = i ∧ A' (59 + 3 * i) 0 = 0 ∧ A' (59 + 3 * i) 1 = 1 ∧ A' (60 + 3 * i) 0 = len ∧ A' (60 + 3 * i) 1 = 1) ∧ ∀ (b : Nat) (k : Int), ¬ cutc b → A' b k = A b k
  | 0, p, A, h, h0, h1, hp => by
    rw [show p = N by omega] at hp ⊢
    exact ⟨A, fun r k => k, hp, fun _ _ _ => rfl⟩
  | n + 1, p, A, h, h0, h1, hp => by
    have tp : ((p : Nat) : Int).toNat = p := by omega
    have s0 := c46 (X := X) (d := d) (A := mm_u A 55 p p) (a := 59 + 3 * (p : Int).toNat) (y := 0) (b := 1) (lr59 (by omega) (by omega)) (by omega) (by omega) (by omega)
    rw [ft01.1, ft01.2] at s0
    have s1 := c46 (X := X) (d := d) (A := mm_u (mm_u (mm_u A 55 p p) (59 + 3 * (p : Int).toNat) 0 0) (59 + 3 * (p : Int).toNat) 1 1) (a := 60 + 3 * (p : Int).toNat) (y := len) (b := 1) (lr60 (by omega) (by omega)) (by omega) (by omega) (by omega)
    rw [ft1.1, ft1.2] at s1
    have e43 : mm_u (mm_u (mm_u A 55 p p) (59 + 3 * (p : Int).toNat) 0 0) (59 + 3 * (p : Int).toNat) 1 1 43 1 = len := by rw [mm_u2_ne (by omega) (by omega), mm_u_ne (by omega), h1]
    have fr : ∀ (b : Nat) (k : Int), (b ≠ 55 ∨ k ≠ p) → b ≠ 59 + 3 * p → b ≠ 60 + 3 * p → mm_u (mm_u (mm_u (mm_u (mm_u A 55 p p) (59 + 3 * (p : Int).toNat) 0 0) (59 + 3 * (p : Int).toNat) 1 1) (60 + 3 * (p : Int).toNat) 0 len) (60 + 3 * (p : Int).toNat) 1 1 b k = A b k := fun b k q1 q2 q3 => by rw [mm_u2_ne (by omega) (by omega), mm_u2_ne (by omega) (by omega), mm_u_ne (by omega)]
    obtain ⟨A', t1, t2, t3⟩ := c39_i hN hl n (p + 1) (mm_u (mm_u (mm_u (mm_u (mm_u A 55 p p) (59 + 3 * (p : Int).toNat) 0 0) (59 + 3 * (p : Int).toNat) 1 1) (60 + 3 * (p : Int).toNat) 0 len) (60 + 3 * (p : Int).toNat) 1 1) (by omega) (by rw [fr _ _ (by omega) (by omega) (by omega), h0]) (by rw [fr _ _ (by omega) (by omega) (by omega), h1]) (fun i hi => by
      by_cases e : i = p
      · rw [e]
        refine ⟨by rw [mm_u2_ne (by omega) (by omega), mm_u2_ne (by omega) (by omega), mm_u_same], ?_, ?_, ?_, ?_⟩
        · rw [tp, mm_u2_ne (by omega) (by omega), mm_u_ne (by omega), mm_u_same]
        · rw [tp, mm_u2_ne (by omega) (by omega), mm_u_same]
        · rw [tp, mm_u_ne (by omega), mm_u_same]
        · rw [tp, mm_u_same]
      · rw [fr _ _ (by omega) (by omega) (by omega), fr _ _ (by omega) (by omega) (by omega), fr _ _ (by omega) (by omega) (by omega), fr _ _ (by omega) (by omega) (by omega), fr _ _ (by omega) (by omega) (by omega)]
        exact hp i (by omega))
    refine ⟨A', fun r k => ?_, t2, fun b k hb => ?_⟩
    · have t4 := t1 r k
      rw [show ((p + 1 : Nat) : Int) = (p : Int) + 1 by omega] at t4
      refine p39_2_1 (d := d + 1) s0 ?_ (by omega) t4
      rw [e43]
      exact s1
    · rw [t3 b k hb]
      unfold cutc at hb
      exact fr b k (by omega) (by omega) (by omega)
theorem c109_i (hN : 1 ≤ N ∧ N ≤ 6) (hl : len ≤ 16) : ∀ (n p : Nat) (A : MF), p + n = N → A 77 1 = N → A 77 15 = len → (∀ i : Nat, i < p → A 89 i = 0 ∧ A 90 i = 1 ∧ A 91 i = len ∧ A 92 i = 1) → ∃ A' : MF, (∀ r, mm_E 1 (d + 1) 109 45 [(0, .ref 77), (1, mI 1)] [] (mm_w X A') r → mm_E 1 (d + 1) 109 18 [(0, .ref 77), (1, mI 1), (2, mI p)] [] (mm_w X A) r) ∧ (∀ i : Nat, i < N → A' 89 i = 0 ∧ A' 90 i = 1 ∧ A' 91 i = len ∧ A' 92 i = 1) ∧ ∀ (b : Nat) (k : Int), b < 89 ∨ 92 < b → A' b k = A b k
  | 0, p, A, h, h0, h1, hp => by
    rw [show p = N by omega] at hp ⊢
    exact ⟨A, fun r k => p109_18_0 (by omega) k, hp, fun _ _ _ => rfl⟩
  | n + 1, p, A, h, h0, h1, hp => by
    obtain ⟨A', t1, t2, t3⟩ := c109_i hN hl n (p + 1) (mm_u (mm_u (mm_u (mm_u A 89 p 0) 90 p 1) 91 p (A 77 15)) 92 p 1) (by omega) (by rw [mm_u2_ne (by omega) (by omega), mm_u2_ne (by omega) (by omega), h0]) (by rw [mm_u2_ne (by omega) (by omega), mm_u2_ne (by omega) (by omega), h1]) (fun i hi => by
      by_cases e : i = p
      · rw [e, mm_u2_ne (by omega) (by omega), mm_u_ne (by omega), mm_u_same, mm_u2_ne (by omega) (by omega), mm_u_same, mm_u_ne (by omega), mm_u_same, mm_u_same]
        exact ⟨rfl, rfl, h1, rfl⟩
      · rw [mm_u2_ne (by omega) (by omega), mm_u2_ne (by omega) (by omega), mm_u2_ne (by omega) (by omega), mm_u2_ne (by omega) (by omega), mm_u2_ne (by omega) (by omega), mm_u2_ne (by omega) (by omega), mm_u2_ne (by omega) (by omega), mm_u2_ne (by omega) (by omega)]
        exact hp i (by omega))
    refine ⟨A', fun r k => ?_, t2, fun b k hb => by rw [t3 b k hb, mm_u2_ne (by omega) (by omega), mm_u2_ne (by omega) (by omega)]⟩
    have t4 := t1 r k
    rw [show ((p + 1 : Nat) : Int) = (p : Int) + 1 by omega] at t4
    exact p109_18_1 (by omega) t4
theorem cb_in {u : Nat} (hN : N ≤ 6) (h : ∀ q, q < 6 → ub u q = decide (q < N)) : ∀ {n : Nat}, n ≤ 6 → cb u n = min n N
  | 0, _ => by
    rw [Nat.zero_min]
    rfl
  | n + 1, hn => by
    rw [cb_s, cb_in hN h (n := n) (by omega), h n (by omega)]
    by_cases c : n < N
    · rw [if_pos (decide_eq_true c)]
      omega
    · rw [if_neg (by simp [c])]
      omega
theorem Inv.da (hI : Inv A) : DA (fun p => A (45 + p.toNat)) := fun p h1 h2 => hI.dr h1 h2
theorem rd17 (hI : Inv A) (hs : mm_sc X x4 z0 z1 z2 z3) (h0 : mm_and z0 31 = 17) : mm_rd X d x4 A := by
  have hS := hI.1
  unfold Is at hS
  have hg : ∃ N len : Nat, (N : Int) = A 43 0 ∧ (len : Int) = A 43 1 := ⟨(A 43 0).toNat, (A 43 1).toNat, by omega, by omega⟩
  obtain ⟨N, len, hn, hlen⟩ := hg
  have hN : 1 ≤ N ∧ N ≤ 6 := by omega
  have hl : len ≤ 16 := by omega
  have hl1 : 1 ≤ len := by omega
  have hd := hI.da
  have hD : ∀ p k : Int, 0 ≤ p → p < 6 → 0 ≤ k → k < 16 → A 88 (16 * p + k) = A (45 + p.toNat) k := fun p k h1 h2 h3 h4 => (hI.2.2.2.2.1 p k h1 h2 h3 h4).1.symm
  obtain ⟨u, u1, u2, u3⟩ := ui_x hN.2
  by_cases hz : z1 = 0
  · have z0' : ∀ (e : Int → Int) (n : Nat), Cw e 0 1 n = 0 := by
      intro e n
      induction n with
      | zero => rfl
      | succ n ih => rw [Cw_s, ih, show cl 0 1 n = 0 by unfold cl; omega, Int.zero_mul]; rfl
    have hLI : LI (fun p => A (45 + p.toNat)) len N 0 0 1 (fun _ => 0) (fun _ _ => 0) := by
      refine ⟨by omega, by omega, by omega, by decide, ⟨N, by omega, ?_, ⟨N, (Int.one_mul _).symm⟩, ⟨1, (Int.mul_one _).symm⟩⟩, ?_, fun p _ _ _ => ?_, fun _ _ _ => .inl rfl⟩
      · rw [Int.pow_zero]
        omega
      · rw [cu_0]
        rfl
      · rw [z0', Int.mul_zero]
        simp
    obtain ⟨pc, i1, i2, i3⟩ := lm_both (X := X) (d := d + 32) hd hl hl1 hN (N - 1) 0 0 1 (fun _ => 0) (fun _ _ => 0) (by omega) hLI
    have s0 := c46 (X := X) (d := d + 36) (A := mm_fr A 54 0 N 0) (a := 56) (y := 0) (b := 1) ly56 (by omega) (by omega) (by omega)
    rw [ft01.1, ft01.2] at s0
    have frc : ∀ (b : Nat) (k : Int), b ≠ 54 → b ≠ 56 → mm_u (mm_u (mm_fr A 54 0 N 0) 56 0 0) 56 1 1 b k = A b k := fun b k q1 q2 => by rw [mm_u2_ne (by omega) (by omega), mm_fr_out (by omega)]
    obtain ⟨A1, a1, a2, a3⟩ := i2 (mm_u (mm_u (mm_fr A 54 0 N 0) 56 0 0) 56 1 1) ⟨by rw [frc _ _ (by omega) (by omega)]; omega, by rw [frc _ _ (by omega) (by omega)]; omega, fun p k p1 p2 p3 p4 => frc _ _ (by omega) (by omega), by rw [mm_u_ne (by omega), mm_u_same], mm_u_same, fun p p1 p2 => by rw [mm_u2_ne (by omega) (by omega), mm_fr_in p1 (by omega)], fun p p1 p2 p3 => absurd rfl p3⟩
    have k35 := c35_i (X := X) (d := d + 37) (A := A) (N := N) hN hn.symm s0 (by rw [frc _ _ (by omega) (by omega), ← hn]; rw [show (N : Int) - ((0 : Nat) : Int) = N by omega] at a1; exact a1) N 0 (by omega) (by omega)
    rw [mm_fr_0] at k35
    have hF1 : ∀ c k, ¬ cutc c → A1 c k = A c k := fun c k hc => by
      rw [a3 c k hc]
      unfold cutc at hc
      exact frc c k (by omega) (by omega)
    have e77 : ∀ k, k ≠ 0 → mm_u (mm_u A1 43 2 1) 77 0 0 77 k = A 77 k := fun k hk => by rw [mm_u2_ne (by omega) (by omega), hF1 77 k (by unfold cutc; omega)]
    obtain ⟨B1, b1, b2, b3⟩ := i3 (mm_u (mm_u A1 43 2 1) 77 0 0) u ⟨by rw [e77 _ (by omega)]; omega, by rw [e77 _ (by omega)]; omega, fun p k p1 p2 p3 p4 => by
      rw [mm_u2_ne (by omega) (by omega), hF1 88 _ (by unfold cutc; omega)]
      exact hD p k p1 p2 p3 p4, fun p _ _ p3 => absurd rfl p3⟩ ⟨u1, fun q hq => by rw [u3 q hq, decide_eq_true_eq]; exact ⟨fun k => ⟨k, rfl⟩, fun k => k.1⟩⟩
    have k106 := p106_0_0 (w := 1) (d := d + 37) (X := X) (A := mm_u (mm_u A1 43 2 1) 77 0 0) (r := (.inl none, mm_w X B1, 0, 0)) (by
      rw [e77 1 (by omega), show A 77 1 = (N : Int) by omega, u2]
      rw [show (N : Int) - ((0 : Nat) : Int) = N by omega] at b1
      exact b1)
    have q2 := p131_0_0 (d := d + 38) (x1 := 0) (k106.mono (by omega)) (by omega)
    exact ok17_1 (cut_fin hI (by omega) i1 a2 hF1 b2 b3) hs h0 hz (p18_0_0 (d := d + 38) (p35_0_0 k35) (by omega)) q2
  · have hcb : cb u 6 = N := by
      rw [cb_in hN.2 u3 (by omega)]
      omega
    have hHG : HG len 0 0 1 len 1 := ⟨by omega, by omega, by omega, by omega, by omega, by omega, by omega, by decide, Nat.gcd_one_right _, 1, by omega, by rw [Int.pow_zero]; omega, ⟨1, rfl⟩, ⟨1, rfl⟩⟩
    obtain ⟨R, i1, i2, i3⟩ := hv_both (X := X) (d := d + 28) hd hl 3 0 (by omega) u 0 1 len 1 u1 hHG (by rw [hcb]; show N ≤ 6; omega)
    have hpm : ∀ p : Int, 0 ≤ p → p < N → p.toNat < 6 ∧ ub u p.toNat = true ∧ ((p.toNat : Nat) : Int) = p := fun p p1 p2 => ⟨by omega, by rw [u3 _ (by omega)]; exact decide_eq_true (by omega), by omega⟩
    have hip : ∀ p : Int, 0 ≤ p → p < N → Ip (R 0 p) (R 1 p) (R 2 p) (R 3 p) := fun p p1 p2 => by
      obtain ⟨h1, h2, h3⟩ := hpm p p1 p2
      have := i1 p.toNat h1 h2
      rw [h3] at this
      exact this
    obtain ⟨A0, a1, a2, a3⟩ := c39_i (X := X) (d := d + 36) (N := N) (len := len) hN hl N 0 A (by omega) hn.symm hlen.symm (fun i hi => by omega)
    obtain ⟨A1, c1, c2, c3⟩ := i2 A0 0 N (fun i => i) hN.2 (by omega) (by omega) (fun q hq => by
      rw [u3 q hq, decide_eq_true_eq]
      exact ⟨fun k => ⟨q, by omega, k, rfl⟩, fun ⟨i, k1, k2, k3⟩ => by omega⟩) ⟨by rw [a3 _ _ (by unfold cutc; omega)]; exact hlen.symm, fun p k p1 p2 p3 p4 => by rw [a3 _ _ (by unfold cutc; omega)], fun i k1 k2 => by
      obtain ⟨m1, m2, m3, m4, m5⟩ := a2 i k2
      exact ⟨m1, by show i < 6; omega, m2, m3, m4, m5⟩, fun i j k1 k2 k3 => by show i ≠ j; omega⟩
    have e43 : A0 43 0 = N := by rw [a3 _ _ (by unfold cutc; omega)]; exact hn.symm
    have k39 := a1 _ (p39_2_0 (d := d + 37) (x1 := N) (by rw [e43]; exact c1) (by omega))
    have hF1 : ∀ c k, ¬ cutc c → A1 c k = A c k := fun c k hc => by
      rw [c3 c k (by unfold cutc at hc; omega) (by unfold cutc at hc; omega) (by unfold cutc at hc; omega) fun q q1 q2 => (by unfold cutc at hc; omega), a3 c k hc]
    have hPC : PCc N R A1 := fun p p1 p2 => by
      obtain ⟨h1, h2, h3⟩ := hpm p p1 p2
      have := c2 p.toNat h1 h2
      rw [h3] at this
      exact this
    have e77 : ∀ k, k ≠ 0 → mm_u (mm_u A1 43 2 1) 77 0 0 77 k = A 77 k := fun k hk => by rw [mm_u2_ne (by omega) (by omega), hF1 77 k (by unfold cutc; omega)]
    have e95 : mm_shl 1 (mm_u (mm_u A1 43 2 1) 77 0 0 77 1) - 1 = u := by rw [e77 1 (by omega), show A 77 1 = (N : Int) by omega, u2]
    obtain ⟨B0, b1, b2, b3⟩ := c109_i (X := X) (d := d + 33) (N := N) (len := len) hN hl N 0 (mm_u (mm_u (mm_u A1 43 2 1) 77 0 0) 95 0 u) (by omega) (by rw [mm_u_ne (by omega), e77 _ (by omega)]; omega) (by rw [mm_u_ne (by omega), e77 _ (by omega)]; omega) (fun i hi => by omega)
    obtain ⟨B1, f1, f2, f3⟩ := i3 B0 0 (by omega) (by omega) ⟨by rw [b3 _ _ (by omega), mm_u_ne (by omega), e77 _ (by omega)]; omega, fun p k p1 p2 p3 p4 => by
      rw [b3 _ _ (by omega), mm_u_ne (by omega), mm_u2_ne (by omega) (by omega), hF1 88 _ (by unfold cutc; omega)]
      exact hD p k p1 p2 p3 p4, fun q q1 q2 => by
      rw [u3 q q1, decide_eq_true_eq] at q2
      exact b2 q q2⟩ (by rw [b3 _ _ (by omega)]; exact mm_u_same)
    have k45 := f1 _ (p109_45_0 (x1 := ((0 : Nat) : Int)) (by omega))
    have k109 := p109_0_0 (d := d + 34) (X := X) (A := mm_u (mm_u A1 43 2 1) 77 0 0) (r := (.inl none, mm_w X B1, 0, 0)) (by
      rw [e95]
      exact b1 _ k45)
    have q2 := p131_0_1 (d := d + 38) (x1 := 1) (k109.mono (by omega)) (by omega)
    have hPM : PCm N R B1 := fun p p1 p2 => by
      obtain ⟨h1, h2, h3⟩ := hpm p p1 p2
      have := f2 p.toNat h1 h2
      rw [h3] at this
      exact this
    have hF2 : ∀ c k, ¬ cutm c k → B1 c k = mm_u (mm_u A1 43 2 1) 77 0 0 c k := fun c k hc => by
      unfold cutm at hc
      rw [f3 c k (by omega) (by omega) (by omega) (by omega) (by by_cases q : c < 89
                                                                 · exact .inl q
                                                                 · exact .inr (.inl (by omega))), b3 c k (by omega), mm_u_ne (by omega)]
    exact ok17_2 (cut_fin hI (by omega) hip hPC hF1 hPM hF2) hs h0 hz ((p18_0_1 (d := d + 38) (x1 := 1) (p39_0_0 k39) (by omega))) q2
end CU
