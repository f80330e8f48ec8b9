/-! cut by least marks: both programs to their ends. -/
def MU (N u : Nat) (sv : Int → Int) : Prop := u < 64 ∧ ∀ q : Nat, q < 6 → (ub u q = true ↔ (q < N ∧ sv q = 0))
/-- cells of the reference that a cut may change -/
def cutm (b : Nat) (k : Int) : Prop := (b = 77 ∧ (k = 24 ∨ k = 25)) ∨ (89 ≤ b ∧ b ≤ 95)
def PCc (N : Nat) (pc : Nat → Int → Int) (A : MF) : Prop := ∀ p : Int, 0 ≤ p → p < N → A (59 + 3 * p.toNat) 0 = pc 0 p ∧ A (59 + 3 * p.toNat) 1 = pc 1 p ∧ A (60 + 3 * p.toNat) 0 = pc 2 p ∧ A (60 + 3 * p.toNat) 1 = pc 3 p
def PCm (N : Nat) (pc : Nat → Int → Int) (A : MF) : Prop := ∀ p : Int, 0 ≤ p → p < N → A 89 p = pc 0 p ∧ A 90 p = pc 1 p ∧ A 91 p = pc 2 p ∧ A 92 p = pc 3 p
section LQ
variable {X : List Value} {d : Nat} {A B : MF} {dn : Int → Int → Int} {len N t : Nat} {ha hb : Int} {sv : Int → Int} {pc : Nat → Int → Int} {m : Int → Int × Int}
theorem ft1 {x : Int} : ft x 1 = x ∧ fb x 1 = 1 := ft_red (by omega) (Nat.gcd_one_right _)
theorem c35_m (hl : len ≤ 16) (hN : 1 ≤ N ∧ N ≤ 6) : ∀ (n p : Nat) (A : MF), p + n = N → CL dn len N ha hb sv pc A → (∀ q : Int, 0 ≤ q → q < p → A (61 + 3 * q.toNat) 0 = len ∧ A (61 + 3 * q.toNat) 1 = 1) → ∃ A' : MF, (∀ r, mm_E 1 (d + 2) 35 62 [(0, .ref 43), (1, mI N)] [] (mm_w X A') r → mm_E 1 (d + 2) 35 62 [(0, .ref 43), (1, mI p)] [] (mm_w X A) r) ∧ CL dn len N ha hb sv pc A' ∧ (∀ q : Int, 0 ≤ q → q < N → A' (61 + 3 * q.toNat) 0 = len ∧ A' (61 + 3 * q.toNat) 1 = 1) ∧ ∀ b k, ¬ (61 ≤ b ∧ b ≤ 76 ∧ b % 3 = 1) → A' b k = A b k
  | 0, p, A, h, hC, hm => by
    rw [show p = N by omega] at hm ⊢
    exact ⟨A, fun r k => k, hC, hm, fun _ _ _ => rfl⟩
  | n + 1, p, A, h, hC, hm => by
    have a1 := hC.1
    have a2 := hC.2.1
    have s0 := c46 (X := X) (d := d) (A := A) (a := 61 + 3 * (p : Int).toNat) (y := A 43 1) (b := 1) (lr61 (by omega) (by omega)) (by omega) (by omega) (by omega)
    rw [ft1.1, ft1.2] at s0
    have fr : ∀ b k, b ≠ 61 + 3 * (p : Int).toNat → mm_u (mm_u A (61 + 3 * (p : Int).toNat) 0 (A 43 1)) (61 + 3 * (p : Int).toNat) 1 1 b k = A b k := fun b k hb => mm_u2_ne (by omega) (by omega)
    obtain ⟨A', u1, u2, u3, u4⟩ := c35_m hl hN n (p + 1) (mm_u (mm_u A (61 + 3 * (p : Int).toNat) 0 (A 43 1)) (61 + 3 * (p : Int).toNat) 1 1) (by omega) (hC.eqv (fun b k h1 h2 => fr b k (by omega)) hN.2) (fun q h1 h2 => by
      by_cases e : q = p
      · rw [e, mm_u_ne (by omega), mm_u_same, mm_u_same, a2]
        exact ⟨rfl, rfl⟩
      · rw [fr _ _ (by omega), fr _ _ (by omega)]
        exact hm q h1 (by omega))
    refine ⟨A', fun r k => ?_, u2, u3, fun b k hb => by rw [u4 b k hb, fr b k (by omega)]⟩
    have u5 := u1 r k
    rw [show ((p + 1 : Nat) : Int) = (p : Int) + 1 by omega] at u5
    exact p35_62_1 s0 (by omega) u5
/-- who is left -/
theorem lm_last (hI : LI dn len N t ha hb sv pc) (ht : t + 1 = N) (hl : len ≤ 16) (hl1 : 1 ≤ len) (hN : 1 ≤ N ∧ N ≤ 6) : ∃ b : Int, b = bs sv (fun _ => ((len : Int), 1)) N ∧ 0 ≤ b ∧ b < N ∧ sv b = 0 ∧ (∀ q : Int, 0 ≤ q → q < N → sv q = 0 → q = b) ∧ ∀ p : Int, 0 ≤ p → p < N → Ip (pcu pc b ha hb len 1 0 p) (pcu pc b ha hb len 1 1 p) (pcu pc b ha hb len 1 2 p) (pcu pc b ha hb len 1 3 p) := by
  obtain ⟨i1, i2, i3, i4, ⟨D, D1, D2, D3, D4⟩, i6, i7, i8⟩ := hI
  have hbD := Int.le_of_dvd D1 D3
  have p4 := pow12' t (by omega)
  have l16 : (len : Int) * hb ≤ 16 * hb := Int.mul_le_mul_of_nonneg_right (by omega) (by omega)
  refine ⟨_, rfl, ?_⟩
  rcases bs_bd (sv := sv) (m := fun _ => ((len : Int), 1)) (N := N) (fun _ _ _ _ => by show (0 : Int) < 1; omega) (n := N) (Nat.le_refl _) with ⟨b1, b2⟩ | ⟨b1, b2, b3, b4⟩
  · have := cu_none b2
    omega
  · generalize bs sv (fun _ => ((len : Int), 1)) N = b at b1 b2 b3 b4
    have c := cu_up (sv := sv) b1 b3 (n := N)
    rw [if_pos b2] at c
    have all := cu_all (sv := up sv b 1) (n := N) (by omega)
    have only : ∀ q : Int, 0 ≤ q → q < N → sv q = 0 → q = b := fun q h1 h2 h3 => by
      by_cases e : q = b
      · exact e
      · have := all q h1 h2
        rw [up_ne e] at this
        exact absurd h3 this
    refine ⟨b1, b2, b3, only, fun p h1 h2 => ?_⟩
    by_cases e : p = b
    · rw [e, pcu_b.1, pcu_b.2.1, pcu_b.2.2.1, pcu_b.2.2.2]
      exact ⟨i1, by omega, by omega, by omega, i2, by omega, by omega, by omega, by omega⟩
    · rw [pcu_ne e, pcu_ne e, pcu_ne e, pcu_ne e]
      rcases i8 p h1 h2 with k | k
      · exact absurd (only p h1 h2 k) e
      · exact k.2
theorem c35_e (hl : len ≤ 16) (hl1 : 1 ≤ len) (hN : 1 ≤ N ∧ N ≤ 6) (hI : LI dn len N t ha hb sv pc) {b : Int} (hbe : b = bs sv (fun _ => ((len : Int), 1)) N) (hb1 : 0 ≤ b) (hb2 : b < N) (hb3 : sv b = 0) (hon : ∀ q : Int, 0 ≤ q → q < N → sv q = 0 → q = b) (hC : CL dn len N ha hb sv pc A) : ∃ A' : MF, mm_E 1 (d + 3) 35 62 [(0, .ref 43), (1, mI 0)] [] (mm_w X A) (.inl none, mm_w X (mm_u A' 43 2 1), 0, 0) ∧ PCc N (pcu pc b ha hb len 1) A' ∧ ∀ c k, ¬ cutc c → A' c k = A c k := by
  obtain ⟨A1, u1, u2, u3, u4⟩ := c35_m (X := X) (d := d + 1) hl hN N 0 A (by omega) hC (fun q h1 h2 => by omega)
  have k37 := c37_l (X := X) (d := d + 1) (A := A1) (w := 1) (sv := sv) (m := fun _ => ((len : Int), 1)) hN u2.1 (fun p h1 h2 => ⟨u2.2.2.2.2.2.1 p h1 h2, (hI.2.2.2.2.2.2.2 p h1 h2).imp id fun k => k.1⟩) (fun q h1 h2 h3 => ⟨(u3 q h1 h2).1, (u3 q h1 h2).2, by show (0 : Int) < 1; omega, by show (1 : Int) ≤ 2000000; omega, by show (0 : Int) ≤ len; omega, by show (len : Int) ≤ 16 * 1; omega⟩) N 0 (by omega)
  rw [← hbe] at k37
  obtain ⟨A2, v1, v2, v3, v4, v5, v6, v7, v8, v9⟩ := c38 (X := X) (d := d + 1) (A := A1) hb1 (show b < 6 by omega)
  obtain ⟨m1, m2⟩ := u3 b hb1 hb2
  rw [u2.2.2.2.1] at v2
  rw [u2.2.2.2.2.1] at v3
  rw [m1] at v4 v6
  rw [m2] at v5 v7
  have sv' := u2.serve hN.2 hb1 hb2 v2 v3 v4 v5 v6 v7 v8 v9
  have a1 := u2.1
  refine ⟨A2, u1 _ (p35_62_0 (p37_0_0 k37) v1 (by omega)), fun p h1 h2 => sv'.2.2.2.2.2.2 p h1 h2 ?_, fun c k hc => ?_⟩
  · by_cases e : p = b
    · rw [e, up_same]
      omega
    · rw [up_ne e]
      exact fun k => e (hon p h1 h2 k)
  · unfold cutc at hc
    rw [v9 c k (by omega) (by omega) (by omega) (by omega), u4 c k (by omega)]
/-! the reference -/
theorem ML2.eqv (h : ML2 dn len N sv pc A) (e : ∀ b k, ¬ (b = 77 ∧ (k = 24 ∨ k = 25)) → b ≠ 93 → b ≠ 94 → B b k = A b k) : ML2 dn len N sv pc B := by
  obtain ⟨a1, a2, a3, a4⟩ := h
  refine ⟨by rw [e _ _ (by omega) (by omega) (by omega), a1], by rw [e _ _ (by omega) (by omega) (by omega), a2], fun p k h1 h2 h3 h4 => by rw [e _ _ (by omega) (by omega) (by omega)]; exact a3 p k h1 h2 h3 h4, fun p h1 h2 h3 => ?_⟩
  rw [e _ _ (by omega) (by omega) (by omega), e _ _ (by omega) (by omega) (by omega), e _ _ (by omega) (by omega) (by omega), e _ _ (by omega) (by omega) (by omega)]
  exact a4 p h1 h2 h3
theorem c104_w {p : Int} (hd : DA dn) (hl : len ≤ 16) (hl1 : 1 ≤ len) (hp : 0 ≤ p) (hp2 : p < 6) (hM : ML2 dn len N sv pc A) : ∃ A' : MF, mm_E 1 (d + 3) 104 0 [(0, .ref 77), (1, mI p), (2, mJ 0), (4, mJ 1), (6, mJ (A 77 15)), (8, mJ 1)] [] (mm_w X A) (.inl none, mm_w X A', 0, 0) ∧ A' 77 24 = Ds (dn p) len ∧ A' 77 25 = 1 ∧ ∀ c k, (c ≠ 77 ∨ (k ≠ 24 ∧ k ≠ 25)) → A' c k = A c k := by
  obtain ⟨a1, a2, a3, a4⟩ := hM
  obtain ⟨A', t1, t2, t3, t4⟩ := c104_k (X := X) (d := d) (A := A) (dn := dn p) (len := len) (p := p) (pa := 0) (pb := 1) (k := len - 1) (hd p hp hp2) hl hp hp2 (by omega) (by omega) (by omega) (by omega) (by omega) a2 (fun k k1 k2 => a3 p k hp hp2 k1 k2)
  have e : Gs (dn p) 0 1 (len - 1 + 1) = Ds (dn p) len := by
    rw [show len - 1 + 1 = len by omega, Gs_C (by omega), Int.one_mul]
    have z : ∀ n : Nat, Cw (dn p) 0 1 n = 0 := by
      intro n
      induction n with
      | zero => rfl
      | succ n ih => rw [Cw_s, ih, show cl 0 1 n = 0 by unfold cl; omega, Int.zero_mul]; rfl
    rw [z, Int.sub_zero]
  rw [e, ft1.1] at t2
  rw [ft1.2] at t3
  rw [show ((len - 1 : Nat) : Int) + 1 = A 77 15 by omega] at t1
  exact ⟨A', t1, t2, t3, t4⟩
theorem c106_i {u : Nat} {x6 : Int} (hd : DA dn) (hl : len ≤ 16) (hl1 : 1 ≤ len) (hN : 1 ≤ N ∧ N ≤ 6) (hI : LI dn len N t ha hb sv pc) (ht : t + 1 < N) (hu : MU N u sv) : ∀ (n i : Nat) (A : MF), i + n = N → ML2 dn len N sv pc A → (∀ q : Int, 0 ≤ q → q < i → sv q = 0 → A 93 q = (lmk dn len N ha hb q).1 ∧ A 94 q = (lmk dn len N ha hb q).2) → ∃ A' : MF, (∀ r, mm_E 1 (d + 5) 106 32 [(0, .ref 77), (1, mI u), (2, mJ ha), (4, mJ hb), (6, mI x6), (7, mI (bs sv (fun p => lmk dn len N ha hb p) N)), (8, mI N)] [] (mm_w X A') r → mm_E 1 (d + 5) 106 32 [(0, .ref 77), (1, mI u), (2, mJ ha), (4, mJ hb), (6, mI x6), (7, mI (bs sv (fun p => lmk dn len N ha hb p) i)), (8, mI i)] [] (mm_w X A) r) ∧ ML2 dn len N sv pc A' ∧ (∀ q : Int, 0 ≤ q → q < N → sv q = 0 → A' 93 q = (lmk dn len N ha hb q).1 ∧ A' 94 q = (lmk dn len N ha hb q).2) ∧ ∀ b k, ¬ (b = 77 ∧ (k = 24 ∨ k = 25)) → b ≠ 93 → b ≠ 94 → A' b k = A b k
  | 0, i, A, h, hM, hm => by
    rw [show i = N by omega] at hm ⊢
    exact ⟨A, fun r k => k, hM, hm, fun _ _ _ _ _ => rfl⟩
  | n + 1, i, A, h, hM, hm => by
    have hM' := hM
    obtain ⟨a1, a2, a3, a4⟩ := hM'
    have hA := fun (p : Int) (h1 : 0 ≤ p) (h2 : p < N) (h3 : sv p = 0) => lm_all hd hl hN hI ht h1 h2 h3
    have bv := ub_v (u := u) (r := i) hu.1 (by omega)
    have bu := hu.2 i (by omega)
    by_cases c : sv i = 0
    · rw [if_pos (bu.mpr ⟨by omega, c⟩)] at bv
      have hMK := lm_mk (pc := pc) hd hl hN hI (by omega) (p := i) (by omega) (by omega) c
      obtain ⟨i1, i2, i3, i4, ⟨D, D1, D2, D3, D4⟩, i6, i7, i8⟩ := hI
      have hbD := Int.le_of_dvd D1 D3
      have p4 := pow12 t (by omega)
      have l16 : (len : Int) * hb ≤ 16 * hb := Int.mul_le_mul_of_nonneg_right (by omega) (by omega)
      obtain ⟨w1, w2, w3, w4, w5, w6⟩ := wab hd hl hN (p := i) (by omega) (by omega)
      obtain ⟨A0, s1, s2, s3, s4⟩ := c104_w (X := X) (d := d + 1) (p := i) hd hl hl1 (by omega) (by omega) hM
      have n1 : A0 77 1 = N := by rw [s4 _ _ (by omega), a1]
      have eb : A0 77 25 * A0 77 1 = N := by rw [s3, n1, Int.one_mul]
      obtain ⟨A1, r1, r2, r3, r4⟩ := c105 (X := X) (d := d) (A := A0) (dn := dn i) (len := len) (p := i) (pa := ha) (pb := hb) (aa := wa dn len N i) (ab := wb dn len N i) (a := A0 77 24) (b := A0 77 25 * A0 77 1) (hd i (by omega) (by omega)) hl (by omega) (by omega) i1 (by omega) i2 (by omega) i4 w1 w3 w4 (by omega) (by omega) (by rw [eb, s2, w5]) (by rw [s4 _ _ (by omega), a2]) (fun k k1 k2 => by rw [s4 _ _ (by omega)]; exact a3 i k (by omega) (by omega) k1 k2) hMK
      have frA : ∀ (b : Nat) (k : Int), ¬ (b = 77 ∧ (k = 24 ∨ k = 25)) → (b ≠ 93 ∨ k ≠ i) → (b ≠ 94 ∨ k ≠ i) → mm_u (mm_u A1 93 i (A1 77 24)) 94 i (A1 77 25) b k = A b k := fun b k h1 h2 h3 => by
        rw [mm_u2_ne (by omega) (by omega), r4 b k (by omega), s4 b k (by omega)]
      obtain ⟨A', u1, u2, u3, u4⟩ := c106_i (x6 := x6) hd hl hl1 hN ⟨i1, i2, i3, i4, ⟨D, D1, D2, D3, D4⟩, i6, i7, i8⟩ ht hu n (i + 1) (mm_u (mm_u A1 93 i (A1 77 24)) 94 i (A1 77 25)) (by omega) (hM.eqv fun b k h1 h2 h3 => frA b k h1 (by omega) (by omega)) (fun q h1 h2 h3 => by
        by_cases e : q = i
        · rw [e, mm_u_ne (by omega), mm_u_same, mm_u_same]
          exact ⟨r2, r3⟩
        · rw [frA _ _ (by omega) (by omega) (by omega), frA _ _ (by omega) (by omega) (by omega)]
          exact hm q h1 (by omega) h3)
      refine ⟨A', fun r k => ?_, u2, u3, fun b k h1 h2 h3 => by rw [u4 b k h1 h2 h3, frA b k h1 (by omega) (by omega)]⟩
      have u5 := u1 r k
      rw [bs_s, show ((i + 1 : Nat) : Int) = (i : Int) + 1 by omega] at u5
      obtain ⟨c1, c2, c3, c4, c5, c6, c7, c8⟩ := hA i (by omega) (by omega) c
      have m16 : (len : Int) * (lmk dn len N ha hb i).2 ≤ 16 * (lmk dn len N ha hb i).2 := Int.mul_le_mul_of_nonneg_right (by omega) (by omega)
      rcases bs_bd (sv := sv) (m := fun p => lmk dn len N ha hb p) (N := N) (fun p h1 h2 h3 => (hA p h1 h2 h3).1) (n := i) (by omega) with ⟨b1, b2⟩ | ⟨b1, b2, b3, b4⟩
      · rw [if_pos ⟨c, .inl b1⟩] at u5
        exact p106_32_2 s1 r1 (by omega) u5
      · generalize bs sv (fun p => lmk dn len N ha hb p) i = j at b1 b2 b3 b4 u5 ⊢
        obtain ⟨e1, e2, e3, e4, e5, e6, e7, e8⟩ := hA j b1 (by omega) b3
        have j16 : (len : Int) * (lmk dn len N ha hb j).2 ≤ 16 * (lmk dn len N ha hb j).2 := Int.mul_le_mul_of_nonneg_right (by omega) (by omega)
        obtain ⟨f1, f2⟩ := hm j b1 (by omega) b3
        have g1 : mm_u (mm_u A1 93 i (A1 77 24)) 94 i (A1 77 25) 94 j = (lmk dn len N ha hb j).2 := by rw [frA _ _ (by omega) (by omega) (by omega), f2]
        have g2 : mm_u A1 93 i (A1 77 24) 93 j = (lmk dn len N ha hb j).1 := by rw [mm_u_ne (by omega), r4 _ _ (by omega), s4 _ _ (by omega), f1]
        have q1 : (lmk dn len N ha hb i).1 * (lmk dn len N ha hb j).2 ≤ 32000000 * 2000000 := Int.mul_le_mul (by omega) (by omega) (by omega) (by omega)
        have q2 : (lmk dn len N ha hb j).1 * (lmk dn len N ha hb i).2 ≤ 32000000 * 2000000 := Int.mul_le_mul (by omega) (by omega) (by omega) (by omega)
        have q3 : 0 ≤ (lmk dn len N ha hb i).1 * (lmk dn len N ha hb j).2 := Int.mul_nonneg c2 (by omega)
        have q4 : 0 ≤ (lmk dn len N ha hb j).1 * (lmk dn len N ha hb i).2 := Int.mul_nonneg e2 (by omega)
        by_cases c2' : (lmk dn len N ha hb i).1 * (lmk dn len N ha hb j).2 < (lmk dn len N ha hb j).1 * (lmk dn len N ha hb i).2
        · rw [if_pos ⟨c, .inr c2'⟩] at u5
          refine p106_32_4 s1 r1 ?_ u5
          rw [g1, g2, r2, r3]
          omega
        · rw [if_neg fun k => k.2.elim (fun k => by omega) c2'] at u5
          refine p106_32_3 s1 r1 ?_ u5
          rw [g1, g2, r2, r3]
          omega
    · rw [if_neg fun k => c (bu.mp k).2] at bv
      obtain ⟨A', u1, u2, u3, u4⟩ := c106_i (x6 := x6) hd hl hl1 hN hI ht hu n (i + 1) A (by omega) hM (fun q h1 h2 h3 => by
        by_cases e : q = i
        · rw [e] at h3
          exact absurd h3 c
        · exact hm q h1 (by omega) h3)
      refine ⟨A', fun r k => ?_, u2, u3, u4⟩
      have u5 := u1 r k
      rw [bs_s, if_neg fun k => c k.1, show ((i + 1 : Nat) : Int) = (i : Int) + 1 by omega] at u5
      exact p106_32_1 (by omega) u5
theorem c106_r {u : Nat} (hd : DA dn) (hl : len ≤ 16) (hl1 : 1 ≤ len) (hN : 1 ≤ N ∧ N ≤ 6) (hI : LI dn len N t ha hb sv pc) (ht : t + 1 < N) (hu : MU N u sv) {b : Int} (hbe : b = bs sv (fun p => lmk dn len N ha hb p) N) (hb1 : 0 ≤ b) (hb2 : b < N) (hb3 : sv b = 0) (hM : ML2 dn len N sv pc A) : ∃ (A' : MF) (u' : Nat), (∀ r, mm_E 1 (d + 5) 106 20 [(0, .ref 77), (1, mI u'), (2, mJ (lmk dn len N ha hb b).1), (4, mJ (lmk dn len N ha hb b).2), (6, mI ((N : Int) - ((t + 1 : Nat) : Int)))] [] (mm_w X A') r → mm_E 1 (d + 5) 106 20 [(0, .ref 77), (1, mI u), (2, mJ ha), (4, mJ hb), (6, mI ((N : Int) - t))] [] (mm_w X A) r) ∧ ML2 dn len N (up sv b 1) (pcu pc b ha hb (lmk dn len N ha hb b).1 (lmk dn len N ha hb b).2) A' ∧ MU N u' (up sv b 1) ∧ ∀ c k, ¬ cutm c k → A' c k = A c k := by
  obtain ⟨A1, u1, u2, u3, u4⟩ := c106_i (X := X) (d := d) (x6 := (N : Int) - t) hd hl hl1 hN hI ht hu N 0 A (by omega) hM (fun q h1 h2 => by omega)
  obtain ⟨m1, m2⟩ := u3 b hb1 hb2 hb3
  obtain ⟨u', x1, x2, x3⟩ := uc_x (u := u) (r := b.toNat) hu.1 (by omega)
  have a1 := u2.1
  rw [show ((b.toNat : Nat) : Int) = b by omega] at x2
  refine ⟨mm_u (mm_u (mm_u (mm_u A1 89 b ha) 90 b hb) 91 b (A1 93 b)) 92 b (A1 94 b), u', fun r k => ?_, ?_, ⟨x1, fun q hq => ?_⟩, fun c k hc => ?_⟩
  · refine p106_20_1 (by omega) (u1 r ?_)
    rw [← hbe]
    refine p106_32_0 (d := d + 4) (by omega) ?_
    rw [x2, m1, m2, show (N : Int) - t + -1 = (N : Int) - ((t + 1 : Nat) : Int) by omega]
    rw [m1, m2] at k
    exact k
  · obtain ⟨b1, b2, b3, b4⟩ := u2
    have fr : ∀ c k, ¬ (89 ≤ c ∧ c ≤ 92 ∧ k = b) → mm_u (mm_u (mm_u (mm_u A1 89 b ha) 90 b hb) 91 b (A1 93 b)) 92 b (A1 94 b) c k = A1 c k := fun c k h => by rw [mm_u2_ne (by omega) (by omega), mm_u2_ne (by omega) (by omega)]
    refine ⟨by rw [fr _ _ (by omega), b1], by rw [fr _ _ (by omega), b2], fun p k h1 h2 h3 h4 => by rw [fr _ _ (by omega)]; exact b3 p k h1 h2 h3 h4, fun p h1 h2 h3 => ?_⟩
    by_cases e : p = b
    · rw [e, pcu_b.1, pcu_b.2.1, pcu_b.2.2.1, pcu_b.2.2.2]
      refine ⟨by rw [mm_u2_ne (by omega) (by omega), mm_u_ne (by omega), mm_u_same], by rw [mm_u2_ne (by omega) (by omega), mm_u_same], by rw [mm_u_ne (by omega), mm_u_same, m1], by rw [mm_u_same, m2]⟩
    · rw [up_ne e] at h3
      rw [fr _ _ (by omega), fr _ _ (by omega), fr _ _ (by omega), fr _ _ (by omega), pcu_ne e, pcu_ne e, pcu_ne e, pcu_ne e]
      exact b4 p h1 h2 h3
  · rw [x3 q hq, Bool.and_eq_true, hu.2 q hq, decide_eq_true_eq]
    unfold up
    by_cases e : (q : Int) = b
    · rw [if_pos e]
      omega
    · rw [if_neg e]
      exact ⟨fun k => k.1, fun k => ⟨k, by omega⟩⟩
  · unfold cutm at hc
    rw [mm_u2_ne (by omega) (by omega), mm_u2_ne (by omega) (by omega), u4 c k (by omega) (by omega) (by omega)]
theorem c106_e {u : Nat} {b : Int} (hl : len ≤ 16) (hN : 1 ≤ N ∧ N ≤ 6) (hu : MU N u sv) (hb3 : sv b = 0) (hon : ∀ q : Int, 0 ≤ q → q < N → sv q = 0 → q = b) : ∀ (n i : Nat) (A : MF), i + n = N → A 77 1 = N → A 77 15 = len → (∀ p : Int, 0 ≤ p → p < N → (sv p ≠ 0 ∨ p < i) → A 89 p = pcu pc b ha hb len 1 0 p ∧ A 90 p = pcu pc b ha hb len 1 1 p ∧ A 91 p = pcu pc b ha hb len 1 2 p ∧ A 92 p = pcu pc b ha hb len 1 3 p) → ∃ A' : MF, mm_E 1 (d + 1) 106 217 [(0, .ref 77), (1, mI u), (2, mJ ha), (4, mJ hb), (6, mI i)] [] (mm_w X A) (.inl none, mm_w X A', 0, 0) ∧ PCm N (pcu pc b ha hb len 1) A' ∧ ∀ c k, ¬ cutm c k → A' c k = A c k
  | 0, i, A, h, h1, h2, hp => ⟨A, p106_217_0 (by omega), fun p q1 q2 => hp p q1 q2 (.inr (by omega)), fun _ _ _ => rfl⟩
  | n + 1, i, A, h, h1, h2, hp => by
    have bv := ub_v (u := u) (r := i) hu.1 (by omega)
    have bu := hu.2 i (by omega)
    by_cases c : sv i = 0
    · rw [if_pos (bu.mpr ⟨by omega, c⟩)] at bv
      have eb := hon i (by omega) (by omega) c
      obtain ⟨A', t1, t2, t3⟩ := c106_e hl hN hu hb3 hon n (i + 1) (mm_u (mm_u (mm_u (mm_u A 89 i ha) 90 i hb) 91 i (A 77 15)) 92 i 1) (by omega) (by rw [mm_u2_ne (by omega) (by omega), mm_u2_ne (by omega) (by omega), h1]) (by rw [mm_u2_ne (by omega) (by omega), mm_u2_ne (by omega) (by omega), h2]) (fun p q1 q2 q3 => by
        by_cases e : p = i
        · rw [e, mm_u2_ne (by omega) (by omega), mm_u_ne (by omega), mm_u_same, mm_u2_ne (by omega) (by omega), mm_u_same, mm_u_ne (by omega), mm_u_same, mm_u_same, eb, pcu_b.1, pcu_b.2.1, pcu_b.2.2.1, pcu_b.2.2.2, h2]
          exact ⟨rfl, rfl, rfl, rfl⟩
        · rw [mm_u2_ne (by omega) (by omega), mm_u2_ne (by omega) (by omega), mm_u2_ne (by omega) (by omega), mm_u2_ne (by omega) (by omega), mm_u2_ne (by omega) (by omega), mm_u2_ne (by omega) (by omega), mm_u2_ne (by omega) (by omega), mm_u2_ne (by omega) (by omega)]
          exact hp p q1 q2 (q3.imp id fun k => by omega))
      rw [show ((i + 1 : Nat) : Int) = (i : Int) + 1 by omega] at t1
      refine ⟨A', p106_217_2 (by omega) t1, t2, fun c k hc => ?_⟩
      rw [t3 c k hc]
      unfold cutm at hc
      rw [mm_u2_ne (by omega) (by omega), mm_u2_ne (by omega) (by omega)]
    · rw [if_neg fun k => c (bu.mp k).2] at bv
      obtain ⟨A', t1, t2, t3⟩ := c106_e hl hN hu hb3 hon n (i + 1) A (by omega) h1 h2 (fun p q1 q2 q3 => hp p q1 q2 (by
        by_cases e : p = i
        · rw [e]
          exact .inl c
        · exact q3.imp id fun k => by omega))
      rw [show ((i + 1 : Nat) : Int) = (i : Int) + 1 by omega] at t1
      exact ⟨A', p106_217_1 (by omega) t1, t2, t3⟩
/-- both, from any state on -/
theorem lm_both (hd : DA dn) (hl : len ≤ 16) (hl1 : 1 ≤ len) (hN : 1 ≤ N ∧ N ≤ 6) : ∀ (n t : Nat) (ha hb : Int) (sv : Int → Int) (pc : Nat → Int → Int), t + n + 1 = N → LI dn len N t ha hb sv pc → ∃ pc' : Nat → Int → Int, (∀ p : Int, 0 ≤ p → p < N → Ip (pc' 0 p) (pc' 1 p) (pc' 2 p) (pc' 3 p)) ∧ (∀ A, CL dn len N ha hb sv pc A → ∃ A' : MF, mm_E 1 (d + 6) 35 37 [(0, .ref 43), (1, mI ((N : Int) - t))] [] (mm_w X A) (.inl none, mm_w X (mm_u A' 43 2 1), 0, 0) ∧ PCc N pc' A' ∧ ∀ c k, ¬ cutc c → A' c k = A c k) ∧ ∀ A u, ML2 dn len N sv pc A → MU N u sv → ∃ A' : MF, mm_E 1 (d + 5) 106 20 [(0, .ref 77), (1, mI u), (2, mJ ha), (4, mJ hb), (6, mI ((N : Int) - t))] [] (mm_w X A) (.inl none, mm_w X A', 0, 0) ∧ PCm N pc' A' ∧ ∀ c k, ¬ cutm c k → A' c k = A c k
  | 0, t, ha, hb, sv, pc, h, hI => by
    obtain ⟨b, b0, b1, b2, b3, b4, b5⟩ := lm_last hI (by omega) hl hl1 hN
    refine ⟨_, b5, fun A hC => ?_, fun A u hM hu => ?_⟩
    · obtain ⟨A', t1, t2, t3⟩ := c35_e (X := X) (d := d + 3) hl hl1 hN hI b0 b1 b2 b3 b4 hC
      exact ⟨A', p35_37_0 (by omega) t1, t2, t3⟩
    · obtain ⟨A', t1, t2, t3⟩ := c106_e (X := X) (d := d + 4) (ha := ha) (hb := hb) (pc := pc) (b := b) hl hN hu b3 b4 N 0 A (by omega) hM.1 hM.2.1 (fun p q1 q2 q3 => by
        have e : p ≠ b := fun e => by
          rcases q3 with k | k
          · rw [e] at k
            exact k b3
          · omega
        rw [pcu_ne e, pcu_ne e, pcu_ne e, pcu_ne e]
        rcases q3 with k | k
        · exact hM.2.2.2 p q1 q2 k
        · omega)
      exact ⟨A', p106_20_0 (by omega) t1, t2, t3⟩
  | n + 1, t, ha, hb, sv, pc, h, hI => by
    obtain ⟨b, b0, b1, b2, b3, b4⟩ := lm_step hd hl hN hI (by omega)
    obtain ⟨pc', f1, f2, f3⟩ := lm_both hd hl hl1 hN n (t + 1) _ _ _ _ (by omega) b4
    refine ⟨pc', f1, fun A hC => ?_, fun A u hM hu => ?_⟩
    · obtain ⟨A1, t1, t2, t3⟩ := c35_r (X := X) (d := d) hd hl hN hI (by omega) b0 b1 b2 b3 hC
      obtain ⟨A2, u1, u2, u3⟩ := f2 A1 t2
      exact ⟨A2, t1 _ u1, u2, fun c k hc => by rw [u3 c k hc, t3 c k hc]⟩
    · obtain ⟨A1, u', t1, t2, t3, t4⟩ := c106_r (X := X) (d := d) hd hl hl1 hN hI (by omega) hu b0 b1 b2 b3 hM
      obtain ⟨A2, u1, u2, u3⟩ := f3 A1 u' t2 t3
      exact ⟨A2, t1 _ u1, u2, fun c k hc => by rw [u3 c k hc, t4 c k hc]⟩
end LQ
