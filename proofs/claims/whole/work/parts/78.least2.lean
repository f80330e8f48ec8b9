/-! cut by least marks: the programs. -/
def CL (dn : Int → Int → Int) (len N : Nat) (ha hb : Int) (sv : Int → Int) (pc : Nat → Int → Int) (A : MF) : Prop := A 43 0 = N ∧ A 43 1 = len ∧ (∀ p k : Int, 0 ≤ p → p < 6 → 0 ≤ k → k < 16 → A (45 + p.toNat) k = dn p k) ∧ A 56 0 = ha ∧ A 56 1 = hb ∧ (∀ p : Int, 0 ≤ p → p < N → A 54 p = sv p) ∧ ∀ p : Int, 0 ≤ p → p < N → sv p ≠ 0 → A (59 + 3 * p.toNat) 0 = pc 0 p ∧ A (59 + 3 * p.toNat) 1 = pc 1 p ∧ A (60 + 3 * p.toNat) 0 = pc 2 p ∧ A (60 + 3 * p.toNat) 1 = pc 3 p
def ML2 (dn : Int → Int → Int) (len N : Nat) (sv : Int → Int) (pc : Nat → Int → Int) (A : MF) : Prop := A 77 1 = N ∧ A 77 15 = len ∧ (∀ p k : Int, 0 ≤ p → p < 6 → 0 ≤ k → k < 16 → A 88 (16 * p + k) = dn p k) ∧ ∀ p : Int, 0 ≤ p → p < N → sv p ≠ 0 → A 89 p = pc 0 p ∧ A 90 p = pc 1 p ∧ A 91 p = pc 2 p ∧ A 92 p = pc 3 p
/-- cells of the class that a cut may change -/
def cutc (b : Nat) : Prop := b = 54 ∨ b = 55 ∨ b = 56 ∨ b = 57 ∨ (59 ≤ b ∧ b ≤ 76)
section LP
variable {X : List Value} {d : Nat} {A B : MF} {dn : Int → Int → Int} {len N t : Nat} {ha hb : Int} {sv : Int → Int} {pc : Nat → Int → Int} {m : Int → Int × Int}
theorem CL.eqv (h : CL dn len N ha hb sv pc A) (e : ∀ b k, ¬ (61 ≤ b ∧ b ≤ 76 ∧ b % 3 = 1) → b ≠ 57 → B b k = A b k) (hN : N ≤ 6) : CL dn len N ha hb sv pc B := by
  obtain ⟨a1, a2, a3, a4, a5, a6, a7⟩ := h
  refine ⟨by rw [e _ _ (by omega) (by omega), a1], by rw [e _ _ (by omega) (by omega), a2], fun p k h1 h2 h3 h4 => by rw [e _ _ (by omega) (by omega)]; exact a3 p k h1 h2 h3 h4, by rw [e _ _ (by omega) (by omega), a4], by rw [e _ _ (by omega) (by omega), a5], fun p h1 h2 => by rw [e _ _ (by omega) (by omega)]; exact a6 p h1 h2, fun p h1 h2 h3 => ?_⟩
  rw [e _ _ (by omega) (by omega), e _ _ (by omega) (by omega), e _ _ (by omega) (by omega), e _ _ (by omega) (by omega)]
  exact a7 p h1 h2 h3
theorem c36_w {w : Nat} {r : MR} {p : Int} (hl : len ≤ 16) (hp : 0 ≤ p) (hp2 : p < 6) (hA : A 43 1 = len) (hD : ∀ k : Int, 0 ≤ k → k < 16 → A (45 + p.toNat) k = dn p k) (kr : mm_E w d 36 23 [(0, .ref 43), (1, mI p), (2, mI (Ds (dn p) len)), (3, mI len)] [] (mm_w X A) r) : ∀ (n k : Nat), k + n = len → mm_E w d 36 23 [(0, .ref 43), (1, mI p), (2, mI (Ds (dn p) k)), (3, mI k)] [] (mm_w X A) r
  | 0, k, h => by
    rw [show len = k by omega] at kr
    exact kr
  | n + 1, k, h => by
    have q := c36_w hl hp hp2 hA hD kr n (k + 1) (by omega)
    rw [Ds_s, ← hD k (by omega) (by omega), show ((k + 1 : Nat) : Int) = (k : Int) + 1 by omega] at q
    exact p36_23_1 (by omega) q
theorem c36_l (hd : DA dn) (hl : len ≤ 16) (hN : 1 ≤ N ∧ N ≤ 6) (hI : LI dn len N t ha hb sv pc) (ht : t + 1 < N) : ∀ (n p : Nat) (A : MF), p + n = N → CL dn len N ha hb sv pc A → ∃ A' : MF, mm_E 1 (d + 5) 36 2 [(0, .ref 43), (1, mI p)] [] (mm_w X A) (.inl none, mm_w X A', 0, 0) ∧ CL dn len N ha hb sv pc A' ∧ (∀ q : Int, p ≤ q → q < N → sv q = 0 → A' (61 + 3 * q.toNat) 0 = (lmk dn len N ha hb q).1 ∧ A' (61 + 3 * q.toNat) 1 = (lmk dn len N ha hb q).2) ∧ (∀ (q : Int) (k : Int), 0 ≤ q → q < p → A' (61 + 3 * q.toNat) k = A (61 + 3 * q.toNat) k) ∧ ∀ b k, ¬ (61 ≤ b ∧ b ≤ 76 ∧ b % 3 = 1) → b ≠ 57 → A' b k = A b k
  | 0, p, A, h, hC => by
    have a1 := hC.1
    exact ⟨A, p36_2_0 (by omega), hC, fun q h1 h2 => by omega, fun _ _ _ _ => rfl, fun _ _ _ _ => rfl⟩
  | n + 1, p, A, h, hC => by
    have hC' := hC
    obtain ⟨a1, a2, a3, a4, a5, a6, a7⟩ := hC'
    have e54 := a6 p (by omega) (by omega)
    obtain ⟨i1, i2, i3, i4, ⟨D, D1, D2, D3, D4⟩, i6, i7, i8⟩ := hI
    have hbD := Int.le_of_dvd D1 D3
    have p4 := pow12 t (by omega)
    have l16 : (len : Int) * hb ≤ 16 * hb := Int.mul_le_mul_of_nonneg_right (by omega) (by omega)
    by_cases c : sv p = 0
    · have hM := lm_mk (pc := pc) hd hl hN ⟨i1, i2, i3, i4, ⟨D, D1, D2, D3, D4⟩, i6, i7, i8⟩ (by omega) (p := p) (by omega) (by omega) c
      obtain ⟨w1, w2, w3, w4, w5, w6⟩ := wab hd hl hN (p := p) (by omega) (by omega)
      have bD := Ds_bd (hd p (by omega) (by omega)) hl
      have s0 := c46 (X := X) (d := d + 3) (A := A) (a := 57) (y := Ds (dn p) len) (b := N) ly57 (by omega) (by omega) (by omega)
      obtain ⟨A1, t1, t2, t3, t4⟩ := c44 (X := X) (d := d) (A := mm_u (mm_u A 57 0 (ft (Ds (dn p) len) N)) 57 1 (fb (Ds (dn p) len) N)) (dn := dn p) (len := len) (p := p) (pa := ha) (pb := hb) (aa := wa dn len N p) (ab := wb dn len N p) (a2 := 56) ly56 (by omega) (by omega) (hd p (by omega) (by omega)) hl (by omega) (by omega) (by rw [mm_u2_ne (by omega) (by omega), a2]) (fun k k1 k2 => by rw [mm_u2_ne (by omega) (by omega)]; exact a3 p k (by omega) (by omega) k1 k2) (by rw [mm_u2_ne (by omega) (by omega), a4]) (by rw [mm_u2_ne (by omega) (by omega), a5]) (by rw [mm_u_ne (by omega), mm_u_same]) mm_u_same i1 (by omega) w1 (by omega) i2 (by omega) w3 w4 hM
      have fr1 : ∀ b k, ¬ (61 ≤ b ∧ b ≤ 76 ∧ b % 3 = 1) → b ≠ 57 → A1 b k = A b k := fun b k h1 h2 => by rw [t4 b k (by omega), mm_u2_ne (by omega) (by omega)]
      obtain ⟨A2, u1, u2, u3, u4, u5⟩ := c36_l hd hl hN ⟨i1, i2, i3, i4, ⟨D, D1, D2, D3, D4⟩, i6, i7, i8⟩ ht n (p + 1) A1 (by omega) (hC.eqv fr1 hN.2)
      rw [show ((p + 1 : Nat) : Int) = (p : Int) + 1 by omega] at u1
      refine ⟨A2, p36_2_2 (by omega) (c36_w hl (by omega) (by omega) a2 (fun k k1 k2 => a3 p k (by omega) (by omega) k1 k2) (p36_23_0 (d := d + 4) (by rw [a1]; exact s0) t1 (by omega) u1) len 0 (by omega)), u2, fun q h1 h2 h3 => ?_, fun q k h1 h2 => by rw [u4 q k h1 (by omega), t4 _ _ (by omega), mm_u2_ne (by omega) (by omega)], fun b k h1 h2 => by rw [u5 b k h1 h2, fr1 b k h1 h2]⟩
      by_cases e : q = p
      · rw [e, u4 p 0 (by omega) (by omega), u4 p 1 (by omega) (by omega)]
        exact ⟨t2, t3⟩
      · exact u3 q (by omega) h2 h3
    · obtain ⟨A2, u1, u2, u3, u4, u5⟩ := c36_l hd hl hN ⟨i1, i2, i3, i4, ⟨D, D1, D2, D3, D4⟩, i6, i7, i8⟩ ht n (p + 1) A (by omega) hC
      rw [show ((p + 1 : Nat) : Int) = (p : Int) + 1 by omega] at u1
      have sv1 := i8 p (by omega) (by omega)
      refine ⟨A2, p36_2_1 (by omega) u1, u2, fun q h1 h2 h3 => ?_, fun q k h1 h2 => u4 q k h1 (by omega), u5⟩
      by_cases e : q = p
      · rw [e] at h3
        exact absurd h3 c
      · exact u3 q (by omega) h2 h3
theorem c37_l {w : Nat} (hN : 1 ≤ N ∧ N ≤ 6) (h0 : A 43 0 = N) (h54 : ∀ p : Int, 0 ≤ p → p < N → A 54 p = sv p ∧ (sv p = 0 ∨ sv p = 1)) (hm : ∀ q : Int, 0 ≤ q → q < N → sv q = 0 → A (61 + 3 * q.toNat) 0 = (m q).1 ∧ A (61 + 3 * q.toNat) 1 = (m q).2 ∧ 0 < (m q).2 ∧ (m q).2 ≤ 2000000 ∧ 0 ≤ (m q).1 ∧ (m q).1 ≤ 16 * (m q).2) : ∀ (n i : Nat), i + n = N → mm_E w (d + 1) 37 4 [(0, .ref 43), (1, mI (bs sv m i)), (2, mI i)] [] (mm_w X A) (.inl (some (mI (bs sv m N))), mm_w X A, 0, 0)
  | 0, i, h => by
    rw [show N = i by omega] at h0 ⊢
    exact p37_4_0 (by omega)
  | n + 1, i, h => by
    have q := c37_l (w := w) hN h0 h54 hm n (i + 1) (by omega)
    obtain ⟨v1, v2⟩ := h54 i (by omega) (by omega)
    rw [bs_s, show ((i + 1 : Nat) : Int) = (i : Int) + 1 by omega] at q
    by_cases c : sv i = 0
    · obtain ⟨m1, m2, m3, m4, m5, m6⟩ := hm i (by omega) (by omega) c
      rcases bs_bd (sv := sv) (m := m) (N := N) (fun p h1 h2 h3 => (hm p h1 h2 h3).2.2.1) (n := i) (by omega) with ⟨b1, b2⟩ | ⟨b1, b2, b3, b4⟩
      · rw [if_pos ⟨c, .inl b1⟩] at q
        exact p37_4_2 (by omega) q
      · obtain ⟨k1, k2, k3, k4, k5, k6⟩ := hm (bs sv m i) b1 (by omega) b3
        have r1 : (m i).1 * (m (bs sv m i)).2 ≤ 32000000 * 2000000 := Int.mul_le_mul (by omega) (by omega) (by omega) (by omega)
        have r2 : (m (bs sv m i)).1 * (m i).2 ≤ 32000000 * 2000000 := Int.mul_le_mul (by omega) (by omega) (by omega) (by omega)
        have r3 : 0 ≤ (m i).1 * (m (bs sv m i)).2 := Int.mul_nonneg m5 (by omega)
        have r4 : 0 ≤ (m (bs sv m i)).1 * (m i).2 := Int.mul_nonneg k5 (by omega)
        by_cases c2 : (m i).1 * (m (bs sv m i)).2 < (m (bs sv m i)).1 * (m i).2
        · rw [if_pos ⟨c, .inr c2⟩] at q
          refine p37_4_4 ?_ q
          rw [m1, m2, k1, k2]
          omega
        · rw [if_neg fun k => k.2.elim (fun k => by omega) c2] at q
          refine p37_4_3 ?_ q
          rw [m1, m2, k1, k2]
          omega
    · rw [if_neg fun k => c k.1] at q
      exact p37_4_1 (by omega) q
theorem c38 {b : Int} (hb : 0 ≤ b) (hb2 : b < 6) : ∃ A' : MF, mm_E 1 (d + 1) 38 0 [(0, .ref 43), (1, mI b)] [] (mm_w X A) (.inl none, mm_w X A', 0, 0) ∧ A' (59 + 3 * b.toNat) 0 = A 56 0 ∧ A' (59 + 3 * b.toNat) 1 = A 56 1 ∧ A' (60 + 3 * b.toNat) 0 = A (61 + 3 * b.toNat) 0 ∧ A' (60 + 3 * b.toNat) 1 = A (61 + 3 * b.toNat) 1 ∧ A' 56 0 = A (61 + 3 * b.toNat) 0 ∧ A' 56 1 = A (61 + 3 * b.toNat) 1 ∧ A' 54 b = 1 ∧ ∀ c k, c ≠ 59 + 3 * b.toNat → c ≠ 60 + 3 * b.toNat → c ≠ 56 → (c ≠ 54 ∨ k ≠ b) → A' c k = A c k := by
  have r := p38_0_1 (d := d) (X := X) (A := A) (x1 := b) (by omega)
  have e1 : ∀ k, mm_u (mm_u A (59 + 3 * b.toNat) 0 (A 56 0)) (59 + 3 * b.toNat) 1 (A 56 1) (61 + 3 * b.toNat) k = A (61 + 3 * b.toNat) k := fun k => mm_u2_ne (by omega) (by omega)
  rw [e1, e1] at r
  have e2 : ∀ k, mm_u (mm_u (mm_u (mm_u A (59 + 3 * b.toNat) 0 (A 56 0)) (59 + 3 * b.toNat) 1 (A 56 1)) (60 + 3 * b.toNat) 0 (A (61 + 3 * b.toNat) 0)) (60 + 3 * b.toNat) 1 (A (61 + 3 * b.toNat) 1) (61 + 3 * b.toNat) k = A (61 + 3 * b.toNat) k := fun k => by rw [mm_u2_ne (by omega) (by omega), e1]
  rw [e2, e2] at r
  refine ⟨_, r, ?_, ?_, ?_, ?_, ?_, ?_, mm_u_same, fun c k h1 h2 h3 h4 => ?_⟩
  · rw [mm_u_ne (by omega), mm_u2_ne (by omega) (by omega), mm_u2_ne (by omega) (by omega), mm_u_ne (by omega), mm_u_same]
  · rw [mm_u_ne (by omega), mm_u2_ne (by omega) (by omega), mm_u2_ne (by omega) (by omega), mm_u_same]
  · rw [mm_u_ne (by omega), mm_u2_ne (by omega) (by omega), mm_u_ne (by omega), mm_u_same]
  · rw [mm_u_ne (by omega), mm_u2_ne (by omega) (by omega), mm_u_same]
  · rw [mm_u2_ne (by omega) (by omega), mm_u_same]
  · rw [mm_u_ne (by omega), mm_u_same]
  · rw [mm_u_ne (by omega), mm_u2_ne (by omega) (by omega), mm_u2_ne (by omega) (by omega), mm_u2_ne (by omega) (by omega)]
theorem CL.serve {b ma mb : Int} (hN : N ≤ 6) (h : CL dn len N ha hb sv pc A) (hb1 : 0 ≤ b) (hb2 : b < N) (e1 : B (59 + 3 * b.toNat) 0 = ha) (e2 : B (59 + 3 * b.toNat) 1 = hb) (e3 : B (60 + 3 * b.toNat) 0 = ma) (e4 : B (60 + 3 * b.toNat) 1 = mb) (e5 : B 56 0 = ma) (e6 : B 56 1 = mb) (e7 : B 54 b = 1) (fr : ∀ c k, c ≠ 59 + 3 * b.toNat → c ≠ 60 + 3 * b.toNat → c ≠ 56 → (c ≠ 54 ∨ k ≠ b) → B c k = A c k) : CL dn len N ma mb (up sv b 1) (pcu pc b ha hb ma mb) B := by
  obtain ⟨a1, a2, a3, a4, a5, a6, a7⟩ := h
  refine ⟨by rw [fr _ _ (by omega) (by omega) (by omega) (by omega), a1], by rw [fr _ _ (by omega) (by omega) (by omega) (by omega), a2], fun p k h1 h2 h3 h4 => by rw [fr _ _ (by omega) (by omega) (by omega) (by omega)]; exact a3 p k h1 h2 h3 h4, e5, e6, fun p h1 h2 => ?_, fun p h1 h2 h3 => ?_⟩
  · by_cases e : p = b
    · rw [e, e7, up_same]
    · rw [fr _ _ (by omega) (by omega) (by omega) (by omega), up_ne e]
      exact a6 p h1 h2
  · by_cases e : p = b
    · rw [e, pcu_b.1, pcu_b.2.1, pcu_b.2.2.1, pcu_b.2.2.2]
      exact ⟨e1, e2, e3, e4⟩
    · rw [up_ne e] at h3
      rw [pcu_ne e, pcu_ne e, pcu_ne e, pcu_ne e, fr _ _ (by omega) (by omega) (by omega) (by omega), fr _ _ (by omega) (by omega) (by omega) (by omega), fr _ _ (by omega) (by omega) (by omega) (by omega), fr _ _ (by omega) (by omega) (by omega) (by omega)]
      exact a7 p h1 h2 h3
/-- one round of the class -/
theorem c35_r (hd : DA dn) (hl : len ≤ 16) (hN : 1 ≤ N ∧ N ≤ 6) (hI : LI dn len N t ha hb sv pc) (ht : t + 1 < N) {b : Int} (hbe : b = bs sv (fun p => lmk dn len N ha hb p) N) (hb1 : 0 ≤ b) (hb2 : b < N) (hb3 : sv b = 0) (hC : CL dn len N ha hb sv pc A) : ∃ A' : MF, (∀ r, mm_E 1 (d + 6) 35 37 [(0, .ref 43), (1, mI ((N : Int) - ((t + 1 : Nat) : Int)))] [] (mm_w X A') r → mm_E 1 (d + 6) 35 37 [(0, .ref 43), (1, mI ((N : Int) - t))] [] (mm_w X A) r) ∧ CL dn len N (lmk dn len N ha hb b).1 (lmk dn len N ha hb b).2 (up sv b 1) (pcu pc b ha hb (lmk dn len N ha hb b).1 (lmk dn len N ha hb b).2) A' ∧ ∀ c k, ¬ cutc c → A' c k = A c k := by
  obtain ⟨A1, u1, u2, u3, u4, u5⟩ := c36_l (X := X) (d := d) hd hl hN hI ht N 0 A (by omega) hC
  have k37 := c37_l (X := X) (d := d + 4) (A := A1) (w := 1) (sv := sv) (m := fun p => lmk dn len N ha hb p) hN u2.1 (fun p h1 h2 => ⟨u2.2.2.2.2.2.1 p h1 h2, (hI.2.2.2.2.2.2.2 p h1 h2).imp id fun k => k.1⟩) (fun q h1 h2 h3 => by
    obtain ⟨c1, c2, c3, c4, c5, c6, c7, c8⟩ := lm_all hd hl hN hI ht h1 h2 h3
    have l16 : (len : Int) * (lmk dn len N ha hb q).2 ≤ 16 * (lmk dn len N ha hb q).2 := Int.mul_le_mul_of_nonneg_right (by omega) (by omega)
    exact ⟨(u3 q h1 h2 h3).1, (u3 q h1 h2 h3).2, c1, c8, c2, by omega⟩) N 0 (by omega)
  rw [← hbe] at k37
  obtain ⟨A2, v1, v2, v3, v4, v5, v6, v7, v8, v9⟩ := c38 (X := X) (d := d + 4) (A := A1) hb1 (show b < 6 by omega)
  obtain ⟨m1, m2⟩ := u3 b hb1 hb2 hb3
  rw [u2.2.2.2.1] at v2
  rw [u2.2.2.2.2.1] at v3
  rw [m1] at v4 v6
  rw [m2] at v5 v7
  refine ⟨A2, fun r k => ?_, u2.serve hN.2 hb1 hb2 v2 v3 v4 v5 v6 v7 v8 v9, fun c k hc => ?_⟩
  · rw [show (N : Int) - ((t + 1 : Nat) : Int) = (N : Int) - t + -1 by omega] at k
    exact p35_37_1 (p36_0_0 u1) (p37_0_0 k37) v1 (by omega) k
  · unfold cutc at hc
    rw [v9 c k (by omega) (by omega) (by omega) (by omega), u5 c k (by omega) (by omega)]
end LP
