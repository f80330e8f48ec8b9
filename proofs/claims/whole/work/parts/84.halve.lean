/-! cut by halves: the class's one halving. -/
def CH (dn : Int → Int → Int) (len fr to : Nat) (o : Nat → Nat) (fa fe ta te : Int) (A : MF) : Prop := A 43 1 = len ∧ (∀ p k : Int, 0 ≤ p → p < 6 → 0 ≤ k → k < 16 → A (45 + p.toNat) k = dn p k) ∧ (∀ i : Nat, fr ≤ i → i < to → A 55 i = o i ∧ o i < 6 ∧ A (59 + 3 * o i) 0 = fa ∧ A (59 + 3 * o i) 1 = fe ∧ A (60 + 3 * o i) 0 = ta ∧ A (60 + 3 * o i) 1 = te) ∧ ∀ i j, fr ≤ i → i < j → j < to → o i ≠ o j
section HC
variable {X : List Value} {d : Nat} {A B : MF} {dn : Int → Int → Int} {len fr to k : Nat} {o : Nat → Nat} {fa fe ta te : Int}
theorem CH.eqv (h : CH dn len fr to o fa fe ta te A) (e : ∀ b k, ¬ (61 ≤ b ∧ b ≤ 76 ∧ b % 3 = 1) → b ≠ 57 → B b k = A b k) : CH dn len fr to o fa fe ta te B := by
  obtain ⟨a1, a2, a3, a4⟩ := h
  refine ⟨by rw [e _ _ (by omega) (by omega), a1], fun p k h1 h2 h3 h4 => by rw [e _ _ (by omega) (by omega)]; exact a2 p k h1 h2 h3 h4, fun i h1 h2 => ?_, a4⟩
  have b2 := (a3 i h1 h2).2.1
  rw [e _ _ (by omega) (by omega), e _ _ (by omega) (by omega), e _ _ (by omega) (by omega), e _ _ (by omega) (by omega), e _ _ (by omega) (by omega)]
  exact a3 i h1 h2
theorem CH.in (h : CH dn len fr to o fa fe ta te A) {i j : Nat} (h1 : fr ≤ i) (h2 : i < to) (h3 : fr ≤ j) (h4 : j < to) (h5 : i ≠ j) : o i ≠ o j := by
  rcases Nat.lt_or_gt_of_ne h5 with q | q
  · exact h.2.2.2 i j h1 q h4
  · exact fun e => h.2.2.2 j i h3 q h2 e.symm
theorem c40_m {x3 : Int} (hd : DA dn) (hl : len ≤ 16) (hk : k ≤ 2) (hto : to ≤ 6) (hn : 2 ≤ to - fr) (hG : HG len k fa fe ta te) : ∀ (n i : Nat) (A : MF), i + n = to → fr ≤ i → CH dn len fr to o fa fe ta te A → (∀ l : Nat, fr ≤ l → l < i → A (61 + 3 * o l) 0 = (hmk dn len (to - fr) fa fe ta te (o l)).1 ∧ A (61 + 3 * o l) 1 = (hmk dn len (to - fr) fa fe ta te (o l)).2) → ∃ A' : MF, (∀ r, mm_E 1 (d + 5) 40 26 [(0, .ref 43), (1, mI fr), (2, mI to), (3, mI x3), (4, mI (to - fr : Nat)), (5, mI ((to - fr) / 2 : Nat)), (6, mI to)] [] (mm_w X A') r → mm_E 1 (d + 5) 40 26 [(0, .ref 43), (1, mI fr), (2, mI to), (3, mI x3), (4, mI (to - fr : Nat)), (5, mI ((to - fr) / 2 : Nat)), (6, mI i)] [] (mm_w X A) r) ∧ CH dn len fr to o fa fe ta te A' ∧ (∀ l : Nat, fr ≤ l → l < to → A' (61 + 3 * o l) 0 = (hmk dn len (to - fr) fa fe ta te (o l)).1 ∧ A' (61 + 3 * o l) 1 = (hmk dn len (to - fr) fa fe ta te (o l)).2) ∧ ∀ b k, ¬ (61 ≤ b ∧ b ≤ 76 ∧ b % 3 = 1) → b ≠ 57 → A' b k = A b k
  | 0, i, A, h, hf, hC, hm => by
    rw [show i = to by omega] at hm ⊢
    exact ⟨A, fun r k => k, hC, hm, fun _ _ _ _ => rfl⟩
  | n + 1, i, A, h, hf, hC, hm => by
    have hC' := hC
    obtain ⟨a1, a2, a3, a4⟩ := hC'
    obtain ⟨b1, b2, b3, b4, b5, b6⟩ := a3 i hf (by omega)
    have hMK := hv_mk (dn := dn) (n := to - fr) hd hl (by omega) hG (p := o i) (by omega) (by omega)
    obtain ⟨x1, x2, x3', x4, x5⟩ := hv_x (dn := dn) hd hl hG (p := o i) (by omega) (by omega)
    obtain ⟨y1, y2, y3, y4, y5, y6, y7⟩ := hv_a (dn := dn) (n := to - fr) hd hl (by omega) hG (p := o i) (by omega) (by omega)
    have hG' := hG
    obtain ⟨g1, g2, g3, g4, g5, g6, g7, g8, g9, D, D1, D2, D3, D4⟩ := hG'
    have pw := pow72 k hk
    have f5 := Int.le_of_dvd D1 D3
    have f6 := Int.le_of_dvd D1 D4
    have f7 := Int.le_of_dvd D1 (x5 D D3 D4)
    have f8 := Int.le_of_dvd (Int.mul_pos D1 (show (0 : Int) < (to - fr : Nat) by omega)) (y7 D D3 D4)
    have f9 : D * ((to - fr : Nat) : Int) ≤ 5184 * 6 := Int.mul_le_mul (by omega) (by omega) (by omega) (by omega)
    have l16 : (len : Int) * fe ≤ 16 * fe := Int.mul_le_mul_of_nonneg_right (by omega) (by omega)
    have m16 : (len : Int) * te ≤ 16 * te := Int.mul_le_mul_of_nonneg_right (by omega) (by omega)
    have xle : xT dn len fa fe ta te (o i) ≤ 192 * 5184 := by
      have s1 : xT dn len fa fe ta te (o i) * fe ≤ 192 * 5184 * fe := by
        have G0 := Gs_bd (F := fa) (U := fe) (k := len) (hd (o i) (by omega) (by omega)) (by omega) hl
        have gb2 : 12 * fe * (len : Int) ≤ 12 * fe * 16 := Int.mul_le_mul_of_nonneg_left (by omega) (by omega)
        have s2 : Gs (dn (o i)) fa fe len * xB dn len fa fe ta te (o i) ≤ (192 * fe) * 5184 := Int.mul_le_mul (by omega) (by omega) (by omega) (by omega)
        omega
      exact Int.le_of_mul_le_mul_right s1 g1
    have ti : (((o i : Nat) : Int)).toNat = o i := by omega
    have s0 := c43 (X := X) (d := d + 1) (A := A) (dn := dn (o i)) (len := len) (p := o i) (pa := fa) (pb := fe) (qa := ta) (qb := te) (a2 := 59 + 3 * o i) (a3 := 60 + 3 * o i) (a4 := 57) (by have := lr59 (e := (o i : Int)) (by omega) (by omega); rw [ti] at this; exact this) (by have := lr60 (e := (o i : Int)) (by omega) (by omega); rw [ti] at this; exact this) ly57 (hd (o i) (by omega) (by omega)) hl (by omega) (by omega) a1 (fun k k1 k2 => a2 (o i) k (by omega) (by omega) k1 k2) b3 b4 b5 b6 g1 (by omega) g2 (by omega) g3 (by omega) g5 (by omega)
    have xh0 : 0 ≤ xT dn len fa fe ta te (o i) * ((to - fr) / 2 : Nat) := Int.mul_nonneg x2 (by omega)
    have xh1 : xT dn len fa fe ta te (o i) * ((to - fr) / 2 : Nat) ≤ (192 * 5184) * 6 := Int.mul_le_mul xle (by omega) (by omega) (by omega)
    have yn0 : 0 < xB dn len fa fe ta te (o i) * ((to - fr : Nat) : Int) := Int.mul_pos x1 (by omega)
    have yn1 : xB dn len fa fe ta te (o i) * ((to - fr : Nat) : Int) ≤ 5184 * 6 := Int.mul_le_mul (by omega) (by omega) (by omega) (by omega)
    have s1 := c46 (X := X) (d := d + 2) (A := mm_u (mm_u A 57 0 (xT dn len fa fe ta te (o i))) 57 1 (xB dn len fa fe ta te (o i))) (a := 57) (y := xT dn len fa fe ta te (o i) * ((to - fr) / 2 : Nat)) (b := xB dn len fa fe ta te (o i) * ((to - fr : Nat) : Int)) ly57 (by omega) yn0 (by omega)
    have s1' := p47_0_0 (d := d + 3) (y1 := ((to - fr) / 2 : Nat)) (y3 := (to - fr : Nat)) (X := X) (A := mm_u (mm_u A 57 0 (xT dn len fa fe ta te (o i))) 57 1 (xB dn len fa fe ta te (o i))) ly57 (by rw [mm_u_ne (by omega), mm_u_same, mm_u_same]; exact s1)
    have fr1 : ∀ b k, b ≠ 57 → mm_u (mm_u (mm_u (mm_u A 57 0 (xT dn len fa fe ta te (o i))) 57 1 (xB dn len fa fe ta te (o i))) 57 0 (aT dn len (to - fr) fa fe ta te (o i))) 57 1 (aB dn len (to - fr) fa fe ta te (o i)) b k = A b k := fun b k hb => by rw [mm_u2_ne (by omega) (by omega), mm_u2_ne (by omega) (by omega)]
    obtain ⟨A1, t1, t2, t3, t4⟩ := c44 (X := X) (d := d) (A := mm_u (mm_u (mm_u (mm_u A 57 0 (xT dn len fa fe ta te (o i))) 57 1 (xB dn len fa fe ta te (o i))) 57 0 (aT dn len (to - fr) fa fe ta te (o i))) 57 1 (aB dn len (to - fr) fa fe ta te (o i))) (dn := dn (o i)) (len := len) (p := o i) (pa := fa) (pb := fe) (aa := aT dn len (to - fr) fa fe ta te (o i)) (ab := aB dn len (to - fr) fa fe ta te (o i)) (a2 := 59 + 3 * o i) (by have := lr59 (e := (o i : Int)) (by omega) (by omega); rw [ti] at this; exact this) (by omega) (by omega) (hd (o i) (by omega) (by omega)) hl (by omega) (by omega) (by rw [fr1 _ _ (by omega), a1]) (fun k k1 k2 => by rw [fr1 _ _ (by omega)]; exact a2 (o i) k (by omega) (by omega) k1 k2) (by rw [fr1 _ _ (by omega), b3]) (by rw [fr1 _ _ (by omega), b4]) (by rw [mm_u_ne (by omega), mm_u_same]) mm_u_same g1 (by omega) y1 (by omega) g3 (by omega) y2 y6 hMK
    rw [ti] at t2 t3 t4
    have fr2 : ∀ b k, ¬ (61 ≤ b ∧ b ≤ 76 ∧ b % 3 = 1) → b ≠ 57 → A1 b k = A b k := fun b k h1 h2 => by rw [t4 b k (by omega), fr1 b k h2]
    obtain ⟨A2, u1, u2, u3, u4⟩ := c40_m (x3 := x3) hd hl hk hto hn hG n (i + 1) A1 (by omega) (by omega) (hC.eqv fr2) (fun l l1 l2 => by
      by_cases e : l = i
      · rw [e]
        exact ⟨t2, t3⟩
      · have ne := hC.in l1 (show l < to by omega) hf (show i < to by omega) e
        have b2' := (a3 l l1 (by omega)).2.1
        rw [t4 _ _ (by omega), t4 _ _ (by omega), fr1 _ _ (by omega), fr1 _ _ (by omega)]
        exact hm l l1 (by omega))
    refine ⟨A2, fun r kr => ?_, u2, u3, fun b k h1 h2 => by rw [u4 b k h1 h2, fr2 b k h1 h2]⟩
    have u5 := u1 r kr
    rw [show ((i + 1 : Nat) : Int) = (i : Int) + 1 by omega] at u5
    refine p40_26_1 (d := d + 4) ?_ s1' ?_ (by omega) u5
    · rw [b1, ti]
      exact s0
    · rw [b1, ti]
      exact t1
theorem c40_e {x3 M1 M2 : Int} {a7 mid : Nat} (la : mm_ly a7 = some (3, [1, 1])) (h7 : a7 % 3 = 1) (hto : to ≤ 6) (hmid : mid ≤ to) : ∀ (n i : Nat) (A : MF), i + n = mid → fr ≤ i → (∀ l : Nat, fr ≤ l → l < to → A 55 l = o l ∧ o l < 6) → A a7 0 = M1 → A a7 1 = M2 → ∃ A' : MF, (∀ r, mm_E 1 (d + 1) 40 162 [(0, .ref 43), (1, mI fr), (2, mI to), (3, mI x3), (6, mI mid), (7, .ref a7), (8, mI mid)] [] (mm_w X A') r → mm_E 1 (d + 1) 40 128 [(0, .ref 43), (1, mI fr), (2, mI to), (3, mI x3), (6, mI mid), (7, .ref a7), (8, mI i)] [] (mm_w X A) r) ∧ (∀ l : Nat, i ≤ l → l < mid → A' (60 + 3 * o l) 0 = M1 ∧ A' (60 + 3 * o l) 1 = M2) ∧ ∀ (b : Nat) (k : Int), (∀ l : Nat, i ≤ l → l < mid → b ≠ 60 + 3 * o l) → A' b k = A b k
  | 0, i, A, h, hf, hO, h1, h2 => by
    rw [show i = mid by omega]
    exact ⟨A, fun r k => p40_128_0 la (by omega) k, fun l l1 l2 => by omega, fun _ _ _ => rfl⟩
  | n + 1, i, A, h, hf, hO, h1, h2 => by
    obtain ⟨b1, b2⟩ := hO i hf (by omega)
    have ti : (((o i : Nat) : Int)).toNat = o i := by omega
    obtain ⟨A', t1, t2, t3⟩ := c40_e (x3 := x3) la h7 hto hmid n (i + 1) (mm_u (mm_u A (60 + 3 * o i) 0 (A a7 0)) (60 + 3 * o i) 1 (A a7 1)) (by omega) (by omega) (fun l l1 l2 => by rw [mm_u2_ne (by omega) (by omega)]; exact hO l l1 l2) (by rw [mm_u2_ne (by omega) (by omega), h1]) (by rw [mm_u2_ne (by omega) (by omega), h2])
    have same : ∀ l : Nat, i + 1 ≤ l → l < mid → o l = o i → A' (60 + 3 * o i) 0 = M1 ∧ A' (60 + 3 * o i) 1 = M2 := fun l l1 l2 e => by
      rw [← e]
      exact t2 l l1 l2
    refine ⟨A', fun r k => ?_, fun l l1 l2 => ?_, fun b k hb => by rw [t3 b k fun l l1 l2 => hb l (by omega) l2, mm_u2_ne (.inl (hb i (by omega) (by omega))) (.inl (hb i (by omega) (by omega)))]⟩
    · have t4 := t1 r k
      rw [show ((i + 1 : Nat) : Int) = (i : Int) + 1 by omega] at t4
      refine p40_128_1 la (by omega) ?_
      rw [b1, ti]
      exact t4
    · by_cases e : l = i
      · rw [e]
        by_cases c : ∃ l, i + 1 ≤ l ∧ l < mid ∧ o l = o i
        · obtain ⟨l, c1, c2, c3⟩ := c
          exact same l c1 c2 c3
        · have ne : ∀ l : Nat, i + 1 ≤ l → l < mid → 60 + 3 * o i ≠ 60 + 3 * o l := fun l l1 l2 q => c ⟨l, l1, l2, by omega⟩
          rw [t3 _ _ ne, t3 _ _ ne, mm_u_ne (by omega), mm_u_same, mm_u_same]
          exact ⟨h1, h2⟩
      · exact t2 l (by omega) l2
theorem c40_b {x3 M1 M2 : Int} {a7 mid : Nat} (la : mm_ly a7 = some (3, [1, 1])) (h7 : a7 % 3 = 1) (hto : to ≤ 6) (hmid : fr ≤ mid) : ∀ (n i : Nat) (A : MF), i + n = to → mid ≤ i → (∀ l : Nat, fr ≤ l → l < to → A 55 l = o l ∧ o l < 6) → A a7 0 = M1 → A a7 1 = M2 → ∃ A' : MF, (∀ r, mm_E 1 (d + 1) 40 162 [(0, .ref 43), (1, mI fr), (2, mI to), (3, mI x3), (6, mI mid), (7, .ref a7), (8, mI to)] [] (mm_w X A') r → mm_E 1 (d + 1) 40 162 [(0, .ref 43), (1, mI fr), (2, mI to), (3, mI x3), (6, mI mid), (7, .ref a7), (8, mI i)] [] (mm_w X A) r) ∧ (∀ l : Nat, i ≤ l → l < to → A' (59 + 3 * o l) 0 = M1 ∧ A' (59 + 3 * o l) 1 = M2) ∧ ∀ (b : Nat) (k : Int), (∀ l : Nat, i ≤ l → l < to → b ≠ 59 + 3 * o l) → A' b k = A b k
  | 0, i, A, h, hf, hO, h1, h2 => by
    rw [show i = to by omega]
    exact ⟨A, fun r k => k, fun l l1 l2 => by omega, fun _ _ _ => rfl⟩
  | n + 1, i, A, h, hf, hO, h1, h2 => by
    obtain ⟨b1, b2⟩ := hO i (by omega) (by omega)
    have ti : (((o i : Nat) : Int)).toNat = o i := by omega
    obtain ⟨A', t1, t2, t3⟩ := c40_b (x3 := x3) la h7 hto hmid n (i + 1) (mm_u (mm_u A (59 + 3 * o i) 0 (A a7 0)) (59 + 3 * o i) 1 (A a7 1)) (by omega) (by omega) (fun l l1 l2 => by rw [mm_u2_ne (by omega) (by omega)]; exact hO l l1 l2) (by rw [mm_u2_ne (by omega) (by omega), h1]) (by rw [mm_u2_ne (by omega) (by omega), h2])
    have same : ∀ l : Nat, i + 1 ≤ l → l < to → o l = o i → A' (59 + 3 * o i) 0 = M1 ∧ A' (59 + 3 * o i) 1 = M2 := fun l l1 l2 e => by
      rw [← e]
      exact t2 l l1 l2
    refine ⟨A', fun r k => ?_, fun l l1 l2 => ?_, fun b k hb => by rw [t3 b k fun l l1 l2 => hb l (by omega) l2, mm_u2_ne (.inl (hb i (by omega) (by omega))) (.inl (hb i (by omega) (by omega)))]⟩
    · have t4 := t1 r k
      rw [show ((i + 1 : Nat) : Int) = (i : Int) + 1 by omega] at t4
      refine p40_162_1 la (by omega) ?_
      rw [b1, ti]
      exact t4
    · by_cases e : l = i
      · rw [e]
        by_cases c : ∃ l, i + 1 ≤ l ∧ l < to ∧ o l = o i
        · obtain ⟨l, c1, c2, c3⟩ := c
          exact same l c1 c2 c3
        · have ne : ∀ l : Nat, i + 1 ≤ l → l < to → 59 + 3 * o i ≠ 59 + 3 * o l := fun l l1 l2 q => c ⟨l, l1, l2, by omega⟩
          rw [t3 _ _ ne, t3 _ _ ne, mm_u_ne (by omega), mm_u_same, mm_u_same]
          exact ⟨h1, h2⟩
      · exact t2 l (by omega) l2
end HC
