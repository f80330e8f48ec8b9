/-! cut by halves: both, group by group. -/
def szb : Nat → Nat
  | 0 => 6
  | 1 => 3
  | 2 => 2
  | _ + 3 => 1
theorem szb_2 : ∀ {k g : Nat}, g ≤ szb k → 2 ≤ g → k ≤ 2 ∧ g / 2 ≤ szb (k + 1) ∧ g - g / 2 ≤ szb (k + 1)
  | 0, g, h, h2 => by
    have : g ≤ 6 := h
    refine ⟨by omega, ?_, ?_⟩
    · show g / 2 ≤ 3
      omega
    · show g - g / 2 ≤ 3
      omega
  | 1, g, h, h2 => by
    have : g ≤ 3 := h
    refine ⟨by omega, ?_, ?_⟩
    · show g / 2 ≤ 2
      omega
    · show g - g / 2 ≤ 2
      omega
  | 2, g, h, h2 => by
    have : g ≤ 2 := h
    refine ⟨by omega, ?_, ?_⟩
    · show g / 2 ≤ 1
      omega
    · show g - g / 2 ≤ 1
      omega
  | k + 3, g, h, h2 => by
    have : g ≤ 1 := h
    omega
def rc (fa fe ta te : Int) (i : Nat) : Int := match i with
  | 0 => fa
  | 1 => fe
  | 2 => ta
  | _ => te
section HB
variable {X : List Value} {d : Nat} {dn : Int → Int → Int} {len : Nat}
theorem HG.ip {k : Nat} {fa fe ta te : Int} (hl : len ≤ 16) (hk : k ≤ 3) (h : HG len k fa fe ta te) : Ip fa fe ta te := by
  obtain ⟨g1, g2, g3, g4, g5, g6, g7, g8, g9, D, D1, D2, D3, D4⟩ := h
  have pw := pow72' k hk
  have f5 := Int.le_of_dvd D1 D3
  have f6 := Int.le_of_dvd D1 D4
  have l16 : (len : Int) * fe ≤ 16 * fe := Int.mul_le_mul_of_nonneg_right (by omega) (by omega)
  have m16 : (len : Int) * te ≤ 16 * te := Int.mul_le_mul_of_nonneg_right (by omega) (by omega)
  exact ⟨g1, by omega, g2, by omega, g3, by omega, g5, by omega, g7⟩
/-- what the class does with a group -/
def HCl (X : List Value) (d : Nat) (dn : Int → Int → Int) (len n k u : Nat) (fa fe ta te : Int) (R : Nat → Int → Int) : Prop := ∀ (A : MF) (fr to : Nat) (o : Nat → Nat), to ≤ 6 → fr ≤ to → to - fr = cb u 6 → (∀ q, q < 6 → (ub u q = true ↔ ∃ i, fr ≤ i ∧ i < to ∧ o i = q)) → CH dn len fr to o fa fe ta te A → ∃ A' : MF, mm_E 1 (d + 6 + n) 40 0 [(0, .ref 43), (1, mI fr), (2, mI to), (3, mI k)] [] (mm_w X A) (.inl none, mm_w X A', 0, 0) ∧ (∀ q : Nat, q < 6 → ub u q = true → A' (59 + 3 * q) 0 = R 0 q ∧ A' (59 + 3 * q) 1 = R 1 q ∧ A' (60 + 3 * q) 0 = R 2 q ∧ A' (60 + 3 * q) 1 = R 3 q) ∧ ∀ (b : Nat) (j : Int), (b ≠ 55 ∨ j < fr ∨ to ≤ j) → b ≠ 57 → ¬ (61 ≤ b ∧ b ≤ 76 ∧ b % 3 = 1) → (∀ q : Nat, q < 6 → ub u q = true → b ≠ 59 + 3 * q ∧ b ≠ 60 + 3 * q) → A' b j = A b j
/-- what the reference does with it -/
def HMo (X : List Value) (d : Nat) (dn : Int → Int → Int) (len u : Nat) (fa fe ta te : Int) (R : Nat → Int → Int) : Prop := ∀ (B : MF) (w : Nat), w + cb u 6 ≤ 6 → w < 6 → MGr dn len u fa fe ta te B → B 95 w = u → ∃ B' : MF, (∀ r, mm_E 1 (d + 6) 109 45 [(0, .ref 77), (1, mI w)] [] (mm_w X B') r → mm_E 1 (d + 6) 109 45 [(0, .ref 77), (1, mI ((w : Int) + 1))] [] (mm_w X B) r) ∧ (∀ q : Nat, q < 6 → ub u q = true → B' 89 q = R 0 q ∧ B' 90 q = R 1 q ∧ B' 91 q = R 2 q ∧ B' 92 q = R 3 q) ∧ ∀ (b : Nat) (j : Int), ¬ (b = 77 ∧ (j = 24 ∨ j = 25)) → b ≠ 93 → b ≠ 94 → (b ≠ 95 ∨ j < w) → (b < 89 ∨ 92 < b ∨ j < 0 ∨ 6 ≤ j ∨ ub u j.toNat ≠ true) → B' b j = B b j
theorem hv_one {n k u : Nat} {fa fe ta te : Int} (hu : u < 64) (hc : cb u 6 ≤ 1) : HCl X d dn len n k u fa fe ta te (fun i _ => rc fa fe ta te i) ∧ HMo X d dn len u fa fe ta te (fun i _ => rc fa fe ta te i) := by
  refine ⟨fun A fr to o h1 h2 h3 h4 hC => ⟨A, p40_0_0 (by omega), fun q q1 q2 => ?_, fun _ _ _ _ _ _ => rfl⟩, fun B w h1 h2 hM h95 => ⟨B, fun r kr => ?_, fun q q1 q2 => hM.2.2 q q1 q2, fun _ _ _ _ _ _ _ => rfl⟩⟩
  · obtain ⟨i, i1, i2, i3⟩ := (h4 q q1).mp q2
    have := (hC.2.2.1 i i1 i2).2.2
    rw [i3] at this
    exact this
  · have e : (w : Int) + 1 + -1 = w := by omega
    have s0 := c108 (X := X) (d := d + 5) (A := B) (w := 1) hu
    refine p109_45_1 (d := d + 5) (z0 := cb u 6) ?_ (by omega) ?_
    · rw [e, h95]
      exact s0
    · rw [e]
      exact kr
theorem hv_cl {n k u v u' l : Nat} {fa fe ta te : Int} {R1 R2 : Nat → Int → Int} (hd : DA dn) (hl : len ≤ 16) (hk : k ≤ 2) (hn : 2 ≤ cb u 6) (hG : HG len k fa fe ta te) (hve : v = vs u (fun p => hmk dn len (cb u 6) fa fe ta te p) (cb u 6 / 2)) (hlast : bs (svu u (vs u (fun p => hmk dn len (cb u 6) fa fe ta te p) (cb u 6 / 2 - 1))) (fun p => hmk dn len (cb u 6) fa fe ta te p) 6 = l) (hv : cb v 6 = cb u 6 / 2) (hu' : cb u' 6 = cb u 6 - cb u 6 / 2) (hb' : ∀ q, q < 6 → (ub u' q = true ↔ (ub u q = true ∧ ub v q ≠ true))) (hsub : ∀ q, q < 6 → ub v q = true → ub u q = true) (H1 : HCl X d dn len n (k + 1) v fa fe (hmk dn len (cb u 6) fa fe ta te l).1 (hmk dn len (cb u 6) fa fe ta te l).2 R1) (H2 : HCl X d dn len n (k + 1) u' (hmk dn len (cb u 6) fa fe ta te l).1 (hmk dn len (cb u 6) fa fe ta te l).2 ta te R2) : HCl X d dn len (n + 1) k u fa fe ta te (fun i q => if ub v q.toNat = true then R1 i q else R2 i q) := fun A fr to o h1 h2 h3 h4 hC => by
  have hbd := cb_bd (u := u) (n := 6)
  have hmb : ∀ q : Nat, q < 6 → 0 < (hmk dn len (cb u 6) fa fe ta te q).2 ∧ (hmk dn len (cb u 6) fa fe ta te q).2 ≤ 2000000 ∧ 0 ≤ (hmk dn len (cb u 6) fa fe ta te q).1 ∧ (hmk dn len (cb u 6) fa fe ta te q).1 ≤ 16 * (hmk dn len (cb u 6) fa fe ta te q).2 := fun q hq => hv_bd hd hl ⟨hn, hbd⟩ hk hG (by omega) (by omega)
  obtain ⟨A1, a1, a2, a3, a4⟩ := c40_m (X := X) (d := d + n + 2) (o := o) (fr := fr) (to := to) (x3 := k) hd hl hk h1 (by omega) hG (to - fr) fr A (by omega) (Nat.le_refl _) hC (fun l l1 l2 => by omega)
  rw [h3] at a1 a3
  rw [show d + n + 2 + 5 = d + 6 + n + 1 by omega] at a1
  have hO : OM (fun p => hmk dn len (cb u 6) fa fe ta te p) fr to o A1 := ⟨fun i i1 i2 => by
    obtain ⟨c1, c2, -⟩ := a2.2.2.1 i i1 i2
    obtain ⟨m1, m2⟩ := a3 i i1 i2
    exact ⟨c1, c2, m1, m2, hmb (o i) c2⟩, a2.2.2.2⟩
  obtain ⟨A2, o', b1, b2, b3, b4, b5⟩ := c41 (X := X) (d := d + n + 4) h1 (show fr < to by omega) hO
  have hu2 : ∀ q, q < 6 → (ub u q = true ↔ ∃ i, fr ≤ i ∧ i < to ∧ o' i = q) := fun q hq => (h4 q hq).trans (b4 q).symm
  have hm0 : ∀ q : Nat, q < 6 → ub u q = true → 0 < ((fun p => hmk dn len (cb u 6) fa fe ta te p) (q : Int)).2 := fun q q1 _ => (hmb q q1).1
  have so := fun (t : Nat) (ht : t ≤ cb u 6) => sel_o (u := u) (m := fun p => hmk dn len (cb u 6) fa fe ta te p) hm0 h3 (fun i i1 i2 => (b2.1 i i1 i2).2.1) b3 hu2 (t := t) ht
  have el : o' (fr + (cb u 6 / 2 - 1)) = l := by
    have := (so (cb u 6 / 2 - 1) (by omega)).2 (by omega)
    rw [hlast] at this
    omega
  have hvm : ∀ q, q < 6 → (ub v q = true ↔ ∃ i, fr ≤ i ∧ i < fr + cb u 6 / 2 ∧ o' i = q) := fun q hq => by
    rw [hve]
    exact (so (cb u 6 / 2) (by omega)).1 q hq
  obtain ⟨c1, c2, c3, c4, -⟩ := b2.1 (fr + (cb u 6 / 2 - 1)) (by omega) (by omega)
  rw [el] at c1 c2 c3 c4
  have la7 : mm_ly (61 + 3 * l) = some (3, [1, 1]) := by
    have := lr61 (e := (l : Int)) (by omega) (by omega)
    rw [show ((l : Nat) : Int).toNat = l by omega] at this
    exact this
  have oin : ∀ i j, fr ≤ i → i < to → fr ≤ j → j < to → i ≠ j → o' i ≠ o' j := fun i j i1 i2 j1 j2 ne => b2.in i1 i2 j1 j2 ne
  have o6 : ∀ i, fr ≤ i → i < to → o' i < 6 := fun i i1 i2 => (b2.1 i i1 i2).2.1
  have hA2 : ∀ (b : Nat) (j : Int), ¬ (61 ≤ b ∧ b ≤ 76 ∧ b % 3 = 1) → b ≠ 57 → (b ≠ 55 ∨ j < fr ∨ to ≤ j) → A2 b j = A b j := fun b j q1 q2 q3 => by rw [b5 b j q3, a4 b j q1 q2]
  have mem : ∀ i, fr ≤ i → i < to → A2 (59 + 3 * o' i) 0 = fa ∧ A2 (59 + 3 * o' i) 1 = fe ∧ A2 (60 + 3 * o' i) 0 = ta ∧ A2 (60 + 3 * o' i) 1 = te := fun i i1 i2 => by
    obtain ⟨j, j1, j2, j3⟩ := (b4 (o' i)).mp ⟨i, i1, i2, rfl⟩
    have := (a2.2.2.1 j j1 j2).2.2
    rw [j3] at this
    have h6 := o6 i i1 i2
    rw [b5 _ _ (by omega), b5 _ _ (by omega), b5 _ _ (by omega), b5 _ _ (by omega)]
    exact this
  obtain ⟨A3, e1, e2, e3⟩ := c40_e (X := X) (d := d + 6 + n) (M1 := (hmk dn len (cb u 6) fa fe ta te l).1) (M2 := (hmk dn len (cb u 6) fa fe ta te l).2) (o := o') (fr := fr) (to := to) (x3 := k) (mid := fr + cb u 6 / 2) (a7 := 61 + 3 * l) la7 (by omega) h1 (by omega) (cb u 6 / 2) fr A2 (by omega) (Nat.le_refl _) (fun i i1 i2 => ⟨(b2.1 i i1 i2).1, (b2.1 i i1 i2).2.1⟩) c3 c4
  have e55 : ∀ i : Nat, fr ≤ i → i < to → A3 55 i = o' i ∧ o' i < 6 := fun i i1 i2 => by
    rw [e3 _ _ fun l _ _ => by omega]
    exact ⟨(b2.1 i i1 i2).1, o6 i i1 i2⟩
  obtain ⟨A4, f1, f2, f3⟩ := c40_b (X := X) (d := d + 6 + n) (M1 := (hmk dn len (cb u 6) fa fe ta te l).1) (M2 := (hmk dn len (cb u 6) fa fe ta te l).2) (o := o') (fr := fr) (to := to) (x3 := k) (mid := fr + cb u 6 / 2) (a7 := 61 + 3 * l) la7 (by omega) h1 (by omega) (to - (fr + cb u 6 / 2)) (fr + cb u 6 / 2) A3 (by omega) (Nat.le_refl _) e55 (by rw [e3 _ _ fun l _ _ => by omega]; exact c3) (by rw [e3 _ _ fun l _ _ => by omega]; exact c4)
  have fin4 : ∀ (b : Nat) (j : Int), ¬ (61 ≤ b ∧ b ≤ 76 ∧ b % 3 = 1) → b ≠ 57 → (b ≠ 55 ∨ j < fr ∨ to ≤ j) → (∀ i, fr ≤ i → i < to → b ≠ 59 + 3 * o' i ∧ b ≠ 60 + 3 * o' i) → A4 b j = A b j := fun b j q1 q2 q3 q4 => by
    rw [f3 b j fun l l1 l2 => (q4 l (by omega) l2).1, e3 b j fun l l1 l2 => (q4 l l1 (by omega)).2, hA2 b j q1 q2 q3]
  have hC1 : CH dn len fr (fr + cb u 6 / 2) o' fa fe (hmk dn len (cb u 6) fa fe ta te l).1 (hmk dn len (cb u 6) fa fe ta te l).2 A4 := by
    refine ⟨?_, fun p j p1 p2 p3 p4 => ?_, fun i i1 i2 => ?_, fun i j i1 i2 i3 => oin i j i1 (by omega) (by omega) (by omega) (by omega)⟩
    · rw [fin4 _ _ (by omega) (by omega) (by omega) fun i i1 i2 => by omega]
      exact hC.1
    · rw [fin4 _ _ (by omega) (by omega) (by omega) fun i i1 i2 => by omega]
      exact hC.2.1 p j p1 p2 p3 p4
    · obtain ⟨m1, m2, m3, m4⟩ := mem i i1 (by omega)
      have h6 := o6 i i1 (by omega)
      have n9 : ∀ l : Nat, fr + cb u 6 / 2 ≤ l → l < to → 59 + 3 * o' i ≠ 59 + 3 * o' l := fun l l1 l2 q => oin i l i1 (by omega) (by omega) l2 (by omega) (by omega)
      have n60 : ∀ l : Nat, fr + cb u 6 / 2 ≤ l → l < to → 60 + 3 * o' i ≠ 59 + 3 * o' l := fun l l1 l2 => by omega
      have z9 : ∀ l : Nat, fr ≤ l → l < fr + cb u 6 / 2 → 59 + 3 * o' i ≠ 60 + 3 * o' l := fun l l1 l2 => by omega
      obtain ⟨w1, w2⟩ := e2 i i1 i2
      rw [f3 (59 + 3 * o' i) 0 n9, f3 (59 + 3 * o' i) 1 n9, f3 (60 + 3 * o' i) 0 n60, f3 (60 + 3 * o' i) 1 n60, e3 (59 + 3 * o' i) 0 z9, e3 (59 + 3 * o' i) 1 z9, f3 55 i fun l _ _ => by omega]
      exact ⟨(e55 i i1 (by omega)).1, h6, m1, m2, w1, w2⟩
  obtain ⟨A5, g1, g2, g3⟩ := H1 A4 fr (fr + cb u 6 / 2) o' (by omega) (by omega) (by omega) hvm hC1
  have nv : ∀ i : Nat, fr + cb u 6 / 2 ≤ i → i < to → ub v (o' i) ≠ true := fun i i1 i2 q => by
    obtain ⟨j, j1, j2, j3⟩ := (hvm _ (o6 i (by omega) i2)).mp q
    exact oin j i j1 (by omega) (by omega) i2 (by omega) j3
  have hC2 : CH dn len (fr + cb u 6 / 2) to o' (hmk dn len (cb u 6) fa fe ta te l).1 (hmk dn len (cb u 6) fa fe ta te l).2 ta te A5 := by
    refine ⟨?_, fun p j p1 p2 p3 p4 => ?_, fun i i1 i2 => ?_, fun i j i1 i2 i3 => oin i j (by omega) (by omega) (by omega) (by omega) (by omega)⟩
    · rw [g3 _ _ (by omega) (by omega) (by omega) fun q _ _ => by omega]
      exact hC1.1
    · rw [g3 _ _ (by omega) (by omega) (by omega) fun q _ _ => by omega]
      exact hC1.2.1 p j p1 p2 p3 p4
    · obtain ⟨m1, m2, m3, m4⟩ := mem i (by omega) i2
      have h6 := o6 i (by omega) i2
      have nq : ∀ q : Nat, q < 6 → ub v q = true → o' i ≠ q := fun q q1 q2 e => nv i i1 i2 (by rw [e]; exact q2)
      have n60 : ∀ l : Nat, fr + cb u 6 / 2 ≤ l → l < to → 60 + 3 * o' i ≠ 59 + 3 * o' l := fun l l1 l2 => by omega
      have z60 : ∀ l : Nat, fr ≤ l → l < fr + cb u 6 / 2 → 60 + 3 * o' i ≠ 60 + 3 * o' l := fun l l1 l2 q => oin i l (by omega) i2 l1 (by omega) (by omega) (by omega)
      obtain ⟨w1, w2⟩ := f2 i i1 i2
      have y1 : ∀ q : Nat, q < 6 → ub v q = true → 59 + 3 * o' i ≠ 59 + 3 * q ∧ 59 + 3 * o' i ≠ 60 + 3 * q := fun q q1 q2 => by have := nq q q1 q2; omega
      have y2 : ∀ q : Nat, q < 6 → ub v q = true → 60 + 3 * o' i ≠ 59 + 3 * q ∧ 60 + 3 * o' i ≠ 60 + 3 * q := fun q q1 q2 => by have := nq q q1 q2; omega
      rw [g3 (59 + 3 * o' i) 0 (by omega) (by omega) (by omega) y1, g3 (59 + 3 * o' i) 1 (by omega) (by omega) (by omega) y1, g3 (60 + 3 * o' i) 0 (by omega) (by omega) (by omega) y2, g3 (60 + 3 * o' i) 1 (by omega) (by omega) (by omega) y2, f3 (60 + 3 * o' i) 0 n60, f3 (60 + 3 * o' i) 1 n60, e3 (60 + 3 * o' i) 0 z60, e3 (60 + 3 * o' i) 1 z60, g3 55 i (by omega) (by omega) (by omega) fun q _ _ => by omega, f3 55 i fun l _ _ => by omega]
      exact ⟨(e55 i (by omega) i2).1, h6, w1, w2, m3, m4⟩
  obtain ⟨A6, i1, i2, i3⟩ := H2 A5 (fr + cb u 6 / 2) to o' h1 (by omega) (by omega) (fun q hq => by
    rw [hb' q hq, hu2 q hq]
    constructor
    · rintro ⟨⟨i, j1, j2, j3⟩, k⟩
      refine ⟨i, ?_, j2, j3⟩
      by_cases c : fr + cb u 6 / 2 ≤ i
      · exact c
      · exact absurd ((hvm q hq).mpr ⟨i, j1, by omega, j3⟩) k
    · rintro ⟨i, j1, j2, j3⟩
      refine ⟨⟨i, by omega, j2, j3⟩, ?_⟩
      rw [← j3]
      exact nv i j1 j2) hC2
  refine ⟨A6, ?_, fun q q1 q2 => ?_, fun b j q1 q2 q3 q4 => ?_⟩
  · have em : (fr : Int) + ((cb u 6 / 2 : Nat) : Int) = ((fr + cb u 6 / 2 : Nat) : Int) := by omega
    have em1 : (fr : Int) + ((cb u 6 / 2 : Nat) : Int) - 1 = ((fr + (cb u 6 / 2 - 1) : Nat) : Int) := by omega
    have tl : ((l : Nat) : Int).toNat = l := by omega
    have ex : ((to : Int) - fr) = ((cb u 6 : Nat) : Int) := by omega
    have ex2 : ((cb u 6 : Nat) : Int) / 2 = ((cb u 6 / 2 : Nat) : Int) := by omega
    rw [show ((k + 1 : Nat) : Int) = (k : Int) + 1 by omega] at g1 i1
    have k162 := p40_162_0 (d := d + 6 + n) (x1 := fr) (x2 := to) (x3 := k) (x6 := ((fr + cb u 6 / 2 : Nat) : Int)) (x8 := to) la7 g1 i1 (by omega)
    have k128 := e1 _ (f1 _ k162)
    rw [show d + n + 4 + 2 = d + 6 + n by omega] at b1
    refine p40_0_1 (by omega) ?_
    rw [ex, ex2]
    refine a1 _ (p40_26_0 (d := d + 6 + n) b1 ?_ ?_)
    · rw [em1, c1]
      omega
    · rw [em1, c1, em, tl]
      exact k128
  · show A6 (59 + 3 * q) 0 = (if ub v ((q : Nat) : Int).toNat = true then R1 0 q else R2 0 q) ∧ A6 (59 + 3 * q) 1 = (if ub v ((q : Nat) : Int).toNat = true then R1 1 q else R2 1 q) ∧ A6 (60 + 3 * q) 0 = (if ub v ((q : Nat) : Int).toNat = true then R1 2 q else R2 2 q) ∧ A6 (60 + 3 * q) 1 = (if ub v ((q : Nat) : Int).toNat = true then R1 3 q else R2 3 q)
    rw [show ((q : Nat) : Int).toNat = q by omega]
    by_cases c : ub v q = true
    · rw [if_pos c, if_pos c, if_pos c, if_pos c]
      have nq : ∀ p : Nat, p < 6 → ub u' p = true → q ≠ p := fun p p1 p2 e => ((hb' p p1).mp p2).2 (by rw [← e]; exact c)
      have y1 : ∀ p : Nat, p < 6 → ub u' p = true → 59 + 3 * q ≠ 59 + 3 * p ∧ 59 + 3 * q ≠ 60 + 3 * p := fun p p1 p2 => by have := nq p p1 p2; omega
      have y2 : ∀ p : Nat, p < 6 → ub u' p = true → 60 + 3 * q ≠ 59 + 3 * p ∧ 60 + 3 * q ≠ 60 + 3 * p := fun p p1 p2 => by have := nq p p1 p2; omega
      rw [i3 (59 + 3 * q) 0 (by omega) (by omega) (by omega) y1, i3 (59 + 3 * q) 1 (by omega) (by omega) (by omega) y1, i3 (60 + 3 * q) 0 (by omega) (by omega) (by omega) y2, i3 (60 + 3 * q) 1 (by omega) (by omega) (by omega) y2]
      exact g2 q q1 c
    · rw [if_neg c, if_neg c, if_neg c, if_neg c]
      exact i2 q q1 ((hb' q q1).mpr ⟨q2, c⟩)
  · rw [i3 b j (by omega) q2 q3 fun p p1 p2 => q4 p p1 ((hb' p p1).mp p2).1, g3 b j (by omega) q2 q3 fun p p1 p2 => q4 p p1 (hsub p p1 p2), fin4 b j q3 q2 q1 fun i j1 j2 => q4 (o' i) (o6 i j1 j2) ((hu2 _ (o6 i j1 j2)).mpr ⟨i, j1, j2, rfl⟩)]
end HB
