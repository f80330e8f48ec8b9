/-! greatest divisors; a fraction in lowest terms. -/
theorem gcd_st (a b : Nat) : Nat.gcd a b = Nat.gcd b (a % b) := by
  rw [Nat.gcd_comm a b, Nat.gcd_rec b a, Nat.gcd_comm]
theorem tm_nat (a b : Nat) : Int.tmod (a : Int) (b : Int) = ((a % b : Nat) : Int) := rfl
section GC
variable {X : List Value} {d : Nat} {A : MF}
theorem c53_l {w : Nat} : ∀ (n a b : Nat) (x : Int), b < 2 ^ n → 0 < a + b → 0 ≤ x → x + 2 * n < 200 → a < 9223372036854775808 → b < 9223372036854775808 → mm_E w d 53 3 [(0, mJ a), (2, mJ b), (4, mI x)] [] (mm_w X A) (.inl (some (mJ (Nat.gcd a b))), mm_w X A, 0, 0)
  | 0, a, b, x, hb, hab, h0, h1, ha, hb2 => by
    have e : b = 0 := by
      rw [Nat.pow_zero] at hb
      omega
    rw [e, Nat.gcd_zero_right]
    exact p53_3_2 (by omega)
  | n + 1, a, b, x, hb, hab, h0, h1, ha, hb2 => by
    by_cases c : b = 0
    · rw [c, Nat.gcd_zero_right]
      exact p53_3_2 (by omega)
    · have hm : a % b < b := Nat.mod_lt _ (by omega)
      refine p53_3_4 (by omega) ?_
      rw [tm_nat, gcd_st]
      by_cases c2 : a % b = 0
      · rw [c2, Nat.gcd_zero_right]
        exact p53_3_2 (by omega)
      · have hm2 : b % (a % b) < a % b := Nat.mod_lt _ (by omega)
        have hd := Nat.div_add_mod b (a % b)
        have hq : 1 ≤ b / (a % b) := Nat.div_pos (by omega) (by omega)
        have hl : a % b * 1 ≤ a % b * (b / (a % b)) := Nat.mul_le_mul_left _ hq
        rw [Nat.pow_succ] at hb
        refine p53_3_4 (by omega) ?_
        rw [tm_nat, gcd_st]
        exact c53_l n (a % b) (b % (a % b)) (x + 1 + 1) (by omega) (by omega) (by omega) (by omega) (by omega) (by omega)
theorem c53 {w a b : Nat} (hb : 0 < b) (ha : a < 9223372036854775808) (hb2 : b < 9223372036854775808) : mm_E w d 53 0 [(0, mJ a), (2, mJ b)] [] (mm_w X A) (.inl (some (mJ (Nat.gcd a b))), mm_w X A, 0, 0) :=
  p53_0_0 (c53_l 63 a b 0 (by omega) (by omega) (by omega) (by omega) ha hb2)
theorem c100_l {w : Nat} : ∀ (n a b : Nat), b < n → a < 9223372036854775808 → b < 9223372036854775808 → mm_E w d 100 17 [(4, mJ a), (6, mJ b)] [] (mm_w X A) (.inl (some (mJ (Nat.gcd a b))), mm_w X A, 0, 0)
  | 0, a, b, h, _, _ => by omega
  | n + 1, a, b, h, ha, hb => by
    by_cases c : b = 0
    · rw [c, Nat.gcd_zero_right]
      exact p100_17_0 (by omega)
    · have hm : a % b < b := Nat.mod_lt _ (by omega)
      refine p100_17_1 (by omega) ?_
      rw [tm_nat, gcd_st]
      exact c100_l n b (a % b) (by omega) (by omega) (by omega)
theorem c100 {w : Nat} {a : Int} {b : Nat} (ha : a.natAbs < 9223372036854775808) (hb2 : b < 9223372036854775808) : mm_E w d 100 0 [(0, mJ a), (2, mJ b)] [] (mm_w X A) (.inl (some (mJ (Nat.gcd a.natAbs b))), mm_w X A, 0, 0) := by
  have k := c100_l (X := X) (d := d) (A := A) (w := w) (b + 1) a.natAbs b (by omega) ha hb2
  by_cases c : 0 ≤ a
  · rw [show ((a.natAbs : Nat) : Int) = a by omega] at k
    exact p100_0_0 (by omega) k
  · rw [show ((a.natAbs : Nat) : Int) = -a by omega] at k
    exact p100_0_1 (by omega) k
/-- above and below the line, in lowest terms -/
def ft (a b : Int) : Int := Int.tdiv a (Nat.gcd a.natAbs b.natAbs : Nat)
def fb (a b : Int) : Int := Int.tdiv b (Nat.gcd a.natAbs b.natAbs : Nat)
theorem ft_abs {a b : Int} : (ft a b).natAbs ≤ a.natAbs := by
  unfold ft
  rw [Int.natAbs_tdiv]
  exact Nat.div_le_self _ _
theorem fb_abs {a b : Int} : (fb a b).natAbs ≤ b.natAbs := by
  unfold fb
  rw [Int.natAbs_tdiv]
  exact Nat.div_le_self _ _
theorem gcd_pos {a b : Int} (hb : 0 < b) : 0 < Nat.gcd a.natAbs b.natAbs := Nat.gcd_pos_of_pos_right _ (by omega)
theorem gcd_le {a b : Int} (hb : 0 < b) : Nat.gcd a.natAbs b.natAbs ≤ b.natAbs := Nat.gcd_le_right _ (by omega)
theorem c46 {a : Nat} {y b : Int} (la : mm_ly a = some (3, [1, 1])) (hy : y.natAbs < 9223372036854775808) (hb : 0 < b) (hb2 : b < 9223372036854775808) : mm_E 1 (d + 1) 46 0 [(0, .ref a), (1, mJ y), (3, mJ b)] [] (mm_w X A) (.inl none, mm_w X (mm_u (mm_u A a 0 (ft y b)) a 1 (fb y b)), 0, 0) := by
  have k := c53 (X := X) (d := d) (A := A) (w := 1) (a := y.natAbs) (b := b.natAbs) (by omega) hy (by omega)
  rw [show ((b.natAbs : Nat) : Int) = b by omega] at k
  have g1 := gcd_pos (a := y) hb
  have g2 := gcd_le (a := y) hb
  exact p46_0_0 la k (by omega)
theorem c102 {y b : Int} (hy : y.natAbs < 9223372036854775808) (hb : 0 < b) (hb2 : b < 9223372036854775808) : mm_E 1 (d + 1) 102 0 [(0, .ref 77), (1, mJ y), (3, mJ b)] [] (mm_w X A) (.inl none, mm_w X (mm_u (mm_u A 77 24 (ft y b)) 77 25 (fb y b)), 0, 0) := by
  have k := c100 (X := X) (d := d) (A := A) (w := 1) (a := y) (b := b.natAbs) hy (by omega)
  rw [show ((b.natAbs : Nat) : Int) = b by omega] at k
  have g1 := gcd_pos (a := y) hb
  have g2 := gcd_le (a := y) hb
  exact p102_0_0 k (by omega)
end GC
