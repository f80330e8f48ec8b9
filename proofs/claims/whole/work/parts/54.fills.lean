/-! Loops that fill: putAllBack, resize, startOver, fresh. -/
def mm_fr (A : MF) (a : Nat) (lo n v : Int) : MF := fun b k => if b = a ∧ lo ≤ k ∧ k < n then v else A b k
theorem mm_fr_0 {A : MF} {a : Nat} {lo v : Int} : mm_fr A a lo lo v = A := by
  funext b k
  unfold mm_fr
  rw [if_neg (by omega)]
theorem mm_fr_s {A : MF} {a : Nat} {lo n v : Int} (h : lo ≤ n) : mm_u (mm_fr A a lo n v) a n v = mm_fr A a lo (n + 1) v := by
  funext b k
  unfold mm_u mm_fr
  by_cases e : b = a ∧ k = n
  · rw [if_pos e, if_pos (by omega)]
  · rw [if_neg e]
    by_cases g : b = a ∧ lo ≤ k ∧ k < n
    · rw [if_pos g, if_pos (by omega)]
    · rw [if_neg g, if_neg (by omega)]
theorem mm_fr_in {A : MF} {a : Nat} {lo n v k : Int} (h1 : lo ≤ k) (h2 : k < n) : mm_fr A a lo n v a k = v := if_pos ⟨rfl, h1, h2⟩
theorem mm_fr_out {A : MF} {a b : Nat} {lo n v k : Int} (h : b ≠ a ∨ k < lo ∨ n ≤ k) : mm_fr A a lo n v b k = A b k := if_neg (by omega)
def mm_rw (A : MF) (base : Nat) (p : Int) (lo n v : Int) : MF := fun b k => if base ≤ b ∧ (b : Int) < base + p ∧ lo ≤ k ∧ k < n then v else A b k
theorem mm_rw_0 {A : MF} {base : Nat} {lo n v : Int} : mm_rw A base 0 lo n v = A := by
  funext b k
  unfold mm_rw
  rw [if_neg (by omega)]
theorem mm_rw_s {A : MF} {base : Nat} {p lo n v : Int} (hp : 0 ≤ p) : mm_fr (mm_rw A base p lo n v) (base + p.toNat) lo n v = mm_rw A base (p + 1) lo n v := by
  funext b k
  unfold mm_fr mm_rw
  by_cases e : b = base + p.toNat ∧ lo ≤ k ∧ k < n
  · rw [if_pos e, if_pos (by omega)]
  · rw [if_neg e]
    by_cases g : base ≤ b ∧ (b : Int) < base + p ∧ lo ≤ k ∧ k < n
    · rw [if_pos g, if_pos (by omega)]
    · rw [if_neg g, if_neg (by omega)]
theorem mm_rw_in {A : MF} {base b : Nat} {p lo n v k : Int} (h1 : base ≤ b) (h2 : (b : Int) < base + p) (h3 : lo ≤ k) (h4 : k < n) : mm_rw A base p lo n v b k = v := if_pos ⟨h1, h2, h3, h4⟩
theorem mm_rw_out {A : MF} {base b : Nat} {p lo n v k : Int} (h : b < base ∨ base + p ≤ b ∨ k < lo ∨ n ≤ k) : mm_rw A base p lo n v b k = A b k := if_neg (by omega)
section FI
variable {X : List Value} {d : Nat} {A : MF}
theorem c73_l : ∀ (n : Nat) (i : Int), 0 ≤ i → i + n = 12 → mm_E 1 d 73 2 [(0, .ref 2), (1, mI i)] [] (mm_w X (mm_fr A 10 0 i (-1))) (.inl none, mm_w X (mm_fr A 10 0 12 (-1)), 0, 0)
  | 0, i, h0, h => by
    have e : i = 12 := by omega
    subst e
    exact p73_2_0 (by omega)
  | n + 1, i, h0, h => by
    refine p73_2_1 (by omega) ?_
    rw [mm_fr_s h0]
    exact c73_l n (i + 1) (by omega) (by omega)
theorem c73 : mm_E 1 d 73 0 [(0, .ref 2)] [] (mm_w X A) (.inl none, mm_w X (mm_fr A 10 0 12 (-1)), 0, 0) := by
  refine p73_0_0 ?_
  have q := c73_l (X := X) (d := d) (A := A) 12 0 (by omega) (by omega)
  rw [mm_fr_0] at q
  exact q
theorem c94_l : ∀ (n : Nat) (i : Int), 0 ≤ i → i + n = 12 → mm_E 1 d 94 2 [(0, .ref 77), (1, mI i)] [] (mm_w X (mm_fr A 79 0 i (-1))) (.inl none, mm_w X (mm_fr A 79 0 12 (-1)), 0, 0)
  | 0, i, h0, h => by
    have e : i = 12 := by omega
    subst e
    exact p94_2_0 (by omega)
  | n + 1, i, h0, h => by
    refine p94_2_1 (by omega) ?_
    rw [mm_fr_s h0]
    exact c94_l n (i + 1) (by omega) (by omega)
theorem c94 : mm_E 1 d 94 0 [(0, .ref 77)] [] (mm_w X A) (.inl none, mm_w X (mm_fr A 79 0 12 (-1)), 0, 0) := by
  refine p94_0_0 ?_
  have q := c94_l (X := X) (d := d) (A := A) 12 0 (by omega) (by omega)
  rw [mm_fr_0] at q
  exact q
/-- resize -/
theorem c56_i {m p : Int} {r : MR} (hm : 0 ≤ m) (h1 : 0 ≤ p) (h2 : p < 6) (k : mm_E 1 d 56 2 [(0, .ref 2), (1, mI m), (2, mI (p + 1))] [] (mm_w X (mm_rw A 4 (p + 1) m 12 0)) r) : ∀ (n : Nat) (i : Int), m ≤ i → i + n = 12 → mm_E 1 d 56 10 [(0, .ref 2), (1, mI m), (2, mI p), (3, mI i)] [] (mm_w X (mm_fr (mm_rw A 4 p m 12 0) (4 + p.toNat) m i 0)) r
  | 0, i, h0, h => by
    have e : i = 12 := by omega
    subst e
    refine p56_10_0 (by omega) ?_
    rw [mm_rw_s (base := 4) h1]
    exact k
  | n + 1, i, h0, h => by
    refine p56_10_1 (by omega) ?_
    rw [mm_fr_s h0]
    exact c56_i hm h1 h2 k n (i + 1) (by omega) (by omega)
theorem c56_o {m : Int} (hm : 0 ≤ m) (hm2 : m ≤ 12) : ∀ (n : Nat) (p : Int), 0 ≤ p → p + n = 6 → mm_E 1 (d + 1) 56 2 [(0, .ref 2), (1, mI m), (2, mI p)] [] (mm_w X (mm_rw A 4 p m 12 0)) (.inl none, mm_w X (mm_fr (mm_u (mm_rw A 4 6 m 12 0) 2 1 m) 10 0 12 (-1)), 0, 0)
  | 0, p, h0, h => by
    have e : p = 6 := by omega
    subst e
    exact p56_2_0 c73 (by omega)
  | n + 1, p, h0, h => by
    refine p56_2_1 (by omega) ?_
    have q := c56_i (X := X) (d := d + 1) (A := A) hm h0 (by omega) (c56_o hm hm2 n (p + 1) (by omega) (by omega)) (12 - m).toNat m (by omega) (by omega)
    rw [mm_fr_0] at q
    exact q
theorem c56 {m : Int} (hm : 0 ≤ m) (hm2 : m ≤ 12) : mm_E 1 (d + 1) 56 0 [(0, .ref 2), (1, mI m)] [] (mm_w X A) (.inl none, mm_w X (mm_fr (mm_u (mm_rw A 4 6 m 12 0) 2 1 m) 10 0 12 (-1)), 0, 0) := by
  refine p56_0_0 ?_
  have q := c56_o (X := X) (d := d) (A := A) hm hm2 6 0 (by omega) (by omega)
  rw [mm_rw_0] at q
  exact q
theorem c115_i {m p : Int} {r : MR} (hm : 0 ≤ m) (h1 : 0 ≤ p) (h2 : p < 6) (k : mm_E 1 d 115 38 [(0, .ref 77), (1, mI m), (2, mI (p + 1))] [] (mm_w X (mm_fr A 78 (12 * p + m) (12 * p + 12) 0)) r) : ∀ (n : Nat) (i : Int), m ≤ i → i + n = 12 → mm_E 1 d 115 46 [(0, .ref 77), (1, mI m), (2, mI p), (3, mI i)] [] (mm_w X (mm_fr A 78 (12 * p + m) (12 * p + i) 0)) r
  | 0, i, h0, h => by
    have e : i = 12 := by omega
    subst e
    exact p115_46_0 (by omega) k
  | n + 1, i, h0, h => by
    refine p115_46_1 (by omega) ?_
    rw [mm_fr_s (by omega)]
    have q := c115_i hm h1 h2 k n (i + 1) (by omega) (by omega)
    rw [show 12 * p + (i + 1) = 12 * p + i + 1 by omega] at q
    exact q
/-- the model's rows p' < p are 0 from m on -/
def mm_mr (A : MF) (p m : Int) : MF := fun b k => if b = 78 ∧ 0 ≤ k ∧ k < 12 * p ∧ m ≤ k % 12 then 0 else A b k
theorem mm_mr_0 {m : Int} : mm_mr A 0 m = A := by
  funext b k
  unfold mm_mr
  rw [if_neg (by omega)]
theorem mm_mr_s {p m : Int} (hm : 0 ≤ m) (hp : 0 ≤ p) : mm_fr (mm_mr A p m) 78 (12 * p + m) (12 * p + 12) 0 = mm_mr A (p + 1) m := by
  funext b k
  unfold mm_fr mm_mr
  by_cases e : b = 78 ∧ 12 * p + m ≤ k ∧ k < 12 * p + 12
  · rw [if_pos e, if_pos (by omega)]
  · rw [if_neg e]
    by_cases g : b = 78 ∧ 0 ≤ k ∧ k < 12 * p ∧ m ≤ k % 12
    · rw [if_pos g, if_pos (by omega)]
    · rw [if_neg g, if_neg (by omega)]
theorem c115_o {m : Int} (hm : 0 ≤ m) (hm2 : m ≤ 12) : ∀ (n : Nat) (p : Int), 0 ≤ p → p + n = 6 → mm_E 1 d 115 38 [(0, .ref 77), (1, mI m), (2, mI p)] [] (mm_w X (mm_mr A p m)) (.inl none, mm_w X (mm_mr A 6 m), 0, 0)
  | 0, p, h0, h => by
    have e : p = 6 := by omega
    subst e
    exact p115_38_0 (by omega)
  | n + 1, p, h0, h => by
    refine p115_38_1 (by omega) ?_
    have q := c115_i (X := X) (d := d) (A := mm_mr A p m) (m := m) (p := p) hm h0 (by omega) (by rw [mm_mr_s hm h0]; exact c115_o hm hm2 n (p + 1) (by omega) (by omega)) (12 - m).toNat m (by omega) (by omega)
    rw [mm_fr_0] at q
    exact q
theorem c115 {m : Int} (hm : 0 ≤ m) (hm2 : m ≤ 12) : mm_E 1 (d + 1) 115 0 [(0, .ref 77), (1, mI m)] [] (mm_w X A) (.inl none, mm_w X (mm_mr (mm_fr (mm_u (mm_u A 77 0 0) 77 2 m) 79 0 12 (-1)) 6 m), 0, 0) := by
  refine p115_0_1 c94 (by omega) ?_
  have q := c115_o (X := X) (d := d + 1) (A := mm_fr (mm_u (mm_u A 77 0 0) 77 2 m) 79 0 12 (-1)) hm hm2 6 0 (by omega) (by omega)
  rw [mm_mr_0] at q
  exact q
theorem c55 {n : Int} : mm_E 1 (d + 2) 55 0 [(0, .ref 2), (1, mI n)] [] (mm_w X A) (.inl none, mm_w X (mm_fr (mm_u (mm_rw (mm_u A 2 0 n) 4 6 0 12 0) 2 1 0) 10 0 12 (-1)), 0, 0) := p55_0_0 (c56 (by omega) (by omega))
/-- House.startOver -/
theorem c75_i {p : Int} {r : MR} (h1 : 0 ≤ p) (h2 : p < 6) (k : mm_E 1 d 75 17 [(0, .ref 25), (2, mI (p + 1))] [] (mm_w X (mm_rw A 27 (p + 1) 0 6 0)) r) : ∀ (n : Nat) (i : Int), 0 ≤ i → i + n = 6 → mm_E 1 d 75 25 [(0, .ref 25), (2, mI p), (3, mI i)] [] (mm_w X (mm_fr (mm_rw A 27 p 0 6 0) (27 + p.toNat) 0 i 0)) r
  | 0, i, h0, h => by
    have e : i = 6 := by omega
    subst e
    refine p75_25_0 (by omega) ?_
    rw [mm_rw_s (base := 27) h1]
    exact k
  | n + 1, i, h0, h => by
    refine p75_25_1 (by omega) ?_
    rw [mm_fr_s h0]
    exact c75_i h1 h2 k n (i + 1) (by omega) (by omega)
theorem c75_o : ∀ (n : Nat) (p : Int), 0 ≤ p → p + n = 6 → mm_E 1 d 75 17 [(0, .ref 25), (2, mI p)] [] (mm_w X (mm_rw A 27 p 0 6 0)) (.inl none, mm_w X (mm_rw A 27 6 0 6 0), 0, 0)
  | 0, p, h0, h => by
    have e : p = 6 := by omega
    subst e
    exact p75_17_0 (by omega)
  | n + 1, p, h0, h => by
    refine p75_17_1 (by omega) ?_
    have q := c75_i (X := X) (d := d) (A := A) h0 (by omega) (c75_o n (p + 1) (by omega) (by omega)) 6 0 (by omega) (by omega)
    rw [mm_fr_0] at q
    exact q
theorem c75 {n : Int} : mm_E 1 d 75 0 [(0, .ref 25), (1, mI n)] [] (mm_w X A) (.inl none, mm_w X (mm_rw (mm_u (mm_u (mm_u A 25 0 n) 25 1 0) 25 2 0) 27 6 0 6 0), 0, 0) := by
  refine p75_0_0 ?_
  have q := c75_o (X := X) (d := d) (A := mm_u (mm_u (mm_u A 25 0 n) 25 1 0) 25 2 0) 6 0 (by omega) (by omega)
  rw [mm_rw_0] at q
  exact q
/-- CakeTable.startOver -/
theorem c28_i {p : Int} {r : MR} (h1 : 0 ≤ p) (h2 : p < 6) (k : mm_E 1 d 28 12 [(0, .ref 43), (2, mI (p + 1))] [] (mm_w X (mm_rw A 45 (p + 1) 0 16 0)) r) : ∀ (n : Nat) (i : Int), 0 ≤ i → i + n = 16 → mm_E 1 d 28 20 [(0, .ref 43), (2, mI p), (3, mI i)] [] (mm_w X (mm_fr (mm_rw A 45 p 0 16 0) (45 + p.toNat) 0 i 0)) r
  | 0, i, h0, h => by
    have e : i = 16 := by omega
    subst e
    refine p28_20_0 (by omega) ?_
    rw [mm_rw_s (base := 45) h1]
    exact k
  | n + 1, i, h0, h => by
    refine p28_20_1 (by omega) ?_
    rw [mm_fr_s h0]
    exact c28_i h1 h2 k n (i + 1) (by omega) (by omega)
theorem c28_o : ∀ (n : Nat) (p : Int), 0 ≤ p → p + n = 6 → mm_E 1 d 28 12 [(0, .ref 43), (2, mI p)] [] (mm_w X (mm_rw A 45 p 0 16 0)) (.inl none, mm_w X (mm_rw A 45 6 0 16 0), 0, 0)
  | 0, p, h0, h => by
    have e : p = 6 := by omega
    subst e
    exact p28_12_0 (by omega)
  | n + 1, p, h0, h => by
    refine p28_12_1 (by omega) ?_
    have q := c28_i (X := X) (d := d) (A := A) h0 (by omega) (c28_o n (p + 1) (by omega) (by omega)) 16 0 (by omega) (by omega)
    rw [mm_fr_0] at q
    exact q
theorem c28 {n : Int} : mm_E 1 (d + 1) 28 0 [(0, .ref 43), (1, mI n)] [] (mm_w X A) (.inl none, mm_w X (mm_rw (mm_u (mm_u (mm_u A 43 0 n) 43 1 1) 43 2 0) 45 6 0 16 0), 0, 0) := by
  refine p28_0_0 ?_
  have q := c28_o (X := X) (d := d + 1) (A := mm_u (mm_u (mm_u A 43 0 n) 43 1 1) 43 2 0) 6 0 (by omega) (by omega)
  rw [mm_rw_0] at q
  exact q
/-- fresh -/
theorem c91_4 : ∀ (n : Nat) (i : Int), 0 ≤ i → i + n = 96 → mm_E 1 d 91 95 [(0, .ref 77), (2, mI i)] [] (mm_w X (mm_fr A 88 0 i 0)) (.inl none, mm_w X (mm_fr A 88 0 96 0), 0, 0)
  | 0, i, h0, h => by
    have e : i = 96 := by omega
    subst e
    exact p91_95_0 (by omega)
  | n + 1, i, h0, h => by
    refine p91_95_1 (by omega) ?_
    rw [mm_fr_s h0]
    exact c91_4 n (i + 1) (by omega) (by omega)
theorem c91_3 : ∀ (n : Nat) (i : Int), 0 ≤ i → i + n = 36 → mm_E 1 d 91 74 [(0, .ref 77), (2, mI i)] [] (mm_w X (mm_fr A 82 0 i 0)) (.inl none, mm_w X (mm_fr (mm_fr A 82 0 36 0) 88 0 96 0), 0, 0)
  | 0, i, h0, h => by
    have e : i = 36 := by omega
    subst e
    refine p91_74_0 (by omega) ?_
    have q := c91_4 (X := X) (d := d) (A := mm_fr A 82 0 36 0) 96 0 (by omega) (by omega)
    rw [mm_fr_0] at q
    exact q
  | n + 1, i, h0, h => by
    refine p91_74_1 (by omega) ?_
    rw [mm_fr_s h0]
    exact c91_3 n (i + 1) (by omega) (by omega)
theorem c91_2 : ∀ (n : Nat) (i : Int), 0 ≤ i → i + n = 12 → mm_E 1 d 91 53 [(0, .ref 77), (2, mI i)] [] (mm_w X (mm_fr A 79 0 i (-1))) (.inl none, mm_w X (mm_fr (mm_fr (mm_fr A 79 0 12 (-1)) 82 0 36 0) 88 0 96 0), 0, 0)
  | 0, i, h0, h => by
    have e : i = 12 := by omega
    subst e
    refine p91_53_0 (by omega) ?_
    have q := c91_3 (X := X) (d := d) (A := mm_fr A 79 0 12 (-1)) 36 0 (by omega) (by omega)
    rw [mm_fr_0] at q
    exact q
  | n + 1, i, h0, h => by
    refine p91_53_1 (by omega) ?_
    rw [mm_fr_s h0]
    exact c91_2 n (i + 1) (by omega) (by omega)
theorem c91_1 : ∀ (n : Nat) (i : Int), 0 ≤ i → i + n = 72 → mm_E 1 d 91 32 [(0, .ref 77), (2, mI i)] [] (mm_w X (mm_fr A 78 0 i 0)) (.inl none, mm_w X (mm_fr (mm_fr (mm_fr (mm_fr A 78 0 72 0) 79 0 12 (-1)) 82 0 36 0) 88 0 96 0), 0, 0)
  | 0, i, h0, h => by
    have e : i = 72 := by omega
    subst e
    refine p91_32_0 (by omega) ?_
    have q := c91_2 (X := X) (d := d) (A := mm_fr A 78 0 72 0) 12 0 (by omega) (by omega)
    rw [mm_fr_0] at q
    exact q
  | n + 1, i, h0, h => by
    refine p91_32_1 (by omega) ?_
    rw [mm_fr_s h0]
    exact c91_1 n (i + 1) (by omega) (by omega)
theorem c91 {n : Int} : mm_E 1 d 91 0 [(0, .ref 77), (1, mI n)] [] (mm_w X A) (.inl none, mm_w X (mm_fr (mm_fr (mm_fr (mm_fr (mm_u (mm_u (mm_u (mm_u (mm_u (mm_u A 77 1 n) 77 2 0) 77 8 0) 77 9 0) 77 15 1) 77 17 0) 78 0 72 0) 79 0 12 (-1)) 82 0 36 0) 88 0 96 0), 0, 0) := by
  refine p91_0_0 ?_
  have q := c91_1 (X := X) (d := d) (A := mm_u (mm_u (mm_u (mm_u (mm_u (mm_u A 77 1 n) 77 2 0) 77 8 0) 77 9 0) 77 15 1) 77 17 0) 72 0 (by omega) (by omega)
  rw [mm_fr_0] at q
  exact q
end FI
section RI
variable {X : List Value} {d : Nat} {x4 z0 z1 z2 z3 : Int} {A : MF}
theorem rd1 (hI : Inv A) (hs : mm_sc X x4 z0 z1 z2 z3) (h0 : mm_and z0 31 = 1) : mm_rd X d x4 A := by
  obtain ⟨g3, g4, g5, r0, r1, r2, r3⟩ := hs.2.2.2.2.2
  have hS := hI.1
  by_cases c1 : z1 < 0
  · exact thr1 (k := 1) hI hs h0 (by omega) (p135_0_0 (by omega)) (p115_0_0 (by omega))
  by_cases c2 : 12 < z1
  · exact thr1 (k := 1) hI hs h0 (by omega) (p135_0_1 (by omega)) (p115_0_2 (by omega))
  refine ok1 ?_ hs h0 (p135_0_2 (p2_0_2 (c56 (by omega) (by omega)) (by omega))) (c115 (by omega) (by omega)) ?_
  · have e : ∀ a i, ¬ (4 ≤ a ∧ a ≤ 10) → ¬ (a = 2 ∧ i = 1) → ¬ (a = 77 ∧ (i = 0 ∨ i = 2)) → a ≠ 78 → a ≠ 79 → mm_mr (mm_fr (mm_u (mm_u (mm_fr (mm_u (mm_rw A 4 6 z1 12 0) 2 1 z1) 10 0 12 (-1)) 77 0 0) 77 2 z1) 79 0 12 (-1)) 6 z1 a i = A a i := fun a i q1 q2 q3 q4 q5 => by
      unfold mm_mr
      rw [if_neg (by omega), mm_fr_out (by omega), mm_u2_ne (by omega) (by omega), mm_fr_out (by omega), mm_u_ne (by omega), mm_rw_out (by omega)]
    refine ⟨?_, fun p i q1 q2 q3 q4 => ?_, fun i q1 q2 => ?_, hI.2.2.2.1.eqv fun a k h => e a k (by omega) (by omega) (by omega) (by omega) (by omega), hI.2.2.2.2.1.eqv fun a k h => e a k (by omega) (by omega) (by omega) (by omega) (by omega), hI.2.2.2.2.2.1.eqv hI.n fun a k h => e a k (by omega) (by omega) (by omega) (by omega) (by omega), hI.2.2.2.2.2.2.eqv hI.n fun a k h => e a k (by omega) (by omega) (by omega) (by omega) (by omega)⟩
    · unfold Is at hS ⊢
      have e1 : mm_mr (mm_fr (mm_u (mm_u (mm_fr (mm_u (mm_rw A 4 6 z1 12 0) 2 1 z1) 10 0 12 (-1)) 77 0 0) 77 2 z1) 79 0 12 (-1)) 6 z1 77 2 = z1 := by
        unfold mm_mr
        rw [if_neg (by omega), mm_fr_out (by omega), mm_u_same]
      have e2 : mm_mr (mm_fr (mm_u (mm_u (mm_fr (mm_u (mm_rw A 4 6 z1 12 0) 2 1 z1) 10 0 12 (-1)) 77 0 0) 77 2 z1) 79 0 12 (-1)) 6 z1 2 1 = z1 := by
        unfold mm_mr
        rw [if_neg (by omega), mm_fr_out (by omega), mm_u2_ne (by omega) (by omega), mm_fr_out (by omega), mm_u_same]
      rw [e1, e2, e 77 1 (by omega) (by omega) (by omega) (by omega) (by omega), e 1 3 (by omega) (by omega) (by omega) (by omega) (by omega), e 2 0 (by omega) (by omega) (by omega) (by omega) (by omega), e 25 0 (by omega) (by omega) (by omega) (by omega) (by omega), e 43 0 (by omega) (by omega) (by omega) (by omega) (by omega), e 77 8 (by omega) (by omega) (by omega) (by omega) (by omega), e 25 1 (by omega) (by omega) (by omega) (by omega) (by omega), e 77 9 (by omega) (by omega) (by omega) (by omega) (by omega), e 25 2 (by omega) (by omega) (by omega) (by omega) (by omega), e 77 15 (by omega) (by omega) (by omega) (by omega) (by omega), e 43 1 (by omega) (by omega) (by omega) (by omega) (by omega), e 77 17 (by omega) (by omega) (by omega) (by omega) (by omega), e 43 2 (by omega) (by omega) (by omega) (by omega) (by omega)]
      omega
    · have e1 : mm_mr (mm_fr (mm_u (mm_u (mm_fr (mm_u (mm_rw A 4 6 z1 12 0) 2 1 z1) 10 0 12 (-1)) 77 0 0) 77 2 z1) 79 0 12 (-1)) 6 z1 (4 + p.toNat) i = if z1 ≤ i then 0 else A (4 + p.toNat) i := by
        unfold mm_mr
        rw [if_neg (by omega), mm_fr_out (by omega), mm_u2_ne (by omega) (by omega), mm_fr_out (by omega), mm_u_ne (by omega)]
        by_cases c : z1 ≤ i
        · rw [if_pos c, mm_rw_in (by omega) (by omega) (by omega) (by omega)]
        · rw [if_neg c, mm_rw_out (by omega)]
      have e2 : mm_mr (mm_fr (mm_u (mm_u (mm_fr (mm_u (mm_rw A 4 6 z1 12 0) 2 1 z1) 10 0 12 (-1)) 77 0 0) 77 2 z1) 79 0 12 (-1)) 6 z1 78 (12 * p + i) = if z1 ≤ i then 0 else A 78 (12 * p + i) := by
        unfold mm_mr
        by_cases c : z1 ≤ i
        · rw [if_pos c, if_pos (by omega)]
        · rw [if_neg c, if_neg (by omega), mm_fr_out (by omega), mm_u2_ne (by omega) (by omega), mm_fr_out (by omega), mm_u_ne (by omega), mm_rw_out (by omega)]
      rw [e1, e2]
      have := hI.2.1 p i q1 q2 q3 q4
      split <;> omega
    · rw [e 77 1 (by omega) (by omega) (by omega) (by omega) (by omega)]
      have e1 : mm_mr (mm_fr (mm_u (mm_u (mm_fr (mm_u (mm_rw A 4 6 z1 12 0) 2 1 z1) 10 0 12 (-1)) 77 0 0) 77 2 z1) 79 0 12 (-1)) 6 z1 10 i = -1 := by
        unfold mm_mr
        rw [if_neg (by omega), mm_fr_out (by omega), mm_u2_ne (by omega) (by omega), mm_fr_in (by omega) (by omega)]
      have e2 : mm_mr (mm_fr (mm_u (mm_u (mm_fr (mm_u (mm_rw A 4 6 z1 12 0) 2 1 z1) 10 0 12 (-1)) 77 0 0) 77 2 z1) 79 0 12 (-1)) 6 z1 79 i = -1 := by
        unfold mm_mr
        rw [if_neg (by omega), mm_fr_in (by omega) (by omega)]
      have := hI.n
      omega
  · unfold mm_mr
    rw [if_neg (by omega), mm_fr_out (by omega), mm_u_ne (by omega), mm_u_same]
end RI
