/-! Searches over all ways to give the items: numbers as ways. -/
/-- what each has when the first i items went as the digits of P say -/
def sp (U : Int → Int → Int) (N : Nat) : Nat → Nat → Int → Int
  | 0, _ => fun _ => 0
  | i + 1, P => up (sp U N i (P / N)) ((P % N : Nat) : Int) (sp U N i (P / N) ((P % N : Nat) : Int) + U ((P % N : Nat) : Int) i)
/-- the j-th of i digits of P -/
def pd (N i P j : Nat) : Nat := P / N ^ (i - 1 - j) % N
section SP
variable {U : Int → Int → Int} {N : Nat}
theorem sp_s {i P : Nat} : sp U N (i + 1) P = up (sp U N i (P / N)) ((P % N : Nat) : Int) (sp U N i (P / N) ((P % N : Nat) : Int) + U ((P % N : Nat) : Int) i) := rfl
theorem dm {P b : Nat} (hb : b < N) : (P * N + b) / N = P ∧ (P * N + b) % N = b := by
  have h : 0 < N := by omega
  rw [Nat.mul_comm]
  refine ⟨?_, ?_⟩
  · rw [Nat.mul_add_div h, Nat.div_eq_of_lt hb, Nat.add_zero]
  · rw [Nat.mul_add_mod, Nat.mod_eq_of_lt hb]
theorem sp_c {i P b : Nat} (hb : b < N) : sp U N (i + 1) (P * N + b) = up (sp U N i P) b (sp U N i P b + U b i) := by
  rw [sp_s, (dm hb).1, (dm hb).2]
theorem pd_c {i P b j : Nat} (hb : b < N) (hj : j < i) : pd N (i + 1) (P * N + b) j = pd N i P j := by
  unfold pd
  rw [show i + 1 - 1 - j = (i - 1 - j) + 1 by omega, Nat.pow_succ, Nat.mul_comm (N ^ _), ← Nat.div_div_eq_div_mul, (dm hb).1]
theorem pd_l {i P b : Nat} (hb : b < N) : pd N (i + 1) (P * N + b) i = b := by
  unfold pd
  rw [show i + 1 - 1 - i = 0 by omega, Nat.pow_zero, Nat.div_one, (dm hb).2]
theorem pd_lt {i P j : Nat} (h : 0 < N) : pd N i P j < N := Nat.mod_lt _ h
/-- sum of f over n from i on -/
def gs (f : Int → Int) (i : Nat) : Nat → Int
  | 0 => 0
  | n + 1 => gs f i n + f ((i + n : Nat) : Int)
theorem gs_s {f : Int → Int} {i n : Nat} : gs f i (n + 1) = gs f i n + f ((i + n : Nat) : Int) := rfl
theorem gs_f {f : Int → Int} {i : Nat} : ∀ {n : Nat}, gs f i (n + 1) = gs f (i + 1) n + f i
  | 0 => by simp [gs]
  | n + 1 => by
    rw [gs_s, gs_f (n := n), gs_s, show i + (n + 1) = i + 1 + n by omega]
    omega
theorem gs_bd {f : Int → Int} {b : Int} {i : Nat} : ∀ {n : Nat}, (∀ k : Int, i ≤ k → k < i + n → 0 ≤ f k ∧ f k ≤ b) → 0 ≤ gs f i n ∧ gs f i n ≤ b * n
  | 0, _ => by simp [gs]
  | n + 1, h => by
    have := gs_bd (n := n) fun k h1 h2 => h k h1 (by omega)
    have := h ((i + n : Nat) : Int) (by omega) (by omega)
    have e : b * ((n + 1 : Nat) : Int) = b * n + b := by
      rw [show ((n + 1 : Nat) : Int) = (n : Int) + 1 by omega, Int.mul_add, Int.mul_one]
    rw [gs_s, e]
    omega
theorem sp_le (hU : ∀ p i : Int, 0 ≤ p → p < N → 0 ≤ i → i < 12 → 0 ≤ U p i ∧ U p i ≤ 1000) {i P : Nat} {p : Int} (hN : 0 < N) (hp : 0 ≤ p) (hp2 : p < N) : ∀ (n k : Nat), i + n ≤ 12 → k / N ^ n = P → sp U N i P p ≤ sp U N (i + n) k p ∧ sp U N (i + n) k p ≤ sp U N i P p + gs (U p) i n
  | 0, k, hm, h => by
    rw [Nat.pow_zero, Nat.div_one] at h
    rw [h]
    simp [gs]
  | n + 1, k, hm, h => by
    have q := sp_le (i := i) (P := P) hU hN hp hp2 n (k / N) (by omega) (by rw [Nat.div_div_eq_div_mul, Nat.mul_comm, ← Nat.pow_succ, h])
    have b := hU p ((i + n : Nat) : Int) hp hp2 (by omega) (by omega)
    rw [← Nat.add_assoc, sp_s, gs_s]
    by_cases e : p = ((k % N : Nat) : Int)
    · rw [← e, up_same]
      omega
    · rw [up_ne e]
      omega
theorem sp_bd (hU : ∀ p i : Int, 0 ≤ p → p < N → 0 ≤ i → i < 12 → 0 ≤ U p i ∧ U p i ≤ 1000) {p : Int} (hN : 0 < N) (hp : 0 ≤ p) (hp2 : p < N) : ∀ (i P : Nat), i ≤ 12 → 0 ≤ sp U N i P p ∧ sp U N i P p ≤ 1000 * i
  | 0, P, _ => by simp [sp]
  | i + 1, P, h => by
    have q := sp_bd hU hN hp hp2 i (P / N) (by omega)
    have b := hU p i hp hp2 (by omega) (by omega)
    rw [sp_s]
    by_cases e : p = ((P % N : Nat) : Int)
    · rw [← e, up_same]
      omega
    · rw [up_ne e]
      omega
end SP
/-! a fold over numbers -/
def fo {S : Type} (f : S → Nat → S) (s : S) (lo : Nat) : Nat → S
  | 0 => s
  | n + 1 => f (fo f s lo n) (lo + n)
section FO
variable {S : Type} {f : S → Nat → S} {s : S} {lo : Nat}
theorem fo_s {n : Nat} : fo f s lo (n + 1) = f (fo f s lo n) (lo + n) := rfl
theorem fo_add {a : Nat} : ∀ {b : Nat}, fo f s lo (a + b) = fo f (fo f s lo a) (lo + a) b
  | 0 => rfl
  | b + 1 => by rw [← Nat.add_assoc, fo_s, fo_add, fo_s, Nat.add_assoc]
theorem fo_id : ∀ {n : Nat}, (∀ k, lo ≤ k → k < lo + n → f s k = s) → fo f s lo n = s
  | 0, _ => rfl
  | n + 1, h => by rw [fo_s, fo_id fun k h1 h2 => h k h1 (by omega)]; exact h _ (by omega) (by omega)
theorem fo_inv {Q : S → Prop} (hs : Q s) : ∀ {n : Nat}, (∀ t k, lo ≤ k → k < lo + n → Q t → Q (f t k)) → Q (fo f s lo n)
  | 0, _ => hs
  | n + 1, h => h _ _ (by omega) (by omega) (fo_inv hs fun t k h1 h2 => h t k h1 (by omega))
end FO
/-! how many have something, and the product of what they have -/
def ct (h : Int → Int) : Nat → Int
  | 0 => 0
  | n + 1 => if 0 < h n then ct h n + 1 else ct h n
def pr (h : Int → Int) : Nat → Int
  | 0 => 1
  | n + 1 => if 0 < h n then pr h n * h n else pr h n
def pc (h : Int → Int) : Nat → Int
  | 0 => 1
  | n + 1 => if 0 < h n then min 1000000000000000000 (pc h n * h n) else pc h n
theorem ct_s {h : Int → Int} {n : Nat} : ct h (n + 1) = if 0 < h n then ct h n + 1 else ct h n := rfl
theorem pr_s {h : Int → Int} {n : Nat} : pr h (n + 1) = if 0 < h n then pr h n * h n else pr h n := rfl
theorem pc_s {h : Int → Int} {n : Nat} : pc h (n + 1) = if 0 < h n then min 1000000000000000000 (pc h n * h n) else pc h n := rfl
theorem ct_bd {h : Int → Int} : ∀ {n : Nat}, 0 ≤ ct h n ∧ ct h n ≤ n
  | 0 => by simp [ct]
  | n + 1 => by
    have := ct_bd (h := h) (n := n)
    rw [ct_s]
    split <;> omega
theorem pr_pos {h : Int → Int} : ∀ {n : Nat}, 1 ≤ pr h n
  | 0 => by simp [pr]
  | n + 1 => by
    have i := pr_pos (h := h) (n := n)
    rw [pr_s]
    split
    · rename_i c
      have : 1 * 1 ≤ pr h n * h n := Int.mul_le_mul i (by omega) (by omega) (by omega)
      omega
    · exact i
theorem pc_eq {h : Int → Int} : ∀ {n : Nat}, pc h n = min 1000000000000000000 (pr h n)
  | 0 => rfl
  | n + 1 => by
    have i := pc_eq (h := h) (n := n)
    have p := pr_pos (h := h) (n := n)
    rw [pc_s, pr_s, i]
    split
    · rename_i c
      by_cases l : pr h n ≤ 1000000000000000000
      · rw [show min 1000000000000000000 (pr h n) = pr h n by omega]
      · have : 1000000000000000000 * 1 ≤ pr h n * h n := Int.mul_le_mul (by omega) (by omega) (by omega) (by omega)
        have : 1000000000000000000 * 1 ≤ 1000000000000000000 * h n := Int.mul_le_mul (by omega) (by omega) (by omega) (by omega)
        rw [show min 1000000000000000000 (pr h n) = 1000000000000000000 by omega]
        omega
    · rfl
theorem ct_eq {h h' : Int → Int} : ∀ {n : Nat}, (∀ p : Int, 0 ≤ p → p < n → h p = h' p) → ct h n = ct h' n ∧ pr h n = pr h' n
  | 0, _ => ⟨rfl, rfl⟩
  | n + 1, e => by
    have i := ct_eq (n := n) fun p h1 h2 => e p h1 (by omega)
    rw [ct_s, ct_s, pr_s, pr_s, i.1, i.2, e n (by omega) (by omega)]
    exact ⟨rfl, rfl⟩
theorem ct_le {h h' : Int → Int} : ∀ {n : Nat}, (∀ p : Int, 0 ≤ p → p < n → h p ≤ h' p) → ct h n ≤ ct h' n ∧ (ct h n = ct h' n → pr h n ≤ pr h' n)
  | 0, _ => ⟨Int.le_refl _, fun _ => Int.le_refl _⟩
  | n + 1, e => by
    have i := ct_le (n := n) fun p h1 h2 => e p h1 (by omega)
    have l := e n (by omega) (by omega)
    have p1 := pr_pos (h := h) (n := n)
    have p2 := pr_pos (h := h') (n := n)
    rw [ct_s, ct_s, pr_s, pr_s]
    by_cases c : 0 < h n
    · rw [if_pos c, if_pos c, if_pos (by omega), if_pos (by omega)]
      refine ⟨by omega, fun q => ?_⟩
      exact Int.mul_le_mul (i.2 (by omega)) l (by omega) (by omega)
    · rw [if_neg c, if_neg c]
      by_cases c2 : 0 < h' n
      · rw [if_pos c2, if_pos c2]
        exact ⟨by omega, fun q => by omega⟩
      · rw [if_neg c2, if_neg c2]
        exact i
/-- a bound of the products -/
def pb (b : Int → Int) : Nat → Int
  | 0 => 1
  | n + 1 => pb b n * b n
theorem pb_s {b : Int → Int} {n : Nat} : pb b (n + 1) = pb b n * b n := rfl
theorem pb_up {b : Int → Int} {q : Int} (hq : 0 ≤ q) : ∀ {n : Nat}, (q < n → pb (up b q (2 * b q)) n = 2 * pb b n) ∧ (n ≤ q → pb (up b q (2 * b q)) n = pb b n)
  | 0 => ⟨fun _ => by omega, fun _ => rfl⟩
  | n + 1 => by
    have i := pb_up (b := b) hq (n := n)
    rw [pb_s, pb_s]
    by_cases e : q = n
    · refine ⟨fun _ => ?_, fun _ => by omega⟩
      rw [← e, up_same, i.2 (by omega), ← Int.mul_assoc, Int.mul_comm (pb b n) 2, Int.mul_assoc]
    · rw [up_ne fun k => e k.symm]
      refine ⟨fun _ => by rw [i.1 (by omega), Int.mul_assoc], fun _ => by rw [i.2 (by omega)]⟩
theorem pr_pb {h b : Int → Int} : ∀ {n : Nat}, (∀ p : Int, 0 ≤ p → p < n → h p ≤ b p ∧ 1 ≤ b p) → pr h n ≤ pb b n
  | 0, _ => Int.le_refl _
  | n + 1, e => by
    have i := pr_pb (n := n) fun p h1 h2 => e p h1 (by omega)
    have l := e n (by omega) (by omega)
    have p1 := pr_pos (h := h) (n := n)
    rw [pr_s, pb_s]
    by_cases c : 0 < h n
    · rw [if_pos c]
      exact Int.mul_le_mul i (by omega) (by omega) (by omega)
    · rw [if_neg c]
      have : pr h n * 1 ≤ pb b n * b n := Int.mul_le_mul i (by omega) (by omega) (by omega)
      omega
theorem sp_pb {U : Int → Int → Int} {N : Nat} (hU : ∀ p i : Int, 0 ≤ p → p < N → 0 ≤ i → i < 12 → 0 ≤ U p i ∧ U p i ≤ 1000) (hN : 0 < N) : ∀ (i P : Nat), i ≤ 12 → ∃ b : Int → Int, (∀ p : Int, 0 ≤ p → p < N → 500 ≤ b p ∧ sp U N i P p ≤ b p ∧ (sp U N i P p = 0 ∨ 1000 ≤ b p)) ∧ pb b N = pb (fun _ => 500) N * 2 ^ i
  | 0, P, _ => ⟨fun _ => 500, fun p _ _ => ⟨Int.le_refl _, show (0 : Int) ≤ 500 by omega, .inl rfl⟩, by simp⟩
  | i + 1, P, h => by
    obtain ⟨b, q1, q2⟩ := sp_pb hU hN i (P / N) (by omega)
    have hm : P % N < N := Nat.mod_lt _ hN
    refine ⟨up b ((P % N : Nat) : Int) (2 * b ((P % N : Nat) : Int)), fun p h1 h2 => ?_, ?_⟩
    · have q3 := q1 p h1 h2
      have u := hU p i h1 h2 (by omega) (by omega)
      rw [sp_s]
      by_cases e : p = ((P % N : Nat) : Int)
      · rw [← e, up_same, up_same]
        omega
      · rw [up_ne e, up_ne e]
        exact q3
    · rw [(pb_up (by omega)).1 (by omega), q2, Int.pow_succ, Int.mul_comm 2, Int.mul_assoc]
theorem pb500 : ∀ {N : Nat}, N ≤ 6 → 1 ≤ N → (N = 6 → ∀ i, i ≤ 6 → pb (fun _ => 500) N * 2 ^ i ≤ 1000000000000000000) ∧ (N < 6 → ∀ i, i ≤ 12 → pb (fun _ => 500) N * 2 ^ i ≤ 1000000000000000000) := by
  decide
theorem sp_pr {U : Int → Int → Int} {N m k : Nat} (hU : ∀ p i : Int, 0 ≤ p → p < N → 0 ≤ i → i < 12 → 0 ≤ U p i ∧ U p i ≤ 1000) (hN : 1 ≤ N) (hN2 : N ≤ 6) (hm : m ≤ 12) (hw : N ^ m ≤ 65536) : pr (sp U N m k) N ≤ 1000000000000000000 := by
  obtain ⟨b, q1, q2⟩ := sp_pb hU (by omega) m k hm
  have q3 := pr_pb (h := sp U N m k) (b := b) (n := N) fun p h1 h2 => by
    have := q1 p h1 h2
    omega
  have q4 := pb500 hN2 hN
  rw [q2] at q3
  by_cases c : N = 6
  · have hm6 : m ≤ 6 := by
      by_cases c2 : m ≤ 6
      · exact c2
      · rw [c] at hw
        have : 6 ^ 7 ≤ 6 ^ m := Nat.pow_le_pow_right (by omega) (by omega)
        omega
    exact Int.le_trans q3 (q4.1 c m hm6)
  · exact Int.le_trans q3 (q4.2 (by omega) m hm)
/-! hasFewWays, ways, theWay -/
section WY
variable {X : List Value} {d : Nat} {A : MF} {N m : Nat}
theorem pw6 {i : Nat} (hN : N ≤ 6) (h : N ^ i ≤ 65536) : N ^ (i + 1) ≤ 393216 := by
  rw [Nat.pow_succ]
  have := Nat.mul_le_mul h hN
  omega
theorem c64_l {w : Nat} (hN : 1 ≤ N ∧ N ≤ 6) (hm : m ≤ 12) (h0 : A 2 0 = N) (h1 : A 2 1 = m) : ∀ (n i : Nat), i + n = m → N ^ i ≤ 393216 → mm_E w d 64 4 [(0, .ref 2), (1, mI ((N ^ i : Nat) : Int)), (2, mI i)] [] (mm_w X A) (.inl (some (mI (if N ^ m ≤ 65536 then 1 else 0))), mm_w X A, 0, 0)
  | 0, i, h, hb => by
    rw [show m = i by omega] at h1 ⊢
    by_cases c : N ^ i ≤ 65536
    · rw [if_pos c]
      exact p64_4_1 (by omega)
    · rw [if_neg c]
      exact p64_4_0 (by omega)
  | n + 1, i, h, hb => by
    by_cases c : N ^ i ≤ 65536
    · have k := c64_l (w := w) hN hm h0 h1 n (i + 1) (by omega) (pw6 hN.2 c)
      refine p64_4_3 (by omega) ?_
      rw [h0, show ((N ^ i : Nat) : Int) * N = ((N ^ (i + 1) : Nat) : Int) by rw [Nat.pow_succ, Int.natCast_mul]]
      exact k
    · have : N ^ i ≤ N ^ m := Nat.pow_le_pow_right hN.1 (by omega)
      rw [if_neg (by omega)]
      exact p64_4_2 (by omega)
theorem c64 {w : Nat} (hN : 1 ≤ N ∧ N ≤ 6) (hm : m ≤ 12) (h0 : A 2 0 = N) (h1 : A 2 1 = m) : mm_E w d 64 0 [(0, .ref 2)] [] (mm_w X A) (.inl (some (mI (if N ^ m ≤ 65536 then 1 else 0))), mm_w X A, 0, 0) := by
  have k := c64_l (X := X) (d := d) (w := w) hN hm h0 h1 m 0 (by omega) (by rw [Nat.pow_zero]; omega)
  rw [Nat.pow_zero] at k
  exact p64_0_0 k
theorem c97_l {w : Nat} (hN : 1 ≤ N ∧ N ≤ 6) (hm : m ≤ 12) (h0 : A 77 1 = N) (h1 : A 77 2 = m) : ∀ (n i : Nat), i + n = m → N ^ i ≤ 393216 → ∃ z : Nat, z ≤ 393216 ∧ (N ^ m ≤ 65536 → z = N ^ m) ∧ (65536 < N ^ m → 65536 < z) ∧ mm_E w d 97 4 [(0, .ref 77), (1, mI ((N ^ i : Nat) : Int)), (2, mI i)] [] (mm_w X A) (.inl (some (mI z)), mm_w X A, 0, 0)
  | 0, i, h, hb => by
    rw [show m = i by omega] at h1 ⊢
    exact ⟨N ^ i, hb, fun _ => rfl, fun q => q, p97_4_0 (by omega)⟩
  | n + 1, i, h, hb => by
    by_cases c : N ^ i ≤ 65536
    · obtain ⟨z, z1, z2, z3, k⟩ := c97_l (w := w) hN hm h0 h1 n (i + 1) (by omega) (pw6 hN.2 c)
      refine ⟨z, z1, z2, z3, p97_4_2 (by omega) ?_⟩
      rw [h0, show ((N ^ i : Nat) : Int) * N = ((N ^ (i + 1) : Nat) : Int) by rw [Nat.pow_succ, Int.natCast_mul]]
      exact k
    · have : N ^ i ≤ N ^ m := Nat.pow_le_pow_right hN.1 (by omega)
      exact ⟨N ^ i, hb, fun q => by omega, fun q => by omega, p97_4_1 (by omega)⟩
theorem c97 {w : Nat} (hN : 1 ≤ N ∧ N ≤ 6) (hm : m ≤ 12) (h0 : A 77 1 = N) (h1 : A 77 2 = m) : ∃ z : Nat, z ≤ 393216 ∧ (N ^ m ≤ 65536 → z = N ^ m) ∧ (65536 < N ^ m → 65536 < z) ∧ mm_E w d 97 0 [(0, .ref 77)] [] (mm_w X A) (.inl (some (mI z)), mm_w X A, 0, 0) := by
  obtain ⟨z, z1, z2, z3, k⟩ := c97_l (X := X) (d := d) (w := w) hN hm h0 h1 m 0 (by omega) (by rw [Nat.pow_zero]; omega)
  rw [Nat.pow_zero] at k
  exact ⟨z, z1, z2, z3, p97_0_0 k⟩
theorem c98_l (hN : 1 ≤ N ∧ N ≤ 6) (hm : m ≤ 12) {k : Nat} (hk : k < 1000000) : ∀ (n : Nat) (A : MF), n ≤ m → A 77 1 = N → ∃ A' : MF, mm_E 1 d 98 9 [(0, .ref 77), (2, mI ((k / N ^ (m - n) : Nat) : Int)), (3, mI ((n : Int) - 1))] [] (mm_w X A) (.inl none, mm_w X A', 0, 0) ∧ (∀ b j, b ≠ 80 → A' b j = A b j) ∧ (∀ j : Nat, j < n → A' 80 j = pd N m k j) ∧ ∀ j : Int, n ≤ j → A' 80 j = A 80 j
  | 0, A, h, h0 => ⟨A, p98_9_0 (by omega), fun _ _ _ => rfl, fun j hj => by omega, fun _ _ => rfl⟩
  | n + 1, A, h, h0 => by
    have hl : k / N ^ (m - (n + 1)) ≤ k := Nat.div_le_self _ _
    have hz : (0 : Int) ≤ ((k / N ^ (m - (n + 1)) : Nat) : Int) := Int.natCast_nonneg _
    obtain ⟨A', q1, q2, q3, q4⟩ := c98_l hN hm hk n (mm_u A 80 n (((k / N ^ (m - (n + 1)) : Nat) : Int) % N)) (by omega) (by rw [mm_u_ne (by omega), h0])
    refine ⟨A', ?_, fun b j hb => by rw [q2 b j hb, mm_u_ne (by omega)], fun j hj => ?_, fun j hj => by rw [q4 j (by omega), mm_u_ne (by omega)]⟩
    · rw [show ((n + 1 : Nat) : Int) - 1 = n by omega]
      refine p98_9_1 (by omega) ?_
      rw [h0, show ((k / N ^ (m - (n + 1)) : Nat) : Int) / N = ((k / N ^ (m - n) : Nat) : Int) by
        rw [show m - n = (m - (n + 1)) + 1 by omega, Nat.pow_succ, ← Nat.div_div_eq_div_mul, ← Int.natCast_ediv], show (n : Int) + -1 = n - 1 by omega]
      exact q1
    · by_cases e : j = n
      · rw [e, q4 n (by omega), mm_u_same]
        unfold pd
        rw [show m - 1 - n = m - (n + 1) by omega, Int.natCast_emod]
      · exact q3 j (by omega)
theorem c98 (hN : 1 ≤ N ∧ N ≤ 6) (hm : m ≤ 12) {k : Nat} (hk : k < 1000000) (h0 : A 77 1 = N) (h1 : A 77 2 = m) : ∃ A' : MF, mm_E 1 d 98 0 [(0, .ref 77), (1, mI k)] [] (mm_w X A) (.inl none, mm_w X A', 0, 0) ∧ (∀ b j, b ≠ 80 → A' b j = A b j) ∧ ∀ j : Nat, j < m → A' 80 j = pd N m k j := by
  obtain ⟨A', q1, q2, q3, -⟩ := c98_l (X := X) (d := d) hN hm hk m A (by omega) h0
  rw [Nat.sub_self, Nat.pow_zero, Nat.div_one, ← h1] at q1
  exact ⟨A', p98_0_0 q1, q2, q3⟩
end WY
