/-! product: the class's search. -/
abbrev ST : Type := Int × Int × Nat
def stp (U : Int → Int → Int) (N m : Nat) (s : ST) (k : Nat) : ST := if s.1 < ct (sp U N m k) N ∨ (ct (sp U N m k) N = s.1 ∧ s.2.1 < pr (sp U N m k) N) then (ct (sp U N m k) N, pr (sp U N m k) N, k) else s
def SR (N m : Nat) (s : ST) : Prop := -1 ≤ s.1 ∧ s.1 ≤ 6 ∧ 0 ≤ s.2.1 ∧ s.2.1 ≤ 1000000000000000000 ∧ s.2.2 < N ^ m
def PS (U : Int → Int → Int) (N m i P : Nat) (s : ST) (A : MF) : Prop := A 13 0 = N ∧ A 13 1 = m ∧ A 13 2 = 3 ∧ A 13 3 = 10 ∧ A 13 4 = s.1 ∧ A 13 5 = s.2.1 ∧ (∀ p : Int, 0 ≤ p → p < N → A 15 p = sp U N i P p) ∧ (∀ j : Nat, j < i → A 14 j = pd N i P j) ∧ (∀ (p : Int) (j : Nat), 0 ≤ p → p < N → j ≤ m → A (17 + p.toNat) j = gs (U p) j (m - j)) ∧ (∀ p i : Int, 0 ≤ p → p < N → 0 ≤ i → i < 12 → A (4 + p.toNat) i = U p i) ∧ (0 ≤ s.1 → ∀ j : Nat, j < m → A 10 j = pd N m s.2.2 j)
def UR (U : Int → Int → Int) (N : Nat) : Prop := ∀ p i : Int, 0 ≤ p → p < N → 0 ≤ i → i < 12 → 0 ≤ U p i ∧ U p i ≤ 1000
/-- what p may hope for -/
abbrev hop (U : Int → Int → Int) (N m i P : Nat) : Int → Int := fun p => sp U N i P p + gs (U p) i (m - i)
theorem tm1 {y x : Int} (hx : 0 < x) : (y ≤ Int.tdiv 1000000000000000000 x → min 1000000000000000000 (y * x) = y * x) ∧ (Int.tdiv 1000000000000000000 x < y → min 1000000000000000000 (y * x) = 1000000000000000000) ∧ R64 (Int.tdiv 1000000000000000000 x) := by
  rw [Int.tdiv_eq_ediv_of_nonneg (by omega)]
  refine ⟨fun h => ?_, fun h => ?_, ?_⟩
  · have := (Int.le_ediv_iff_mul_le hx).mp h
    omega
  · have := (Int.ediv_lt_iff_lt_mul hx).mp h
    omega
  · have h1 : (0 : Int) ≤ 1000000000000000000 / x := Int.ediv_nonneg (by omega) (by omega)
    have h2 : (1000000000000000000 : Int) / x ≤ 1000000000000000000 := Int.ediv_le_self _ (by omega)
    omega
section PD
variable {X : List Value} {d : Nat} {A : MF} {U : Int → Int → Int} {N m : Nat}
theorem stp_sr (hU : UR U N) (hN : 1 ≤ N ∧ N ≤ 6) (hm : m ≤ 12) (hw : N ^ m ≤ 65536) {s : ST} {k : Nat} (hk : k < N ^ m) (h : SR N m s) : SR N m (stp U N m s k) := by
  unfold stp
  have h1 := ct_bd (h := sp U N m k) (n := N)
  have h2 := sp_pr (m := m) (k := k) hU hN.1 hN.2 hm hw
  have h3 := pr_pos (h := sp U N m k) (n := N)
  split
  · exact ⟨by show -1 ≤ ct _ _; omega, by show ct _ _ ≤ 6; omega, by show 0 ≤ pr _ _; omega, h2, hk⟩
  · exact h
theorem fo_sr (hU : UR U N) (hN : 1 ≤ N ∧ N ≤ 6) (hm : m ≤ 12) (hw : N ^ m ≤ 65536) {s : ST} {lo n : Nat} (hk : lo + n ≤ N ^ m) (h : SR N m s) : SR N m (fo (stp U N m) s lo n) := fo_inv (Q := SR N m) h fun _ _ _ h2 q => stp_sr hU hN hm hw (by omega) q
theorem hop_bd (hU : UR U N) (hN : 1 ≤ N ∧ N ≤ 6) (hm : m ≤ 12) {i P : Nat} (hi : i ≤ m) {p : Int} (hp : 0 ≤ p) (hp2 : p < N) : 0 ≤ hop U N m i P p ∧ hop U N m i P p ≤ 24000 := by
  have h1 := sp_bd hU (by omega) hp hp2 i P (by omega)
  have h2 := gs_bd (f := U p) (b := 1000) (i := i) (n := m - i) fun k h1 h2 => hU p k hp hp2 (by omega) (by omega)
  show 0 ≤ sp U N i P p + gs (U p) i (m - i) ∧ sp U N i P p + gs (U p) i (m - i) ≤ 24000
  omega
theorem pc_bd {h : Int → Int} {n : Nat} : 1 ≤ pc h n ∧ pc h n ≤ 1000000000000000000 := by
  have := pr_pos (h := h) (n := n)
  rw [pc_eq]
  omega
theorem c88_1 {w : Nat} {i P : Nat} {s : ST} {r : MR} (hU : UR U N) (hN : 1 ≤ N ∧ N ≤ 6) (hm : m ≤ 12) (hi : i ≤ m) (hS : PS U N m i P s A) (k : mm_E w (d + 1) 88 7 [(0, .ref 13), (1, mI i), (2, mI (ct (hop U N m i P) N)), (3, mJ (pc (hop U N m i P) N)), (5, mI N)] [] (mm_w X A) r) : ∀ (n p : Nat), p + n = N → mm_E w (d + 1) 88 7 [(0, .ref 13), (1, mI i), (2, mI (ct (hop U N m i P) p)), (3, mJ (pc (hop U N m i P) p)), (5, mI p)] [] (mm_w X A) r
  | 0, p, h => by
    rw [show N = p by omega] at k ⊢
    exact k
  | n + 1, p, h => by
    have q := c88_1 hU hN hm hi hS k n (p + 1) (by omega)
    rw [ct_s, pc_s, show ((p + 1 : Nat) : Int) = (p : Int) + 1 by omega] at q
    have a0 := hS.1
    have e : A 15 p + A (17 + (p : Int).toNat) i = hop U N m i P p := by
      rw [hS.2.2.2.2.2.2.1 p (by omega) (by omega), hS.2.2.2.2.2.2.2.2.1 p i (by omega) (by omega) hi]
    have b := hop_bd (P := P) hU hN hm hi (p := p) (by omega) (by omega)
    have b2 := pc_bd (h := hop U N m i P) (n := p)
    by_cases c : 0 < hop U N m i P p
    · rw [if_pos c, if_pos c] at q
      obtain ⟨t1, t2, t3⟩ := tm1 (y := pc (hop U N m i P) p) c
      by_cases c2 : pc (hop U N m i P) p ≤ Int.tdiv 1000000000000000000 (hop U N m i P p)
      · rw [t1 c2] at q
        refine p88_7_8 ?_ ?_
        · rw [e]
          omega
        · rw [e]
          exact q
      · rw [t2 (by omega)] at q
        refine p88_7_9 ?_ q
        rw [e]
        omega
    · rw [if_neg c, if_neg c] at q
      refine p88_7_6 ?_ q
      rw [e]
      omega
theorem blk {P k n : Nat} (h1 : P * N ^ n ≤ k) (h2 : k < P * N ^ n + N ^ n) : k / N ^ n = P := Nat.div_eq_of_lt_le h1 (by rw [Nat.add_mul, Nat.one_mul]; exact h2)
theorem c88_p (hU : UR U N) (hN : 1 ≤ N ∧ N ≤ 6) (hm : m ≤ 12) (hw : N ^ m ≤ 65536) {s : ST} {i P n : Nat} (h : i + n = m) (hc : ct (hop U N m i P) N < s.1 ∨ (ct (hop U N m i P) N = s.1 ∧ pc (hop U N m i P) N ≤ s.2.1)) : fo (stp U N m) s (P * N ^ n) (N ^ n) = s := fo_id fun k h1 h2 => by
  have hb := blk h1 h2
  have hl := ct_le (h := sp U N m k) (h' := hop U N m i P) (n := N) fun p p1 p2 => by
    have := (sp_le (i := i) (P := P) hU (by omega) p1 p2 n k (by omega) hb).2
    rw [h] at this
    show sp U N m k p ≤ sp U N i P p + gs (U p) i (m - i)
    rw [show m - i = n by omega]
    exact this
  have hp := sp_pr (m := m) (k := k) hU hN.1 hN.2 hm hw
  have he := pc_eq (h := hop U N m i P) (n := N)
  unfold stp
  rw [if_neg]
  intro q
  by_cases e : ct (sp U N m k) N = ct (hop U N m i P) N
  · have := hl.2 e
    omega
  · omega
theorem PS.sr_a4 {i P : Nat} {s : ST} (hS : PS U N m i P s A) : A 13 4 = s.1 ∧ A 13 5 = s.2.1 := ⟨hS.2.2.2.2.1, hS.2.2.2.2.2.1⟩
theorem c88_b (hU : UR U N) (hN : 1 ≤ N ∧ N ≤ 6) (hm : m ≤ 12) (hw : N ^ m ≤ 65536) {i P n : Nat} (h : i + (n + 1) = m) (hP : P < N ^ i) (ih : ∀ (P : Nat) (s : ST) (A : MF), P < N ^ (i + 1) → SR N m s → PS U N m (i + 1) P s A → ∃ A' : MF, mm_E 1 (d + n + 1) 88 0 [(0, .ref 13), (1, mI (i + 1))] [] (mm_w X A) (.inl none, mm_w X A', 0, 0) ∧ PS U N m (i + 1) P (fo (stp U N m) s (P * N ^ n) (N ^ n)) A' ∧ ∀ (b : Nat) (k : Int), (b ≠ 10 ∨ (m : Int) ≤ k) → b ≠ 13 → b ≠ 14 → b ≠ 15 → A' b k = A b k) : ∀ (q b : Nat) (s : ST) (A : MF), b + q = N → SR N m s → PS U N m i P s A → ∃ A' : MF, mm_E 1 (d + n + 1 + 1) 88 121 [(0, .ref 13), (1, mI i), (5, mI b)] [] (mm_w X A) (.inl none, mm_w X A', 0, 0) ∧ PS U N m i P (fo (stp U N m) s ((P * N + b) * N ^ n) (q * N ^ n)) A' ∧ ∀ (b : Nat) (k : Int), (b ≠ 10 ∨ (m : Int) ≤ k) → b ≠ 13 → b ≠ 14 → b ≠ 15 → A' b k = A b k
  | 0, b, s, A, hb, hs, hS => by
    have a0 := hS.1
    rw [Nat.zero_mul]
    exact ⟨A, p88_121_0 (by omega), hS, fun _ _ _ _ _ _ => rfl⟩
  | q + 1, b, s, A, hb, hs, hS => by
    have hS' := hS
    obtain ⟨a0, a1, a2, a3, a4, a5, a6, a7, a8, a9, a10⟩ := hS'
    have hbN : b < N := by omega
    have hPb : P * N + b < N ^ (i + 1) := by
      rw [Nat.pow_succ]
      have : (P + 1) * N ≤ N ^ i * N := Nat.mul_le_mul_right _ hP
      rw [Nat.add_mul, Nat.one_mul] at this
      omega
    have hlo : (P * N + b) * N ^ n + N ^ n ≤ N ^ m := by
      have : (P * N + b + 1) * N ^ n ≤ N ^ (i + 1) * N ^ n := Nat.mul_le_mul_right _ hPb
      rw [← Nat.pow_add, show i + 1 + n = m by omega, Nat.add_mul, Nat.one_mul] at this
      exact this
    have hS1 : PS U N m (i + 1) (P * N + b) s (mm_u (mm_u A 14 i b) 15 b (A 15 b + A (4 + (b : Int).toNat) i)) := by
      refine ⟨by rw [mm_u2_ne (by omega) (by omega), a0], by rw [mm_u2_ne (by omega) (by omega), a1], by rw [mm_u2_ne (by omega) (by omega), a2], by rw [mm_u2_ne (by omega) (by omega), a3], by rw [mm_u2_ne (by omega) (by omega), a4], by rw [mm_u2_ne (by omega) (by omega), a5], fun p p1 p2 => ?_, fun j hj => ?_, fun p j p1 p2 p3 => ?_, fun p j p1 p2 p3 p4 => ?_, fun s0 j hj => ?_⟩
      · rw [sp_c hbN]
        by_cases e : p = b
        · rw [e, mm_u_same, up_same, a6 b (by omega) (by omega), a9 b i (by omega) (by omega) (by omega) (by omega)]
        · rw [mm_u2_ne (by omega) (by omega), up_ne e]
          exact a6 p p1 p2
      · by_cases e : j = i
        · rw [e, mm_u_ne (by omega), mm_u_same, pd_l hbN]
        · rw [mm_u2_ne (by omega) (by omega), pd_c hbN (by omega)]
          exact a7 j (by omega)
      · rw [mm_u2_ne (by omega) (by omega)]
        exact a8 p j p1 p2 p3
      · rw [mm_u2_ne (by omega) (by omega)]
        exact a9 p j p1 p2 p3 p4
      · rw [mm_u2_ne (by omega) (by omega)]
        exact a10 s0 j hj
    obtain ⟨A0, k1, k2, k3⟩ := ih (P * N + b) s _ hPb hs hS1
    have hs2 : SR N m (fo (stp U N m) s ((P * N + b) * N ^ n) (N ^ n)) := fo_sr hU hN hm hw hlo hs
    have k2' := k2
    obtain ⟨b0, b1, b2, b3, b4, b5, b6, b7, b8, b9, b10⟩ := k2'
    have hS2 : PS U N m i P (fo (stp U N m) s ((P * N + b) * N ^ n) (N ^ n)) (mm_u A0 15 b (A0 15 b - A0 (4 + (b : Int).toNat) i)) := by
      refine ⟨by rw [mm_u_ne (by omega), b0], by rw [mm_u_ne (by omega), b1], by rw [mm_u_ne (by omega), b2], by rw [mm_u_ne (by omega), b3], by rw [mm_u_ne (by omega), b4], by rw [mm_u_ne (by omega), b5], fun p p1 p2 => ?_, fun j hj => ?_, fun p j p1 p2 p3 => ?_, fun p j p1 p2 p3 p4 => ?_, fun s0 j hj => ?_⟩
      · by_cases e : p = b
        · rw [e, mm_u_same, b6 b (by omega) (by omega), b9 b i (by omega) (by omega) (by omega) (by omega), sp_c hbN, up_same]
          omega
        · rw [mm_u_ne (by omega), b6 p p1 p2, sp_c hbN, up_ne e]
      · rw [mm_u_ne (by omega), b7 j (by omega), pd_c hbN hj]
      · rw [mm_u_ne (by omega)]
        exact b8 p j p1 p2 p3
      · rw [mm_u_ne (by omega)]
        exact b9 p j p1 p2 p3 p4
      · rw [mm_u_ne (by omega)]
        exact b10 s0 j hj
    obtain ⟨A', t1, t2, t3⟩ := c88_b hU hN hm hw h hP ih q (b + 1) _ _ (by omega) hs2 hS2
    refine ⟨A', ?_, ?_, fun c k h1 h2 h3 h4 => by rw [t3 c k h1 h2 h3 h4, mm_u_ne (by omega), k3 c k h1 h2 h3 h4, mm_u2_ne (by omega) (by omega)]⟩
    · rw [show ((b + 1 : Nat) : Int) = (b : Int) + 1 by omega] at t1
      exact p88_121_1 k1 (by omega) t1
    · rw [show (q + 1) * N ^ n = N ^ n + q * N ^ n by rw [Nat.add_mul, Nat.one_mul, Nat.add_comm], fo_add, show (P * N + b) * N ^ n + N ^ n = (P * N + (b + 1)) * N ^ n by rw [show P * N + (b + 1) = P * N + b + 1 by omega, Nat.add_mul (P * N + b), Nat.one_mul]]
      exact t2
theorem c88 (hU : UR U N) (hN : 1 ≤ N ∧ N ≤ 6) (hm : m ≤ 12) (hw : N ^ m ≤ 65536) : ∀ (n i P : Nat) (s : ST) (A : MF), i + n = m → P < N ^ i → SR N m s → PS U N m i P s A → ∃ A' : MF, mm_E 1 (d + n + 1) 88 0 [(0, .ref 13), (1, mI i)] [] (mm_w X A) (.inl none, mm_w X A', 0, 0) ∧ PS U N m i P (fo (stp U N m) s (P * N ^ n) (N ^ n)) A' ∧ ∀ (b : Nat) (k : Int), (b ≠ 10 ∨ (m : Int) ≤ k) → b ≠ 13 → b ≠ 14 → b ≠ 15 → A' b k = A b k
  | n, i, P, s, A, h, hP, hs, hS => by
    have go : ∀ r, mm_E 1 (d + n + 1) 88 7 [(0, .ref 13), (1, mI i), (2, mI (ct (hop U N m i P) N)), (3, mJ (pc (hop U N m i P) N)), (5, mI N)] [] (mm_w X A) r → mm_E 1 (d + n + 1) 88 0 [(0, .ref 13), (1, mI i)] [] (mm_w X A) r := fun r k => p88_0_0 (c88_1 hU hN hm (by omega) hS k N 0 (by omega))
    have a0 := hS.1
    have a1 := hS.2.1
    have a3 := hS.2.2.2.1
    obtain ⟨a4, a5⟩ := hS.sr_a4
    obtain ⟨r1, r2, r3, r4, r5⟩ := hs
    have hb := ct_bd (h := hop U N m i P) (n := N)
    have hb2 := pc_bd (h := hop U N m i P) (n := N)
    by_cases c1 : ct (hop U N m i P) N < s.1
    · rw [c88_p hU hN hm hw h (.inl c1)]
      exact ⟨A, go _ (p88_7_0 (by omega)), hS, fun _ _ _ _ _ _ => rfl⟩
    by_cases c2 : ct (hop U N m i P) N = s.1 ∧ pc (hop U N m i P) N ≤ s.2.1
    · rw [c88_p hU hN hm hw h (.inr c2)]
      exact ⟨A, go _ (p88_7_5 (by omega)), hS, fun _ _ _ _ _ _ => rfl⟩
    match n, h with
    | 0, h =>
      have him : i = m := by omega
      subst him
      have he : ct (hop U N i i P) N = ct (sp U N i P) N ∧ pr (hop U N i i P) N = pr (sp U N i P) N := ct_eq fun p p1 p2 => by
        show sp U N i P p + gs (U p) i (i - i) = sp U N i P p
        rw [Nat.sub_self]
        exact Int.add_zero _
      have hpr := sp_pr (m := i) (k := P) hU hN.1 hN.2 hm hw
      have hpe := pc_eq (h := hop U N i i P) (n := N)
      rw [he.2] at hpe
      rw [Nat.pow_zero, Nat.mul_one, show fo (stp U N i) s P 1 = stp U N i s P from rfl]
      have hst : stp U N i s P = (ct (hop U N i i P) N, pc (hop U N i i P) N, P) := by
        unfold stp
        rw [if_pos (by omega), ← he.1, show pc (hop U N i i P) N = pr (sp U N i P) N by omega]
      rw [hst]
      refine ⟨mm_cp (mm_u (mm_u A 13 4 (ct (hop U N i i P) N)) 13 5 (pc (hop U N i i P) N)) 14 10 (A 13 1), go _ ?_, ?_, fun b k h1 h2 h3 h4 => ?_⟩
      · by_cases c3 : ct (hop U N i i P) N = s.1
        · exact p88_7_4 (by omega)
        · exact p88_7_2 (by omega)
      · obtain ⟨b0, b1, b2, b3, b4, b5, b6, b7, b8, b9, b10⟩ := hS
        have e : ∀ c k, c ≠ 10 → ¬ (c = 13 ∧ (k = 4 ∨ k = 5)) → mm_cp (mm_u (mm_u A 13 4 (ct (hop U N i i P) N)) 13 5 (pc (hop U N i i P) N)) 14 10 (A 13 1) c k = A c k := fun c k h1 h2 => by
          unfold mm_cp
          rw [if_neg (by omega), mm_u2_ne (by omega) (by omega)]
        refine ⟨by rw [e 13 0 (by omega) (by omega), b0], by rw [e 13 1 (by omega) (by omega), b1], by rw [e 13 2 (by omega) (by omega), b2], by rw [e 13 3 (by omega) (by omega), b3], ?_, ?_, fun p p1 p2 => ?_, fun j hj => ?_, fun p j p1 p2 p3 => ?_, fun p j p1 p2 p3 p4 => ?_, fun s0 j hj => ?_⟩
        · unfold mm_cp
          rw [if_neg (by omega), mm_u_ne (by omega), mm_u_same]
        · unfold mm_cp
          rw [if_neg (by omega), mm_u_same]
        · rw [e 15 p (by omega) (by omega)]
          exact b6 p p1 p2
        · rw [e 14 j (by omega) (by omega)]
          exact b7 j hj
        · rw [e _ j (by omega) (by omega)]
          exact b8 p j p1 p2 p3
        · rw [e _ j (by omega) (by omega)]
          exact b9 p j p1 p2 p3 p4
        · unfold mm_cp
          rw [if_pos (by omega), mm_u2_ne (by omega) (by omega)]
          exact b7 j hj
      · unfold mm_cp
        rw [if_neg (by omega), mm_u2_ne (by omega) (by omega)]
    | n + 1, h =>
      obtain ⟨A', t1, t2, t3⟩ := c88_b (X := X) (d := d) hU hN hm hw h hP (fun P s A q1 q2 q3 => by
        have q := c88 hU hN hm hw n (i + 1) P s A (by omega) q1 q2 q3
        rw [show ((i + 1 : Nat) : Int) = (i : Int) + 1 by omega] at q
        exact q) N 0 s A (by omega) ⟨r1, r2, r3, r4, r5⟩ hS
      refine ⟨A', go _ ?_, ?_, t3⟩
      · by_cases c3 : ct (hop U N m i P) N = s.1
        · exact p88_7_3 (by omega) t1
        · exact p88_7_1 (by omega) t1
      · rw [Nat.pow_succ, Nat.mul_comm (N ^ n) N, ← Nat.mul_assoc]
        exact t2
end PD
