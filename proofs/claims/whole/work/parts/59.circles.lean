/-! circles: the programs. -/
def VR (V : Int → Int → Int) (N m : Int) : Prop := 1 ≤ N ∧ N ≤ 6 ∧ 0 ≤ m ∧ m ≤ 12 ∧ ∀ p i : Int, 0 ≤ p → p < 6 → 0 ≤ i → i < 12 → 0 ≤ V p i ∧ V p i ≤ 1000
def GR (N : Int) (g : Int → Int) : Prop := ∀ i : Int, 0 ≤ i → i < 12 → -1 ≤ g i ∧ g i < N
def CG (V : Int → Int → Int) (N m : Int) (g : Int → Int) (A : MF) : Prop := A 2 0 = N ∧ A 2 1 = m ∧ (∀ p i : Int, 0 ≤ p → p < 6 → 0 ≤ i → i < 12 → A (4 + p.toNat) i = V p i) ∧ ∀ i : Int, 0 ≤ i → i < 12 → A 10 i = g i
def MG (V : Int → Int → Int) (N m : Int) (g : Int → Int) (A : MF) : Prop := A 77 1 = N ∧ A 77 2 = m ∧ (∀ p i : Int, 0 ≤ p → p < 6 → 0 ≤ i → i < 12 → A 78 (12 * p + i) = V p i) ∧ ∀ i : Int, 0 ≤ i → i < 12 → A 79 i = g i
section CC
variable {X : List Value} {d : Nat} {A B : MF} {V : Int → Int → Int} {N m : Int} {g : Int → Int}
theorem CG.gd (hV : VR V N m) (hg : GR N g) (h : CG V N m g A) : Gd A := by
  obtain ⟨v1, v2, v3, v4, v5⟩ := hV
  obtain ⟨a1, a2, a3, a4⟩ := h
  refine ⟨by omega, by omega, by omega, by omega, fun p i h1 h2 h3 h4 => ?_, fun i h1 h2 => ?_⟩
  · rw [a3 p i h1 h2 h3 h4]
    exact v5 p i h1 h2 h3 h4
  · rw [a4 i h1 h2, a1]
    exact hg i h1 h2
theorem MG.gm (hV : VR V N m) (hg : GR N g) (h : MG V N m g A) : Gm A := by
  obtain ⟨v1, v2, v3, v4, v5⟩ := hV
  obtain ⟨a1, a2, a3, a4⟩ := h
  refine ⟨by omega, by omega, by omega, by omega, fun p i h1 h2 h3 h4 => ?_, fun i h1 h2 => ?_⟩
  · rw [a3 p i h1 h2 h3 h4]
    exact v5 p i h1 h2 h3 h4
  · rw [a4 i h1 h2, a1]
    exact hg i h1 h2
theorem CG.W (hV : VR V N m) (h : CG V N m g A) {p q : Int} (hp : 0 ≤ p) (hp2 : p < 6) : cW A p q = Wv V g m p q := by
  obtain ⟨v1, v2, v3, v4, v5⟩ := hV
  obtain ⟨a1, a2, a3, a4⟩ := h
  unfold cW Wv
  rw [a2]
  exact ws_eq fun k h1 h2 => ⟨a3 p k hp hp2 h1 (by omega), a4 k h1 (by omega)⟩
theorem MG.W (hV : VR V N m) (h : MG V N m g A) {p q : Int} (hp : 0 ≤ p) (hp2 : p < 6) : mW A p q = Wv V g m p q := by
  obtain ⟨v1, v2, v3, v4, v5⟩ := hV
  obtain ⟨a1, a2, a3, a4⟩ := h
  unfold mW Wv
  rw [a2]
  exact ws_eq fun k h1 h2 => ⟨a3 p k hp hp2 h1 (by omega), a4 k h1 (by omega)⟩
theorem CG.eqv (h : CG V N m g A) (e : ∀ b k, b ≤ 10 → B b k = A b k) : CG V N m g B := by
  obtain ⟨a1, a2, a3, a4⟩ := h
  refine ⟨by rw [e 2 0 (by omega), a1], by rw [e 2 1 (by omega), a2], fun p i h1 h2 h3 h4 => ?_, fun i h1 h2 => ?_⟩
  · rw [e _ _ (by omega)]
    exact a3 p i h1 h2 h3 h4
  · rw [e _ _ (by omega)]
    exact a4 i h1 h2
theorem MG.eqv (h : MG V N m g A) (e : ∀ b k, 77 ≤ b → b ≤ 79 → (b = 77 → k = 1 ∨ k = 2) → B b k = A b k) : MG V N m g B := by
  obtain ⟨a1, a2, a3, a4⟩ := h
  refine ⟨by rw [e 77 1 (by omega) (by omega) (by omega), a1], by rw [e 77 2 (by omega) (by omega) (by omega), a2], fun p i h1 h2 h3 h4 => ?_, fun i h1 h2 => ?_⟩
  · rw [e _ _ (by omega) (by omega) (by omega)]
    exact a3 p i h1 h2 h3 h4
  · rw [e _ _ (by omega) (by omega) (by omega)]
    exact a4 i h1 h2
theorem Wv_bd (hV : VR V N m) {p q : Int} (hp : 0 ≤ p) (hp2 : p < 6) : 0 ≤ Wv V g m p q ∧ Wv V g m p q ≤ 12000 := by
  obtain ⟨v1, v2, v3, v4, v5⟩ := hV
  have h := ws_bd (f := V p) (g := g) (q := q) (n := m.toNat) fun k h1 h2 => v5 p k hp hp2 h1 (by omega)
  unfold Wv
  omega
theorem SS_bd (hV : VR V N m) : 0 ≤ SS V g m N ∧ SS V g m N ≤ 72000 := by
  have v1 := hV.1
  have v2 := hV.2.1
  have h := ss_bd (f := fun p => Wv V g m p p) (b := 12000) (n := N.toNat) fun k h1 h2 => Wv_bd hV h1 (by omega)
  unfold SS
  omega
theorem c69_l {w : Nat} (hV : VR V N m) (hg : GR N g) (hA : CG V N m g A) {q : Int} (hq : 0 ≤ q) (hq2 : q < 6) : ∀ (n : Nat) (i : Int), 0 ≤ i → i + n = N → mm_E w (d + 2) 69 2 [(0, .ref 2), (1, mI q), (2, mI i)] [] (mm_w X A) (.inl (some (mI (lo (fun p => ev V g m p q) n i))), mm_w X A, 0, 0)
  | 0, i, h0, h => by
    have v2 := hV.2.1
    have a1 := hA.1
    exact p69_2_0 (by omega)
  | n + 1, i, h0, h => by
    have v2 := hV.2.1
    have a1 := hA.1
    have s0 := c62a (X := X) (d := d) (w := w) (p := i) (q := q) (hA.gd hV hg) (by omega) (by omega) hq hq2
    have b1 := Wv_bd (g := g) (p := i) (q := q) hV (by omega) (by omega)
    have b2 := Wv_bd (g := g) (p := i) (q := i) hV (by omega) (by omega)
    rw [hA.W hV (by omega) (by omega), hA.W hV (by omega) (by omega)] at s0
    have k := c69_l (w := w) hV hg hA hq hq2 n (i + 1) (by omega) (by omega)
    rw [lo_s]
    by_cases c : Wv V g m i i < Wv V g m i q
    · rw [if_pos (show ev V g m i q = true from decide_eq_true c)]
      exact p69_2_2 s0 (by omega)
    · rw [if_neg (by simp [ev, c])]
      exact p69_2_1 s0 (by omega) k
theorem c69 {w : Nat} (hV : VR V N m) (hg : GR N g) (hA : CG V N m g A) {q : Int} (hq : 0 ≤ q) (hq2 : q < 6) : mm_E w (d + 2) 69 0 [(0, .ref 2), (1, mI q)] [] (mm_w X A) (.inl (some (mI (le V g m N q))), mm_w X A, 0, 0) := by
  have v1 := hV.1
  exact p69_0_0 (c69_l hV hg hA hq hq2 N.toNat 0 (by omega) (by omega))
theorem le_rg (hV : VR V N m) {q : Int} : -1 ≤ le V g m N q ∧ le V g m N q < N := by
  have v1 := hV.1
  by_cases c : le V g m N q = -1
  · omega
  · have := le_bd v1 c
    omega
theorem c68_l (hV : VR V N m) (hg : GR N g) : ∀ (n : Nat) (A : MF), CG V N m g A → (n : Int) ≤ N → ∃ A' : MF, mm_E 1 (d + 3) 68 9 [(0, .ref 2), (1, mI (lo (fun q => decide (le V g m N q = -1)) (N.toNat - n) n)), (2, mI ((n : Int) - 1))] [] (mm_w X A) (.inl (some (mI (lu V g m N))), mm_w X A', 0, 0) ∧ (∀ b k, b ≠ 11 → A' b k = A b k) ∧ (∀ q : Int, 0 ≤ q → q < n → A' 11 q = le V g m N q) ∧ ∀ q : Int, n ≤ q → A' 11 q = A 11 q
  | 0, A, hA, h => by
    refine ⟨A, ?_, fun _ _ _ => rfl, fun q h1 h2 => by omega, fun _ _ => rfl⟩
    exact p68_9_0 (by omega)
  | n + 1, A, hA, h => by
    have v2 := hV.2.1
    have s0 := c69 (X := X) (d := d) (w := 1) hV hg hA (q := n) (by omega) (by omega)
    have hl := le_rg (g := g) (q := n) hV
    obtain ⟨A', k1, k2, k3, k4⟩ := c68_l hV hg n (mm_u A 11 n (le V g m N n)) (hA.eqv fun b k hb => mm_u_ne (by omega)) (by omega)
    rw [show N.toNat - n = (N.toNat - (n + 1)) + 1 by omega, lo_s] at k1
    refine ⟨A', ?_, fun b k hb => by rw [k2 b k hb, mm_u_ne (by omega)], fun q h1 h2 => ?_, fun q h1 => by rw [k4 q (by omega), mm_u_ne (by omega)]⟩
    · rw [show ((n + 1 : Nat) : Int) - 1 = n by omega, show ((n + 1 : Nat) : Int) = (n : Int) + 1 by omega]
      by_cases c : le V g m N n = -1
      · rw [if_pos (decide_eq_true c)] at k1
        exact p68_9_2 s0 (by omega) k1
      · rw [if_neg (by simp [c])] at k1
        exact p68_9_1 s0 (by omega) k1
    · by_cases e : q = n
      · rw [e, k4 n (by omega), mm_u_same]
      · exact k3 q h1 (by omega)
theorem c68 (hV : VR V N m) (hg : GR N g) (hA : CG V N m g A) : ∃ A' : MF, mm_E 1 (d + 3) 68 0 [(0, .ref 2)] [] (mm_w X A) (.inl (some (mI (lu V g m N))), mm_w X A', 0, 0) ∧ (∀ b k, b ≠ 11 → A' b k = A b k) ∧ ∀ q : Int, 0 ≤ q → q < N → A' 11 q = le V g m N q := by
  have v1 := hV.1
  have a1 := hA.1
  obtain ⟨A', k1, k2, k3, k4⟩ := c68_l (X := X) (d := d) hV hg N.toNat A hA (by omega)
  rw [Nat.sub_self, show ((N.toNat : Nat) : Int) = A 2 0 by omega] at k1
  exact ⟨A', p68_0_0 k1, k2, fun q h1 h2 => k3 q h1 (by omega)⟩
/-! turnCircle -/
theorem c70_1 {w : Nat} {r : MR} {e : Int → Int} (hN : 1 ≤ N) (hN2 : N ≤ 6) (hA : A 2 0 = N) (he : ∀ q, 0 ≤ q → q < N → 0 ≤ e q ∧ e q < N) (hc : ∀ q : Int, 0 ≤ q → q < N → A 11 q = e q) (k : mm_E w d 70 32 [(0, .ref 2), (1, mI (it e N.toNat)), (2, mI 0)] [] (mm_w X A) r) : ∀ (n i : Nat), (i : Int) + n = N → mm_E w d 70 4 [(0, .ref 2), (1, mI (it e i)), (2, mI i)] [] (mm_w X A) r
  | 0, i, h => by
    rw [show N.toNat = i by omega] at k
    exact p70_4_0 (by omega) k
  | n + 1, i, h => by
    have b := it_bd hN he i
    have q := c70_1 hN hN2 hA he hc k n (i + 1) (by omega)
    rw [it_s, ← hc _ b.1 b.2, show ((i + 1 : Nat) : Int) = (i : Int) + 1 by omega] at q
    exact p70_4_2 (by omega) q
theorem c70_2 {r : MR} {x : Int} (k : mm_E 1 d 70 53 [(0, .ref 2), (1, mI x), (2, mI 0)] [] (mm_w X (mm_fr A 12 0 6 (-1))) r) : ∀ (n : Nat) (i : Int), 0 ≤ i → i + n = 6 → mm_E 1 d 70 32 [(0, .ref 2), (1, mI x), (2, mI i)] [] (mm_w X (mm_fr A 12 0 i (-1))) r
  | 0, i, h0, h => by
    rw [show i = 6 by omega]
    exact p70_32_0 (by omega) k
  | n + 1, i, h0, h => by
    refine p70_32_1 (by omega) ?_
    rw [mm_fr_s h0]
    exact c70_2 k n (i + 1) (by omega) (by omega)
theorem c70_3 {e : Int → Int} (hN : 1 ≤ N) (hN2 : N ≤ 6) (he : ∀ q, 0 ≤ q → q < N → 0 ≤ e q ∧ e q < N) : ∀ (n j : Nat) (A : MF), (j : Int) + n = N → A 2 0 = N → (∀ q : Int, 0 ≤ q → q < N → A 11 q = e q) → (∀ x : Int, 0 ≤ x → x < 6 → ((∃ k, k < j ∧ x = it e (N.toNat + k)) → A 12 x = e x) ∧ ((¬ ∃ k, k < j ∧ x = it e (N.toNat + k)) → A 12 x = -1)) → ∃ A' : MF, (∀ r, mm_E 1 d 70 103 [(0, .ref 2), (2, mI 0)] [] (mm_w X A') r → mm_E 1 d 70 53 [(0, .ref 2), (1, mI (it e (N.toNat + j))), (2, mI j)] [] (mm_w X A) r) ∧ (∀ b k, b ≠ 12 → A' b k = A b k) ∧ ∀ x : Int, 0 ≤ x → x < 6 → (cyc e N.toNat x → A' 12 x = e x) ∧ (¬ cyc e N.toNat x → A' 12 x = -1)
  | 0, j, A, h, hA, hc, hT => by
    refine ⟨A, fun r k => p70_53_0 (by omega) k, fun _ _ _ => rfl, fun x h1 h2 => ?_⟩
    obtain ⟨a, b, hab, hb, hr⟩ := it_rep hN he
    have q := it_per hr (N.toNat - a)
    have hj : j = N.toNat := by omega
    rw [show a + (N.toNat - a) = N.toNat + 0 by omega, show b + (N.toNat - a) = N.toNat + (b - a) by omega] at q
    have l : cyc e N.toNat x ↔ ∃ k, k < j ∧ x = it e (N.toNat + k) := by
      constructor
      · intro k
        obtain ⟨k, k1, k2⟩ := (cyc_of2 (by omega) q.symm).mp k
        exact ⟨k, by omega, k2⟩
      · rintro ⟨k, k1, k2⟩
        exact ⟨N.toNat + k, by omega, k2⟩
    rw [l]
    exact hT x h1 h2
  | n + 1, j, A, h, hA, hc, hT => by
    have b := it_bd hN he (N.toNat + j)
    have hx := hT _ b.1 (by omega)
    have be := he _ b.1 b.2
    by_cases c : ∃ k, k < j ∧ it e (N.toNat + j) = it e (N.toNat + k)
    · have ha := hx.1 c
      refine ⟨A, fun r k => p70_53_2 (by omega) k, fun _ _ _ => rfl, fun x h1 h2 => ?_⟩
      obtain ⟨i, i1, i2⟩ := c
      rw [cyc_of2 i1 i2]
      exact hT x h1 h2
    · have ha := hx.2 c
      have ec := hc _ b.1 b.2
      obtain ⟨A', k1, k2, k3⟩ := c70_3 hN hN2 he n (j + 1) (mm_u A 12 (it e (N.toNat + j)) (e (it e (N.toNat + j)))) (by omega) (by rw [mm_u_ne (by omega)]; exact hA) (fun q q1 q2 => by rw [mm_u_ne (by omega)]; exact hc q q1 q2) (fun x h1 h2 => by
        by_cases ex : x = it e (N.toNat + j)
        · rw [ex, mm_u_same]
          exact ⟨fun _ => rfl, fun k => absurd ⟨j, by omega, rfl⟩ k⟩
        · rw [mm_u_ne (by omega)]
          have := hT x h1 h2
          refine ⟨fun k => this.1 ?_, fun k => this.2 fun l => k ?_⟩
          · obtain ⟨k, l1, l2⟩ := k
            by_cases ej : k = j
            · exact absurd (ej ▸ l2) ex
            · exact ⟨k, by omega, l2⟩
          · obtain ⟨k, l1, l2⟩ := l
            exact ⟨k, by omega, l2⟩)
      refine ⟨A', fun r k => ?_, fun b k hb => by rw [k2 b k hb, mm_u_ne (by omega)], k3⟩
      have k' := k1 r k
      rw [← Nat.add_assoc, it_s, show ((j + 1 : Nat) : Int) = (j : Int) + 1 by omega, ← ec] at k'
      exact p70_53_3 (by omega) k'
def nk (T g : Int → Int) (i : Int) : Int → Int := fun k => if k < i ∧ g k ≠ -1 ∧ T (g k) ≠ -1 then T (g k) else g k
theorem c70_4 {T : Int → Int} (hm : 0 ≤ m ∧ m ≤ 12) (hN : 1 ≤ N ∧ N ≤ 6) (hA : A 2 1 = m) (hT : ∀ x : Int, 0 ≤ x → x < 6 → A 12 x = T x ∧ -1 ≤ T x ∧ T x < N) (hg : GR N g) : ∀ (n : Nat) (i : Int), 0 ≤ i → i + n = m → mm_E 1 d 70 103 [(0, .ref 2), (2, mI i)] [] (mm_w X (mm_sg A 10 12 (nk T g i))) (.inl none, mm_w X (mm_sg A 10 12 (nk T g m)), 0, 0)
  | 0, i, h0, h => by
    rw [show m = i by omega]
    refine p70_103_0 ?_
    rw [mm_sg_ne (by omega)]
    omega
  | n + 1, i, h0, h => by
    have k := c70_4 hm hN hA hT hg n (i + 1) (by omega) (by omega)
    have e1 : mm_sg A 10 12 (nk T g i) 2 1 = m := by rw [mm_sg_ne (by omega), hA]
    have e2 : mm_sg A 10 12 (nk T g i) 10 i = g i := by
      rw [mm_sg_in (by omega) (by omega)]
      unfold nk
      rw [if_neg (by omega)]
    have hb := hg i (by omega) (by omega)
    by_cases c : g i = -1
    · have e : nk T g i = nk T g (i + 1) := by
        funext x
        unfold nk
        by_cases ex : x = i
        · rw [ex, if_neg (by omega), if_neg (by omega)]
        · by_cases q : x < i ∧ g x ≠ -1 ∧ T (g x) ≠ -1
          · rw [if_pos q, if_pos (by omega)]
          · rw [if_neg q, if_neg (by omega)]
      refine p70_103_1 (by omega) ?_
      rw [e]
      exact k
    · have ht := hT (g i) (by omega) (by omega)
      have e3 : mm_sg A 10 12 (nk T g i) 12 (g i) = T (g i) := by rw [mm_sg_ne (by omega), ht.1]
      by_cases c2 : T (g i) = -1
      · have e : nk T g i = nk T g (i + 1) := by
          funext x
          unfold nk
          by_cases ex : x = i
          · rw [ex, if_neg (by omega), if_neg (by omega)]
          · by_cases q : x < i ∧ g x ≠ -1 ∧ T (g x) ≠ -1
            · rw [if_pos q, if_pos (by omega)]
            · rw [if_neg q, if_neg (by omega)]
        refine p70_103_2 ?_ ?_
        · rw [e1, e2, e3]
          omega
        · rw [e]
          exact k
      · have e : up (nk T g i) i (T (g i)) = nk T g (i + 1) := by
          funext x
          unfold up nk
          by_cases ex : x = i
          · rw [ex, if_pos rfl, if_pos (by omega)]
          · rw [if_neg ex]
            by_cases q : x < i ∧ g x ≠ -1 ∧ T (g x) ≠ -1
            · rw [if_pos q, if_pos (by omega)]
            · rw [if_neg q, if_neg (by omega)]
        refine p70_103_3 ?_ ?_
        · rw [e1, e2, e3]
          omega
        · rw [e2, e3, mm_sg_u (by omega) (by omega), e]
          exact k
theorem c70 (hV : VR V N m) (hg : GR N g) (hA : CG V N m g A) (hl : lu V g m N = -1) (hc : ∀ q : Int, 0 ≤ q → q < N → A 11 q = le V g m N q) : ∃ A' : MF, mm_E 1 d 70 0 [(0, .ref 2)] [] (mm_w X A) (.inl none, mm_w X A', 0, 0) ∧ (∀ b k, b ≠ 10 → b ≠ 12 → A' b k = A b k) ∧ ∀ i : Int, 0 ≤ i → i < 12 → A' 10 i = nh V g m N i := by
  have hA' := hA
  have hV' := hV
  obtain ⟨v1, v2, v3, v4, v5⟩ := hV'
  obtain ⟨a1, a2, a3, a4⟩ := hA'
  have hn := lu_none hl
  have he : ∀ q, 0 ≤ q → q < N → 0 ≤ le V g m N q ∧ le V g m N q < N := fun q h1 h2 => by
    have := le_bd v1 (hn q h1 h2)
    omega
  obtain ⟨A', k1, k2, k3⟩ := c70_3 (X := X) (d := d) v1 v2 he N.toNat 0 (mm_fr A 12 0 6 (-1)) (by omega) (by rw [mm_fr_out (by omega)]; exact a1) (fun q q1 q2 => by rw [mm_fr_out (by omega)]; exact hc q q1 q2) (fun x h1 h2 => ⟨fun ⟨k, k1, _⟩ => by omega, fun _ => mm_fr_in h1 h2⟩)
  have hT : ∀ x : Int, 0 ≤ x → x < 6 → A' 12 x = A' 12 x ∧ -1 ≤ A' 12 x ∧ A' 12 x < N := fun x h1 h2 => by
    have q := k3 x h1 h2
    by_cases c : cyc (le V g m N) N.toNat x
    · have := cyc_bd v1 he c
      have := he x (by omega) (by omega)
      rw [q.1 c]
      omega
    · rw [q.2 c]
      omega
  have l := c70_4 (X := X) (d := d) (A := A') (T := A' 12) (m := m) ⟨v3, v4⟩ ⟨v1, v2⟩ (by rw [k2 2 1 (by omega), mm_fr_out (by omega)]; exact a2) hT hg m.toNat 0 (by omega) (by omega)
  have e0 : mm_sg A' 10 12 (nk (A' 12) g 0) = A' := by
    funext b k
    unfold mm_sg
    by_cases c : b = 10 ∧ 0 ≤ k ∧ k < 12
    · rw [if_pos c]
      unfold nk
      rw [if_neg (by omega), c.1, k2 10 k (by omega), mm_fr_out (by omega), a4 k c.2.1 c.2.2]
    · rw [if_neg c]
  rw [e0] at l
  have l2 := c70_2 (X := X) (d := d) (A := A) (k1 _ l) 6 0 (by omega) (by omega)
  rw [mm_fr_0] at l2
  have l3 := c70_1 (X := X) (d := d) (w := 1) v1 v2 a1 he hc l2 N.toNat 0 (by omega)
  refine ⟨_, p70_0_0 l3, fun b k h1 h2 => by rw [mm_sg_ne (by omega), k2 b k h2, mm_fr_out (by omega)], fun i h1 h2 => ?_⟩
  rw [mm_sg_in h1 h2]
  unfold nk nh
  have hb := hg i h1 h2
  by_cases c : cyc (le V g m N) N.toNat (g i)
  · have b := cyc_bd v1 he c
    have t := (k3 (g i) b.1 (by omega)).1 c
    have := he _ b.1 b.2
    by_cases c2 : i < m
    · rw [if_pos ⟨c2, by omega, by omega⟩, if_pos ⟨c2, c⟩, t]
    · rw [if_neg (by omega), if_neg fun q => c2 q.1]
  · rw [if_neg (c := i < m ∧ cyc (le V g m N) N.toNat (g i)) fun q => c q.2]
    by_cases c2 : g i = -1
    · rw [if_neg (by omega)]
    · have t := (k3 (g i) (by omega) (by omega)).2 c
      rw [if_neg fun q => q.2.2 t]
end CC
