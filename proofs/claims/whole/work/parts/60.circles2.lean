/-! circles: the reference, and the round. -/
section CD
variable {X : List Value} {d : Nat} {A B : MF} {V : Int → Int → Int} {N m : Int} {g : Int → Int} {x4 z0 z1 z2 z3 : Int}
theorem c93 {w : Nat} (hV : VR V N m) (hg : GR N g) (hA : MG V N m g A) {p q : Int} (hp : 0 ≤ p) (hp2 : p < 6) (hq : 0 ≤ q) (hq2 : q < 6) : mm_E w (d + 1) 93 0 [(0, .ref 77), (1, mI p), (2, mI q)] [] (mm_w X A) (.inl (some (mI (if ev V g m p q = true then 1 else 0))), mm_w X A, 0, 0) := by
  have s0 := c92 (X := X) (d := d) (w := w) (q := q) (hA.gm hV hg) hp hp2 (by omega)
  have s1 := c92 (X := X) (d := d) (w := w) (q := p) (hA.gm hV hg) hp hp2 (by omega)
  have b1 := Wv_bd (g := g) (p := p) (q := q) hV (by omega) (by omega)
  have b2 := Wv_bd (g := g) (p := p) (q := p) hV (by omega) (by omega)
  rw [hA.W hV hp hp2] at s0 s1
  by_cases c : Wv V g m p p < Wv V g m p q
  · rw [if_pos (show ev V g m p q = true from decide_eq_true c)]
    exact p93_0_1 s0 s1 (by omega)
  · rw [if_neg (by simp [ev, c])]
    exact p93_0_0 s0 s1 (by omega)
/-- whether somebody of i.. envies q -/
theorem c95_i1 {w : Nat} {q : Int} {r : MR} (hN : 1 ≤ N ∧ N ≤ 6) (hA : A 77 1 = N) (k : mm_E w d 95 2 [(0, .ref 77), (1, mI (q + 1))] [] (mm_w X A) r) : ∀ (n : Nat) (i : Int), 0 ≤ i → i + n = N → mm_E w d 95 14 [(0, .ref 77), (1, mI q), (2, mI 1), (3, mI i)] [] (mm_w X A) r
  | 0, i, h0, h => p95_14_0 (by omega) k
  | n + 1, i, h0, h => p95_14_2 (by omega) (c95_i1 hN hA k n (i + 1) (by omega) (by omega))
theorem c95_i {w : Nat} {q : Int} (hV : VR V N m) (hg : GR N g) (hA : MG V N m g A) (hq : 0 ≤ q) (hq2 : q < 6) : ∀ (n : Nat) (i : Int), 0 ≤ i → i + n = N → (lo (fun p => ev V g m p q) n i = -1 → mm_E w (d + 2) 95 14 [(0, .ref 77), (1, mI q), (2, mI 0), (3, mI i)] [] (mm_w X A) (.inl (some (mI q)), mm_w X A, 0, 0)) ∧ (lo (fun p => ev V g m p q) n i ≠ -1 → ∀ r, mm_E w (d + 2) 95 2 [(0, .ref 77), (1, mI (q + 1))] [] (mm_w X A) r → mm_E w (d + 2) 95 14 [(0, .ref 77), (1, mI q), (2, mI 0), (3, mI i)] [] (mm_w X A) r)
  | 0, i, h0, h => by
    have v2 := hV.2.1
    have a1 := hA.1
    exact ⟨fun _ => p95_14_1 (by omega), fun k => absurd rfl k⟩
  | n + 1, i, h0, h => by
    have v1 := hV.1
    have v2 := hV.2.1
    have a1 := hA.1
    have s0 := c93 (X := X) (d := d) (w := w) hV hg hA (p := i) (q := q) h0 (by omega) hq hq2
    have k := c95_i (w := w) hV hg hA hq hq2 n (i + 1) (by omega) (by omega)
    rw [lo_s]
    by_cases c : ev V g m i q = true
    · rw [if_pos c] at s0 ⊢
      exact ⟨fun e => by omega, fun _ r k => p95_14_4 s0 (by omega) (c95_i1 ⟨v1, v2⟩ a1 k n (i + 1) (by omega) (by omega))⟩
    · rw [if_neg c] at s0 ⊢
      exact ⟨fun e => p95_14_3 s0 (by omega) (k.1 e), fun e r kr => p95_14_3 s0 (by omega) (k.2 e r kr)⟩
theorem c95_l {w : Nat} (hV : VR V N m) (hg : GR N g) (hA : MG V N m g A) : ∀ (n : Nat) (q : Int), 0 ≤ q → q + n = N → mm_E w (d + 2) 95 2 [(0, .ref 77), (1, mI q)] [] (mm_w X A) (.inl (some (mI (lo (fun q => decide (le V g m N q = -1)) n q))), mm_w X A, 0, 0)
  | 0, q, h0, h => by
    have v2 := hV.2.1
    have a1 := hA.1
    exact p95_2_0 (by omega)
  | n + 1, q, h0, h => by
    have v1 := hV.1
    have v2 := hV.2.1
    have a1 := hA.1
    have k := c95_i (X := X) (d := d) (w := w) hV hg hA h0 (by omega) N.toNat 0 (by omega) (by omega)
    rw [lo_s]
    by_cases c : le V g m N q = -1
    · rw [if_pos (decide_eq_true c)]
      exact p95_2_1 (by omega) (k.1 c)
    · rw [if_neg (by simp [c])]
      exact p95_2_1 (by omega) (k.2 c _ (c95_l hV hg hA n (q + 1) (by omega) (by omega)))
theorem c95 {w : Nat} (hV : VR V N m) (hg : GR N g) (hA : MG V N m g A) : mm_E w (d + 2) 95 0 [(0, .ref 77)] [] (mm_w X A) (.inl (some (mI (lu V g m N))), mm_w X A, 0, 0) := by
  have v1 := hV.1
  exact p95_0_0 (c95_l hV hg hA N.toNat 0 (by omega) (by omega))
theorem c96_1 {w : Nat} {r : MR} {x y b : Int} (hV : VR V N m) (hg : GR N g) (hA : MG V N m g A) (hy : 0 ≤ y) (hy2 : y < 6) : ∀ (n : Nat) (i : Int), 0 ≤ i → i + n = N → lo (fun p => ev V g m p y) n i ≠ -1 → mm_E w (d + 2) 96 45 [(0, .ref 77), (1, mI x), (2, mI (lo (fun p => ev V g m p y) n i)), (3, mI b), (5, mI 0)] [] (mm_w X A) r → mm_E w (d + 2) 96 23 [(0, .ref 77), (1, mI x), (2, mI y), (3, mI b), (4, mI i)] [] (mm_w X A) r
  | 0, i, h0, h, hn, k => absurd rfl hn
  | n + 1, i, h0, h, hn, k => by
    have v2 := hV.2.1
    have s0 := c93 (X := X) (d := d) (w := w) hV hg hA (p := i) (q := y) h0 (by omega) hy hy2
    rw [lo_s] at hn k
    by_cases c : ev V g m i y = true
    · rw [if_pos c] at s0 hn k
      exact p96_23_0 s0 (by omega) k
    · rw [if_neg c] at s0 hn k
      exact p96_23_1 s0 (by omega) (c96_1 hV hg hA hy hy2 n (i + 1) (by omega) (by omega) hn k)
theorem c96_2a {w : Nat} {r : MR} {x y : Int} (hx : x ≤ 6) (k : mm_E w d 96 6 [(0, .ref 77), (1, mI x), (2, mI y), (3, mI 1)] [] (mm_w X A) r) : ∀ (n : Nat) (i : Int), 0 ≤ i → i + n = x → mm_E w d 96 45 [(0, .ref 77), (1, mI x), (2, mI y), (3, mI 1), (5, mI i)] [] (mm_w X A) r
  | 0, i, h0, h => p96_45_0 (by omega) k
  | n + 1, i, h0, h => p96_45_1 (by omega) (c96_2a hx k n (i + 1) (by omega) (by omega))
theorem c96_2 {w : Nat} {x y : Int} (hx : x ≤ 6) (hy : R32 y) (hA : ∀ k : Int, 0 ≤ k → k < x → R32 (A 95 k)) : ∀ (n : Nat) (i : Int), 0 ≤ i → i + n = x → ((∃ k : Int, i ≤ k ∧ k < x ∧ A 95 k = y) ∧ ∀ r, mm_E w d 96 6 [(0, .ref 77), (1, mI x), (2, mI y), (3, mI 1)] [] (mm_w X A) r → mm_E w d 96 45 [(0, .ref 77), (1, mI x), (2, mI y), (3, mI 0), (5, mI i)] [] (mm_w X A) r) ∨ ((∀ k : Int, i ≤ k → k < x → A 95 k ≠ y) ∧ ∀ r, mm_E w d 96 6 [(0, .ref 77), (1, mI x), (2, mI y), (3, mI 0)] [] (mm_w X A) r → mm_E w d 96 45 [(0, .ref 77), (1, mI x), (2, mI y), (3, mI 0), (5, mI i)] [] (mm_w X A) r)
  | 0, i, h0, h => .inr ⟨fun k h1 h2 => by omega, fun r k => p96_45_0 (by omega) k⟩
  | n + 1, i, h0, h => by
    have b := hA i h0 (by omega)
    by_cases c : A 95 i = y
    · exact .inl ⟨⟨i, by omega, by omega, c⟩, fun r k => p96_45_3 (by omega) (c96_2a hx k n (i + 1) (by omega) (by omega))⟩
    · rcases c96_2 (w := w) hx hy hA n (i + 1) (by omega) (by omega) with q | q
      · obtain ⟨⟨k, k1, k2, k3⟩, q2⟩ := q
        exact .inl ⟨⟨k, by omega, k2, k3⟩, fun r k => p96_45_2 (by omega) (q2 r k)⟩
      · refine .inr ⟨fun k k1 k2 => ?_, fun r k => p96_45_2 (by omega) (q.2 r k)⟩
        by_cases e : k = i
        · rw [e]
          exact c
        · exact q.1 k (by omega) k2
/-- the way from 0 until somebody comes twice -/
theorem c96_3 (hV : VR V N m) (hg : GR N g) (hl : lu V g m N = -1) {a b : Nat} (hab : a < b) (hb : b ≤ N.toNat) (hr : it (le V g m N) a = it (le V g m N) b) : ∀ (f n : Nat) (A : MF), n + f + 1 = b → MG V N m g A → (∀ k : Nat, k < n → A 95 k = it (le V g m N) k) → ∃ (A' : MF) (n' f' : Nat), f' < n' ∧ n' ≤ b ∧ it (le V g m N) f' = it (le V g m N) n' ∧ (∀ k : Nat, k < n' → A' 95 k = it (le V g m N) k) ∧ (∀ c k, c ≠ 95 → A' c k = A c k) ∧ ∀ r, mm_E 1 (d + 2) 96 84 [(0, .ref 77), (1, mI n'), (2, mI (it (le V g m N) n')), (4, mI 0)] [] (mm_w X A') r → mm_E 1 (d + 2) 96 6 [(0, .ref 77), (1, mI n), (2, mI (it (le V g m N) n)), (3, mI 0)] [] (mm_w X A) r
  | f, n, A, h, hA, hG => by
    have v1 := hV.1
    have v2 := hV.2.1
    have hn := lu_none hl
    have he : ∀ q, 0 ≤ q → q < N → 0 ≤ le V g m N q ∧ le V g m N q < N := fun q h1 h2 => by
      have := le_bd v1 (hn q h1 h2)
      omega
    have bn := it_bd v1 he n
    have bs := it_bd v1 he (n + 1)
    have hA2 : MG V N m g (mm_u A 95 n (it (le V g m N) n)) := hA.eqv fun b k h1 h2 h3 => mm_u_ne (by omega)
    have hG2 : ∀ k : Nat, k < n + 1 → mm_u A 95 n (it (le V g m N) n) 95 k = it (le V g m N) k := fun k hk => by
      by_cases e : k = n
      · rw [e, mm_u_same]
      · rw [mm_u_ne (by omega)]
        exact hG k (by omega)
    have hR : ∀ k : Int, 0 ≤ k → k < (n : Int) + 1 → R32 (mm_u A 95 n (it (le V g m N) n) 95 k) := fun k h1 h2 => by
      have q := hG2 k.toNat (by omega)
      rw [show ((k.toNat : Nat) : Int) = k by omega] at q
      rw [q]
      have := it_bd v1 he k.toNat
      omega
    have st : ∀ r, mm_E 1 (d + 2) 96 45 [(0, .ref 77), (1, mI ((n : Int) + 1)), (2, mI (it (le V g m N) (n + 1))), (3, mI 0), (5, mI 0)] [] (mm_w X (mm_u A 95 n (it (le V g m N) n))) r → mm_E 1 (d + 2) 96 6 [(0, .ref 77), (1, mI n), (2, mI (it (le V g m N) n)), (3, mI 0)] [] (mm_w X A) r := fun r k =>
      p96_6_1 (by omega) (c96_1 hV hg hA2 bn.1 (by omega) N.toNat 0 (by omega) (by omega) (hn _ bn.1 bn.2) k)
    rcases c96_2 (X := X) (d := d + 2) (w := 1) (x := (n : Int) + 1) (y := it (le V g m N) (n + 1)) (by omega) (by omega) hR (n + 1) 0 (by omega) (by omega) with q | q
    · obtain ⟨⟨k, k1, k2, k3⟩, q2⟩ := q
      have q3 := hG2 k.toNat (by omega)
      rw [show ((k.toNat : Nat) : Int) = k by omega, k3] at q3
      refine ⟨_, n + 1, k.toNat, by omega, by omega, q3.symm, hG2, fun c k hc => mm_u_ne (by omega), fun r kr => ?_⟩
      rw [show ((n + 1 : Nat) : Int) = (n : Int) + 1 by omega] at kr
      exact st _ (q2 _ (p96_6_0 (by omega) kr))
    · obtain ⟨q1, q2⟩ := q
      have hnb : n + 1 ≠ b := fun e => by
        refine q1 a (by omega) (by omega) ?_
        rw [hG2 a (by omega), hr, e]
      cases f with
      | zero => omega
      | succ f =>
        obtain ⟨A', n', f', t1, t2, t3, t4, t5, t6⟩ := c96_3 hV hg hl hab hb hr f (n + 1) _ (by omega) hA2 hG2
        refine ⟨A', n', f', t1, t2, t3, t4, fun c k hc => by rw [t5 c k hc, mm_u_ne (by omega)], fun r kr => ?_⟩
        have t7 := t6 r kr
        rw [show ((n + 1 : Nat) : Int) = (n : Int) + 1 by omega] at t7
        exact st _ (q2 _ t7)
theorem c96_4 {w : Nat} {s : Nat → Int} {n' f : Nat} (hf : f < n') (hn : n' ≤ 6) (hs : ∀ k, R32 (s k)) (hG : ∀ k : Nat, k < n' → A 95 k = s k) (he : s f = s n') : ∀ (n k : Nat), k + n = f → ∃ f' : Nat, f' ≤ f ∧ s f' = s n' ∧ ∀ r, mm_E w d 96 104 [(0, .ref 77), (1, mI n'), (2, mI (s n')), (4, mI f'), (5, mI 0)] [] (mm_w X A) r → mm_E w d 96 84 [(0, .ref 77), (1, mI n'), (2, mI (s n')), (4, mI k)] [] (mm_w X A) r
  | n, k, h => by
    have h1 := hs k
    have h2 := hs n'
    have e := hG k (by omega)
    by_cases c : s k = s n'
    · exact ⟨k, by omega, c, fun r kr => p96_84_0 (by omega) kr⟩
    · cases n with
      | zero =>
        exact absurd ((show k = f by omega) ▸ he) c
      | succ n =>
        obtain ⟨f', q1, q2, q3⟩ := c96_4 (w := w) hf hn hs hG he n (k + 1) (by omega)
        refine ⟨f', q1, q2, fun r kr => ?_⟩
        have q4 := q3 r kr
        rw [show ((k + 1 : Nat) : Int) = (k : Int) + 1 by omega] at q4
        exact p96_84_1 (by omega) q4
theorem c96_5 {e : Int → Int} {n' f : Nat} {i : Int} {x : Int} (hn : n' ≤ 6) (hs : ∀ k, R32 (it e k)) (hG : ∀ k : Nat, k < n' → B 95 k = it e k) (hi : 0 ≤ i) (hi2 : i < 12) (hx : R32 x) : ∀ (n k : Nat) (G : Int → Int), k + n = n' → ∃ G1 : Int → Int, (∀ r, mm_E 1 d 96 104 [(0, .ref 77), (1, mI n'), (2, mI (it e n')), (4, mI f), (5, mI (i + 1))] [] (mm_w X (mm_sg B 79 12 G1)) r → mm_E 1 d 96 126 [(0, .ref 77), (1, mI n'), (2, mI (it e n')), (4, mI f), (5, mI i), (6, mI x), (7, mI k)] [] (mm_w X (mm_sg B 79 12 G)) r) ∧ (∀ y, y ≠ i → G1 y = G y) ∧ ((∃ l, k ≤ l ∧ l < n' ∧ x = it e l) → G1 i = e x) ∧ ((¬ ∃ l, k ≤ l ∧ l < n' ∧ x = it e l) → G1 i = G i)
  | 0, k, G, h => ⟨G, fun r kr => p96_126_0 (by omega) kr, fun _ _ => rfl, fun ⟨l, l1, l2, _⟩ => by omega, fun _ => rfl⟩
  | n + 1, k, G, h => by
    have h1 := hs k
    have e0 : mm_sg B 79 12 G 95 k = it e k := by rw [mm_sg_ne (by omega), hG k (by omega)]
    by_cases c : x = it e k
    · obtain ⟨G1, q1, q2, q3, q4⟩ := c96_5 (f := f) hn hs hG hi hi2 hx n (k + 1) (up G i (e x)) (by omega)
      have hv : it e (k + 1) = e x := by rw [it_s, c]
      have hi1 : G1 i = e x := by
        by_cases c2 : ∃ l, k + 1 ≤ l ∧ l < n' ∧ x = it e l
        · exact q3 c2
        · rw [q4 c2, up_same]
      refine ⟨G1, fun r kr => ?_, fun y hy => by rw [q2 y hy, up_ne hy], fun _ => hi1, fun k' => absurd ⟨k, by omega, by omega, c⟩ k'⟩
      have q5 := q1 r kr
      rw [show ((k + 1 : Nat) : Int) = (k : Int) + 1 by omega, ← mm_sg_u hi hi2] at q5
      by_cases c3 : k + 1 = n'
      · refine p96_126_2 (by omega) ?_
        rw [← c3, hv]
        rw [← c3] at q5
        rw [hv] at q5
        exact q5
      · refine p96_126_3 (by omega) ?_
        rw [show mm_sg B 79 12 G 95 ((k : Int) + 1) = e x by rw [mm_sg_ne (by omega), show (k : Int) + 1 = ((k + 1 : Nat) : Int) by omega, hG (k + 1) (by omega), hv]]
        exact q5
    · obtain ⟨G1, q1, q2, q3, q4⟩ := c96_5 (f := f) hn hs hG hi hi2 hx n (k + 1) G (by omega)
      refine ⟨G1, fun r kr => ?_, q2, fun ⟨l, l1, l2, l3⟩ => ?_, fun k' => q4 fun ⟨l, l1, l2, l3⟩ => k' ⟨l, by omega, l2, l3⟩⟩
      · have q5 := q1 r kr
        rw [show ((k + 1 : Nat) : Int) = (k : Int) + 1 by omega] at q5
        exact p96_126_1 (by omega) q5
      · by_cases el : l = k
        · exact absurd (el ▸ l3) c
        · exact q3 ⟨l, by omega, l2, l3⟩
theorem c96_6 {e : Int → Int} {n' f : Nat} (hm : 0 ≤ m ∧ m ≤ 12) (hB : B 77 2 = m) (hn : n' ≤ 6) (hfn : f ≤ n') (hs : ∀ k, R32 (it e k)) (hG : ∀ k : Nat, k < n' → B 95 k = it e k) : ∀ (n : Nat) (i : Int) (G : Int → Int), 0 ≤ i → i + n = m → (∀ y : Int, 0 ≤ y → y < 12 → R32 (G y)) → (∀ y, R32 y → R32 (e y)) → ∃ G1 : Int → Int, mm_E 1 d 96 104 [(0, .ref 77), (1, mI n'), (2, mI (it e n')), (4, mI f), (5, mI i)] [] (mm_w X (mm_sg B 79 12 G)) (.inl none, mm_w X (mm_sg B 79 12 G1), 0, 0) ∧ (∀ y, y < i ∨ m ≤ y → G1 y = G y) ∧ ∀ y, i ≤ y → y < m → ((∃ l, f ≤ l ∧ l < n' ∧ G y = it e l) → G1 y = e (G y)) ∧ ((¬ ∃ l, f ≤ l ∧ l < n' ∧ G y = it e l) → G1 y = G y)
  | 0, i, G, h0, h, hR, he => by
    refine ⟨G, p96_104_0 ?_, fun _ _ => rfl, fun y h1 h2 => by omega⟩
    rw [mm_sg_ne (by omega)]
    omega
  | n + 1, i, G, h0, h, hR, he => by
    have hi := hR i h0 (by omega)
    obtain ⟨G1, q1, q2, q3, q4⟩ := c96_5 (X := X) (d := d) (f := f) (B := B) (i := i) (x := G i) hn hs hG h0 (by omega) hi (n' - f) f G (by omega)
    obtain ⟨G2, t1, t2, t3⟩ := c96_6 hm hB hn hfn hs hG n (i + 1) G1 (by omega) (by omega) (fun y h1 h2 => by
      by_cases ey : y = i
      · rw [ey]
        by_cases c : ∃ l, f ≤ l ∧ l < n' ∧ G i = it e l
        · rw [q3 c]
          exact he _ hi
        · rw [q4 c]
          exact hi
      · rw [q2 y ey]
        exact hR y h1 h2) he
    refine ⟨G2, p96_104_1 ?_ ?_, fun y hy => by rw [t2 y (by omega), q2 y (by omega)], fun y h1 h2 => ?_⟩
    · rw [mm_sg_ne (by omega)]
      omega
    · rw [mm_sg_in h0 (by omega)]
      exact q1 _ t1
    · by_cases ey : y = i
      · rw [ey, t2 i (by omega)]
        exact ⟨q3, q4⟩
      · have := t3 y (by omega) h2
        rw [q2 y ey] at this
        exact this
theorem c96 (hV : VR V N m) (hg : GR N g) (hA : MG V N m g A) (hl : lu V g m N = -1) : ∃ A' : MF, mm_E 1 (d + 2) 96 0 [(0, .ref 77)] [] (mm_w X A) (.inl none, mm_w X A', 0, 0) ∧ (∀ b k, b ≠ 79 → b ≠ 95 → A' b k = A b k) ∧ ∀ i : Int, 0 ≤ i → i < 12 → A' 79 i = nh V g m N i := by
  have hV' := hV
  obtain ⟨v1, v2, v3, v4, v5⟩ := hV'
  have hn := lu_none hl
  have he : ∀ q, 0 ≤ q → q < N → 0 ≤ le V g m N q ∧ le V g m N q < N := fun q h1 h2 => by
    have := le_bd v1 (hn q h1 h2)
    omega
  obtain ⟨a, b, hab, hb, hr⟩ := it_rep v1 he
  obtain ⟨A', n', f', t1, t2, t3, t4, t5, t6⟩ := c96_3 (X := X) (d := d) hV hg hl hab hb hr (b - 1) 0 A (by omega) hA (fun k hk => by omega)
  have hs : ∀ k, R32 (it (le V g m N) k) := fun k => by
    have := it_bd v1 he k
    omega
  obtain ⟨f, u1, u2, u3⟩ := c96_4 (X := X) (d := d + 2) (w := 1) (A := A') (s := it (le V g m N)) t1 (by omega) hs t4 t3 f' 0 (by omega)
  obtain ⟨G1, w1, w2, w3⟩ := c96_6 (X := X) (d := d + 2) (B := A') (e := le V g m N) (f := f) (n' := n') ⟨v3, v4⟩ (by rw [t5 77 2 (by omega)]; exact hA.2.1) (by omega) (by omega) hs t4 m.toNat 0 (A' 79) (by omega) (by omega) (fun y h1 h2 => by
    rw [t5 79 y (by omega), hA.2.2.2 y h1 h2]
    have := hg y h1 h2
    omega) (fun y _ => by
    have := le_rg (g := g) (q := y) hV
    omega)
  rw [mm_sg_id] at w1
  refine ⟨_, p96_0_0 (t6 _ (u3 _ w1)), fun b k h1 h2 => by rw [mm_sg_ne (by omega), t5 b k h2], fun i h1 h2 => ?_⟩
  rw [mm_sg_in h1 h2]
  unfold nh
  have e1 : A' 79 i = g i := by rw [t5 79 i (by omega), hA.2.2.2 i h1 h2]
  by_cases c : i < m
  · have w4 := w3 i h1 c
    rw [e1] at w4
    have l := cyc_of (e := le V g m N) (i := f) (j := n') (N := N.toNat) (by omega) (by omega) u2.symm (x := g i)
    by_cases c2 : cyc (le V g m N) N.toNat (g i)
    · rw [if_pos ⟨c, c2⟩]
      exact w4.1 (l.mp c2)
    · rw [if_neg fun q => c2 q.2]
      exact w4.2 fun q => c2 (l.mpr q)
  · rw [if_neg fun q => c q.1, w2 i (by omega), e1]
theorem nh_gr (hV : VR V N m) (hg : GR N g) : GR N (nh V g m N) := fun i h1 h2 => by
  unfold nh
  split
  · exact le_rg hV
  · exact hg i h1 h2
/-- the turns before an item finds its holder, on both sides -/
theorem ci_in (hV : VR V N m) {i : Int} (hi : 0 ≤ i) (hi2 : i < 12) : ∀ (f : Nat) (g : Int → Int) (t : Int), GR N g → 0 ≤ t → t ≤ SS V g m N → 72000 - SS V g m N < f → ∃ (g' : Int → Int) (c z : Int), GR N g' ∧ 0 ≤ c ∧ c ≤ f ∧ 0 ≤ z ∧ z < N ∧ (∀ A, CG V N m g A → (∀ q : Int, 0 ≤ q → q < N → A 11 q = le V g m N q) → ∃ A' : MF, CG V N m g' A' ∧ (∀ b k, b ≠ 10 → b ≠ 11 → b ≠ 12 → A' b k = A b k) ∧ ∀ x1 r, mm_E 1 (d + 4) 67 8 [(0, .ref 2), (1, mI (x1 + c)), (2, mI (i + 1))] [] (mm_w X (mm_u A' 10 i z)) r → mm_E 1 (d + 4) 67 24 [(0, .ref 2), (1, mI x1), (2, mI i), (3, mI (lu V g m N)), (4, mI t)] [] (mm_w X A) r) ∧ ∀ B, MG V N m g B → ∃ B' : MF, MG V N m g' B' ∧ (∀ b k, b ≠ 79 → b ≠ 95 → B' b k = B b k) ∧ ∀ x1 r, mm_E 1 (d + 4) 118 13 [(0, .ref 77), (1, mI (x1 + c)), (2, mI (i + 1))] [] (mm_w X (mm_u B' 79 i z)) r → mm_E 1 (d + 4) 118 26 [(0, .ref 77), (1, mI x1), (2, mI i), (3, mI (lu V g m N))] [] (mm_w X B) r
  | 0, g, t, hg, ht, ht2, hf => by
    have := SS_bd (g := g) hV
    omega
  | f + 1, g, t, hg, ht, ht2, hf => by
    have v2 := hV.2.1
    have hS := SS_bd (g := g) hV
    by_cases c : lu V g m N = -1
    · have hp := nh_prog hV.1 c
      have hg2 := nh_gr hV hg
      have hS2 := SS_bd (g := nh V g m N) hV
      obtain ⟨g', n, z, q1, q2, q3, q4, q5, q6, q7⟩ := ci_in hV hi hi2 f (nh V g m N) (t + 1) hg2 (by omega) (by omega) (by omega)
      refine ⟨g', n + 1, z, q1, by omega, by omega, q4, q5, fun A hA hc => ?_, fun B hB => ?_⟩
      · obtain ⟨A1, a1, a2, a3⟩ := c70 (X := X) (d := d + 3) hV hg hA c hc
        have hA1 : CG V N m (nh V g m N) A1 := by
          obtain ⟨b1, b2, b3, b4⟩ := hA
          refine ⟨by rw [a2 2 0 (by omega) (by omega), b1], by rw [a2 2 1 (by omega) (by omega), b2], fun p i h1 h2 h3 h4 => ?_, a3⟩
          rw [a2 _ _ (by omega) (by omega)]
          exact b3 p i h1 h2 h3 h4
        obtain ⟨A2, e1, e2, e3⟩ := c68 (X := X) (d := d) hV hg2 hA1
        obtain ⟨A3, f1, f2, f3⟩ := q6 A2 (hA1.eqv fun b k hb => e2 b k (by omega)) e3
        refine ⟨A3, f1, fun b k h1 h2 h3 => by rw [f2 b k h1 h2 h3, e2 b k h2, a2 b k h1 h3], fun x1 r k => ?_⟩
        rw [show x1 + (n + 1) = x1 + 1 + n by omega] at k
        exact p67_24_2 a1 e1 (by omega) (f3 (x1 + 1) r k)
      · obtain ⟨B1, a1, a2, a3⟩ := c96 (X := X) (d := d + 1) hV hg hB c
        have hB1 : MG V N m (nh V g m N) B1 := by
          obtain ⟨b1, b2, b3, b4⟩ := hB
          refine ⟨by rw [a2 77 1 (by omega) (by omega), b1], by rw [a2 77 2 (by omega) (by omega), b2], fun p i h1 h2 h3 h4 => ?_, a3⟩
          rw [a2 _ _ (by omega) (by omega)]
          exact b3 p i h1 h2 h3 h4
        have e1 := c95 (X := X) (d := d + 1) (w := 1) hV hg2 hB1
        obtain ⟨B2, f1, f2, f3⟩ := q7 B1 hB1
        refine ⟨B2, f1, fun b k h1 h2 => by rw [f2 b k h1 h2, a2 b k h1 h2], fun x1 r k => ?_⟩
        rw [show x1 + (n + 1) = x1 + 1 + n by omega] at k
        exact p118_26_1 a1 e1 (by omega) (f3 (x1 + 1) r k)
    · have hb := lu_bd c
      refine ⟨g, 0, lu V g m N, hg, by omega, by omega, hb.1, hb.2, fun A hA hc => ⟨A, hA, fun _ _ _ _ _ => rfl, fun x1 r k => ?_⟩, fun B hB => ⟨B, hB, fun _ _ _ _ => rfl, fun x1 r k => ?_⟩⟩
      · rw [Int.add_zero] at k
        exact p67_24_1 (by omega) k
      · rw [Int.add_zero] at k
        exact p118_26_0 (by omega) k
theorem ci_out (hV : VR V N m) : ∀ (n : Nat) (i : Int) (g : Int → Int), GR N g → 0 ≤ i → i + n = m → ∃ (g' : Int → Int) (c : Int), GR N g' ∧ 0 ≤ c ∧ c ≤ 72001 * n ∧ (∀ A, CG V N m g A → ∃ A' : MF, CG V N m g' A' ∧ (∀ b k, b ≠ 10 → b ≠ 11 → b ≠ 12 → A' b k = A b k) ∧ ∀ x1, mm_E 1 (d + 4) 67 8 [(0, .ref 2), (1, mI x1), (2, mI i)] [] (mm_w X A) (.inl (some (mI (x1 + c))), mm_w X A', 0, 0)) ∧ ∀ B, MG V N m g B → ∃ B' : MF, MG V N m g' B' ∧ (∀ b k, b ≠ 79 → b ≠ 95 → B' b k = B b k) ∧ ∀ x1, mm_E 1 (d + 4) 118 13 [(0, .ref 77), (1, mI x1), (2, mI i)] [] (mm_w X B) (.inl (some (mI (x1 + c))), mm_w X B', 0, 0)
  | 0, i, g, hg, h0, h => by
    have v4 := hV.2.2.2.1
    refine ⟨g, 0, hg, by omega, by omega, fun A hA => ⟨A, hA, fun _ _ _ _ _ => rfl, fun x1 => ?_⟩, fun B hB => ⟨B, hB, fun _ _ _ _ => rfl, fun x1 => ?_⟩⟩
    · have := hA.2.1
      rw [Int.add_zero]
      exact p67_8_0 (by omega)
    · have := hB.2.1
      rw [Int.add_zero]
      exact p118_13_0 (by omega)
  | n + 1, i, g, hg, h0, h => by
    have v4 := hV.2.2.2.1
    have hS := SS_bd (g := g) hV
    obtain ⟨g1, c1, z, q1, q2, q3, q4, q5, q6, q7⟩ := ci_in (X := X) (d := d) hV h0 (by omega) 72001 g 0 hg (by omega) (by omega) (by omega)
    have hg1 : GR N (up g1 i z) := fun k h1 h2 => by
      unfold up
      have := q1 k h1 h2
      split <;> omega
    obtain ⟨g2, c2, t1, t2, t3, t4, t5⟩ := ci_out hV n (i + 1) (up g1 i z) hg1 (by omega) (by omega)
    refine ⟨g2, c1 + c2, t1, by omega, by omega, fun A hA => ?_, fun B hB => ?_⟩
    · obtain ⟨A1, e1, e2, e3⟩ := c68 (X := X) (d := d) hV hg hA
      obtain ⟨A2, f1, f2, f3⟩ := q6 A1 (hA.eqv fun b k hb => e2 b k (by omega)) e3
      obtain ⟨A3, k1, k2, k3⟩ := t4 (mm_u A2 10 i z) (by
        obtain ⟨b1, b2, b3, b4⟩ := f1
        refine ⟨by rw [mm_u_ne (by omega), b1], by rw [mm_u_ne (by omega), b2], fun p i h1 h2 h3 h4 => ?_, fun k h1 h2 => ?_⟩
        · rw [mm_u_ne (by omega)]
          exact b3 p i h1 h2 h3 h4
        · unfold mm_u up
          by_cases e : k = i
          · rw [if_pos ⟨rfl, e⟩, if_pos e]
          · rw [if_neg (by omega), if_neg e]
            exact b4 k h1 h2)
      refine ⟨A3, k1, fun b k h1 h2 h3 => by rw [k2 b k h1 h2 h3, mm_u_ne (by omega), f2 b k h1 h2 h3, e2 b k h2], fun x1 => ?_⟩
      have := hA.2.1
      have k4 := k3 (x1 + c1)
      rw [Int.add_assoc] at k4
      exact p67_8_1 e1 (by omega) (f3 x1 _ k4)
    · have e1 := c95 (X := X) (d := d + 1) (w := 1) hV hg hB
      obtain ⟨B2, f1, f2, f3⟩ := q7 B hB
      obtain ⟨B3, k1, k2, k3⟩ := t5 (mm_u B2 79 i z) (by
        obtain ⟨b1, b2, b3, b4⟩ := f1
        refine ⟨by rw [mm_u_ne (by omega), b1], by rw [mm_u_ne (by omega), b2], fun p i h1 h2 h3 h4 => ?_, fun k h1 h2 => ?_⟩
        · rw [mm_u_ne (by omega)]
          exact b3 p i h1 h2 h3 h4
        · unfold mm_u up
          by_cases e : k = i
          · rw [if_pos ⟨rfl, e⟩, if_pos e]
          · rw [if_neg (by omega), if_neg e]
            exact b4 k h1 h2)
      refine ⟨B3, k1, fun b k h1 h2 => by rw [k2 b k h1 h2, mm_u_ne (by omega), f2 b k h1 h2], fun x1 => ?_⟩
      have := hB.2.1
      have k4 := k3 (x1 + c1)
      rw [Int.add_assoc] at k4
      exact p118_13_1 e1 (by omega) (f3 x1 _ k4)
theorem rd4 (hI : Inv A) (hs : mm_sc X x4 z0 z1 z2 z3) (h0 : mm_and z0 31 = 4) : mm_rd X d x4 A := by
  have hS := hI.1
  unfold Is at hS
  have hV : VR (fun p i => A (4 + p.toNat) i) (A 2 0) (A 2 1) := ⟨by omega, by omega, by omega, by omega, fun p i h1 h2 h3 h4 => by
    have := hI.2.1 p i h1 h2 h3 h4
    show 0 ≤ A (4 + p.toNat) i ∧ A (4 + p.toNat) i ≤ 1000
    omega⟩
  obtain ⟨g', c, t1, t2, t3, t4, t5⟩ := ci_out (X := X) (d := d + 34) hV (A 2 1).toNat 0 (fun _ => -1) (fun i h1 h2 => ⟨Int.le_refl _, show (-1 : Int) < A 2 0 by omega⟩) (by omega) (by omega)
  obtain ⟨A', a1, a2, a3⟩ := t4 (mm_fr A 10 0 12 (-1)) ⟨mm_fr_out (by omega), mm_fr_out (by omega), fun p i h1 h2 h3 h4 => mm_fr_out (by omega), fun i h1 h2 => mm_fr_in h1 h2⟩
  have e : ∀ b k, b ≠ 10 → b ≠ 11 → b ≠ 12 → A' b k = A b k := fun b k h1 h2 h3 => by rw [a2 b k h1 h2 h3, mm_fr_out (by omega)]
  obtain ⟨B', b1, b2, b3⟩ := t5 (mm_fr (mm_u A' 77 0 0) 79 0 12 (-1)) ⟨by rw [mm_fr_out (by omega), mm_u_ne (by omega), e _ _ (by omega) (by omega) (by omega)]; omega, by rw [mm_fr_out (by omega), mm_u_ne (by omega), e _ _ (by omega) (by omega) (by omega)]; omega, fun p i h1 h2 h3 h4 => by
    rw [mm_fr_out (by omega), mm_u_ne (by omega), e _ _ (by omega) (by omega) (by omega)]
    exact (hI.2.1 p i h1 h2 h3 h4).1.symm, fun i h1 h2 => mm_fr_in h1 h2⟩
  have a4 := a3 0
  have b4 := b3 0
  rw [Int.zero_add] at a4 b4
  have f : ∀ b k, ¬ mm_scr b k → b ≠ 10 → b ≠ 79 → B' b k = A b k := fun b k h1 h2 h3 => by
    unfold mm_scr at h1
    rw [b2 b k h3 (by omega), mm_fr_out (by omega), mm_u_ne (by omega), e b k h2 (by omega) (by omega)]
  refine ok4 ?_ hs h0 ((p5_0_0 (p67_0_0 (d := d + 37) c73 a4)).mono (by omega)) ((p118_0_0 (d := d + 37) c94 b4).mono (by omega)) (by omega)
  refine ⟨hI.1.eqv fun a k h => f a k (by unfold mm_scr; omega) (by omega) (by omega), hI.2.1.eqv fun a k h => f a k (by unfold mm_scr; omega) (by omega) (by omega), fun i q1 q2 => ?_, hI.2.2.2.1.eqv fun a k h => f a k (by unfold mm_scr; omega) (by omega) (by omega), hI.2.2.2.2.1.eqv fun a k h => f a k (by unfold mm_scr; omega) (by omega) (by omega), hI.2.2.2.2.2.1.eqv hI.n fun a k h => f a k (by unfold mm_scr; omega) (by omega) (by omega), hI.2.2.2.2.2.2.eqv hI.n fun a k h => f a k (by unfold mm_scr; omega) (by omega) (by omega)⟩
  have r1 : B' 10 i = g' i := by rw [b2 10 i (by omega) (by omega), mm_fr_out (by omega), mm_u_ne (by omega)]; exact a1.2.2.2 i q1 q2
  have r2 : B' 77 1 = A 77 1 := f 77 1 (by unfold mm_scr; omega) (by omega) (by omega)
  have r3 := b1.2.2.2 i q1 q2
  have r4 := t1 i q1 q2
  rw [r1, r2, r3]
  omega
end CD
