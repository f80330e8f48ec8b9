/-! cut by halves: the reference's one halving. -/
def MGr (dn : Int → Int → Int) (len u : Nat) (fa fe ta te : Int) (A : MF) : Prop := A 77 15 = len ∧ (∀ p k : Int, 0 ≤ p → p < 6 → 0 ≤ k → k < 16 → A 88 (16 * p + k) = dn p k) ∧ ∀ q : Nat, q < 6 → ub u q = true → A 89 q = fa ∧ A 90 q = fe ∧ A 91 q = ta ∧ A 92 q = te
theorem pow72' : ∀ k : Nat, k ≤ 3 → (72 : Int) ^ k ≤ 2000000 := by
  decide
section HM
variable {X : List Value} {d : Nat} {A B : MF} {dn : Int → Int → Int} {len u k : Nat} {fa fe ta te : Int} {m : Int → Int × Int}
theorem MGr.eqv (h : MGr dn len u fa fe ta te A) (e : ∀ b k, ¬ (b = 77 ∧ (k = 24 ∨ k = 25)) → b ≠ 93 → b ≠ 94 → B b k = A b k) : MGr dn len u fa fe ta te B := by
  obtain ⟨a1, a2, a3⟩ := h
  refine ⟨by rw [e _ _ (by omega) (by omega) (by omega), a1], fun p k h1 h2 h3 h4 => by rw [e _ _ (by omega) (by omega) (by omega)]; exact a2 p k h1 h2 h3 h4, fun q h1 h2 => ?_⟩
  rw [e _ _ (by omega) (by omega) (by omega), e _ _ (by omega) (by omega) (by omega), e _ _ (by omega) (by omega) (by omega), e _ _ (by omega) (by omega) (by omega)]
  exact a3 q h1 h2
theorem c108 {w : Nat} (hu : u < 64) : mm_E w d 108 0 [(0, mI u)] [] (mm_w X A) (.inl (some (mI (cb u 6))), mm_w X A, 0, 0) := by
  have l : ∀ (n i : Nat), i + n = 6 → mm_E w d 108 4 [(0, mI u), (1, mI (cb u i)), (2, mI i)] [] (mm_w X A) (.inl (some (mI (cb u 6))), mm_w X A, 0, 0) := by
    intro n
    induction n with
    | zero =>
      intro i h
      rw [show i = 6 by omega]
      exact p108_4_0 (by omega)
    | succ n ih =>
      intro i h
      have q := ih (i + 1) (by omega)
      have bv := ub_v (u := u) (r := i) hu (by omega)
      rw [cb_s, show ((cb u i + if ub u i = true then 1 else 0 : Nat) : Int) = cb u i + mm_and (mm_shr u i) 1 by rw [bv]; split <;> omega, show ((i + 1 : Nat) : Int) = (i : Int) + 1 by omega] at q
      exact p108_4_1 (by omega) q
  exact p108_0_0 (l 6 0 (by omega))
/-- bounds of a group's marks -/
theorem hv_bd (hd : DA dn) (hl : len ≤ 16) {n : Nat} (hn : 2 ≤ n ∧ n ≤ 6) (hk : k ≤ 2) (hG : HG len k fa fe ta te) {p : Int} (hp : 0 ≤ p) (hp2 : p < 6) : 0 < (hmk dn len n fa fe ta te p).2 ∧ (hmk dn len n fa fe ta te p).2 ≤ 2000000 ∧ 0 ≤ (hmk dn len n fa fe ta te p).1 ∧ (hmk dn len n fa fe ta te p).1 ≤ 16 * (hmk dn len n fa fe ta te p).2 := by
  obtain ⟨⟨-, g2, -, -, g5, g6, -, -, -, D, D1, D2, -, D4⟩, -⟩ := hv_m hd hl hn hG hp hp2
  have := pow72' (k + 1) (by omega)
  have := Int.le_of_dvd D1 D4
  have m16 : (len : Int) * (hmk dn len n fa fe ta te p).2 ≤ 16 * (hmk dn len n fa fe ta te p).2 := Int.mul_le_mul_of_nonneg_right (by omega) (by omega)
  exact ⟨g2, by omega, g5, by omega⟩
theorem c110_7 {g : Nat} (hd : DA dn) (hl : len ≤ 16) (hk : k ≤ 2) (hu : u < 64) (hn : 2 ≤ g ∧ g ≤ 6) (hG : HG len k fa fe ta te) : ∀ (n i : Nat) (A : MF), i + n = 6 → MGr dn len u fa fe ta te A → (∀ q : Nat, q < i → ub u q = true → A 93 q = (hmk dn len g fa fe ta te q).1 ∧ A 94 q = (hmk dn len g fa fe ta te q).2) → ∃ A' : MF, (∀ r, mm_E 1 (d + 5) 110 7 [(0, .ref 77), (1, mI u), (2, mI g), (3, mI (g / 2 : Nat)), (4, mI 6)] [] (mm_w X A') r → mm_E 1 (d + 5) 110 7 [(0, .ref 77), (1, mI u), (2, mI g), (3, mI (g / 2 : Nat)), (4, mI i)] [] (mm_w X A) r) ∧ MGr dn len u fa fe ta te A' ∧ (∀ q : Nat, q < 6 → ub u q = true → A' 93 q = (hmk dn len g fa fe ta te q).1 ∧ A' 94 q = (hmk dn len g fa fe ta te q).2) ∧ ∀ b k, ¬ (b = 77 ∧ (k = 24 ∨ k = 25)) → b ≠ 93 → b ≠ 94 → A' b k = A b k
  | 0, i, A, h, hM, hm => by
    rw [show i = 6 by omega] at hm ⊢
    exact ⟨A, fun r k => k, hM, hm, fun _ _ _ _ _ => rfl⟩
  | n + 1, i, A, h, hM, hm => by
    have hM' := hM
    obtain ⟨a1, a2, a3⟩ := hM'
    have bv := ub_v (u := u) (r := i) hu (by omega)
    by_cases c : ub u i = true
    · rw [if_pos c] at bv
      obtain ⟨b1, b2, b3, b4⟩ := a3 i (by omega) c
      have hMK := hv_mk (dn := dn) (n := g) hd hl hn hG (p := i) (by omega) (by omega)
      obtain ⟨x1, x2, x3', x4, x5⟩ := hv_x (dn := dn) hd hl hG (p := i) (by omega) (by omega)
      obtain ⟨y1, y2, y3, y4, y5, y6, y7⟩ := hv_a (dn := dn) (n := g) hd hl hn hG (p := i) (by omega) (by omega)
      obtain ⟨g1, g2, g3, g4, g5, g6, g7, g8, g9, D, D1, D2, D3, D4⟩ := hG
      have pw := pow72 k hk
      have f5 := Int.le_of_dvd D1 D3
      have f6 := Int.le_of_dvd D1 D4
      have f7 := Int.le_of_dvd D1 (x5 D D3 D4)
      have l16 : (len : Int) * fe ≤ 16 * fe := Int.mul_le_mul_of_nonneg_right (by omega) (by omega)
      have m16 : (len : Int) * te ≤ 16 * te := Int.mul_le_mul_of_nonneg_right (by omega) (by omega)
      obtain ⟨A0, s1, s2, s3, s4⟩ := c104 (X := X) (d := d + 1) (A := A) (dn := dn i) (len := len) (p := i) (pa := fa) (pb := fe) (qa := ta) (qb := te) (hd i (by omega) (by omega)) hl (by omega) (by omega) g1 (by omega) g2 (by omega) g3 (by omega) g5 (by omega) (fun _ _ _ _ => g7) a1 (fun k k1 k2 => a2 i k (by omega) (by omega) k1 k2)
      have yn0 : 0 < xB dn len fa fe ta te i * (g : Int) := Int.mul_pos x1 (by omega)
      have yn1 : xB dn len fa fe ta te i * (g : Int) ≤ 5184 * 6 := Int.mul_le_mul (by omega) (by omega) (by omega) (by omega)
      obtain ⟨A1, r1, r2, r3, r4⟩ := c105 (X := X) (d := d) (A := A0) (dn := dn i) (len := len) (p := i) (pa := fa) (pb := fe) (aa := aT dn len g fa fe ta te i) (ab := aB dn len g fa fe ta te i) (a := xT dn len fa fe ta te i * (g / 2 : Nat)) (b := xB dn len fa fe ta te i * (g : Int)) (hd i (by omega) (by omega)) hl (by omega) (by omega) g1 (by omega) g3 (by omega) g8 y1 y2 y6 yn0 (by omega) y3.symm (by rw [s4 _ _ (by omega), a1]) (fun k k1 k2 => by rw [s4 _ _ (by omega)]; exact a2 i k (by omega) (by omega) k1 k2) hMK
      have frA : ∀ (b : Nat) (k : Int), ¬ (b = 77 ∧ (k = 24 ∨ k = 25)) → (b ≠ 93 ∨ k ≠ i) → (b ≠ 94 ∨ k ≠ i) → mm_u (mm_u A1 93 i (A1 77 24)) 94 i (A1 77 25) b k = A b k := fun b k h1 h2 h3 => by
        rw [mm_u2_ne (by omega) (by omega), r4 b k (by omega), s4 b k (by omega)]
      obtain ⟨A', u1, u2, u3, u4⟩ := c110_7 hd hl hk hu hn ⟨g1, g2, g3, g4, g5, g6, g7, g8, g9, D, D1, D2, D3, D4⟩ n (i + 1) (mm_u (mm_u A1 93 i (A1 77 24)) 94 i (A1 77 25)) (by omega) (hM.eqv fun b k h1 h2 h3 => frA b k h1 (by omega) (by omega)) (fun q h1 h2 => by
        by_cases e : q = i
        · rw [e, mm_u_ne (by omega), mm_u_same, mm_u_same]
          exact ⟨r2, r3⟩
        · rw [frA _ _ (by omega) (by omega) (by omega), frA _ _ (by omega) (by omega) (by omega)]
          exact hm q (by omega) h2)
      refine ⟨A', fun r kr => ?_, u2, u3, fun b k h1 h2 h3 => by rw [u4 b k h1 h2 h3, frA b k h1 (by omega) (by omega)]⟩
      have u5 := u1 r kr
      rw [show ((i + 1 : Nat) : Int) = (i : Int) + 1 by omega] at u5
      have n89 : A0 89 i = fa := by rw [s4 _ _ (by omega), b1]
      have n90 : A0 90 i = fe := by rw [s4 _ _ (by omega), b2]
      refine p110_7_2 (d := d + 4) (A0 := A0) ?_ ?_ (by omega) u5
      · rw [b1, b2, b3, b4]
        exact s1
      · rw [n89, n90, s2, s3]
        exact r1
    · rw [if_neg c] at bv
      obtain ⟨A', u1, u2, u3, u4⟩ := c110_7 hd hl hk hu hn hG n (i + 1) A (by omega) hM (fun q h1 h2 => by
        by_cases e : q = i
        · rw [e] at h2
          exact absurd h2 c
        · exact hm q (by omega) h2)
      refine ⟨A', fun r k => ?_, u2, u3, u4⟩
      have u5 := u1 r k
      rw [show ((i + 1 : Nat) : Int) = (i : Int) + 1 by omega] at u5
      exact p110_7_1 (by omega) u5
theorem c110_s {w v : Nat} {x3 x6 : Int} {r : MR} (hu : u < 64) (hv : v < 64) (hm : ∀ q : Nat, q < 6 → ub u q = true → A 93 q = (m q).1 ∧ A 94 q = (m q).2 ∧ 0 < (m q).2 ∧ (m q).2 ≤ 2000000 ∧ 0 ≤ (m q).1 ∧ (m q).1 ≤ 16 * (m q).2) (k : mm_E w d 110 141 [(0, .ref 77), (1, mI u), (3, mI x3), (4, mI v), (6, mI x6), (7, mI (bs (svu u v) m 6)), (8, mI 6)] [] (mm_w X A) r) : ∀ (n i : Nat), i + n = 6 → mm_E w d 110 141 [(0, .ref 77), (1, mI u), (3, mI x3), (4, mI v), (6, mI x6), (7, mI (bs (svu u v) m i)), (8, mI i)] [] (mm_w X A) r
  | 0, i, h => by
    rw [show i = 6 by omega]
    exact k
  | n + 1, i, h => by
    have q := c110_s hu hv hm k n (i + 1) (by omega)
    obtain ⟨u', w1, w2, w3⟩ := ux_x hu hv
    have bv := ub_v (u := u') (r := i) w1 (by omega)
    have bu := w3 i (by omega)
    rw [← w2] at bv
    rw [bs_s, show ((i + 1 : Nat) : Int) = (i : Int) + 1 by omega] at q
    have hm' : ∀ p : Int, 0 ≤ p → p < ((6 : Nat) : Int) → svu u v p = 0 → 0 < (m p).2 := fun p h1 h2 h3 => by
      have e : ((p.toNat : Nat) : Int) = p := by omega
      rw [← e] at h3 ⊢
      exact (hm p.toNat (by omega) (svu_0.mp h3).1).2.2.1
    by_cases c : svu u v i = 0
    · have c' := svu_0.mp c
      rw [if_pos (bu.mpr c')] at bv
      obtain ⟨m1, m2, m3, m4, m5, m6⟩ := hm i (by omega) c'.1
      rcases bs_bd (sv := svu u v) (m := m) (N := 6) hm' (n := i) (by omega) with ⟨b1, b2⟩ | ⟨b1, b2, b3, b4⟩
      · rw [if_pos ⟨c, .inl b1⟩] at q
        exact p110_141_2 (by omega) q
      · generalize bs (svu u v) m i = j at b1 b2 b3 b4 q ⊢
        have e : ((j.toNat : Nat) : Int) = j := by omega
        have c3 := (svu_0 (u := u) (v := v) (q := j.toNat)).mp (by rw [e]; exact b3)
        obtain ⟨k1, k2, k3, k4, k5, k6⟩ := hm j.toNat (by omega) c3.1
        rw [e] at k1 k2 k3 k4 k5 k6
        have r1 : (m i).1 * (m j).2 ≤ 32000000 * 2000000 := Int.mul_le_mul (by omega) (by omega) (by omega) (by omega)
        have r2 : (m j).1 * (m i).2 ≤ 32000000 * 2000000 := Int.mul_le_mul (by omega) (by omega) (by omega) (by omega)
        have r3 : 0 ≤ (m i).1 * (m j).2 := Int.mul_nonneg m5 (by omega)
        have r4 : 0 ≤ (m j).1 * (m i).2 := Int.mul_nonneg k5 (by omega)
        by_cases c2 : (m i).1 * (m j).2 < (m j).1 * (m i).2
        · rw [if_pos ⟨c, .inr c2⟩] at q
          refine p110_141_4 ?_ q
          rw [m1, m2, k1, k2]
          omega
        · rw [if_neg fun k => k.2.elim (fun k => by omega) c2] at q
          refine p110_141_3 ?_ q
          rw [m1, m2, k1, k2]
          omega
    · rw [if_neg fun k => c k.1] at q
      rw [if_neg fun k => c (svu_0.mpr (bu.mp k))] at bv
      exact p110_141_1 (by omega) q
theorem c110_p {w h : Nat} {r : MR} (hu : u < 64) (hh : h ≤ cb u 6) (hh1 : 1 ≤ h) (hm : ∀ q : Nat, q < 6 → ub u q = true → A 93 q = (m q).1 ∧ A 94 q = (m q).2 ∧ 0 < (m q).2 ∧ (m q).2 ≤ 2000000 ∧ 0 ≤ (m q).1 ∧ (m q).1 ≤ 16 * (m q).2) (k : mm_E w d 110 246 [(0, .ref 77), (1, mI u), (4, mI (vs u m h)), (5, mI (bs (svu u (vs u m (h - 1))) m 6)), (6, mI 0)] [] (mm_w X A) r) : ∀ (n t : Nat) (x5 : Int), t + n = h → (1 ≤ t → x5 = bs (svu u (vs u m (t - 1))) m 6) → mm_E w d 110 129 [(0, .ref 77), (1, mI u), (3, mI h), (4, mI (vs u m t)), (5, mI x5), (6, mI t)] [] (mm_w X A) r
  | 0, t, x5, h1, h2 => by
    have hb := cb_bd (u := u) (n := 6)
    rw [show t = h by omega] at h2 ⊢
    rw [h2 hh1]
    exact p110_129_0 (by omega) k
  | n + 1, t, x5, h1, h2 => by
    have hb := cb_bd (u := u) (n := 6)
    obtain ⟨i1, i2, i3⟩ := sel_v (u := u) (m := m) (fun q q1 q2 => (hm q q1 q2).2.2.1) (t := t) (by omega)
    obtain ⟨j, j1, j2, j3, j4, j5, j6, j7⟩ := sel_t (u := u) (m := m) (fun q q1 q2 => (hm q q1 q2).2.2.1) (t := t) (by omega)
    have q := c110_p hu hh hh1 hm k n (t + 1) (bs (svu u (vs u m t)) m 6) (by omega) (fun _ => by rw [show t + 1 - 1 = t by omega])
    rw [show ((t + 1 : Nat) : Int) = (t : Int) + 1 by omega] at q
    refine p110_129_1 (by omega) (c110_s hu i1 hm (p110_141_0 (by omega) ?_) 6 0 (by omega))
    rw [j2, ua_or i1 j1, ← j6]
    rw [j2] at q
    exact q
theorem c110_u {v l : Nat} (hu : u < 64) (hv : v < 64) (hl6 : l < 6) (hsub : ∀ q : Nat, q < 6 → ub v q = true → ub u q = true) {M1 M2 : Int} : ∀ (n i : Nat) (A : MF), i + n = 6 → A 93 l = M1 → A 94 l = M2 → ∃ A' : MF, mm_E 1 d 110 246 [(0, .ref 77), (1, mI u), (4, mI v), (5, mI l), (6, mI i)] [] (mm_w X A) (.inl (some (mI v)), mm_w X A', 0, 0) ∧ (∀ q : Nat, i ≤ q → q < 6 → ub v q = true → A' 89 q = A 89 q ∧ A' 90 q = A 90 q ∧ A' 91 q = M1 ∧ A' 92 q = M2) ∧ (∀ q : Nat, i ≤ q → q < 6 → ub v q ≠ true → ub u q = true → A' 89 q = M1 ∧ A' 90 q = M2 ∧ A' 91 q = A 91 q ∧ A' 92 q = A 92 q) ∧ ∀ (b : Nat) (k : Int), (b < 89 ∨ 92 < b ∨ k < i ∨ 6 ≤ k ∨ ub u k.toNat ≠ true) → A' b k = A b k
  | 0, i, A, h, h1, h2 => ⟨A, p110_246_0 (by omega), fun q q1 q2 => by omega, fun q q1 q2 => by omega, fun _ _ _ => rfl⟩
  | n + 1, i, A, h, h1, h2 => by
    have bu := ub_v (u := u) (r := i) hu (by omega)
    have bv := ub_v (u := v) (r := i) hv (by omega)
    have ei : ((i + 1 : Nat) : Int) = (i : Int) + 1 := by omega
    have ti : ((i : Nat) : Int).toNat = i := by omega
    by_cases c : ub v i = true
    · rw [if_pos c] at bv
      obtain ⟨A', t1, t2, t3, t4⟩ := c110_u hu hv hl6 hsub n (i + 1) (mm_u (mm_u A 91 i (A 93 l)) 92 i (A 94 l)) (by omega) (by rw [mm_u2_ne (by omega) (by omega), h1]) (by rw [mm_u2_ne (by omega) (by omega), h2])
      rw [ei] at t1
      refine ⟨A', p110_246_3 (by omega) t1, fun q q1 q2 q3 => ?_, fun q q1 q2 q3 q4 => ?_, fun b k hb => ?_⟩
      · by_cases e : q = i
        · rw [e, t4 _ _ (by omega), t4 _ _ (by omega), t4 _ _ (by omega), t4 _ _ (by omega), mm_u2_ne (by omega) (by omega), mm_u2_ne (by omega) (by omega), mm_u_ne (by omega), mm_u_same, mm_u_same]
          exact ⟨rfl, rfl, h1, h2⟩
        · have := t2 q (by omega) q2 q3
          rw [mm_u2_ne (by omega) (by omega), mm_u2_ne (by omega) (by omega)] at this
          exact this
      · by_cases e : q = i
        · rw [e] at q3
          exact absurd c q3
        · have := t3 q (by omega) q2 q3 q4
          rw [mm_u2_ne (by omega) (by omega), mm_u2_ne (by omega) (by omega)] at this
          exact this
      · have ne : b ≠ 91 ∧ b ≠ 92 ∨ k ≠ i := by
          rcases hb with q | q | q | q | q
          · omega
          · omega
          · omega
          · omega
          · refine .inr fun e => q ?_
            rw [e, ti]
            exact hsub i (by omega) c
        rw [t4 b k (hb.elim .inl fun q => .inr (q.elim .inl fun q => .inr (q.elim (fun q => .inl (by omega)) .inr))), mm_u2_ne (by omega) (by omega)]
    · rw [if_neg c] at bv
      by_cases c2 : ub u i = true
      · rw [if_pos c2] at bu
        obtain ⟨A', t1, t2, t3, t4⟩ := c110_u hu hv hl6 hsub n (i + 1) (mm_u (mm_u A 89 i (A 93 l)) 90 i (A 94 l)) (by omega) (by rw [mm_u2_ne (by omega) (by omega), h1]) (by rw [mm_u2_ne (by omega) (by omega), h2])
        rw [ei] at t1
        refine ⟨A', p110_246_2 (by omega) t1, fun q q1 q2 q3 => ?_, fun q q1 q2 q3 q4 => ?_, fun b k hb => ?_⟩
        · by_cases e : q = i
          · rw [e] at q3
            exact absurd q3 c
          · have := t2 q (by omega) q2 q3
            rw [mm_u2_ne (by omega) (by omega), mm_u2_ne (by omega) (by omega)] at this
            exact this
        · by_cases e : q = i
          · rw [e, t4 _ _ (by omega), t4 _ _ (by omega), t4 _ _ (by omega), t4 _ _ (by omega), mm_u_ne (by omega), mm_u_same, mm_u_same, mm_u2_ne (by omega) (by omega), mm_u2_ne (by omega) (by omega)]
            exact ⟨h1, h2, rfl, rfl⟩
          · have := t3 q (by omega) q2 q3 q4
            rw [mm_u2_ne (by omega) (by omega), mm_u2_ne (by omega) (by omega)] at this
            exact this
        · have ne : b ≠ 89 ∧ b ≠ 90 ∨ k ≠ i := by
            rcases hb with q | q | q | q | q
            · omega
            · omega
            · omega
            · omega
            · refine .inr fun e => q ?_
              rw [e, ti]
              exact c2
          rw [t4 b k (hb.elim .inl fun q => .inr (q.elim .inl fun q => .inr (q.elim (fun q => .inl (by omega)) .inr))), mm_u2_ne (by omega) (by omega)]
      · rw [if_neg c2] at bu
        obtain ⟨A', t1, t2, t3, t4⟩ := c110_u hu hv hl6 hsub n (i + 1) A (by omega) h1 h2
        rw [ei] at t1
        refine ⟨A', p110_246_1 (by omega) t1, fun q q1 q2 q3 => ?_, fun q q1 q2 q3 q4 => ?_, fun b k hb => ?_⟩
        · by_cases e : q = i
          · rw [e] at q3
            exact absurd q3 c
          · exact t2 q (by omega) q2 q3
        · by_cases e : q = i
          · rw [e] at q4
            exact absurd q4 c2
          · exact t3 q (by omega) q2 q3 q4
        · exact t4 b k (hb.elim .inl fun q => .inr (q.elim .inl fun q => .inr (q.elim (fun q => .inl (by omega)) .inr)))
/-- one halving -/
theorem c110 (hd : DA dn) (hl : len ≤ 16) (hk : k ≤ 2) (hu : u < 64) (hn : 2 ≤ cb u 6) (hG : HG len k fa fe ta te) (hM : MGr dn len u fa fe ta te A) {l : Nat} (hl6 : l < 6) (hlu : ub u l = true) (hlast : bs (svu u (vs u (fun p => hmk dn len (cb u 6) fa fe ta te p) (cb u 6 / 2 - 1))) (fun p => hmk dn len (cb u 6) fa fe ta te p) 6 = l) : ∃ A' : MF, mm_E 1 (d + 5) 110 0 [(0, .ref 77), (1, mI u), (2, mI (cb u 6))] [] (mm_w X A) (.inl (some (mI (vs u (fun p => hmk dn len (cb u 6) fa fe ta te p) (cb u 6 / 2)))), mm_w X A', 0, 0) ∧ (∀ q : Nat, q < 6 → ub (vs u (fun p => hmk dn len (cb u 6) fa fe ta te p) (cb u 6 / 2)) q = true → A' 89 q = fa ∧ A' 90 q = fe ∧ A' 91 q = (hmk dn len (cb u 6) fa fe ta te l).1 ∧ A' 92 q = (hmk dn len (cb u 6) fa fe ta te l).2) ∧ (∀ q : Nat, q < 6 → ub (vs u (fun p => hmk dn len (cb u 6) fa fe ta te p) (cb u 6 / 2)) q ≠ true → ub u q = true → A' 89 q = (hmk dn len (cb u 6) fa fe ta te l).1 ∧ A' 90 q = (hmk dn len (cb u 6) fa fe ta te l).2 ∧ A' 91 q = ta ∧ A' 92 q = te) ∧ ∀ (b : Nat) (k : Int), ¬ (b = 77 ∧ (k = 24 ∨ k = 25)) → b ≠ 93 → b ≠ 94 → (b < 89 ∨ 92 < b ∨ k < 0 ∨ 6 ≤ k ∨ ub u k.toNat ≠ true) → A' b k = A b k := by
  have hb := cb_bd (u := u) (n := 6)
  obtain ⟨A1, t1, t2, t3, t4⟩ := c110_7 (X := X) (d := d) (g := cb u 6) hd hl hk hu ⟨hn, hb⟩ hG 6 0 A (by omega) hM (fun q hq => by omega)
  have hm : ∀ q : Nat, q < 6 → ub u q = true → A1 93 q = (hmk dn len (cb u 6) fa fe ta te q).1 ∧ A1 94 q = (hmk dn len (cb u 6) fa fe ta te q).2 ∧ 0 < (hmk dn len (cb u 6) fa fe ta te q).2 ∧ (hmk dn len (cb u 6) fa fe ta te q).2 ≤ 2000000 ∧ 0 ≤ (hmk dn len (cb u 6) fa fe ta te q).1 ∧ (hmk dn len (cb u 6) fa fe ta te q).1 ≤ 16 * (hmk dn len (cb u 6) fa fe ta te q).2 := fun q q1 q2 => ⟨(t3 q q1 q2).1, (t3 q q1 q2).2, hv_bd hd hl ⟨hn, hb⟩ hk hG (by omega) (by omega)⟩
  obtain ⟨v1, v2, v3⟩ := sel_v (u := u) (m := fun p => hmk dn len (cb u 6) fa fe ta te p) (fun q q1 q2 => (hm q q1 q2).2.2.1) (t := cb u 6 / 2) (by omega)
  obtain ⟨A2, u1, u2, u3, u4⟩ := c110_u (X := X) (d := d + 5) hu v1 hl6 v2 6 0 A1 (by omega) (hm l hl6 hlu).1 (hm l hl6 hlu).2.1
  have kp := c110_p (X := X) (d := d + 5) (A := A1) (w := 1) (m := fun p => hmk dn len (cb u 6) fa fe ta te p) (h := cb u 6 / 2) hu (by omega) (by omega) hm (by rw [hlast]; exact u1) (cb u 6 / 2) 0 0 (by omega) (fun q => by omega)
  have e2 : ((cb u 6 : Nat) : Int) / 2 = ((cb u 6 / 2 : Nat) : Int) := by omega
  refine ⟨A2, p110_0_0 (by omega) ?_, fun q q1 q2 => ?_, fun q q1 q2 q3 => ?_, fun b k h1 h2 h3 h4 => by rw [u4 b k (h4.elim .inl fun q => .inr (q.elim .inl fun q => .inr (q.elim (fun q => .inl (by omega)) .inr))), t4 b k h1 h2 h3]⟩
  · rw [e2]
    exact t1 _ (p110_7_0 (by omega) kp)
  · have := u2 q (by omega) q1 q2
    obtain ⟨m1, m2, m3, m4⟩ := t2.2.2 q q1 (v2 q q1 q2)
    rw [m1, m2] at this
    exact this
  · have := u3 q (by omega) q1 q2 q3
    obtain ⟨m1, m2, m3, m4⟩ := t2.2.2 q q1 q3
    rw [m3, m4] at this
    exact this
end HM
