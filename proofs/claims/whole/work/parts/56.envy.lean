/-! envy and picks. -/
section EN
variable {X : List Value} {d : Nat} {x4 z0 z1 z2 z3 : Int} {A : MF}
/-- the dearest of q's things to p -/
abbrev cM (A : MF) (p q : Int) : Int := wm (A (4 + p.toNat)) (A 10) q (A 2 1).toNat
abbrev mM (A : MF) (p q : Int) : Int := wm (fun i => A 78 (12 * p + i)) (A 79) q (A 77 2).toNat
theorem mW_bd {p q : Int} (hG : Gm A) (hp : 0 ≤ p) (hp2 : p < 6) : 0 ≤ mW A p q ∧ mW A p q ≤ 12000 := by
  obtain ⟨a1, a2, a3, a4, a5, a6⟩ := hG
  have h := ws_bd (f := fun i => A 78 (12 * p + i)) (g := A 79) (q := q) (n := (A 77 2).toNat) fun k h1 h2 => a5 p k hp hp2 h1 (by omega)
  unfold mW
  omega
theorem cM_bd {p q : Int} (hG : Gd A) (hp : 0 ≤ p) (hp2 : p < 6) : 0 ≤ cM A p q ∧ cM A p q ≤ 1000 := by
  obtain ⟨a1, a2, a3, a4, a5, a6⟩ := hG
  have h := wm_bd (f := A (4 + p.toNat)) (g := A 10) (q := q) (n := (A 2 1).toNat) fun k h1 h2 => a5 p k hp hp2 h1 (by omega)
  unfold cM
  omega
theorem Inv.cmM {p q : Int} (h : Inv A) (hp : 0 ≤ p) (hp2 : p < 6) : mM A p q = cM A p q := by
  have hS := h.1
  unfold Is at hS
  unfold mM cM
  rw [hS.2.2.2.2.2.2.2.2.1]
  exact wm_eq fun k h1 h2 => by
    have e1 := h.2.1 p k hp hp2 h1 (by omega)
    have e2 := h.2.2.1 k h1 (by omega)
    exact ⟨e1.1.symm, e2.1.symm⟩
theorem c63_l {w : Nat} {p q : Int} (hG : Gd A) (hp : 0 ≤ p) (hp2 : p < 6) (hq : R32 q) : ∀ (n i : Nat), (i : Int) + n = A 2 1 → mm_E w (d + 1) 63 5 [(0, .ref 2), (1, mI p), (2, mI q), (3, mI (wm (A (4 + p.toNat)) (A 10) q i)), (4, mI i)] [] (mm_w X A) (.inl (some (mI (cM A p q))), mm_w X A, 0, 0)
  | 0, i, h => by
    obtain ⟨a1, a2, a3, a4, a5, a6⟩ := hG
    have e : (A 2 1).toNat = i := by omega
    unfold cM
    rw [e]
    exact p63_5_0 (by omega)
  | n + 1, i, h => by
    have hG' := hG
    obtain ⟨a1, a2, a3, a4, a5, a6⟩ := hG'
    have b := a6 i (by omega) (by omega)
    have b2 := a5 p i hp hp2 (by omega) (by omega)
    have b3 := wm_bd (f := A (4 + p.toNat)) (g := A 10) (q := q) (n := i) fun k h1 h2 => a5 p k hp hp2 h1 (by omega)
    have k := c63_l (w := w) (p := p) (q := q) hG hp hp2 hq n (i + 1) (by omega)
    rw [show ((i + 1 : Nat) : Int) = (i : Int) + 1 by omega] at k
    rw [wm_s] at k
    by_cases c : A 10 i = q
    · rw [if_pos c] at k
      exact p63_5_2 (by omega) k
    · rw [if_neg c] at k
      exact p63_5_1 (by omega) k
theorem c63 {w : Nat} {p q : Int} (hG : Gd A) (hp : 0 ≤ p) (hp2 : p < 6) (hq : R32 q) : mm_E w (d + 1) 63 0 [(0, .ref 2), (1, mI p), (2, mI q)] [] (mm_w X A) (.inl (some (mI (cM A p q))), mm_w X A, 0, 0) :=
  p63_0_0 (c63_l hG hp hp2 hq (A 2 1).toNat 0 (by have := hG.2.2.1; omega))
theorem c62a {w : Nat} {p q : Int} (hG : Gd A) (hp : 0 ≤ p) (hp2 : p < 6) (hq : 0 ≤ q) (hq2 : q < 6) : mm_E w (d + 1) 62 0 [(0, .ref 2), (1, mI p), (2, mI q), (3, mI 0)] [] (mm_w X A) (.inl (some (mI (max 0 (cW A p q - cW A p p)))), mm_w X A, 0, 0) := by
  have b1 := cW_bd (q := q) hG hp hp2
  have b2 := cW_bd (q := p) hG hp hp2
  exact p62_0_0 (c61 hG hp hp2 (by omega)) (c61 hG hp hp2 (by omega)) (by omega)
theorem c62b {w : Nat} {p q : Int} (hG : Gd A) (hp : 0 ≤ p) (hp2 : p < 6) (hq : 0 ≤ q) (hq2 : q < 6) : mm_E w (d + 2) 62 0 [(0, .ref 2), (1, mI p), (2, mI q), (3, mI 1)] [] (mm_w X A) (.inl (some (mI (max 0 (cW A p q - cM A p q - cW A p p)))), mm_w X A, 0, 0) := by
  have b1 := cW_bd (q := q) hG hp hp2
  have b2 := cW_bd (q := p) hG hp hp2
  have b3 := cM_bd (q := q) hG hp hp2
  exact p62_0_1 (c61 hG hp hp2 (by omega)) (c63 hG hp hp2 (by omega)) (c61 hG hp hp2 (by omega)) (by omega)
theorem c123_e {p q x3 y x5 : Int} (hG : Gm A) (hp : 0 ≤ p) (hp2 : p < 6) (hq : 0 ≤ q) (hq2 : q < 6) (h3 : x3 = 0 ∨ (A 77 2 ≤ x5 ∧ x3 = 1)) (h5 : 0 ≤ x5 ∧ x5 ≤ 12) (h4 : 0 ≤ y ∧ y ≤ 1000) : mm_E 1 (d + 1) 123 40 [(0, .ref 77), (1, mI p), (2, mI q), (3, mI x3), (4, mI y), (5, mI x5)] [] (mm_w X A) (.inl (some (mI (max 0 (mW A p q - y - mW A p p)))), mm_w X A, 0, 0) := by
  have s0 := c92 (X := X) (d := d) (w := 1) (q := q) hG hp hp2 (by omega)
  have s1 := c92 (X := X) (d := d) (w := 1) (q := p) hG hp hp2 (by omega)
  have b1 := mW_bd (q := q) hG hp hp2
  have b2 := mW_bd (q := p) hG hp hp2
  obtain ⟨a1, a2, a3, a4, -, -⟩ := hG
  by_cases c : mW A p q - y - mW A p p < 0
  · rw [show max 0 (mW A p q - y - mW A p p) = 0 by omega]
    by_cases k : A 77 2 ≤ x5
    · exact p123_40_0 s0 s1 (by omega)
    · exact p123_40_3 s0 s1 (by omega)
  · by_cases e : p = q
    · subst e
      rw [show max 0 (mW A p p - y - mW A p p) = 0 by omega]
      by_cases k : A 77 2 ≤ x5
      · exact p123_40_2 s0 s1 (by omega)
      · exact p123_40_5 s0 s1 (by omega)
    · rw [show max 0 (mW A p q - y - mW A p p) = mW A p q - y - mW A p p by omega]
      by_cases k : A 77 2 ≤ x5
      · exact p123_40_1 s0 s1 (by omega)
      · exact p123_40_4 s0 s1 (by omega)
theorem c123_l {p q : Int} (hG : Gm A) (hp : 0 ≤ p) (hp2 : p < 6) (hq : 0 ≤ q) (hq2 : q < 6) : ∀ (n i : Nat), (i : Int) + n = A 77 2 → mm_E 1 (d + 1) 123 40 [(0, .ref 77), (1, mI p), (2, mI q), (3, mI 1), (4, mI (wm (fun i => A 78 (12 * p + i)) (A 79) q i)), (5, mI i)] [] (mm_w X A) (.inl (some (mI (max 0 (mW A p q - mM A p q - mW A p p)))), mm_w X A, 0, 0)
  | 0, i, h => by
    obtain ⟨a1, a2, a3, a4, a5, a6⟩ := hG
    have e : (A 77 2).toNat = i := by omega
    have b3 := wm_bd (f := fun i => A 78 (12 * p + i)) (g := A 79) (q := q) (n := i) fun k h1 h2 => a5 p k hp hp2 h1 (by omega)
    unfold mM
    rw [e]
    exact c123_e ⟨a1, a2, a3, a4, a5, a6⟩ hp hp2 hq hq2 (by omega) (by omega) (by omega)
  | n + 1, i, h => by
    have hG' := hG
    obtain ⟨a1, a2, a3, a4, a5, a6⟩ := hG'
    have b := a6 i (by omega) (by omega)
    have b2 := a5 p i hp hp2 (by omega) (by omega)
    have b3 := wm_bd (f := fun i => A 78 (12 * p + i)) (g := A 79) (q := q) (n := i) fun k h1 h2 => a5 p k hp hp2 h1 (by omega)
    have k := c123_l (p := p) (q := q) hG hp hp2 hq hq2 n (i + 1) (by omega)
    rw [show ((i + 1 : Nat) : Int) = (i : Int) + 1 by omega] at k
    rw [wm_s] at k
    by_cases c : A 79 i = q
    · rw [if_pos c] at k
      by_cases c2 : A 78 (12 * p + i) ≤ wm (fun i => A 78 (12 * p + i)) (A 79) q i
      · rw [show max (wm (fun i => A 78 (12 * p + i)) (A 79) q i) (A 78 (12 * p + i)) = wm (fun i => A 78 (12 * p + i)) (A 79) q i by omega] at k
        exact p123_40_7 (by omega) k
      · rw [show max (wm (fun i => A 78 (12 * p + i)) (A 79) q i) (A 78 (12 * p + i)) = A 78 (12 * p + i) by omega] at k
        exact p123_40_8 (by omega) k
    · rw [if_neg c] at k
      exact p123_40_6 (by omega) k
theorem rd9 (hI : Inv A) (hs : mm_sc X x4 z0 z1 z2 z3) (h0 : mm_and z0 31 = 9) : mm_rd X d x4 A := by
  obtain ⟨g3, g4, g5, r0, r1, r2, r3⟩ := hs.2.2.2.2.2
  have hS := hI.1
  unfold Is at hS
  by_cases hz : z3 = 0
  · by_cases c1 : z1 < 0
    · exact thr9a (k := 1) hI hs h0 hz (by omega) (p142_0_0 (by omega)) (p123_0_0 (by omega))
    by_cases c2 : A 77 1 ≤ z1
    · exact thr9a (k := 1) hI hs h0 hz (by omega) (p142_0_1 (by omega)) (p123_0_4 (by omega))
    by_cases c3 : z2 < 0
    · exact thr9a (k := 1) hI hs h0 hz (by omega) (p142_0_2 (by omega)) (p123_0_1 (by omega))
    by_cases c4 : A 77 1 ≤ z2
    · exact thr9a (k := 1) hI hs h0 hz (by omega) (p142_0_3 (by omega)) (p123_0_3 (by omega))
    have b1 := cW_bd (q := z2) (p := z1) hI.gd (by omega) (by omega)
    have b2 := cW_bd (q := z1) (p := z1) hI.gd (by omega) (by omega)
    have hI2 : Inv (mm_u (mm_u A 96 0 (max 0 (cW A z1 z2 - cW A z1 z1))) 77 0 0) := hI.eqs (.thr (.out .rf))
    have k1 : mm_u A 96 0 (max 0 (cW A z1 z2 - cW A z1 z1)) 77 1 = A 77 1 := mm_u_ne (by omega)
    have e : ∀ q, mW (mm_u (mm_u A 96 0 (max 0 (cW A z1 z2 - cW A z1 z1))) 77 0 0) z1 q = cW A z1 q := fun q => by
      rw [hI2.cmW (by omega) (by omega)]
      unfold cW
      rw [mm_u2_ne (by omega) (by omega)]
      exact ws_eq fun k q1 q2 => ⟨mm_u2_ne (by omega) (by omega), mm_u2_ne (by omega) (by omega)⟩
    have s1 := p123_0_2 (d := d + 38) (X := X) (A := mm_u A 96 0 (max 0 (cW A z1 z2 - cW A z1 z1))) (x1 := z1) (x2 := z2) (x3 := 0) (by omega) (c123_e hI2.gm (by omega) (by omega) (by omega) (by omega) (by omega) (by omega) (by omega))
    rw [e, e, Int.sub_zero] at s1
    refine ok9a hI2 hs h0 hz (p142_0_4 (p10_0_4 (c62a (d := d + 36) hI.gd (by omega) (by omega) (by omega) (by omega)) (by omega)) (by omega)) s1 mm_u_same ?_ (by omega)
    rw [mm_u_ne (by omega), mm_u_same]
  · by_cases c1 : z1 < 0
    · exact thr9b (k := 1) hI hs h0 hz (by omega) (p142_0_0 (by omega)) (p123_0_0 (by omega))
    by_cases c2 : A 77 1 ≤ z1
    · exact thr9b (k := 1) hI hs h0 hz (by omega) (p142_0_1 (by omega)) (p123_0_4 (by omega))
    by_cases c3 : z2 < 0
    · exact thr9b (k := 1) hI hs h0 hz (by omega) (p142_0_2 (by omega)) (p123_0_1 (by omega))
    by_cases c4 : A 77 1 ≤ z2
    · exact thr9b (k := 1) hI hs h0 hz (by omega) (p142_0_3 (by omega)) (p123_0_3 (by omega))
    have b1 := cW_bd (q := z2) (p := z1) hI.gd (by omega) (by omega)
    have b2 := cW_bd (q := z1) (p := z1) hI.gd (by omega) (by omega)
    have b3 := cM_bd (q := z2) (p := z1) hI.gd (by omega) (by omega)
    have hI2 : Inv (mm_u (mm_u A 96 0 (max 0 (cW A z1 z2 - cM A z1 z2 - cW A z1 z1))) 77 0 0) := hI.eqs (.thr (.out .rf))
    have k1 : mm_u A 96 0 (max 0 (cW A z1 z2 - cM A z1 z2 - cW A z1 z1)) 77 1 = A 77 1 := mm_u_ne (by omega)
    have k2 : mm_u A 96 0 (max 0 (cW A z1 z2 - cM A z1 z2 - cW A z1 z1)) 77 2 = A 77 2 := mm_u_ne (by omega)
    have k3 : mm_u (mm_u A 96 0 (max 0 (cW A z1 z2 - cM A z1 z2 - cW A z1 z1))) 77 0 0 77 2 = A 77 2 := mm_u2_ne (by omega) (by omega)
    have e : ∀ q, mW (mm_u (mm_u A 96 0 (max 0 (cW A z1 z2 - cM A z1 z2 - cW A z1 z1))) 77 0 0) z1 q = cW A z1 q := fun q => by
      rw [hI2.cmW (by omega) (by omega)]
      unfold cW
      rw [mm_u2_ne (by omega) (by omega)]
      exact ws_eq fun k q1 q2 => ⟨mm_u2_ne (by omega) (by omega), mm_u2_ne (by omega) (by omega)⟩
    have e2 : mM (mm_u (mm_u A 96 0 (max 0 (cW A z1 z2 - cM A z1 z2 - cW A z1 z1))) 77 0 0) z1 z2 = cM A z1 z2 := by
      rw [hI2.cmM (by omega) (by omega)]
      unfold cM
      rw [mm_u2_ne (by omega) (by omega)]
      exact wm_eq fun k q1 q2 => ⟨mm_u2_ne (by omega) (by omega), mm_u2_ne (by omega) (by omega)⟩
    have s1 := p123_0_2 (d := d + 38) (X := X) (A := mm_u A 96 0 (max 0 (cW A z1 z2 - cM A z1 z2 - cW A z1 z1))) (x1 := z1) (x2 := z2) (x3 := 1) (by omega) (c123_l hI2.gm (by omega) (by omega) (by omega) (by omega) (A 77 2).toNat 0 (by rw [k3]; omega))
    rw [e, e, e2] at s1
    refine ok9b hI2 hs h0 hz (p142_0_4 (p10_0_4 (c62b (d := d + 35) hI.gd (by omega) (by omega) (by omega) (by omega)) (by omega)) (by omega)) s1 mm_u_same ?_ (by omega)
    rw [mm_u_ne (by omega), mm_u_same]
end EN
