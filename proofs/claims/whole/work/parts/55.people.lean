/-! people, worth, envy. -/
section PE
variable {X : List Value} {d : Nat} {x4 z0 z1 z2 z3 : Int} {A : MF}
theorem c1 {n : Int} (h1 : 1 ≤ n) (h2 : n ≤ 6) : ∃ B : MF, mm_E 1 (d + 4) 1 0 [(0, .ref 1), (1, mI n)] [] (mm_w X A) (.inl none, mm_w X B, 0, 0) ∧ B 1 3 = n ∧ B 2 0 = n ∧ B 2 1 = 0 ∧ B 25 0 = n ∧ B 25 1 = 0 ∧ B 25 2 = 0 ∧ B 43 0 = n ∧ B 43 1 = 1 ∧ B 43 2 = 0 ∧ (∀ p i : Int, 0 ≤ p → p < 6 → 0 ≤ i → i < 12 → B (4 + p.toNat) i = 0) ∧ (∀ i : Int, 0 ≤ i → i < 12 → B 10 i = -1) ∧ (∀ p i : Int, 0 ≤ p → p < 6 → 0 ≤ i → i < 6 → B (27 + p.toNat) i = 0) ∧ (∀ p i : Int, 0 ≤ p → p < 6 → 0 ≤ i → i < 16 → B (45 + p.toNat) i = 0) ∧ ∀ a i, 77 ≤ a → B a i = A a i := by
  refine ⟨_, p1_0_2 (c55 (d := d + 1)) c75 (c28 (d := d + 2)) (by omega), ?_, ?_, ?_, ?_, ?_, ?_, ?_, ?_, ?_, ?_, ?_, ?_, ?_, ?_⟩
  · rw [mm_rw_out (by omega), mm_u_ne (by omega), mm_u2_ne (by omega) (by omega), mm_rw_out (by omega), mm_u_ne (by omega), mm_u2_ne (by omega) (by omega), mm_fr_out (by omega), mm_u_ne (by omega), mm_rw_out (by omega), mm_u_ne (by omega), mm_u_same]
  · rw [mm_rw_out (by omega), mm_u_ne (by omega), mm_u2_ne (by omega) (by omega), mm_rw_out (by omega), mm_u_ne (by omega), mm_u2_ne (by omega) (by omega), mm_fr_out (by omega), mm_u_ne (by omega), mm_rw_out (by omega), mm_u_same]
  · rw [mm_rw_out (by omega), mm_u_ne (by omega), mm_u2_ne (by omega) (by omega), mm_rw_out (by omega), mm_u_ne (by omega), mm_u2_ne (by omega) (by omega), mm_fr_out (by omega), mm_u_same]
  · rw [mm_rw_out (by omega), mm_u_ne (by omega), mm_u2_ne (by omega) (by omega), mm_rw_out (by omega), mm_u2_ne (by omega) (by omega), mm_u_same]
  · rw [mm_rw_out (by omega), mm_u_ne (by omega), mm_u2_ne (by omega) (by omega), mm_rw_out (by omega), mm_u_ne (by omega), mm_u_same]
  · rw [mm_rw_out (by omega), mm_u_ne (by omega), mm_u2_ne (by omega) (by omega), mm_rw_out (by omega), mm_u_same]
  · rw [mm_rw_out (by omega), mm_u2_ne (by omega) (by omega), mm_u_same]
  · rw [mm_rw_out (by omega), mm_u_ne (by omega), mm_u_same]
  · rw [mm_rw_out (by omega), mm_u_same]
  · intro p i q1 q2 q3 q4
    rw [mm_rw_out (by omega), mm_u_ne (by omega), mm_u2_ne (by omega) (by omega), mm_rw_out (by omega), mm_u_ne (by omega), mm_u2_ne (by omega) (by omega), mm_fr_out (by omega), mm_u_ne (by omega), mm_rw_in (by omega) (by omega) (by omega) (by omega)]
  · intro i q3 q4
    rw [mm_rw_out (by omega), mm_u_ne (by omega), mm_u2_ne (by omega) (by omega), mm_rw_out (by omega), mm_u_ne (by omega), mm_u2_ne (by omega) (by omega), mm_fr_in (by omega) (by omega)]
  · intro p i q1 q2 q3 q4
    rw [mm_rw_out (by omega), mm_u_ne (by omega), mm_u2_ne (by omega) (by omega), mm_rw_in (by omega) (by omega) (by omega) (by omega)]
  · intro p i q1 q2 q3 q4
    rw [mm_rw_in (by omega) (by omega) (by omega) (by omega)]
  · intro a i q
    rw [mm_rw_out (by omega), mm_u_ne (by omega), mm_u2_ne (by omega) (by omega), mm_rw_out (by omega), mm_u_ne (by omega), mm_u2_ne (by omega) (by omega), mm_fr_out (by omega), mm_u_ne (by omega), mm_rw_out (by omega), mm_u2_ne (by omega) (by omega)]
theorem c114 {n : Int} (h1 : 1 ≤ n) (h2 : n ≤ 6) : ∃ B : MF, mm_E 1 (d + 1) 114 0 [(0, .ref 77), (1, mI n)] [] (mm_w X A) (.inl none, mm_w X B, 0, 0) ∧ B 77 0 = 0 ∧ B 77 1 = n ∧ B 77 2 = 0 ∧ B 77 8 = 0 ∧ B 77 9 = 0 ∧ B 77 15 = 1 ∧ B 77 17 = 0 ∧ (∀ i : Int, 0 ≤ i → i < 72 → B 78 i = 0) ∧ (∀ i : Int, 0 ≤ i → i < 12 → B 79 i = -1) ∧ (∀ i : Int, 0 ≤ i → i < 36 → B 82 i = 0) ∧ (∀ i : Int, 0 ≤ i → i < 96 → B 88 i = 0) ∧ ∀ a i, a < 77 → B a i = A a i := by
  refine ⟨_, p114_0_1 c91 (by omega), ?_, ?_, ?_, ?_, ?_, ?_, ?_, ?_, ?_, ?_, ?_, ?_⟩
  · rw [mm_fr_out (by omega), mm_fr_out (by omega), mm_fr_out (by omega), mm_fr_out (by omega), mm_u2_ne (by omega) (by omega), mm_u2_ne (by omega) (by omega), mm_u2_ne (by omega) (by omega), mm_u_same]
  · rw [mm_fr_out (by omega), mm_fr_out (by omega), mm_fr_out (by omega), mm_fr_out (by omega), mm_u2_ne (by omega) (by omega), mm_u2_ne (by omega) (by omega), mm_u_ne (by omega), mm_u_same]
  · rw [mm_fr_out (by omega), mm_fr_out (by omega), mm_fr_out (by omega), mm_fr_out (by omega), mm_u2_ne (by omega) (by omega), mm_u2_ne (by omega) (by omega), mm_u_same]
  · rw [mm_fr_out (by omega), mm_fr_out (by omega), mm_fr_out (by omega), mm_fr_out (by omega), mm_u2_ne (by omega) (by omega), mm_u_ne (by omega), mm_u_same]
  · rw [mm_fr_out (by omega), mm_fr_out (by omega), mm_fr_out (by omega), mm_fr_out (by omega), mm_u2_ne (by omega) (by omega), mm_u_same]
  · rw [mm_fr_out (by omega), mm_fr_out (by omega), mm_fr_out (by omega), mm_fr_out (by omega), mm_u_ne (by omega), mm_u_same]
  · rw [mm_fr_out (by omega), mm_fr_out (by omega), mm_fr_out (by omega), mm_fr_out (by omega), mm_u_same]
  · intro i q1 q2
    rw [mm_fr_out (by omega), mm_fr_out (by omega), mm_fr_out (by omega), mm_fr_in (by omega) (by omega)]
  · intro i q1 q2
    rw [mm_fr_out (by omega), mm_fr_out (by omega), mm_fr_in (by omega) (by omega)]
  · intro i q1 q2
    rw [mm_fr_out (by omega), mm_fr_in (by omega) (by omega)]
  · intro i q1 q2
    rw [mm_fr_in (by omega) (by omega)]
  · intro a i q
    rw [mm_fr_out (by omega), mm_fr_out (by omega), mm_fr_out (by omega), mm_fr_out (by omega), mm_u2_ne (by omega) (by omega), mm_u2_ne (by omega) (by omega), mm_u2_ne (by omega) (by omega), mm_u_ne (by omega)]
theorem rd0 (hI : Inv A) (hs : mm_sc X x4 z0 z1 z2 z3) (h0 : mm_and z0 31 = 0) : mm_rd X d x4 A := by
  obtain ⟨g3, g4, g5, r0, r1, r2, r3⟩ := hs.2.2.2.2.2
  by_cases c1' : z1 < 1
  · exact thr0 (k := 1) hI hs h0 (by omega) (p134_0_0 (by omega)) (p114_0_0 (by omega))
  by_cases c2' : 6 < z1
  · exact thr0 (k := 1) hI hs h0 (by omega) (p134_0_1 (by omega)) (p114_0_2 (by omega))
  obtain ⟨B, b, b1, b2, b3, b4, b5, b6, b7, b8, b9, b10, b11, b12, b13, b14⟩ := c1 (X := X) (d := d + 34) (A := A) (n := z1) (by omega) (by omega)
  obtain ⟨C, c, k0, k1, k2, k3, k4, k5, k6, k7, k8, k9, k10, k11⟩ := c114 (X := X) (d := d + 38) (A := B) (n := z1) (by omega) (by omega)
  refine ok0 ?_ hs h0 (p134_0_2 b) c k0
  refine ⟨?_, fun p i q1 q2 q3 q4 => ?_, fun i q1 q2 => ?_, fun p i q1 q2 q3 q4 => ?_, fun p i q1 q2 q3 q4 => ?_, fun q => by omega, fun q => by omega⟩
  · unfold Is
    rw [k11 1 3 (by omega), k11 2 0 (by omega), k11 2 1 (by omega), k11 25 0 (by omega), k11 25 1 (by omega), k11 25 2 (by omega), k11 43 0 (by omega), k11 43 1 (by omega), k11 43 2 (by omega)]
    omega
  · rw [k11 (4 + p.toNat) i (by omega), b10 p i q1 q2 q3 q4, k7 _ (by omega) (by omega)]
    omega
  · rw [k11 10 i (by omega), b11 i q1 q2, k8 i q1 q2]
    omega
  · rw [k11 (27 + p.toNat) i (by omega), b12 p i q1 q2 q3 q4, k9 _ (by omega) (by omega)]
    omega
  · rw [k11 (45 + p.toNat) i (by omega), b13 p i q1 q2 q3 q4, k10 _ (by omega) (by omega)]
    omega
/-! what somebody's things are worth -/
def ws (f g : Int → Int) (q : Int) : Nat → Int
  | 0 => 0
  | k + 1 => ws f g q k + (if g k = q then f k else 0)
def wm (f g : Int → Int) (q : Int) : Nat → Int
  | 0 => 0
  | k + 1 => if g k = q then max (wm f g q k) (f k) else wm f g q k
theorem ws_s {f g : Int → Int} {q : Int} {k : Nat} : ws f g q (k + 1) = ws f g q k + (if g k = q then f k else 0) := rfl
theorem wm_s {f g : Int → Int} {q : Int} {k : Nat} : wm f g q (k + 1) = if g k = q then max (wm f g q k) (f k) else wm f g q k := rfl
theorem ws_eq {f f' g g' : Int → Int} {q : Int} : ∀ {n : Nat}, (∀ k : Int, 0 ≤ k → k < n → f k = f' k ∧ g k = g' k) → ws f g q n = ws f' g' q n
  | 0, _ => rfl
  | n + 1, h => by
    have e := h n (by omega) (by omega)
    unfold ws
    rw [ws_eq (n := n) fun k h1 h2 => h k h1 (by omega), e.1, e.2]
theorem wm_eq {f f' g g' : Int → Int} {q : Int} : ∀ {n : Nat}, (∀ k : Int, 0 ≤ k → k < n → f k = f' k ∧ g k = g' k) → wm f g q n = wm f' g' q n
  | 0, _ => rfl
  | n + 1, h => by
    have e := h n (by omega) (by omega)
    unfold wm
    rw [wm_eq (n := n) fun k h1 h2 => h k h1 (by omega), e.1, e.2]
theorem ws_bd {f g : Int → Int} {q : Int} : ∀ {n : Nat}, (∀ k : Int, 0 ≤ k → k < n → 0 ≤ f k ∧ f k ≤ 1000) → 0 ≤ ws f g q n ∧ ws f g q n ≤ 1000 * n
  | 0, _ => by simp [ws]
  | n + 1, h => by
    have e := h n (by omega) (by omega)
    have i := ws_bd (g := g) (q := q) (n := n) fun k h1 h2 => h k h1 (by omega)
    unfold ws
    split <;> omega
theorem wm_bd {f g : Int → Int} {q : Int} : ∀ {n : Nat}, (∀ k : Int, 0 ≤ k → k < n → 0 ≤ f k ∧ f k ≤ 1000) → 0 ≤ wm f g q n ∧ wm f g q n ≤ 1000 ∧ wm f g q n ≤ ws f g q n
  | 0, _ => by simp [wm, ws]
  | n + 1, h => by
    have e := h n (by omega) (by omega)
    have i := wm_bd (g := g) (q := q) (n := n) fun k h1 h2 => h k h1 (by omega)
    have i2 := ws_bd (g := g) (q := q) (n := n) fun k h1 h2 => h k h1 (by omega)
    unfold wm ws
    split <;> omega
/-- the class's goods are in their ranges -/
def Gd (A : MF) : Prop := 1 ≤ A 2 0 ∧ A 2 0 ≤ 6 ∧ 0 ≤ A 2 1 ∧ A 2 1 ≤ 12 ∧ (∀ p i : Int, 0 ≤ p → p < 6 → 0 ≤ i → i < 12 → 0 ≤ A (4 + p.toNat) i ∧ A (4 + p.toNat) i ≤ 1000) ∧ ∀ i : Int, 0 ≤ i → i < 12 → -1 ≤ A 10 i ∧ A 10 i < A 2 0
def Gm (A : MF) : Prop := 1 ≤ A 77 1 ∧ A 77 1 ≤ 6 ∧ 0 ≤ A 77 2 ∧ A 77 2 ≤ 12 ∧ (∀ p i : Int, 0 ≤ p → p < 6 → 0 ≤ i → i < 12 → 0 ≤ A 78 (12 * p + i) ∧ A 78 (12 * p + i) ≤ 1000) ∧ ∀ i : Int, 0 ≤ i → i < 12 → -1 ≤ A 79 i ∧ A 79 i < A 77 1
theorem Inv.gd (h : Inv A) : Gd A := by
  have hS := h.1
  unfold Is at hS
  refine ⟨by omega, by omega, by omega, by omega, fun p i h1 h2 h3 h4 => ?_, fun i h1 h2 => ?_⟩
  · have := h.2.1 p i h1 h2 h3 h4
    omega
  · have := h.2.2.1 i h1 h2
    omega
theorem Inv.gm (h : Inv A) : Gm A := by
  have hS := h.1
  unfold Is at hS
  refine ⟨by omega, by omega, by omega, by omega, fun p i h1 h2 h3 h4 => ?_, fun i h1 h2 => ?_⟩
  · have := h.2.1 p i h1 h2 h3 h4
    omega
  · have := h.2.2.1 i h1 h2
    omega
/-- p's worth of q's things, in the class -/
abbrev cW (A : MF) (p q : Int) : Int := ws (A (4 + p.toNat)) (A 10) q (A 2 1).toNat
abbrev mW (A : MF) (p q : Int) : Int := ws (fun i => A 78 (12 * p + i)) (A 79) q (A 77 2).toNat
theorem c61_l {w : Nat} {p q : Int} (hG : Gd A) (hp : 0 ≤ p) (hp2 : p < 6) (hq : R32 q) : ∀ (n i : Nat), (i : Int) + n = A 2 1 → mm_E w d 61 5 [(0, .ref 2), (1, mI p), (2, mI q), (3, mI (ws (A (4 + p.toNat)) (A 10) q i)), (4, mI i)] [] (mm_w X A) (.inl (some (mI (cW A p q))), mm_w X A, 0, 0)
  | 0, i, h => by
    obtain ⟨a1, a2, a3, a4, a5, a6⟩ := hG
    have e : (A 2 1).toNat = i := by omega
    unfold cW
    rw [e]
    exact p61_5_0 (by omega)
  | n + 1, i, h => by
    have hG' := hG
    obtain ⟨a1, a2, a3, a4, a5, a6⟩ := hG'
    have b := a6 i (by omega) (by omega)
    have k := c61_l (w := w) (p := p) (q := q) hG hp hp2 hq n (i + 1) (by omega)
    rw [show ((i + 1 : Nat) : Int) = (i : Int) + 1 by omega] at k
    rw [ws_s] at k
    by_cases c : A 10 i = q
    · rw [if_pos c] at k
      exact p61_5_2 (by omega) k
    · rw [if_neg c, Int.add_zero] at k
      exact p61_5_1 (by omega) k
theorem c61 {w : Nat} {p q : Int} (hG : Gd A) (hp : 0 ≤ p) (hp2 : p < 6) (hq : R32 q) : mm_E w d 61 0 [(0, .ref 2), (1, mI p), (2, mI q)] [] (mm_w X A) (.inl (some (mI (cW A p q))), mm_w X A, 0, 0) :=
  p61_0_0 (c61_l hG hp hp2 hq (A 2 1).toNat 0 (by have := hG.2.2.1; omega))
theorem c92_l {w : Nat} {p q : Int} (hG : Gm A) (hp : 0 ≤ p) (hp2 : p < 6) (hq : R32 q) : ∀ (n i : Nat), (i : Int) + n = A 77 2 → mm_E w d 92 5 [(0, .ref 77), (1, mI p), (2, mI q), (3, mI (ws (fun i => A 78 (12 * p + i)) (A 79) q i)), (4, mI i)] [] (mm_w X A) (.inl (some (mI (mW A p q))), mm_w X A, 0, 0)
  | 0, i, h => by
    obtain ⟨a1, a2, a3, a4, a5, a6⟩ := hG
    have e : (A 77 2).toNat = i := by omega
    unfold mW
    rw [e]
    exact p92_5_0 (by omega)
  | n + 1, i, h => by
    have hG' := hG
    obtain ⟨a1, a2, a3, a4, a5, a6⟩ := hG'
    have b := a6 i (by omega) (by omega)
    have k := c92_l (w := w) (p := p) (q := q) hG hp hp2 hq n (i + 1) (by omega)
    rw [show ((i + 1 : Nat) : Int) = (i : Int) + 1 by omega] at k
    rw [ws_s] at k
    by_cases c : A 79 i = q
    · rw [if_pos c] at k
      exact p92_5_2 (by omega) k
    · rw [if_neg c] at k
      exact p92_5_1 (by omega) k
theorem c92 {w : Nat} {p q : Int} (hG : Gm A) (hp : 0 ≤ p) (hp2 : p < 6) (hq : R32 q) : mm_E w d 92 0 [(0, .ref 77), (1, mI p), (2, mI q)] [] (mm_w X A) (.inl (some (mI (mW A p q))), mm_w X A, 0, 0) :=
  p92_0_0 (c92_l hG hp hp2 hq (A 77 2).toNat 0 (by have := hG.2.2.1; omega))
theorem cW_bd {p q : Int} (hG : Gd A) (hp : 0 ≤ p) (hp2 : p < 6) : 0 ≤ cW A p q ∧ cW A p q ≤ 12000 := by
  obtain ⟨a1, a2, a3, a4, a5, a6⟩ := hG
  have h := ws_bd (f := A (4 + p.toNat)) (g := A 10) (q := q) (n := (A 2 1).toNat) fun k h1 h2 => a5 p k hp hp2 h1 (by omega)
  unfold cW
  omega
theorem Inv.cmW {p q : Int} (h : Inv A) (hp : 0 ≤ p) (hp2 : p < 6) : mW A p q = cW A p q := by
  have hS := h.1
  unfold Is at hS
  unfold mW cW
  rw [hS.2.2.2.2.2.2.2.2.1]
  exact ws_eq fun k h1 h2 => by
    have e1 := h.2.1 p k hp hp2 h1 (by omega)
    have e2 := h.2.2.1 k h1 (by omega)
    exact ⟨e1.1.symm, e2.1.symm⟩
theorem rd8 (hI : Inv A) (hs : mm_sc X x4 z0 z1 z2 z3) (h0 : mm_and z0 31 = 8) : mm_rd X d x4 A := by
  obtain ⟨g3, g4, g5, r0, r1, r2, r3⟩ := hs.2.2.2.2.2
  have hS := hI.1
  unfold Is at hS
  by_cases c1 : z1 < 0
  · exact thr8 (k := 1) hI hs h0 (by omega) (p141_0_0 (by omega)) (p122_0_0 (by omega))
  by_cases c2 : A 77 1 ≤ z1
  · exact thr8 (k := 1) hI hs h0 (by omega) (p141_0_1 (by omega)) (p122_0_4 (by omega))
  by_cases c3 : z2 < 0
  · exact thr8 (k := 1) hI hs h0 (by omega) (p141_0_2 (by omega)) (p122_0_1 (by omega))
  by_cases c4 : A 77 1 ≤ z2
  · exact thr8 (k := 1) hI hs h0 (by omega) (p141_0_3 (by omega)) (p122_0_3 (by omega))
  have hb := cW_bd (A := A) (p := z1) (q := z2) hI.gd (by omega) (by omega)
  have hI2 : Inv (mm_u (mm_u A 96 0 (cW A z1 z2)) 77 0 0) := hI.eqs (.thr (.out .rf))
  have k1 : mm_u A 96 0 (cW A z1 z2) 77 1 = A 77 1 := mm_u_ne (by omega)
  have s1 := p122_0_2 (d := d + 38) (X := X) (A := mm_u A 96 0 (cW A z1 z2)) (x1 := z1) (x2 := z2) (c92 hI2.gm (by omega) (by omega) (by omega)) (by omega)
  have e : mW (mm_u (mm_u A 96 0 (cW A z1 z2)) 77 0 0) z1 z2 = cW A z1 z2 := by
    rw [hI2.cmW (by omega) (by omega)]
    unfold cW
    rw [mm_u2_ne (by omega) (by omega)]
    exact ws_eq fun k q1 q2 => ⟨mm_u2_ne (by omega) (by omega), mm_u2_ne (by omega) (by omega)⟩
  rw [e] at s1
  refine ok8 hI2 hs h0 (p141_0_4 (p9_0_4 (c61 hI.gd (by omega) (by omega) (by omega)) (by omega)) (by omega)) s1 mm_u_same ?_ (by omega)
  rw [mm_u_ne (by omega), mm_u_same]
end PE
