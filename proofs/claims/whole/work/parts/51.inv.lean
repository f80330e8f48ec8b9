/-! What holds between class and reference whenever the law's loop begins a round. -/
def Is (A : MF) : Prop := 1 ≤ A 77 1 ∧ A 77 1 ≤ 6 ∧ A 1 3 = A 77 1 ∧ A 2 0 = A 77 1 ∧ A 25 0 = A 77 1 ∧ A 43 0 = A 77 1 ∧ 0 ≤ A 77 2 ∧ A 77 2 ≤ 12 ∧ A 2 1 = A 77 2 ∧ 0 ≤ A 77 8 ∧ A 77 8 ≤ 600000 ∧ A 25 1 = A 77 8 ∧ (A 77 9 = 0 ∨ A 77 9 = 1) ∧ A 25 2 = A 77 9 ∧ 1 ≤ A 77 15 ∧ A 77 15 ≤ 16 ∧ A 43 1 = A 77 15 ∧ (A 77 17 = 0 ∨ A 77 17 = 1) ∧ A 43 2 = A 77 17
def Iv (A : MF) : Prop := ∀ p i : Int, 0 ≤ p → p < 6 → 0 ≤ i → i < 12 → A (4 + p.toNat) i = A 78 (12 * p + i) ∧ 0 ≤ A 78 (12 * p + i) ∧ A 78 (12 * p + i) ≤ 1000
def Ih (A : MF) : Prop := ∀ i : Int, 0 ≤ i → i < 12 → A 10 i = A 79 i ∧ -1 ≤ A 79 i ∧ A 79 i < A 77 1
def Ir (A : MF) : Prop := ∀ p i : Int, 0 ≤ p → p < 6 → 0 ≤ i → i < 6 → A (27 + p.toNat) i = A 82 (6 * p + i) ∧ 0 ≤ A 82 (6 * p + i) ∧ A 82 (6 * p + i) ≤ 100000
def Id (A : MF) : Prop := ∀ p i : Int, 0 ≤ p → p < 6 → 0 ≤ i → i < 16 → A (45 + p.toNat) i = A 88 (16 * p + i) ∧ 0 ≤ A 88 (16 * p + i) ∧ A 88 (16 * p + i) ≤ 12
def It (A : MF) : Prop := A 77 9 = 1 → ∀ p : Int, 0 ≤ p → p < A 77 1 → A 34 p = A 83 p ∧ R32 (A 83 p) ∧ A (37 + p.toNat) 0 = A 86 p ∧ A (37 + p.toNat) 1 = A 87 p ∧ R64 (A 86 p) ∧ R64 (A 87 p)
/-- a piece of the cake: from fa/fb to ta/tb -/
def Ip (fa fb ta tb : Int) : Prop := 0 < fb ∧ fb ≤ 2000000 ∧ 0 < tb ∧ tb ≤ 2000000 ∧ 0 ≤ fa ∧ fa ≤ 16 * fb ∧ 0 ≤ ta ∧ ta ≤ 16 * tb ∧ fa * tb ≤ ta * fb
def Ic (A : MF) : Prop := A 77 17 = 1 → ∀ p : Int, 0 ≤ p → p < A 77 1 → A (59 + 3 * p.toNat) 0 = A 89 p ∧ A (59 + 3 * p.toNat) 1 = A 90 p ∧ A (60 + 3 * p.toNat) 0 = A 91 p ∧ A (60 + 3 * p.toNat) 1 = A 92 p ∧ Ip (A 89 p) (A 90 p) (A 91 p) (A 92 p)
def Inv (A : MF) : Prop := Is A ∧ Iv A ∧ Ih A ∧ Ir A ∧ Id A ∧ It A ∧ Ic A
/-- cells of which the invariant says nothing -/
def mm_scr (a : Nat) (i : Int) : Prop := a = 96 ∨ (a = 77 ∧ (i = 0 ∨ i = 24 ∨ i = 25)) ∨ a = 80 ∨ a = 81 ∨ a = 84 ∨ a = 85 ∨ a = 93 ∨ a = 94 ∨ a = 95 ∨ a = 11 ∨ a = 12 ∨ (13 ≤ a ∧ a ≤ 24) ∨ a = 33 ∨ a = 35 ∨ (a = 25 ∧ i = 3) ∨ (54 ≤ a ∧ a ≤ 58) ∨ (61 ≤ a ∧ a ≤ 76 ∧ a % 3 = 1)
theorem Is.eqv {A B : MF} (h : ∀ a i, (a = 1 ∨ a = 2 ∨ (a = 25 ∧ i ≠ 3) ∨ a = 43 ∨ (a = 77 ∧ 1 ≤ i ∧ i ≤ 17)) → B a i = A a i) (q : Is A) : Is B := by
  unfold Is at q ⊢
  rw [h 77 1 (by omega), h 1 3 (by omega), h 2 0 (by omega), h 25 0 (by omega), h 43 0 (by omega), h 77 2 (by omega), h 2 1 (by omega), h 77 8 (by omega), h 25 1 (by omega), h 77 9 (by omega), h 25 2 (by omega), h 77 15 (by omega), h 43 1 (by omega), h 77 17 (by omega), h 43 2 (by omega)]
  exact q
theorem Iv.eqv {A B : MF} (h : ∀ a i, ((4 ≤ a ∧ a ≤ 9) ∨ a = 78) → B a i = A a i) (q : Iv A) : Iv B := by
  intro p i h1 h2 h3 h4
  rw [h (4 + p.toNat) i (by omega), h 78 _ (by omega)]
  exact q p i h1 h2 h3 h4
theorem Ih.eqv {A B : MF} (h : ∀ a i, (a = 10 ∨ a = 79 ∨ (a = 77 ∧ i = 1)) → B a i = A a i) (q : Ih A) : Ih B := by
  intro i h1 h2
  rw [h 10 i (by omega), h 79 i (by omega), h 77 1 (by omega)]
  exact q i h1 h2
theorem Ir.eqv {A B : MF} (h : ∀ a i, ((27 ≤ a ∧ a ≤ 32) ∨ a = 82) → B a i = A a i) (q : Ir A) : Ir B := by
  intro p i h1 h2 h3 h4
  rw [h (27 + p.toNat) i (by omega), h 82 _ (by omega)]
  exact q p i h1 h2 h3 h4
theorem Id.eqv {A B : MF} (h : ∀ a i, ((45 ≤ a ∧ a ≤ 50) ∨ a = 88) → B a i = A a i) (q : Id A) : Id B := by
  intro p i h1 h2 h3 h4
  rw [h (45 + p.toNat) i (by omega), h 88 _ (by omega)]
  exact q p i h1 h2 h3 h4
theorem It.eqv {A B : MF} (hn : 1 ≤ A 77 1 ∧ A 77 1 ≤ 6) (h : ∀ a i, (a = 34 ∨ a = 83 ∨ (37 ≤ a ∧ a ≤ 42) ∨ a = 86 ∨ a = 87 ∨ (a = 77 ∧ (i = 1 ∨ i = 9))) → B a i = A a i) (q : It A) : It B := by
  intro h0 p h1 h2
  rw [h 77 9 (by omega)] at h0
  rw [h 77 1 (by omega)] at h2
  rw [h 34 p (by omega), h 83 p (by omega), h (37 + p.toNat) 0 (by omega), h (37 + p.toNat) 1 (by omega), h 86 p (by omega), h 87 p (by omega)]
  exact q h0 p h1 h2
theorem Ic.eqv {A B : MF} (hn : 1 ≤ A 77 1 ∧ A 77 1 ≤ 6) (h : ∀ a i, ((59 ≤ a ∧ a ≤ 75 ∧ a % 3 ≠ 1) ∨ (89 ≤ a ∧ a ≤ 92) ∨ (a = 77 ∧ (i = 1 ∨ i = 17))) → B a i = A a i) (q : Ic A) : Ic B := by
  intro h0 p h1 h2
  rw [h 77 17 (by omega)] at h0
  rw [h 77 1 (by omega)] at h2
  rw [h (59 + 3 * p.toNat) 0 (by omega), h (59 + 3 * p.toNat) 1 (by omega), h (60 + 3 * p.toNat) 0 (by omega), h (60 + 3 * p.toNat) 1 (by omega), h 89 p (by omega), h 90 p (by omega), h 91 p (by omega), h 92 p (by omega)]
  exact q h0 p h1 h2
theorem Inv.n {A : MF} (h : Inv A) : 1 ≤ A 77 1 ∧ A 77 1 ≤ 6 := ⟨h.1.1, h.1.2.1⟩
theorem Inv.scr {A B : MF} (h : ∀ a i, ¬ mm_scr a i → B a i = A a i) (q : Inv A) : Inv B := by
  have g : ∀ (P : Nat → Int → Prop), (∀ a i, P a i → ¬ mm_scr a i) → ∀ a i, P a i → B a i = A a i := fun P hP a i hh => h a i (hP a i hh)
  exact ⟨q.1.eqv (g _ fun a i hh => by unfold mm_scr; omega), q.2.1.eqv (g _ fun a i hh => by unfold mm_scr; omega), q.2.2.1.eqv (g _ fun a i hh => by unfold mm_scr; omega), q.2.2.2.1.eqv (g _ fun a i hh => by unfold mm_scr; omega), q.2.2.2.2.1.eqv (g _ fun a i hh => by unfold mm_scr; omega), q.2.2.2.2.2.1.eqv q.n (g _ fun a i hh => by unfold mm_scr; omega), q.2.2.2.2.2.2.eqv q.n (g _ fun a i hh => by unfold mm_scr; omega)⟩
theorem Inv.u {A : MF} {a : Nat} {i z : Int} (hs : mm_scr a i) (q : Inv A) : Inv (mm_u A a i z) := q.scr fun b k h => mm_u_ne (by
  by_cases e : b = a ∧ k = i
  · obtain ⟨rfl, rfl⟩ := e
    exact absurd hs h
  · omega)
theorem Inv.thr {A : MF} {z : Int} (q : Inv A) : Inv (mm_u A 77 0 z) := q.u (by unfold mm_scr; omega)
theorem Inv.out {A : MF} {z : Int} (q : Inv A) : Inv (mm_u A 96 0 z) := q.u (by unfold mm_scr; omega)
theorem Inv0 : Inv mm_A0 := by
  refine ⟨by unfold Is; decide, fun p i h1 h2 h3 h4 => ?_, fun i h1 h2 => ?_, fun p i h1 h2 h3 h4 => ?_, fun p i h1 h2 h3 h4 => ?_, fun h => ?_, fun h => ?_⟩
  · have e1 : mm_A0 78 (12 * p + i) = 0 := rfl
    have e2 : mm_A0 (4 + p.toNat) i = 0 := mm_six (P := fun p => mm_A0 (4 + p.toNat) i = 0) h1 h2 rfl rfl rfl rfl rfl rfl
    omega
  · have e1 : mm_A0 79 i = -1 := rfl
    have e2 : mm_A0 10 i = -1 := rfl
    have e3 : mm_A0 77 1 = 1 := rfl
    omega
  · have e1 : mm_A0 82 (6 * p + i) = 0 := rfl
    have e2 : mm_A0 (27 + p.toNat) i = 0 := mm_six (P := fun p => mm_A0 (27 + p.toNat) i = 0) h1 h2 rfl rfl rfl rfl rfl rfl
    omega
  · have e1 : mm_A0 88 (16 * p + i) = 0 := rfl
    have e2 : mm_A0 (45 + p.toNat) i = 0 := mm_six (P := fun p => mm_A0 (45 + p.toNat) i = 0) h1 h2 rfl rfl rfl rfl rfl rfl
    omega
  · have e1 : mm_A0 77 9 = 0 := rfl
    omega
  · have e1 : mm_A0 77 17 = 0 := rfl
    omega
/-! One round of the loop. -/
def mm_sc (X : List Value) (x4 z0 z1 z2 z3 : Int) : Prop := Nat.blt X.length 100000 = true ∧ X[Int.toNat x4]? = some (mI z0) ∧ X[Int.toNat (x4 + 1)]? = some (mI z1) ∧ X[Int.toNat (x4 + 2)]? = some (mI z2) ∧ X[Int.toNat (x4 + 3)]? = some (mI z3) ∧ 0 ≤ x4 ∧ x4 ≤ (X.length : Int) - 4 ∧ (X.length : Int) ≤ 100000 ∧ R32 z0 ∧ R32 z1 ∧ R32 z2 ∧ R32 z3
abbrev mm_LV (x4 : Int) : ML := [(0, .ref 0), (1, .ref 1), (2, .ref 77), (3, .ref 96), (4, mI x4)]
def mm_st (X : List Value) (d : Nat) (x4 : Int) (A A' : MF) : Prop := ∃ a1 b1, a1 ≤ 1 ∧ b1 ≤ 6 ∧ ∀ (o : Option Value ⊕ Nat) (M2 : MH) (a2 b2 : Nat), mm_E 1 (d + 40) 152 23 (mm_LV (x4 + 4)) [] (mm_w X A') (o, M2, a2, b2) → mm_E 1 (d + 40) 152 23 (mm_LV x4) [] (mm_w X A) (o, M2, a1 + a2, b1 + b2)
def mm_rd (X : List Value) (d : Nat) (x4 : Int) (A : MF) : Prop := ∃ A', Inv A' ∧ mm_st X d x4 A A'
theorem mm_rd.zero {X : List Value} {d : Nat} {x4 : Int} {A A' : MF} (hI : Inv A') (h : ∀ r : MR, mm_E 1 (d + 40) 152 23 (mm_LV (x4 + 4)) [] (mm_w X A') r → mm_E 1 (d + 40) 152 23 (mm_LV x4) [] (mm_w X A) r) : mm_rd X d x4 A := ⟨A', hI, 0, 0, by omega, by omega, fun o M2 a2 b2 k => by rw [Nat.zero_add, Nat.zero_add]; exact h _ k⟩
/-- the script of the law: the loop, round by round -/
theorem mm_loop {X : List Value} {d : Nat} (hX : Nat.blt X.length 100000 = true) (hN : X.length ≤ 2048) (hxs : ∀ k : Nat, k < X.length → ∃ z, X[k]? = some (mI z) ∧ R32 z)
    (round : ∀ (A : MF) (x4 z0 z1 z2 z3 : Int), Inv A → mm_sc X x4 z0 z1 z2 z3 → mm_rd X d x4 A) : ∀ (k : Nat) (x4 : Int) (A : MF), Inv A → 0 ≤ x4 → x4 ≤ 2100 → (X.length : Int) - x4 < 4 * (k + 1) → ∃ a b M2, a ≤ k ∧ b ≤ 6 * k ∧ mm_E 1 (d + 40) 152 23 (mm_LV x4) [] (mm_w X A) (.inl (some (mI 1)), M2, a, b)
  | k, x4, A, hI, h0, h9, hk => by
    by_cases hx : x4 ≤ (X.length : Int) - 4
    · cases k with
      | zero => omega
      | succ k =>
        obtain ⟨z0, e0, r0⟩ := hxs x4.toNat (by omega)
        obtain ⟨z1, e1, r1⟩ := hxs (x4 + 1).toNat (by omega)
        obtain ⟨z2, e2, r2⟩ := hxs (x4 + 2).toNat (by omega)
        obtain ⟨z3, e3, r3⟩ := hxs (x4 + 3).toNat (by omega)
        obtain ⟨A', hI', a1, b1, g1, g2, st⟩ := round A x4 z0 z1 z2 z3 hI ⟨hX, e0, e1, e2, e3, h0, hx, by omega, r0, r1, r2, r3⟩
        obtain ⟨a, b, M2, l1, l2, q⟩ := mm_loop hX hN hxs round k (x4 + 4) A' hI' (by omega) (by omega) (by omega)
        exact ⟨a1 + a, b1 + b, M2, by omega, by omega, st _ _ _ _ q⟩
    · exact ⟨0, 0, mm_w X A, by omega, by omega, qe_1 hX (by omega)⟩
/-- the claim out of the rounds -/
theorem mm_whole {xs : List Int32} (h : xs.length ≤ 2048) (round : ∀ (A : MF) (x4 z0 z1 z2 z3 : Int), Inv A → mm_sc (xs.map Value.int) x4 z0 z1 z2 z3 → mm_rd (xs.map Value.int) 0 x4 A) : ∃ (f d : Nat) (M1 : MH) (c1 n1 : Nat), mm_run f 1 d 152 0 [(0, .ref 0)] [] [(99, xs.map Value.int)] 0 0 = some (.inl (some (.int 1)), M1, c1, n1) ∧ d ≤ 1312 ∧ c1 ≤ 645488 ∧ n1 ≤ 7159639 := by
  have hl : (xs.map Value.int).length = xs.length := List.length_map ..
  obtain ⟨a, b, M2, l1, l2, q⟩ := mm_loop (X := xs.map Value.int) (d := 0) (Nat.ble_eq_true_of_le (by omega)) (by omega) (fun k hk => by
    rw [hl] at hk
    refine ⟨(xs[k]).toInt, ?_, ?_⟩
    · rw [List.getElem?_map, List.getElem?_eq_getElem hk]
      simp [mI, Int32.ofInt_toInt]
    · have h1 := Int32.le_toInt (xs[k])
      have h2 := Int32.toInt_lt (xs[k])
      exact ⟨by simpa using h1, by simp at h2; omega⟩) round 512 0 mm_A0 Inv0 (by omega) (by omega) (by omega)
  obtain ⟨a', b', g1, g2, k⟩ := mm_init (d := 19) q
  obtain ⟨f, hf⟩ := k [(0, .ref 0)] (fun q hq => by
    rcases List.mem_cons.mp hq with rfl | hq
    · rfl
    · cases hq)
  have e := hf 0 0
  rw [Nat.zero_add, Nat.zero_add] at e
  exact ⟨f, 40, M2, a', b', e, by omega, by omega, by omega⟩
