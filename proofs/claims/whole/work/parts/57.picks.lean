/-! picks. -/
section PK
variable {X : List Value} {d : Nat} {x4 z0 z1 z2 z3 : Int} {A B : MF}
/-- A with the first n slots of cell a as g -/
def mm_sg (A : MF) (a : Nat) (n : Int) (g : Int → Int) : MF := fun b k => if b = a ∧ 0 ≤ k ∧ k < n then g k else A b k
def up (g : Int → Int) (i z : Int) : Int → Int := fun k => if k = i then z else g k
theorem up_same {g : Int → Int} {i z : Int} : up g i z i = z := if_pos rfl
theorem up_ne {g : Int → Int} {i k z : Int} (h : k ≠ i) : up g i z k = g k := if_neg h
theorem mm_sg_u {a : Nat} {n i z : Int} {g : Int → Int} (h1 : 0 ≤ i) (h2 : i < n) : mm_u (mm_sg A a n g) a i z = mm_sg A a n (up g i z) := by
  funext b k
  unfold mm_u mm_sg up
  by_cases e : b = a ∧ k = i
  · rw [if_pos e, if_pos (by omega), if_pos e.2]
  · rw [if_neg e]
    by_cases c : b = a ∧ 0 ≤ k ∧ k < n
    · rw [if_pos c, if_pos c, if_neg (by omega)]
    · rw [if_neg c, if_neg c]
theorem mm_sg_in {a : Nat} {n k : Int} {g : Int → Int} (h1 : 0 ≤ k) (h2 : k < n) : mm_sg A a n g a k = g k := if_pos ⟨rfl, h1, h2⟩
theorem mm_sg_ne {a b : Nat} {n k : Int} {g : Int → Int} (h : b ≠ a ∨ k < 0 ∨ n ≤ k) : mm_sg A a n g b k = A b k := if_neg (by omega)
theorem mm_fr_sg {a : Nat} {n v : Int} : mm_fr A a 0 n v = mm_sg A a n (fun _ => v) := rfl
theorem mm_sg_sg {a : Nat} {n : Int} {g g' : Int → Int} : mm_sg (mm_sg A a n g) a n g' = mm_sg A a n g' := by
  funext b k
  unfold mm_sg
  split <;> rfl
theorem mm_sg_id {a : Nat} {n : Int} : mm_sg A a n (A a) = A := by
  funext b k
  unfold mm_sg
  split
  · rename_i h
    rw [h.1]
  · rfl
theorem mm_sg_cm {a b : Nat} {n i z : Int} {g : Int → Int} (h : a ≠ b) : mm_sg (mm_u A b i z) a n g = mm_u (mm_sg A a n g) b i z := by
  funext c k
  show (if c = a ∧ 0 ≤ k ∧ k < n then g k else if c = b ∧ k = i then z else A c k) = if c = b ∧ k = i then z else if c = a ∧ 0 ≤ k ∧ k < n then g k else A c k
  by_cases e1 : c = b ∧ k = i
  · rw [if_neg (by omega), if_pos e1, if_pos e1]
  · rw [if_neg e1, if_neg e1]
theorem Eqs.sg {a : Nat} {n : Int} {g : Int → Int} (h : Eqs A B) : Eqs (mm_sg A a n g) (mm_sg B a n g) := fun b k hb => by
  unfold mm_sg
  rw [h b k hb]
/-- the dearest thing of the first k that nobody has -/
def dl (f g : Int → Int) : Nat → Int
  | 0 => -1
  | k + 1 => if g k = -1 ∧ (dl f g k = -1 ∨ f (dl f g k) < f k) then k else dl f g k
theorem dl_s {f g : Int → Int} {k : Nat} : dl f g (k + 1) = if g k = -1 ∧ (dl f g k = -1 ∨ f (dl f g k) < f k) then (k : Int) else dl f g k := rfl
/-- how many of the first k somebody has -/
def cn (g : Int → Int) : Nat → Int
  | 0 => 0
  | k + 1 => cn g k + if g k = -1 then 0 else 1
theorem cn_s {g : Int → Int} {k : Nat} : cn g (k + 1) = cn g k + if g k = -1 then 0 else 1 := rfl
theorem cn_bd {g : Int → Int} : ∀ {k : Nat}, 0 ≤ cn g k ∧ cn g k ≤ k
  | 0 => by simp [cn]
  | k + 1 => by
    have := cn_bd (g := g) (k := k)
    rw [cn_s]
    split <;> omega
theorem dl_bd {f g : Int → Int} : ∀ {k : Nat}, (dl f g k = -1 ∧ cn g k = k) ∨ (0 ≤ dl f g k ∧ dl f g k < k ∧ g (dl f g k) = -1)
  | 0 => by simp [dl, cn]
  | k + 1 => by
    have h := dl_bd (f := f) (g := g) (k := k)
    rw [dl_s, cn_s]
    by_cases c : g k = -1 ∧ (dl f g k = -1 ∨ f (dl f g k) < f k)
    · rw [if_pos c]
      exact .inr ⟨by omega, by omega, c.1⟩
    · rw [if_neg c]
      rcases h with h | h
      · refine .inl ⟨h.1, ?_⟩
        rw [if_neg fun e => c ⟨e, .inl h.1⟩, h.2]
        rfl
      · exact .inr ⟨by omega, by omega, h.2.2⟩
theorem dl_eq {f f' g g' : Int → Int} : ∀ {n : Nat}, (∀ k : Int, 0 ≤ k → k < n → f k = f' k ∧ g k = g' k) → dl f g n = dl f' g' n
  | 0, _ => rfl
  | n + 1, h => by
    have e := h n (by omega) (by omega)
    have i := dl_eq (n := n) fun k h1 h2 => h k h1 (by omega)
    rw [dl_s, dl_s, ← i, e.1, e.2]
    rcases dl_bd (f := f) (g := g) (k := n) with b | b
    · rw [b.1]
      simp
    · rw [(h (dl f g n) (by omega) (by omega)).1]
theorem cn_up {g : Int → Int} {i z : Int} (hz : z ≠ -1) (hi : 0 ≤ i) (hg : g i = -1) : ∀ {k : Nat}, cn (up g i z) k = cn g k + if i < k then 1 else 0
  | 0 => by
    rw [if_neg (by omega)]
    rfl
  | k + 1 => by
    have h := cn_up (g := g) hz hi hg (k := k)
    rw [cn_s, cn_s, h]
    by_cases e : (k : Int) = i
    · rw [← e, up_same, if_neg hz, e, hg, if_pos rfl, if_neg (by omega), if_pos (by omega)]
    · rw [up_ne e]
      split <;> split <;> split <;> omega
theorem c66_l {w : Nat} {p : Int} (hG : Gd A) (hp : 0 ≤ p) (hp2 : p < 6) : ∀ (n i : Nat), (i : Int) + n = A 2 1 → mm_E w d 66 4 [(0, .ref 2), (1, mI p), (2, mI (dl (A (4 + p.toNat)) (A 10) i)), (3, mI i)] [] (mm_w X A) (.inl (some (mI (dl (A (4 + p.toNat)) (A 10) (A 2 1).toNat))), mm_w X A, 0, 0)
  | 0, i, h => by
    obtain ⟨a1, a2, a3, a4, a5, a6⟩ := hG
    have e : (A 2 1).toNat = i := by omega
    rw [e]
    exact p66_4_0 (by omega)
  | n + 1, i, h => by
    have hG' := hG
    obtain ⟨a1, a2, a3, a4, a5, a6⟩ := hG'
    have b := a6 i (by omega) (by omega)
    have b2 := a5 p i hp hp2 (by omega) (by omega)
    have k := c66_l (w := w) hG hp hp2 n (i + 1) (by omega)
    rw [show ((i + 1 : Nat) : Int) = (i : Int) + 1 by omega, dl_s] at k
    have hb := dl_bd (f := A (4 + p.toNat)) (g := A 10) (k := i)
    by_cases c : A 10 i = -1
    · by_cases c2 : dl (A (4 + p.toNat)) (A 10) i = -1
      · rw [if_pos ⟨c, .inl c2⟩] at k
        exact p66_4_2 (by omega) k
      · have b3 := a5 p (dl (A (4 + p.toNat)) (A 10) i) hp hp2 (by omega) (by omega)
        by_cases c3 : A (4 + p.toNat) (dl (A (4 + p.toNat)) (A 10) i) < A (4 + p.toNat) i
        · rw [if_pos ⟨c, .inr c3⟩] at k
          exact p66_4_4 (by omega) k
        · rw [if_neg (fun q => q.2.elim c2 c3)] at k
          exact p66_4_3 (by omega) k
    · rw [if_neg (fun q => c q.1)] at k
      exact p66_4_1 (by omega) k
theorem c66 {w : Nat} {p : Int} (hG : Gd A) (hp : 0 ≤ p) (hp2 : p < 6) : mm_E w d 66 0 [(0, .ref 2), (1, mI p)] [] (mm_w X A) (.inl (some (mI (dl (A (4 + p.toNat)) (A 10) (A 2 1).toNat))), mm_w X A, 0, 0) :=
  p66_0_0 (c66_l hG hp hp2 (A 2 1).toNat 0 (by have := hG.2.2.1; omega))
theorem c117_i {w : Nat} {p t : Int} {r : MR} (hG : Gm A) (hp : 0 ≤ p) (hp2 : p < 6) (k0 : mm_E w d 117 47 [(0, .ref 77), (2, mI p), (3, mI t), (4, mI (dl (fun i => A 78 (12 * p + i)) (A 79) (A 77 2).toNat)), (5, mI (A 77 2))] [] (mm_w X A) r) : ∀ (n i : Nat), (i : Int) + n = A 77 2 → mm_E w d 117 47 [(0, .ref 77), (2, mI p), (3, mI t), (4, mI (dl (fun i => A 78 (12 * p + i)) (A 79) i)), (5, mI i)] [] (mm_w X A) r
  | 0, i, h => by
    obtain ⟨a1, a2, a3, a4, a5, a6⟩ := hG
    have e : (A 77 2).toNat = i := by omega
    rw [e, show A 77 2 = i by omega] at k0
    exact k0
  | n + 1, i, h => by
    have hG' := hG
    obtain ⟨a1, a2, a3, a4, a5, a6⟩ := hG'
    have b := a6 i (by omega) (by omega)
    have b2 := a5 p i hp hp2 (by omega) (by omega)
    have k := c117_i (w := w) hG hp hp2 k0 n (i + 1) (by omega)
    rw [show ((i + 1 : Nat) : Int) = (i : Int) + 1 by omega, dl_s] at k
    have hb := dl_bd (f := fun i => A 78 (12 * p + i)) (g := A 79) (k := i)
    by_cases c : A 79 i = -1
    · by_cases c2 : dl (fun i => A 78 (12 * p + i)) (A 79) i = -1
      · rw [if_pos ⟨c, .inl c2⟩] at k
        exact p117_47_2 (by omega) k
      · have b3 := a5 p (dl (fun i => A 78 (12 * p + i)) (A 79) i) hp hp2 (by omega) (by omega)
        by_cases c3 : A 78 (12 * p + (dl (fun i => A 78 (12 * p + i)) (A 79) i)) < A 78 (12 * p + i)
        · rw [if_pos ⟨c, .inr c3⟩] at k
          exact p117_47_4 (by omega) k
        · rw [if_neg (fun q => q.2.elim c2 c3)] at k
          exact p117_47_3 (by omega) k
    · rw [if_neg (fun q => c q.1)] at k
      exact p117_47_1 (by omega) k
/-- what the class's goods and the reference's have in common, holders aside -/
def Bm (A B : MF) : Prop := B 77 1 = A 2 0 ∧ B 77 2 = A 2 1 ∧ ∀ p i : Int, 0 ≤ p → p < 6 → 0 ≤ i → i < 12 → B 78 (12 * p + i) = A (4 + p.toNat) i
theorem Gd.sg {g : Int → Int} (hG : Gd A) (hg : ∀ i : Int, 0 ≤ i → i < 12 → -1 ≤ g i ∧ g i < A 2 0) : Gd (mm_sg A 10 12 g) := by
  obtain ⟨a1, a2, a3, a4, a5, a6⟩ := hG
  have e0 : mm_sg A 10 12 g 2 0 = A 2 0 := mm_sg_ne (by omega)
  have e1 : mm_sg A 10 12 g 2 1 = A 2 1 := mm_sg_ne (by omega)
  refine ⟨by omega, by omega, by omega, by omega, fun p i h1 h2 h3 h4 => ?_, fun i h1 h2 => ?_⟩
  · rw [mm_sg_ne (by omega)]
    exact a5 p i h1 h2 h3 h4
  · rw [mm_sg_in h1 h2, e0]
    exact hg i h1 h2
theorem Gm.sg {g : Int → Int} (hG : Gd A) (hB : Bm A B) (hg : ∀ i : Int, 0 ≤ i → i < 12 → -1 ≤ g i ∧ g i < A 2 0) : Gm (mm_sg B 79 12 g) := by
  obtain ⟨a1, a2, a3, a4, a5, a6⟩ := hG
  obtain ⟨b1, b2, b3⟩ := hB
  have e0 : mm_sg B 79 12 g 77 1 = B 77 1 := mm_sg_ne (by omega)
  have e1 : mm_sg B 79 12 g 77 2 = B 77 2 := mm_sg_ne (by omega)
  refine ⟨by omega, by omega, by omega, by omega, fun p i h1 h2 h3 h4 => ?_, fun i h1 h2 => ?_⟩
  · rw [mm_sg_ne (by omega), b3 p i h1 h2 h3 h4]
    exact a5 p i h1 h2 h3 h4
  · rw [mm_sg_in h1 h2, e0, b1]
    exact hg i h1 h2
theorem pk_both (hG : Gd A) : ∀ (n : Nat) (t p : Int) (g : Int → Int), 0 ≤ t → t + n = A 2 1 → 0 ≤ p → p < A 2 0 → (∀ i : Int, 0 ≤ i → i < 12 → -1 ≤ g i ∧ g i < A 2 0) → cn g (A 2 1).toNat = t → ∃ g' : Int → Int, (∀ i : Int, 0 ≤ i → i < 12 → -1 ≤ g' i ∧ g' i < A 2 0) ∧ mm_E 1 (d + 1) 65 8 [(0, .ref 2), (2, mI p), (3, mI t)] [] (mm_w X (mm_sg A 10 12 g)) (.inl none, mm_w X (mm_sg A 10 12 g'), 0, 0) ∧ ∀ B, Bm A B → mm_E 1 (d + 1) 117 33 [(0, .ref 77), (2, mI p), (3, mI t)] [] (mm_w X (mm_sg B 79 12 g)) (.inl none, mm_w X (mm_sg B 79 12 g'), 0, 0)
  | 0, t, p, g, h0, h, hp, hp2, hg, hc => by
    obtain ⟨a1, a2, a3, a4, a5, a6⟩ := hG
    refine ⟨g, hg, p65_8_0 ?_, fun B hB => p117_33_0 ?_⟩
    · rw [mm_sg_ne (by omega)]
      omega
    · rw [mm_sg_ne (by omega), hB.2.1]
      omega
  | n + 1, t, p, g, h0, h, hp, hp2, hg, hc => by
    have hG' := hG
    obtain ⟨a1, a2, a3, a4, a5, a6⟩ := hG'
    have hD := hG.sg hg
    have hb := dl_bd (f := A (4 + p.toNat)) (g := g) (k := (A 2 1).toNat)
    have e0 : mm_sg A 10 12 g 2 0 = A 2 0 := mm_sg_ne (by omega)
    have e1 : mm_sg A 10 12 g 2 1 = A 2 1 := mm_sg_ne (by omega)
    have ed : dl (mm_sg A 10 12 g (4 + p.toNat)) (mm_sg A 10 12 g 10) (A 2 1).toNat = dl (A (4 + p.toNat)) g (A 2 1).toNat := dl_eq fun k q1 q2 => ⟨mm_sg_ne (by omega), mm_sg_in (by omega) (by omega)⟩
    have hr : ∃ z : Int, z = dl (A (4 + p.toNat)) g (A 2 1).toNat := ⟨_, rfl⟩
    obtain ⟨z, hz⟩ := hr
    rw [← hz] at hb ed
    have hq : ∃ p' : Int, p' = (p + 1) % (A 2 0) ∧ 0 ≤ p' ∧ p' < A 2 0 ∧ (A 2 0 ≤ p + 1 → p' = 0) ∧ (p + 1 < A 2 0 → p' = p + 1) := by
      refine ⟨_, rfl, Int.emod_nonneg _ (by omega), Int.emod_lt_of_pos _ (by omega), fun q => ?_, fun q => Int.emod_eq_of_lt (by omega) q⟩
      rw [show p + 1 = A 2 0 by omega]
      exact Int.emod_self
    obtain ⟨p', hp', q1, q2, q3, q4⟩ := hq
    obtain ⟨g', f1, f2, f3⟩ := pk_both hG n (t + 1) p' (up g z p) (by omega) (by omega) q1 q2 (fun i i1 i2 => by
      unfold up
      have := hg i i1 i2
      split <;> omega) (by rw [cn_up (by omega) (by omega) (by omega), if_pos (by omega)]; omega)
    have s0 := c66 (X := X) (d := d) (w := 1) hD hp (by omega)
    rw [e1, ed] at s0
    refine ⟨g', f1, ?_, fun B hB => ?_⟩
    · rw [← mm_sg_u (by omega) (by omega)] at f2
      by_cases c : A 2 0 ≤ p + 1
      · rw [q3 c] at f2
        exact p65_8_3 s0 (by omega) f2
      · rw [q4 (by omega)] at f2
        exact p65_8_4 s0 (by omega) f2
    · have f4 := f3 B hB
      have hM := Gm.sg hG hB hg
      obtain ⟨b1, b2, b3⟩ := hB
      have e2 : mm_sg B 79 12 g 77 1 = A 2 0 := by rw [mm_sg_ne (by omega), b1]
      have e3 : mm_sg B 79 12 g 77 2 = A 2 1 := by rw [mm_sg_ne (by omega), b2]
      have em : dl (fun i => mm_sg B 79 12 g 78 (12 * p + i)) (mm_sg B 79 12 g 79) (A 2 1).toNat = z := by
        rw [hz]
        exact dl_eq fun k q1 q2 => ⟨by rw [mm_sg_ne (by omega)]; exact b3 p k hp (by omega) (by omega) (by omega), mm_sg_in (by omega) (by omega)⟩
      rw [← mm_sg_u (by omega) (by omega), hp', ← e2] at f4
      have l := c117_i (X := X) (d := d + 1) (w := 1) (t := t) hM hp (by omega) (by rw [e3, em]; exact p117_47_0 (by omega) f4) (A 2 1).toNat 0 (by omega)
      exact p117_33_1 (by omega) l
theorem Inv.sg {g : Int → Int} (hI : Inv A) (hg : ∀ i : Int, 0 ≤ i → i < 12 → -1 ≤ g i ∧ g i < A 77 1) : Inv (mm_sg (mm_sg A 10 12 g) 79 12 g) := by
  have e : ∀ a i, a ≠ 10 → a ≠ 79 → mm_sg (mm_sg A 10 12 g) 79 12 g a i = A a i := fun a i h1 h2 => by rw [mm_sg_ne (by omega), mm_sg_ne (by omega)]
  refine ⟨hI.1.eqv fun a k h => e a k (by omega) (by omega), hI.2.1.eqv fun a k h => e a k (by omega) (by omega), fun i q1 q2 => ?_, hI.2.2.2.1.eqv fun a k h => e a k (by omega) (by omega), hI.2.2.2.2.1.eqv fun a k h => e a k (by omega) (by omega), hI.2.2.2.2.2.1.eqv hI.n fun a k h => e a k (by omega) (by omega), hI.2.2.2.2.2.2.eqv hI.n fun a k h => e a k (by omega) (by omega)⟩
  rw [e 77 1 (by omega) (by omega), mm_sg_in q1 q2, mm_sg_ne (by omega), mm_sg_in q1 q2]
  exact ⟨rfl, hg i q1 q2⟩
theorem Inv.bm (hI : Inv A) : Bm A A := by
  have hS := hI.1
  unfold Is at hS
  exact ⟨by omega, by omega, fun p i h1 h2 h3 h4 => (hI.2.1 p i h1 h2 h3 h4).1.symm⟩
theorem Bm.eqv {C : MF} (h : Bm A B) (e : ∀ a i, (a = 78 ∨ (a = 77 ∧ (i = 1 ∨ i = 2))) → C a i = B a i) : Bm A C := by
  obtain ⟨b1, b2, b3⟩ := h
  refine ⟨by rw [e 77 1 (by omega), b1], by rw [e 77 2 (by omega), b2], fun p i h1 h2 h3 h4 => ?_⟩
  rw [e 78 _ (by omega)]
  exact b3 p i h1 h2 h3 h4
theorem cn_none : ∀ {k : Nat}, cn (fun _ => -1) k = 0
  | 0 => rfl
  | k + 1 => by rw [cn_s, cn_none, if_pos rfl]; rfl
theorem rd3 (hI : Inv A) (hs : mm_sc X x4 z0 z1 z2 z3) (h0 : mm_and z0 31 = 3) : mm_rd X d x4 A := by
  obtain ⟨g3, g4, g5, r0, r1, r2, r3⟩ := hs.2.2.2.2.2
  have hS := hI.1
  unfold Is at hS
  by_cases c1 : z1 < 0
  · exact thr3 (k := 1) hI hs h0 (by omega) (p137_0_0 (by omega)) (p117_0_0 (by omega))
  by_cases c2 : A 77 1 ≤ z1
  · exact thr3 (k := 1) hI hs h0 (by omega) (p137_0_1 (by omega)) (p117_0_2 (by omega))
  obtain ⟨g', f1, f2, f3⟩ := pk_both (X := X) (d := d + 36) hI.gd (A 2 1).toNat 0 z1 (fun _ => -1) (by omega) (by omega) (by omega) (by omega) (fun i i1 i2 => by omega) cn_none
  have k1 : mm_sg A 10 12 g' 77 1 = A 77 1 := mm_sg_ne (by omega)
  have f4 := f3 (mm_u (mm_sg A 10 12 g') 77 0 0) (hI.bm.eqv fun a i h => by rw [mm_u_ne (by omega), mm_sg_ne (by omega)])
  rw [← mm_fr_sg] at f2 f4
  have s1 := p117_0_1 (d := d + 36) (x1 := z1) c94 (by omega) f4
  refine ok3 ?_ hs h0 (p137_0_2 (p4_0_2 (p65_0_0 (d := d + 36) c73 f2) (by omega))) (s1.mono (by omega)) ?_
  · rw [mm_sg_cm (by omega)]
    exact (hI.sg (fun i i1 i2 => by have := f1 i i1 i2; omega)).thr
  · rw [mm_sg_ne (by omega), mm_u_same]
end PK
