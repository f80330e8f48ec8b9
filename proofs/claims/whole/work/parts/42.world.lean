/-! Numbers: what the machine holds as ints and longs are ours as integers; the cells after the two constructors, their ints given by a function. -/
abbrev mI (x : Int) : Value := .int (Int32.ofInt x)
abbrev mJ (x : Int) : Value := .long (Int64.ofInt x)
abbrev R32 (x : Int) : Prop := -2147483648 ≤ x ∧ x ≤ 2147483647
abbrev R64 (x : Int) : Prop := -9223372036854775808 ≤ x ∧ x ≤ 9223372036854775807
theorem mm_to32 {x : Int} (h : R32 x) : (Int32.ofInt x).toInt = x := Int32.toInt_ofInt_of_le (by simpa using h.1) (by have := h.2; simp; omega)
theorem mm_to64 {x : Int} (h : R64 x) : (Int64.ofInt x).toInt = x := Int64.toInt_ofInt_of_le (by simpa using h.1) (by have := h.2; simp; omega)
theorem mm_lt32 {x y : Int} (hx : R32 x) (hy : R32 y) : (Int32.ofInt x < Int32.ofInt y) ↔ x < y := by rw [Int32.lt_iff_toInt_lt, mm_to32 hx, mm_to32 hy]
theorem mm_le32 {x y : Int} (hx : R32 x) (hy : R32 y) : (Int32.ofInt x ≤ Int32.ofInt y) ↔ x ≤ y := by rw [Int32.le_iff_toInt_le, mm_to32 hx, mm_to32 hy]
theorem mm_eq32 {x y : Int} (hx : R32 x) (hy : R32 y) : (Int32.ofInt x = Int32.ofInt y) ↔ x = y := by rw [← Int32.toInt_inj, mm_to32 hx, mm_to32 hy]
theorem mm_lt64 {x y : Int} (hx : R64 x) (hy : R64 y) : (Int64.ofInt x < Int64.ofInt y) ↔ x < y := by rw [Int64.lt_iff_toInt_lt, mm_to64 hx, mm_to64 hy]
theorem mm_le64 {x y : Int} (hx : R64 x) (hy : R64 y) : (Int64.ofInt x ≤ Int64.ofInt y) ↔ x ≤ y := by rw [Int64.le_iff_toInt_le, mm_to64 hx, mm_to64 hy]
theorem mm_eq64 {x y : Int} (hx : R64 x) (hy : R64 y) : (Int64.ofInt x = Int64.ofInt y) ↔ x = y := by rw [← Int64.toInt_inj, mm_to64 hx, mm_to64 hy]
theorem mm_nat32 {x : Int} (h : R32 x) : (Int32.ofInt x).toNatClampNeg = x.toNat := by
  show (Int32.ofInt x).toInt.toNat = x.toNat
  rw [mm_to32 h]
theorem mm_neg32 {x : Int} (h : R32 x) (h0 : 0 ≤ x) : decide (Int32.ofInt x < 0) = false := decide_eq_false fun z => by
  have z : Int32.ofInt x < Int32.ofInt 0 := z
  rw [mm_lt32 h (by decide)] at z
  omega
theorem mm_wide {x : Int} (h : R32 x) : (Int32.ofInt x).toInt64 = Int64.ofInt x := by
  rw [← Int64.toInt_inj, Int32.toInt_toInt64, mm_to32 h, mm_to64 (by omega)]
theorem mm_div32 {x y : Int} (hx : R32 x) (hy : R32 y) (h0 : 0 ≤ x) (h1 : 0 < y) : Int32.ofInt x / Int32.ofInt y = Int32.ofInt (x / y) := by
  have hq : R32 (x / y) := ⟨by have := Int.ediv_nonneg h0 (Int.le_of_lt h1); omega, by have := Int.ediv_le_self y h0; omega⟩
  rw [← Int32.toInt_inj, Int32.toInt_div_of_ne_left, mm_to32 hx, mm_to32 hy, mm_to32 hq, Int.tdiv_eq_ediv_of_nonneg h0]
  intro z
  have := congrArg Int32.toInt z
  rw [mm_to32 hx] at this
  have e : (Int32.minValue).toInt = -2147483648 := by decide
  rw [e] at this
  omega
theorem mm_div64 {x y : Int} (hx : R64 x) (hy : R64 y) (h1 : 0 < y) : Int64.ofInt x / Int64.ofInt y = Int64.ofInt (x.tdiv y) := by
  have hq : R64 (x.tdiv y) := by
    rcases Int.le_total 0 x with h0 | h0
    · rw [Int.tdiv_eq_ediv_of_nonneg h0]
      have a := Int.ediv_nonneg h0 (Int.le_of_lt h1)
      have b := Int.ediv_le_self y h0
      omega
    · have e : x.tdiv y = -((-x) / y) := by rw [← Int.tdiv_eq_ediv_of_nonneg (by omega), Int.neg_tdiv, Int.neg_neg]
      have a := Int.ediv_nonneg (show 0 ≤ -x by omega) (Int.le_of_lt h1)
      have b := Int.ediv_le_self y (show 0 ≤ -x by omega)
      omega
  rw [← Int64.toInt_inj, Int64.toInt_div_of_ne_right, mm_to64 hx, mm_to64 hy, mm_to64 hq]
  intro z
  have := congrArg Int64.toInt z
  rw [mm_to64 hy] at this
  have e : (-1 : Int64).toInt = -1 := by decide
  rw [e] at this
  omega
/-- comparisons -/
def mm_ic (c : ClassFile.Cond) (x y : Int) : Bool := match c with
  | .eq => decide (x = y)
  | .ne => !(decide (x = y))
  | .lt => decide (x < y)
  | .ge => decide (y ≤ x)
  | .gt => decide (y < x)
  | .le => decide (x ≤ y)
theorem mm_if32 (c : ClassFile.Cond) {x y : Int} (hx : R32 x) (hy : R32 y) : mm_if c (Int32.ofInt x) (Int32.ofInt y) = mm_ic c x y := by
  cases c
  · exact decide_eq_decide.mpr (mm_eq32 hx hy)
  · exact congrArg (! ·) (decide_eq_decide.mpr (mm_eq32 hx hy))
  · exact decide_eq_decide.mpr (mm_lt32 hx hy)
  · exact decide_eq_decide.mpr (mm_le32 hy hx)
  · exact decide_eq_decide.mpr (mm_lt32 hy hx)
  · exact decide_eq_decide.mpr (mm_le32 hx hy)
theorem mm_if64 (c : ClassFile.Cond) {x y : Int} (hx : R64 x) (hy : R64 y) : mm_if c (lg_cmp (Int64.ofInt x) (Int64.ofInt y)) 0 = mm_ic c x y := by
  have e : lg_cmp (Int64.ofInt x) (Int64.ofInt y) = if y < x then 1 else if x = y then 0 else -1 := by
    unfold lg_cmp
    simp only [gt_iff_lt, mm_lt64 hy hx, mm_eq64 hx hy]
  rw [e]
  rcases Int.lt_trichotomy x y with h | h | h
  · have h1 : ¬ y < x := by omega
    have h2 : ¬ x = y := by omega
    rw [if_neg h1, if_neg h2]
    have h3 : ¬ y ≤ x := by omega
    have h4 : x ≤ y := by omega
    cases c <;> simp [mm_if, mm_ic, h, h1, h2, h3, h4] <;> decide
  · subst h
    rw [if_neg (by omega), if_pos rfl]
    cases c <;> simp [mm_if, mm_ic]
  · rw [if_pos h]
    have h1 : ¬ x < y := by omega
    have h2 : ¬ x = y := by omega
    have h3 : ¬ x ≤ y := by omega
    have h4 : y ≤ x := by omega
    cases c <;> simp [mm_if, mm_ic, h, h1, h2, h3, h4] <;> decide
theorem ic_eqT {x y : Int} (h : x = y) : mm_ic .eq x y = true := decide_eq_true h
theorem ic_eqF {x y : Int} (h : x ≠ y) : mm_ic .eq x y = false := decide_eq_false h
theorem ic_neT {x y : Int} (h : x ≠ y) : mm_ic .ne x y = true := by show (!(decide (x = y))) = true; rw [decide_eq_false h]; rfl
theorem ic_neF {x y : Int} (h : x = y) : mm_ic .ne x y = false := by show (!(decide (x = y))) = false; rw [decide_eq_true h]; rfl
theorem ic_ltT {x y : Int} (h : x < y) : mm_ic .lt x y = true := decide_eq_true h
theorem ic_ltF {x y : Int} (h : y ≤ x) : mm_ic .lt x y = false := decide_eq_false (by omega)
theorem ic_geT {x y : Int} (h : y ≤ x) : mm_ic .ge x y = true := decide_eq_true h
theorem ic_geF {x y : Int} (h : x < y) : mm_ic .ge x y = false := decide_eq_false (by omega)
theorem ic_gtT {x y : Int} (h : y < x) : mm_ic .gt x y = true := decide_eq_true h
theorem ic_gtF {x y : Int} (h : x ≤ y) : mm_ic .gt x y = false := decide_eq_false (by omega)
theorem ic_leT {x y : Int} (h : x ≤ y) : mm_ic .le x y = true := decide_eq_true h
theorem ic_leF {x y : Int} (h : y < x) : mm_ic .le x y = false := decide_eq_false (by omega)
/-- where a branch goes -/
def mm_brt (b : Bool) (pc : Nat) (off : Int) : Option Nat := match decide ((pc : Int) + off = ((((pc : Int) + off).toNat : Nat) : Int)) with
  | true => match b with
    | true => some ((pc : Int) + off).toNat
    | false => some (pc + 3)
  | false => none
theorem mm_brt_ok {b : Bool} {pc pc' : Nat} {off : Int} {L : ML} {S : List Value} {M : MH} (h : mm_brt b pc off = some pc') : mm_br b pc off L S M = some (pc', L, S, M, 0, 0) := by
  unfold mm_brt at h
  unfold mm_br
  by_cases e : (pc : Int) + off = ((((pc : Int) + off).toNat : Nat) : Int)
  · rw [decide_eq_true e] at h ⊢
    cases b
    · have k : some (pc + 3) = some pc' := h
      cases k
      rfl
    · have k : some ((pc : Int) + off).toNat = some pc' := h
      cases k
      rfl
  · rw [decide_eq_false e] at h
    have k : (none : Option Nat) = some pc' := h
    cases k
/-- the slots: 0 an int, 1 a long, 2 a reference that changes, 3 and on a reference that doesn't -/
def mm_sv (t : Nat) (z : Int) : Value := match t with
  | 0 => mI z
  | 1 => mJ z
  | 2 => if z < 0 then .null else .ref z.toNat
  | t + 3 => .ref t
abbrev MF : Type := Nat → Int → Int
def mm_ss (A : MF) (a : Nat) : Nat → List Nat → List Value
  | _, [] => []
  | i, t :: ts => mm_sv t (A a (i : Int)) :: mm_ss A a (i + 1) ts
def mm_mk (A : MF) : Nat → List (Nat × List Nat) → MH
  | _, [] => []
  | a, q :: r => (q.1, mm_ss A a 0 q.2) :: mm_mk A (a + 1) r
def mm_lays : List (Nat × List Nat) := [(0, [5, 28, 46, 0]), (4, [0, 0, 6, 13, 14, 15, 16, 26]), (54, [7, 8, 9, 10, 11, 12]), (50, List.replicate 12 0), (50, List.replicate 12 0), (50, List.replicate 12 0), (50, List.replicate 12 0), (50, List.replicate 12 0), (50, List.replicate 12 0), (50, List.replicate 12 0), (50, List.replicate 6 0), (50, List.replicate 6 0), (6, [0, 0, 2, 2, 0, 1, 17, 18, 19]), (50, List.replicate 12 0), (50, List.replicate 6 0), (54, [20, 21, 22, 23, 24, 25]), (50, List.replicate 13 0), (50, List.replicate 13 0), (50, List.replicate 13 0), (50, List.replicate 13 0), (50, List.replicate 13 0), (50, List.replicate 13 0), (1, [0, 0, 2, 0, 27]), (50, List.replicate 6 0), (5, [0, 0, 0, 0, 29, 36, 37, 38, 39]), (54, [30, 31, 32, 33, 34, 35]), (50, List.replicate 6 0), (50, List.replicate 6 0), (50, List.replicate 6 0), (50, List.replicate 6 0), (50, List.replicate 6 0), (50, List.replicate 6 0), (50, List.replicate 6 0), (50, List.replicate 6 0), (50, List.replicate 6 0), (53, [40, 41, 42, 43, 44, 45]), (3, [1, 1]), (3, [1, 1]), (3, [1, 1]), (3, [1, 1]), (3, [1, 1]), (3, [1, 1]), (2, [0, 0, 0, 47, 54, 55, 56, 57, 58, 59, 60, 61]), (54, [48, 49, 50, 51, 52, 53]), (50, List.replicate 16 0), (50, List.replicate 16 0), (50, List.replicate 16 0), (50, List.replicate 16 0), (50, List.replicate 16 0), (50, List.replicate 16 0), (53, [62, 65, 68, 71, 74, 77]), (53, [63, 66, 69, 72, 75, 78]), (53, [64, 67, 70, 73, 76, 79]), (52, List.replicate 6 0), (50, List.replicate 6 0), (3, [1, 1]), (3, [1, 1]), (3, [1, 1]), (3, [1, 1]), (3, [1, 1]), (3, [1, 1]), (3, [1, 1]), (3, [1, 1]), (3, [1, 1]), (3, [1, 1]), (3, [1, 1]), (3, [1, 1]), (3, [1, 1]), (3, [1, 1]), (3, [1, 1]), (3, [1, 1]), (3, [1, 1]), (3, [1, 1]), (3, [1, 1]), (3, [1, 1]), (3, [1, 1]), (7, [0, 0, 0, 81, 82, 83, 84, 85, 0, 0, 86, 87, 88, 89, 90, 0, 91, 0, 92, 93, 94, 95, 96, 97, 1, 1, 98]), (50, List.replicate 72 0), (50, List.replicate 12 0), (50, List.replicate 12 0), (50, List.replicate 6 0), (50, List.replicate 36 0), (50, List.replicate 6 0), (50, List.replicate 6 0), (50, List.replicate 6 0), (51, List.replicate 6 1), (51, List.replicate 6 1), (50, List.replicate 96 0), (51, List.replicate 6 1), (51, List.replicate 6 1), (51, List.replicate 6 1), (51, List.replicate 6 1), (51, List.replicate 6 1), (51, List.replicate 6 1), (50, List.replicate 6 0), (51, List.replicate 1 1)]
def mm_w (X : List Value) (A : MF) : MH := (99, X) :: mm_mk A 1 mm_lays
def mm_ly (a : Nat) : Option (Nat × List Nat) := match a with
  | 0 => none
  | a + 1 => mm_lays[a]?
def mm_u (A : MF) (a : Nat) (i z : Int) : MF := fun b k => if b = a ∧ k = i then z else A b k
theorem mm_u_same {A : MF} {a : Nat} {i z : Int} : mm_u A a i z a i = z := if_pos ⟨rfl, rfl⟩
theorem mm_u_ne {A : MF} {a b : Nat} {i k z : Int} (h : b ≠ a ∨ k ≠ i) : mm_u A a i z b k = A b k := if_neg fun q => h.elim (fun h => h q.1) (fun h => h q.2)
theorem mm_ss_get {A : MF} {a : Nat} : ∀ {ts : List Nat} {n i t : Nat}, ts[i]? = some t → (mm_ss A a n ts)[i]? = some (mm_sv t (A a ((n + i : Nat) : Int)))
  | [], _, _, _, h => by simp at h
  | t :: ts, n, 0, _, h => by
    simp at h
    subst h
    rfl
  | t :: ts, n, i + 1, t', h => by
    have h : ts[i]? = some t' := by simpa using h
    have := mm_ss_get (A := A) (a := a) (n := n + 1) h
    rw [show n + 1 + i = n + (i + 1) by omega] at this
    simpa [mm_ss] using this
theorem mm_ss_len {A : MF} {a : Nat} : ∀ {ts : List Nat} {n : Nat}, (mm_ss A a n ts).length = ts.length
  | [], _ => rfl
  | _ :: ts, n => congrArg (· + 1) (mm_ss_len (ts := ts) (n := n + 1))
theorem mm_mk_get {A : MF} : ∀ {ls : List (Nat × List Nat)} {n a : Nat} {q : Nat × List Nat}, ls[a]? = some q → (mm_mk A n ls)[a]? = some (q.1, mm_ss A (n + a) 0 q.2)
  | [], _, _, _, h => by simp at h
  | q :: ls, n, 0, _, h => by
    simp at h
    subst h
    rfl
  | q :: ls, n, a + 1, q', h => by
    have h : ls[a]? = some q' := by simpa using h
    have := mm_mk_get (A := A) (n := n + 1) h
    rw [show n + 1 + a = n + (a + 1) by omega] at this
    simpa [mm_mk] using this
theorem mm_w_get {X : List Value} {A : MF} {a k : Nat} {ts : List Nat} (h : mm_ly a = some (k, ts)) : (mm_w X A)[a]? = some (k, mm_ss A a 0 ts) := by
  cases a with
  | zero => cases h
  | succ a =>
    have := mm_mk_get (A := A) (n := 1) (show mm_lays[a]? = some (k, ts) from h)
    rw [show 1 + a = a + 1 by omega] at this
    simpa [mm_w] using this
theorem mm_ss_other {A : MF} {a b : Nat} {i z : Int} (hb : b ≠ a) : ∀ {ts : List Nat} {n : Nat}, mm_ss (mm_u A a i z) b n ts = mm_ss A b n ts
  | [], _ => rfl
  | t :: ts, n => by
    show mm_sv t (mm_u A a i z b n) :: mm_ss (mm_u A a i z) b (n + 1) ts = _
    rw [mm_u_ne (.inl hb), mm_ss_other hb]
    rfl
theorem mm_ss_low {A : MF} {a i : Nat} {z : Int} : ∀ {ts : List Nat} {n : Nat}, i < n → mm_ss (mm_u A a i z) a n ts = mm_ss A a n ts
  | [], _, _ => rfl
  | t :: ts, n, h => by
    show mm_sv t (mm_u A a i z a n) :: mm_ss (mm_u A a i z) a (n + 1) ts = _
    rw [mm_u_ne (.inr (by omega)), mm_ss_low (by omega)]
    rfl
theorem mm_ss_set {A : MF} {a : Nat} {z : Int} : ∀ {ts : List Nat} {n i t : Nat}, ts[i]? = some t → (mm_ss A a n ts).set i (mm_sv t z) = mm_ss (mm_u A a ((n + i : Nat) : Int) z) a n ts
  | [], _, _, _, h => by simp at h
  | t :: ts, n, 0, _, h => by
    simp at h
    subst h
    show mm_sv t z :: mm_ss A a (n + 1) ts = mm_sv t (mm_u A a ((n + 0 : Nat) : Int) z a n) :: mm_ss (mm_u A a ((n + 0 : Nat) : Int) z) a (n + 1) ts
    rw [mm_ss_low (by omega)]
    simp only [Nat.add_zero, mm_u_same]
  | t :: ts, n, i + 1, t', h => by
    have h : ts[i]? = some t' := by simpa using h
    have := mm_ss_set (A := A) (a := a) (z := z) (n := n + 1) h
    rw [show n + 1 + i = n + (i + 1) by omega] at this
    show mm_sv t (A a n) :: (mm_ss A a (n + 1) ts).set i _ = mm_sv t (mm_u A a ((n + (i + 1) : Nat) : Int) z a n) :: mm_ss (mm_u A a ((n + (i + 1) : Nat) : Int) z) a (n + 1) ts
    rw [this, mm_u_ne (.inr (by omega))]
theorem mm_mk_low {A : MF} {a : Nat} {i z : Int} : ∀ {ls : List (Nat × List Nat)} {n : Nat}, a < n → mm_mk (mm_u A a i z) n ls = mm_mk A n ls
  | [], _, _ => rfl
  | q :: ls, n, h => by
    show (q.1, mm_ss (mm_u A a i z) n 0 q.2) :: mm_mk (mm_u A a i z) (n + 1) ls = _
    rw [mm_ss_other (by omega), mm_mk_low (by omega)]
    rfl
theorem mm_mk_set {A : MF} {i t : Nat} {z : Int} : ∀ {ls : List (Nat × List Nat)} {n a : Nat} {q : Nat × List Nat}, ls[a]? = some q → q.2[i]? = some t → (mm_mk A n ls).set a (q.1, (mm_ss A (n + a) 0 q.2).set i (mm_sv t z)) = mm_mk (mm_u A (n + a) i z) n ls
  | [], _, _, _, h, _ => by simp at h
  | q :: ls, n, 0, _, h, ht => by
    simp at h
    subst h
    have e := mm_ss_set (A := A) (a := n) (z := z) (n := 0) ht
    rw [Nat.zero_add] at e
    show (q.1, (mm_ss A n 0 q.2).set i (mm_sv t z)) :: mm_mk A (n + 1) ls = (q.1, mm_ss (mm_u A n i z) n 0 q.2) :: mm_mk (mm_u A n i z) (n + 1) ls
    rw [e, mm_mk_low (by omega)]
  | q :: ls, n, a + 1, q', h, ht => by
    have h : ls[a]? = some q' := by simpa using h
    have e := mm_mk_set (A := A) (z := z) (n := n + 1) h ht
    rw [show n + 1 + a = n + (a + 1) by omega] at e
    show (q.1, mm_ss A n 0 q.2) :: (mm_mk A (n + 1) ls).set a (q'.1, (mm_ss A (n + (a + 1)) 0 q'.2).set i (mm_sv t z)) = (q.1, mm_ss (mm_u A (n + (a + 1)) i z) n 0 q.2) :: mm_mk (mm_u A (n + (a + 1)) i z) (n + 1) ls
    rw [e, mm_ss_other (by omega)]
theorem mm_w_put {X : List Value} {A : MF} {a k i t : Nat} {ts : List Nat} {z : Int} (h : mm_ly a = some (k, ts)) (ht : ts[i]? = some t) : mm_put (mm_w X A) a i (mm_sv t z) = mm_w X (mm_u A a i z) := by
  unfold mm_put
  rw [mm_w_get h]
  cases a with
  | zero => cases h
  | succ a =>
    have e := mm_mk_set (A := A) (z := z) (n := 1) (show mm_lays[a]? = some (k, ts) from h) ht
    rw [show 1 + a = a + 1 by omega] at e
    show (99, X) :: (mm_mk A 1 mm_lays).set a (k, (mm_ss A (a + 1) 0 ts).set i (mm_sv t z)) = (99, X) :: mm_mk (mm_u A (a + 1) i z) 1 mm_lays
    rw [e]
