/-! cut by least marks: the state. -/
theorem uc_all : ∀ u : Fin 64, ∀ r : Fin 6, 0 ≤ mm_and (u.val : Int) (mm_xor (mm_shl 1 (r.val : Int)) (-1)) ∧ mm_and (u.val : Int) (mm_xor (mm_shl 1 (r.val : Int)) (-1)) < 64 ∧ ∀ q : Fin 6, ub (mm_and (u.val : Int) (mm_xor (mm_shl 1 (r.val : Int)) (-1))).toNat q.val = (ub u.val q.val && decide (q.val ≠ r.val)) := by
  decide +kernel
theorem ui_all : ∀ n : Fin 7, 0 ≤ mm_shl 1 (n.val : Int) - 1 ∧ mm_shl 1 (n.val : Int) - 1 < 64 ∧ ∀ q : Fin 6, ub (mm_shl 1 (n.val : Int) - 1).toNat q.val = decide (q.val < n.val) := by
  decide +kernel
theorem uc_x {u r : Nat} (hu : u < 64) (hr : r < 6) : ∃ u' : Nat, u' < 64 ∧ mm_and (u : Int) (mm_xor (mm_shl 1 (r : Int)) (-1)) = u' ∧ ∀ q, q < 6 → ub u' q = (ub u q && decide (q ≠ r)) := by
  obtain ⟨h1, h2, h3⟩ := uc_all ⟨u, hu⟩ ⟨r, hr⟩
  simp only at h1 h2 h3
  exact ⟨(mm_and (u : Int) (mm_xor (mm_shl 1 (r : Int)) (-1))).toNat, by omega, by omega, fun q hq => h3 ⟨q, hq⟩⟩
theorem ui_x {n : Nat} (hn : n ≤ 6) : ∃ u' : Nat, u' < 64 ∧ mm_shl 1 (n : Int) - 1 = u' ∧ ∀ q, q < 6 → ub u' q = decide (q < n) := by
  obtain ⟨h1, h2, h3⟩ := ui_all ⟨n, by omega⟩
  simp only at h1 h2 h3
  exact ⟨(mm_shl 1 (n : Int) - 1).toNat, by omega, by omega, fun q hq => h3 ⟨q, hq⟩⟩
noncomputable def mkA (dn : Int → Int) (len : Nat) (pa pb aa ab : Int) : Int × Int := @dite (Int × Int) (∃ m : Int × Int, MK dn len pa pb aa ab m.1 m.2) (Classical.propDecidable _) (fun h => Classical.choose h) (fun _ => (0, 1))
theorem mkA_ok {dn : Int → Int} {len : Nat} {pa pb aa ab : Int} (h : ∃ ma mb, MK dn len pa pb aa ab ma mb) : MK dn len pa pb aa ab (mkA dn len pa pb aa ab).1 (mkA dn len pa pb aa ab).2 := by
  obtain ⟨ma, mb, h⟩ := h
  have q : ∃ m : Int × Int, MK dn len pa pb aa ab m.1 m.2 := ⟨(ma, mb), h⟩
  unfold mkA
  rw [dif_pos q]
  exact Classical.choose_spec q
/-- the lowest of the least -/
def bs (sv : Int → Int) (m : Int → Int × Int) : Nat → Int
  | 0 => -1
  | n + 1 => if sv n = 0 ∧ (bs sv m n = -1 ∨ (m n).1 * (m (bs sv m n)).2 < (m (bs sv m n)).1 * (m n).2) then n else bs sv m n
section LS
variable {sv : Int → Int} {m : Int → Int × Int}
theorem bs_s {n : Nat} : bs sv m (n + 1) = if sv n = 0 ∧ (bs sv m n = -1 ∨ (m n).1 * (m (bs sv m n)).2 < (m (bs sv m n)).1 * (m n).2) then (n : Int) else bs sv m n := rfl
theorem fr_tr {a b c e f g : Int} (hb : 0 < b) (he : 0 < e) (hg : 0 < g) (h1 : a * e ≤ c * b) (h2 : c * g ≤ f * e) : a * g ≤ f * b := by
  have l1 : a * e * g ≤ c * b * g := Int.mul_le_mul_of_nonneg_right h1 (by omega)
  have l2 : c * g * b ≤ f * e * b := Int.mul_le_mul_of_nonneg_right h2 (by omega)
  have : a * g * e ≤ f * b * e := by
    rw [show a * g * e = a * e * g by ac_rfl, show f * b * e = f * e * b by ac_rfl]
    rw [show c * b * g = c * g * b by ac_rfl] at l1
    omega
  exact Int.le_of_mul_le_mul_right this he
theorem bs_bd {N : Nat} (hm : ∀ p : Int, 0 ≤ p → p < N → sv p = 0 → 0 < (m p).2) : ∀ {n : Nat}, n ≤ N → (bs sv m n = -1 ∧ ∀ q : Int, 0 ≤ q → q < n → sv q ≠ 0) ∨ (0 ≤ bs sv m n ∧ bs sv m n < n ∧ sv (bs sv m n) = 0 ∧ ∀ q : Int, 0 ≤ q → q < n → sv q = 0 → (m (bs sv m n)).1 * (m q).2 ≤ (m q).1 * (m (bs sv m n)).2)
  | 0, _ => .inl ⟨rfl, fun q h1 h2 => by omega⟩
  | n + 1, h => by
    rw [bs_s]
    have i := bs_bd hm (n := n) (by omega)
    by_cases c : sv n = 0 ∧ (bs sv m n = -1 ∨ (m n).1 * (m (bs sv m n)).2 < (m (bs sv m n)).1 * (m n).2)
    · rw [if_pos c]
      refine .inr ⟨by omega, by omega, c.1, fun q h1 h2 h3 => ?_⟩
      by_cases e : q = n
      · rw [e]
        exact Int.le_refl _
      · rcases i with i | ⟨i1, i2, i3, i4⟩
        · exact absurd h3 (i.2 q h1 (by omega))
        · rcases c.2 with k | k
          · omega
          · exact fr_tr (hm n (by omega) (by omega) c.1) (hm _ i1 (by omega) i3) (hm q h1 (by omega) h3) (Int.le_of_lt k) (i4 q h1 (by omega) h3)
    · rw [if_neg c]
      rcases i with i | ⟨i1, i2, i3, i4⟩
      · refine .inl ⟨i.1, fun q h1 h2 h3 => ?_⟩
        by_cases e : q = n
        · rw [e] at h3
          exact c ⟨h3, .inl i.1⟩
        · exact i.2 q h1 (by omega) h3
      · refine .inr ⟨i1, by omega, i3, fun q h1 h2 h3 => ?_⟩
        by_cases e : q = n
        · rw [e] at h3 ⊢
          by_cases k : (m n).1 * (m (bs sv m n)).2 < (m (bs sv m n)).1 * (m n).2
          · exact absurd ⟨h3, .inr k⟩ c
          · omega
        · exact i4 q h1 (by omega) h3
/-- how many are not served -/
def cu (sv : Int → Int) : Nat → Nat
  | 0 => 0
  | n + 1 => cu sv n + if sv n = 0 then 1 else 0
theorem cu_s {n : Nat} : cu sv (n + 1) = cu sv n + if sv n = 0 then 1 else 0 := rfl
theorem cu_up {b : Int} (hb : 0 ≤ b) (h0 : sv b = 0) : ∀ {n : Nat}, cu (up sv b 1) n + (if b < n then 1 else 0) = cu sv n
  | 0 => by
    rw [if_neg (by omega)]
    rfl
  | n + 1 => by
    have i := cu_up hb h0 (n := n)
    rw [cu_s, cu_s]
    by_cases e : (n : Int) = b
    · rw [← e, up_same, if_neg (c := (1 : Int) = 0) (by omega), if_pos (by omega), e, if_pos h0]
      rw [if_neg (by omega)] at i
      omega
    · rw [up_ne e]
      by_cases c : b < (n : Int)
      · rw [if_pos (c := b < ((n + 1 : Nat) : Int)) (by omega)]
        rw [if_pos c] at i
        omega
      · rw [if_neg (c := b < ((n + 1 : Nat) : Int)) (by omega)]
        rw [if_neg c] at i
        omega
theorem cu_0 : ∀ {n : Nat}, cu (fun _ => 0) n = n
  | 0 => rfl
  | n + 1 => by
    rw [cu_s, cu_0, if_pos rfl]
theorem cu_none : ∀ {n : Nat}, (∀ q : Int, 0 ≤ q → q < n → sv q ≠ 0) → cu sv n = 0
  | 0, _ => rfl
  | n + 1, h => by
    rw [cu_s, cu_none (n := n) fun q h1 h2 => h q h1 (by omega), if_neg (h n (by omega) (by omega))]
theorem cu_all : ∀ {n : Nat}, cu sv n = 0 → ∀ q : Int, 0 ≤ q → q < n → sv q ≠ 0
  | 0, _, q, h1, h2 => by omega
  | n + 1, h, q, h1, h2 => by
    rw [cu_s] at h
    by_cases e : q = n
    · intro k
      rw [e] at k
      rw [if_pos k] at h
      omega
    · exact cu_all (n := n) (by omega) q h1 (by omega)
end LS
/-- the pieces with b's as well -/
def pcu (pc : Nat → Int → Int) (b fa fb ta tb : Int) : Nat → Int → Int := fun i p => if p = b then (match i with | 0 => fa | 1 => fb | 2 => ta | _ => tb) else pc i p
theorem pcu_b {pc : Nat → Int → Int} {b fa fb ta tb : Int} : pcu pc b fa fb ta tb 0 b = fa ∧ pcu pc b fa fb ta tb 1 b = fb ∧ pcu pc b fa fb ta tb 2 b = ta ∧ pcu pc b fa fb ta tb 3 b = tb := ⟨if_pos rfl, if_pos rfl, if_pos rfl, if_pos rfl⟩
theorem pcu_ne {pc : Nat → Int → Int} {b fa fb ta tb p : Int} {i : Nat} (h : p ≠ b) : pcu pc b fa fb ta tb i p = pc i p := if_neg h
/-- what p wants: a part of the whole -/
abbrev wa (dn : Int → Int → Int) (len N : Nat) (p : Int) : Int := ft (Ds (dn p) len) N
abbrev wb (dn : Int → Int → Int) (len N : Nat) (p : Int) : Int := fb (Ds (dn p) len) N
noncomputable abbrev lmk (dn : Int → Int → Int) (len N : Nat) (ha hb p : Int) : Int × Int := mkA (dn p) len ha hb (wa dn len N p) (wb dn len N p)
def DA (dn : Int → Int → Int) : Prop := ∀ p : Int, 0 ≤ p → p < 6 → DR (dn p)
/-- the state after t people were served -/
def LI (dn : Int → Int → Int) (len N t : Nat) (ha hb : Int) (sv : Int → Int) (pc : Nat → Int → Int) : Prop := 0 < hb ∧ 0 ≤ ha ∧ ha ≤ len * hb ∧ Nat.gcd ha.natAbs hb.natAbs = 1 ∧ (∃ D : Int, 0 < D ∧ D ≤ 6 * 12 ^ t ∧ hb ∣ D ∧ (N : Int) ∣ D) ∧ cu sv N + t = N ∧ (∀ p : Int, 0 ≤ p → p < N → sv p = 0 → N * Cw (dn p) ha hb len ≤ t * Ds (dn p) len * hb) ∧ ∀ p : Int, 0 ≤ p → p < N → sv p = 0 ∨ (sv p = 1 ∧ Ip (pc 0 p) (pc 1 p) (pc 2 p) (pc 3 p))
section LT
variable {dn : Int → Int → Int} {len N t : Nat} {ha hb : Int} {sv : Int → Int} {pc : Nat → Int → Int}
theorem Ds_bd {e : Int → Int} (hd : DR e) : ∀ {k : Nat}, k ≤ 16 → 0 ≤ Ds e k ∧ Ds e k ≤ 12 * k
  | 0, _ => by simp [Ds]
  | k + 1, h => by
    have i := Ds_bd hd (k := k) (by omega)
    have := hd k (by omega) (by omega)
    rw [Ds_s]
    omega
theorem wab (hd : DA dn) (hl : len ≤ 16) (hN : 1 ≤ N ∧ N ≤ 6) {p : Int} (hp : 0 ≤ p) (hp2 : p < N) : 0 < wb dn len N p ∧ wb dn len N p ≤ 6 ∧ 0 ≤ wa dn len N p ∧ wa dn len N p ≤ 192 * wb dn len N p ∧ wa dn len N p * N = Ds (dn p) len * wb dn len N p ∧ wb dn len N p ∣ (N : Int) := by
  have hn : (0 : Int) < N := by omega
  have b := Ds_bd (hd p hp (by omega)) hl
  have h1 : 0 < wb dn len N p := fb_pos (a := Ds (dn p) len) hn
  have h2 : wb dn len N p ≤ N := fb_le (a := Ds (dn p) len) hn
  have h3 : 0 ≤ wa dn len N p := ft_pos hn b.1
  have h4 := ft_x (a := Ds (dn p) len) hn
  refine ⟨h1, by omega, h3, ?_, h4, fb_dvd hn⟩
  have l1 : Ds (dn p) len * wb dn len N p ≤ 192 * wb dn len N p := Int.mul_le_mul_of_nonneg_right (by omega) (by omega)
  have l2 : wa dn len N p * 1 ≤ wa dn len N p * N := Int.mul_le_mul_of_nonneg_left (by omega) h3
  have l3 : wa dn len N p * N = Ds (dn p) len * wb dn len N p := h4
  omega
theorem lm_mk (hd : DA dn) (hl : len ≤ 16) (hN : 1 ≤ N ∧ N ≤ 6) (hI : LI dn len N t ha hb sv pc) (ht : t < N) {p : Int} (hp : 0 ≤ p) (hp2 : p < N) (hs : sv p = 0) : MK (dn p) len ha hb (wa dn len N p) (wb dn len N p) (lmk dn len N ha hb p).1 (lmk dn len N ha hb p).2 := by
  obtain ⟨i1, i2, i3, i4, i5, i6, i7, i8⟩ := hI
  obtain ⟨w1, w2, w3, w4, w5, w6⟩ := wab hd hl hN hp hp2
  refine mkA_ok (mk_ex w1 i1 w3 ?_)
  have c := i7 p hp hp2 hs
  have b := Ds_bd (hd p hp (by omega)) hl
  rw [Gs_C (by omega)]
  generalize Cw (dn p) ha hb len = C at c
  generalize Ds (dn p) len = W at c b w5
  generalize wa dn len N p = x at w3 w4 w5
  generalize wb dn len N p = y at w1 w2 w4 w5 w6
  have l0 : (t : Int) * W * hb ≤ (N - 1) * W * hb := by
    have : (t : Int) * W ≤ (N - 1) * W := Int.mul_le_mul_of_nonneg_right (by omega) b.1
    exact Int.mul_le_mul_of_nonneg_right this (by omega)
  have e0 : ((N : Int) - 1) * W * hb = N * (W * hb) - W * hb := by
    rw [Int.sub_mul, Int.sub_mul, Int.one_mul, Int.mul_assoc]
  have l1 : W * hb ≤ N * (hb * W - C) := by
    rw [Int.mul_sub, Int.mul_comm hb W]
    omega
  have l2 : W * hb * y ≤ N * (hb * W - C) * y := Int.mul_le_mul_of_nonneg_right l1 (by omega)
  have l3 : N * (x * hb) ≤ N * ((hb * W - C) * y) := by
    rw [show (N : Int) * (x * hb) = x * N * hb by ac_rfl, w5, show W * y * hb = W * hb * y by ac_rfl, ← Int.mul_assoc]
    exact l2
  exact Int.le_of_mul_le_mul_left l3 (by omega)
theorem pow12 : ∀ t : Nat, t ≤ 4 → (6 : Int) * 12 ^ t ≤ 200000 := by
  decide
theorem pow12' : ∀ t : Nat, t ≤ 5 → (6 : Int) * 12 ^ t ≤ 2000000 := by
  decide
/-- what is known of the marks of this round -/
theorem lm_all (hd : DA dn) (hl : len ≤ 16) (hN : 1 ≤ N ∧ N ≤ 6) (hI : LI dn len N t ha hb sv pc) (ht : t + 1 < N) {p : Int} (hp : 0 ≤ p) (hp2 : p < N) (hs : sv p = 0) : 0 < (lmk dn len N ha hb p).2 ∧ 0 ≤ (lmk dn len N ha hb p).1 ∧ (lmk dn len N ha hb p).1 ≤ len * (lmk dn len N ha hb p).2 ∧ ha * (lmk dn len N ha hb p).2 ≤ (lmk dn len N ha hb p).1 * hb ∧ Nat.gcd (lmk dn len N ha hb p).1.natAbs (lmk dn len N ha hb p).2.natAbs = 1 ∧ N * Cw (dn p) (lmk dn len N ha hb p).1 (lmk dn len N ha hb p).2 len ≤ (t + 1) * Ds (dn p) len * (lmk dn len N ha hb p).2 ∧ (∃ D : Int, 0 < D ∧ D ≤ 6 * 12 ^ (t + 1) ∧ (lmk dn len N ha hb p).2 ∣ D ∧ (N : Int) ∣ D) ∧ (lmk dn len N ha hb p).2 ≤ 2000000 := by
  have hM := lm_mk hd hl hN hI (by omega) hp hp2 hs
  obtain ⟨i1, i2, i3, i4, ⟨D, D1, D2, D3, D4⟩, i6, i7, i8⟩ := hI
  obtain ⟨w1, w2, w3, w4, w5, w6⟩ := wab hd hl hN hp hp2
  obtain ⟨m1, m2, m3, m4, m5, m6, m7, dd, m8, m9, m10⟩ := mk_all (hd p hp (by omega)) hl i1 w1 i2 i3 i4 hM
  have c := i7 p hp hp2 hs
  have hD := m10 D D1 D3 (Int.dvd_trans w6 D4)
  have p0 : (0 : Int) < 12 ^ t := Int.pow_pos (by omega)
  have D5 : D * dd ≤ 6 * 12 ^ (t + 1) := by
    have : D * dd ≤ 6 * 12 ^ t * 12 := Int.mul_le_mul D2 m9 (by omega) (by omega)
    rw [Int.pow_succ, ← Int.mul_assoc]
    exact this
  have D6 := Int.mul_pos D1 (show 0 < dd by omega)
  have D7 := Int.le_of_dvd D6 hD
  have D8 := pow12' (t + 1) (by omega)
  refine ⟨m1, m2, m3, m4, m5, ?_, ⟨D * dd, D6, D5, hD, ?_⟩, by omega⟩
  · generalize Cw (dn p) (lmk dn len N ha hb p).1 (lmk dn len N ha hb p).2 len = M at m6
    generalize Cw (dn p) ha hb len = C at c m6
    generalize Ds (dn p) len = W at c w5
    generalize wa dn len N p = x at w3 w4 w5 m6
    generalize wb dn len N p = y at w1 w2 w4 w5 w6 m6
    generalize (lmk dn len N ha hb p).2 = mb at m1 m6
    have e1 : N * M * (hb * y) = mb * ((N * C + W * hb) * y) := by
      rw [Int.mul_assoc, m6, Int.add_mul, show (N : Int) * (mb * (C * y + x * hb)) = mb * (N * (C * y) + x * N * hb) by rw [Int.mul_add, Int.mul_add, Int.mul_add]; congr 1 <;> ac_rfl, w5]
      congr 2
      · ac_rfl
      · ac_rfl
    have l1 : N * C + W * hb ≤ ((t : Int) + 1) * W * hb := by
      rw [Int.add_mul, Int.add_mul, Int.one_mul]
      omega
    have l2 : (N * C + W * hb) * y ≤ ((t : Int) + 1) * W * hb * y := Int.mul_le_mul_of_nonneg_right l1 (by omega)
    have l3 : mb * ((N * C + W * hb) * y) ≤ mb * (((t : Int) + 1) * W * hb * y) := Int.mul_le_mul_of_nonneg_left l2 (by omega)
    rw [← e1, show mb * (((t : Int) + 1) * W * hb * y) = ((t : Int) + 1) * W * mb * (hb * y) by ac_rfl] at l3
    exact Int.le_of_mul_le_mul_right l3 (Int.mul_pos i1 w1)
  · obtain ⟨k, hk⟩ := D4
    exact ⟨k * dd, by rw [hk]; ac_rfl⟩
/-- one is served -/
theorem lm_step (hd : DA dn) (hl : len ≤ 16) (hN : 1 ≤ N ∧ N ≤ 6) (hI : LI dn len N t ha hb sv pc) (ht : t + 1 < N) : ∃ b : Int, b = bs sv (fun p => lmk dn len N ha hb p) N ∧ 0 ≤ b ∧ b < N ∧ sv b = 0 ∧ LI dn len N (t + 1) (lmk dn len N ha hb b).1 (lmk dn len N ha hb b).2 (up sv b 1) (pcu pc b ha hb (lmk dn len N ha hb b).1 (lmk dn len N ha hb b).2) := by
  have hA := fun (p : Int) (h1 : 0 ≤ p) (h2 : p < N) (h3 : sv p = 0) => lm_all hd hl hN hI ht h1 h2 h3
  have hI' := hI
  obtain ⟨i1, i2, i3, i4, ⟨D, D1, D2, D3, D4⟩, i6, i7, i8⟩ := hI'
  refine ⟨_, rfl, ?_⟩
  rcases bs_bd (sv := sv) (m := fun p => lmk dn len N ha hb p) (N := N) (fun p h1 h2 h3 => (hA p h1 h2 h3).1) (n := N) (Nat.le_refl _) with ⟨b1, b2⟩ | ⟨b1, b2, b3, b4⟩
  · have := cu_none b2
    omega
  · generalize bs sv (fun p => lmk dn len N ha hb p) N = b at b1 b2 b3 b4
    obtain ⟨a1, a2, a3, a4, a5, a6, a7, a8⟩ := hA b b1 b2 b3
    have hbD := Int.le_of_dvd D1 D3
    have p4 := pow12 t (by omega)
    refine ⟨b1, b2, b3, a1, a2, a3, a5, a7, ?_, fun q q1 q2 q3 => ?_, fun q q1 q2 => ?_⟩
    · have := cu_up (sv := sv) b1 b3 (n := N)
      rw [if_pos b2] at this
      omega
    · have qb : q ≠ b := fun e => by
        rw [e, up_same] at q3
        omega
      rw [up_ne qb] at q3
      obtain ⟨c1, c2, c3, c4, c5, c6, c7, c8⟩ := hA q q1 q2 q3
      have l := b4 q q1 q2 q3
      have mo := Cw_mono (dn := dn q) (hd q q1 (by omega)) (U := (lmk dn len N ha hb q).2 * (lmk dn len N ha hb b).2) (X := (lmk dn len N ha hb q).2 * (lmk dn len N ha hb b).1) (Y := (lmk dn len N ha hb b).2 * (lmk dn len N ha hb q).1) (by have := Int.mul_pos c1 a1; omega) (by rw [Int.mul_comm, Int.mul_comm (lmk dn len N ha hb b).2]; exact l) (k := len) hl
      rw [Cw_c (by omega), Int.mul_comm (lmk dn len N ha hb q).2 (lmk dn len N ha hb b).2, Cw_c (by omega)] at mo
      generalize Cw (dn q) (lmk dn len N ha hb b).1 (lmk dn len N ha hb b).2 len = Mb at mo ⊢
      generalize Cw (dn q) (lmk dn len N ha hb q).1 (lmk dn len N ha hb q).2 len = Mq at mo c6
      generalize (lmk dn len N ha hb b).2 = y at mo a1 ⊢
      generalize (lmk dn len N ha hb q).2 = z at mo c1 c6
      generalize Ds (dn q) len = W at c6 ⊢
      have l1 : z * (N * Mb) ≤ y * (N * Mq) := by
        have := Int.mul_le_mul_of_nonneg_left mo (show (0 : Int) ≤ N by omega)
        rw [show z * (N * Mb) = N * (z * Mb) by ac_rfl, show y * (N * Mq) = N * (y * Mq) by ac_rfl]
        exact this
      have l2 : y * (N * Mq) ≤ y * ((t + 1) * W * z) := Int.mul_le_mul_of_nonneg_left c6 (by omega)
      have l3 : z * (N * Mb) ≤ z * (((t + 1 : Nat) : Int) * W * y) := by
        rw [show z * (((t + 1 : Nat) : Int) * W * y) = y * (((t : Int) + 1) * W * z) by rw [show ((t + 1 : Nat) : Int) = (t : Int) + 1 by omega]; ac_rfl]
        omega
      exact Int.le_of_mul_le_mul_left l3 c1
    · by_cases e : q = b
      · rw [e, up_same]
        refine .inr ⟨rfl, ?_⟩
        rw [pcu_b.1, pcu_b.2.1, pcu_b.2.2.1, pcu_b.2.2.2]
        have l16 : (len : Int) * hb ≤ 16 * hb := Int.mul_le_mul_of_nonneg_right (by omega) (by omega)
        have m16 : (len : Int) * (lmk dn len N ha hb b).2 ≤ 16 * (lmk dn len N ha hb b).2 := Int.mul_le_mul_of_nonneg_right (by omega) (by omega)
        exact ⟨i1, by omega, a1, a8, i2, by omega, a2, by omega, a4⟩
      · rw [up_ne e, pcu_ne e, pcu_ne e, pcu_ne e, pcu_ne e]
        exact i8 q q1 q2
end LT
