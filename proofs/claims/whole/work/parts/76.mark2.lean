/-! mark: the reference; what a mark is. -/
section MC
variable {X : List Value} {d : Nat} {A : MF} {dn : Int → Int} {len : Nat} {p : Int} {pa pb aa ab ma mb a b : Int}
theorem cmp_G {G x y : Int} (hpb : 0 < pb) (hab : 0 < ab) (hb : 0 < b) (hy : 0 < y) (hx : x * pb = G * y) (ha : a * ab = aa * b) : (G * ab < aa * pb → x * b < a * y) ∧ (aa * pb ≤ G * ab → a * y ≤ x * b) := by
  have e1 : x * b * (pb * ab) = G * ab * (y * b) := by
    rw [show x * b * (pb * ab) = x * pb * (b * ab) by ac_rfl, hx]
    ac_rfl
  have e2 : a * y * (pb * ab) = aa * pb * (y * b) := by
    rw [show a * y * (pb * ab) = a * ab * (y * pb) by ac_rfl, ha]
    ac_rfl
  have h0 : 0 < pb * ab := Int.mul_pos hpb hab
  have h1 : 0 < y * b := Int.mul_pos hy hb
  refine ⟨fun h => ?_, fun h => ?_⟩
  · have : G * ab * (y * b) < aa * pb * (y * b) := Int.mul_lt_mul_of_pos_right h h1
    rw [← e1, ← e2] at this
    exact Int.lt_of_mul_lt_mul_right this (by omega)
  · have : aa * pb * (y * b) ≤ G * ab * (y * b) := Int.mul_le_mul_of_nonneg_right h (by omega)
    rw [← e1, ← e2] at this
    exact Int.le_of_mul_le_mul_right this h0
theorem c104_k {k : Nat} (hd : DR dn) (hl : len ≤ 16) (hp : 0 ≤ p) (hp2 : p < 6) (hk : k < len) (hpb : 0 < pb) (hpb2 : pb ≤ 2000000) (hpa : 0 ≤ pa) (hpa2 : pa ≤ 16 * pb) (hA : A 77 15 = len) (hD : ∀ k : Int, 0 ≤ k → k < 16 → A 88 (16 * p + k) = dn k) : ∃ A' : MF, mm_E 1 (d + 3) 104 0 [(0, .ref 77), (1, mI p), (2, mJ pa), (4, mJ pb), (6, mJ ((k : Int) + 1)), (8, mJ 1)] [] (mm_w X A) (.inl none, mm_w X A', 0, 0) ∧ A' 77 24 = ft (Gs dn pa pb (k + 1)) pb ∧ A' 77 25 = fb (Gs dn pa pb (k + 1)) pb ∧ ∀ c k, (c ≠ 77 ∨ (k ≠ 24 ∧ k ≠ 25)) → A' c k = A c k := by
  obtain ⟨A', t1, t2, t3, t4⟩ := c104 (X := X) (d := d) (A := A) (dn := dn) (len := len) (p := p) (pa := pa) (pb := pb) (qa := (k : Int) + 1) (qb := 1) hd hl hp hp2 hpb hpb2 (by omega) (by omega) hpa hpa2 (by omega) (by omega) (fun j hj h1 h2 => by
    simp only [Int.mul_one] at h1 h2 ⊢
    have h3 : (j : Int) < (k : Int) + 1 := Int.lt_of_mul_lt_mul_right h2 (by omega)
    have h4 : ((j : Int) + 1) * pb ≤ ((k : Int) + 1) * pb := Int.mul_le_mul_of_nonneg_right (by omega) (by omega)
    omega) hA hD
  have e : wS dn len pa pb ((k : Int) + 1) 1 = Gs dn pa pb (k + 1) := by
    show wsm dn (pa * 1) (((k : Int) + 1) * pb) (pb * 1) len = _
    rw [Int.mul_one, Int.mul_one, wsm_G (by omega), show min len (k + 1) = k + 1 by omega]
  rw [e, Int.mul_one] at t2 t3
  exact ⟨A', t1, t2, t3, t4⟩
theorem c105_l {K : Nat} (hd : DR dn) (hl : len ≤ 16) (hp : 0 ≤ p) (hp2 : p < 6) (hpb : 0 < pb) (hpb2 : pb ≤ 200000) (hpa : 0 ≤ pa) (hpa2 : pa ≤ 16 * pb) (hab : 0 < ab) (hb : 0 < b) (hb2 : b ≤ 200000000) (ha0 : 0 < a) (ha : a * ab = aa * b) (ha2 : a ≤ 192 * b) (hK : K < len) (m3 : Gs dn pa pb K * ab < aa * pb) (m4 : aa * pb ≤ Gs dn pa pb (K + 1) * ab) : ∀ (n k : Nat) (A : MF), k + n = K → A 77 15 = len → (∀ k : Int, 0 ≤ k → k < 16 → A 88 (16 * p + k) = dn k) → ∃ A' : MF, mm_E 1 (d + 4) 105 18 [(0, .ref 77), (1, mI p), (2, mJ pa), (4, mJ pb), (6, mJ a), (8, mJ b), (10, mI k)] [] (mm_w X A) (.inl none, mm_w X A', 0, 0) ∧ A' 77 24 = ft (((K : Int) + 1) * (ab * pb * dn K) - Gs dn pa pb (K + 1) * ab + aa * pb) (ab * pb * dn K) ∧ A' 77 25 = fb (((K : Int) + 1) * (ab * pb * dn K) - Gs dn pa pb (K + 1) * ab + aa * pb) (ab * pb * dn K) ∧ ∀ c k, (c ≠ 77 ∨ (k ≠ 24 ∧ k ≠ 25)) → A' c k = A c k
  | n, k, A, h, hA, hD => by
    obtain ⟨A0, i1, i2, i3, i4⟩ := c104_k (X := X) (d := d) (A := A) (k := k) hd hl hp hp2 (by omega) hpb (by omega) hpa hpa2 hA hD
    have hx := ft_x (a := Gs dn pa pb (k + 1)) hpb
    have hy := fb_pos (a := Gs dn pa pb (k + 1)) hpb
    have hy2 := fb_le (a := Gs dn pa pb (k + 1)) hpb
    have gb := Gs_bd (F := pa) (U := pb) (k := k + 1) hd (by omega) (by omega)
    have gb2 : 12 * pb * ((k + 1 : Nat) : Int) ≤ 12 * pb * 16 := Int.mul_le_mul_of_nonneg_left (by omega) (by omega)
    have hx0 := ft_pos hpb gb.1
    have hx1 := ft_abs (a := Gs dn pa pb (k + 1)) (b := pb)
    obtain ⟨c1, c2⟩ := cmp_G (G := Gs dn pa pb (k + 1)) hpb hab hb hy hx ha
    have eP := kU (U := pb) k
    have P1 : (k : Int) * pb ≤ 16 * pb := Int.mul_le_mul_of_nonneg_right (by omega) (by omega)
    have P2 : 0 ≤ (k : Int) * pb := Int.mul_nonneg (by omega) (by omega)
    rw [← i2] at hx hx0 hx1 c1 c2
    rw [← i3] at hx hy hy2 c1 c2
    have xb0 : 0 ≤ A0 77 24 * b := Int.mul_nonneg hx0 (by omega)
    have xb1 : A0 77 24 * b ≤ 40000000 * 200000000 := Int.mul_le_mul (by omega) hb2 (by omega) (by omega)
    have ay0 : 0 ≤ a * A0 77 25 := Int.mul_nonneg (by omega) (by omega)
    have ay1 : a * A0 77 25 ≤ 40000000000 * 200000 := Int.mul_le_mul (by omega) (by omega) (by omega) (by omega)
    match n, h with
    | 0, h =>
      have e : k = K := by omega
      subst e
      obtain ⟨d1, d2, d3, d4⟩ := mk_d hd hl hab hK m3 m4
      have c3 := c2 m4
      have hk := hD k (by omega) (by omega)
      have by0 : 0 < b * A0 77 25 := Int.mul_pos hb hy
      have by1 : b * A0 77 25 ≤ 200000000 * 200000 := Int.mul_le_mul hb2 (by omega) (by omega) (by omega)
      have bd0 : 0 < b * A0 77 25 * dn k := Int.mul_pos by0 (by omega)
      have bd1 : b * A0 77 25 * dn k ≤ 200000000 * 200000 * 12 := Int.mul_le_mul by1 d2 (by omega) (by omega)
      have bk0 : ((k : Int) + 1) * (b * A0 77 25 * dn k) ≤ 16 * (b * A0 77 25 * dn k) := Int.mul_le_mul_of_nonneg_right (by omega) (by omega)
      have bk1 : 0 ≤ ((k : Int) + 1) * (b * A0 77 25 * dn k) := Int.mul_nonneg (by omega) (by omega)
      have s1 := c102 (X := X) (d := d + 2) (A := A0) (y := (k : Int) + 1) (b := 1) (by omega) (by omega) (by omega)
      have es := ft_eq (a := (k : Int) + 1) (b := 1) (c := ((k : Int) + 1) * (b * A0 77 25 * dn k)) (e := b * A0 77 25 * dn k) (by omega) bd0 (by rw [Int.mul_one])
      rw [es.1, es.2] at s1
      obtain ⟨A2, j1, j2, j3, j4⟩ := c103 (X := X) (d := d + 1) (A := mm_u (mm_u A0 77 24 (ft (((k : Int) + 1) * (b * A0 77 25 * dn k)) (b * A0 77 25 * dn k))) 77 25 (fb (((k : Int) + 1) * (b * A0 77 25 * dn k)) (b * A0 77 25 * dn k))) (s := ((k : Int) + 1) * (b * A0 77 25 * dn k)) (t := -(A0 77 24 * b - a * A0 77 25)) (U := b * A0 77 25 * dn k) (a := -(A0 77 24 * b - a * A0 77 25)) (b := b * A0 77 25 * dn k) bd0 (by omega) bd0 ⟨1, (Int.mul_one _).symm⟩ (Int.mul_comm _ _) (by omega) (by rw [mm_u_ne (by omega), mm_u_same]) mm_u_same
      have hE := ft_eq (a := ((k : Int) + 1) * (b * A0 77 25 * dn k) + -(A0 77 24 * b - a * A0 77 25)) (b := b * A0 77 25 * dn k) (c := ((k : Int) + 1) * (ab * pb * dn k) - Gs dn pa pb (k + 1) * ab + aa * pb) (e := ab * pb * dn k) bd0 (Int.mul_pos (Int.mul_pos hab hpb) (by omega)) (by
        generalize hG : Gs dn pa pb (k + 1) = G at hx
        generalize A0 77 24 = x at hx
        generalize A0 77 25 = y at hx
        generalize dn k = dk
        generalize (k : Int) + 1 = k1
        rw [show k1 * (b * y * dk) + -(x * b - a * y) = k1 * (b * y * dk) - x * b + a * y by omega, Int.add_mul, Int.add_mul, show a * y * (ab * pb * dk) = aa * pb * (b * y * dk) by rw [show a * y * (ab * pb * dk) = a * ab * (y * pb * dk) by ac_rfl, ha]; ac_rfl]
        congr 1
        rw [Int.sub_mul, Int.sub_mul]
        congr 1
        · ac_rfl
        · rw [show x * b * (ab * pb * dk) = x * pb * (b * ab * dk) by ac_rfl, hx]
          ac_rfl)
      rw [hE.1] at j2
      rw [hE.2] at j3
      have h88 : A0 88 (16 * p + k) = dn k := by rw [i4 _ _ (by omega), hk]
      refine ⟨A2, p105_18_3 (d := d + 3) i1 s1 ?_ ?_, j2, j3, fun c k hc => by rw [j4 c k hc, mm_u2_ne (by omega) (by omega), i4 c k hc]⟩
      · rw [h88]
        exact j1
      · rw [h88]
        omega
    | n + 1, h =>
      have gm : Gs dn pa pb (k + 1) ≤ Gs dn pa pb K := by
        have := Gs_mono (F := pa) (U := pb) (a := k + 1) (b := n) hd (by omega)
        rw [show k + 1 + n = K by omega] at this
        exact this
      have gm2 : Gs dn pa pb (k + 1) * ab ≤ Gs dn pa pb K * ab := Int.mul_le_mul_of_nonneg_right gm (by omega)
      have c3 := c1 (by omega)
      obtain ⟨A', t1, t2, t3, t4⟩ := c105_l hd hl hp hp2 hpb hpb2 hpa hpa2 hab hb hb2 ha0 ha ha2 hK m3 m4 n (k + 1) A0 (by omega) (by rw [i4 _ _ (by omega), hA]) (fun k k1 k2 => by rw [i4 _ _ (by omega)]; exact hD k k1 k2)
      rw [show ((k + 1 : Nat) : Int) = (k : Int) + 1 by omega] at t1
      refine ⟨A', ?_, t2, t3, fun c k hc => by rw [t4 c k hc, i4 c k hc]⟩
      by_cases c4 : ((k : Int) + 1) * pb ≤ pa
      · exact p105_18_1 i1 (by omega) t1
      · exact p105_18_2 i1 (by omega) t1
theorem c105 (hd : DR dn) (hl : len ≤ 16) (hp : 0 ≤ p) (hp2 : p < 6) (hpb : 0 < pb) (hpb2 : pb ≤ 200000) (hpa : 0 ≤ pa) (hpa2 : pa ≤ 16 * pb) (hrd : Nat.gcd pa.natAbs pb.natAbs = 1) (hab : 0 < ab) (haa : 0 ≤ aa) (haa2 : aa ≤ 192 * ab) (hb : 0 < b) (hb2 : b ≤ 200000000) (ha : a * ab = aa * b) (hA : A 77 15 = len) (hD : ∀ k : Int, 0 ≤ k → k < 16 → A 88 (16 * p + k) = dn k) (hM : MK dn len pa pb aa ab ma mb) : ∃ A' : MF, mm_E 1 (d + 4) 105 0 [(0, .ref 77), (1, mI p), (2, mJ pa), (4, mJ pb), (6, mJ a), (8, mJ b)] [] (mm_w X A) (.inl none, mm_w X A', 0, 0) ∧ A' 77 24 = ma ∧ A' 77 25 = mb ∧ ∀ c k, (c ≠ 77 ∨ (k ≠ 24 ∧ k ≠ 25)) → A' c k = A c k := by
  have a0 : 0 ≤ a := by
    have : 0 * ab ≤ a * ab := by rw [ha, Int.zero_mul]; exact Int.mul_nonneg haa (by omega)
    exact Int.le_of_mul_le_mul_right this hab
  have a2 : a ≤ 192 * b := by
    have : a * ab ≤ 192 * b * ab := by
      rw [ha]
      have := Int.mul_le_mul_of_nonneg_right haa2 (show (0 : Int) ≤ b by omega)
      rw [show 192 * b * ab = 192 * ab * b by ac_rfl]
      exact this
    exact Int.le_of_mul_le_mul_right this hab
  rcases hM with ⟨m1, m2, m3⟩ | ⟨m1, K, m2, m3, m4, m5, m6⟩
  · have az : a = 0 := by
      rw [m1, Int.zero_mul] at ha
      rcases Int.mul_eq_zero.mp ha with k | k
      · exact k
      · omega
    have s0 := c102 (X := X) (d := d + 2) (A := A) (y := pa) (b := pb) (by omega) hpb (by omega)
    rw [(ft_red hpb hrd).1, (ft_red hpb hrd).2] at s0
    exact ⟨_, p105_0_1 s0 (by omega), by rw [mm_u_ne (by omega), mm_u_same, m2], by rw [mm_u_same, m3], fun c k hc => mm_u2_ne (by omega) (by omega)⟩
  · have ap : 0 < a := by
      have : 0 * ab < a * ab := by rw [ha, Int.zero_mul]; exact Int.mul_pos m1 hb
      exact Int.lt_of_mul_lt_mul_right this (by omega)
    obtain ⟨A', t1, t2, t3, t4⟩ := c105_l (X := X) (d := d) hd hl hp hp2 hpb hpb2 hpa hpa2 hab hb hb2 ap ha a2 m2 m3 m4 K 0 A (by omega) hA hD
    exact ⟨A', p105_0_0 (by omega) t1, by rw [t2, m5], by rw [t3, m6], t4⟩
/-! what a mark is -/
theorem Cw_at {U Y : Int} {K : Nat} (h1 : (K : Int) * U ≤ Y) (h2 : Y ≤ ((K : Int) + 1) * U) (hU : 0 ≤ U) : ∀ {n : Nat}, (n ≤ K → Cw dn Y U n = U * Ds dn n) ∧ (K < n → Cw dn Y U n = U * Ds dn K + (Y - (K : Int) * U) * dn K)
  | 0 => ⟨fun _ => (Int.mul_zero _).symm, fun h => by omega⟩
  | n + 1 => by
    obtain ⟨i1, i2⟩ := Cw_at h1 h2 hU (n := n)
    have e1 := kU (U := U) n
    have e2 := kU (U := U) K
    rw [Cw_s]
    refine ⟨fun h => ?_, fun h => ?_⟩
    · have l : ((n : Int) + 1) * U ≤ (K : Int) * U := Int.mul_le_mul_of_nonneg_right (by omega) hU
      rw [i1 (by omega), Ds_s, Int.mul_add, show cl Y U n = U by unfold cl; omega]
    · by_cases e : n = K
      · subst e
        rw [i1 (by omega), show cl Y U n = Y - (n : Int) * U by unfold cl; omega]
      · have l : ((K : Int) + 1) * U ≤ (n : Int) * U := Int.mul_le_mul_of_nonneg_right (by omega) hU
        rw [i2 (by omega), show cl Y U n = 0 by unfold cl; omega, Int.zero_mul, Int.add_zero]
theorem Cw_end {U Y : Int} {j : Nat} (h : Y ≤ (j : Int) * U) (hU : 0 ≤ U) : ∀ {n : Nat}, Cw dn Y U (j + n) = Cw dn Y U j
  | 0 => rfl
  | n + 1 => by
    have e1 := kU (U := U) (j + n)
    have l : (j : Int) * U ≤ ((j + n : Nat) : Int) * U := Int.mul_le_mul_of_nonneg_right (by omega) hU
    rw [← Nat.add_assoc, Cw_s, Cw_end h hU, show cl Y U (j + n) = 0 by unfold cl; omega, Int.zero_mul, Int.add_zero]
theorem Cw_lt (hd : DR dn) {U Y Z : Int} {K : Nat} (hU : 0 ≤ U) (hz : Z < Y) (h1 : (K : Int) * U < Y) (h2 : Y ≤ ((K : Int) + 1) * U) (hdk : 1 ≤ dn K) : ∀ {n : Nat}, n ≤ 16 → K < n → Cw dn Z U n < Cw dn Y U n
  | 0, _, h => by omega
  | n + 1, hn, h => by
    have b := hd n (by omega) (by omega)
    rw [Cw_s, Cw_s]
    by_cases e : n = K
    · subst e
      have m := Cw_mono (dn := dn) hd hU (Int.le_of_lt hz) (k := n) (by omega)
      have l : cl Z U n < cl Y U n := by unfold cl; omega
      have l2 : cl Z U n * dn n < cl Y U n * dn n := Int.mul_lt_mul_of_pos_right l (by omega)
      omega
    · have i := Cw_lt hd hU hz h1 h2 hdk (n := n) (by omega) (by omega)
      have l2 : cl Z U n * dn n ≤ cl Y U n * dn n := Int.mul_le_mul_of_nonneg_right (cl_mono hU (Int.le_of_lt hz)) b.1
      omega
theorem mk_p (hd : DR dn) (hl : len ≤ 16) (hpb : 0 < pb) (hab : 0 < ab) (hpa : 0 ≤ pa) {K : Nat} (hK : K < len) (m3 : Gs dn pa pb K * ab < aa * pb) (m4 : aa * pb ≤ Gs dn pa pb (K + 1) * ab) : 1 ≤ dn K ∧ dn K ≤ 12 ∧ 0 < ab * pb * dn K ∧ (K : Int) * (ab * pb * dn K) < ((K : Int) + 1) * (ab * pb * dn K) - Gs dn pa pb (K + 1) * ab + aa * pb ∧ ((K : Int) + 1) * (ab * pb * dn K) - Gs dn pa pb (K + 1) * ab + aa * pb ≤ ((K : Int) + 1) * (ab * pb * dn K) ∧ pa * (ab * pb * dn K) ≤ (((K : Int) + 1) * (ab * pb * dn K) - Gs dn pa pb (K + 1) * ab + aa * pb) * pb ∧ Cw dn (((K : Int) + 1) * (ab * pb * dn K) - Gs dn pa pb (K + 1) * ab + aa * pb) (ab * pb * dn K) len = dn K * (Cw dn pa pb len * ab + aa * pb) := by
  obtain ⟨d1, d2, d3, d4⟩ := mk_d hd hl hab hK m3 m4
  have q0 : 0 < ab * pb * dn K := Int.mul_pos (Int.mul_pos hab hpb) (by omega)
  have w : Gs dn pa pb (K + 1) * ab = Gs dn pa pb K * ab + (((K : Int) + 1) * (ab * pb * dn K) - max pa ((K : Int) * pb) * (ab * dn K)) := by
    rw [d4, Int.add_mul, Int.sub_mul, Int.sub_mul]
    congr 2
    · ac_rfl
    · ac_rfl
  have mx : (K : Int) * (ab * pb * dn K) ≤ max pa ((K : Int) * pb) * (ab * dn K) := by
    have : (K : Int) * pb * (ab * dn K) ≤ max pa ((K : Int) * pb) * (ab * dn K) := Int.mul_le_mul_of_nonneg_right (by omega) (Int.mul_nonneg (by omega) (by omega))
    rw [show (K : Int) * (ab * pb * dn K) = (K : Int) * pb * (ab * dn K) by ac_rfl]
    exact this
  have mp : pa * (ab * dn K) ≤ max pa ((K : Int) * pb) * (ab * dn K) := Int.mul_le_mul_of_nonneg_right (by omega) (Int.mul_nonneg (by omega) (by omega))
  have h1 : (K : Int) * (ab * pb * dn K) < ((K : Int) + 1) * (ab * pb * dn K) - Gs dn pa pb (K + 1) * ab + aa * pb := by omega
  have h2 : ((K : Int) + 1) * (ab * pb * dn K) - Gs dn pa pb (K + 1) * ab + aa * pb ≤ ((K : Int) + 1) * (ab * pb * dn K) := by omega
  refine ⟨d1, d2, q0, h1, h2, ?_, ?_⟩
  · have : pa * (ab * dn K) * pb ≤ (((K : Int) + 1) * (ab * pb * dn K) - Gs dn pa pb (K + 1) * ab + aa * pb) * pb := Int.mul_le_mul_of_nonneg_right (by omega) (by omega)
    rw [show pa * (ab * pb * dn K) = pa * (ab * dn K) * pb by ac_rfl]
    exact this
  · rw [(Cw_at (dn := dn) (Int.le_of_lt h1) h2 (by omega) (n := len)).2 hK]
    have c1 := Gs_C (dn := dn) (F := pa) (U := pb) (k := K + 1) (by omega)
    have c2 := Cw_end (dn := dn) (U := pb) (Y := pa) (j := K + 1) (by rw [show ((K + 1 : Nat) : Int) = (K : Int) + 1 by omega]; omega) (by omega) (n := len - (K + 1))
    rw [show K + 1 + (len - (K + 1)) = len by omega] at c2
    rw [c1, Ds_s, ← c2, kU]
    generalize Cw dn pa pb len = C
    generalize Ds dn K = D
    generalize dn K = dk
    generalize hk : (K : Int) * (ab * pb * dk) = kq
    have f1 : (pb * (D + dk) - C) * ab = pb * D * ab + ab * pb * dk - C * ab := by
      rw [Int.sub_mul, Int.mul_add, Int.add_mul, show pb * dk * ab = ab * pb * dk by ac_rfl]
    have f2 : kq + ab * pb * dk - (pb * (D + dk) - C) * ab + aa * pb - kq = C * ab + aa * pb - pb * D * ab := by
      rw [f1]
      omega
    rw [f2, Int.sub_mul, show pb * D * ab * dk = ab * pb * dk * D by ac_rfl, Int.mul_comm dk]
    omega
/-- what is known of a mark -/
theorem mk_all (hd : DR dn) (hl : len ≤ 16) (hpb : 0 < pb) (hab : 0 < ab) (hpa : 0 ≤ pa) (hpa2 : pa ≤ len * pb) (hrd : Nat.gcd pa.natAbs pb.natAbs = 1) (hM : MK dn len pa pb aa ab ma mb) : 0 < mb ∧ 0 ≤ ma ∧ ma ≤ len * mb ∧ pa * mb ≤ ma * pb ∧ Nat.gcd ma.natAbs mb.natAbs = 1 ∧ Cw dn ma mb len * (pb * ab) = mb * (Cw dn pa pb len * ab + aa * pb) ∧ (∀ xa xb : Int, 0 < xb → xa * mb < ma * xb → pa * xb ≤ xa * pb → Cw dn xa xb len * mb < Cw dn ma mb len * xb) ∧ ∃ dd : Int, 1 ≤ dd ∧ dd ≤ 12 ∧ ∀ D : Int, 0 < D → pb ∣ D → ab ∣ D → mb ∣ D * dd := by
  rcases hM with ⟨m1, m2, m3⟩ | ⟨m1, K, m2, m3, m4, m5, m6⟩
  · subst m2
    subst m3
    refine ⟨hpb, hpa, hpa2, Int.le_refl _, hrd, ?_, fun xa xb h1 h2 h3 => by omega, 1, by omega, by omega, fun D hD h1 h2 => by rw [Int.mul_one]; exact h1⟩
    rw [m1, Int.zero_mul, Int.add_zero]
    ac_rfl
  · obtain ⟨d1, d2, q0, k1, k2, k3, k4⟩ := mk_p hd hl hpb hab hpa m2 m3 m4
    generalize hP : ((K : Int) + 1) * (ab * pb * dn K) - Gs dn pa pb (K + 1) * ab + aa * pb = P at m5 m6 k1 k2 k3 k4
    generalize hQ : ab * pb * dn K = Q at m5 m6 k1 k2 k3 k4 q0
    obtain ⟨g, g0, g1, g2, g3, g4⟩ := fr_f (a := P) q0
    rw [← m5] at g1 g4
    rw [← m6] at g2 g3 g4
    have P0 : 0 ≤ P := by
      have : 0 ≤ (K : Int) * Q := Int.mul_nonneg (by omega) (by omega)
      omega
    have cP : Cw dn P Q len = g * Cw dn ma mb len := by rw [← g1, ← g2]; exact Cw_c (by omega)
    refine ⟨g3, ?_, ?_, ?_, g4, ?_, fun xa xb h1 h2 h3 => ?_, dn K, d1, d2, fun D hD h1 h2 => ?_⟩
    · rw [m5]
      exact ft_pos q0 P0
    · have : g * ma ≤ g * (((K : Int) + 1) * mb) := by
        rw [g1, show g * (((K : Int) + 1) * mb) = ((K : Int) + 1) * (g * mb) by ac_rfl, g2]
        exact k2
      have l := Int.le_of_mul_le_mul_left this g0
      have l2 : ((K : Int) + 1) * mb ≤ len * mb := Int.mul_le_mul_of_nonneg_right (by omega) (by omega)
      omega
    · have : g * (pa * mb) ≤ g * (ma * pb) := by
        rw [show g * (pa * mb) = pa * (g * mb) by ac_rfl, g2, ← Int.mul_assoc, g1]
        exact k3
      exact Int.le_of_mul_le_mul_left this g0
    · have : g * (Cw dn ma mb len * (pb * ab)) = g * (mb * (Cw dn pa pb len * ab + aa * pb)) := by
        rw [← Int.mul_assoc, ← cP, k4, ← Int.mul_assoc g mb, g2, ← hQ]
        ac_rfl
      exact Int.eq_of_mul_eq_mul_left (by omega) this
    · have e1 : xa * Q < P * xb := by
        rw [← g1, ← g2, show xa * (g * mb) = xa * mb * g by ac_rfl, show g * ma * xb = ma * xb * g by ac_rfl]
        exact Int.mul_lt_mul_of_pos_right h2 g0
      have l := Cw_lt (dn := dn) hd (U := xb * Q) (Y := xb * P) (Z := Q * xa) (K := K) (by have := Int.mul_pos h1 q0; omega) (by rw [Int.mul_comm Q xa, Int.mul_comm xb P]; exact e1) (by
        rw [show (K : Int) * (xb * Q) = xb * ((K : Int) * Q) by ac_rfl]
        exact Int.mul_lt_mul_of_pos_left k1 h1) (by
        rw [show ((K : Int) + 1) * (xb * Q) = xb * (((K : Int) + 1) * Q) by ac_rfl]
        exact Int.mul_le_mul_of_nonneg_left k2 (by omega)) d1 (n := len) hl m2
      rw [Cw_c (by omega), cP, Int.mul_comm xb Q, Cw_c (by omega), ← g2] at l
      have : g * (Cw dn xa xb len * mb) < g * (Cw dn ma mb len * xb) := by
        rw [show g * (Cw dn xa xb len * mb) = g * mb * Cw dn xa xb len by ac_rfl, show g * (Cw dn ma mb len * xb) = xb * (g * Cw dn ma mb len) by ac_rfl]
        exact l
      exact Int.lt_of_mul_lt_mul_left this (by omega)
    · obtain ⟨s, hs⟩ := h1
      obtain ⟨t, ht⟩ := h2
      have hE := ft_eq (a := P) (b := Q) (c := ((K : Int) + 1) * (D * dn K) - Gs dn pa pb (K + 1) * s + aa * t) (e := D * dn K) q0 (Int.mul_pos hD (by omega)) (by
        rw [← hP, ← hQ]
        generalize Gs dn pa pb (K + 1) = G
        generalize dn K = dk
        generalize (K : Int) + 1 = kk
        rw [Int.add_mul, Int.add_mul, Int.sub_mul, Int.sub_mul, show G * ab * (D * dk) = G * s * (ab * pb * dk) by rw [hs]; ac_rfl, show aa * pb * (D * dk) = aa * t * (ab * pb * dk) by rw [ht]; ac_rfl]
        congr 2
        ac_rfl)
      rw [m6, hE.2]
      exact fb_dvd (Int.mul_pos hD (by omega))
end MC
