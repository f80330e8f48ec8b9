/-! mark. -/
def Gs (dn : Int → Int) (F U : Int) : Nat → Int
  | 0 => 0
  | k + 1 => Gs dn F U k + max 0 (((k : Int) + 1) * U - max F ((k : Int) * U)) * dn k
def Ds (dn : Int → Int) : Nat → Int
  | 0 => 0
  | k + 1 => Ds dn k + dn k
section MA
variable {dn : Int → Int} {F U : Int}
theorem Gs_s {k : Nat} : Gs dn F U (k + 1) = Gs dn F U k + max 0 (((k : Int) + 1) * U - max F ((k : Int) * U)) * dn k := rfl
theorem Ds_s {k : Nat} : Ds dn (k + 1) = Ds dn k + dn k := rfl
theorem Gs_C (hU : 0 ≤ U) : ∀ {k : Nat}, Gs dn F U k = U * Ds dn k - Cw dn F U k
  | 0 => by simp [Gs, Ds, Cw]
  | k + 1 => by
    have e := kU (U := U) k
    rw [Gs_s, Ds_s, Cw_s, Gs_C hU (k := k), show max 0 (((k : Int) + 1) * U - max F ((k : Int) * U)) = U - cl F U k by unfold cl; omega, Int.sub_mul, Int.mul_add]
    omega
theorem Gs_c {c : Int} (hc : 0 ≤ c) : ∀ {k : Nat}, Gs dn (c * F) (c * U) k = c * Gs dn F U k
  | 0 => (Int.mul_zero _).symm
  | k + 1 => by
    rw [Gs_s, Gs_s, Gs_c hc]
    have e : max 0 (((k : Int) + 1) * (c * U) - max (c * F) ((k : Int) * (c * U))) = c * max 0 (((k : Int) + 1) * U - max F ((k : Int) * U)) := by
      rw [show ((k : Int) + 1) * (c * U) = c * (((k : Int) + 1) * U) by ac_rfl, show (k : Int) * (c * U) = c * ((k : Int) * U) by ac_rfl, max_c hc, ← Int.mul_sub]
      have := max_c (c := c) (x := 0) (y := ((k : Int) + 1) * U - max F ((k : Int) * U)) hc
      rw [Int.mul_zero] at this
      exact this
    rw [e, Int.mul_add, Int.mul_assoc]
theorem Gs_step (hd : DR dn) {k : Nat} (hk : k < 16) : Gs dn F U k ≤ Gs dn F U (k + 1) := by
  have : 0 ≤ max 0 (((k : Int) + 1) * U - max F ((k : Int) * U)) * dn k := Int.mul_nonneg (by omega) (hd k (by omega) (by omega)).1
  rw [Gs_s]
  omega
theorem Gs_mono (hd : DR dn) {a : Nat} : ∀ {b : Nat}, a + b ≤ 16 → Gs dn F U a ≤ Gs dn F U (a + b)
  | 0, _ => Int.le_refl _
  | b + 1, h => Int.le_trans (Gs_mono hd (b := b) (by omega)) (Gs_step hd (by omega))
theorem Gs_bd (hd : DR dn) (hU : 0 ≤ U) : ∀ {k : Nat}, k ≤ 16 → 0 ≤ Gs dn F U k ∧ Gs dn F U k ≤ 12 * U * k
  | 0, _ => by simp [Gs]
  | k + 1, hk => by
    have i := Gs_bd hd hU (k := k) (by omega)
    have e0 := kU (U := U) k
    have b : 0 ≤ max 0 (((k : Int) + 1) * U - max F ((k : Int) * U)) ∧ max 0 (((k : Int) + 1) * U - max F ((k : Int) * U)) ≤ U := by omega
    have b2 := hd k (by omega) (by omega)
    have l1 : 0 ≤ max 0 (((k : Int) + 1) * U - max F ((k : Int) * U)) * dn k := Int.mul_nonneg b.1 b2.1
    have l2 : max 0 (((k : Int) + 1) * U - max F ((k : Int) * U)) * dn k ≤ U * 12 := Int.mul_le_mul b.2 b2.2 b2.1 hU
    have e : 12 * U * ((k + 1 : Nat) : Int) = 12 * U * k + 12 * U := by
      rw [show ((k + 1 : Nat) : Int) = (k : Int) + 1 by omega, Int.mul_add, Int.mul_one]
    rw [Gs_s, e]
    omega
theorem wsm_G (hU : 0 ≤ U) {K : Nat} : ∀ {n : Nat}, wsm dn F (((K : Int) + 1) * U) U n = Gs dn F U (min n (K + 1))
  | 0 => by
    rw [Nat.zero_min]
    rfl
  | n + 1 => by
    have e1 := kU (U := U) n
    have e2 := kU (U := U) K
    rw [wsm_s, wsm_G hU (n := n)]
    by_cases c : n ≤ K
    · have l : (n : Int) * U ≤ (K : Int) * U := Int.mul_le_mul_of_nonneg_right (by omega) hU
      rw [show min n (K + 1) = n by omega, show min (n + 1) (K + 1) = n + 1 by omega, Gs_s, show min (((K : Int) + 1) * U) (((n : Int) + 1) * U) = ((n : Int) + 1) * U by omega]
    · have l : ((K : Int) + 1) * U ≤ (n : Int) * U := Int.mul_le_mul_of_nonneg_right (by omega) hU
      rw [show min n (K + 1) = K + 1 by omega, show min (n + 1) (K + 1) = K + 1 by omega, show max 0 (min (((K : Int) + 1) * U) (((n : Int) + 1) * U) - max F ((n : Int) * U)) = 0 by omega, Int.zero_mul, Int.add_zero]
end MA
/-- where the mark lies -/
def MK (dn : Int → Int) (len : Nat) (pa pb aa ab ma mb : Int) : Prop := (aa = 0 ∧ ma = pa ∧ mb = pb) ∨ (0 < aa ∧ ∃ K : Nat, K < len ∧ Gs dn pa pb K * ab < aa * pb ∧ aa * pb ≤ Gs dn pa pb (K + 1) * ab ∧ ma = ft (((K : Int) + 1) * (ab * pb * dn K) - Gs dn pa pb (K + 1) * ab + aa * pb) (ab * pb * dn K) ∧ mb = fb (((K : Int) + 1) * (ab * pb * dn K) - Gs dn pa pb (K + 1) * ab + aa * pb) (ab * pb * dn K))
section MB
variable {X : List Value} {d : Nat} {A : MF} {dn : Int → Int} {len : Nat} {p : Int} {pa pb aa ab ma mb : Int}
theorem mk_ex (hab : 0 < ab) (hpb : 0 < pb) (ha : 0 ≤ aa) (hr : aa * pb ≤ Gs dn pa pb len * ab) : ∃ ma mb, MK dn len pa pb aa ab ma mb := by
  by_cases c : aa = 0
  · exact ⟨pa, pb, .inl ⟨c, rfl, rfl⟩⟩
  · have h0 : 0 < aa * pb := Int.mul_pos (by omega) hpb
    have f : ∀ n : Nat, n ≤ len → aa * pb ≤ Gs dn pa pb n * ab → ∃ K : Nat, K < n ∧ Gs dn pa pb K * ab < aa * pb ∧ aa * pb ≤ Gs dn pa pb (K + 1) * ab := by
      intro n
      induction n with
      | zero =>
        intro _ h
        have : Gs dn pa pb 0 * ab = 0 := Int.zero_mul _
        omega
      | succ n ih =>
        intro hn h
        by_cases c2 : aa * pb ≤ Gs dn pa pb n * ab
        · obtain ⟨K, k1, k2, k3⟩ := ih (by omega) c2
          exact ⟨K, by omega, k2, k3⟩
        · exact ⟨n, by omega, by omega, h⟩
    obtain ⟨K, k1, k2, k3⟩ := f len (Nat.le_refl _) hr
    exact ⟨_, _, .inr ⟨by omega, K, k1, k2, k3, rfl, rfl⟩⟩
theorem mk_d (hd : DR dn) (hl : len ≤ 16) (hab : 0 < ab) {K : Nat} (hK : K < len) (h1 : Gs dn pa pb K * ab < aa * pb) (h2 : aa * pb ≤ Gs dn pa pb (K + 1) * ab) : 1 ≤ dn K ∧ dn K ≤ 12 ∧ max pa ((K : Int) * pb) < ((K : Int) + 1) * pb ∧ Gs dn pa pb (K + 1) = Gs dn pa pb K + (((K : Int) + 1) * pb - max pa ((K : Int) * pb)) * dn K := by
  have b := hd K (by omega) (by omega)
  have l : Gs dn pa pb K < Gs dn pa pb (K + 1) := Int.lt_of_mul_lt_mul_right (by omega) (show (0 : Int) ≤ ab by omega)
  rw [Gs_s] at l ⊢
  have hm : 0 < max 0 (((K : Int) + 1) * pb - max pa ((K : Int) * pb)) * dn K := by omega
  have h3 : 0 < dn K := by
    by_cases c : dn K = 0
    · rw [c, Int.mul_zero] at hm
      omega
    · omega
  have h4 : 0 < max 0 (((K : Int) + 1) * pb - max pa ((K : Int) * pb)) := by
    by_cases c : max 0 (((K : Int) + 1) * pb - max pa ((K : Int) * pb)) = 0
    · rw [c, Int.zero_mul] at hm
      omega
    · omega
  refine ⟨by omega, b.2, by omega, ?_⟩
  rw [show max 0 (((K : Int) + 1) * pb - max pa ((K : Int) * pb)) = ((K : Int) + 1) * pb - max pa ((K : Int) * pb) by omega]
theorem c44_l {K : Nat} {F u n0 : Int} (hd : DR dn) (hl : len ≤ 16) (hp : 0 ≤ p) (hp2 : p < 6) (hK : K < len) (hu : 0 < u) (hu2 : u ≤ 100000000000000) (hF : 0 ≤ F) (hF2 : F ≤ 16 * u) (hn : 0 < n0) (hn2 : n0 ≤ 200 * u) (hd1 : 1 ≤ dn K) (k1 : Gs dn F u K < n0) (k2 : n0 ≤ Gs dn F u (K + 1)) : ∀ (n k : Nat), k + n = K → A 43 1 = len → (∀ k : Int, 0 ≤ k → k < 16 → A (45 + p.toNat) k = dn k) → mm_E 1 (d + 3) 44 39 [(0, .ref 43), (1, mI p), (3, mJ u), (5, mJ F), (7, mJ (n0 - Gs dn F u k)), (9, mI k)] [] (mm_w X A) (.inl none, mm_w X (mm_u (mm_u A (61 + 3 * p.toNat) 0 (ft (max F ((K : Int) * u) * dn K + (n0 - Gs dn F u K)) (u * dn K))) (61 + 3 * p.toNat) 1 (fb (max F ((K : Int) * u) * dn K + (n0 - Gs dn F u K)) (u * dn K))), 0, 0)
  | n, k, h, hA, hD => by
    have hk := hD k (by omega) (by omega)
    have hb := hd k (by omega) (by omega)
    have e0 := kU (U := u) k
    have l1 : (k : Int) * u ≤ 16 * u := Int.mul_le_mul_of_nonneg_right (by omega) (by omega)
    have l2 : 0 ≤ (k : Int) * u := Int.mul_nonneg (by omega) (by omega)
    have gb := Gs_bd (F := F) (U := u) (k := k) hd (by omega) (by omega)
    have gb2 : 12 * u * (k : Int) ≤ 12 * u * 16 := Int.mul_le_mul_of_nonneg_left (by omega) (by omega)
    have gs := Gs_s (dn := dn) (F := F) (U := u) (k := k)
    have gm : Gs dn F u k ≤ Gs dn F u K := by
      have := Gs_mono (F := F) (U := u) (a := k) (b := n) hd (by omega)
      rw [h] at this
      exact this
    have m0 : 0 ≤ max 0 (((k : Int) + 1) * u - max F ((k : Int) * u)) ∧ max 0 (((k : Int) + 1) * u - max F ((k : Int) * u)) ≤ u := by omega
    have m1 : 0 ≤ max 0 (((k : Int) + 1) * u - max F ((k : Int) * u)) * dn k := Int.mul_nonneg m0.1 hb.1
    have m2 : max 0 (((k : Int) + 1) * u - max F ((k : Int) * u)) * dn k ≤ u * 12 := Int.mul_le_mul m0.2 hb.2 hb.1 (by omega)
    match n, h with
    | 0, h =>
      have e : k = K := by omega
      subst e
      have w1 : 0 ≤ max F ((k : Int) * u) * dn k := Int.mul_nonneg (by omega) hb.1
      have w2 : max F ((k : Int) * u) * dn k ≤ 16 * u * 12 := Int.mul_le_mul (by omega) hb.2 hb.1 (by omega)
      have w3 : u * 1 ≤ u * dn k := Int.mul_le_mul_of_nonneg_left hd1 (by omega)
      have w4 : u * dn k ≤ u * 12 := Int.mul_le_mul_of_nonneg_left hb.2 (by omega)
      have s0 := c46 (X := X) (d := d + 1) (A := A) (a := 61 + 3 * p.toNat) (y := max F ((k : Int) * u) * dn k + (n0 - Gs dn F u k)) (b := u * dn k) (lr61 hp hp2) (by omega) (by omega) (by omega)
      refine p44_39_3 (d := d + 2) (A0 := mm_u (mm_u A (61 + 3 * p.toNat) 0 (ft (max F ((k : Int) * u) * dn k + (n0 - Gs dn F u k)) (u * dn k))) (61 + 3 * p.toNat) 1 (fb (max F ((k : Int) * u) * dn k + (n0 - Gs dn F u k)) (u * dn k))) ?_ ?_ ?_
      · rw [hk]
        exact s0
      · rw [hk]
        omega
      · rw [hk]
        have q43 : mm_u (mm_u A (61 + 3 * p.toNat) 0 (ft (max F ((k : Int) * u) * dn k + (n0 - Gs dn F u k)) (u * dn k))) (61 + 3 * p.toNat) 1 (fb (max F ((k : Int) * u) * dn k + (n0 - Gs dn F u k)) (u * dn k)) 43 1 = len := by rw [mm_u2_ne (by omega) (by omega), hA]
        by_cases c : len ≤ k + 1
        · exact p44_39_0 (by omega)
        · exact p44_39_1 (by omega)
    | n + 1, h =>
      have gm2 : Gs dn F u (k + 1) ≤ Gs dn F u K := by
        have := Gs_mono (F := F) (U := u) (a := k + 1) (b := n) hd (by omega)
        rw [show k + 1 + n = K by omega] at this
        exact this
      have i := c44_l hd hl hp hp2 hK hu hu2 hF hF2 hn hn2 hd1 k1 k2 n (k + 1) (by omega) hA hD
      rw [gs, show n0 - (Gs dn F u k + max 0 (((k : Int) + 1) * u - max F ((k : Int) * u)) * dn k) = n0 - Gs dn F u k - max 0 (((k : Int) + 1) * u - max F ((k : Int) * u)) * dn k by omega, show ((k + 1 : Nat) : Int) = (k : Int) + 1 by omega] at i
      refine p44_39_2 ?_ ?_
      · rw [hk]
        omega
      · rw [hk]
        exact i
theorem c44 {a2 : Nat} (la : mm_ly a2 = some (3, [1, 1])) (ha2 : a2 ≠ 61 + 3 * p.toNat) (ha57 : a2 ≠ 57) (hd : DR dn) (hl : len ≤ 16) (hp : 0 ≤ p) (hp2 : p < 6) (hA : A 43 1 = len) (hD : ∀ k : Int, 0 ≤ k → k < 16 → A (45 + p.toNat) k = dn k) (h1 : A a2 0 = pa) (h2 : A a2 1 = pb) (h3 : A 57 0 = aa) (h4 : A 57 1 = ab) (hpb : 0 < pb) (hpb2 : pb ≤ 200000) (hab : 0 < ab) (hab2 : ab ≤ 200000000) (hpa : 0 ≤ pa) (hpa2 : pa ≤ 16 * pb) (haa : 0 ≤ aa) (haa2 : aa ≤ 192 * ab) (hM : MK dn len pa pb aa ab ma mb) : ∃ A' : MF, mm_E 1 (d + 4) 44 0 [(0, .ref 43), (1, mI p), (2, .ref a2)] [] (mm_w X A) (.inl none, mm_w X A', 0, 0) ∧ A' (61 + 3 * p.toNat) 0 = ma ∧ A' (61 + 3 * p.toNat) 1 = mb ∧ ∀ b k, b ≠ 61 + 3 * p.toNat → A' b k = A b k := by
  obtain ⟨g, e', e, g0, e'0, e0, ge, gq, u1, u2, u3, u4, u5, u6⟩ := un_f hpb hab
  have hbq : pb * ab ≤ 200000 * 200000000 := Int.mul_le_mul hpb2 hab2 (by omega) (by omega)
  have fr : ∀ b k, b ≠ 61 + 3 * p.toNat → mm_u (mm_u A (61 + 3 * p.toNat) 0 (A a2 0)) (61 + 3 * p.toNat) 1 (A a2 1) b k = A b k := fun b k hb => mm_u2_ne (by omega) (by omega)
  have s0 := c51 (X := X) (d := d + 2) (A := mm_u (mm_u A (61 + 3 * p.toNat) 0 (A a2 0)) (61 + 3 * p.toNat) 1 (A a2 1)) (w := 1) (pb := pb) (qb := ab) la ly57 (by rw [fr _ _ ha2, h2]) (by rw [fr _ _ (by omega), h4]) hpb (by omega) hab (by omega)
  have s1 := c52 (X := X) (d := d + 3) (A := mm_u (mm_u A (61 + 3 * p.toNat) 0 (A a2 0)) (61 + 3 * p.toNat) 1 (A a2 1)) (w := 1) (pa := pa) (pb := pb) (e := e) la (by rw [fr _ _ ha2, h1]) (by rw [fr _ _ ha2, h2]) hpb (by omega) u1 (by omega)
  have s2 := c52 (X := X) (d := d + 3) (A := mm_u (mm_u A (61 + 3 * p.toNat) 0 (A a2 0)) (61 + 3 * p.toNat) 1 (A a2 1)) (w := 1) (pa := aa) (pb := ab) (e := e') ly57 (by rw [fr _ _ (by omega), h3]) (by rw [fr _ _ (by omega), h4]) hab (by omega) u2 (by omega)
  have go := fun A' h => p44_0_0 (d := d + 3) (x1 := p) (r := (.inl none, mm_w X A', 0, 0)) la s0 s1 s2 (by omega) h
  have hA' : mm_u (mm_u A (61 + 3 * p.toNat) 0 (A a2 0)) (61 + 3 * p.toNat) 1 (A a2 1) 43 1 = len := by rw [fr _ _ (by omega), hA]
  rcases hM with ⟨m1, m2, m3⟩ | ⟨m1, K, m2, m3, m4, m5, m6⟩
  · refine ⟨mm_u (mm_u A (61 + 3 * p.toNat) 0 (A a2 0)) (61 + 3 * p.toNat) 1 (A a2 1), go _ ?_, by rw [mm_u_ne (by omega), mm_u_same, h1, m2], by rw [mm_u_same, h2, m3], fr⟩
    rw [m1, Int.zero_mul]
    by_cases c : len = 0
    · exact p44_39_0 (by omega)
    · exact p44_39_1 (by omega)
  · obtain ⟨d1, d2, d3, d4⟩ := mk_d hd hl hab m2 m3 m4
    have eG : ∀ k, Gs dn (pa * e) (un pb ab) k = e * Gs dn pa pb k := fun k => by
      rw [u1, Int.mul_comm pa e, Int.mul_comm pb e]
      exact Gs_c (by omega)
    have n1 : 0 < aa * e' := Int.mul_pos m1 e'0
    have n2 : aa * e' ≤ 200 * un pb ab := by
      have : aa * e' ≤ 192 * ab * e' := Int.mul_le_mul_of_nonneg_right haa2 (by omega)
      rw [Int.mul_assoc, ← u2] at this
      omega
    have bF : pa * e ≤ 16 * un pb ab := by
      have : pa * e ≤ 16 * pb * e := Int.mul_le_mul_of_nonneg_right hpa2 (by omega)
      rw [u1, ← Int.mul_assoc]
      exact this
    have q1 : Gs dn (pa * e) (un pb ab) K < aa * e' := by
      rw [eG]
      have : (Gs dn pa pb K * ab) * e < (aa * pb) * e := Int.mul_lt_mul_of_pos_right m3 e0
      rw [show aa * pb * e = aa * e' * ab by rw [Int.mul_assoc, ← u1, u2]; ac_rfl, show Gs dn pa pb K * ab * e = e * Gs dn pa pb K * ab by ac_rfl] at this
      exact Int.lt_of_mul_lt_mul_right this (by omega)
    have q2 : aa * e' ≤ Gs dn (pa * e) (un pb ab) (K + 1) := by
      rw [eG]
      have : (aa * pb) * e ≤ (Gs dn pa pb (K + 1) * ab) * e := Int.mul_le_mul_of_nonneg_right m4 (by omega)
      rw [show aa * pb * e = aa * e' * ab by rw [Int.mul_assoc, ← u1, u2]; ac_rfl, show Gs dn pa pb (K + 1) * ab * e = e * Gs dn pa pb (K + 1) * ab by ac_rfl] at this
      exact Int.le_of_mul_le_mul_right this hab
    have l := c44_l (X := X) (d := d + 1) (A := mm_u (mm_u A (61 + 3 * p.toNat) 0 (A a2 0)) (61 + 3 * p.toNat) 1 (A a2 1)) hd hl hp hp2 m2 u4 (by omega) (Int.mul_nonneg hpa (by omega)) bF n1 n2 d1 q1 q2 K 0 (by omega) hA' (fun k h1 h2 => by rw [fr _ _ (by omega)]; exact hD k h1 h2)
    rw [show aa * e' - Gs dn (pa * e) (un pb ab) 0 = aa * e' from Int.sub_zero _] at l
    have hE : ft (max (pa * e) ((K : Int) * un pb ab) * dn K + (aa * e' - Gs dn (pa * e) (un pb ab) K)) (un pb ab * dn K) = ma ∧ fb (max (pa * e) ((K : Int) * un pb ab) * dn K + (aa * e' - Gs dn (pa * e) (un pb ab) K)) (un pb ab * dn K) = mb := by
      rw [m5, m6]
      refine ft_eq (Int.mul_pos u4 (by omega)) (Int.mul_pos (Int.mul_pos hab hpb) (by omega)) ?_
      have w1 : max (pa * e) ((K : Int) * un pb ab) = e * max pa ((K : Int) * pb) := by
        rw [← max_c (by omega), u1]
        congr 1
        · exact Int.mul_comm _ _
        · ac_rfl
      have w2 : e * max pa ((K : Int) * pb) * dn K - e * Gs dn pa pb K = e * (((K : Int) + 1) * pb * dn K - Gs dn pa pb (K + 1)) := by
        rw [d4, Int.mul_assoc, ← Int.mul_sub, Int.sub_mul]
        congr 1
        omega
      rw [w1, eG, show e * max pa ((K : Int) * pb) * dn K + (aa * e' - e * Gs dn pa pb K) = e * max pa ((K : Int) * pb) * dn K - e * Gs dn pa pb K + aa * e' by omega, w2]
      generalize Gs dn pa pb (K + 1) = G
      generalize dn K = dk
      generalize (K : Int) + 1 = k1
      rw [Int.add_mul, Int.add_mul, show aa * e' * (ab * pb * dk) = aa * pb * (un pb ab * dk) by rw [u2]; ac_rfl]
      congr 1
      rw [Int.mul_sub, Int.sub_mul, Int.sub_mul]
      congr 1
      · rw [u1]
        ac_rfl
      · rw [u1]
        ac_rfl
    rw [hE.1, hE.2] at l
    exact ⟨_, go _ l, by rw [mm_u_ne (by omega), mm_u_same], mm_u_same, fun b k hb => by rw [mm_u2_ne (by omega) (by omega), fr b k hb]⟩
end MB
