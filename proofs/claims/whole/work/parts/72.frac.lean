/-! fractions. -/
section FR
theorem fr_f {a b : Int} (hb : 0 < b) : ∃ g : Int, 0 < g ∧ g * ft a b = a ∧ g * fb a b = b ∧ 0 < fb a b ∧ Nat.gcd (ft a b).natAbs (fb a b).natAbs = 1 := by
  have g0 := gcd_pos (a := a) hb
  refine ⟨(Nat.gcd a.natAbs b.natAbs : Nat), by omega, ?_, ?_, ?_, ?_⟩
  · unfold ft
    exact Int.mul_tdiv_cancel' (Int.ofNat_dvd_left.mpr (Nat.gcd_dvd_left _ _))
  · unfold fb
    exact Int.mul_tdiv_cancel' (Int.ofNat_dvd_left.mpr (Nat.gcd_dvd_right _ _))
  · have h : ((Nat.gcd a.natAbs b.natAbs : Nat) : Int) * fb a b = b := by
      unfold fb
      exact Int.mul_tdiv_cancel' (Int.ofNat_dvd_left.mpr (Nat.gcd_dvd_right _ _))
    by_cases c : 0 < fb a b
    · exact c
    · have : ((Nat.gcd a.natAbs b.natAbs : Nat) : Int) * fb a b ≤ 0 := Int.mul_nonpos_of_nonneg_of_nonpos (by omega) (by omega)
      omega
  · unfold ft fb
    rw [Int.natAbs_tdiv, Int.natAbs_tdiv, Int.natAbs_natCast]
    exact Nat.gcd_div_gcd_div_gcd_of_pos_right (by omega)
theorem fr_u {x y x' y' : Int} (hy : 0 < y) (hy' : 0 < y') (h : x * y' = x' * y) (c : Nat.gcd x.natAbs y.natAbs = 1) (c' : Nat.gcd x'.natAbs y'.natAbs = 1) : x = x' ∧ y = y' := by
  have hn : x.natAbs * y'.natAbs = x'.natAbs * y.natAbs := by rw [← Int.natAbs_mul, ← Int.natAbs_mul, h]
  have d1 : y.natAbs ∣ y'.natAbs := by
    have : y.natAbs ∣ x.natAbs * y'.natAbs := ⟨x'.natAbs, by rw [hn, Nat.mul_comm]⟩
    exact Nat.Coprime.dvd_of_dvd_mul_left (show Nat.Coprime y.natAbs x.natAbs from by rw [Nat.Coprime, Nat.gcd_comm]; exact c) this
  have d2 : y'.natAbs ∣ y.natAbs := by
    have : y'.natAbs ∣ x'.natAbs * y.natAbs := ⟨x.natAbs, by rw [← hn, Nat.mul_comm]⟩
    exact Nat.Coprime.dvd_of_dvd_mul_left (show Nat.Coprime y'.natAbs x'.natAbs from by rw [Nat.Coprime, Nat.gcd_comm]; exact c') this
  have e := Nat.dvd_antisymm d1 d2
  have e2 : y = y' := by omega
  rw [e2] at h
  exact ⟨Int.eq_of_mul_eq_mul_right (by omega) h, e2⟩
theorem ft_x {a b : Int} (hb : 0 < b) : ft a b * b = a * fb a b := by
  obtain ⟨g, g0, g1, g2, g3, g4⟩ := fr_f (a := a) hb
  have e1 : ft a b * b = ft a b * (g * fb a b) := by rw [g2]
  have e2 : a * fb a b = g * ft a b * fb a b := by rw [g1]
  rw [e1, e2, ← Int.mul_assoc, Int.mul_comm (ft a b) g]
theorem ft_eq {a b c e : Int} (hb : 0 < b) (he : 0 < e) (h : a * e = c * b) : ft a b = ft c e ∧ fb a b = fb c e := by
  obtain ⟨g, g0, g1, g2, g3, g4⟩ := fr_f (a := a) hb
  obtain ⟨k, k0, k1, k2, k3, k4⟩ := fr_f (a := c) he
  refine fr_u g3 k3 ?_ g4 k4
  have q : (g * k) * (ft a b * fb c e) = (g * k) * (ft c e * fb a b) := by
    have e1 : (g * ft a b) * (k * fb c e) = (k * ft c e) * (g * fb a b) := by rw [g1, k1, g2, k2, h]
    rw [show g * k * (ft a b * fb c e) = (g * ft a b) * (k * fb c e) by ac_rfl, show g * k * (ft c e * fb a b) = (k * ft c e) * (g * fb a b) by ac_rfl]
    exact e1
  exact Int.eq_of_mul_eq_mul_left (by have := Int.mul_pos g0 k0; omega) q
theorem ft_red {x y : Int} (hy : 0 < y) (c : Nat.gcd x.natAbs y.natAbs = 1) : ft x y = x ∧ fb x y = y := by
  obtain ⟨g, g0, g1, g2, g3, g4⟩ := fr_f (a := x) hy
  exact fr_u g3 hy (ft_x hy) g4 c
theorem fb_dvd {a b : Int} (hb : 0 < b) : fb a b ∣ b := by
  obtain ⟨g, g0, g1, g2, g3, g4⟩ := fr_f (a := a) hb
  exact ⟨g, by rw [Int.mul_comm]; exact g2.symm⟩
theorem fb_pos {a b : Int} (hb : 0 < b) : 0 < fb a b := by
  obtain ⟨g, g0, g1, g2, g3, g4⟩ := fr_f (a := a) hb
  exact g3
theorem fb_co {a b : Int} (hb : 0 < b) : Nat.gcd (ft a b).natAbs (fb a b).natAbs = 1 := by
  obtain ⟨g, g0, g1, g2, g3, g4⟩ := fr_f (a := a) hb
  exact g4
theorem ft_pos {a b : Int} (hb : 0 < b) (ha : 0 ≤ a) : 0 ≤ ft a b := by
  obtain ⟨g, g0, g1, g2, g3, g4⟩ := fr_f (a := a) hb
  by_cases c : 0 ≤ ft a b
  · exact c
  · have : g * ft a b < 0 := Int.mul_neg_of_pos_of_neg g0 (by omega)
    omega
theorem fb_le {a b : Int} (hb : 0 < b) : fb a b ≤ b := Int.le_of_dvd hb (fb_dvd hb)
/-- adding to a fraction over U -/
theorem fr_add {s t U a b g : Int} (hU : 0 < U) (hb : 0 < b) (hbU : b ∣ U) (h : a * U = b * t) (hg : g = (Nat.gcd b.natAbs (fb s U).natAbs : Nat)) : 0 < Int.tdiv (fb s U) g * b ∧ Int.tdiv (fb s U) g * b ≤ U ∧ (ft s U * Int.tdiv b g + a * Int.tdiv (fb s U) g).natAbs ≤ (s + t).natAbs ∧ ft (ft s U * Int.tdiv b g + a * Int.tdiv (fb s U) g) (Int.tdiv (fb s U) g * b) = ft (s + t) U ∧ fb (ft s U * Int.tdiv b g + a * Int.tdiv (fb s U) g) (Int.tdiv (fb s U) g * b) = fb (s + t) U := by
  have y0 := fb_pos (a := s) hU
  have yd := fb_dvd (a := s) hU
  have hx := ft_x (a := s) hU
  have g0 : 0 < g := by
    rw [hg]
    have : 0 < Nat.gcd b.natAbs (fb s U).natAbs := Nat.gcd_pos_of_pos_left _ (by omega)
    omega
  have e1 : g * Int.tdiv b g = b := by
    rw [hg]
    exact Int.mul_tdiv_cancel' (Int.ofNat_dvd_left.mpr (Nat.gcd_dvd_left _ _))
  have e2 : g * Int.tdiv (fb s U) g = fb s U := by
    rw [hg]
    exact Int.mul_tdiv_cancel' (Int.ofNat_dvd_left.mpr (Nat.gcd_dvd_right _ _))
  have e3 : (Int.tdiv b g).natAbs.gcd (Int.tdiv (fb s U) g).natAbs = 1 := by
    rw [hg, Int.natAbs_tdiv, Int.natAbs_tdiv, Int.natAbs_natCast]
    exact Nat.gcd_div_gcd_div_gcd_of_pos_left (by omega)
  generalize Int.tdiv b g = p at e1 e3
  generalize Int.tdiv (fb s U) g = q at e2 e3
  have q0 : 0 < q := by
    by_cases c : 0 < q
    · exact c
    · have : g * q ≤ 0 := Int.mul_nonpos_of_nonneg_of_nonpos (by omega) (by omega)
      omega
  have m0 : 0 < q * b := Int.mul_pos q0 hb
  have key : (ft s U * p + a * q) * U = q * b * (s + t) := by
    have k1 : ft s U * p * U = q * b * s := by
      rw [show ft s U * p * U = ft s U * U * p by ac_rfl, hx, ← e2, show s * (g * q) * p = q * (g * p) * s by ac_rfl, e1]
    have k2 : a * q * U = q * b * t := by
      rw [show a * q * U = a * U * q by ac_rfl, h]
      ac_rfl
    rw [Int.add_mul, k1, k2, Int.mul_add]
  have hd : q * b ∣ U := by
    obtain ⟨u, hu⟩ := hbU
    obtain ⟨w, hw⟩ := yd
    have e4 : p * u = q * w := by
      have : g * (p * u) = g * (q * w) := by rw [← Int.mul_assoc, e1, ← hu, ← Int.mul_assoc, e2, ← hw]
      exact Int.eq_of_mul_eq_mul_left (by omega) this
    have d1 : q.natAbs ∣ u.natAbs := by
      have : q.natAbs ∣ p.natAbs * u.natAbs := ⟨w.natAbs, by rw [← Int.natAbs_mul, e4, Int.natAbs_mul]⟩
      exact Nat.Coprime.dvd_of_dvd_mul_left (show Nat.Coprime q.natAbs p.natAbs from by rw [Nat.Coprime, Nat.gcd_comm]; exact e3) this
    obtain ⟨z, hz⟩ := Int.natAbs_dvd_natAbs.mp d1
    exact ⟨z, by rw [hu, hz]; ac_rfl⟩
  have hle := Int.le_of_dvd hU hd
  refine ⟨m0, hle, ?_, ft_eq m0 hU (by rw [key]; ac_rfl)⟩
  have hn : (ft s U * p + a * q).natAbs * U.natAbs = (q * b).natAbs * (s + t).natAbs := by rw [← Int.natAbs_mul, key, Int.natAbs_mul]
  have hl : (q * b).natAbs * (s + t).natAbs ≤ U.natAbs * (s + t).natAbs := Nat.mul_le_mul_right _ (by omega)
  rw [← hn, Nat.mul_comm] at hl
  exact Nat.le_of_mul_le_mul_left hl (by omega)
end FR
/-! the cake's worth -/
def cl (X U : Int) (k : Nat) : Int := min X (((k : Int) + 1) * U) - min X ((k : Int) * U)
/-- what lies before X is worth -/
def Cw (dn : Int → Int) (X U : Int) : Nat → Int
  | 0 => 0
  | k + 1 => Cw dn X U k + cl X U k * dn k
/-- what lies between F and T is worth -/
def wsm (dn : Int → Int) (F T U : Int) : Nat → Int
  | 0 => 0
  | k + 1 => wsm dn F T U k + max 0 (min T (((k : Int) + 1) * U) - max F ((k : Int) * U)) * dn k
def DR (dn : Int → Int) : Prop := ∀ k : Int, 0 ≤ k → k < 16 → 0 ≤ dn k ∧ dn k ≤ 12
section CW
variable {dn : Int → Int} {F T U X Y : Int}
theorem Cw_s {k : Nat} : Cw dn X U (k + 1) = Cw dn X U k + cl X U k * dn k := rfl
theorem wsm_s {k : Nat} : wsm dn F T U (k + 1) = wsm dn F T U k + max 0 (min T (((k : Int) + 1) * U) - max F ((k : Int) * U)) * dn k := rfl
theorem kU (k : Nat) : ((k : Int) + 1) * U = (k : Int) * U + U := by rw [Int.add_mul, Int.one_mul]
theorem wsm_C (hF : F ≤ T) (hU : 0 ≤ U) : ∀ {k : Nat}, wsm dn F T U k = Cw dn T U k - Cw dn F U k
  | 0 => rfl
  | k + 1 => by
    rw [wsm_s, Cw_s, Cw_s, wsm_C hF hU (k := k)]
    have e := kU (U := U) k
    have : max 0 (min T (((k : Int) + 1) * U) - max F ((k : Int) * U)) = cl T U k - cl F U k := by
      unfold cl
      omega
    rw [this, Int.sub_mul]
    omega
theorem cl_mono (hU : 0 ≤ U) (h : X ≤ Y) {k : Nat} : cl X U k ≤ cl Y U k := by
  have e := kU (U := U) k
  unfold cl
  omega
theorem cl_bd (hU : 0 ≤ U) {k : Nat} : 0 ≤ cl X U k ∧ cl X U k ≤ U := by
  have e := kU (U := U) k
  unfold cl
  omega
theorem Cw_mono (hd : DR dn) (hU : 0 ≤ U) (h : X ≤ Y) : ∀ {k : Nat}, k ≤ 16 → Cw dn X U k ≤ Cw dn Y U k
  | 0, _ => Int.le_refl _
  | k + 1, hk => by
    have i := Cw_mono hd hU h (k := k) (by omega)
    have l : cl X U k * dn k ≤ cl Y U k * dn k := Int.mul_le_mul_of_nonneg_right (cl_mono hU h) (hd k (by omega) (by omega)).1
    rw [Cw_s, Cw_s]
    omega
theorem Cw_bd (hd : DR dn) (hU : 0 ≤ U) : ∀ {k : Nat}, k ≤ 16 → 0 ≤ Cw dn X U k ∧ Cw dn X U k ≤ 12 * U * k
  | 0, _ => by simp [Cw]
  | k + 1, hk => by
    have i := Cw_bd hd hU (k := k) (by omega)
    have b := cl_bd (X := X) hU (k := k)
    have b2 := hd k (by omega) (by omega)
    have l1 : 0 ≤ cl X U k * dn k := Int.mul_nonneg b.1 b2.1
    have l2 : cl X U k * dn k ≤ U * 12 := Int.mul_le_mul b.2 b2.2 b2.1 hU
    have e : 12 * U * ((k + 1 : Nat) : Int) = 12 * U * k + 12 * U := by
      rw [show ((k + 1 : Nat) : Int) = (k : Int) + 1 by omega, Int.mul_add, Int.mul_one]
    rw [Cw_s, e]
    omega
theorem min_c {c x y : Int} (hc : 0 ≤ c) : min (c * x) (c * y) = c * min x y := by
  by_cases h : x ≤ y
  · have := Int.mul_le_mul_of_nonneg_left h hc
    rw [show min x y = x by omega]
    omega
  · have := Int.mul_le_mul_of_nonneg_left (show y ≤ x by omega) hc
    rw [show min x y = y by omega]
    omega
theorem max_c {c x y : Int} (hc : 0 ≤ c) : max (c * x) (c * y) = c * max x y := by
  by_cases h : x ≤ y
  · have := Int.mul_le_mul_of_nonneg_left h hc
    rw [show max x y = y by omega]
    omega
  · have := Int.mul_le_mul_of_nonneg_left (show y ≤ x by omega) hc
    rw [show max x y = x by omega]
    omega
theorem Cw_c {c : Int} (hc : 0 ≤ c) : ∀ {k : Nat}, Cw dn (c * X) (c * U) k = c * Cw dn X U k
  | 0 => (Int.mul_zero _).symm
  | k + 1 => by
    rw [Cw_s, Cw_s, Cw_c hc]
    have e : cl (c * X) (c * U) k = c * cl X U k := by
      unfold cl
      rw [show ((k : Int) + 1) * (c * U) = c * (((k : Int) + 1) * U) by ac_rfl, show (k : Int) * (c * U) = c * ((k : Int) * U) by ac_rfl, min_c hc, min_c hc, Int.mul_sub]
    rw [e, Int.mul_add, Int.mul_assoc]
theorem wsm_c {c : Int} (hc : 0 ≤ c) : ∀ {k : Nat}, wsm dn (c * F) (c * T) (c * U) k = c * wsm dn F T U k
  | 0 => (Int.mul_zero _).symm
  | k + 1 => by
    rw [wsm_s, wsm_s, wsm_c hc]
    have e : max 0 (min (c * T) (((k : Int) + 1) * (c * U)) - max (c * F) ((k : Int) * (c * U))) = c * max 0 (min T (((k : Int) + 1) * U) - max F ((k : Int) * U)) := by
      rw [show ((k : Int) + 1) * (c * U) = c * (((k : Int) + 1) * U) by ac_rfl, show (k : Int) * (c * U) = c * ((k : Int) * U) by ac_rfl, min_c hc, max_c hc, ← Int.mul_sub]
      have := max_c (c := c) (x := 0) (y := min T (((k : Int) + 1) * U) - max F ((k : Int) * U)) hc
      rw [Int.mul_zero] at this
      exact this
    rw [e, Int.mul_add, Int.mul_assoc]
theorem wsm_bd (hd : DR dn) (hU : 0 ≤ U) : ∀ {k : Nat}, k ≤ 16 → 0 ≤ wsm dn F T U k ∧ wsm dn F T U k ≤ 12 * U * k
  | 0, _ => by simp [wsm]
  | k + 1, hk => by
    have i := wsm_bd hd hU (k := k) (by omega)
    have e0 := kU (U := U) k
    have b : 0 ≤ max 0 (min T (((k : Int) + 1) * U) - max F ((k : Int) * U)) ∧ max 0 (min T (((k : Int) + 1) * U) - max F ((k : Int) * U)) ≤ U := by omega
    have b2 := hd k (by omega) (by omega)
    have l1 : 0 ≤ max 0 (min T (((k : Int) + 1) * U) - max F ((k : Int) * U)) * dn k := Int.mul_nonneg b.1 b2.1
    have l2 : max 0 (min T (((k : Int) + 1) * U) - max F ((k : Int) * U)) * dn k ≤ U * 12 := Int.mul_le_mul b.2 b2.2 b2.1 hU
    have e : 12 * U * ((k + 1 : Nat) : Int) = 12 * U * k + 12 * U := by
      rw [show ((k + 1 : Nat) : Int) = (k : Int) + 1 by omega, Int.mul_add, Int.mul_one]
    rw [wsm_s, e]
    omega
end CW
