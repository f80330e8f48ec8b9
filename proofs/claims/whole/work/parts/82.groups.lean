/-! cut by halves: a group and its marks. -/
def HG (len k : Nat) (fa fe ta te : Int) : Prop := 0 < fe ∧ 0 < te ∧ 0 ≤ fa ∧ fa ≤ len * fe ∧ 0 ≤ ta ∧ ta ≤ len * te ∧ fa * te ≤ ta * fe ∧ Nat.gcd fa.natAbs fe.natAbs = 1 ∧ Nat.gcd ta.natAbs te.natAbs = 1 ∧ ∃ D : Int, 0 < D ∧ D ≤ 72 ^ k ∧ fe ∣ D ∧ te ∣ D
/-- the stretch's worth -/
abbrev xT (dn : Int → Int → Int) (len : Nat) (fa fe ta te p : Int) : Int := ft (wS (dn p) len fa fe ta te) (fe * te)
abbrev xB (dn : Int → Int → Int) (len : Nat) (fa fe ta te p : Int) : Int := fb (wS (dn p) len fa fe ta te) (fe * te)
/-- the amount to be marked -/
abbrev aT (dn : Int → Int → Int) (len n : Nat) (fa fe ta te p : Int) : Int := ft (xT dn len fa fe ta te p * (n / 2 : Nat)) (xB dn len fa fe ta te p * n)
abbrev aB (dn : Int → Int → Int) (len n : Nat) (fa fe ta te p : Int) : Int := fb (xT dn len fa fe ta te p * (n / 2 : Nat)) (xB dn len fa fe ta te p * n)
noncomputable abbrev hmk (dn : Int → Int → Int) (len n : Nat) (fa fe ta te p : Int) : Int × Int := mkA (dn p) len fa fe (aT dn len n fa fe ta te p) (aB dn len n fa fe ta te p)
theorem wsm_le {dn : Int → Int} (hd : DR dn) {F T U : Int} : ∀ {k : Nat}, k ≤ 16 → wsm dn F T U k ≤ Gs dn F U k
  | 0, _ => Int.le_refl _
  | k + 1, h => by
    have i := wsm_le hd (F := F) (T := T) (U := U) (k := k) (by omega)
    have : max 0 (min T (((k : Int) + 1) * U) - max F ((k : Int) * U)) * dn k ≤ max 0 (((k : Int) + 1) * U - max F ((k : Int) * U)) * dn k := Int.mul_le_mul_of_nonneg_right (by omega) (hd k (by omega) (by omega)).1
    rw [wsm_s, Gs_s]
    omega
theorem pow72 : ∀ k : Nat, k ≤ 2 → (72 : Int) ^ k ≤ 5184 := by
  decide
section HP
variable {dn : Int → Int → Int} {len n k : Nat} {fa fe ta te p : Int}
theorem hv_x (hd : DA dn) (hl : len ≤ 16) (hG : HG len k fa fe ta te) (hp : 0 ≤ p) (hp2 : p < 6) : 0 < xB dn len fa fe ta te p ∧ 0 ≤ xT dn len fa fe ta te p ∧ xT dn len fa fe ta te p * (fe * te) = wS (dn p) len fa fe ta te * xB dn len fa fe ta te p ∧ xT dn len fa fe ta te p * fe ≤ Gs (dn p) fa fe len * xB dn len fa fe ta te p ∧ ∀ D : Int, fe ∣ D → te ∣ D → xB dn len fa fe ta te p ∣ D := by
  obtain ⟨g1, g2, g3, g4, g5, g6, g7, g8, g9, -⟩ := hG
  have q0 : 0 < fe * te := Int.mul_pos g1 g2
  have W0 : 0 ≤ wS (dn p) len fa fe ta te := (wsm_bd (hd p hp hp2) (by omega) hl).1
  have y0 : 0 < xB dn len fa fe ta te p := fb_pos q0
  have x1 : xT dn len fa fe ta te p * (fe * te) = wS (dn p) len fa fe ta te * xB dn len fa fe ta te p := ft_x q0
  have G1 : wS (dn p) len fa fe ta te ≤ te * Gs (dn p) fa fe len := by
    have := wsm_le (hd p hp hp2) (F := fa * te) (T := ta * fe) (U := fe * te) (k := len) hl
    rw [Int.mul_comm fa te, Int.mul_comm fe te, Gs_c (by omega)] at this
    show wsm (dn p) (fa * te) (ta * fe) (fe * te) len ≤ _
    rw [Int.mul_comm fa te, Int.mul_comm fe te]
    exact this
  refine ⟨y0, ft_pos q0 W0, x1, ?_, fun D h1 h2 => ?_⟩
  · have l : wS (dn p) len fa fe ta te * xB dn len fa fe ta te p ≤ te * Gs (dn p) fa fe len * xB dn len fa fe ta te p := Int.mul_le_mul_of_nonneg_right G1 (by omega)
    rw [← x1, show xT dn len fa fe ta te p * (fe * te) = te * (xT dn len fa fe ta te p * fe) by ac_rfl, Int.mul_assoc] at l
    exact Int.le_of_mul_le_mul_left l g2
  · obtain ⟨g, e', e, q1, q2, q3, q4, q5, u1, u2, u3, u4, u5, u6⟩ := un_f g1 g2
    have eS : g * wsm (dn p) (fa * e) (ta * e') (un fe te) len = wS (dn p) len fa fe ta te := by
      rw [← wsm_c (by omega), u3]
      congr 1
      · rw [← q5]
        ac_rfl
      · rw [← q4]
        ac_rfl
    have hE := ft_eq (a := wS (dn p) len fa fe ta te) (b := fe * te) (c := wsm (dn p) (fa * e) (ta * e') (un fe te) len) (e := un fe te) q0 u4 (by rw [← eS, ← u3]; ac_rfl)
    show fb (wS (dn p) len fa fe ta te) (fe * te) ∣ D
    rw [hE.2]
    exact Int.dvd_trans (fb_dvd u4) (u6 D h1 h2)
theorem hv_a (hd : DA dn) (hl : len ≤ 16) (hn : 2 ≤ n ∧ n ≤ 6) (hG : HG len k fa fe ta te) (hp : 0 ≤ p) (hp2 : p < 6) : 0 < aB dn len n fa fe ta te p ∧ 0 ≤ aT dn len n fa fe ta te p ∧ aT dn len n fa fe ta te p * (xB dn len fa fe ta te p * n) = xT dn len fa fe ta te p * (n / 2 : Nat) * aB dn len n fa fe ta te p ∧ aT dn len n fa fe ta te p * fe ≤ Gs (dn p) fa fe len * aB dn len n fa fe ta te p ∧ aT dn len n fa fe ta te p * (fe * te) ≤ aB dn len n fa fe ta te p * wS (dn p) len fa fe ta te ∧ aT dn len n fa fe ta te p ≤ 192 * aB dn len n fa fe ta te p ∧ ∀ D : Int, fe ∣ D → te ∣ D → aB dn len n fa fe ta te p ∣ D * n := by
  obtain ⟨x1, x2, x3, x4, x5⟩ := hv_x hd hl hG hp hp2
  obtain ⟨g1, g2, g3, g4, g5, g6, g7, g8, g9, -⟩ := hG
  have n0 : (0 : Int) < n := by omega
  have yn : 0 < xB dn len fa fe ta te p * n := Int.mul_pos x1 n0
  have b0 : 0 < aB dn len n fa fe ta te p := fb_pos yn
  have a0 : 0 ≤ aT dn len n fa fe ta te p := ft_pos yn (Int.mul_nonneg x2 (by omega))
  have ax : aT dn len n fa fe ta te p * (xB dn len fa fe ta te p * n) = xT dn len fa fe ta te p * (n / 2 : Nat) * aB dn len n fa fe ta te p := ft_x yn
  have ad : aB dn len n fa fe ta te p ∣ xB dn len fa fe ta te p * n := fb_dvd yn
  have W0 : 0 ≤ wS (dn p) len fa fe ta te := (wsm_bd (hd p hp hp2) (by have := Int.mul_pos g1 g2; omega) hl).1
  have G0 := Gs_bd (F := fa) (U := fe) (k := len) (hd p hp hp2) (by omega) hl
  have gb2 : 12 * fe * (len : Int) ≤ 12 * fe * 16 := Int.mul_le_mul_of_nonneg_left (by omega) (by omega)
  have hh : ((n / 2 : Nat) : Int) ≤ n := by omega
  have h0 : (0 : Int) ≤ ((n / 2 : Nat) : Int) := by omega
  generalize aT dn len n fa fe ta te p = a at *
  generalize aB dn len n fa fe ta te p = b at *
  generalize xT dn len fa fe ta te p = x at *
  generalize xB dn len fa fe ta te p = y at *
  generalize Gs (dn p) fa fe len = G at *
  generalize wS (dn p) len fa fe ta te = W at *
  generalize ((n / 2 : Nat) : Int) = h at *
  have r1 : a * fe ≤ G * b := by
    have s1 : x * fe * (h * b) ≤ G * y * (h * b) := Int.mul_le_mul_of_nonneg_right x4 (Int.mul_nonneg h0 (by omega))
    have s2 : h * (G * y * b) ≤ n * (G * y * b) := Int.mul_le_mul_of_nonneg_right hh (Int.mul_nonneg (Int.mul_nonneg G0.1 (by omega)) (by omega))
    have s3 : a * fe * (y * n) ≤ G * b * (y * n) := by
      rw [show a * fe * (y * n) = a * (y * n) * fe by ac_rfl, ax, show x * h * b * fe = x * fe * (h * b) by ac_rfl, show G * b * (y * n) = n * (G * y * b) by ac_rfl]
      rw [show G * y * (h * b) = h * (G * y * b) by ac_rfl] at s1
      omega
    exact Int.le_of_mul_le_mul_right s3 yn
  have r2 : a * (fe * te) ≤ b * W := by
    have s2 : h * (W * y * b) ≤ n * (W * y * b) := Int.mul_le_mul_of_nonneg_right hh (Int.mul_nonneg (Int.mul_nonneg W0 (by omega)) (by omega))
    have s3 : a * (fe * te) * (y * n) ≤ b * W * (y * n) := by
      rw [show a * (fe * te) * (y * n) = a * (y * n) * (fe * te) by ac_rfl, ax, show x * h * b * (fe * te) = x * (fe * te) * (h * b) by ac_rfl, x3, show W * y * (h * b) = h * (W * y * b) by ac_rfl, show b * W * (y * n) = n * (W * y * b) by ac_rfl]
      exact s2
    exact Int.le_of_mul_le_mul_right s3 yn
  refine ⟨b0, a0, ax, r1, r2, ?_, fun D h1 h2 => ?_⟩
  · have s1 : G * b ≤ 12 * fe * 16 * b := Int.mul_le_mul_of_nonneg_right (by omega) (by omega)
    have s2 : a * fe ≤ 192 * b * fe := by
      rw [show 12 * fe * 16 * b = 192 * b * fe by rw [show 12 * fe * 16 * b = 12 * 16 * b * fe by ac_rfl]; rfl] at s1
      omega
    exact Int.le_of_mul_le_mul_right s2 g1
  · obtain ⟨c, hc⟩ := x5 D h1 h2
    exact Int.dvd_trans ad ⟨c, by rw [hc]; ac_rfl⟩
theorem hv_mk (hd : DA dn) (hl : len ≤ 16) (hn : 2 ≤ n ∧ n ≤ 6) (hG : HG len k fa fe ta te) (hp : 0 ≤ p) (hp2 : p < 6) : MK (dn p) len fa fe (aT dn len n fa fe ta te p) (aB dn len n fa fe ta te p) (hmk dn len n fa fe ta te p).1 (hmk dn len n fa fe ta te p).2 := by
  obtain ⟨a1, a2, a3, a4, a5, a6, a7⟩ := hv_a hd hl hn hG hp hp2
  exact mkA_ok (mk_ex a1 hG.1 a2 a4)
theorem hv_m (hd : DA dn) (hl : len ≤ 16) (hn : 2 ≤ n ∧ n ≤ 6) (hG : HG len k fa fe ta te) (hp : 0 ≤ p) (hp2 : p < 6) : HG len (k + 1) fa fe (hmk dn len n fa fe ta te p).1 (hmk dn len n fa fe ta te p).2 ∧ HG len (k + 1) (hmk dn len n fa fe ta te p).1 (hmk dn len n fa fe ta te p).2 ta te := by
  have hM := hv_mk hd hl hn hG hp hp2
  obtain ⟨a1, a2, a3, a4, a5, a6, a7⟩ := hv_a hd hl hn hG hp hp2
  obtain ⟨g1, g2, g3, g4, g5, g6, g7, g8, g9, D, D1, D2, D3, D4⟩ := hG
  obtain ⟨m1, m2, m3, m4, m5, m6, m7, dd, m8, m9, m10⟩ := mk_all (hd p hp (by omega)) hl g1 a1 g3 g4 g8 hM
  have hmT : (hmk dn len n fa fe ta te p).1 * te ≤ ta * (hmk dn len n fa fe ta te p).2 := by
    by_cases c : (hmk dn len n fa fe ta te p).1 * te ≤ ta * (hmk dn len n fa fe ta te p).2
    · exact c
    · have s := m7 ta te g2 (by omega) g7
      have wc : wS (dn p) len fa fe ta te = fe * Cw (dn p) ta te len - te * Cw (dn p) fa fe len := by
        show wsm (dn p) (fa * te) (ta * fe) (fe * te) len = _
        rw [wsm_C g7 (by have := Int.mul_pos g1 g2; omega), Int.mul_comm ta fe, Cw_c (by omega), Int.mul_comm fa te, Int.mul_comm fe te, Cw_c (by omega)]
      rw [wc] at a5
      generalize aT dn len n fa fe ta te p = a at *
      generalize aB dn len n fa fe ta te p = b at *
      generalize Cw (dn p) (hmk dn len n fa fe ta te p).1 (hmk dn len n fa fe ta te p).2 len = M at *
      generalize (hmk dn len n fa fe ta te p).2 = mb at *
      generalize Cw (dn p) ta te len = Ct at *
      generalize Cw (dn p) fa fe len = Cf at *
      have e1 : M * te * (fe * b) = mb * (Cf * b * te + a * (fe * te)) := by
        rw [show M * te * (fe * b) = M * (fe * b) * te by ac_rfl, m6, Int.mul_assoc, Int.add_mul]
        congr 2
        ac_rfl
      have e2 : b * (fe * Ct - te * Cf) = fe * Ct * b - Cf * b * te := by
        rw [Int.mul_sub]
        congr 1
        · ac_rfl
        · ac_rfl
      have l1 : Cf * b * te + a * (fe * te) ≤ fe * Ct * b := by omega
      have l2 : mb * (Cf * b * te + a * (fe * te)) ≤ mb * (fe * Ct * b) := Int.mul_le_mul_of_nonneg_left l1 (by omega)
      rw [← e1, show mb * (fe * Ct * b) = Ct * mb * (fe * b) by ac_rfl] at l2
      have l3 := Int.le_of_mul_le_mul_right l2 (Int.mul_pos g1 a1)
      omega
  have hD := m10 (D * n) (Int.mul_pos D1 (by omega)) (by obtain ⟨c, hc⟩ := D3; exact ⟨c * n, by rw [hc]; ac_rfl⟩) (a7 D D3 D4)
  have p0 : (0 : Int) < 72 ^ k := Int.pow_pos (by omega)
  have D5 : D * n * dd ≤ 72 ^ (k + 1) := by
    have s1 : D * n ≤ 72 ^ k * 6 := Int.mul_le_mul D2 (by omega) (by omega) (by omega)
    have s2 : D * n * dd ≤ 72 ^ k * 6 * 12 := Int.mul_le_mul s1 m9 (by omega) (by omega)
    rw [Int.pow_succ]
    omega
  have D6 : 0 < D * n * dd := Int.mul_pos (Int.mul_pos D1 (by omega)) (by omega)
  have E3 : fe ∣ D * n * dd := by
    obtain ⟨c, hc⟩ := D3
    exact ⟨c * n * dd, by rw [hc]; ac_rfl⟩
  have E4 : te ∣ D * n * dd := by
    obtain ⟨c, hc⟩ := D4
    exact ⟨c * n * dd, by rw [hc]; ac_rfl⟩
  exact ⟨⟨g1, m1, g3, g4, m2, m3, m4, g8, m5, D * n * dd, D6, D5, E3, hD⟩, ⟨m1, g2, m2, m3, g5, g6, hmT, m5, g9, D * n * dd, D6, D5, hD, E4⟩⟩
end HP
