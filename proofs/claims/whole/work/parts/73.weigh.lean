/-! weigh and stretch. -/
/-- the least common multiple, as the class has it -/
def un (b e : Int) : Int := Int.tdiv b (Nat.gcd b.natAbs e.natAbs : Nat) * e
theorem pos_of {g p b : Int} (hg : 0 < g) (hb : 0 < b) (h : g * p = b) : 0 < p := by
  by_cases c : 0 < p
  · exact c
  · have : g * p ≤ 0 := Int.mul_nonpos_of_nonneg_of_nonpos (by omega) (by omega)
    omega
theorem un_f {b e : Int} (hb : 0 < b) (he : 0 < e) : ∃ g p q : Int, 0 < g ∧ 0 < p ∧ 0 < q ∧ g * p = b ∧ g * q = e ∧ un b e = b * q ∧ un b e = e * p ∧ g * un b e = b * e ∧ 0 < un b e ∧ un b e ≤ b * e ∧ ∀ D : Int, b ∣ D → e ∣ D → un b e ∣ D := by
  have g0 : 0 < Nat.gcd b.natAbs e.natAbs := Nat.gcd_pos_of_pos_left _ (by omega)
  have gp : (0 : Int) < ((Nat.gcd b.natAbs e.natAbs : Nat) : Int) := by omega
  have e1 : ((Nat.gcd b.natAbs e.natAbs : Nat) : Int) * Int.tdiv b (Nat.gcd b.natAbs e.natAbs : Nat) = b := Int.mul_tdiv_cancel' (Int.ofNat_dvd_left.mpr (Nat.gcd_dvd_left _ _))
  have e2 : ((Nat.gcd b.natAbs e.natAbs : Nat) : Int) * Int.tdiv e (Nat.gcd b.natAbs e.natAbs : Nat) = e := Int.mul_tdiv_cancel' (Int.ofNat_dvd_left.mpr (Nat.gcd_dvd_right _ _))
  have e3 : (Int.tdiv b (Nat.gcd b.natAbs e.natAbs : Nat)).natAbs.gcd (Int.tdiv e (Nat.gcd b.natAbs e.natAbs : Nat)).natAbs = 1 := by
    rw [Int.natAbs_tdiv, Int.natAbs_tdiv, Int.natAbs_natCast]
    exact Nat.gcd_div_gcd_div_gcd_of_pos_left (by omega)
  unfold un
  generalize ((Nat.gcd b.natAbs e.natAbs : Nat) : Int) = g at gp e1 e2 e3
  generalize Int.tdiv b g = p at e1 e3
  generalize Int.tdiv e g = q at e2 e3
  have p0 := pos_of gp hb e1
  have q0 := pos_of gp he e2
  have u0 : 0 < p * e := Int.mul_pos p0 he
  have eu : g * (p * e) = b * e := by rw [← Int.mul_assoc, e1]
  refine ⟨g, p, q, gp, p0, q0, e1, e2, ?_, Int.mul_comm _ _, eu, u0, ?_, fun D hb hd => ?_⟩
  · rw [← e1, ← e2]
    ac_rfl
  · rw [← eu]
    have : 1 * (p * e) ≤ g * (p * e) := Int.mul_le_mul_of_nonneg_right (by omega) (by omega)
    omega
  · obtain ⟨u, hu⟩ := hb
    obtain ⟨w, hw⟩ := hd
    have e4 : p * u = q * w := by
      have : g * (p * u) = g * (q * w) := by rw [← Int.mul_assoc, e1, ← hu, ← Int.mul_assoc, e2, ← hw]
      exact Int.eq_of_mul_eq_mul_left (by omega) this
    have d1 : p.natAbs ∣ w.natAbs := by
      have : p.natAbs ∣ q.natAbs * w.natAbs := ⟨u.natAbs, by rw [← Int.natAbs_mul, ← e4, Int.natAbs_mul]⟩
      exact Nat.Coprime.dvd_of_dvd_mul_left (show Nat.Coprime p.natAbs q.natAbs from e3) this
    obtain ⟨z, hz⟩ := Int.natAbs_dvd_natAbs.mp d1
    exact ⟨z, by rw [hw, hz]; ac_rfl⟩
/-- worth between two fractions, over the product of the bottoms -/
abbrev wS (dn : Int → Int) (len : Nat) (pa pb qa qb : Int) : Int := wsm dn (pa * qb) (qa * pb) (pb * qb) len
section WE
variable {X : List Value} {d : Nat} {A : MF} {dn : Int → Int} {len : Nat} {p : Int} {pa pb qa qb : Int}
theorem c51 {w : Nat} {a b : Nat} (la : mm_ly a = some (3, [1, 1])) (lb : mm_ly b = some (3, [1, 1])) (h1 : A a 1 = pb) (h2 : A b 1 = qb) (hp : 0 < pb) (hp2 : pb ≤ 200000000) (hq : 0 < qb) (hq2 : qb ≤ 200000000) : mm_E w (d + 1) 51 0 [(0, .ref a), (1, .ref b)] [] (mm_w X A) (.inl (some (mJ (un pb qb))), mm_w X A, 0, 0) := by
  have k := c53 (X := X) (d := d) (A := A) (w := w) (a := pb.natAbs) (b := qb.natAbs) (by omega) (by omega) (by omega)
  rw [show ((pb.natAbs : Nat) : Int) = A a 1 by omega, show ((qb.natAbs : Nat) : Int) = A b 1 by omega] at k
  have g1 := gcd_pos (a := pb) hq
  have g2 := gcd_le (a := pb) hq
  have r := p51_0_0 (d := d) la lb k (by omega)
  rw [h1, h2] at r
  exact r
theorem c52 {w : Nat} {a : Nat} {y e : Int} (la : mm_ly a = some (3, [1, 1])) (h0 : A a 0 = pa) (h1 : A a 1 = pb) (hp : 0 < pb) (hp2 : pb ≤ 200000000) (hy : y = pb * e) (hr : R64 y) : mm_E w d 52 0 [(0, .ref a), (1, mJ y)] [] (mm_w X A) (.inl (some (mJ (pa * e))), mm_w X A, 0, 0) := by
  have r := p52_0_0 (w := w) (d := d) (X := X) (A := A) (y1 := y) la (by omega)
  rw [h0, h1, hy, Int.mul_tdiv_cancel_left _ (by omega)] at r
  rw [hy]
  exact r
theorem c43_l {w : Nat} {r : MR} {a4 : Nat} {F T U : Int} (la : mm_ly a4 = some (3, [1, 1])) (hd : DR dn) (hl : len ≤ 16) (hp : 0 ≤ p) (hp2 : p < 6) (hA : A 43 1 = len) (hD : ∀ k : Int, 0 ≤ k → k < 16 → A (45 + p.toNat) k = dn k) (hU : 0 < U) (hU2 : U ≤ 100000000000000000) (hF : 0 ≤ F) (hF2 : F ≤ 16 * U) (hT : 0 ≤ T) (hT2 : T ≤ 16 * U) (kr : mm_E w (d + 1) 43 29 [(0, .ref 43), (1, mI p), (4, .ref a4), (5, mJ U), (7, mJ F), (9, mJ T), (11, mJ (wsm dn F T U len)), (13, mI len)] [] (mm_w X A) r) : ∀ (n k : Nat), k + n = len → mm_E w (d + 1) 43 29 [(0, .ref 43), (1, mI p), (4, .ref a4), (5, mJ U), (7, mJ F), (9, mJ T), (11, mJ (wsm dn F T U k)), (13, mI k)] [] (mm_w X A) r
  | 0, k, h => by
    rw [show len = k by omega] at kr
    exact kr
  | n + 1, k, h => by
    have q := c43_l la hd hl hp hp2 hA hD hU hU2 hF hF2 hT hT2 kr n (k + 1) (by omega)
    have e := kU (U := U) k
    have h1 : (k : Int) * U ≤ 16 * U := Int.mul_le_mul_of_nonneg_right (by omega) (by omega)
    have h2 : 0 ≤ (k : Int) * U := Int.mul_nonneg (by omega) (by omega)
    have hk := hD k (by omega) (by omega)
    have hb := hd k (by omega) (by omega)
    rw [wsm_s, show ((k + 1 : Nat) : Int) = (k : Int) + 1 by omega] at q
    by_cases c : min T (((k : Int) + 1) * U) - max F ((k : Int) * U) ≤ 0
    · rw [show max 0 (min T (((k : Int) + 1) * U) - max F ((k : Int) * U)) = 0 by omega, Int.zero_mul, Int.add_zero] at q
      exact p43_29_1 la (by omega) q
    · rw [show max 0 (min T (((k : Int) + 1) * U) - max F ((k : Int) * U)) = min T (((k : Int) + 1) * U) - max F ((k : Int) * U) by omega, ← hk] at q
      exact p43_29_2 la (by omega) q
theorem c43 {a2 a3 a4 : Nat} (la2 : mm_ly a2 = some (3, [1, 1])) (la3 : mm_ly a3 = some (3, [1, 1])) (la4 : mm_ly a4 = some (3, [1, 1])) (hd : DR dn) (hl : len ≤ 16) (hp : 0 ≤ p) (hp2 : p < 6) (hA : A 43 1 = len) (hD : ∀ k : Int, 0 ≤ k → k < 16 → A (45 + p.toNat) k = dn k) (h1 : A a2 0 = pa) (h2 : A a2 1 = pb) (h3 : A a3 0 = qa) (h4 : A a3 1 = qb) (hpb : 0 < pb) (hpb2 : pb ≤ 2000000) (hqb : 0 < qb) (hqb2 : qb ≤ 2000000) (hpa : 0 ≤ pa) (hpa2 : pa ≤ 16 * pb) (hqa : 0 ≤ qa) (hqa2 : qa ≤ 16 * qb) : mm_E 1 (d + 3) 43 0 [(0, .ref 43), (1, mI p), (2, .ref a2), (3, .ref a3), (4, .ref a4)] [] (mm_w X A) (.inl none, mm_w X (mm_u (mm_u A a4 0 (ft (wS dn len pa pb qa qb) (pb * qb))) a4 1 (fb (wS dn len pa pb qa qb) (pb * qb))), 0, 0) := by
  obtain ⟨g, e', e, g0, e'0, e0, ge, gq, u1, u2, u3, u4, u5, u6⟩ := un_f hpb hqb
  have hbq : pb * qb ≤ 2000000 * 2000000 := Int.mul_le_mul hpb2 hqb2 (by omega) (by omega)
  have bq0 : 0 < pb * qb := Int.mul_pos hpb hqb
  have s0 := c51 (X := X) (d := d + 1) (A := A) (w := 1) la2 la3 h2 h4 hpb (by omega) hqb (by omega)
  have s1 := c52 (X := X) (d := d + 2) (A := A) (w := 1) (e := e) la2 h1 h2 hpb (by omega) u1 (by omega)
  have s2 := c52 (X := X) (d := d + 2) (A := A) (w := 1) (e := e') la3 h3 h4 hqb (by omega) u2 (by omega)
  have eF : g * (pa * e) = pa * qb := by rw [← gq]; ac_rfl
  have eT : g * (qa * e') = qa * pb := by rw [← ge]; ac_rfl
  have eS : g * wsm dn (pa * e) (qa * e') (un pb qb) len = wS dn len pa pb qa qb := by
    rw [← wsm_c (by omega), eF, eT, u3]
  have bF : pa * e ≤ 16 * un pb qb := by
    have : pa * e ≤ 16 * pb * e := Int.mul_le_mul_of_nonneg_right hpa2 (by omega)
    rw [u1, ← Int.mul_assoc]
    exact this
  have bT : qa * e' ≤ 16 * un pb qb := by
    have : qa * e' ≤ 16 * qb * e' := Int.mul_le_mul_of_nonneg_right hqa2 (by omega)
    rw [u2, ← Int.mul_assoc]
    exact this
  have bS := wsm_bd (F := pa * e) (T := qa * e') (U := un pb qb) (k := len) hd (by omega) hl
  have bS2 : 12 * un pb qb * len ≤ 12 * un pb qb * 16 := Int.mul_le_mul_of_nonneg_left (by omega) (by omega)
  have k46 := c46 (X := X) (d := d + 1) (A := A) (a := a4) (y := wsm dn (pa * e) (qa * e') (un pb qb) len) (b := un pb qb) la4 (by omega) u4 (by omega)
  have hft := ft_eq (a := wsm dn (pa * e) (qa * e') (un pb qb) len) (b := un pb qb) (c := wS dn len pa pb qa qb) (e := pb * qb) u4 bq0 (by rw [← eS, ← u3]; ac_rfl)
  rw [hft.1, hft.2] at k46
  exact p43_0_0 la2 la3 la4 s0 s1 s2 (c43_l la4 hd hl hp hp2 hA hD u4 (by omega) (Int.mul_nonneg hpa (by omega)) bF (Int.mul_nonneg hqa (by omega)) bT (p43_29_0 la4 k46 (by omega)) len 0 (by omega))
/-! the reference -/
theorem c103 {s t U a b : Int} (hU : 0 < U) (hU2 : U ≤ 1000000000000000000) (hb : 0 < b) (hbU : b ∣ U) (h : a * U = b * t) (hst : (s + t).natAbs ≤ 1000000000000000000) (h1 : A 77 24 = ft s U) (h2 : A 77 25 = fb s U) : ∃ A' : MF, mm_E 1 (d + 2) 103 0 [(0, .ref 77), (1, mJ a), (3, mJ b)] [] (mm_w X A) (.inl none, mm_w X A', 0, 0) ∧ A' 77 24 = ft (s + t) U ∧ A' 77 25 = fb (s + t) U ∧ ∀ c k, (c ≠ 77 ∨ (k ≠ 24 ∧ k ≠ 25)) → A' c k = A c k := by
  have y0 := fb_pos (a := s) hU
  have y1 := fb_le (a := s) hU
  have b1 := Int.le_of_dvd hU hbU
  obtain ⟨m0, m1, m2, m3, m4⟩ := fr_add (s := s) (t := t) (g := (Nat.gcd b.natAbs (fb s U).natAbs : Nat)) hU hb hbU h rfl
  have s0 := c100 (X := X) (d := d + 1) (A := A) (w := 1) (a := b) (b := (fb s U).natAbs) (by omega) (by omega)
  have e : (((fb s U).natAbs : Nat) : Int) = A 77 25 := by omega
  rw [e] at s0
  have s1 := c102 (X := X) (d := d) (A := A) (y := ft s U * Int.tdiv b (Nat.gcd b.natAbs (fb s U).natAbs : Nat) + a * Int.tdiv (fb s U) (Nat.gcd b.natAbs (fb s U).natAbs : Nat)) (b := Int.tdiv (fb s U) (Nat.gcd b.natAbs (fb s U).natAbs : Nat) * b) (by omega) m0 (by omega)
  have g1 : 0 < Nat.gcd b.natAbs (fb s U).natAbs := Nat.gcd_pos_of_pos_left _ (by omega)
  have g2 : Nat.gcd b.natAbs (fb s U).natAbs ≤ b.natAbs := Nat.gcd_le_left _ (by omega)
  rw [m3, m4] at s1
  refine ⟨_, p103_0_0 (d := d + 1) s0 ?_ (by omega), by rw [mm_u_ne (by omega), mm_u_same], mm_u_same, fun c k hc => mm_u2_ne (by omega) (by omega)⟩
  rw [h1, h2]
  exact s1
theorem c104_l {F T U : Int} (hd : DR dn) (hl : len ≤ 16) (hp : 0 ≤ p) (hp2 : p < 6) (hpb : 0 < pb) (hpb2 : pb ≤ 2000000) (hqb : 0 < qb) (hqb2 : qb ≤ 2000000) (hpa : 0 ≤ pa) (hpa2 : pa ≤ 16 * pb) (hqa : 0 ≤ qa) (hqa2 : qa ≤ 16 * qb) (hF : F = pa * qb) (hT : T = qa * pb) (hU : U = pb * qb) (hFT : ∀ k : Nat, k < len → F < ((k : Int) + 1) * U → (k : Int) * U < T → F ≤ T) : ∀ (n k : Nat) (A : MF), k + n = len → A 77 15 = len → (∀ k : Int, 0 ≤ k → k < 16 → A 88 (16 * p + k) = dn k) → A 77 24 = ft (wsm dn F T U k) U → A 77 25 = fb (wsm dn F T U k) U → ∃ A' : MF, mm_E 1 (d + 3) 104 9 [(0, .ref 77), (1, mI p), (2, mJ pa), (4, mJ pb), (6, mJ qa), (8, mJ qb), (10, mI k)] [] (mm_w X A) (.inl none, mm_w X A', 0, 0) ∧ A' 77 24 = ft (wsm dn F T U len) U ∧ A' 77 25 = fb (wsm dn F T U len) U ∧ ∀ c k, (c ≠ 77 ∨ (k ≠ 24 ∧ k ≠ 25)) → A' c k = A c k
  | 0, k, A, h, hA, hD, h1, h2 => by
    rw [show k = len by omega] at h1 h2
    exact ⟨A, p104_9_0 (by omega), h1, h2, fun _ _ _ => rfl⟩
  | n + 1, k, A, h, hA, hD, h1, h2 => by
    have bq0 : 0 < U := by rw [hU]; exact Int.mul_pos hpb hqb
    have hbq : U ≤ 2000000 * 2000000 := by rw [hU]; exact Int.mul_le_mul hpb2 hqb2 (by omega) (by omega)
    have hk := hD k (by omega) (by omega)
    have hb := hd k (by omega) (by omega)
    have eP := kU (U := pb) k
    have eQ := kU (U := qb) k
    have eU := kU (U := U) k
    have P1 : (k : Int) * pb ≤ 16 * pb := Int.mul_le_mul_of_nonneg_right (by omega) (by omega)
    have P2 : 0 ≤ (k : Int) * pb := Int.mul_nonneg (by omega) (by omega)
    have Q1 : (k : Int) * qb ≤ 16 * qb := Int.mul_le_mul_of_nonneg_right (by omega) (by omega)
    have Q2 : 0 ≤ (k : Int) * qb := Int.mul_nonneg (by omega) (by omega)
    have U1 : (k : Int) * U ≤ 16 * U := Int.mul_le_mul_of_nonneg_right (by omega) (by omega)
    have U2 : 0 ≤ (k : Int) * U := Int.mul_nonneg (by omega) (by omega)
    have eKP : (k : Int) * U = (k : Int) * pb * qb := by rw [hU, Int.mul_assoc]
    have eKQ : (k : Int) * U = (k : Int) * qb * pb := by rw [hU]; ac_rfl
    have eKP1 : ((k : Int) + 1) * U = ((k : Int) + 1) * pb * qb := by rw [hU, Int.mul_assoc]
    have eKQ1 : ((k : Int) + 1) * U = ((k : Int) + 1) * qb * pb := by rw [hU]; ac_rfl
    have F0 : 0 ≤ F := by rw [hF]; exact Int.mul_nonneg hpa (by omega)
    have T0 : 0 ≤ T := by rw [hT]; exact Int.mul_nonneg hqa (by omega)
    have F1 : F ≤ 16 * U := by
      have : pa * qb ≤ 16 * pb * qb := Int.mul_le_mul_of_nonneg_right hpa2 (by omega)
      rw [hF, hU, ← Int.mul_assoc]
      exact this
    have T1 : T ≤ 16 * U := by
      have : qa * pb ≤ 16 * qb * pb := Int.mul_le_mul_of_nonneg_right hqa2 (by omega)
      rw [hT, hU, Int.mul_comm pb qb, ← Int.mul_assoc]
      exact this
    have a1 : pa ≤ (k : Int) * pb → F ≤ (k : Int) * U := fun q => by rw [hF, eKP]; exact Int.mul_le_mul_of_nonneg_right q (by omega)
    have a2 : (k : Int) * pb < pa → (k : Int) * U < F := fun q => by rw [hF, eKP]; exact Int.mul_lt_mul_of_pos_right q hqb
    have a3 : ((k : Int) + 1) * pb ≤ pa → ((k : Int) + 1) * U ≤ F := fun q => by rw [hF, eKP1]; exact Int.mul_le_mul_of_nonneg_right q (by omega)
    have a4 : pa < ((k : Int) + 1) * pb → F < ((k : Int) + 1) * U := fun q => by rw [hF, eKP1]; exact Int.mul_lt_mul_of_pos_right q hqb
    have b1 : qa ≤ (k : Int) * qb → T ≤ (k : Int) * U := fun q => by rw [hT, eKQ]; exact Int.mul_le_mul_of_nonneg_right q (by omega)
    have b2 : (k : Int) * qb < qa → (k : Int) * U < T := fun q => by rw [hT, eKQ]; exact Int.mul_lt_mul_of_pos_right q hpb
    have b3 : ((k : Int) + 1) * qb ≤ qa → ((k : Int) + 1) * U ≤ T := fun q => by rw [hT, eKQ1]; exact Int.mul_le_mul_of_nonneg_right q (by omega)
    have b4 : qa < ((k : Int) + 1) * qb → T < ((k : Int) + 1) * U := fun q => by rw [hT, eKQ1]; exact Int.mul_lt_mul_of_pos_right q hpb
    have bS := wsm_bd (F := F) (T := T) (U := U) (k := k) hd (by omega) (by omega)
    have bS2 : 12 * U * k ≤ 12 * U * 16 := Int.mul_le_mul_of_nonneg_left (by omega) (by omega)
    have ss := wsm_s (dn := dn) (F := F) (T := T) (U := U) (k := k)
    have skip : max 0 (min T (((k : Int) + 1) * U) - max F ((k : Int) * U)) = 0 → (∀ r, mm_E 1 (d + 3) 104 9 [(0, .ref 77), (1, mI p), (2, mJ pa), (4, mJ pb), (6, mJ qa), (8, mJ qb), (10, mI ((k : Int) + 1))] [] (mm_w X A) r → mm_E 1 (d + 3) 104 9 [(0, .ref 77), (1, mI p), (2, mJ pa), (4, mJ pb), (6, mJ qa), (8, mJ qb), (10, mI k)] [] (mm_w X A) r) → ∃ A' : MF, mm_E 1 (d + 3) 104 9 [(0, .ref 77), (1, mI p), (2, mJ pa), (4, mJ pb), (6, mJ qa), (8, mJ qb), (10, mI k)] [] (mm_w X A) (.inl none, mm_w X A', 0, 0) ∧ A' 77 24 = ft (wsm dn F T U len) U ∧ A' 77 25 = fb (wsm dn F T U len) U ∧ ∀ c k, (c ≠ 77 ∨ (k ≠ 24 ∧ k ≠ 25)) → A' c k = A c k := fun z st => by
      rw [z, Int.zero_mul, Int.add_zero] at ss
      obtain ⟨A', t1, t2, t3, t4⟩ := c104_l hd hl hp hp2 hpb hpb2 hqb hqb2 hpa hpa2 hqa hqa2 hF hT hU hFT n (k + 1) A (by omega) hA hD (by rw [ss]; exact h1) (by rw [ss]; exact h2)
      rw [show ((k + 1 : Nat) : Int) = (k : Int) + 1 by omega] at t1
      exact ⟨A', st _ t1, t2, t3, t4⟩
    have dk := hb
    have two : ∀ x1 y1 x2 y2 M L : Int, 0 < y1 → y1 ∣ U → 0 < y2 → y2 ∣ U → x1 * U = y1 * (M * dn k) → x2 * U = y2 * (-(L * dn k)) → 0 ≤ M → M ≤ 17 * U → 0 ≤ L → L ≤ 17 * U → max 0 (min T (((k : Int) + 1) * U) - max F ((k : Int) * U)) = M - L → (∀ A0 A1 r, mm_E 1 (d + 2) 103 0 [(0, .ref 77), (1, mJ x1), (3, mJ y1)] [] (mm_w X A) (.inl none, mm_w X A0, 0, 0) → mm_E 1 (d + 2) 103 0 [(0, .ref 77), (1, mJ x2), (3, mJ y2)] [] (mm_w X A0) (.inl none, mm_w X A1, 0, 0) → mm_E 1 (d + 3) 104 9 [(0, .ref 77), (1, mI p), (2, mJ pa), (4, mJ pb), (6, mJ qa), (8, mJ qb), (10, mI ((k : Int) + 1))] [] (mm_w X A1) r → mm_E 1 (d + 3) 104 9 [(0, .ref 77), (1, mI p), (2, mJ pa), (4, mJ pb), (6, mJ qa), (8, mJ qb), (10, mI k)] [] (mm_w X A) r) → ∃ A' : MF, mm_E 1 (d + 3) 104 9 [(0, .ref 77), (1, mI p), (2, mJ pa), (4, mJ pb), (6, mJ qa), (8, mJ qb), (10, mI k)] [] (mm_w X A) (.inl none, mm_w X A', 0, 0) ∧ A' 77 24 = ft (wsm dn F T U len) U ∧ A' 77 25 = fb (wsm dn F T U len) U ∧ ∀ c k, (c ≠ 77 ∨ (k ≠ 24 ∧ k ≠ 25)) → A' c k = A c k := fun x1 y1 x2 y2 M L y10 y1U y20 y2U e1 e2 M0 M1 L0 L1 hz st => by
      have m0 : 0 ≤ M * dn k := Int.mul_nonneg M0 dk.1
      have m1 : M * dn k ≤ 17 * U * 12 := Int.mul_le_mul M1 dk.2 dk.1 (by omega)
      have l0 : 0 ≤ L * dn k := Int.mul_nonneg L0 dk.1
      have l1 : L * dn k ≤ 17 * U * 12 := Int.mul_le_mul L1 dk.2 dk.1 (by omega)
      obtain ⟨A0, i1, i2, i3, i4⟩ := c103 (X := X) (d := d) (A := A) (s := wsm dn F T U k) (t := M * dn k) bq0 (by omega) y10 y1U e1 (by omega) h1 h2
      obtain ⟨A1, j1, j2, j3, j4⟩ := c103 (X := X) (d := d) (A := A0) (s := wsm dn F T U k + M * dn k) (t := -(L * dn k)) bq0 (by omega) y20 y2U e2 (by omega) i2 i3
      have es : wsm dn F T U k + M * dn k + -(L * dn k) = wsm dn F T U (k + 1) := by
        rw [ss, hz, Int.sub_mul]
        omega
      rw [es] at j2 j3
      obtain ⟨A', t1, t2, t3, t4⟩ := c104_l hd hl hp hp2 hpb hpb2 hqb hqb2 hpa hpa2 hqa hqa2 hF hT hU hFT n (k + 1) A1 (by omega) (by rw [j4 _ _ (by omega), i4 _ _ (by omega), hA]) (fun k k1 k2 => by rw [j4 _ _ (by omega), i4 _ _ (by omega)]; exact hD k k1 k2) j2 j3
      rw [show ((k + 1 : Nat) : Int) = (k : Int) + 1 by omega] at t1
      exact ⟨A', st A0 A1 _ i1 j1 t1, t2, t3, fun c k hc => by rw [t4 c k hc, j4 c k hc, i4 c k hc]⟩
    have qU : qb ∣ U := ⟨pb, by rw [hU, Int.mul_comm]⟩
    have pU : pb ∣ U := ⟨qb, hU⟩
    have oU : (1 : Int) ∣ U := ⟨U, (Int.one_mul _).symm⟩
    have x1a : qa * A 88 (16 * p + k) * U = qb * (T * dn k) := by
      rw [hk, hT, hU]
      ac_rfl
    have x1b : ((k : Int) + 1) * A 88 (16 * p + k) * U = 1 * (((k : Int) + 1) * U * dn k) := by
      rw [hk, Int.one_mul]
      ac_rfl
    have x2a : -pa * A 88 (16 * p + k) * U = pb * (-(F * dn k)) := by
      rw [hk, hF, hU, Int.neg_mul, Int.neg_mul, Int.mul_neg]
      congr 1
      ac_rfl
    have x2b : -(k : Int) * A 88 (16 * p + k) * U = 1 * (-((k : Int) * U * dn k)) := by
      rw [hk, Int.one_mul, Int.neg_mul, Int.neg_mul]
      congr 1
      ac_rfl
    by_cases c1 : pa ≤ (k : Int) * pb
    · have f1 := a1 c1
      by_cases c2 : ((k : Int) + 1) * qb ≤ qa
      · have f2 := b3 c2
        have f3 := a4 (by omega)
        have f4 := b2 (by omega)
        exact two _ _ _ _ _ _ (by omega) oU (by omega) oU x1b x2b (by omega) (by omega) U2 (by omega) (by omega) fun A0 A1 r q1 q2 q3 => p104_9_3 q1 q2 (by omega) q3
      · have f2 := b4 (by omega)
        by_cases c3 : qa ≤ (k : Int) * qb
        · have f3 := b1 c3
          exact skip (by omega) fun r q => p104_9_5 (by omega) q
        · have f3 := b2 (by omega)
          have f4 := hFT k (by omega) (by omega) f3
          exact two _ _ _ _ _ _ hqb qU (by omega) oU x1a x2b T0 (by omega) U2 (by omega) (by omega) fun A0 A1 r q1 q2 q3 => p104_9_6 q1 q2 (by omega) q3
    · have f1 := a2 (by omega)
      by_cases c4 : ((k : Int) + 1) * pb ≤ pa
      · have f5 := a3 c4
        by_cases c2 : ((k : Int) + 1) * qb ≤ qa
        · exact skip (by omega) fun r q => p104_9_7 (by omega) q
        · exact skip (by omega) fun r q => p104_9_10 (by omega) q
      · have f5 := a4 (by omega)
        by_cases c2 : ((k : Int) + 1) * qb ≤ qa
        · have f2 := b3 c2
          have f4 := b2 (by omega)
          exact two _ _ _ _ _ _ (by omega) oU hpb pU x1b x2a (by omega) (by omega) F0 (by omega) (by omega) fun A0 A1 r q1 q2 q3 => p104_9_9 q1 q2 (by omega) q3
        · have f2 := b4 (by omega)
          by_cases c3 : qa ≤ (k : Int) * qb
          · have f3 := b1 c3
            exact skip (by omega) fun r q => p104_9_11 (by omega) q
          · have f3 := b2 (by omega)
            have f4 := hFT k (by omega) f5 f3
            exact two _ _ _ _ _ _ hqb qU hpb pU x1a x2a T0 (by omega) F0 (by omega) (by omega) fun A0 A1 r q1 q2 q3 => p104_9_12 q1 q2 (by omega) q3
theorem c104 (hd : DR dn) (hl : len ≤ 16) (hp : 0 ≤ p) (hp2 : p < 6) (hpb : 0 < pb) (hpb2 : pb ≤ 2000000) (hqb : 0 < qb) (hqb2 : qb ≤ 2000000) (hpa : 0 ≤ pa) (hpa2 : pa ≤ 16 * pb) (hqa : 0 ≤ qa) (hqa2 : qa ≤ 16 * qb) (hFT : ∀ k : Nat, k < len → pa * qb < ((k : Int) + 1) * (pb * qb) → (k : Int) * (pb * qb) < qa * pb → pa * qb ≤ qa * pb) (hA : A 77 15 = len) (hD : ∀ k : Int, 0 ≤ k → k < 16 → A 88 (16 * p + k) = dn k) : ∃ A' : MF, mm_E 1 (d + 3) 104 0 [(0, .ref 77), (1, mI p), (2, mJ pa), (4, mJ pb), (6, mJ qa), (8, mJ qb)] [] (mm_w X A) (.inl none, mm_w X A', 0, 0) ∧ A' 77 24 = ft (wS dn len pa pb qa qb) (pb * qb) ∧ A' 77 25 = fb (wS dn len pa pb qa qb) (pb * qb) ∧ ∀ c k, (c ≠ 77 ∨ (k ≠ 24 ∧ k ≠ 25)) → A' c k = A c k := by
  have bq0 : 0 < pb * qb := Int.mul_pos hpb hqb
  have s0 := c102 (X := X) (d := d + 1) (A := A) (y := 0) (b := 1) (by omega) (by omega) (by omega)
  have e := ft_eq (a := 0) (b := 1) (c := 0) (e := pb * qb) (by omega) bq0 (by rw [Int.zero_mul, Int.zero_mul])
  rw [e.1, e.2] at s0
  obtain ⟨A', t1, t2, t3, t4⟩ := c104_l (X := X) (d := d) hd hl hp hp2 hpb hpb2 hqb hqb2 hpa hpa2 hqa hqa2 rfl rfl rfl hFT len 0 (mm_u (mm_u A 77 24 (ft 0 (pb * qb))) 77 25 (fb 0 (pb * qb))) (by omega) (by rw [mm_u2_ne (by omega) (by omega), hA]) (fun k k1 k2 => by rw [mm_u2_ne (by omega) (by omega)]; exact hD k k1 k2) (by rw [mm_u_ne (by omega), mm_u_same]; rfl) (by rw [mm_u_same]; rfl)
  exact ⟨A', p104_0_0 s0 t1, t2, t3, fun c k hc => by rw [t4 c k hc, mm_u2_ne (by omega) (by omega)]⟩
end WE
