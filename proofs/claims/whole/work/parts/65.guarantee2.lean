/-! guarantee: the run, the reference, the round. -/
section GW
variable {X : List Value} {d : Nat} {A B : MF} {v : Int → Int} {N m : Nat} {p : Int} {x4 z0 z1 z2 z3 : Int}
theorem c25_z {r : MR} {x : Int} (hN : 1 ≤ N ∧ N ≤ 6) (h0 : A 23 0 = N) (k : mm_E 1 d 25 52 [(0, .ref 23), (4, mI x), (5, mI 0)] [] (mm_w X (mm_fr A 24 0 N 0)) r) : ∀ (n : Nat) (i : Int), 0 ≤ i → i + n = N → mm_E 1 d 25 26 [(0, .ref 23), (4, mI x), (5, mI i)] [] (mm_w X (mm_fr A 24 0 i 0)) r
  | 0, i, hi, h => by
    rw [show i = N by omega]
    refine p25_26_0 ?_ k
    rw [mm_fr_out (by omega)]
    omega
  | n + 1, i, hi, h => by
    refine p25_26_1 ?_ ?_
    · rw [mm_fr_out (by omega)]
      omega
    · rw [mm_fr_s hi]
      exact c25_z hN h0 k n (i + 1) (by omega) (by omega)
theorem c25_s {w : Nat} {r : MR} (hv : VB v) (hm : m ≤ 12) (hp : 0 ≤ p ∧ p < 6) (h1 : A 23 1 = m) (h2 : A 23 2 = 4 + p) (h3 : ∀ i : Int, 0 ≤ i → i < 12 → A (4 + p.toNat) i = v i) (k : mm_E w d 25 52 [(0, .ref 23), (4, mI (gs v 0 m)), (5, mI m)] [] (mm_w X A) r) : ∀ (n i : Nat), i + n = m → mm_E w d 25 52 [(0, .ref 23), (4, mI (gs v 0 i)), (5, mI i)] [] (mm_w X A) r
  | 0, i, h => by
    rw [show m = i by omega] at k
    exact k
  | n + 1, i, h => by
    have q := c25_s hv hm hp h1 h2 h3 k n (i + 1) (by omega)
    rw [gs_s, Nat.zero_add, ← h3 i (by omega) (by omega), show ((i + 1 : Nat) : Int) = (i : Int) + 1 by omega] at q
    exact p25_52_1 (lr4 hp.1 hp.2) (by omega) q
theorem c25 (hv : VB v) (hN : 1 ≤ N ∧ N ≤ 6) (hm : m ≤ 12) (hp : 0 ≤ p ∧ p < 6) (h3 : ∀ i : Int, 0 ≤ i → i < 12 → A (4 + p.toNat) i = v i) : ∃ A' : MF, mm_E 1 (d + m + 2) 25 0 [(0, .ref 23), (1, .ref (4 + p.toNat)), (2, mI N), (3, mI m)] [] (mm_w X A) (.inl (some (mI (max 0 (Fx v N m 0 (fun _ => 0))))), mm_w X A', 0, 0) ∧ max 0 (Fx v N m 0 (fun _ => 0)) ≤ 12000 ∧ ∀ b k, b ≠ 23 → b ≠ 24 → A' b k = A b k := by
  have e : ∀ b k, b ≠ 23 → b ≠ 24 → mm_fr (mm_u (mm_u (mm_u (mm_u A 23 0 N) 23 1 m) 23 2 ((4 + p.toNat : Nat) : Int)) 23 3 0) 24 0 N 0 b k = A b k := fun b k h1 h2 => by
    rw [mm_fr_out (by omega), mm_u2_ne (by omega) (by omega), mm_u2_ne (by omega) (by omega)]
  have a0 : mm_u (mm_u (mm_u (mm_u A 23 0 N) 23 1 m) 23 2 ((4 + p.toNat : Nat) : Int)) 23 3 0 23 0 = N := by rw [mm_u2_ne (by omega) (by omega), mm_u_ne (by omega), mm_u_same]
  have a1 : mm_fr (mm_u (mm_u (mm_u (mm_u A 23 0 N) 23 1 m) 23 2 ((4 + p.toNat : Nat) : Int)) 23 3 0) 24 0 N 0 23 1 = m := by rw [mm_fr_out (by omega), mm_u2_ne (by omega) (by omega), mm_u_same]
  have a2 : mm_fr (mm_u (mm_u (mm_u (mm_u A 23 0 N) 23 1 m) 23 2 ((4 + p.toNat : Nat) : Int)) 23 3 0) 24 0 N 0 23 2 = 4 + p := by
    rw [mm_fr_out (by omega), mm_u_ne (by omega), mm_u_same]
    omega
  have a5 : ∀ i : Int, 0 ≤ i → i < 12 → mm_fr (mm_u (mm_u (mm_u (mm_u A 23 0 N) 23 1 m) 23 2 ((4 + p.toNat : Nat) : Int)) 23 3 0) 24 0 N 0 (4 + p.toNat) i = v i := fun i i1 i2 => by
    rw [e _ _ (by omega) (by omega)]
    exact h3 i i1 i2
  obtain ⟨A', u1, u2, u3, u4⟩ := c26 (X := X) (d := d) hv hN hm hp m 0 0 (fun _ => 0) 0 (mm_fr (mm_u (mm_u (mm_u (mm_u A 23 0 N) 23 1 m) 23 2 ((4 + p.toNat : Nat) : Int)) 23 3 0) 24 0 N 0) (by omega) (by omega) (fun _ _ _ => rfl) (fun q q1 q2 => ⟨Int.le_refl _, by simp⟩) (by omega) (by omega) ⟨by rw [mm_fr_out (by omega), a0], a1, a2, by rw [mm_fr_out (by omega), mm_u_same], fun q q1 q2 => mm_fr_in q1 q2, a5⟩
  have q := p25_52_0 (d := d + m + 1) (x5 := m) u1 (by omega)
  rw [u2.2.2.2.1] at q
  have z := c25_z (X := X) (d := d + m + 2) (A := mm_u (mm_u (mm_u (mm_u A 23 0 N) 23 1 m) 23 2 ((4 + p.toNat : Nat) : Int)) 23 3 0) (x := 0) hN a0 (c25_s hv hm hp a1 a2 a5 q m 0 (by omega)) N 0 (by omega) (by omega)
  rw [mm_fr_0] at z
  exact ⟨A', p25_0_0 (lr4 hp.1 hp.2) z, u3, fun b k h1 h2 => by rw [u4 b k h1 h2, e b k h1 h2]⟩
/-! the reference -/
def MT (v : Int → Int) (N m : Nat) (p : Int) (A : MF) : Prop := A 77 1 = N ∧ A 77 2 = m ∧ ∀ i : Int, 0 ≤ i → i < 12 → A 78 (12 * p + i) = v i
theorem MT.eqv (h : MT v N m p A) (e : ∀ b k, (b = 78 ∨ (b = 77 ∧ (k = 1 ∨ k = 2))) → B b k = A b k) : MT v N m p B := by
  obtain ⟨a1, a2, a3⟩ := h
  refine ⟨by rw [e 77 1 (by omega), a1], by rw [e 77 2 (by omega), a2], fun i h3 h4 => ?_⟩
  rw [e 78 _ (by omega)]
  exact a3 i h3 h4
section M124
variable {x2 x3 y4 : Int} {r : MR}
theorem c124_z (hN : 1 ≤ N ∧ N ≤ 6) (h0 : A 77 1 = N) (k : mm_E 1 d 124 87 [(0, .ref 77), (1, mI p), (2, mI x2), (3, mI x3), (4, mI y4), (5, mI 0)] [] (mm_w X (mm_fr A 81 0 N 0)) r) : ∀ (n : Nat) (i : Int), 0 ≤ i → i + n = N → mm_E 1 d 124 61 [(0, .ref 77), (1, mI p), (2, mI x2), (3, mI x3), (4, mI y4), (5, mI i)] [] (mm_w X (mm_fr A 81 0 i 0)) r
  | 0, i, hi, h => by
    rw [show i = N by omega]
    refine p124_61_0 ?_ k
    rw [mm_fr_out (by omega)]
    omega
  | n + 1, i, hi, h => by
    refine p124_61_1 ?_ ?_
    · rw [mm_fr_out (by omega)]
      omega
    · rw [mm_fr_s hi]
      exact c124_z hN h0 k n (i + 1) (by omega) (by omega)
theorem c124_w (hN : 1 ≤ N ∧ N ≤ 6) (hm : m ≤ 12) (hp : 0 ≤ p ∧ p < 6) {k : Nat} : ∀ (n t : Nat) (A : MF), t + n = m → MT v N m p A → (∀ q : Int, 0 ≤ q → q < N → A 81 q = sp (fun _ => v) N t (k / N ^ (m - t)) q) → (∀ j : Nat, j < m → A 80 j = pd N m k j) → ∃ A' : MF, (∀ r, mm_E 1 d 124 150 [(0, .ref 77), (1, mI p), (2, mI x2), (3, mI x3), (4, mI y4), (5, mI (A' 81 0)), (6, mI 1)] [] (mm_w X A') r → mm_E 1 d 124 87 [(0, .ref 77), (1, mI p), (2, mI x2), (3, mI x3), (4, mI y4), (5, mI t)] [] (mm_w X A) r) ∧ (∀ b j, b ≠ 81 → A' b j = A b j) ∧ ∀ q : Int, 0 ≤ q → q < N → A' 81 q = sp (fun _ => v) N m k q
  | 0, t, A, h, hM, hq, hd => by
    have a2 := hM.2.1
    refine ⟨A, fun r k => p124_87_0 (by omega) k, fun _ _ _ => rfl, fun q q1 q2 => ?_⟩
    rw [hq q q1 q2, show t = m by omega, Nat.sub_self, Nat.pow_zero, Nat.div_one]
  | n + 1, t, A, h, hM, hq, hd => by
    have a2 := hM.2.1
    have hb := pd_lt (i := m) (P := k) (j := t) (N := N) (by omega)
    have e0 := hd t (by omega)
    have e1 := hM.2.2 t (by omega) (by omega)
    have e2 := hq (pd N m k t) (by omega) (by omega)
    obtain ⟨A', k1, k2, k3⟩ := c124_w hN hm hp n (t + 1) (mm_u A 81 (pd N m k t) (A 81 (pd N m k t) + A 78 (12 * p + t))) (by omega) (hM.eqv fun b j hb => mm_u_ne (by omega)) (fun q q1 q2 => by
      rw [sp_s, Nat.div_div_eq_div_mul, ← Nat.pow_succ, show (m - (t + 1)).succ = m - t by omega, show k / N ^ (m - (t + 1)) % N = pd N m k t by unfold pd; rw [show m - 1 - t = m - (t + 1) by omega]]
      by_cases e : q = (pd N m k t : Int)
      · rw [e, mm_u_same, up_same, e1, e2]
      · rw [mm_u_ne (by omega), up_ne e]
        exact hq q q1 q2) (fun j hj => by rw [mm_u_ne (by omega)]; exact hd j hj)
    refine ⟨A', fun r k => ?_, fun b j hb => by rw [k2 b j hb, mm_u_ne (by omega)], k3⟩
    refine p124_87_1 (by omega) ?_
    rw [e0]
    have k4 := k1 r k
    rw [show ((t + 1 : Nat) : Int) = (t : Int) + 1 by omega] at k4
    exact k4
theorem c124_c {w : Nat} {h : Int → Int} (hN : 1 ≤ N ∧ N ≤ 6) (hh : ∀ q : Int, 0 ≤ q → q < N → 0 ≤ h q ∧ h q ≤ 12000) (h0 : A 77 1 = N) (hq : ∀ q : Int, 0 ≤ q → q < N → A 81 q = h q) (kr : mm_E w d 124 150 [(0, .ref 77), (1, mI p), (2, mI x2), (3, mI x3), (4, mI y4), (5, mI (mn h N)), (6, mI N)] [] (mm_w X A) r) : ∀ (n q : Nat), 1 ≤ q → q + n = N → mm_E w d 124 150 [(0, .ref 77), (1, mI p), (2, mI x2), (3, mI x3), (4, mI y4), (5, mI (mn h q)), (6, mI q)] [] (mm_w X A) r
  | 0, q, h1, hq' => by
    rw [show N = q by omega] at kr
    exact kr
  | n + 1, q, h1, hq' => by
    have i := c124_c hN hh h0 hq kr n (q + 1) (by omega) (by omega)
    have e := hq q (by omega) (by omega)
    have b := hh q (by omega) (by omega)
    obtain ⟨t, t1, t2, t3⟩ := mn_in (h := h) (n := q) h1
    have b2 := hh t t1 (by omega)
    rw [mn_s, show ((q + 1 : Nat) : Int) = (q : Int) + 1 by omega] at i
    by_cases c : mn h q ≤ h q
    · rw [show min (mn h q) (h q) = mn h q by omega] at i
      exact p124_150_2 (by omega) i
    · rw [show min (mn h q) (h q) = h q by omega] at i
      refine p124_150_3 (by omega) ?_
      rw [e]
      exact i
end M124
theorem c124_l (hv : VB v) (hN : 1 ≤ N ∧ N ≤ 6) (hm : m ≤ 12) (hw : N ^ m ≤ 65536) (hp : 0 ≤ p ∧ p < 6) : ∀ (n k : Nat) (s : Int) (A : MF), k + n = N ^ m → 0 ≤ s → s ≤ 12000 → MT v N m p A → ∃ A' : MF, mm_E 1 (d + 1) 124 46 [(0, .ref 77), (1, mI p), (2, mI ((N ^ m : Nat) : Int)), (3, mI s), (4, mI k)] [] (mm_w X A) (.inl (some (mI (fo (stg v N m) s k n))), mm_w X A', 0, 0) ∧ ∀ b j, b ≠ 80 → b ≠ 81 → A' b j = A b j
  | 0, k, s, A, h, s1, s2, hM => ⟨A, p124_46_0 (by omega), fun _ _ _ _ => rfl⟩
  | n + 1, k, s, A, h, s1, s2, hM => by
    have hM' := hM
    obtain ⟨a1, a2, a3⟩ := hM'
    obtain ⟨A1, k1, k2, k3⟩ := c98 (X := X) (d := d) hN hm (k := k) (by omega) a1 a2
    have hM1 : MT v N m p (mm_fr A1 81 0 N 0) := hM.eqv fun b j hb => by rw [mm_fr_out (by omega), k2 b j (by omega)]
    obtain ⟨A2, t1, t2, t3⟩ := c124_w (X := X) (d := d + 1) (x2 := ((N ^ m : Nat) : Int)) (x3 := s) (y4 := k) hN hm hp (k := k) m 0 (mm_fr A1 81 0 N 0) (by omega) hM1 (fun q q1 q2 => mm_fr_in q1 q2) (fun j hj => by rw [mm_fr_out (by omega)]; exact k3 j hj)
    have hM2 : MT v N m p A2 := hM1.eqv fun b j hb => t2 b j (by omega)
    have hh : ∀ q : Int, 0 ≤ q → q < N → 0 ≤ sp (fun _ => v) N m k q ∧ sp (fun _ => v) N m k q ≤ 12000 := fun q q1 q2 => by
      have := sp_bd (U := fun _ => v) (N := N) (fun _ i _ _ i1 i2 => hv i i1 i2) (by omega) q1 q2 m k hm
      omega
    obtain ⟨t, r1, r2, r3⟩ := mn_in (h := sp (fun _ => v) N m k) (n := N) hN.1
    have r4 := hh t r1 r2
    have hst : stg v N m s k = max s (mn (sp (fun _ => v) N m k) N) := rfl
    obtain ⟨A3, u1, u2⟩ := c124_l hv hN hm hw hp n (k + 1) (stg v N m s k) A2 (by omega) (by omega) (by omega) hM2
    have hf : fo (stg v N m) s k (n + 1) = fo (stg v N m) (stg v N m s k) (k + 1) n := by
      rw [show n + 1 = 1 + n by omega, fo_add]
      rfl
    rw [hf]
    refine ⟨A3, ?_, fun b j h1 h2 => by rw [u2 b j h1 h2, t2 b j h2, mm_fr_out (by omega), k2 b j h1]⟩
    rw [show ((k + 1 : Nat) : Int) = (k : Int) + 1 by omega] at u1
    have c0 := hM2.1
    have ex : ∀ R : MR, mm_E 1 (d + 1) 124 46 [(0, .ref 77), (1, mI p), (2, mI ((N ^ m : Nat) : Int)), (3, mI (stg v N m s k)), (4, mI ((k : Int) + 1))] [] (mm_w X A2) R → mm_E 1 (d + 1) 124 150 [(0, .ref 77), (1, mI p), (2, mI ((N ^ m : Nat) : Int)), (3, mI s), (4, mI k), (5, mI (mn (sp (fun _ => v) N m k) N)), (6, mI N)] [] (mm_w X A2) R := fun R u => by
      rw [hst] at u
      by_cases c : mn (sp (fun _ => v) N m k) N ≤ s
      · rw [show max s (mn (sp (fun _ => v) N m k) N) = s by omega] at u
        exact p124_150_0 (by omega) u
      · rw [show max s (mn (sp (fun _ => v) N m k) N) = mn (sp (fun _ => v) N m k) N by omega] at u
        exact p124_150_1 (by omega) u
    have y := c124_c (X := X) (d := d + 1) (w := 1) hN hh c0 t3 (ex _ u1) (N - 1) 1 (by omega) (by omega)
    rw [show mn (sp (fun _ => v) N m k) 1 = A2 81 0 by
      rw [mn_s, t3 0 (by omega) (by omega)]
      show min (sp (fun _ => v) N m k 0) (sp (fun _ => v) N m k 0) = sp (fun _ => v) N m k 0
      omega] at y
    have z := c124_z (X := X) (d := d + 1) (A := A1) (p := p) (x2 := ((N ^ m : Nat) : Int)) (x3 := s) (y4 := k) hN (by rw [k2 _ _ (by omega), a1]) (t1 _ y) N 0 (by omega) (by omega)
    rw [mm_fr_0] at z
    exact p124_46_1 k1 (by omega) z
theorem rd10 (hI : Inv A) (hs : mm_sc X x4 z0 z1 z2 z3) (h0 : mm_and z0 31 = 10) : mm_rd X d x4 A := by
  obtain ⟨g3, g4, g5, r0, r1, r2, r3⟩ := hs.2.2.2.2.2
  have hS := hI.1
  unfold Is at hS
  have hn : ((A 2 0).toNat : Int) = A 2 0 := by omega
  have hm' : ((A 2 1).toNat : Int) = A 2 1 := by omega
  have hN : 1 ≤ (A 2 0).toNat ∧ (A 2 0).toNat ≤ 6 := by omega
  have hm : (A 2 1).toNat ≤ 12 := by omega
  have s6 := fun (w d : Nat) => c64 (X := X) (d := d) (A := A) (w := w) hN hm hn.symm hm'.symm
  have hMA : ∀ B : MF, B 77 1 = A 77 1 → B 77 2 = A 77 2 → B 77 1 = (A 2 0).toNat ∧ B 77 2 = (A 2 1).toNat := fun B h1 h2 => by omega
  obtain ⟨y, y1, y2, y3, y4⟩ := c97 (X := X) (d := d + 38) (w := 1) (A := A) hN hm (hMA _ rfl rfl).1 (hMA _ rfl rfl).2
  by_cases c1 : z1 < 0
  · exact thr10 (k := 1) hI hs h0 (by omega) (p143_0_0 (by omega)) (p124_0_0 (d := d + 38) y4 (by omega))
  by_cases c2 : A 77 1 ≤ z1
  · exact thr10 (k := 1) hI hs h0 (by omega) (p143_0_1 (by omega)) (p124_0_3 (d := d + 38) y4 (by omega))
  by_cases c : (A 2 0).toNat ^ (A 2 1).toNat ≤ 65536
  · have hv : VB (A (4 + z1.toNat)) := fun i i1 i2 => by
      have := hI.2.1 z1 i (by omega) (by omega) i1 i2
      omega
    obtain ⟨A', k1, k2, k3⟩ := c25 (X := X) (d := d + 33 - (A 2 1).toNat) (A := A) (v := A (4 + z1.toNat)) (p := z1) hv hN hm (by omega) (fun _ _ _ => rfl)
    rw [hn, hm', show d + 33 - (A 2 1).toNat + (A 2 1).toNat + 2 = d + 35 by omega] at k1
    have hg : ∃ G : Int, G = max 0 (Fx (A (4 + z1.toNat)) (A 2 0).toNat (A 2 1).toNat 0 (fun _ => 0)) := ⟨_, rfl⟩
    obtain ⟨G, hG⟩ := hg
    rw [← hG] at k1 k2
    have hMT : MT (A (4 + z1.toNat)) (A 2 0).toNat (A 2 1).toNat z1 (mm_u (mm_u A' 96 0 G) 77 0 0) := by
      refine ⟨?_, ?_, fun i p3 p4 => ?_⟩
      · rw [mm_u2_ne (by omega) (by omega), k3 _ _ (by omega) (by omega)]
        omega
      · rw [mm_u2_ne (by omega) (by omega), k3 _ _ (by omega) (by omega)]
        omega
      · rw [mm_u2_ne (by omega) (by omega), k3 _ _ (by omega) (by omega)]
        exact (hI.2.1 z1 i (by omega) (by omega) p3 p4).1.symm
    obtain ⟨B', u1, u2⟩ := c124_l (X := X) (d := d + 37) hv hN hm c (p := z1) (by omega) _ 0 0 _ (Nat.zero_add _) (by omega) (by omega) hMT
    have hE := stg_all (v := A (4 + z1.toNat)) (N := (A 2 0).toNat) (m := (A 2 1).toNat) hN.1 (A 2 1).toNat 0 0 0 (by omega)
    rw [Nat.zero_mul] at hE
    rw [hE, show max 0 (Fx (A (4 + z1.toNat)) (A 2 0).toNat (A 2 1).toNat 0 (sp (fun _ => A (4 + z1.toNat)) (A 2 0).toNat 0 0)) = G from hG.symm] at u1
    have z := s6 1 (d + 36)
    rw [if_pos c] at z
    have e1 : mm_u A' 96 0 G 77 1 = A 77 1 := by rw [mm_u_ne (by omega), k3 _ _ (by omega) (by omega)]
    have e2 : mm_u A' 96 0 G 77 2 = A 77 2 := by rw [mm_u_ne (by omega), k3 _ _ (by omega) (by omega)]
    obtain ⟨y, y1, y2, y3, y4⟩ := c97 (X := X) (d := d + 37) (w := 1) hN hm (hMA _ e1 e2).1 (hMA _ e1 e2).2
    rw [y2 c] at y4
    have m1 := p124_0_1 (d := d + 37) (x1 := z1) y4 (by omega) u1
    refine ok10 ?_ hs h0 ((p143_0_2 (p11_0_2 (d := d + 35) z (p72_0_0 k1 (by omega)) (by omega)) (by omega)).mono (by omega)) (m1.mono (by omega)) ?_ ?_ ?_
    · refine hI.eqs fun b k hb => ?_
      unfold mm_scr at hb
      rw [u2 b k (by omega) (by omega), mm_u2_ne (by omega) (by omega), k3 b k (by omega) (by omega)]
    · rw [u2 77 0 (by omega) (by omega), mm_u_same]
    · rw [u2 96 0 (by omega) (by omega), mm_u_ne (by omega), mm_u_same]
    · omega
  · have y5 := y3 (by omega)
    refine thr10 (k := 2) hI hs h0 (by omega) (p143_t (fun w => ?_) (by omega)) (p124_0_2 (d := d + 38) y4 (by omega))
    have z := s6 w (d + 37)
    rw [if_neg c] at z
    exact z
end GW
