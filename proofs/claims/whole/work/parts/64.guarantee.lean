/-! guarantee. -/
def mn (h : Int → Int) : Nat → Int
  | 0 => h 0
  | n + 1 => min (mn h n) (h n)
def mx (f : Int → Int) : Nat → Int
  | 0 => f 0
  | n + 1 => max (mx f n) (f n)
def mxs (s : Int) (f : Int → Int) : Nat → Int
  | 0 => s
  | n + 1 => max (mxs s f n) (f n)
theorem mn_s {h : Int → Int} {n : Nat} : mn h (n + 1) = min (mn h n) (h n) := rfl
theorem mx_s {h : Int → Int} {n : Nat} : mx h (n + 1) = max (mx h n) (h n) := rfl
theorem mxs_s {s : Int} {h : Int → Int} {n : Nat} : mxs s h (n + 1) = max (mxs s h n) (h n) := rfl
theorem mxs_eq {s : Int} {f : Int → Int} : ∀ {n : Nat}, mxs s f (n + 1) = max s (mx f (n + 1))
  | 0 => by
    rw [mxs_s, mx_s]
    show max s (f 0) = max s (max (f 0) (f 0))
    omega
  | n + 1 => by
    rw [mxs_s, mxs_eq (n := n), mx_s (n := n + 1)]
    omega
theorem mn_le {h : Int → Int} : ∀ {n : Nat} {q : Int}, 0 ≤ q → q < n → mn h n ≤ h q
  | 0, q, h1, h2 => by omega
  | n + 1, q, h1, h2 => by
    rw [mn_s]
    by_cases e : q = n
    · rw [e]
      omega
    · have := mn_le (h := h) (n := n) h1 (by omega)
      omega
theorem mn_in {h : Int → Int} : ∀ {n : Nat}, 1 ≤ n → ∃ q : Int, 0 ≤ q ∧ q < n ∧ mn h n = h q
  | 0, k => by omega
  | 1, _ => ⟨0, by omega, by omega, by rw [mn_s]; show min (h 0) (h 0) = h 0; omega⟩
  | n + 2, _ => by
    obtain ⟨q, h1, h2, h3⟩ := mn_in (h := h) (n := n + 1) (by omega)
    rw [mn_s]
    by_cases c : mn h (n + 1) ≤ h ((n + 1 : Nat) : Int)
    · exact ⟨q, h1, by omega, by omega⟩
    · exact ⟨((n + 1 : Nat) : Int), by omega, by omega, by omega⟩
theorem mx_le {h : Int → Int} : ∀ {n : Nat} {q : Int}, 0 ≤ q → q < n → h q ≤ mx h n
  | 0, q, h1, h2 => by omega
  | n + 1, q, h1, h2 => by
    rw [mx_s]
    by_cases e : q = n
    · rw [e]
      omega
    · have := mx_le (h := h) (n := n) h1 (by omega)
      omega
theorem mx_in {h : Int → Int} : ∀ {n : Nat}, 1 ≤ n → ∃ q : Int, 0 ≤ q ∧ q < n ∧ mx h n = h q
  | 0, k => by omega
  | 1, _ => ⟨0, by omega, by omega, by rw [mx_s]; show max (h 0) (h 0) = h 0; omega⟩
  | n + 2, _ => by
    obtain ⟨q, h1, h2, h3⟩ := mx_in (h := h) (n := n + 1) (by omega)
    rw [mx_s]
    by_cases c : h ((n + 1 : Nat) : Int) ≤ mx h (n + 1)
    · exact ⟨q, h1, by omega, by omega⟩
    · exact ⟨((n + 1 : Nat) : Int), by omega, by omega, by omega⟩
def sw (a b q : Int) : Int := if q = a then b else if q = b then a else q
theorem sw_rg {a b q : Int} {N : Nat} (ha : 0 ≤ a ∧ a < N) (hb : 0 ≤ b ∧ b < N) (hq : 0 ≤ q ∧ q < N) : 0 ≤ sw a b q ∧ sw a b q < N := by
  unfold sw
  split
  · exact hb
  · split
    · exact ha
    · exact hq
theorem sw_sw {a b q : Int} : sw a b (sw a b q) = q := by
  unfold sw
  by_cases h1 : q = a
  · rw [if_pos h1]
    by_cases h2 : b = a
    · rw [if_pos h2]
      omega
    · rw [if_neg h2, if_pos rfl]
      omega
  · rw [if_neg h1]
    by_cases h2 : q = b
    · rw [if_pos h2, if_pos rfl]
      omega
    · rw [if_neg h2, if_neg h1, if_neg h2]
theorem mn_sw {h : Int → Int} {a b : Int} {N : Nat} (hN : 1 ≤ N) (ha : 0 ≤ a ∧ a < N) (hb : 0 ≤ b ∧ b < N) : mn (fun q => h (sw a b q)) N = mn h N := by
  obtain ⟨q, q1, q2, q3⟩ := mn_in (h := h) hN
  obtain ⟨t, t1, t2, t3⟩ := mn_in (h := fun q => h (sw a b q)) hN
  have r1 := sw_rg ha hb ⟨q1, q2⟩
  have r2 := sw_rg ha hb ⟨t1, t2⟩
  have l1 := mn_le (h := fun q => h (sw a b q)) r1.1 r1.2
  have l2 := mn_le (h := h) r2.1 r2.2
  simp only [sw_sw] at l1 t3
  omega
theorem mx_sw {h : Int → Int} {a b : Int} {N : Nat} (hN : 1 ≤ N) (ha : 0 ≤ a ∧ a < N) (hb : 0 ≤ b ∧ b < N) : mx (fun q => h (sw a b q)) N = mx h N := by
  obtain ⟨q, q1, q2, q3⟩ := mx_in (h := h) hN
  obtain ⟨t, t1, t2, t3⟩ := mx_in (h := fun q => h (sw a b q)) hN
  have r1 := sw_rg ha hb ⟨q1, q2⟩
  have r2 := sw_rg ha hb ⟨t1, t2⟩
  have l1 := mx_le (h := fun q => h (sw a b q)) r1.1 r1.2
  have l2 := mx_le (h := h) r2.1 r2.2
  simp only [sw_sw] at l1 t3
  omega
/-- the best least bundle when n items are left -/
def Fx (v : Int → Int) (N : Nat) : Nat → Nat → (Int → Int) → Int
  | 0, _, h => mn h N
  | n + 1, i, h => mx (fun b => Fx v N n (i + 1) (up h b (h b + v i))) N
section GU
variable {v : Int → Int} {N : Nat}
theorem Fx_s {n i : Nat} {h : Int → Int} : Fx v N (n + 1) i h = mx (fun b => Fx v N n (i + 1) (up h b (h b + v i))) N := rfl
theorem Fx_sw (hN : 1 ≤ N) {a b : Int} (ha : 0 ≤ a ∧ a < N) (hb : 0 ≤ b ∧ b < N) : ∀ (n i : Nat) (h : Int → Int), Fx v N n i (fun q => h (sw a b q)) = Fx v N n i h
  | 0, i, h => mn_sw hN ha hb
  | n + 1, i, h => by
    rw [Fx_s, Fx_s, ← mx_sw hN ha hb]
    congr 1
    funext c
    rw [sw_sw, ← Fx_sw hN ha hb n (i + 1) (up h c (h c + v i))]
    congr 1
    funext q
    unfold up
    by_cases e : q = sw a b c
    · rw [if_pos e, e, sw_sw, if_pos rfl]
    · rw [if_neg e, if_neg fun k => e (by rw [← k, sw_sw])]
theorem mn_mono {h h' : Int → Int} {c : Int} (hN : 1 ≤ N) (k : ∀ q : Int, 0 ≤ q → q < N → h' q ≤ h q + c) : mn h' N ≤ mn h N + c := by
  obtain ⟨q, q1, q2, q3⟩ := mn_in (h := h) hN
  have := mn_le (h := h') q1 q2
  have := k q q1 q2
  omega
theorem Fx_le (hN : 1 ≤ N) : ∀ (n i : Nat) (h : Int → Int), (∀ k : Int, i ≤ k → k < i + n → 0 ≤ v k) → Fx v N n i h ≤ mn h N + gs v i n
  | 0, i, h, _ => by
    show mn h N ≤ mn h N + 0
    omega
  | n + 1, i, h, hv => by
    rw [Fx_s]
    obtain ⟨q, q1, q2, q3⟩ := mx_in (h := fun b => Fx v N n (i + 1) (up h b (h b + v i))) hN
    rw [q3, gs_f]
    have l := Fx_le hN n (i + 1) (up h q (h q + v i)) fun k h1 h2 => hv k (by omega) (by omega)
    have b := hv i (by omega) (by omega)
    have l2 := mn_mono (h := h) (h' := up h q (h q + v i)) (c := v i) hN fun p p1 p2 => by
      unfold up
      split
      · rename_i e
        rw [e]
        omega
      · omega
    show Fx v N n (i + 1) (up h q (h q + v i)) ≤ _
    omega
/-- the reference's fold is the best of the tree -/
def stg (v : Int → Int) (N m : Nat) (s : Int) (k : Nat) : Int := max s (mn (sp (fun _ => v) N m k) N)
theorem stg_b {m : Nat} {i P n : Nat} (ih : ∀ (P : Nat) (s : Int), fo (stg v N m) s (P * N ^ n) (N ^ n) = max s (Fx v N n (i + 1) (sp (fun _ => v) N (i + 1) P))) : ∀ (b : Nat) (s : Int), b ≤ N → fo (stg v N m) s (P * N * N ^ n) (b * N ^ n) = mxs s (fun b => Fx v N n (i + 1) (up (sp (fun _ => v) N i P) b (sp (fun _ => v) N i P b + v i))) b
  | 0, s, _ => by rw [Nat.zero_mul]; rfl
  | b + 1, s, h => by
    rw [Nat.add_mul, Nat.one_mul, fo_add, stg_b ih b s (by omega), ← Nat.add_mul, ih, mxs_s, sp_c (by omega)]
theorem stg_all {m : Nat} (hN : 1 ≤ N) : ∀ (n i P : Nat) (s : Int), i + n = m → fo (stg v N m) s (P * N ^ n) (N ^ n) = max s (Fx v N n i (sp (fun _ => v) N i P))
  | 0, i, P, s, h => by
    rw [Nat.pow_zero, Nat.mul_one, ← h]
    rfl
  | n + 1, i, P, s, h => by
    have q := stg_b (v := v) (N := N) (m := m) (i := i) (P := P) (n := n) (fun P s => stg_all hN n (i + 1) P s (by omega)) N s (by omega)
    rw [Nat.pow_succ, Nat.mul_comm (N ^ n) N, ← Nat.mul_assoc, q, Fx_s, show N = (N - 1) + 1 by omega, mxs_eq, show N - 1 + 1 = N by omega]
end GU
section GV
variable {X : List Value} {d : Nat} {A : MF} {v : Int → Int} {N m : Nat} {p : Int}
def VB (v : Int → Int) : Prop := ∀ i : Int, 0 ≤ i → i < 12 → 0 ≤ v i ∧ v i ≤ 1000
/-- the class's state -/
def QS (v : Int → Int) (N m : Nat) (p : Int) (h : Int → Int) (s : Int) (A : MF) : Prop := A 23 0 = N ∧ A 23 1 = m ∧ A 23 2 = 4 + p ∧ A 23 3 = s ∧ (∀ q : Int, 0 ≤ q → q < N → A 24 q = h q) ∧ ∀ i : Int, 0 ≤ i → i < 12 → A (4 + p.toNat) i = v i
theorem c26_1 {w : Nat} {h : Int → Int} {s x1 x2 x3 : Int} {r : MR} (hN : 1 ≤ N ∧ N ≤ 6) (hh : ∀ q : Int, 0 ≤ q → q < N → 0 ≤ h q ∧ h q ≤ 12000) (hS : QS v N m p h s A) (k : mm_E w (d + 1) 26 11 [(0, .ref 23), (1, mI x1), (2, mI x2), (3, mI x3), (4, mI (mn h N)), (5, mI N)] [] (mm_w X A) r) : ∀ (n q : Nat), 1 ≤ q → q + n = N → mm_E w (d + 1) 26 11 [(0, .ref 23), (1, mI x1), (2, mI x2), (3, mI x3), (4, mI (mn h q)), (5, mI q)] [] (mm_w X A) r
  | 0, q, h1, hq => by
    rw [show N = q by omega] at k
    exact k
  | n + 1, q, h1, hq => by
    have i := c26_1 hN hh hS k n (q + 1) (by omega) (by omega)
    obtain ⟨a0, a1, a2, a3, a4, a5⟩ := hS
    have e := a4 q (by omega) (by omega)
    have b := hh q (by omega) (by omega)
    obtain ⟨t, t1, t2, t3⟩ := mn_in (h := h) (n := q) h1
    have b2 := hh t t1 (by omega)
    rw [mn_s, ← e, show ((q + 1 : Nat) : Int) = (q : Int) + 1 by omega] at i
    exact p26_11_3 (by omega) i
theorem Fx_em {n i bg : Nat} {h : Int → Int} (hN : 1 ≤ N) (hz : ∀ q : Int, bg ≤ q → q < N → h q = 0) {s : Int} (hb : bg < N) : ∀ (k : Nat), bg + 1 + k ≤ N → mxs s (fun b => Fx v N n (i + 1) (up h b (h b + v i))) (bg + 1 + k) = mxs s (fun b => Fx v N n (i + 1) (up h b (h b + v i))) (bg + 1)
  | 0, _ => rfl
  | k + 1, hk => by
    rw [← Nat.add_assoc, mxs_s, Fx_em hN hz hb k (by omega), mxs_s]
    have e : Fx v N n (i + 1) (up h ((bg + 1 + k : Nat) : Int) (h ((bg + 1 + k : Nat) : Int) + v i)) = Fx v N n (i + 1) (up h (bg : Int) (h bg + v i)) := by
      rw [← Fx_sw (v := v) (N := N) (a := bg) (b := ((bg + 1 + k : Nat) : Int)) hN ⟨by omega, by omega⟩ ⟨by omega, by omega⟩ n (i + 1) (up h (bg : Int) (h bg + v i))]
      congr 1
      have z1 := hz bg (by omega) (by omega)
      have z2 := hz ((bg + 1 + k : Nat) : Int) (by omega) (by omega)
      funext q
      unfold up sw
      by_cases e1 : q = ((bg + 1 + k : Nat) : Int)
      · rw [if_pos e1, if_neg (c := q = (bg : Int)) (by omega), if_pos e1, if_pos rfl, z1, z2]
      · rw [if_neg e1]
        by_cases e2 : q = (bg : Int)
        · rw [if_pos e2, if_neg (by omega), e2, z1, z2]
        · rw [if_neg e2, if_neg e1, if_neg e2]
    show max (max _ (Fx v N n (i + 1) (up h (bg : Int) (h bg + v i)))) (Fx v N n (i + 1) (up h ((bg + 1 + k : Nat) : Int) (h ((bg + 1 + k : Nat) : Int) + v i))) = max _ (Fx v N n (i + 1) (up h (bg : Int) (h bg + v i)))
    rw [e]
    omega
theorem c26_b (hv : VB v) (hN : 1 ≤ N ∧ N ≤ 6) (hm : m ≤ 12) (hp : 0 ≤ p ∧ p < 6) {i n bg : Nat} {h : Int → Int} (hi : i + (n + 1) = m) (hb : bg ≤ N) (hz : ∀ q : Int, bg ≤ q → q < N → h q = 0) (hh : ∀ q : Int, 0 ≤ q → q < N → 0 ≤ h q ∧ h q ≤ 1000 * i) (ih : ∀ (bg : Nat) (h : Int → Int) (s : Int) (A : MF), bg ≤ N → (∀ q : Int, bg ≤ q → q < N → h q = 0) → (∀ q : Int, 0 ≤ q → q < N → 0 ≤ h q ∧ h q ≤ 1000 * (i + 1 : Nat)) → 0 ≤ s → s ≤ 12000 → QS v N m p h s A → ∃ A' : MF, mm_E 1 (d + n + 1) 26 0 [(0, .ref 23), (1, mI (i + 1)), (2, mI bg), (3, mI (gs v (i + 1) n))] [] (mm_w X A) (.inl none, mm_w X A', 0, 0) ∧ QS v N m p h (max s (Fx v N n (i + 1) h)) A' ∧ max s (Fx v N n (i + 1) h) ≤ 12000 ∧ ∀ b k, b ≠ 23 → b ≠ 24 → A' b k = A b k) : ∀ (q b : Nat) (s : Int) (A : MF), b + q = min (bg + 1) N → 0 ≤ s → s ≤ 12000 → QS v N m p h (mxs s (fun b => Fx v N n (i + 1) (up h b (h b + v i))) b) A → 0 ≤ mxs s (fun b => Fx v N n (i + 1) (up h b (h b + v i))) b → mxs s (fun b => Fx v N n (i + 1) (up h b (h b + v i))) b ≤ 12000 → ∃ A' : MF, mm_E 1 (d + n + 1 + 1) 26 82 [(0, .ref 23), (1, mI i), (2, mI bg), (3, mI (gs v i (n + 1))), (5, mI ((min (bg + 1) N : Nat) : Int)), (6, mI b)] [] (mm_w X A) (.inl none, mm_w X A', 0, 0) ∧ QS v N m p h (mxs s (fun b => Fx v N n (i + 1) (up h b (h b + v i))) (b + q)) A' ∧ mxs s (fun b => Fx v N n (i + 1) (up h b (h b + v i))) (b + q) ≤ 12000 ∧ ∀ b k, b ≠ 23 → b ≠ 24 → A' b k = A b k
  | 0, b, s, A, hq, s1, s2, hS, hs, hs2 => ⟨A, p26_82_0 (by omega), hS, hs2, fun _ _ _ _ => rfl⟩
  | q + 1, b, s, A, hq, s1, s2, hS, hs, hs2 => by
    have hS' := hS
    obtain ⟨a0, a1, a2, a3, a4, a5⟩ := hS'
    have hbN : b < N := by omega
    have e5 := a5 i (by omega) (by omega)
    have bv := hv i (by omega) (by omega)
    have hhb := hh b (by omega) (by omega)
    have e4 := a4 b (by omega) (by omega)
    have hS1 : QS v N m p (up h b (h b + v i)) (mxs s (fun b => Fx v N n (i + 1) (up h b (h b + v i))) b) (mm_u A 24 b (A 24 b + A (4 + p.toNat) i)) := by
      refine ⟨by rw [mm_u_ne (by omega), a0], by rw [mm_u_ne (by omega), a1], by rw [mm_u_ne (by omega), a2], by rw [mm_u_ne (by omega), a3], fun q q1 q2 => ?_, fun j j1 j2 => by rw [mm_u_ne (by omega)]; exact a5 j j1 j2⟩
      by_cases e : q = b
      · rw [e, mm_u_same, up_same, e4, e5]
      · rw [mm_u_ne (by omega), up_ne e]
        exact a4 q q1 q2
    have hh1 : ∀ q : Int, 0 ≤ q → q < N → 0 ≤ up h b (h b + v i) q ∧ up h b (h b + v i) q ≤ 1000 * (i + 1 : Nat) := fun q q1 q2 => by
      unfold up
      have := hh q q1 q2
      split <;> omega
    have e6 : gs v i (n + 1) - mm_u A 24 b (A 24 b + A (4 + p.toNat) i) (4 + p.toNat) i = gs v (i + 1) n := by
      rw [mm_u_ne (by omega), e5, gs_f]
      omega
    have st : ∀ bg' : Nat, bg' ≤ N → (∀ q : Int, bg' ≤ q → q < N → up h b (h b + v i) q = 0) → ∃ A0 : MF, mm_E 1 (d + n + 1) 26 0 [(0, .ref 23), (1, mI (i + 1)), (2, mI bg'), (3, mI (gs v i (n + 1) - mm_u A 24 b (A 24 b + A (4 + p.toNat) i) (4 + p.toNat) i))] [] (mm_w X (mm_u A 24 b (A 24 b + A (4 + p.toNat) i))) (.inl none, mm_w X A0, 0, 0) ∧ QS v N m p (up h b (h b + v i)) (mxs s (fun b => Fx v N n (i + 1) (up h b (h b + v i))) (b + 1)) A0 ∧ mxs s (fun b => Fx v N n (i + 1) (up h b (h b + v i))) (b + 1) ≤ 12000 ∧ ∀ b k, b ≠ 23 → b ≠ 24 → A0 b k = A b k := fun bg' h1 h2 => by
      obtain ⟨A0, t1, t2, t3, t4⟩ := ih bg' (up h b (h b + v i)) _ _ h1 h2 hh1 hs hs2 hS1
      rw [e6]
      exact ⟨A0, t1, t2, t3, fun c k h1 h2 => by rw [t4 c k h1 h2, mm_u_ne (by omega)]⟩
    have fin : ∀ A0 : MF, QS v N m p (up h b (h b + v i)) (mxs s (fun b => Fx v N n (i + 1) (up h b (h b + v i))) (b + 1)) A0 → QS v N m p h (mxs s (fun b => Fx v N n (i + 1) (up h b (h b + v i))) (b + 1)) (mm_u A0 24 b (A0 24 b - A0 (4 + p.toNat) i)) := fun A0 hQ => by
      obtain ⟨b0, b1, b2, b3, b4, b5⟩ := hQ
      refine ⟨by rw [mm_u_ne (by omega), b0], by rw [mm_u_ne (by omega), b1], by rw [mm_u_ne (by omega), b2], by rw [mm_u_ne (by omega), b3], fun q q1 q2 => ?_, fun j j1 j2 => by rw [mm_u_ne (by omega)]; exact b5 j j1 j2⟩
      by_cases e : q = b
      · rw [e, mm_u_same, b4 b (by omega) (by omega), b5 i (by omega) (by omega), up_same]
        omega
      · rw [mm_u_ne (by omega), b4 q q1 q2, up_ne e]
    have hpos : 0 ≤ mxs s (fun b => Fx v N n (i + 1) (up h b (h b + v i))) (b + 1) := by
      rw [mxs_s]
      omega
    have hly := lr4 hp.1 hp.2
    by_cases c : b = bg
    · obtain ⟨A0, t1, t2, t3, t4⟩ := st (bg + 1) (by omega) (fun q q1 q2 => by rw [up_ne (by omega)]; exact hz q (by omega) q2)
      obtain ⟨A', u1, u2, u3, u4⟩ := c26_b hv hN hm hp hi hb hz hh ih q (b + 1) s _ (by omega) s1 s2 (fin A0 t2) hpos t3
      rw [show b + (q + 1) = b + 1 + q by omega]
      refine ⟨A', ?_, u2, u3, fun c k h1 h2 => by rw [u4 c k h1 h2, mm_u_ne (by omega), t4 c k h1 h2]⟩
      have f2 := t2.2.2.1
      rw [show ((b + 1 : Nat) : Int) = (b : Int) + 1 by omega] at u1
      rw [show ((bg + 1 : Nat) : Int) = (bg : Int) + 1 by omega] at t1
      exact p26_82_2 hly t1 (by omega) u1
    · obtain ⟨A0, t1, t2, t3, t4⟩ := st bg hb (fun q q1 q2 => by rw [up_ne (by omega)]; exact hz q q1 q2)
      obtain ⟨A', u1, u2, u3, u4⟩ := c26_b hv hN hm hp hi hb hz hh ih q (b + 1) s _ (by omega) s1 s2 (fin A0 t2) hpos t3
      rw [show b + (q + 1) = b + 1 + q by omega]
      refine ⟨A', ?_, u2, u3, fun c k h1 h2 => by rw [u4 c k h1 h2, mm_u_ne (by omega), t4 c k h1 h2]⟩
      have f2 := t2.2.2.1
      rw [show ((b + 1 : Nat) : Int) = (b : Int) + 1 by omega] at u1
      exact p26_82_1 hly t1 (by omega) u1
theorem c26 (hv : VB v) (hN : 1 ≤ N ∧ N ≤ 6) (hm : m ≤ 12) (hp : 0 ≤ p ∧ p < 6) : ∀ (n i bg : Nat) (h : Int → Int) (s : Int) (A : MF), i + n = m → bg ≤ N → (∀ q : Int, bg ≤ q → q < N → h q = 0) → (∀ q : Int, 0 ≤ q → q < N → 0 ≤ h q ∧ h q ≤ 1000 * i) → 0 ≤ s → s ≤ 12000 → QS v N m p h s A → ∃ A' : MF, mm_E 1 (d + n + 1) 26 0 [(0, .ref 23), (1, mI i), (2, mI bg), (3, mI (gs v i n))] [] (mm_w X A) (.inl none, mm_w X A', 0, 0) ∧ QS v N m p h (max s (Fx v N n i h)) A' ∧ max s (Fx v N n i h) ≤ 12000 ∧ ∀ b k, b ≠ 23 → b ≠ 24 → A' b k = A b k
  | n, i, bg, h, s, A, hi, hb, hz, hh, s1, s2, hS => by
    have hS' := hS
    obtain ⟨a0, a1, a2, a3, a4, a5⟩ := hS'
    have go : ∀ r, mm_E 1 (d + n + 1) 26 11 [(0, .ref 23), (1, mI i), (2, mI bg), (3, mI (gs v i n)), (4, mI (mn h N)), (5, mI N)] [] (mm_w X A) r → mm_E 1 (d + n + 1) 26 0 [(0, .ref 23), (1, mI i), (2, mI bg), (3, mI (gs v i n))] [] (mm_w X A) r := fun r k => by
      have q := c26_1 (d := d + n) hN (fun q q1 q2 => by have := hh q q1 q2; omega) hS k (N - 1) 1 (by omega) (by omega)
      rw [show mn h 1 = h 0 by rw [mn_s]; show min (h 0) (h 0) = h 0; omega, ← a4 0 (by omega) (by omega)] at q
      exact p26_0_0 q
    have hg := gs_bd (f := v) (b := 1000) (i := i) (n := n) fun k k1 k2 => hv k (by omega) (by omega)
    obtain ⟨t, t1, t2, t3⟩ := mn_in (h := h) (n := N) hN.1
    have ht := hh t t1 t2
    have hF := Fx_le (v := v) hN.1 n i h fun k k1 k2 => (hv k (by omega) (by omega)).1
    by_cases c : mn h N + gs v i n ≤ s
    · rw [show max s (Fx v N n i h) = s by omega]
      exact ⟨A, go _ (p26_11_2 (by omega)), hS, s2, fun _ _ _ _ => rfl⟩
    match n, hi with
    | 0, hi =>
      have e : Fx v N 0 i h = mn h N := rfl
      have e2 : gs v i 0 = 0 := rfl
      rw [e, show max s (mn h N) = mn h N by omega]
      refine ⟨mm_u A 23 3 (mn h N), go _ (p26_11_1 (by omega)), ⟨by rw [mm_u_ne (by omega), a0], by rw [mm_u_ne (by omega), a1], by rw [mm_u_ne (by omega), a2], mm_u_same, fun q q1 q2 => by rw [mm_u_ne (by omega)]; exact a4 q q1 q2, fun j j1 j2 => by rw [mm_u_ne (by omega)]; exact a5 j j1 j2⟩, by omega, fun b k h1 h2 => mm_u_ne (by omega)⟩
    | n + 1, hi =>
      obtain ⟨A', u1, u2, u3, u4⟩ := c26_b (X := X) (d := d) (n := n) hv hN hm hp hi hb hz hh (fun bg h s A q1 q2 q3 q4 q5 q6 => by
        have q := c26 hv hN hm hp n (i + 1) bg h s A (by omega) q1 q2 q3 q4 q5 q6
        rw [show ((i + 1 : Nat) : Int) = (i : Int) + 1 by omega] at q
        exact q) (min (bg + 1) N) 0 s A (by omega) s1 s2 hS s1 s2
      have hE : mxs s (fun b => Fx v N n (i + 1) (up h b (h b + v i))) (min (bg + 1) N) = max s (Fx v N (n + 1) i h) := by
        rw [Fx_s]
        by_cases cb : bg + 1 < N
        · have q := Fx_em (v := v) (n := n) (i := i) (s := s) hN.1 hz (by omega) (N - (bg + 1)) (by omega)
          rw [show bg + 1 + (N - (bg + 1)) = (N - 1) + 1 by omega, mxs_eq, show N - 1 + 1 = N by omega] at q
          rw [show min (bg + 1) N = bg + 1 by omega, ← q]
        · rw [show min (bg + 1) N = (N - 1) + 1 by omega, mxs_eq, show N - 1 + 1 = N by omega]
      rw [Nat.zero_add, hE] at u2 u3
      refine ⟨A', go _ (p26_11_0 (by omega) ?_), u2, u3, u4⟩
      rw [a0, show min ((bg : Int) + 1) (N : Int) = ((min (bg + 1) N : Nat) : Int) by omega]
      exact u1
end GV
