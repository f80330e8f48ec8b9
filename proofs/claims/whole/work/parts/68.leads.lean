/-! rooms: the leads. -/
def upn (L : Nat → Int) (i : Nat) (z : Int) : Nat → Int := fun k => if k = i then z else L k
def upt (t : Nat → Nat) (i z : Nat) : Nat → Nat := fun k => if k = i then z else t k
def pq (w : Nat → Nat → Int) (L : Nat → Int) (p q : Nat) : Nat → Int := upn L p (max (L p) (L q + w p q))
def pi (w : Nat → Nat → Int) (p : Nat) : Nat → Nat → (Nat → Int) → (Nat → Int)
  | 0, _, L => L
  | n + 1, q, L => pi w p n (q + 1) (pq w L p q)
def po (w : Nat → Nat → Int) (N : Nat) : Nat → Nat → (Nat → Int) → (Nat → Int)
  | 0, _, L => L
  | n + 1, p, L => po w N n (p + 1) (pi w p N 0 L)
def pn (w : Nat → Nat → Int) (N : Nat) : Nat → (Nat → Int) → (Nat → Int)
  | 0, L => L
  | k + 1, L => pn w N k (po w N N 0 L)
section LD
variable {w : Nat → Nat → Int} {N : Nat}
theorem pn_s : ∀ {k : Nat} {L : Nat → Int}, pn w N (k + 1) L = po w N N 0 (pn w N k L)
  | 0, L => rfl
  | k + 1, L => by
    show pn w N (k + 1) (po w N N 0 L) = po w N N 0 (pn w N k (po w N N 0 L))
    exact pn_s
theorem pq_ge {L : Nat → Int} {p q i : Nat} : L i ≤ pq w L p q i := by
  unfold pq upn
  split
  · rename_i e
    rw [e]
    omega
  · exact Int.le_refl _
theorem pi_ge {p : Nat} : ∀ {n q : Nat} {L : Nat → Int} {i : Nat}, L i ≤ pi w p n q L i
  | 0, q, L, i => Int.le_refl _
  | n + 1, q, L, i => Int.le_trans pq_ge (pi_ge (n := n) (q := q + 1) (L := pq w L p q))
theorem po_ge : ∀ {n p : Nat} {L : Nat → Int} {i : Nat}, L i ≤ po w N n p L i
  | 0, p, L, i => Int.le_refl _
  | n + 1, p, L, i => Int.le_trans pi_ge (po_ge (n := n) (p := p + 1) (L := pi w p N 0 L))
theorem pn_ge : ∀ {k j : Nat} {L : Nat → Int} {i : Nat}, pn w N k L i ≤ pn w N (k + j) L i
  | k, 0, L, i => Int.le_refl _
  | k, j + 1, L, i => by
    rw [← Nat.add_assoc, pn_s]
    exact Int.le_trans (pn_ge (j := j)) po_ge
theorem pi_do {p : Nat} {L0 : Nat → Int} : ∀ {n q : Nat} {L : Nat → Int} {i : Nat}, (∀ j, L0 j ≤ L j) → q ≤ i → i < q + n → L0 i + w p i ≤ pi w p n q L p
  | 0, q, L, i, h, h1, h2 => by omega
  | n + 1, q, L, i, h, h1, h2 => by
    show L0 i + w p i ≤ pi w p n (q + 1) (pq w L p q) p
    by_cases e : i = q
    · have h3 : L0 i + w p i ≤ pq w L p q p := by
        unfold pq upn
        rw [if_pos rfl, e]
        have := h q
        omega
      exact Int.le_trans h3 pi_ge
    · exact pi_do (L0 := L0) (n := n) (q := q + 1) (L := pq w L p q) (fun j => Int.le_trans (h j) pq_ge) (by omega) (by omega)
theorem po_do {L0 : Nat → Int} : ∀ {n p : Nat} {L : Nat → Int} {i q : Nat}, (∀ j, L0 j ≤ L j) → p ≤ i → i < p + n → q < N → L0 q + w i q ≤ po w N n p L i
  | 0, p, L, i, q, h, h1, h2, h3 => by omega
  | n + 1, p, L, i, q, h, h1, h2, h3 => by
    show L0 q + w i q ≤ po w N n (p + 1) (pi w p N 0 L) i
    by_cases e : i = p
    · rw [e]
      exact Int.le_trans (pi_do (L0 := L0) h (by omega) (by omega)) po_ge
    · exact po_do (L0 := L0) (fun j => Int.le_trans (h j) pi_ge) (by omega) (by omega) h3
/-! walks -/
def wt (w : Nat → Nat → Int) (v : Nat → Nat) : Nat → Int
  | 0 => 0
  | k + 1 => wt w v k + w (v k) (v (k + 1))
theorem wt_s {v : Nat → Nat} {k : Nat} : wt w v (k + 1) = wt w v k + w (v k) (v (k + 1)) := rfl
theorem wt_add {v : Nat → Nat} {a : Nat} : ∀ {b : Nat}, wt w v (a + b) = wt w v a + wt w (fun i => v (a + i)) b
  | 0 => (Int.add_zero _).symm
  | b + 1 => by
    rw [← Nat.add_assoc, wt_s, wt_add, wt_s]
    show _ = wt w v a + (wt w (fun i => v (a + i)) b + w (v (a + b)) (v (a + (b + 1))))
    rw [Int.add_assoc, Nat.add_assoc]
theorem wt_eq {v v' : Nat → Nat} : ∀ {k : Nat}, (∀ i, i ≤ k → v i = v' i) → wt w v k = wt w v' k
  | 0, _ => rfl
  | k + 1, h => by rw [wt_s, wt_s, wt_eq (k := k) fun i hi => h i (by omega), h k (by omega), h (k + 1) (by omega)]
theorem wt_f {v : Nat → Nat} {k : Nat} : wt w v (k + 1) = w (v 0) (v 1) + wt w (fun i => v (i + 1)) k := by
  rw [Nat.add_comm k 1, wt_add]
  have e : (fun i => v (1 + i)) = fun i => v (i + 1) := by
    funext i
    rw [Nat.add_comm]
  rw [e]
  show 0 + w (v 0) (v 1) + _ = _
  omega
theorem wt_pn : ∀ {k : Nat} {v : Nat → Nat}, (∀ i, v i < N) → wt w v k ≤ pn w N k (fun _ => 0) (v 0)
  | 0, v, h => Int.le_refl _
  | k + 1, v, h => by
    have i := wt_pn (k := k) (v := fun i => v (i + 1)) fun i => h (i + 1)
    have d := po_do (w := w) (N := N) (L0 := pn w N k (fun _ => 0)) (n := N) (p := 0) (L := pn w N k (fun _ => 0)) (i := v 0) (q := v 1) (fun _ => Int.le_refl _) (by omega) (by have := h 0; omega) (h 1)
    rw [wt_f, pn_s]
    have i' : wt w (fun i => v (i + 1)) k ≤ pn w N k (fun _ => 0) (v 1) := i
    omega
/-- each number is the weight of a walk -/
def Wk (w : Nat → Nat → Int) (N : Nat) (L : Nat → Int) : Prop := ∀ p, p < N → 0 ≤ L p ∧ ∃ (K : Nat) (v : Nat → Nat), v 0 = p ∧ (∀ i, v i < N) ∧ L p = wt w v K
theorem Wk_pq {L : Nat → Int} {p q : Nat} (h : Wk w N L) (hq : q < N) : Wk w N (pq w L p q) := fun i hi => by
  refine ⟨Int.le_trans (h i hi).1 pq_ge, ?_⟩
  unfold pq upn
  by_cases e : i = p
  · rw [if_pos e]
    by_cases c : L q + w p q ≤ L p
    · rw [show max (L p) (L q + w p q) = L p by omega, ← e]
      exact (h i hi).2
    · rw [show max (L p) (L q + w p q) = L q + w p q by omega]
      obtain ⟨-, K, v, h1, h2, h3⟩ := h q hq
      refine ⟨K + 1, fun i => if i = 0 then p else v (i - 1), e.symm, fun j => ?_, ?_⟩
      · show (if j = 0 then p else v (j - 1)) < N
        split
        · omega
        · exact h2 _
      · rw [wt_f]
        show L q + w p q = w p (v 0) + wt w (fun i => v (i + 1 - 1)) K
        rw [h1, h3, Int.add_comm]
        rfl
  · rw [if_neg e]
    exact (h i hi).2
theorem Wk_pi {p : Nat} : ∀ {n q : Nat} {L : Nat → Int}, Wk w N L → q + n ≤ N → Wk w N (pi w p n q L)
  | 0, q, L, h, _ => h
  | n + 1, q, L, h, hq => Wk_pi (n := n) (q := q + 1) (Wk_pq h (by omega)) (by omega)
theorem Wk_po : ∀ {n p : Nat} {L : Nat → Int}, Wk w N L → Wk w N (po w N n p L)
  | 0, p, L, h => h
  | n + 1, p, L, h => Wk_po (n := n) (p := p + 1) (Wk_pi h (by omega))
theorem Wk_pn : ∀ {k : Nat} {L : Nat → Int}, Wk w N L → Wk w N (pn w N k L)
  | 0, L, h => h
  | k + 1, L, h => Wk_pn (k := k) (Wk_po h)
theorem Wk_zero : Wk w N (fun _ => 0) := fun p hp => ⟨Int.le_refl _, 0, fun _ => p, rfl, fun _ => hp, rfl⟩
/-- circles weigh nothing -/
def NC (w : Nat → Nat → Int) (N : Nat) : Prop := ∀ (v : Nat → Nat) (n : Nat), 0 < n → (∀ i, v i < N) → v 0 = v n → (∀ i j, i < j → j < n → v i ≠ v j) → wt w v n ≤ 0
theorem cy_min {v : Nat → Nat} : ∀ (g a b : Nat), b - a ≤ g → a < b → v a = v b → ∃ a' b', a ≤ a' ∧ a' < b' ∧ b' ≤ b ∧ v a' = v b' ∧ ∀ i j, a' ≤ i → i < j → j < b' → v i ≠ v j
  | 0, a, b, h, h1, _ => by omega
  | g + 1, a, b, h, h1, h2 => by
    by_cases c : ∃ i j, a ≤ i ∧ i < j ∧ j < b ∧ v i = v j
    · obtain ⟨i, j, c1, c2, c3, c4⟩ := c
      obtain ⟨a', b', q1, q2, q3, q4, q5⟩ := cy_min g i j (by omega) c2 c4
      exact ⟨a', b', by omega, q2, by omega, q4, q5⟩
    · exact ⟨a, b, by omega, h1, by omega, h2, fun i j i1 i2 i3 i4 => c ⟨i, j, i1, i2, i3, i4⟩⟩
theorem wt_short (hc : NC w N) : ∀ (K : Nat) (v : Nat → Nat), (∀ i, v i < N) → ∃ (K' : Nat) (v' : Nat → Nat), K' < N ∧ v' 0 = v 0 ∧ (∀ i, v' i < N) ∧ wt w v K ≤ wt w v' K'
  | K, v, hv => by
    by_cases hK : K < N
    · exact ⟨K, v, hK, rfl, hv, Int.le_refl _⟩
    · obtain ⟨a, b, h1, h2, h3⟩ := pigeon N (fun k => (v k : Int)) (fun k _ => by have := hv k; omega)
      obtain ⟨a', b', q1, q2, q3, q4, q5⟩ := cy_min (v := v) (b - a) a b (by omega) h1 (by have : (v a : Int) = v b := h3; omega)
      have hn := hc (fun i => v (a' + i)) (b' - a') (by omega) (fun i => hv _) (by show v (a' + 0) = v (a' + (b' - a')); rw [Nat.add_zero, show a' + (b' - a') = b' by omega, q4]) (fun i j i1 i2 => q5 _ _ (by omega) (by omega) (by omega))
      obtain ⟨K', v', t1, t2, t3, t4⟩ := wt_short hc (K - (b' - a')) (fun i => if i ≤ a' then v i else v (i + (b' - a'))) (fun i => by
        show (if i ≤ a' then v i else v (i + (b' - a'))) < N
        split <;> exact hv _)
      refine ⟨K', v', t1, ?_, t3, Int.le_trans ?_ t4⟩
      · rw [t2, if_pos (by omega)]
      · have e1 : wt w v K = wt w v a' + (wt w (fun i => v (a' + i)) (b' - a') + wt w (fun i => v (b' + i)) (K - b')) := by
          have := wt_add (w := w) (v := v) (a := a') (b := (b' - a') + (K - b'))
          rw [show a' + ((b' - a') + (K - b')) = K by omega, wt_add (v := fun i => v (a' + i))] at this
          rw [this]
          congr 3
          funext i
          rw [← Nat.add_assoc, show a' + (b' - a') = b' by omega]
        have e2 : wt w (fun i => if i ≤ a' then v i else v (i + (b' - a'))) (K - (b' - a')) = wt w v a' + wt w (fun i => v (b' + i)) (K - b') := by
          rw [show K - (b' - a') = a' + (K - b') by omega, wt_add]
          congr 1
          · exact wt_eq fun i hi => if_pos hi
          · refine wt_eq fun i hi => ?_
            show (if a' + i ≤ a' then v (a' + i) else v (a' + i + (b' - a'))) = v (b' + i)
            by_cases c : i = 0
            · rw [c, if_pos (by omega), Nat.add_zero, q4, Nat.add_zero]
            · rw [if_neg (by omega), show a' + i + (b' - a') = b' + i by omega]
        rw [e1, e2]
        omega
termination_by K => K
theorem pn_fix (hc : NC w N) {p q : Nat} (hp : p < N) (hq : q < N) : pn w N (N - 1) (fun _ => 0) q + w p q ≤ pn w N (N - 1) (fun _ => 0) p := by
  obtain ⟨-, K, v, h1, h2, h3⟩ := Wk_pn (w := w) (N := N) (k := N - 1) Wk_zero q hq
  obtain ⟨K', v', t1, t2, t3, t4⟩ := wt_short hc (K + 1) (fun i => if i = 0 then p else v (i - 1)) (fun i => by
    show (if i = 0 then p else v (i - 1)) < N
    split
    · exact hp
    · exact h2 _)
  rw [wt_f] at t4
  have e : w p (v 0) + wt w (fun i => v (i + 1 - 1)) K ≤ wt w v' K' := t4
  have e2 : wt w (fun i => v (i + 1 - 1)) K = wt w v K := rfl
  have l := wt_pn (w := w) (N := N) (k := K') (v := v') t3
  have l2 := pn_ge (w := w) (N := N) (k := K') (j := N - 1 - K') (L := fun _ => 0) (i := v' 0)
  rw [show K' + (N - 1 - K') = N - 1 by omega] at l2
  have e3 : v' 0 = p := t2
  rw [e3] at l l2
  rw [h1, e2] at e
  rw [h3]
  omega
theorem pq_id {L : Nat → Int} {p q : Nat} (h : L q + w p q ≤ L p) : pq w L p q = L := by
  funext i
  unfold pq upn
  split
  · rename_i e
    rw [e]
    omega
  · rfl
theorem pi_id {L : Nat → Int} {p : Nat} : ∀ {n q : Nat}, (∀ i, q ≤ i → i < q + n → L i + w p i ≤ L p) → pi w p n q L = L
  | 0, q, _ => rfl
  | n + 1, q, h => by
    show pi w p n (q + 1) (pq w L p q) = L
    rw [pq_id (h q (by omega) (by omega))]
    exact pi_id fun i h1 h2 => h i (by omega) (by omega)
theorem po_id {L : Nat → Int} : ∀ {n p : Nat}, (∀ i q, p ≤ i → i < p + n → q < N → L q + w i q ≤ L i) → po w N n p L = L
  | 0, p, _ => rfl
  | n + 1, p, h => by
    show po w N n (p + 1) (pi w p N 0 L) = L
    rw [pi_id fun i h1 h2 => h p i (by omega) (by omega) (by omega)]
    exact po_id fun i q h1 h2 h3 => h i q (by omega) (by omega) h3
theorem pn_last (hN : 1 ≤ N) (hc : NC w N) : pn w N N (fun _ => 0) = pn w N (N - 1) (fun _ => 0) := by
  have e : pn w N N (fun _ => 0) = po w N N 0 (pn w N (N - 1) (fun _ => 0)) := by
    rw [← pn_s, show N - 1 + 1 = N by omega]
  rw [e]
  exact po_id fun i q h1 h2 h3 => pn_fix hc (by omega) h3
theorem wt_bd {b : Int} (hb : ∀ p q, p < N → q < N → w p q ≤ b) {v : Nat → Nat} (hv : ∀ i, v i < N) : ∀ {k : Nat}, wt w v k ≤ b * k
  | 0 => by simp [wt]
  | k + 1 => by
    have i := wt_bd hb hv (k := k)
    have h := hb (v k) (v (k + 1)) (hv _) (hv _)
    have e : b * ((k + 1 : Nat) : Int) = b * k + b := by
      rw [show ((k + 1 : Nat) : Int) = (k : Int) + 1 by omega, Int.mul_add, Int.mul_one]
    rw [wt_s, e]
    omega
theorem Wk_bd (hN : N ≤ 6) (hc : NC w N) (hb : ∀ p q, p < N → q < N → w p q ≤ 100000) {L : Nat → Int} (h : Wk w N L) {p : Nat} (hp : p < N) : 0 ≤ L p ∧ L p ≤ 500000 := by
  obtain ⟨h0, K, v, h1, h2, h3⟩ := h p hp
  obtain ⟨K', v', t1, t2, t3, t4⟩ := wt_short hc K v h2
  have := wt_bd hb t3 (k := K')
  omega
end LD
/-! the best division has no circle that gains -/
theorem sr_up {V : Int → Int → Int} {t : Nat → Nat} {x y : Nat} : ∀ {n : Nat}, sr V (upt t x y) n = sr V t n + if x < n then V x y - V x (t x) else 0
  | 0 => by
    rw [if_neg (by omega)]
    rfl
  | n + 1 => by
    have i := sr_up (V := V) (t := t) (x := x) (y := y) (n := n)
    rw [sr_s, sr_s, i]
    unfold upt
    by_cases e : n = x
    · rw [if_pos e, if_neg (by omega), if_pos (by omega), e]
      omega
    · rw [if_neg e]
      by_cases c : x < n
      · rw [if_pos c, if_pos (by omega)]
        omega
      · rw [if_neg c, if_neg (by omega)]
        omega
abbrev wq (V : Int → Int → Int) (t : Nat → Nat) : Nat → Nat → Int := fun p q => V p (t q) - V q (t q)
def ro (t v : Nat → Nat) : Nat → Nat → Nat
  | 0 => t
  | j + 1 => upt (ro t v j) (v j) (t (v (j + 1)))
section BD
variable {V : Int → Int → Int} {N : Nat} {t v : Nat → Nat}
theorem ro_s {j : Nat} : ro t v (j + 1) = upt (ro t v j) (v j) (t (v (j + 1))) := rfl
theorem ro_in {n : Nat} (hd : ∀ i j, i < j → j < n → v i ≠ v j) : ∀ {j : Nat}, j ≤ n → (∀ i, i < j → ro t v j (v i) = t (v (i + 1))) ∧ ∀ q, (∀ i, i < j → q ≠ v i) → ro t v j q = t q
  | 0, _ => ⟨fun i hi => by omega, fun q _ => rfl⟩
  | j + 1, h => by
    obtain ⟨i1, i2⟩ := ro_in hd (j := j) (by omega)
    refine ⟨fun i hi => ?_, fun q hq => ?_⟩
    · rw [ro_s]
      unfold upt
      by_cases e : i = j
      · rw [if_pos (by rw [e]), e]
      · rw [if_neg (hd i j (by omega) (by omega))]
        exact i1 i (by omega)
    · rw [ro_s]
      unfold upt
      rw [if_neg (hq j (by omega))]
      exact i2 q fun i hi => hq i (by omega)
theorem ro_sum {n : Nat} (hv : ∀ i, v i < N) (hd : ∀ i j, i < j → j < n → v i ≠ v j) : ∀ {j : Nat}, j ≤ n → sr V (ro t v j) N = sr V t N + (wt (wq V t) v j + (V (v j) (t (v j)) - V (v 0) (t (v 0))))
  | 0, _ => by
    show sr V t N = sr V t N + (0 + (V (v 0) (t (v 0)) - V (v 0) (t (v 0))))
    omega
  | j + 1, h => by
    have i := ro_sum hv hd (j := j) (by omega)
    have e : ro t v j (v j) = t (v j) := (ro_in hd (j := j) (by omega)).2 (v j) fun i hi k => hd i j hi (by omega) k.symm
    rw [ro_s, sr_up, if_pos (hv j), i, wt_s, e]
    show _ = sr V t N + (wt (wq V t) v j + (V (v j) (t (v (j + 1))) - V (v (j + 1)) (t (v (j + 1)))) + (V (v (j + 1)) (t (v (j + 1))) - V (v 0) (t (v 0))))
    omega
theorem best_nc (hN : 1 ≤ N ∧ N ≤ 6) (ht : ∀ q, q < N → t q < N) (hi : ∀ p q, p < q → q < N → t p ≠ t q) (hb : ∀ k, k < fac N → sr V (tr N k) N ≤ sr V t N) : NC (wq V t) N := fun v n hn hv h0 hd => by
  have ht' : ∀ p q, p < N → q < N → t p = t q → p = q := fun p q h1 h2 h3 => by
    rcases Nat.lt_trichotomy p q with k | k | k
    · exact absurd h3 (hi p q k h2)
    · exact k
    · exact absurd h3.symm (hi q p k h1)
  have hd' : ∀ i j, i < n → j < n → v i = v j → i = j := fun i j h1 h2 h3 => by
    rcases Nat.lt_trichotomy i j with k | k | k
    · exact absurd h3 (hd i j k h2)
    · exact k
    · exact absurd h3.symm (hd j i k h1)
  obtain ⟨r1, r2⟩ := ro_in (t := t) (v := v) hd (j := n) (Nat.le_refl _)
  have hs := ro_sum (V := V) (t := t) (N := N) hv hd (j := n) (Nat.le_refl _)
  have cs : ∀ p, (∃ i, i < n ∧ p = v i) ∨ ∀ i, i < n → p ≠ v i := fun p => by
    by_cases c : ∃ i, i < n ∧ p = v i
    · exact .inl c
    · exact .inr fun i h1 h2 => c ⟨i, h1, h2⟩
  have rg : ∀ p, p < N → ∃ q, q < N ∧ ro t v n p = t q ∧ ((∃ i, i < n ∧ p = v i ∧ q = v (i + 1)) ∨ ((∀ i, i < n → p ≠ v i) ∧ q = p)) := fun p hp => by
    rcases cs p with ⟨i, c1, c2⟩ | c
    · exact ⟨v (i + 1), hv _, by rw [c2, r1 i c1], .inl ⟨i, c1, c2, rfl⟩⟩
    · exact ⟨p, hp, r2 p c, .inr ⟨c, rfl⟩⟩
  have nx' : ∀ i, i < n → ∃ j, j < n ∧ v (i + 1) = v j ∧ (j = i + 1 ∨ (j = 0 ∧ i + 1 = n)) := fun i h => by
    by_cases c : i + 1 < n
    · exact ⟨i + 1, c, rfl, .inl rfl⟩
    · exact ⟨0, hn, by rw [show i + 1 = n by omega, h0], .inr ⟨rfl, by omega⟩⟩
  obtain ⟨k, k1, k2⟩ := tr_sur (N := N) hN (ρ := ro t v n) (fun p hp => by
    obtain ⟨q, q1, q2, -⟩ := rg p hp
    rw [q2]
    exact ht q q1) (fun p q hpq hq e => by
    obtain ⟨a, a1, a2, a3⟩ := rg p (by omega)
    obtain ⟨b, b1, b2, b3⟩ := rg q hq
    rw [a2, b2] at e
    have eab := ht' a b a1 b1 e
    rcases a3 with ⟨i, i1, i2, i3⟩ | ⟨i1, i2⟩
    · obtain ⟨i', u1, u2, u3⟩ := nx' i i1
      rcases b3 with ⟨j, j1, j2, j3⟩ | ⟨j1, j2⟩
      · obtain ⟨j', w1, w2, w3⟩ := nx' j j1
        have := hd' i' j' u1 w1 (by rw [← u2, ← w2, ← i3, ← j3, eab])
        have : i = j := by omega
        rw [i2, j2, this] at hpq
        omega
      · exact j1 i' u1 (by rw [← j2, ← eab, i3, u2])
    · rcases b3 with ⟨j, j1, j2, j3⟩ | ⟨j1, j2⟩
      · obtain ⟨j', w1, w2, w3⟩ := nx' j j1
        exact i1 j' w1 (by rw [← i2, eab, j3, w2])
      · omega) N 0 0 0 (by omega) (by rw [Nat.sub_zero]; omega) nd_0 (fun l q _ hq => by omega)
  have h1 := hb k k1
  rw [sr_eq (V := V) k2, hs, ← h0] at h1
  omega
end BD
