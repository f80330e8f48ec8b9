/-! cut: the round. -/
section HZ
variable {X : List Value} {d : Nat} {A : MF} {dn : Int → Int → Int} {len : Nat} {x4 z0 z1 z2 z3 : Int}
theorem hv_mo {k u u' l : Nat} {fa fe ta te : Int} {R1 R2 : Nat → Int → Int} (hd : DA dn) (hl : len ≤ 16) (hk : k ≤ 2) (hu : u < 64) (hn : 2 ≤ cb u 6) (hG : HG len k fa fe ta te) (hl6 : l < 6) (hlu : ub u l = true) (hlast : bs (svu u (vs u (fun p => hmk dn len (cb u 6) fa fe ta te p) (cb u 6 / 2 - 1))) (fun p => hmk dn len (cb u 6) fa fe ta te p) 6 = l) {v : Nat} (hve : v = vs u (fun p => hmk dn len (cb u 6) fa fe ta te p) (cb u 6 / 2)) (hv : cb v 6 = cb u 6 / 2) (hu' : cb u' 6 = cb u 6 - cb u 6 / 2) (hx : mm_and (u : Int) (mm_xor (v : Int) (-1)) = u') (hb' : ∀ q, q < 6 → (ub u' q = true ↔ (ub u q = true ∧ ub v q ≠ true))) (hsub : ∀ q, q < 6 → ub v q = true → ub u q = true) (H1 : HMo X d dn len v fa fe (hmk dn len (cb u 6) fa fe ta te l).1 (hmk dn len (cb u 6) fa fe ta te l).2 R1) (H2 : HMo X d dn len u' (hmk dn len (cb u 6) fa fe ta te l).1 (hmk dn len (cb u 6) fa fe ta te l).2 ta te R2) : HMo X d dn len u fa fe ta te (fun i q => if ub v q.toNat = true then R1 i q else R2 i q) := fun B w h1 h2 hM h95 => by
  obtain ⟨B1, a1, a2, a3, a4⟩ := c110 (X := X) (d := d) hd hl hk hu hn hG hM hl6 hlu hlast
  rw [← hve] at a1 a2 a3
  have e0 : (w : Int) + 1 + -1 = w := by omega
  have s0 := c108 (X := X) (d := d + 5) (A := B) (w := 1) hu
  have fr : ∀ (b : Nat) (j : Int), (b ≠ 95 ∨ (j ≠ w ∧ j ≠ (w : Int) + 1)) → mm_u (mm_u B1 95 w v) 95 ((w : Int) + 1) u' b j = B1 b j := fun b j q => mm_u2_ne (by omega) (by omega)
  have hM2 : MGr dn len u' (hmk dn len (cb u 6) fa fe ta te l).1 (hmk dn len (cb u 6) fa fe ta te l).2 ta te (mm_u (mm_u B1 95 w v) 95 ((w : Int) + 1) u') := by
    refine ⟨?_, fun p j p1 p2 p3 p4 => ?_, fun q q1 q2 => ?_⟩
    · rw [fr _ _ (by omega), a4 _ _ (by omega) (by omega) (by omega) (.inl (by omega))]
      exact hM.1
    · rw [fr _ _ (by omega), a4 _ _ (by omega) (by omega) (by omega) (.inl (by omega))]
      exact hM.2.1 p j p1 p2 p3 p4
    · obtain ⟨c1, c2⟩ := (hb' q q1).mp q2
      rw [fr _ _ (by omega), fr _ _ (by omega), fr _ _ (by omega), fr _ _ (by omega)]
      exact a3 q q1 c2 c1
  obtain ⟨B2, b1, b2, b3⟩ := H2 (mm_u (mm_u B1 95 w v) 95 ((w : Int) + 1) u') (w + 1) (by omega) (by omega) hM2 (by rw [show ((w + 1 : Nat) : Int) = (w : Int) + 1 by omega, mm_u_same])
  have hM1 : MGr dn len v fa fe (hmk dn len (cb u 6) fa fe ta te l).1 (hmk dn len (cb u 6) fa fe ta te l).2 B2 := by
    refine ⟨?_, fun p j p1 p2 p3 p4 => ?_, fun q q1 q2 => ?_⟩
    · rw [b3 _ _ (by omega) (by omega) (by omega) (by omega) (.inl (by omega))]
      exact hM2.1
    · rw [b3 _ _ (by omega) (by omega) (by omega) (by omega) (.inl (by omega))]
      exact hM2.2.1 p j p1 p2 p3 p4
    · have nu : ub u' ((q : Nat) : Int).toNat ≠ true := by
        rw [show ((q : Nat) : Int).toNat = q by omega]
        exact fun k => ((hb' q q1).mp k).2 q2
      rw [b3 _ _ (by omega) (by omega) (by omega) (by omega) (.inr (.inr (.inr (.inr nu)))), b3 _ _ (by omega) (by omega) (by omega) (by omega) (.inr (.inr (.inr (.inr nu)))), b3 _ _ (by omega) (by omega) (by omega) (by omega) (.inr (.inr (.inr (.inr nu)))), b3 _ _ (by omega) (by omega) (by omega) (by omega) (.inr (.inr (.inr (.inr nu)))), fr _ _ (by omega), fr _ _ (by omega), fr _ _ (by omega), fr _ _ (by omega)]
      exact a2 q q1 q2
  obtain ⟨B3, c1, c2, c3⟩ := H1 B2 w (by omega) h2 hM1 (by rw [b3 _ _ (by omega) (by omega) (by omega) (by omega) (.inr (.inl (by omega))), mm_u_ne (by omega), mm_u_same])
  refine ⟨B3, fun r kr => ?_, fun q q1 q2 => ?_, fun b j q1 q2 q3 q4 q5 => ?_⟩
  · have k1 := b1 r (c1 r kr)
    rw [show ((w + 1 : Nat) : Int) + 1 = (w : Int) + 2 by omega] at k1
    refine p109_45_2 (d := d + 5) (z0 := cb u 6) (z2 := v) (A1 := B1) ?_ ?_ ?_ ?_
    · rw [e0, h95]
      exact s0
    · rw [e0, h95]
      exact a1
    · rw [e0]
      omega
    · rw [e0, h95, hx]
      exact k1
  · show B3 89 q = (if ub v ((q : Nat) : Int).toNat = true then R1 0 q else R2 0 q) ∧ B3 90 q = (if ub v ((q : Nat) : Int).toNat = true then R1 1 q else R2 1 q) ∧ B3 91 q = (if ub v ((q : Nat) : Int).toNat = true then R1 2 q else R2 2 q) ∧ B3 92 q = (if ub v ((q : Nat) : Int).toNat = true then R1 3 q else R2 3 q)
    rw [show ((q : Nat) : Int).toNat = q by omega]
    by_cases c : ub v q = true
    · rw [if_pos c, if_pos c, if_pos c, if_pos c]
      exact c2 q q1 c
    · rw [if_neg c, if_neg c, if_neg c, if_neg c]
      have nv : ub v ((q : Nat) : Int).toNat ≠ true := by
        rw [show ((q : Nat) : Int).toNat = q by omega]
        exact c
      rw [c3 _ _ (by omega) (by omega) (by omega) (by omega) (.inr (.inr (.inr (.inr nv)))), c3 _ _ (by omega) (by omega) (by omega) (by omega) (.inr (.inr (.inr (.inr nv)))), c3 _ _ (by omega) (by omega) (by omega) (by omega) (.inr (.inr (.inr (.inr nv)))), c3 _ _ (by omega) (by omega) (by omega) (by omega) (.inr (.inr (.inr (.inr nv))))]
      exact b2 q q1 ((hb' q q1).mpr ⟨q2, c⟩)
  · have i1 : b < 89 ∨ 92 < b ∨ j < 0 ∨ 6 ≤ j ∨ ub v j.toNat ≠ true := by
      by_cases c : b < 89 ∨ 92 < b ∨ j < 0 ∨ 6 ≤ j
      · omega
      · refine .inr (.inr (.inr (.inr fun k => ?_)))
        rcases q5 with q | q | q | q | q
        · omega
        · omega
        · omega
        · omega
        · exact q (hsub j.toNat (by omega) k)
    have i2 : b < 89 ∨ 92 < b ∨ j < 0 ∨ 6 ≤ j ∨ ub u' j.toNat ≠ true := by
      by_cases c : b < 89 ∨ 92 < b ∨ j < 0 ∨ 6 ≤ j
      · omega
      · refine .inr (.inr (.inr (.inr fun k => ?_)))
        rcases q5 with q | q | q | q | q
        · omega
        · omega
        · omega
        · omega
        · exact q ((hb' j.toNat (by omega)).mp k).1
    rw [c3 b j q1 q2 q3 q4 i1, b3 b j q1 q2 q3 (by omega) i2, fr b j (by omega), a4 b j q1 q2 q3 q5]
theorem hv_both (hd : DA dn) (hl : len ≤ 16) : ∀ (n k : Nat), k + n = 3 → ∀ (u : Nat) (fa fe ta te : Int), u < 64 → HG len k fa fe ta te → cb u 6 ≤ szb k → ∃ R : Nat → Int → Int, (∀ q : Nat, q < 6 → ub u q = true → Ip (R 0 q) (R 1 q) (R 2 q) (R 3 q)) ∧ HCl X d dn len n k u fa fe ta te R ∧ HMo X d dn len u fa fe ta te R
  | n, k, h, u, fa, fe, ta, te, hu, hG, hs => by
    by_cases c : cb u 6 ≤ 1
    · obtain ⟨h1, h2⟩ := hv_one (X := X) (d := d) (dn := dn) (len := len) (n := n) (k := k) (fa := fa) (fe := fe) (ta := ta) (te := te) hu c
      exact ⟨_, fun q _ _ => hG.ip hl (by omega), h1, h2⟩
    · obtain ⟨s1, s2, s3⟩ := szb_2 hs (by omega)
      have hbd := cb_bd (u := u) (n := 6)
      have hm0 : ∀ q : Nat, q < 6 → ub u q = true → 0 < ((fun p => hmk dn len (cb u 6) fa fe ta te p) (q : Int)).2 := fun q q1 _ => (hv_bd hd hl ⟨by omega, hbd⟩ s1 hG (by omega) (by omega)).1
      obtain ⟨l, l1, l2, l3, l4, -⟩ := sel_t (u := u) (m := fun p => hmk dn len (cb u 6) fa fe ta te p) hm0 (t := cb u 6 / 2 - 1) (by omega)
      obtain ⟨v1, v2, v3⟩ := sel_v (u := u) (m := fun p => hmk dn len (cb u 6) fa fe ta te p) hm0 (t := cb u 6 / 2) (by omega)
      obtain ⟨u', w1, w2, w3⟩ := ux_x hu v1
      have hc := cb_sub (n := 6) v2 w3
      obtain ⟨m1, m2⟩ := hv_m (dn := dn) (n := cb u 6) hd hl ⟨by omega, hbd⟩ hG (p := l) (by omega) (by omega)
      match n, h with
      | 0, h => omega
      | n + 1, h =>
        obtain ⟨R1, i1, i2, i3⟩ := hv_both hd hl n (k + 1) (by omega) _ _ _ _ _ v1 m1 (by omega)
        obtain ⟨R2, j1, j2, j3⟩ := hv_both hd hl n (k + 1) (by omega) _ _ _ _ _ w1 m2 (by omega)
        refine ⟨_, fun q q1 q2 => ?_, hv_cl hd hl s1 (by omega) hG rfl l2 v3 (by omega) w3 v2 i2 j2, hv_mo hd hl s1 hu (by omega) hG l1 l3 l2 rfl v3 (by omega) w2 w3 v2 i3 j3⟩
        show Ip (if ub _ ((q : Nat) : Int).toNat = true then R1 0 q else R2 0 q) (if ub _ ((q : Nat) : Int).toNat = true then R1 1 q else R2 1 q) (if ub _ ((q : Nat) : Int).toNat = true then R1 2 q else R2 2 q) (if ub _ ((q : Nat) : Int).toNat = true then R1 3 q else R2 3 q)
        rw [show ((q : Nat) : Int).toNat = q by omega]
        by_cases c2 : ub (vs u (fun p => hmk dn len (cb u 6) fa fe ta te p) (cb u 6 / 2)) q = true
        · rw [if_pos c2, if_pos c2, if_pos c2, if_pos c2]
          exact i1 q q1 c2
        · rw [if_neg c2, if_neg c2, if_neg c2, if_neg c2]
          exact j1 q q1 ((w3 q q1).mpr ⟨q2, c2⟩)
end HZ
