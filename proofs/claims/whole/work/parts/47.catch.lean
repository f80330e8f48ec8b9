/-! Catches, and the law's switch. -/
section RC
variable {w d j pc pc' k : Nat} {V : ML} {S S' : List Value} {X : List Value} {A : MF} {M : MH} {r : MR} {a ci tp : Nat} {u x v off dflt lo hi : Int} {ts : List Nat} {offs : Array Int}
theorem mm_E.catchV {j' n d0 mx x0 x to kx : Nat} {V0 V1 : ML} {M0 M1 : MH} {a0 b0 a1 b1 : Nat} {o : Option Value ⊕ Nat} {M2 : MH} {a2 b2 : Nat} (hat : mm_at j pc = some (.invokevirtual k)) (hp : mm_pool j k = some (tp, j', n, u)) (ht : (Nat.beq tp 2 || Nat.beq tp 6) = true) (hc : mm_cls j' = ci) (hl : mm_ly a = some (ci, ts)) (hS : S.drop n = .ref a :: S') (hmx : mm_maxL j' = mx) (hb : (Nat.ble (mm_words S') 8 && Nat.beq (S.take n).length n && Nat.ble (1 + mm_words (S.take n)) mx) = true) (hV : lv_args 0 (.ref a :: (S.take n).reverse) = V0)
    (hs0 : mm_E w d0 j' 0 V0 [] (mm_w X A) (.inr x0, M0, a0, b0)) (hs : mm_E (mm_w X A).length d0 j' 0 V0 [] (mm_w X A) (.inr x, M1, a1, b1)) (hd : d0 ≤ d) (hh : mm_hand j pc x = some (to, kx)) (hV1 : V1 = V.filter fun q => !(q.1 == kx) && !(q.1 + 1 == kx && q.2.category == 2)) (h : mm_E w (d + 1) j to V1 [] (mm_w X A) (o, M2, a2, b2)) : mm_E w (d + 1) j pc V S (mm_w X A) (o, M2, a1 + a2, b1 + b2) := mm_E.catch (S' := S') hat (fun L => by
  have e : mm_callV j' n ci S (mm_w X A) = some (.inr (.inr (.inl (j', .ref a :: (S.take n).reverse, S')))) := by
    unfold mm_callV
    rw [hS]
    simp only [mm_w_get hl, Nat.beq_refl, hmx, Bool.true_and]
    rw [hb]
  match tp, ht with
  | 2, _ => simp only [mm_act, hp, hc, e]
  | 6, _ => simp only [mm_act, hp, hc, e]
  | 0, ht => cases ht
  | 1, ht => cases ht
  | 3, ht => cases ht
  | 4, ht => cases ht
  | 5, ht => cases ht
  | t + 7, ht => cases ht) hV hs0 hs hd hh hV1 h
theorem mm_E.catchV1 {j' n d0 mx x0 x to kx : Nat} {V0 V1 : ML} {M0 M1 : MH} {a0 b0 : Nat} {o : Option Value ⊕ Nat} {M2 : MH} (hat : mm_at j pc = some (.invokevirtual k)) (hp : mm_pool j k = some (tp, j', n, u)) (ht : (Nat.beq tp 2 || Nat.beq tp 6) = true) (hc : mm_cls j' = ci) (hl : mm_ly a = some (ci, ts)) (hS : S.drop n = .ref a :: S') (hmx : mm_maxL j' = mx) (hb : (Nat.ble (mm_words S') 8 && Nat.beq (S.take n).length n && Nat.ble (1 + mm_words (S.take n)) mx) = true) (hV : lv_args 0 (.ref a :: (S.take n).reverse) = V0)
    (hs0 : mm_E w d0 j' 0 V0 [] (mm_w X A) (.inr x0, M0, a0, b0)) (hs : mm_E (mm_w X A).length d0 j' 0 V0 [] (mm_w X A) (.inr x, M1, 1, 6)) (hd : d0 ≤ d) (hh : mm_hand j pc x = some (to, kx)) (hV1 : V1 = V.filter fun q => !(q.1 == kx) && !(q.1 + 1 == kx && q.2.category == 2)) (h : mm_E w (d + 1) j to V1 [] (mm_w X A) (o, M2, 0, 0)) : mm_E w (d + 1) j pc V S (mm_w X A) (o, M2, 1, 6) := mm_E.catchV hat hp ht hc hl hS hmx hb hV hs0 hs hd hh hV1 h
theorem mm_E.tswK (hat : mm_at j pc = some (.tableswitch dflt lo hi offs)) (hx : x = v) (rv : R32 v) (h1 : lo ≤ v) (h2 : v ≤ hi) (ho : offs[(v - lo).toNat]? = some off) (hpc : mm_brt true pc off = some pc') (h : mm_E w d j pc' V S M r) : mm_E w d j pc V (mI x :: S) M r := by
  subst hx
  refine .step hat (fun L => ?_) h
  have e : (decide ((Int32.ofInt x).toInt < lo) || decide (hi < (Int32.ofInt x).toInt)) = false := by
    rw [mm_to32 rv, decide_eq_false (by omega), decide_eq_false (by omega)]
    rfl
  simp only [mm_act, mm_inl, mm_step, mm_tsw, e]
  rw [mm_to32 rv]
  simp only [ho, mm_jmp_ok hpc]
theorem mm_E.tswD (hat : mm_at j pc = some (.tableswitch dflt lo hi offs)) (rx : R32 x) (h1 : hi < x) (hpc : mm_brt true pc dflt = some pc') (h : mm_E w d j pc' V S M r) : mm_E w d j pc V (mI x :: S) M r := by
  refine .step hat (fun L => ?_) h
  have e : (decide ((Int32.ofInt x).toInt < lo) || decide (hi < (Int32.ofInt x).toInt)) = true := by
    rw [mm_to32 rx, decide_eq_true h1, Bool.or_true]
  simp only [mm_act, mm_inl, mm_step, mm_tsw, e, mm_jmp_ok hpc]
end RC
