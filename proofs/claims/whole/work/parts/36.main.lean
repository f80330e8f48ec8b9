/-! Every run of the little machine is one of the real machine. -/
section MN1
variable {p : Program} {l : Launch} {e : Env} {R : Room} {s : State} {m : MethodId} {args : Array Value} {below : List Frame} {meth : Method} {c : Code} {Q : State → Prop} {D : va_G} {A : Nat → Prop} {H0 : Heap} {w d j pc cells slots : Nat} {ads : List Nat} {L : ML} {S : List Value} {M : MH} {n : MN}
theorem mm_s_nat {idx x : Nat} (hf : mm_fx p s m args meth c j D) (hR1 : d ≤ R.frames) (hR2 : 64 * d ≤ R.locals) (hc : cells ≤ R.cells) (hs0 : slots ≤ R.slots) (hw : x < 6) (hp : mm_natok (mm_own j) idx x) (hd : mm_dec (mm_bytes j) pc (.invokestatic idx)) (h : mm_nat w d x pc L S M = some n) (k : mm_N p l e R s m args below meth c Q D A H0 w (mm_maxL j) cells slots ads n) : mm_G p l e R s m args below meth c Q D A H0 w (mm_maxL j) cells slots ads pc L S M := by
  unfold mm_nat at h
  split at h
  · cases h
  · rename_i d'
    obtain ⟨r1, r2⟩ := mm_nat_room hR1 hR2 rfl
    split at h
    · split at h
      · rename_i hq
        exact mm_s_max hf r1 r2 hc hs0 hd hp (Nat.le_of_ble_eq_true hq) h k
      · cases h
    · split at h
      · rename_i hq
        exact mm_s_min hf r1 r2 hc hs0 hd hp (Nat.le_of_ble_eq_true hq) h k
      · cases h
    · split at h
      · rename_i hq
        exact mm_s_maxl hf r1 r2 hc hs0 hd hp (Nat.le_of_ble_eq_true hq) h k
      · cases h
    · split at h
      · rename_i hq
        exact mm_s_minl hf r1 r2 hc hs0 hd hp (Nat.le_of_ble_eq_true hq) h k
      · cases h
    · split at h
      · rename_i hq
        exact mm_s_absl hf r1 r2 hc hs0 hd hp (Nat.le_of_ble_eq_true hq) h k
      · cases h
    · split at h
      · rename_i hM1 hM2
        split at h
        · rename_i hq
          exact mm_s_copy hf r1 r2 hd hp hM1 hM2 hq h k
        · cases h
      · cases h
    · exact absurd hw (by decide)
    · cases h
theorem mm_s_oi {idx : Nat} (hf : mm_fx p s m args meth c j D) (hR1 : d ≤ R.frames) (hR2 : 64 * d ≤ R.locals) (hp : mm_oiok (mm_own j) idx) (hd : mm_dec (mm_bytes j) pc (.invokespecial idx)) (h : mm_nat w d 6 pc L S M = some n) (k : mm_N p l e R s m args below meth c Q D A H0 w (mm_maxL j) cells slots ads n) : mm_G p l e R s m args below meth c Q D A H0 w (mm_maxL j) cells slots ads pc L S M := by
  unfold mm_nat at h
  split at h
  · cases h
  · obtain ⟨r1, r2⟩ := mm_nat_room hR1 hR2 rfl
    split at h <;> first | (rename_i hz; exact absurd hz (by decide)) | skip
    · split at h
      · rename_i hq
        exact mm_s_oinit hf r1 r2 hd hp (Nat.le_of_ble_eq_true hq) h k
      · cases h
    · cases h
end MN1
theorem mm_rv_of {ads : List Nat} : ∀ {v : Option Value} {st : List Value}, mm_fa (mm_vr ads) v.toList st → ∃ rv : Option Value, st = rv.toList ∧ mm_rv ads v rv
  | none, [], _ => ⟨none, rfl, trivial⟩
  | some v, [rv], h => ⟨some rv, rfl, h.1⟩
  | none, _ :: _, h => h.elim
  | some _, [], h => h.elim
  | some _, _ :: _ :: _, h => h.2.elim
/-- a method's contract out of the walk of its body -/
theorem mm_met_of {l : Launch} {w j d cc nn : Nat} {D : va_G} {ads : List Nat} {M M1 : MH} {as : List Value} {v : Option Value} (hm : mm_meth j) (hwd : mm_words as ≤ mm_maxL j)
    (body : ∀ (p : Program) (e : Env) (s : State) (m : MethodId) (args : Array Value) (below : List Frame) (meth : Method) (c : Code) (Q : State → Prop) (A : Nat → Prop), mm_fx p s m args meth c j D → mm_sep s A → mm_end p l e (mm_rm d cc nn) s m args below meth c Q D A w j cc nn ads (.inl v) M1 → mm_G p l e (mm_rm d cc nn) s m args below meth c Q D A s.heap w (mm_maxL j) 0 0 ads 0 (lv_args 0 as) [] M) (sz : Nat) :
    Met l (mm_y j) (mm_wsm j) (mm_rm d cc nn) (mm_P D ads M as sz) (mm_Q D w ads M1 v sz) cc nn (mm_A w ads sz) := by
  refine mm_met hm.1 ?_
  intro p e s m args below meth c s₁ B hml hv
  obtain ⟨ras, rfl, h2, h3, h4, h5⟩ := hv
  subst h5
  have hts := atoms_spec (ws := mm_wsm j) B.pre
  have hown : s.vm.findClass (mm_own j) = some m.cls := by rw [← hm.2.2.2.1]; exact findClass_of_methodNamed B.named
  have hf : mm_fx p s m ras.toArray meth c j D := ⟨B.exec, B.bytes, hml, hown, fun w hw => hts w (List.mem_cons_of_mem _ hw), h4, B.returns, B.notSynchronized, fun hc => (name_of_methodNamed B.named B.method).1.trans (hm.2.2.2.2.2.2 hc), mm_hex B (hts _ List.mem_cons_self)⟩
  have hx := B.exec
  have hb := B.bytes
  have hr := B.returns
  have hlocks := B.notSynchronized
  have hsep : mm_sep s (mm_A w ads s.heap.size) := mm_sep_of h3
  have hlen : (lg_sl ras).length ≤ mm_maxL j := by
    have : (lg_sl ras).length = mm_words as := by rw [← mm_words_eq h2]; exact mm_sl_len ras
    rw [this]; exact hwd
  have hl := lv_entry ras (n := mm_maxL j) hlen
  rw [lg_entry_eq]
  refine body p e s m ras.toArray below meth c _ (mm_A w ads s.heap.size) hf hsep ?_ s.heap [] _ [] ⟨h3, va_S.rf, fun k q hk hq => Or.inl ⟨k, hk, hq⟩, fun q hq => Or.inr hq⟩ ⟨_, hl, mm_lr_args 0 h2⟩ trivial
  intro y H locs ls rv pc hw hrv hI
  have hq : ∀ t : State, t.heap = H → s.WarmedH t.vm → mm_Q D w ads M1 v s.heap.size ras.toArray s (.returned rv) t := fun t ht hW => ⟨⟨y, rv, rfl, hrv, by rw [ht]; exact hw.1, fun k q hk hq => hw.2.2.1 k q hk hq⟩, hw.2.1.F ht⟩
  cases v with
  | none =>
    cases rv with
    | some _ => exact hrv.elim
    | none => exact W.vret hx hb (hr.trans hI.2) hq hw.2.1.2.2 (hI.1.by 0 rfl)
  | some v =>
    cases rv with
    | none => exact hrv.elim
    | some rv =>
      cases v with
      | int x =>
        cases hrv
        obtain ⟨hd, ty, ht, hn⟩ := hI
        exact W.zret hx hb (hr.trans ht) hn hq hw.2.1.2.2 (hd.by 0 rfl)
      | long x =>
        cases hrv
        exact W.lret hx hb (hr.trans hI.2) hq hw.2.1.2.2 (hI.1.by 0 rfl)
      | ref x =>
        obtain ⟨q, hq0, rfl⟩ := hrv
        obtain ⟨hd, ty, ht, hn⟩ := hI
        exact W.aret hx hb (hr.trans ht) hn (Or.inr ⟨q, rfl⟩) hq hw.2.1.2.2 (hd.by 0 rfl)
      | _ => exact hI.elim
theorem mm_main : ∀ (f w d j pc : Nat) (L : ML) (S : List Value) (M : MH) (c0 n0 : Nat) (o : Option Value ⊕ Nat) (M1 : MH) (c1 n1 : Nat), mm_run f w d j pc L S M c0 n0 = some (o, M1, c1, n1) →
    ∀ (p : Program) (l : Launch) (e : Env) (R : Room) (s : State) (m : MethodId) (args : Array Value) (below : List Frame) (meth : Method) (c : Code) (Q : State → Prop) (D : va_G) (A : Nat → Prop) (ads : List Nat), l.flags = flags0 → mm_fx p s m args meth c j D → mm_sep s A → d ≤ R.frames → 64 * d ≤ R.locals → c1 ≤ R.cells → n1 ≤ R.slots →
    mm_end p l e R s m args below meth c Q D A w j c1 n1 ads o M1 → mm_G p l e R s m args below meth c Q D A s.heap w (mm_maxL j) c0 n0 ads pc L S M
  | 0, w, d, j, pc, L, S, M, c0, n0, o, M1, c1, n1, h => by cases h
  | f + 1, w, d, j, pc, L, S, M, c0, n0, o, M1, c1, n1, h => by
    intro p l e R s m args below meth c Q D A ads hfl hf hsep hR1 hR2 hc hn hend
    unfold mm_run at h
    split at h
    · cases h
    · rename_i i hat
      have hd := mm_at_ok hat
      split at h
      · cases h
      · cases h
      · rename_i pc' L' S' M' hs
        have kk : mm_N p l e R s m args below meth c Q D A s.heap w (mm_maxL j) c0 n0 ads (pc', L', S', M', 0, 0) := fun y => mm_main f _ _ _ _ _ _ _ _ _ _ _ _ _ h p l e R s m args below meth c Q D A (ads ++ y) hfl hf hsep hR1 hR2 hc hn (hend.mono y)
        obtain ⟨dc, dn, e1, e2, -⟩ := mm_run_shift f _ _ _ _ _ _ _ _ _ _ _ _ _ h
        have b1 : c0 + 0 ≤ R.cells := by omega
        have b2 : n0 + 0 ≤ R.slots := by omega
        rcases mm_act_inv hat hs with ⟨nn, hq, hq2⟩ | ⟨v, hq, -⟩ | ⟨_, _, _, hq, -⟩ | ⟨_, hq, -⟩
        · cases hq
          rcases hq2 with hq2 | ⟨k, ci, N, rfl, hp, hq2⟩ | ⟨k, rfl, hp, hq2⟩ | ⟨k, x, rfl, hw, hp, hq2⟩
          · exact mm_s_step hf hat hR1 hR2 b1 b2 hq2 kk
          · cases hq2
          · exact mm_s_oi hf hR1 hR2 hp hd hq2 kk
          · exact mm_s_nat hf hR1 hR2 b1 b2 hw hp hd hq2 kk
        · cases hq
        · cases hq
        · cases hq
      · rename_i pc' L' S' M' ec en hs
        have kk : mm_N p l e R s m args below meth c Q D A s.heap w (mm_maxL j) c0 n0 ads (pc', L', S', M', ec + 1, en) := fun y => mm_main f _ _ _ _ _ _ _ _ _ _ _ _ _ h p l e R s m args below meth c Q D A (ads ++ y) hfl hf hsep hR1 hR2 hc hn (hend.mono y)
        obtain ⟨dc, dn, e1, e2, -⟩ := mm_run_shift f _ _ _ _ _ _ _ _ _ _ _ _ _ h
        have b1 : c0 + (ec + 1) ≤ R.cells := by omega
        have b2 : n0 + en ≤ R.slots := by omega
        rcases mm_act_inv hat hs with ⟨nn, hq, hq2⟩ | ⟨v, hq, -⟩ | ⟨_, _, _, hq, -⟩ | ⟨_, hq, -⟩
        · cases hq
          rcases hq2 with hq2 | ⟨k, ci, N, rfl, hp, hq2⟩ | ⟨k, rfl, hp, hq2⟩ | ⟨k, x, rfl, hw, hp, hq2⟩
          · exact mm_s_step hf hat hR1 hR2 b1 b2 hq2 kk
          · cases hq2
            exact mm_s_new hf hp hd b1 b2 rfl kk
          · exact mm_s_oi hf hR1 hR2 hp hd hq2 kk
          · exact mm_s_nat hf hR1 hR2 (by omega) (by omega) hw hp hd hq2 kk
        · cases hq
        · cases hq
        · cases hq
      · rename_i v hs
        cases h
        rcases mm_act_inv hat hs with ⟨nn, hq, -⟩ | ⟨v', hq, hI, rfl⟩ | ⟨_, _, _, hq, -⟩ | ⟨_, hq, -⟩
        · cases hq
        · cases hq
          intro H locs ls st hw hl hst
          obtain ⟨rv, rfl, hrv⟩ := mm_rv_of hst
          have hend := hend.mono []
          exact hend [] H locs ls rv pc (by rw [List.append_nil, List.append_nil]; exact hw) (by rw [List.append_nil, List.append_nil]; exact hrv) hI
        · cases hq
        · cases hq
      · rename_i x hs
        cases h
        rcases mm_act_inv hat hs with ⟨nn, hq, -⟩ | ⟨v', hq, -⟩ | ⟨_, _, _, hq, -⟩ | ⟨x', hq, hI⟩
        · cases hq
        · cases hq
        · cases hq
        · cases hq
          intro H locs ls st hw hl hst
          obtain ⟨RL, hl1, -⟩ := hl
          exact hend [] H locs ls S st pc d c0 n0 rfl rfl (by rw [List.append_nil]; exact hw) hl1.1 (by rw [List.append_nil]; exact hst) hI hR1 hR2
      · rename_i j' as r hs
        rcases mm_act_inv hat hs with ⟨nn, hq, -⟩ | ⟨v', hq, -⟩ | ⟨_, _, _, hq, hI⟩ | ⟨_, hq, -⟩
        · cases hq
        · cases hq
        · cases hq
          split at h
          · cases h
          · rename_i d'
            split at h
            · cases h
            · rename_i v M' c' n' hr
              obtain ⟨dc, dn, e1, e2, e3⟩ := mm_run_shift f _ _ _ _ _ _ _ _ _ _ _ _ _ hr
              obtain ⟨fc, fn, g1, g2, -⟩ := mm_run_shift f _ _ _ _ _ _ _ _ _ _ _ _ _ h
              have e4 := e3 0 0
              rw [Nat.zero_add, Nat.zero_add] at e4
              refine mm_s_call (dd := d') (cc := dc) (nn := dn) hf hsep hI (fun sz => mm_met_of hI.meth hI.2.1 (fun p' e' s' m' args' below' meth' c' Q' A' hf' hsep' hend' => mm_main f _ _ _ _ _ _ _ _ _ _ _ _ _ e4 p' l e' (mm_rm d' dc dn) s' m' args' below' meth' c' Q' D A' ads hfl hf' hsep' (Nat.le_refl _) (Nat.le_refl _) (Nat.le_refl _) (Nat.le_refl _) hend') sz) hR1 hR2 (by omega) (by omega) (fun y => ?_)
              rw [← e1, ← e2]
              exact mm_main f _ _ _ _ _ _ _ _ _ _ _ _ _ h p l e R s m args below meth c Q D A (ads ++ y) hfl hf hsep hR1 hR2 hc hn (hend.mono y)
            · rename_i x0 M0 c00 n00 hr0
              split at h
              · rename_i x M' c' n' hr
                split at h
                · cases h
                · rename_i to kx hh
                  obtain ⟨dc, dn, e1, e2, e3⟩ := mm_run_shift f _ _ _ _ _ _ _ _ _ _ _ _ _ hr
                  obtain ⟨fc, fn, g1, g2, -⟩ := mm_run_shift f _ _ _ _ _ _ _ _ _ _ _ _ _ h
                  have e4 := e3 0 0
                  rw [Nat.zero_add, Nat.zero_add] at e4
                  refine mm_s_catch (dd := d') (cc := dc) (nn := dn) hf hsep hI hh (fun sz hh0 => mm_metT_of hfl hI.meth hh0 hI.2.1 (fun p' e' s' m' args' below' meth' c' Q' A' hf' hsep' hend' => mm_main f _ _ _ _ _ _ _ _ _ _ _ _ _ e4 p' l e' (mm_rm d' dc dn) s' m' args' below' meth' c' Q' D A' ads hfl hf' hsep' (Nat.le_refl _) (Nat.le_refl _) (Nat.le_refl _) (Nat.le_refl _) hend') sz) hR1 hR2 (by omega) (by omega) ?_
                  rw [← e1, ← e2]
                  exact mm_main f _ _ _ _ _ _ _ _ _ _ _ _ _ h p l e R s m args below meth c Q D A ads hfl hf hsep hR1 hR2 hc hn hend
              · cases h
        · cases hq
