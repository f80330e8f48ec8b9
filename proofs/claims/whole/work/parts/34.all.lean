/-! All steps that go on, in one row. -/
section MS4
variable {p : Program} {l : Launch} {e : Env} {R : Room} {s : State} {m : MethodId} {args : Array Value} {below : List Frame} {meth : Method} {c : Code} {Q : State → Prop} {D : va_G} {A : Nat → Prop} {H0 : Heap} {w d j pc cells slots : Nat} {ads : List Nat} {L : ML} {S : List Value} {M : MH} {n : MN}
theorem mm_s_step {i : Instr} (hf : mm_fx p s m args meth c j D) (hat : mm_at j pc = some i) (hR1 : d ≤ R.frames) (hR2 : 64 * d ≤ R.locals) (hc : cells + n.2.2.2.2.1 ≤ R.cells) (hs0 : slots + n.2.2.2.2.2 ≤ R.slots) (h : mm_step w d j i pc L S M = some n) (k : mm_N p l e R s m args below meth c Q D A H0 w (mm_maxL j) cells slots ads n) : mm_G p l e R s m args below meth c Q D A H0 w (mm_maxL j) cells slots ads pc L S M := by
  have hd := mm_at_ok hat
  have hx := hf.1
  have hb := hf.2.1
  have hown := hf.2.2.2.1
  have hts := hf.2.2.2.2.1
  have hK := hf.2.2.2.2.2.1
  cases i with
  | iconst z => refine mm_s_push ?_ (fun H locs ls rest kk => lv_iconst hx hb (hd.by 0 rfl) rfl kk) h k; exact fun _ => rfl
  | bipush z => refine mm_s_push ?_ (fun H locs ls rest kk => lv_bipush hx hb (hd.by 1 rfl) rfl kk) h k; exact fun _ => rfl
  | sipush z => refine mm_s_push ?_ (fun H locs ls rest kk => lv_sipush hx hb (hd.by 2 rfl) rfl kk) h k; exact fun _ => rfl
  | lconst z => refine mm_s_push ?_ (fun H locs ls rest kk => lv_lconst hx hb (hd.by 0 rfl) rfl kk) h k; exact fun _ => rfl
  | ldc z =>
    simp only [mm_step] at h
    split at h
    · rename_i hp
      refine mm_s_push ?_ (fun H locs ls rest kk => lv_ldc hx hb hown (hts _ (mm_pool_ok hp)) (hd.by 1 rfl) kk) h k
      exact fun _ => rfl
    · cases h
  | ldc2_w z =>
    simp only [mm_step] at h
    split at h
    · rename_i hp
      refine mm_s_push ?_ (fun H locs ls rest kk => lv_ldc2 hx hb hown (hts _ (mm_pool_ok hp)) (hd.by 2 rfl) kk) h k
      exact fun _ => rfl
    · cases h
  | iload_n z => exact mm_s_iload (fun x H locs ls rest hq kk => lv_iload_n hx hb (hd.by 0 rfl) rfl hq kk) h k
  | iload z => exact mm_s_iload (fun x H locs ls rest hq kk => lv_iload hx hb (hd.by 1 rfl) hq kk) h k
  | istore_n z => exact mm_s_istore (fun x H locs ls rest lv hq hi kk => lv_istore_n hx hb (hd.by 0 rfl) rfl hq hi rfl kk) h k
  | istore z => exact mm_s_istore (fun x H locs ls rest lv hq hi kk => lv_istore hx hb (hd.by 1 rfl) hq hi rfl kk) h k
  | lload_n z => exact mm_s_lload (fun x H locs ls rest hq kk => lv_lload_n hx hb (hd.by 0 rfl) rfl hq kk) h k
  | lload z => exact mm_s_lload (fun x H locs ls rest hq kk => lv_lload hx hb (hd.by 1 rfl) hq kk) h k
  | lstore_n z => exact mm_s_lstore (fun x H locs ls rest lv hq hi kk => lv_lstore_n hx hb (hd.by 0 rfl) rfl hq hi rfl kk) h k
  | lstore z => exact mm_s_lstore (fun x H locs ls rest lv hq hi kk => lv_lstore hx hb (hd.by 1 rfl) hq hi rfl kk) h k
  | aload_n z => exact mm_s_aload (fun x H locs ls rest hq kk => lv_aload_n hx hb (hd.by 0 rfl) rfl hq kk) h k
  | aload z => exact mm_s_aload (fun x H locs ls rest hq kk => lv_aload hx hb (hd.by 1 rfl) hq kk) h k
  | astore_n z => exact mm_s_astore (fun x H locs ls rest lv hq hi kk => lv_astore_n hx hb (hd.by 0 rfl) rfl hq hi rfl kk) h k
  | astore z => exact mm_s_astore (fun x H locs ls rest lv hq hi kk => lv_astore hx hb (hd.by 1 rfl) hq hi rfl kk) h k
  | iinc i z => exact mm_s_iinc hf hd h k
  | iadd => exact mm_s_i2 (fun x y H locs ls rest kk => lv_iadd hx hb (hd.by 0 rfl) kk) h k
  | isub => exact mm_s_i2 (fun x y H locs ls rest kk => lv_isub hx hb (hd.by 0 rfl) kk) h k
  | imul => exact mm_s_i2 (fun x y H locs ls rest kk => lv_imul hx hb (hd.by 0 rfl) kk) h k
  | iand => exact mm_s_i2 (fun x y H locs ls rest kk => lv_iand hx hb (hd.by 0 rfl) kk) h k
  | ior => exact mm_s_i2 (fun x y H locs ls rest kk => lv_ior hx hb (hd.by 0 rfl) kk) h k
  | ixor => exact mm_s_i2 (fun x y H locs ls rest kk => lv_ixor hx hb (hd.by 0 rfl) kk) h k
  | ishl => exact mm_s_i2 (fun x y H locs ls rest kk => lv_ishl hx hb (hd.by 0 rfl) kk) h k
  | ishr => exact mm_s_i2 (fun x y H locs ls rest kk => lv_ishr hx hb (hd.by 0 rfl) kk) h k
  | idiv => exact mm_s_i2z (fun x y H locs ls rest hz kk => lv_idiv hx hb (hd.by 0 rfl) hz kk) h k
  | irem => exact mm_s_i2z (fun x y H locs ls rest hz kk => lv_irem hx hb (hd.by 0 rfl) hz kk) h k
  | ladd => exact mm_s_l2 (fun x y H locs ls rest kk => lv_ladd hx hb (hd.by 0 rfl) kk) h k
  | lsub => exact mm_s_l2 (fun x y H locs ls rest kk => lv_lsub hx hb (hd.by 0 rfl) kk) h k
  | lmul => exact mm_s_l2 (fun x y H locs ls rest kk => lv_lmul hx hb (hd.by 0 rfl) kk) h k
  | ldiv => exact mm_s_l2z (fun x y H locs ls rest hz kk => lv_ldiv hx hb (hd.by 0 rfl) hz kk) h k
  | lrem => exact mm_s_l2z (fun x y H locs ls rest hz kk => lv_lrem hx hb (hd.by 0 rfl) hz kk) h k
  | lcmp =>
    simp only [mm_step] at h
    split at h
    · intro H locs ls st hw hl hs
      obtain ⟨b1, t1, rfl, h1, hs'⟩ := hs.inv
      clear hs
      have hs := hs'
      clear hs'
      obtain ⟨b2, t2, rfl, h2, hs'⟩ := hs.inv
      clear hs
      have hs := hs'
      clear hs'
      cases h1; cases h2
      exact W.lcmp hx hb (hd.by 0 rfl) (mm_of_go h k H locs ls _ hw hl ⟨rfl, hs⟩)
    · cases h
  | i2l =>
    simp only [mm_step] at h
    split at h
    · intro H locs ls st hw hl hs
      obtain ⟨b1, t1, rfl, h1, hs'⟩ := hs.inv
      clear hs
      have hs := hs'
      clear hs'
      cases h1
      exact lv_i2l hx hb (hd.by 0 rfl) rfl (mm_of_go h k H locs ls _ hw hl ⟨rfl, hs⟩)
    · cases h
  | l2i =>
    simp only [mm_step] at h
    split at h
    · intro H locs ls st hw hl hs
      obtain ⟨b1, t1, rfl, h1, hs'⟩ := hs.inv
      clear hs
      have hs := hs'
      clear hs'
      cases h1
      exact lv_l2i hx hb (hd.by 0 rfl) rfl (mm_of_go h k H locs ls _ hw hl ⟨rfl, hs⟩)
    · cases h
  | ineg =>
    simp only [mm_step] at h
    split at h
    · intro H locs ls st hw hl hs
      obtain ⟨b1, t1, rfl, h1, hs'⟩ := hs.inv
      clear hs
      have hs := hs'
      clear hs'
      cases h1
      exact lv_ineg hx hb (hd.by 0 rfl) (mm_of_go h k H locs ls _ hw hl ⟨rfl, hs⟩)
    · cases h
  | lneg =>
    simp only [mm_step] at h
    split at h
    · intro H locs ls st hw hl hs
      obtain ⟨b1, t1, rfl, h1, hs'⟩ := hs.inv
      clear hs
      have hs := hs'
      clear hs'
      cases h1
      exact lv_lneg hx hb (hd.by 0 rfl) (mm_of_go h k H locs ls _ hw hl ⟨rfl, hs⟩)
    · cases h
  | dup =>
    simp only [mm_step] at h
    split at h
    · split at h
      · rename_i hq
        intro H locs ls st hw hl hs
        obtain ⟨b1, t1, rfl, h1, hs'⟩ := hs.inv
        clear hs
        have hs := hs'
        clear hs'
        exact lv_dup hx hb (hd.by 0 rfl) (h1.cat.trans (Nat.eq_of_beq_eq_true hq)) (mm_of_go h k H locs ls _ hw hl ⟨h1, h1, hs⟩)
      · cases h
    · cases h
  | pop =>
    simp only [mm_step] at h
    split at h
    · split at h
      · rename_i hq
        intro H locs ls st hw hl hs
        obtain ⟨b1, t1, rfl, h1, hs'⟩ := hs.inv
        clear hs
        have hs := hs'
        clear hs'
        exact lv_pop hx hb (hd.by 0 rfl) (h1.cat.trans (Nat.eq_of_beq_eq_true hq)) (mm_of_go h k H locs ls _ hw hl hs)
      · cases h
    · cases h
  | dup2 =>
    simp only [mm_step] at h
    split at h
    · split at h
      · rename_i hq
        obtain ⟨hq1, hq2⟩ := Bool.and_eq_true_iff.mp hq
        intro H locs ls st hw hl hs
        obtain ⟨b1, t1, rfl, h1, hs'⟩ := hs.inv
        clear hs
        have hs := hs'
        clear hs'
        obtain ⟨b2, t2, rfl, h2, hs'⟩ := hs.inv
        clear hs
        have hs := hs'
        clear hs'
        exact lv_dup2_11 hx hb (hd.by 0 rfl) (h1.cat.trans (Nat.eq_of_beq_eq_true hq1)) (h2.cat.trans (Nat.eq_of_beq_eq_true hq2)) (mm_of_go h k H locs ls _ hw hl ⟨h1, h2, h1, h2, hs⟩)
      · cases h
    · cases h
  | ifCond q off => exact mm_s_if1 hf hd h k
  | if_icmp q off => exact mm_s_if2 hf hd h k
  | goto off => exact mm_s_goto hf hd h k
  | tableswitch a b c0 o => exact mm_s_tsw hf hd h k
  | iaload => exact mm_s_ald (kd := 1) (by decide) (fun q k2 cell i v H locs ls rest c1 c2 c3 c4 c5 c6 c7 kk => W.iald hx hb c1 (mm_isArr (mm_arr1 hK c3) c2 c5) c4 c6 c7 rfl rfl (hd.by 0 rfl) kk) h k
  | laload => exact mm_s_ald (kd := 2) (by decide) (fun q k2 cell i v H locs ls rest c1 c2 c3 c4 c5 c6 c7 kk => W.lald hx hb c1 (mm_isArr (mm_arr2 hK c3) c2 c5) c4 c6 c7 rfl rfl (hd.by 0 rfl) kk) h k
  | baload => exact mm_s_ald (kd := 3) (by decide) (fun q k2 cell i v H locs ls rest c1 c2 c3 c4 c5 c6 c7 kk => W.zald hx hb c1 (mm_isArr (mm_arr3 hK c3) c2 c5) c4 c6 c7 rfl rfl (hd.by 0 rfl) kk) h k
  | aaload => exact mm_s_ald (kd := 4) (by decide) (fun q k2 cell i v H locs ls rest c1 c2 c3 c4 c5 c6 c7 kk => by
      obtain ⟨ty, hty, ha⟩ := mm_arr4 hK c3
      exact W.aald hx hb c1 (mm_isArr ha c2 c5) hty c4 c6 c7 rfl rfl (hd.by 0 rfl) kk) h k
  | iastore => exact mm_s_ast (kd := 1) (by decide) (fun q k2 cell i v rv H locs ls rest hv h0 c1 c2 c3 c4 c5 c6 kk => by
      cases v <;> first | (cases hv; done) | skip
      cases h0
      exact W.iast hx hb c1 (mm_isArr (mm_arr1 hK c3) c2 c5) c4 c6 rfl rfl (hd.by 0 rfl) kk) h k
  | lastore => exact mm_s_ast (kd := 2) (by decide) (fun q k2 cell i v rv H locs ls rest hv h0 c1 c2 c3 c4 c5 c6 kk => by
      cases v <;> first | (cases hv; done) | skip
      cases h0
      exact W.last hx hb c1 (mm_isArr (mm_arr2 hK c3) c2 c5) c4 c6 rfl rfl (hd.by 0 rfl) kk) h k
  | bastore => exact mm_s_ast (kd := 3) (by decide) (fun q k2 cell i v rv H locs ls rest hv h0 c1 c2 c3 c4 c5 c6 kk => by
      cases v <;> first | (cases hv; done) | skip
      rename_i x
      cases h0
      have hn : narrow .boolean (.int x) = .int x := by
        rcases Bool.or_eq_true_iff.mp hv with z | z
        · rw [of_decide_eq_true z]; rfl
        · rw [of_decide_eq_true z]; rfl
      exact W.zast hx hb c1 (mm_isArr (mm_arr3 hK c3) c2 c5) c4 c6 rfl rfl (hd.by 0 rfl) (fun H1 e1 e2 e3 => kk H1 (by rw [hn] at e1; exact e1) e2 e3)) h k
  | aastore => exact mm_s_aast hf hd h k
  | arraylength =>
    simp only [mm_step] at h
    split at h
    · split at h
      · rename_i a r k2 vs hM
        split at h
        · rename_i hq
          obtain ⟨hq1, hq2⟩ := Bool.and_eq_true_iff.mp hq
          intro H locs ls st hw hl hs
          obtain ⟨b1, t1, rfl, ⟨q, hq, rfl⟩, hs'⟩ := hs.inv
          clear hs
          have hs := hs'
          clear hs'
          obtain ⟨ty, ha⟩ := mm_arr0 hK (Nat.le_of_ble_eq_true hq1)
          obtain ⟨cell, rvs, c1, c2, c3, c4, c5, c6⟩ := (hw.1.at hM hq).2 (mm_akd_ge (fun z => by rw [z] at hq1; cases hq1))
          exact W.alen hx hb c1 (mm_isArr ha c2 c4) (by rw [c5, c6.len]; simp) rfl rfl (hd.by 0 rfl) (mm_of_go h k H locs ls _ hw hl ⟨rfl, hs⟩)
        · cases h
      · cases h
    · cases h
  | newarray t =>
    cases t <;> first | (cases h; done) | skip
    · exact mm_s_newa hf (ty := .boolean) (kd := 2) rfl mm_w_z rfl rfl (fun _ => rfl) (by decide) (fun _ z => by cases z) hd hc hs0 h k
    · exact mm_s_newa hf (ty := .int) (kd := 0) rfl mm_w_i rfl rfl (fun _ => rfl) (by decide) (fun _ z => by cases z) hd hc hs0 h k
    · exact mm_s_newa hf (ty := .long) (kd := 1) rfl mm_w_l rfl rfl (fun _ => rfl) (by decide) (fun _ z => by cases z) hd hc hs0 h k
  | anewarray z =>
    simp only [mm_step] at h
    split at h
    · rename_i hp
      exact mm_s_anew hf (mm_pool_ok hp) hd hc hs0 h k
    · cases h
  | multianewarray z y =>
    match y, hat, hd, h with
    | 2, hat, hd, h =>
      simp only [mm_step] at h
      split at h
      · rename_i hp
        exact mm_s_multi hf (mm_pool_ok hp) hd hc hs0 h k
      · cases h
    | 0, hat, hd, h => cases h
    | 1, hat, hd, h => cases h
    | y + 3, hat, hd, h => cases h
  | getfield z =>
    simp only [mm_step] at h
    split at h
    · rename_i hp
      exact mm_s_getf hf (mm_pool_ok hp) hd h k
    · rename_i hp
      exact mm_s_getf hf (mm_pool_ok hp) hd h k
    · cases h
  | putfield z =>
    simp only [mm_step] at h
    split at h
    · rename_i hp
      exact mm_s_putf hf (mm_pool_ok hp) (fun z => by cases z) hd h k
    · rename_i hp
      split at h
      · rename_i hct
        exact mm_s_putf hf (mm_pool_ok hp) (fun _ => hct) hd h k
      · cases h
    · cases h
  | _ => cases h
end MS4
