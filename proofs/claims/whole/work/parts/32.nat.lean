/-! All steps that go on, in one. -/
section MS3
variable {p : Program} {l : Launch} {e : Env} {R : Room} {s : State} {m : MethodId} {args : Array Value} {below : List Frame} {meth : Method} {c : Code} {Q : State → Prop} {D : va_G} {A : Nat → Prop} {H0 : Heap} {w d j pc cells slots : Nat} {ads : List Nat} {L : ML} {S : List Value} {M : MH} {n : MN}
theorem mm_nat_room (hR1 : d ≤ R.frames) (hR2 : 64 * d ≤ R.locals) {d' : Nat} (hd : d = d' + 1) : 1 ≤ R.frames ∧ 64 ≤ R.locals := by omega
theorem mm_s_max (hf : mm_fx p s m args meth c j D) {idx : Nat} (hR1 : 1 ≤ R.frames) (hR2 : 64 ≤ R.locals) (hc : cells ≤ R.cells) (hs0 : slots ≤ R.slots) (hd : mm_dec (mm_bytes j) pc (.invokestatic idx)) (hp : Cond.methodLink (mm_own j) idx Lib.Math.max.name ∈ mm_ws ∧ Cond.static Lib.Math.max.name ∈ mm_ws ∧ Cond.initialized "java/lang/Math" ∈ mm_ws ∧ Cond.code Lib.Math.max.name Lib.Math.max.code 2 (some .int) ∈ mm_ws) {x y : Int32} {r : List Value} (hr : mm_words r ≤ 8) (h : mm_go (pc + 3) L (.int (if x < y then y else x) :: r) M = some n) (k : mm_N p l e R s m args below meth c Q D A H0 w (mm_maxL j) cells slots ads n) : mm_G p l e R s m args below meth c Q D A H0 w (mm_maxL j) cells slots ads pc L (.int y :: .int x :: r) M := by
  intro H locs ls st hw hl hs
  obtain ⟨b1, t1, rfl, h1, hs'⟩ := hs.inv
  clear hs
  have hs := hs'
  clear hs'
  obtain ⟨b2, t2, rfl, h2, hs'⟩ := hs.inv
  clear hs
  have hs := hs'
  clear hs'
  cases h1; cases h2
  obtain ⟨RL, hl1, -⟩ := id hl
  exact va_mmax hf.1 hf.2.1 (by rw [hf.2.2.1, hl1.1]) hf.2.2.2.1 (hf.2.2.2.2.1 _ hp.1) (hf.2.2.2.2.1 _ hp.2.1) (hf.2.2.2.2.1 _ hp.2.2.1) (hf.2.2.2.2.1 _ hp.2.2.2) hR1 (by rw [mm_words_eq hs]; omega) hc hs0 (hd.by 2 rfl) (mm_of_go h k H locs ls _ hw hl ⟨rfl, hs⟩)
theorem mm_s_min (hf : mm_fx p s m args meth c j D) {idx : Nat} (hR1 : 1 ≤ R.frames) (hR2 : 64 ≤ R.locals) (hc : cells ≤ R.cells) (hs0 : slots ≤ R.slots) (hd : mm_dec (mm_bytes j) pc (.invokestatic idx)) (hp : Cond.methodLink (mm_own j) idx Lib.Math.min.name ∈ mm_ws ∧ Cond.static Lib.Math.min.name ∈ mm_ws ∧ Cond.initialized "java/lang/Math" ∈ mm_ws ∧ Cond.code Lib.Math.min.name Lib.Math.min.code 2 (some .int) ∈ mm_ws) {x y : Int32} {r : List Value} (hr : mm_words r ≤ 8) (h : mm_go (pc + 3) L (.int (if y < x then y else x) :: r) M = some n) (k : mm_N p l e R s m args below meth c Q D A H0 w (mm_maxL j) cells slots ads n) : mm_G p l e R s m args below meth c Q D A H0 w (mm_maxL j) cells slots ads pc L (.int y :: .int x :: r) M := by
  intro H locs ls st hw hl hs
  obtain ⟨b1, t1, rfl, h1, hs'⟩ := hs.inv
  clear hs
  have hs := hs'
  clear hs'
  obtain ⟨b2, t2, rfl, h2, hs'⟩ := hs.inv
  clear hs
  have hs := hs'
  clear hs'
  cases h1; cases h2
  obtain ⟨RL, hl1, -⟩ := id hl
  exact va_mmin hf.1 hf.2.1 (by rw [hf.2.2.1, hl1.1]) hf.2.2.2.1 (hf.2.2.2.2.1 _ hp.1) (hf.2.2.2.2.1 _ hp.2.1) (hf.2.2.2.2.1 _ hp.2.2.1) (hf.2.2.2.2.1 _ hp.2.2.2) hR1 (by rw [mm_words_eq hs]; omega) hc hs0 (hd.by 2 rfl) (mm_of_go h k H locs ls _ hw hl ⟨rfl, hs⟩)
theorem mm_s_maxl (hf : mm_fx p s m args meth c j D) {idx : Nat} (hR1 : 1 ≤ R.frames) (hR2 : 64 ≤ R.locals) (hc : cells ≤ R.cells) (hs0 : slots ≤ R.slots) (hd : mm_dec (mm_bytes j) pc (.invokestatic idx)) (hp : Cond.methodLink (mm_own j) idx Lib.MathLoose.max_long.x ∈ mm_ws ∧ Cond.static Lib.MathLoose.max_long.x ∈ mm_ws ∧ Cond.initialized "java/lang/Math" ∈ mm_ws ∧ Cond.code Lib.MathLoose.max_long.x Lib.MathLoose.max_long.code 4 (some .long) ∈ mm_ws) {x y : Int64} {r : List Value} (hr : mm_words r ≤ 8) (h : mm_go (pc + 3) L (.long (if y < x then x else y) :: r) M = some n) (k : mm_N p l e R s m args below meth c Q D A H0 w (mm_maxL j) cells slots ads n) : mm_G p l e R s m args below meth c Q D A H0 w (mm_maxL j) cells slots ads pc L (.long y :: .long x :: r) M := by
  intro H locs ls st hw hl hs
  obtain ⟨b1, t1, rfl, h1, hs'⟩ := hs.inv
  clear hs
  have hs := hs'
  clear hs'
  obtain ⟨b2, t2, rfl, h2, hs'⟩ := hs.inv
  clear hs
  have hs := hs'
  clear hs'
  cases h1; cases h2
  obtain ⟨RL, hl1, -⟩ := id hl
  exact va_mmax_long hf.1 hf.2.1 (by rw [hf.2.2.1, hl1.1]) hf.2.2.2.1 (hf.2.2.2.2.1 _ hp.1) (hf.2.2.2.2.1 _ hp.2.1) (hf.2.2.2.2.1 _ hp.2.2.1) (hf.2.2.2.2.1 _ hp.2.2.2) hR1 (by rw [mm_words_eq hs]; omega) hc hs0 (hd.by 2 rfl) (mm_of_go h k H locs ls _ hw hl ⟨rfl, hs⟩)
theorem mm_s_minl (hf : mm_fx p s m args meth c j D) {idx : Nat} (hR1 : 1 ≤ R.frames) (hR2 : 64 ≤ R.locals) (hc : cells ≤ R.cells) (hs0 : slots ≤ R.slots) (hd : mm_dec (mm_bytes j) pc (.invokestatic idx)) (hp : Cond.methodLink (mm_own j) idx Lib.MathLoose.min_long.x ∈ mm_ws ∧ Cond.static Lib.MathLoose.min_long.x ∈ mm_ws ∧ Cond.initialized "java/lang/Math" ∈ mm_ws ∧ Cond.code Lib.MathLoose.min_long.x Lib.MathLoose.min_long.code 4 (some .long) ∈ mm_ws) {x y : Int64} {r : List Value} (hr : mm_words r ≤ 8) (h : mm_go (pc + 3) L (.long (if y < x then y else x) :: r) M = some n) (k : mm_N p l e R s m args below meth c Q D A H0 w (mm_maxL j) cells slots ads n) : mm_G p l e R s m args below meth c Q D A H0 w (mm_maxL j) cells slots ads pc L (.long y :: .long x :: r) M := by
  intro H locs ls st hw hl hs
  obtain ⟨b1, t1, rfl, h1, hs'⟩ := hs.inv
  clear hs
  have hs := hs'
  clear hs'
  obtain ⟨b2, t2, rfl, h2, hs'⟩ := hs.inv
  clear hs
  have hs := hs'
  clear hs'
  cases h1; cases h2
  obtain ⟨RL, hl1, -⟩ := id hl
  exact va_mmin_long hf.1 hf.2.1 (by rw [hf.2.2.1, hl1.1]) hf.2.2.2.1 (hf.2.2.2.2.1 _ hp.1) (hf.2.2.2.2.1 _ hp.2.1) (hf.2.2.2.2.1 _ hp.2.2.1) (hf.2.2.2.2.1 _ hp.2.2.2) hR1 (by rw [mm_words_eq hs]; omega) hc hs0 (hd.by 2 rfl) (mm_of_go h k H locs ls _ hw hl ⟨rfl, hs⟩)
theorem mm_s_absl (hf : mm_fx p s m args meth c j D) {idx : Nat} (hR1 : 1 ≤ R.frames) (hR2 : 64 ≤ R.locals) (hc : cells ≤ R.cells) (hs0 : slots ≤ R.slots) (hd : mm_dec (mm_bytes j) pc (.invokestatic idx)) (hp : Cond.methodLink (mm_own j) idx Lib.MathLoose.abs_long.x ∈ mm_ws ∧ Cond.static Lib.MathLoose.abs_long.x ∈ mm_ws ∧ Cond.initialized "java/lang/Math" ∈ mm_ws ∧ Cond.code Lib.MathLoose.abs_long.x Lib.MathLoose.abs_long.code 2 (some .long) ∈ mm_ws) {x : Int64} {r : List Value} (hr : mm_words r ≤ 8) (h : mm_go (pc + 3) L (.long (if 0 < x then x else -x) :: r) M = some n) (k : mm_N p l e R s m args below meth c Q D A H0 w (mm_maxL j) cells slots ads n) : mm_G p l e R s m args below meth c Q D A H0 w (mm_maxL j) cells slots ads pc L (.long x :: r) M := by
  intro H locs ls st hw hl hs
  obtain ⟨b1, t1, rfl, h1, hs'⟩ := hs.inv
  clear hs
  have hs := hs'
  clear hs'
  cases h1
  obtain ⟨RL, hl1, -⟩ := id hl
  exact va_mabs_long hf.1 hf.2.1 (by rw [hf.2.2.1, hl1.1]) hf.2.2.2.1 (hf.2.2.2.2.1 _ hp.1) (hf.2.2.2.2.1 _ hp.2.1) (hf.2.2.2.2.1 _ hp.2.2.1) (hf.2.2.2.2.1 _ hp.2.2.2) hR1 (by rw [mm_words_eq hs]; omega) hc hs0 (hd.by 2 rfl) (mm_of_go h k H locs ls _ hw hl ⟨rfl, hs⟩)
theorem mm_s_oinit (hf : mm_fx p s m args meth c j D) {idx : Nat} (hR1 : 1 ≤ R.frames) (hR2 : 64 ≤ R.locals) (hd : mm_dec (mm_bytes j) pc (.invokespecial idx)) (hp : Cond.methodLink (mm_own j) idx Lib.objectInit ∈ mm_ws ∧ Cond.instanceMethod Lib.objectInit ∈ mm_ws ∧ Cond.code Lib.objectInit ⟨#[0xb1]⟩ 1 none ∈ mm_ws) {x : Nat} {r : List Value} (hr : mm_words r ≤ 8) (h : mm_go (pc + 3) L r M = some n) (k : mm_N p l e R s m args below meth c Q D A H0 w (mm_maxL j) cells slots ads n) : mm_G p l e R s m args below meth c Q D A H0 w (mm_maxL j) cells slots ads pc L (.ref x :: r) M := by
  intro H locs ls st hw hl hs
  obtain ⟨b1, t1, rfl, ⟨q, hq, rfl⟩, hs'⟩ := hs.inv
  clear hs
  have hs := hs'
  clear hs'
  obtain ⟨RL, hl1, -⟩ := id hl
  refine W.objInit hf.1 hf.2.1 hf.2.2.2.1 (hf.2.2.2.2.1 _ hp.1) (hf.2.2.2.2.1 _ hp.2.1) (hf.2.2.2.2.1 _ hp.2.2) rfl (by rw [hf.2.2.1]; exact hl1.1) rfl (hd.by 2 rfl) hR1 ?_ (mm_of_go h k H locs ls _ hw hl hs)
  rw [mm_words_eq hs]
  show 2 * 0 + _ + 12 ≤ _
  omega
end MS3
