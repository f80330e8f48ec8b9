/-! The real machine does what the little one does, an instruction a row. -/
/-- what stays in a method -/
def mm_fx (p : Program) (s : State) (m : MethodId) (args : Array Value) (meth : Method) (c : Code) (j : Nat) (D : va_G) : Prop :=
  p.tables.exec = Jvm.exec ∧ c.code = mm_bytes j ∧ c.maxLocals = mm_maxL j ∧ s.vm.findClass (mm_own j) = some m.cls ∧ (∀ w ∈ mm_ws, w.before args s = true) ∧ mm_kn D s ∧ meth.sig.returnType = mm_ret j ∧ meth.locks = false ∧ (mm_ctor j = true → meth.name = "<init>") ∧ c.exceptionTable.toList.map (fun h => (h.startPc, h.endPc, h.handlerPc, h.catchType)) = mm_hh j
def mm_wd (D : va_G) (A : Nat → Prop) (H0 : Heap) (w : Nat) (ads : List Nat) (M : MH) (H : Heap) (locs : List Loc) : Prop := mm_hr D ads M H ∧ va_S A H0 H locs ∧ (∀ (k q : Nat), w ≤ k → ads[k]? = some q → A q) ∧ ∀ q, H0.size ≤ q → A q
def mm_G (p : Program) (l : Launch) (e : Env) (R : Room) (s : State) (m : MethodId) (args : Array Value) (below : List Frame) (meth : Method) (c : Code) (Q : State → Prop) (D : va_G) (A : Nat → Prop) (H0 : Heap) (w nL cells slots : Nat) (ads : List Nat) (pc : Nat) (L : ML) (S : List Value) (M : MH) : Prop :=
  ∀ (H : Heap) (locs : List Loc) (ls : Array Slot) (st : List Value), mm_wd D A H0 w ads M H locs → mm_lr ads nL L ls → mm_fa (mm_vr ads) S st → W p l e R s m args below meth c H locs cells slots Q (F0 m pc ls st)
def mm_N (p : Program) (l : Launch) (e : Env) (R : Room) (s : State) (m : MethodId) (args : Array Value) (below : List Frame) (meth : Method) (c : Code) (Q : State → Prop) (D : va_G) (A : Nat → Prop) (H0 : Heap) (w nL cells slots : Nat) (ads : List Nat) (n : MN) : Prop :=
  ∀ y : List Nat, mm_G p l e R s m args below meth c Q D A H0 w nL (cells + n.2.2.2.2.1) (slots + n.2.2.2.2.2) (ads ++ y) n.1 n.2.1 n.2.2.1 n.2.2.2.1
theorem mm_dec.by {cc : ByteArray} {pc : Nat} {i : Instr} (h : mm_dec cc pc i) (n : Nat) (hn : mm_len i = n + 1) : decode cc pc = .ok (i, n + 1) := by
  obtain ⟨len, h1, h2⟩ := h
  rcases h2 with h2 | h2
  · rw [hn] at h2; cases h2
  · rw [h1, h2, hn]
section MS
variable {p : Program} {l : Launch} {e : Env} {R : Room} {s : State} {m : MethodId} {args : Array Value} {below : List Frame} {meth : Method} {c : Code} {Q : State → Prop} {D : va_G} {A : Nat → Prop} {H0 : Heap} {w j pc cells slots : Nat} {ads : List Nat} {L : ML} {S : List Value} {M : MH} {n : MN}
theorem mm_of_go (h : mm_go pc L S M = some n) (k : mm_N p l e R s m args below meth c Q D A H0 w (mm_maxL j) cells slots ads n) : mm_G p l e R s m args below meth c Q D A H0 w (mm_maxL j) cells slots ads pc L S M := by
  cases h
  have h := k []
  rw [List.append_nil] at h
  exact h
theorem mm_of_br {b : Bool} {off : Int} (h : mm_br b pc off L S M = some n) (k : mm_N p l e R s m args below meth c Q D A H0 w (mm_maxL j) cells slots ads n) : ∃ tgt : Nat, (pc : Int) + off = (tgt : Int) ∧ (b = true → mm_G p l e R s m args below meth c Q D A H0 w (mm_maxL j) cells slots ads tgt L S M) ∧ (b = false → mm_G p l e R s m args below meth c Q D A H0 w (mm_maxL j) cells slots ads (pc + 3) L S M) := by
  unfold mm_br at h
  split at h
  · rename_i hv
    refine ⟨((pc : Int) + off).toNat, of_decide_eq_true hv, fun e => ?_, fun e => ?_⟩
    · subst e; exact mm_of_go h k
    · subst e; exact mm_of_go h k
  · cases h
theorem mm_of_jmp {off : Int} (h : mm_jmp pc off L S M = some n) (k : mm_N p l e R s m args below meth c Q D A H0 w (mm_maxL j) cells slots ads n) : ∃ tgt : Nat, (pc : Int) + off = (tgt : Int) ∧ mm_G p l e R s m args below meth c Q D A H0 w (mm_maxL j) cells slots ads tgt L S M := by
  unfold mm_jmp at h
  split at h
  · rename_i hv
    exact ⟨((pc : Int) + off).toNat, of_decide_eq_true hv, mm_of_go h k⟩
  · cases h
theorem mm_s_i2 {f : Int32 → Int32 → Int32} (row : ∀ (x y : Int32) (H : Heap) (locs : List Loc) (ls : Array Slot) (rest : List Value), W p l e R s m args below meth c H locs cells slots Q (F0 m (pc + 1) ls (.int (f x y) :: rest)) → W p l e R s m args below meth c H locs cells slots Q (F0 m pc ls (.int y :: .int x :: rest))) (h : mm_i2 f pc L S M = some n) (k : mm_N p l e R s m args below meth c Q D A H0 w (mm_maxL j) cells slots ads n) : mm_G p l e R s m args below meth c Q D A H0 w (mm_maxL j) cells slots ads pc L S M := by
  intro H locs ls st hw hl hs
  unfold mm_i2 at h
  split at h
  · obtain ⟨b1, t1, rfl, h1, hs'⟩ := hs.inv
    clear hs
    have hs := hs'
    clear hs'
    obtain ⟨b2, t2, rfl, h2, hs'⟩ := hs.inv
    clear hs
    have hs := hs'
    clear hs'
    cases h1; cases h2
    exact row _ _ _ _ _ _ (mm_of_go h k H locs ls _ hw hl ⟨rfl, hs⟩)
  · cases h
theorem mm_s_i2z {f : Int32 → Int32 → Int32} (row : ∀ (x y : Int32) (H : Heap) (locs : List Loc) (ls : Array Slot) (rest : List Value), ¬ y = 0 → W p l e R s m args below meth c H locs cells slots Q (F0 m (pc + 1) ls (.int (f x y) :: rest)) → W p l e R s m args below meth c H locs cells slots Q (F0 m pc ls (.int y :: .int x :: rest))) (h : mm_i2z f pc L S M = some n) (k : mm_N p l e R s m args below meth c Q D A H0 w (mm_maxL j) cells slots ads n) : mm_G p l e R s m args below meth c Q D A H0 w (mm_maxL j) cells slots ads pc L S M := by
  intro H locs ls st hw hl hs
  unfold mm_i2z at h
  split at h
  · obtain ⟨b1, t1, rfl, h1, hs'⟩ := hs.inv
    clear hs
    have hs := hs'
    clear hs'
    obtain ⟨b2, t2, rfl, h2, hs'⟩ := hs.inv
    clear hs
    have hs := hs'
    clear hs'
    cases h1; cases h2
    split at h
    · cases h
    · rename_i hz
      exact row _ _ _ _ _ _ (of_decide_eq_false hz) (mm_of_go h k H locs ls _ hw hl ⟨rfl, hs⟩)
  · cases h
theorem mm_s_l2 {f : Int64 → Int64 → Int64} (row : ∀ (x y : Int64) (H : Heap) (locs : List Loc) (ls : Array Slot) (rest : List Value), W p l e R s m args below meth c H locs cells slots Q (F0 m (pc + 1) ls (.long (f x y) :: rest)) → W p l e R s m args below meth c H locs cells slots Q (F0 m pc ls (.long y :: .long x :: rest))) (h : mm_l2 f pc L S M = some n) (k : mm_N p l e R s m args below meth c Q D A H0 w (mm_maxL j) cells slots ads n) : mm_G p l e R s m args below meth c Q D A H0 w (mm_maxL j) cells slots ads pc L S M := by
  intro H locs ls st hw hl hs
  unfold mm_l2 at h
  split at h
  · obtain ⟨b1, t1, rfl, h1, hs'⟩ := hs.inv
    clear hs
    have hs := hs'
    clear hs'
    obtain ⟨b2, t2, rfl, h2, hs'⟩ := hs.inv
    clear hs
    have hs := hs'
    clear hs'
    cases h1; cases h2
    exact row _ _ _ _ _ _ (mm_of_go h k H locs ls _ hw hl ⟨rfl, hs⟩)
  · cases h
theorem mm_s_l2z {f : Int64 → Int64 → Int64} (row : ∀ (x y : Int64) (H : Heap) (locs : List Loc) (ls : Array Slot) (rest : List Value), ¬ y = 0 → W p l e R s m args below meth c H locs cells slots Q (F0 m (pc + 1) ls (.long (f x y) :: rest)) → W p l e R s m args below meth c H locs cells slots Q (F0 m pc ls (.long y :: .long x :: rest))) (h : mm_l2z f pc L S M = some n) (k : mm_N p l e R s m args below meth c Q D A H0 w (mm_maxL j) cells slots ads n) : mm_G p l e R s m args below meth c Q D A H0 w (mm_maxL j) cells slots ads pc L S M := by
  intro H locs ls st hw hl hs
  unfold mm_l2z at h
  split at h
  · obtain ⟨b1, t1, rfl, h1, hs'⟩ := hs.inv
    clear hs
    have hs := hs'
    clear hs'
    obtain ⟨b2, t2, rfl, h2, hs'⟩ := hs.inv
    clear hs
    have hs := hs'
    clear hs'
    cases h1; cases h2
    split at h
    · cases h
    · rename_i hz
      exact row _ _ _ _ _ _ (of_decide_eq_false hz) (mm_of_go h k H locs ls _ hw hl ⟨rfl, hs⟩)
  · cases h
theorem mm_s_push {to : Nat} {v : Value} (hv : ∀ ads, mm_vr ads v v) (row : ∀ (H : Heap) (locs : List Loc) (ls : Array Slot) (rest : List Value), W p l e R s m args below meth c H locs cells slots Q (F0 m to ls (v :: rest)) → W p l e R s m args below meth c H locs cells slots Q (F0 m pc ls rest)) (h : mm_go to L (v :: S) M = some n) (k : mm_N p l e R s m args below meth c Q D A H0 w (mm_maxL j) cells slots ads n) : mm_G p l e R s m args below meth c Q D A H0 w (mm_maxL j) cells slots ads pc L S M := by
  intro H locs ls st hw hl hs
  exact row _ _ _ _ (mm_of_go h k H locs ls _ hw hl ⟨hv _, hs⟩)
theorem mm_s_iload {to i : Nat} (row : ∀ (x : Int32) (H : Heap) (locs : List Loc) (ls : Array Slot) (rest : List Value), ls[i]? = some (.val (.int x)) → W p l e R s m args below meth c H locs cells slots Q (F0 m to ls (.int x :: rest)) → W p l e R s m args below meth c H locs cells slots Q (F0 m pc ls rest)) (h : mm_iload to i L S M = some n) (k : mm_N p l e R s m args below meth c Q D A H0 w (mm_maxL j) cells slots ads n) : mm_G p l e R s m args below meth c Q D A H0 w (mm_maxL j) cells slots ads pc L S M := by
  intro H locs ls st hw hl hs
  unfold mm_iload at h
  split at h
  · rename_i x hx
    obtain ⟨rv, h1, h2⟩ := hl.at hx
    cases h1
    exact row _ _ _ _ _ h2 (mm_of_go h k H locs ls _ hw hl ⟨rfl, hs⟩)
  · cases h
theorem mm_s_lload {to i : Nat} (row : ∀ (x : Int64) (H : Heap) (locs : List Loc) (ls : Array Slot) (rest : List Value), ls[i]? = some (.val (.long x)) → W p l e R s m args below meth c H locs cells slots Q (F0 m to ls (.long x :: rest)) → W p l e R s m args below meth c H locs cells slots Q (F0 m pc ls rest)) (h : mm_lload to i L S M = some n) (k : mm_N p l e R s m args below meth c Q D A H0 w (mm_maxL j) cells slots ads n) : mm_G p l e R s m args below meth c Q D A H0 w (mm_maxL j) cells slots ads pc L S M := by
  intro H locs ls st hw hl hs
  unfold mm_lload at h
  split at h
  · rename_i x hx
    obtain ⟨rv, h1, h2⟩ := hl.at hx
    cases h1
    exact row _ _ _ _ _ h2 (mm_of_go h k H locs ls _ hw hl ⟨rfl, hs⟩)
  · cases h
theorem mm_s_aload {to i : Nat} (row : ∀ (x : Nat) (H : Heap) (locs : List Loc) (ls : Array Slot) (rest : List Value), ls[i]? = some (.val (.ref x)) → W p l e R s m args below meth c H locs cells slots Q (F0 m to ls (.ref x :: rest)) → W p l e R s m args below meth c H locs cells slots Q (F0 m pc ls rest)) (h : mm_aload to i L S M = some n) (k : mm_N p l e R s m args below meth c Q D A H0 w (mm_maxL j) cells slots ads n) : mm_G p l e R s m args below meth c Q D A H0 w (mm_maxL j) cells slots ads pc L S M := by
  intro H locs ls st hw hl hs
  unfold mm_aload at h
  split at h
  · rename_i x hx
    obtain ⟨rv, ⟨q, hq, rfl⟩, h2⟩ := hl.at hx
    exact row _ _ _ _ _ h2 (mm_of_go h k H locs ls _ hw hl ⟨⟨q, hq, rfl⟩, hs⟩)
  · cases h
theorem mm_s_istore {to i : Nat} (row : ∀ (x : Int32) (H : Heap) (locs : List Loc) (ls : Array Slot) (rest : List Value) (lv : ML), lv_has ls (mm_maxL j) lv → i < mm_maxL j → (∀ ls' : Array Slot, lv_has ls' (mm_maxL j) ((i, Value.int x) :: lv.filter (fun q => !(q.1 == i) && !(q.1 + 1 == i && q.2.category == 2))) → W p l e R s m args below meth c H locs cells slots Q (F0 m to ls' rest)) → W p l e R s m args below meth c H locs cells slots Q (F0 m pc ls (.int x :: rest))) (h : mm_istore (mm_maxL j) to i L S M = some n) (k : mm_N p l e R s m args below meth c Q D A H0 w (mm_maxL j) cells slots ads n) : mm_G p l e R s m args below meth c Q D A H0 w (mm_maxL j) cells slots ads pc L S M := by
  intro H locs ls st hw hl hs
  unfold mm_istore at h
  split at h
  · obtain ⟨b1, t1, rfl, h1, hs'⟩ := hs.inv
    clear hs
    have hs := hs'
    clear hs'
    cases h1
    split at h
    · rename_i hi
      obtain ⟨RL, hl1, hl2⟩ := hl
      exact row _ _ _ _ _ RL hl1 (Nat.le_of_ble_eq_true hi) (fun ls' hl' => mm_of_go h k H locs ls' _ hw ⟨_, hl', mm_lr.st1 hl2 rfl⟩ hs)
    · cases h
  · cases h
theorem mm_s_lstore {to i : Nat} (row : ∀ (x : Int64) (H : Heap) (locs : List Loc) (ls : Array Slot) (rest : List Value) (lv : ML), lv_has ls (mm_maxL j) lv → i + 1 < mm_maxL j → (∀ ls' : Array Slot, lv_has ls' (mm_maxL j) ((i, Value.long x) :: lv.filter (fun q => !(q.1 == i) && (!(q.1 == i + 1) && !(q.1 + 1 == i && q.2.category == 2)))) → W p l e R s m args below meth c H locs cells slots Q (F0 m to ls' rest)) → W p l e R s m args below meth c H locs cells slots Q (F0 m pc ls (.long x :: rest))) (h : mm_lstore (mm_maxL j) to i L S M = some n) (k : mm_N p l e R s m args below meth c Q D A H0 w (mm_maxL j) cells slots ads n) : mm_G p l e R s m args below meth c Q D A H0 w (mm_maxL j) cells slots ads pc L S M := by
  intro H locs ls st hw hl hs
  unfold mm_lstore at h
  split at h
  · obtain ⟨b1, t1, rfl, h1, hs'⟩ := hs.inv
    clear hs
    have hs := hs'
    clear hs'
    cases h1
    split at h
    · rename_i hi
      obtain ⟨RL, hl1, hl2⟩ := hl
      exact row _ _ _ _ _ RL hl1 (Nat.le_of_ble_eq_true hi) (fun ls' hl' => mm_of_go h k H locs ls' _ hw ⟨_, hl', mm_lr.st2 hl2 rfl⟩ hs)
    · cases h
  · cases h
theorem mm_s_astore {to i : Nat} (row : ∀ (x : Nat) (H : Heap) (locs : List Loc) (ls : Array Slot) (rest : List Value) (lv : ML), lv_has ls (mm_maxL j) lv → i < mm_maxL j → (∀ ls' : Array Slot, lv_has ls' (mm_maxL j) ((i, Value.ref x) :: lv.filter (fun q => !(q.1 == i) && !(q.1 + 1 == i && q.2.category == 2))) → W p l e R s m args below meth c H locs cells slots Q (F0 m to ls' rest)) → W p l e R s m args below meth c H locs cells slots Q (F0 m pc ls (.ref x :: rest))) (h : mm_astore (mm_maxL j) to i L S M = some n) (k : mm_N p l e R s m args below meth c Q D A H0 w (mm_maxL j) cells slots ads n) : mm_G p l e R s m args below meth c Q D A H0 w (mm_maxL j) cells slots ads pc L S M := by
  intro H locs ls st hw hl hs
  unfold mm_astore at h
  split at h
  · obtain ⟨b1, t1, rfl, ⟨q, hq, rfl⟩, hs'⟩ := hs.inv
    clear hs
    have hs := hs'
    clear hs'
    split at h
    · rename_i hi
      obtain ⟨RL, hl1, hl2⟩ := hl
      exact row _ _ _ _ _ RL hl1 (Nat.le_of_ble_eq_true hi) (fun ls' hl' => mm_of_go h k H locs ls' _ hw ⟨_, hl', mm_lr.st1 hl2 ⟨q, hq, rfl⟩⟩ hs)
    · cases h
  · cases h
theorem mm_s_iinc (hf : mm_fx p s m args meth c j D) {i : Nat} {z : Int} (hd : mm_dec (mm_bytes j) pc (.iinc i z)) (h : mm_iinc (mm_maxL j) pc i z L S M = some n) (k : mm_N p l e R s m args below meth c Q D A H0 w (mm_maxL j) cells slots ads n) : mm_G p l e R s m args below meth c Q D A H0 w (mm_maxL j) cells slots ads pc L S M := by
  intro H locs ls st hw hl hs
  unfold mm_iinc at h
  split at h
  · rename_i x hx
    split at h
    · rename_i hi
      obtain ⟨RL, hl1, hl2⟩ := hl
      obtain ⟨r, h3, h4, h5⟩ := mm_look_fa hl2 hx
      obtain ⟨i', v'⟩ := r
      cases h4; cases h5
      obtain ⟨kx, hk⟩ := List.getElem?_of_mem h3
      exact lv_iinc hf.1 hf.2.1 (hd.by 2 rfl) hl1 hk rfl (Nat.le_of_ble_eq_true hi) rfl (fun ls' hl' => mm_of_go h k H locs ls' _ hw ⟨_, hl', mm_lr.st1 hl2 rfl⟩ hs)
    · cases h
  · cases h
theorem mm_s_if1 (hf : mm_fx p s m args meth c j D) {q : ClassFile.Cond} {off : Int} (hd : mm_dec (mm_bytes j) pc (.ifCond q off)) (h : mm_if1 q pc off L S M = some n) (k : mm_N p l e R s m args below meth c Q D A H0 w (mm_maxL j) cells slots ads n) : mm_G p l e R s m args below meth c Q D A H0 w (mm_maxL j) cells slots ads pc L S M := by
  intro H locs ls st hw hl hs
  unfold mm_if1 at h
  split at h
  · obtain ⟨b1, t1, rfl, h1, hs'⟩ := hs.inv
    clear hs
    have hs := hs'
    clear hs'
    cases h1
    obtain ⟨tgt, ht, kt, kf⟩ := mm_of_br h k
    cases q with
    | eq => exact lv_if_eq hf.1 hf.2.1 (hd.by 2 rfl) ht (fun z => kt (decide_eq_true z) H locs ls _ hw hl hs) (fun z => kf (decide_eq_false z) H locs ls _ hw hl hs)
    | ne => exact lv_if_ne hf.1 hf.2.1 (hd.by 2 rfl) ht (fun z => kt (by simp [mm_if, z]) H locs ls _ hw hl hs) (fun z => kf (by simp [mm_if, z]) H locs ls _ hw hl hs)
    | lt => exact lv_if_lt hf.1 hf.2.1 (hd.by 2 rfl) ht (fun z => kt (decide_eq_true z) H locs ls _ hw hl hs) (fun z => kf (decide_eq_false z) H locs ls _ hw hl hs)
    | ge => exact lv_if_ge hf.1 hf.2.1 (hd.by 2 rfl) ht (fun z => kt (decide_eq_true z) H locs ls _ hw hl hs) (fun z => kf (decide_eq_false z) H locs ls _ hw hl hs)
    | gt => exact lv_if_gt hf.1 hf.2.1 (hd.by 2 rfl) ht (fun z => kt (decide_eq_true z) H locs ls _ hw hl hs) (fun z => kf (decide_eq_false z) H locs ls _ hw hl hs)
    | le => exact lv_if_le hf.1 hf.2.1 (hd.by 2 rfl) ht (fun z => kt (decide_eq_true z) H locs ls _ hw hl hs) (fun z => kf (decide_eq_false z) H locs ls _ hw hl hs)
  · cases h
theorem mm_s_if2 (hf : mm_fx p s m args meth c j D) {q : ClassFile.Cond} {off : Int} (hd : mm_dec (mm_bytes j) pc (.if_icmp q off)) (h : mm_if2 q pc off L S M = some n) (k : mm_N p l e R s m args below meth c Q D A H0 w (mm_maxL j) cells slots ads n) : mm_G p l e R s m args below meth c Q D A H0 w (mm_maxL j) cells slots ads pc L S M := by
  intro H locs ls st hw hl hs
  unfold mm_if2 at h
  split at h
  · obtain ⟨b1, t1, rfl, h1, hs'⟩ := hs.inv
    clear hs
    have hs := hs'
    clear hs'
    obtain ⟨b2, t2, rfl, h2, hs'⟩ := hs.inv
    clear hs
    have hs := hs'
    clear hs'
    cases h1; cases h2
    obtain ⟨tgt, ht, kt, kf⟩ := mm_of_br h k
    cases q with
    | eq => exact lv_icmp_eq hf.1 hf.2.1 (hd.by 2 rfl) ht (fun z => kt (decide_eq_true z) H locs ls _ hw hl hs) (fun z => kf (decide_eq_false z) H locs ls _ hw hl hs)
    | ne => exact lv_icmp_ne hf.1 hf.2.1 (hd.by 2 rfl) ht (fun z => kt (by simp [mm_if, z]) H locs ls _ hw hl hs) (fun z => kf (by simp [mm_if, z]) H locs ls _ hw hl hs)
    | lt => exact lv_icmp_lt hf.1 hf.2.1 (hd.by 2 rfl) ht (fun z => kt (decide_eq_true z) H locs ls _ hw hl hs) (fun z => kf (decide_eq_false z) H locs ls _ hw hl hs)
    | ge => exact lv_icmp_ge hf.1 hf.2.1 (hd.by 2 rfl) ht (fun z => kt (decide_eq_true z) H locs ls _ hw hl hs) (fun z => kf (decide_eq_false z) H locs ls _ hw hl hs)
    | gt => exact lv_icmp_gt hf.1 hf.2.1 (hd.by 2 rfl) ht (fun z => kt (decide_eq_true z) H locs ls _ hw hl hs) (fun z => kf (decide_eq_false z) H locs ls _ hw hl hs)
    | le => exact lv_icmp_le hf.1 hf.2.1 (hd.by 2 rfl) ht (fun z => kt (decide_eq_true z) H locs ls _ hw hl hs) (fun z => kf (decide_eq_false z) H locs ls _ hw hl hs)
  · cases h
theorem mm_s_goto (hf : mm_fx p s m args meth c j D) {off : Int} (hd : mm_dec (mm_bytes j) pc (.goto off)) (h : mm_jmp pc off L S M = some n) (k : mm_N p l e R s m args below meth c Q D A H0 w (mm_maxL j) cells slots ads n) : mm_G p l e R s m args below meth c Q D A H0 w (mm_maxL j) cells slots ads pc L S M := by
  intro H locs ls st hw hl hs
  obtain ⟨tgt, ht, kt⟩ := mm_of_jmp h k
  exact lv_goto hf.1 hf.2.1 (hd.by 2 rfl) ht (kt H locs ls _ hw hl hs)
theorem mm_s_tsw (hf : mm_fx p s m args meth c j D) {dflt lo hi : Int} {offs : Array Int} (hd : mm_dec (mm_bytes j) pc (.tableswitch dflt lo hi offs)) (h : mm_tsw pc dflt lo hi offs L S M = some n) (k : mm_N p l e R s m args below meth c Q D A H0 w (mm_maxL j) cells slots ads n) : mm_G p l e R s m args below meth c Q D A H0 w (mm_maxL j) cells slots ads pc L S M := by
  intro H locs ls st hw hl hs
  obtain ⟨len, hd, -⟩ := hd
  unfold mm_tsw at h
  split at h
  · rename_i x r
    obtain ⟨b1, t1, rfl, h1, hs'⟩ := hs.inv
    clear hs
    have hs := hs'
    clear hs'
    cases h1
    split at h
    · rename_i hb
      obtain ⟨tgt, ht, kt⟩ := mm_of_jmp h k
      refine lv_tableOut hf.1 hf.2.1 hd ?_ ht (kt H locs ls _ hw hl hs)
      rcases Bool.or_eq_true_iff.mp hb with z | z
      · exact Or.inl (of_decide_eq_true z)
      · exact Or.inr (of_decide_eq_true z)
    · rename_i hb
      have hb := Bool.or_eq_false_iff.mp hb
      split at h
      · rename_i off ho
        obtain ⟨tgt, ht, kt⟩ := mm_of_jmp h k
        exact lv_tableIn hf.1 hf.2.1 hd (of_decide_eq_false hb.1) (of_decide_eq_false hb.2) ho ht (kt H locs ls _ hw hl hs)
      · cases h
  · cases h
end MS
