/-! What ties the little machine's numbers to the real one's cells: values, lists of values, locals, cells. -/
def mm_vr (ads : List Nat) (v rv : Value) : Prop := match v with
  | .ref k => ∃ q, ads[k]? = some q ∧ rv = .ref q
  | w => rv = w
theorem mm_get_app {ads y : List Nat} {k q : Nat} (h : ads[k]? = some q) : (ads ++ y)[k]? = some q := by
  rw [List.getElem?_append_left (List.getElem?_eq_some_iff.mp h).1]; exact h
theorem mm_vr.mono {ads y : List Nat} {v rv : Value} (h : mm_vr ads v rv) : mm_vr (ads ++ y) v rv := by
  cases v with
  | ref k =>
    obtain ⟨q, h1, h2⟩ := h
    exact ⟨q, mm_get_app h1, h2⟩
  | _ => exact h
theorem mm_vr.cat {ads : List Nat} {v rv : Value} (h : mm_vr ads v rv) : rv.category = v.category := by
  cases v with
  | ref k =>
    obtain ⟨q, -, h2⟩ := h
    rw [h2]; rfl
  | _ => rw [show rv = _ from h]
theorem mm_vr.fit {ads : List Nat} {v rv : Value} {ty : FieldType} (h : mm_vr ads v rv) (h1 : narrow ty v = v) (h2 : fits ty v = true) : narrow ty rv = rv ∧ fits ty rv = true := by
  cases v with
  | ref k =>
    obtain ⟨q, -, h3⟩ := h
    subst h3
    cases ty <;> simp_all [narrow, fits]
  | _ => rw [show rv = _ from h]; exact ⟨h1, h2⟩
def mm_fa {α β : Type} (R : α → β → Prop) : List α → List β → Prop
  | [], [] => True
  | a :: as, b :: bs => R a b ∧ mm_fa R as bs
  | _, _ => False
theorem mm_fa.mono {α β : Type} {R R' : α → β → Prop} (h : ∀ a b, R a b → R' a b) : ∀ {as : List α} {bs : List β}, mm_fa R as bs → mm_fa R' as bs
  | [], [], _ => trivial
  | _ :: _, _ :: _, q => ⟨h _ _ q.1, mm_fa.mono h q.2⟩
  | [], _ :: _, q => q.elim
  | _ :: _, [], q => q.elim
theorem mm_fa.len {α β : Type} {R : α → β → Prop} : ∀ {as : List α} {bs : List β}, mm_fa R as bs → as.length = bs.length
  | [], [], _ => rfl
  | _ :: _, _ :: _, q => congrArg (· + 1) (mm_fa.len q.2)
  | [], _ :: _, q => q.elim
  | _ :: _, [], q => q.elim
theorem mm_fa.inv {α β : Type} {R : α → β → Prop} {a : α} {as : List α} : ∀ {bs : List β}, mm_fa R (a :: as) bs → ∃ b bs', bs = b :: bs' ∧ R a b ∧ mm_fa R as bs'
  | b :: bs, q => ⟨b, bs, rfl, q.1, q.2⟩
  | [], q => q.elim
theorem mm_fa.nil {α β : Type} {R : α → β → Prop} : ∀ {bs : List β}, mm_fa R [] bs → bs = []
  | [], _ => rfl
  | _ :: _, q => q.elim
theorem mm_fa.get {α β : Type} {R : α → β → Prop} : ∀ {as : List α} {bs : List β}, mm_fa R as bs → ∀ {i : Nat} {a : α}, as[i]? = some a → ∃ b, bs[i]? = some b ∧ R a b
  | [], [], _, i, a, h => by simp at h
  | x :: as, y :: bs, q, 0, a, h => by
    simp at h; subst h; exact ⟨y, by simp, q.1⟩
  | x :: as, y :: bs, q, i + 1, a, h => by
    simp at h
    obtain ⟨b, h1, h2⟩ := mm_fa.get q.2 h
    exact ⟨b, by simpa using h1, h2⟩
  | [], _ :: _, q, _, _, _ => q.elim
  | _ :: _, [], q, _, _, _ => q.elim
theorem mm_fa.set {α β : Type} {R : α → β → Prop} {a : α} {b : β} (h : R a b) : ∀ {as : List α} {bs : List β} (i : Nat), mm_fa R as bs → mm_fa R (as.set i a) (bs.set i b)
  | [], [], _, _ => trivial
  | _ :: _, _ :: _, 0, q => ⟨h, q.2⟩
  | _ :: _, _ :: _, i + 1, q => ⟨q.1, mm_fa.set h i q.2⟩
  | [], _ :: _, _, q => q.elim
  | _ :: _, [], _, q => q.elim
theorem mm_fa.app {α β : Type} {R : α → β → Prop} {cs : List α} {ds : List β} (h : mm_fa R cs ds) : ∀ {as : List α} {bs : List β}, mm_fa R as bs → mm_fa R (as ++ cs) (bs ++ ds)
  | [], [], _ => h
  | _ :: _, _ :: _, q => ⟨q.1, mm_fa.app h q.2⟩
  | [], _ :: _, q => q.elim
  | _ :: _, [], q => q.elim
theorem mm_fa.rev {α β : Type} {R : α → β → Prop} : ∀ {as : List α} {bs : List β}, mm_fa R as bs → mm_fa R as.reverse bs.reverse
  | [], [], _ => trivial
  | a :: as, b :: bs, q => by
    rw [List.reverse_cons, List.reverse_cons]
    exact mm_fa.app (R := R) (cs := [a]) (ds := [b]) ⟨q.1, trivial⟩ (mm_fa.rev q.2)
  | [], _ :: _, q => q.elim
  | _ :: _, [], q => q.elim
theorem mm_fa.take {α β : Type} {R : α → β → Prop} : ∀ {as : List α} {bs : List β} (n : Nat), mm_fa R as bs → mm_fa R (as.take n) (bs.take n)
  | _, _, 0, _ => by simp [mm_fa]
  | [], [], _ + 1, _ => trivial
  | _ :: _, _ :: _, n + 1, q => ⟨q.1, mm_fa.take n q.2⟩
  | [], _ :: _, _ + 1, q => q.elim
  | _ :: _, [], _ + 1, q => q.elim
theorem mm_fa.drop {α β : Type} {R : α → β → Prop} : ∀ {as : List α} {bs : List β} (n : Nat), mm_fa R as bs → mm_fa R (as.drop n) (bs.drop n)
  | _, _, 0, q => q
  | [], [], _ + 1, _ => trivial
  | _ :: _, _ :: _, n + 1, q => mm_fa.drop n q.2
  | [], _ :: _, _ + 1, q => q.elim
  | _ :: _, [], _ + 1, q => q.elim
theorem mm_fa.rep {α β : Type} {R : α → β → Prop} {a : α} {b : β} (h : R a b) : ∀ n : Nat, mm_fa R (List.replicate n a) (List.replicate n b)
  | 0 => trivial
  | n + 1 => ⟨h, mm_fa.rep h n⟩
theorem mm_fa.fil {α β : Type} {R : α → β → Prop} {f : α → Bool} {g : β → Bool} (h : ∀ a b, R a b → f a = g b) : ∀ {as : List α} {bs : List β}, mm_fa R as bs → mm_fa R (as.filter f) (bs.filter g)
  | [], [], _ => trivial
  | a :: as, b :: bs, q => by
    have e := h a b q.1
    cases hb : g b with
    | true => rw [List.filter_cons_of_pos (by rw [e]; exact hb), List.filter_cons_of_pos hb]; exact ⟨q.1, mm_fa.fil h q.2⟩
    | false => rw [List.filter_cons_of_neg (by rw [e, hb]; decide), List.filter_cons_of_neg (by rw [hb]; decide)]; exact mm_fa.fil h q.2
  | [], _ :: _, q => q.elim
  | _ :: _, [], q => q.elim
theorem mm_words_eq {ads : List Nat} : ∀ {S st : List Value}, mm_fa (mm_vr ads) S st → (st.map fun v => v.category).sum = mm_words S
  | [], [], _ => rfl
  | _ :: _, _ :: _, q => by
    have h := mm_words_eq q.2
    simp only [mm_words, List.map_cons, List.sum_cons] at h ⊢
    rw [q.1.cat, h]
  | [], _ :: _, q => q.elim
  | _ :: _, [], q => q.elim
/-- the locals -/
def mm_lq (ads : List Nat) (q r : Nat × Value) : Prop := q.1 = r.1 ∧ mm_vr ads q.2 r.2
def mm_lr (ads : List Nat) (nL : Nat) (L : ML) (ls : Array Slot) : Prop := ∃ RL : ML, lv_has ls nL RL ∧ mm_fa (mm_lq ads) L RL
theorem mm_lr.mono {ads y : List Nat} {nL : Nat} {L : ML} {ls : Array Slot} (h : mm_lr ads nL L ls) : mm_lr (ads ++ y) nL L ls := by
  obtain ⟨RL, h1, h2⟩ := h
  exact ⟨RL, h1, h2.mono fun a b q => ⟨q.1, q.2.mono⟩⟩
theorem mm_look_fa {ads : List Nat} {i : Nat} {v : Value} : ∀ {L RL : ML}, mm_fa (mm_lq ads) L RL → mm_look L i = some v → ∃ r, r ∈ RL ∧ r.1 = i ∧ mm_vr ads v r.2
  | [], [], _, h => by simp [mm_look] at h
  | q :: L, r :: RL, hq, h => by
    unfold mm_look at h
    cases e : Nat.beq q.1 i with
    | true =>
      rw [e] at h
      cases h
      exact ⟨r, List.mem_cons_self, hq.1.1 ▸ (Nat.eq_of_beq_eq_true e), hq.1.2⟩
    | false =>
      rw [e] at h
      obtain ⟨r', h1, h2⟩ := mm_look_fa hq.2 h
      exact ⟨r', List.mem_cons_of_mem _ h1, h2⟩
  | [], _ :: _, q, _ => q.elim
  | _ :: _, [], q, _ => q.elim
theorem mm_lr.at {ads : List Nat} {nL i : Nat} {L : ML} {ls : Array Slot} {v : Value} (h : mm_lr ads nL L ls) (hf : mm_look L i = some v) : ∃ rv, mm_vr ads v rv ∧ ls[i]? = some (.val rv) := by
  obtain ⟨RL, h1, h2⟩ := h
  obtain ⟨r, h3, h4, h5⟩ := mm_look_fa h2 hf
  exact ⟨r.2, h5, h4 ▸ h1.2.2 r h3⟩
theorem mm_lr.st1 {ads : List Nat} {i : Nat} {L RL : ML} {v rv : Value} (h : mm_fa (mm_lq ads) L RL) (hv : mm_vr ads v rv) : mm_fa (mm_lq ads) (mm_st1 L i v) ((i, rv) :: RL.filter (fun q => !(q.1 == i) && !(q.1 + 1 == i && q.2.category == 2))) :=
  ⟨⟨rfl, hv⟩, mm_fa.fil (fun a b q => by rw [q.1, q.2.cat]) h⟩
theorem mm_lr.st2 {ads : List Nat} {i : Nat} {L RL : ML} {v rv : Value} (h : mm_fa (mm_lq ads) L RL) (hv : mm_vr ads v rv) : mm_fa (mm_lq ads) (mm_st2 L i v) ((i, rv) :: RL.filter (fun q => !(q.1 == i) && (!(q.1 == i + 1) && !(q.1 + 1 == i && q.2.category == 2)))) :=
  ⟨⟨rfl, hv⟩, mm_fa.fil (fun a b q => by rw [q.1, q.2.cat]) h⟩
theorem mm_lr_args {ads : List Nat} : ∀ {as bs : List Value} (i : Nat), mm_fa (mm_vr ads) as bs → mm_fa (mm_lq ads) (lv_args i as) (lv_args i bs)
  | [], [], _, _ => trivial
  | a :: as, b :: bs, i, q => by
    refine ⟨⟨rfl, q.1⟩, ?_⟩
    rw [q.1.cat]
    exact mm_lr_args _ q.2
  | [], _ :: _, _, q => q.elim
  | _ :: _, [], _, q => q.elim
/-- the cells: D says which class has which number, and where its fields lie -/
def mm_cr (D : va_G) (ads : List Nat) (c : MC) (q : Nat) (H : Heap) : Prop :=
  (c.1 < 50 → ∃ cell : Cell, H[q]? = some cell ∧ cell.cls = D.1 c.1 ∧ cell.vm = .none ∧ ∀ (j : Nat) (v : Value), c.2[j]? = some v → ∃ rv, cell.slots[D.2 c.1 j]? = some rv ∧ mm_vr ads v rv) ∧
  (50 ≤ c.1 → ∃ (cell : Cell) (rvs : List Value), H[q]? = some cell ∧ cell.cls = D.1 c.1 ∧ cell.vm ≠ .unknown ∧ cell.vm.isStatics = false ∧ cell.slots = rvs.toArray ∧ mm_fa (mm_vr ads) c.2 rvs)
def mm_hr (D : va_G) (ads : List Nat) (M : MH) (H : Heap) : Prop := ads.length = M.length ∧ (∀ (i j q : Nat), ads[i]? = some q → ads[j]? = some q → i = j) ∧ ∀ (k : Nat) (c : MC), M[k]? = some c → ∃ q, ads[k]? = some q ∧ mm_cr D ads c q H
theorem mm_cr.kept {D : va_G} {ads : List Nat} {c : MC} {q : Nat} {H H1 : Heap} (h : mm_cr D ads c q H) (e : H1[q]? = H[q]?) : mm_cr D ads c q H1 := by
  unfold mm_cr at h ⊢
  rw [e]
  exact h
theorem mm_cr.mono {D : va_G} {ads y : List Nat} {c : MC} {q : Nat} {H : Heap} (h : mm_cr D ads c q H) : mm_cr D (ads ++ y) c q H := by
  refine ⟨fun hc => ?_, fun hc => ?_⟩
  · obtain ⟨cell, h1, h2, h3, h4⟩ := h.1 hc
    exact ⟨cell, h1, h2, h3, fun j v hj => by obtain ⟨rv, a, b⟩ := h4 j v hj; exact ⟨rv, a, b.mono⟩⟩
  · obtain ⟨cell, rvs, h1, h2, h3, h4, h5, h6⟩ := h.2 hc
    exact ⟨cell, rvs, h1, h2, h3, h4, h5, h6.mono fun _ _ => mm_vr.mono⟩
theorem mm_cr.lt {D : va_G} {ads : List Nat} {c : MC} {q : Nat} {H : Heap} (h : mm_cr D ads c q H) : q < H.size := by
  rcases Nat.lt_or_ge c.1 50 with hc | hc
  · obtain ⟨cell, h1, -⟩ := h.1 hc
    exact (Array.getElem?_eq_some_iff.mp h1).1
  · obtain ⟨cell, rvs, h1, -⟩ := h.2 hc
    exact (Array.getElem?_eq_some_iff.mp h1).1
theorem mm_hr.at {D : va_G} {ads : List Nat} {M : MH} {H : Heap} {k q : Nat} {c : MC} (h : mm_hr D ads M H) (hk : M[k]? = some c) (hq : ads[k]? = some q) : mm_cr D ads c q H := by
  obtain ⟨q', h1, h2⟩ := h.2.2 k c hk
  cases hq.symm.trans h1
  exact h2
theorem mm_hr.lt {D : va_G} {ads : List Nat} {M : MH} {H : Heap} {k q : Nat} (h : mm_hr D ads M H) (hq : ads[k]? = some q) : q < H.size := by
  have hl := (List.getElem?_eq_some_iff.mp hq).1
  rw [h.1] at hl
  exact (h.at (List.getElem?_eq_getElem hl) hq).lt
/-- one cell is another now, the others as they were -/
theorem mm_hr.set {D : va_G} {ads : List Nat} {M : MH} {H H1 : Heap} {k q : Nat} {c : MC} (h : mm_hr D ads M H) (hq : ads[k]? = some q) (hc : mm_cr D ads c q H1) (ho : ∀ x, x ≠ q → H1[x]? = H[x]?) : mm_hr D ads (M.set k c) H1 := by
  refine ⟨by rw [List.length_set]; exact h.1, h.2.1, fun k2 c2 hk2 => ?_⟩
  by_cases e : k2 = k
  · subst e
    have hl := (List.getElem?_eq_some_iff.mp hq).1
    rw [h.1] at hl
    rw [List.getElem?_set_self hl] at hk2
    cases hk2
    exact ⟨q, hq, hc⟩
  · rw [List.getElem?_set_ne (Ne.symm e)] at hk2
    obtain ⟨q2, h1, h2⟩ := h.2.2 k2 c2 hk2
    refine ⟨q2, h1, h2.kept (ho q2 fun z => e ?_)⟩
    subst z
    exact h.2.1 _ _ _ h1 hq
/-- a new cell -/
theorem mm_hr.push {D : va_G} {ads : List Nat} {M : MH} {H H1 : Heap} {c : MC} (h : mm_hr D ads M H) (hc : mm_cr D (ads ++ [H.size]) c H.size H1) (ho : ∀ x, x < H.size → H1[x]? = H[x]?) : mm_hr D (ads ++ [H.size]) (M ++ [c]) H1 := by
  refine ⟨by simp [h.1], fun i j q hi hj => ?_, fun k c2 hk => ?_⟩
  · have hl : ∀ {i : Nat}, (ads ++ [H.size])[i]? = some q → i ≠ ads.length → ads[i]? = some q := by
      intro i hi hne
      rcases Nat.lt_or_ge i ads.length with hh | hh
      · rw [List.getElem?_append_left hh] at hi; exact hi
      · rw [List.getElem?_append_right hh] at hi
        have := (List.getElem?_eq_some_iff.mp hi).1
        simp at this
        omega
    have hs : (ads ++ [H.size])[ads.length]? = some H.size := by simp
    by_cases e1 : i = ads.length
    · by_cases e2 : j = ads.length
      · rw [e1, e2]
      · subst e1
        rw [hs] at hi
        cases hi
        exact absurd (h.lt (hl hj e2)) (Nat.lt_irrefl _)
    · by_cases e2 : j = ads.length
      · subst e2
        rw [hs] at hj
        cases hj
        exact absurd (h.lt (hl hi e1)) (Nat.lt_irrefl _)
      · exact h.2.1 _ _ _ (hl hi e1) (hl hj e2)
  · rcases Nat.lt_or_ge k M.length with hh | hh
    · rw [List.getElem?_append_left hh] at hk
      obtain ⟨q, h1, h2⟩ := h.2.2 k c2 hk
      exact ⟨q, mm_get_app h1, (h2.kept (ho q (h.lt h1))).mono⟩
    · rw [List.getElem?_append_right hh] at hk
      have h0 := (List.getElem?_eq_some_iff.mp hk).1
      have hz : k - M.length = 0 := by simp at h0; omega
      rw [hz] at hk
      cases hk
      have : k = ads.length := by rw [h.1]; omega
      subst this
      exact ⟨H.size, by simp, hc⟩
