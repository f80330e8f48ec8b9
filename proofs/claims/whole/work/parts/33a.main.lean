/-! The contract of a method is what the little machine says of it. -/
def mm_A (w : Nat) (ads : List Nat) (sz : Nat) : Nat → Prop := fun q => (∃ k, w ≤ k ∧ ads[k]? = some q) ∨ sz ≤ q
def mm_P (D : va_G) (ads : List Nat) (M : MH) (as : List Value) (sz : Nat) : Array Value → State → Prop := fun v U => ∃ ras : List Value, v = ras.toArray ∧ mm_fa (mm_vr ads) as ras ∧ mm_hr D ads M U.heap ∧ mm_kn D U ∧ U.heap.size = sz
theorem mm_P_blind {D : va_G} {ads : List Nat} {M : MH} {as : List Value} {sz : Nat} : FrameBlind (mm_P D ads M as sz) := fun a U g mk h => by
  obtain ⟨ras, h1, h2, h3, h4, h5⟩ := h
  exact ⟨ras, h1, h2, h3, mm_kn.calling h4, h5⟩
def mm_rv (ads : List Nat) : Option Value → Option Value → Prop
  | none, none => True
  | some v, some rv => mm_vr ads v rv
  | _, _ => False
def mm_Q (D : va_G) (w : Nat) (ads : List Nat) (M1 : MH) (v : Option Value) (sz : Nat) : Array Value → State → Outcome → State → Prop := fun _ st o t => (∃ (y : List Nat) (rv : Option Value), o = .returned rv ∧ mm_rv (ads ++ y) v rv ∧ mm_hr D (ads ++ y) M1 t.heap ∧ ∀ (k q : Nat), w ≤ k → (ads ++ y)[k]? = some q → mm_A w ads sz q) ∧ va_F (mm_A w ads sz) st t
def mm_rm (d c n : Nat) : Room := { frames := d, cells := c, slots := n, locals := 64 * d }
def mm_wsm (j : Nat) : List Cond := mm_cw j :: mm_ws
theorem mm_met {l : Launch} {j : Nat} {rm : Room} {Pc : Array Value → State → Prop} {Qc : Array Value → State → Outcome → State → Prop} {mc ms : Nat} {free : Addr → Prop} (hy : plainName (mm_y j).cls = true)
    (body : ∀ p e s m args below meth c s₁, BodyLoose p l (mm_y j) (headSpec (mm_wsm j) rm) (mm_bytes j) (mm_maxL j) (mm_ret j) e s m args below meth c s₁ → c.maxLocals = mm_maxL j → Pc args s →
      W p l e (headSpec (mm_wsm j) rm).room s m args below meth c s.heap [] 0 0 (MQ below Qc args s mc ms free) (entryFrame m args (mm_maxL j))) : Met l (mm_y j) (mm_wsm j) rm Pc Qc mc ms free := by
  cases hh : mm_hh j with
  | nil => exact Met.ofW (ws' := mm_ws) hy (by unfold mm_wsm mm_cw; rw [hh]) body
  | cons q r => exact va_MetW (ws' := mm_ws) (hh := q :: r) hy (by unfold mm_wsm mm_cw; rw [hh]) body
section MM
variable {p : Program} {l : Launch} {e : Env} {R : Room} {s : State} {m : MethodId} {args : Array Value} {below : List Frame} {meth : Method} {c : Code} {Q : State → Prop} {D : va_G} {A : Nat → Prop} {d j pc cells slots : Nat} {ads : List Nat} {L : ML} {S : List Value} {M : MH} {n : MN}
theorem mm_back (hts : ∀ w ∈ mm_ws, w.before args s = true) {j' dd cc nn : Nat} {Pc : Array Value → State → Prop} {Qc : Array Value → State → Outcome → State → Prop} {free : Addr → Prop} (hm : mm_meth j') (hM : Met l (mm_y j') (mm_wsm j') (mm_rm dd cc nn) Pc Qc cc nn free) (hbl : FrameBlind Pc) (hR1 : dd + 1 ≤ R.frames) (hR2 : 64 * (dd + 1) ≤ R.locals) : Back l R p e below s args (mm_y j') 3 8 (PreOf R cc nn Pc) (PostOf Qc cc nn free) := by
  obtain ⟨h1, h2, h3, h4, h5, h6, h7⟩ := hm
  have hG : ∀ w ∈ mm_wsm j', w ∈ mm_ws ∧ ((w.onTables && w.keeps) = true ∨ ∃ ty, w = .arrayClass ty) := by
    intro w hw
    rcases List.mem_cons.mp hw with rfl | hw
    · exact ⟨h2, mm_good _ h2⟩
    · exact ⟨hw, mm_good _ hw⟩
  have hws := pay_in hts hG
  have hini : ∀ (a' : Array Value) (U : State), s.WarmedH U.vm → (Cond.initialized (mm_y j').cls).before a' U = true := fun a' U hW => hws _ (List.mem_cons_of_mem _ h3) a' U hW
  have hloc : 8 + (mm_maxL j' + 11) + (mm_rm dd cc nn).locals ≤ R.locals := by show 8 + (mm_maxL j' + 11) + 64 * dd ≤ R.locals; omega
  cases hh : mm_hh j' with
  | nil => exact back_of (bytes := mm_bytes j') (maxL := mm_maxL j') (ret := mm_ret j') hM hbl rfl rfl hR1 hloc hws (by unfold mm_wsm mm_cw; rw [hh]; exact List.mem_cons_self) hini
  | cons q r => exact va_backW (hh := q :: r) (bytes := mm_bytes j') (maxL := mm_maxL j') (ret := mm_ret j') hM hbl rfl rfl hR1 hloc hws (by unfold mm_wsm mm_cw; rw [hh]; exact List.mem_cons_self) hini
end MM
