/-! cut by halves: sets of people, and their order by marks. -/
theorem ux_all : ∀ u v : Fin 64, 0 ≤ mm_and (u.val : Int) (mm_xor (v.val : Int) (-1)) ∧ mm_and (u.val : Int) (mm_xor (v.val : Int) (-1)) < 64 ∧ ∀ q : Fin 6, ub (mm_and (u.val : Int) (mm_xor (v.val : Int) (-1))).toNat q.val = (ub u.val q.val && !ub v.val q.val) := by
  decide +kernel
theorem ux_x {u v : Nat} (hu : u < 64) (hv : v < 64) : ∃ u' : Nat, u' < 64 ∧ mm_and (u : Int) (mm_xor (v : Int) (-1)) = u' ∧ ∀ q, q < 6 → (ub u' q = true ↔ (ub u q = true ∧ ub v q ≠ true)) := by
  obtain ⟨h1, h2, h3⟩ := ux_all ⟨u, hu⟩ ⟨v, hv⟩
  simp only at h1 h2 h3
  refine ⟨(mm_and (u : Int) (mm_xor (v : Int) (-1))).toNat, by omega, by omega, fun q hq => ?_⟩
  rw [h3 ⟨q, hq⟩]
  simp
