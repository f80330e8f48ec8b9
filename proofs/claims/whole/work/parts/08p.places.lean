/-! The places of the code. -/
theorem mm_at_ok {j pc : Nat} {i : Instr} (h : mm_at j pc = some i) : mm_dec (mm_bytes j) pc i := by
  unfold mm_at at h
  have h1 := List.all_eq_true.mp (mm_codes_ok j) (pc, i) (mm_lk_mem h)
  have h2 : mm_ckd (mm_bytes j) pc i = true := h1
  exact mm_ckd_ok h2
theorem mm_akd_ge {k : Nat} (h : mm_akd k ≠ 0) : 50 ≤ k := by
  unfold mm_akd at h
  split at h <;> first | decide | exact absurd rfl h
