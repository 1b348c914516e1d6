/-! stand-in for the pure part -/
theorem sm_pure : ∀ E : Nat × (Nat → Int32), E.1 ≤ 3072 → ∃ w1 : sm_Mem, ff_la_law E sm_m0 = some (.int 1, w1) := by
  sorry
