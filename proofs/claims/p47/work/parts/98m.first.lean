/-! at first: no rows, no texts; the pure statement -/
set_option maxRecDepth 100000 in
theorem m0_rows : ∀ r, r < 6 → sm_m0.1 (2 + 2 * r) 1 = -u32 9 := by
  intro r hr
  rcases (show r = 0 ∨ r = 1 ∨ r = 2 ∨ r = 3 ∨ r = 4 ∨ r = 5 by omega) with rfl | rfl | rfl | rfl | rfl | rfl <;> rfl
set_option maxRecDepth 100000 in
theorem m0_texts : ∀ r, r < 4 → sm_m0.1 (15 + 2 * r) 1 = -u32 9 := by
  intro r hr
  rcases (show r = 0 ∨ r = 1 ∨ r = 2 ∨ r = 3 by omega) with rfl | rfl | rfl | rfl <;> rfl
theorem sm_pure : ∀ E : Nat × (Nat → Int32), E.1 ≤ 260 → ∃ w1 : sm_Mem, ff_la_law E sm_m0 = some (.int 1, w1) := fun E hE => la_all hE m0_rows m0_texts
