/-! pure: keep, on -/
theorem de_become_loop {a0 a1 n : Nat} (hA : isDeeds a0) (hB : isDeeds a1) (hd : a1 + 3 < a0 ∨ a0 + 3 < a1) (hn : n ≤ 40) : ∀ (m i F : Nat) (w : sm_Mem), i + m = n → m < F → w.1 a0 3 = u32 n → ∃ w1, ff_de_become_10_f F a0 a1 (u32 i) w = some (.null, w1) ∧ (∀ j, i ≤ j → j < n → w1.1 (a0 + 1) j = w.1 (a1 + 1) j ∧ w1.1 (a0 + 2) j = w.1 (a1 + 2) j ∧ w1.1 (a0 + 3) j = w.1 (a1 + 3) j) ∧ (∀ j, j < i → w1.1 (a0 + 1) j = w.1 (a0 + 1) j ∧ w1.1 (a0 + 2) j = w.1 (a0 + 2) j ∧ w1.1 (a0 + 3) j = w.1 (a0 + 3) j) ∧ (∀ a, (a ≤ a0 ∨ a0 + 3 < a) → w1.1 a = w.1 a) ∧ w1.2 = w.2 := by
  intro m
  induction m with
  | zero =>
    intro i F w hm hF hw
    obtain ⟨F, rfl⟩ : ∃ G, F = G + 1 := ⟨F - 1, by omega⟩
    refine ⟨w, ?_, fun j a b => absurd a (by omega), fun j _ => ⟨rfl, rfl, rfl⟩, fun _ _ => rfl, rfl⟩
    rw [ff_de_become_10_f]
    unfold ff_de_become_10_b
    simp (disch := omega) only [u32_lit, sm_let_eq, sm_bind_some, sm_cI_some, sm_cV_some, sm_cL_some, sm_rd_u, sm_wr_u, u32_add, u32_mul, u32_sub, u32_le, u32_lt, u32_eq, u32_eq_neg, u32_neg_eq, u32_neg_neg, u32_le_neg, u32_neg_lt, u32_lt_neg, u32_neg_le, u10, u01, u3n0, u1n0, u4n0, n9_lt, n1_lt, n9_neg, n1_neg, if_true, if_false, if_pos, if_neg, ne_eq, not_true_eq_false, not_false_eq_true, hA.gI, hw]
  | succ m ih =>
    intro i F w hm hF hw
    obtain ⟨F, rfl⟩ : ∃ G, F = G + 1 := ⟨F - 1, by omega⟩
    have f0 := hA.1
    have f1 := hA.2.1
    have f2 := hA.2.2.1
    have g0 := hB.1
    have g1 := hB.2.1
    have g2 := hB.2.2.1
    have hi : i < 40 := by omega
    have r1 : ∀ w, sm_rds w (a1 + 1) (u32 i) = some (w.1 (a1 + 1) i) := fun w => hB.rds hi (Or.inl rfl)
    have r2 : ∀ w, sm_rds w (a1 + 2) (u32 i) = some (w.1 (a1 + 2) i) := fun w => hB.rds hi (Or.inr (Or.inl rfl))
    have r3 : ∀ w, sm_rds w (a1 + 3) (u32 i) = some (w.1 (a1 + 3) i) := fun w => hB.rds hi (Or.inr (Or.inr rfl))
    have s1 : ∀ w x, sm_wrs w (a0 + 1) (u32 i) x = some (sm_wI w (a0 + 1) i x) := fun w x => hA.wrs hi (Or.inl rfl)
    have s2 : ∀ w x, sm_wrs w (a0 + 2) (u32 i) x = some (sm_wI w (a0 + 2) i x) := fun w x => hA.wrs hi (Or.inr (Or.inl rfl))
    have s3 : ∀ w x, sm_wrs w (a0 + 3) (u32 i) x = some (sm_wI w (a0 + 3) i x) := fun w x => hA.wrs hi (Or.inr (Or.inr rfl))
    obtain ⟨w1, b1, b2, b3, b4, b5⟩ := ih (i + 1) F (sm_wI (sm_wI (sm_wI w (a0 + 1) i (w.1 (a1 + 1) i)) (a0 + 2) i (w.1 (a1 + 2) i)) (a0 + 3) i (w.1 (a1 + 3) i)) (by omega) (by omega) (by simp (disch := omega) only [sm_wI_ne, sm_wI_nj, sm_wI_eq, sm_wA_ne, sm_wA_eq]; exact hw)
    refine ⟨w1, ?_, fun j c1 c2 => ?_, fun j c1 => ?_, fun a ha => ?_, b5⟩
    · rw [ff_de_become_10_f]
      unfold ff_de_become_10_b
      simp (disch := omega) only [u32_lit, sm_let_eq, sm_bind_some, sm_cI_some, sm_cV_some, sm_cL_some, sm_rd_u, sm_wr_u, u32_add, u32_mul, u32_sub, u32_le, u32_lt, u32_eq, u32_eq_neg, u32_neg_eq, u32_neg_neg, u32_le_neg, u32_neg_lt, u32_lt_neg, u32_neg_le, u10, u01, u3n0, u1n0, u4n0, n9_lt, n1_lt, n9_neg, n1_neg, if_true, if_false, if_pos, if_neg, ne_eq, not_true_eq_false, not_false_eq_true, hA.gI, hw, f0, f1, f2, g0, g1, g2, r1, r2, r3, s1, s2, s3, sm_wI_ne, sm_wI_nj, sm_wI_eq, sm_wA_ne, sm_wA_eq]
      exact b1
    · by_cases hji : j = i
      · subst hji
        obtain ⟨d1, d2, d3⟩ := b3 j (by omega)
        rw [d1, d2, d3]
        simp (disch := omega) only [sm_wI_ne, sm_wI_nj, sm_wI_eq, sm_wA_ne, sm_wA_eq, and_self]
      · obtain ⟨d1, d2, d3⟩ := b2 j (by omega) c2
        rw [d1, d2, d3]
        simp (disch := omega) only [sm_wI_ne, sm_wI_nj, sm_wI_eq, sm_wA_ne, sm_wA_eq, and_self]
    · obtain ⟨d1, d2, d3⟩ := b3 j (by omega)
      rw [d1, d2, d3]
      simp (disch := omega) only [sm_wI_ne, sm_wI_nj, sm_wI_eq, sm_wA_ne, sm_wA_eq, and_self]
    · rw [b4 a ha]
      simp (disch := omega) only [sm_wI_ne, sm_wI_nj, sm_wI_eq, sm_wA_ne, sm_wA_eq]
theorem de_become {a0 a1 : Nat} {ds : List Deed} {w : sm_Mem} (hA : isDeeds a0) (hB : isDeeds a1) (hd : a1 + 3 < a0 ∨ a0 + 3 < a1) (hn : ds.length ≤ 40) (h : CD w a1 ds) : ∃ w1, ff_de_become a0 a1 w = some (.null, w1) ∧ CD w1 a0 ds ∧ (∀ a, (a < a0 ∨ a0 + 3 < a) → w1.1 a = w.1 a) ∧ w1.2 = w.2 := by
  obtain ⟨w1, b1, b2, b3, b4, b5⟩ := de_become_loop hA hB hd hn ds.length 0 1000000 (sm_wI w a0 3 (u32 ds.length)) (by omega) (by omega) sm_wI_eq
  refine ⟨w1, ?_, ⟨?_, CDl_fr (w := w) (c := a1) ds (fun j hj => ?_) h.2⟩, fun a ha => ?_, b5⟩
  · unfold ff_de_become ff_de_become_10
    simp (disch := omega) only [u32_lit, sm_let_eq, sm_bind_some, sm_cI_some, sm_cV_some, sm_cL_some, sm_rd_u, sm_wr_u, u32_add, u32_mul, u32_sub, u32_le, u32_lt, u32_eq, u32_eq_neg, u32_neg_eq, u32_neg_neg, u32_le_neg, u32_neg_lt, u32_lt_neg, u32_neg_le, u10, u01, u3n0, u1n0, u4n0, n9_lt, n1_lt, n9_neg, n1_neg, if_true, if_false, if_pos, if_neg, ne_eq, not_true_eq_false, not_false_eq_true, hB.gI, h.1, hA.pI, sm_N_eq]
    exact b1
  · rw [b4 a0 (by omega), sm_wI_eq]
  · obtain ⟨d1, d2, d3⟩ := b2 j (by omega) hj
    rw [d1, d2, d3]
    simp (disch := omega) only [sm_wI_ne, sm_wI_nj, sm_wI_eq, sm_wA_ne, sm_wA_eq, and_self]
  · rw [b4 a (by omega), sm_wI_ne (by omega)]
