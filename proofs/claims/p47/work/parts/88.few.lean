/-! pure: few -/
theorem rds_sh {w : sm_Mem} {s m i : Nat} (hs : sm_shape[s]? = some (.inr (.inl m))) (hi : i < m) (hm : m ≤ 60) : sm_rds w s (u32 i) = some (w.1 s i) := by
  unfold sm_rds
  rw [hs]
  exact sm_rd_u hi (by omega)
theorem al_sh {s m : Nat} (hs : sm_shape[s]? = some (.inr (.inl m))) : sm_al s = some (u32 m) := by
  unfold sm_al
  rw [hs]
  rfl
theorem rw_become_loop {k s m L : Nat} (hR : isRow k 40) (hs : sm_shape[s]? = some (.inr (.inl m))) (hm : m ≤ 40) (hL : L ≤ m) (hsk : s ≠ k ∧ s ≠ k + 1) : ∀ (n j F : Nat) (w : sm_Mem), j + n = L → n < F → w.1 k 1 = u32 L → ∃ w1, ff_rw_become_13_f F k s (u32 j) w = some (.null, w1) ∧ (∀ i, j ≤ i → i < L → w1.1 (k + 1) i = w.1 s i) ∧ (∀ i, i < j → w1.1 (k + 1) i = w.1 (k + 1) i) ∧ (∀ a, a ≠ k + 1 → w1.1 a = w.1 a) ∧ w1.2 = w.2 := by
  intro n
  induction n with
  | zero =>
    intro j F w hj hF hw
    obtain ⟨F, rfl⟩ : ∃ G, F = G + 1 := ⟨F - 1, by omega⟩
    refine ⟨w, ?_, fun i a b => absurd a (by omega), fun _ _ => rfl, fun _ _ => rfl, rfl⟩
    rw [ff_rw_become_13_f]
    unfold ff_rw_become_13_b
    simp (disch := omega) only [hR.gI, hw, bs_, u32_le, if_pos]
  | succ n ih =>
    intro j F w hj hF hw
    obtain ⟨F, rfl⟩ : ∃ G, F = G + 1 := ⟨F - 1, by omega⟩
    obtain ⟨w1, a1, a2, a3, a4, a5⟩ := ih (j + 1) F (sm_wI w (k + 1) j (w.1 s j)) (by omega) (by omega) (by rw [sm_wI_ne (by omega)]; exact hw)
    refine ⟨w1, ?_, fun i h1 h2 => ?_, fun i h1 => ?_, fun a h1 => by rw [a4 a h1, sm_wI_ne h1], by rw [a5]; rfl⟩
    · rw [ff_rw_become_13_f]
      unfold ff_rw_become_13_b
      simp (disch := omega) only [u32_lit, hR.gI, hw, bs_, u32_le, if_neg, hR.fk, rds_sh hs (show j < m by omega) (by omega), hR.wrs (show j < 40 by omega), u32_add]
      exact a1
    · by_cases e : i = j
      · rw [e, a3 j (by omega), sm_wI_eq]
      · rw [a2 i (by omega) h2, sm_wI_ne hsk.2]
    · rw [a3 i (by omega), sm_wI_nj (by omega)]
theorem rw_become {k s m L : Nat} {w : sm_Mem} (hR : isRow k 40) (hs : sm_shape[s]? = some (.inr (.inl m))) (hm : m ≤ 40) (hL : L ≤ m) (hsk : s ≠ k ∧ s ≠ k + 1) : ∃ w1, ff_rw_become k s (u32 L) w = some (.null, w1) ∧ w1.1 k 1 = u32 L ∧ (∀ i, i < L → w1.1 (k + 1) i = w.1 s i) ∧ (∀ a, a ≠ k → a ≠ k + 1 → w1.1 a = w.1 a) ∧ w1.2 = w.2 := by
  obtain ⟨w1, a1, a2, a3, a4, a5⟩ := rw_become_loop hR hs hm hL hsk L 0 1000000 (sm_wA (sm_wI w k 1 (u32 L)) (k + 1) (fillF (w.1 (k + 1)) 0 L (u32 0))) (by omega) (by omega) (by rw [sm_wA_ne (by omega), sm_wI_eq])
  refine ⟨w1, ?_, by rw [a4 k (by omega), sm_wA_ne (by omega), sm_wI_eq], fun i hi => by rw [a2 i (Nat.zero_le _) hi, sm_wA_ne hsk.2, sm_wI_ne hsk.1], fun a h1 h2 => by rw [a4 a h2, sm_wA_ne h2, sm_wI_ne h1], by rw [a5]; rfl⟩
  have e : (if u32 m < u32 L then u32 m else u32 L) = u32 L := by
    simp (disch := omega) only [u32_lt, if_neg]
  unfold ff_rw_become ff_rw_become_13
  simp (disch := omega) only [u32_lit, al_sh hs, bs_, e, rw_begin hR (show L ≤ 40 by omega), hR.rc, cV_]
  rw [sm_N_eq]
  exact a1
/-- the model's fewest so far -/
def fewC : Option (Nat × List Nat) → Nat
  | none => 7
  | some b => b.1
