/-! pure: say, end, hour, walk -/
theorem Both_imp {c m : sm_Mem → sm_R} {P Q : sm_Mem → Prop} {w : sm_Mem} (h : Both c m P w) (hpq : ∀ w1, P w1 → Q w1) : Both c m Q w := by
  obtain ⟨v, w1, w2, h1, h2, h3⟩ := h
  exact ⟨v, w1, w2, h1, h2, hpq w2 h3⟩
theorem ho_isSpeaker_bad {x : Int32} {n : Nat} {w : sm_Mem} (hn : w.1 36 0 = u32 n) (h6 : n ≤ 6) (h : aBad x n) : ff_ho_isSpeaker x w = some (.int (u32 0), w) := by
  unfold ff_ho_isSpeaker
  rw [hn, ho_within_bad h (by omega), sm_cI_some, rz_0]
theorem ho_isSpeaker_good {i n : Nat} {w : sm_Mem} (hn : w.1 36 0 = u32 n) (h6 : n ≤ 6) (h : i < n) : ff_ho_isSpeaker (u32 i) w = some (.int (u32 1), w) := by
  unfold ff_ho_isSpeaker
  rw [hn, ho_within_good h (by omega), sm_cI_some, rz_1]
theorem de_add {ds : List Deed} {d : Deed} {w : sm_Mem} (hl : ds.length < 40) (h : CD w 45 ds) : ∃ w1, ff_de_add 45 (u32 d.1) (u32 d.2.1) (u32 d.2.2) w = some (.null, w1) ∧ CD w1 45 (d :: ds) ∧ (∀ a, (a < 45 ∨ 48 < a) → w1.1 a = w.1 a) ∧ w1.2 = w.2 := by
  have hD := isDeeds_home
  have f0 : sm_fk 45 0 0 2 = some 46 := rfl
  have f1 : sm_fk 45 0 1 2 = some 47 := rfl
  have f2 : sm_fk 45 0 2 2 = some 48 := rfl
  refine ⟨sm_wI (sm_wI (sm_wI (sm_wI w 46 ds.length (u32 d.1)) 47 ds.length (u32 d.2.1)) 48 ds.length (u32 d.2.2)) 45 3 (u32 (ds.length + 1)), ?_, ⟨?_, ?_, ?_, ?_, ?_⟩, fun a ha => ?_, rfl⟩
  · unfold ff_de_add
    simp (disch := omega) only [u32_lit, sm_let_eq, sm_bind_some, sm_cI_some, sm_cV_some, sm_cL_some, sm_rd_u, sm_wr_u, u32_add, u32_mul, u32_sub, u32_le, u32_lt, u32_eq, u32_eq_neg, u32_neg_eq, u32_neg_neg, u32_le_neg, u32_neg_lt, u32_lt_neg, u32_neg_le, u10, u01, u3n0, u1n0, u4n0, n9_lt, n1_lt, n9_neg, n1_neg, if_true, if_false, if_pos, if_neg, ne_eq, not_true_eq_false, not_false_eq_true, hD.gI, h.1, ho_within_good hl, f0, f1, f2, hD.wrs, sm_wI_ne, sm_wI_nj, sm_wI_eq, sm_wA_ne, sm_wA_eq, hD.pI]
  · simp (disch := omega) only [sm_wI_ne, sm_wI_nj, sm_wI_eq, sm_wA_ne, sm_wA_eq]
    rfl
  · simp (disch := omega) only [sm_wI_ne, sm_wI_nj, sm_wI_eq, sm_wA_ne, sm_wA_eq]
  · simp (disch := omega) only [sm_wI_ne, sm_wI_nj, sm_wI_eq, sm_wA_ne, sm_wA_eq]
  · simp (disch := omega) only [sm_wI_ne, sm_wI_nj, sm_wI_eq, sm_wA_ne, sm_wA_eq]
  · refine CDl_fr ds (fun j hj => ?_) h.2
    simp (disch := omega) only [sm_wI_ne, sm_wI_nj, sm_wI_eq, sm_wA_ne, sm_wA_eq, and_self]
  · simp (disch := omega) only [sm_wI_ne, sm_wI_nj, sm_wI_eq, sm_wA_ne, sm_wA_eq]
theorem hs_isFull {ds : List Deed} {w : sm_Mem} (h : CD w 45 ds) (hl : ds.length ≤ 40) : ff_hs_isFull w = some (.int (if ds.length < 40 then u32 0 else u32 1), w) := by
  unfold ff_hs_isFull
  rw [h.1]
  simp (disch := omega) only [u32_lit, u32_lt]
  split <;> rfl
theorem walk_way {a b : Nat} (ha : a < 6) (hb : b < 6) : (if u32 0 ≤ u32 a - u32 b then u32 a - u32 b else u32 0 - (u32 a - u32 b)) = u32 (if a ≤ b then b - a else a - b) ∧ ((u32 b - u32 a = u32 0) = (a = b)) ∧ (if u32 0 ≤ u32 b - u32 a then u32 b - u32 a else -(u32 b - u32 a)) = u32 (if a ≤ b then b - a else a - b) ∧ (if a ≤ b then b - a else a - b) < 6 := by
  have key : ∀ a, a < 6 → ∀ b, b < 6 → (decide ((if u32 0 ≤ u32 a - u32 b then u32 a - u32 b else u32 0 - (u32 a - u32 b)) = u32 (if a ≤ b then b - a else a - b)) && (decide (u32 b - u32 a = u32 0) == decide (a = b)) && decide ((if u32 0 ≤ u32 b - u32 a then u32 b - u32 a else -(u32 b - u32 a)) = u32 (if a ≤ b then b - a else a - b))) = true := by decide +kernel
  have h := key a ha b hb
  simp only [Bool.and_eq_true, decide_eq_true_eq, beq_iff_eq, decide_eq_decide] at h
  exact ⟨h.1.1, propext h.1.2, h.2, by split <;> omega⟩
theorem n10 : ((1 : Nat) = 0) = False := eq_false (by decide)
