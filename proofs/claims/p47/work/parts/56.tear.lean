/-! mean -/
def sumTo (f : Nat → Int32) : Nat → Nat → Int64 → Int64
  | _, 0, a => a
  | i, m + 1, a => sumTo f (i + 1) m (a + (f i).toInt64)
theorem sumTo_congr {f g : Nat → Int32} : ∀ (m i : Nat) (a : Int64), (∀ j, i ≤ j → j < i + m → f j = g j) → sumTo f i m a = sumTo g i m a
  | 0, _, _, _ => rfl
  | m + 1, i, a, h => by
    rw [sumTo, sumTo, h i (Nat.le_refl _) (by omega)]
    exact sumTo_congr m (i + 1) _ (fun j h1 h2 => h j (by omega) (by omega))
theorem rw_sum_loop {k most n : Nat} {w : sm_Mem} (hR : isRow k most) (hn : n ≤ most) (hw : w.1 k 1 = u32 n) : ∀ (m i F : Nat) (a : Int64), i + m = n → m < F → ff_rw_sum_4_f F k a (u32 i) w = some (.long (sumTo (w.1 (k + 1)) i m a), w) := by
  have h60 := hR.2.2.2.2
  intro m
  induction m with
  | zero =>
    intro i F a him hF
    obtain ⟨F, rfl⟩ : ∃ G, F = G + 1 := ⟨F - 1, by omega⟩
    rw [ff_rw_sum_4_f]
    unfold ff_rw_sum_4_b
    simp (disch := omega) only [u32_lit, sm_let_eq, sm_bind_some, sm_cI_some, sm_cV_some, sm_cL_some, sm_rd_u, sm_wr_u, u32_add, u32_mul, u32_sub, u32_le, u32_lt, u32_eq, u32_eq_neg, u32_neg_eq, u32_neg_neg, u32_le_neg, u32_neg_lt, u32_lt_neg, u32_neg_le, u10, u01, u3n0, u1n0, u4n0, n9_lt, n1_lt, n9_neg, n1_neg, if_true, if_false, if_pos, if_neg, ne_eq, not_true_eq_false, not_false_eq_true, hR.gI, hw, sumTo]
  | succ m ih =>
    intro i F a him hF
    obtain ⟨F, rfl⟩ : ∃ G, F = G + 1 := ⟨F - 1, by omega⟩
    rw [ff_rw_sum_4_f]
    unfold ff_rw_sum_4_b
    have hi : i < most := by omega
    simp (disch := omega) only [u32_lit, sm_let_eq, sm_bind_some, sm_cI_some, sm_cV_some, sm_cL_some, sm_rd_u, sm_wr_u, u32_add, u32_mul, u32_sub, u32_le, u32_lt, u32_eq, u32_eq_neg, u32_neg_eq, u32_neg_neg, u32_le_neg, u32_neg_lt, u32_lt_neg, u32_neg_le, u10, u01, u3n0, u1n0, u4n0, n9_lt, n1_lt, n9_neg, n1_neg, if_true, if_false, if_pos, if_neg, ne_eq, not_true_eq_false, not_false_eq_true, hR.gI, hw, hR.fk, hR.rds hi]
    rw [ih (i + 1) F _ (by omega) (by omega), sumTo]
/-! copy -/
theorem rw_hasPart_neg {k : Nat} {i n : Int32} {w : sm_Mem} (hi : i < u32 0) : ff_rw_hasPart k i n w = some (.int (u32 0), w) := by
  unfold ff_rw_hasPart
  simp (disch := omega) only [u32_lit, sm_let_eq, sm_bind_some, sm_cI_some, sm_cV_some, sm_cL_some, sm_rd_u, sm_wr_u, u32_add, u32_mul, u32_sub, u32_le, u32_lt, u32_eq, u32_eq_neg, u32_neg_eq, u32_neg_neg, u32_le_neg, u32_neg_lt, u32_lt_neg, u32_neg_le, u10, u01, u3n0, u1n0, u4n0, n9_lt, n1_lt, n9_neg, n1_neg, if_true, if_false, if_pos, if_neg, ne_eq, not_true_eq_false, not_false_eq_true, hi]
theorem rw_hasPart_u {k most s i n : Nat} {w : sm_Mem} (hR : isRow k most) (hs : s ≤ most) (hw : w.1 k 1 = u32 s) (hi : i < 2147483648) (hn : n < 2147483648) : ff_rw_hasPart k (u32 i) (u32 n) w = some (.int (if i + n ≤ s then u32 1 else u32 0), w) := by
  have h60 := hR.2.2.2.2
  unfold ff_rw_hasPart
  simp (disch := omega) only [u32_lit, sm_let_eq, sm_bind_some, sm_cI_some, sm_cV_some, sm_cL_some, sm_rd_u, sm_wr_u, u32_add, u32_mul, u32_sub, u32_le, u32_lt, u32_eq, u32_eq_neg, u32_neg_eq, u32_neg_neg, u32_le_neg, u32_neg_lt, u32_lt_neg, u32_neg_le, u10, u01, u3n0, u1n0, u4n0, n9_lt, n1_lt, n9_neg, n1_neg, if_true, if_false, if_pos, if_neg, ne_eq, not_true_eq_false, not_false_eq_true, hR.gI, hw, u0_lt]
  by_cases h1 : s < i
  · simp (disch := omega) only [u32_lit, sm_let_eq, sm_bind_some, sm_cI_some, sm_cV_some, sm_cL_some, sm_rd_u, sm_wr_u, u32_add, u32_mul, u32_sub, u32_le, u32_lt, u32_eq, u32_eq_neg, u32_neg_eq, u32_neg_neg, u32_le_neg, u32_neg_lt, u32_lt_neg, u32_neg_le, u10, u01, u3n0, u1n0, u4n0, n9_lt, n1_lt, n9_neg, n1_neg, if_true, if_false, if_pos, if_neg, ne_eq, not_true_eq_false, not_false_eq_true]
  · by_cases h2 : i + n ≤ s
    · simp (disch := omega) only [u32_lit, sm_let_eq, sm_bind_some, sm_cI_some, sm_cV_some, sm_cL_some, sm_rd_u, sm_wr_u, u32_add, u32_mul, u32_sub, u32_le, u32_lt, u32_eq, u32_eq_neg, u32_neg_eq, u32_neg_neg, u32_le_neg, u32_neg_lt, u32_lt_neg, u32_neg_le, u10, u01, u3n0, u1n0, u4n0, n9_lt, n1_lt, n9_neg, n1_neg, if_true, if_false, if_pos, if_neg, ne_eq, not_true_eq_false, not_false_eq_true]
    · simp (disch := omega) only [u32_lit, sm_let_eq, sm_bind_some, sm_cI_some, sm_cV_some, sm_cL_some, sm_rd_u, sm_wr_u, u32_add, u32_mul, u32_sub, u32_le, u32_lt, u32_eq, u32_eq_neg, u32_neg_eq, u32_neg_neg, u32_le_neg, u32_neg_lt, u32_lt_neg, u32_neg_le, u10, u01, u3n0, u1n0, u4n0, n9_lt, n1_lt, n9_neg, n1_neg, if_true, if_false, if_pos, if_neg, ne_eq, not_true_eq_false, not_false_eq_true]
theorem sm_acp_u {a b ma mb i j n : Nat} {w : sm_Mem} (hA : isRow a ma) (hB : isRow b mb) (hi : i + n ≤ ma) (hj : j + n ≤ mb) : sm_acp w (a + 1) (u32 i) (b + 1) (u32 j) (u32 n) = some (sm_wA w (b + 1) (va_cpy (w.1 (a + 1)) (w.1 (b + 1)) i j n)) := by
  have h1 := hA.2.2.2.2
  have h2 := hB.2.2.2.2
  unfold sm_acp
  rw [hA.2.2.2.1, hB.2.2.2.1]
  dsimp only
  rw [if_neg]
  · rw [u32_idx (by omega), u32_idx (by omega), u32_idx (by omega)]
  · rw [u32_idx (by omega), u32_idx (by omega), u32_idx (by omega)]
    rintro (h | h | h | h | h)
    · exact (u32_nneg (a := i) (by omega)).mp h
    · exact (u32_nneg (a := j) (by omega)).mp h
    · exact (u32_nneg (a := n) (by omega)).mp h
    · omega
    · omega
