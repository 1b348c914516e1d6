/-! pure: lay, at, tear, put, mean -/
theorem rw_isMissing_none {k most : Nat} {w : sm_Mem} (hR : isRow k most) (h : w.1 k 1 = -u32 9) : ff_rw_isMissing k w = some (.int (u32 1), w) := by
  unfold ff_rw_isMissing
  simp (disch := omega) only [u32_lit, sm_let_eq, sm_bind_some, sm_cI_some, sm_cV_some, sm_cL_some, sm_rd_u, sm_wr_u, u32_add, u32_mul, u32_sub, u32_le, u32_lt, u32_eq, u32_eq_neg, u32_neg_eq, u32_neg_neg, u32_le_neg, u32_neg_lt, u32_lt_neg, u32_neg_le, u10, u01, u3n0, u1n0, u4n0, n9_lt, n1_lt, n9_neg, n1_neg, if_true, if_false, if_pos, if_neg, ne_eq, not_true_eq_false, not_false_eq_true, hR.gI, h]
theorem rw_isMissing_some {k most n : Nat} {w : sm_Mem} (hR : isRow k most) (hn : n < 2147483648) (h : w.1 k 1 = u32 n) : ff_rw_isMissing k w = some (.int (u32 0), w) := by
  unfold ff_rw_isMissing
  simp (disch := omega) only [u32_lit, sm_let_eq, sm_bind_some, sm_cI_some, sm_cV_some, sm_cL_some, sm_rd_u, sm_wr_u, u32_add, u32_mul, u32_sub, u32_le, u32_lt, u32_eq, u32_eq_neg, u32_neg_eq, u32_neg_neg, u32_le_neg, u32_neg_lt, u32_lt_neg, u32_neg_le, u10, u01, u3n0, u1n0, u4n0, n9_lt, n1_lt, n9_neg, n1_neg, if_true, if_false, if_pos, if_neg, ne_eq, not_true_eq_false, not_false_eq_true, hR.gI, h, Nat.zero_le]
theorem miss_row_bad {r : Int32} {w : sm_Mem} (hr : aBad r 6) : ff_ho_refusalOfMissing 1 r w = some (.int (-u32 1), w) := by
  unfold ff_ho_refusalOfMissing
  simp (disch := omega) only [u32_lit, sm_let_eq, sm_bind_some, sm_cI_some, sm_cV_some, sm_cL_some, sm_rd_u, sm_wr_u, u32_add, u32_mul, u32_sub, u32_le, u32_lt, u32_eq, u32_eq_neg, u32_neg_eq, u32_neg_neg, u32_le_neg, u32_neg_lt, u32_lt_neg, u32_neg_le, u10, u01, u3n0, u1n0, u4n0, n9_lt, n1_lt, n9_neg, n1_neg, if_true, if_false, if_pos, if_neg, ne_eq, not_true_eq_false, not_false_eq_true, al_rows, ho_within_bad hr]
theorem miss_row_none {r : Nat} {w : sm_Mem} (hr : r < 6) (hc : w.1 (2 + 2 * r) 1 = -u32 9) : ff_ho_refusalOfMissing 1 (u32 r) w = some (.int (-u32 3), wcRef 1 w) := by
  have hR := isRow_row hr
  unfold ff_ho_refusalOfMissing
  simp (disch := omega) only [u32_lit, sm_let_eq, sm_bind_some, sm_cI_some, sm_cV_some, sm_cL_some, sm_rd_u, sm_wr_u, u32_add, u32_mul, u32_sub, u32_le, u32_lt, u32_eq, u32_eq_neg, u32_neg_eq, u32_neg_neg, u32_le_neg, u32_neg_lt, u32_lt_neg, u32_neg_le, u10, u01, u3n0, u1n0, u4n0, n9_lt, n1_lt, n9_neg, n1_neg, if_true, if_false, if_pos, if_neg, ne_eq, not_true_eq_false, not_false_eq_true, al_rows, ho_within_good hr, rr_row hr, hR.rc, rw_isMissing_none hR hc, td_refuse]
theorem miss_row_some {r n : Nat} {w : sm_Mem} (hr : r < 6) (hn : n < 2147483648) (hc : w.1 (2 + 2 * r) 1 = u32 n) : ff_ho_refusalOfMissing 1 (u32 r) w = some (.int (u32 0), w) := by
  have hR := isRow_row hr
  unfold ff_ho_refusalOfMissing
  simp (disch := omega) only [u32_lit, sm_let_eq, sm_bind_some, sm_cI_some, sm_cV_some, sm_cL_some, sm_rd_u, sm_wr_u, u32_add, u32_mul, u32_sub, u32_le, u32_lt, u32_eq, u32_eq_neg, u32_neg_eq, u32_neg_neg, u32_le_neg, u32_neg_lt, u32_lt_neg, u32_neg_le, u10, u01, u3n0, u1n0, u4n0, n9_lt, n1_lt, n9_neg, n1_neg, if_true, if_false, if_pos, if_neg, ne_eq, not_true_eq_false, not_false_eq_true, al_rows, ho_within_good hr, rr_row hr, hR.rc, rw_isMissing_some hR hn hc]
theorem place_row_bad {r i : Int32} {w : sm_Mem} (hr : aBad r 6) : ff_ho_refusalOfPlace 1 r i w = some (.int (-u32 1), w) := by
  unfold ff_ho_refusalOfPlace
  simp (disch := omega) only [u32_lit, sm_let_eq, sm_bind_some, sm_cI_some, sm_cV_some, sm_cL_some, sm_rd_u, sm_wr_u, u32_add, u32_mul, u32_sub, u32_le, u32_lt, u32_eq, u32_eq_neg, u32_neg_eq, u32_neg_neg, u32_le_neg, u32_neg_lt, u32_lt_neg, u32_neg_le, u10, u01, u3n0, u1n0, u4n0, n9_lt, n1_lt, n9_neg, n1_neg, if_true, if_false, if_pos, if_neg, ne_eq, not_true_eq_false, not_false_eq_true, miss_row_bad hr]
theorem place_row_none {r : Nat} {i : Int32} {w : sm_Mem} (hr : r < 6) (hc : w.1 (2 + 2 * r) 1 = -u32 9) : ff_ho_refusalOfPlace 1 (u32 r) i w = some (.int (-u32 3), wcRef 1 w) := by
  unfold ff_ho_refusalOfPlace
  simp (disch := omega) only [u32_lit, sm_let_eq, sm_bind_some, sm_cI_some, sm_cV_some, sm_cL_some, sm_rd_u, sm_wr_u, u32_add, u32_mul, u32_sub, u32_le, u32_lt, u32_eq, u32_eq_neg, u32_neg_eq, u32_neg_neg, u32_le_neg, u32_neg_lt, u32_lt_neg, u32_neg_le, u10, u01, u3n0, u1n0, u4n0, n9_lt, n1_lt, n9_neg, n1_neg, if_true, if_false, if_pos, if_neg, ne_eq, not_true_eq_false, not_false_eq_true, miss_row_none hr hc]
theorem place_row_beyond {r n : Nat} {i : Int32} {w : sm_Mem} (hr : r < 6) (hn : n < 2147483648) (hc : w.1 (2 + 2 * r) 1 = u32 n) (hi : aBad i n) : ff_ho_refusalOfPlace 1 (u32 r) i w = some (.int (-u32 3), wcRef 2 w) := by
  have hR := isRow_row hr
  unfold ff_ho_refusalOfPlace
  simp (disch := omega) only [u32_lit, sm_let_eq, sm_bind_some, sm_cI_some, sm_cV_some, sm_cL_some, sm_rd_u, sm_wr_u, u32_add, u32_mul, u32_sub, u32_le, u32_lt, u32_eq, u32_eq_neg, u32_neg_eq, u32_neg_neg, u32_le_neg, u32_neg_lt, u32_lt_neg, u32_neg_le, u10, u01, u3n0, u1n0, u4n0, n9_lt, n1_lt, n9_neg, n1_neg, if_true, if_false, if_pos, if_neg, ne_eq, not_true_eq_false, not_false_eq_true, miss_row_some hr hn hc, rr_row hr, hR.gI, hc, ho_within_bad hi, td_refuse]
theorem place_row_ok {r n i : Nat} {w : sm_Mem} (hr : r < 6) (hn : n < 2147483648) (hc : w.1 (2 + 2 * r) 1 = u32 n) (hi : i < n) : ff_ho_refusalOfPlace 1 (u32 r) (u32 i) w = some (.int (u32 0), w) := by
  have hR := isRow_row hr
  unfold ff_ho_refusalOfPlace
  simp (disch := omega) only [u32_lit, sm_let_eq, sm_bind_some, sm_cI_some, sm_cV_some, sm_cL_some, sm_rd_u, sm_wr_u, u32_add, u32_mul, u32_sub, u32_le, u32_lt, u32_eq, u32_eq_neg, u32_neg_eq, u32_neg_neg, u32_le_neg, u32_neg_lt, u32_lt_neg, u32_neg_le, u10, u01, u3n0, u1n0, u4n0, n9_lt, n1_lt, n9_neg, n1_neg, if_true, if_false, if_pos, if_neg, ne_eq, not_true_eq_false, not_false_eq_true, miss_row_some hr hn hc, rr_row hr, hR.gI, hc, ho_within_good hi]
theorem miss_text_bad {r : Int32} {w : sm_Mem} (hr : aBad r 4) : ff_ho_refusalOfMissing 14 r w = some (.int (-u32 1), w) := by
  unfold ff_ho_refusalOfMissing
  simp (disch := omega) only [u32_lit, sm_let_eq, sm_bind_some, sm_cI_some, sm_cV_some, sm_cL_some, sm_rd_u, sm_wr_u, u32_add, u32_mul, u32_sub, u32_le, u32_lt, u32_eq, u32_eq_neg, u32_neg_eq, u32_neg_neg, u32_le_neg, u32_neg_lt, u32_lt_neg, u32_neg_le, u10, u01, u3n0, u1n0, u4n0, n9_lt, n1_lt, n9_neg, n1_neg, if_true, if_false, if_pos, if_neg, ne_eq, not_true_eq_false, not_false_eq_true, al_texts, ho_within_bad hr]
theorem miss_text_none {r : Nat} {w : sm_Mem} (hr : r < 4) (hc : w.1 (15 + 2 * r) 1 = -u32 9) : ff_ho_refusalOfMissing 14 (u32 r) w = some (.int (-u32 3), wcRef 1 w) := by
  have hR := isRow_text hr
  unfold ff_ho_refusalOfMissing
  simp (disch := omega) only [u32_lit, sm_let_eq, sm_bind_some, sm_cI_some, sm_cV_some, sm_cL_some, sm_rd_u, sm_wr_u, u32_add, u32_mul, u32_sub, u32_le, u32_lt, u32_eq, u32_eq_neg, u32_neg_eq, u32_neg_neg, u32_le_neg, u32_neg_lt, u32_lt_neg, u32_neg_le, u10, u01, u3n0, u1n0, u4n0, n9_lt, n1_lt, n9_neg, n1_neg, if_true, if_false, if_pos, if_neg, ne_eq, not_true_eq_false, not_false_eq_true, al_texts, ho_within_good hr, rr_text hr, hR.rc, rw_isMissing_none hR hc, td_refuse]
theorem miss_text_some {r n : Nat} {w : sm_Mem} (hr : r < 4) (hn : n < 2147483648) (hc : w.1 (15 + 2 * r) 1 = u32 n) : ff_ho_refusalOfMissing 14 (u32 r) w = some (.int (u32 0), w) := by
  have hR := isRow_text hr
  unfold ff_ho_refusalOfMissing
  simp (disch := omega) only [u32_lit, sm_let_eq, sm_bind_some, sm_cI_some, sm_cV_some, sm_cL_some, sm_rd_u, sm_wr_u, u32_add, u32_mul, u32_sub, u32_le, u32_lt, u32_eq, u32_eq_neg, u32_neg_eq, u32_neg_neg, u32_le_neg, u32_neg_lt, u32_lt_neg, u32_neg_le, u10, u01, u3n0, u1n0, u4n0, n9_lt, n1_lt, n9_neg, n1_neg, if_true, if_false, if_pos, if_neg, ne_eq, not_true_eq_false, not_false_eq_true, al_texts, ho_within_good hr, rr_text hr, hR.rc, rw_isMissing_some hR hn hc]
theorem place_text_bad {r i : Int32} {w : sm_Mem} (hr : aBad r 4) : ff_ho_refusalOfPlace 14 r i w = some (.int (-u32 1), w) := by
  unfold ff_ho_refusalOfPlace
  simp (disch := omega) only [u32_lit, sm_let_eq, sm_bind_some, sm_cI_some, sm_cV_some, sm_cL_some, sm_rd_u, sm_wr_u, u32_add, u32_mul, u32_sub, u32_le, u32_lt, u32_eq, u32_eq_neg, u32_neg_eq, u32_neg_neg, u32_le_neg, u32_neg_lt, u32_lt_neg, u32_neg_le, u10, u01, u3n0, u1n0, u4n0, n9_lt, n1_lt, n9_neg, n1_neg, if_true, if_false, if_pos, if_neg, ne_eq, not_true_eq_false, not_false_eq_true, miss_text_bad hr]
theorem place_text_none {r : Nat} {i : Int32} {w : sm_Mem} (hr : r < 4) (hc : w.1 (15 + 2 * r) 1 = -u32 9) : ff_ho_refusalOfPlace 14 (u32 r) i w = some (.int (-u32 3), wcRef 1 w) := by
  unfold ff_ho_refusalOfPlace
  simp (disch := omega) only [u32_lit, sm_let_eq, sm_bind_some, sm_cI_some, sm_cV_some, sm_cL_some, sm_rd_u, sm_wr_u, u32_add, u32_mul, u32_sub, u32_le, u32_lt, u32_eq, u32_eq_neg, u32_neg_eq, u32_neg_neg, u32_le_neg, u32_neg_lt, u32_lt_neg, u32_neg_le, u10, u01, u3n0, u1n0, u4n0, n9_lt, n1_lt, n9_neg, n1_neg, if_true, if_false, if_pos, if_neg, ne_eq, not_true_eq_false, not_false_eq_true, miss_text_none hr hc]
theorem place_text_beyond {r n : Nat} {i : Int32} {w : sm_Mem} (hr : r < 4) (hn : n < 2147483648) (hc : w.1 (15 + 2 * r) 1 = u32 n) (hi : aBad i n) : ff_ho_refusalOfPlace 14 (u32 r) i w = some (.int (-u32 3), wcRef 2 w) := by
  have hR := isRow_text hr
  unfold ff_ho_refusalOfPlace
  simp (disch := omega) only [u32_lit, sm_let_eq, sm_bind_some, sm_cI_some, sm_cV_some, sm_cL_some, sm_rd_u, sm_wr_u, u32_add, u32_mul, u32_sub, u32_le, u32_lt, u32_eq, u32_eq_neg, u32_neg_eq, u32_neg_neg, u32_le_neg, u32_neg_lt, u32_lt_neg, u32_neg_le, u10, u01, u3n0, u1n0, u4n0, n9_lt, n1_lt, n9_neg, n1_neg, if_true, if_false, if_pos, if_neg, ne_eq, not_true_eq_false, not_false_eq_true, miss_text_some hr hn hc, rr_text hr, hR.gI, hc, ho_within_bad hi, td_refuse]
theorem place_text_ok {r n i : Nat} {w : sm_Mem} (hr : r < 4) (hn : n < 2147483648) (hc : w.1 (15 + 2 * r) 1 = u32 n) (hi : i < n) : ff_ho_refusalOfPlace 14 (u32 r) (u32 i) w = some (.int (u32 0), w) := by
  have hR := isRow_text hr
  unfold ff_ho_refusalOfPlace
  simp (disch := omega) only [u32_lit, sm_let_eq, sm_bind_some, sm_cI_some, sm_cV_some, sm_cL_some, sm_rd_u, sm_wr_u, u32_add, u32_mul, u32_sub, u32_le, u32_lt, u32_eq, u32_eq_neg, u32_neg_eq, u32_neg_neg, u32_le_neg, u32_neg_lt, u32_lt_neg, u32_neg_le, u10, u01, u3n0, u1n0, u4n0, n9_lt, n1_lt, n9_neg, n1_neg, if_true, if_false, if_pos, if_neg, ne_eq, not_true_eq_false, not_false_eq_true, miss_text_some hr hn hc, rr_text hr, hR.gI, hc, ho_within_good hi]
theorem mo_refused_bad {r i : Int32} {w : sm_Mem} (hr : aBad r 6) : ff_mo_refused r i w = some (.int (-u32 1), w) := by
  unfold ff_mo_refused
  simp (disch := omega) only [u32_lit, sm_let_eq, sm_bind_some, sm_cI_some, sm_cV_some, sm_cL_some, sm_rd_u, sm_wr_u, u32_add, u32_mul, u32_sub, u32_le, u32_lt, u32_eq, u32_eq_neg, u32_neg_eq, u32_neg_neg, u32_le_neg, u32_neg_lt, u32_lt_neg, u32_neg_le, u10, u01, u3n0, u1n0, u4n0, n9_lt, n1_lt, n9_neg, n1_neg, if_true, if_false, if_pos, if_neg, ne_eq, not_true_eq_false, not_false_eq_true, mo_isRow_bad hr]
theorem mo_refused_none {r : Nat} {i : Int32} {w : sm_Mem} (hr : r < 6) (hm : w.1 67 r = -u32 1) : ff_mo_refused (u32 r) i w = some (.int (-u32 3), wmRef 1 w) := by
  unfold ff_mo_refused
  simp (disch := omega) only [u32_lit, sm_let_eq, sm_bind_some, sm_cI_some, sm_cV_some, sm_cL_some, sm_rd_u, sm_wr_u, u32_add, u32_mul, u32_sub, u32_le, u32_lt, u32_eq, u32_eq_neg, u32_neg_eq, u32_neg_neg, u32_le_neg, u32_neg_lt, u32_lt_neg, u32_neg_le, u10, u01, u3n0, u1n0, u4n0, n9_lt, n1_lt, n9_neg, n1_neg, if_true, if_false, if_pos, if_neg, ne_eq, not_true_eq_false, not_false_eq_true, mo_isRow_good hr, hm, mo_find]
theorem mo_refused_beyond {r n : Nat} {i : Int32} {w : sm_Mem} (hr : r < 6) (hn : n < 2147483648) (hm : w.1 67 r = u32 n) (hi : aBad i n) : ff_mo_refused (u32 r) i w = some (.int (-u32 3), wmRef 2 w) := by
  unfold ff_mo_refused
  have hq : ff_mo_in i.toInt64 0 (u32 n - u32 1).toInt64 w = some (.int (u32 0), w) := mo_in_bad hi (u32_pred (by omega))
  simp (disch := omega) only [u32_lit, sm_let_eq, sm_bind_some, sm_cI_some, sm_cV_some, sm_cL_some, sm_rd_u, sm_wr_u, u32_add, u32_mul, u32_sub, u32_le, u32_lt, u32_eq, u32_eq_neg, u32_neg_eq, u32_neg_neg, u32_le_neg, u32_neg_lt, u32_lt_neg, u32_neg_le, u10, u01, u3n0, u1n0, u4n0, n9_lt, n1_lt, n9_neg, n1_neg, if_true, if_false, if_pos, if_neg, ne_eq, not_true_eq_false, not_false_eq_true, mo_isRow_good hr, hm, mo_find, Nat.zero_le]
  rw [hq]
  simp (disch := omega) only [u32_lit, sm_let_eq, sm_bind_some, sm_cI_some, sm_cV_some, sm_cL_some, sm_rd_u, sm_wr_u, u32_add, u32_mul, u32_sub, u32_le, u32_lt, u32_eq, u32_eq_neg, u32_neg_eq, u32_neg_neg, u32_le_neg, u32_neg_lt, u32_lt_neg, u32_neg_le, u10, u01, u3n0, u1n0, u4n0, n9_lt, n1_lt, n9_neg, n1_neg, if_true, if_false, if_pos, if_neg, ne_eq, not_true_eq_false, not_false_eq_true, mo_find]
theorem mo_refused_ok {r n i : Nat} {w : sm_Mem} (hr : r < 6) (hn : n < 2147483648) (hm : w.1 67 r = u32 n) (hi : i < n) : ff_mo_refused (u32 r) (u32 i) w = some (.int (u32 0), w) := by
  unfold ff_mo_refused
  have hq : ff_mo_in (u32 i).toInt64 0 (u32 n - u32 1).toInt64 w = some (.int (u32 1), w) := mo_in_good hi (by omega) (u32_pred (by omega))
  simp (disch := omega) only [u32_lit, sm_bind_some, sm_cI_some, sm_rd_u, mo_isRow_good hr, u10, if_false, hm]
  rw [hq]
  simp (disch := omega) only [u32_lit, sm_let_eq, sm_bind_some, sm_cI_some, sm_cV_some, sm_cL_some, sm_rd_u, sm_wr_u, u32_add, u32_mul, u32_sub, u32_le, u32_lt, u32_eq, u32_eq_neg, u32_neg_eq, u32_neg_neg, u32_le_neg, u32_neg_lt, u32_lt_neg, u32_neg_le, u10, u01, u3n0, u1n0, u4n0, n9_lt, n1_lt, n9_neg, n1_neg, if_true, if_false, if_pos, if_neg, ne_eq, not_true_eq_false, not_false_eq_true, Nat.zero_le]
theorem mo_tell {x : Int32} {w : sm_Mem} : ff_mo_tell x w = some (.int (u32 1), sm_wI w 62 9 x) := rfl
theorem RTold_tell {w : sm_Mem} {x : Int32} (h : RTold w) : RTold (sm_wI (sm_wI w 60 0 x) 62 9 x) := by
  obtain ⟨h1, h2, h3, h4, h5⟩ := h
  refine ⟨?_, h2, h3, ?_, fun f hf => ?_⟩
  · simp (disch := omega) only [sm_wI_ne, sm_wI_nj, sm_wI_eq, sm_wA_ne, sm_wA_eq]
  · simp (disch := omega) only [sm_wI_ne, sm_wI_nj, sm_wI_eq, sm_wA_ne, sm_wA_eq]
    exact h4
  · simp (disch := omega) only [sm_wI_ne, sm_wI_nj, sm_wI_eq, sm_wA_ne, sm_wA_eq]
    exact h5 f hf
theorem RTold_told {w w1 : sm_Mem} (h : RTold w) (h0 : w1.1 60 0 = w1.1 62 9) (h3 : w1.1 60 3 = w.1 60 3) (h4 : w1.1 62 12 = w.1 62 12) (h5 : w1.1 61 = w.1 61) (h6 : w1.1 71 = w.1 71) (h2 : w1.2 = w.2) : RTold w1 := by
  obtain ⟨a1, a2, a3, a4, a5⟩ := h
  unfold RTold
  rw [h0, h3, h4, h5, h6, h2]
  exact ⟨rfl, a2, a3, a4, a5⟩
theorem op_at {r i : Int32} {w : sm_Mem} (h : RC w) : Both (ff_ho_at r i) (ff_mo_at r i) (RCells w) w := by
  rcases aCases r 6 with hr | ⟨r, hr, -, rfl⟩
  · refine Both_same (-u32 1) ?_ ?_ h
    · unfold ff_ho_at
      simp (disch := omega) only [u32_lit, sm_let_eq, sm_bind_some, sm_cI_some, sm_cV_some, sm_cL_some, sm_rd_u, sm_wr_u, u32_add, u32_mul, u32_sub, u32_le, u32_lt, u32_eq, u32_eq_neg, u32_neg_eq, u32_neg_neg, u32_le_neg, u32_neg_lt, u32_lt_neg, u32_neg_le, u10, u01, u3n0, u1n0, u4n0, n9_lt, n1_lt, n9_neg, n1_neg, if_true, if_false, if_pos, if_neg, ne_eq, not_true_eq_false, not_false_eq_true, place_row_bad hr]
    · unfold ff_mo_at
      simp (disch := omega) only [u32_lit, sm_let_eq, sm_bind_some, sm_cI_some, sm_cV_some, sm_cL_some, sm_rd_u, sm_wr_u, u32_add, u32_mul, u32_sub, u32_le, u32_lt, u32_eq, u32_eq_neg, u32_neg_eq, u32_neg_neg, u32_le_neg, u32_neg_lt, u32_lt_neg, u32_neg_le, u10, u01, u3n0, u1n0, u4n0, n9_lt, n1_lt, n9_neg, n1_neg, if_true, if_false, if_pos, if_neg, ne_eq, not_true_eq_false, not_false_eq_true, mo_refused_bad hr]
  have hR := isRow_row hr
  rcases (h.1 r hr).cases with ⟨hc, hm⟩ | ⟨n, hn, hc, hm, he⟩
  · refine Both_ref 1 ?_ ?_ h
    · unfold ff_ho_at
      simp (disch := omega) only [u32_lit, sm_let_eq, sm_bind_some, sm_cI_some, sm_cV_some, sm_cL_some, sm_rd_u, sm_wr_u, u32_add, u32_mul, u32_sub, u32_le, u32_lt, u32_eq, u32_eq_neg, u32_neg_eq, u32_neg_neg, u32_le_neg, u32_neg_lt, u32_lt_neg, u32_neg_le, u10, u01, u3n0, u1n0, u4n0, n9_lt, n1_lt, n9_neg, n1_neg, if_true, if_false, if_pos, if_neg, ne_eq, not_true_eq_false, not_false_eq_true, place_row_none hr hc]
    · unfold ff_mo_at
      rw [mo_refused_none hr (by rw [wcRef_ne (by omega) (by omega)]; exact hm)]
      simp (disch := omega) only [u32_lit, sm_let_eq, sm_bind_some, sm_cI_some, sm_cV_some, sm_cL_some, sm_rd_u, sm_wr_u, u32_add, u32_mul, u32_sub, u32_le, u32_lt, u32_eq, u32_eq_neg, u32_neg_eq, u32_neg_neg, u32_le_neg, u32_neg_lt, u32_lt_neg, u32_neg_le, u10, u01, u3n0, u1n0, u4n0, n9_lt, n1_lt, n9_neg, n1_neg, if_true, if_false, if_pos, if_neg, ne_eq, not_true_eq_false, not_false_eq_true]
  rcases aCases i n with hi | ⟨i, hi, -, rfl⟩
  · refine Both_ref 2 ?_ ?_ h
    · unfold ff_ho_at
      simp (disch := omega) only [u32_lit, sm_let_eq, sm_bind_some, sm_cI_some, sm_cV_some, sm_cL_some, sm_rd_u, sm_wr_u, u32_add, u32_mul, u32_sub, u32_le, u32_lt, u32_eq, u32_eq_neg, u32_neg_eq, u32_neg_neg, u32_le_neg, u32_neg_lt, u32_lt_neg, u32_neg_le, u10, u01, u3n0, u1n0, u4n0, n9_lt, n1_lt, n9_neg, n1_neg, if_true, if_false, if_pos, if_neg, ne_eq, not_true_eq_false, not_false_eq_true, place_row_beyond hr (show n < 2147483648 by omega) hc hi]
    · unfold ff_mo_at
      rw [mo_refused_beyond hr (show n < 2147483648 by omega) (by rw [wcRef_ne (by omega) (by omega)]; exact hm) hi]
      simp (disch := omega) only [u32_lit, sm_let_eq, sm_bind_some, sm_cI_some, sm_cV_some, sm_cL_some, sm_rd_u, sm_wr_u, u32_add, u32_mul, u32_sub, u32_le, u32_lt, u32_eq, u32_eq_neg, u32_neg_eq, u32_neg_neg, u32_le_neg, u32_neg_lt, u32_lt_neg, u32_neg_le, u10, u01, u3n0, u1n0, u4n0, n9_lt, n1_lt, n9_neg, n1_neg, if_true, if_false, if_pos, if_neg, ne_eq, not_true_eq_false, not_false_eq_true]
  · have h1 : ff_ho_at (u32 r) (u32 i) w = some (.int (u32 1), sm_wI w 60 0 (w.1 (2 + 2 * r + 1) i)) := by
      unfold ff_ho_at
      simp (disch := omega) only [u32_lit, sm_let_eq, sm_bind_some, sm_cI_some, sm_cV_some, sm_cL_some, sm_rd_u, sm_wr_u, u32_add, u32_mul, u32_sub, u32_le, u32_lt, u32_eq, u32_eq_neg, u32_neg_eq, u32_neg_neg, u32_le_neg, u32_neg_lt, u32_lt_neg, u32_neg_le, u10, u01, u3n0, u1n0, u4n0, n9_lt, n1_lt, n9_neg, n1_neg, if_true, if_false, if_pos, if_neg, ne_eq, not_true_eq_false, not_false_eq_true, place_row_ok hr (show n < 2147483648 by omega) hc hi, rr_row hr, hR.fk, hR.rds (show i < 40 by omega)]
    have h2 : ff_mo_at (u32 r) (u32 i) (sm_wI w 60 0 (w.1 (2 + 2 * r + 1) i)) = some (.int (u32 1), sm_wI (sm_wI w 60 0 (w.1 (2 + 2 * r + 1) i)) 62 9 (w.1 (2 + 2 * r + 1) i)) := by
      unfold ff_mo_at
      rw [mo_refused_ok hr (show n < 2147483648 by omega) (by rw [sm_wI_ne (by omega)]; exact hm) hi]
      simp (disch := omega) only [u32_lit, sm_let_eq, sm_bind_some, sm_cI_some, sm_cV_some, sm_cL_some, sm_rd_u, sm_wr_u, u32_add, u32_mul, u32_sub, u32_le, u32_lt, u32_eq, u32_eq_neg, u32_neg_eq, u32_neg_neg, u32_le_neg, u32_neg_lt, u32_lt_neg, u32_neg_le, u10, u01, u3n0, u1n0, u4n0, n9_lt, n1_lt, n9_neg, n1_neg, if_true, if_false, if_pos, if_neg, ne_eq, not_true_eq_false, not_false_eq_true, mo_tell, sm_wI_ne, sm_wI_nj, sm_wI_eq, sm_wA_ne, sm_wA_eq, he i hi]
    refine Both_mk _ _ _ h1 h2 ⟨RRows_fr (fun a ha => ?_) h.1, RTexts_fr (fun a ha => ?_) h.2.1, RTold_tell h.2.2, fun a ha => ?_, ?_⟩ <;> simp (disch := omega) only [sm_wI_ne, sm_wI_nj, sm_wI_eq, sm_wA_ne, sm_wA_eq]
theorem op_lay {r i v : Int32} {w : sm_Mem} (h : RC w) : Both (ff_ho_lay r i v) (ff_mo_lay r i v) (RCells w) w := by
  rcases aCases r 6 with hr | ⟨r, hr, -, rfl⟩
  · refine Both_same (-u32 1) ?_ ?_ h
    · unfold ff_ho_lay
      simp (disch := omega) only [u32_lit, sm_let_eq, sm_bind_some, sm_cI_some, sm_cV_some, sm_cL_some, sm_rd_u, sm_wr_u, u32_add, u32_mul, u32_sub, u32_le, u32_lt, u32_eq, u32_eq_neg, u32_neg_eq, u32_neg_neg, u32_le_neg, u32_neg_lt, u32_lt_neg, u32_neg_le, u10, u01, u3n0, u1n0, u4n0, n9_lt, n1_lt, n9_neg, n1_neg, if_true, if_false, if_pos, if_neg, ne_eq, not_true_eq_false, not_false_eq_true, place_row_bad hr]
    · unfold ff_mo_lay
      simp (disch := omega) only [u32_lit, sm_let_eq, sm_bind_some, sm_cI_some, sm_cV_some, sm_cL_some, sm_rd_u, sm_wr_u, u32_add, u32_mul, u32_sub, u32_le, u32_lt, u32_eq, u32_eq_neg, u32_neg_eq, u32_neg_neg, u32_le_neg, u32_neg_lt, u32_lt_neg, u32_neg_le, u10, u01, u3n0, u1n0, u4n0, n9_lt, n1_lt, n9_neg, n1_neg, if_true, if_false, if_pos, if_neg, ne_eq, not_true_eq_false, not_false_eq_true, mo_refused_bad hr]
  have hR := isRow_row hr
  rcases (h.1 r hr).cases with ⟨hc, hm⟩ | ⟨n, hn, hc, hm, he⟩
  · refine Both_ref 1 ?_ ?_ h
    · unfold ff_ho_lay
      simp (disch := omega) only [u32_lit, sm_let_eq, sm_bind_some, sm_cI_some, sm_cV_some, sm_cL_some, sm_rd_u, sm_wr_u, u32_add, u32_mul, u32_sub, u32_le, u32_lt, u32_eq, u32_eq_neg, u32_neg_eq, u32_neg_neg, u32_le_neg, u32_neg_lt, u32_lt_neg, u32_neg_le, u10, u01, u3n0, u1n0, u4n0, n9_lt, n1_lt, n9_neg, n1_neg, if_true, if_false, if_pos, if_neg, ne_eq, not_true_eq_false, not_false_eq_true, place_row_none hr hc]
    · unfold ff_mo_lay
      rw [mo_refused_none hr (by rw [wcRef_ne (by omega) (by omega)]; exact hm)]
      simp (disch := omega) only [u32_lit, sm_let_eq, sm_bind_some, sm_cI_some, sm_cV_some, sm_cL_some, sm_rd_u, sm_wr_u, u32_add, u32_mul, u32_sub, u32_le, u32_lt, u32_eq, u32_eq_neg, u32_neg_eq, u32_neg_neg, u32_le_neg, u32_neg_lt, u32_lt_neg, u32_neg_le, u10, u01, u3n0, u1n0, u4n0, n9_lt, n1_lt, n9_neg, n1_neg, if_true, if_false, if_pos, if_neg, ne_eq, not_true_eq_false, not_false_eq_true]
  rcases aCases i n with hi | ⟨i, hi, -, rfl⟩
  · refine Both_ref 2 ?_ ?_ h
    · unfold ff_ho_lay
      simp (disch := omega) only [u32_lit, sm_let_eq, sm_bind_some, sm_cI_some, sm_cV_some, sm_cL_some, sm_rd_u, sm_wr_u, u32_add, u32_mul, u32_sub, u32_le, u32_lt, u32_eq, u32_eq_neg, u32_neg_eq, u32_neg_neg, u32_le_neg, u32_neg_lt, u32_lt_neg, u32_neg_le, u10, u01, u3n0, u1n0, u4n0, n9_lt, n1_lt, n9_neg, n1_neg, if_true, if_false, if_pos, if_neg, ne_eq, not_true_eq_false, not_false_eq_true, place_row_beyond hr (show n < 2147483648 by omega) hc hi]
    · unfold ff_mo_lay
      rw [mo_refused_beyond hr (show n < 2147483648 by omega) (by rw [wcRef_ne (by omega) (by omega)]; exact hm) hi]
      simp (disch := omega) only [u32_lit, sm_let_eq, sm_bind_some, sm_cI_some, sm_cV_some, sm_cL_some, sm_rd_u, sm_wr_u, u32_add, u32_mul, u32_sub, u32_le, u32_lt, u32_eq, u32_eq_neg, u32_neg_eq, u32_neg_neg, u32_le_neg, u32_neg_lt, u32_lt_neg, u32_neg_le, u10, u01, u3n0, u1n0, u4n0, n9_lt, n1_lt, n9_neg, n1_neg, if_true, if_false, if_pos, if_neg, ne_eq, not_true_eq_false, not_false_eq_true]
  · have h1 : ff_ho_lay (u32 r) (u32 i) v w = some (.int (u32 1), sm_wI (sm_wI w 60 0 (w.1 (2 + 2 * r + 1) i)) (2 + 2 * r + 1) i v) := by
      unfold ff_ho_lay
      simp (disch := omega) only [u32_lit, sm_let_eq, sm_bind_some, sm_cI_some, sm_cV_some, sm_cL_some, sm_rd_u, sm_wr_u, u32_add, u32_mul, u32_sub, u32_le, u32_lt, u32_eq, u32_eq_neg, u32_neg_eq, u32_neg_neg, u32_le_neg, u32_neg_lt, u32_lt_neg, u32_neg_le, u10, u01, u3n0, u1n0, u4n0, n9_lt, n1_lt, n9_neg, n1_neg, if_true, if_false, if_pos, if_neg, ne_eq, not_true_eq_false, not_false_eq_true, place_row_ok hr (show n < 2147483648 by omega) hc hi, rr_row hr, hR.fk, hR.rds (show i < 40 by omega), hR.wrs (show i < 40 by omega)]
    have h2 : ff_mo_lay (u32 r) (u32 i) v (sm_wI (sm_wI w 60 0 (w.1 (2 + 2 * r + 1) i)) (2 + 2 * r + 1) i v) = some (.int (u32 1), sm_wI (sm_wI (sm_wI (sm_wI w 60 0 (w.1 (2 + 2 * r + 1) i)) (2 + 2 * r + 1) i v) 68 (40 * r + i) v) 62 9 (w.1 (2 + 2 * r + 1) i)) := by
      unfold ff_mo_lay
      rw [mo_refused_ok hr (show n < 2147483648 by omega) (by rw [sm_wI_ne (by omega), sm_wI_ne (by omega)]; exact hm) hi]
      simp (disch := omega) only [u32_lit, sm_let_eq, sm_bind_some, sm_cI_some, sm_cV_some, sm_cL_some, sm_rd_u, sm_wr_u, u32_add, u32_mul, u32_sub, u32_le, u32_lt, u32_eq, u32_eq_neg, u32_neg_eq, u32_neg_neg, u32_le_neg, u32_neg_lt, u32_lt_neg, u32_neg_le, u10, u01, u3n0, u1n0, u4n0, n9_lt, n1_lt, n9_neg, n1_neg, if_true, if_false, if_pos, if_neg, ne_eq, not_true_eq_false, not_false_eq_true, mo_tell, sm_wI_ne, sm_wI_nj, sm_wI_eq, sm_wA_ne, sm_wA_eq, he i hi]
    refine Both_mk _ _ _ h1 h2 ⟨fun q hq => ?_, RTexts_fr (fun a ha => ?_) h.2.1, RTold_told h.2.2 ?_ ?_ ?_ ?_ ?_ rfl, fun a ha => ?_, ?_⟩
    · by_cases hqr : q = r
      · subst hqr
        refine RRow.mk_some (n := n) (by omega) ?_ ?_ (fun j hj => ?_)
        · simp (disch := omega) only [sm_wI_ne, sm_wI_nj, sm_wI_eq, sm_wA_ne, sm_wA_eq]
          exact hc
        · simp (disch := omega) only [sm_wI_ne, sm_wI_nj, sm_wI_eq, sm_wA_ne, sm_wA_eq]
          exact hm
        · by_cases hji : j = i
          · subst hji
            simp (disch := omega) only [sm_wI_ne, sm_wI_nj, sm_wI_eq, sm_wA_ne, sm_wA_eq]
          · simp (disch := omega) only [sm_wI_ne, sm_wI_nj, sm_wI_eq, sm_wA_ne, sm_wA_eq]
            exact he j hj
      · obtain ⟨o, a1, a2, a3⟩ := h.1 q hq
        refine ⟨o, ?_, ?_, fun m hm => ⟨(a3 m hm).1, fun j hj => ?_⟩⟩
        · simp (disch := omega) only [sm_wI_ne, sm_wI_nj, sm_wI_eq, sm_wA_ne, sm_wA_eq]
          exact a1
        · simp (disch := omega) only [sm_wI_ne, sm_wI_nj, sm_wI_eq, sm_wA_ne, sm_wA_eq]
          exact a2
        · have := (a3 m hm).1
          simp (disch := omega) only [sm_wI_ne, sm_wI_nj, sm_wI_eq, sm_wA_ne, sm_wA_eq]
          exact (a3 m hm).2 j hj
    all_goals simp (disch := omega) only [sm_wI_ne, sm_wI_nj, sm_wI_eq, sm_wA_ne, sm_wA_eq]
