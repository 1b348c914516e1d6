/-! pure: lay, at, tear, put, mean -/
theorem rw_isMissing_none {k most : Nat} {w : sm_Mem} (hR : isRow k most) (h : w.1 k 1 = -u32 9) : ff_rw_isMissing k w = some (.int (u32 1), w) := by
  unfold ff_rw_isMissing
  simp (disch := omega) only [u32_lit, sm_let_eq, sm_bind_some, sm_cI_some, sm_cV_some, sm_cL_some, sm_rd_u, sm_wr_u, u32_add, u32_mul, u32_sub, u32_le, u32_lt, u32_eq, u32_eq_neg, u32_neg_eq, u32_neg_neg, u32_le_neg, u32_neg_lt, u32_lt_neg, u32_neg_le, u10, u01, u3n0, u1n0, u4n0, n9_lt, n1_lt, n9_neg, n1_neg, if_true, if_false, if_pos, if_neg, ne_eq, not_true_eq_false, not_false_eq_true, hR.gI, h]
theorem rw_isMissing_some {k most n : Nat} {w : sm_Mem} (hR : isRow k most) (hn : n < 2147483648) (h : w.1 k 1 = u32 n) : ff_rw_isMissing k w = some (.int (u32 0), w) := by
  unfold ff_rw_isMissing
  simp (disch := omega) only [u32_lit, sm_let_eq, sm_bind_some, sm_cI_some, sm_cV_some, sm_cL_some, sm_rd_u, sm_wr_u, u32_add, u32_mul, u32_sub, u32_le, u32_lt, u32_eq, u32_eq_neg, u32_neg_eq, u32_neg_neg, u32_le_neg, u32_neg_lt, u32_lt_neg, u32_neg_le, u10, u01, u3n0, u1n0, u4n0, n9_lt, n1_lt, n9_neg, n1_neg, if_true, if_false, if_pos, if_neg, ne_eq, not_true_eq_false, not_false_eq_true, hR.gI, h, Nat.zero_le]
theorem miss_row_bad {r : Int32} {w : sm_Mem} (hr : aBad r 6) : ff_ho_refusalOfMissing 1 r w = some (.int (-u32 1), w) := by
  unfold ff_ho_refusalOfMissing
  simp (disch := omega) only [u32_lit, sm_let_eq, sm_bind_some, sm_cI_some, sm_cV_some, sm_cL_some, sm_rd_u, sm_wr_u, u32_add, u32_mul, u32_sub, u32_le, u32_lt, u32_eq, u32_eq_neg, u32_neg_eq, u32_neg_neg, u32_le_neg, u32_neg_lt, u32_lt_neg, u32_neg_le, u10, u01, u3n0, u1n0, u4n0, n9_lt, n1_lt, n9_neg, n1_neg, if_true, if_false, if_pos, if_neg, ne_eq, not_true_eq_false, not_false_eq_true, al_rows, ho_within_bad hr]
theorem miss_row_none {r : Nat} {w : sm_Mem} (hr : r < 6) (hc : w.1 (2 + 2 * r) 1 = -u32 9) : ff_ho_refusalOfMissing 1 (u32 r) w = some (.int (-u32 3), wcRef 1 w) := by
  have hR := isRow_row hr
  unfold ff_ho_refusalOfMissing
  simp (disch := omega) only [u32_lit, sm_let_eq, sm_bind_some, sm_cI_some, sm_cV_some, sm_cL_some, sm_rd_u, sm_wr_u, u32_add, u32_mul, u32_sub, u32_le, u32_lt, u32_eq, u32_eq_neg, u32_neg_eq, u32_neg_neg, u32_le_neg, u32_neg_lt, u32_lt_neg, u32_neg_le, u10, u01, u3n0, u1n0, u4n0, n9_lt, n1_lt, n9_neg, n1_neg, if_true, if_false, if_pos, if_neg, ne_eq, not_true_eq_false, not_false_eq_true, al_rows, ho_within_good hr, rr_row hr, hR.rc, rw_isMissing_none hR hc, td_refuse]
theorem miss_row_some {r n : Nat} {w : sm_Mem} (hr : r < 6) (hn : n < 2147483648) (hc : w.1 (2 + 2 * r) 1 = u32 n) : ff_ho_refusalOfMissing 1 (u32 r) w = some (.int (u32 0), w) := by
  have hR := isRow_row hr
  unfold ff_ho_refusalOfMissing
  simp (disch := omega) only [u32_lit, sm_let_eq, sm_bind_some, sm_cI_some, sm_cV_some, sm_cL_some, sm_rd_u, sm_wr_u, u32_add, u32_mul, u32_sub, u32_le, u32_lt, u32_eq, u32_eq_neg, u32_neg_eq, u32_neg_neg, u32_le_neg, u32_neg_lt, u32_lt_neg, u32_neg_le, u10, u01, u3n0, u1n0, u4n0, n9_lt, n1_lt, n9_neg, n1_neg, if_true, if_false, if_pos, if_neg, ne_eq, not_true_eq_false, not_false_eq_true, al_rows, ho_within_good hr, rr_row hr, hR.rc, rw_isMissing_some hR hn hc]
theorem place_row_bad {r i : Int32} {w : sm_Mem} (hr : aBad r 6) : ff_ho_refusalOfPlace 1 r i w = some (.int (-u32 1), w) := by
  unfold ff_ho_refusalOfPlace
  simp (disch := omega) only [u32_lit, sm_let_eq, sm_bind_some, sm_cI_some, sm_cV_some, sm_cL_some, sm_rd_u, sm_wr_u, u32_add, u32_mul, u32_sub, u32_le, u32_lt, u32_eq, u32_eq_neg, u32_neg_eq, u32_neg_neg, u32_le_neg, u32_neg_lt, u32_lt_neg, u32_neg_le, u10, u01, u3n0, u1n0, u4n0, n9_lt, n1_lt, n9_neg, n1_neg, if_true, if_false, if_pos, if_neg, ne_eq, not_true_eq_false, not_false_eq_true, miss_row_bad hr]
theorem place_row_none {r : Nat} {i : Int32} {w : sm_Mem} (hr : r < 6) (hc : w.1 (2 + 2 * r) 1 = -u32 9) : ff_ho_refusalOfPlace 1 (u32 r) i w = some (.int (-u32 3), wcRef 1 w) := by
  unfold ff_ho_refusalOfPlace
  simp (disch := omega) only [u32_lit, sm_let_eq, sm_bind_some, sm_cI_some, sm_cV_some, sm_cL_some, sm_rd_u, sm_wr_u, u32_add, u32_mul, u32_sub, u32_le, u32_lt, u32_eq, u32_eq_neg, u32_neg_eq, u32_neg_neg, u32_le_neg, u32_neg_lt, u32_lt_neg, u32_neg_le, u10, u01, u3n0, u1n0, u4n0, n9_lt, n1_lt, n9_neg, n1_neg, if_true, if_false, if_pos, if_neg, ne_eq, not_true_eq_false, not_false_eq_true, miss_row_none hr hc]
theorem place_row_beyond {r n : Nat} {i : Int32} {w : sm_Mem} (hr : r < 6) (hn : n < 2147483648) (hc : w.1 (2 + 2 * r) 1 = u32 n) (hi : aBad i n) : ff_ho_refusalOfPlace 1 (u32 r) i w = some (.int (-u32 3), wcRef 2 w) := by
  have hR := isRow_row hr
  unfold ff_ho_refusalOfPlace
  simp (disch := omega) only [u32_lit, sm_let_eq, sm_bind_some, sm_cI_some, sm_cV_some, sm_cL_some, sm_rd_u, sm_wr_u, u32_add, u32_mul, u32_sub, u32_le, u32_lt, u32_eq, u32_eq_neg, u32_neg_eq, u32_neg_neg, u32_le_neg, u32_neg_lt, u32_lt_neg, u32_neg_le, u10, u01, u3n0, u1n0, u4n0, n9_lt, n1_lt, n9_neg, n1_neg, if_true, if_false, if_pos, if_neg, ne_eq, not_true_eq_false, not_false_eq_true, miss_row_some hr hn hc, rr_row hr, hR.gI, hc, ho_within_bad hi, td_refuse]
theorem place_row_ok {r n i : Nat} {w : sm_Mem} (hr : r < 6) (hn : n < 2147483648) (hc : w.1 (2 + 2 * r) 1 = u32 n) (hi : i < n) : ff_ho_refusalOfPlace 1 (u32 r) (u32 i) w = some (.int (u32 0), w) := by
  have hR := isRow_row hr
  unfold ff_ho_refusalOfPlace
  simp (disch := omega) only [u32_lit, sm_let_eq, sm_bind_some, sm_cI_some, sm_cV_some, sm_cL_some, sm_rd_u, sm_wr_u, u32_add, u32_mul, u32_sub, u32_le, u32_lt, u32_eq, u32_eq_neg, u32_neg_eq, u32_neg_neg, u32_le_neg, u32_neg_lt, u32_lt_neg, u32_neg_le, u10, u01, u3n0, u1n0, u4n0, n9_lt, n1_lt, n9_neg, n1_neg, if_true, if_false, if_pos, if_neg, ne_eq, not_true_eq_false, not_false_eq_true, miss_row_some hr hn hc, rr_row hr, hR.gI, hc, ho_within_good hi]
theorem miss_text_bad {r : Int32} {w : sm_Mem} (hr : aBad r 4) : ff_ho_refusalOfMissing 14 r w = some (.int (-u32 1), w) := by
  unfold ff_ho_refusalOfMissing
  simp (disch := omega) only [u32_lit, sm_let_eq, sm_bind_some, sm_cI_some, sm_cV_some, sm_cL_some, sm_rd_u, sm_wr_u, u32_add, u32_mul, u32_sub, u32_le, u32_lt, u32_eq, u32_eq_neg, u32_neg_eq, u32_neg_neg, u32_le_neg, u32_neg_lt, u32_lt_neg, u32_neg_le, u10, u01, u3n0, u1n0, u4n0, n9_lt, n1_lt, n9_neg, n1_neg, if_true, if_false, if_pos, if_neg, ne_eq, not_true_eq_false, not_false_eq_true, al_texts, ho_within_bad hr]
theorem miss_text_none {r : Nat} {w : sm_Mem} (hr : r < 4) (hc : w.1 (15 + 2 * r) 1 = -u32 9) : ff_ho_refusalOfMissing 14 (u32 r) w = some (.int (-u32 3), wcRef 1 w) := by
  have hR := isRow_text hr
  unfold ff_ho_refusalOfMissing
  simp (disch := omega) only [u32_lit, sm_let_eq, sm_bind_some, sm_cI_some, sm_cV_some, sm_cL_some, sm_rd_u, sm_wr_u, u32_add, u32_mul, u32_sub, u32_le, u32_lt, u32_eq, u32_eq_neg, u32_neg_eq, u32_neg_neg, u32_le_neg, u32_neg_lt, u32_lt_neg, u32_neg_le, u10, u01, u3n0, u1n0, u4n0, n9_lt, n1_lt, n9_neg, n1_neg, if_true, if_false, if_pos, if_neg, ne_eq, not_true_eq_false, not_false_eq_true, al_texts, ho_within_good hr, rr_text hr, hR.rc, rw_isMissing_none hR hc, td_refuse]
theorem miss_text_some {r n : Nat} {w : sm_Mem} (hr : r < 4) (hn : n < 2147483648) (hc : w.1 (15 + 2 * r) 1 = u32 n) : ff_ho_refusalOfMissing 14 (u32 r) w = some (.int (u32 0), w) := by
  have hR := isRow_text hr
  unfold ff_ho_refusalOfMissing
  simp (disch := omega) only [u32_lit, sm_let_eq, sm_bind_some, sm_cI_some, sm_cV_some, sm_cL_some, sm_rd_u, sm_wr_u, u32_add, u32_mul, u32_sub, u32_le, u32_lt, u32_eq, u32_eq_neg, u32_neg_eq, u32_neg_neg, u32_le_neg, u32_neg_lt, u32_lt_neg, u32_neg_le, u10, u01, u3n0, u1n0, u4n0, n9_lt, n1_lt, n9_neg, n1_neg, if_true, if_false, if_pos, if_neg, ne_eq, not_true_eq_false, not_false_eq_true, al_texts, ho_within_good hr, rr_text hr, hR.rc, rw_isMissing_some hR hn hc]
theorem place_text_bad {r i : Int32} {w : sm_Mem} (hr : aBad r 4) : ff_ho_refusalOfPlace 14 r i w = some (.int (-u32 1), w) := by
  unfold ff_ho_refusalOfPlace
  simp (disch := omega) only [u32_lit, sm_let_eq, sm_bind_some, sm_cI_some, sm_cV_some, sm_cL_some, sm_rd_u, sm_wr_u, u32_add, u32_mul, u32_sub, u32_le, u32_lt, u32_eq, u32_eq_neg, u32_neg_eq, u32_neg_neg, u32_le_neg, u32_neg_lt, u32_lt_neg, u32_neg_le, u10, u01, u3n0, u1n0, u4n0, n9_lt, n1_lt, n9_neg, n1_neg, if_true, if_false, if_pos, if_neg, ne_eq, not_true_eq_false, not_false_eq_true, miss_text_bad hr]
theorem place_text_none {r : Nat} {i : Int32} {w : sm_Mem} (hr : r < 4) (hc : w.1 (15 + 2 * r) 1 = -u32 9) : ff_ho_refusalOfPlace 14 (u32 r) i w = some (.int (-u32 3), wcRef 1 w) := by
  unfold ff_ho_refusalOfPlace
  simp (disch := omega) only [u32_lit, sm_let_eq, sm_bind_some, sm_cI_some, sm_cV_some, sm_cL_some, sm_rd_u, sm_wr_u, u32_add, u32_mul, u32_sub, u32_le, u32_lt, u32_eq, u32_eq_neg, u32_neg_eq, u32_neg_neg, u32_le_neg, u32_neg_lt, u32_lt_neg, u32_neg_le, u10, u01, u3n0, u1n0, u4n0, n9_lt, n1_lt, n9_neg, n1_neg, if_true, if_false, if_pos, if_neg, ne_eq, not_true_eq_false, not_false_eq_true, miss_text_none hr hc]
theorem place_text_beyond {r n : Nat} {i : Int32} {w : sm_Mem} (hr : r < 4) (hn : n < 2147483648) (hc : w.1 (15 + 2 * r) 1 = u32 n) (hi : aBad i n) : ff_ho_refusalOfPlace 14 (u32 r) i w = some (.int (-u32 3), wcRef 2 w) := by
  have hR := isRow_text hr
  unfold ff_ho_refusalOfPlace
  simp (disch := omega) only [u32_lit, sm_let_eq, sm_bind_some, sm_cI_some, sm_cV_some, sm_cL_some, sm_rd_u, sm_wr_u, u32_add, u32_mul, u32_sub, u32_le, u32_lt, u32_eq, u32_eq_neg, u32_neg_eq, u32_neg_neg, u32_le_neg, u32_neg_lt, u32_lt_neg, u32_neg_le, u10, u01, u3n0, u1n0, u4n0, n9_lt, n1_lt, n9_neg, n1_neg, if_true, if_false, if_pos, if_neg, ne_eq, not_true_eq_false, not_false_eq_true, miss_text_some hr hn hc, rr_text hr, hR.gI, hc, ho_within_bad hi, td_refuse]
theorem place_text_ok {r n i : Nat} {w : sm_Mem} (hr : r < 4) (hn : n < 2147483648) (hc : w.1 (15 + 2 * r) 1 = u32 n) (hi : i < n) : ff_ho_refusalOfPlace 14 (u32 r) (u32 i) w = some (.int (u32 0), w) := by
  have hR := isRow_text hr
  unfold ff_ho_refusalOfPlace
  simp (disch := omega) only [u32_lit, sm_let_eq, sm_bind_some, sm_cI_some, sm_cV_some, sm_cL_some, sm_rd_u, sm_wr_u, u32_add, u32_mul, u32_sub, u32_le, u32_lt, u32_eq, u32_eq_neg, u32_neg_eq, u32_neg_neg, u32_le_neg, u32_neg_lt, u32_lt_neg, u32_neg_le, u10, u01, u3n0, u1n0, u4n0, n9_lt, n1_lt, n9_neg, n1_neg, if_true, if_false, if_pos, if_neg, ne_eq, not_true_eq_false, not_false_eq_true, miss_text_some hr hn hc, rr_text hr, hR.gI, hc, ho_within_good hi]
