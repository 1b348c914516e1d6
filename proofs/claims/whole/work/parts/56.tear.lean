/-! pure: tear, put, mean, copy -/
theorem op_tear {r : Int32} {w : sm_Mem} (h : RC w) : Both (ff_ho_tear r) (ff_mo_tear r) (RCells w) w := by
  rcases aCases r 6 with hr | ⟨r, hr, -, rfl⟩
  · refine Both_same (-u32 1) ?_ ?_ h
    · unfold ff_ho_tear
      simp (disch := omega) only [u32_lit, sm_let_eq, sm_bind_some, sm_cI_some, sm_cV_some, sm_cL_some, sm_rd_u, sm_wr_u, u32_add, u32_mul, u32_sub, u32_le, u32_lt, u32_eq, u32_eq_neg, u32_neg_eq, u32_neg_neg, u32_le_neg, u32_neg_lt, u32_lt_neg, u32_neg_le, u10, u01, u3n0, u1n0, u4n0, n9_lt, n1_lt, n9_neg, n1_neg, if_true, if_false, if_pos, if_neg, ne_eq, not_true_eq_false, not_false_eq_true, miss_row_bad hr]
    · unfold ff_mo_tear
      simp (disch := omega) only [u32_lit, sm_let_eq, sm_bind_some, sm_cI_some, sm_cV_some, sm_cL_some, sm_rd_u, sm_wr_u, u32_add, u32_mul, u32_sub, u32_le, u32_lt, u32_eq, u32_eq_neg, u32_neg_eq, u32_neg_neg, u32_le_neg, u32_neg_lt, u32_lt_neg, u32_neg_le, u10, u01, u3n0, u1n0, u4n0, n9_lt, n1_lt, n9_neg, n1_neg, if_true, if_false, if_pos, if_neg, ne_eq, not_true_eq_false, not_false_eq_true, mo_isRow_bad hr]
  have hR := isRow_row hr
  rcases (h.1 r hr).cases with ⟨hc, hm⟩ | ⟨n, hn, hc, hm, he⟩
  · refine Both_ref 1 ?_ ?_ h
    · unfold ff_ho_tear
      simp (disch := omega) only [u32_lit, sm_let_eq, sm_bind_some, sm_cI_some, sm_cV_some, sm_cL_some, sm_rd_u, sm_wr_u, u32_add, u32_mul, u32_sub, u32_le, u32_lt, u32_eq, u32_eq_neg, u32_neg_eq, u32_neg_neg, u32_le_neg, u32_neg_lt, u32_lt_neg, u32_neg_le, u10, u01, u3n0, u1n0, u4n0, n9_lt, n1_lt, n9_neg, n1_neg, if_true, if_false, if_pos, if_neg, ne_eq, not_true_eq_false, not_false_eq_true, miss_row_none hr hc]
    · unfold ff_mo_tear
      simp (disch := omega) only [u32_lit, sm_let_eq, sm_bind_some, sm_cI_some, sm_cV_some, sm_cL_some, sm_rd_u, sm_wr_u, u32_add, u32_mul, u32_sub, u32_le, u32_lt, u32_eq, u32_eq_neg, u32_neg_eq, u32_neg_neg, u32_le_neg, u32_neg_lt, u32_lt_neg, u32_neg_le, u10, u01, u3n0, u1n0, u4n0, n9_lt, n1_lt, n9_neg, n1_neg, if_true, if_false, if_pos, if_neg, ne_eq, not_true_eq_false, not_false_eq_true, mo_isRow_good hr, wcRef_ne, hm, mo_find]
  · have h1 : ff_ho_tear (u32 r) w = some (.int (u32 1), sm_wI w (2 + 2 * r) 1 (-u32 9)) := by
      unfold ff_ho_tear
      simp (disch := omega) only [u32_lit, sm_let_eq, sm_bind_some, sm_cI_some, sm_cV_some, sm_cL_some, sm_rd_u, sm_wr_u, u32_add, u32_mul, u32_sub, u32_le, u32_lt, u32_eq, u32_eq_neg, u32_neg_eq, u32_neg_neg, u32_le_neg, u32_neg_lt, u32_lt_neg, u32_neg_le, u10, u01, u3n0, u1n0, u4n0, n9_lt, n1_lt, n9_neg, n1_neg, if_true, if_false, if_pos, if_neg, ne_eq, not_true_eq_false, not_false_eq_true, miss_row_some hr (show n < 2147483648 by omega) hc, rr_row hr, hR.pI]
    have h2 : ff_mo_tear (u32 r) (sm_wI w (2 + 2 * r) 1 (-u32 9)) = some (.int (u32 1), sm_wI (sm_wI w (2 + 2 * r) 1 (-u32 9)) 67 r (-u32 1)) := by
      unfold ff_mo_tear
      simp (disch := omega) only [u32_lit, sm_let_eq, sm_bind_some, sm_cI_some, sm_cV_some, sm_cL_some, sm_rd_u, sm_wr_u, u32_add, u32_mul, u32_sub, u32_le, u32_lt, u32_eq, u32_eq_neg, u32_neg_eq, u32_neg_neg, u32_le_neg, u32_neg_lt, u32_lt_neg, u32_neg_le, u10, u01, u3n0, u1n0, u4n0, n9_lt, n1_lt, n9_neg, n1_neg, if_true, if_false, if_pos, if_neg, ne_eq, not_true_eq_false, not_false_eq_true, mo_isRow_good hr, sm_wI_ne, sm_wI_nj, sm_wI_eq, sm_wA_ne, sm_wA_eq, hm, Nat.zero_le]
    refine Both_mk _ _ _ h1 h2 ⟨fun q hq => ?_, RTexts_fr (fun a ha => ?_) h.2.1, RTold_fr (w := w) (by simp (disch := omega) only [sm_wI_ne, sm_wI_nj, sm_wI_eq, sm_wA_ne, sm_wA_eq, and_self]) rfl h.2.2, fun a ha => ?_, ?_⟩
    · by_cases hqr : q = r
      · subst hqr
        refine RRow.mk_none ?_ ?_
        · simp (disch := omega) only [sm_wI_ne, sm_wI_nj, sm_wI_eq, sm_wA_ne, sm_wA_eq]
        · simp (disch := omega) only [sm_wI_ne, sm_wI_nj, sm_wI_eq, sm_wA_ne, sm_wA_eq]
      · obtain ⟨o, a1, a2, a3⟩ := h.1 q hq
        refine ⟨o, ?_, ?_, fun m hm => ⟨(a3 m hm).1, fun j hj => ?_⟩⟩
        · simp (disch := omega) only [sm_wI_ne, sm_wI_nj, sm_wI_eq, sm_wA_ne, sm_wA_eq]
          exact a1
        · simp (disch := omega) only [sm_wI_ne, sm_wI_nj, sm_wI_eq, sm_wA_ne, sm_wA_eq]
          exact a2
        · simp (disch := omega) only [sm_wI_ne, sm_wI_nj, sm_wI_eq, sm_wA_ne, sm_wA_eq]
          exact (a3 m hm).2 j hj
    all_goals simp (disch := omega) only [sm_wI_ne, sm_wI_nj, sm_wI_eq, sm_wA_ne, sm_wA_eq]
theorem op_put {r i v : Int32} {w : sm_Mem} (h : RC w) : Both (ff_ho_put r i v) (ff_mo_put r i v) (RCells w) w := by
  rcases aCases r 4 with hr | ⟨r, hr, -, rfl⟩
  · refine Both_same (-u32 1) ?_ ?_ h
    · unfold ff_ho_put
      simp (disch := omega) only [u32_lit, sm_let_eq, sm_bind_some, sm_cI_some, sm_cV_some, sm_cL_some, sm_rd_u, sm_wr_u, u32_add, u32_mul, u32_sub, u32_le, u32_lt, u32_eq, u32_eq_neg, u32_neg_eq, u32_neg_neg, u32_le_neg, u32_neg_lt, u32_lt_neg, u32_neg_le, u10, u01, u3n0, u1n0, u4n0, n9_lt, n1_lt, n9_neg, n1_neg, if_true, if_false, if_pos, if_neg, ne_eq, not_true_eq_false, not_false_eq_true, place_text_bad hr]
    · unfold ff_mo_put
      simp (disch := omega) only [u32_lit, sm_let_eq, sm_bind_some, sm_cI_some, sm_cV_some, sm_cL_some, sm_rd_u, sm_wr_u, u32_add, u32_mul, u32_sub, u32_le, u32_lt, u32_eq, u32_eq_neg, u32_neg_eq, u32_neg_neg, u32_le_neg, u32_neg_lt, u32_lt_neg, u32_neg_le, u10, u01, u3n0, u1n0, u4n0, n9_lt, n1_lt, n9_neg, n1_neg, if_true, if_false, if_pos, if_neg, ne_eq, not_true_eq_false, not_false_eq_true, mo_isText_bad hr]
  have hR := isRow_text hr
  rcases (h.2.1 r hr).cases with ⟨hc, hm⟩ | ⟨n, hn, hc, hm, he⟩
  · refine Both_ref 1 ?_ ?_ h
    · unfold ff_ho_put
      simp (disch := omega) only [u32_lit, sm_let_eq, sm_bind_some, sm_cI_some, sm_cV_some, sm_cL_some, sm_rd_u, sm_wr_u, u32_add, u32_mul, u32_sub, u32_le, u32_lt, u32_eq, u32_eq_neg, u32_neg_eq, u32_neg_neg, u32_le_neg, u32_neg_lt, u32_lt_neg, u32_neg_le, u10, u01, u3n0, u1n0, u4n0, n9_lt, n1_lt, n9_neg, n1_neg, if_true, if_false, if_pos, if_neg, ne_eq, not_true_eq_false, not_false_eq_true, place_text_none hr hc]
    · unfold ff_mo_put
      simp (disch := omega) only [u32_lit, sm_let_eq, sm_bind_some, sm_cI_some, sm_cV_some, sm_cL_some, sm_rd_u, sm_wr_u, u32_add, u32_mul, u32_sub, u32_le, u32_lt, u32_eq, u32_eq_neg, u32_neg_eq, u32_neg_neg, u32_le_neg, u32_neg_lt, u32_lt_neg, u32_neg_le, u10, u01, u3n0, u1n0, u4n0, n9_lt, n1_lt, n9_neg, n1_neg, if_true, if_false, if_pos, if_neg, ne_eq, not_true_eq_false, not_false_eq_true, mo_isText_good hr, wcRef_ne, hm, mo_find]
  rcases aCases i n with hi | ⟨i, hi, -, rfl⟩
  · refine Both_ref 2 ?_ ?_ h
    · unfold ff_ho_put
      simp (disch := omega) only [u32_lit, sm_let_eq, sm_bind_some, sm_cI_some, sm_cV_some, sm_cL_some, sm_rd_u, sm_wr_u, u32_add, u32_mul, u32_sub, u32_le, u32_lt, u32_eq, u32_eq_neg, u32_neg_eq, u32_neg_neg, u32_le_neg, u32_neg_lt, u32_lt_neg, u32_neg_le, u10, u01, u3n0, u1n0, u4n0, n9_lt, n1_lt, n9_neg, n1_neg, if_true, if_false, if_pos, if_neg, ne_eq, not_true_eq_false, not_false_eq_true, place_text_beyond hr (show n < 2147483648 by omega) hc hi]
    · unfold ff_mo_put
      have hq : ∀ w, ff_mo_in i.toInt64 0 (u32 n - u32 1).toInt64 w = some (.int (u32 0), w) := fun w => mo_in_bad hi (u32_pred (by omega))
      simp (disch := omega) only [u32_lit, sm_let_eq, sm_bind_some, sm_cI_some, sm_cV_some, sm_cL_some, sm_rd_u, sm_wr_u, u32_add, u32_mul, u32_sub, u32_le, u32_lt, u32_eq, u32_eq_neg, u32_neg_eq, u32_neg_neg, u32_le_neg, u32_neg_lt, u32_lt_neg, u32_neg_le, u10, u01, u3n0, u1n0, u4n0, n9_lt, n1_lt, n9_neg, n1_neg, if_true, if_false, if_pos, if_neg, ne_eq, not_true_eq_false, not_false_eq_true, mo_isText_good hr, wcRef_ne, hm, Nat.zero_le]
      rw [hq]
      simp (disch := omega) only [u32_lit, sm_let_eq, sm_bind_some, sm_cI_some, sm_cV_some, sm_cL_some, sm_rd_u, sm_wr_u, u32_add, u32_mul, u32_sub, u32_le, u32_lt, u32_eq, u32_eq_neg, u32_neg_eq, u32_neg_neg, u32_le_neg, u32_neg_lt, u32_lt_neg, u32_neg_le, u10, u01, u3n0, u1n0, u4n0, n9_lt, n1_lt, n9_neg, n1_neg, if_true, if_false, if_pos, if_neg, ne_eq, not_true_eq_false, not_false_eq_true, mo_find]
  · have h1 : ff_ho_put (u32 r) (u32 i) v w = some (.int (w.1 (15 + 2 * r + 1) i + u32 1000), sm_wI w (15 + 2 * r + 1) i v.toInt8.toInt32) := by
      unfold ff_ho_put
      simp (disch := omega) only [u32_lit, sm_let_eq, sm_bind_some, sm_cI_some, sm_cV_some, sm_cL_some, sm_rd_u, sm_wr_u, u32_add, u32_mul, u32_sub, u32_le, u32_lt, u32_eq, u32_eq_neg, u32_neg_eq, u32_neg_neg, u32_le_neg, u32_neg_lt, u32_lt_neg, u32_neg_le, u10, u01, u3n0, u1n0, u4n0, n9_lt, n1_lt, n9_neg, n1_neg, if_true, if_false, if_pos, if_neg, ne_eq, not_true_eq_false, not_false_eq_true, place_text_ok hr (show n < 2147483648 by omega) hc hi, rr_text hr, hR.fk, hR.rds (show i < 60 by omega), hR.wrs (show i < 60 by omega)]
    have h2 : ff_mo_put (u32 r) (u32 i) v (sm_wI w (15 + 2 * r + 1) i v.toInt8.toInt32) = some (.int (w.1 (15 + 2 * r + 1) i + u32 1000), sm_wI (sm_wI w (15 + 2 * r + 1) i v.toInt8.toInt32) 70 (60 * r + i) v.toInt8.toInt32) := by
      unfold ff_mo_put
      have hq : ∀ w, ff_mo_in (u32 i).toInt64 0 (u32 n - u32 1).toInt64 w = some (.int (u32 1), w) := fun w => mo_in_good hi (by omega) (u32_pred (by omega))
      simp (disch := omega) only [u32_lit, sm_bind_some, sm_cI_some, sm_rd_u, mo_isText_good hr, u10, if_false, hm, u32_le, Nat.zero_le, if_true, sm_wI_ne, sm_wI_nj, sm_wI_eq, sm_wA_ne, sm_wA_eq]
      rw [hq]
      simp (disch := omega) only [u32_lit, sm_let_eq, sm_bind_some, sm_cI_some, sm_cV_some, sm_cL_some, sm_rd_u, sm_wr_u, u32_add, u32_mul, u32_sub, u32_le, u32_lt, u32_eq, u32_eq_neg, u32_neg_eq, u32_neg_neg, u32_le_neg, u32_neg_lt, u32_lt_neg, u32_neg_le, u10, u01, u3n0, u1n0, u4n0, n9_lt, n1_lt, n9_neg, n1_neg, if_true, if_false, if_pos, if_neg, ne_eq, not_true_eq_false, not_false_eq_true, sm_wI_ne, sm_wI_nj, sm_wI_eq, sm_wA_ne, sm_wA_eq, he i hi]
    refine Both_mk _ _ _ h1 h2 ⟨RRows_fr (fun a ha => ?_) h.1, fun q hq => ?_, RTold_fr (w := w) (by simp (disch := omega) only [sm_wI_ne, sm_wI_nj, sm_wI_eq, sm_wA_ne, sm_wA_eq, and_self]) rfl h.2.2, fun a ha => ?_, ?_⟩
    · simp (disch := omega) only [sm_wI_ne, sm_wI_nj, sm_wI_eq, sm_wA_ne, sm_wA_eq]
    · by_cases hqr : q = r
      · subst hqr
        refine RText.mk_some (n := n) (by omega) ?_ ?_ (fun j hj => ?_)
        · simp (disch := omega) only [sm_wI_ne, sm_wI_nj, sm_wI_eq, sm_wA_ne, sm_wA_eq]
          exact hc
        · simp (disch := omega) only [sm_wI_ne, sm_wI_nj, sm_wI_eq, sm_wA_ne, sm_wA_eq]
          exact hm
        · by_cases hji : j = i
          · subst hji
            simp (disch := omega) only [sm_wI_ne, sm_wI_nj, sm_wI_eq, sm_wA_ne, sm_wA_eq]
          · simp (disch := omega) only [sm_wI_ne, sm_wI_nj, sm_wI_eq, sm_wA_ne, sm_wA_eq]
            exact he j hj
      · obtain ⟨o, a1, a2, a3⟩ := h.2.1 q hq
        refine ⟨o, ?_, ?_, fun m hm => ⟨(a3 m hm).1, fun j hj => ?_⟩⟩
        · simp (disch := omega) only [sm_wI_ne, sm_wI_nj, sm_wI_eq, sm_wA_ne, sm_wA_eq]
          exact a1
        · simp (disch := omega) only [sm_wI_ne, sm_wI_nj, sm_wI_eq, sm_wA_ne, sm_wA_eq]
          exact a2
        · have := (a3 m hm).1
          simp (disch := omega) only [sm_wI_ne, sm_wI_nj, sm_wI_eq, sm_wA_ne, sm_wA_eq]
          exact (a3 m hm).2 j hj
    all_goals simp (disch := omega) only [sm_wI_ne, sm_wI_nj, sm_wI_eq, sm_wA_ne, sm_wA_eq]
/-! mean -/
def sumTo (f : Nat → Int32) : Nat → Nat → Int64 → Int64
  | _, 0, a => a
  | i, m + 1, a => sumTo f (i + 1) m (a + (f i).toInt64)
theorem sumTo_congr {f g : Nat → Int32} : ∀ (m i : Nat) (a : Int64), (∀ j, i ≤ j → j < i + m → f j = g j) → sumTo f i m a = sumTo g i m a
  | 0, _, _, _ => rfl
  | m + 1, i, a, h => by
    rw [sumTo, sumTo, h i (Nat.le_refl _) (by omega)]
    exact sumTo_congr m (i + 1) _ (fun j h1 h2 => h j (by omega) (by omega))
theorem rw_sum_loop {k most n : Nat} {w : sm_Mem} (hR : isRow k most) (hn : n ≤ most) (hw : w.1 k 1 = u32 n) : ∀ (m i F : Nat) (a : Int64), i + m = n → m < F → ff_rw_sum_4_f F k a (u32 i) w = some (.long (sumTo (w.1 (k + 1)) i m a), w) := by
  have h60 := hR.2.2.2.2
  intro m
  induction m with
  | zero =>
    intro i F a him hF
    obtain ⟨F, rfl⟩ : ∃ G, F = G + 1 := ⟨F - 1, by omega⟩
    rw [ff_rw_sum_4_f]
    unfold ff_rw_sum_4_b
    simp (disch := omega) only [u32_lit, sm_let_eq, sm_bind_some, sm_cI_some, sm_cV_some, sm_cL_some, sm_rd_u, sm_wr_u, u32_add, u32_mul, u32_sub, u32_le, u32_lt, u32_eq, u32_eq_neg, u32_neg_eq, u32_neg_neg, u32_le_neg, u32_neg_lt, u32_lt_neg, u32_neg_le, u10, u01, u3n0, u1n0, u4n0, n9_lt, n1_lt, n9_neg, n1_neg, if_true, if_false, if_pos, if_neg, ne_eq, not_true_eq_false, not_false_eq_true, hR.gI, hw, sumTo]
  | succ m ih =>
    intro i F a him hF
    obtain ⟨F, rfl⟩ : ∃ G, F = G + 1 := ⟨F - 1, by omega⟩
    rw [ff_rw_sum_4_f]
    unfold ff_rw_sum_4_b
    have hi : i < most := by omega
    simp (disch := omega) only [u32_lit, sm_let_eq, sm_bind_some, sm_cI_some, sm_cV_some, sm_cL_some, sm_rd_u, sm_wr_u, u32_add, u32_mul, u32_sub, u32_le, u32_lt, u32_eq, u32_eq_neg, u32_neg_eq, u32_neg_neg, u32_le_neg, u32_neg_lt, u32_lt_neg, u32_neg_le, u10, u01, u3n0, u1n0, u4n0, n9_lt, n1_lt, n9_neg, n1_neg, if_true, if_false, if_pos, if_neg, ne_eq, not_true_eq_false, not_false_eq_true, hR.gI, hw, hR.fk, hR.rds hi]
    rw [ih (i + 1) F _ (by omega) (by omega), sumTo]
theorem mo_mean_loop {r n : Nat} {w : sm_Mem} (hr : r < 6) (hn : n ≤ 40) (hn0 : 0 < n) (hw : w.1 67 r = u32 n) : ∀ (m i F : Nat) (a : Int64), i + m = n → m < F → ff_mo_mean_44_f F (u32 r) a (u32 i) w = some (.int (u32 1), sm_wI w 62 9 (sumTo (fun j => w.1 68 (40 * r + j)) i m a / (u32 n).toInt64).toInt32) := by
  have hz : ¬ (u32 n).toInt64 = (0 : Int64) := by
    rw [u32_long (by omega)]
    intro h
    have := congrArg Int64.toInt h
    rw [Int64.toInt_ofNat_of_lt (by omega)] at this
    have e : (0 : Int64).toInt = 0 := rfl
    omega
  intro m
  induction m with
  | zero =>
    intro i F a him hF
    obtain ⟨F, rfl⟩ : ∃ G, F = G + 1 := ⟨F - 1, by omega⟩
    rw [ff_mo_mean_44_f]
    unfold ff_mo_mean_44_b
    simp (disch := omega) only [u32_lit, sm_let_eq, sm_bind_some, sm_cI_some, sm_cV_some, sm_cL_some, sm_rd_u, sm_wr_u, u32_add, u32_mul, u32_sub, u32_le, u32_lt, u32_eq, u32_eq_neg, u32_neg_eq, u32_neg_neg, u32_le_neg, u32_neg_lt, u32_lt_neg, u32_neg_le, u10, u01, u3n0, u1n0, u4n0, n9_lt, n1_lt, n9_neg, n1_neg, if_true, if_false, if_pos, if_neg, ne_eq, not_true_eq_false, not_false_eq_true, hw, sumTo, mo_tell, hz]
  | succ m ih =>
    intro i F a him hF
    obtain ⟨F, rfl⟩ : ∃ G, F = G + 1 := ⟨F - 1, by omega⟩
    rw [ff_mo_mean_44_f]
    unfold ff_mo_mean_44_b
    simp (disch := omega) only [u32_lit, sm_let_eq, sm_bind_some, sm_cI_some, sm_cV_some, sm_cL_some, sm_rd_u, sm_wr_u, u32_add, u32_mul, u32_sub, u32_le, u32_lt, u32_eq, u32_eq_neg, u32_neg_eq, u32_neg_neg, u32_le_neg, u32_neg_lt, u32_lt_neg, u32_neg_le, u10, u01, u3n0, u1n0, u4n0, n9_lt, n1_lt, n9_neg, n1_neg, if_true, if_false, if_pos, if_neg, ne_eq, not_true_eq_false, not_false_eq_true, hw]
    rw [ih (i + 1) F _ (by omega) (by omega), sumTo]
theorem op_mean {r : Int32} {w : sm_Mem} (h : RC w) : Both (ff_ho_mean r) (ff_mo_mean r) (RCells w) w := by
  rcases aCases r 6 with hr | ⟨r, hr, -, rfl⟩
  · refine Both_same (-u32 1) ?_ ?_ h
    · unfold ff_ho_mean
      simp (disch := omega) only [u32_lit, sm_let_eq, sm_bind_some, sm_cI_some, sm_cV_some, sm_cL_some, sm_rd_u, sm_wr_u, u32_add, u32_mul, u32_sub, u32_le, u32_lt, u32_eq, u32_eq_neg, u32_neg_eq, u32_neg_neg, u32_le_neg, u32_neg_lt, u32_lt_neg, u32_neg_le, u10, u01, u3n0, u1n0, u4n0, n9_lt, n1_lt, n9_neg, n1_neg, if_true, if_false, if_pos, if_neg, ne_eq, not_true_eq_false, not_false_eq_true, miss_row_bad hr]
    · unfold ff_mo_mean
      simp (disch := omega) only [u32_lit, sm_let_eq, sm_bind_some, sm_cI_some, sm_cV_some, sm_cL_some, sm_rd_u, sm_wr_u, u32_add, u32_mul, u32_sub, u32_le, u32_lt, u32_eq, u32_eq_neg, u32_neg_eq, u32_neg_neg, u32_le_neg, u32_neg_lt, u32_lt_neg, u32_neg_le, u10, u01, u3n0, u1n0, u4n0, n9_lt, n1_lt, n9_neg, n1_neg, if_true, if_false, if_pos, if_neg, ne_eq, not_true_eq_false, not_false_eq_true, mo_isRow_bad hr]
  have hR := isRow_row hr
  rcases (h.1 r hr).cases with ⟨hc, hm⟩ | ⟨n, hn, hc, hm, he⟩
  · refine Both_ref 1 ?_ ?_ h
    · unfold ff_ho_mean
      simp (disch := omega) only [u32_lit, sm_let_eq, sm_bind_some, sm_cI_some, sm_cV_some, sm_cL_some, sm_rd_u, sm_wr_u, u32_add, u32_mul, u32_sub, u32_le, u32_lt, u32_eq, u32_eq_neg, u32_neg_eq, u32_neg_neg, u32_le_neg, u32_neg_lt, u32_lt_neg, u32_neg_le, u10, u01, u3n0, u1n0, u4n0, n9_lt, n1_lt, n9_neg, n1_neg, if_true, if_false, if_pos, if_neg, ne_eq, not_true_eq_false, not_false_eq_true, miss_row_none hr hc]
    · unfold ff_mo_mean
      simp (disch := omega) only [u32_lit, sm_let_eq, sm_bind_some, sm_cI_some, sm_cV_some, sm_cL_some, sm_rd_u, sm_wr_u, u32_add, u32_mul, u32_sub, u32_le, u32_lt, u32_eq, u32_eq_neg, u32_neg_eq, u32_neg_neg, u32_le_neg, u32_neg_lt, u32_lt_neg, u32_neg_le, u10, u01, u3n0, u1n0, u4n0, n9_lt, n1_lt, n9_neg, n1_neg, if_true, if_false, if_pos, if_neg, ne_eq, not_true_eq_false, not_false_eq_true, mo_isRow_good hr, wcRef_ne, hm, mo_find]
  by_cases hn0 : 0 < n
  · have hz : ¬ (u32 n).toInt64 = (0 : Int64) := by
      rw [u32_long (by omega)]
      intro h
      have := congrArg Int64.toInt h
      rw [Int64.toInt_ofNat_of_lt (by omega)] at this
      have e : (0 : Int64).toInt = 0 := rfl
      omega
    have h1 : ff_ho_mean (u32 r) w = some (.int (u32 1), sm_wI w 60 0 (sumTo (w.1 (2 + 2 * r + 1)) 0 n 0 / (u32 n).toInt64).toInt32) := by
      unfold ff_ho_mean ff_rw_sum ff_rw_sum_4
      simp (disch := omega) only [u32_lit, sm_let_eq, sm_bind_some, sm_cI_some, sm_cV_some, sm_cL_some, sm_rd_u, sm_wr_u, u32_add, u32_mul, u32_sub, u32_le, u32_lt, u32_eq, u32_eq_neg, u32_neg_eq, u32_neg_neg, u32_le_neg, u32_neg_lt, u32_lt_neg, u32_neg_le, u10, u01, u3n0, u1n0, u4n0, n9_lt, n1_lt, n9_neg, n1_neg, if_true, if_false, if_pos, if_neg, ne_eq, not_true_eq_false, not_false_eq_true, miss_row_some hr (show n < 2147483648 by omega) hc, rr_row hr, hR.gI, hc, hR.rc, sm_N_eq, rw_sum_loop hR hn hc n 0, hz]
    have h2 : ff_mo_mean (u32 r) (sm_wI w 60 0 (sumTo (w.1 (2 + 2 * r + 1)) 0 n 0 / (u32 n).toInt64).toInt32) = some (.int (u32 1), sm_wI (sm_wI w 60 0 (sumTo (w.1 (2 + 2 * r + 1)) 0 n 0 / (u32 n).toInt64).toInt32) 62 9 (sumTo (w.1 (2 + 2 * r + 1)) 0 n 0 / (u32 n).toInt64).toInt32) := by
      unfold ff_mo_mean ff_mo_mean_44
      simp (disch := omega) only [u32_lit, sm_let_eq, sm_bind_some, sm_cI_some, sm_cV_some, sm_cL_some, sm_rd_u, sm_wr_u, u32_add, u32_mul, u32_sub, u32_le, u32_lt, u32_eq, u32_eq_neg, u32_neg_eq, u32_neg_neg, u32_le_neg, u32_neg_lt, u32_lt_neg, u32_neg_le, u10, u01, u3n0, u1n0, u4n0, n9_lt, n1_lt, n9_neg, n1_neg, if_true, if_false, if_pos, if_neg, ne_eq, not_true_eq_false, not_false_eq_true, mo_isRow_good hr, sm_wI_ne, sm_wI_nj, sm_wI_eq, sm_wA_ne, sm_wA_eq, hm, Nat.zero_le]
      rw [sm_N_eq, mo_mean_loop hr hn hn0 (by simp (disch := omega) only [sm_wI_ne, sm_wI_nj, sm_wI_eq, sm_wA_ne, sm_wA_eq]; exact hm) n 0 _ _ (by omega) (by omega)]
      rw [sumTo_congr (f := w.1 (2 + 2 * r + 1)) (g := fun j => w.1 68 (40 * r + j)) n 0 0 (fun j _ hj => he j (by omega))]
      simp (disch := omega) only [sm_wI_ne, sm_wI_nj, sm_wI_eq, sm_wA_ne, sm_wA_eq]
    refine Both_mk _ _ _ h1 h2 ⟨RRows_fr (fun a ha => ?_) h.1, RTexts_fr (fun a ha => ?_) h.2.1, RTold_tell h.2.2, fun a ha => ?_, ?_⟩ <;> simp (disch := omega) only [sm_wI_ne, sm_wI_nj, sm_wI_eq, sm_wA_ne, sm_wA_eq]
  · have e : n = 0 := by omega
    subst e
    refine Both_ref 4 ?_ ?_ h
    · unfold ff_ho_mean
      simp (disch := omega) only [u32_lit, sm_let_eq, sm_bind_some, sm_cI_some, sm_cV_some, sm_cL_some, sm_rd_u, sm_wr_u, u32_add, u32_mul, u32_sub, u32_le, u32_lt, u32_eq, u32_eq_neg, u32_neg_eq, u32_neg_neg, u32_le_neg, u32_neg_lt, u32_lt_neg, u32_neg_le, u10, u01, u3n0, u1n0, u4n0, n9_lt, n1_lt, n9_neg, n1_neg, if_true, if_false, if_pos, if_neg, ne_eq, not_true_eq_false, not_false_eq_true, miss_row_some hr (show 0 < 2147483648 by omega) hc, rr_row hr, hR.gI, hc, td_refuse]
    · unfold ff_mo_mean
      simp (disch := omega) only [u32_lit, sm_let_eq, sm_bind_some, sm_cI_some, sm_cV_some, sm_cL_some, sm_rd_u, sm_wr_u, u32_add, u32_mul, u32_sub, u32_le, u32_lt, u32_eq, u32_eq_neg, u32_neg_eq, u32_neg_neg, u32_le_neg, u32_neg_lt, u32_lt_neg, u32_neg_le, u10, u01, u3n0, u1n0, u4n0, n9_lt, n1_lt, n9_neg, n1_neg, if_true, if_false, if_pos, if_neg, ne_eq, not_true_eq_false, not_false_eq_true, mo_isRow_good hr, wcRef_ne, hm, mo_find]
/-! copy -/
theorem rw_hasPart_neg {k : Nat} {i n : Int32} {w : sm_Mem} (hi : i < u32 0) : ff_rw_hasPart k i n w = some (.int (u32 0), w) := by
  unfold ff_rw_hasPart
  simp (disch := omega) only [u32_lit, sm_let_eq, sm_bind_some, sm_cI_some, sm_cV_some, sm_cL_some, sm_rd_u, sm_wr_u, u32_add, u32_mul, u32_sub, u32_le, u32_lt, u32_eq, u32_eq_neg, u32_neg_eq, u32_neg_neg, u32_le_neg, u32_neg_lt, u32_lt_neg, u32_neg_le, u10, u01, u3n0, u1n0, u4n0, n9_lt, n1_lt, n9_neg, n1_neg, if_true, if_false, if_pos, if_neg, ne_eq, not_true_eq_false, not_false_eq_true, hi]
theorem rw_hasPart_u {k most s i n : Nat} {w : sm_Mem} (hR : isRow k most) (hs : s ≤ most) (hw : w.1 k 1 = u32 s) (hi : i < 2147483648) (hn : n < 2147483648) : ff_rw_hasPart k (u32 i) (u32 n) w = some (.int (if i + n ≤ s then u32 1 else u32 0), w) := by
  have h60 := hR.2.2.2.2
  unfold ff_rw_hasPart
  simp (disch := omega) only [u32_lit, sm_let_eq, sm_bind_some, sm_cI_some, sm_cV_some, sm_cL_some, sm_rd_u, sm_wr_u, u32_add, u32_mul, u32_sub, u32_le, u32_lt, u32_eq, u32_eq_neg, u32_neg_eq, u32_neg_neg, u32_le_neg, u32_neg_lt, u32_lt_neg, u32_neg_le, u10, u01, u3n0, u1n0, u4n0, n9_lt, n1_lt, n9_neg, n1_neg, if_true, if_false, if_pos, if_neg, ne_eq, not_true_eq_false, not_false_eq_true, hR.gI, hw, u0_lt]
  by_cases h1 : s < i
  · simp (disch := omega) only [u32_lit, sm_let_eq, sm_bind_some, sm_cI_some, sm_cV_some, sm_cL_some, sm_rd_u, sm_wr_u, u32_add, u32_mul, u32_sub, u32_le, u32_lt, u32_eq, u32_eq_neg, u32_neg_eq, u32_neg_neg, u32_le_neg, u32_neg_lt, u32_lt_neg, u32_neg_le, u10, u01, u3n0, u1n0, u4n0, n9_lt, n1_lt, n9_neg, n1_neg, if_true, if_false, if_pos, if_neg, ne_eq, not_true_eq_false, not_false_eq_true]
  · by_cases h2 : i + n ≤ s
    · simp (disch := omega) only [u32_lit, sm_let_eq, sm_bind_some, sm_cI_some, sm_cV_some, sm_cL_some, sm_rd_u, sm_wr_u, u32_add, u32_mul, u32_sub, u32_le, u32_lt, u32_eq, u32_eq_neg, u32_neg_eq, u32_neg_neg, u32_le_neg, u32_neg_lt, u32_lt_neg, u32_neg_le, u10, u01, u3n0, u1n0, u4n0, n9_lt, n1_lt, n9_neg, n1_neg, if_true, if_false, if_pos, if_neg, ne_eq, not_true_eq_false, not_false_eq_true]
    · simp (disch := omega) only [u32_lit, sm_let_eq, sm_bind_some, sm_cI_some, sm_cV_some, sm_cL_some, sm_rd_u, sm_wr_u, u32_add, u32_mul, u32_sub, u32_le, u32_lt, u32_eq, u32_eq_neg, u32_neg_eq, u32_neg_neg, u32_le_neg, u32_neg_lt, u32_lt_neg, u32_neg_le, u10, u01, u3n0, u1n0, u4n0, n9_lt, n1_lt, n9_neg, n1_neg, if_true, if_false, if_pos, if_neg, ne_eq, not_true_eq_false, not_false_eq_true]
theorem mo_isSpan_neg {r i n : Int32} {w : sm_Mem} (hi : i < u32 0) : ff_mo_isSpan r i n w = some (.int (u32 0), w) := by
  unfold ff_mo_isSpan
  simp (disch := omega) only [u32_lit, sm_let_eq, sm_bind_some, sm_cI_some, sm_cV_some, sm_cL_some, sm_rd_u, sm_wr_u, u32_add, u32_mul, u32_sub, u32_le, u32_lt, u32_eq, u32_eq_neg, u32_neg_eq, u32_neg_neg, u32_le_neg, u32_neg_lt, u32_lt_neg, u32_neg_le, u10, u01, u3n0, u1n0, u4n0, n9_lt, n1_lt, n9_neg, n1_neg, if_true, if_false, if_pos, if_neg, ne_eq, not_true_eq_false, not_false_eq_true, hi]
theorem mo_isSpan_u {r s i n : Nat} {w : sm_Mem} (hr : r < 6) (hs : s ≤ 40) (hw : w.1 67 r = u32 s) (hi : i < 2147483648) (hn : n < 2147483648) : ff_mo_isSpan (u32 r) (u32 i) (u32 n) w = some (.int (if i + n ≤ s then u32 1 else u32 0), w) := by
  unfold ff_mo_isSpan
  have e : ((u32 i).toInt64 + (u32 n).toInt64).toInt = (i : Int) + (n : Int) := by
    rw [u32_long hi, u32_long hn, ← Int64.ofNat_add, Int64.toInt_ofNat_of_lt (by omega)]
    omega
  have e2 : (u32 s).toInt64.toInt = (s : Int) := by
    rw [u32_long (by omega), Int64.toInt_ofNat_of_lt (by omega)]
  simp (disch := omega) only [u32_lit, sm_bind_some, sm_rd_u, u0_lt, if_false, hw]
  simp only [lg_gt, e, e2]
  by_cases h2 : i + n ≤ s
  · simp (disch := omega) only [u32_lit, sm_let_eq, sm_bind_some, sm_cI_some, sm_cV_some, sm_cL_some, sm_rd_u, sm_wr_u, u32_add, u32_mul, u32_sub, u32_le, u32_lt, u32_eq, u32_eq_neg, u32_neg_eq, u32_neg_neg, u32_le_neg, u32_neg_lt, u32_lt_neg, u32_neg_le, u10, u01, u3n0, u1n0, u4n0, n9_lt, n1_lt, n9_neg, n1_neg, if_true, if_false, if_pos, if_neg, ne_eq, not_true_eq_false, not_false_eq_true]
  · simp (disch := omega) only [u32_lit, sm_let_eq, sm_bind_some, sm_cI_some, sm_cV_some, sm_cL_some, sm_rd_u, sm_wr_u, u32_add, u32_mul, u32_sub, u32_le, u32_lt, u32_eq, u32_eq_neg, u32_neg_eq, u32_neg_neg, u32_le_neg, u32_neg_lt, u32_lt_neg, u32_neg_le, u10, u01, u3n0, u1n0, u4n0, n9_lt, n1_lt, n9_neg, n1_neg, if_true, if_false, if_pos, if_neg, ne_eq, not_true_eq_false, not_false_eq_true]
theorem mo_copy_back {r t i j n : Nat} (hr : r < 6) (ht : t < 6) (hi : i + n ≤ 40) (hj : j + n ≤ 40) (g : Nat → Int32) (hij : r ≠ t ∨ i < j) : ∀ (m k F : Nat) (w : sm_Mem), k + m = n → m < F → (∀ q, q < m → w.1 68 (40 * r + i + q) = g q) → ∃ f : Nat → Int32, ff_mo_copy_96_f F (u32 r) (u32 i) (u32 t) (u32 j) (u32 n) (u32 1) (u32 k) w = some (.int (u32 1), sm_wA w 68 f) ∧ (∀ q, q < m → f (40 * t + j + q) = g q) ∧ ∀ a, (a < 40 * t + j ∨ 40 * t + j + m ≤ a) → f a = w.1 68 a := by
  intro m
  induction m with
  | zero =>
    intro k F w hk hF hg
    obtain ⟨F, rfl⟩ : ∃ G, F = G + 1 := ⟨F - 1, by omega⟩
    refine ⟨w.1 68, ?_, fun q hq => absurd hq (by omega), fun _ _ => rfl⟩
    rw [ff_mo_copy_96_f, sm_wA_self]
    unfold ff_mo_copy_96_b
    simp (disch := omega) only [u32_lit, sm_let_eq, sm_bind_some, sm_cI_some, sm_cV_some, sm_cL_some, sm_rd_u, sm_wr_u, u32_add, u32_mul, u32_sub, u32_le, u32_lt, u32_eq, u32_eq_neg, u32_neg_eq, u32_neg_neg, u32_le_neg, u32_neg_lt, u32_lt_neg, u32_neg_le, u10, u01, u3n0, u1n0, u4n0, n9_lt, n1_lt, n9_neg, n1_neg, if_true, if_false, if_pos, if_neg, ne_eq, not_true_eq_false, not_false_eq_true]
  | succ m ih =>
    intro k F w hk hF hg
    obtain ⟨F, rfl⟩ : ∃ G, F = G + 1 := ⟨F - 1, by omega⟩
    have e1 : n - 1 - k = m := by omega
    obtain ⟨f, h1, h2, h3⟩ := ih (k + 1) F (sm_wI w 68 (40 * t + j + m) (g m)) (by omega) (by omega) (fun q hq => by
      have : 40 * r + i + q ≠ 40 * t + j + m := by omega
      rw [sm_wI_nj this]
      exact hg q (by omega))
    refine ⟨f, ?_, fun q hq => ?_, fun a ha => ?_⟩
    · rw [ff_mo_copy_96_f]
      unfold ff_mo_copy_96_b ff_mo_copy_120
      simp (disch := omega) only [u32_lit, sm_let_eq, sm_bind_some, sm_cI_some, sm_cV_some, sm_cL_some, sm_rd_u, sm_wr_u, u32_add, u32_mul, u32_sub, u32_le, u32_lt, u32_eq, u32_eq_neg, u32_neg_eq, u32_neg_neg, u32_le_neg, u32_neg_lt, u32_lt_neg, u32_neg_le, u10, u01, u3n0, u1n0, u4n0, n9_lt, n1_lt, n9_neg, n1_neg, if_true, if_false, if_pos, if_neg, ne_eq, not_true_eq_false, not_false_eq_true, e1]
      rw [hg m (by omega), h1, sm_wI_wA, sm_wA_wA]
    · by_cases hqm : q < m
      · exact h2 q hqm
      · have : q = m := by omega
        subst this
        rw [h3 _ (by omega), sm_wI_eq]
    · rw [h3 a (by omega), sm_wI_nj (by omega)]
theorem mo_copy_fore {r t i j n : Nat} (hr : r < 6) (ht : t < 6) (hi : i + n ≤ 40) (hj : j + n ≤ 40) (g : Nat → Int32) (hij : r ≠ t ∨ j ≤ i) : ∀ (m k F : Nat) (w : sm_Mem), k + m = n → m < F → (∀ q, k ≤ q → q < n → w.1 68 (40 * r + i + q) = g q) → ∃ f : Nat → Int32, ff_mo_copy_96_f F (u32 r) (u32 i) (u32 t) (u32 j) (u32 n) (u32 0) (u32 k) w = some (.int (u32 1), sm_wA w 68 f) ∧ (∀ q, k ≤ q → q < n → f (40 * t + j + q) = g q) ∧ ∀ a, (a < 40 * t + j + k ∨ 40 * t + j + n ≤ a) → f a = w.1 68 a := by
  intro m
  induction m with
  | zero =>
    intro k F w hk hF hg
    obtain ⟨F, rfl⟩ : ∃ G, F = G + 1 := ⟨F - 1, by omega⟩
    refine ⟨w.1 68, ?_, fun q hq hq2 => absurd hq2 (by omega), fun _ _ => rfl⟩
    rw [ff_mo_copy_96_f, sm_wA_self]
    unfold ff_mo_copy_96_b
    simp (disch := omega) only [u32_lit, sm_let_eq, sm_bind_some, sm_cI_some, sm_cV_some, sm_cL_some, sm_rd_u, sm_wr_u, u32_add, u32_mul, u32_sub, u32_le, u32_lt, u32_eq, u32_eq_neg, u32_neg_eq, u32_neg_neg, u32_le_neg, u32_neg_lt, u32_lt_neg, u32_neg_le, u10, u01, u3n0, u1n0, u4n0, n9_lt, n1_lt, n9_neg, n1_neg, if_true, if_false, if_pos, if_neg, ne_eq, not_true_eq_false, not_false_eq_true]
  | succ m ih =>
    intro k F w hk hF hg
    obtain ⟨F, rfl⟩ : ∃ G, F = G + 1 := ⟨F - 1, by omega⟩
    obtain ⟨f, h1, h2, h3⟩ := ih (k + 1) F (sm_wI w 68 (40 * t + j + k) (g k)) (by omega) (by omega) (fun q hq hq2 => by
      have : 40 * r + i + q ≠ 40 * t + j + k := by omega
      rw [sm_wI_nj this]
      exact hg q (by omega) hq2)
    refine ⟨f, ?_, fun q hq hq2 => ?_, fun a ha => ?_⟩
    · rw [ff_mo_copy_96_f]
      unfold ff_mo_copy_96_b ff_mo_copy_120
      simp (disch := omega) only [u32_lit, sm_let_eq, sm_bind_some, sm_cI_some, sm_cV_some, sm_cL_some, sm_rd_u, sm_wr_u, u32_add, u32_mul, u32_sub, u32_le, u32_lt, u32_eq, u32_eq_neg, u32_neg_eq, u32_neg_neg, u32_le_neg, u32_neg_lt, u32_lt_neg, u32_neg_le, u10, u01, u3n0, u1n0, u4n0, n9_lt, n1_lt, n9_neg, n1_neg, if_true, if_false, if_pos, if_neg, ne_eq, not_true_eq_false, not_false_eq_true]
      rw [hg k (by omega) (by omega), h1, sm_wI_wA, sm_wA_wA]
    · by_cases hqm : k + 1 ≤ q
      · exact h2 q hqm hq2
      · have : q = k := by omega
        subst this
        rw [h3 _ (by omega), sm_wI_eq]
    · rw [h3 a (by omega), sm_wI_nj (by omega)]
theorem sm_acp_u {a b ma mb i j n : Nat} {w : sm_Mem} (hA : isRow a ma) (hB : isRow b mb) (hi : i + n ≤ ma) (hj : j + n ≤ mb) : sm_acp w (a + 1) (u32 i) (b + 1) (u32 j) (u32 n) = some (sm_wA w (b + 1) (va_cpy (w.1 (a + 1)) (w.1 (b + 1)) i j n)) := by
  have h1 := hA.2.2.2.2
  have h2 := hB.2.2.2.2
  unfold sm_acp
  rw [hA.2.2.2.1, hB.2.2.2.1]
  dsimp only
  rw [if_neg]
  · rw [u32_idx (by omega), u32_idx (by omega), u32_idx (by omega)]
  · rw [u32_idx (by omega), u32_idx (by omega), u32_idx (by omega)]
    rintro (h | h | h | h | h)
    · exact (u32_nneg (a := i) (by omega)).mp h
    · exact (u32_nneg (a := j) (by omega)).mp h
    · exact (u32_nneg (a := n) (by omega)).mp h
    · omega
    · omega
theorem op_copy {r i t j n : Int32} {w : sm_Mem} (h : RC w) : Both (ff_ho_copy r i t j n) (ff_mo_copy r i t j n) (RCells w) w := by
  rcases aCases r 6 with hr | ⟨r, hr, -, rfl⟩
  · refine Both_same (-u32 1) ?_ ?_ h
    · unfold ff_ho_copy
      simp (disch := omega) only [u32_lit, sm_let_eq, sm_bind_some, sm_cI_some, sm_cV_some, sm_cL_some, sm_rd_u, sm_wr_u, u32_add, u32_mul, u32_sub, u32_le, u32_lt, u32_eq, u32_eq_neg, u32_neg_eq, u32_neg_neg, u32_le_neg, u32_neg_lt, u32_lt_neg, u32_neg_le, u10, u01, u3n0, u1n0, u4n0, n9_lt, n1_lt, n9_neg, n1_neg, if_true, if_false, if_pos, if_neg, ne_eq, not_true_eq_false, not_false_eq_true, ho_within_bad hr]
    · unfold ff_mo_copy
      simp (disch := omega) only [u32_lit, sm_let_eq, sm_bind_some, sm_cI_some, sm_cV_some, sm_cL_some, sm_rd_u, sm_wr_u, u32_add, u32_mul, u32_sub, u32_le, u32_lt, u32_eq, u32_eq_neg, u32_neg_eq, u32_neg_neg, u32_le_neg, u32_neg_lt, u32_lt_neg, u32_neg_le, u10, u01, u3n0, u1n0, u4n0, n9_lt, n1_lt, n9_neg, n1_neg, if_true, if_false, if_pos, if_neg, ne_eq, not_true_eq_false, not_false_eq_true, mo_isRow_bad hr]
  rcases aCases t 6 with ht | ⟨t, ht, -, rfl⟩
  · refine Both_same (-u32 1) ?_ ?_ h
    · unfold ff_ho_copy
      simp (disch := omega) only [u32_lit, sm_let_eq, sm_bind_some, sm_cI_some, sm_cV_some, sm_cL_some, sm_rd_u, sm_wr_u, u32_add, u32_mul, u32_sub, u32_le, u32_lt, u32_eq, u32_eq_neg, u32_neg_eq, u32_neg_neg, u32_le_neg, u32_neg_lt, u32_lt_neg, u32_neg_le, u10, u01, u3n0, u1n0, u4n0, n9_lt, n1_lt, n9_neg, n1_neg, if_true, if_false, if_pos, if_neg, ne_eq, not_true_eq_false, not_false_eq_true, ho_within_good hr, ho_within_bad ht]
    · unfold ff_mo_copy
      simp (disch := omega) only [u32_lit, sm_let_eq, sm_bind_some, sm_cI_some, sm_cV_some, sm_cL_some, sm_rd_u, sm_wr_u, u32_add, u32_mul, u32_sub, u32_le, u32_lt, u32_eq, u32_eq_neg, u32_neg_eq, u32_neg_neg, u32_le_neg, u32_neg_lt, u32_lt_neg, u32_neg_le, u10, u01, u3n0, u1n0, u4n0, n9_lt, n1_lt, n9_neg, n1_neg, if_true, if_false, if_pos, if_neg, ne_eq, not_true_eq_false, not_false_eq_true, mo_isRow_good hr, mo_isRow_bad ht]
  have hR := isRow_row hr
  have hT := isRow_row ht
  rcases u32_cases n with hn | ⟨n, hn, rfl⟩
  · refine Both_ref 5 ?_ ?_ h
    · unfold ff_ho_copy
      simp (disch := omega) only [u32_lit, sm_let_eq, sm_bind_some, sm_cI_some, sm_cV_some, sm_cL_some, sm_rd_u, sm_wr_u, u32_add, u32_mul, u32_sub, u32_le, u32_lt, u32_eq, u32_eq_neg, u32_neg_eq, u32_neg_neg, u32_le_neg, u32_neg_lt, u32_lt_neg, u32_neg_le, u10, u01, u3n0, u1n0, u4n0, n9_lt, n1_lt, n9_neg, n1_neg, if_true, if_false, if_pos, if_neg, ne_eq, not_true_eq_false, not_false_eq_true, ho_within_good hr, ho_within_good ht, neg_nle hn, td_refuse]
    · unfold ff_mo_copy
      simp (disch := omega) only [u32_lit, sm_let_eq, sm_bind_some, sm_cI_some, sm_cV_some, sm_cL_some, sm_rd_u, sm_wr_u, u32_add, u32_mul, u32_sub, u32_le, u32_lt, u32_eq, u32_eq_neg, u32_neg_eq, u32_neg_neg, u32_le_neg, u32_neg_lt, u32_lt_neg, u32_neg_le, u10, u01, u3n0, u1n0, u4n0, n9_lt, n1_lt, n9_neg, n1_neg, if_true, if_false, if_pos, if_neg, ne_eq, not_true_eq_false, not_false_eq_true, mo_isRow_good hr, mo_isRow_good ht, neg_nle hn, mo_find]
  rcases (h.1 r hr).cases with ⟨hc, hm⟩ | ⟨s, hs, hc, hm, he⟩
  · refine Both_ref 1 ?_ ?_ h
    · unfold ff_ho_copy ff_ho_copy_66
      simp (disch := omega) only [u32_lit, sm_let_eq, sm_bind_some, sm_cI_some, sm_cV_some, sm_cL_some, sm_rd_u, sm_wr_u, u32_add, u32_mul, u32_sub, u32_le, u32_lt, u32_eq, u32_eq_neg, u32_neg_eq, u32_neg_neg, u32_le_neg, u32_neg_lt, u32_lt_neg, u32_neg_le, u10, u01, u3n0, u1n0, u4n0, n9_lt, n1_lt, n9_neg, n1_neg, if_true, if_false, if_pos, if_neg, ne_eq, not_true_eq_false, not_false_eq_true, ho_within_good hr, ho_within_good ht, u0_le, rr_row hr, rr_row ht, hR.rc, rw_isMissing_none hR hc, td_refuse]
    · unfold ff_mo_copy ff_mo_copy_45
      simp (disch := omega) only [u32_lit, sm_let_eq, sm_bind_some, sm_cI_some, sm_cV_some, sm_cL_some, sm_rd_u, sm_wr_u, u32_add, u32_mul, u32_sub, u32_le, u32_lt, u32_eq, u32_eq_neg, u32_neg_eq, u32_neg_neg, u32_le_neg, u32_neg_lt, u32_lt_neg, u32_neg_le, u10, u01, u3n0, u1n0, u4n0, n9_lt, n1_lt, n9_neg, n1_neg, if_true, if_false, if_pos, if_neg, ne_eq, not_true_eq_false, not_false_eq_true, mo_isRow_good hr, mo_isRow_good ht, u0_le, wcRef_ne, hm, mo_find]
  rcases (h.1 t ht).cases with ⟨hc2, hm2⟩ | ⟨s2, hs2, hc2, hm2, he2⟩
  · refine Both_ref 1 ?_ ?_ h
    · unfold ff_ho_copy ff_ho_copy_66
      simp (disch := omega) only [u32_lit, sm_let_eq, sm_bind_some, sm_cI_some, sm_cV_some, sm_cL_some, sm_rd_u, sm_wr_u, u32_add, u32_mul, u32_sub, u32_le, u32_lt, u32_eq, u32_eq_neg, u32_neg_eq, u32_neg_neg, u32_le_neg, u32_neg_lt, u32_lt_neg, u32_neg_le, u10, u01, u3n0, u1n0, u4n0, n9_lt, n1_lt, n9_neg, n1_neg, if_true, if_false, if_pos, if_neg, ne_eq, not_true_eq_false, not_false_eq_true, ho_within_good hr, ho_within_good ht, u0_le, rr_row hr, rr_row ht, hR.rc, hT.rc, rw_isMissing_some hR (show s < 2147483648 by omega) hc, rw_isMissing_none hT hc2, td_refuse]
    · unfold ff_mo_copy ff_mo_copy_45
      simp (disch := omega) only [u32_lit, sm_let_eq, sm_bind_some, sm_cI_some, sm_cV_some, sm_cL_some, sm_rd_u, sm_wr_u, u32_add, u32_mul, u32_sub, u32_le, u32_lt, u32_eq, u32_eq_neg, u32_neg_eq, u32_neg_neg, u32_le_neg, u32_neg_lt, u32_lt_neg, u32_neg_le, u10, u01, u3n0, u1n0, u4n0, n9_lt, n1_lt, n9_neg, n1_neg, if_true, if_false, if_pos, if_neg, ne_eq, not_true_eq_false, not_false_eq_true, mo_isRow_good hr, mo_isRow_good ht, u0_le, u0_lt, wcRef_ne, hm, hm2, mo_find]
  by_cases hin : ∃ i' j' : Nat, i = u32 i' ∧ j = u32 j' ∧ i' + n ≤ s ∧ j' + n ≤ s2
  · obtain ⟨i, j, rfl, rfl, hi, hj⟩ := hin
    have h1 : ff_ho_copy (u32 r) (u32 i) (u32 t) (u32 j) (u32 n) w = some (.int (u32 1), sm_wA w (2 + 2 * t + 1) (va_cpy (w.1 (2 + 2 * r + 1)) (w.1 (2 + 2 * t + 1)) i j n)) := by
      unfold ff_ho_copy
      simp (disch := omega) only [u32_lit, sm_let_eq, sm_bind_some, sm_cI_some, sm_cV_some, sm_cL_some, sm_rd_u, sm_wr_u, u32_add, u32_mul, u32_sub, u32_le, u32_lt, u32_eq, u32_eq_neg, u32_neg_eq, u32_neg_neg, u32_le_neg, u32_neg_lt, u32_lt_neg, u32_neg_le, u10, u01, u3n0, u1n0, u4n0, n9_lt, n1_lt, n9_neg, n1_neg, if_true, if_false, if_pos, if_neg, ne_eq, not_true_eq_false, not_false_eq_true, ho_within_good hr, ho_within_good ht, u0_le, rr_row hr, rr_row ht, hR.rc, hT.rc, rw_isMissing_some hR (show s < 2147483648 by omega) hc, rw_isMissing_some hT (show s2 < 2147483648 by omega) hc2, rw_hasPart_u hR hs hc, rw_hasPart_u hT hs2 hc2, hR.fk, hT.fk, sm_acp_u hR hT (show i + n ≤ 40 by omega) (show j + n ≤ 40 by omega)]
    have hg : ∀ q, q < n → (sm_wA w (2 + 2 * t + 1) (va_cpy (w.1 (2 + 2 * r + 1)) (w.1 (2 + 2 * t + 1)) i j n)).1 68 (40 * r + i + q) = w.1 (2 + 2 * r + 1) (i + q) := by
      intro q hq
      rw [sm_wA_ne (by omega), he (i + q) (by omega), Nat.add_assoc]
    have h2 : ∃ f : Nat → Int32, ff_mo_copy (u32 r) (u32 i) (u32 t) (u32 j) (u32 n) (sm_wA w (2 + 2 * t + 1) (va_cpy (w.1 (2 + 2 * r + 1)) (w.1 (2 + 2 * t + 1)) i j n)) = some (.int (u32 1), sm_wA (sm_wA w (2 + 2 * t + 1) (va_cpy (w.1 (2 + 2 * r + 1)) (w.1 (2 + 2 * t + 1)) i j n)) 68 f) ∧ (∀ q, q < n → f (40 * t + j + q) = w.1 (2 + 2 * r + 1) (i + q)) ∧ ∀ a, (a < 40 * t + j ∨ 40 * t + j + n ≤ a) → f a = w.1 68 a := by
      have key : ∀ w', w'.1 67 = w.1 67 → ff_mo_copy (u32 r) (u32 i) (u32 t) (u32 j) (u32 n) w' = if j ≤ i then ff_mo_copy_96 (u32 r) (u32 i) (u32 t) (u32 j) (u32 n) (u32 0) (u32 0) w' else ff_mo_copy_96 (u32 r) (u32 i) (u32 t) (u32 j) (u32 n) (u32 1) (u32 0) w' := by
        intro w' hw
        have hm' : w'.1 67 r = u32 s := by rw [hw]; exact hm
        have hm2' : w'.1 67 t = u32 s2 := by rw [hw]; exact hm2
        unfold ff_mo_copy
        simp (disch := omega) only [u32_lit, sm_bind_some, sm_cI_some, sm_rd_u, u10, if_false, mo_isRow_good hr, mo_isRow_good ht, u0_le, u0_lt, if_true, hm', hm2', mo_isSpan_u hr hs hm', mo_isSpan_u ht hs2 hm2', if_pos hi, if_pos hj, u32_le, Nat.zero_le]
      rw [key _ (by rw [sm_wA_ne (by omega)])]
      unfold ff_mo_copy_96
      by_cases hij : j ≤ i
      · rw [if_pos hij, sm_N_eq]
        obtain ⟨f, a1, a2, a3⟩ := mo_copy_fore (i := i) (j := j) (n := n) hr ht (by omega) (by omega) (fun q => w.1 (2 + 2 * r + 1) (i + q)) (Or.inr hij) n 0 1000000 _ (by omega) (by omega) (fun q _ hq => hg q hq)
        exact ⟨f, a1, fun q hq => a2 q (by omega) hq, fun a ha => by rw [a3 a (by omega), sm_wA_ne (by omega)]⟩
      · rw [if_neg hij, sm_N_eq]
        obtain ⟨f, a1, a2, a3⟩ := mo_copy_back (i := i) (j := j) (n := n) hr ht (by omega) (by omega) (fun q => w.1 (2 + 2 * r + 1) (i + q)) (Or.inr (by omega)) n 0 1000000 _ (by omega) (by omega) hg
        exact ⟨f, a1, fun q hq => a2 q hq, fun a ha => by rw [a3 a (by omega), sm_wA_ne (by omega)]⟩
    obtain ⟨f, h2, h3, h4⟩ := h2
    refine Both_mk _ _ _ h1 h2 ⟨fun q hq => ?_, RTexts_fr (fun a ha => ?_) h.2.1, RTold_fr (w := w) (by simp (disch := omega) only [sm_wI_ne, sm_wI_nj, sm_wI_eq, sm_wA_ne, sm_wA_eq, and_self]) rfl h.2.2, fun a ha => ?_, ?_⟩
    · by_cases hqt : q = t
      · subst hqt
        refine RRow.mk_some (n := s2) (by omega) ?_ ?_ (fun x hx => ?_)
        · simp (disch := omega) only [sm_wI_ne, sm_wI_nj, sm_wI_eq, sm_wA_ne, sm_wA_eq]
          exact hc2
        · simp (disch := omega) only [sm_wI_ne, sm_wI_nj, sm_wI_eq, sm_wA_ne, sm_wA_eq]
          exact hm2
        · simp (disch := omega) only [sm_wI_ne, sm_wI_nj, sm_wI_eq, sm_wA_ne, sm_wA_eq]
          unfold va_cpy
          by_cases hxj : j ≤ x ∧ x < j + n
          · rw [if_pos hxj]
            have := h3 (x - j) (by omega)
            rw [show 40 * q + j + (x - j) = 40 * q + x by omega] at this
            rw [this]
          · rw [if_neg hxj, h4 _ (by omega)]
            exact he2 x hx
      · obtain ⟨o, a1, a2, a3⟩ := h.1 q hq
        refine ⟨o, ?_, ?_, fun m hm => ⟨(a3 m hm).1, fun x hx => ?_⟩⟩
        · simp (disch := omega) only [sm_wI_ne, sm_wI_nj, sm_wI_eq, sm_wA_ne, sm_wA_eq]
          exact a1
        · simp (disch := omega) only [sm_wI_ne, sm_wI_nj, sm_wI_eq, sm_wA_ne, sm_wA_eq]
          exact a2
        · have := (a3 m hm).1
          simp (disch := omega) only [sm_wI_ne, sm_wI_nj, sm_wI_eq, sm_wA_ne, sm_wA_eq]
          rw [h4 _ (by omega)]
          exact (a3 m hm).2 x hx
    all_goals simp (disch := omega) only [sm_wI_ne, sm_wI_nj, sm_wI_eq, sm_wA_ne, sm_wA_eq]
  · refine Both_ref 2 ?_ ?_ h
    · unfold ff_ho_copy ff_ho_copy_98
      simp (disch := omega) only [u32_lit, sm_bind_some, sm_cI_some, ho_within_good hr, ho_within_good ht, u10, if_false, if_true, u0_le, rr_row hr, rr_row ht, hR.rc, hT.rc, rw_isMissing_some hR (show s < 2147483648 by omega) hc, rw_isMissing_some hT (show s2 < 2147483648 by omega) hc2, td_refuse]
      rcases u32_cases i with hi | ⟨i, hi, rfl⟩
      · simp (disch := omega) only [rw_hasPart_neg hi, sm_cI_some, if_true]
      rw [rw_hasPart_u hR hs hc hi hn]
      by_cases hi2 : i + n ≤ s
      · rw [if_pos hi2]
        simp only [sm_cI_some, u10, if_false]
        rcases u32_cases j with hj | ⟨j, hj, rfl⟩
        · simp (disch := omega) only [rw_hasPart_neg hj, sm_cI_some, if_true]
        rw [rw_hasPart_u hT hs2 hc2 hj hn, if_neg (fun hj2 => hin ⟨i, j, rfl, rfl, hi2, hj2⟩)]
        simp only [sm_cI_some, if_true]
      · rw [if_neg hi2]
        simp only [sm_cI_some, if_true]
    · unfold ff_mo_copy ff_mo_copy_74
      have hm' : (wcRef 2 w).1 67 r = u32 s := by rw [wcRef_ne (by omega) (by omega)]; exact hm
      have hm2' : (wcRef 2 w).1 67 t = u32 s2 := by rw [wcRef_ne (by omega) (by omega)]; exact hm2
      simp (disch := omega) only [u32_lit, sm_bind_some, sm_cI_some, sm_rd_u, mo_isRow_good hr, mo_isRow_good ht, u10, if_false, if_true, u0_le, u0_lt, hm', hm2', mo_find]
      rcases u32_cases i with hi | ⟨i, hi, rfl⟩
      · simp (disch := omega) only [mo_isSpan_neg hi, sm_cI_some, if_true]
      rw [mo_isSpan_u hr hs hm' hi hn]
      by_cases hi2 : i + n ≤ s
      · rw [if_pos hi2]
        simp only [sm_cI_some, u10, if_false]
        rcases u32_cases j with hj | ⟨j, hj, rfl⟩
        · simp (disch := omega) only [mo_isSpan_neg hj, sm_cI_some, if_true]
        rw [mo_isSpan_u ht hs2 hm2' hj hn, if_neg (fun hj2 => hin ⟨i, j, rfl, rfl, hi2, hj2⟩)]
        simp only [sm_cI_some, if_true]
      · rw [if_neg hi2]
        simp only [sm_cI_some, if_true]
