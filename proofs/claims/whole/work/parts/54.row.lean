/-! pure: row, text -/
def fillF (f : Nat → Int32) (i n : Nat) (x : Int32) : Nat → Int32 := fun j => if i ≤ j ∧ j < n then x else f j
theorem fillF_none {f : Nat → Int32} {i n : Nat} {x : Int32} (h : n ≤ i) : fillF f i n x = f := by
  funext j
  unfold fillF
  rw [if_neg (by omega)]
theorem fillF_step {f : Nat → Int32} {i n : Nat} {x : Int32} (h : i < n) : fillF (fun b => if b = i then x else f b) (i + 1) n x = fillF f i n x := by
  funext j
  show (if i + 1 ≤ j ∧ j < n then x else if j = i then x else f j) = if i ≤ j ∧ j < n then x else f j
  by_cases h1 : j = i
  · rw [if_neg (by omega), if_pos h1, if_pos (by omega)]
  · by_cases h2 : i ≤ j ∧ j < n
    · rw [if_pos (by omega), if_pos h2]
    · rw [if_neg (by omega), if_neg h1, if_neg h2]
theorem rw_begin_loop {k most n : Nat} {x : Int32} (hR : isRow k most) (hn : n ≤ most) : ∀ (m i F : Nat) (w : sm_Mem), i + m = n → m < F → w.1 k 1 = u32 n → ff_rw_begin_19_f F k x (u32 i) w = some (.null, sm_wA w (k + 1) (fillF (w.1 (k + 1)) i n x)) := by
  have h60 := hR.2.2.2.2
  intro m
  induction m with
  | zero =>
    intro i F w him hF hw
    obtain ⟨F, rfl⟩ : ∃ G, F = G + 1 := ⟨F - 1, by omega⟩
    rw [ff_rw_begin_19_f]
    unfold ff_rw_begin_19_b
    rw [fillF_none (by omega), sm_wA_self]
    simp (disch := omega) only [u32_lit, sm_let_eq, sm_bind_some, sm_cI_some, sm_cV_some, sm_cL_some, sm_rd_u, sm_wr_u, u32_add, u32_mul, u32_sub, u32_le, u32_lt, u32_eq, u32_eq_neg, u32_neg_eq, u32_neg_neg, u32_le_neg, u32_neg_lt, u32_lt_neg, u32_neg_le, u10, u01, u3n0, u1n0, u4n0, n9_lt, n1_lt, n9_neg, n1_neg, if_true, if_false, if_pos, if_neg, ne_eq, not_true_eq_false, not_false_eq_true, hR.gI, hw]
  | succ m ih =>
    intro i F w him hF hw
    obtain ⟨F, rfl⟩ : ∃ G, F = G + 1 := ⟨F - 1, by omega⟩
    rw [ff_rw_begin_19_f]
    unfold ff_rw_begin_19_b
    have hi : i < most := by omega
    simp (disch := omega) only [u32_lit, sm_let_eq, sm_bind_some, sm_cI_some, sm_cV_some, sm_cL_some, sm_rd_u, sm_wr_u, u32_add, u32_mul, u32_sub, u32_le, u32_lt, u32_eq, u32_eq_neg, u32_neg_eq, u32_neg_neg, u32_le_neg, u32_neg_lt, u32_lt_neg, u32_neg_le, u10, u01, u3n0, u1n0, u4n0, n9_lt, n1_lt, n9_neg, n1_neg, if_true, if_false, if_pos, if_neg, ne_eq, not_true_eq_false, not_false_eq_true, hR.gI, hw, hR.fk, hR.wrs hi]
    rw [ih (i + 1) F _ (by omega) (by omega) (by rw [sm_wI_ne (by omega)]; exact hw)]
    rw [sm_wI_wA, sm_wA_wA, sm_wA_eq, fillF_step (by omega)]
theorem rw_begin {k most n : Nat} {x : Int32} {w : sm_Mem} (hR : isRow k most) (hn : n ≤ most) : ff_rw_begin k (u32 n) x w = some (.null, sm_wA (sm_wI w k 1 (u32 n)) (k + 1) (fillF (w.1 (k + 1)) 0 n x)) := by
  have h60 := hR.2.2.2.2
  unfold ff_rw_begin ff_rw_begin_19
  have e : (if u32 0 < (if u32 most < u32 n then u32 most else u32 n) then (if u32 most < u32 n then u32 most else u32 n) else u32 0) = u32 n := by
    simp (disch := omega) only [u32_lit, sm_let_eq, sm_bind_some, sm_cI_some, sm_cV_some, sm_cL_some, sm_rd_u, sm_wr_u, u32_add, u32_mul, u32_sub, u32_le, u32_lt, u32_eq, u32_eq_neg, u32_neg_eq, u32_neg_neg, u32_le_neg, u32_neg_lt, u32_lt_neg, u32_neg_le, u10, u01, u3n0, u1n0, u4n0, n9_lt, n1_lt, n9_neg, n1_neg, if_true, if_false, if_pos, if_neg, ne_eq, not_true_eq_false, not_false_eq_true]
    by_cases h : 0 < n
    · rw [if_pos h]
    · rw [if_neg h, show n = 0 by omega]
  simp (disch := omega) only [u32_lit, sm_bind_some, hR.fk, hR.al, hR.pI]
  rw [e, sm_N_eq, rw_begin_loop hR hn n 0 _ _ (by omega) (by omega) (by rw [sm_wI_eq]), sm_wI_ne (by omega)]
theorem mo_makeRow_loop {r : Nat} (hr : r < 6) : ∀ (m i F : Nat) (w : sm_Mem), i + m = 40 → m < F → ff_mo_makeRow_9_f F (u32 r) (u32 i) w = some (.null, sm_wA w 68 (fillF (w.1 68) (40 * r + i) (40 * r + 40) (u32 0))) := by
  intro m
  induction m with
  | zero =>
    intro i F w him hF
    obtain ⟨F, rfl⟩ : ∃ G, F = G + 1 := ⟨F - 1, by omega⟩
    rw [ff_mo_makeRow_9_f]
    unfold ff_mo_makeRow_9_b
    rw [fillF_none (by omega), sm_wA_self]
    simp (disch := omega) only [u32_lit, sm_let_eq, sm_bind_some, sm_cI_some, sm_cV_some, sm_cL_some, sm_rd_u, sm_wr_u, u32_add, u32_mul, u32_sub, u32_le, u32_lt, u32_eq, u32_eq_neg, u32_neg_eq, u32_neg_neg, u32_le_neg, u32_neg_lt, u32_lt_neg, u32_neg_le, u10, u01, u3n0, u1n0, u4n0, n9_lt, n1_lt, n9_neg, n1_neg, if_true, if_false, if_pos, if_neg, ne_eq, not_true_eq_false, not_false_eq_true]
  | succ m ih =>
    intro i F w him hF
    obtain ⟨F, rfl⟩ : ∃ G, F = G + 1 := ⟨F - 1, by omega⟩
    rw [ff_mo_makeRow_9_f]
    unfold ff_mo_makeRow_9_b
    simp (disch := omega) only [u32_lit, sm_let_eq, sm_bind_some, sm_cI_some, sm_cV_some, sm_cL_some, sm_rd_u, sm_wr_u, u32_add, u32_mul, u32_sub, u32_le, u32_lt, u32_eq, u32_eq_neg, u32_neg_eq, u32_neg_neg, u32_le_neg, u32_neg_lt, u32_lt_neg, u32_neg_le, u10, u01, u3n0, u1n0, u4n0, n9_lt, n1_lt, n9_neg, n1_neg, if_true, if_false, if_pos, if_neg, ne_eq, not_true_eq_false, not_false_eq_true]
    rw [ih (i + 1) F _ (by omega) (by omega)]
    rw [sm_wI_wA, sm_wA_wA, sm_wA_eq, ← Nat.add_assoc, fillF_step (by omega)]
theorem mo_makeRow {r n : Nat} {w : sm_Mem} (hr : r < 6) : ff_mo_makeRow (u32 r) (u32 n) w = some (.null, sm_wA (sm_wI w 67 r (u32 n)) 68 (fillF (w.1 68) (40 * r) (40 * r + 40) (u32 0))) := by
  unfold ff_mo_makeRow ff_mo_makeRow_9
  simp (disch := omega) only [u32_lit, sm_let_eq, sm_bind_some, sm_cI_some, sm_cV_some, sm_cL_some, sm_rd_u, sm_wr_u, u32_add, u32_mul, u32_sub, u32_le, u32_lt, u32_eq, u32_eq_neg, u32_neg_eq, u32_neg_neg, u32_le_neg, u32_neg_lt, u32_lt_neg, u32_neg_le, u10, u01, u3n0, u1n0, u4n0, n9_lt, n1_lt, n9_neg, n1_neg, if_true, if_false, if_pos, if_neg, ne_eq, not_true_eq_false, not_false_eq_true]
  rw [sm_N_eq, mo_makeRow_loop hr 40 0 _ _ (by omega) (by omega), sm_wI_ne (by omega)]
  rfl
theorem mo_text_loop {r : Nat} {v : Int32} (hr : r < 4) : ∀ (m i F : Nat) (w : sm_Mem), i + m = 60 → m < F → ff_mo_text_34_f F (u32 r) v (u32 i) w = some (.int v, sm_wA w 70 (fillF (w.1 70) (60 * r + i) (60 * r + 60) (u32 32))) := by
  intro m
  induction m with
  | zero =>
    intro i F w him hF
    obtain ⟨F, rfl⟩ : ∃ G, F = G + 1 := ⟨F - 1, by omega⟩
    rw [ff_mo_text_34_f]
    unfold ff_mo_text_34_b
    rw [fillF_none (by omega), sm_wA_self]
    simp (disch := omega) only [u32_lit, sm_let_eq, sm_bind_some, sm_cI_some, sm_cV_some, sm_cL_some, sm_rd_u, sm_wr_u, u32_add, u32_mul, u32_sub, u32_le, u32_lt, u32_eq, u32_eq_neg, u32_neg_eq, u32_neg_neg, u32_le_neg, u32_neg_lt, u32_lt_neg, u32_neg_le, u10, u01, u3n0, u1n0, u4n0, n9_lt, n1_lt, n9_neg, n1_neg, if_true, if_false, if_pos, if_neg, ne_eq, not_true_eq_false, not_false_eq_true]
  | succ m ih =>
    intro i F w him hF
    obtain ⟨F, rfl⟩ : ∃ G, F = G + 1 := ⟨F - 1, by omega⟩
    rw [ff_mo_text_34_f]
    unfold ff_mo_text_34_b
    simp (disch := omega) only [u32_lit, sm_let_eq, sm_bind_some, sm_cI_some, sm_cV_some, sm_cL_some, sm_rd_u, sm_wr_u, u32_add, u32_mul, u32_sub, u32_le, u32_lt, u32_eq, u32_eq_neg, u32_neg_eq, u32_neg_neg, u32_le_neg, u32_neg_lt, u32_lt_neg, u32_neg_le, u10, u01, u3n0, u1n0, u4n0, n9_lt, n1_lt, n9_neg, n1_neg, if_true, if_false, if_pos, if_neg, ne_eq, not_true_eq_false, not_false_eq_true]
    rw [ih (i + 1) F _ (by omega) (by omega)]
    rw [sm_wI_wA, sm_wA_wA, sm_wA_eq, ← Nat.add_assoc, fillF_step (by omega)]

theorem op_row {r n : Int32} {w : sm_Mem} (h : RC w) : Both (ff_ho_row r n) (ff_mo_row r n) (RCells w) w := by
  rcases aCases r 6 with hr | ⟨r, hr, -, rfl⟩
  · refine Both_same (-u32 1) ?_ ?_ h
    · unfold ff_ho_row ff_ho_make
      simp (disch := omega) only [u32_lit, sm_let_eq, sm_bind_some, sm_cI_some, sm_cV_some, sm_cL_some, sm_rd_u, sm_wr_u, u32_add, u32_mul, u32_sub, u32_le, u32_lt, u32_eq, u32_eq_neg, u32_neg_eq, u32_neg_neg, u32_le_neg, u32_neg_lt, u32_lt_neg, u32_neg_le, u10, u01, u3n0, u1n0, u4n0, n9_lt, n1_lt, n9_neg, n1_neg, if_true, if_false, if_pos, if_neg, ne_eq, not_true_eq_false, not_false_eq_true, al_rows, ho_within_bad hr]
    · unfold ff_mo_row
      simp (disch := omega) only [u32_lit, sm_let_eq, sm_bind_some, sm_cI_some, sm_cV_some, sm_cL_some, sm_rd_u, sm_wr_u, u32_add, u32_mul, u32_sub, u32_le, u32_lt, u32_eq, u32_eq_neg, u32_neg_eq, u32_neg_neg, u32_le_neg, u32_neg_lt, u32_lt_neg, u32_neg_le, u10, u01, u3n0, u1n0, u4n0, n9_lt, n1_lt, n9_neg, n1_neg, if_true, if_false, if_pos, if_neg, ne_eq, not_true_eq_false, not_false_eq_true, mo_isRow_bad hr]
  have hR := isRow_row hr
  rcases aCases n 41 with (hn | ⟨n, hn, hn2, rfl⟩) | ⟨n, hn, -, rfl⟩
  · refine Both_ref 5 ?_ ?_ h
    · unfold ff_ho_row ff_ho_make
      simp (disch := omega) only [u32_lit, sm_let_eq, sm_bind_some, sm_cI_some, sm_cV_some, sm_cL_some, sm_rd_u, sm_wr_u, u32_add, u32_mul, u32_sub, u32_le, u32_lt, u32_eq, u32_eq_neg, u32_neg_eq, u32_neg_neg, u32_le_neg, u32_neg_lt, u32_lt_neg, u32_neg_le, u10, u01, u3n0, u1n0, u4n0, n9_lt, n1_lt, n9_neg, n1_neg, if_true, if_false, if_pos, if_neg, ne_eq, not_true_eq_false, not_false_eq_true, al_rows, ho_within_good hr, rr_row hr, hR.fk, hR.al, neg_le hn, neg_nle hn, td_refuse]
    · unfold ff_mo_row
      simp (disch := omega) only [u32_lit, sm_let_eq, sm_bind_some, sm_cI_some, sm_cV_some, sm_cL_some, sm_rd_u, sm_wr_u, u32_add, u32_mul, u32_sub, u32_le, u32_lt, u32_eq, u32_eq_neg, u32_neg_eq, u32_neg_neg, u32_le_neg, u32_neg_lt, u32_lt_neg, u32_neg_le, u10, u01, u3n0, u1n0, u4n0, n9_lt, n1_lt, n9_neg, n1_neg, if_true, if_false, if_pos, if_neg, ne_eq, not_true_eq_false, not_false_eq_true, mo_isRow_good hr, neg_le hn, neg_nle hn, mo_find]
  · refine Both_same (-u32 1) ?_ ?_ h
    · unfold ff_ho_row ff_ho_make
      simp (disch := omega) only [u32_lit, sm_let_eq, sm_bind_some, sm_cI_some, sm_cV_some, sm_cL_some, sm_rd_u, sm_wr_u, u32_add, u32_mul, u32_sub, u32_le, u32_lt, u32_eq, u32_eq_neg, u32_neg_eq, u32_neg_neg, u32_le_neg, u32_neg_lt, u32_lt_neg, u32_neg_le, u10, u01, u3n0, u1n0, u4n0, n9_lt, n1_lt, n9_neg, n1_neg, if_true, if_false, if_pos, if_neg, ne_eq, not_true_eq_false, not_false_eq_true, al_rows, ho_within_good hr, rr_row hr, hR.fk, hR.al]
    · unfold ff_mo_row
      simp (disch := omega) only [u32_lit, sm_let_eq, sm_bind_some, sm_cI_some, sm_cV_some, sm_cL_some, sm_rd_u, sm_wr_u, u32_add, u32_mul, u32_sub, u32_le, u32_lt, u32_eq, u32_eq_neg, u32_neg_eq, u32_neg_neg, u32_le_neg, u32_neg_lt, u32_lt_neg, u32_neg_le, u10, u01, u3n0, u1n0, u4n0, n9_lt, n1_lt, n9_neg, n1_neg, if_true, if_false, if_pos, if_neg, ne_eq, not_true_eq_false, not_false_eq_true, mo_isRow_good hr]
  · have hc : ff_ho_row (u32 r) (u32 n) w = some (.int (u32 n), sm_wA (sm_wI w (2 + 2 * r) 1 (u32 n)) (2 + 2 * r + 1) (fillF (w.1 (2 + 2 * r + 1)) 0 n (u32 0))) := by
      unfold ff_ho_row ff_ho_make
      simp (disch := omega) only [u32_lit, sm_let_eq, sm_bind_some, sm_cI_some, sm_cV_some, sm_cL_some, sm_rd_u, sm_wr_u, u32_add, u32_mul, u32_sub, u32_le, u32_lt, u32_eq, u32_eq_neg, u32_neg_eq, u32_neg_neg, u32_le_neg, u32_neg_lt, u32_lt_neg, u32_neg_le, u10, u01, u3n0, u1n0, u4n0, n9_lt, n1_lt, n9_neg, n1_neg, if_true, if_false, if_pos, if_neg, ne_eq, not_true_eq_false, not_false_eq_true, al_rows, ho_within_good hr, rr_row hr, hR.fk, hR.al, hR.rc, rw_begin hR (show n ≤ 40 by omega)]
    have hm : ∀ w1, ff_mo_row (u32 r) (u32 n) w1 = some (.int (u32 n), sm_wA (sm_wI w1 67 r (u32 n)) 68 (fillF (w1.1 68) (40 * r) (40 * r + 40) (u32 0))) := by
      intro w1
      unfold ff_mo_row
      simp (disch := omega) only [u32_lit, sm_let_eq, sm_bind_some, sm_cI_some, sm_cV_some, sm_cL_some, sm_rd_u, sm_wr_u, u32_add, u32_mul, u32_sub, u32_le, u32_lt, u32_eq, u32_eq_neg, u32_neg_eq, u32_neg_neg, u32_le_neg, u32_neg_lt, u32_lt_neg, u32_neg_le, u10, u01, u3n0, u1n0, u4n0, n9_lt, n1_lt, n9_neg, n1_neg, if_true, if_false, if_pos, if_neg, ne_eq, not_true_eq_false, not_false_eq_true, mo_isRow_good hr, mo_makeRow hr]
    refine Both_mk (.int (u32 n)) _ _ hc (hm _) ⟨fun q hq => ?_, RTexts_fr (fun a ha => ?_) h.2.1, RTold_fr (w := w) (by simp (disch := omega) only [sm_wI_ne, sm_wI_nj, sm_wI_eq, sm_wA_ne, sm_wA_eq, and_self]) rfl h.2.2, fun a ha => ?_, ?_⟩
    · by_cases hqr : q = r
      · subst hqr
        refine RRow.mk_some (n := n) (by omega) ?_ ?_ (fun j hj => ?_)
        · simp (disch := omega) only [sm_wI_ne, sm_wI_nj, sm_wI_eq, sm_wA_ne, sm_wA_eq]
        · simp (disch := omega) only [sm_wI_ne, sm_wI_nj, sm_wI_eq, sm_wA_ne, sm_wA_eq]
        · simp (disch := omega) only [sm_wI_ne, sm_wI_nj, sm_wI_eq, sm_wA_ne, sm_wA_eq]
          unfold fillF
          rw [if_pos (by omega), if_pos (by omega)]
      · have H := h.1 q hq
        unfold RRow at H ⊢
        simp (disch := omega) only [sm_wI_ne, sm_wI_nj, sm_wI_eq, sm_wA_ne, sm_wA_eq]
        obtain ⟨o, a1, a2, a3⟩ := H
        refine ⟨o, a1, a2, fun m hm => ⟨(a3 m hm).1, fun j hj => ?_⟩⟩
        have := (a3 m hm).1
        rw [(a3 m hm).2 j hj]
        unfold fillF
        rw [if_neg (by omega)]
    · simp (disch := omega) only [sm_wI_ne, sm_wI_nj, sm_wI_eq, sm_wA_ne, sm_wA_eq]
    · simp (disch := omega) only [sm_wI_ne, sm_wI_nj, sm_wI_eq, sm_wA_ne, sm_wA_eq]
    · simp (disch := omega) only [sm_wI_ne, sm_wI_nj, sm_wI_eq, sm_wA_ne, sm_wA_eq]
theorem op_text {r n : Int32} {w : sm_Mem} (h : RC w) : Both (ff_ho_text r n) (ff_mo_text r n) (RCells w) w := by
  rcases aCases r 4 with hr | ⟨r, hr, -, rfl⟩
  · refine Both_same (-u32 1) ?_ ?_ h
    · unfold ff_ho_text ff_ho_make
      simp (disch := omega) only [u32_lit, sm_let_eq, sm_bind_some, sm_cI_some, sm_cV_some, sm_cL_some, sm_rd_u, sm_wr_u, u32_add, u32_mul, u32_sub, u32_le, u32_lt, u32_eq, u32_eq_neg, u32_neg_eq, u32_neg_neg, u32_le_neg, u32_neg_lt, u32_lt_neg, u32_neg_le, u10, u01, u3n0, u1n0, u4n0, n9_lt, n1_lt, n9_neg, n1_neg, if_true, if_false, if_pos, if_neg, ne_eq, not_true_eq_false, not_false_eq_true, al_texts, ho_within_bad hr]
    · unfold ff_mo_text
      simp (disch := omega) only [u32_lit, sm_let_eq, sm_bind_some, sm_cI_some, sm_cV_some, sm_cL_some, sm_rd_u, sm_wr_u, u32_add, u32_mul, u32_sub, u32_le, u32_lt, u32_eq, u32_eq_neg, u32_neg_eq, u32_neg_neg, u32_le_neg, u32_neg_lt, u32_lt_neg, u32_neg_le, u10, u01, u3n0, u1n0, u4n0, n9_lt, n1_lt, n9_neg, n1_neg, if_true, if_false, if_pos, if_neg, ne_eq, not_true_eq_false, not_false_eq_true, mo_isText_bad hr]
  have hR := isRow_text hr
  rcases aCases n 61 with (hn | ⟨n, hn, hn2, rfl⟩) | ⟨n, hn, -, rfl⟩
  · refine Both_ref 5 ?_ ?_ h
    · unfold ff_ho_text ff_ho_make
      simp (disch := omega) only [u32_lit, sm_let_eq, sm_bind_some, sm_cI_some, sm_cV_some, sm_cL_some, sm_rd_u, sm_wr_u, u32_add, u32_mul, u32_sub, u32_le, u32_lt, u32_eq, u32_eq_neg, u32_neg_eq, u32_neg_neg, u32_le_neg, u32_neg_lt, u32_lt_neg, u32_neg_le, u10, u01, u3n0, u1n0, u4n0, n9_lt, n1_lt, n9_neg, n1_neg, if_true, if_false, if_pos, if_neg, ne_eq, not_true_eq_false, not_false_eq_true, al_texts, ho_within_good hr, rr_text hr, hR.fk, hR.al, neg_le hn, neg_nle hn, td_refuse]
    · unfold ff_mo_text
      simp (disch := omega) only [u32_lit, sm_let_eq, sm_bind_some, sm_cI_some, sm_cV_some, sm_cL_some, sm_rd_u, sm_wr_u, u32_add, u32_mul, u32_sub, u32_le, u32_lt, u32_eq, u32_eq_neg, u32_neg_eq, u32_neg_neg, u32_le_neg, u32_neg_lt, u32_lt_neg, u32_neg_le, u10, u01, u3n0, u1n0, u4n0, n9_lt, n1_lt, n9_neg, n1_neg, if_true, if_false, if_pos, if_neg, ne_eq, not_true_eq_false, not_false_eq_true, mo_isText_good hr, neg_le hn, neg_nle hn, mo_find]
  · refine Both_same (-u32 1) ?_ ?_ h
    · unfold ff_ho_text ff_ho_make
      simp (disch := omega) only [u32_lit, sm_let_eq, sm_bind_some, sm_cI_some, sm_cV_some, sm_cL_some, sm_rd_u, sm_wr_u, u32_add, u32_mul, u32_sub, u32_le, u32_lt, u32_eq, u32_eq_neg, u32_neg_eq, u32_neg_neg, u32_le_neg, u32_neg_lt, u32_lt_neg, u32_neg_le, u10, u01, u3n0, u1n0, u4n0, n9_lt, n1_lt, n9_neg, n1_neg, if_true, if_false, if_pos, if_neg, ne_eq, not_true_eq_false, not_false_eq_true, al_texts, ho_within_good hr, rr_text hr, hR.fk, hR.al]
    · unfold ff_mo_text
      simp (disch := omega) only [u32_lit, sm_let_eq, sm_bind_some, sm_cI_some, sm_cV_some, sm_cL_some, sm_rd_u, sm_wr_u, u32_add, u32_mul, u32_sub, u32_le, u32_lt, u32_eq, u32_eq_neg, u32_neg_eq, u32_neg_neg, u32_le_neg, u32_neg_lt, u32_lt_neg, u32_neg_le, u10, u01, u3n0, u1n0, u4n0, n9_lt, n1_lt, n9_neg, n1_neg, if_true, if_false, if_pos, if_neg, ne_eq, not_true_eq_false, not_false_eq_true, mo_isText_good hr]
  · have hc : ff_ho_text (u32 r) (u32 n) w = some (.int (u32 n), sm_wA (sm_wI w (15 + 2 * r) 1 (u32 n)) (15 + 2 * r + 1) (fillF (w.1 (15 + 2 * r + 1)) 0 n (u32 32))) := by
      unfold ff_ho_text ff_ho_make
      simp (disch := omega) only [u32_lit, sm_let_eq, sm_bind_some, sm_cI_some, sm_cV_some, sm_cL_some, sm_rd_u, sm_wr_u, u32_add, u32_mul, u32_sub, u32_le, u32_lt, u32_eq, u32_eq_neg, u32_neg_eq, u32_neg_neg, u32_le_neg, u32_neg_lt, u32_lt_neg, u32_neg_le, u10, u01, u3n0, u1n0, u4n0, n9_lt, n1_lt, n9_neg, n1_neg, if_true, if_false, if_pos, if_neg, ne_eq, not_true_eq_false, not_false_eq_true, al_texts, ho_within_good hr, rr_text hr, hR.fk, hR.al, hR.rc, rw_begin hR (show n ≤ 60 by omega)]
    have hm : ∀ w1, ff_mo_text (u32 r) (u32 n) w1 = some (.int (u32 n), sm_wA (sm_wI w1 69 r (u32 n)) 70 (fillF (w1.1 70) (60 * r) (60 * r + 60) (u32 32))) := by
      intro w1
      unfold ff_mo_text ff_mo_text_34
      simp (disch := omega) only [u32_lit, sm_let_eq, sm_bind_some, sm_cI_some, sm_cV_some, sm_cL_some, sm_rd_u, sm_wr_u, u32_add, u32_mul, u32_sub, u32_le, u32_lt, u32_eq, u32_eq_neg, u32_neg_eq, u32_neg_neg, u32_le_neg, u32_neg_lt, u32_lt_neg, u32_neg_le, u10, u01, u3n0, u1n0, u4n0, n9_lt, n1_lt, n9_neg, n1_neg, if_true, if_false, if_pos, if_neg, ne_eq, not_true_eq_false, not_false_eq_true, mo_isText_good hr]
      rw [sm_N_eq, mo_text_loop hr 60 0 _ _ (by omega) (by omega), sm_wI_ne (by omega)]
      rfl
    refine Both_mk (.int (u32 n)) _ _ hc (hm _) ⟨RRows_fr (fun a ha => ?_) h.1, fun q hq => ?_, RTold_fr (w := w) (by simp (disch := omega) only [sm_wI_ne, sm_wI_nj, sm_wI_eq, sm_wA_ne, sm_wA_eq, and_self]) rfl h.2.2, fun a ha => ?_, ?_⟩
    · simp (disch := omega) only [sm_wI_ne, sm_wI_nj, sm_wI_eq, sm_wA_ne, sm_wA_eq]
    · by_cases hqr : q = r
      · subst hqr
        refine RText.mk_some (n := n) (by omega) ?_ ?_ (fun j hj => ?_)
        · simp (disch := omega) only [sm_wI_ne, sm_wI_nj, sm_wI_eq, sm_wA_ne, sm_wA_eq]
        · simp (disch := omega) only [sm_wI_ne, sm_wI_nj, sm_wI_eq, sm_wA_ne, sm_wA_eq]
        · simp (disch := omega) only [sm_wI_ne, sm_wI_nj, sm_wI_eq, sm_wA_ne, sm_wA_eq]
          unfold fillF
          rw [if_pos (by omega), if_pos (by omega)]
      · have H := h.2.1 q hq
        unfold RText at H ⊢
        simp (disch := omega) only [sm_wI_ne, sm_wI_nj, sm_wI_eq, sm_wA_ne, sm_wA_eq]
        obtain ⟨o, a1, a2, a3⟩ := H
        refine ⟨o, a1, a2, fun m hm => ⟨(a3 m hm).1, fun j hj => ?_⟩⟩
        have := (a3 m hm).1
        rw [(a3 m hm).2 j hj]
        unfold fillF
        rw [if_neg (by omega)]
    · simp (disch := omega) only [sm_wI_ne, sm_wI_nj, sm_wI_eq, sm_wA_ne, sm_wA_eq]
    · simp (disch := omega) only [sm_wI_ne, sm_wI_nj, sm_wI_eq, sm_wA_ne, sm_wA_eq]
