/-! pure: count, what is told, digest -/
theorem op_asked {w : sm_Mem} (h : R w) : Both ff_ho_asked ff_mo_asked R w := Both_mk (.int (w.1 60 0)) w w rfl (by unfold ff_mo_asked; rw [h.1.2.2.1]) h
theorem op_upper {w : sm_Mem} (h : R w) : Both ff_ho_upper ff_mo_upper R w := Both_mk (.long (w.2 60 1)) w w rfl (by unfold ff_mo_upper; rw [h.1.2.2.2.1]) h
theorem op_lower {w : sm_Mem} (h : R w) : Both ff_ho_lower ff_mo_lower R w := Both_mk (.long (w.2 60 2)) w w rfl (by unfold ff_mo_lower; rw [h.1.2.2.2.2.1]) h
theorem op_finding {w : sm_Mem} (h : R w) : Both ff_ho_finding ff_mo_finding R w := Both_mk (.int (w.1 60 3)) w w rfl (by unfold ff_mo_finding; rw [h.1.2.2.2.2.2.1]) h
theorem op_findings {f : Int32} {w : sm_Mem} (h : R w) : Both (ff_ho_findings f) (ff_mo_findings f) R w := by
  have hbad : (aBad f 6 ∨ f = u32 0) → Both (ff_ho_findings f) (ff_mo_findings f) R w := by
    intro hx
    refine BothR_same h (-u32 1) ?_ ?_
    · unfold ff_ho_findings
      simp only [u32_lit]
      rcases hx with (hx | ⟨n, a1, a2, rfl⟩) | rfl
      · rw [if_pos (by rw [neg_lt hx (by decide)]; trivial)]
      · rw [if_neg (by rw [u32_lt a2 (by decide)]; omega), if_pos (by rw [u32_lt (by decide) a2]; omega)]
      · rfl
    · have hq : ∀ w, ff_mo_in f.toInt64 1 5 w = some (.int (u32 0), w) := fun w => by
        rw [mo_in_eq, if_neg]
        have e1 : (1 : Int64).toInt = 1 := rfl
        have e2 : (5 : Int64).toInt = 5 := rfl
        rw [e1, e2]
        rcases hx with hx | hx
        · have := aBad_int hx
          omega
        · rw [hx, u32_toInt (by decide)]
          omega
      unfold ff_mo_findings
      rw [hq]
      rfl
  rcases aCases f 6 with hx | ⟨f, hx, -, rfl⟩
  · exact hbad (Or.inl hx)
  by_cases h0 : f = 0
  · exact hbad (Or.inr (by rw [h0]))
  have hq : ∀ w, ff_mo_in (u32 f).toInt64 1 5 w = some (.int (u32 1), w) := fun w => by
    rw [mo_in_eq, if_pos]
    have e1 : (1 : Int64).toInt = 1 := rfl
    have e2 : (5 : Int64).toInt = 5 := rfl
    rw [e1, e2, u32_toInt (by omega)]
    omega
  refine BothR_same h (w.1 61 f) ?_ ?_
  · unfold ff_ho_findings
    simp (disch := omega) only [u32_lit, sm_let_eq, sm_bind_some, sm_cI_some, sm_cV_some, sm_cL_some, sm_rd_u, sm_wr_u, u32_add, u32_mul, u32_sub, u32_le, u32_lt, u32_eq, u32_eq_neg, u32_neg_eq, u32_neg_neg, u32_le_neg, u32_neg_lt, u32_lt_neg, u32_neg_le, u10, u01, u3n0, u1n0, u4n0, n9_lt, n1_lt, n9_neg, n1_neg, if_true, if_false, if_pos, if_neg, ne_eq, not_true_eq_false, not_false_eq_true]
  · unfold ff_mo_findings
    rw [hq]
    simp (disch := omega) only [u32_lit, sm_let_eq, sm_bind_some, sm_cI_some, sm_cV_some, sm_cL_some, sm_rd_u, sm_wr_u, u32_add, u32_mul, u32_sub, u32_le, u32_lt, u32_eq, u32_eq_neg, u32_neg_eq, u32_neg_neg, u32_le_neg, u32_neg_lt, u32_lt_neg, u32_neg_le, u10, u01, u3n0, u1n0, u4n0, n9_lt, n1_lt, n9_neg, n1_neg, if_true, if_false, if_pos, if_neg, ne_eq, not_true_eq_false, not_false_eq_true]
    rw [h.1.2.2.2.2.2.2 f hx]
def sumB (f : Nat → Nat) : Nat → Nat → Int32 → Int32
  | _, 0, a => a
  | i, m + 1, a => sumB f (i + 1) m (a + u32 (f i))
def anyF (H : HV) : Nat → Nat → Int32 → Int32
  | _, 0, a => a
  | i, m + 1, a => anyF H (i + 1) m (a ||| sayF H i)
theorem hs_breath_loop {H : HV} {w : sm_Mem} (h : CH w H) (hok : HOk H) : ∀ (m i F : Nat) (a : Int32), i + m = hN H → m < F → ff_hs_breathLeft_4_f F a (u32 i) w = some (.int (sumB (hB H) i m a), w) := by
  have h6 := hok.1
  intro m
  induction m with
  | zero =>
    intro i F a hm hF
    obtain ⟨F, rfl⟩ : ∃ G, F = G + 1 := ⟨F - 1, by omega⟩
    rw [ff_hs_breathLeft_4_f]
    unfold ff_hs_breathLeft_4_b
    simp (disch := omega) only [u32_lit, sm_let_eq, sm_bind_some, sm_cI_some, sm_cV_some, sm_cL_some, sm_rd_u, sm_wr_u, u32_add, u32_mul, u32_sub, u32_le, u32_lt, u32_eq, u32_eq_neg, u32_neg_eq, u32_neg_neg, u32_le_neg, u32_neg_lt, u32_lt_neg, u32_neg_le, u10, u01, u3n0, u1n0, u4n0, n9_lt, n1_lt, n9_neg, n1_neg, if_true, if_false, if_pos, if_neg, ne_eq, not_true_eq_false, not_false_eq_true, h.1, sumB]
  | succ m ih =>
    intro i F a hm hF
    obtain ⟨F, rfl⟩ : ∃ G, F = G + 1 := ⟨F - 1, by omega⟩
    rw [ff_hs_breathLeft_4_f]
    unfold ff_hs_breathLeft_4_b
    have hi : i < hN H := by omega
    simp (disch := omega) only [u32_lit, h.1, u32_le, if_neg, sm_rd_u, sm_bind_some, (h.2.1 i hi).2.2.2, u32_add, sumB]
    rw [ih (i + 1) F _ (by omega) (by omega)]
theorem hs_any_loop {H : HV} {w : sm_Mem} (h : CH w H) (hok : HOk H) : ∀ (m i F : Nat) (a : Int32), i + m = hN H → m < F → ff_hs_sayableByAny_4_f F a (u32 i) w = some (.int (anyF H i m a), w) := by
  have h6 := hok.1
  intro m
  induction m with
  | zero =>
    intro i F a hm hF
    obtain ⟨F, rfl⟩ : ∃ G, F = G + 1 := ⟨F - 1, by omega⟩
    rw [ff_hs_sayableByAny_4_f]
    unfold ff_hs_sayableByAny_4_b
    simp (disch := omega) only [u32_lit, sm_let_eq, sm_bind_some, sm_cI_some, sm_cV_some, sm_cL_some, sm_rd_u, sm_wr_u, u32_add, u32_mul, u32_sub, u32_le, u32_lt, u32_eq, u32_eq_neg, u32_neg_eq, u32_neg_neg, u32_le_neg, u32_neg_lt, u32_lt_neg, u32_neg_le, u10, u01, u3n0, u1n0, u4n0, n9_lt, n1_lt, n9_neg, n1_neg, if_true, if_false, if_pos, if_neg, ne_eq, not_true_eq_false, not_false_eq_true, h.1, anyF]
  | succ m ih =>
    intro i F a hm hF
    obtain ⟨F, rfl⟩ : ∃ G, F = G + 1 := ⟨F - 1, by omega⟩
    rw [ff_hs_sayableByAny_4_f]
    unfold ff_hs_sayableByAny_4_b
    have hi : i < hN H := by omega
    simp (disch := omega) only [u32_lit, h.1, u32_le, if_neg, hs_sayable h hok hi, sm_cI_some, u32_add, anyF]
    rw [ih (i + 1) F _ (by omega) (by omega)]
theorem mo_any_loop {H : HV} {w : sm_Mem} (h : MH w 0 H) (hok : HOk H) : ∀ (m i F : Nat) (a : Int32), i + m = hN H → m < F → ff_mo_wordsNext_4_f F a (u32 i) w = some (.int (anyF H i m a), w) := by
  have h6 := hok.1
  intro m
  induction m with
  | zero =>
    intro i F a hm hF
    obtain ⟨F, rfl⟩ : ∃ G, F = G + 1 := ⟨F - 1, by omega⟩
    rw [ff_mo_wordsNext_4_f]
    unfold ff_mo_wordsNext_4_b
    simp (disch := omega) only [u32_lit, sm_let_eq, sm_bind_some, sm_cI_some, sm_cV_some, sm_cL_some, sm_rd_u, sm_wr_u, u32_add, u32_mul, u32_sub, u32_le, u32_lt, u32_eq, u32_eq_neg, u32_neg_eq, u32_neg_neg, u32_le_neg, u32_neg_lt, u32_lt_neg, u32_neg_le, u10, u01, u3n0, u1n0, u4n0, n9_lt, n1_lt, n9_neg, n1_neg, if_true, if_false, if_pos, if_neg, ne_eq, not_true_eq_false, not_false_eq_true, h.1, anyF]
  | succ m ih =>
    intro i F a hm hF
    obtain ⟨F, rfl⟩ : ∃ G, F = G + 1 := ⟨F - 1, by omega⟩
    rw [ff_mo_wordsNext_4_f]
    unfold ff_mo_wordsNext_4_b
    have hi : i < hN H := by omega
    simp (disch := omega) only [u32_lit, h.1, u32_le, if_neg, mo_whatCan h hok (show 0 ≤ 5152 by omega) hi, sm_cI_some, u32_add, anyF]
    rw [ih (i + 1) F _ (by omega) (by omega)]
theorem hs_parrots_loop {H : HV} {w : sm_Mem} (h : CH w H) (hok : HOk H) : ∀ (m i F : Nat) (a : Int32), i + m = hN H → m < F → ff_hs_parrots_4_f F a (u32 i) w = some (.int (cntF (fun i => isOfV (hK H i) 1) i m a), w) := by
  have h6 := hok.1
  intro m
  induction m with
  | zero =>
    intro i F a hm hF
    obtain ⟨F, rfl⟩ : ∃ G, F = G + 1 := ⟨F - 1, by omega⟩
    rw [ff_hs_parrots_4_f]
    unfold ff_hs_parrots_4_b
    simp (disch := omega) only [u32_lit, sm_let_eq, sm_bind_some, sm_cI_some, sm_cV_some, sm_cL_some, sm_rd_u, sm_wr_u, u32_add, u32_mul, u32_sub, u32_le, u32_lt, u32_eq, u32_eq_neg, u32_neg_eq, u32_neg_neg, u32_le_neg, u32_neg_lt, u32_lt_neg, u32_neg_le, u10, u01, u3n0, u1n0, u4n0, n9_lt, n1_lt, n9_neg, n1_neg, if_true, if_false, if_pos, if_neg, ne_eq, not_true_eq_false, not_false_eq_true, h.1, cntF]
  | succ m ih =>
    intro i F a hm hF
    obtain ⟨F, rfl⟩ : ∃ G, F = G + 1 := ⟨F - 1, by omega⟩
    rw [ff_hs_parrots_4_f]
    unfold ff_hs_parrots_4_b
    have hi : i < hN H := by omega
    simp (disch := omega) only [u32_lit, h.1, u32_le, if_neg, sm_rd_u, sm_bind_some, (h.2.1 i hi).1, ho_isOf (hok.2.1 i hi).1 (show 1 < 6 by omega), sm_cI_some, u32_bool_eq0, u32_add, cntF]
    by_cases hb : isOfV (hK H i) 1 = true
    · rw [if_neg (by rw [hb]; decide), if_pos hb]
      exact ih (i + 1) F _ (by omega) (by omega)
    · rw [if_pos (by simpa using hb), if_neg hb]
      exact ih (i + 1) F _ (by omega) (by omega)
theorem mo_isParrot {k : Nat} {w : sm_Mem} (hk : k < 6) : ff_mo_isParrot (u32 k) w = some (.int (u32 (isOfV k 1).toNat), w) := by
  unfold ff_mo_isParrot
  simp (disch := omega) only [u32_lit, u32_eq]
  unfold isOfV
  repeat' split
  all_goals first | (rw [decide_eq_true (by omega)]; rfl) | (rw [decide_eq_false (by omega)]; rfl)
theorem mo_sum7_loop {H : HV} {w : sm_Mem} (h : MH w 0 H) (hok : HOk H) : ∀ (m i F : Nat) (a : Int32), i + m = hN H → m < F → ff_mo_sumOf_4_f F (u32 7) a (u32 i) w = some (.int (cntF (fun i => isOfV (hK H i) 1) i m a), w) := by
  have h6 := hok.1
  intro m
  induction m with
  | zero =>
    intro i F a hm hF
    obtain ⟨F, rfl⟩ : ∃ G, F = G + 1 := ⟨F - 1, by omega⟩
    rw [ff_mo_sumOf_4_f]
    unfold ff_mo_sumOf_4_b
    simp (disch := omega) only [u32_lit, sm_let_eq, sm_bind_some, sm_cI_some, sm_cV_some, sm_cL_some, sm_rd_u, sm_wr_u, u32_add, u32_mul, u32_sub, u32_le, u32_lt, u32_eq, u32_eq_neg, u32_neg_eq, u32_neg_neg, u32_le_neg, u32_neg_lt, u32_lt_neg, u32_neg_le, u10, u01, u3n0, u1n0, u4n0, n9_lt, n1_lt, n9_neg, n1_neg, if_true, if_false, if_pos, if_neg, ne_eq, not_true_eq_false, not_false_eq_true, h.1, cntF]
  | succ m ih =>
    intro i F a hm hF
    obtain ⟨F, rfl⟩ : ∃ G, F = G + 1 := ⟨F - 1, by omega⟩
    rw [ff_mo_sumOf_4_f]
    unfold ff_mo_sumOf_4_b ff_mo_sumOf_47
    have hi : i < hN H := by omega
    simp (disch := omega) only [u32_lit, h.1, u32_le, if_neg, u32_eq, sm_rd_u, sm_bind_some, (h.2.1 i hi).1, mo_isParrot (hok.2.1 i hi).1, sm_cI_some, u32_bool_eq0, u32_add, add_u0, cntF]
    by_cases hb : isOfV (hK H i) 1 = true
    · rw [if_neg (by rw [hb]; decide), if_pos hb]
      exact ih (i + 1) F _ (by omega) (by omega)
    · rw [if_pos (by simpa using hb), if_neg hb]
      exact ih (i + 1) F _ (by omega) (by omega)
theorem mo_sum5_loop {H : HV} {w : sm_Mem} (h : MH w 0 H) (hok : HOk H) : ∀ (m i F : Nat) (a : Int32), i + m = hN H → m < F → ff_mo_sumOf_4_f F (u32 5) a (u32 i) w = some (.int (sumB (hB H) i m a), w) := by
  have h6 := hok.1
  intro m
  induction m with
  | zero =>
    intro i F a hm hF
    obtain ⟨F, rfl⟩ : ∃ G, F = G + 1 := ⟨F - 1, by omega⟩
    rw [ff_mo_sumOf_4_f]
    unfold ff_mo_sumOf_4_b
    simp (disch := omega) only [u32_lit, sm_let_eq, sm_bind_some, sm_cI_some, sm_cV_some, sm_cL_some, sm_rd_u, sm_wr_u, u32_add, u32_mul, u32_sub, u32_le, u32_lt, u32_eq, u32_eq_neg, u32_neg_eq, u32_neg_neg, u32_le_neg, u32_neg_lt, u32_lt_neg, u32_neg_le, u10, u01, u3n0, u1n0, u4n0, n9_lt, n1_lt, n9_neg, n1_neg, if_true, if_false, if_pos, if_neg, ne_eq, not_true_eq_false, not_false_eq_true, h.1, sumB]
  | succ m ih =>
    intro i F a hm hF
    obtain ⟨F, rfl⟩ : ∃ G, F = G + 1 := ⟨F - 1, by omega⟩
    rw [ff_mo_sumOf_4_f]
    unfold ff_mo_sumOf_4_b ff_mo_sumOf_47
    have hi : i < hN H := by omega
    have rb := (h.2.1 i hi).2.2.2
    rw [Nat.zero_add] at rb
    simp (disch := omega) only [u32_lit, h.1, u32_le, if_neg, if_true, sm_rd_u, sm_bind_some, rb, u32_add, sumB]
    rw [ih (i + 1) F _ (by omega) (by omega)]
/-! how many are there -/
theorem row_there {w : sm_Mem} {r : Nat} (h : RRow w r) : (w.1 (2 + 2 * r) 1 = -u32 9 ∧ w.1 67 r = -u32 1 ∧ decide (u32 0 ≤ w.1 67 r) = false) ∨ ∃ n, n ≤ 40 ∧ w.1 (2 + 2 * r) 1 = u32 n ∧ w.1 67 r = u32 n ∧ decide (u32 0 ≤ w.1 67 r) = true := by
  rcases h.cases with ⟨a, b⟩ | ⟨n, hn, a, b, -⟩
  · exact Or.inl ⟨a, b, by rw [b]; decide⟩
  · exact Or.inr ⟨n, hn, a, b, by rw [b]; exact decide_eq_true (by rw [u32_le (by decide) (by omega)]; omega)⟩
theorem ho_present_row {w : sm_Mem} (h : ∀ r, r < 6 → RRow w r) : ∀ (m i F : Nat) (a : Int32), i + m = 6 → m < F → ff_ho_present_4_f F 1 a (u32 i) w = some (.int (cntF (fun r => decide (u32 0 ≤ w.1 67 r)) i m a), w) := by
  intro m
  induction m with
  | zero =>
    intro i F a hm hF
    obtain ⟨F, rfl⟩ : ∃ G, F = G + 1 := ⟨F - 1, by omega⟩
    rw [ff_ho_present_4_f]
    unfold ff_ho_present_4_b
    simp (disch := omega) only [u32_lit, sm_let_eq, sm_bind_some, sm_cI_some, sm_cV_some, sm_cL_some, sm_rd_u, sm_wr_u, u32_add, u32_mul, u32_sub, u32_le, u32_lt, u32_eq, u32_eq_neg, u32_neg_eq, u32_neg_neg, u32_le_neg, u32_neg_lt, u32_lt_neg, u32_neg_le, u10, u01, u3n0, u1n0, u4n0, n9_lt, n1_lt, n9_neg, n1_neg, if_true, if_false, if_pos, if_neg, ne_eq, not_true_eq_false, not_false_eq_true, al_rows, cntF]
  | succ m ih =>
    intro i F a hm hF
    obtain ⟨F, rfl⟩ : ∃ G, F = G + 1 := ⟨F - 1, by omega⟩
    have hi : i < 6 := by omega
    have hR := isRow_row hi
    have ih := fun a => ih (i + 1) F a (by omega) (by omega)
    rw [ff_ho_present_4_f]
    unfold ff_ho_present_4_b
    rcases row_there (h i hi) with ⟨b1, b2, b3⟩ | ⟨n, b0, b1, b2, b3⟩
    · simp (disch := omega) only [u32_lit, al_rows, sm_bind_some, u32_le, if_neg, rr_row hi, hR.rc, rw_isMissing_none hR b1, sm_cI_some, u10, if_false, u32_add, cntF]
      rw [if_neg (by rw [b3]; decide)]
      exact ih a
    · simp (disch := omega) only [u32_lit, al_rows, sm_bind_some, u32_le, if_neg, rr_row hi, hR.rc, rw_isMissing_some hR (show n < 2147483648 by omega) b1, sm_cI_some, if_true, u32_add, cntF]
      rw [if_pos b3]
      exact ih _
theorem text_there {w : sm_Mem} {r : Nat} (h : RText w r) : (w.1 (15 + 2 * r) 1 = -u32 9 ∧ w.1 69 r = -u32 1 ∧ decide (u32 0 ≤ w.1 69 r) = false) ∨ ∃ n, n ≤ 60 ∧ w.1 (15 + 2 * r) 1 = u32 n ∧ w.1 69 r = u32 n ∧ decide (u32 0 ≤ w.1 69 r) = true := by
  rcases h.cases with ⟨a, b⟩ | ⟨n, hn, a, b, -⟩
  · exact Or.inl ⟨a, b, by rw [b]; decide⟩
  · exact Or.inr ⟨n, hn, a, b, by rw [b]; exact decide_eq_true (by rw [u32_le (by decide) (by omega)]; omega)⟩
theorem ho_present_text {w : sm_Mem} (h : ∀ r, r < 4 → RText w r) : ∀ (m i F : Nat) (a : Int32), i + m = 4 → m < F → ff_ho_present_4_f F 14 a (u32 i) w = some (.int (cntF (fun r => decide (u32 0 ≤ w.1 69 r)) i m a), w) := by
  intro m
  induction m with
  | zero =>
    intro i F a hm hF
    obtain ⟨F, rfl⟩ : ∃ G, F = G + 1 := ⟨F - 1, by omega⟩
    rw [ff_ho_present_4_f]
    unfold ff_ho_present_4_b
    simp (disch := omega) only [u32_lit, sm_let_eq, sm_bind_some, sm_cI_some, sm_cV_some, sm_cL_some, sm_rd_u, sm_wr_u, u32_add, u32_mul, u32_sub, u32_le, u32_lt, u32_eq, u32_eq_neg, u32_neg_eq, u32_neg_neg, u32_le_neg, u32_neg_lt, u32_lt_neg, u32_neg_le, u10, u01, u3n0, u1n0, u4n0, n9_lt, n1_lt, n9_neg, n1_neg, if_true, if_false, if_pos, if_neg, ne_eq, not_true_eq_false, not_false_eq_true, al_texts, cntF]
  | succ m ih =>
    intro i F a hm hF
    obtain ⟨F, rfl⟩ : ∃ G, F = G + 1 := ⟨F - 1, by omega⟩
    have hi : i < 4 := by omega
    have hR := isRow_text hi
    have ih := fun a => ih (i + 1) F a (by omega) (by omega)
    rw [ff_ho_present_4_f]
    unfold ff_ho_present_4_b
    rcases text_there (h i hi) with ⟨b1, b2, b3⟩ | ⟨n, b0, b1, b2, b3⟩
    · simp (disch := omega) only [u32_lit, al_texts, sm_bind_some, u32_le, if_neg, rr_text hi, hR.rc, rw_isMissing_none hR b1, sm_cI_some, u10, if_false, u32_add, cntF]
      rw [if_neg (by rw [b3]; decide)]
      exact ih a
    · simp (disch := omega) only [u32_lit, al_texts, sm_bind_some, u32_le, if_neg, rr_text hi, hR.rc, rw_isMissing_some hR (show n < 2147483648 by omega) b1, sm_cI_some, if_true, u32_add, cntF]
      rw [if_pos b3]
      exact ih _
theorem mo_there8_loop {w : sm_Mem} (h : ∀ r, r < 6 → RRow w r) : ∀ (m i F : Nat) (a : Int32), i + m = 6 → m < F → ff_mo_thereOf_4_f F (u32 8) a (u32 i) w = some (.int (cntF (fun r => decide (u32 0 ≤ w.1 67 r)) i m a), w) := by
  intro m
  induction m with
  | zero =>
    intro i F a hm hF
    obtain ⟨F, rfl⟩ : ∃ G, F = G + 1 := ⟨F - 1, by omega⟩
    rw [ff_mo_thereOf_4_f]
    unfold ff_mo_thereOf_4_b
    simp (disch := omega) only [u32_lit, sm_let_eq, sm_bind_some, sm_cI_some, sm_cV_some, sm_cL_some, sm_rd_u, sm_wr_u, u32_add, u32_mul, u32_sub, u32_le, u32_lt, u32_eq, u32_eq_neg, u32_neg_eq, u32_neg_neg, u32_le_neg, u32_neg_lt, u32_lt_neg, u32_neg_le, u10, u01, u3n0, u1n0, u4n0, n9_lt, n1_lt, n9_neg, n1_neg, if_true, if_false, if_pos, if_neg, ne_eq, not_true_eq_false, not_false_eq_true, cntF]
  | succ m ih =>
    intro i F a hm hF
    obtain ⟨F, rfl⟩ : ∃ G, F = G + 1 := ⟨F - 1, by omega⟩
    have ih := fun a => ih (i + 1) F a (by omega) (by omega)
    rw [ff_mo_thereOf_4_f]
    unfold ff_mo_thereOf_4_b ff_mo_thereOf_89
    simp (disch := omega) only [u32_lit, u32_le, if_neg, if_true, sm_rd_u, sm_bind_some, add_u0, u32_add, cntF]
    by_cases hb : u32 0 ≤ w.1 67 i
    · rw [if_pos hb, if_pos (by simpa using hb)]
      exact ih _
    · rw [if_neg hb, if_neg (by simpa using hb)]
      exact ih _
theorem mo_there9_loop {w : sm_Mem} (h : ∀ r, r < 4 → RText w r) : ∀ (m i F : Nat) (a : Int32), i + m = 6 → m < F → ff_mo_thereOf_4_f F (u32 9) a (u32 i) w = some (.int (cntF (fun r => decide (r < 4) && decide (u32 0 ≤ w.1 69 r)) i m a), w) := by
  intro m
  induction m with
  | zero =>
    intro i F a hm hF
    obtain ⟨F, rfl⟩ : ∃ G, F = G + 1 := ⟨F - 1, by omega⟩
    rw [ff_mo_thereOf_4_f]
    unfold ff_mo_thereOf_4_b
    simp (disch := omega) only [u32_lit, sm_let_eq, sm_bind_some, sm_cI_some, sm_cV_some, sm_cL_some, sm_rd_u, sm_wr_u, u32_add, u32_mul, u32_sub, u32_le, u32_lt, u32_eq, u32_eq_neg, u32_neg_eq, u32_neg_neg, u32_le_neg, u32_neg_lt, u32_lt_neg, u32_neg_le, u10, u01, u3n0, u1n0, u4n0, n9_lt, n1_lt, n9_neg, n1_neg, if_true, if_false, if_pos, if_neg, ne_eq, not_true_eq_false, not_false_eq_true, cntF]
  | succ m ih =>
    intro i F a hm hF
    obtain ⟨F, rfl⟩ : ∃ G, F = G + 1 := ⟨F - 1, by omega⟩
    have ih := fun a => ih (i + 1) F a (by omega) (by omega)
    rw [ff_mo_thereOf_4_f]
    unfold ff_mo_thereOf_4_b ff_mo_thereOf_89 ff_mo_thereOf_58 ff_mo_thereOf_89
    simp (disch := omega) only [u32_lit, u32_le, u32_eq, if_neg, if_true, add_u0, u32_add, cntF]
    by_cases h4 : 4 ≤ i
    · rw [if_pos h4, if_neg (by simp; omega)]
      exact ih _
    · rw [if_neg h4]
      simp (disch := omega) only [sm_rd_u, sm_bind_some]
      rcases text_there (h i (by omega)) with ⟨b1, b2, b3⟩ | ⟨n, b0, b1, b2, b3⟩
      · rw [if_pos (by rw [b2]; decide), if_neg (by simp only [b3, Bool.and_false]; decide)]
        exact ih _
      · rw [if_neg (by rw [b2, u32_nneg (by omega)]; exact id), if_pos (by simp only [b3, Bool.and_true, decide_eq_true_eq]; omega)]
        exact ih _
/-- kept houses -/
theorem kept_there {w : sm_Mem} {B : HBase} {k : Nat} (h : RKept w B k) : (w.1 (24 + 4 * k) 3 = -u32 9 ∧ w.1 63 (1272 * (k + 1)) = -u32 1 ∧ decide (u32 0 ≤ w.1 63 (1272 * (k + 1))) = false) ∨ ∃ n, n ≤ 40 ∧ w.1 (24 + 4 * k) 3 = u32 n ∧ w.1 63 (1272 * (k + 1)) = u32 n ∧ decide (u32 0 ≤ w.1 63 (1272 * (k + 1))) = true := by
  rcases h with ⟨a, b⟩ | ⟨l, hl, -, a, b⟩
  · exact Or.inl ⟨a, b, by rw [b]; decide⟩
  · exact Or.inr ⟨l.length, hl, a.1, b.1, by rw [b.1]; exact decide_eq_true (by rw [u32_le (by decide) (by omega)]; omega)⟩
theorem ho_kept_loop {w : sm_Mem} {B : HBase} (h : ∀ k, k < 3 → RKept w B k) : ∀ (m i F : Nat) (a : Int32), i + m = 3 → m < F → ff_ho_keptHouses_4_f F a (u32 i) w = some (.int (cntF (fun k => decide (u32 0 ≤ w.1 63 (1272 * (k + 1)))) i m a), w) := by
  intro m
  induction m with
  | zero =>
    intro i F a hm hF
    obtain ⟨F, rfl⟩ : ∃ G, F = G + 1 := ⟨F - 1, by omega⟩
    rw [ff_ho_keptHouses_4_f]
    unfold ff_ho_keptHouses_4_b
    simp (disch := omega) only [u32_lit, sm_let_eq, sm_bind_some, sm_cI_some, sm_cV_some, sm_cL_some, sm_rd_u, sm_wr_u, u32_add, u32_mul, u32_sub, u32_le, u32_lt, u32_eq, u32_eq_neg, u32_neg_eq, u32_neg_neg, u32_le_neg, u32_neg_lt, u32_lt_neg, u32_neg_le, u10, u01, u3n0, u1n0, u4n0, n9_lt, n1_lt, n9_neg, n1_neg, if_true, if_false, if_pos, if_neg, ne_eq, not_true_eq_false, not_false_eq_true, cntF]
  | succ m ih =>
    intro i F a hm hF
    obtain ⟨F, rfl⟩ : ∃ G, F = G + 1 := ⟨F - 1, by omega⟩
    have hi : i < 3 := by omega
    have hD := isDeeds_kept hi
    have ih := fun a => ih (i + 1) F a (by omega) (by omega)
    rw [ff_ho_keptHouses_4_f]
    unfold ff_ho_keptHouses_4_b ff_de_isMissing
    rcases kept_there (h i hi) with ⟨b1, b2, b3⟩ | ⟨n, b0, b1, b2, b3⟩
    · simp (disch := omega) only [u32_lit, sm_bind_some, u32_le, if_neg, rr_kept hi, hD.rc, hD.gI, b1, n9_lt, if_false, sm_cI_some, u10, u32_add, cntF]
      rw [if_neg (by rw [b3]; decide)]
      exact ih a
    · simp (disch := omega) only [u32_lit, sm_bind_some, u32_le, if_neg, rr_kept hi, hD.rc, hD.gI, b1, Nat.zero_le, if_true, sm_cI_some, u32_add, cntF]
      rw [if_pos b3]
      exact ih _
theorem mo_there10_loop {w : sm_Mem} {B : HBase} (h : ∀ k, k < 3 → RKept w B k) : ∀ (m i F : Nat) (a : Int32), i + m = 6 → m < F → ff_mo_thereOf_4_f F (u32 10) a (u32 i) w = some (.int (cntF (fun k => decide (k < 3) && decide (u32 0 ≤ w.1 63 (1272 * (k + 1)))) i m a), w) := by
  intro m
  induction m with
  | zero =>
    intro i F a hm hF
    obtain ⟨F, rfl⟩ : ∃ G, F = G + 1 := ⟨F - 1, by omega⟩
    rw [ff_mo_thereOf_4_f]
    unfold ff_mo_thereOf_4_b
    simp (disch := omega) only [u32_lit, sm_let_eq, sm_bind_some, sm_cI_some, sm_cV_some, sm_cL_some, sm_rd_u, sm_wr_u, u32_add, u32_mul, u32_sub, u32_le, u32_lt, u32_eq, u32_eq_neg, u32_neg_eq, u32_neg_neg, u32_le_neg, u32_neg_lt, u32_lt_neg, u32_neg_le, u10, u01, u3n0, u1n0, u4n0, n9_lt, n1_lt, n9_neg, n1_neg, if_true, if_false, if_pos, if_neg, ne_eq, not_true_eq_false, not_false_eq_true, cntF]
  | succ m ih =>
    intro i F a hm hF
    obtain ⟨F, rfl⟩ : ∃ G, F = G + 1 := ⟨F - 1, by omega⟩
    have ih := fun a => ih (i + 1) F a (by omega) (by omega)
    rw [ff_mo_thereOf_4_f]
    unfold ff_mo_thereOf_4_b ff_mo_thereOf_89 ff_mo_thereOf_88 ff_mo_thereOf_89
    simp (disch := omega) only [u32_lit, u32_le, u32_eq, if_neg, add_u0, u32_add, u32_mul, cntF]
    by_cases h4 : 3 ≤ i
    · rw [if_pos h4, if_neg (by simp; omega)]
      exact ih _
    · rw [if_neg h4]
      simp (disch := omega) only [sm_rd_u, sm_bind_some]
      rw [show 1272 * (1 + i) = 1272 * (i + 1) by omega]
      rcases kept_there (h i (by omega)) with ⟨b1, b2, b3⟩ | ⟨n, b0, b1, b2, b3⟩
      · rw [if_pos (by rw [b2]; decide), if_neg (by simp only [b3, Bool.and_false]; decide)]
        exact ih _
      · rw [if_neg (by rw [b2, u32_nneg (by omega)]; exact id), if_pos (by simp only [b3, Bool.and_true, decide_eq_true_eq]; omega)]
        exact ih _
theorem cntF_add {p : Nat → Bool} : ∀ (m k i : Nat) (a : Int32), cntF p i (m + k) a = cntF p (i + m) k (cntF p i m a)
  | 0, k, i, a => by rw [Nat.zero_add]; rfl
  | m + 1, k, i, a => by rw [show m + 1 + k = (m + k) + 1 by omega, cntF, cntF_add m k (i + 1) _, cntF, show i + 1 + m = i + (m + 1) by omega]
theorem cntF_none {p : Nat → Bool} : ∀ (m i : Nat) (a : Int32), (∀ j, i ≤ j → p j = false) → cntF p i m a = a
  | 0, _, _, _ => rfl
  | m + 1, i, a, h => by
    rw [cntF, h i (Nat.le_refl _), if_neg (by decide)]
    exact cntF_none m (i + 1) a (fun j hj => h j (by omega))
def countV (w : sm_Mem) (B : HBase) (ds : List Deed) : Nat → Int32
  | 0 => u32 B.1
  | 1 => u32 (hH (playV B ds).1)
  | 2 => u32 ds.length
  | 3 => u32 (hO (playV B ds).1).length
  | 4 => u32 (playV B ds).2
  | 5 => sumB (hB (playV B ds).1) 0 (hN (playV B ds).1) (u32 0)
  | 6 => anyF (playV B ds).1 0 (hN (playV B ds).1) (u32 0)
  | 7 => cntF (fun i => isOfV (hK (playV B ds).1 i) 1) 0 (hN (playV B ds).1) (u32 0)
  | 8 => cntF (fun r => decide (u32 0 ≤ w.1 67 r)) 0 6 (u32 0)
  | 9 => cntF (fun r => decide (u32 0 ≤ w.1 69 r)) 0 4 (u32 0)
  | _ => cntF (fun k => decide (u32 0 ≤ w.1 63 (1272 * (k + 1)))) 0 3 (u32 0)
theorem ho_tally {B : HBase} {ds : List Deed} {x : Nat} {w : sm_Mem} (hc : RC w) (hh : RHs w B ds) (hx : x < 11) : ff_ho_tally (u32 x) w = some (.int (countV w B ds x), w) := by
  obtain ⟨hok, hn, n1, n2, n6⟩ := hh.n
  obtain ⟨h1, h2, h3, h4, h5, h6, h7, h8, h9⟩ := id hh
  have e0 : sm_sw (u32 x) 0 = sm_sw (u32 x) ((0 : Nat) : Int) := rfl
  have s5 : ff_hs_breathLeft w = some (.int (countV w B ds 5), w) := by
    unfold ff_hs_breathLeft ff_hs_breathLeft_4
    rw [sm_N_eq, u32_lit]
    exact hs_breath_loop h6.1 hok _ 0 1000000 _ (by omega) (by omega)
  have s6 : ff_hs_sayableByAny w = some (.int (countV w B ds 6), w) := by
    unfold ff_hs_sayableByAny ff_hs_sayableByAny_4
    rw [sm_N_eq, u32_lit]
    exact hs_any_loop h6.1 hok _ 0 1000000 _ (by omega) (by omega)
  have s7 : ff_hs_parrots w = some (.int (countV w B ds 7), w) := by
    unfold ff_hs_parrots ff_hs_parrots_4
    rw [sm_N_eq, u32_lit]
    exact hs_parrots_loop h6.1 hok _ 0 1000000 _ (by omega) (by omega)
  have s8 : ff_ho_present 1 w = some (.int (countV w B ds 8), w) := by
    unfold ff_ho_present ff_ho_present_4
    rw [sm_N_eq, u32_lit]
    exact ho_present_row hc.1 6 0 1000000 _ (by omega) (by omega)
  have s9 : ff_ho_present 14 w = some (.int (countV w B ds 9), w) := by
    unfold ff_ho_present ff_ho_present_4
    rw [sm_N_eq, u32_lit]
    exact ho_present_text hc.2.1 4 0 1000000 _ (by omega) (by omega)
  have s10 : ff_ho_keptHouses w = some (.int (countV w B ds 10), w) := by
    unfold ff_ho_keptHouses ff_ho_keptHouses_4
    rw [sm_N_eq, u32_lit]
    exact ho_kept_loop h9 3 0 1000000 _ (by omega) (by omega)
  unfold ff_ho_tally
  rw [s5, s6, s7, s8, s9, s10, e0, n1, h6.1.2.2.1, h7.1, h6.1.2.2.2.1, h6.2]
  simp only [sm_cI_some]
  rw [sm_sw_u (by omega)]
  rcases (show x = 0 ∨ x = 1 ∨ x = 2 ∨ x = 3 ∨ x = 4 ∨ x = 5 ∨ x = 6 ∨ x = 7 ∨ x = 8 ∨ x = 9 ∨ x = 10 by omega) with rfl | rfl | rfl | rfl | rfl | rfl | rfl | rfl | rfl | rfl | rfl <;> rfl
theorem mo_countOf {B : HBase} {ds : List Deed} {x : Nat} {w : sm_Mem} (hc : RC w) (hh : RHs w B ds) (hx : x < 11) : ff_mo_countOf (u32 x) w = some (.int (countV w B ds x), w) := by
  obtain ⟨hok, hn, n1, n2, n6⟩ := hh.n
  obtain ⟨h1, h2, h3, h4, h5, h6, h7, h8, h9⟩ := id hh
  have e0 : sm_sw (u32 x) 0 = sm_sw (u32 x) ((0 : Nat) : Int) := rfl
  have s5 : ff_mo_countOf_81 (u32 5) w = some (.int (countV w B ds 5), w) := by
    unfold ff_mo_countOf_81 ff_mo_sumOf ff_mo_sumOf_4
    rw [sm_N_eq, u32_lit, mo_sum5_loop h8.2.1.1 hok (hN (playV B ds).1) 0 1000000 _ (by omega) (by omega)]
    rfl
  have s6 : ff_mo_wordsNext w = some (.int (countV w B ds 6), w) := by
    unfold ff_mo_wordsNext ff_mo_wordsNext_4
    rw [sm_N_eq, u32_lit]
    exact mo_any_loop h8.2.1.1 hok _ 0 1000000 _ (by omega) (by omega)
  have s7 : ff_mo_countOf_81 (u32 7) w = some (.int (countV w B ds 7), w) := by
    unfold ff_mo_countOf_81 ff_mo_sumOf ff_mo_sumOf_4
    rw [sm_N_eq, u32_lit, mo_sum7_loop h8.2.1.1 hok (hN (playV B ds).1) 0 1000000 _ (by omega) (by omega)]
    rfl
  have s8 : ff_mo_thereOf (u32 8) w = some (.int (countV w B ds 8), w) := by
    unfold ff_mo_thereOf ff_mo_thereOf_4
    rw [sm_N_eq, u32_lit]
    exact mo_there8_loop hc.1 6 0 1000000 _ (by omega) (by omega)
  have s9 : ff_mo_thereOf (u32 9) w = some (.int (countV w B ds 9), w) := by
    unfold ff_mo_thereOf ff_mo_thereOf_4
    rw [sm_N_eq, u32_lit, mo_there9_loop hc.2.1 6 0 1000000 _ (by omega) (by omega), show (6 : Nat) = 4 + 2 from rfl, cntF_add, cntF_none 2 _ _ (fun j hj => by simp; omega)]
    rw [cntF_congr (q := fun r => decide (u32 0 ≤ w.1 69 r)) 4 0 _ (fun j _ hj => by simp; omega)]
    rfl
  have s10 : ff_mo_thereOf (u32 10) w = some (.int (countV w B ds 10), w) := by
    unfold ff_mo_thereOf ff_mo_thereOf_4
    rw [sm_N_eq, u32_lit, mo_there10_loop h9 6 0 1000000 _ (by omega) (by omega), show (6 : Nat) = 3 + 3 from rfl, cntF_add, cntF_none 3 _ _ (fun j hj => by simp; omega)]
    rw [cntF_congr (q := fun k => decide (u32 0 ≤ w.1 63 (1272 * (k + 1)))) 3 0 _ (fun j _ hj => by simp; omega)]
    rfl
  have m1 := h8.2.1.1.2.2.1
  have m2 := h8.2.1.1.2.2.2.1
  have m3 := h8.2.1.2
  rw [Nat.zero_add] at m1 m2 m3
  unfold ff_mo_countOf
  simp (disch := omega) only [u32_lit, sm_rd_u, sm_bind_some, n2, m1, m2, m3, h8.1, s6, sm_cI_some]
  rw [e0, sm_sw_u (by omega)]
  rcases (show x = 0 ∨ x = 1 ∨ x = 2 ∨ x = 3 ∨ x = 4 ∨ x = 5 ∨ x = 6 ∨ x = 7 ∨ x = 8 ∨ x = 9 ∨ x = 10 by omega) with rfl | rfl | rfl | rfl | rfl | rfl | rfl | rfl | rfl | rfl | rfl
  · rfl
  · rfl
  · rfl
  · rfl
  · rfl
  · exact s5
  · rfl
  · exact s7
  · show sm_cI (ff_mo_thereOf (u32 8) w) _ = _
    rw [s8]
    rfl
  · show sm_cI (ff_mo_thereOf (u32 9) w) _ = _
    rw [s9]
    rfl
  · show sm_cI (ff_mo_thereOf (u32 10) w) _ = _
    rw [s10]
    rfl
theorem op_count {x : Int32} {w : sm_Mem} (h : R w) : Both (ff_ho_count x) (ff_mo_count x) R w := by
  obtain ⟨hc, B, ds, hh⟩ := id h
  rcases aCases x 11 with hx | ⟨x, hx, -, rfl⟩
  · have hq : ∀ w, ff_mo_in x.toInt64 0 10 w = some (.int (u32 0), w) := fun w => mo_in_bad hx rfl
    refine BothR_same h (-u32 1) ?_ ?_
    · unfold ff_ho_count
      simp (disch := omega) only [u32_lit, sm_let_eq, sm_bind_some, sm_cI_some, sm_cV_some, sm_cL_some, sm_rd_u, sm_wr_u, u32_add, u32_mul, u32_sub, u32_le, u32_lt, u32_eq, u32_eq_neg, u32_neg_eq, u32_neg_neg, u32_le_neg, u32_neg_lt, u32_lt_neg, u32_neg_le, u10, u01, u3n0, u1n0, u4n0, n9_lt, n1_lt, n9_neg, n1_neg, if_true, if_false, if_pos, if_neg, ne_eq, not_true_eq_false, not_false_eq_true, ho_within_bad hx]
    · unfold ff_mo_count
      rw [hq]
      rfl
  · have hq : ∀ w, ff_mo_in (u32 x).toInt64 0 10 w = some (.int (u32 1), w) := fun w => mo_in_good hx (by decide) rfl
    refine BothR_same h (countV w B ds x) ?_ ?_
    · unfold ff_ho_count
      simp (disch := omega) only [u32_lit, sm_let_eq, sm_bind_some, sm_cI_some, sm_cV_some, sm_cL_some, sm_rd_u, sm_wr_u, u32_add, u32_mul, u32_sub, u32_le, u32_lt, u32_eq, u32_eq_neg, u32_neg_eq, u32_neg_neg, u32_le_neg, u32_neg_lt, u32_lt_neg, u32_neg_le, u10, u01, u3n0, u1n0, u4n0, n9_lt, n1_lt, n9_neg, n1_neg, if_true, if_false, if_pos, if_neg, ne_eq, not_true_eq_false, not_false_eq_true, ho_within_good hx, ho_tally hc hh hx]
    · unfold ff_mo_count
      rw [hq]
      simp (disch := omega) only [u32_lit, sm_let_eq, sm_bind_some, sm_cI_some, sm_cV_some, sm_cL_some, sm_rd_u, sm_wr_u, u32_add, u32_mul, u32_sub, u32_le, u32_lt, u32_eq, u32_eq_neg, u32_neg_eq, u32_neg_neg, u32_le_neg, u32_neg_lt, u32_lt_neg, u32_neg_le, u10, u01, u3n0, u1n0, u4n0, n9_lt, n1_lt, n9_neg, n1_neg, if_true, if_false, if_pos, if_neg, ne_eq, not_true_eq_false, not_false_eq_true, mo_countOf hc hh hx]
