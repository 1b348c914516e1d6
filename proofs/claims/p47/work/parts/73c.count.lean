/-! pure: count, by the class alone -/
def SzOk (w : sm_Mem) (k most : Nat) : Prop := w.1 k 1 = -u32 9 ∨ ∃ n, n ≤ most ∧ w.1 k 1 = u32 n
def KpOk (w : sm_Mem) (k : Nat) : Prop := w.1 (24 + 4 * k) 3 = -u32 9 ∨ ∃ n, n ≤ 40 ∧ w.1 (24 + 4 * k) 3 = u32 n
def SC (w : sm_Mem) : Prop := (∀ r, r < 6 → SzOk w (2 + 2 * r) 40) ∧ (∀ r, r < 4 → SzOk w (15 + 2 * r) 60) ∧ ∀ k, k < 3 → KpOk w k
def zOf (x : Int32) : Int32 := if x = -u32 9 then -u32 1 else x
theorem zOf_9 : zOf (-u32 9) = -u32 1 := if_pos rfl
theorem zOf_n {n : Nat} (h : n < 2147483648) : zOf (u32 n) = u32 n := if_neg (by rw [u32_eq_neg h (by decide) (by decide)]; exact id)
theorem kept_there {w : sm_Mem} {k : Nat} (h : KpOk w k) : (w.1 (24 + 4 * k) 3 = -u32 9 ∧ zOf (w.1 (24 + 4 * k) 3) = -u32 1 ∧ decide (u32 0 ≤ zOf (w.1 (24 + 4 * k) 3)) = false) ∨ ∃ n, n ≤ 40 ∧ w.1 (24 + 4 * k) 3 = u32 n ∧ zOf (w.1 (24 + 4 * k) 3) = u32 n ∧ decide (u32 0 ≤ zOf (w.1 (24 + 4 * k) 3)) = true := by
  rcases h with a | ⟨n, hn, a⟩
  · exact Or.inl ⟨a, by rw [a]; exact zOf_9, by rw [a, zOf_9]; decide⟩
  · exact Or.inr ⟨n, hn, a, by rw [a]; exact zOf_n (by omega), by rw [a, zOf_n (by omega)]; exact decide_eq_true (by rw [u32_le (by decide) (by omega)]; omega)⟩
theorem row_there {w : sm_Mem} {r : Nat} (h : SzOk w (2 + 2 * r) 40) : (w.1 (2 + 2 * r) 1 = -u32 9 ∧ zOf (w.1 (2 + 2 * r) 1) = -u32 1 ∧ decide (u32 0 ≤ zOf (w.1 (2 + 2 * r) 1)) = false) ∨ ∃ n, n ≤ 40 ∧ w.1 (2 + 2 * r) 1 = u32 n ∧ zOf (w.1 (2 + 2 * r) 1) = u32 n ∧ decide (u32 0 ≤ zOf (w.1 (2 + 2 * r) 1)) = true := by
  rcases h with a | ⟨n, hn, a⟩
  · exact Or.inl ⟨a, by rw [a]; exact zOf_9, by rw [a, zOf_9]; decide⟩
  · exact Or.inr ⟨n, hn, a, by rw [a]; exact zOf_n (by omega), by rw [a, zOf_n (by omega)]; exact decide_eq_true (by rw [u32_le (by decide) (by omega)]; omega)⟩
theorem text_there {w : sm_Mem} {r : Nat} (h : SzOk w (15 + 2 * r) 60) : (w.1 (15 + 2 * r) 1 = -u32 9 ∧ zOf (w.1 (15 + 2 * r) 1) = -u32 1 ∧ decide (u32 0 ≤ zOf (w.1 (15 + 2 * r) 1)) = false) ∨ ∃ n, n ≤ 60 ∧ w.1 (15 + 2 * r) 1 = u32 n ∧ zOf (w.1 (15 + 2 * r) 1) = u32 n ∧ decide (u32 0 ≤ zOf (w.1 (15 + 2 * r) 1)) = true := by
  rcases h with a | ⟨n, hn, a⟩
  · exact Or.inl ⟨a, by rw [a]; exact zOf_9, by rw [a, zOf_9]; decide⟩
  · exact Or.inr ⟨n, hn, a, by rw [a]; exact zOf_n (by omega), by rw [a, zOf_n (by omega)]; exact decide_eq_true (by rw [u32_le (by decide) (by omega)]; omega)⟩
theorem ho_present_row {w : sm_Mem} (h : ∀ r, r < 6 → SzOk w (2 + 2 * r) 40) : ∀ (m i F : Nat) (a : Int32), i + m = 6 → m < F → ff_ho_present_4_f F 1 a (u32 i) w = some (.int (cntF (fun r => decide (u32 0 ≤ zOf (w.1 (2 + 2 * r) 1))) i m a), w) := by
  intro m
  induction m with
  | zero =>
    intro i F a hm hF
    obtain ⟨F, rfl⟩ : ∃ G, F = G + 1 := ⟨F - 1, by omega⟩
    rw [ff_ho_present_4_f]
    unfold ff_ho_present_4_b
    simp (disch := omega) only [u32_lit, sm_let_eq, sm_bind_some, sm_cI_some, sm_cV_some, sm_cL_some, sm_rd_u, sm_wr_u, u32_add, u32_mul, u32_sub, u32_le, u32_lt, u32_eq, u32_eq_neg, u32_neg_eq, u32_neg_neg, u32_le_neg, u32_neg_lt, u32_lt_neg, u32_neg_le, u10, u01, u3n0, u1n0, u4n0, n9_lt, n1_lt, n9_neg, n1_neg, if_true, if_false, if_pos, if_neg, ne_eq, not_true_eq_false, not_false_eq_true, al_rows, cntF]
  | succ m ih =>
    intro i F a hm hF
    obtain ⟨F, rfl⟩ : ∃ G, F = G + 1 := ⟨F - 1, by omega⟩
    have hi : i < 6 := by omega
    have hR := isRow_row hi
    have ih := fun a => ih (i + 1) F a (by omega) (by omega)
    rw [ff_ho_present_4_f]
    unfold ff_ho_present_4_b
    rcases row_there (h i hi) with ⟨b1, b2, b3⟩ | ⟨n, b0, b1, b2, b3⟩
    · simp (disch := omega) only [u32_lit, al_rows, sm_bind_some, u32_le, if_neg, rr_row hi, hR.rc, rw_isMissing_none hR b1, sm_cI_some, u10, if_false, u32_add, cntF]
      rw [if_neg (by rw [b3]; decide)]
      exact ih a
    · simp (disch := omega) only [u32_lit, al_rows, sm_bind_some, u32_le, if_neg, rr_row hi, hR.rc, rw_isMissing_some hR (show n < 2147483648 by omega) b1, sm_cI_some, if_true, u32_add, cntF]
      rw [if_pos b3]
      exact ih _
theorem ho_present_text {w : sm_Mem} (h : ∀ r, r < 4 → SzOk w (15 + 2 * r) 60) : ∀ (m i F : Nat) (a : Int32), i + m = 4 → m < F → ff_ho_present_4_f F 14 a (u32 i) w = some (.int (cntF (fun r => decide (u32 0 ≤ zOf (w.1 (15 + 2 * r) 1))) i m a), w) := by
  intro m
  induction m with
  | zero =>
    intro i F a hm hF
    obtain ⟨F, rfl⟩ : ∃ G, F = G + 1 := ⟨F - 1, by omega⟩
    rw [ff_ho_present_4_f]
    unfold ff_ho_present_4_b
    simp (disch := omega) only [u32_lit, sm_let_eq, sm_bind_some, sm_cI_some, sm_cV_some, sm_cL_some, sm_rd_u, sm_wr_u, u32_add, u32_mul, u32_sub, u32_le, u32_lt, u32_eq, u32_eq_neg, u32_neg_eq, u32_neg_neg, u32_le_neg, u32_neg_lt, u32_lt_neg, u32_neg_le, u10, u01, u3n0, u1n0, u4n0, n9_lt, n1_lt, n9_neg, n1_neg, if_true, if_false, if_pos, if_neg, ne_eq, not_true_eq_false, not_false_eq_true, al_texts, cntF]
  | succ m ih =>
    intro i F a hm hF
    obtain ⟨F, rfl⟩ : ∃ G, F = G + 1 := ⟨F - 1, by omega⟩
    have hi : i < 4 := by omega
    have hR := isRow_text hi
    have ih := fun a => ih (i + 1) F a (by omega) (by omega)
    rw [ff_ho_present_4_f]
    unfold ff_ho_present_4_b
    rcases text_there (h i hi) with ⟨b1, b2, b3⟩ | ⟨n, b0, b1, b2, b3⟩
    · simp (disch := omega) only [u32_lit, al_texts, sm_bind_some, u32_le, if_neg, rr_text hi, hR.rc, rw_isMissing_none hR b1, sm_cI_some, u10, if_false, u32_add, cntF]
      rw [if_neg (by rw [b3]; decide)]
      exact ih a
    · simp (disch := omega) only [u32_lit, al_texts, sm_bind_some, u32_le, if_neg, rr_text hi, hR.rc, rw_isMissing_some hR (show n < 2147483648 by omega) b1, sm_cI_some, if_true, u32_add, cntF]
      rw [if_pos b3]
      exact ih _
theorem ho_kept_loop {w : sm_Mem} (h : ∀ k, k < 3 → KpOk w k) : ∀ (m i F : Nat) (a : Int32), i + m = 3 → m < F → ff_ho_keptHouses_4_f F a (u32 i) w = some (.int (cntF (fun k => decide (u32 0 ≤ zOf (w.1 (24 + 4 * k) 3))) i m a), w) := by
  intro m
  induction m with
  | zero =>
    intro i F a hm hF
    obtain ⟨F, rfl⟩ : ∃ G, F = G + 1 := ⟨F - 1, by omega⟩
    rw [ff_ho_keptHouses_4_f]
    unfold ff_ho_keptHouses_4_b
    simp (disch := omega) only [u32_lit, sm_let_eq, sm_bind_some, sm_cI_some, sm_cV_some, sm_cL_some, sm_rd_u, sm_wr_u, u32_add, u32_mul, u32_sub, u32_le, u32_lt, u32_eq, u32_eq_neg, u32_neg_eq, u32_neg_neg, u32_le_neg, u32_neg_lt, u32_lt_neg, u32_neg_le, u10, u01, u3n0, u1n0, u4n0, n9_lt, n1_lt, n9_neg, n1_neg, if_true, if_false, if_pos, if_neg, ne_eq, not_true_eq_false, not_false_eq_true, cntF]
  | succ m ih =>
    intro i F a hm hF
    obtain ⟨F, rfl⟩ : ∃ G, F = G + 1 := ⟨F - 1, by omega⟩
    have hi : i < 3 := by omega
    have hD := isDeeds_kept hi
    have ih := fun a => ih (i + 1) F a (by omega) (by omega)
    rw [ff_ho_keptHouses_4_f]
    unfold ff_ho_keptHouses_4_b ff_de_isMissing
    rcases kept_there (h i hi) with ⟨b1, b2, b3⟩ | ⟨n, b0, b1, b2, b3⟩
    · rw [b1] at b3
      simp (disch := omega) only [u32_lit, sm_bind_some, u32_le, if_neg, rr_kept hi, hD.rc, hD.gI, b1, n9_lt, if_false, sm_cI_some, u10, u32_add, cntF]
      rw [if_neg (by rw [b3]; decide)]
      exact ih a
    · rw [b1] at b3
      simp (disch := omega) only [u32_lit, sm_bind_some, u32_le, if_neg, rr_kept hi, hD.rc, hD.gI, b1, Nat.zero_le, if_true, sm_cI_some, u32_add, cntF]
      rw [if_pos b3]
      exact ih _
def countV (w : sm_Mem) (B : HBase) (ds : List Deed) : Nat → Int32
  | 0 => u32 B.1
  | 1 => u32 (hH (playV B ds).1)
  | 2 => u32 ds.length
  | 3 => u32 (hO (playV B ds).1).length
  | 4 => u32 (playV B ds).2
  | 5 => sumB (hB (playV B ds).1) 0 (hN (playV B ds).1) (u32 0)
  | 6 => anyF (playV B ds).1 0 (hN (playV B ds).1) (u32 0)
  | 7 => cntF (fun i => isOfV (hK (playV B ds).1 i) 1) 0 (hN (playV B ds).1) (u32 0)
  | 8 => cntF (fun r => decide (u32 0 ≤ zOf (w.1 (2 + 2 * r) 1))) 0 6 (u32 0)
  | 9 => cntF (fun r => decide (u32 0 ≤ zOf (w.1 (15 + 2 * r) 1))) 0 4 (u32 0)
  | _ => cntF (fun k => decide (u32 0 ≤ zOf (w.1 (24 + 4 * k) 3))) 0 3 (u32 0)
theorem ho_tally {B : HBase} {ds : List Deed} {x : Nat} {w : sm_Mem} (hc : SC w) (hh : RHs w B ds) (hx : x < 11) : ff_ho_tally (u32 x) w = some (.int (countV w B ds x), w) := by
  obtain ⟨hok, hn, n1, n6⟩ := hh.n
  obtain ⟨h1, h2, h4, h5, h6, h7⟩ := id hh
  have h9 := hc.2.2
  have e0 : sm_sw (u32 x) 0 = sm_sw (u32 x) ((0 : Nat) : Int) := rfl
  have s5 : ff_hs_breathLeft w = some (.int (countV w B ds 5), w) := by
    unfold ff_hs_breathLeft ff_hs_breathLeft_4
    rw [sm_N_eq, u32_lit]
    exact hs_breath_loop h6.1 hok _ 0 1000000 _ (by omega) (by omega)
  have s6 : ff_hs_sayableByAny w = some (.int (countV w B ds 6), w) := by
    unfold ff_hs_sayableByAny ff_hs_sayableByAny_4
    rw [sm_N_eq, u32_lit]
    exact hs_any_loop h6.1 hok _ 0 1000000 _ (by omega) (by omega)
  have s7 : ff_hs_parrots w = some (.int (countV w B ds 7), w) := by
    unfold ff_hs_parrots ff_hs_parrots_4
    rw [sm_N_eq, u32_lit]
    exact hs_parrots_loop h6.1 hok _ 0 1000000 _ (by omega) (by omega)
  have s8 : ff_ho_present 1 w = some (.int (countV w B ds 8), w) := by
    unfold ff_ho_present ff_ho_present_4
    rw [sm_N_eq, u32_lit]
    exact ho_present_row hc.1 6 0 1000000 _ (by omega) (by omega)
  have s9 : ff_ho_present 14 w = some (.int (countV w B ds 9), w) := by
    unfold ff_ho_present ff_ho_present_4
    rw [sm_N_eq, u32_lit]
    exact ho_present_text hc.2.1 4 0 1000000 _ (by omega) (by omega)
  have s10 : ff_ho_keptHouses w = some (.int (countV w B ds 10), w) := by
    unfold ff_ho_keptHouses ff_ho_keptHouses_4
    rw [sm_N_eq, u32_lit]
    exact ho_kept_loop h9 3 0 1000000 _ (by omega) (by omega)
  unfold ff_ho_tally
  rw [s5, s6, s7, s8, s9, s10, e0, n1, h6.1.2.2.1, h7.1, h6.1.2.2.2.1, h6.2]
  simp only [sm_cI_some]
  rw [sm_sw_u (by omega)]
  rcases (show x = 0 ∨ x = 1 ∨ x = 2 ∨ x = 3 ∨ x = 4 ∨ x = 5 ∨ x = 6 ∨ x = 7 ∨ x = 8 ∨ x = 9 ∨ x = 10 by omega) with rfl | rfl | rfl | rfl | rfl | rfl | rfl | rfl | rfl | rfl | rfl <;> rfl
