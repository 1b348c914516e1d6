/-! pure: row, text -/
def fillF (f : Nat → Int32) (i n : Nat) (x : Int32) : Nat → Int32 := fun j => if i ≤ j ∧ j < n then x else f j
theorem fillF_none {f : Nat → Int32} {i n : Nat} {x : Int32} (h : n ≤ i) : fillF f i n x = f := by
  funext j
  unfold fillF
  rw [if_neg (by omega)]
theorem fillF_step {f : Nat → Int32} {i n : Nat} {x : Int32} (h : i < n) : fillF (fun b => if b = i then x else f b) (i + 1) n x = fillF f i n x := by
  funext j
  show (if i + 1 ≤ j ∧ j < n then x else if j = i then x else f j) = if i ≤ j ∧ j < n then x else f j
  by_cases h1 : j = i
  · rw [if_neg (by omega), if_pos h1, if_pos (by omega)]
  · by_cases h2 : i ≤ j ∧ j < n
    · rw [if_pos (by omega), if_pos h2]
    · rw [if_neg (by omega), if_neg h1, if_neg h2]
theorem rw_begin_loop {k most n : Nat} {x : Int32} (hR : isRow k most) (hn : n ≤ most) : ∀ (m i F : Nat) (w : sm_Mem), i + m = n → m < F → w.1 k 1 = u32 n → ff_rw_begin_19_f F k x (u32 i) w = some (.null, sm_wA w (k + 1) (fillF (w.1 (k + 1)) i n x)) := by
  have h60 := hR.2.2.2.2
  intro m
  induction m with
  | zero =>
    intro i F w him hF hw
    obtain ⟨F, rfl⟩ : ∃ G, F = G + 1 := ⟨F - 1, by omega⟩
    rw [ff_rw_begin_19_f]
    unfold ff_rw_begin_19_b
    rw [fillF_none (by omega), sm_wA_self]
    simp (disch := omega) only [u32_lit, sm_let_eq, sm_bind_some, sm_cI_some, sm_cV_some, sm_cL_some, sm_rd_u, sm_wr_u, u32_add, u32_mul, u32_sub, u32_le, u32_lt, u32_eq, u32_eq_neg, u32_neg_eq, u32_neg_neg, u32_le_neg, u32_neg_lt, u32_lt_neg, u32_neg_le, u10, u01, u3n0, u1n0, u4n0, n9_lt, n1_lt, n9_neg, n1_neg, if_true, if_false, if_pos, if_neg, ne_eq, not_true_eq_false, not_false_eq_true, hR.gI, hw]
  | succ m ih =>
    intro i F w him hF hw
    obtain ⟨F, rfl⟩ : ∃ G, F = G + 1 := ⟨F - 1, by omega⟩
    rw [ff_rw_begin_19_f]
    unfold ff_rw_begin_19_b
    have hi : i < most := by omega
    simp (disch := omega) only [u32_lit, sm_let_eq, sm_bind_some, sm_cI_some, sm_cV_some, sm_cL_some, sm_rd_u, sm_wr_u, u32_add, u32_mul, u32_sub, u32_le, u32_lt, u32_eq, u32_eq_neg, u32_neg_eq, u32_neg_neg, u32_le_neg, u32_neg_lt, u32_lt_neg, u32_neg_le, u10, u01, u3n0, u1n0, u4n0, n9_lt, n1_lt, n9_neg, n1_neg, if_true, if_false, if_pos, if_neg, ne_eq, not_true_eq_false, not_false_eq_true, hR.gI, hw, hR.fk, hR.wrs hi]
    rw [ih (i + 1) F _ (by omega) (by omega) (by rw [sm_wI_ne (by omega)]; exact hw)]
    rw [sm_wI_wA, sm_wA_wA, sm_wA_eq, fillF_step (by omega)]
theorem rw_begin {k most n : Nat} {x : Int32} {w : sm_Mem} (hR : isRow k most) (hn : n ≤ most) : ff_rw_begin k (u32 n) x w = some (.null, sm_wA (sm_wI w k 1 (u32 n)) (k + 1) (fillF (w.1 (k + 1)) 0 n x)) := by
  have h60 := hR.2.2.2.2
  unfold ff_rw_begin ff_rw_begin_19
  have e : (if u32 0 < (if u32 most < u32 n then u32 most else u32 n) then (if u32 most < u32 n then u32 most else u32 n) else u32 0) = u32 n := by
    simp (disch := omega) only [u32_lit, sm_let_eq, sm_bind_some, sm_cI_some, sm_cV_some, sm_cL_some, sm_rd_u, sm_wr_u, u32_add, u32_mul, u32_sub, u32_le, u32_lt, u32_eq, u32_eq_neg, u32_neg_eq, u32_neg_neg, u32_le_neg, u32_neg_lt, u32_lt_neg, u32_neg_le, u10, u01, u3n0, u1n0, u4n0, n9_lt, n1_lt, n9_neg, n1_neg, if_true, if_false, if_pos, if_neg, ne_eq, not_true_eq_false, not_false_eq_true]
    by_cases h : 0 < n
    · rw [if_pos h]
    · rw [if_neg h, show n = 0 by omega]
  simp (disch := omega) only [u32_lit, sm_bind_some, hR.fk, hR.al, hR.pI]
  rw [e, sm_N_eq, rw_begin_loop hR hn n 0 _ _ (by omega) (by omega) (by rw [sm_wI_eq]), sm_wI_ne (by omega)]
