/-! pure: the digest, by the class alone -/
theorem rw_mixed_row {r : Nat} {w : sm_Mem} (hr : r < 6) (h : SzOk w (2 + 2 * r) 40) (a : Int64) : ff_rw_mixedInto (2 + 2 * r) a w = some (.long (mixR (zOf (w.1 (2 + 2 * r) 1)) (w.1 (2 + 2 * r + 1)) a), w) := by
  have hR := isRow_row hr
  unfold ff_rw_mixedInto mixR
  rcases row_there h with ⟨b1, b2, -⟩ | ⟨n, b0, b1, b2, -⟩
  · rw [b2]
    simp (disch := omega) only [u32_lit, hR.rc, rw_isMissing_none hR b1, sm_cI_some, u10, if_false]
    rw [sub1_add]
    rfl
  · rw [b2]
    simp (disch := omega) only [u32_lit, hR.rc, rw_isMissing_some hR (show n < 2147483648 by omega) b1, sm_cI_some, if_true, hR.gI, sm_bind_some, b1]
    unfold ff_rw_mixedInto_30
    rw [sm_N_eq, rw_mix30 hR b0 b1 n 0 1000000 _ (by omega) (by omega), u32_toInt (by omega), Int.toNat_natCast]
theorem rw_mixed_text {r : Nat} {w : sm_Mem} (hr : r < 4) (h : SzOk w (15 + 2 * r) 60) (a : Int64) : ff_rw_mixedInto (15 + 2 * r) a w = some (.long (mixR (zOf (w.1 (15 + 2 * r) 1)) (w.1 (15 + 2 * r + 1)) a), w) := by
  have hR := isRow_text hr
  unfold ff_rw_mixedInto mixR
  rcases text_there h with ⟨b1, b2, -⟩ | ⟨n, b0, b1, b2, -⟩
  · rw [b2]
    simp (disch := omega) only [u32_lit, hR.rc, rw_isMissing_none hR b1, sm_cI_some, u10, if_false]
    rw [sub1_add]
    rfl
  · rw [b2]
    simp (disch := omega) only [u32_lit, hR.rc, rw_isMissing_some hR (show n < 2147483648 by omega) b1, sm_cI_some, if_true, hR.gI, sm_bind_some, b1]
    unfold ff_rw_mixedInto_30
    rw [sm_N_eq, rw_mix30 hR b0 b1 n 0 1000000 _ (by omega) (by omega), u32_toInt (by omega), Int.toNat_natCast]
theorem ho_dig113 {w : sm_Mem} (h : ∀ r, r < 4 → SzOk w (15 + 2 * r) 60) : ∀ (m r F : Nat) (a : Int64), r + m = 4 → m < F → ff_ho_digest_113_f F a (u32 r) w = some (.long (mixT (fun r => zOf (w.1 (15 + 2 * r) 1)) (fun r => w.1 (15 + 2 * r + 1)) r m a), w) := by
  intro m
  induction m with
  | zero =>
    intro r F a hm hF
    obtain ⟨F, rfl⟩ : ∃ G, F = G + 1 := ⟨F - 1, by omega⟩
    rw [ff_ho_digest_113_f]
    unfold ff_ho_digest_113_b
    simp (disch := omega) only [u32_lit, sm_let_eq, sm_bind_some, sm_cI_some, sm_cV_some, sm_cL_some, sm_rd_u, sm_wr_u, u32_add, u32_mul, u32_sub, u32_le, u32_lt, u32_eq, u32_eq_neg, u32_neg_eq, u32_neg_neg, u32_le_neg, u32_neg_lt, u32_lt_neg, u32_neg_le, u10, u01, u3n0, u1n0, u4n0, n9_lt, n1_lt, n9_neg, n1_neg, if_true, if_false, if_pos, if_neg, ne_eq, not_true_eq_false, not_false_eq_true, mixT]
  | succ m ih =>
    intro r F a hm hF
    obtain ⟨F, rfl⟩ : ∃ G, F = G + 1 := ⟨F - 1, by omega⟩
    have hr : r < 4 := by omega
    rw [ff_ho_digest_113_f]
    unfold ff_ho_digest_113_b
    simp (disch := omega) only [u32_lit, sm_let_eq, sm_bind_some, sm_cI_some, sm_cV_some, sm_cL_some, sm_rd_u, sm_wr_u, u32_add, u32_mul, u32_sub, u32_le, u32_lt, u32_eq, u32_eq_neg, u32_neg_eq, u32_neg_neg, u32_le_neg, u32_neg_lt, u32_lt_neg, u32_neg_le, u10, u01, u3n0, u1n0, u4n0, n9_lt, n1_lt, n9_neg, n1_neg, if_true, if_false, if_pos, if_neg, ne_eq, not_true_eq_false, not_false_eq_true, rr_text hr, (isRow_text hr).rc, rw_mixed_text hr (h r hr), mixT]
    exact ih (r + 1) F _ (by omega) (by omega)
theorem ho_dig88 {w : sm_Mem} (h : ∀ r, r < 6 → SzOk w (2 + 2 * r) 40) (h2 : ∀ r, r < 4 → SzOk w (15 + 2 * r) 60) : ∀ (m r F : Nat) (a : Int64), r + m = 6 → m < F → ff_ho_digest_88_f F a (u32 r) w = some (.long (mixT (fun r => zOf (w.1 (15 + 2 * r) 1)) (fun r => w.1 (15 + 2 * r + 1)) 0 4 (mixT (fun r => zOf (w.1 (2 + 2 * r) 1)) (fun r => w.1 (2 + 2 * r + 1)) r m a)), w) := by
  intro m
  induction m with
  | zero =>
    intro r F a hm hF
    obtain ⟨F, rfl⟩ : ∃ G, F = G + 1 := ⟨F - 1, by omega⟩
    rw [ff_ho_digest_88_f]
    unfold ff_ho_digest_88_b ff_ho_digest_113
    simp (disch := omega) only [u32_lit, sm_let_eq, sm_bind_some, sm_cI_some, sm_cV_some, sm_cL_some, sm_rd_u, sm_wr_u, u32_add, u32_mul, u32_sub, u32_le, u32_lt, u32_eq, u32_eq_neg, u32_neg_eq, u32_neg_neg, u32_le_neg, u32_neg_lt, u32_lt_neg, u32_neg_le, u10, u01, u3n0, u1n0, u4n0, n9_lt, n1_lt, n9_neg, n1_neg, if_true, if_false, if_pos, if_neg, ne_eq, not_true_eq_false, not_false_eq_true, mixT]
    rw [sm_N_eq]
    exact ho_dig113 h2 4 0 1000000 a (by omega) (by omega)
  | succ m ih =>
    intro r F a hm hF
    obtain ⟨F, rfl⟩ : ∃ G, F = G + 1 := ⟨F - 1, by omega⟩
    have hr : r < 6 := by omega
    rw [ff_ho_digest_88_f]
    unfold ff_ho_digest_88_b
    simp (disch := omega) only [u32_lit, sm_let_eq, sm_bind_some, sm_cI_some, sm_cV_some, sm_cL_some, sm_rd_u, sm_wr_u, u32_add, u32_mul, u32_sub, u32_le, u32_lt, u32_eq, u32_eq_neg, u32_neg_eq, u32_neg_neg, u32_le_neg, u32_neg_lt, u32_lt_neg, u32_neg_le, u10, u01, u3n0, u1n0, u4n0, n9_lt, n1_lt, n9_neg, n1_neg, if_true, if_false, if_pos, if_neg, ne_eq, not_true_eq_false, not_false_eq_true, rr_row hr, (isRow_row hr).rc, rw_mixed_row hr (h r hr), mixT]
    exact ih (r + 1) F _ (by omega) (by omega)
theorem ho_dig42 {w : sm_Mem} (h : ∀ r, r < 6 → SzOk w (2 + 2 * r) 40) (h2 : ∀ r, r < 4 → SzOk w (15 + 2 * r) 60) (h3 : ∀ k, k < 3 → KpOk w k) : ∀ (m k F : Nat) (a : Int64), k + m = 3 → m < F → ff_ho_digest_42_f F a (u32 k) w = some (.long (mixT (fun r => zOf (w.1 (15 + 2 * r) 1)) (fun r => w.1 (15 + 2 * r + 1)) 0 4 (mixT (fun r => zOf (w.1 (2 + 2 * r) 1)) (fun r => w.1 (2 + 2 * r + 1)) 0 6 (mixL (fun k => zOf (w.1 (24 + 4 * k) 3)) k m a))), w) := by
  intro m
  induction m with
  | zero =>
    intro k F a hm hF
    obtain ⟨F, rfl⟩ : ∃ G, F = G + 1 := ⟨F - 1, by omega⟩
    rw [ff_ho_digest_42_f]
    unfold ff_ho_digest_42_b ff_ho_digest_88
    simp (disch := omega) only [u32_lit, sm_let_eq, sm_bind_some, sm_cI_some, sm_cV_some, sm_cL_some, sm_rd_u, sm_wr_u, u32_add, u32_mul, u32_sub, u32_le, u32_lt, u32_eq, u32_eq_neg, u32_neg_eq, u32_neg_neg, u32_le_neg, u32_neg_lt, u32_lt_neg, u32_neg_le, u10, u01, u3n0, u1n0, u4n0, n9_lt, n1_lt, n9_neg, n1_neg, if_true, if_false, if_pos, if_neg, ne_eq, not_true_eq_false, not_false_eq_true, mixL]
    rw [sm_N_eq]
    exact ho_dig88 h h2 6 0 1000000 a (by omega) (by omega)
  | succ m ih =>
    intro k F a hm hF
    obtain ⟨F, rfl⟩ : ∃ G, F = G + 1 := ⟨F - 1, by omega⟩
    have hk : k < 3 := by omega
    have hD := isDeeds_kept hk
    have ih := fun a => ih (k + 1) F a (by omega) (by omega)
    rw [ff_ho_digest_42_f]
    unfold ff_ho_digest_42_b ff_ho_digest_77 ff_de_isMissing
    rcases kept_there (h3 k hk) with ⟨b1, b2, b3⟩ | ⟨n, b0, b1, b2, b3⟩
    · simp (disch := omega) only [u32_lit, sm_bind_some, u32_le, if_neg, rr_kept hk, hD.rc, hD.gI, b1, n9_lt, if_false, sm_cI_some, u10, u32_add, mixL, zOf_9, zOf_n]
      exact ih _
    · simp (disch := omega) only [u32_lit, sm_bind_some, u32_le, if_neg, rr_kept hk, hD.rc, hD.gI, b1, Nat.zero_le, if_true, sm_cI_some, u32_add, mixL, zOf_9, zOf_n]
      exact ih _
def digV (w : sm_Mem) (B : HBase) (ds : List Deed) (a : Int64) : Int64 := mixT (fun r => zOf (w.1 (15 + 2 * r) 1)) (fun r => w.1 (15 + 2 * r + 1)) 0 4 (mixT (fun r => zOf (w.1 (2 + 2 * r) 1)) (fun r => w.1 (2 + 2 * r + 1)) 0 6 (mixL (fun k => zOf (w.1 (24 + 4 * k) 3)) 0 3 (mixL (factN B (playV B ds).1) 0 (6 * hN (playV B ds).1) (mixO (ordAt (hO (playV B ds).1)) 0 (hO (playV B ds).1).length a))))
theorem ho_dig6 {B : HBase} {ds : List Deed} {w : sm_Mem} (hc : SC w) (hh : RHs w B ds) : ∀ (m x F : Nat) (a : Int64), x + m = 11 → m < F → ff_ho_digest_6_f F a (u32 x) w = some (.long (digV w B ds (mixL (countV w B ds) x m a)), w) := by
  obtain ⟨hok, hn, n1, n6⟩ := hh.n
  obtain ⟨h1, h2, h4, h5, h6, h7⟩ := id hh
  have h9 := hc.2.2
  intro m
  induction m with
  | zero =>
    intro x F a hm hF
    obtain ⟨F, rfl⟩ : ∃ G, F = G + 1 := ⟨F - 1, by omega⟩
    rw [ff_ho_digest_6_f]
    unfold ff_ho_digest_6_b ff_ho_digest_42
    simp (disch := omega) only [u32_lit, sm_let_eq, sm_bind_some, sm_cI_some, sm_cV_some, sm_cL_some, sm_rd_u, sm_wr_u, u32_add, u32_mul, u32_sub, u32_le, u32_lt, u32_eq, u32_eq_neg, u32_neg_eq, u32_neg_neg, u32_le_neg, u32_neg_lt, u32_lt_neg, u32_neg_le, u10, u01, u3n0, u1n0, u4n0, n9_lt, n1_lt, n9_neg, n1_neg, if_true, if_false, if_pos, if_neg, ne_eq, not_true_eq_false, not_false_eq_true, hs_mixedInto h6.1 hok h2 hn, mixL]
    rw [sm_N_eq]
    exact ho_dig42 hc.1 hc.2.1 h9 3 0 1000000 _ (by omega) (by omega)
  | succ m ih =>
    intro x F a hm hF
    obtain ⟨F, rfl⟩ : ∃ G, F = G + 1 := ⟨F - 1, by omega⟩
    rw [ff_ho_digest_6_f]
    unfold ff_ho_digest_6_b
    simp (disch := omega) only [u32_lit, u32_le, if_neg, ho_tally hc hh (show x < 11 by omega), sm_cI_some, u32_add, mixL]
    exact ih (x + 1) F _ (by omega) (by omega)
theorem ch_digest {B : HBase} {ds : List Deed} {w : sm_Mem} (hc : SC w) (hh : RHs w B ds) : ff_ho_digest w = some (.long (digV w B ds (mixL (countV w B ds) 0 11 17)), w) := by
  unfold ff_ho_digest ff_ho_digest_6
  rw [sm_N_eq, u32_lit]
  exact ho_dig6 hc hh 11 0 1000000 17 (by omega) (by omega)
theorem ch_count {B : HBase} {ds : List Deed} {x : Nat} {w : sm_Mem} (hc : SC w) (hh : RHs w B ds) (hx : x < 11) : ff_ho_count (u32 x) w = some (.int (countV w B ds x), w) := by
  unfold ff_ho_count
  simp (disch := omega) only [u32_lit, sm_let_eq, sm_bind_some, sm_cI_some, sm_cV_some, sm_cL_some, sm_rd_u, sm_wr_u, u32_add, u32_mul, u32_sub, u32_le, u32_lt, u32_eq, u32_eq_neg, u32_neg_eq, u32_neg_neg, u32_le_neg, u32_neg_lt, u32_lt_neg, u32_neg_le, u10, u01, u3n0, u1n0, u4n0, n9_lt, n1_lt, n9_neg, n1_neg, if_true, if_false, if_pos, if_neg, ne_eq, not_true_eq_false, not_false_eq_true, ho_within_good hx, ho_tally hc hh hx]
