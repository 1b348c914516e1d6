/-! pure: digest -/
def mixL (f : Nat → Int32) : Nat → Nat → Int64 → Int64
  | _, 0, h => h
  | i, m + 1, h => mixL f (i + 1) m (31 * h + (f i).toInt64)
def mixO (f : Nat → Nat × Nat) : Nat → Nat → Int64 → Int64
  | _, 0, h => h
  | i, m + 1, h => mixO f (i + 1) m (31 * (31 * h + (u32 (f i).1).toInt64) + (u32 (f i).2).toInt64)
theorem mixL_congr {f g : Nat → Int32} : ∀ (m i : Nat) (h : Int64), (∀ j, i ≤ j → j < i + m → f j = g j) → mixL f i m h = mixL g i m h
  | 0, _, _, _ => rfl
  | m + 1, i, h, hh => by
    rw [mixL, mixL, hh i (Nat.le_refl _) (by omega)]
    exact mixL_congr m (i + 1) _ (fun j h1 h2 => hh j (by omega) (by omega))
theorem mixL_add {f : Nat → Int32} : ∀ (m k i : Nat) (h : Int64), mixL f i (m + k) h = mixL f (i + m) k (mixL f i m h)
  | 0, k, i, h => by rw [Nat.zero_add]; rfl
  | m + 1, k, i, h => by rw [show m + 1 + k = (m + k) + 1 by omega, mixL, mixL_add m k (i + 1) _, mixL, show i + 1 + m = i + (m + 1) by omega]
def factN (B : HBase) (H : HV) (k : Nat) : Int32 := factV B H (k / 6) (k % 6)
/-! the class: speakers, order -/
theorem hs_mix63 {B : HBase} {H : HV} {i : Nat} {w : sm_Mem} (h : CH w H) (hok : HOk H) (hb : CB w B) (hn : hN H = B.1) (hi : i < hN H) (self51 : Int64 → Int32 → sm_Mem → sm_R) : ∀ (m x F : Nat) (a : Int64), x + m = 6 → m < F → ff_hs_mixedInto_63_f self51 F a (u32 i) (u32 x) w = self51 (mixL (factN B H) (6 * i + x) m a) (u32 (i + 1)) w := by
  have h6 := hok.1
  intro m
  induction m with
  | zero =>
    intro x F a hm hF
    obtain ⟨F, rfl⟩ : ∃ G, F = G + 1 := ⟨F - 1, by omega⟩
    rw [ff_hs_mixedInto_63_f]
    unfold ff_hs_mixedInto_63_b
    simp (disch := omega) only [u32_lit, u32_le, if_pos, u32_add, mixL]
  | succ m ih =>
    intro x F a hm hF
    obtain ⟨F, rfl⟩ : ∃ G, F = G + 1 := ⟨F - 1, by omega⟩
    have hx : x < 6 := by omega
    rw [ff_hs_mixedInto_63_f]
    unfold ff_hs_mixedInto_63_b
    simp (disch := omega) only [u32_lit, u32_le, if_neg, hs_factOf h hok hb hn hi hx, sm_cI_some, u32_add, mixL]
    rw [ih (x + 1) F _ (by omega) (by omega)]
    unfold factN
    rw [show (6 * i + x) / 6 = i by omega, show (6 * i + x) % 6 = x by omega, Nat.add_assoc]
theorem hs_mix51 {B : HBase} {H : HV} {w : sm_Mem} (h : CH w H) (hok : HOk H) (hb : CB w B) (hn : hN H = B.1) : ∀ (m i F : Nat) (a : Int64), i + m = hN H → m < F → ff_hs_mixedInto_51_f F a (u32 i) w = some (.long (mixL (factN B H) (6 * i) (6 * m) a), w) := by
  have h6 := hok.1
  intro m
  induction m with
  | zero =>
    intro i F a hm hF
    obtain ⟨F, rfl⟩ : ∃ G, F = G + 1 := ⟨F - 1, by omega⟩
    rw [ff_hs_mixedInto_51_f]
    unfold ff_hs_mixedInto_51_b
    simp (disch := omega) only [u32_lit, h.1, u32_le, if_pos, Nat.mul_zero, mixL]
  | succ m ih =>
    intro i F a hm hF
    obtain ⟨F, rfl⟩ : ∃ G, F = G + 1 := ⟨F - 1, by omega⟩
    rw [ff_hs_mixedInto_51_f]
    unfold ff_hs_mixedInto_51_b ff_hs_mixedInto_63
    simp (disch := omega) only [u32_lit, h.1, u32_le, if_neg]
    rw [sm_N_eq, hs_mix63 h hok hb hn (by omega) _ 6 0 1000000 a (by omega) (by omega), ih (i + 1) F _ (by omega) (by omega), show 6 * (m + 1) = 6 + 6 * m by omega, mixL_add, show 6 * (i + 1) = 6 * i + 6 by omega]
    rfl
theorem hs_mixedInto {B : HBase} {H : HV} {w : sm_Mem} (h : CH w H) (hok : HOk H) (hb : CB w B) (hn : hN H = B.1) (a : Int64) : ff_hs_mixedInto a w = some (.long (mixL (factN B H) 0 (6 * hN H) (mixO (ordAt (hO H)) 0 (hO H).length a)), w) := by
  have h6 := hok.1
  have h8 := hok.2.2.2.1
  have key : ∀ (m k F : Nat) (a : Int64), k + m = (hO H).length → m < F → ff_hs_mixedInto_5_f F a (u32 k) w = some (.long (mixL (factN B H) 0 (6 * hN H) (mixO (ordAt (hO H)) k m a)), w) := by
    intro m
    induction m with
    | zero =>
      intro k F a hm hF
      obtain ⟨F, rfl⟩ : ∃ G, F = G + 1 := ⟨F - 1, by omega⟩
      rw [ff_hs_mixedInto_5_f]
      unfold ff_hs_mixedInto_5_b ff_hs_mixedInto_51
      simp (disch := omega) only [u32_lit, h.2.2.2.1, u32_le, if_pos, mixO]
      rw [sm_N_eq, hs_mix51 h hok hb hn (hN H) 0 1000000 a (by omega) (by omega)]
    | succ m ih =>
      intro k F a hm hF
      obtain ⟨F, rfl⟩ : ∃ G, F = G + 1 := ⟨F - 1, by omega⟩
      have hk : k < (hO H).length := by omega
      obtain ⟨c1, c2⟩ := ordC_at _ k hk h.2.2.2.2
      rw [ff_hs_mixedInto_5_f]
      unfold ff_hs_mixedInto_5_b
      simp (disch := omega) only [u32_lit, h.2.2.2.1, u32_le, if_neg, sm_rd_u, sm_bind_some, c1, c2, u32_add, mixO]
      exact ih (k + 1) F _ (by omega) (by omega)
  unfold ff_hs_mixedInto ff_hs_mixedInto_5
  rw [sm_N_eq, u32_lit]
  exact key _ 0 1000000 a (by omega) (by omega)
/-! a row -/
theorem rw_mix30 {k most n : Nat} {w : sm_Mem} (hR : isRow k most) (hn : n ≤ most) (hw : w.1 k 1 = u32 n) : ∀ (m i F : Nat) (a : Int64), i + m = n → m < F → ff_rw_mixedInto_30_f F k a (u32 i) w = some (.long (mixL (w.1 (k + 1)) i m a), w) := by
  have h60 := hR.2.2.2.2
  intro m
  induction m with
  | zero =>
    intro i F a him hF
    obtain ⟨F, rfl⟩ : ∃ G, F = G + 1 := ⟨F - 1, by omega⟩
    rw [ff_rw_mixedInto_30_f]
    unfold ff_rw_mixedInto_30_b
    simp (disch := omega) only [u32_lit, sm_let_eq, sm_bind_some, sm_cI_some, sm_cV_some, sm_cL_some, sm_rd_u, sm_wr_u, u32_add, u32_mul, u32_sub, u32_le, u32_lt, u32_eq, u32_eq_neg, u32_neg_eq, u32_neg_neg, u32_le_neg, u32_neg_lt, u32_lt_neg, u32_neg_le, u10, u01, u3n0, u1n0, u4n0, n9_lt, n1_lt, n9_neg, n1_neg, if_true, if_false, if_pos, if_neg, ne_eq, not_true_eq_false, not_false_eq_true, hR.gI, hw, mixL]
  | succ m ih =>
    intro i F a him hF
    obtain ⟨F, rfl⟩ : ∃ G, F = G + 1 := ⟨F - 1, by omega⟩
    rw [ff_rw_mixedInto_30_f]
    unfold ff_rw_mixedInto_30_b
    have hi : i < most := by omega
    simp (disch := omega) only [u32_lit, sm_let_eq, sm_bind_some, sm_cI_some, sm_cV_some, sm_cL_some, sm_rd_u, sm_wr_u, u32_add, u32_mul, u32_sub, u32_le, u32_lt, u32_eq, u32_eq_neg, u32_neg_eq, u32_neg_neg, u32_le_neg, u32_neg_lt, u32_lt_neg, u32_neg_le, u10, u01, u3n0, u1n0, u4n0, n9_lt, n1_lt, n9_neg, n1_neg, if_true, if_false, if_pos, if_neg, ne_eq, not_true_eq_false, not_false_eq_true, hR.gI, hw, hR.fk, hR.rds hi, mixL]
    rw [ih (i + 1) F _ (by omega) (by omega)]
theorem sub1_add (x : Int64) : x - 1 = x + (-u32 1).toInt64 := by
  rw [Int64.sub_eq_add_neg]
  rfl
/-- the reference's size of a row and its places -/
def mixR (z : Int32) (f : Nat → Int32) (h : Int64) : Int64 := mixL f 0 z.toInt.toNat (31 * h + z.toInt64)
theorem rw_mixed_row {r : Nat} {w : sm_Mem} (hr : r < 6) (h : RRow w r) (a : Int64) : ff_rw_mixedInto (2 + 2 * r) a w = some (.long (mixR (w.1 67 r) (fun j => w.1 68 (40 * r + j)) a), w) := by
  have hR := isRow_row hr
  unfold ff_rw_mixedInto mixR
  rcases h.cases with ⟨b1, b2⟩ | ⟨n, b0, b1, b2, b3⟩
  · simp (disch := omega) only [u32_lit, hR.rc, rw_isMissing_none hR b1, sm_cI_some, u10, if_false]
    rw [b2, sub1_add]
    rfl
  · simp (disch := omega) only [u32_lit, hR.rc, rw_isMissing_some hR (show n < 2147483648 by omega) b1, sm_cI_some, if_true, hR.gI, sm_bind_some, b1]
    unfold ff_rw_mixedInto_30
    rw [sm_N_eq, rw_mix30 hR b0 b1 n 0 1000000 _ (by omega) (by omega), b2, u32_toInt (by omega), Int.toNat_natCast]
    rw [mixL_congr (g := fun j => w.1 68 (40 * r + j)) n 0 _ (fun j _ hj => b3 j (by omega))]
theorem rw_mixed_text {r : Nat} {w : sm_Mem} (hr : r < 4) (h : RText w r) (a : Int64) : ff_rw_mixedInto (15 + 2 * r) a w = some (.long (mixR (w.1 69 r) (fun j => w.1 70 (60 * r + j)) a), w) := by
  have hR := isRow_text hr
  unfold ff_rw_mixedInto mixR
  rcases h.cases with ⟨b1, b2⟩ | ⟨n, b0, b1, b2, b3⟩
  · simp (disch := omega) only [u32_lit, hR.rc, rw_isMissing_none hR b1, sm_cI_some, u10, if_false]
    rw [b2, sub1_add]
    rfl
  · simp (disch := omega) only [u32_lit, hR.rc, rw_isMissing_some hR (show n < 2147483648 by omega) b1, sm_cI_some, if_true, hR.gI, sm_bind_some, b1]
    unfold ff_rw_mixedInto_30
    rw [sm_N_eq, rw_mix30 hR b0 b1 n 0 1000000 _ (by omega) (by omega), b2, u32_toInt (by omega), Int.toNat_natCast]
    rw [mixL_congr (g := fun j => w.1 70 (60 * r + j)) n 0 _ (fun j _ hj => b3 j (by omega))]
def mixT (z : Nat → Int32) (g : Nat → Nat → Int32) : Nat → Nat → Int64 → Int64
  | _, 0, h => h
  | r, m + 1, h => mixT z g (r + 1) m (mixR (z r) (g r) h)
theorem ho_dig113 {w : sm_Mem} (h : ∀ r, r < 4 → RText w r) : ∀ (m r F : Nat) (a : Int64), r + m = 4 → m < F → ff_ho_digest_113_f F a (u32 r) w = some (.long (mixT (w.1 69) (fun r j => w.1 70 (60 * r + j)) r m a), w) := by
  intro m
  induction m with
  | zero =>
    intro r F a hm hF
    obtain ⟨F, rfl⟩ : ∃ G, F = G + 1 := ⟨F - 1, by omega⟩
    rw [ff_ho_digest_113_f]
    unfold ff_ho_digest_113_b
    simp (disch := omega) only [u32_lit, sm_let_eq, sm_bind_some, sm_cI_some, sm_cV_some, sm_cL_some, sm_rd_u, sm_wr_u, u32_add, u32_mul, u32_sub, u32_le, u32_lt, u32_eq, u32_eq_neg, u32_neg_eq, u32_neg_neg, u32_le_neg, u32_neg_lt, u32_lt_neg, u32_neg_le, u10, u01, u3n0, u1n0, u4n0, n9_lt, n1_lt, n9_neg, n1_neg, if_true, if_false, if_pos, if_neg, ne_eq, not_true_eq_false, not_false_eq_true, mixT]
  | succ m ih =>
    intro r F a hm hF
    obtain ⟨F, rfl⟩ : ∃ G, F = G + 1 := ⟨F - 1, by omega⟩
    have hr : r < 4 := by omega
    rw [ff_ho_digest_113_f]
    unfold ff_ho_digest_113_b
    simp (disch := omega) only [u32_lit, sm_let_eq, sm_bind_some, sm_cI_some, sm_cV_some, sm_cL_some, sm_rd_u, sm_wr_u, u32_add, u32_mul, u32_sub, u32_le, u32_lt, u32_eq, u32_eq_neg, u32_neg_eq, u32_neg_neg, u32_le_neg, u32_neg_lt, u32_lt_neg, u32_neg_le, u10, u01, u3n0, u1n0, u4n0, n9_lt, n1_lt, n9_neg, n1_neg, if_true, if_false, if_pos, if_neg, ne_eq, not_true_eq_false, not_false_eq_true, rr_text hr, (isRow_text hr).rc, rw_mixed_text hr (h r hr), mixT]
    exact ih (r + 1) F _ (by omega) (by omega)
theorem ho_dig88 {w : sm_Mem} (h : ∀ r, r < 6 → RRow w r) (h2 : ∀ r, r < 4 → RText w r) : ∀ (m r F : Nat) (a : Int64), r + m = 6 → m < F → ff_ho_digest_88_f F a (u32 r) w = some (.long (mixT (w.1 69) (fun r j => w.1 70 (60 * r + j)) 0 4 (mixT (w.1 67) (fun r j => w.1 68 (40 * r + j)) r m a)), w) := by
  intro m
  induction m with
  | zero =>
    intro r F a hm hF
    obtain ⟨F, rfl⟩ : ∃ G, F = G + 1 := ⟨F - 1, by omega⟩
    rw [ff_ho_digest_88_f]
    unfold ff_ho_digest_88_b ff_ho_digest_113
    simp (disch := omega) only [u32_lit, sm_let_eq, sm_bind_some, sm_cI_some, sm_cV_some, sm_cL_some, sm_rd_u, sm_wr_u, u32_add, u32_mul, u32_sub, u32_le, u32_lt, u32_eq, u32_eq_neg, u32_neg_eq, u32_neg_neg, u32_le_neg, u32_neg_lt, u32_lt_neg, u32_neg_le, u10, u01, u3n0, u1n0, u4n0, n9_lt, n1_lt, n9_neg, n1_neg, if_true, if_false, if_pos, if_neg, ne_eq, not_true_eq_false, not_false_eq_true, mixT]
    rw [sm_N_eq]
    exact ho_dig113 h2 4 0 1000000 a (by omega) (by omega)
  | succ m ih =>
    intro r F a hm hF
    obtain ⟨F, rfl⟩ : ∃ G, F = G + 1 := ⟨F - 1, by omega⟩
    have hr : r < 6 := by omega
    rw [ff_ho_digest_88_f]
    unfold ff_ho_digest_88_b
    simp (disch := omega) only [u32_lit, sm_let_eq, sm_bind_some, sm_cI_some, sm_cV_some, sm_cL_some, sm_rd_u, sm_wr_u, u32_add, u32_mul, u32_sub, u32_le, u32_lt, u32_eq, u32_eq_neg, u32_neg_eq, u32_neg_neg, u32_le_neg, u32_neg_lt, u32_lt_neg, u32_neg_le, u10, u01, u3n0, u1n0, u4n0, n9_lt, n1_lt, n9_neg, n1_neg, if_true, if_false, if_pos, if_neg, ne_eq, not_true_eq_false, not_false_eq_true, rr_row hr, (isRow_row hr).rc, rw_mixed_row hr (h r hr), mixT]
    exact ih (r + 1) F _ (by omega) (by omega)
theorem ho_dig42 {w : sm_Mem} {B : HBase} (h : ∀ r, r < 6 → RRow w r) (h2 : ∀ r, r < 4 → RText w r) (h3 : ∀ k, k < 3 → RKept w B k) : ∀ (m k F : Nat) (a : Int64), k + m = 3 → m < F → ff_ho_digest_42_f F a (u32 k) w = some (.long (mixT (w.1 69) (fun r j => w.1 70 (60 * r + j)) 0 4 (mixT (w.1 67) (fun r j => w.1 68 (40 * r + j)) 0 6 (mixL (fun k => w.1 63 (1272 * (k + 1))) k m a))), w) := by
  intro m
  induction m with
  | zero =>
    intro k F a hm hF
    obtain ⟨F, rfl⟩ : ∃ G, F = G + 1 := ⟨F - 1, by omega⟩
    rw [ff_ho_digest_42_f]
    unfold ff_ho_digest_42_b ff_ho_digest_88
    simp (disch := omega) only [u32_lit, sm_let_eq, sm_bind_some, sm_cI_some, sm_cV_some, sm_cL_some, sm_rd_u, sm_wr_u, u32_add, u32_mul, u32_sub, u32_le, u32_lt, u32_eq, u32_eq_neg, u32_neg_eq, u32_neg_neg, u32_le_neg, u32_neg_lt, u32_lt_neg, u32_neg_le, u10, u01, u3n0, u1n0, u4n0, n9_lt, n1_lt, n9_neg, n1_neg, if_true, if_false, if_pos, if_neg, ne_eq, not_true_eq_false, not_false_eq_true, mixL]
    rw [sm_N_eq]
    exact ho_dig88 h h2 6 0 1000000 a (by omega) (by omega)
  | succ m ih =>
    intro k F a hm hF
    obtain ⟨F, rfl⟩ : ∃ G, F = G + 1 := ⟨F - 1, by omega⟩
    have hk : k < 3 := by omega
    have hD := isDeeds_kept hk
    have ih := fun a => ih (k + 1) F a (by omega) (by omega)
    rw [ff_ho_digest_42_f]
    unfold ff_ho_digest_42_b ff_ho_digest_77 ff_de_isMissing
    rcases kept_there (h3 k hk) with ⟨b1, b2, b3⟩ | ⟨n, b0, b1, b2, b3⟩
    · simp (disch := omega) only [u32_lit, sm_bind_some, u32_le, if_neg, rr_kept hk, hD.rc, hD.gI, b1, n9_lt, if_false, sm_cI_some, u10, u32_add, mixL, b2]
      exact ih _
    · simp (disch := omega) only [u32_lit, sm_bind_some, u32_le, if_neg, rr_kept hk, hD.rc, hD.gI, b1, Nat.zero_le, if_true, sm_cI_some, u32_add, mixL, b2]
      exact ih _
def digV (w : sm_Mem) (B : HBase) (ds : List Deed) (a : Int64) : Int64 := mixT (w.1 69) (fun r j => w.1 70 (60 * r + j)) 0 4 (mixT (w.1 67) (fun r j => w.1 68 (40 * r + j)) 0 6 (mixL (fun k => w.1 63 (1272 * (k + 1))) 0 3 (mixL (factN B (playV B ds).1) 0 (6 * hN (playV B ds).1) (mixO (ordAt (hO (playV B ds).1)) 0 (hO (playV B ds).1).length a))))
theorem ho_dig6 {B : HBase} {ds : List Deed} {w : sm_Mem} (hc : RC w) (hh : RHs w B ds) : ∀ (m x F : Nat) (a : Int64), x + m = 11 → m < F → ff_ho_digest_6_f F a (u32 x) w = some (.long (digV w B ds (mixL (countV w B ds) x m a)), w) := by
  obtain ⟨hok, hn, n1, n2, n6⟩ := hh.n
  obtain ⟨h1, h2, h3, h4, h5, h6, h7, h8, h9⟩ := id hh
  intro m
  induction m with
  | zero =>
    intro x F a hm hF
    obtain ⟨F, rfl⟩ : ∃ G, F = G + 1 := ⟨F - 1, by omega⟩
    rw [ff_ho_digest_6_f]
    unfold ff_ho_digest_6_b ff_ho_digest_42
    simp (disch := omega) only [u32_lit, sm_let_eq, sm_bind_some, sm_cI_some, sm_cV_some, sm_cL_some, sm_rd_u, sm_wr_u, u32_add, u32_mul, u32_sub, u32_le, u32_lt, u32_eq, u32_eq_neg, u32_neg_eq, u32_neg_neg, u32_le_neg, u32_neg_lt, u32_lt_neg, u32_neg_le, u10, u01, u3n0, u1n0, u4n0, n9_lt, n1_lt, n9_neg, n1_neg, if_true, if_false, if_pos, if_neg, ne_eq, not_true_eq_false, not_false_eq_true, hs_mixedInto h6.1 hok h2 hn, mixL]
    rw [sm_N_eq]
    exact ho_dig42 hc.1 hc.2.1 h9 3 0 1000000 _ (by omega) (by omega)
  | succ m ih =>
    intro x F a hm hF
    obtain ⟨F, rfl⟩ : ∃ G, F = G + 1 := ⟨F - 1, by omega⟩
    rw [ff_ho_digest_6_f]
    unfold ff_ho_digest_6_b
    simp (disch := omega) only [u32_lit, u32_le, if_neg, ho_tally hc hh (show x < 11 by omega), sm_cI_some, u32_add, mixL]
    exact ih (x + 1) F _ (by omega) (by omega)
/-! the reference -/
theorem le_neg1 {i : Nat} (hi : i < 2147483648) : (-u32 1 ≤ u32 i) = True := u32_neg_le hi (by decide) (by decide)
theorem mo_dig246 {w : sm_Mem} {r : Nat} (hr : r < 4) (h : RText w r) (self224 : Int64 → Int32 → sm_Mem → sm_R) : ∀ (m i F : Nat) (a : Int64), i + m = (w.1 69 r).toInt.toNat → m < F → ff_mo_digest_246_f self224 F a (u32 r) (u32 i) w = self224 (mixL (fun j => w.1 70 (60 * r + j)) i m a) (u32 (r + 1)) w := by
  intro m
  induction m with
  | zero =>
    intro i F a him hF
    obtain ⟨F, rfl⟩ : ∃ G, F = G + 1 := ⟨F - 1, by omega⟩
    rw [ff_mo_digest_246_f]
    unfold ff_mo_digest_246_b
    rcases h.cases with ⟨b1, b2⟩ | ⟨n, b0, b1, b2, b3⟩
    · have hi0 : i = 0 := by rw [b2] at him; have : (-u32 1).toInt.toNat = 0 := rfl; omega
      subst hi0
      simp (disch := omega) only [u32_lit, sm_rd_u, sm_bind_some, b2, le_neg1, if_true, u32_add, mixL]
    · rw [b2, u32_toInt (by omega), Int.toNat_natCast] at him
      simp (disch := omega) only [u32_lit, sm_rd_u, sm_bind_some, b2, u32_le, if_pos, u32_add, mixL]
  | succ m ih =>
    intro i F a him hF
    obtain ⟨F, rfl⟩ : ∃ G, F = G + 1 := ⟨F - 1, by omega⟩
    have ih := fun a => ih (i + 1) F a (by omega) (by omega)
    rw [ff_mo_digest_246_f]
    unfold ff_mo_digest_246_b
    rcases h.cases with ⟨b1, b2⟩ | ⟨n, b0, b1, b2, b3⟩
    · rw [b2] at him
      have : (-u32 1).toInt.toNat = 0 := rfl
      omega
    · rw [b2, u32_toInt (by omega), Int.toNat_natCast] at him
      simp (disch := omega) only [u32_lit, sm_rd_u, sm_bind_some, b2, u32_le, if_neg, u32_mul, u32_add, mixL]
      exact ih _
theorem mo_dig179 {w : sm_Mem} {r : Nat} (hr : r < 6) (h : RRow w r) (self156 : Int64 → Int32 → sm_Mem → sm_R) : ∀ (m i F : Nat) (a : Int64), i + m = (w.1 67 r).toInt.toNat → m < F → ff_mo_digest_179_f self156 F a (u32 r) (u32 i) w = self156 (mixL (fun j => w.1 68 (40 * r + j)) i m a) (u32 (r + 1)) w := by
  intro m
  induction m with
  | zero =>
    intro i F a him hF
    obtain ⟨F, rfl⟩ : ∃ G, F = G + 1 := ⟨F - 1, by omega⟩
    rw [ff_mo_digest_179_f]
    unfold ff_mo_digest_179_b
    rcases h.cases with ⟨b1, b2⟩ | ⟨n, b0, b1, b2, b3⟩
    · have hi0 : i = 0 := by rw [b2] at him; have : (-u32 1).toInt.toNat = 0 := rfl; omega
      subst hi0
      simp (disch := omega) only [u32_lit, sm_rd_u, sm_bind_some, b2, le_neg1, if_true, u32_add, mixL]
    · rw [b2, u32_toInt (by omega), Int.toNat_natCast] at him
      simp (disch := omega) only [u32_lit, sm_rd_u, sm_bind_some, b2, u32_le, if_pos, u32_add, mixL]
  | succ m ih =>
    intro i F a him hF
    obtain ⟨F, rfl⟩ : ∃ G, F = G + 1 := ⟨F - 1, by omega⟩
    have ih := fun a => ih (i + 1) F a (by omega) (by omega)
    rw [ff_mo_digest_179_f]
    unfold ff_mo_digest_179_b
    rcases h.cases with ⟨b1, b2⟩ | ⟨n, b0, b1, b2, b3⟩
    · rw [b2] at him
      have : (-u32 1).toInt.toNat = 0 := rfl
      omega
    · rw [b2, u32_toInt (by omega), Int.toNat_natCast] at him
      simp (disch := omega) only [u32_lit, sm_rd_u, sm_bind_some, b2, u32_le, if_neg, u32_mul, u32_add, mixL]
      exact ih _
theorem size_le {w : sm_Mem} {r : Nat} (h : RRow w r) : (w.1 67 r).toInt.toNat ≤ 60 := by
  rcases h.cases with ⟨b1, b2⟩ | ⟨n, b0, b1, b2, b3⟩
  · rw [b2]; decide
  · rw [b2, u32_toInt (by omega)]; omega
theorem length_le {w : sm_Mem} {r : Nat} (h : RText w r) : (w.1 69 r).toInt.toNat ≤ 60 := by
  rcases h.cases with ⟨b1, b2⟩ | ⟨n, b0, b1, b2, b3⟩
  · rw [b2]; decide
  · rw [b2, u32_toInt (by omega)]; omega
theorem mo_dig224 {w : sm_Mem} (h : ∀ r, r < 4 → RText w r) : ∀ (m r F : Nat) (a : Int64), r + m = 4 → m < F → ff_mo_digest_224_f F a (u32 r) w = some (.long (mixT (w.1 69) (fun r j => w.1 70 (60 * r + j)) r m a), w) := by
  intro m
  induction m with
  | zero =>
    intro r F a hm hF
    obtain ⟨F, rfl⟩ : ∃ G, F = G + 1 := ⟨F - 1, by omega⟩
    rw [ff_mo_digest_224_f]
    unfold ff_mo_digest_224_b
    simp (disch := omega) only [u32_lit, sm_let_eq, sm_bind_some, sm_cI_some, sm_cV_some, sm_cL_some, sm_rd_u, sm_wr_u, u32_add, u32_mul, u32_sub, u32_le, u32_lt, u32_eq, u32_eq_neg, u32_neg_eq, u32_neg_neg, u32_le_neg, u32_neg_lt, u32_lt_neg, u32_neg_le, u10, u01, u3n0, u1n0, u4n0, n9_lt, n1_lt, n9_neg, n1_neg, if_true, if_false, if_pos, if_neg, ne_eq, not_true_eq_false, not_false_eq_true, mixT]
  | succ m ih =>
    intro r F a hm hF
    obtain ⟨F, rfl⟩ : ∃ G, F = G + 1 := ⟨F - 1, by omega⟩
    have hr : r < 4 := by omega
    have hl := length_le (h r hr)
    rw [ff_mo_digest_224_f]
    unfold ff_mo_digest_224_b ff_mo_digest_246
    simp (disch := omega) only [u32_lit, u32_le, if_neg, sm_rd_u, sm_bind_some, mixT]
    rw [sm_N_eq, mo_dig246 hr (h r hr) _ _ 0 1000000 _ (Nat.zero_add _) (by omega)]
    exact ih (r + 1) F _ (by omega) (by omega)
theorem mo_dig156 {w : sm_Mem} (h : ∀ r, r < 6 → RRow w r) (h2 : ∀ r, r < 4 → RText w r) : ∀ (m r F : Nat) (a : Int64), r + m = 6 → m < F → ff_mo_digest_156_f F a (u32 r) w = some (.long (mixT (w.1 69) (fun r j => w.1 70 (60 * r + j)) 0 4 (mixT (w.1 67) (fun r j => w.1 68 (40 * r + j)) r m a)), w) := by
  intro m
  induction m with
  | zero =>
    intro r F a hm hF
    obtain ⟨F, rfl⟩ : ∃ G, F = G + 1 := ⟨F - 1, by omega⟩
    rw [ff_mo_digest_156_f]
    unfold ff_mo_digest_156_b ff_mo_digest_224
    simp (disch := omega) only [u32_lit, sm_let_eq, sm_bind_some, sm_cI_some, sm_cV_some, sm_cL_some, sm_rd_u, sm_wr_u, u32_add, u32_mul, u32_sub, u32_le, u32_lt, u32_eq, u32_eq_neg, u32_neg_eq, u32_neg_neg, u32_le_neg, u32_neg_lt, u32_lt_neg, u32_neg_le, u10, u01, u3n0, u1n0, u4n0, n9_lt, n1_lt, n9_neg, n1_neg, if_true, if_false, if_pos, if_neg, ne_eq, not_true_eq_false, not_false_eq_true, mixT]
    rw [sm_N_eq]
    exact mo_dig224 h2 4 0 1000000 a (by omega) (by omega)
  | succ m ih =>
    intro r F a hm hF
    obtain ⟨F, rfl⟩ : ∃ G, F = G + 1 := ⟨F - 1, by omega⟩
    have hr : r < 6 := by omega
    have hl := size_le (h r hr)
    rw [ff_mo_digest_156_f]
    unfold ff_mo_digest_156_b ff_mo_digest_179
    simp (disch := omega) only [u32_lit, u32_le, if_neg, sm_rd_u, sm_bind_some, mixT]
    rw [sm_N_eq, mo_dig179 hr (h r hr) _ _ 0 1000000 _ (Nat.zero_add _) (by omega)]
    exact ih (r + 1) F _ (by omega) (by omega)
theorem mo_dig123 {w : sm_Mem} (h : ∀ r, r < 6 → RRow w r) (h2 : ∀ r, r < 4 → RText w r) : ∀ (m k F : Nat) (a : Int64), k + m = 3 → m < F → ff_mo_digest_123_f F a (u32 (k + 1)) w = some (.long (mixT (w.1 69) (fun r j => w.1 70 (60 * r + j)) 0 4 (mixT (w.1 67) (fun r j => w.1 68 (40 * r + j)) 0 6 (mixL (fun k => w.1 63 (1272 * (k + 1))) k m a))), w) := by
  intro m
  induction m with
  | zero =>
    intro k F a hm hF
    obtain ⟨F, rfl⟩ : ∃ G, F = G + 1 := ⟨F - 1, by omega⟩
    rw [ff_mo_digest_123_f]
    unfold ff_mo_digest_123_b ff_mo_digest_156
    simp (disch := omega) only [u32_lit, u32_le, if_pos, mixL]
    rw [sm_N_eq]
    exact mo_dig156 h h2 6 0 1000000 a (by omega) (by omega)
  | succ m ih =>
    intro k F a hm hF
    obtain ⟨F, rfl⟩ : ∃ G, F = G + 1 := ⟨F - 1, by omega⟩
    rw [ff_mo_digest_123_f]
    unfold ff_mo_digest_123_b
    simp (disch := omega) only [u32_lit, u32_le, if_neg, u32_mul, u32_add, sm_rd_u, sm_bind_some, Nat.add_zero, mixL]
    exact ih (k + 1) F _ (by omega) (by omega)
theorem mo_dig84 {B : HBase} {ds : List Deed} {w : sm_Mem} (hc : RC w) (hh : RHs w B ds) : ∀ (m k F : Nat) (a : Int64), k + m = 6 * hN (playV B ds).1 → m < F → ff_mo_digest_84_f F a (u32 k) w = some (.long (mixT (w.1 69) (fun r j => w.1 70 (60 * r + j)) 0 4 (mixT (w.1 67) (fun r j => w.1 68 (40 * r + j)) 0 6 (mixL (fun k => w.1 63 (1272 * (k + 1))) 0 3 (mixL (factN B (playV B ds).1) k m a)))), w) := by
  obtain ⟨hok, hn, n1, n2, n6⟩ := hh.n
  obtain ⟨h1, h2, h3, h4, h5, h6, h7, h8, h9⟩ := id hh
  have hz6 : (u32 6 = u32 0) = False := eq_false (by decide)
  intro m
  induction m with
  | zero =>
    intro k F a hm hF
    obtain ⟨F, rfl⟩ : ∃ G, F = G + 1 := ⟨F - 1, by omega⟩
    rw [ff_mo_digest_84_f]
    unfold ff_mo_digest_84_b ff_mo_digest_123
    simp (disch := omega) only [u32_lit, n2, u32_mul, u32_le, if_pos, mixL]
    rw [sm_N_eq]
    exact mo_dig123 hc.1 hc.2.1 3 0 1000000 a (by omega) (by omega)
  | succ m ih =>
    intro k F a hm hF
    obtain ⟨F, rfl⟩ : ∃ G, F = G + 1 := ⟨F - 1, by omega⟩
    have e3 : u32 k - u32 k / u32 6 * u32 6 = u32 (k % 6) := by
      simp (disch := omega) only [u32_div, u32_mul, u32_sub]
      rw [show k - k / 6 * 6 = k % 6 by omega]
    have ht := mo_toldOf (x := k % 6) h8.2.1.1 hok h3 hn (show k / 6 < hN (playV B ds).1 by omega) (by omega)
    rw [ff_mo_digest_84_f]
    unfold ff_mo_digest_84_b
    simp only [u32_lit, n2, hz6, if_false, e3]
    simp (disch := omega) only [u32_mul, u32_le, if_neg, u32_div, ht, sm_cI_some, u32_add, mixL]
    exact ih (k + 1) F _ (by omega) (by omega)
theorem mo_dig33 {B : HBase} {ds : List Deed} {w : sm_Mem} (hc : RC w) (hh : RHs w B ds) : ∀ (m k F : Nat) (a : Int64), k + m = (hO (playV B ds).1).length → m < F → ff_mo_digest_33_f F a (u32 k) w = some (.long (mixT (w.1 69) (fun r j => w.1 70 (60 * r + j)) 0 4 (mixT (w.1 67) (fun r j => w.1 68 (40 * r + j)) 0 6 (mixL (fun k => w.1 63 (1272 * (k + 1))) 0 3 (mixL (factN B (playV B ds).1) 0 (6 * hN (playV B ds).1) (mixO (ordAt (hO (playV B ds).1)) k m a))))), w) := by
  obtain ⟨hok, hn, n1, n2, n6⟩ := hh.n
  obtain ⟨h1, h2, h3, h4, h5, h6, h7, h8, h9⟩ := id hh
  have l8 := hok.2.2.2.1
  have m2 := h8.2.1.1.2.2.2.1
  rw [Nat.zero_add] at m2
  intro m
  induction m with
  | zero =>
    intro k F a hm hF
    obtain ⟨F, rfl⟩ : ∃ G, F = G + 1 := ⟨F - 1, by omega⟩
    rw [ff_mo_digest_33_f]
    unfold ff_mo_digest_33_b ff_mo_digest_84
    simp (disch := omega) only [u32_lit, sm_rd_u, sm_bind_some, m2, u32_le, if_pos, mixO]
    rw [sm_N_eq]
    exact mo_dig84 hc hh (6 * hN (playV B ds).1) 0 1000000 a (by omega) (by omega)
  | succ m ih =>
    intro k F a hm hF
    obtain ⟨F, rfl⟩ : ∃ G, F = G + 1 := ⟨F - 1, by omega⟩
    obtain ⟨c1, c2⟩ := ordM_at _ k (show k < (hO (playV B ds).1).length by omega) h8.2.1.1.2.2.2.2
    rw [Nat.zero_add] at c1 c2
    rw [ff_mo_digest_33_f]
    unfold ff_mo_digest_33_b
    simp (disch := omega) only [u32_lit, sm_rd_u, sm_bind_some, m2, u32_le, if_neg, u32_add, c1, c2, mixO]
    exact ih (k + 1) F _ (by omega) (by omega)
theorem mo_dig6 {B : HBase} {ds : List Deed} {w : sm_Mem} (hc : RC w) (hh : RHs w B ds) : ∀ (m x F : Nat) (a : Int64), x + m = 11 → m < F → ff_mo_digest_6_f F a (u32 x) w = some (.long (digV w B ds (mixL (countV w B ds) x m a)), w) := by
  have l8 := hh.n.1.2.2.2.1
  intro m
  induction m with
  | zero =>
    intro x F a hm hF
    obtain ⟨F, rfl⟩ : ∃ G, F = G + 1 := ⟨F - 1, by omega⟩
    rw [ff_mo_digest_6_f]
    unfold ff_mo_digest_6_b ff_mo_digest_33
    simp (disch := omega) only [u32_lit, u32_le, if_pos, mixL]
    rw [sm_N_eq]
    exact mo_dig33 hc hh _ 0 1000000 _ (by omega) (by omega)
  | succ m ih =>
    intro x F a hm hF
    obtain ⟨F, rfl⟩ : ∃ G, F = G + 1 := ⟨F - 1, by omega⟩
    rw [ff_mo_digest_6_f]
    unfold ff_mo_digest_6_b
    simp (disch := omega) only [u32_lit, u32_le, if_neg, mo_countOf hc hh (show x < 11 by omega), sm_cI_some, u32_add, mixL]
    exact ih (x + 1) F _ (by omega) (by omega)
theorem op_digest {w : sm_Mem} (h : R w) : Both ff_ho_digest ff_mo_digest R w := by
  obtain ⟨hc, B, ds, hh⟩ := id h
  refine Both_mk (.long (digV w B ds (mixL (countV w B ds) 0 11 17))) w w ?_ ?_ h
  · unfold ff_ho_digest ff_ho_digest_6
    rw [sm_N_eq, u32_lit]
    exact ho_dig6 hc hh 11 0 1000000 17 (by omega) (by omega)
  · unfold ff_mo_digest ff_mo_digest_6
    rw [sm_N_eq, u32_lit]
    exact mo_dig6 hc hh 11 0 1000000 17 (by omega) (by omega)
