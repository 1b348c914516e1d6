/-! pure: digest -/
def mixL (f : Nat → Int32) : Nat → Nat → Int64 → Int64
  | _, 0, h => h
  | i, m + 1, h => mixL f (i + 1) m (31 * h + (f i).toInt64)
def mixO (f : Nat → Nat × Nat) : Nat → Nat → Int64 → Int64
  | _, 0, h => h
  | i, m + 1, h => mixO f (i + 1) m (31 * (31 * h + (u32 (f i).1).toInt64) + (u32 (f i).2).toInt64)
theorem mixL_congr {f g : Nat → Int32} : ∀ (m i : Nat) (h : Int64), (∀ j, i ≤ j → j < i + m → f j = g j) → mixL f i m h = mixL g i m h
  | 0, _, _, _ => rfl
  | m + 1, i, h, hh => by
    rw [mixL, mixL, hh i (Nat.le_refl _) (by omega)]
    exact mixL_congr m (i + 1) _ (fun j h1 h2 => hh j (by omega) (by omega))
theorem mixL_add {f : Nat → Int32} : ∀ (m k i : Nat) (h : Int64), mixL f i (m + k) h = mixL f (i + m) k (mixL f i m h)
  | 0, k, i, h => by rw [Nat.zero_add]; rfl
  | m + 1, k, i, h => by rw [show m + 1 + k = (m + k) + 1 by omega, mixL, mixL_add m k (i + 1) _, mixL, show i + 1 + m = i + (m + 1) by omega]
def factN (B : HBase) (H : HV) (k : Nat) : Int32 := factV B H (k / 6) (k % 6)
/-! the class: speakers, order -/
theorem hs_mix63 {B : HBase} {H : HV} {i : Nat} {w : sm_Mem} (h : CH w H) (hok : HOk H) (hb : CB w B) (hn : hN H = B.1) (hi : i < hN H) (self51 : Int64 → Int32 → sm_Mem → sm_R) : ∀ (m x F : Nat) (a : Int64), x + m = 6 → m < F → ff_hs_mixedInto_63_f self51 F a (u32 i) (u32 x) w = self51 (mixL (factN B H) (6 * i + x) m a) (u32 (i + 1)) w := by
  have h6 := hok.1
  intro m
  induction m with
  | zero =>
    intro x F a hm hF
    obtain ⟨F, rfl⟩ : ∃ G, F = G + 1 := ⟨F - 1, by omega⟩
    rw [ff_hs_mixedInto_63_f]
    unfold ff_hs_mixedInto_63_b
    simp (disch := omega) only [u32_lit, u32_le, if_pos, u32_add, mixL]
  | succ m ih =>
    intro x F a hm hF
    obtain ⟨F, rfl⟩ : ∃ G, F = G + 1 := ⟨F - 1, by omega⟩
    have hx : x < 6 := by omega
    rw [ff_hs_mixedInto_63_f]
    unfold ff_hs_mixedInto_63_b
    simp (disch := omega) only [u32_lit, u32_le, if_neg, hs_factOf h hok hb hn hi hx, sm_cI_some, u32_add, mixL]
    rw [ih (x + 1) F _ (by omega) (by omega)]
    unfold factN
    rw [show (6 * i + x) / 6 = i by omega, show (6 * i + x) % 6 = x by omega, Nat.add_assoc]
theorem hs_mix51 {B : HBase} {H : HV} {w : sm_Mem} (h : CH w H) (hok : HOk H) (hb : CB w B) (hn : hN H = B.1) : ∀ (m i F : Nat) (a : Int64), i + m = hN H → m < F → ff_hs_mixedInto_51_f F a (u32 i) w = some (.long (mixL (factN B H) (6 * i) (6 * m) a), w) := by
  have h6 := hok.1
  intro m
  induction m with
  | zero =>
    intro i F a hm hF
    obtain ⟨F, rfl⟩ : ∃ G, F = G + 1 := ⟨F - 1, by omega⟩
    rw [ff_hs_mixedInto_51_f]
    unfold ff_hs_mixedInto_51_b
    simp (disch := omega) only [u32_lit, h.1, u32_le, if_pos, Nat.mul_zero, mixL]
  | succ m ih =>
    intro i F a hm hF
    obtain ⟨F, rfl⟩ : ∃ G, F = G + 1 := ⟨F - 1, by omega⟩
    rw [ff_hs_mixedInto_51_f]
    unfold ff_hs_mixedInto_51_b ff_hs_mixedInto_63
    simp (disch := omega) only [u32_lit, h.1, u32_le, if_neg]
    rw [sm_N_eq, hs_mix63 h hok hb hn (by omega) _ 6 0 1000000 a (by omega) (by omega), ih (i + 1) F _ (by omega) (by omega), show 6 * (m + 1) = 6 + 6 * m by omega, mixL_add, show 6 * (i + 1) = 6 * i + 6 by omega]
    rfl
theorem hs_mixedInto {B : HBase} {H : HV} {w : sm_Mem} (h : CH w H) (hok : HOk H) (hb : CB w B) (hn : hN H = B.1) (a : Int64) : ff_hs_mixedInto a w = some (.long (mixL (factN B H) 0 (6 * hN H) (mixO (ordAt (hO H)) 0 (hO H).length a)), w) := by
  have h6 := hok.1
  have h8 := hok.2.2.2.1
  have key : ∀ (m k F : Nat) (a : Int64), k + m = (hO H).length → m < F → ff_hs_mixedInto_5_f F a (u32 k) w = some (.long (mixL (factN B H) 0 (6 * hN H) (mixO (ordAt (hO H)) k m a)), w) := by
    intro m
    induction m with
    | zero =>
      intro k F a hm hF
      obtain ⟨F, rfl⟩ : ∃ G, F = G + 1 := ⟨F - 1, by omega⟩
      rw [ff_hs_mixedInto_5_f]
      unfold ff_hs_mixedInto_5_b ff_hs_mixedInto_51
      simp (disch := omega) only [u32_lit, h.2.2.2.1, u32_le, if_pos, mixO]
      rw [sm_N_eq, hs_mix51 h hok hb hn (hN H) 0 1000000 a (by omega) (by omega)]
    | succ m ih =>
      intro k F a hm hF
      obtain ⟨F, rfl⟩ : ∃ G, F = G + 1 := ⟨F - 1, by omega⟩
      have hk : k < (hO H).length := by omega
      obtain ⟨c1, c2⟩ := ordC_at _ k hk h.2.2.2.2
      rw [ff_hs_mixedInto_5_f]
      unfold ff_hs_mixedInto_5_b
      simp (disch := omega) only [u32_lit, h.2.2.2.1, u32_le, if_neg, sm_rd_u, sm_bind_some, c1, c2, u32_add, mixO]
      exact ih (k + 1) F _ (by omega) (by omega)
  unfold ff_hs_mixedInto ff_hs_mixedInto_5
  rw [sm_N_eq, u32_lit]
  exact key _ 0 1000000 a (by omega) (by omega)
/-! a row -/
theorem rw_mix30 {k most n : Nat} {w : sm_Mem} (hR : isRow k most) (hn : n ≤ most) (hw : w.1 k 1 = u32 n) : ∀ (m i F : Nat) (a : Int64), i + m = n → m < F → ff_rw_mixedInto_30_f F k a (u32 i) w = some (.long (mixL (w.1 (k + 1)) i m a), w) := by
  have h60 := hR.2.2.2.2
  intro m
  induction m with
  | zero =>
    intro i F a him hF
    obtain ⟨F, rfl⟩ : ∃ G, F = G + 1 := ⟨F - 1, by omega⟩
    rw [ff_rw_mixedInto_30_f]
    unfold ff_rw_mixedInto_30_b
    simp (disch := omega) only [u32_lit, sm_let_eq, sm_bind_some, sm_cI_some, sm_cV_some, sm_cL_some, sm_rd_u, sm_wr_u, u32_add, u32_mul, u32_sub, u32_le, u32_lt, u32_eq, u32_eq_neg, u32_neg_eq, u32_neg_neg, u32_le_neg, u32_neg_lt, u32_lt_neg, u32_neg_le, u10, u01, u3n0, u1n0, u4n0, n9_lt, n1_lt, n9_neg, n1_neg, if_true, if_false, if_pos, if_neg, ne_eq, not_true_eq_false, not_false_eq_true, hR.gI, hw, mixL]
  | succ m ih =>
    intro i F a him hF
    obtain ⟨F, rfl⟩ : ∃ G, F = G + 1 := ⟨F - 1, by omega⟩
    rw [ff_rw_mixedInto_30_f]
    unfold ff_rw_mixedInto_30_b
    have hi : i < most := by omega
    simp (disch := omega) only [u32_lit, sm_let_eq, sm_bind_some, sm_cI_some, sm_cV_some, sm_cL_some, sm_rd_u, sm_wr_u, u32_add, u32_mul, u32_sub, u32_le, u32_lt, u32_eq, u32_eq_neg, u32_neg_eq, u32_neg_neg, u32_le_neg, u32_neg_lt, u32_lt_neg, u32_neg_le, u10, u01, u3n0, u1n0, u4n0, n9_lt, n1_lt, n9_neg, n1_neg, if_true, if_false, if_pos, if_neg, ne_eq, not_true_eq_false, not_false_eq_true, hR.gI, hw, hR.fk, hR.rds hi, mixL]
    rw [ih (i + 1) F _ (by omega) (by omega)]
theorem sub1_add (x : Int64) : x - 1 = x + (-u32 1).toInt64 := by
  rw [Int64.sub_eq_add_neg]
  rfl
/-- the reference's size of a row and its places -/
def mixR (z : Int32) (f : Nat → Int32) (h : Int64) : Int64 := mixL f 0 z.toInt.toNat (31 * h + z.toInt64)
def mixT (z : Nat → Int32) (g : Nat → Nat → Int32) : Nat → Nat → Int64 → Int64
  | _, 0, h => h
  | r, m + 1, h => mixT z g (r + 1) m (mixR (z r) (g r) h)
/-! the reference -/
theorem le_neg1 {i : Nat} (hi : i < 2147483648) : (-u32 1 ≤ u32 i) = True := u32_neg_le hi (by decide) (by decide)
